/-! ===== ways ===== -/
def rfJ (τ τ' : QS) : Prop := (∀ j, j < 63 → gM τ' j = gM τ j) ∧ ∀ j, j ≤ 10 → gI τ' j = gI τ j
theorem pJ_back {τ : QS} {u w : Int64} (h0 : gJ τ 0 = u) (h1 : gJ τ 1 = w) (a b : Int64) : pJ (pJ (pJ (pJ τ 0 a) 1 b) 0 u) 1 w = τ := by
  have : va_up (va_up (va_up (va_up τ.2.1 0 a) 1 b) 0 u) 1 w = τ.2.1 := by
    funext j
    unfold va_up
    by_cases e1 : j = 1
    · rw [if_pos e1, e1, ← h1]; rfl
    · rw [if_neg e1]
      by_cases e0 : j = 0
      · rw [if_pos e0, e0, ← h0]; rfl
      · rw [if_neg e0, if_neg e1, if_neg e0]
  show (τ.1, va_up (va_up (va_up (va_up τ.2.1 0 a) 1 b) 0 u) 1 w, τ.2.2) = τ
  rw [this]
/-- both have searched, and tell a fraction -/
theorem inv_frac {σ τ σ' τ' : QS} (h : Inv σ τ) (hc : srC σ σ') (hr : rfJ τ τ') {u w : Int64} (g0 : gJ τ' 0 = u) (g1 : gJ τ' 1 = w) (gk : ∀ k, 2 ≤ k → gJ τ' k = gJ τ k) : Inv (pJ (pJ σ' 0 u) 1 w) τ' := by
  have r : rfT τ (pJ (pJ τ' 0 (gJ τ 0)) 1 (gJ τ 1)) := by
    refine ⟨hr.1, hr.2, fun k => ?_⟩
    rw [gJ_pJ]
    by_cases e1 : k = 1
    · rw [if_pos e1, e1]
    · rw [if_neg e1, gJ_pJ]
      by_cases e0 : k = 0
      · rw [if_pos e0, e0]
      · rw [if_neg e0]
        exact gk k (by omega)
  have := frac_ok (inv_srch h hc r) u w
  rw [pJ_back g0 g1] at this
  exact this
theorem gwP_c (wt c0 M : Nat) (P : PS) (x : WX) : (gwP wt c0 M P x).1 ≤ x.1 + 1 := by
  unfold gwP
  split
  · exact Nat.le_refl _
  · exact Nat.le_succ _
theorem ways_ref {σ τ : QS} {ns nc s p c wt : Nat} {a : Int} (hn : nowP σ τ ns nc s p a c) (h0 : ns ≠ 0) (hw : wt ≤ 6) {X : WX} (hX : X = tfP (hOf τ ns) (alR τ) s (gwP wt c (nc - s)) (nc - s) 0 (P0 p a c) (0, 63)) : ∃ τ', fX5_ways_50 (nI wt) τ = some (1, pI τ' 2 (if X.1 = 0 then 0 else nI X.2)) ∧ rfJ τ τ' ∧ gJ τ' 0 = lN X.1 ∧ gJ τ' 1 = lN 1 ∧ (∀ k, 2 ≤ k → gJ τ' k = gJ τ k) ∧ X.1 ≤ 117649 := by
  obtain ⟨hh, hs, hp, ⟨a1, a2⟩, hc, ⟨-, e1⟩, ⟨-, e2⟩, ⟨-, e4⟩, ⟨-, e6⟩, -⟩ := hn
  have hns := hh.1
  have hnc := hh.2.1
  have I : itP (X := WX) (S := Int32 × QS) (β := Int32 × QS) 9 σ ns nc (hOf τ ns) (alR τ) s (nc - s) (fun x τ => (nI x.2, τ)) (fun r5 x τ => ck_ (inb (gI τ 11) 7) ((if (gM τ 65 ((gI τ 11).toNatClampNeg)) < (nI wt) then r5 ((nI x.2), τ) else lt_ (pJ τ 0 ((gJ τ 0) + (1 : Int64))) (fun (S11 : QS) => ck_ (inb (gI S11 11) 7) (lt_ ((nI x.2) &&& ((gM S11 66 ((gI S11 11).toNatClampNeg)) &&& ((gM S11 51 6) ^^^ (-1 : Int32)))) (fun (v13 : Int32) => r5 (v13, S11))))))) (fun x τ => lt_ (fun (v8 : Int32) => lt_ (pI τ 2 v8) (fun (S9 : QS) => some ((1 : Int32), S9))) (fun (j7 : Int32 → Option (Int32 × QS)) => (if (lg_cmp (gJ τ 0) (0 : Int64)) = 0 then j7 (0 : Int32) else j7 (nI x.2)))) (fun (r5 : Int32 × QS → Option (Int32 × QS)) (a4 : Int32 × QS) => Option.bind (fX5_nextPlan_50 a4.2) (fun (q6 : Int32 × QS) => (if q6.1 = 0 then lt_ (fun (v8 : Int32) => lt_ (pI q6.2 2 v8) (fun (S9 : QS) => some ((1 : Int32), S9))) (fun (j7 : Int32 → Option (Int32 × QS)) => (if (lg_cmp (gJ q6.2 0) (0 : Int64)) = 0 then j7 (0 : Int32) else j7 a4.1)) else ck_ (inb (gI q6.2 11) 7) ((if (gM q6.2 65 ((gI q6.2 11).toNatClampNeg)) < (nI wt) then r5 (a4.1, q6.2) else lt_ (pJ q6.2 0 ((gJ q6.2 0) + (1 : Int64))) (fun (S11 : QS) => ck_ (inb (gI S11 11) 7) (lt_ (a4.1 &&& ((gM S11 66 ((gI S11 11).toNatClampNeg)) &&& ((gM S11 51 6) ^^^ (-1 : Int32)))) (fun (v13 : Int32) => r5 (v13, S11))))))))) (gwP wt c (nc - s)) (fun x τ' => bsP σ τ' ns nc (hOf τ ns) (alR τ) s (nc - s) ∧ rfJ τ τ' ∧ gJ τ' 0 = lN x.1 ∧ gJ τ' 1 = lN 1 ∧ ∀ k, 2 ≤ k → gJ τ' k = gJ τ k) := by
    refine ⟨fun x τ1 τ2 hJ hb => ?_, fun x τ1 hJ => hJ.1, fun x τ1 P hJ ha ho => ?_, fun r x τ1 => rfl⟩
    · obtain ⟨j1, j2, j3, j4, j5⟩ := hJ
      exact ⟨bs_far (τ0 := τ) j1 (fun k hk => hb.1 k (by omega)) hb.2.1, ⟨fun k hk => (hb.1 k (by omega)).trans (j2.1 k hk), fun k hk => (hb.2.1 k).trans (j2.2 k hk)⟩, (hb.2.2 0).trans j3, (hb.2.2 1).trans j4, fun k hk => (hb.2.2 k).trans (j5 k hk)⟩
    · obtain ⟨B, j2, j3, j4, j5⟩ := hJ
      obtain ⟨a63, a64, a65, a66⟩ := ha.2 (nc - s) (Nat.le_refl _)
      obtain ⟨b1, b2, b3, b4, b5⟩ := ho.1 (nc - s) (Nat.le_refl _)
      have c1 : (nI (nc - s)).toNatClampNeg = nc - s := nI_c (by omega)
      have hi2 : inb (gI τ1 11) 7 = true := by rw [B.2.2.2.2.1]; exact inb_n (by omega) (by omega)
      have c11 : (gI τ1 11).toNatClampNeg = nc - s := by rw [B.2.2.2.2.1]; exact c1
      have e51 : gM τ1 51 6 = nI c := by rw [j2.1 51 (by omega)]; exact e6
      by_cases q : wt ≤ (P.2 (nc - s)).2.2.1
      · have eg : gwP wt c (nc - s) P x = (x.1 + 1, x.2 &&& dif (P.2 (nc - s)).2.2.2 c) := by unfold gwP; rw [if_pos q]
        refine ⟨pJ τ1 0 (lN (x.1 + 1)), fun r => ?_, ?_, fun k _ _ => rfl⟩
        · simp only [lt_q]
          rw [ck_t hi2, c11, a65, if_neg (by rw [nI_l2 (by omega) (by omega)]; omega), j3, lN_1]
          show ck_ (inb (gI τ1 11) 7) (r (nI x.2 &&& (gM τ1 66 (gI τ1 11).toNatClampNeg &&& (gM τ1 51 6 ^^^ (-1))), pJ τ1 0 (lN (x.1 + 1)))) = _
          rw [ck_t hi2, c11, a66, e51, dif_e, fa_and, eg]
        · rw [eg]
          refine ⟨bs_far (τ0 := τ) B (fun k hk => rfl) (fun k => rfl), ⟨fun k hk => j2.1 k hk, fun k hk => j2.2 k hk⟩, ?_, ?_, fun k hk => ?_⟩
          · rw [gJ_pJ, if_pos rfl]
          · rw [gJ_pJ, if_neg (by omega)]; exact j4
          · rw [gJ_pJ, if_neg (by omega)]; exact j5 k hk
      · have eg : gwP wt c (nc - s) P x = x := by unfold gwP; rw [if_neg q]
        refine ⟨τ1, fun r => ?_, by rw [eg]; exact ⟨B, j2, j3, j4, j5⟩, fun k _ _ => rfl⟩
        simp only [lt_q]
        rw [ck_t hi2, c11, a65, if_pos (by rw [nI_l2 (by omega) (by omega)]; omega), eg]
  have J0 := jb_0 (σ := σ) (τ := pJ (pJ τ 0 0) 1 1) (ns := ns) (nc := nc) (s := s) hh e1 hs (nI p)
  have eh : hOf (pJ (pJ τ 0 0) 1 1) ns = hOf τ ns := rfl
  have ea : alR (pJ (pJ τ 0 0) 1 1) = alR τ := rfl
  rw [eh, ea] at J0
  obtain ⟨τ', g1, g2⟩ := plan_loop (by omega) I rfl hns (by omega) (x := (0, 63)) (τ := bpT (pJ (pJ τ 0 0) 1 1) (nI p)) (P := P0 p a c) ⟨J0.1, ⟨fun k hk => J0.2.1 k hk, fun k hk => J0.2.2.1 k hk⟩, J0.2.2.2 0, J0.2.2.2 1, fun k hk => (J0.2.2.2 k).trans (by rw [gJ_pJ, if_neg (by omega), gJ_pJ, if_neg (by omega)])⟩ (bp_12 _ _) (bp_at e4 e6) (ok_0 hp a1 a2 hc) (bp_67 _ _)
  rw [← hX] at g1 g2
  have hcnt : X.1 ≤ 117649 := by
    have t := tf_count (h := hOf τ ns) (al := alR τ) (s0 := s) (G := gwP wt c (nc - s)) (fun x : WX => x.1) hns (gwP_c wt c (nc - s)) (nc - s) 0 (P0 p a c) (0, 63)
    rw [← hX] at t
    have p7 := p7_le (m := nc - s) (by omega)
    have t' : X.1 ≤ 0 + 7 ^ (nc - s) := t
    omega
  refine ⟨τ', ?_, g1.2.1, g1.2.2.1, g1.2.2.2.1, g1.2.2.2.2, hcnt⟩
  unfold fX5_ways_50
  have e : fX5_in (nI wt).toInt64 (0 : Int64) (6 : Int64) = if nI wt < 0 then 0 else if 6 < nI wt then 0 else 1 := in_int (nI wt) 0 6
  rw [e, if_neg (show ¬ nI wt < 0 from nneg (by omega)), if_neg (show ¬ (6 : Int32) < nI wt from by show ¬ nI 6 < nI wt; rw [nI_l2 (by omega) (by omega)]; omega), if_neg one_ne, hh.2.2.2.2.1, if_neg (by rw [nI0_e (by omega)]; exact h0), lt_q, lt_q]
  have e51 : gM (pJ (pJ τ 0 0) 1 1) 51 2 = nI p := e2
  rw [e51, begin_e, Option.bind_some]
  refine Eq.trans g2 ?_
  simp only [lt_q]
  have z := lN0_e (n := X.1) (by omega)
  rw [g1.2.2.1]
  by_cases q : X.1 = 0
  · rw [if_pos (z.mpr q), if_pos q]
  · rw [if_neg (fun w => q (z.mp w)), if_neg q]
theorem tf_one {a : Nat} (ha : a ≤ 1000000) (σ : QS) : fX4_tellFraction_0 (lN a) (1 : Int64) σ = some (pJ (pJ σ 0 (lN a)) 1 (lN 1)) := by
  have g := gcdC_e 20 a 1 0 (by decide) (by omega) (by omega) (by omega) FV (Nat.lt_of_lt_of_le (by omega) FV_ge)
  rw [Nat.gcd_one_right] at g
  have g' : lp_ (fun (r2 : Int64 × Int64 × Int32 → Option (Int64)) (a1 : Int64 × Int64 × Int32) => (if (100 : Int32) ≤ a1.2.2 then some a1.1 else (if (lg_cmp a1.2.1 (0 : Int64)) = 0 then some a1.1 else ck_ (ne0L a1.2.1) (lt_ (a1.1 - a1.1 / a1.2.1 * a1.2.1) (fun (v4 : Int64) => r2 (a1.2.1, v4, (a1.2.2 + (1 : Int32)))))))) FV (lN a, (1 : Int64), (0 : Int32)) = some (lN 1) := g
  have ab : fJ9_abs_067f4 (lN a) = lN a := by
    unfold fJ9_abs_067f4
    have cl := cmp_lt (lN a) 0
    have nn : ¬ lN a < 0 := by show ¬ lN a < lN 0; rw [lN_lt (by omega) (by omega)]; omega
    have := fun w => nn (cl.mp w)
    rw [if_pos (show 0 ≤ lg_cmp (lN a) (0 : Int64) from by
      have w : ¬ lg_cmp (lN a) 0 < 0 := this
      rw [fa_lt] at w; rw [fa_le]; omega)]
  unfold fX4_tellFraction_0 fX4_greatestDivisor
  have cg := (cmp_gt (lN 1) 0).mpr (by show lN 0 < lN 1; rw [lN_lt (by omega) (by omega)]; omega)
  rw [ab, g', Option.bind_some, if_neg (by rw [fa_lt] at cg; rw [fa_le]; omega), ck_t (ne0L_n (by omega) (by omega)), lt_q, ck_t (ne0L_n (by omega) (by omega)), lt_q, pk_lDiv (by omega) (by omega) (by omega), Nat.div_one]
  have : (1 : Int64) / lN 1 = lN 1 := by show lN 1 / lN 1 = _; rw [pk_lDiv (by omega) (by omega) (by omega)]
  rw [this]
theorem ways_cls {σ τ : QS} {ns nc s p c wt : Nat} {a : Int} (hn : nowP σ τ ns nc s p a c) (ht : TabOk σ) (h0 : ns ≠ 0) (hw : wt ≤ 6) {X : WX} (hX : X = tfP (hOf τ ns) (alR τ) s (gwP wt c (nc - s)) (nc - s) 0 (P0 p a c) (0, 63)) (hc9 : X.1 ≤ 117649) : ∃ σ', fX4_ways_0 (nI wt) σ = some (1, pI (pJ (pJ σ' 0 (lN X.1)) 1 (lN 1)) 1 (if X.1 = 0 then 0 else nI X.2)) ∧ srC σ σ' := by
  have hn' := hn
  obtain ⟨hh, hs, hp, ⟨a1, a2⟩, hc, ⟨e13, e1⟩, ⟨e15, e2⟩, ⟨e17, e4⟩, ⟨e14, e6⟩, es⟩ := hn'
  have hns := hh.1
  have hnc := hh.2.1
  have hA : alB (alS (gM τ 53) (gM σ 25) ns) ns (alR τ) := al_al (fun k hk => by rw [es k hk]; rfl)
  let S : QS := pI (pJ (pI (pI σ 19 (nI (alS (gM τ 53) (gM σ 25) ns))) 24 (nI wt)) 2 0) 25 (nI (c ^^^ 4294967295))
  obtain ⟨σ', f1, f2, f3, f4, f5⟩ := seekWays_e (s0 := s) (M := nc - s) (wt := wt) (c0 := c) hh ht hA (by omega) hw (nc - s) DP 0 (P0 p a c) S (0, 63) (by omega) (by show nc - s < 8; omega) (((((srC.rf σ).i (by omega) _).i (by omega) _).j (by omega) _).i (by omega) _) rfl rfl ⟨by show p ≤ 999; omega, by show _ ≤ a; omega, by show a ≤ _; omega, Nat.zero_le _, hc⟩ ⟨rfl, _, rfl, Or.inl ⟨rfl, rfl, rfl⟩⟩
  rw [← hX] at f5
  obtain ⟨r1, e, r2, r3⟩ := f5
  refine ⟨pI σ' 25 (if X.1 = 0 then 0 else nI X.2), ?_, f2.i (by omega) _⟩
  unfold fX4_ways_0
  rw [if_neg (show ¬ nI wt < 0 from nneg (by omega)), if_pos (show nI wt ≤ (6 : Int32) from by show nI wt ≤ nI 6; rw [nI_L (by omega) (by omega)]; omega), hh.2.2.2.1, if_neg (by rw [nI0_e (by omega)]; exact h0)]
  unfold fX2_findWays_7
  simp only [lt_q]
  rw [alC_e hh, Option.bind_some]
  have ex : gI (pJ (pI (pI σ 19 (nI (alS (gM τ 53) (gM σ 25) ns))) 24 (nI wt)) 2 0) 14 ^^^ (-1) = nI (c ^^^ 4294967295) := by
    show gI σ 14 ^^^ (-1) = _
    rw [e14, m1_n, fb_xorI]
  rw [ex]
  have f1' : fX2_seekWays_7 DP (gI S 13) (gI S 14) (gI S 17) (gI S 15) (0 : Int32) S = some σ' := by
    show fX2_seekWays_7 DP (gI σ 13) (gI σ 14) (gI σ 17) (gI σ 15) (0 : Int32) S = some σ'
    rw [e13, e14, e15, e17]
    exact f1
  rw [f1', Option.bind_some, r1]
  have z := lN0_e (n := X.1) (by omega)
  by_cases q : X.1 = 0
  · rw [if_pos (z.mpr q), if_pos q, Option.bind_some]
    show Option.bind (fX4_tellFraction_0 (gJ σ' 2) 1 (pI σ' 25 0)) _ = _
    rw [r1, tf_one (by omega), Option.bind_some]
    rfl
  · have ee : e = X.2 := by
      rcases r3 with w | w
      · exact absurd w.1 q
      · exact w.2.1
    rw [if_neg (fun w => q (z.mp w)), if_neg q, Option.bind_some, r2, ee]
    show Option.bind (fX4_tellFraction_0 (gJ σ' 2) 1 (pI σ' 25 (nI X.2))) _ = _
    rw [r1, tf_one (by omega), Option.bind_some]
    rfl
theorem ways_same {σ τ : QS} (h : Inv σ τ) (x : Int32) : Same (fX4_ways_0 x σ) (fX5_ways_50 x τ) := by
  obtain ⟨ns, nc, s, p, a, c, hn⟩ := h.now
  have hh := hn.1
  have hns := hh.1
  have e : fX5_in x.toInt64 (0 : Int64) (6 : Int64) = if x < 0 then 0 else if 6 < x then 0 else 1 := in_int x 0 6
  by_cases c0 : x < 0
  · unfold fX4_ways_0 fX5_ways_50
    rw [e, if_pos c0, if_pos c0, if_pos rfl]
    exact Same.mk rfl rfl h
  by_cases c6 : x ≤ 6
  · obtain ⟨wt, hw, rfl⟩ := nI_of2 (M := 6) (n := 6) (by decide) c0 c6
    by_cases h0 : ns = 0
    · unfold fX4_ways_0 fX5_ways_50
      rw [e, if_neg c0, if_neg c0, if_pos c6, if_neg (show ¬ (6 : Int32) < nI wt from by rw [fa_lt]; rw [fa_le] at c6; omega), if_neg one_ne, hh.2.2.2.1, hh.2.2.2.2.1, if_pos (by rw [h0]; rfl), if_pos (by rw [h0]; rfl)]
      exact Same.mk rfl rfl h
    · obtain ⟨τ', d1, d2, d3, d4, d5, d6⟩ := ways_ref hn h0 hw rfl
      obtain ⟨σ', c1, c2⟩ := ways_cls hn h.2.2.2.2.2.1 h0 hw rfl d6
      rw [c1, d1]
      exact Same.mk rfl rfl (told_ok (inv_frac h c2 d2 d3 d4 d5) _)
  · unfold fX4_ways_0 fX5_ways_50
    rw [e, if_neg c0, if_neg c0, if_neg c6, if_pos (show (6 : Int32) < x from by rw [fa_lt]; rw [fa_le] at c6; omega), if_pos rfl]
    exact Same.mk rfl rfl h
