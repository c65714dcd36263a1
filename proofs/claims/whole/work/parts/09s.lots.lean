/-! ===== lots ===== -/
def NxL (σ σ' τ' : QS) (s n : Nat) : Prop := Inv σ' τ' ∧ gI σ' 9 = gI σ 9 ∧ gI σ' 8 = gI σ 8 ∧ gI σ' 13 = nI (s + 1) ∧ gI σ' 12 = nI (n + 1)
theorem lot_deed {σ τ : QS} (h : Inv σ τ) {s nc n : Nat} (e8 : gI σ 8 = nI nc) (hnc6 : nc ≤ 6) (e13 : gI σ 13 = nI s) (hs : s < nc) (e12 : gI σ 12 = nI n) (hn4 : n < 40) : ∃ B, B < 64 ∧ fX0_free_6 σ = some (nI B) ∧ fX5_canBits_50 (gM τ 51 6) τ = some (nI B) ∧ (∃ σ' τ', fX0_perform_6 (-9) σ = some σ' ∧ fX5_doCut_50 τ = some τ' ∧ NxL σ σ' τ' s n ∧ gI σ' 18 = gI σ 18) ∧ ∀ i, i < 6 → B.testBit i = true → ∃ σ' τ' b, fX0_perform_6 (nI i) σ = some σ' ∧ fX5_doCall_50 (nI i) τ = some (b, τ') ∧ NxL σ σ' τ' s n ∧ gI σ' 18 = gI σ 18 + b := by
  obtain ⟨ns, nc', pr, n', v, h2, hh, hn, h12, hv, hvo, hpr, hN, r0, rv⟩ := h.see
  have hns := hh.1
  have hnc := hh.2.1
  have ec : nc' = nc := by have a := hh.2.2.2.2.2.1; rw [e8, nI_e (by omega) (by omega)] at a; exact a.symm
  subst ec
  have en : n' = n := by rw [h12, nI_e (by omega) (by omega)] at e12; exact e12
  subst en
  have hvo' := hvo
  obtain ⟨⟨s', s1, s2, s3, s4, k, k1, k2⟩, -, ⟨c, c1, c2⟩, -⟩ := hvo
  have es' : s' = s := by
    have a : gI σ 13 = nI s' := by rw [hN.1, s2]
    rw [e13, nI_e (by omega) (by omega)] at a
    exact a.symm
  subst es'
  have hc6 := pow_le64 hns c1
  have e1 : gM τ 51 1 = nI s' := by rw [← s2, ← rv 0 (by omega)]
  have e14 : gI σ 14 = nI c := by rw [hN.2.2.2.2.2.1, c2]
  have e6 : gM τ 51 6 = nI c := by rw [← c2, ← rv 5 (by omega)]
  have hfr : frS (gM τ 53) (fun i => gM τ 51 (7 + i)) c ns = frS (gM τ 53) (gM σ 25) c ns := frS_cong (fun m hm => by
    rw [hN.2.2.2.2.2.2 m hm, ← rv (6 + m) (by omega)]
    congr 1
    omega)
  refine ⟨frS (gM τ 53) (gM σ 25) c ns, fr_lt hns, freeC_e hh e14, by rw [e6, canB_e hh hc6, hfr], ?_, fun i hi6 hb => ?_⟩
  · have ok : okP (hOf τ ns) nc' v (-9) := Or.inl ⟨rfl, by rw [sOf_e s2 (by omega)]; omega⟩
    obtain ⟨σ', p1, p2⟩ := perform_ok hh hvo' hN h12 hn4 ok
    have dc := doP_cut (hOf τ ns) v
    have key := deed_inv h h2 h12 hn4 (by rw [← hv]; exact ok) p2.1 p2.2.1 (by rw [← hv]; exact p2.2.2.1) p2.2.2.2.1 p2.2.2.2.2.1 p2.2.2.2.2.2
    rw [← hv, dc] at key
    refine ⟨σ', _, p1, doCut_e r0 hn4 rv, ⟨key, p2.2.2.2.1 9 (by omega), p2.2.2.2.1 8 (by omega), ?_, p2.1⟩, ?_⟩
    · rw [p2.2.2.1.1, dc]
      show v 0 + 1 = _
      rw [s2, nI_1]
    · rw [p2.2.2.1.2.2.2.2.1, dc, hN.2.2.2.2.1]
      rfl
  · have hi : i < ns := by
      have b := mkS_bit (fun i => !(c.testBit i) && sitP (gM τ 53 i) (gM σ 25 i)) ns i
      have hb' : (mkS (fun i => !(c.testBit i) && sitP (gM τ 53 i) (gM σ 25 i)) ns).testBit i = true := hb
      rw [hb'] at b
      exact Classical.byContradiction fun w => by
        rw [decide_eq_false w] at b
        exact absurd b (by simp)
    have ca : canP (hOf τ ns) v i = true := by rw [← can_bit hN c2 hc6 hi]; exact hb
    have ok : okP (hOf τ ns) nc' v (nI i) := Or.inr (Or.inl ⟨i, hi, rfl, by rw [sOf_e s2 (by omega)]; omega, ca⟩)
    obtain ⟨σ', p1, p2⟩ := perform_ok hh hvo' hN h12 hn4 ok
    have dc := doP_call (hOf τ ns) (i := i) (by omega) v
    have key := deed_inv h h2 h12 hn4 (by rw [← hv]; exact ok) p2.1 p2.2.1 (by rw [← hv]; exact p2.2.2.1) p2.2.2.2.1 p2.2.2.2.2.1 p2.2.2.2.2.2
    rw [← hv, dc] at key
    refine ⟨σ', _, _, p1, doCall_e (v := v) hh hvo' r0 hn4 rv hi (by rw [sOf_e s2 (by omega)]; omega), ⟨key, p2.2.2.2.1 9 (by omega), p2.2.2.2.1 8 (by omega), ?_, p2.1⟩, ?_⟩
    · rw [p2.2.2.1.1, dc]
      show v 0 + 1 = _
      rw [s2, nI_1]
    · rw [p2.2.2.1.2.2.2.2.1, dc, hN.2.2.2.2.1]
      show (if v 1 < lackP (hOf τ ns) i (sOf v) (v 3) (cOf v) then v 4 else v 4 + 1) = v 4 + (if v 1 < lackP (hOf τ ns) i (sOf v) (v 3) (cOf v) then 0 else 1)
      by_cases z : v 1 < lackP (hOf τ ns) i (sOf v) (v 3) (cOf v)
      · rw [if_pos z, if_pos z, Int32.add_zero]
      · rw [if_neg z, if_neg z]
theorem kth_bit {B : Nat} (hB : B < 64) : ∀ (d i q : Nat), i + d = 6 → q + pop B i < pop B 6 → ∃ j, j < 6 ∧ B.testBit j = true ∧ ∀ f, d < f → lp_ (fun (r4 : Int32 × Int32 → Option (Int32)) (a3 : Int32 × Int32) => (if (6 : Int32) ≤ a3.2 then some (-9 : Int32) else (if (fX4_isIn (nI B) a3.2) = 0 then r4 (a3.1, (a3.2 + (1 : Int32))) else (if a3.1 = 0 then some a3.2 else r4 ((a3.1 + (-1 : Int32)), (a3.2 + (1 : Int32))))))) f (nI q, nI i) = some (nI j) ∧ lp_ (fun (r2 : Int32 × Int32 → Option (Int32)) (a1 : Int32 × Int32) => lt_ (fun (_ : Unit) => (if (fX5_has (nI B) a1.2) = 0 then lt_ (a1.1 - (0 : Int32)) (fun (v4 : Int32) => r2 (v4, (a1.2 + (1 : Int32)))) else lt_ (a1.1 - (1 : Int32)) (fun (v5 : Int32) => r2 (v5, (a1.2 + (1 : Int32)))))) (fun (j3 : Unit → Option (Int32)) => (if (fX5_has (nI B) a1.2) = 0 then j3 () else (if a1.1 ≤ 0 then some a1.2 else j3 ())))) f (nI q, nI i) = some (nI j) := by
  intro d
  induction d with
  | zero =>
    intro i q hi hq
    have : i = 6 := by omega
    subst this
    omega
  | succ d ih =>
    intro i q hi hq
    have q6 : q < 100 := by
      have : ∀ n, pop B n ≤ n := fun n => by
        induction n with
        | zero => exact Nat.le_refl 0
        | succ n ihn => show pop B n + _ ≤ n + 1; split <;> omega
      have := this 6
      omega
    have hs : pop B (i + 1) = pop B i + (if B.testBit i then 1 else 0) := rfl
    have n6 : ¬ (6 : Int32) ≤ nI i := by show ¬ nI 6 ≤ nI i; rw [nI_L (by omega) (by omega)]; omega
    have ub : fX4_isIn (nI B) (nI i) = if B.testBit i then 1 else 0 := isIn_e (by omega) (by omega)
    have uh : fX5_has (nI B) (nI i) = if B.testBit i then 1 else 0 := has_e (by omega) (by omega)
    by_cases e : B.testBit i = true
    · by_cases q0 : q = 0
      · subst q0
        refine ⟨i, by omega, e, fun f hf => ?_⟩
        obtain ⟨f', rfl⟩ : ∃ f', f = f' + 1 := ⟨f - 1, by omega⟩
        constructor
        · simp only [lp_]
          rw [if_neg n6, ub, e, if1, if_neg one_ne, if_pos (show nI 0 = 0 from rfl)]
        · simp only [lp_, lt_q]
          rw [uh, e, if1, if_neg one_ne, if_pos (show nI 0 ≤ (0 : Int32) from by decide)]
      · rw [if_pos e] at hs
        obtain ⟨j, j1, j2, j3⟩ := ih (i + 1) (q - 1) (by omega) (by omega)
        refine ⟨j, j1, j2, fun f hf => ?_⟩
        obtain ⟨f', rfl⟩ : ∃ f', f = f' + 1 := ⟨f - 1, by omega⟩
        obtain ⟨w1, w2⟩ := j3 f' (by omega)
        have nq : ¬ nI q = 0 := fun w => q0 ((nI0_e (by omega)).mp w)
        have nq2 : ¬ nI q ≤ (0 : Int32) := by show ¬ nI q ≤ nI 0; rw [nI_L (by omega) (by omega)]; omega
        have m1 : nI q + (-1 : Int32) = nI (q - 1) := by
          obtain ⟨q', rfl⟩ : ∃ q', q = q' + 1 := ⟨q - 1, by omega⟩
          rw [pk_m1]
          rfl
        have m2 : nI q - (1 : Int32) = nI (q - 1) := by show nI q - nI 1 = _; rw [pk_sub (by omega)]
        constructor
        · rw [← w1]
          show (if (6 : Int32) ≤ nI i then _ else (if fX4_isIn (nI B) (nI i) = 0 then _ else (if nI q = 0 then _ else lp_ _ f' (nI q + (-1 : Int32), nI i + (1 : Int32))))) = _
          rw [if_neg n6, ub, e, if1, if_neg one_ne, if_neg nq, m1, nI_1]
        · rw [← w2]
          simp only [lp_, lt_q]
          rw [uh, e, if1, if_neg one_ne, if_neg nq2, if_neg one_ne, m2, nI_1]
    · have e' : B.testBit i = false := by simpa using e
      rw [if_neg e] at hs
      obtain ⟨j, j1, j2, j3⟩ := ih (i + 1) q (by omega) (by omega)
      refine ⟨j, j1, j2, fun f hf => ?_⟩
      obtain ⟨f', rfl⟩ : ∃ f', f = f' + 1 := ⟨f - 1, by omega⟩
      obtain ⟨w1, w2⟩ := j3 f' (by omega)
      constructor
      · rw [← w1]
        show (if (6 : Int32) ≤ nI i then _ else (if fX4_isIn (nI B) (nI i) = 0 then lp_ _ f' (nI q, nI i + (1 : Int32)) else _)) = _
        rw [if_neg n6, ub, e', if0, if_pos rfl, nI_1]
      · rw [← w2]
        simp only [lp_, lt_q]
        rw [uh, e', if0, if_pos rfl, if_pos rfl, Int32.sub_zero, nI_1]
theorem floorMod_e {w n : Nat} (hw : w < 2 ^ 31) (hn : n < 2 ^ 31) (h0 : 0 < n) : fJ9_floorMod_7cf53 (nI w) (nI n) = some (nI (w % n)) := by
  have nz : ne0 (nI n) = true := by
    unfold ne0
    have : ¬ nI n = 0 := nI_ne0 h0 hn
    simp [this]
  have xl : w ^^^ n < 2 ^ 31 := Nat.xor_lt_two_pow hw hn
  unfold fJ9_floorMod_7cf53
  rw [ck_t nz, lt_q, pk_rem hw h0 hn, fb_xorI, if_pos (nI_pos' xl)]
theorem drawn_none (w : Int32) : fX4_drawn (nI 0) w = some (-9) := by
  unfold fX4_drawn
  rw [lt_q, bitCount_e (by omega), if_pos (by rfl)]
theorem drawn_e {B w : Nat} (hB : B < 64) (hw : w < 2 ^ 31) (h0 : B ≠ 0) : 0 < pop B 10 ∧ ∃ j, j < 6 ∧ B.testBit j = true ∧ fX4_drawn (nI B) (nI w) = some (nI j) ∧ fX5_nth (nI B) (nI (w % pop B 10)) = some (nI j) := by
  have p11 : pop B 11 = pop B 6 := pop_ge (n := 6) (by omega) 11 (by omega)
  have p10 : pop B 10 = pop B 6 := pop_ge (n := 6) (by omega) 10 (by omega)
  have pp : 0 < pop B 6 := by
    refine Classical.byContradiction fun hx => h0 ?_
    have z : pop B 6 = 0 := by omega
    have key : ∀ n, pop B n = 0 → ∀ i, i < n → B.testBit i = false := by
      intro n
      induction n with
      | zero => intro _ i hi; exact absurd hi (Nat.not_lt_zero i)
      | succ n ihn =>
        intro hz i hi
        have hs : pop B (n + 1) = pop B n + (if B.testBit n then 1 else 0) := rfl
        rw [hz] at hs
        by_cases e : i = n
        · subst e
          cases w : B.testBit i
          · rfl
          · rw [w] at hs; simp at hs
        · exact ihn (by omega) i (by omega)
    refine Nat.eq_of_testBit_eq fun i => ?_
    rw [Nat.zero_testBit]
    by_cases hi : i < 6
    · exact key 6 z i hi
    · exact Nat.testBit_lt_two_pow (Nat.lt_of_lt_of_le hB (Nat.pow_le_pow_right (n := 2) (i := 6) (by omega) (by omega)))
  have pl : pop B 6 < 100 := by
    have : ∀ n, pop B n ≤ n := fun n => by
      induction n with
      | zero => exact Nat.le_refl 0
      | succ n ihn => show pop B n + _ ≤ n + 1; split <;> omega
    have := this 6
    omega
  have ml := Nat.mod_lt w pp
  obtain ⟨j, j1, j2, j3⟩ := kth_bit hB 6 0 (w % pop B 6) (by omega) (by show w % pop B 6 + 0 < _; omega)
  obtain ⟨w1, w2⟩ := j3 FV (Nat.lt_of_lt_of_le (by omega) FV_ge)
  refine ⟨by omega, j, j1, j2, ?_, ?_⟩
  · unfold fX4_drawn
    rw [lt_q, bitCount_e (by omega), p11, if_neg (by rw [nI0_e (by omega)]; omega), floorMod_e hw (by omega) pp, Option.bind_some]
    exact w1
  · unfold fX5_nth
    rw [p10]
    exact w2
noncomputable def ltC (v1 v2 : Int32) : (Int64 × Int32 × QS → Option (Int32 × QS)) → Int64 × Int32 × QS → Option (Int32 × QS) := (fun (r4 : Int64 × Int32 × QS → Option (Int32 × QS)) (a3 : Int64 × Int32 × QS) => (if v1 ≤ a3.2.1 then some (((gI a3.2.2 18) - v2), a3.2.2) else lt_ ((a3.1 * (48271 : Int64)) - (a3.1 * (48271 : Int64)) / (2147483647 : Int64) * (2147483647 : Int64)) (fun (v5 : Int64) => Option.bind (fX0_free_6 a3.2.2) (fun (q6 : Int32) => Option.bind (fX4_drawn q6 ((v5 / (8 : Int64)).toInt32)) (fun (q7 : Int32) => Option.bind (fX0_perform_6 q7 a3.2.2) (fun (q8 : QS) => r4 (v5, (a3.2.1 + (1 : Int32)), q8)))))))
noncomputable def ltR : (Int64 × Int32 × QS → Option (Int32 × QS)) → Int64 × Int32 × QS → Option (Int32 × QS) := (fun (r2 : Int64 × Int32 × QS → Option (Int32 × QS)) (a1 : Int64 × Int32 × QS) => (if (fX5_isOver_50 a1.2.2) = 0 then lt_ ((a1.1 * (48271 : Int64)) - (a1.1 * (48271 : Int64)) / (2147483647 : Int64) * (2147483647 : Int64)) (fun (v3 : Int64) => Option.bind (fX5_canBits_50 (gM a1.2.2 51 6) a1.2.2) (fun (q4 : Int32) => (if q4 = 0 then Option.bind (fX5_doCut_50 a1.2.2) (fun (q10 : QS) => r2 (v3, a1.2.1, q10)) else Option.bind (fX5_bits q4) (fun (q5 : Int32) => ck_ (ne0L q5.toInt64) (Option.bind (fX5_nth q4 (((v3 / (8 : Int64)) - (v3 / (8 : Int64)) / q5.toInt64 * q5.toInt64).toInt32)) (fun (q7 : Int32) => Option.bind (fX5_doCall_50 q7 a1.2.2) (fun (q8 : Int32 × QS) => lt_ (a1.2.1 + q8.1) (fun (v9 : Int32) => r2 (v3, v9, q8.2))))))))) else some (a1.2.1, a1.2.2)))
theorem lots_go {Y nc : Nat} {v2 : Int32} (hnc6 : nc ≤ 6) (hY : Y ≤ 6) : ∀ (m k s n l : Nat) (σ τ : QS) (ca : Int32), k + m = Y → s + m = nc → n + m ≤ 40 → l < 2147483648 → Inv σ τ → gI σ 8 = nI nc → gI σ 13 = nI s → gI σ 12 = nI n → gI σ 18 = v2 + ca → ∀ f1 f2, m < f1 → m < f2 → ∃ r σ' τ', lp_ (ltC (nI Y) v2) f1 (lN l, nI k, σ) = some (r, σ') ∧ lp_ ltR f2 (lN l, ca, τ) = some (r, τ') ∧ Inv σ' τ' := by
  intro m
  induction m with
  | zero =>
    intro k s n l σ τ ca hk hs hn hl h e8 e13 e12 e18 f1 f2 h1 h2
    obtain ⟨f1', rfl⟩ : ∃ f, f1 = f + 1 := ⟨f1 - 1, by omega⟩
    obtain ⟨f2', rfl⟩ : ∃ f, f2 = f + 1 := ⟨f2 - 1, by omega⟩
    obtain ⟨ns, nc', s', p, a, c, hn'⟩ := h.now
    obtain ⟨hh, hs', -, -, -, ⟨e13', e1⟩, -⟩ := hn'
    have hnc' := hh.2.1
    have ec : nc' = nc := by have a := hh.2.2.2.2.2.1; rw [e8, nI_e (by omega) (by omega)] at a; exact a.symm
    subst ec
    have es : s' = s := by rw [e13, nI_e (by omega) (by omega)] at e13'; exact e13'.symm
    subst es
    refine ⟨ca, σ, τ, ?_, ?_, h⟩
    · show ltC (nI Y) v2 (lp_ (ltC (nI Y) v2) f1') (lN l, nI k, σ) = _
      unfold ltC
      simp only []
      rw [if_pos (by rw [nI_L (by omega) (by omega)]; omega), e18, Int32.add_comm, Int32.add_sub_cancel]
    · show ltR (lp_ ltR f2') (lN l, ca, τ) = _
      unfold ltR
      simp only []
      rw [over_r hh e1 hs', if_pos (show s' = nc' from by omega), if_neg one_ne]
  | succ m ih =>
    intro k s n l σ τ ca hk hs hn hl h e8 e13 e12 e18 f1 f2 h1 h2
    obtain ⟨f1', rfl⟩ : ∃ f, f1 = f + 1 := ⟨f1 - 1, by omega⟩
    obtain ⟨f2', rfl⟩ : ∃ f, f2 = f + 1 := ⟨f2 - 1, by omega⟩
    obtain ⟨ns, nc', s', p, a, c, hn'⟩ := h.now
    obtain ⟨hh, hs', -, -, -, ⟨e13', e1⟩, -⟩ := hn'
    have hnc' := hh.2.1
    have ec : nc' = nc := by have a := hh.2.2.2.2.2.1; rw [e8, nI_e (by omega) (by omega)] at a; exact a.symm
    subst ec
    have es : s' = s := by rw [e13, nI_e (by omega) (by omega)] at e13'; exact e13'.symm
    subst es
    obtain ⟨B, B1, B2, B3, B4, B5⟩ := lot_deed h e8 hnc6 e13 (by omega) e12 (by omega)
    have ml := Nat.mod_lt (l * 48271) (show 0 < 2147483647 by omega)
    have el : lN l * (48271 : Int64) - lN l * (48271 : Int64) / (2147483647 : Int64) * (2147483647 : Int64) = lN (l * 48271 % 2147483647) := by
      show lN l * lN 48271 - lN l * lN 48271 / lN 2147483647 * lN 2147483647 = _
      rw [lN_mul, pk_lRem (by omega) (by omega) (by omega)]
    generalize hl' : l * 48271 % 2147483647 = l' at *
    have e8' : lN l' / (8 : Int64) = lN (l' / 8) := by show lN l' / lN 8 = _; rw [pk_lDiv (by omega) (by omega) (by omega)]
    have stC : ltC (nI Y) v2 (lp_ (ltC (nI Y) v2) f1') (lN l, nI k, σ) = Option.bind (fX4_drawn (nI B) (nI (l' / 8))) (fun q7 => Option.bind (fX0_perform_6 q7 σ) (fun q8 => lp_ (ltC (nI Y) v2) f1' (lN l', nI (k + 1), q8))) := by
      unfold ltC
      simp only [lt_q]
      rw [if_neg (by rw [nI_L (by omega) (by omega)]; omega), el, e8', lN_i, B2, Option.bind_some, nI_1]
    have stR : ltR (lp_ ltR f2') (lN l, ca, τ) = (if nI B = 0 then Option.bind (fX5_doCut_50 τ) (fun q10 => lp_ ltR f2' (lN l', ca, q10)) else Option.bind (fX5_bits (nI B)) (fun q5 => ck_ (ne0L q5.toInt64) (Option.bind (fX5_nth (nI B) ((lN (l' / 8) - lN (l' / 8) / q5.toInt64 * q5.toInt64).toInt32)) (fun q7 => Option.bind (fX5_doCall_50 q7 τ) (fun q8 => lp_ ltR f2' (lN l', ca + q8.1, q8.2)))))) := by
      unfold ltR
      simp only [lt_q]
      rw [over_r hh e1 hs', if_neg (show ¬ s' = nc' from by omega), if_pos rfl, el, e8', B3, Option.bind_some]
    show ∃ r σ' τ', ltC (nI Y) v2 (lp_ (ltC (nI Y) v2) f1') (lN l, nI k, σ) = some (r, σ') ∧ ltR (lp_ ltR f2') (lN l, ca, τ) = some (r, τ') ∧ Inv σ' τ'
    rw [stC, stR]
    by_cases b0 : B = 0
    · subst b0
      obtain ⟨σ', τ', w1, w2, ⟨w3, w4, w5, w6, w7⟩, w8⟩ := B4
      rw [drawn_none, Option.bind_some, w1, Option.bind_some, if_pos (show nI 0 = 0 from rfl), w2, Option.bind_some]
      exact ih (k + 1) (s' + 1) (n + 1) l' σ' τ' ca (by omega) (by omega) (by omega) (by omega) w3 (by rw [w5]; exact e8) w6 w7 (by rw [w8]; exact e18) f1' f2' (by omega) (by omega)
    · obtain ⟨pp, j, j1, j2, j3, j4⟩ := drawn_e B1 (show l' / 8 < 2 ^ 31 by omega) b0
      obtain ⟨σ', τ', b, w1, w2, ⟨w3, w4, w5, w6, w7⟩, w8⟩ := B5 j j1 j2
      have pl : pop B 10 ≤ 10 := by
        have : ∀ n, pop B n ≤ n := fun n => by
          induction n with
          | zero => exact Nat.le_refl 0
          | succ n ihn => show pop B n + _ ≤ n + 1; split <;> omega
        exact this 10
      rw [j3, Option.bind_some, w1, Option.bind_some, if_neg (by rw [nI0_e (by omega)]; exact b0), bitsR_e (by omega), Option.bind_some, nI_l (by omega), ck_t (ne0L_n (by omega) (by omega)), pk_lRem (by omega) (by omega) (by omega), lN_i, j4, Option.bind_some, w2, Option.bind_some]
      exact ih (k + 1) (s' + 1) (n + 1) l' σ' τ' (ca + b) (by omega) (by omega) (by omega) (by omega) w3 (by rw [w5]; exact e8) w6 w7 (by rw [w8, e18, Int32.add_assoc]) f1' f2' (by omega) (by omega)
theorem lots_same {σ τ : QS} (h : Inv σ τ) (x : Int32) : Same (fX4_lots_0 x σ) (fX5_lots_50 x τ) := by
  obtain ⟨ns, nc, pr, n, v, h2, hh, hn, h12, hv, hvo, hpr, hN, r0, rv⟩ := h.see
  have hns := hh.1
  have hnc := hh.2.1
  obtain ⟨⟨s, s1, s2, s3, s4, k, k1, k2⟩, -, -, -⟩ := hvo
  have e13 : gI σ 13 = nI s := by rw [hN.1, s2]
  have e1 : gM τ 51 1 = nI s := by rw [← s2, ← rv 0 (by omega)]
  have e : fX5_in x.toInt64 (1 : Int64) (2147483646 : Int64) = if x < 1 then 0 else if 2147483646 < x then 0 else 1 := in_int x 1 2147483646
  have t1 : (1 : Int32).toInt = 1 := by decide
  have t2 : (2147483646 : Int32).toInt = 2147483646 := by decide
  have t3 : (2147483647 : Int32).toInt = 2147483647 := by decide
  unfold fX4_lots_0 fX5_lots_50
  rw [e]
  by_cases c1 : x < 1
  · rw [if_pos c1, if_pos c1, if_pos rfl]
    exact Same.mk rfl rfl h
  rw [if_neg c1, if_neg c1]
  by_cases c2 : x < (2147483647 : Int32)
  · obtain ⟨sd, sd1, rfl⟩ := nI_of (x := x) (by
      rw [fa_lt]; rw [fa_lt] at c1
      have h0 : (0 : Int32).toInt = 0 := by decide
      omega)
    rw [if_pos c2, if_neg (show ¬ (2147483646 : Int32) < nI sd from by rw [fa_lt]; rw [fa_lt] at c2; omega), if_neg one_ne, over_c hh e13 s1, over_r hh e1 s1, lt_q]
    by_cases es : s = nc
    · rw [if_pos ((nI0_e (by omega)).mpr (by omega)), if_pos es, if_neg one_ne]
      exact Same.mk rfl rfl h
    rw [if_neg (by rw [nI0_e (by omega)]; omega), if_neg es, if_pos rfl, h12, r0, hh.2.2.2.2.2.2.1, e1, nI_add, nI_add, pk_sub (by omega), show n + nc - s = n + (nc - s) by omega]
    by_cases c40 : n + (nc - s) ≤ 40
    · have q40 : nI (n + (nc - s)) ≤ (40 : Int32) := by show _ ≤ nI 40; rw [nI_L (by omega) (by omega)]; exact c40
      rw [if_pos q40, if_pos q40, lt_q, nI_l sd1]
      obtain ⟨r, σ', τ', w1, w2, w3⟩ := lots_go (Y := nc - s) (nc := nc) (v2 := gI σ 18) hnc (by omega) (nc - s) 0 s n sd σ τ 0 (by omega) (by omega) c40 (by omega) h hh.2.2.2.2.2.1 e13 h12 (by rw [Int32.add_zero]) FV FV (Nat.lt_of_lt_of_le (by omega) FV_ge) (Nat.lt_of_lt_of_le (by omega) FV_ge)
      exact ⟨r, σ', τ', w1, w2, w3⟩
    · have q40 : ¬ nI (n + (nc - s)) ≤ (40 : Int32) := by show ¬ _ ≤ nI 40; rw [nI_L (by omega) (by omega)]; exact c40
      rw [if_neg q40, if_neg q40]
      exact Same.mk rfl rfl h
  · rw [if_neg c2, if_pos (show (2147483646 : Int32) < x from by rw [fa_lt]; rw [fa_lt] at c2; omega), if_pos rfl]
    exact Same.mk rfl rfl h
