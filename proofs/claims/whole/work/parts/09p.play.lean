/-! ===== play ===== -/
noncomputable def cnK (it : Nat → Int32) (k : Nat) : Nat := if it k = -9 then 0 else (it k).toNatClampNeg + 1
noncomputable def plS (h : HH) (s : Nat) (it : Nat → Int32) (P : PS) : Nat → PS
  | 0 => P
  | k + 1 => chP h (s + k) k (cnK it k) (plS h s it P k)
theorem plS_s (h : HH) (s : Nat) (it : Nat → Int32) (P : PS) (k : Nat) : plS h s it P (k + 1) = chP h (s + k) k (cnK it k) (plS h s it P k) := rfl
def vlP (al : Nat → Bool) (ns : Nat) (it : Nat → Int32) (k : Nat) (P : PS) : Prop := it k = -9 ∨ ∃ i, i < ns ∧ it k = nI i ∧ chB al (P.2 k).2.2.2 (i + 1) = true
theorem cnK_9 {it : Nat → Int32} {k : Nat} (h : it k = -9) : cnK it k = 0 := if_pos h
theorem cnK_i {it : Nat → Int32} {k i : Nat} (h : it k = nI i) (hi : i < 6) : cnK it k = i + 1 := by
  unfold cnK
  rw [h, if_neg (nI_neg9 (by omega)), nI_c (by omega)]
theorem plS_ok {h : HH} {s n : Nat} {it : Nat → Int32} {P : PS} {al : Nat → Bool} (hns : hN h ≤ 6) (h0 : okS 9 (hN h) 0 P) : ∀ k, (∀ j, j < k → vlP al (hN h) it j (plS h s it P j)) → okS 9 (hN h) k (plS h s it P k)
  | 0, _ => h0
  | k + 1, v => by
    have ih := plS_ok (n := n) (s := s) (al := al) hns h0 k (fun j hj => v j (by omega))
    rw [plS_s]
    refine ok_ch ?_ ih
    rcases v k (by omega) with q | ⟨i, i1, i2, -⟩
    · rw [cnK_9 q]; exact Nat.zero_le _
    · rw [cnK_i i2 (by omega)]; omega
noncomputable def npL (x1 : Int32) : (Int32 × QS → Option (Int32 × QS)) → Int32 × QS → Option (Int32 × QS) := (fun (r5 : Int32 × QS → Option (Int32 × QS)) (a4 : Int32 × QS) => ck_ (inb x1 6) ((if (gM a4.2 56 x1.toNatClampNeg) ≤ a4.1 then some ((0 : Int32), a4.2) else ck_ (inb (((40 : Int32) * x1) + a4.1) 240) (lt_ (gM a4.2 57 ((((40 : Int32) * x1) + a4.1).toNatClampNeg)) (fun (v8 : Int32) => lt_ (fun (_ : Unit) => lt_ (fun (v11 : Int32) => Option.bind (fX5_choose_50 a4.1 v11 a4.2) (fun (q12 : QS) => r5 ((a4.1 + (1 : Int32)), q12))) (fun (j10 : Int32 → Option (Int32 × QS)) => (if v8 = (-9 : Int32) then j10 (0 : Int32) else j10 (v8 + (1 : Int32))))) (fun (j9 : Unit → Option (Int32 × QS)) => (if v8 = (-9 : Int32) then j9 () else lt_ (fun (_ : Unit) => Option.bind (fX5_find_50 (3 : Int32) a4.2) (fun (q14 : Int32 × QS) => some (q14.1, q14.2))) (fun (j13 : Unit → Option (Int32 × QS)) => (if (fX5_isSitter_50 v8 a4.2) = 0 then j13 () else ck_ (inb a4.1 7) (Option.bind (fX5_mayCall_50 v8 (gM a4.2 66 a4.1.toNatClampNeg) a4.2) (fun (q16 : Int32) => (if q16 = 0 then j13 () else j9 ()))))))))))))
theorem npL_go {σ τ : QS} {ns nc s j n k : Nat} {it : Nat → Int32} {P : PS} (hh : HouseOk σ τ ns nc) (e1 : gM τ 51 1 = nI s) (hj : j < 6) (hs : gM τ 56 j = nI n) (hn : n ≤ 40) (hk : k < n) (hkM : s + k < nc) (hit : gM τ 57 (40 * j + k) = it k) (ha : atP τ k P) (ho : okS 9 ns k P) (v : vlP (alR τ) ns it k P) (r : Int32 × QS → Option (Int32 × QS)) : npL (nI j) r (nI k, τ) = r (nI (k + 1), chT τ k (cnK it k) (stN (hOf τ ns) (s + k) (cnK it k) (P.2 k))) := by
  have hns := hh.1
  have hnc := hh.2.1
  obtain ⟨a63, a64, a65, a66⟩ := ha.2 k (Nat.le_refl _)
  obtain ⟨b1, b2, b3, b4, b5⟩ := ho.1 k (Nat.le_refl _)
  have c6 := pow_le64 hns b5
  have in1 : inb (nI j) 6 = true := inb_n hj (by omega)
  unfold npL
  simp only [lt_q]
  rw [ck_t in1, nI_c (by omega), hs, if_neg (by rw [nI_L (by omega) (by omega)]; omega), idx40, ck_t (inb_n (by omega) (by omega)), nI_c (by omega), hit, nI_1]
  rcases v with q | ⟨i, i1, i2, i3⟩
  · rw [q, if_pos rfl, cnK_9 q]
    have ch := choose_e hh (s0 := s) (n := k) (k := 0) (d := P.2 k) e1 hkM (by omega) (by omega) a63 a64 a65 a66 (by omega) (by omega) (by omega) c6
    have ch' : fX5_choose_50 (nI k) (0 : Int32) τ = some (chT τ k 0 (stN (hOf τ ns) (s + k) 0 (P.2 k))) := ch
    rw [if_pos rfl, ch', Option.bind_some]
  · have may : (!((P.2 k).2.2.2.testBit i) && sitP (gM τ 53 i) (gM τ 51 (7 + i))) = true := i3
    have ch := choose_e hh (s0 := s) (n := k) (k := i + 1) (d := P.2 k) e1 hkM (by omega) (by omega) a63 a64 a65 a66 (by omega) (by omega) (by omega) c6
    rw [i2, if_neg (nI_neg9 (by omega)), sitR_e hh, inr_good i1 (by omega), if_neg one_ne, ck_t (inb_n (by omega) (by omega)), nI_c (by omega), a66, may_e (by omega) c6, Option.bind_some, if_pos may, if_neg one_ne, if_neg (nI_neg9 (by omega)), nI_1, ch, Option.bind_some, cnK_i i2 (by omega)]
theorem npL_no {σ τ : QS} {ns nc s j n k : Nat} {it : Nat → Int32} {P : PS} (hh : HouseOk σ τ ns nc) (hj : j < 6) (hs : gM τ 56 j = nI n) (hn : n ≤ 40) (hk : k < n) (hkM : s + k < nc) (hit : gM τ 57 (40 * j + k) = it k) (ha : atP τ k P) (ho : okS 9 ns k P) (v : ¬ vlP (alR τ) ns it k P) (r : Int32 × QS → Option (Int32 × QS)) : npL (nI j) r (nI k, τ) = Option.bind (fX5_find_50 (3 : Int32) τ) (fun q14 => some (q14.1, q14.2)) := by
  have hns := hh.1
  have hnc := hh.2.1
  obtain ⟨a63, a64, a65, a66⟩ := ha.2 k (Nat.le_refl _)
  have c6 := pow_le64 hns (ho.1 k (Nat.le_refl _)).2.2.2.2
  have in1 : inb (nI j) 6 = true := inb_n hj (by omega)
  unfold npL
  simp only [lt_q]
  have q9 : ¬ it k = -9 := fun w => v (Or.inl w)
  rw [ck_t in1, nI_c (by omega), hs, if_neg (by rw [nI_L (by omega) (by omega)]; omega), idx40, ck_t (inb_n (by omega) (by omega)), nI_c (by omega), hit, if_neg q9, sitR_e hh]
  rcases pk_ix (it k) (n := ns) (by omega) with hx | hx | ⟨i, hi, hx⟩
  · rw [inr_bad (Or.inl hx), if_pos rfl]
  · rw [inr_bad (Or.inr hx), if_pos rfl]
  · have may : ¬ (!((P.2 k).2.2.2.testBit i) && sitP (gM τ 53 i) (gM τ 51 (7 + i))) = true := fun w => v (Or.inr ⟨i, hi, hx, w⟩)
    rw [hx, inr_good hi (by omega), if_neg one_ne, ck_t (inb_n (by omega) (by omega)), nI_c (by omega), a66, may_e (by omega) c6, Option.bind_some, if_neg may, if_pos rfl]
theorem npL_end {τ : QS} {j n : Nat} (hj : j < 6) (hs : gM τ 56 j = nI n) (hn : n ≤ 40) (r : Int32 × QS → Option (Int32 × QS)) : npL (nI j) r (nI n, τ) = some (0, τ) := by
  unfold npL
  simp only [lt_q]
  rw [ck_t (inb_n hj (by omega)), nI_c (by omega), hs, if_pos (by rw [nI_L (by omega) (by omega)]; omega)]
noncomputable def ipL (x1 : Int32) (σ : QS) : (Int32 × Int32 → Option Int32) → Int32 × Int32 → Option Int32 := (fun (r3 : Int32 × Int32 → Option (Int32)) (a2 : Int32 × Int32) => Option.bind (fX3_size_1 x1 σ) (fun (q4 : Int32) => (if q4 ≤ a2.2 then some (1 : Int32) else Option.bind (fX3_get_1 x1 a2.2 σ) (fun (q5 : Int32) => (if q5 = (-9 : Int32) then r3 (a2.1, (a2.2 + (1 : Int32))) else (if (fX1_isSitter_5 q5 σ) = 0 then some (0 : Int32) else (if (fX4_isIn a2.1 q5) = 0 then some (0 : Int32) else lt_ (a2.1 &&& (((1 : Int32) <<< (q5 &&& 31)) ^^^ (-1 : Int32))) (fun (v6 : Int32) => r3 (v6, (a2.2 + (1 : Int32)))))))))))
noncomputable def ppL (x2 : Int32) : (Int32 × Int32 × Int32 × Int32 × QS → Option (Int32 × QS)) → Int32 × Int32 × Int32 × Int32 × QS → Option (Int32 × QS) := (fun (r5 : Int32 × Int32 × Int32 × Int32 × QS → Option (Int32 × QS)) (a4 : Int32 × Int32 × Int32 × Int32 × QS) => Option.bind (fX3_size_1 x2 a4.2.2.2.2) (fun (q6 : Int32) => (if q6 ≤ a4.2.2.2.1 then some (a4.2.2.1, a4.2.2.2.2) else Option.bind (fX3_get_1 x2 a4.2.2.2.1 a4.2.2.2.2) (fun (q7 : Int32) => (if q7 = (-9 : Int32) then r5 (a4.1, a4.2.1, a4.2.2.1, (a4.2.2.2.1 + (1 : Int32)), a4.2.2.2.2) else Option.bind (fX1_lacking_5 q7 ((gI a4.2.2.2.2 13) + a4.2.2.2.1) a4.1 (gI a4.2.2.2.2 23) a4.2.2.2.2) (fun (q8 : Int32) => lt_ (fun (v10 : Int32) => lt_ (a4.2.2.1 + v10) (fun (v11 : Int32) => lt_ (pI a4.2.2.2.2 23 (fX2_clappingBehind (gI a4.2.2.2.2 23) q8 a4.2.1)) (fun (S12 : QS) => lt_ (fX2_promptsBehind q8 a4.2.1) (fun (v13 : Int32) => lt_ (a4.1 ||| ((1 : Int32) <<< (q7 &&& 31))) (fun (v14 : Int32) => r5 (v14, v13, v11, (a4.2.2.2.1 + (1 : Int32)), S12)))))) (fun (j9 : Int32 → Option (Int32 × QS)) => (if a4.2.1 < q8 then j9 (0 : Int32) else j9 (1 : Int32)))))))))
theorem dif_out {F i k : Nat} (hi : i < 32) (hk : k < 32) : (dif F (2 ^ i)).testBit k = (F.testBit k && !decide (k = i)) := by
  rw [dif_bit _ _ _ hk, Nat.testBit_two_pow]
  congr 2
  by_cases e : k = i
  · simp [e]
  · simp [e, Ne.symm e]
theorem play_same {σ τ : QS} (h : Inv σ τ) (x : Int32) : Same (fX4_play_0 x σ) (fX5_play_50 x τ) := by
  obtain ⟨ns, nc, s, p, a, c, hn⟩ := h.now
  have hn' := hn
  obtain ⟨hh, hs, hp, ⟨a1, a2⟩, hc, ⟨e13, e1⟩, ⟨e15, e2⟩, ⟨e17, e4⟩, ⟨e14, e6⟩, es⟩ := hn'
  have hns := hh.1
  have hnc := hh.2.1
  rcases pk_ix x (n := 6) (by omega) with hx | hx | ⟨j, hj, rfl⟩
  · unfold fX4_play_0 fX5_play_50
    rw [isPlace1_bad (Or.inl hx), if_pos rfl, row_bad (Or.inl hx), if_pos rfl]
    exact Same.mk rfl rfl h
  · unfold fX4_play_0 fX5_play_50
    rw [isPlace1_bad (Or.inr hx), if_pos rfl, row_bad (Or.inr hx), if_pos rfl]
    exact Same.mk rfl rfl h
  have in1 : inb (nI j) 6 = true := inb_n hj (by omega)
  unfold fX4_play_0 fX5_play_50 fX5_noPlan_50
  rw [isPlace1_good hj, if_neg one_ne, row_good hj, if_neg one_ne, hh.2.2.2.1, hh.2.2.2.2.1]
  by_cases h0 : ns = 0
  · have z : nI ns = 0 := by rw [h0]; rfl
    rw [if_pos z, if_pos z, Option.bind_some, if_neg (show ¬ ((-4 : Int32), τ).1 = 0 from by show ¬ (-4 : Int32) = 0; decide)]
    exact Same.mk rfl rfl h
  have ne : ¬ nI ns = 0 := by rw [nI0_e (by omega)]; exact h0
  rw [if_neg ne, if_neg ne, has1_e hj, Option.bind_some, ck_t in1, nI_c (by omega)]
  obtain ⟨r1, r2⟩ := h.1 j hj
  rcases r2 with r2 | ⟨n, n1, n2, n3⟩
  · obtain ⟨σ', τ', q1, q2, q3⟩ := refuse_ok h (x := 1) (f := 1) rfl (by omega) (by omega)
    rw [if_pos r2, if_pos rfl, q1, Option.bind_some, ← r1, r2, if_neg (by decide), q2, Option.bind_some, Option.bind_some, if_neg m3_ne]
    exact Same.mk rfl rfl q3
  rw [if_neg (show ¬ gM σ 10 j = -1 from by rw [n2]; exact nI_nm1 (by omega)), if_neg one_ne, size1_e hj, Option.bind_some, over_c hh e13 hs, ← r1, n2, if_pos (nI_pos' (by omega)), ck_t in1, hh.2.2.2.2.2.2.1, e1, pk_sub hs]
  rw [n2] at r1
  by_cases nM : ¬ n ≤ nc - s
  · obtain ⟨σ', τ', q1, q2, q3⟩ := refuse_ok h (x := 5) (f := 5) rfl (by omega) (by omega)
    have nl : ¬ nI n ≤ nI (nc - s) := by rw [nI_L (by omega) (by omega)]; exact nM
    rw [if_neg nl, if_neg nl, q1, q2, Option.bind_some, Option.bind_some, Option.bind_some, if_neg m3_ne]
    exact Same.mk rfl rfl q3
  have nM := Classical.not_not.mp nM
  have nl : nI n ≤ nI (nc - s) := by rw [nI_L (by omega) (by omega)]; exact nM
  rw [if_pos nl, if_pos nl, e2, begin_e, Option.bind_some]
  let it : Nat → Int32 := fun k => gM σ (30 + j) k
  let PL : Nat → PS := plS (hOf τ ns) s it (P0 p a c)
  have rbp := bp_rf (nI p) τ
  -- the first places that do
  have first : ∃ m, m ≤ n ∧ (∀ k, k < m → vlP (alR τ) ns it k (PL k)) ∧ (m = n ∨ ¬ vlP (alR τ) ns it m (PL m)) := by
    have key : ∀ d, d ≤ n → (∀ k, k < n - d → vlP (alR τ) ns it k (PL k)) → ∃ m, m ≤ n ∧ (∀ k, k < m → vlP (alR τ) ns it k (PL k)) ∧ (m = n ∨ ¬ vlP (alR τ) ns it m (PL m)) := by
      intro d
      induction d with
      | zero => intro _ w; exact ⟨n, Nat.le_refl n, w, Or.inl rfl⟩
      | succ d ih =>
        intro hd w
        by_cases e : vlP (alR τ) ns it (n - (d + 1)) (PL (n - (d + 1)))
        · refine ih (by omega) (fun k hk => ?_)
          by_cases q : k = n - (d + 1)
          · rw [q]; exact e
          · exact w k (by omega)
        · exact ⟨n - (d + 1), by omega, w, Or.inr e⟩
    exact key n (Nat.le_refl n) (fun k hk => by omega)
  obtain ⟨m, m1, m2, m3⟩ := first
  have okk : ∀ k, k ≤ m → okS 9 ns k (PL k) := fun k hk => plS_ok (h := hOf τ ns) (n := n) (s := s) (al := alR τ) hns (ok_0 hp a1 a2 hc) k (fun i hi => m2 i (by omega))
  -- the reference
  have Rk : ∃ τm, rfT τ τm ∧ atP τm m (PL m) ∧ lp_ (npL (nI j)) FV ((0 : Int32), bpT τ (nI p)) = npL (nI j) (lp_ (npL (nI j)) (FV - m - 1)) (nI m, τm) := by
    have st : ∀ k, k ≤ m → ∃ τk, rfT τ τk ∧ atP τk k (PL k) ∧ ∀ f, lp_ (npL (nI j)) (f + k) ((0 : Int32), bpT τ (nI p)) = lp_ (npL (nI j)) f (nI k, τk) := by
      intro k
      induction k with
      | zero => intro _; exact ⟨bpT τ (nI p), rbp, bp_at e4 e6, fun f => rfl⟩
      | succ k ih =>
        intro hk
        obtain ⟨τk, q1, q2, q3⟩ := ih (by omega)
        have hhk := q1.house hh
        have go := npL_go (s := s) hhk (by rw [q1.1 51 (by omega)]; exact e1) hj (by rw [q1.1 56 (by omega)]; exact r1.symm) n1 (k := k) (it := it) (P := PL k) (by omega) (by omega) (by rw [q1.1 57 (by omega)]; exact (n3 k (by omega)).symm) q2 (okk k (by omega)) (by rw [q1.al]; exact m2 k (by omega))
        rw [q1.hof] at go
        refine ⟨chT τk k (cnK it k) (stN (hOf τ ns) (s + k) (cnK it k) ((PL k).2 k)), q1.tr ⟨fun i hi => chT_o (Or.inl hi), fun i hi => rfl, fun i => rfl⟩, ?_, fun f => ?_⟩
        · show atP (chT τk k (cnK it k) (stN (hOf τ ns) (s + k) (cnK it k) ((PL k).2 k))) (k + 1) (plS (hOf τ ns) s it (P0 p a c) (k + 1))
          rw [plS_s]
          exact at_ch q2
        · rw [show f + (k + 1) = (f + 1) + k by omega, q3 (f + 1)]
          show npL (nI j) (lp_ (npL (nI j)) f) (nI k, τk) = _
          rw [go]
    obtain ⟨τm, q1, q2, q3⟩ := st m (Nat.le_refl m)
    refine ⟨τm, q1, q2, ?_⟩
    have := q3 (FV - m - 1 + 1)
    rw [show FV - m - 1 + 1 + m = FV by have := FV_ge; omega] at this
    exact this
  obtain ⟨τm, t1, t2, t3⟩ := Rk
  have hhm := t1.house hh
  have fold : ∀ (S : QS), lp_ (fun (r5 : Int32 × QS → Option (Int32 × QS)) (a4 : Int32 × QS) => ck_ (inb (nI j) 6) ((if (gM a4.2 56 j) ≤ a4.1 then some ((0 : Int32), a4.2) else ck_ (inb (((40 : Int32) * (nI j)) + a4.1) 240) (lt_ (gM a4.2 57 ((((40 : Int32) * (nI j)) + a4.1).toNatClampNeg)) (fun (v8 : Int32) => lt_ (fun (_ : Unit) => lt_ (fun (v11 : Int32) => Option.bind (fX5_choose_50 a4.1 v11 a4.2) (fun (q12 : QS) => r5 ((a4.1 + (1 : Int32)), q12))) (fun (j10 : Int32 → Option (Int32 × QS)) => (if v8 = (-9 : Int32) then j10 (0 : Int32) else j10 (v8 + (1 : Int32))))) (fun (j9 : Unit → Option (Int32 × QS)) => (if v8 = (-9 : Int32) then j9 () else lt_ (fun (_ : Unit) => Option.bind (fX5_find_50 (3 : Int32) a4.2) (fun (q14 : Int32 × QS) => some (q14.1, q14.2))) (fun (j13 : Unit → Option (Int32 × QS)) => (if (fX5_isSitter_50 v8 a4.2) = 0 then j13 () else ck_ (inb a4.1 7) (Option.bind (fX5_mayCall_50 v8 (gM a4.2 66 a4.1.toNatClampNeg) a4.2) (fun (q16 : Int32) => (if q16 = 0 then j13 () else j9 ())))))))))))) FV ((0 : Int32), S) = lp_ (npL (nI j)) FV ((0 : Int32), S) := fun S => by
    have ej : (nI j).toNatClampNeg = j := nI_c (by omega)
    unfold npL
    rw [ej]
  rw [fold, t3]
  -- the class: is it a plan
  obtain ⟨B, B1, B2, -, -, B4⟩ := free_pop hn
  have Ck : fX4_isPlan_0 (nI j) σ = some (if m = n then 1 else 0) := by
    unfold fX4_isPlan_0
    rw [B1, Option.bind_some]
    show lp_ (ipL (nI j) σ) FV (nI B, (0 : Int32)) = _
    have st : ∀ k, k ≤ m → ∃ F, F < 64 ∧ (∀ i, i < ns → F.testBit i = chB (alR τ) ((PL k).2 k).2.2.2 (i + 1)) ∧ ∀ f, lp_ (ipL (nI j) σ) (f + k) (nI B, (0 : Int32)) = lp_ (ipL (nI j) σ) f (nI F, nI k) := by
      intro k
      induction k with
      | zero => intro _; exact ⟨B, B2, B4, fun f => rfl⟩
      | succ k ih =>
        intro hk
        obtain ⟨F, q1, q2, q3⟩ := ih (by omega)
        rcases m2 k (by omega) with v | ⟨i, i1, i2, i3⟩
        · refine ⟨F, q1, fun i hi => ?_, fun f => ?_⟩
          · rw [q2 i hi]
            show _ = chB (alR τ) ((plS (hOf τ ns) s it (P0 p a c) (k + 1)).2 (k + 1)).2.2.2 (i + 1)
            rw [plS_s, chP_2, cnK_9 v, stN_0]
          · rw [show f + (k + 1) = (f + 1) + k by omega, q3 (f + 1)]
            show ipL (nI j) σ (lp_ (ipL (nI j) σ) f) (nI F, nI k) = _
            unfold ipL
            simp only []
            have v' : gM σ (30 + j) k = -9 := v
            rw [size1_e hj, Option.bind_some, n2, if_neg (by rw [nI_L (by omega) (by omega)]; omega), get1_in hj n2 n1 (by omega), Option.bind_some, v', if_pos rfl, nI_1]
        · refine ⟨dif F (2 ^ i), Nat.lt_of_le_of_lt (dif_le _ _) q1, fun i' hi' => ?_, fun f => ?_⟩
          · show _ = chB (alR τ) ((plS (hOf τ ns) s it (P0 p a c) (k + 1)).2 (k + 1)).2.2.2 (i' + 1)
            rw [plS_s, chP_2, cnK_i i2 (by omega), stN_c, chB_or, dif_out (by omega) (by omega), q2 i' hi']
          · rw [show f + (k + 1) = (f + 1) + k by omega, q3 (f + 1)]
            show ipL (nI j) σ (lp_ (ipL (nI j) σ) f) (nI F, nI k) = _
            unfold ipL
            simp only [lt_q]
            have i2' : gM σ (30 + j) k = nI i := i2
            rw [size1_e hj, Option.bind_some, n2, if_neg (by rw [nI_L (by omega) (by omega)]; omega), get1_in hj n2 n1 (by omega), Option.bind_some, i2', if_neg (nI_neg9 (by omega)), sitC_e hh, inr_good i1 (by omega), if_neg one_ne, isIn_e (by omega) (by omega), q2 i i1, i3, if_pos rfl, if_neg one_ne, shl_e (show i < 31 by omega), dif_e, nI_1]
    obtain ⟨F, q1, q2, q3⟩ := st m (Nat.le_refl m)
    have q4 := q3 (FV - m - 1 + 1)
    rw [show FV - m - 1 + 1 + m = FV by have := FV_ge; omega] at q4
    rw [q4]
    show ipL (nI j) σ (lp_ (ipL (nI j) σ) (FV - m - 1)) (nI F, nI m) = _
    unfold ipL
    simp only [lt_q]
    rw [size1_e hj, Option.bind_some, n2]
    by_cases e : m = n
    · rw [if_pos (by rw [nI_L (by omega) (by omega)]; omega), if_pos e]
    · have nv : ¬ vlP (alR τ) ns it m (PL m) := by
        rcases m3 with w | w
        · exact absurd w e
        · exact w
      have q9 : ¬ gM σ (30 + j) m = -9 := fun w => nv (Or.inl w)
      rw [if_neg (by rw [nI_L (by omega) (by omega)]; omega), if_neg e, get1_in hj n2 n1 (by omega), Option.bind_some, if_neg q9, sitC_e hh]
      rcases pk_ix (gM σ (30 + j) m) (n := ns) (by omega) with hx | hx | ⟨i, hi, hx⟩
      · rw [inr_bad (Or.inl hx), if_pos rfl]
      · rw [inr_bad (Or.inr hx), if_pos rfl]
      · have nb : chB (alR τ) ((PL m).2 m).2.2.2 (i + 1) = false := by
          cases w : chB (alR τ) ((PL m).2 m).2.2.2 (i + 1)
          · rfl
          · exact absurd (Or.inr ⟨i, hi, hx, w⟩) nv
        rw [hx, inr_good hi (by omega), if_neg one_ne, isIn_e (by omega) (by omega), q2 i hi, nb, if0, if_pos rfl]
  rw [Ck, Option.bind_some]
  by_cases e : ¬ m = n
  · have nv : ¬ vlP (alR τ) ns it m (PL m) := by
      rcases m3 with w | w
      · exact absurd w e
      · exact w
    have no := npL_no (s := s) hhm hj (by rw [t1.1 56 (by omega)]; exact r1.symm) n1 (k := m) (it := it) (P := PL m) (by omega) (by omega) (by rw [t1.1 57 (by omega)]; exact (n3 m (by omega)).symm) t2 (okk m (Nat.le_refl m)) (by rw [t1.al]; exact nv)
    obtain ⟨σ', τ', q1, q2, q3⟩ := refuse_ok (inv_srch h (srC.rf σ) t1) (x := 3) (f := 3) rfl (by omega) (by omega)
    rw [if_neg e, if_pos rfl, no, q1, q2, Option.bind_some, Option.bind_some, Option.bind_some, if_neg m3_ne]
    exact Same.mk rfl rfl q3
  have e := Classical.not_not.mp e
  subst e
  rw [if_pos rfl, if_neg one_ne, npL_end hj (by rw [t1.1 56 (by omega)]; exact r1.symm) n1, Option.bind_some, if_pos rfl]
  obtain ⟨a63, a64, a65, a66⟩ := t2.2 m (Nat.le_refl m)
  -- the class plays it
  have Pk : ∃ σm, fX2_playPlan_7_1 (nI j) σ = some (nI ((PL m).2 m).2.2.1, σm) ∧ srC σ σm ∧ gI σm 23 = PZ ((PL m).2 m).2.1 := by
    unfold fX2_playPlan_7_1
    rw [lt_q, lt_q, lt_q, e14, e15, e17]
    show ∃ σm, lp_ (ppL (nI j)) FV (nI c, nI p, (0 : Int32), (0 : Int32), pI σ 23 (PZ a)) = some (_, σm) ∧ _
    have st : ∀ k, k ≤ m → ∃ σk, srC σ σk ∧ gI σk 23 = PZ ((PL k).2 k).2.1 ∧ ∀ f, lp_ (ppL (nI j)) (f + k) (nI c, nI p, (0 : Int32), (0 : Int32), pI σ 23 (PZ a)) = lp_ (ppL (nI j)) f (nI ((PL k).2 k).2.2.2, nI ((PL k).2 k).1, nI ((PL k).2 k).2.2.1, nI k, σk) := by
      intro k
      induction k with
      | zero => intro _; exact ⟨pI σ 23 (PZ a), (srC.rf σ).i (by omega) _, gI_same _ _ _, fun f => rfl⟩
      | succ k ih =>
        intro hk
        obtain ⟨σk, q1, q2, q3⟩ := ih (by omega)
        have hhk := q1.house hh
        have n2' : gM σk 10 j = nI m := by rw [q1.2.1 10 (by omega) (by omega)]; exact n2
        have itk : gM σk (30 + j) k = it k := by rw [q1.2.1 (30 + j) (by omega) (by omega)]
        have okp := (okk k (by omega)).1 k (Nat.le_refl k)
        obtain ⟨b1, b2, b3, b4, b5⟩ := okp
        have c6 := pow_le64 hns b5
        have start : ∀ f, lp_ (ppL (nI j)) (f + (k + 1)) (nI c, nI p, (0 : Int32), (0 : Int32), pI σ 23 (PZ a)) = ppL (nI j) (lp_ (ppL (nI j)) f) (nI ((PL k).2 k).2.2.2, nI ((PL k).2 k).1, nI ((PL k).2 k).2.2.1, nI k, σk) := fun f => by
          rw [show f + (k + 1) = (f + 1) + k by omega, q3 (f + 1)]
          rfl
        rcases m2 k (by omega) with v | ⟨i, i1, i2, i3⟩
        · have ep : (PL (k + 1)).2 (k + 1) = (PL k).2 k := by
            show (plS (hOf τ ns) s it (P0 p a c) (k + 1)).2 (k + 1) = _
            rw [plS_s, chP_2, cnK_9 v, stN_0]
          rw [ep]
          refine ⟨σk, q1, q2, fun f => ?_⟩
          rw [start f]
          unfold ppL
          simp only [lt_q]
          rw [size1_e hj, Option.bind_some, n2', if_neg (by rw [nI_L (by omega) (by omega)]; omega), get1_in hj n2' n1 (by omega), Option.bind_some, itk, v, if_pos rfl, nI_1]
        · have ep : (PL (k + 1)).2 (k + 1) = stN (hOf τ ns) (s + k) (i + 1) ((PL k).2 k) := by
            show (plS (hOf τ ns) s it (P0 p a c) (k + 1)).2 (k + 1) = _
            rw [plS_s, chP_2, cnK_i i2 (by omega)]
          have l9 := lkZ_le (hbd_of hh) (i := i) (show s + k < nc by omega) ((PL k).2 k).2.1 ((PL k).2 k).2.2.2
          obtain ⟨w1, w2, w3⟩ := stN_e1 (hOf τ ns) (s + k) i ((PL k).2 k)
          have lk := lackC_z hhk i1 (show s + k < nc by omega) c6 (a := ((PL k).2 k).2.1) (by omega) (by omega)
          rw [ep, w1, w2, w3, stN_c]
          have e13k : gI σk 13 = nI s := (q1.1 13 (by omega)).trans e13
          refine ⟨pI σk 23 (PZ (if ((PL k).2 k).1 < lkZ (hOf τ ns) i (s + k) ((PL k).2 k).2.1 ((PL k).2 k).2.2.2 then ((PL k).2 k).2.1 - 1 else ((PL k).2 k).2.1 + (if lkZ (hOf τ ns) i (s + k) ((PL k).2 k).2.1 ((PL k).2 k).2.2.2 = 0 then 2 else 1))), q1.i (by omega) _, gI_same _ _ _, fun f => ?_⟩
          rw [start f]
          unfold ppL
          simp only [lt_q]
          rw [size1_e hj, Option.bind_some, n2', if_neg (by rw [nI_L (by omega) (by omega)]; omega), get1_in hj n2' n1 (by omega), Option.bind_some, itk, i2, if_neg (nI_neg9 (by omega)), e13k, q2, nI_add, lk, Option.bind_some, clap_e (by omega) (by omega), prom_e (by omega) (by omega), shl_e (show i < 31 by omega), fa_or, nI_1]
          by_cases q : ((PL k).2 k).1 < lkZ (hOf τ ns) i (s + k) ((PL k).2 k).2.1 ((PL k).2 k).2.2.2
          · rw [if_pos (show nI ((PL k).2 k).1 < nI (lkZ (hOf τ ns) i (s + k) ((PL k).2 k).2.1 ((PL k).2 k).2.2.2) from by rw [nI_l2 (by omega) (by omega)]; exact q), if_pos q, if_pos q, if_pos q, Int32.add_zero]
          · rw [if_neg (show ¬ nI ((PL k).2 k).1 < nI (lkZ (hOf τ ns) i (s + k) ((PL k).2 k).2.1 ((PL k).2 k).2.2.2) from by rw [nI_l2 (by omega) (by omega)]; exact q), if_neg q, if_neg q, if_neg q, nI_1]
    obtain ⟨σm, q1, q2, q3⟩ := st m (Nat.le_refl m)
    refine ⟨σm, ?_, q1, q2⟩
    have q4 := q3 (FV - m - 1 + 1)
    rw [show FV - m - 1 + 1 + m = FV by have := FV_ge; omega] at q4
    rw [q4]
    show ppL (nI j) (lp_ (ppL (nI j)) (FV - m - 1)) (_, _, _, nI m, σm) = _
    unfold ppL
    simp only [lt_q]
    have n2' : gM σm 10 j = nI m := by rw [q1.2.1 10 (by omega) (by omega)]; exact n2
    rw [size1_e hj, Option.bind_some, n2', if_pos (by rw [nI_L (by omega) (by omega)]; omega)]
  obtain ⟨σm, p1, p2, p3⟩ := Pk
  have s56 : gM τm 56 j = nI m := by rw [t1.1 56 (by omega)]; exact r1.symm
  have s56' : gM (pI τm 2 (PZ ((PL m).2 m).2.1)) 56 j = nI m := s56
  rw [p1, Option.bind_some, p3]
  simp only [lt_q]
  rw [ck_t in1, s56, ck_t (inb_n (by omega) (by omega)), nI_c (by omega), a64, ck_t in1, s56', ck_t (inb_n (by omega) (by omega)), nI_c (by omega)]
  have a65' : gM (pI τm 2 (PZ ((PL m).2 m).2.1)) 65 m = nI ((PL m).2 m).2.2.1 := a65
  rw [a65']
  exact Same.mk rfl rfl (told_ok (inv_srch h p2 t1) _)
