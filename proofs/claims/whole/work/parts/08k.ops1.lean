/-! ===== calls, cuts, changes ===== -/
def SameR (a b : Option Int32) : Prop := ∃ r, a = some r ∧ b = some r
theorem Inv.see {σ τ : QS} (h : Inv σ τ) : ∃ ns nc pr n v, Inv2 σ τ ns nc pr ∧ HouseOk σ τ ns nc ∧ n ≤ 40 ∧ gI σ 12 = nI n ∧ v = repP (hOf τ ns) (v0Of σ ns) (gM σ 26) n ∧ nvOk ns nc pr v ∧ pr ≤ 9 ∧ NightOk σ ns v ∧ gM τ 51 0 = nI n ∧ ∀ j, j < 12 → gM τ 51 (0 + 1 + j) = v j := by
  obtain ⟨a1, a2, a3, a4, a5, a6, ns, nc, pr, a7⟩ := h
  have h2 := a7
  obtain ⟨b1, b2, ⟨n, c1, c2, c3⟩, b4⟩ := a7
  refine ⟨ns, nc, pr, n, _, h2, b1, c2.1, c1, rfl, ?_, b2.1, c3, c2.2.1, c2.2.2.1⟩
  exact nv_rep b1.1 b1.2.1 (nv_beg b2) n c2.2.2.2.2
theorem can_bit {σ τ : QS} {ns : Nat} {v : NV} (hN : NightOk σ ns v) {c : Nat} (hc : v 5 = nI c) (hc6 : c < 64) {i : Nat} (hi : i < ns) : (frS (gM τ 53) (gM σ 25) c ns).testBit i = canP (hOf τ ns) v i := by
  unfold frS canP
  rw [mkS_bit, cOf_e hc (by omega), hN.2.2.2.2.2.2 i hi]
  simp [hi]
theorem frS_cong {kd st st' : Nat → Int32} {c ns : Nat} (h : ∀ i, i < ns → st i = st' i) : frS kd st c ns = frS kd st' c ns := by
  unfold frS
  exact mkS_cong (fun i hi => by rw [h i hi])
theorem bool_if {b : Bool} : (if b = true then (1 : Int32) else 0) = 0 ↔ b = false := by cases b <;> decide
theorem over_c {σ τ : QS} {ns nc : Nat} (hh : HouseOk σ τ ns nc) {s : Nat} (hs : gI σ 13 = nI s) (hle : s ≤ nc) : fX0_scenesYet_6 σ = nI (nc - s) := by
  unfold fX0_scenesYet_6
  rw [hh.2.2.2.2.2.1, hs, pk_sub hle]
theorem over_r {σ τ : QS} {ns nc : Nat} (hh : HouseOk σ τ ns nc) {s : Nat} (hs : gM τ 51 1 = nI s) (hle : s ≤ nc) : fX5_isOver_50 τ = if s = nc then 1 else 0 := by
  have := hh.2.1
  unfold fX5_isOver_50
  rw [hh.2.2.2.2.2.2.1, hs]
  by_cases e : s = nc
  · rw [if_pos (by rw [e]), if_pos e]
  · rw [if_neg (by rw [nI_e (by omega) (by omega)]; exact e), if_neg e]
theorem nI0_e {k : Nat} (h : k < 1000000) : nI k = 0 ↔ k = 0 := by
  show nI k = nI 0 ↔ _
  rw [nI_e h (by omega)]
theorem n40_e {n : Nat} (h : n ≤ 40) : nI n = 40 ↔ ¬ nI n < 40 := by
  show nI n = nI 40 ↔ ¬ nI n < nI 40
  rw [nI_e (by omega) (by omega), nI_l2 (by omega) (by omega)]
  omega
theorem cut_same {σ τ : QS} (h : Inv σ τ) : Same (fX4_cut_0 σ) (fX5_cut_50 τ) := by
  obtain ⟨ns, nc, pr, n, v, h2, hh, hn, h12, hv, hvo, hpr, hN, r0, rv⟩ := h.see
  have hnc := hh.2.1
  obtain ⟨s, s1, s2, -⟩ := hvo.1
  have e13 : gI σ 13 = nI s := by rw [hN.1, s2]
  have e1 : gM τ 51 1 = nI s := by rw [← s2, ← rv 0 (by omega)]
  unfold fX4_cut_0 fX5_cut_50
  rw [over_c hh e13 s1, over_r hh e1 s1, h12, r0]
  by_cases e : s = nc
  · rw [if_pos ((nI0_e (by omega)).mpr (by omega)), if_pos e, if_neg one_ne]
    exact Same.mk rfl rfl h
  · rw [if_neg (by rw [nI0_e (by omega)]; omega), if_neg e, if_pos rfl]
    by_cases e4 : nI n < 40
    · have hn4 : n < 40 := by
        have e4' : nI n < nI 40 := e4
        rwa [nI_l2 (by omega) (by omega)] at e4'
      rw [if_pos e4, if_neg (fun q => (n40_e hn).mp q e4)]
      have ok : okP (hOf τ ns) nc v (-9) := Or.inl ⟨rfl, by rw [sOf_e s2 (by omega)]; omega⟩
      obtain ⟨σ', p1, p2⟩ := perform_ok hh hvo hN h12 hn4 ok
      have dc := doP_cut (hOf τ ns) v
      rw [p1, doCut_e r0 hn4 rv, Option.bind_some, Option.bind_some, gM_same]
      have key := deed_inv h h2 h12 hn4 (by rw [← hv]; exact ok) p2.1 p2.2.1 (by rw [← hv]; exact p2.2.2.1) p2.2.2.2.1 p2.2.2.2.2.1 p2.2.2.2.2.2
      rw [← hv, dc] at key
      refine Same.mk (by rw [p2.2.2.1.1, dc]) ?_ key
      show some (rowN (gM τ 51) n (doCutP v) 1, _) = some (doCutP v 0, _)
      rfl
    · rw [if_neg e4, if_pos ((n40_e hn).mpr e4)]
      exact Same.mk rfl rfl h
theorem call_same {σ τ : QS} (h : Inv σ τ) (x : Int32) : Same (fX4_call_0 x σ) (fX5_call_50 x τ) := by
  obtain ⟨ns, nc, pr, n, v, h2, hh, hn, h12, hv, hvo, hpr, hN, r0, rv⟩ := h.see
  have hns := hh.1
  have hnc := hh.2.1
  have hvo' := hvo
  obtain ⟨⟨s, s1, s2, s3, s4, k, k1, k2⟩, -, ⟨c, c1, c2⟩, -⟩ := hvo
  have hc6 := pow_le64 hns c1
  have e13 : gI σ 13 = nI s := by rw [hN.1, s2]
  have e1 : gM τ 51 1 = nI s := by rw [← s2, ← rv 0 (by omega)]
  have e14 : gI σ 14 = nI c := by rw [hN.2.2.2.2.2.1, c2]
  have e6 : gM τ 51 6 = nI c := by rw [← c2, ← rv 5 (by omega)]
  have e17 : gI σ 17 = v 3 := hN.2.2.2.1
  have e4r : gM τ 51 4 = v 3 := by rw [← rv 3 (by omega)]
  unfold fX4_call_0 fX5_call_50
  rw [sitC_e hh, sitR_e hh]
  rcases pk_ix x (n := ns) (by omega) with hx | hx | ⟨i, hi, rfl⟩
  · rw [inr_bad (Or.inl hx), if_pos rfl, if_pos rfl]
    exact Same.mk rfl rfl h
  · rw [inr_bad (Or.inr hx), if_pos rfl, if_pos rfl]
    exact Same.mk rfl rfl h
  · rw [inr_good hi (by omega), if_neg one_ne, if_neg one_ne, over_c hh e13 s1, over_r hh e1 s1]
    by_cases e : s = nc
    · rw [if_pos ((nI0_e (by omega)).mpr (by omega)), if_pos e, if_neg one_ne]
      exact Same.mk rfl rfl h
    · rw [if_neg (by rw [nI0_e (by omega)]; omega), if_neg e, if_pos rfl, freeC_e hh e14, Option.bind_some, e6, may_e (by omega) hc6, Option.bind_some, isIn_e (by have := mkS_lt (fun i => !(c.testBit i) && sitP (gM τ 53 i) (gM σ 25 i)) ns; have := pow_le64 hns this; show frS _ _ _ _ < _; unfold frS; omega) (by omega), can_bit hN c2 hc6 hi]
      have ecan : (!(c.testBit i) && sitP (gM τ 53 i) (gM τ 51 (7 + i))) = canP (hOf τ ns) v i := by
        unfold canP
        rw [cOf_e c2 (by omega), ← rv (6 + i) (by omega), show 0 + 1 + (6 + i) = 7 + i by omega]
      rw [ecan]
      by_cases ca : canP (hOf τ ns) v i = true
      · rw [ca, if1, if_neg one_ne, if_neg one_ne, h12, r0]
        by_cases e4 : nI n < 40
        · have hn4 : n < 40 := by
            have e4' : nI n < nI 40 := e4
            rwa [nI_l2 (by omega) (by omega)] at e4'
          rw [if_pos e4, if_neg (fun q => (n40_e hn).mp q e4)]
          have ok : okP (hOf τ ns) nc v (nI i) := Or.inr (Or.inl ⟨i, hi, rfl, by rw [sOf_e s2 (by omega)]; omega, ca⟩)
          obtain ⟨σ', p1, p2⟩ := perform_ok hh hvo' hN h12 hn4 ok
          have dc := doP_call (hOf τ ns) (i := i) (by omega) v
          unfold fX0_lackingNow_6
          rw [e13, e14, e17, lackC_e hh hi (by omega) hc6, Option.bind_some, Option.bind_some, p1, e1, e4r, lackR_e hh (by omega) (by omega) hc6, Option.bind_some]
          have hh' : HouseOk σ (pI τ 2 (lackP (hOf τ ns) i s (v 3) c)) ns nc := hh
          simp only [lt_, Option.bind_some]
          rw [doCall_e (v := v) hh' hvo' r0 hn4 rv hi (by rw [sOf_e s2 (by omega)]; omega), Option.bind_some]
          have key := deed_inv h h2 h12 hn4 (by rw [← hv]; exact ok) p2.1 p2.2.1 (by rw [← hv]; exact p2.2.2.1) p2.2.2.2.1 p2.2.2.2.2.1 p2.2.2.2.2.2
          rw [← hv, dc] at key
          refine Same.mk (r := if v 1 < lackP (hOf τ ns) i (sOf v) (v 3) (cOf v) then 0 else 1) (σ' := pI σ' 1 (lackP (hOf τ ns) i s (v 3) c)) (τ' := pI (pM τ 51 (rowN (gM τ 51) n (doCallP (hOf τ ns) i v))) 2 (lackP (hOf τ ns) i s (v 3) c)) ?_ rfl (told_ok key _)
          show some (gI σ' 18 - gI σ 18, pI σ' 1 (lackP (hOf τ ns) i s (v 3) c)) = some ((if v 1 < lackP (hOf τ ns) i (sOf v) (v 3) (cOf v) then 0 else 1), pI σ' 1 (lackP (hOf τ ns) i s (v 3) c))
          have e18 : gI σ' 18 - gI σ 18 = (if v 1 < lackP (hOf τ ns) i (sOf v) (v 3) (cOf v) then 0 else 1) := by
            rw [p2.2.2.1.2.2.2.2.1, dc, hN.2.2.2.2.1]
            show (if v 1 < lackP (hOf τ ns) i (sOf v) (v 3) (cOf v) then v 4 else v 4 + 1) - v 4 = _
            by_cases z : v 1 < lackP (hOf τ ns) i (sOf v) (v 3) (cOf v)
            · rw [if_pos z, if_pos z, Int32.sub_self]
            · rw [if_neg z, if_neg z, k2, nI_1, pk_sub (by omega), show k + 1 - k = 1 by omega]; rfl
          rw [e18]
        · rw [if_neg e4, if_pos ((n40_e hn).mpr e4)]
          exact Same.mk rfl rfl h
      · have ca' : canP (hOf τ ns) v i = false := by simpa using ca
        rw [ca', if0, if_pos rfl, if_pos rfl]
        exact Same.mk rfl rfl h
theorem swap_e {τ : QS} {n : Nat} {v : NV} (hn : gM τ 51 0 = nI n) (h : n < 40) (hv : ∀ j, j < 12 → gM τ 51 (0 + 1 + j) = v j) {i j : Nat} (hi : i < 6) (hj : j < 6) (hij : i ≠ j) : Option.bind (fX5_keepPast_50 τ) (fun q1 => fX5_swapSeats_50 (nI i) (nI j) q1) = some (pM τ 51 (rowN (gM τ 51) n (doSwapP i j v))) := by
  have K : ∀ m, m < 12 → kpR (gM τ 51) n (m + 1) = v m := fun m hm => by
    unfold kpR
    rw [if_neg (by omega), if_neg (by omega), ← hv m hm]
    congr 1
    omega
  rw [keepPast_e hn h, Option.bind_some]
  unfold fX5_swapSeats_50
  simp only [lt_]
  rw [idx7, idx7, ck_t (inb_n (by omega) (by omega)), ck_t (inb_n (by omega) (by omega)), ck_t (inb_n (by omega) (by omega)), ck_t (inb_n (by omega) (by omega)), nI_c (by omega), nI_c (by omega), gM_same, pM_pM, gM_same]
  have : upd (upd (kpR (gM τ 51) n) (7 + i) (kpR (gM τ 51) n (7 + j))) (7 + j) (kpR (gM τ 51) n (7 + i)) = rowN (gM τ 51) n (doSwapP i j v) := by
    funext q
    have k1 : kpR (gM τ 51) n (7 + i) = v (6 + i) := by rw [← K (6 + i) (by omega)]; congr 1; omega
    have k2 : kpR (gM τ 51) n (7 + j) = v (6 + j) := by rw [← K (6 + j) (by omega)]; congr 1; omega
    rw [k1, k2]
    unfold rowN doSwapP
    by_cases e1 : q = 7 + j
    · rw [e1, upd_same, if_neg (by omega), if_pos (by omega), if_neg (by omega), if_pos (by omega)]
    · rw [upd_ne e1]
      by_cases e2 : q = 7 + i
      · rw [e2, upd_same, if_neg (by omega), if_pos (by omega), if_pos (by omega)]
      · rw [upd_ne e2]
        by_cases e0 : q = 0
        · unfold kpR; rw [if_pos e0, if_pos e0]
        · rw [if_neg e0]
          by_cases e12 : q ≤ 12
          · rw [if_pos e12, if_neg (by omega), if_neg (by omega), ← K (q - 1) (by omega)]
            congr 1
            omega
          · rw [if_neg e12]; unfold kpR; rw [if_neg e0]
  rw [this, pM_pM]
theorem doe_e {i j : Nat} : fX0_deedOfChange (nI i) (nI j) = nI (10 + 6 * i + j) := by
  unfold fX0_deedOfChange
  show nI 10 + nI i * nI 6 + nI j = _
  rw [pk_mul, nI_add, nI_add]
  congr 1
  omega
/-- bits of the reference: below ten -/
theorem bitsR_e {x : Nat} (hx : x < 2 ^ 31) : fX5_bits (nI x) = some (nI (pop x 10)) := by
  unfold fX5_bits
  refine for_fu (fun k => (nI (pop x k), nI k)) 10 rfl (by omega) ?_ ?_
  · intro r k hk
    simp only [lt_]
    rw [if_neg (show ¬ (10 : Int32) ≤ nI k from by show ¬ nI 10 ≤ nI k; rw [nI_L (by omega) (by omega)]; omega), bit_e hx (by omega), nI_1 k]
    show _ = r (nI (pop x k + (if x.testBit k then 1 else 0)), nI (k + 1))
    by_cases e : x.testBit k = true
    · rw [if_pos e, if_pos e, nI_1]
    · rw [if_neg e, if_neg e, Int32.add_zero]
      rfl
  · intro r
    simp only []
    rw [if_pos (show (10 : Int32) ≤ nI 10 from by show nI 10 ≤ nI 10; rw [nI_L (by omega) (by omega)]; omega)]
theorem fr_lt {kd st : Nat → Int32} {c ns : Nat} (h : ns ≤ 6) : frS kd st c ns < 64 := pow_le64 h (mkS_lt _ _)
theorem change_same {σ τ : QS} (h : Inv σ τ) (x y : Int32) : Same (fX4_change_0 x y σ) (fX5_change_50 x y τ) := by
  obtain ⟨ns, nc, pr, n, v, h2, hh, hn, h12, hv, hvo, hpr, hN, r0, rv⟩ := h.see
  have hns := hh.1
  have hvo' := hvo
  obtain ⟨-, -, ⟨c, c1, c2⟩, -⟩ := hvo
  have hc6 := pow_le64 hns c1
  unfold fX4_change_0 fX5_change_50
  rw [sitC_e hh, sitR_e hh, sitC_e hh, sitR_e hh]
  rcases pk_ix x (n := ns) (by omega) with hx | hx | ⟨i, hi, rfl⟩
  · rw [inr_bad (Or.inl hx), if_pos rfl, if_pos rfl]
    exact Same.mk rfl rfl h
  · rw [inr_bad (Or.inr hx), if_pos rfl, if_pos rfl]
    exact Same.mk rfl rfl h
  · rw [inr_good hi (by omega), if_neg one_ne, if_neg one_ne]
    rcases pk_ix y (n := ns) (by omega) with hy | hy | ⟨j, hj, rfl⟩
    · rw [inr_bad (Or.inl hy), if_pos rfl, if_pos rfl]
      exact Same.mk rfl rfl h
    · rw [inr_bad (Or.inr hy), if_pos rfl, if_pos rfl]
      exact Same.mk rfl rfl h
    · rw [inr_good hj (by omega), if_neg one_ne, if_neg one_ne]
      by_cases e : i = j
      · rw [if_pos (by rw [e]), if_pos (by rw [e])]
        exact Same.mk rfl rfl h
      · have e' : ¬ nI i = nI j := by rw [nI_e (by omega) (by omega)]; exact e
        rw [if_neg e', if_neg e', h12, r0]
        by_cases e4 : nI n < 40
        · have hn4 : n < 40 := by
            have e4' : nI n < nI 40 := e4
            rwa [nI_l2 (by omega) (by omega)] at e4'
          rw [if_pos e4, if_neg (fun q => (n40_e hn).mp q e4), doe_e]
          have ok : okP (hOf τ ns) nc v (nI (10 + 6 * i + j)) := Or.inr (Or.inr ⟨i, j, hi, hj, e, rfl⟩)
          obtain ⟨σ', p1, p2⟩ := perform_ok hh hvo' hN h12 hn4 ok
          have dc := doP_swap (hOf τ ns) (i := i) (j := j) (by omega) (by omega) v
          have key := deed_inv h h2 h12 hn4 (by rw [← hv]; exact ok) p2.1 p2.2.1 (by rw [← hv]; exact p2.2.2.1) p2.2.2.2.1 p2.2.2.2.2.1 p2.2.2.2.2.2
          rw [← hv, dc] at key
          have sw := swap_e (v := v) r0 hn4 rv (i := i) (j := j) (by omega) (by omega) e
          have sw2 : ∀ (k : QS → Option (Int32 × QS)), Option.bind (fX5_keepPast_50 τ) (fun q1 => Option.bind (fX5_swapSeats_50 (nI i) (nI j) q1) k) = k (pM τ 51 (rowN (gM τ 51) n (doSwapP i j v))) := fun k => by
            have : Option.bind (fX5_keepPast_50 τ) (fun q1 => Option.bind (fX5_swapSeats_50 (nI i) (nI j) q1) k) = Option.bind (Option.bind (fX5_keepPast_50 τ) (fun q1 => fX5_swapSeats_50 (nI i) (nI j) q1)) k := by rw [Option.bind_assoc]
            rw [this, sw, Option.bind_some]
          rw [p1, Option.bind_some, sw2]
          have hh' := hh.keep p2.2.2.2.1 p2.2.2.2.2.2
          have c5 : doSwapP i j v 5 = nI c := by unfold doSwapP; rw [if_neg (by omega), if_neg (by omega)]; exact c2
          have e14 : gI σ' 14 = nI c := by rw [p2.2.2.1.2.2.2.2.2.1, dc, c5]
          have e6 : gM (pM τ 51 (rowN (gM τ 51) n (doSwapP i j v))) 51 6 = nI c := by
            rw [gM_same]
            show doSwapP i j v 5 = nI c
            exact c5
          have hh2 : HouseOk σ' (pM τ 51 (rowN (gM τ 51) n (doSwapP i j v))) ns nc := hh'
          rw [freeC_e hh' e14, Option.bind_some, e6, canB_e hh2 hc6, Option.bind_some, bitCount_e (by have := fr_lt (kd := gM τ 53) (st := gM σ' 25) (c := c) hns; omega), bitsR_e (by have := fr_lt (kd := gM (pM τ 51 (rowN (gM τ 51) n (doSwapP i j v))) 53) (st := fun i_1 => gM (pM τ 51 (rowN (gM τ 51) n (doSwapP i j v))) 51 (7 + i_1)) (c := c) hns; omega), Option.bind_some]
          have ef : frS (gM (pM τ 51 (rowN (gM τ 51) n (doSwapP i j v))) 53) (fun i_1 => gM (pM τ 51 (rowN (gM τ 51) n (doSwapP i j v))) 51 (7 + i_1)) c ns = frS (gM τ 53) (gM σ' 25) c ns := by
            refine frS_cong (fun m hm => ?_)
            rw [gM_same, p2.2.2.1.2.2.2.2.2.2 m hm, dc]
            unfold rowN
            rw [if_neg (by omega), if_pos (by omega)]
            congr 1
            omega
          rw [ef, pop_ge (n := 6) (by have := fr_lt (kd := gM τ 53) (st := gM σ' 25) (c := c) hns; omega) 11 (by omega), pop_ge (n := 6) (by have := fr_lt (kd := gM τ 53) (st := gM σ' 25) (c := c) hns; omega) 10 (by omega)]
          exact Same.mk rfl rfl key
        · rw [if_neg e4, if_pos ((n40_e hn).mpr e4)]
          exact Same.mk rfl rfl h
theorem can_same {σ τ : QS} (h : Inv σ τ) : SameR (fX4_can_0 σ) (fX5_can_50 τ) := by
  obtain ⟨ns, nc, pr, n, v, h2, hh, hn, h12, hv, hvo, hpr, hN, r0, rv⟩ := h.see
  have hns := hh.1
  obtain ⟨-, -, ⟨c, c1, c2⟩, -⟩ := hvo
  have hc6 := pow_le64 hns c1
  have e14 : gI σ 14 = nI c := by rw [hN.2.2.2.2.2.1, c2]
  have e6 : gM τ 51 6 = nI c := by rw [← c2, ← rv 5 (by omega)]
  unfold fX4_can_0 fX5_can_50
  rw [freeC_e hh e14, Option.bind_some, e6, canB_e hh hc6, Option.bind_some]
  refine ⟨_, rfl, ?_⟩
  congr 2
  refine frS_cong (fun m hm => ?_)
  rw [hN.2.2.2.2.2.2 m hm, ← rv (6 + m) (by omega)]
  congr 1
  omega
theorem lines_same {σ τ : QS} (h : Inv σ τ) (x : Int32) : SameR (fX4_lines_0 x σ) (fX5_lines_50 x τ) := by
  obtain ⟨ns, nc, pr, n, v, h2, hh, -⟩ := h.see
  have hnc := hh.2.1
  unfold fX4_lines_0 fX5_lines_50
  rw [hh.2.2.2.2.2.1, hh.2.2.2.2.2.2.1, in_sz (by omega)]
  rcases pk_ix x (n := nc) (by omega) with hx | hx | ⟨i, hi, rfl⟩
  · rw [if_pos hx, if_pos hx, if_pos rfl]
    exact ⟨_, rfl, rfl⟩
  · have c0 : ¬ x < 0 := by
      rw [fa_lt]
      rw [fa_le, nI_toInt (by omega)] at hx
      have : (0 : Int32).toInt = 0 := by decide
      omega
    rw [if_neg c0, if_neg (by rw [fa_lt]; rw [fa_le] at hx; omega), if_neg c0, if_pos hx, if_pos rfl]
    exact ⟨_, rfl, rfl⟩
  · rw [if_neg (nneg (by omega)), if_pos (by rw [nI_l2 (by omega) (by omega)]; exact hi), if_neg (nneg (by omega)), if_neg (show ¬ nI nc ≤ nI i from by rw [nI_L (by omega) (by omega)]; omega), if_neg one_ne, ck_t (inb_n (by omega) (by omega)), ck_t (inb_n (by omega) (by omega)), nI_c (by omega)]
    exact ⟨_, rfl, by rw [(hh.2.2.2.2.2.2.2.1 i hi).1]⟩
