theorem if0 : (if (false = true) then (1 : Int32) else 0) = 0 := rfl
theorem if1 : (if (true = true) then (1 : Int32) else 0) = 1 := rfl
/-! ===== the helpers of class and reference, over a house that both hold ===== -/
def inr (x : Int32) (n : Nat) : Int32 := if x < 0 then 0 else if nI n ≤ x then 0 else 1
theorem inr_bad {x : Int32} {n : Nat} (h : x < 0 ∨ nI n ≤ x) : inr x n = 0 := by
  unfold inr
  rcases h with h | h
  · rw [if_pos h]
  · by_cases c : x < 0
    · rw [if_pos c]
    · rw [if_neg c, if_pos h]
theorem inr_good {i n : Nat} (h : i < n) (hn : n < 1000000) : inr (nI i) n = 1 := by
  unfold inr
  rw [if_neg (nneg (by omega)), if_neg (by rw [nI_L (by omega) (by omega)]; omega)]
theorem sitC_e {σ τ : QS} {ns nc : Nat} (h : HouseOk σ τ ns nc) (x : Int32) : fX1_isSitter_5 x σ = inr x ns := by
  unfold fX1_isSitter_5
  rw [h.2.2.2.1]
  rfl
theorem sitR_e {σ τ : QS} {ns nc : Nat} (h : HouseOk σ τ ns nc) (x : Int32) : fX5_isSitter_50 x τ = inr x ns := by
  unfold fX5_isSitter_50
  rw [h.2.2.2.2.1]
  exact in_sz (by have := h.1; omega)
theorem pow_le64 {ns c : Nat} (h : ns ≤ 6) (hc : c < 2 ^ ns) : c < 64 := Nat.lt_of_lt_of_le hc (Nat.pow_le_pow_right (by omega) h)
theorem p2_lt {i : Nat} (h : i < 6) : 2 ^ i < 64 := Nat.pow_lt_pow_right (by omega) h
theorem clqC_e {σ τ : QS} {ns nc : Nat} (h : HouseOk σ τ ns nc) {i c : Nat} (hi : i < 6) (hc : c < 64) : fX1_otherClaques_5 (nI i) (nI c) σ = nI (clq (gM τ 53) i c ns) := by
  obtain ⟨h1, h2, h3, h4, h5, h6, h7, h8, h9, cb, hb1, hb2, hb3⟩ := h
  have hcb := pow_le64 h1 hb1
  have l1 : dif (dif cb c) (2 ^ i) ≤ cb := Nat.le_trans (dif_le _ _) (dif_le _ _)
  unfold fX1_otherClaques_5
  rw [hb2, shl_e (by omega), dif_e, dif_e, bitCount_e (by omega), pop_ge (n := ns) (Nat.lt_of_le_of_lt l1 hb1) 11 (by omega), pop_clq (kd := gM τ 53) ns (by omega) (fun j hj => by rw [hb3 j hj, (h9 j hj).1])]
theorem clqR_e {σ τ : QS} {ns nc : Nat} (h : HouseOk σ τ ns nc) {i c : Nat} (hi : i < 1000) (hc : c < 64) : fX5_claques_50 (nI i) (nI c) τ = some (nI (clq (gM τ 53) i c ns)) := by
  have h1 := h.1
  unfold fX5_claques_50
  refine for_fu (fun k => (nI (clq (gM τ 53) i c k), nI k)) ns rfl (by omega) ?_ ?_
  · intro r k hk
    simp only [lt_]
    rw [h.2.2.2.2.1, if_neg (by rw [nI_L (by omega) (by omega)]; omega)]
    by_cases e : k = i
    · rw [if_pos (by rw [e]), nI_1 k]
      have : clq (gM τ 53) i c (k + 1) = clq (gM τ 53) i c k := by
        show clq (gM τ 53) i c k + _ = _
        rw [if_neg (fun q => q.1 e)]; omega
      rw [this, Int32.add_zero]
    · rw [if_neg (by rw [nI_e (by omega) (by omega)]; exact e), ck_t (inb_n (by omega) (by omega)), nI_c (by omega), has_e (by omega) (by omega), nI_1 k]
      by_cases e5 : gM τ 53 k = 5
      · rw [if_pos e5]
        by_cases e6 : c.testBit k = true
        · rw [e6, if1, if_neg one_ne]
          have : clq (gM τ 53) i c (k + 1) = clq (gM τ 53) i c k := by
            show clq (gM τ 53) i c k + _ = _
            rw [if_neg (fun q => by rw [e6] at q; exact absurd q.2.2 (by decide))]; omega
          rw [this, Int32.add_zero]
        · have e7 : c.testBit k = false := by simpa using e6
          rw [e7, if0, if_pos rfl]
          have : clq (gM τ 53) i c (k + 1) = clq (gM τ 53) i c k + 1 := by
            show clq (gM τ 53) i c k + _ = _
            rw [if_pos ⟨e, e5, e7⟩]
          rw [this, nI_1]
      · rw [if_neg e5]
        have : clq (gM τ 53) i c (k + 1) = clq (gM τ 53) i c k := by
          show clq (gM τ 53) i c k + _ = _
          rw [if_neg (fun q => e5 q.2.1)]; omega
        rw [this, Int32.add_zero]
  · intro r
    simp only []
    rw [h.2.2.2.2.1, if_pos (by rw [nI_L (by omega) (by omega)]; omega)]
theorem saysR_e {σ τ : QS} {ns nc : Nat} (h : HouseOk σ τ ns nc) {i c : Nat} (hi : i < 6) (hc : c < 64) (a : Int32) : fX5_saysOf_50 (nI i) a (nI c) τ = some (sayP (hOf τ ns) i a c) := by
  unfold fX5_saysOf_50
  rw [ck_t (inb_n hi (by omega)), ck_t (inb_n hi (by omega)), ck_t (inb_n hi (by omega)), clqR_e h (by omega) hc, Option.bind_some, nI_c (by omega)]
  rfl
theorem lackR_e {σ τ : QS} {ns nc : Nat} (h : HouseOk σ τ ns nc) {i s c : Nat} (hi : i < 6) (hs : s < 6) (hc : c < 64) (a : Int32) : fX5_lacking_50 (nI i) (nI s) a (nI c) τ = some (lackP (hOf τ ns) i s a c) := by
  unfold fX5_lacking_50
  rw [ck_t (inb_n hs (by omega)), saysR_e h hi hc, Option.bind_some, nI_c (by omega)]
  rfl
theorem lackC_e {σ τ : QS} {ns nc : Nat} (h : HouseOk σ τ ns nc) {i s c : Nat} (hi : i < ns) (hs : s < nc) (hc : c < 64) (a : Int32) : fX1_lacking_5 (nI i) (nI s) (nI c) a σ = some (lackP (hOf τ ns) i s a c) := by
  have h1 := h.1
  have h2 := h.2.1
  unfold fX1_lacking_5
  rw [sitC_e h, inr_good hi (by omega), if_neg one_ne, if_neg (nneg (by omega)), h.2.2.2.2.2.1, if_pos (by rw [nI_l2 (by omega) (by omega)]; exact hs)]
  simp only [lt_]
  rw [ck_t (inb_n (by omega) (by omega)), ck_t (inb_n (by omega) (by omega)), ck_t (inb_n (by omega) (by omega)), ck_t (inb_n (by omega) (by omega)), clqC_e h (by omega) hc, max0_e, says_e, nI_c (by omega), nI_c (by omega)]
  obtain ⟨e1, e2, e3, -⟩ := h.2.2.2.2.2.2.2.2.1 i hi
  rw [e1, e2, e3, (h.2.2.2.2.2.2.2.1 s hs).1]
  rfl
/-- who may be called from his seat: a set -/
noncomputable def alS (kd st : Nat → Int32) (ns : Nat) : Nat := mkS (fun i => sitP (kd i) (st i)) ns
theorem alC_e {σ τ : QS} {ns nc : Nat} (h : HouseOk σ τ ns nc) : fX0_allowed_6 σ = some (nI (alS (gM τ 53) (gM σ 25) ns)) := by
  have h1 := h.1
  unfold fX0_allowed_6
  refine for_fu (fun k => (nI (alS (gM τ 53) (gM σ 25) k), nI k)) ns rfl (by omega) ?_ ?_
  · intro r k hk
    simp only [lt_]
    rw [h.2.2.2.1, if_neg (by rw [nI_L (by omega) (by omega)]; omega), ck_t (inb_n (by omega) (by omega)), ck_t (inb_n (by omega) (by omega)), nI_c (by omega), sit_e, (h.2.2.2.2.2.2.2.2.1 k hk).1, nI_1 k]
    by_cases e : sitP (gM τ 53 k) (gM σ 25 k) = true
    · rw [e, if1, if_neg one_ne, shl_e (by omega), fa_or]
      have : alS (gM τ 53) (gM σ 25) (k + 1) = alS (gM τ 53) (gM σ 25) k ||| 2 ^ k := by
        show mkS _ k ||| _ = _
        rw [if_pos e]; rfl
      rw [this]
    · have e' : sitP (gM τ 53 k) (gM σ 25 k) = false := by simpa using e
      rw [e', if0, if_pos rfl]
      have : alS (gM τ 53) (gM σ 25) (k + 1) = alS (gM τ 53) (gM σ 25) k ||| 0 := by
        show mkS _ k ||| _ = _
        rw [if_neg e]; rfl
      rw [this, ← fa_or]
      rfl
  · intro r
    simp only []
    rw [h.2.2.2.1, if_pos (by rw [nI_L (by omega) (by omega)]; omega)]
theorem al_lt (kd st : Nat → Int32) (ns : Nat) : alS kd st ns < 2 ^ ns := mkS_lt _ _
theorem idx7 (i : Nat) : (7 : Int32) + nI i = nI (7 + i) := by
  show nI 7 + nI i = _
  rw [nI_add]
theorem canSit_e {i : Nat} (hi : i < 6) (τ : QS) : fX5_canSit_50 (nI i) τ = some (if sitP (gM τ 53 i) (gM τ 51 (7 + i)) then 1 else 0) := by
  unfold fX5_canSit_50
  simp only [lt_]
  rw [idx7, ck_t (inb_n (by omega) (by omega)), ck_t (inb_n (by omega) (by omega)), ck_t (inb_n (by omega) (by omega)), nI_c (by omega), nI_c (by omega), ← sit_e]
  unfold fX4_isCallableFrom
  by_cases h2 : gM τ 53 i = 2
  · rw [if_pos h2, if_pos h2]; split <;> rfl
  · rw [if_neg h2, if_neg h2]
    by_cases h4 : gM τ 53 i = 4
    · rw [if_pos h4, if_pos h4]; split <;> rfl
    · rw [if_neg h4, if_neg h4]
theorem may_e {i c : Nat} (hi : i < 6) (hc : c < 64) (τ : QS) : fX5_mayCall_50 (nI i) (nI c) τ = some (if (!(c.testBit i) && sitP (gM τ 53 i) (gM τ 51 (7 + i))) = true then 1 else 0) := by
  unfold fX5_mayCall_50
  rw [has_e (by omega) (by omega), canSit_e hi]
  cases c.testBit i
  · rw [if0, if_pos rfl, Option.bind_some]
    cases sitP (gM τ 53 i) (gM τ 51 (7 + i)) <;> rfl
  · rw [if1, if_neg one_ne]
    rfl
/-- who can be called now: a set -/
noncomputable def frS (kd st : Nat → Int32) (c ns : Nat) : Nat := mkS (fun i => !(c.testBit i) && sitP (kd i) (st i)) ns
theorem canB_e {σ τ : QS} {ns nc : Nat} (h : HouseOk σ τ ns nc) {c : Nat} (hc : c < 64) : fX5_canBits_50 (nI c) τ = some (nI (frS (gM τ 53) (fun i => gM τ 51 (7 + i)) c ns)) := by
  have h1 := h.1
  unfold fX5_canBits_50
  refine for_fu (fun k => (nI (frS (gM τ 53) (fun i => gM τ 51 (7 + i)) c k), nI k)) ns rfl (by omega) ?_ ?_
  · intro r k hk
    simp only [lt_]
    rw [h.2.2.2.2.1, if_neg (by rw [nI_L (by omega) (by omega)]; omega), may_e (by omega) hc, Option.bind_some, nI_1 k]
    by_cases e : (!(c.testBit k) && sitP (gM τ 53 k) (gM τ 51 (7 + k))) = true
    · rw [if_pos e, if_neg one_ne, shl_e (by omega), fa_or]
      have : frS (gM τ 53) (fun i => gM τ 51 (7 + i)) c (k + 1) = frS (gM τ 53) (fun i => gM τ 51 (7 + i)) c k ||| 2 ^ k := by
        show mkS _ k ||| _ = _
        rw [if_pos e]; rfl
      rw [this]
    · rw [if_neg e, if_pos rfl]
      have : frS (gM τ 53) (fun i => gM τ 51 (7 + i)) c (k + 1) = frS (gM τ 53) (fun i => gM τ 51 (7 + i)) c k ||| 0 := by
        show mkS _ k ||| _ = _
        rw [if_neg e]; rfl
      rw [this, ← fa_or]
      rfl
  · intro r
    simp only []
    rw [h.2.2.2.2.1, if_pos (by rw [nI_L (by omega) (by omega)]; omega)]
theorem fr_al {kd st : Nat → Int32} {c ns : Nat} (h : ns ≤ 6) : dif (alS kd st ns) c = frS kd st c ns := by
  refine Nat.eq_of_testBit_eq fun i => ?_
  by_cases hi : i < 32
  · rw [dif_bit _ _ _ hi]
    unfold alS frS
    rw [mkS_bit, mkS_bit]
    by_cases l : i < ns
    · simp [l]; exact Bool.and_comm _ _
    · simp [l]
  · have l1 : dif (alS kd st ns) c < 2 ^ i := Nat.lt_of_le_of_lt (dif_le _ _) (Nat.lt_of_lt_of_le (al_lt _ _ _) (Nat.pow_le_pow_right (by omega) (by omega)))
    have l2 : frS kd st c ns < 2 ^ i := Nat.lt_of_lt_of_le (mkS_lt _ _) (Nat.pow_le_pow_right (by omega) (by omega))
    rw [Nat.testBit_lt_two_pow l1, Nat.testBit_lt_two_pow l2]
theorem freeC_e {σ τ : QS} {ns nc : Nat} (h : HouseOk σ τ ns nc) {c : Nat} (hc : gI σ 14 = nI c) : fX0_free_6 σ = some (nI (frS (gM τ 53) (gM σ 25) c ns)) := by
  unfold fX0_free_6
  rw [alC_e h, Option.bind_some, hc, dif_e, fr_al h.1]
