/-! ===== beside, apart ===== -/
theorem pI_pI (σ : QS) (k : Nat) (f g : Int32) : pI (pI σ k f) k g = pI σ k g := by
  unfold pI
  have : va_up (va_up σ.1 k f) k g = va_up σ.1 k g := bx_uu _ _ _ _
  show (va_up (va_up σ.1 k f) k g, σ.2) = _
  rw [this]
theorem pI_self (σ : QS) (k : Nat) : pI σ k (gI σ k) = σ := by
  unfold pI gI
  have : va_up σ.1 k (σ.1 k) = σ.1 := by
    funext j
    by_cases e : j = k
    · simp [va_up, e]
    · simp [va_up, e]
  rw [this]
def stS (p : Nat → Bool) (st : Nat → Nat) : Nat → Nat
  | 0 => 0
  | k + 1 => stS p st k ||| (if p k then 2 ^ st k else 0)
theorem stS_s (p : Nat → Bool) (st : Nat → Nat) (k : Nat) : stS p st (k + 1) = stS p st k ||| (if p k then 2 ^ st k else 0) := rfl
theorem stS_lt {p : Nat → Bool} {st : Nat → Nat} : ∀ n, (∀ i, i < n → st i < 10) → stS p st n < 1024
  | 0, _ => by show 0 < 1024; omega
  | n + 1, h => by
    have ih := stS_lt (p := p) n (fun i hi => h i (by omega))
    unfold stS
    refine Nat.or_lt_two_pow (n := 10) ih ?_
    split
    · exact Nat.pow_lt_pow_right (by omega) (h n (by omega))
    · omega
theorem stS_cong {p q : Nat → Bool} {st : Nat → Nat} : ∀ n, (∀ i, i < n → p i = q i) → stS p st n = stS q st n
  | 0, _ => rfl
  | n + 1, h => by
    unfold stS
    rw [stS_cong n (fun i hi => h i (by omega)), h n (by omega)]
theorem stS_no {p : Nat → Bool} {st : Nat → Nat} : ∀ n, (∀ i, i < n → p i = false) → stS p st n = 0
  | 0, _ => rfl
  | n + 1, h => by
    rw [stS_s, stS_no n (fun i hi => h i (by omega)), h n (by omega), if_neg (by decide)]
    rfl
theorem or0 (a : Nat) : nI a ||| (0 : Int32) = nI (a ||| 0) := by show nI a ||| nI 0 = _; rw [fa_or]
theorem twC_e {σ τ : QS} {ns nc : Nat} (hh : HouseOk σ τ ns nc) {st : Nat → Nat} (hst : ∀ i, i < ns → gM σ 25 i = nI (st i) ∧ st i < 10) {hm : Nat} (h6 : hm < 64) : fX0_takenSeatsWithout_6 (nI hm) σ = some (nI (stS (fun i => !hm.testBit i) st ns)) := by
  have hns := hh.1
  unfold fX0_takenSeatsWithout_6
  refine for_fu (fun k => (nI (stS (fun i => !hm.testBit i) st k), nI k)) ns rfl (by omega) ?_ ?_
  · intro r k hk
    simp only [lt_]
    rw [hh.2.2.2.1, if_neg (by rw [nI_L (by omega) (by omega)]; omega), isIn_e (by omega) (by omega), ck_t (inb_n (by omega) (by omega)), nI_c (by omega), (hst k hk).1, shl_e (by have := (hst k hk).2; omega), fa_or, or0, nI_1, stS_s]
    cases e : hm.testBit k
    · rfl
    · rfl
  · intro r
    simp only []
    rw [hh.2.2.2.1, if_pos (by rw [nI_L (by omega) (by omega)]; omega)]
theorem soR_e {σ τ : QS} {ns nc : Nat} (hh : HouseOk σ τ ns nc) {st : Nat → Nat} (hst : ∀ i, i < ns → gM τ 51 (7 + i) = nI (st i) ∧ st i < 10) {sm : Nat} (h6 : sm < 64) : fX5_seatsOf_50 (nI sm) τ = some (nI (stS (fun i => sm.testBit i) st ns)) := by
  have hns := hh.1
  unfold fX5_seatsOf_50
  refine for_fu (fun k => (nI (stS (fun i => sm.testBit i) st k), nI k)) ns rfl (by omega) ?_ ?_
  · intro r k hk
    simp only [lt_]
    rw [hh.2.2.2.2.1, if_neg (by rw [nI_L (by omega) (by omega)]; omega), has_e (by omega) (by omega), idx7, ck_t (inb_n (by omega) (by omega)), nI_c (by omega), (hst k hk).1, shl_e (by have := (hst k hk).2; omega), fa_or, or0, nI_1, stS_s]
    cases e : sm.testBit k
    · rfl
    · rfl
  · intro r
    simp only []
    rw [hh.2.2.2.2.1, if_pos (by rw [nI_L (by omega) (by omega)]; omega)]
theorem sh_two {a : Nat} (h : a < 1024) : nI a <<< ((1 : Int32) &&& 31) = nI (a * 2) := by
  have := pk_shlN (n := a) (nI 1 &&& 31) 1 (sh_l 1 (by omega)) (by omega)
  exact this
theorem sh_half {a : Nat} (h : a < 1024) : nI a >>> ((1 : Int32) &&& 31) = nI (a / 2) := by
  have := pk_shrN (n := a) (by omega) (nI 1 &&& 31) 1 (sh_l 1 (by omega))
  exact this
theorem pair_pop_fin : ∀ x : Fin 1024, pop (x.val &&& x.val * 2) 11 = pop (x.val &&& x.val / 2) 10 ∧ ((x.val &&& x.val * 2) = 0 ↔ (x.val &&& x.val / 2) = 0) := by decide +kernel
theorem pair_pop {x : Nat} (h : x < 1024) : pop (x &&& x * 2) 11 = pop (x &&& x / 2) 10 := (pair_pop_fin ⟨x, h⟩).1
theorem pair_0 {x : Nat} (h : x < 1024) : (x &&& x * 2) = 0 ↔ (x &&& x / 2) = 0 := (pair_pop_fin ⟨x, h⟩).2
theorem pop_low_fin : ∀ n : Fin 7, ∀ j : Fin 64, j.val + 1 < 2 ^ n.val → pop j.val 11 < n.val := by decide +kernel
theorem pop_all_fin : ∀ n : Fin 7, pop (2 ^ n.val - 1) 11 = n.val ∧ ∀ i : Fin 6, i.val < n.val → (2 ^ n.val - 1).testBit i.val = true := by decide +kernel
theorem pop_low {n j : Nat} (hn : n ≤ 6) (h : j + 1 < 2 ^ n) : pop j 11 < n := by
  have h2 : 2 ^ n ≤ 64 := Nat.pow_le_pow_right (n := 2) (by omega) hn
  exact pop_low_fin ⟨n, by omega⟩ ⟨j, by omega⟩ h
theorem pop_all {n : Nat} (hn : n ≤ 6) : pop (2 ^ n - 1) 11 = n := (pop_all_fin ⟨n, by omega⟩).1
theorem all_bit {n i : Nat} (hn : n ≤ 6) (hi : i < n) : (2 ^ n - 1).testBit i = true := (pop_all_fin ⟨n, by omega⟩).2 ⟨i, by omega⟩ hi
theorem n63_bit : ∀ i : Fin 6, (63 : Nat).testBit i.val = true := by decide
/-- the seats now, as numbers, on both sides -/
theorem seats_now {σ τ : QS} (h : Inv σ τ) : ∃ ns nc, ∃ st : Nat → Nat, HouseOk σ τ ns nc ∧ (∀ i, i < ns → gM σ 25 i = nI (st i) ∧ st i < 10) ∧ (∀ i, i < ns → gM τ 51 (7 + i) = nI (st i) ∧ st i < 10) := by
  obtain ⟨ns, nc, pr, n, v, h2, hh, hn, h12, hv, hvo, hpr, hN, r0, rv⟩ := h.see
  have hns := hh.1
  obtain ⟨-, -, -, hs⟩ := hvo
  have key : ∀ i, i < ns → v (6 + i) = nI (v (6 + i)).toNatClampNeg ∧ (v (6 + i)).toNatClampNeg < 10 := fun i hi => by
    obtain ⟨t, t1, t2⟩ := hs i hi
    rw [t2, nI_c (by omega)]
    exact ⟨rfl, t1⟩
  refine ⟨ns, nc, fun i => (v (6 + i)).toNatClampNeg, hh, fun i hi => ?_, fun i hi => ?_⟩
  · rw [hN.2.2.2.2.2.2 i hi]
    exact key i hi
  · have e : gM τ 51 (7 + i) = v (6 + i) := by
      rw [← rv (6 + i) (by omega)]
      congr 1
      omega
    rw [e]
    exact key i hi
def lgU (T : Nat) : Nat → Int32 × Int32
  | 0 => (0, 0)
  | k + 1 => (if (lgU T k).1 < (if T.testBit k then (lgU T k).2 + 1 else 0) then (if T.testBit k then (lgU T k).2 + 1 else 0) else (lgU T k).1, if T.testBit k then (lgU T k).2 + 1 else 0)
theorem lgU_s (T k : Nat) : lgU T (k + 1) = (if (lgU T k).1 < (if T.testBit k then (lgU T k).2 + 1 else 0) then (if T.testBit k then (lgU T k).2 + 1 else 0) else (lgU T k).1, if T.testBit k then (lgU T k).2 + 1 else 0) := rfl
theorem beside_same {σ τ : QS} (h : Inv σ τ) : Same (fX4_beside_0 σ) (fX5_beside_50 τ) := by
  obtain ⟨ns, nc, st, hh, hC, hR⟩ := seats_now h
  have hns := hh.1
  unfold fX4_beside_0 fX5_beside_50
  rw [hh.2.2.2.1, hh.2.2.2.2.1]
  by_cases e0 : ns = 0
  · rw [if_pos (by rw [e0]; rfl), if_pos (by rw [e0]; rfl)]
    exact Same.mk rfl rfl h
  · have ne : ¬ nI ns = 0 := by rw [nI0_e (by omega)]; exact e0
    rw [if_neg ne, if_neg ne]
    unfold fX0_takenSeats_6
    have e1 : fX0_takenSeatsWithout_6 (0 : Int32) σ = _ := twC_e hh hC (hm := 0) (by omega)
    have e2 : fX5_seatsOf_50 (63 : Int32) τ = _ := soR_e hh hR (sm := 63) (by omega)
    rw [e1, Option.bind_some, Option.bind_some, e2, Option.bind_some]
    have eT : stS (fun i => (63 : Nat).testBit i) st ns = stS (fun i => !(0 : Nat).testBit i) st ns := stS_cong ns (fun i hi => by rw [n63_bit ⟨i, by omega⟩]; simp)
    rw [eT]
    have hT : stS (fun i => !(0 : Nat).testBit i) st ns < 1024 := stS_lt ns (fun i hi => (hC i hi).2)
    generalize stS (fun i => !(0 : Nat).testBit i) st ns = T at hT
    have hand1 : T &&& T * 2 ≤ T := Nat.and_le_left
    have hand2 : T &&& T / 2 ≤ T := Nat.and_le_left
    have hp : pop (T &&& T / 2) 10 = pop (T &&& T * 2) 11 := (pair_pop hT).symm
    refine Same.mk (r := nI (pop (T &&& T * 2) 11)) (σ' := pI σ 1 (lgU T 10).1) (τ' := pI τ 2 (lgU T 10).1) ?_ ?_ (told_ok h _)
    · refine for_fu (fun k => ((lgU T k).1, (lgU T k).2, nI k)) 10 rfl (by omega) ?_ ?_
      · intro r k hk
        simp only [lt_]
        rw [if_neg (show ¬ (9 : Int32) < nI k from by show ¬ nI 9 < nI k; rw [nI_l2 (by omega) (by omega)]; omega), isIn_e (by omega) (by omega), nI_1]
        unfold fJ9_max_7cf53
        rw [lgU_s]
        cases e : T.testBit k
        · rfl
        · rfl
      · intro r
        simp only [lt_]
        rw [if_pos (show (9 : Int32) < nI 10 from by show nI 9 < nI 10; rw [nI_l2 (by omega) (by omega)]; omega), sh_two hT, fa_and, bitCount_e (by omega)]
        rfl
    · refine for_fu (fun k => ((lgU T k).1, (lgU T k).2, nI k)) 10 rfl (by omega) ?_ ?_
      · intro r k hk
        simp only [lt_]
        rw [if_neg (show ¬ (10 : Int32) ≤ nI k from by show ¬ nI 10 ≤ nI k; rw [nI_L (by omega) (by omega)]; omega), has_e (by omega) (by omega), nI_1]
        rw [lgU_s]
        cases e : T.testBit k
        · rw [if0, if_pos rfl]
          by_cases z : (lgU T k).1 < 0
          · rw [if_neg (by rw [fa_le]; rw [fa_lt] at z; omega)]
            simp [z]
          · rw [if_pos (by rw [fa_le]; rw [fa_lt] at z; omega)]
            simp [z]
        · rw [if1, if_neg one_ne]
          by_cases z : (lgU T k).1 < (lgU T k).2 + 1
          · rw [if_neg (by rw [fa_le]; rw [fa_lt] at z; omega)]
            simp [z]
          · rw [if_pos (by rw [fa_le]; rw [fa_lt] at z; omega)]
            simp [z]
      · intro r
        simp only [lt_]
        rw [if_pos (show (10 : Int32) ≤ nI 10 from by show nI 10 ≤ nI 10; rw [nI_L (by omega) (by omega)]; omega), sh_half hT, fa_and, bitsR_e (by omega), Option.bind_some, hp]
def apU (P : Nat → Bool) (ns : Nat) : Nat → Nat × Nat
  | 0 => (ns, 2 ^ ns - 1)
  | k + 1 => if (apU P ns k).1 ≤ pop k 11 then apU P ns k else if P k then (pop k 11, k) else apU P ns k
def apV (P : Nat → Bool) (a0 : Int32) : Nat → Nat × Int32
  | 0 => (999, a0)
  | k + 1 => if P k then (if (apV P a0 k).1 ≤ pop k 11 then apV P a0 k else (pop k 11, nI k)) else apV P a0 k
theorem apU_s (P : Nat → Bool) (ns k : Nat) : apU P ns (k + 1) = if (apU P ns k).1 ≤ pop k 11 then apU P ns k else if P k then (pop k 11, k) else apU P ns k := rfl
theorem apV_s (P : Nat → Bool) (a0 : Int32) (k : Nat) : apV P a0 (k + 1) = if P k then (if (apV P a0 k).1 ≤ pop k 11 then apV P a0 k else (pop k 11, nI k)) else apV P a0 k := rfl
theorem ap_rel {P : Nat → Bool} {ns : Nat} {a0 : Int32} (hns : ns ≤ 6) : ∀ k, k + 1 ≤ 2 ^ ns → (apV P a0 k = (999, a0) ∧ apU P ns k = (ns, 2 ^ ns - 1)) ∨ ((apU P ns k).1 < ns ∧ (apV P a0 k).1 = (apU P ns k).1 ∧ (apV P a0 k).2 = nI (apU P ns k).2)
  | 0, _ => Or.inl ⟨rfl, rfl⟩
  | k + 1, h => by
    have hp := pop_low hns (j := k) (by omega)
    have ih := ap_rel (P := P) (a0 := a0) hns k (by omega)
    rw [apV_s, apU_s]
    rcases ih with ⟨i1, i2⟩ | ⟨i1, i2, i3⟩
    · rw [i1, i2]
      rw [if_neg (show ¬ (ns, 2 ^ ns - 1).1 ≤ pop k 11 from by show ¬ ns ≤ pop k 11; omega)]
      cases P k
      · exact Or.inl ⟨rfl, rfl⟩
      · rw [if_pos rfl, if_pos rfl, if_neg (show ¬ ((999, a0) : Nat × Int32).1 ≤ pop k 11 from by show ¬ 999 ≤ pop k 11; omega)]
        exact Or.inr ⟨hp, rfl, rfl⟩
    · by_cases z : (apU P ns k).1 ≤ pop k 11
      · rw [if_pos z, if_pos (show (apV P a0 k).1 ≤ pop k 11 from by omega)]
        cases P k
        · exact Or.inr ⟨i1, i2, i3⟩
        · exact Or.inr ⟨i1, i2, i3⟩
      · rw [if_neg z, if_neg (show ¬ (apV P a0 k).1 ≤ pop k 11 from by omega)]
        cases P k
        · exact Or.inr ⟨i1, i2, i3⟩
        · exact Or.inr ⟨hp, rfl, rfl⟩
theorem ap_end {P : Nat → Bool} {ns : Nat} {a0 : Int32} (hns : ns ≤ 6) (hP : P (2 ^ ns - 1) = true) : (apV P a0 (2 ^ ns)).1 = (apU P ns (2 ^ ns)).1 ∧ (apV P a0 (2 ^ ns)).2 = nI (apU P ns (2 ^ ns)).2 ∧ (apU P ns (2 ^ ns)).1 ≤ ns := by
  have h0 : 0 < 2 ^ ns := Nat.two_pow_pos ns
  have hp := pop_all hns
  have e : 2 ^ ns = (2 ^ ns - 1) + 1 := by omega
  have ih := ap_rel (P := P) (a0 := a0) hns (2 ^ ns - 1) (by omega)
  rw [e]
  generalize 2 ^ ns - 1 = k at hP hp ih
  rw [apV_s, apU_s]
  rw [hp, hP, if_pos rfl, if_pos rfl]
  rcases ih with ⟨i1, i2⟩ | ⟨i1, i2, i3⟩
  · rw [i1, i2, if_neg (show ¬ ((999, a0) : Nat × Int32).1 ≤ ns from by show ¬ 999 ≤ ns; omega), if_pos (Nat.le_refl ns)]
    exact ⟨rfl, rfl, Nat.le_refl ns⟩
  · by_cases z : (apU P ns k).1 ≤ ns
    · rw [if_pos z, if_pos (show (apV P a0 k).1 ≤ ns from by omega)]
      exact ⟨i2, i3, z⟩
    · omega
theorem apU_le {P : Nat → Bool} {ns : Nat} : ∀ k, (apU P ns k).1 ≤ ns ∧ (apU P ns k).2 < 2 ^ ns + k
  | 0 => ⟨Nat.le_refl _, by have := Nat.two_pow_pos ns; show 2 ^ ns - 1 < 2 ^ ns + 0; omega⟩
  | k + 1 => by
    have ih := apU_le (P := P) (ns := ns) k
    rw [apU_s]
    split
    · exact ⟨ih.1, by omega⟩
    · split
      · have hp := Nat.two_pow_pos ns
        refine ⟨?_, ?_⟩
        · show pop k 11 ≤ ns; omega
        · show k < 2 ^ ns + (k + 1); omega
      · exact ⟨ih.1, by omega⟩
theorem apV_le {P : Nat → Bool} {a0 : Int32} : ∀ k, (apV P a0 k).1 ≤ 999
  | 0 => Nat.le_refl _
  | k + 1 => by
    have ih := apV_le (P := P) (a0 := a0) k
    rw [apV_s]
    split
    · split
      · exact ih
      · show pop k 11 ≤ 999; omega
    · exact ih
theorem apart_same {σ τ : QS} (h : Inv σ τ) : Same (fX4_apart_0 σ) (fX5_apart_50 τ) := by
  obtain ⟨ns, nc, st, hh, hC, hR⟩ := seats_now h
  have hns := hh.1
  unfold fX4_apart_0 fX5_apart_50
  rw [hh.2.2.2.1, hh.2.2.2.2.1]
  by_cases e0 : ns = 0
  · rw [if_pos (by rw [e0]; rfl), if_pos (by rw [e0]; rfl)]
    exact Same.mk rfl rfl h
  · have ne : ¬ nI ns = 0 := by rw [nI0_e (by omega)]; exact e0
    have h64 : 2 ^ ns ≤ 64 := Nat.pow_le_pow_right (n := 2) (by omega) hns
    have h1 : 0 < 2 ^ ns := Nat.two_pow_pos ns
    have e2 : nI (2 ^ ns) - 1 = nI (2 ^ ns - 1) := by show nI (2 ^ ns) - nI 1 = _; rw [pk_sub (by omega)]
    rw [if_neg ne, if_neg ne, shl_e (show ns < 31 by omega)]
    simp only [lt_]
    rw [e2]
    let T : Nat → Nat := fun k => stS (fun i => !k.testBit i) st ns
    have hT : ∀ k, T k < 1024 := fun k => stS_lt ns (fun i hi => (hC i hi).2)
    let P : Nat → Bool := fun k => decide ((T k &&& T k * 2) = 0)
    have hP : P (2 ^ ns - 1) = true := by
      have z : T (2 ^ ns - 1) = 0 := stS_no ns (fun i hi => by rw [all_bit hns hi]; rfl)
      show decide ((T (2 ^ ns - 1) &&& T (2 ^ ns - 1) * 2) = 0) = true
      rw [z]
      rfl
    have p10 : ∀ k, k < 64 → pop k 10 = pop k 11 := fun k hk => by rw [pop_ge (n := 6) (by omega) 10 (by omega), pop_ge (n := 6) (by omega) 11 (by omega)]
    have ppop : ∀ k, pop k 11 < 1000 := fun k => by
      have : ∀ n, pop k n ≤ n := fun n => by
        induction n with
        | zero => exact Nat.le_refl 0
        | succ n ih => show pop k n + _ ≤ n + 1; split <;> omega
      have := this 11
      omega
    obtain ⟨q1, q2, q3⟩ := ap_end (a0 := gI τ 2) hns hP
    refine Same.mk (r := nI (apU P ns (2 ^ ns)).1) (σ' := pI σ 1 (nI (apU P ns (2 ^ ns)).2)) (τ' := pI τ 2 (nI (apU P ns (2 ^ ns)).2)) ?_ ?_ (told_ok h _)
    · refine for_fu (fun k => (nI (apU P ns k).1, nI (apU P ns k).2, nI k)) (2 ^ ns) rfl (by omega) ?_ ?_
      · intro r k hk
        simp only [lt_]
        have ul := apU_le (P := P) (ns := ns) k
        have hand : T k &&& T k * 2 ≤ T k := Nat.and_le_left
        have hTk := hT k
        have pk := ppop k
        rw [if_neg (by rw [nI_L (by omega) (by omega)]; omega), twC_e hh hC (hm := k) (by omega), Option.bind_some, bitCount_e (by omega), sh_two (hT k), fa_and, nI_1]
        rw [apU_s]
        by_cases z : (apU P ns k).1 ≤ pop k 11
        · rw [if_pos (by rw [nI_L (by omega) (by omega)]; exact z), if_pos z]
        · rw [if_neg (by rw [nI_L (by omega) (by omega)]; exact z), if_neg z]
          by_cases y : (T k &&& T k * 2) = 0
          · rw [if_pos ((nI0_e (by omega)).mpr y), if_pos (show P k = true from decide_eq_true y)]
          · rw [if_neg (fun w => y ((nI0_e (by omega)).mp w)), if_neg (show ¬ P k = true from by show ¬ decide _ = true; rw [decide_eq_false y]; decide)]
      · intro r
        simp only [lt_]
        rw [if_pos (by rw [nI_L (by omega) (by omega)]; omega)]
        rfl
    · have est : pI τ 2 (apV P (gI τ 2) 0).2 = τ := pI_self τ 2
      refine for_fu (fun k => (nI (apV P (gI τ 2) k).1, nI k, pI τ 2 (apV P (gI τ 2) k).2)) (2 ^ ns) ?_ (by omega) ?_ ?_
      · show (_, _, τ) = (nI 999, nI 0, pI τ 2 (apV P (gI τ 2) 0).2)
        rw [est]
        rfl
      · intro r k hk
        simp only [lt_]
        have vl := apV_le (P := P) (a0 := gI τ 2) k
        have hand : T k &&& T k / 2 ≤ T k := Nat.and_le_left
        have hTk := hT k
        have pk := ppop k
        have hh' : HouseOk σ (pI τ 2 (apV P (gI τ 2) k).2) ns nc := hh
        have esm : nI (2 ^ ns - 1) &&& (nI k ^^^ (-1)) = nI (dif (2 ^ ns - 1) k) := dif_e _ _
        have ld : dif (2 ^ ns - 1) k < 64 := Nat.lt_of_le_of_lt (dif_le _ _) (by omega)
        have eT : stS (fun i => (dif (2 ^ ns - 1) k).testBit i) st ns = T k := stS_cong ns (fun i hi => by rw [dif_bit _ _ _ (by omega), all_bit hns hi]; simp)
        rw [if_neg (by rw [nI_l2 (by omega) (by omega)]; omega), esm, soR_e hh' (st := st) hR ld, Option.bind_some, eT, sh_half (hT k), fa_and, bitsR_e (by omega), p10 k (by omega), Option.bind_some, Option.bind_some, nI_1, pI_pI, pI_pI]
        rw [apV_s]
        by_cases y : (T k &&& T k * 2) = 0
        · have y2 : (T k &&& T k / 2) = 0 := (pair_0 hTk).mp y
          rw [if_pos ((nI0_e (by omega)).mpr y2)]
          by_cases z : (apV P (gI τ 2) k).1 ≤ pop k 11
          · rw [if_pos (by rw [nI_L (by omega) (by omega)]; exact z), if_pos trivial, if_pos trivial, if_pos (show P k = true from decide_eq_true y), if_pos z, gI_same]
          · rw [if_neg (by rw [nI_L (by omega) (by omega)]; exact z), if_neg one_ne, if_neg one_ne, if_pos (show P k = true from decide_eq_true y), if_neg z, Option.bind_some]
        · have y2 : ¬ (T k &&& T k / 2) = 0 := fun w => y ((pair_0 hTk).mpr w)
          rw [if_neg (fun w => y2 ((nI0_e (by omega)).mp w)), if_pos trivial, if_pos trivial, if_neg (show ¬ P k = true from by show ¬ decide _ = true; rw [decide_eq_false y]; decide), gI_same]
      · intro r
        simp only []
        rw [if_pos (by rw [nI_l2 (by omega) (by omega)]; omega), q1, q2]
