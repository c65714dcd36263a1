/-! ===== sets by bits; what one says ===== -/
def pop (x : Nat) : Nat → Nat
  | 0 => 0
  | j + 1 => pop x j + (if x.testBit j then 1 else 0)
def mkS (p : Nat → Bool) : Nat → Nat
  | 0 => 0
  | n + 1 => mkS p n ||| (if p n then 2 ^ n else 0)
def dif (a b : Nat) : Nat := a &&& (b ^^^ 4294967295)
theorem mkS_bit (p : Nat → Bool) : ∀ n i, (mkS p n).testBit i = (decide (i < n) && p i)
  | 0, i => by simp [mkS]
  | n + 1, i => by
    have ih := mkS_bit p n i
    unfold mkS
    rw [Nat.testBit_or, ih]
    by_cases h : p n = true
    · rw [if_pos h, Nat.testBit_two_pow]
      by_cases e : n = i
      · subst e; simp [h]
      · have : decide (n = i) = false := by simp [e]
        rw [this]
        by_cases l : i < n
        · simp [l, Nat.lt_succ_of_lt l]
        · simp [l, show ¬ i < n + 1 by omega]
    · rw [if_neg h, Nat.zero_testBit]
      have hf : p n = false := by simpa using h
      by_cases e : n = i
      · subst e; simp [hf]
      · by_cases l : i < n
        · simp [l, Nat.lt_succ_of_lt l]
        · simp [l, show ¬ i < n + 1 by omega]
theorem mkS_lt (p : Nat → Bool) : ∀ n, mkS p n < 2 ^ n
  | 0 => by simp [mkS]
  | n + 1 => by
    unfold mkS
    refine Nat.or_lt_two_pow ?_ ?_
    · exact Nat.lt_trans (mkS_lt p n) (Nat.pow_lt_pow_right (by omega) (by omega))
    · by_cases h : p n = true
      · rw [if_pos h]; exact Nat.pow_lt_pow_right (by omega) (by omega)
      · rw [if_neg h]; exact Nat.pos_of_ne_zero (by simp)
theorem mkS_cong {p q : Nat → Bool} {n : Nat} (h : ∀ i, i < n → p i = q i) : mkS p n = mkS q n := by
  refine Nat.eq_of_testBit_eq fun i => ?_
  rw [mkS_bit, mkS_bit]
  by_cases l : i < n
  · simp [l, h i l]
  · simp [l]
theorem m32_bit : ∀ i, i < 32 → (4294967295 : Nat).testBit i = true := by decide
theorem dif_bit (a b i : Nat) (h : i < 32) : (dif a b).testBit i = (a.testBit i && !(b.testBit i)) := by
  unfold dif
  rw [Nat.testBit_and, Nat.testBit_xor, m32_bit i h]
  cases b.testBit i <;> simp
theorem dif_le (a b : Nat) : dif a b ≤ a := Nat.and_le_left
theorem pop_ge {x n : Nat} (hx : x < 2 ^ n) : ∀ m, n ≤ m → pop x m = pop x n := by
  intro m
  induction m with
  | zero => intro h; have : n = 0 := by omega
            rw [this]
  | succ m ih =>
    intro h
    by_cases e : n = m + 1
    · rw [e]
    · show pop x m + (if x.testBit m then 1 else 0) = pop x n
      rw [ih (by omega), Nat.testBit_lt_two_pow (Nat.lt_of_lt_of_le hx (Nat.pow_le_pow_right (by omega) (by omega)))]
      simp
theorem pop_cong {x y : Nat} : ∀ n, (∀ i, i < n → x.testBit i = y.testBit i) → pop x n = pop y n
  | 0, _ => rfl
  | n + 1, h => by
    unfold pop
    rw [pop_cong n (fun i hi => h i (by omega)), h n (by omega)]
theorem bitCount_fin : ∀ x : Fin 2048, fJ6_bitCount_0f7a4 (nI x.val) = nI (pop x.val 11) := by decide +kernel
theorem bitCount_e {x : Nat} (h : x < 2048) : fJ6_bitCount_0f7a4 (nI x) = nI (pop x 11) := bitCount_fin ⟨x, h⟩
theorem sh_l : ∀ n, n < 32 → ((nI n &&& 31).toBitVec.smod 32).toNat = n := by decide
theorem bit_e {a i : Nat} (ha : a < 2 ^ 31) (hi : i < 32) : (nI a >>> (nI i &&& 31)) &&& 1 = if a.testBit i then 1 else 0 := by
  rw [pk_shrN ha _ i (sh_l i hi), pk_andN (n := a / 2 ^ i) (by have := Nat.div_le_self a (2 ^ i); omega) (m := 1) 1 (by decide), Nat.testBit_eq_decide_div_mod_eq]
  rcases Nat.mod_two_eq_zero_or_one (a / 2 ^ i) with h | h
  · rw [show (2 : Nat) ^ 1 = 2 from rfl, h]; rfl
  · rw [show (2 : Nat) ^ 1 = 2 from rfl, h]; rfl
theorem isIn_e {a i : Nat} (ha : a < 2 ^ 31) (hi : i < 32) : fX4_isIn (nI a) (nI i) = if a.testBit i then 1 else 0 := by
  unfold fX4_isIn
  rw [if_neg (nneg (by omega)), if_neg (show ¬ (32 : Int32) ≤ nI i from by show ¬ nI 32 ≤ nI i; rw [nI_L (by omega) (by omega)]; omega), bit_e ha hi]
  cases a.testBit i <;> rfl
theorem has_e {a i : Nat} (ha : a < 2 ^ 31) (hi : i < 32) : fX5_has (nI a) (nI i) = if a.testBit i then 1 else 0 := by
  unfold fX5_has
  rw [bit_e ha hi]
  cases a.testBit i <;> rfl
theorem shl_e {i : Nat} (hi : i < 31) : (1 : Int32) <<< (nI i &&& 31) = nI (2 ^ i) := by
  have h := pk_shlN (n := 1) (nI i &&& 31) i (sh_l i (by omega)) (by have := Nat.pow_lt_pow_right (a := 2) (by omega) (show i < 32 by omega); omega)
  rw [Nat.one_mul] at h
  exact h
theorem m1_n : (-1 : Int32) = nI 4294967295 := by decide
theorem dif_e (a b : Nat) : nI a &&& (nI b ^^^ (-1)) = nI (dif a b) := by
  rw [m1_n, fb_xorI, fa_and]
  rfl
theorem max0_e (x : Int32) : fJ9_max_7cf53 0 x = fX5_atLeast x := by
  unfold fJ9_max_7cf53 fX5_atLeast
  by_cases h : 0 < x
  · rw [if_pos h, if_pos (by rw [fa_le]; rw [fa_lt] at h; omega)]
  · rw [if_neg h]
    by_cases h2 : 0 ≤ x
    · rw [if_pos h2]
      rw [fa_lt] at h
      rw [fa_le] at h2
      rw [fa_eq]
      omega
    · rw [if_neg h2]
theorem uncle_e (k : Int32) : fX4_isOfKind k 3 = fX5_isUncle k := by
  unfold fX4_isOfKind fX5_isUncle
  rw [if_neg (by decide), if_neg (by decide), if_neg (by decide), if_pos rfl]
theorem clerk_e (k : Int32) : fX4_isOfKind k 1 = fX5_isClerk k := by
  unfold fX4_isOfKind fX5_isClerk fX5_isUncle
  rw [if_neg (by decide), if_pos rfl]
  by_cases h1 : k = 1
  · rw [if_pos h1, if_pos h1]
  · rw [if_neg h1, if_neg h1]
    by_cases h3 : k = 3
    · rw [if_pos h3]; rfl
    · rw [if_neg h3]
      by_cases h5 : k = 5
      · rw [if_pos h5]; rfl
      · rw [if_neg h5]; rfl
theorem fears_e (k f a : Int32) : fX4_fears k f a = fX5_fearsBy k f a := by
  unfold fX4_fears fX5_fearsBy
  simp only [lt_]
  rw [max0_e, uncle_e]
theorem says_e (k m f a c : Int32) : fX4_says k m f a c = fX5_saysBy k m f a c := by
  unfold fX4_says fX5_saysBy
  simp only [lt_]
  rw [max0_e, fears_e, clerk_e]
  by_cases h : fX5_isClerk k = 0
  · rw [if_pos h, if_pos h, Int32.add_zero, Int32.add_zero]
  · rw [if_neg h, if_neg h, Int32.add_zero]
theorem sit_e (k s : Int32) : fX4_isCallableFrom k s = if sitP k s then 1 else 0 := by
  have : fX4_isCallableFrom k s = 0 ∨ fX4_isCallableFrom k s = 1 := by
    unfold fX4_isCallableFrom
    split
    · split
      · exact Or.inr rfl
      · exact Or.inl rfl
    · split
      · split
        · exact Or.inl rfl
        · exact Or.inr rfl
      · exact Or.inr rfl
  unfold sitP
  rcases this with h | h
  · rw [h]; rfl
  · rw [h]; rfl
theorem pop_clq {kd : Nat → Int32} {cb c i : Nat} : ∀ n, n < 32 → (∀ j, j < n → cb.testBit j = decide (kd j = 5)) → pop (dif (dif cb c) (2 ^ i)) n = clq kd i c n
  | 0, _, _ => rfl
  | n + 1, hn, h => by
    unfold pop clq
    rw [pop_clq n (by omega) (fun j hj => h j (by omega)), dif_bit _ _ _ (by omega), dif_bit _ _ _ (by omega), h n (by omega), Nat.testBit_two_pow]
    congr 1
    by_cases e1 : kd n = 5
    · by_cases e2 : c.testBit n = true
      · simp [e1, e2]
      · have e2' : c.testBit n = false := by simpa using e2
        by_cases e3 : i = n
        · simp [e1, e2', e3]
        · simp [e1, e2', e3, Ne.symm e3]
    · simp [e1]
