/-! ===== pure facts: reads over writes, small numbers, loops ===== -/
theorem gI_pI (σ : QS) (k : Nat) (v : Int32) (j : Nat) : gI (pI σ k v) j = if j = k then v else gI σ j := rfl
theorem gI_pJ (σ : QS) (k : Nat) (v : Int64) (j : Nat) : gI (pJ σ k v) j = gI σ j := rfl
theorem gI_pM (σ : QS) (k : Nat) (f : Nat → Int32) (j : Nat) : gI (pM σ k f) j = gI σ j := rfl
theorem gJ_pI (σ : QS) (k : Nat) (v : Int32) (j : Nat) : gJ (pI σ k v) j = gJ σ j := rfl
theorem gJ_pJ (σ : QS) (k : Nat) (v : Int64) (j : Nat) : gJ (pJ σ k v) j = if j = k then v else gJ σ j := rfl
theorem gJ_pM (σ : QS) (k : Nat) (f : Nat → Int32) (j : Nat) : gJ (pM σ k f) j = gJ σ j := rfl
theorem gM_pI (σ : QS) (k : Nat) (v : Int32) (j : Nat) : gM (pI σ k v) j = gM σ j := rfl
theorem gM_pJ (σ : QS) (k : Nat) (v : Int64) (j : Nat) : gM (pJ σ k v) j = gM σ j := rfl
theorem gM_pM (σ : QS) (k : Nat) (f : Nat → Int32) (j : Nat) : gM (pM σ k f) j = if j = k then f else gM σ j := rfl
theorem gM_same (σ : QS) (k : Nat) (f : Nat → Int32) : gM (pM σ k f) k = f := if_pos rfl
theorem gM_ne {σ : QS} {k : Nat} {f : Nat → Int32} {j : Nat} (h : j ≠ k) : gM (pM σ k f) j = gM σ j := if_neg h
theorem ck_t {β : Type} {b : Bool} {k : Option β} (h : b = true) : ck_ b k = k := by
  rw [h]
  rfl
theorem inb_n {k n : Nat} (h : k < n) (hn : n < 2 ^ 31) : inb (nI k) n = true := by
  have h1 := nI_in h hn
  unfold inb
  by_cases c1 : nI k < 0
  · exact absurd (Or.inl c1) h1
  · by_cases c2 : n ≤ (nI k).toNatClampNeg
    · exact absurd (Or.inr c2) h1
    · simp [c1, c2]
theorem lit_n (n : Nat) : (OfNat.ofNat n : Int32) = nI n := rfl
theorem cmp_lt (x y : Int64) : lg_cmp x y < 0 ↔ x < y := by
  unfold lg_cmp
  by_cases h1 : y < x
  · rw [if_pos h1]
    constructor
    · intro h; exact absurd h (by decide)
    · intro h; rw [fa_lt64] at h h1; omega
  · rw [if_neg h1]
    by_cases h2 : x = y
    · rw [if_pos h2]
      constructor
      · intro h; exact absurd h (by decide)
      · intro h; rw [h2, fa_lt64] at h; omega
    · rw [if_neg h2]
      constructor
      · intro _; rw [fa_lt64]; rw [fa_lt64] at h1; rw [fa_eq64] at h2; omega
      · intro _; decide
theorem cmp_gt (x y : Int64) : 0 < lg_cmp x y ↔ y < x := by
  unfold lg_cmp
  by_cases h1 : y < x
  · rw [if_pos h1]
    exact ⟨fun _ => h1, fun _ => by decide⟩
  · rw [if_neg h1]
    by_cases h2 : x = y
    · rw [if_pos h2]
      exact ⟨fun h => absurd h (by decide), fun h => absurd h h1⟩
    · rw [if_neg h2]
      exact ⟨fun h => absurd h (by decide), fun h => absurd h h1⟩
theorem cmp_eq (x y : Int64) : lg_cmp x y = 0 ↔ x = y := by
  unfold lg_cmp
  by_cases h1 : y < x
  · rw [if_pos h1]
    constructor
    · intro h; exact absurd h (by decide)
    · intro h; rw [fa_lt64] at h1; rw [fa_eq64] at h; omega
  · rw [if_neg h1]
    by_cases h2 : x = y
    · rw [if_pos h2]; exact ⟨fun _ => h2, fun _ => rfl⟩
    · rw [if_neg h2]; exact ⟨fun h => absurd h (by decide), fun h => absurd h h2⟩
/-- 'in' of the reference over ints -/
theorem in_int (x a b : Int32) : fX5_in x.toInt64 a.toInt64 b.toInt64 = if x < a then 0 else if b < x then 0 else 1 := by
  unfold fX5_in
  have e1 := cmp_lt x.toInt64 a.toInt64
  have e2 := cmp_gt x.toInt64 b.toInt64
  rw [fa_wide_lt] at e1 e2
  simp only [e1, e2]
/-- a for loop that is known: A k is the state behind k rounds -/
theorem for_run {α β : Type} {B : (α → Option β) → α → Option β} (A : Nat → α) (N : Nat) {res : Option β} (hs : ∀ (r : α → Option β) (k : Nat), k < N → B r (A k) = r (A (k + 1))) (hx : ∀ r : α → Option β, B r (A N) = res) : ∀ n, N < n → lp_ B n (A 0) = res := by
  have key : ∀ (m k : Nat), k + m = N → ∀ n, m < n → lp_ B n (A k) = res := by
    intro m
    induction m with
    | zero =>
      intro k hk n hn
      obtain ⟨n', rfl⟩ : ∃ n', n = n' + 1 := ⟨n - 1, by omega⟩
      have : k = N := by omega
      subst this
      exact hx _
    | succ m ih =>
      intro k hk n hn
      obtain ⟨n', rfl⟩ : ∃ n', n = n' + 1 := ⟨n - 1, by omega⟩
      show B (lp_ B n') (A k) = res
      rw [hs _ k (by omega)]
      exact ih (k + 1) (by omega) n' (by omega)
  intro n hn
  exact key N 0 (by omega) n hn
theorem for_fu {α β : Type} {B : (α → Option β) → α → Option β} (A : Nat → α) (N : Nat) {res : Option β} {a : α} (ha : a = A 0) (hN : N < 1000000) (hs : ∀ (r : α → Option β) (k : Nat), k < N → B r (A k) = r (A (k + 1))) (hx : ∀ r : α → Option β, B r (A N) = res) : lp_ B FV a = res := by
  rw [ha]
  exact for_run A N hs hx FV (Nat.lt_of_lt_of_le hN FV_ge)
theorem upd_same (f : Nat → Int32) (k : Nat) (x : Int32) : upd f k x k = x := pk_us
theorem upd_ne {f : Nat → Int32} {k j : Nat} {x : Int32} (h : j ≠ k) : upd f k x j = f j := pk_un h
theorem nI_c {k : Nat} (h : k < 1000000) : (nI k).toNatClampNeg = k := nI_clamp (by omega)
theorem nI_L {a b : Nat} (ha : a < 1000000) (hb : b < 1000000) : (nI a ≤ nI b) ↔ a ≤ b := nI_leI (by omega) (by omega)
theorem nI_l2 {a b : Nat} (ha : a < 1000000) (hb : b < 1000000) : (nI a < nI b) ↔ a < b := nI_ltI (by omega) (by omega)
theorem nI_e {a b : Nat} (ha : a < 1000000) (hb : b < 1000000) : (nI a = nI b) ↔ a = b := nI_eq (by omega) (by omega)
theorem in_b {x : Int32} {n : Nat} (hn : n < 1000000) (h : ¬ x < 0) (h2 : x < nI n) : ∃ j : Nat, j < n ∧ x = nI j := by
  rcases pk_ix x (n := n) (by omega) with h3 | h3 | h3
  · exact absurd h3 h
  · rw [fa_le] at h3; rw [fa_lt] at h2; omega
  · exact h3
theorem cl_of {x : Int32} {n : Nat} (h : x = nI n) (hn : n < 1000000) : x.toNatClampNeg = n := by rw [h]; exact nI_c hn
