/-! ===== a text, sign by sign ===== -/
def TX (σ : QS) (t n : Nat) (b : Nat → Int32) : Prop := t < 4 ∧ n ≤ 60 ∧ gM σ 12 t = nI n ∧ ∀ k, k < n → gM σ (36 + t) k = b k
def TR (τ : QS) (t n : Nat) (b : Nat → Int32) : Prop := gM τ 58 t = nI n ∧ ∀ k, k < n → gM τ 59 (60 * t + k) = b k
def byB (n : Nat) (b : Nat → Int32) (k : Nat) : Int32 := if k < n then b k else 0
def fgB (n : Nat) (b : Nat → Int32) (k : Nat) : Option Nat := if byB n b k < 48 then none else if 57 < byB n b k then none else some (byB n b k - 48).toNatClampNeg
def fgI (o : Option Nat) : Int32 := match o with
  | none => -9
  | some v => nI v
theorem fg_some {n : Nat} {b : Nat → Int32} {k v : Nat} (h : fgB n b k = some v) : v < 10 ∧ byB n b k = nI (48 + v) ∧ byB n b k - 48 = nI v ∧ k < n := by
  unfold fgB at h
  have t48 : (48 : Int32).toInt = 48 := by decide
  have t57 : (57 : Int32).toInt = 57 := by decide
  by_cases c1 : byB n b k < 48
  · rw [if_pos c1] at h; cases h
  · rw [if_neg c1] at h
    by_cases c2 : 57 < byB n b k
    · rw [if_pos c2] at h; cases h
    · rw [if_neg c2] at h
      have hv : (byB n b k - 48).toNatClampNeg = v := by injection h
      rw [fa_lt, t48] at c1
      rw [fa_lt, t57] at c2
      obtain ⟨w, w1, w2⟩ : ∃ w : Nat, w < 10 ∧ byB n b k = nI (48 + w) := by
        refine ⟨((byB n b k).toInt - 48).toNat, by omega, ?_⟩
        rw [fa_eq, nI_toInt (by omega)]
        omega
      have e : byB n b k - 48 = nI w := by
        rw [w2]
        show nI (48 + w) - nI 48 = _
        rw [pk_sub (by omega)]
        exact congrArg nI (by omega)
      rw [e, nI_c (by omega)] at hv
      subst hv
      refine ⟨w1, w2, e, ?_⟩
      refine Classical.byContradiction fun hk => ?_
      have : byB n b k = 0 := if_neg hk
      rw [this] at c1
      have t0 : (0 : Int32).toInt = 0 := by decide
      omega
theorem fg_if {n : Nat} {b : Nat → Int32} {k : Nat} : (if byB n b k < 48 then some (-9 : Int32) else if 57 < byB n b k then some (-9) else some (byB n b k - 48)) = some (fgI (fgB n b k)) := by
  cases e : fgB n b k with
  | none =>
    unfold fgB at e
    by_cases c1 : byB n b k < 48
    · rw [if_pos c1]; rfl
    · rw [if_neg c1] at e ⊢
      by_cases c2 : 57 < byB n b k
      · rw [if_pos c2]; rfl
      · rw [if_neg c2] at e; cases e
  | some v =>
    obtain ⟨h1, h2, h3, h4⟩ := fg_some e
    unfold fgB at e
    by_cases c1 : byB n b k < 48
    · rw [if_pos c1] at e; cases e
    · rw [if_neg c1] at e ⊢
      by_cases c2 : 57 < byB n b k
      · rw [if_pos c2] at e; cases e
      · rw [if_neg c2, h3]; rfl
theorem get_t {σ : QS} {t n : Nat} {b : Nat → Int32} (h : TX σ t n b) {k : Nat} (hk : k < 1000) : fX3_get_2 (nI t) (nI k) σ = some (byB n b k) := by
  obtain ⟨h1, h2, h3, h4⟩ := h
  unfold byB
  by_cases q : k < n
  · rw [if_pos q, get2_in h1 h3 h2 q, h4 k q]
  · rw [if_neg q, get2_out h1 (Or.inr (by rw [h3, nI_L (by omega) (by omega)]; omega))]
theorem figC_e {σ : QS} {t n : Nat} {b : Nat → Int32} (h : TX σ t n b) {k : Nat} (hk : k < 1000) : fX1_figureAt_2 (nI t) (nI k) σ = some (fgI (fgB n b k)) := by
  unfold fX1_figureAt_2
  rw [get_t h hk, Option.bind_some]
  exact fg_if
def skN (n : Nat) (b : Nat → Int32) (p : Nat) : Nat := p + fa_first (fun k => !decide (b (p + k) = 32)) (n - p)
theorem skN_le {n : Nat} {b : Nat → Int32} {p : Nat} (hp : p ≤ n) : p ≤ skN n b p ∧ skN n b p ≤ n := by
  have := fa_first_le (fun k => !decide (b (p + k) = 32)) (n - p)
  unfold skN
  omega
theorem skC_e {σ : QS} {t n : Nat} {b : Nat → Int32} (h : TX σ t n b) {p : Nat} (hp : p ≤ n) : fX1_pastBlanks_2 (nI t) (nI p) σ = some (nI (skN n b p)) := by
  have h2 := h.2.1
  have le := fa_first_le (fun k => !decide (b (p + k) = 32)) (n - p)
  unfold fX1_pastBlanks_2
  refine for_fu (fun k => nI (p + k)) (fa_first (fun k => !decide (b (p + k) = 32)) (n - p)) rfl (by omega) ?_ ?_
  · intro r k hk
    have no := fa_first_no (fun k => !decide (b (p + k) = 32)) (n - p) k hk
    have e32 : b (p + k) = 32 := by simpa using no
    have eb : byB n b (p + k) = 32 := by unfold byB; rw [if_pos (by omega), e32]
    rw [size2_e h.1, Option.bind_some, h.2.2.1, if_neg (by rw [nI_L (by omega) (by omega)]; omega), get_t h (by omega), Option.bind_some, eb, if_pos rfl, nI_1]
    rfl
  · intro r
    rw [size2_e h.1, Option.bind_some, h.2.2.1]
    by_cases q : n ≤ p + fa_first (fun k => !decide (b (p + k) = 32)) (n - p)
    · rw [if_pos (by rw [nI_L (by omega) (by omega)]; exact q)]
      rfl
    · have yes := fa_first_yes (fun k => !decide (b (p + k) = 32)) (n - p) (by omega)
      have e32 : ¬ b (p + fa_first (fun k => !decide (b (p + k) = 32)) (n - p)) = 32 := by simpa using yes
      have eb : ¬ byB n b (p + fa_first (fun k => !decide (b (p + k) = 32)) (n - p)) = 32 := by
        unfold byB
        rw [if_pos (by omega)]
        exact e32
      rw [if_neg (by rw [nI_L (by omega) (by omega)]; exact q), get_t h (by omega), Option.bind_some, if_neg eb]
      rfl
theorem kindC_e {σ : QS} {t n : Nat} {b : Nat → Int32} (h : TX σ t n b) {k : Nat} (hk : k < 1000) : fX1_kindAt_2 (nI t) (nI k) σ = some (fX5_kindOfLetter (byB n b k)) := by
  unfold fX1_kindAt_2
  rw [get_t h hk, Option.bind_some]
  generalize byB n b k = c
  have step : ∀ (r : Int32 → Option Int32) (i : Nat), i < 6 → (fun (r3 : Int32 → Option (Int32)) (a2 : Int32) => (if (6 : Int32) ≤ a2 then some (-9 : Int32) else ck_ (inb a2 6) ((if (ltr a2.toNatClampNeg) = c then some a2 else r3 (a2 + (1 : Int32)))))) r (nI i) = if ltr i = c then some (nI i) else r (nI (i + 1)) := by
    intro r i hi
    simp only []
    rw [if_neg (show ¬ (6 : Int32) ≤ nI i from by show ¬ nI 6 ≤ nI i; rw [nI_L (by omega) (by omega)]; omega), ck_t (inb_n hi (by omega)), nI_c (by omega), nI_1]
  have stop : ∀ (r : Int32 → Option Int32), (fun (r3 : Int32 → Option (Int32)) (a2 : Int32) => (if (6 : Int32) ≤ a2 then some (-9 : Int32) else ck_ (inb a2 6) ((if (ltr a2.toNatClampNeg) = c then some a2 else r3 (a2 + (1 : Int32)))))) r (nI 6) = some (-9) := by
    intro r
    simp only []
    rw [if_pos (show (6 : Int32) ≤ nI 6 from by show nI 6 ≤ nI 6; rw [nI_L (by omega) (by omega)]; omega)]
  obtain ⟨F, hF⟩ : ∃ F, FV = F + 1 + 1 + 1 + 1 + 1 + 1 + 1 := ⟨FV - 7, by have := FV_ge; omega⟩
  rw [hF]
  show (fun (r3 : Int32 → Option (Int32)) (a2 : Int32) => (if (6 : Int32) ≤ a2 then some (-9 : Int32) else ck_ (inb a2 6) ((if (ltr a2.toNatClampNeg) = c then some a2 else r3 (a2 + (1 : Int32)))))) (lp_ (fun (r3 : Int32 → Option (Int32)) (a2 : Int32) => (if (6 : Int32) ≤ a2 then some (-9 : Int32) else ck_ (inb a2 6) ((if (ltr a2.toNatClampNeg) = c then some a2 else r3 (a2 + (1 : Int32)))))) (F + 1 + 1 + 1 + 1 + 1 + 1)) (nI 0) = _
  rw [step _ 0 (by omega)]
  show (if ltr 0 = c then some (nI 0) else (fun (r3 : Int32 → Option (Int32)) (a2 : Int32) => (if (6 : Int32) ≤ a2 then some (-9 : Int32) else ck_ (inb a2 6) ((if (ltr a2.toNatClampNeg) = c then some a2 else r3 (a2 + (1 : Int32)))))) (lp_ (fun (r3 : Int32 → Option (Int32)) (a2 : Int32) => (if (6 : Int32) ≤ a2 then some (-9 : Int32) else ck_ (inb a2 6) ((if (ltr a2.toNatClampNeg) = c then some a2 else r3 (a2 + (1 : Int32)))))) (F + 1 + 1 + 1 + 1 + 1)) (nI 1)) = _
  rw [step _ 1 (by omega)]
  show (if ltr 0 = c then some (nI 0) else if ltr 1 = c then some (nI 1) else (fun (r3 : Int32 → Option (Int32)) (a2 : Int32) => (if (6 : Int32) ≤ a2 then some (-9 : Int32) else ck_ (inb a2 6) ((if (ltr a2.toNatClampNeg) = c then some a2 else r3 (a2 + (1 : Int32)))))) (lp_ (fun (r3 : Int32 → Option (Int32)) (a2 : Int32) => (if (6 : Int32) ≤ a2 then some (-9 : Int32) else ck_ (inb a2 6) ((if (ltr a2.toNatClampNeg) = c then some a2 else r3 (a2 + (1 : Int32)))))) (F + 1 + 1 + 1 + 1)) (nI 2)) = _
  rw [step _ 2 (by omega)]
  show (if ltr 0 = c then some (nI 0) else if ltr 1 = c then some (nI 1) else if ltr 2 = c then some (nI 2) else (fun (r3 : Int32 → Option (Int32)) (a2 : Int32) => (if (6 : Int32) ≤ a2 then some (-9 : Int32) else ck_ (inb a2 6) ((if (ltr a2.toNatClampNeg) = c then some a2 else r3 (a2 + (1 : Int32)))))) (lp_ (fun (r3 : Int32 → Option (Int32)) (a2 : Int32) => (if (6 : Int32) ≤ a2 then some (-9 : Int32) else ck_ (inb a2 6) ((if (ltr a2.toNatClampNeg) = c then some a2 else r3 (a2 + (1 : Int32)))))) (F + 1 + 1 + 1)) (nI 3)) = _
  rw [step _ 3 (by omega)]
  show (if ltr 0 = c then some (nI 0) else if ltr 1 = c then some (nI 1) else if ltr 2 = c then some (nI 2) else if ltr 3 = c then some (nI 3) else (fun (r3 : Int32 → Option (Int32)) (a2 : Int32) => (if (6 : Int32) ≤ a2 then some (-9 : Int32) else ck_ (inb a2 6) ((if (ltr a2.toNatClampNeg) = c then some a2 else r3 (a2 + (1 : Int32)))))) (lp_ (fun (r3 : Int32 → Option (Int32)) (a2 : Int32) => (if (6 : Int32) ≤ a2 then some (-9 : Int32) else ck_ (inb a2 6) ((if (ltr a2.toNatClampNeg) = c then some a2 else r3 (a2 + (1 : Int32)))))) (F + 1 + 1)) (nI 4)) = _
  rw [step _ 4 (by omega)]
  show (if ltr 0 = c then some (nI 0) else if ltr 1 = c then some (nI 1) else if ltr 2 = c then some (nI 2) else if ltr 3 = c then some (nI 3) else if ltr 4 = c then some (nI 4) else (fun (r3 : Int32 → Option (Int32)) (a2 : Int32) => (if (6 : Int32) ≤ a2 then some (-9 : Int32) else ck_ (inb a2 6) ((if (ltr a2.toNatClampNeg) = c then some a2 else r3 (a2 + (1 : Int32)))))) (lp_ (fun (r3 : Int32 → Option (Int32)) (a2 : Int32) => (if (6 : Int32) ≤ a2 then some (-9 : Int32) else ck_ (inb a2 6) ((if (ltr a2.toNatClampNeg) = c then some a2 else r3 (a2 + (1 : Int32)))))) (F + 1)) (nI 5)) = _
  rw [step _ 5 (by omega)]
  show (if ltr 0 = c then some (nI 0) else if ltr 1 = c then some (nI 1) else if ltr 2 = c then some (nI 2) else if ltr 3 = c then some (nI 3) else if ltr 4 = c then some (nI 4) else if ltr 5 = c then some (nI 5) else (fun (r3 : Int32 → Option (Int32)) (a2 : Int32) => (if (6 : Int32) ≤ a2 then some (-9 : Int32) else ck_ (inb a2 6) ((if (ltr a2.toNatClampNeg) = c then some a2 else r3 (a2 + (1 : Int32)))))) (lp_ (fun (r3 : Int32 → Option (Int32)) (a2 : Int32) => (if (6 : Int32) ≤ a2 then some (-9 : Int32) else ck_ (inb a2 6) ((if (ltr a2.toNatClampNeg) = c then some a2 else r3 (a2 + (1 : Int32)))))) F) (nI 6)) = _
  rw [stop]
  unfold fX5_kindOfLetter
  have e0 : ltr 0 = 115 := rfl
  have e1 : ltr 1 = 99 := rfl
  have e2 : ltr 2 = 107 := rfl
  have e3 : ltr 3 = 117 := rfl
  have e4 : ltr 4 = 119 := rfl
  have e5 : ltr 5 = 113 := rfl
  rw [e0, e1, e2, e3, e4, e5]
  by_cases c0 : c = 115
  · rw [if_pos c0.symm, if_pos c0]; rfl
  rw [if_neg (fun w => c0 w.symm), if_neg c0]
  by_cases c1 : c = 99
  · rw [if_pos c1.symm, if_pos c1]; rfl
  rw [if_neg (fun w => c1 w.symm), if_neg c1]
  by_cases c2 : c = 107
  · rw [if_pos c2.symm, if_pos c2]; rfl
  rw [if_neg (fun w => c2 w.symm), if_neg c2]
  by_cases c3 : c = 117
  · rw [if_pos c3.symm, if_pos c3]; rfl
  rw [if_neg (fun w => c3 w.symm), if_neg c3]
  by_cases c4 : c = 119
  · rw [if_pos c4.symm, if_pos c4]; rfl
  rw [if_neg (fun w => c4 w.symm), if_neg c4]
  by_cases c5 : c = 113
  · rw [if_pos c5.symm, if_pos c5]; rfl
  rw [if_neg (fun w => c5 w.symm), if_neg c5]
theorem kind_v (c : Int32) : fX5_kindOfLetter c = -9 ∨ ∃ k, k < 6 ∧ fX5_kindOfLetter c = nI k := by
  unfold fX5_kindOfLetter
  by_cases c0 : c = 115
  · rw [if_pos c0]; exact Or.inr ⟨0, by omega, rfl⟩
  rw [if_neg c0]
  by_cases c1 : c = 99
  · rw [if_pos c1]; exact Or.inr ⟨1, by omega, rfl⟩
  rw [if_neg c1]
  by_cases c2 : c = 107
  · rw [if_pos c2]; exact Or.inr ⟨2, by omega, rfl⟩
  rw [if_neg c2]
  by_cases c3 : c = 117
  · rw [if_pos c3]; exact Or.inr ⟨3, by omega, rfl⟩
  rw [if_neg c3]
  by_cases c4 : c = 119
  · rw [if_pos c4]; exact Or.inr ⟨4, by omega, rfl⟩
  rw [if_neg c4]
  by_cases c5 : c = 113
  · rw [if_pos c5]; exact Or.inr ⟨5, by omega, rfl⟩
  rw [if_neg c5]
  exact Or.inl rfl
/-! the reference, reading: at place p of a text -/
def RdR (τ : QS) (t n : Nat) (b : Nat → Int32) (p : Nat) : Prop := t < 4 ∧ n ≤ 60 ∧ gI τ 4 = nI (60 * t) ∧ gI τ 5 = nI p ∧ gI τ 6 = nI n ∧ ∀ k, k < n → gM τ 59 (60 * t + k) = b k
theorem RdR.go {τ : QS} {t n : Nat} {b : Nat → Int32} {p : Nat} (h : RdR τ t n b p) (q : Nat) : RdR (pI τ 5 (nI q)) t n b q := by
  obtain ⟨h1, h2, h3, h4, h5, h6⟩ := h
  exact ⟨h1, h2, by rw [gI_ne (by omega)]; exact h3, gI_same _ _ _, by rw [gI_ne (by omega)]; exact h5, h6⟩
theorem here_e {τ : QS} {t n : Nat} {b : Nat → Int32} {p : Nat} (h : RdR τ t n b p) (hp : p < n) : fX5_here_50 τ = some (b p) := by
  obtain ⟨h1, h2, h3, h4, h5, h6⟩ := h
  unfold fX5_here_50
  rw [h3, h4, nI_add, ck_t (inb_n (by omega) (by omega)), nI_c (by omega), h6 p hp]
theorem skR_e {τ : QS} {t n : Nat} {b : Nat → Int32} {p : Nat} (h : RdR τ t n b p) (hp : p ≤ n) : fX5_skip_50 τ = some (pI τ 5 (nI (skN n b p))) := by
  have h2 := h.2.1
  have le := fa_first_le (fun k => !decide (b (p + k) = 32)) (n - p)
  unfold fX5_skip_50
  refine for_fu (fun k => pI τ 5 (nI (p + k))) (fa_first (fun k => !decide (b (p + k) = 32)) (n - p)) ?_ (by omega) ?_ ?_
  · show τ = pI τ 5 (nI (p + 0))
    rw [Nat.add_zero, ← h.2.2.2.1, pI_self]
  · intro r k hk
    simp only [lt_q]
    have hk2 := h.go (p + k)
    have no := fa_first_no (fun k => !decide (b (p + k) = 32)) (n - p) k hk
    have e32 : b (p + k) = 32 := by simpa using no
    rw [hk2.2.2.2.2.1, hk2.2.2.2.1, if_neg (by rw [nI_L (by omega) (by omega)]; omega), here_e hk2 (by omega), Option.bind_some, e32, if_pos rfl, nI_1, pI_pI]
    rfl
  · intro r
    simp only [lt_q]
    have hk2 := h.go (p + fa_first (fun k => !decide (b (p + k) = 32)) (n - p))
    rw [hk2.2.2.2.2.1, hk2.2.2.2.1]
    by_cases q : n ≤ p + fa_first (fun k => !decide (b (p + k) = 32)) (n - p)
    · rw [if_pos (by rw [nI_L (by omega) (by omega)]; exact q)]
      rfl
    · have yes := fa_first_yes (fun k => !decide (b (p + k) = 32)) (n - p) (by omega)
      have e32 : ¬ b (p + fa_first (fun k => !decide (b (p + k) = 32)) (n - p)) = 32 := by simpa using yes
      rw [if_neg (by rw [nI_L (by omega) (by omega)]; exact q), here_e hk2 (by omega), Option.bind_some, if_neg e32]
      rfl
theorem in_fig {x : Int32} {a : Nat} (ha : a ≤ 9) : fX5_in x.toInt64 (((48 : Int32) + nI a).toInt64) (((48 : Int32) + (9 : Int32)).toInt64) = if x < nI (48 + a) then 0 else if 57 < x then 0 else 1 := by
  have e1 : (48 : Int32) + nI a = nI (48 + a) := by show nI 48 + nI a = _; rw [nI_add]
  have e2 : (48 : Int32) + (9 : Int32) = 57 := by decide
  rw [e1, e2]
  exact in_int x (nI (48 + a)) 57
/-- a figure of at least a stands there -/
def isF (n : Nat) (b : Nat → Int32) (a p : Nat) : Bool := match fgB n b p with
  | none => false
  | some v => decide (a ≤ v)
theorem isFig_e {τ : QS} {t n : Nat} {b : Nat → Int32} {p : Nat} (h : RdR τ t n b p) (hp : p < 1000) {a : Nat} (ha : a ≤ 9) : fX5_isFigure_50 (nI a) (9 : Int32) τ = some (if isF n b a p = true then 1 else 0) := by
  have h2 := h.2.1
  unfold fX5_isFigure_50
  rw [h.2.2.2.2.1, h.2.2.2.1]
  by_cases q : n ≤ p
  · have eb : byB n b p = 0 := if_neg (by omega)
    have ef : fgB n b p = none := by unfold fgB; rw [eb]; rfl
    rw [if_pos (by rw [nI_L (by omega) (by omega)]; exact q)]
    unfold isF
    rw [ef]
    rfl
  · have eb : byB n b p = b p := if_pos (by omega)
    rw [if_neg (by rw [nI_L (by omega) (by omega)]; exact q), here_e h (by omega), Option.bind_some, in_fig ha]
    unfold isF
    have t48 : (48 : Int32).toInt = 48 := by decide
    have t57 : (57 : Int32).toInt = 57 := by decide
    cases e : fgB n b p with
    | none =>
      unfold fgB at e
      rw [eb] at e
      by_cases c1 : b p < 48
      · rw [if_pos (show b p < nI (48 + a) from by rw [fa_lt, nI_toInt (by omega)]; rw [fa_lt, t48] at c1; omega)]
        rfl
      · rw [if_neg c1] at e
        by_cases c2 : 57 < b p
        · by_cases c3 : b p < nI (48 + a)
          · rw [if_pos c3]; rfl
          · rw [if_neg c3, if_pos c2]; rfl
        · rw [if_neg c2] at e; cases e
    | some v =>
      obtain ⟨v1, v2, v3, v4⟩ := fg_some e
      rw [eb] at v2
      have c2 : ¬ 57 < b p := by rw [v2, fa_lt, t57, nI_toInt (by omega)]; omega
      rw [v2] at c2 ⊢
      by_cases c3 : a ≤ v
      · rw [if_neg (show ¬ nI (48 + v) < nI (48 + a) from by rw [nI_l2 (by omega) (by omega)]; omega), if_neg c2, if_neg one_ne, if_pos (show decide (a ≤ v) = true from decide_eq_true c3)]
      · rw [if_pos (show nI (48 + v) < nI (48 + a) from by rw [nI_l2 (by omega) (by omega)]; omega), if_pos rfl, if_neg (show ¬ decide (a ≤ v) = true from by rw [decide_eq_false c3]; decide)]
theorem figR_e {τ : QS} {t n : Nat} {b : Nat → Int32} {p : Nat} (h : RdR τ t n b p) (hp : p < 1000) {a : Nat} (ha : a ≤ 9) : fX5_figure_50 (nI a) (9 : Int32) τ = if isF n b a p = true then some (fgI (fgB n b p), pI τ 5 (nI (p + 1))) else some (-9, τ) := by
  have h2 := h.2.1
  have h1 := h.1
  unfold fX5_figure_50
  rw [isFig_e h hp ha, Option.bind_some]
  by_cases q : isF n b a p = true
  · rw [if_pos q, if_pos q, if_neg one_ne, lt_q, h.2.2.2.1, nI_1]
    have e4 : gI (pI τ 5 (nI (p + 1))) 4 = nI (60 * t) := by rw [gI_ne (by omega)]; exact h.2.2.1
    have e5 : gI (pI τ 5 (nI (p + 1))) 5 = nI (p + 1) := gI_same _ _ _
    cases e : fgB n b p with
    | none =>
      unfold isF at q
      rw [e] at q
      cases q
    | some v =>
      obtain ⟨v1, v2, v3, v4⟩ := fg_some e
      have ei : nI (60 * t) + nI (p + 1) - (1 : Int32) = nI (60 * t + p) := by
        show nI (60 * t) + nI (p + 1) - nI 1 = _
        rw [nI_add, pk_sub (by omega)]
        exact congrArg nI (by omega)
      have eb : byB n b p = b p := if_pos v4
      rw [e4, e5, ei, ck_t (inb_n (by omega) (by omega)), nI_c (by omega)]
      show some (gM τ 59 (60 * t + p) - 48, _) = _
      rw [h.2.2.2.2.2 p v4, ← eb, v3]
      rfl
  · rw [if_neg q, if_neg q, if_pos rfl]
theorem isF_0 {n : Nat} {b : Nat → Int32} {p : Nat} : isF n b 0 p = (fgB n b p).isSome := by
  unfold isF
  cases fgB n b p with
  | none => rfl
  | some v => simp
