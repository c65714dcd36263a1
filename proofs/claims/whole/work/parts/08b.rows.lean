/-! ===== refusals, what is told, rows ===== -/
theorem nneg {k : Nat} (h : k < 1000000) : ¬ nI k < 0 := nI_pos (by omega)
theorem keepM {σ : QS} {k : Nat} {f : Nat → Int32} (j : Nat) (h : j ≠ k) : gM (pM σ k f) j = gM σ j := gM_ne h
theorem refuse_ok {σ τ : QS} (h : Inv σ τ) {x : Int32} {f : Nat} (hx : x = nI f) (h0 : 1 ≤ f) (hf : f ≤ 5) : ∃ σ' τ', fX4_refuse_0 x σ = some (-3, σ') ∧ fX5_find_50 x τ = some (-3, τ') ∧ Inv σ' τ' := by
  subst hx
  have hi : inb (nI f) 6 = true := inb_n (by omega) (by omega)
  refine ⟨pM (pI σ 0 (nI f)) 8 (upd (gM σ 8) f (gM σ 8 f + 1)), pM (pI τ 3 (nI f)) 60 (upd (gM τ 60) f (gM τ 60 f + 1)), ?_, ?_, ?_⟩
  · unfold fX4_refuse_0
    simp only [lt_]
    rw [if_neg (nneg (by omega)), if_neg (show ¬ (6 : Int32) ≤ nI f from by show ¬ nI 6 ≤ nI f; rw [nI_L (by omega) (by omega)]; omega), ck_t hi, ck_t hi, nI_c (by omega)]
    rfl
  · unfold fX5_find_50
    simp only [lt_]
    rw [ck_t hi, ck_t hi, nI_c (by omega)]
    rfl
  · obtain ⟨a1, a2, a3, a4, a5, a6, ns, nc, pr, a7⟩ := h
    refine ⟨a1.keep rfl (fun r hr => keepM _ (by omega)) rfl rfl, a2.keep rfl (fun r hr => keepM _ (by omega)) rfl rfl, ⟨rfl, ?_⟩, a4, a5, a6.keep (fun n hn => keepM _ (by omega)), ns, nc, pr, a7.keep ⟨fun k h1 h2 => ?_, rfl, fun k h1 h2 => keepM _ (by omega), fun k hk => keepM _ (by omega), rfl, rfl, rfl, rfl, rfl, rfl, rfl⟩⟩
    · intro j hj
      show upd (gM σ 8) f (gM σ 8 f + 1) j = upd (gM τ 60) f (gM τ 60 f + 1) j
      by_cases e : j = f
      · subst e
        rw [upd_same, upd_same, a3.2 j hj]
      · rw [upd_ne e, upd_ne e, a3.2 j hj]
    · show gI (pI σ 0 (nI f)) k = gI σ k
      rw [gI_pI, if_neg (by omega)]
theorem told_ok {σ τ : QS} (h : Inv σ τ) (v : Int32) : Inv (pI σ 1 v) (pI τ 2 v) := by
  obtain ⟨a1, a2, a3, a4, a5, a6, ns, nc, pr, a7⟩ := h
  refine ⟨a1, a2, a3, rfl, a5, a6, ns, nc, pr, a7.keep ⟨fun k h1 h2 => ?_, rfl, fun k h1 h2 => rfl, fun k hk => rfl, rfl, rfl, rfl, rfl, rfl, rfl, rfl⟩⟩
  rw [gI_pI, if_neg (by omega)]
theorem frac_ok {σ τ : QS} (h : Inv σ τ) (u w : Int64) : Inv (pJ (pJ σ 0 u) 1 w) (pJ (pJ τ 0 u) 1 w) := by
  obtain ⟨a1, a2, a3, a4, a5, a6, ns, nc, pr, a7⟩ := h
  exact ⟨a1, a2, a3, a4, ⟨rfl, rfl⟩, a6, ns, nc, pr, a7.keep ⟨fun k h1 h2 => rfl, rfl, fun k h1 h2 => rfl, fun k hk => rfl, rfl, rfl, rfl, rfl, rfl, rfl, rfl⟩⟩
/-- two answers that are one, and what holds behind them -/
def Same (a b : Option (Int32 × QS)) : Prop := ∃ r σ' τ', a = some (r, σ') ∧ b = some (r, τ') ∧ Inv σ' τ'
theorem Same.mk {a b : Option (Int32 × QS)} {r : Int32} {σ' τ' : QS} (h1 : a = some (r, σ')) (h2 : b = some (r, τ')) (h3 : Inv σ' τ') : Same a b := ⟨r, σ', τ', h1, h2, h3⟩
theorem Same.ref {σ τ : QS} (h : Inv σ τ) {x : Int32} {f : Nat} (hx : x = nI f) (h0 : 1 ≤ f) (hf : f ≤ 5) {a b : Option (Int32 × QS)} (ha : a = (fX4_refuse_0 x σ).bind (fun q => some (q.1, q.2))) (hb : b = (fX5_find_50 x τ).bind (fun q => some (q.1, q.2))) : Same a b := by
  obtain ⟨σ', τ', h1, h2, h3⟩ := refuse_ok h hx h0 hf
  refine ⟨-3, σ', τ', ?_, ?_, h3⟩
  · rw [ha, h1]; rfl
  · rw [hb, h2]; rfl
theorem isRow_e (r : Int32) : fX5_isRow r = if r < 0 then 0 else if 6 ≤ r then 0 else 1 := by
  have e := in_int r 0 5
  have e2 : fX5_isRow r = if r < 0 then 0 else if 5 < r then 0 else 1 := e
  rw [e2]
  have : (5 : Int32) < r ↔ (6 : Int32) ≤ r := by
    rw [fa_lt, fa_le]
    have h5 : (5 : Int32).toInt = 5 := by decide
    have h6 : (6 : Int32).toInt = 6 := by decide
    omega
  simp only [this]
theorem isPlace1_e (r : Int32) (σ : QS) : fX3_isPlace_1 r σ = fX5_isRow r := (isRow_e r).symm
theorem row_bad {r : Int32} (h : r < 0 ∨ nI 6 ≤ r) : fX5_isRow r = 0 := by
  rw [isRow_e]
  rcases h with h | h
  · rw [if_pos h]
  · by_cases c : r < 0
    · rw [if_pos c]
    · rw [if_neg c, if_pos (show (6 : Int32) ≤ r from h)]
theorem row_good {j : Nat} (h : j < 6) : fX5_isRow (nI j) = 1 := by
  rw [isRow_e, if_neg (nneg (by omega)), if_neg (show ¬ (6 : Int32) ≤ nI j from by show ¬ nI 6 ≤ nI j; rw [nI_L (by omega) (by omega)]; omega)]
theorem one_ne : ¬ (1 : Int32) = 0 := by decide
theorem pM_pM (σ : QS) (k : Nat) (f g : Nat → Int32) : pM (pM σ k f) k g = pM σ k g := by
  unfold pM
  have : va_up (va_up σ.2.2 k f) k g = va_up σ.2.2 k g := bx_uu _ _ _ _
  show (σ.1, σ.2.1, va_up (va_up σ.2.2 k f) k g) = _
  rw [this]
theorem pM_self (σ : QS) (k : Nat) : pM σ k (gM σ k) = σ := by
  unfold pM gM
  have : va_up σ.2.2 k (σ.2.2 k) = σ.2.2 := by
    funext j
    by_cases e : j = k
    · simp [va_up, e]
    · simp [va_up, e]
  rw [this]
/-- Arrays.fill of the class: as many places as the array has -/
theorem fill_e (k n : Nat) (hn : n < 1000) (x : Int32) (σ : QS) : fJ7_fill_53178_a k n x σ = some (pM σ k (fun j => if j < n then x else gM σ k j)) := by
  unfold fJ7_fill_53178_a
  simp only [lt_]
  refine for_fu (fun i => (nI i, pM σ k (fun j => if j < i then x else gM σ k j))) n ?_ (by omega) ?_ ?_
  · have : (fun j => if j < 0 then x else gM σ k j) = gM σ k := by funext j; simp
    show ((0 : Int32), σ) = (nI 0, pM σ k (fun j => if j < 0 then x else gM σ k j))
    rw [this, pM_self]
    rfl
  · intro r i hi
    show (if nI n ≤ nI i then _ else _) = _
    rw [if_neg (by rw [nI_L (by omega) (by omega)]; omega), ck_t (inb_n hi (by omega)), nI_c (by omega), nI_1]
    show r (nI (i + 1), pM (pM σ k _) k (upd (gM (pM σ k _) k) i x)) = _
    rw [pM_pM, gM_same]
    have : upd (fun j => if j < i then x else gM σ k j) i x = fun j => if j < i + 1 then x else gM σ k j := by
      funext q
      by_cases e1 : q = i
      · rw [e1, upd_same, if_pos (by omega)]
      · rw [upd_ne e1]
        by_cases e2 : q < i
        · rw [if_pos e2, if_pos (by omega)]
        · rw [if_neg e2, if_neg (by omega)]
    rw [this]
  · intro r
    show (if nI n ≤ nI n then _ else _) = _
    rw [if_pos (by rw [nI_L (by omega) (by omega)]; omega)]
