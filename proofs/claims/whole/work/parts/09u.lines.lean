/-! ===== the play's lines, a sitter ===== -/
theorem TX.m {σ : QS} {t n : Nat} {b : Nat → Int32} (h : TX σ t n b) {k : Nat} (h1 : k < 36 ∨ 40 ≤ k) (h2 : k ≠ 12) (f : Nat → Int32) : TX (pM σ k f) t n b := by
  obtain ⟨a1, a2, a3, a4⟩ := h
  refine ⟨a1, a2, by rw [gM_ne (by omega)]; exact a3, fun j hj => ?_⟩
  rw [gM_ne (by omega)]
  exact a4 j hj
theorem TX.i {σ : QS} {t n : Nat} {b : Nat → Int32} (h : TX σ t n b) (k : Nat) (v : Int32) : TX (pI σ k v) t n b := h
def lnR (n : Nat) (b : Nat → Int32) (p : Nat) : Nat := fa_first (fun k => !(isF n b 1 (p + k))) 7
def lnM (n : Nat) (b : Nat → Int32) (p : Nat) : Nat := min (lnR n b p) 6
def lnV (n : Nat) (b : Nat → Int32) (p k : Nat) : Int32 := fgI (fgB n b (p + k))
theorem ln_in {n : Nat} {b : Nat → Int32} {p k : Nat} (hk : k < lnR n b p) : ∃ v, 1 ≤ v ∧ v ≤ 9 ∧ fgB n b (p + k) = some v ∧ p + k < n ∧ isF n b 1 (p + k) = true := by
  have no := fa_first_no (fun k => !(isF n b 1 (p + k))) 7 k hk
  have yes : isF n b 1 (p + k) = true := by simpa using no
  unfold isF at yes
  cases e : fgB n b (p + k) with
  | none => rw [e] at yes; cases yes
  | some v =>
    obtain ⟨v1, v2, v3, v4⟩ := fg_some e
    have yes' := yes
    rw [e] at yes'
    have : 1 ≤ v := by simpa using yes'
    refine ⟨v, this, by omega, rfl, v4, ?_⟩
    unfold isF
    rw [e]
    exact decide_eq_true this
theorem ln_out {n : Nat} {b : Nat → Int32} {p : Nat} (h : lnR n b p < 7) : isF n b 1 (p + lnR n b p) = false := by
  have yes : (!(isF n b 1 (p + lnR n b p))) = true := fa_first_yes (fun k => !(isF n b 1 (p + k))) 7 h
  simpa using yes
theorem lnR_le (n : Nat) (b : Nat → Int32) (p : Nat) : lnR n b p ≤ 7 := fa_first_le _ 7
theorem upd_fill {f g : Nat → Int32} {k : Nat} {x : Int32} (hx : x = g k) : upd (fun q => if q < k then g q else f q) k x = fun q => if q < k + 1 then g q else f q := by
  funext q
  by_cases e : q = k
  · rw [e, upd_same, if_pos (by omega), hx]
  · rw [upd_ne e]
    by_cases l : q < k
    · rw [if_pos l, if_pos (show q < k + 1 from by omega)]
    · rw [if_neg l, if_neg (show ¬ q < k + 1 from by omega)]
theorem fill_0 (f g : Nat → Int32) : (fun q => if q < 0 then g q else f q) = f := by
  funext q
  rw [if_neg (by omega)]
theorem lines4_e {σ : QS} {t n : Nat} {b : Nat → Int32} (h : TX σ t n b) {p : Nat} (hp : p ≤ 62) (h0 : gI σ 3 = 0) : fX1_readLines_4_2 (nI t) (nI p) σ = some (nI (p + lnM n b p), pI (pM σ 15 (fun q => if q < lnM n b p then lnV n b p q else gM σ 15 q)) 3 (nI (lnM n b p))) := by
  have r7 := lnR_le n b p
  have hm : lnM n b p = min (lnR n b p) 6 := rfl
  unfold fX1_readLines_4_2
  refine for_fu (fun k => (nI (p + k), nI k, pI (pM σ 15 (fun q => if q < k then lnV n b p q else gM σ 15 q)) 3 (nI k))) (lnM n b p) ?_ (by omega) ?_ ?_
  · show _ = (nI (p + 0), nI 0, pI (pM σ 15 (fun q => if q < 0 then lnV n b p q else gM σ 15 q)) 3 (nI 0))
    rw [fill_0, pM_self, show nI 0 = gI σ 3 from by rw [h0]; rfl, pI_self, h0]
    rfl
  · intro r k hk
    simp only [lt_q]
    have hT : TX (pI (pM σ 15 (fun q => if q < k then lnV n b p q else gM σ 15 q)) 3 (nI k)) t n b := (h.m (by omega) (by omega) _).i _ _
    obtain ⟨v, v1, v2, v3, v4, -⟩ := ln_in (n := n) (b := b) (p := p) (k := k) (by omega)
    have eV : lnV n b p k = nI v := by unfold lnV; rw [v3]; rfl
    have ef : fgI (fgB n b (p + k)) = nI v := by rw [v3]; rfl
    rw [if_neg (show ¬ (6 : Int32) ≤ nI k from by show ¬ nI 6 ≤ nI k; rw [nI_L (by omega) (by omega)]; omega), figC_e hT (by omega), Option.bind_some, Option.bind_some, ef, if_neg (show ¬ nI v ≤ (0 : Int32) from by show ¬ nI v ≤ nI 0; rw [nI_L (by omega) (by omega)]; omega), ck_t (inb_n (by omega) (by omega)), nI_c (by omega), nI_1, nI_1]
    show r (nI (p + (k + 1)), nI (k + 1), pI (pI (pM (pM σ 15 (fun q => if q < k then lnV n b p q else gM σ 15 q)) 15 (upd (gM (pM σ 15 (fun q => if q < k then lnV n b p q else gM σ 15 q)) 15) k (nI v))) 3 (nI k)) 3 (nI (k + 1))) = _
    rw [pI_pI, pM_pM, gM_same, upd_fill eV.symm]
  · intro r
    simp only [lt_q]
    have hT : TX (pI (pM σ 15 (fun q => if q < lnM n b p then lnV n b p q else gM σ 15 q)) 3 (nI (lnM n b p))) t n b := (h.m (by omega) (by omega) _).i _ _
    by_cases q : 6 ≤ lnM n b p
    · rw [if_pos (show (6 : Int32) ≤ nI (lnM n b p) from by show nI 6 ≤ _; rw [nI_L (by omega) (by omega)]; exact q)]
    · rw [if_neg (show ¬ (6 : Int32) ≤ nI (lnM n b p) from by show ¬ nI 6 ≤ _; rw [nI_L (by omega) (by omega)]; exact q), figC_e hT (by omega), Option.bind_some]
      have out := ln_out (n := n) (b := b) (p := p) (by omega)
      rw [show lnR n b p = lnM n b p by omega] at out
      have le : fgI (fgB n b (p + lnM n b p)) ≤ 0 := by
        unfold isF at out
        cases e : fgB n b (p + lnM n b p) with
        | none => show (-9 : Int32) ≤ 0; decide
        | some v =>
          rw [e] at out
          have : v = 0 := by
            have o : decide (1 ≤ v) = false := out
            have := of_decide_eq_false o
            omega
          rw [this]
          show nI 0 ≤ (0 : Int32)
          decide
      rw [if_pos le]
theorem lines5_e {σ : QS} {t n : Nat} {b : Nat → Int32} (h : TX σ t n b) {p : Nat} (hp : p ≤ 62) (h0 : gI σ 8 = 0) : fX1_readLines_5_2 (nI t) (nI p) σ = some (nI (p + lnM n b p), pI (pM σ 20 (fun q => if q < lnM n b p then lnV n b p q else gM σ 20 q)) 8 (nI (lnM n b p))) := by
  have r7 := lnR_le n b p
  have hm : lnM n b p = min (lnR n b p) 6 := rfl
  unfold fX1_readLines_5_2
  refine for_fu (fun k => (nI (p + k), nI k, pI (pM σ 20 (fun q => if q < k then lnV n b p q else gM σ 20 q)) 8 (nI k))) (lnM n b p) ?_ (by omega) ?_ ?_
  · show _ = (nI (p + 0), nI 0, pI (pM σ 20 (fun q => if q < 0 then lnV n b p q else gM σ 20 q)) 8 (nI 0))
    rw [fill_0, pM_self, show nI 0 = gI σ 8 from by rw [h0]; rfl, pI_self, h0]
    rfl
  · intro r k hk
    simp only [lt_q]
    have hT : TX (pI (pM σ 20 (fun q => if q < k then lnV n b p q else gM σ 20 q)) 8 (nI k)) t n b := (h.m (by omega) (by omega) _).i _ _
    obtain ⟨v, v1, v2, v3, v4, -⟩ := ln_in (n := n) (b := b) (p := p) (k := k) (by omega)
    have eV : lnV n b p k = nI v := by unfold lnV; rw [v3]; rfl
    have ef : fgI (fgB n b (p + k)) = nI v := by rw [v3]; rfl
    rw [if_neg (show ¬ (6 : Int32) ≤ nI k from by show ¬ nI 6 ≤ nI k; rw [nI_L (by omega) (by omega)]; omega), figC_e hT (by omega), Option.bind_some, Option.bind_some, ef, if_neg (show ¬ nI v ≤ (0 : Int32) from by show ¬ nI v ≤ nI 0; rw [nI_L (by omega) (by omega)]; omega), ck_t (inb_n (by omega) (by omega)), nI_c (by omega), nI_1, nI_1]
    show r (nI (p + (k + 1)), nI (k + 1), pI (pI (pM (pM σ 20 (fun q => if q < k then lnV n b p q else gM σ 20 q)) 20 (upd (gM (pM σ 20 (fun q => if q < k then lnV n b p q else gM σ 20 q)) 20) k (nI v))) 8 (nI k)) 8 (nI (k + 1))) = _
    rw [pI_pI, pM_pM, gM_same, upd_fill eV.symm]
  · intro r
    simp only [lt_q]
    have hT : TX (pI (pM σ 20 (fun q => if q < lnM n b p then lnV n b p q else gM σ 20 q)) 8 (nI (lnM n b p))) t n b := (h.m (by omega) (by omega) _).i _ _
    by_cases q : 6 ≤ lnM n b p
    · rw [if_pos (show (6 : Int32) ≤ nI (lnM n b p) from by show nI 6 ≤ _; rw [nI_L (by omega) (by omega)]; exact q)]
    · rw [if_neg (show ¬ (6 : Int32) ≤ nI (lnM n b p) from by show ¬ nI 6 ≤ _; rw [nI_L (by omega) (by omega)]; exact q), figC_e hT (by omega), Option.bind_some]
      have out := ln_out (n := n) (b := b) (p := p) (by omega)
      rw [show lnR n b p = lnM n b p by omega] at out
      have le : fgI (fgB n b (p + lnM n b p)) ≤ 0 := by
        unfold isF at out
        cases e : fgB n b (p + lnM n b p) with
        | none => show (-9 : Int32) ≤ 0; decide
        | some v =>
          rw [e] at out
          have : v = 0 := by
            have o : decide (1 ≤ v) = false := out
            have := of_decide_eq_false o
            omega
          rw [this]
          show nI 0 ≤ (0 : Int32)
          decide
      rw [if_pos le]
theorem linesR_e {τ : QS} {t n : Nat} {b : Nat → Int32} {p : Nat} (h : RdR τ t n b p) (hp : p ≤ 62) (h0 : gI τ 8 = 0) : lp_ (fun (r7 : QS → Option (Int32 × QS)) (a6 : QS) => Option.bind (fX5_isFigure_50 (1 : Int32) (9 : Int32) a6) (fun (q8 : Int32) => (if q8 = 0 then (if (gI a6 8) ≤ 0 then some ((0 : Int32), a6) else some ((1 : Int32), a6)) else (if (gI a6 8) = (6 : Int32) then some ((0 : Int32), a6) else Option.bind (fX5_figure_50 (1 : Int32) (9 : Int32) a6) (fun (q9 : Int32 × QS) => ck_ (inb (gI a6 8) 6) (lt_ (pM q9.2 61 (upd (gM q9.2 61) ((gI a6 8).toNatClampNeg) q9.1)) (fun (S11 : QS) => lt_ (pI S11 8 ((gI S11 8) + (1 : Int32))) (fun (S12 : QS) => r7 S12)))))))) FV τ = some (if lnR n b p = 0 ∨ lnR n b p = 7 then 0 else 1, pI (pI (pM τ 61 (fun q => if q < lnM n b p then lnV n b p q else gM τ 61 q)) 8 (nI (lnM n b p))) 5 (nI (p + lnM n b p))) := by
  have r7 := lnR_le n b p
  have hm : lnM n b p = min (lnR n b p) 6 := rfl
  have hR : ∀ k, RdR (pI (pI (pM τ 61 (fun q => if q < k then lnV n b p q else gM τ 61 q)) 8 (nI k)) 5 (nI (p + k))) t n b (p + k) := fun k => by
    obtain ⟨h1, h2, h3, h4, h5, h6⟩ := h
    refine ⟨h1, h2, ?_, gI_same _ _ _, ?_, fun j hj => ?_⟩
    · rw [gI_ne (by omega), gI_ne (by omega)]; exact h3
    · rw [gI_ne (by omega), gI_ne (by omega)]; exact h5
    · exact h6 j hj
  have h8 : ∀ k, gI (pI (pI (pM τ 61 (fun q => if q < k then lnV n b p q else gM τ 61 q)) 8 (nI k)) 5 (nI (p + k))) 8 = nI k := fun k => by rw [gI_ne (by omega), gI_same]
  refine for_fu (fun k => pI (pI (pM τ 61 (fun q => if q < k then lnV n b p q else gM τ 61 q)) 8 (nI k)) 5 (nI (p + k))) (lnM n b p) ?_ (by omega) ?_ ?_
  · show τ = pI (pI (pM τ 61 (fun q => if q < 0 then lnV n b p q else gM τ 61 q)) 8 (nI 0)) 5 (nI (p + 0))
    rw [fill_0, pM_self, show nI 0 = gI τ 8 from by rw [h0]; rfl, pI_self, Nat.add_zero, ← h.2.2.2.1, pI_self]
  · intro r k hk
    simp only [lt_q]
    obtain ⟨v, v1, v2, v3, v4, v5⟩ := ln_in (n := n) (b := b) (p := p) (k := k) (by omega)
    have eV : lnV n b p k = nI v := by unfold lnV; rw [v3]; rfl
    have is1 : fX5_isFigure_50 (1 : Int32) (9 : Int32) (pI (pI (pM τ 61 (fun q => if q < k then lnV n b p q else gM τ 61 q)) 8 (nI k)) 5 (nI (p + k))) = some 1 := by
      have := isFig_e (hR k) (by omega) (a := 1) (by omega)
      rw [v5, if_pos rfl] at this
      exact this
    have fi1 : fX5_figure_50 (1 : Int32) (9 : Int32) (pI (pI (pM τ 61 (fun q => if q < k then lnV n b p q else gM τ 61 q)) 8 (nI k)) 5 (nI (p + k))) = some (nI v, pI (pI (pI (pM τ 61 (fun q => if q < k then lnV n b p q else gM τ 61 q)) 8 (nI k)) 5 (nI (p + k))) 5 (nI (p + k + 1))) := by
      have := figR_e (hR k) (by omega) (a := 1) (by omega)
      rw [v5, if_pos rfl, v3] at this
      exact this
    rw [is1, Option.bind_some, if_neg one_ne, h8, if_neg (show ¬ nI k = (6 : Int32) from by show ¬ nI k = nI 6; rw [nI_e (by omega) (by omega)]; omega), fi1, Option.bind_some, ck_t (inb_n (by omega) (by omega)), nI_c (by omega), pI_pI]
    show r (pI (pI (pI (pM (pM τ 61 (fun q => if q < k then lnV n b p q else gM τ 61 q)) 61 (upd (gM (pM τ 61 (fun q => if q < k then lnV n b p q else gM τ 61 q)) 61) k (nI v))) 8 (nI k)) 5 (nI (p + k + 1))) 8 (gI (pI (pI (pM τ 61 (fun q => if q < k then lnV n b p q else gM τ 61 q)) 8 (nI k)) 5 (nI (p + k + 1))) 8 + 1)) = _
    rw [pM_pM, gM_same, upd_fill eV.symm, gI_ne (by omega), gI_same, nI_1]
    have cm : ∀ (S : QS) (a c d : Int32), pI (pI (pI S 8 a) 5 c) 8 d = pI (pI S 8 d) 5 c := fun S a c d => by
      unfold pI
      have : va_up (va_up (va_up S.1 8 a) 5 c) 8 d = va_up (va_up S.1 8 d) 5 c := by
        funext j
        unfold va_up
        by_cases e8 : j = 8
        · subst e8; simp
        · by_cases e5 : j = 5
          · subst e5; simp
          · simp [e8, e5]
      show (va_up (va_up (va_up S.1 8 a) 5 c) 8 d, S.2) = _
      rw [this]
    rw [cm]
    rfl
  · intro r
    simp only [lt_q]
    by_cases q7 : lnR n b p = 7
    · have m6 : lnM n b p = 6 := by omega
      obtain ⟨v, v1, v2, v3, v4, v5⟩ := ln_in (n := n) (b := b) (p := p) (k := 6) (by omega)
      have is1 : fX5_isFigure_50 (1 : Int32) (9 : Int32) (pI (pI (pM τ 61 (fun q => if q < 6 then lnV n b p q else gM τ 61 q)) 8 (nI 6)) 5 (nI (p + 6))) = some 1 := by
        have := isFig_e (hR 6) (by omega) (a := 1) (by omega)
        rw [v5, if_pos rfl] at this
        exact this
      rw [m6, is1, Option.bind_some, if_neg one_ne, h8, if_pos (show nI 6 = (6 : Int32) from rfl), if_pos (Or.inr q7)]
    · have mr : lnM n b p = lnR n b p := by omega
      have out := ln_out (n := n) (b := b) (p := p) (by omega)
      rw [← mr] at out
      have is0 : fX5_isFigure_50 (1 : Int32) (9 : Int32) (pI (pI (pM τ 61 (fun q => if q < lnM n b p then lnV n b p q else gM τ 61 q)) 8 (nI (lnM n b p))) 5 (nI (p + lnM n b p))) = some 0 := by
        have := isFig_e (hR (lnM n b p)) (by omega) (a := 1) (by omega)
        rw [out, if_neg (by decide)] at this
        exact this
      rw [is0, Option.bind_some, if_pos rfl, h8]
      by_cases q0 : lnR n b p = 0
      · rw [if_pos (show nI (lnM n b p) ≤ (0 : Int32) from by show _ ≤ nI 0; rw [nI_L (by omega) (by omega)]; omega), if_pos (Or.inl q0)]
      · rw [if_neg (show ¬ nI (lnM n b p) ≤ (0 : Int32) from by show ¬ _ ≤ nI 0; rw [nI_L (by omega) (by omega)]; omega), if_neg (by omega)]
/-- what the reference leaves as it reads a sitter -/
def frQ (τ τ' : QS) : Prop := (∀ k, k ≠ 5 → k ≠ 9 → k ≠ 10 → gI τ' k = gI τ k) ∧ (∀ k, gJ τ' k = gJ τ k) ∧ ∀ k, k ≠ 62 → gM τ' k = gM τ k
theorem frQ.tr {τ τ1 τ2 : QS} (h : frQ τ τ1) (g : frQ τ1 τ2) : frQ τ τ2 := ⟨fun k a b c => (g.1 k a b c).trans (h.1 k a b c), fun k => (g.2.1 k).trans (h.2.1 k), fun k a => (g.2.2 k a).trans (h.2.2 k a)⟩
theorem frQ.i5 (τ : QS) (v : Int32) : frQ τ (pI τ 5 v) := ⟨fun k a b c => gI_ne a, fun _ => rfl, fun _ _ => rfl⟩
/-- a sitter as both hold him -/
def siJ (kd st me fr : Int32) (q0 q1 q2 q3 : Int32) : Prop := ∃ k s m f, k < 6 ∧ s < 10 ∧ m < 10 ∧ f < 10 ∧ kd = nI k ∧ q0 = nI k ∧ st = nI s ∧ q1 = nI s ∧ me = nI m ∧ q2 = nI m ∧ fr = nI f ∧ q3 = nI f
theorem rsR_kind {τ : QS} {t n : Nat} {b : Nat → Int32} {q : Nat} (h : RdR τ t n b q) (hq : q < n) (hk : fX5_kindOfLetter (b q) = -9 ∨ gI τ 9 = 6) : fX5_readsSitter_50 τ = some (0, τ) := by
  unfold fX5_readsSitter_50
  rw [here_e h hq, Option.bind_some, lt_q]
  by_cases c : fX5_kindOfLetter (b q) = -9
  · rw [if_pos c]
  · rw [if_neg c, if_pos (by rcases hk with w | w; exact absurd w c; exact w)]
theorem fgI_9 (o : Option Nat) (h : ∀ v, o = some v → v < 10) : fgI o = -9 ↔ o = none := by
  cases o with
  | none => exact ⟨fun _ => rfl, fun _ => rfl⟩
  | some v =>
    have := h v rfl
    exact ⟨fun w => absurd w (nI_neg9 (by omega)), fun w => by cases w⟩
theorem fig0_some {τ : QS} {t n : Nat} {b : Nat → Int32} {p v : Nat} (h : RdR τ t n b p) (hp : p < 1000) (e : fgB n b p = some v) : fX5_figure_50 (0 : Int32) (9 : Int32) τ = some (nI v, pI τ 5 (nI (p + 1))) := by
  have := figR_e h hp (a := 0) (by omega)
  rw [isF_0, e] at this
  exact this
theorem fig0_none {τ : QS} {t n : Nat} {b : Nat → Int32} {p : Nat} (h : RdR τ t n b p) (hp : p < 1000) (e : fgB n b p = none) : fX5_figure_50 (0 : Int32) (9 : Int32) τ = some (-9, τ) := by
  have := figR_e h hp (a := 0) (by omega)
  rw [isF_0, e] at this
  exact this
theorem rsR_seat {τ : QS} {t n : Nat} {b : Nat → Int32} {q kd : Nat} (h : RdR τ t n b q) (hq : q < n) (hk : fX5_kindOfLetter (b q) = nI kd) (hkd : kd < 6) (h9 : gI τ 9 ≠ 6) (hs : fgB n b (q + 1) = none) : fX5_readsSitter_50 τ = some (0, pI τ 5 (nI (q + 1))) := by
  have hn := h.2.1
  have e5 : gI τ 5 = nI q := h.2.2.2.1
  unfold fX5_readsSitter_50
  rw [here_e h hq, Option.bind_some, lt_q, hk, if_neg (nI_neg9 (by omega)), if_neg h9, lt_q, e5, nI_1, fig0_none (h.go (q + 1)) (by omega) hs, Option.bind_some]
  refine (lt_q _ _).trans ?_
  rw [if_pos rfl]
  refine (lt_q _ _).trans ?_
  rw [if_pos rfl]
  refine (lt_q _ _).trans ?_
  rw [if_pos rfl]
  rfl
theorem rsR_taken {τ : QS} {t n : Nat} {b : Nat → Int32} {q kd st S : Nat} (h : RdR τ t n b q) (hq : q < n) (hk : fX5_kindOfLetter (b q) = nI kd) (hkd : kd < 6) (h9 : gI τ 9 ≠ 6) (hs : fgB n b (q + 1) = some st) (h10 : gI τ 10 = nI S) (hS : S < 1024) (hb : S.testBit st = true) : fX5_readsSitter_50 τ = some (0, pI τ 5 (nI (q + 1))) := by
  have hn := h.2.1
  have e5 : gI τ 5 = nI q := h.2.2.2.1
  have st10 := (fg_some hs).1
  have st4 := (fg_some hs).2.2.2
  have e10 : gI (pI (pI τ 5 (nI (q + 1))) 5 (nI (q + 1 + 1))) 10 = nI S := by rw [gI_ne (by omega), gI_ne (by omega)]; exact h10
  have e55 : gI (pI (pI τ 5 (nI (q + 1))) 5 (nI (q + 1 + 1))) 5 = nI (q + 1 + 1) := gI_same _ _ _
  unfold fX5_readsSitter_50
  rw [here_e h hq, Option.bind_some, lt_q, hk, if_neg (nI_neg9 (by omega)), if_neg h9, lt_q, e5, nI_1, fig0_some (h.go (q + 1)) (by omega) hs, Option.bind_some]
  refine (lt_q _ _).trans ?_
  rw [if_neg (nI_neg9 (by omega)), e10, has_e (by omega) (by omega), hb, if_pos rfl, if_neg one_ne, lt_q, e55]
  have : nI (q + 1 + 1) - (1 : Int32) = nI (q + 1) := by
    show nI (q + 1 + 1) - nI 1 = _
    rw [pk_sub (by omega)]
    rfl
  rw [this, pI_pI, pI_pI]
theorem rsR_mem {τ : QS} {t n : Nat} {b : Nat → Int32} {q kd st S : Nat} (h : RdR τ t n b q) (hq : q < n) (hk : fX5_kindOfLetter (b q) = nI kd) (hkd : kd < 6) (h9 : gI τ 9 ≠ 6) (hs : fgB n b (q + 1) = some st) (h10 : gI τ 10 = nI S) (hS : S < 1024) (hb : S.testBit st = false) (hm : fgB n b (q + 2) = none) : fX5_readsSitter_50 τ = some (0, pI τ 5 (nI (q + 2))) := by
  have hn := h.2.1
  have e5 : gI τ 5 = nI q := h.2.2.2.1
  have st10 := (fg_some hs).1
  have st4 := (fg_some hs).2.2.2
  have e10 : gI (pI (pI τ 5 (nI (q + 1))) 5 (nI (q + 1 + 1))) 10 = nI S := by rw [gI_ne (by omega), gI_ne (by omega)]; exact h10
  unfold fX5_readsSitter_50
  rw [here_e h hq, Option.bind_some, lt_q, hk, if_neg (nI_neg9 (by omega)), if_neg h9, lt_q, e5, nI_1, fig0_some (h.go (q + 1)) (by omega) hs, Option.bind_some]
  refine (lt_q _ _).trans ?_
  rw [if_neg (nI_neg9 (by omega)), e10, has_e (by omega) (by omega), hb, if0, if_pos rfl]
  refine (lt_q _ _).trans ?_
  rw [if_neg (nI_neg9 (by omega)), fig0_none ((h.go (q + 1)).go (q + 1 + 1)) (by omega) hm, Option.bind_some]
  refine (lt_q _ _).trans ?_
  dsimp only
  rw [if_pos rfl, if_pos rfl, pI_pI]
theorem rsR_fri {τ : QS} {t n : Nat} {b : Nat → Int32} {q kd st S me : Nat} (h : RdR τ t n b q) (hq : q < n) (hk : fX5_kindOfLetter (b q) = nI kd) (hkd : kd < 6) (h9 : gI τ 9 ≠ 6) (hs : fgB n b (q + 1) = some st) (h10 : gI τ 10 = nI S) (hS : S < 1024) (hb : S.testBit st = false) (hm : fgB n b (q + 2) = some me) (hf : fgB n b (q + 3) = none) : fX5_readsSitter_50 τ = some (0, pI τ 5 (nI (q + 3))) := by
  have hn := h.2.1
  have e5 : gI τ 5 = nI q := h.2.2.2.1
  have st10 := (fg_some hs).1
  have me10 := (fg_some hm).1
  have me4 := (fg_some hm).2.2.2
  have e10 : gI (pI (pI τ 5 (nI (q + 1))) 5 (nI (q + 1 + 1))) 10 = nI S := by rw [gI_ne (by omega), gI_ne (by omega)]; exact h10
  unfold fX5_readsSitter_50
  rw [here_e h hq, Option.bind_some, lt_q, hk, if_neg (nI_neg9 (by omega)), if_neg h9, lt_q, e5, nI_1, fig0_some (h.go (q + 1)) (by omega) hs, Option.bind_some]
  refine (lt_q _ _).trans ?_
  rw [if_neg (nI_neg9 (by omega)), e10, has_e (by omega) (by omega), hb, if0, if_pos rfl]
  refine (lt_q _ _).trans ?_
  rw [if_neg (nI_neg9 (by omega)), fig0_some ((h.go (q + 1)).go (q + 1 + 1)) (by omega) hm, Option.bind_some]
  refine (lt_q _ _).trans ?_
  rw [if_neg (nI_neg9 (by omega)), fig0_none (((h.go (q + 1)).go (q + 1 + 1)).go (q + 1 + 1 + 1)) (by omega) hf, Option.bind_some]
  dsimp only
  rw [if_pos rfl, pI_pI, pI_pI]
/-- with all four signs there -/
noncomputable def okT (τ : QS) (q j kd st me fr S : Nat) : QS := pI (pI (pM (pI τ 5 (nI (q + 4))) 62 (upd (upd (upd (upd (gM τ 62) (4 * j) (nI kd)) (4 * j + 1) (nI st)) (4 * j + 2) (nI me)) (4 * j + 3) (nI fr))) 10 (nI (S ||| 2 ^ st))) 9 (nI (j + 1))
theorem rsR_ok {τ : QS} {t n : Nat} {b : Nat → Int32} {q kd st S me fr j : Nat} (h : RdR τ t n b q) (hq : q < n) (hk : fX5_kindOfLetter (b q) = nI kd) (hkd : kd < 6) (h9 : gI τ 9 = nI j) (hj : j < 6) (hs : fgB n b (q + 1) = some st) (h10 : gI τ 10 = nI S) (hS : S < 1024) (hb : S.testBit st = false) (hm : fgB n b (q + 2) = some me) (hf : fgB n b (q + 3) = some fr) : fX5_readsSitter_50 τ = some (1, okT τ q j kd st me fr S) := by
  have hn := h.2.1
  have e5 : gI τ 5 = nI q := h.2.2.2.1
  have st10 := (fg_some hs).1
  have me10 := (fg_some hm).1
  have fr10 := (fg_some hf).1
  have fr4 := (fg_some hf).2.2.2
  have e10 : gI (pI (pI τ 5 (nI (q + 1))) 5 (nI (q + 1 + 1))) 10 = nI S := by rw [gI_ne (by omega), gI_ne (by omega)]; exact h10
  have h9' : gI τ 9 ≠ 6 := by
    rw [h9]
    show ¬ nI j = nI 6
    rw [nI_e (by omega) (by omega)]
    omega
  unfold fX5_readsSitter_50
  rw [here_e h hq, Option.bind_some, lt_q, hk, if_neg (nI_neg9 (by omega)), if_neg h9', lt_q, e5, nI_1, fig0_some (h.go (q + 1)) (by omega) hs, Option.bind_some]
  refine (lt_q _ _).trans ?_
  rw [if_neg (nI_neg9 (by omega)), e10, has_e (by omega) (by omega), hb, if0, if_pos rfl]
  refine (lt_q _ _).trans ?_
  rw [if_neg (nI_neg9 (by omega)), fig0_some ((h.go (q + 1)).go (q + 1 + 1)) (by omega) hm, Option.bind_some]
  refine (lt_q _ _).trans ?_
  rw [if_neg (nI_neg9 (by omega)), fig0_some (((h.go (q + 1)).go (q + 1 + 1)).go (q + 1 + 1 + 1)) (by omega) hf, Option.bind_some]
  dsimp only
  rw [if_neg (nI_neg9 (by omega)), pI_pI, pI_pI, pI_pI]
  have e9 : gI (pI τ 5 (nI (q + 1 + 1 + 1 + 1))) 9 = nI j := by rw [gI_ne (by omega)]; exact h9
  have m4 : (4 : Int32) * nI j = nI (4 * j) := by show nI 4 * nI j = _; rw [pk_mul]
  have a2 : nI (4 * j) + (2 : Int32) = nI (4 * j + 2) := nI_add (4 * j) 2
  have a3 : nI (4 * j) + (3 : Int32) = nI (4 * j + 3) := nI_add (4 * j) 3
  rw [e9, lt_q, m4, nI_1, a2, a3, ck_t (inb_n (by omega) (by omega)), lt_q, ck_t (inb_n (by omega) (by omega)), lt_q, ck_t (inb_n (by omega) (by omega)), lt_q, ck_t (inb_n (by omega) (by omega)), lt_q, lt_q, lt_q, nI_c (by omega), nI_c (by omega), nI_c (by omega), nI_c (by omega)]
  have g10 : gI τ 10 = nI S := h10
  unfold okT
  rw [shl_e (show st < 31 by omega)]
  simp only [pM_pM, gM_same, gI_pM, gI_pI]
  simp only [if_neg (show ¬ (10 : Nat) = 5 by omega), if_neg (show ¬ (9 : Nat) = 10 by omega), if_neg (show ¬ (9 : Nat) = 5 by omega), g10, h9, fa_or, nI_1]
  rfl
