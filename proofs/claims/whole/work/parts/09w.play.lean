/-! ===== a whole play, read on both sides ===== -/
theorem lp_s {α β : Type} (B : (α → Option β) → α → Option β) (k : Nat) (a : α) : lp_ B (k + 1) a = B (lp_ B k) a := rfl
theorem skN_no {n : Nat} {b : Nat → Int32} {p : Nat} (h : ¬ b p = 32) : skN n b p = p := by
  unfold skN
  have : fa_first (fun k => !decide (b (p + k) = 32)) (n - p) = 0 := by
    refine Classical.byContradiction fun w => ?_
    have no := fa_first_no (fun k => !decide (b (p + k) = 32)) (n - p) 0 (by omega)
    have e : b (p + 0) = 32 := by simpa using no
    exact h e
  rw [this]
  rfl
theorem nI_tri (a b : Nat) : nI a + nI b = nI (a + b) := nI_add a b
noncomputable def lC4 (x2 : Int32) : (Int32 × Int32 × QS → Option (Int32 × QS)) → Int32 × Int32 × QS → Option (Int32 × QS) := (fun (r11 : Int32 × Int32 × QS → Option (Int32 × QS)) (a10 : Int32 × Int32 × QS) => (if (6 : Int32) < a10.2.1 then some (a10.1, a10.2.2) else Option.bind (fX1_pastBlanks_2 x2 a10.1 a10.2.2) (fun (q12 : Int32) => Option.bind (fX3_size_2 x2 a10.2.2) (fun (q13 : Int32) => (if q12 < q13 then Option.bind (fX1_readSitter_4_2 x2 q12 a10.2.2) (fun (q14 : Int32 × QS) => (if (4 : Int32) ≤ q14.1 then lt_ (q12 + q14.1) (fun (v15 : Int32) => r11 (v15, (a10.2.1 + (1 : Int32)), q14.2)) else some ((q12 + q14.1), q14.2))) else (if (gI a10.2.2 4) = 0 then some (q12, a10.2.2) else some ((-9 : Int32), a10.2.2)))))))
theorem sits_4 {t n : Nat} {b : Nat → Int32} : ∀ (m j : Nat) (σ τ : QS) (p T cb F G : Nat), j + m = 6 → siG 4 5 6 16 17 18 19 σ τ j T cb → TX σ t n b → RdR τ t n b (skN n b p) → p ≤ n → m < F → m + 1 < G → ∃ v σ' τ', lp_ (lC4 (nI t)) F (nI p, nI j, σ) = some (v, σ') ∧ lp_ lR G (1, τ) = some (v, τ') ∧ frG 4 5 6 16 17 18 19 σ σ' ∧ frQ τ τ' ∧ (v = -9 → ∃ j' T' cb', 0 < j' ∧ siG 4 5 6 16 17 18 19 σ' τ' j' T' cb') := by
  intro m
  induction m with
  | zero =>
    intro j σ τ p T cb F G hjm hd h hR hp hF hG
    obtain ⟨F', rfl⟩ : ∃ F', F = F' + 1 := ⟨F - 1, by omega⟩
    obtain ⟨G', rfl⟩ : ∃ G', G = G' + 1 + 1 := ⟨G - 2, by omega⟩
    have hn := h.2.1
    have sk := skN_le (n := n) (b := b) hp
    have j6 : j = 6 := by omega
    subst j6
    have hd' := hd
    obtain ⟨d1, d2, d3, d4, d5, d6, d7, d8, d9⟩ := hd'
    rw [lp_s, lp_s]
    by_cases q : skN n b p < n
    · refine ⟨nI (skN n b p), σ, τ, ?_, ?_, frG.rf _, frQ.rf _, fun w => absurd w (nI_neg9 (by omega))⟩
      · unfold lC4
        dsimp only
        rw [if_neg (show ¬ (6 : Int32) < nI 6 by decide), skC_e h hp, Option.bind_some, size2_e h.1, Option.bind_some, h.2.2.1, if_pos (by rw [nI_l2 (by omega) (by omega)]; exact q), rsC_kind_4 h q d2 d1 (Or.inr rfl), Option.bind_some]
        dsimp only
        rw [if_neg (by decide), show (0 : Int32) = nI 0 from rfl, nI_tri]
        rfl
      · rw [lR_no hR q (rsR_kind hR q (Or.inr (by rw [d3]; rfl))), lp_s, lR_fail, hR.2.2.2.1]
    · refine ⟨-9, σ, τ, ?_, ?_, frG.rf _, frQ.rf _, fun _ => ⟨6, T, cb, by omega, hd⟩⟩
      · unfold lC4
        dsimp only
        rw [if_neg (show ¬ (6 : Int32) < nI 6 by decide), skC_e h hp, Option.bind_some, size2_e h.1, Option.bind_some, h.2.2.1, if_neg (by rw [nI_l2 (by omega) (by omega)]; exact q), d2, if_neg (by decide)]
      · rw [lR_end hR (by omega) (by omega) d3 d1, if_neg (by omega)]
  | succ m ih =>
    intro j σ τ p T cb F G hjm hd h hR hp hF hG
    obtain ⟨F', rfl⟩ : ∃ F', F = F' + 1 := ⟨F - 1, by omega⟩
    obtain ⟨G', rfl⟩ : ∃ G', G = G' + 1 + 1 := ⟨G - 2, by omega⟩
    have hn := h.2.1
    have sk := skN_le (n := n) (b := b) hp
    have hd' := hd
    obtain ⟨d1, d2, d3, d4, d5, d6, d7, d8, d9⟩ := hd'
    have j6 : ¬ (6 : Int32) < nI j := by
      show ¬ nI 6 < nI j
      rw [nI_l2 (by omega) (by omega)]
      omega
    by_cases q : skN n b p < n
    · have cl : ∀ (r : Int32 × Int32 × QS → Option (Int32 × QS)), lC4 (nI t) r (nI p, nI j, σ) = Option.bind (fX1_readSitter_4_2 (nI t) (nI (skN n b p)) σ) (fun (q14 : Int32 × QS) => if (4 : Int32) ≤ q14.1 then r (nI (skN n b p) + q14.1, nI (j + 1), q14.2) else some (nI (skN n b p) + q14.1, q14.2)) := fun r => by
        unfold lC4
        simp only [lt_q]
        rw [if_neg j6, skC_e h hp, Option.bind_some, size2_e h.1, Option.bind_some, h.2.2.1, if_pos (by rw [nI_l2 (by omega) (by omega)]; exact q), nI_1]
      rcases sit_step_4 h hR q hd with ⟨r, σ', τ', hr, hc, hs, f1, f2, f3⟩ | ⟨σ', τ', T', cb', hn4, hj6, hc, hs, f1, f2, f3, f4⟩
      · refine ⟨nI (skN n b p + r), σ', τ', ?_, ?_, f1, f2, fun w => absurd w (nI_neg9 (by omega))⟩
        · rw [lp_s, cl, hc, Option.bind_some]
          dsimp only
          rw [if_neg (show ¬ (4 : Int32) ≤ nI r from by show ¬ nI 4 ≤ nI r; rw [nI_L (by omega) (by omega)]; omega), nI_tri]
        · rw [lp_s, lR_no hR q hs, lp_s, lR_fail, f3]
      · have hT' : TX σ' t n b := f1.tx (by omega) (by omega) (by omega) (by omega) h
        have hR' : RdR τ' t n b (skN n b p + 4) := f2.rd hR f3
        have i5 : frQ τ' (pI τ' 5 (nI (skN n b (skN n b p + 4)))) := frQ.i5 _ _
        have hd2 : siG 4 5 6 16 17 18 19 σ' (pI τ' 5 (nI (skN n b (skN n b p + 4)))) (j + 1) T' cb' := by
          obtain ⟨e1, e2, e3, e4, e5, e6, e7, e8, e9⟩ := f4
          exact ⟨e1, e2, by rw [gI_ne (by omega)]; exact e3, e4, by rw [gI_ne (by omega)]; exact e5, e6, e7, e8, e9⟩
        obtain ⟨v, σ2, τ2, g1, g2, g3, g4, g5⟩ := ih (j + 1) σ' (pI τ' 5 (nI (skN n b (skN n b p + 4)))) (skN n b p + 4) T' cb' F' (G' + 1) (by omega) hd2 hT' (hR'.go _) (by omega) (by omega) (by omega)
        refine ⟨v, σ2, τ2, ?_, ?_, f1.tr g3, (f2.tr i5).tr g4, g5⟩
        · rw [lp_s, cl, hc, Option.bind_some]
          dsimp only
          rw [if_pos (show (4 : Int32) ≤ 4 by decide)]
          show lp_ (lC4 (nI t)) F' (nI (skN n b p) + nI 4, nI (j + 1), σ') = _
          rw [nI_tri]
          exact g1
        · rw [lp_s, lR_yes hR q hs hR' (by omega)]
          exact g2
    · rw [lp_s, lp_s]
      refine ⟨if j = 0 then nI (skN n b p) else -9, σ, τ, ?_, ?_, frG.rf _, frQ.rf _, fun w => ⟨j, T, cb, ?_, hd⟩⟩
      · unfold lC4
        dsimp only
        rw [if_neg j6, skC_e h hp, Option.bind_some, size2_e h.1, Option.bind_some, h.2.2.1, if_neg (by rw [nI_l2 (by omega) (by omega)]; exact q), d2]
        by_cases e : j = 0
        · rw [if_pos (by rw [e]; rfl), if_pos e]
        · rw [if_neg (show ¬ nI j = 0 from by show ¬ nI j = nI 0; rw [nI_e (by omega) (by omega)]; exact e), if_neg e]
      · rw [lR_end hR (by omega) (by omega) d3 d1]
      · by_cases e : j = 0
        · rw [if_pos e] at w
          exact absurd w (nI_neg9 (by omega))
        · omega
/-- what the class leaves as it reads a whole play -/
def frW4 (σ σ' : QS) : Prop := (∀ k, k < 2 ∨ 6 < k → gI σ' k = gI σ k) ∧ (∀ k, gJ σ' k = gJ σ k) ∧ ∀ k, k < 15 ∨ 19 < k → gM σ' k = gM σ k
/-- a play read by both -/
def plG4 (σ τ : QS) : Prop := ∃ pr m j T cb, pr ≤ 9 ∧ gI σ 2 = nI pr ∧ gI τ 7 = nI pr ∧ 0 < m ∧ m ≤ 6 ∧ gI σ 3 = nI m ∧ gI τ 8 = nI m ∧ (∀ k, k < m → gM σ 15 k = gM τ 61 k ∧ ∃ v, 1 ≤ v ∧ v ≤ 9 ∧ gM σ 15 k = nI v) ∧ 0 < j ∧ siG 4 5 6 16 17 18 19 σ τ j T cb
noncomputable def lC5 (x2 : Int32) : (Int32 × Int32 × QS → Option (Int32 × QS)) → Int32 × Int32 × QS → Option (Int32 × QS) := (fun (r11 : Int32 × Int32 × QS → Option (Int32 × QS)) (a10 : Int32 × Int32 × QS) => (if (6 : Int32) < a10.2.1 then some (a10.1, a10.2.2) else Option.bind (fX1_pastBlanks_2 x2 a10.1 a10.2.2) (fun (q12 : Int32) => Option.bind (fX3_size_2 x2 a10.2.2) (fun (q13 : Int32) => (if q12 < q13 then Option.bind (fX1_readSitter_5_2 x2 q12 a10.2.2) (fun (q14 : Int32 × QS) => (if (4 : Int32) ≤ q14.1 then lt_ (q12 + q14.1) (fun (v15 : Int32) => r11 (v15, (a10.2.1 + (1 : Int32)), q14.2)) else some ((q12 + q14.1), q14.2))) else (if (gI a10.2.2 9) = 0 then some (q12, a10.2.2) else some ((-9 : Int32), a10.2.2)))))))
theorem sits_5 {t n : Nat} {b : Nat → Int32} : ∀ (m j : Nat) (σ τ : QS) (p T cb F G : Nat), j + m = 6 → siG 9 10 11 21 22 23 24 σ τ j T cb → TX σ t n b → RdR τ t n b (skN n b p) → p ≤ n → m < F → m + 1 < G → ∃ v σ' τ', lp_ (lC5 (nI t)) F (nI p, nI j, σ) = some (v, σ') ∧ lp_ lR G (1, τ) = some (v, τ') ∧ frG 9 10 11 21 22 23 24 σ σ' ∧ frQ τ τ' ∧ (v = -9 → ∃ j' T' cb', 0 < j' ∧ siG 9 10 11 21 22 23 24 σ' τ' j' T' cb') := by
  intro m
  induction m with
  | zero =>
    intro j σ τ p T cb F G hjm hd h hR hp hF hG
    obtain ⟨F', rfl⟩ : ∃ F', F = F' + 1 := ⟨F - 1, by omega⟩
    obtain ⟨G', rfl⟩ : ∃ G', G = G' + 1 + 1 := ⟨G - 2, by omega⟩
    have hn := h.2.1
    have sk := skN_le (n := n) (b := b) hp
    have j6 : j = 6 := by omega
    subst j6
    have hd' := hd
    obtain ⟨d1, d2, d3, d4, d5, d6, d7, d8, d9⟩ := hd'
    rw [lp_s, lp_s]
    by_cases q : skN n b p < n
    · refine ⟨nI (skN n b p), σ, τ, ?_, ?_, frG.rf _, frQ.rf _, fun w => absurd w (nI_neg9 (by omega))⟩
      · unfold lC5
        dsimp only
        rw [if_neg (show ¬ (6 : Int32) < nI 6 by decide), skC_e h hp, Option.bind_some, size2_e h.1, Option.bind_some, h.2.2.1, if_pos (by rw [nI_l2 (by omega) (by omega)]; exact q), rsC_kind_5 h q d2 d1 (Or.inr rfl), Option.bind_some]
        dsimp only
        rw [if_neg (by decide), show (0 : Int32) = nI 0 from rfl, nI_tri]
        rfl
      · rw [lR_no hR q (rsR_kind hR q (Or.inr (by rw [d3]; rfl))), lp_s, lR_fail, hR.2.2.2.1]
    · refine ⟨-9, σ, τ, ?_, ?_, frG.rf _, frQ.rf _, fun _ => ⟨6, T, cb, by omega, hd⟩⟩
      · unfold lC5
        dsimp only
        rw [if_neg (show ¬ (6 : Int32) < nI 6 by decide), skC_e h hp, Option.bind_some, size2_e h.1, Option.bind_some, h.2.2.1, if_neg (by rw [nI_l2 (by omega) (by omega)]; exact q), d2, if_neg (by decide)]
      · rw [lR_end hR (by omega) (by omega) d3 d1, if_neg (by omega)]
  | succ m ih =>
    intro j σ τ p T cb F G hjm hd h hR hp hF hG
    obtain ⟨F', rfl⟩ : ∃ F', F = F' + 1 := ⟨F - 1, by omega⟩
    obtain ⟨G', rfl⟩ : ∃ G', G = G' + 1 + 1 := ⟨G - 2, by omega⟩
    have hn := h.2.1
    have sk := skN_le (n := n) (b := b) hp
    have hd' := hd
    obtain ⟨d1, d2, d3, d4, d5, d6, d7, d8, d9⟩ := hd'
    have j6 : ¬ (6 : Int32) < nI j := by
      show ¬ nI 6 < nI j
      rw [nI_l2 (by omega) (by omega)]
      omega
    by_cases q : skN n b p < n
    · have cl : ∀ (r : Int32 × Int32 × QS → Option (Int32 × QS)), lC5 (nI t) r (nI p, nI j, σ) = Option.bind (fX1_readSitter_5_2 (nI t) (nI (skN n b p)) σ) (fun (q14 : Int32 × QS) => if (4 : Int32) ≤ q14.1 then r (nI (skN n b p) + q14.1, nI (j + 1), q14.2) else some (nI (skN n b p) + q14.1, q14.2)) := fun r => by
        unfold lC5
        simp only [lt_q]
        rw [if_neg j6, skC_e h hp, Option.bind_some, size2_e h.1, Option.bind_some, h.2.2.1, if_pos (by rw [nI_l2 (by omega) (by omega)]; exact q), nI_1]
      rcases sit_step_5 h hR q hd with ⟨r, σ', τ', hr, hc, hs, f1, f2, f3⟩ | ⟨σ', τ', T', cb', hn4, hj6, hc, hs, f1, f2, f3, f4⟩
      · refine ⟨nI (skN n b p + r), σ', τ', ?_, ?_, f1, f2, fun w => absurd w (nI_neg9 (by omega))⟩
        · rw [lp_s, cl, hc, Option.bind_some]
          dsimp only
          rw [if_neg (show ¬ (4 : Int32) ≤ nI r from by show ¬ nI 4 ≤ nI r; rw [nI_L (by omega) (by omega)]; omega), nI_tri]
        · rw [lp_s, lR_no hR q hs, lp_s, lR_fail, f3]
      · have hT' : TX σ' t n b := f1.tx (by omega) (by omega) (by omega) (by omega) h
        have hR' : RdR τ' t n b (skN n b p + 4) := f2.rd hR f3
        have i5 : frQ τ' (pI τ' 5 (nI (skN n b (skN n b p + 4)))) := frQ.i5 _ _
        have hd2 : siG 9 10 11 21 22 23 24 σ' (pI τ' 5 (nI (skN n b (skN n b p + 4)))) (j + 1) T' cb' := by
          obtain ⟨e1, e2, e3, e4, e5, e6, e7, e8, e9⟩ := f4
          exact ⟨e1, e2, by rw [gI_ne (by omega)]; exact e3, e4, by rw [gI_ne (by omega)]; exact e5, e6, e7, e8, e9⟩
        obtain ⟨v, σ2, τ2, g1, g2, g3, g4, g5⟩ := ih (j + 1) σ' (pI τ' 5 (nI (skN n b (skN n b p + 4)))) (skN n b p + 4) T' cb' F' (G' + 1) (by omega) hd2 hT' (hR'.go _) (by omega) (by omega) (by omega)
        refine ⟨v, σ2, τ2, ?_, ?_, f1.tr g3, (f2.tr i5).tr g4, g5⟩
        · rw [lp_s, cl, hc, Option.bind_some]
          dsimp only
          rw [if_pos (show (4 : Int32) ≤ 4 by decide)]
          show lp_ (lC5 (nI t)) F' (nI (skN n b p) + nI 4, nI (j + 1), σ') = _
          rw [nI_tri]
          exact g1
        · rw [lp_s, lR_yes hR q hs hR' (by omega)]
          exact g2
    · rw [lp_s, lp_s]
      refine ⟨if j = 0 then nI (skN n b p) else -9, σ, τ, ?_, ?_, frG.rf _, frQ.rf _, fun w => ⟨j, T, cb, ?_, hd⟩⟩
      · unfold lC5
        dsimp only
        rw [if_neg j6, skC_e h hp, Option.bind_some, size2_e h.1, Option.bind_some, h.2.2.1, if_neg (by rw [nI_l2 (by omega) (by omega)]; exact q), d2]
        by_cases e : j = 0
        · rw [if_pos (by rw [e]; rfl), if_pos e]
        · rw [if_neg (show ¬ nI j = 0 from by show ¬ nI j = nI 0; rw [nI_e (by omega) (by omega)]; exact e), if_neg e]
      · rw [lR_end hR (by omega) (by omega) d3 d1]
      · by_cases e : j = 0
        · rw [if_pos e] at w
          exact absurd w (nI_neg9 (by omega))
        · omega
/-- what the class leaves as it reads a whole play -/
def frW5 (σ σ' : QS) : Prop := (∀ k, k < 7 ∨ 11 < k → gI σ' k = gI σ k) ∧ (∀ k, gJ σ' k = gJ σ k) ∧ ∀ k, k < 20 ∨ 24 < k → gM σ' k = gM σ k
/-- a play read by both -/
def plG5 (σ τ : QS) : Prop := ∃ pr m j T cb, pr ≤ 9 ∧ gI σ 7 = nI pr ∧ gI τ 7 = nI pr ∧ 0 < m ∧ m ≤ 6 ∧ gI σ 8 = nI m ∧ gI τ 8 = nI m ∧ (∀ k, k < m → gM σ 20 k = gM τ 61 k ∧ ∃ v, 1 ≤ v ∧ v ≤ 9 ∧ gM σ 20 k = nI v) ∧ 0 < j ∧ siG 9 10 11 21 22 23 24 σ τ j T cb
/-- what the reference leaves as it reads a whole play -/
def frP (τ τ' : QS) : Prop := (∀ k, k < 4 ∨ 10 < k → gI τ' k = gI τ k) ∧ (∀ k, gJ τ' k = gJ τ k) ∧ ∀ k, k ≠ 61 → k ≠ 62 → gM τ' k = gM τ k
theorem readc_4 {σ τ σ9 τ9 : QS} {t n p pr m : Nat} {b : Nat → Int32} (h9 : TX σ9 t n b) (hR9 : RdR τ9 t n b p) (hp : p ≤ n) (F9 : frW4 σ σ9) (G9 : frP τ τ9) (s1 : gI σ9 4 = nI 0) (s2 : gI σ9 5 = nI 0) (s3 : gI σ9 6 = nI 0) (e9 : gI τ9 9 = nI 0) (e10 : gI τ9 10 = nI 0) (eP : gI σ9 2 = nI pr) (e7 : gI τ9 7 = nI pr) (eSC : gI σ9 3 = nI m) (e8 : gI τ9 8 = nI m) (hpr : pr ≤ 9) (hm0 : 0 < m) (hm6 : m ≤ 6) (hl : ∀ k, k < m → gM σ9 15 k = gM τ9 61 k ∧ ∃ v, 1 ≤ v ∧ v ≤ 9 ∧ gM σ9 15 k = nI v) : ∃ v σ' τ', lp_ (lC4 (nI t)) FV (nI p, 0, σ9) = some (v, σ') ∧ Option.bind (fX5_skip_50 τ9) (fun q => lp_ lR FV (1, q)) = some (v, τ') ∧ frW4 σ σ' ∧ frP τ τ' ∧ (v = -9 → plG4 σ' τ') := by
  rw [skR_e hR9 hp, Option.bind_some]
  have hR10 := hR9.go (skN n b p)
  have i5 : frQ τ9 (pI τ9 5 (nI (skN n b p))) := frQ.i5 _ _
  have dd : siG 4 5 6 16 17 18 19 σ9 (pI τ9 5 (nI (skN n b p))) 0 0 0 := ⟨by omega, s1, by rw [gI_ne (by omega)]; exact e9, s2, by rw [gI_ne (by omega)]; exact e10, by omega, s3, by omega, fun i hi => absurd hi (by omega)⟩
  have FVg := FV_ge
  obtain ⟨v, σ', τ', r1, r2, r3, r4', r5⟩ := sits_4 6 0 σ9 (pI τ9 5 (nI (skN n b p))) p 0 0 FV FV (by omega) dd h9 hR10 hp (by omega) (by omega)
  have r4 := i5.tr r4'
  refine ⟨v, σ', τ', r1, r2, ?_, ?_, fun w => ?_⟩
  · exact ⟨fun k hk => (r3.1 k (by omega) (by omega) (by omega)).trans (F9.1 k hk), fun k => (r3.2.1 k).trans (F9.2.1 k), fun k hk => (r3.2.2 k (by omega) (by omega) (by omega) (by omega)).trans (F9.2.2 k hk)⟩
  · exact ⟨fun k hk => (r4.1 k (by omega) (by omega) (by omega)).trans (G9.1 k hk), fun k => (r4.2.1 k).trans (G9.2.1 k), fun k x1 x2 => (r4.2.2 k x2).trans (G9.2.2 k x1 x2)⟩
  · obtain ⟨j', T', cb', w1, w2⟩ := r5 w
    refine ⟨pr, m, j', T', cb', hpr, ?_, ?_, hm0, hm6, ?_, ?_, fun k hk => ?_, w1, w2⟩
    · rw [r3.1 2 (by omega) (by omega) (by omega)]; exact eP
    · rw [r4.1 7 (by omega) (by omega) (by omega)]; exact e7
    · rw [r3.1 3 (by omega) (by omega) (by omega)]; exact eSC
    · rw [r4.1 8 (by omega) (by omega) (by omega)]; exact e8
    · rw [r3.2.2 15 (by omega) (by omega) (by omega) (by omega), r4.2.2 61 (by omega)]
      exact hl k hk
theorem read4_same {σ τ : QS} {t n : Nat} {b : Nat → Int32} (h : TX σ t n b) (hT : TR τ t n b) : ∃ v σ' τ', fX1_read_4_2 (nI t) σ = some (v, σ') ∧ fX5_faultOf_50 (nI t) τ = some (v, τ') ∧ frW4 σ σ' ∧ frP τ τ' ∧ (v = -9 → plG4 σ' τ') := by
  have ht := h.1
  have hn := h.2.1
  have sk := skN_le (n := n) (b := b) (p := 0) (by omega)
  have h4 : TX (pI (pI (pI (pI σ 3 0) 4 0) 5 0) 6 0) t n b := h
  have z0 : (0 : Int32) = nI 0 := rfl
  have o1 : nI (skN n b 0) + (1 : Int32) = nI (skN n b 0 + 1) := nI_1 _
  have o2 : nI (skN n b 0) + (2 : Int32) = nI (skN n b 0 + 2) := nI_add _ 2
  have hR : RdR (pI (pI (pI (pI (pI (pI τ 4 (nI (60 * t))) 5 0) 6 (nI n)) 8 0) 9 0) 10 0) t n b 0 := ⟨ht, hn, rfl, rfl, rfl, hT.2⟩
  have f60 : (60 : Int32) * nI t = nI (60 * t) := by show nI 60 * nI t = _; rw [pk_mul]
  have F0 : frW4 σ (pI (pI (pI (pI σ 3 0) 4 0) 5 0) 6 0) := ⟨fun k hk => by rw [gI_ne (by omega), gI_ne (by omega), gI_ne (by omega), gI_ne (by omega)], fun _ => rfl, fun _ _ => rfl⟩
  have G0 : ∀ p, frP τ (pI (pI (pI (pI (pI (pI (pI τ 4 (nI (60 * t))) 5 0) 6 (nI n)) 8 0) 9 0) 10 0) 5 (nI p)) := fun p => ⟨fun k hk => by rw [gI_ne (by omega), gI_ne (by omega), gI_ne (by omega), gI_ne (by omega), gI_ne (by omega), gI_ne (by omega), gI_ne (by omega)], fun _ => rfl, fun _ _ _ => rfl⟩
  have hR1 := hR.go (skN n b 0)
  unfold fX1_read_4_2 fX5_faultOf_50 fX5_readsPlay_50
  simp only [lt_q]
  rw [f60, ck_t (inb_n ht (by omega)), nI_c (by omega)]
  have e58 : gM (pI (pI τ 4 (nI (60 * t))) 5 0) 58 t = nI n := hT.1
  rw [e58]
  rw [show fX1_pastBlanks_2 (nI t) (0 : Int32) (pI (pI (pI (pI σ 3 0) 4 0) 5 0) 6 0) = some (nI (skN n b 0)) from skC_e h4 (p := 0) (by omega), Option.bind_some, get_t h4 (by omega), Option.bind_some, skR_e hR (by omega), Option.bind_some, hR1.2.2.2.1, hR1.2.2.2.2.1]
  by_cases q : skN n b 0 < n
  · rw [if_neg (show ¬ nI (skN n b 0) = nI n from by rw [nI_e (by omega) (by omega)]; omega), here_e hR1 q, Option.bind_some, show byB n b (skN n b 0) = b (skN n b 0) from if_pos q]
    by_cases c : b (skN n b 0) = 97
    · rw [if_pos c, if_pos c, o1]
      have hR2 := hR1.go (skN n b 0 + 1)
      cases hp : fgB n b (skN n b 0 + 1) with
      | none =>
        refine ⟨nI (skN n b 0 + 1), pI (pI (pI (pI (pI σ 3 0) 4 0) 5 0) 6 0) 2 (-9), pI (pI (pI (pI (pI (pI (pI (pI (pI τ 4 (nI (60 * t))) 5 0) 6 (nI n)) 8 0) 9 0) 10 0) 5 (nI (skN n b 0))) 5 (nI (skN n b 0 + 1))) 7 (-9), ?_, ?_, ?_, ?_, fun w => absurd w (nI_neg9 (by omega))⟩
        · rw [figC_e h4 (by omega), Option.bind_some, hp, fgI_n, gI_same, if_neg m9_lt]
        · rw [fig0_none hR2 (by omega) hp, Option.bind_some]
          dsimp only
          rw [gI_same, if_pos rfl, Option.bind_some, if_pos rfl]
          obtain ⟨G, hG⟩ : ∃ G, FV = G + 1 := ⟨FV - 1, by have := FV_ge; omega⟩
          rw [hG, lp_s]
          refine (lR_fail (τ := _) (lp_ lR G)).trans ?_
          rw [gI_ne (by omega), hR2.2.2.2.1]
        · exact ⟨fun k hk => (gI_ne (by omega)).trans (F0.1 k hk), fun _ => rfl, fun _ _ => rfl⟩
        · rw [pI_pI]
          exact ⟨fun k hk => (gI_ne (by omega)).trans ((G0 _).1 k hk), fun _ => rfl, fun _ _ _ => rfl⟩
      | some pr =>
        have pr10 := (fg_some hp).1
        have prn := (fg_some hp).2.2.2
        have hR3 : RdR (pI (pI (pI (pI (pI (pI (pI (pI (pI (pI τ 4 (nI (60 * t))) 5 0) 6 (nI n)) 8 0) 9 0) 10 0) 5 (nI (skN n b 0))) 5 (nI (skN n b 0 + 1))) 5 (nI (skN n b 0 + 1 + 1))) 7 (nI pr)) t n b (skN n b 0 + 2) := by
          obtain ⟨x1, x2, x3, x4, x5, x6⟩ := hR2.go (skN n b 0 + 1 + 1)
          exact ⟨x1, x2, by rw [gI_ne (by omega)]; exact x3, by rw [gI_ne (by omega)]; exact x4, by rw [gI_ne (by omega)]; exact x5, x6⟩
        have h8 : TX (pI (pI (pI (pI (pI σ 3 0) 4 0) 5 0) 6 0) 2 (nI pr)) t n b := h4
        have lm := lnR_le n b (skN n b 0 + 2)
        have hm : lnM n b (skN n b 0 + 2) = min (lnR n b (skN n b 0 + 2)) 6 := rfl
        rw [figC_e h4 (by omega), Option.bind_some, hp, fgI_s, gI_same, if_pos (nI_pos' (by omega)), o2, lines4_e h8 (by omega) rfl, Option.bind_some, gI_same, fig0_some hR2 (by omega) hp, Option.bind_some]
        dsimp only
        have LR := linesR_e hR3 (by omega) rfl
        simp only [lt_q] at LR
        rw [gI_same, if_neg (nI_neg9 (by omega)), LR, Option.bind_some]
        have F9 : frW4 σ (pI (pM (pI (pI (pI (pI (pI σ 3 0) 4 0) 5 0) 6 0) 2 (nI pr)) 15 (fun q => if q < lnM n b (skN n b 0 + 2) then lnV n b (skN n b 0 + 2) q else gM (pI (pI (pI (pI (pI σ 3 0) 4 0) 5 0) 6 0) 2 (nI pr)) 15 q)) 3 (nI (lnM n b (skN n b 0 + 2)))) := ⟨fun k hk => by rw [gI_ne (by omega)]; show gI (pI (pI (pI (pI (pI σ 3 0) 4 0) 5 0) 6 0) 2 (nI pr)) k = _; rw [gI_ne (by omega)]; exact F0.1 k hk, fun _ => rfl, fun k hk => by show gM (pM (pI (pI (pI (pI (pI σ 3 0) 4 0) 5 0) 6 0) 2 (nI pr)) 15 _) k = _; rw [gM_ne (by omega)]; rfl⟩
        have G3 : frP τ (pI (pI (pI (pI (pI (pI (pI (pI (pI (pI τ 4 (nI (60 * t))) 5 0) 6 (nI n)) 8 0) 9 0) 10 0) 5 (nI (skN n b 0))) 5 (nI (skN n b 0 + 1))) 5 (nI (skN n b 0 + 1 + 1))) 7 (nI pr)) := ⟨fun k hk => by rw [gI_ne (by omega), gI_ne (by omega), gI_ne (by omega)]; exact (G0 _).1 k hk, fun _ => rfl, fun _ _ _ => rfl⟩
        have e7 : gI (pI (pI (pI (pI (pI (pI (pI (pI (pI (pI τ 4 (nI (60 * t))) 5 0) 6 (nI n)) 8 0) 9 0) 10 0) 5 (nI (skN n b 0))) 5 (nI (skN n b 0 + 1))) 5 (nI (skN n b 0 + 1 + 1))) 7 (nI pr)) 7 = nI pr := gI_same _ _ _
        have e9 : gI (pI (pI (pI (pI (pI (pI (pI (pI (pI (pI τ 4 (nI (60 * t))) 5 0) 6 (nI n)) 8 0) 9 0) 10 0) 5 (nI (skN n b 0))) 5 (nI (skN n b 0 + 1))) 5 (nI (skN n b 0 + 1 + 1))) 7 (nI pr)) 9 = nI 0 := rfl
        have e10 : gI (pI (pI (pI (pI (pI (pI (pI (pI (pI (pI τ 4 (nI (60 * t))) 5 0) 6 (nI n)) 8 0) 9 0) 10 0) 5 (nI (skN n b 0))) 5 (nI (skN n b 0 + 1))) 5 (nI (skN n b 0 + 1 + 1))) 7 (nI pr)) 10 = nI 0 := rfl
        generalize (pI (pI (pI (pI (pI (pI (pI (pI (pI (pI τ 4 (nI (60 * t))) 5 0) 6 (nI n)) 8 0) 9 0) 10 0) 5 (nI (skN n b 0))) 5 (nI (skN n b 0 + 1))) 5 (nI (skN n b 0 + 1 + 1))) 7 (nI pr)) = τ3 at hR3 G3 e7 e9 e10 ⊢
        have G9 : frP τ (pI (pI (pM τ3 61 (fun q => if q < lnM n b (skN n b 0 + 2) then lnV n b (skN n b 0 + 2) q else gM τ3 61 q)) 8 (nI (lnM n b (skN n b 0 + 2)))) 5 (nI (skN n b 0 + 2 + lnM n b (skN n b 0 + 2)))) := ⟨fun k hk => by rw [gI_ne (by omega), gI_ne (by omega)]; exact G3.1 k hk, fun k => G3.2.1 k, fun k x1 x2 => by show gM (pM τ3 61 _) k = _; rw [gM_ne x1]; exact G3.2.2 k x1 x2⟩
        have e5 : gI (pI (pI (pM τ3 61 (fun q => if q < lnM n b (skN n b 0 + 2) then lnV n b (skN n b 0 + 2) q else gM τ3 61 q)) 8 (nI (lnM n b (skN n b 0 + 2)))) 5 (nI (skN n b 0 + 2 + lnM n b (skN n b 0 + 2)))) 5 = nI (skN n b 0 + 2 + lnM n b (skN n b 0 + 2)) := gI_same _ _ _
        have h9 : TX (pI (pM (pI (pI (pI (pI (pI σ 3 0) 4 0) 5 0) 6 0) 2 (nI pr)) 15 (fun q => if q < lnM n b (skN n b 0 + 2) then lnV n b (skN n b 0 + 2) q else gM (pI (pI (pI (pI (pI σ 3 0) 4 0) 5 0) 6 0) 2 (nI pr)) 15 q)) 3 (nI (lnM n b (skN n b 0 + 2)))) t n b := (h8.m (by omega) (by omega) _).i _ _
        have e9' : gI (pI (pI (pM τ3 61 (fun q => if q < lnM n b (skN n b 0 + 2) then lnV n b (skN n b 0 + 2) q else gM τ3 61 q)) 8 (nI (lnM n b (skN n b 0 + 2)))) 5 (nI (skN n b 0 + 2 + lnM n b (skN n b 0 + 2)))) 9 = nI 0 := by rw [gI_ne (by omega), gI_ne (by omega)]; exact e9
        have e10' : gI (pI (pI (pM τ3 61 (fun q => if q < lnM n b (skN n b 0 + 2) then lnV n b (skN n b 0 + 2) q else gM τ3 61 q)) 8 (nI (lnM n b (skN n b 0 + 2)))) 5 (nI (skN n b 0 + 2 + lnM n b (skN n b 0 + 2)))) 10 = nI 0 := by rw [gI_ne (by omega), gI_ne (by omega)]; exact e10
        by_cases l0 : lnR n b (skN n b 0 + 2) = 0
        · have m0 : lnM n b (skN n b 0 + 2) = 0 := by omega
          refine ⟨nI (skN n b 0 + 2 + lnM n b (skN n b 0 + 2)), _, _, by rw [if_pos (show nI (lnM n b (skN n b 0 + 2)) = (0 : Int32) from by rw [m0]; rfl)], ?_, F9, G9, fun w => absurd w (nI_neg9 (by omega))⟩
          rw [if_pos (Or.inl l0), if_pos rfl]
          obtain ⟨G, hG⟩ : ∃ G, FV = G + 1 := ⟨FV - 1, by have := FV_ge; omega⟩
          rw [hG, lp_s]
          refine (lR_fail (τ := _) (lp_ lR G)).trans ?_
          rw [e5]
        · have nm0 : ¬ nI (lnM n b (skN n b 0 + 2)) = (0 : Int32) := by
            show ¬ nI (lnM n b (skN n b 0 + 2)) = nI 0
            rw [nI_e (by omega) (by omega)]
            omega
          rw [if_neg nm0]
          have lastF := ln_in (n := n) (b := b) (p := skN n b 0 + 2) (k := lnM n b (skN n b 0 + 2) - 1) (by omega)
          obtain ⟨-, -, -, -, lastN, -⟩ := lastF
          by_cases l7 : lnR n b (skN n b 0 + 2) = 7
          · have m6 : lnM n b (skN n b 0 + 2) = 6 := by omega
            rw [if_pos (Or.inr l7), if_pos rfl]
            obtain ⟨v, v1, v2, v3, v4, -⟩ := ln_in (n := n) (b := b) (p := skN n b 0 + 2) (k := 6) (by omega)
            have b6 : b (skN n b 0 + 2 + 6) = nI (48 + v) := by
              have := (fg_some v3).2.1
              unfold byB at this
              rw [if_pos v4] at this
              exact this
            have nsp : ¬ b (skN n b 0 + 2 + 6) = 32 := by
              rw [b6]
              show ¬ nI (48 + v) = nI 32
              rw [nI_e (by omega) (by omega)]
              omega
            have sk6 : skN n b (skN n b 0 + 2 + 6) = skN n b 0 + 2 + 6 := skN_no nsp
            rw [m6] at h9 F9 G9 e5 ⊢
            refine ⟨nI (skN n b 0 + 2 + 6), _, _, ?_, ?_, F9, G9, fun w => absurd w (nI_neg9 (by omega))⟩
            · obtain ⟨G, hG⟩ : ∃ G, FV = G + 1 := ⟨FV - 1, by have := FV_ge; omega⟩
              rw [hG, lp_s]
              rw [if_neg (show ¬ (6 : Int32) < 0 by decide), skC_e h9 (by omega), Option.bind_some, size2_e h9.1, Option.bind_some, h9.2.2.1, sk6, if_pos (by rw [nI_l2 (by omega) (by omega)]; exact v4), rsC_kind_4 h9 v4 (j := 0) rfl (by omega) (Or.inl (by rw [b6]; exact kind_fig v (by omega))), Option.bind_some]
              dsimp only
              rw [if_neg (by decide), show (0 : Int32) = nI 0 from rfl, nI_tri]
            · obtain ⟨G, hG⟩ : ∃ G, FV = G + 1 := ⟨FV - 1, by have := FV_ge; omega⟩
              rw [hG, lp_s]
              refine (lR_fail (τ := _) (lp_ lR G)).trans ?_
              rw [e5]
          · have mr : lnM n b (skN n b 0 + 2) = lnR n b (skN n b 0 + 2) := by omega
            rw [if_neg (show ¬ (lnR n b (skN n b 0 + 2) = 0 ∨ lnR n b (skN n b 0 + 2) = 7) by omega)]
            dsimp only
            rw [if_neg one_ne]
            have hR9 : RdR (pI (pI (pM τ3 61 (fun q => if q < lnM n b (skN n b 0 + 2) then lnV n b (skN n b 0 + 2) q else gM τ3 61 q)) 8 (nI (lnM n b (skN n b 0 + 2)))) 5 (nI (skN n b 0 + 2 + lnM n b (skN n b 0 + 2)))) t n b (skN n b 0 + 2 + lnM n b (skN n b 0 + 2)) := by
              obtain ⟨x1, x2, x3, x4, x5, x6⟩ := hR3
              exact ⟨x1, x2, by rw [gI_ne (by omega), gI_ne (by omega)]; exact x3, gI_same _ _ _, by rw [gI_ne (by omega), gI_ne (by omega)]; exact x5, x6⟩
            refine readc_4 h9 hR9 (by omega) F9 G9 rfl rfl rfl e9' e10' (pr := pr) (m := lnM n b (skN n b 0 + 2)) rfl ?_ (gI_same _ _ _) ?_ (by omega) (by omega) (by omega) (fun k hk => ?_)
            · rw [gI_ne (by omega), gI_ne (by omega)]; exact e7
            · rw [gI_ne (by omega)]; exact gI_same _ _ _
            · have c1 : gM (pI (pM (pI (pI (pI (pI (pI σ 3 0) 4 0) 5 0) 6 0) 2 (nI pr)) 15 (fun q => if q < lnM n b (skN n b 0 + 2) then lnV n b (skN n b 0 + 2) q else gM (pI (pI (pI (pI (pI σ 3 0) 4 0) 5 0) 6 0) 2 (nI pr)) 15 q)) 3 (nI (lnM n b (skN n b 0 + 2)))) 15 k = lnV n b (skN n b 0 + 2) k := by
                rw [gM_pI, gM_same, if_pos hk]
              have c2 : gM (pI (pI (pM τ3 61 (fun q => if q < lnM n b (skN n b 0 + 2) then lnV n b (skN n b 0 + 2) q else gM τ3 61 q)) 8 (nI (lnM n b (skN n b 0 + 2)))) 5 (nI (skN n b 0 + 2 + lnM n b (skN n b 0 + 2)))) 61 k = lnV n b (skN n b 0 + 2) k := by
                rw [gM_pI, gM_pI, gM_same, if_pos hk]
              obtain ⟨y, y1, y2, y3, y4, -⟩ := ln_in (n := n) (b := b) (p := skN n b 0 + 2) (k := k) (by omega)
              refine ⟨c1.trans c2.symm, y, y1, y2, ?_⟩
              rw [c1]
              unfold lnV
              rw [y3]
              rfl
    · refine ⟨nI (skN n b 0), _, _, by rw [if_neg c], ?_, F0, G0 (skN n b 0), fun w => absurd w (nI_neg9 (by omega))⟩
      rw [if_neg c, Option.bind_some, if_pos rfl]
      obtain ⟨G, hG⟩ : ∃ G, FV = G + 1 := ⟨FV - 1, by have := FV_ge; omega⟩
      rw [hG, lp_s]
      refine (lR_fail (τ := _) (lp_ lR G)).trans ?_
      rw [hR1.2.2.2.1]
  · have e : skN n b 0 = n := by omega
    have nb : byB n b (skN n b 0) = 0 := if_neg q
    rw [e] at nb ⊢
    refine ⟨nI n, _, _, by rw [nb, if_neg (by decide)], ?_, F0, G0 n, fun w => absurd w (nI_neg9 (by omega))⟩
    rw [if_pos rfl, Option.bind_some, if_pos rfl]
    obtain ⟨G, hG⟩ : ∃ G, FV = G + 1 := ⟨FV - 1, by have := FV_ge; omega⟩
    rw [hG, lp_s]
    refine (lR_fail (τ := _) (lp_ lR G)).trans ?_
    rw [gI_same]
theorem readc_5 {σ τ σ9 τ9 : QS} {t n p pr m : Nat} {b : Nat → Int32} (h9 : TX σ9 t n b) (hR9 : RdR τ9 t n b p) (hp : p ≤ n) (F9 : frW5 σ σ9) (G9 : frP τ τ9) (s1 : gI σ9 9 = nI 0) (s2 : gI σ9 10 = nI 0) (s3 : gI σ9 11 = nI 0) (e9 : gI τ9 9 = nI 0) (e10 : gI τ9 10 = nI 0) (eP : gI σ9 7 = nI pr) (e7 : gI τ9 7 = nI pr) (eSC : gI σ9 8 = nI m) (e8 : gI τ9 8 = nI m) (hpr : pr ≤ 9) (hm0 : 0 < m) (hm6 : m ≤ 6) (hl : ∀ k, k < m → gM σ9 20 k = gM τ9 61 k ∧ ∃ v, 1 ≤ v ∧ v ≤ 9 ∧ gM σ9 20 k = nI v) : ∃ v σ' τ', lp_ (lC5 (nI t)) FV (nI p, 0, σ9) = some (v, σ') ∧ Option.bind (fX5_skip_50 τ9) (fun q => lp_ lR FV (1, q)) = some (v, τ') ∧ frW5 σ σ' ∧ frP τ τ' ∧ (v = -9 → plG5 σ' τ') := by
  rw [skR_e hR9 hp, Option.bind_some]
  have hR10 := hR9.go (skN n b p)
  have i5 : frQ τ9 (pI τ9 5 (nI (skN n b p))) := frQ.i5 _ _
  have dd : siG 9 10 11 21 22 23 24 σ9 (pI τ9 5 (nI (skN n b p))) 0 0 0 := ⟨by omega, s1, by rw [gI_ne (by omega)]; exact e9, s2, by rw [gI_ne (by omega)]; exact e10, by omega, s3, by omega, fun i hi => absurd hi (by omega)⟩
  have FVg := FV_ge
  obtain ⟨v, σ', τ', r1, r2, r3, r4', r5⟩ := sits_5 6 0 σ9 (pI τ9 5 (nI (skN n b p))) p 0 0 FV FV (by omega) dd h9 hR10 hp (by omega) (by omega)
  have r4 := i5.tr r4'
  refine ⟨v, σ', τ', r1, r2, ?_, ?_, fun w => ?_⟩
  · exact ⟨fun k hk => (r3.1 k (by omega) (by omega) (by omega)).trans (F9.1 k hk), fun k => (r3.2.1 k).trans (F9.2.1 k), fun k hk => (r3.2.2 k (by omega) (by omega) (by omega) (by omega)).trans (F9.2.2 k hk)⟩
  · exact ⟨fun k hk => (r4.1 k (by omega) (by omega) (by omega)).trans (G9.1 k hk), fun k => (r4.2.1 k).trans (G9.2.1 k), fun k x1 x2 => (r4.2.2 k x2).trans (G9.2.2 k x1 x2)⟩
  · obtain ⟨j', T', cb', w1, w2⟩ := r5 w
    refine ⟨pr, m, j', T', cb', hpr, ?_, ?_, hm0, hm6, ?_, ?_, fun k hk => ?_, w1, w2⟩
    · rw [r3.1 7 (by omega) (by omega) (by omega)]; exact eP
    · rw [r4.1 7 (by omega) (by omega) (by omega)]; exact e7
    · rw [r3.1 8 (by omega) (by omega) (by omega)]; exact eSC
    · rw [r4.1 8 (by omega) (by omega) (by omega)]; exact e8
    · rw [r3.2.2 20 (by omega) (by omega) (by omega) (by omega), r4.2.2 61 (by omega)]
      exact hl k hk
theorem read5_same {σ τ : QS} {t n : Nat} {b : Nat → Int32} (h : TX σ t n b) (hT : TR τ t n b) : ∃ v σ' τ', fX1_read_5_2 (nI t) σ = some (v, σ') ∧ fX5_faultOf_50 (nI t) τ = some (v, τ') ∧ frW5 σ σ' ∧ frP τ τ' ∧ (v = -9 → plG5 σ' τ') := by
  have ht := h.1
  have hn := h.2.1
  have sk := skN_le (n := n) (b := b) (p := 0) (by omega)
  have h4 : TX (pI (pI (pI (pI σ 8 0) 9 0) 10 0) 11 0) t n b := h
  have z0 : (0 : Int32) = nI 0 := rfl
  have o1 : nI (skN n b 0) + (1 : Int32) = nI (skN n b 0 + 1) := nI_1 _
  have o2 : nI (skN n b 0) + (2 : Int32) = nI (skN n b 0 + 2) := nI_add _ 2
  have hR : RdR (pI (pI (pI (pI (pI (pI τ 4 (nI (60 * t))) 5 0) 6 (nI n)) 8 0) 9 0) 10 0) t n b 0 := ⟨ht, hn, rfl, rfl, rfl, hT.2⟩
  have f60 : (60 : Int32) * nI t = nI (60 * t) := by show nI 60 * nI t = _; rw [pk_mul]
  have F0 : frW5 σ (pI (pI (pI (pI σ 8 0) 9 0) 10 0) 11 0) := ⟨fun k hk => by rw [gI_ne (by omega), gI_ne (by omega), gI_ne (by omega), gI_ne (by omega)], fun _ => rfl, fun _ _ => rfl⟩
  have G0 : ∀ p, frP τ (pI (pI (pI (pI (pI (pI (pI τ 4 (nI (60 * t))) 5 0) 6 (nI n)) 8 0) 9 0) 10 0) 5 (nI p)) := fun p => ⟨fun k hk => by rw [gI_ne (by omega), gI_ne (by omega), gI_ne (by omega), gI_ne (by omega), gI_ne (by omega), gI_ne (by omega), gI_ne (by omega)], fun _ => rfl, fun _ _ _ => rfl⟩
  have hR1 := hR.go (skN n b 0)
  unfold fX1_read_5_2 fX5_faultOf_50 fX5_readsPlay_50
  simp only [lt_q]
  rw [f60, ck_t (inb_n ht (by omega)), nI_c (by omega)]
  have e58 : gM (pI (pI τ 4 (nI (60 * t))) 5 0) 58 t = nI n := hT.1
  rw [e58]
  rw [show fX1_pastBlanks_2 (nI t) (0 : Int32) (pI (pI (pI (pI σ 8 0) 9 0) 10 0) 11 0) = some (nI (skN n b 0)) from skC_e h4 (p := 0) (by omega), Option.bind_some, get_t h4 (by omega), Option.bind_some, skR_e hR (by omega), Option.bind_some, hR1.2.2.2.1, hR1.2.2.2.2.1]
  by_cases q : skN n b 0 < n
  · rw [if_neg (show ¬ nI (skN n b 0) = nI n from by rw [nI_e (by omega) (by omega)]; omega), here_e hR1 q, Option.bind_some, show byB n b (skN n b 0) = b (skN n b 0) from if_pos q]
    by_cases c : b (skN n b 0) = 97
    · rw [if_pos c, if_pos c, o1]
      have hR2 := hR1.go (skN n b 0 + 1)
      cases hp : fgB n b (skN n b 0 + 1) with
      | none =>
        refine ⟨nI (skN n b 0 + 1), pI (pI (pI (pI (pI σ 8 0) 9 0) 10 0) 11 0) 7 (-9), pI (pI (pI (pI (pI (pI (pI (pI (pI τ 4 (nI (60 * t))) 5 0) 6 (nI n)) 8 0) 9 0) 10 0) 5 (nI (skN n b 0))) 5 (nI (skN n b 0 + 1))) 7 (-9), ?_, ?_, ?_, ?_, fun w => absurd w (nI_neg9 (by omega))⟩
        · rw [figC_e h4 (by omega), Option.bind_some, hp, fgI_n, gI_same, if_neg m9_lt]
        · rw [fig0_none hR2 (by omega) hp, Option.bind_some]
          dsimp only
          rw [gI_same, if_pos rfl, Option.bind_some, if_pos rfl]
          obtain ⟨G, hG⟩ : ∃ G, FV = G + 1 := ⟨FV - 1, by have := FV_ge; omega⟩
          rw [hG, lp_s]
          refine (lR_fail (τ := _) (lp_ lR G)).trans ?_
          rw [gI_ne (by omega), hR2.2.2.2.1]
        · exact ⟨fun k hk => (gI_ne (by omega)).trans (F0.1 k hk), fun _ => rfl, fun _ _ => rfl⟩
        · rw [pI_pI]
          exact ⟨fun k hk => (gI_ne (by omega)).trans ((G0 _).1 k hk), fun _ => rfl, fun _ _ _ => rfl⟩
      | some pr =>
        have pr10 := (fg_some hp).1
        have prn := (fg_some hp).2.2.2
        have hR3 : RdR (pI (pI (pI (pI (pI (pI (pI (pI (pI (pI τ 4 (nI (60 * t))) 5 0) 6 (nI n)) 8 0) 9 0) 10 0) 5 (nI (skN n b 0))) 5 (nI (skN n b 0 + 1))) 5 (nI (skN n b 0 + 1 + 1))) 7 (nI pr)) t n b (skN n b 0 + 2) := by
          obtain ⟨x1, x2, x3, x4, x5, x6⟩ := hR2.go (skN n b 0 + 1 + 1)
          exact ⟨x1, x2, by rw [gI_ne (by omega)]; exact x3, by rw [gI_ne (by omega)]; exact x4, by rw [gI_ne (by omega)]; exact x5, x6⟩
        have h8 : TX (pI (pI (pI (pI (pI σ 8 0) 9 0) 10 0) 11 0) 7 (nI pr)) t n b := h4
        have lm := lnR_le n b (skN n b 0 + 2)
        have hm : lnM n b (skN n b 0 + 2) = min (lnR n b (skN n b 0 + 2)) 6 := rfl
        rw [figC_e h4 (by omega), Option.bind_some, hp, fgI_s, gI_same, if_pos (nI_pos' (by omega)), o2, lines5_e h8 (by omega) rfl, Option.bind_some, gI_same, fig0_some hR2 (by omega) hp, Option.bind_some]
        dsimp only
        have LR := linesR_e hR3 (by omega) rfl
        simp only [lt_q] at LR
        rw [gI_same, if_neg (nI_neg9 (by omega)), LR, Option.bind_some]
        have F9 : frW5 σ (pI (pM (pI (pI (pI (pI (pI σ 8 0) 9 0) 10 0) 11 0) 7 (nI pr)) 20 (fun q => if q < lnM n b (skN n b 0 + 2) then lnV n b (skN n b 0 + 2) q else gM (pI (pI (pI (pI (pI σ 8 0) 9 0) 10 0) 11 0) 7 (nI pr)) 20 q)) 8 (nI (lnM n b (skN n b 0 + 2)))) := ⟨fun k hk => by rw [gI_ne (by omega)]; show gI (pI (pI (pI (pI (pI σ 8 0) 9 0) 10 0) 11 0) 7 (nI pr)) k = _; rw [gI_ne (by omega)]; exact F0.1 k hk, fun _ => rfl, fun k hk => by show gM (pM (pI (pI (pI (pI (pI σ 8 0) 9 0) 10 0) 11 0) 7 (nI pr)) 20 _) k = _; rw [gM_ne (by omega)]; rfl⟩
        have G3 : frP τ (pI (pI (pI (pI (pI (pI (pI (pI (pI (pI τ 4 (nI (60 * t))) 5 0) 6 (nI n)) 8 0) 9 0) 10 0) 5 (nI (skN n b 0))) 5 (nI (skN n b 0 + 1))) 5 (nI (skN n b 0 + 1 + 1))) 7 (nI pr)) := ⟨fun k hk => by rw [gI_ne (by omega), gI_ne (by omega), gI_ne (by omega)]; exact (G0 _).1 k hk, fun _ => rfl, fun _ _ _ => rfl⟩
        have e7 : gI (pI (pI (pI (pI (pI (pI (pI (pI (pI (pI τ 4 (nI (60 * t))) 5 0) 6 (nI n)) 8 0) 9 0) 10 0) 5 (nI (skN n b 0))) 5 (nI (skN n b 0 + 1))) 5 (nI (skN n b 0 + 1 + 1))) 7 (nI pr)) 7 = nI pr := gI_same _ _ _
        have e9 : gI (pI (pI (pI (pI (pI (pI (pI (pI (pI (pI τ 4 (nI (60 * t))) 5 0) 6 (nI n)) 8 0) 9 0) 10 0) 5 (nI (skN n b 0))) 5 (nI (skN n b 0 + 1))) 5 (nI (skN n b 0 + 1 + 1))) 7 (nI pr)) 9 = nI 0 := rfl
        have e10 : gI (pI (pI (pI (pI (pI (pI (pI (pI (pI (pI τ 4 (nI (60 * t))) 5 0) 6 (nI n)) 8 0) 9 0) 10 0) 5 (nI (skN n b 0))) 5 (nI (skN n b 0 + 1))) 5 (nI (skN n b 0 + 1 + 1))) 7 (nI pr)) 10 = nI 0 := rfl
        generalize (pI (pI (pI (pI (pI (pI (pI (pI (pI (pI τ 4 (nI (60 * t))) 5 0) 6 (nI n)) 8 0) 9 0) 10 0) 5 (nI (skN n b 0))) 5 (nI (skN n b 0 + 1))) 5 (nI (skN n b 0 + 1 + 1))) 7 (nI pr)) = τ3 at hR3 G3 e7 e9 e10 ⊢
        have G9 : frP τ (pI (pI (pM τ3 61 (fun q => if q < lnM n b (skN n b 0 + 2) then lnV n b (skN n b 0 + 2) q else gM τ3 61 q)) 8 (nI (lnM n b (skN n b 0 + 2)))) 5 (nI (skN n b 0 + 2 + lnM n b (skN n b 0 + 2)))) := ⟨fun k hk => by rw [gI_ne (by omega), gI_ne (by omega)]; exact G3.1 k hk, fun k => G3.2.1 k, fun k x1 x2 => by show gM (pM τ3 61 _) k = _; rw [gM_ne x1]; exact G3.2.2 k x1 x2⟩
        have e5 : gI (pI (pI (pM τ3 61 (fun q => if q < lnM n b (skN n b 0 + 2) then lnV n b (skN n b 0 + 2) q else gM τ3 61 q)) 8 (nI (lnM n b (skN n b 0 + 2)))) 5 (nI (skN n b 0 + 2 + lnM n b (skN n b 0 + 2)))) 5 = nI (skN n b 0 + 2 + lnM n b (skN n b 0 + 2)) := gI_same _ _ _
        have h9 : TX (pI (pM (pI (pI (pI (pI (pI σ 8 0) 9 0) 10 0) 11 0) 7 (nI pr)) 20 (fun q => if q < lnM n b (skN n b 0 + 2) then lnV n b (skN n b 0 + 2) q else gM (pI (pI (pI (pI (pI σ 8 0) 9 0) 10 0) 11 0) 7 (nI pr)) 20 q)) 8 (nI (lnM n b (skN n b 0 + 2)))) t n b := (h8.m (by omega) (by omega) _).i _ _
        have e9' : gI (pI (pI (pM τ3 61 (fun q => if q < lnM n b (skN n b 0 + 2) then lnV n b (skN n b 0 + 2) q else gM τ3 61 q)) 8 (nI (lnM n b (skN n b 0 + 2)))) 5 (nI (skN n b 0 + 2 + lnM n b (skN n b 0 + 2)))) 9 = nI 0 := by rw [gI_ne (by omega), gI_ne (by omega)]; exact e9
        have e10' : gI (pI (pI (pM τ3 61 (fun q => if q < lnM n b (skN n b 0 + 2) then lnV n b (skN n b 0 + 2) q else gM τ3 61 q)) 8 (nI (lnM n b (skN n b 0 + 2)))) 5 (nI (skN n b 0 + 2 + lnM n b (skN n b 0 + 2)))) 10 = nI 0 := by rw [gI_ne (by omega), gI_ne (by omega)]; exact e10
        by_cases l0 : lnR n b (skN n b 0 + 2) = 0
        · have m0 : lnM n b (skN n b 0 + 2) = 0 := by omega
          refine ⟨nI (skN n b 0 + 2 + lnM n b (skN n b 0 + 2)), _, _, by rw [if_pos (show nI (lnM n b (skN n b 0 + 2)) = (0 : Int32) from by rw [m0]; rfl)], ?_, F9, G9, fun w => absurd w (nI_neg9 (by omega))⟩
          rw [if_pos (Or.inl l0), if_pos rfl]
          obtain ⟨G, hG⟩ : ∃ G, FV = G + 1 := ⟨FV - 1, by have := FV_ge; omega⟩
          rw [hG, lp_s]
          refine (lR_fail (τ := _) (lp_ lR G)).trans ?_
          rw [e5]
        · have nm0 : ¬ nI (lnM n b (skN n b 0 + 2)) = (0 : Int32) := by
            show ¬ nI (lnM n b (skN n b 0 + 2)) = nI 0
            rw [nI_e (by omega) (by omega)]
            omega
          rw [if_neg nm0]
          have lastF := ln_in (n := n) (b := b) (p := skN n b 0 + 2) (k := lnM n b (skN n b 0 + 2) - 1) (by omega)
          obtain ⟨-, -, -, -, lastN, -⟩ := lastF
          by_cases l7 : lnR n b (skN n b 0 + 2) = 7
          · have m6 : lnM n b (skN n b 0 + 2) = 6 := by omega
            rw [if_pos (Or.inr l7), if_pos rfl]
            obtain ⟨v, v1, v2, v3, v4, -⟩ := ln_in (n := n) (b := b) (p := skN n b 0 + 2) (k := 6) (by omega)
            have b6 : b (skN n b 0 + 2 + 6) = nI (48 + v) := by
              have := (fg_some v3).2.1
              unfold byB at this
              rw [if_pos v4] at this
              exact this
            have nsp : ¬ b (skN n b 0 + 2 + 6) = 32 := by
              rw [b6]
              show ¬ nI (48 + v) = nI 32
              rw [nI_e (by omega) (by omega)]
              omega
            have sk6 : skN n b (skN n b 0 + 2 + 6) = skN n b 0 + 2 + 6 := skN_no nsp
            rw [m6] at h9 F9 G9 e5 ⊢
            refine ⟨nI (skN n b 0 + 2 + 6), _, _, ?_, ?_, F9, G9, fun w => absurd w (nI_neg9 (by omega))⟩
            · obtain ⟨G, hG⟩ : ∃ G, FV = G + 1 := ⟨FV - 1, by have := FV_ge; omega⟩
              rw [hG, lp_s]
              rw [if_neg (show ¬ (6 : Int32) < 0 by decide), skC_e h9 (by omega), Option.bind_some, size2_e h9.1, Option.bind_some, h9.2.2.1, sk6, if_pos (by rw [nI_l2 (by omega) (by omega)]; exact v4), rsC_kind_5 h9 v4 (j := 0) rfl (by omega) (Or.inl (by rw [b6]; exact kind_fig v (by omega))), Option.bind_some]
              dsimp only
              rw [if_neg (by decide), show (0 : Int32) = nI 0 from rfl, nI_tri]
            · obtain ⟨G, hG⟩ : ∃ G, FV = G + 1 := ⟨FV - 1, by have := FV_ge; omega⟩
              rw [hG, lp_s]
              refine (lR_fail (τ := _) (lp_ lR G)).trans ?_
              rw [e5]
          · have mr : lnM n b (skN n b 0 + 2) = lnR n b (skN n b 0 + 2) := by omega
            rw [if_neg (show ¬ (lnR n b (skN n b 0 + 2) = 0 ∨ lnR n b (skN n b 0 + 2) = 7) by omega)]
            dsimp only
            rw [if_neg one_ne]
            have hR9 : RdR (pI (pI (pM τ3 61 (fun q => if q < lnM n b (skN n b 0 + 2) then lnV n b (skN n b 0 + 2) q else gM τ3 61 q)) 8 (nI (lnM n b (skN n b 0 + 2)))) 5 (nI (skN n b 0 + 2 + lnM n b (skN n b 0 + 2)))) t n b (skN n b 0 + 2 + lnM n b (skN n b 0 + 2)) := by
              obtain ⟨x1, x2, x3, x4, x5, x6⟩ := hR3
              exact ⟨x1, x2, by rw [gI_ne (by omega), gI_ne (by omega)]; exact x3, gI_same _ _ _, by rw [gI_ne (by omega), gI_ne (by omega)]; exact x5, x6⟩
            refine readc_5 h9 hR9 (by omega) F9 G9 rfl rfl rfl e9' e10' (pr := pr) (m := lnM n b (skN n b 0 + 2)) rfl ?_ (gI_same _ _ _) ?_ (by omega) (by omega) (by omega) (fun k hk => ?_)
            · rw [gI_ne (by omega), gI_ne (by omega)]; exact e7
            · rw [gI_ne (by omega)]; exact gI_same _ _ _
            · have c1 : gM (pI (pM (pI (pI (pI (pI (pI σ 8 0) 9 0) 10 0) 11 0) 7 (nI pr)) 20 (fun q => if q < lnM n b (skN n b 0 + 2) then lnV n b (skN n b 0 + 2) q else gM (pI (pI (pI (pI (pI σ 8 0) 9 0) 10 0) 11 0) 7 (nI pr)) 20 q)) 8 (nI (lnM n b (skN n b 0 + 2)))) 20 k = lnV n b (skN n b 0 + 2) k := by
                rw [gM_pI, gM_same, if_pos hk]
              have c2 : gM (pI (pI (pM τ3 61 (fun q => if q < lnM n b (skN n b 0 + 2) then lnV n b (skN n b 0 + 2) q else gM τ3 61 q)) 8 (nI (lnM n b (skN n b 0 + 2)))) 5 (nI (skN n b 0 + 2 + lnM n b (skN n b 0 + 2)))) 61 k = lnV n b (skN n b 0 + 2) k := by
                rw [gM_pI, gM_pI, gM_same, if_pos hk]
              obtain ⟨y, y1, y2, y3, y4, -⟩ := ln_in (n := n) (b := b) (p := skN n b 0 + 2) (k := k) (by omega)
              refine ⟨c1.trans c2.symm, y, y1, y2, ?_⟩
              rw [c1]
              unfold lnV
              rw [y3]
              rfl
    · refine ⟨nI (skN n b 0), _, _, by rw [if_neg c], ?_, F0, G0 (skN n b 0), fun w => absurd w (nI_neg9 (by omega))⟩
      rw [if_neg c, Option.bind_some, if_pos rfl]
      obtain ⟨G, hG⟩ : ∃ G, FV = G + 1 := ⟨FV - 1, by have := FV_ge; omega⟩
      rw [hG, lp_s]
      refine (lR_fail (τ := _) (lp_ lR G)).trans ?_
      rw [hR1.2.2.2.1]
  · have e : skN n b 0 = n := by omega
    have nb : byB n b (skN n b 0) = 0 := if_neg q
    rw [e] at nb ⊢
    refine ⟨nI n, _, _, by rw [nb, if_neg (by decide)], ?_, F0, G0 n, fun w => absurd w (nI_neg9 (by omega))⟩
    rw [if_pos rfl, Option.bind_some, if_pos rfl]
    obtain ⟨G, hG⟩ : ∃ G, FV = G + 1 := ⟨FV - 1, by have := FV_ge; omega⟩
    rw [hG, lp_s]
    refine (lR_fail (τ := _) (lp_ lR G)).trans ?_
    rw [gI_same]
