/-! ===== sitter, mark, whom, what is told ===== -/
theorem asked_same {σ τ : QS} (h : Inv σ τ) : fX4_asked_0 σ = fX5_asked_50 τ := h.2.2.2.1
theorem upper_same {σ τ : QS} (h : Inv σ τ) : fX4_upper_0 σ = fX5_upper_50 τ := h.2.2.2.2.1.1
theorem lower_same {σ τ : QS} (h : Inv σ τ) : fX4_lower_0 σ = fX5_lower_50 τ := h.2.2.2.2.1.2
theorem finding_same {σ τ : QS} (h : Inv σ τ) : fX4_finding_0 σ = fX5_finding_50 τ := h.2.2.1.1
theorem applause_same {σ τ : QS} (h : Inv σ τ) : fX4_applause_0 σ = fX5_applause_50 τ := by
  obtain ⟨ns, nc, pr, n, v, h2, hh, hn, h12, hv, hvo, hpr, hN, r0, rv⟩ := h.see
  unfold fX4_applause_0 fX5_applause_50
  have e4r : gM τ 51 4 = v 3 := by rw [← rv 3 (by omega)]
  rw [hN.2.2.2.1, e4r, Int32.add_comm]
theorem findings_same {σ τ : QS} (h : Inv σ τ) (x : Int32) : SameR (fX4_findings_0 x σ) (fX5_findings_50 x τ) := by
  unfold fX4_findings_0 fX5_findings_50
  have e : fX5_in x.toInt64 (1 : Int64) (5 : Int64) = if x < 1 then 0 else if 5 < x then 0 else 1 := in_int x 1 5
  rw [e]
  by_cases c1 : x < 1
  · rw [if_pos c1, if_pos c1, if_pos rfl]
    exact ⟨_, rfl, rfl⟩
  · rw [if_neg c1, if_neg c1]
    by_cases c2 : x ≤ 5
    · have c3 : ¬ 5 < x := by rw [fa_lt]; rw [fa_le] at c2; omega
      have c4 : ¬ x < 0 := by
        rw [fa_lt]; rw [fa_lt] at c1
        have h0 : (0 : Int32).toInt = 0 := by decide
        have h1 : (1 : Int32).toInt = 1 := by decide
        omega
      obtain ⟨f, hf, rfl⟩ := nI_of2 (M := 5) (n := 5) (by decide) c4 c2
      rw [if_pos c2, if_neg c3, if_neg one_ne, ck_t (inb_n (by omega) (by omega)), ck_t (inb_n (by omega) (by omega)), nI_c (by omega)]
      exact ⟨_, rfl, by rw [h.2.2.1.2 f (by omega)]⟩
    · rw [if_neg c2, if_pos (show 5 < x from by rw [fa_lt]; rw [fa_le] at c2; omega), if_pos rfl]
      exact ⟨_, rfl, rfl⟩
/-- what is told of a sitter: alike -/
theorem told_what {σ τ : QS} (h : Inv σ τ) {ns nc : Nat} (hh : HouseOk σ τ ns nc) {i : Nat} (hi : i < ns) {w : Nat} (hw : w < 8) : SameR (fX0_whatOfSitter_6 (nI i) (nI w) σ) (fX5_toldOf_50 (nI i) (nI w) τ) := by
  obtain ⟨ns', nc', pr, n, v, h2, hh', hn, h12, hv, hvo, hpr, hN, r0, rv⟩ := h.see
  have hns := hh.1
  have hns' := hh'.1
  have en : ns' = ns := by have a := hh.2.2.2.1; rw [hh'.2.2.2.1, nI_e (by omega) (by omega)] at a; exact a
  subst en
  obtain ⟨-, -, ⟨c, c1, c2⟩, -⟩ := hvo
  have hc6 := pow_le64 hns c1
  have e14 : gI σ 14 = nI c := by rw [hN.2.2.2.2.2.1, c2]
  have e6 : gM τ 51 6 = nI c := by rw [← c2, ← rv 5 (by omega)]
  have e17 : gI σ 17 = v 3 := hN.2.2.2.1
  have e4r : gM τ 51 4 = v 3 := by rw [← rv 3 (by omega)]
  have es : gM τ 51 (7 + i) = gM σ 25 i := by
    rw [hN.2.2.2.2.2.2 i hi, ← rv (6 + i) (by omega)]
    congr 1
    omega
  obtain ⟨k1, k2, k3, -⟩ := hh.2.2.2.2.2.2.2.2.1 i hi
  have nn : ∀ k : Nat, k < 1000 → w ≠ k → ¬ nI w = nI k := fun k hk q => by rw [nI_e (by omega) (by omega)]; exact q
  unfold fX0_whatOfSitter_6 fX5_toldOf_50
  rw [sitC_e hh, inr_good hi (by omega), if_neg one_ne]
  by_cases w0 : w = 0
  · subst w0
    rw [if_pos (show nI 0 = (0 : Int32) from rfl), if_pos (show nI 0 = (0 : Int32) from rfl), ck_t (inb_n (by omega) (by omega)), ck_t (inb_n (by omega) (by omega)), nI_c (by omega)]
    exact ⟨_, rfl, by rw [k1]⟩
  rw [if_neg (show ¬ nI w = (0 : Int32) from nn 0 (by omega) w0), if_neg (show ¬ nI w = (0 : Int32) from nn 0 (by omega) w0)]
  by_cases w1 : w = 1
  · subst w1
    rw [if_pos (show nI 1 = (1 : Int32) from rfl), if_pos (show nI 1 = (1 : Int32) from rfl), ck_t (inb_n (by omega) (by omega)), idx7, ck_t (inb_n (by omega) (by omega)), nI_c (by omega), nI_c (by omega)]
    exact ⟨_, rfl, by rw [es]⟩
  rw [if_neg (show ¬ nI w = (1 : Int32) from nn 1 (by omega) w1), if_neg (show ¬ nI w = (1 : Int32) from nn 1 (by omega) w1)]
  by_cases w2 : w = 2
  · subst w2
    rw [if_pos (show nI 2 = (2 : Int32) from rfl), if_pos (show nI 2 = (2 : Int32) from rfl), ck_t (inb_n (by omega) (by omega)), ck_t (inb_n (by omega) (by omega)), nI_c (by omega)]
    exact ⟨_, rfl, by rw [k2]⟩
  rw [if_neg (show ¬ nI w = (2 : Int32) from nn 2 (by omega) w2), if_neg (show ¬ nI w = (2 : Int32) from nn 2 (by omega) w2)]
  by_cases w3 : w = 3
  · subst w3
    rw [if_pos (show nI 3 = (3 : Int32) from rfl), if_pos (show nI 3 = (3 : Int32) from rfl), ck_t (inb_n (by omega) (by omega)), ck_t (inb_n (by omega) (by omega)), nI_c (by omega)]
    exact ⟨_, rfl, by rw [k3]⟩
  rw [if_neg (show ¬ nI w = (3 : Int32) from nn 3 (by omega) w3), if_neg (show ¬ nI w = (3 : Int32) from nn 3 (by omega) w3)]
  by_cases w4 : w = 4
  · subst w4
    rw [if_pos (show nI 4 = (4 : Int32) from rfl), if_pos (show nI 4 = (4 : Int32) from rfl), ck_t (inb_n (by omega) (by omega)), ck_t (inb_n (by omega) (by omega)), ck_t (inb_n (by omega) (by omega)), ck_t (inb_n (by omega) (by omega)), nI_c (by omega)]
    exact ⟨_, rfl, by rw [fears_e, k1, k3, e17, e4r]⟩
  rw [if_neg (show ¬ nI w = (4 : Int32) from nn 4 (by omega) w4), if_neg (show ¬ nI w = (4 : Int32) from nn 4 (by omega) w4)]
  by_cases w5 : w = 5
  · subst w5
    rw [if_pos (show nI 5 = (5 : Int32) from rfl), if_pos (show nI 5 = (5 : Int32) from rfl)]
    unfold fX0_saysNow_6 fX5_saysNow_50
    simp only [lt_]
    rw [e14, e6, e4r, clqC_e hh (by omega) hc6, ck_t (inb_n (by omega) (by omega)), ck_t (inb_n (by omega) (by omega)), ck_t (inb_n (by omega) (by omega)), nI_c (by omega), saysR_e hh (by omega) hc6]
    exact ⟨_, rfl, by rw [says_e, k1, k2, k3, e17]; rfl⟩
  rw [if_neg (show ¬ nI w = (5 : Int32) from nn 5 (by omega) w5), if_neg (show ¬ nI w = (5 : Int32) from nn 5 (by omega) w5)]
  by_cases w6 : w = 6
  · subst w6
    rw [if_pos (show nI 6 = (6 : Int32) from rfl), if_pos (show nI 6 = (6 : Int32) from rfl), e14, e6, isIn_e (by omega) (by omega), bit_e (by omega) (by omega)]
    cases c.testBit i
    · exact ⟨0, rfl, rfl⟩
    · exact ⟨1, rfl, rfl⟩
  rw [if_neg (show ¬ nI w = (6 : Int32) from nn 6 (by omega) w6), if_neg (show ¬ nI w = (6 : Int32) from nn 6 (by omega) w6), freeC_e hh e14, Option.bind_some, e6, may_e (by omega) hc6, Option.bind_some, isIn_e (by have := fr_lt (kd := gM τ 53) (st := gM σ 25) (c := c) hns; omega) (by omega), can_bit hN c2 hc6 hi]
  have ecan : (!(c.testBit i) && sitP (gM τ 53 i) (gM τ 51 (7 + i))) = canP (hOf τ ns') v i := by
    unfold canP
    rw [cOf_e c2 (by omega), es, hN.2.2.2.2.2.2 i hi]
  rw [ecan]
  cases canP (hOf τ ns') v i
  · exact ⟨0, rfl, rfl⟩
  · exact ⟨1, rfl, rfl⟩
theorem sitter_same {σ τ : QS} (h : Inv σ τ) (x w : Int32) : Same (fX4_sitter_0 x w σ) (fX5_sitter_50 x w τ) := by
  obtain ⟨ns, nc, pr, n, v, h2, hh, -⟩ := h.see
  have hns := hh.1
  unfold fX4_sitter_0 fX5_sitter_50
  have e : fX5_in w.toInt64 (0 : Int64) (7 : Int64) = if w < 0 then 0 else if 7 < w then 0 else 1 := in_int w 0 7
  rw [sitC_e hh, sitR_e hh, e]
  rcases pk_ix x (n := ns) (by omega) with hx | hx | ⟨i, hi, rfl⟩
  · rw [inr_bad (Or.inl hx), if_pos rfl, if_pos rfl]
    exact Same.mk rfl rfl h
  · rw [inr_bad (Or.inr hx), if_pos rfl, if_pos rfl]
    exact Same.mk rfl rfl h
  · rw [inr_good hi (by omega), if_neg one_ne, if_neg one_ne]
    by_cases c0 : w < 0
    · rw [if_pos c0, if_pos c0, if_pos rfl]
      exact Same.mk rfl rfl h
    · rw [if_neg c0, if_neg c0]
      by_cases c1 : w < 8
      · obtain ⟨m, hm, rfl⟩ := in_b (n := 8) (by omega) c0 c1
        rw [if_pos c1, if_neg (show ¬ (7 : Int32) < nI m from by show ¬ nI 7 < nI m; rw [nI_l2 (by omega) (by omega)]; omega), if_neg one_ne]
        obtain ⟨r, q1, q2⟩ := told_what h hh hi hm
        rw [q1, q2]
        exact Same.mk rfl rfl (told_ok h r)
      · have c2 : (7 : Int32) < w := by
          rw [fa_lt]; rw [fa_lt] at c1
          have h7 : (7 : Int32).toInt = 7 := by decide
          have h8 : (8 : Int32).toInt = 8 := by decide
          omega
        rw [if_neg c1, if_pos c2, if_pos rfl]
        exact Same.mk rfl rfl h
