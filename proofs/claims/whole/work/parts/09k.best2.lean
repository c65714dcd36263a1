/-! ===== best ===== -/
theorem rows_set2 {σ τ σ' τ' : QS} (h : RowsOk σ τ) {j n : Nat} (hn : n ≤ 40) (e10 : gM σ' 10 = upd (gM σ 10) j (nI n)) (er : ∀ r, r < 6 → r ≠ j → gM σ' (30 + r) = gM σ (30 + r)) (e56 : gM τ' 56 = upd (gM τ 56) j (nI n)) (hfg : ∀ k, k < n → gM σ' (30 + j) k = gM τ' 57 (40 * j + k)) (hg : ∀ q, (q < 40 * j ∨ 40 * j + 40 ≤ q) → gM τ' 57 q = gM τ 57 q) : RowsOk σ' τ' := by
  intro r hr
  rw [e10, e56]
  by_cases e : r = j
  · subst e
    rw [upd_same, upd_same]
    exact ⟨rfl, Or.inr ⟨n, hn, rfl, hfg⟩⟩
  · rw [upd_ne e, upd_ne e, er r hr e]
    obtain ⟨a, b⟩ := h r hr
    refine ⟨a, ?_⟩
    rcases b with b | ⟨n', b1, b2, b3⟩
    · exact Or.inl b
    · refine Or.inr ⟨n', b1, b2, fun k hk => ?_⟩
      rw [b3 k hk, hg _ (by omega)]
theorem choiceFor_e {q : Nat} (hq : q < 6) (σ : QS) : fX2_choiceFor_7 (nI q) σ = some (gM σ 28 q) := by
  unfold fX2_choiceFor_7
  rw [if_neg (nneg (by omega)), if_neg (show ¬ (6 : Int32) ≤ nI q from by show ¬ nI 6 ≤ nI q; rw [nI_L (by omega) (by omega)]; omega), ck_t (inb_n hq (by omega)), nI_c (by omega)]
theorem best_cls {σ τ : QS} {ns nc s p c : Nat} {a : Int} (hn : nowP σ τ ns nc s p a c) {j : Nat} (hj : j < 6) (h0 : ns ≠ 0) {V : Nat} (hV : V = mxN (hOf τ ns) (alR τ) lvR (nc - s) s (p, a, 0, c)) {X : BX} (hX : X = bpP (hOf τ ns) (alR τ) s (nc - s) (nc - s) 0 (P0 p a c)) : ∃ σ1 f, fX4_best_0 (nI j) σ = some (nI V, pI (pM (pM σ1 10 (upd (gM σ1 10) j (nI (nc - s)))) (30 + j) f) 1 (nI (10 * V + p + 1 - X.1))) ∧ srC σ σ1 ∧ ∀ k, k < nc - s → f k = encC (X.2 k) := by
  have hn' := hn
  obtain ⟨hh, hs, hp, ⟨a1, a2⟩, hc, ⟨e13, e1⟩, ⟨e15, e2⟩, ⟨e17, e4⟩, ⟨e14, e6⟩, es⟩ := hn'
  have hns := hh.1
  have hnc := hh.2.1
  have hA : alB (alS (gM τ 53) (gM σ 25) ns) ns (alR τ) := al_al (fun k hk => by rw [es k hk]; rfl)
  obtain ⟨σa, f1, f2, f3, f4⟩ := findMost_e hn hA (q := 0) (by omega)
  rw [← hV, Nat.zero_max] at f1 f4
  have f1' : fX2_findMost_7 (nI (alS (gM τ 53) (gM σ 25) ns)) (0 : Int32) σ = some (nI V, σa) := f1
  have v6 : V ≤ 6 := by
    have : mxN (hOf τ ns) (alR τ) lvR (nc - s) s (p, a, 0, c) ≤ 0 + (nc - s) := mxR_m (nc - s) s (p, a, 0, c)
    omega
  have hW := (best_cmp (h := hOf τ ns) (al := alR τ) (s0 := s) (M := nc - s) (nc - s) 0 (P0 p a c) (by omega))
  have wlo := mxW_lo (h := hOf τ ns) (al := alR τ) (nc - s) s (p, a, 0, c)
  have eW : X.1 = mxN (hOf τ ns) (alR τ) lvW (nc - s) s (p, a, 0, c) := by rw [hX]; exact hW.1
  rw [← hV, ← eW] at wlo
  have b15 : gI σa 15 = nI p := (f2.1 15 (by omega)).trans e15
  have hsr : srC σ (pI σa 21 (nI (p + 1))) := f2.i (by omega) _
  obtain ⟨σ1, g1, g2, g3, g4, g5⟩ := seekBest_e (s0 := s) (M := nc - s) (most := V) (p0 := p) hh hA (by omega) hp e15 v6 (nc - s) DP 0 (P0 p a c) (pI σa 21 (nI (p + 1))) (10 * V, fun _ => 0) (by omega) (by show nc - s < 8; omega) hsr (by rw [gI_ne (by omega)]; exact f3) (by rw [gI_ne (by omega)]; exact f4) ⟨hp, by show _ ≤ a; omega, by show a ≤ _; omega, Nat.zero_le _, hc⟩ (Nat.le_refl _) (by rw [hV]; exact Nat.le_refl _) ⟨by rw [gI_same]; exact congrArg nI (by show p + 1 = 10 * V + p + 1 - 10 * V; omega), Nat.le_refl _, by show 10 * V ≤ _; omega, fun w => absurd w (Nat.lt_irrefl _), fun k hk => absurd hk (Nat.not_lt_zero k)⟩
  have eT : tfP (hOf τ ns) (alR τ) s (gbP (nc - s)) (nc - s) 0 (P0 p a c) (10 * V, fun _ => 0) = X := by
    rw [hW.2, ← hX, if_pos (show 10 * V < X.1 from by omega)]
  rw [eT] at g5
  obtain ⟨r1, r2, r3, r4, r5⟩ := g5
  have h1 := g2.house hh
  have e13' : gI σ1 13 = nI s := (g2.1 13 (by omega)).trans e13
  have row1 : ∀ f, gM (pM (pM σ1 10 (upd (gM σ1 10) j (nI (nc - s)))) (30 + j) f) 10 j = nI (nc - s) := fun f => by rw [gM_ne (by omega), gM_same, upd_same]
  have row2 : ∀ f, gM (pM (pM σ1 10 (upd (gM σ1 10) j (nI (nc - s)))) (30 + j) f) 28 = gM σ1 28 := fun f => by rw [gM_ne (by omega), gM_ne (by omega)]
  refine ⟨σ1, (fun q => if q < nc - s then encC (X.2 q) else if q < 40 then -9 else gM σ1 (30 + j) q), ?_, g2, fun k hk => if_pos hk⟩
  unfold fX4_best_0
  rw [isPlace1_good hj, if_neg one_ne, hh.2.2.2.1, if_neg (by rw [nI0_e (by omega)]; exact h0), alC_e hh, Option.bind_some, f1', Option.bind_some]
  unfold fX2_findFirstOfMost_7
  simp only [lt_q]
  rw [b15, nI_1]
  have g1' : fX2_seekBest_7 DP (gI (pI σa 21 (nI (p + 1))) 13) (gI (pI σa 21 (nI (p + 1))) 14) (gI (pI σa 21 (nI (p + 1))) 17) (gI (pI σa 21 (nI (p + 1))) 15) (0 : Int32) (pI σa 21 (nI (p + 1))) = some σ1 := by
    rw [gI_ne (by omega), gI_ne (by omega), gI_ne (by omega), gI_ne (by omega), f2.1 13 (by omega), f2.1 14 (by omega), f2.1 17 (by omega), f2.1 15 (by omega), e13, e14, e15, e17]
    exact g1
  rw [g1', Option.bind_some, Option.bind_some, over_c h1 e13' hs, make1_e hj (by omega), Option.bind_some]
  refine for_fu (fun k => (nI k, pM (pM σ1 10 (upd (gM σ1 10) j (nI (nc - s)))) (30 + j) (fun q => if q < k then encC (X.2 q) else if q < 40 then -9 else gM σ1 (30 + j) q))) (nc - s) ?_ (by omega) ?_ ?_
  · have : (fun q => if q < 0 then encC (X.2 q) else if q < 40 then -9 else gM σ1 (30 + j) q) = (fun q => if q < 40 then -9 else gM σ1 (30 + j) q) := by
      funext q
      rw [if_neg (by omega)]
    show _ = (nI 0, pM _ (30 + j) (fun q => if q < 0 then encC (X.2 q) else if q < 40 then -9 else gM σ1 (30 + j) q))
    rw [this]
    rfl
  · intro r k hk
    simp only []
    have e13'' : gI (pM (pM σ1 10 (upd (gM σ1 10) j (nI (nc - s)))) (30 + j) (fun q => if q < k then encC (X.2 q) else if q < 40 then -9 else gM σ1 (30 + j) q)) 13 = nI s := e13'
    rw [if_neg (by rw [nI_L (by omega) (by omega)]; omega), e13'', nI_add, choiceFor_e (by omega), row2, Option.bind_some, set1_in hj (row1 _) (by omega) hk, Option.bind_some, nI_1, pM_pM, gM_same, r4 (by omega) k hk]
    have : upd (fun q => if q < k then encC (X.2 q) else if q < 40 then -9 else gM σ1 (30 + j) q) k (encC (X.2 k)) = (fun q => if q < k + 1 then encC (X.2 q) else if q < 40 then -9 else gM σ1 (30 + j) q) := by
      funext q
      by_cases e : q = k
      · rw [e, upd_same, if_pos (by omega)]
      · rw [upd_ne e]
        by_cases e2 : q < k
        · rw [if_pos e2, if_pos (show q < k + 1 from by omega)]
        · rw [if_neg e2, if_neg (show ¬ q < k + 1 from by omega)]
    rw [this]
  · intro r
    simp only []
    have e21 : gI (pM (pM σ1 10 (upd (gM σ1 10) j (nI (nc - s)))) (30 + j) (fun q => if q < nc - s then encC (X.2 q) else if q < 40 then -9 else gM σ1 (30 + j) q)) 21 = nI (10 * V + p + 1 - X.1) := r1
    rw [if_pos (by rw [nI_L (by omega) (by omega)]; omega), e21]
    rfl
theorem best_same {σ τ : QS} (h : Inv σ τ) (x : Int32) : Same (fX4_best_0 x σ) (fX5_best_50 x τ) := by
  obtain ⟨ns, nc, s, p, a, c, hn⟩ := h.now
  have hn' := hn
  obtain ⟨hh, hs, hp, ⟨a1, a2⟩, hc, ⟨e13, e1⟩, ⟨e15, e2⟩, ⟨e17, e4⟩, ⟨e14, e6⟩, es⟩ := hn'
  have hns := hh.1
  have hnc := hh.2.1
  rcases pk_ix x (n := 6) (by omega) with hx | hx | ⟨j, hj, rfl⟩
  · unfold fX4_best_0 fX5_best_50
    rw [isPlace1_bad (Or.inl hx), if_pos rfl, row_bad (Or.inl hx), if_pos rfl]
    exact Same.mk rfl rfl h
  · unfold fX4_best_0 fX5_best_50
    rw [isPlace1_bad (Or.inr hx), if_pos rfl, row_bad (Or.inr hx), if_pos rfl]
    exact Same.mk rfl rfl h
  by_cases h0 : ns = 0
  · unfold fX4_best_0 fX5_best_50
    rw [isPlace1_good hj, if_neg one_ne, row_good hj, if_neg one_ne, hh.2.2.2.1, hh.2.2.2.2.1, if_pos (by rw [h0]; rfl), if_pos (by rw [h0]; rfl)]
    exact Same.mk rfl rfl h
  obtain ⟨σ1, f, c1, c2, c3⟩ := best_cls hn hj h0 rfl rfl
  obtain ⟨τ', d1, d2, d3⟩ := best_ref hn hj h0
  have hW := (best_cmp (h := hOf τ ns) (al := alR τ) (s0 := s) (M := nc - s) (nc - s) 0 (P0 p a c) (by omega)).1
  have wlo := mxW_lo (h := hOf τ ns) (al := alR τ) (nc - s) s (p, a, 0, c)
  have whi := mxW_hi (h := hOf τ ns) (al := alR τ) (nc - s) s (p, a, 0, c) hp
  have wp := mxW_p (h := hOf τ ns) (al := alR τ) (nc - s) s (p, a, 0, c) (Nat.le_refl _)
  have wp' : mxN (hOf τ ns) (alR τ) lvW (nc - s) s (p, a, 0, c) ≤ 10 * mxN (hOf τ ns) (alR τ) lvR (nc - s) s (p, a, 0, c) + p + 1 := wp
  have hW' : (bpP (hOf τ ns) (alR τ) s (nc - s) (nc - s) 0 (P0 p a c)).1 = mxN (hOf τ ns) (alR τ) lvW (nc - s) s (p, a, 0, c) := hW
  generalize hX : bpP (hOf τ ns) (alR τ) s (nc - s) (nc - s) 0 (P0 p a c) = X at *
  generalize hV : mxN (hOf τ ns) (alR τ) lvR (nc - s) s (p, a, 0, c) = V at *
  have em : moI X = nI V := by
    unfold moI
    rw [if_neg (by omega)]
    exact congrArg nI (by omega)
  have ef : feI p X = nI (10 * V + p + 1 - X.1) := by
    unfold feI
    rw [if_neg (by omega)]
    exact congrArg nI (by omega)
  have x0 : X.1 ≠ 0 := by omega
  obtain ⟨t56, t57⟩ := d3.2.2 x0
  have mid : Inv σ1 (pM (pM τ' 56 (gM τ 56)) 57 (gM τ 57)) := by
    refine inv_srch h c2 ⟨fun k hk => ?_, d2.2.1, d2.2.2⟩
    by_cases k57 : k = 57
    · subst k57; rw [gM_same]
    · rw [gM_ne k57]
      by_cases k56 : k = 56
      · subst k56; rw [gM_same]
      · rw [gM_ne k56]
        exact d2.1 k hk k56 k57
  have t0 : gM (pM (pM τ' 56 (gM τ 56)) 57 (gM τ 57)) 56 = gM τ 56 := by rw [gM_ne (by omega), gM_same]
  have t1 : gM (pM (pM τ' 56 (gM τ 56)) 57 (gM τ 57)) 57 = gM τ 57 := gM_same _ _ _
  have fin : Inv (pM (pM σ1 10 (upd (gM σ1 10) j (nI (nc - s)))) (30 + j) f) τ' := by
    refine mid.rows (rows_set2 mid.1 (j := j) (n := nc - s) (by omega) ?_ ?_ ?_ ?_ ?_) rfl rfl (fun k h1 h2 => ?_) rfl rfl (fun k h1 h2 => ?_)
    · rw [gM_ne (by omega), gM_same]
    · intro r hr e
      rw [gM_ne (by omega), gM_ne (by omega)]
    · rw [t56, t0]
    · intro k hk
      rw [gM_same, c3 k hk, t57 k hk]
    · intro q hq
      rw [t1]
      exact d3.1 q hq
    · rw [gM_ne (by omega), gM_ne h1]
    · rw [gM_ne h2, gM_ne h1]
  rw [c1, d1, em, ef]
  exact Same.mk rfl rfl (told_ok fin _)
