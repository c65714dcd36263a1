/-! ===== text, put ===== -/
theorem Inv.texts {σ τ σ' τ' : QS} (h : Inv σ τ) (hr : TextsOk σ' τ') (hi : σ'.1 = σ.1) (hj : σ'.2.1 = σ.2.1) (hm : ∀ k, k ≠ 12 → (k < 36 ∨ 40 ≤ k) → gM σ' k = gM σ k) (ti : τ'.1 = τ.1) (tj : τ'.2.1 = τ.2.1) (tm : ∀ k, k ≠ 58 → k ≠ 59 → gM τ' k = gM τ k) : Inv σ' τ' := by
  obtain ⟨a1, a2, a3, a4, a5, a6, ns, nc, pr, a7⟩ := h
  have gi : ∀ k, gI σ' k = gI σ k := fun k => by unfold gI; rw [hi]
  have gt : ∀ k, gI τ' k = gI τ k := fun k => by unfold gI; rw [ti]
  have gj : ∀ k, gJ σ' k = gJ σ k := fun k => by unfold gJ; rw [hj]
  have gu : ∀ k, gJ τ' k = gJ τ k := fun k => by unfold gJ; rw [tj]
  refine ⟨a1.keep (hm _ (by omega) (by omega)) (fun r _ => hm _ (by omega) (by omega)) (tm _ (by omega) (by omega)) (tm _ (by omega) (by omega)), hr, a3.keep (gi _) (hm _ (by omega) (by omega)) (gt _) (tm _ (by omega) (by omega)), ?_, ?_, a6.keep (fun n hn => hm _ (by omega) (by omega)), ns, nc, pr, a7.keep ⟨fun k _ _ => gi k, hm _ (by omega) (by omega), fun k h1 h2 => hm _ (by omega) (by omega), fun k hk => hm _ (by omega) (by omega), gt _, gt _, tm _ (by omega) (by omega), tm _ (by omega) (by omega), tm _ (by omega) (by omega), tm _ (by omega) (by omega), tm _ (by omega) (by omega)⟩⟩
  · unfold ToldOk; rw [gi, gt]; exact a4
  · unfold FracOk; rw [gj, gj, gu, gu]; exact a5
theorem idx60 (j i : Nat) : (60 : Int32) * nI j + nI i = nI (60 * j + i) := by
  show nI 60 * nI j + nI i = _
  rw [pk_mul, nI_add]
theorem isText_e (r : Int32) : fX5_isText r = if r < 0 then 0 else if 4 ≤ r then 0 else 1 := by
  have e := in_int r 0 3
  have e2 : fX5_isText r = if r < 0 then 0 else if 3 < r then 0 else 1 := e
  rw [e2]
  have : (3 : Int32) < r ↔ (4 : Int32) ≤ r := by
    rw [fa_lt, fa_le]
    have h5 : (3 : Int32).toInt = 3 := by decide
    have h6 : (4 : Int32).toInt = 4 := by decide
    omega
  simp only [this]
theorem text_bad {r : Int32} (h : r < 0 ∨ nI 4 ≤ r) : fX5_isText r = 0 := by
  rw [isText_e]
  rcases h with h | h
  · rw [if_pos h]
  · by_cases c : r < 0
    · rw [if_pos c]
    · rw [if_neg c, if_pos (show (4 : Int32) ≤ r from h)]
theorem text_good {j : Nat} (h : j < 4) : fX5_isText (nI j) = 1 := by
  rw [isText_e, if_neg (nneg (by omega)), if_neg (show ¬ (4 : Int32) ≤ nI j from by show ¬ nI 4 ≤ nI j; rw [nI_L (by omega) (by omega)]; omega)]
theorem text_same {σ τ : QS} (h : Inv σ τ) (r n : Int32) : Same (fX4_text_0 r n σ) (fX5_text_50 r n τ) := by
  unfold fX4_text_0 fX5_text_50
  rcases pk_ix r (n := 4) (by omega) with hr | hr | ⟨j, hj, rfl⟩
  · rw [isPlace2_bad (Or.inl hr), text_bad (Or.inl hr), if_pos rfl, if_pos rfl]
    exact Same.mk rfl rfl h
  · rw [isPlace2_bad (Or.inr hr), text_bad (Or.inr hr), if_pos rfl, if_pos rfl]
    exact Same.mk rfl rfl h
  · rw [isPlace2_good hj, text_good hj, if_neg one_ne, if_neg one_ne]
    by_cases c1 : n ≤ 60
    · rw [if_pos c1, if_pos c1]
      by_cases c2 : 0 ≤ n
      · rw [if_pos c2, if_pos c2]
        obtain ⟨m, hm, rfl⟩ := nI_of2 (M := 60) (n := 60) (by decide) (by rw [fa_lt]; rw [fa_le] at c2; omega) c1
        rw [make2_e hj hm, ck_t (inb_n hj (by omega)), nI_c (by omega)]
        simp only [lt_]
        refine Same.mk rfl (for_fu (fun i => (nI i, pM (pM τ 58 (upd (gM τ 58) j (nI m))) 59 (fun q => if 60 * j ≤ q ∧ q < 60 * j + i then 32 else gM τ 59 q))) 60 ?_ (by omega) ?_ (fun r => ?_)) (h.texts (τ' := pM (pM τ 58 (upd (gM τ 58) j (nI m))) 59 (fun q => if 60 * j ≤ q ∧ q < 60 * j + 60 then 32 else gM τ 59 q)) ?_ rfl rfl (fun k h1 h2 => ?_) rfl rfl (fun k h1 h2 => ?_))
        · have : (fun q => if 60 * j ≤ q ∧ q < 60 * j + 0 then 32 else gM τ 59 q) = gM (pM τ 58 (upd (gM τ 58) j (nI m))) 59 := by
            rw [gM_ne (by omega)]
            funext q
            rw [if_neg (by omega)]
          show _ = (nI 0, pM (pM τ 58 (upd (gM τ 58) j (nI m))) 59 (fun q => if 60 * j ≤ q ∧ q < 60 * j + 0 then 32 else gM τ 59 q))
          rw [this, pM_self]
          rfl
        · intro r i hi
          simp only []
          rw [if_neg (show ¬ (60 : Int32) ≤ nI i from by show ¬ nI 60 ≤ nI i; rw [nI_L (by omega) (by omega)]; omega), idx60, ck_t (inb_n (by omega) (by omega)), nI_c (by omega), nI_1, gM_same, pM_pM]
          have : upd (fun q => if 60 * j ≤ q ∧ q < 60 * j + i then 32 else gM τ 59 q) (60 * j + i) 32 = fun q => if 60 * j ≤ q ∧ q < 60 * j + (i + 1) then 32 else gM τ 59 q := by
            funext q
            by_cases e1 : q = 60 * j + i
            · rw [e1, upd_same, if_pos (by omega)]
            · rw [upd_ne e1]
              by_cases e2 : 60 * j ≤ q ∧ q < 60 * j + i
              · rw [if_pos e2, if_pos (by omega)]
              · rw [if_neg e2, if_neg (by omega)]
          rw [this]
        · simp only []
          rw [if_pos (show (60 : Int32) ≤ nI 60 from by show nI 60 ≤ nI 60; rw [nI_L (by omega) (by omega)]; omega)]
        · intro r hr
          have e1 : gM (pM (pM σ 12 (upd (gM σ 12) j (nI m))) (36 + j) (fun q => if q < 60 then 32 else gM σ (36 + j) q)) 12 = upd (gM σ 12) j (nI m) := by rw [gM_ne (by omega), gM_same]
          have e2 : gM (pM (pM τ 58 (upd (gM τ 58) j (nI m))) 59 (fun q => if 60 * j ≤ q ∧ q < 60 * j + 60 then 32 else gM τ 59 q)) 58 = upd (gM τ 58) j (nI m) := by rw [gM_ne (by omega), gM_same]
          rw [e1, e2, gM_same]
          by_cases e : r = j
          · subst e
            rw [upd_same, upd_same, gM_same]
            refine ⟨rfl, Or.inr ⟨m, hm, rfl, fun k hk => ?_⟩⟩
            rw [if_pos (by omega), if_pos (by omega)]
          · rw [upd_ne e, upd_ne e, gM_ne (show 36 + r ≠ 36 + j by omega), gM_ne (show 36 + r ≠ 12 by omega)]
            obtain ⟨a, b⟩ := h.2.1 r hr
            refine ⟨a, ?_⟩
            rcases b with b | ⟨n', b1, b2, b3⟩
            · exact Or.inl b
            · refine Or.inr ⟨n', b1, b2, fun k hk => ?_⟩
              rw [b3 k hk, if_neg (by omega)]
        · rw [gM_ne (by omega), gM_ne (by omega)]
        · rw [gM_ne (by omega), gM_ne (by omega)]
      · rw [if_neg c2, if_neg c2]
        exact Same.ref h (f := 5) rfl (by omega) (by omega) rfl rfl
    · rw [if_neg c1, if_neg c1]
      exact Same.mk rfl rfl h
theorem put_same {σ τ : QS} (h : Inv σ τ) (r i v : Int32) : Same (fX4_put_0 r i v σ) (fX5_put_50 r i v τ) := by
  unfold fX4_put_0 fX5_put_50 fX4_refusalOfItem_0_2
  rcases pk_ix r (n := 4) (by omega) with hr | hr | ⟨j, hj, rfl⟩
  · rw [rop2_bad (Or.inl hr), text_bad (Or.inl hr), if_pos rfl, Option.bind_some, if_neg (by exact m1_ne), Option.bind_some, if_neg (by exact m1_ne)]
    exact Same.mk rfl rfl h
  · rw [rop2_bad (Or.inr hr), text_bad (Or.inr hr), if_pos rfl, Option.bind_some, if_neg (by exact m1_ne), Option.bind_some, if_neg (by exact m1_ne)]
    exact Same.mk rfl rfl h
  · rw [text_good hj, if_neg one_ne, ck_t (inb_n hj (by omega)), nI_c (by omega)]
    obtain ⟨e, hc⟩ := h.2.1 j hj
    rcases hc with hc | ⟨n, hn, hc, hq⟩
    · obtain ⟨σ', τ', q1, q2, q3⟩ := refuse_ok h (x := 1) (f := 1) rfl (by omega) (by omega)
      rw [rop2_no hj hc, q1, q2, ← e, hc, if_neg (show ¬ (0 : Int32) ≤ -1 by decide)]
      simp only [Option.bind_some]
      rw [if_neg (by exact m3_ne)]
      simp only [Option.bind_some]
      rw [if_neg (by exact m3_ne)]
      exact Same.mk rfl rfl q3
    · rw [rop2_yes hj hc hn, ← e, hc, if_pos (nI_pos' (by omega)), ck_t (inb_n hj (by omega)), in_sz (by omega), Option.bind_some, if_pos rfl, holds2_e hj, hc, Option.bind_some]
      rcases pk_ix i (n := n) (by omega) with hi | hi | ⟨k, hk, rfl⟩
      · obtain ⟨σ', τ', q1, q2, q3⟩ := refuse_ok h (x := 2) (f := 2) rfl (by omega) (by omega)
        rw [if_pos hi, if_pos rfl, if_pos rfl]
        simp only [q1, q2, Option.bind_some]
        rw [if_neg (by exact m3_ne)]
        exact Same.mk rfl rfl q3
      · obtain ⟨σ', τ', q1, q2, q3⟩ := refuse_ok h (x := 2) (f := 2) rfl (by omega) (by omega)
        have c0 : ¬ i < 0 := by
          rw [fa_lt]
          rw [fa_le, nI_toInt (by omega)] at hi
          have : (0 : Int32).toInt = 0 := by decide
          omega
        rw [if_neg c0, if_pos hi, if_pos rfl, if_pos rfl]
        simp only [q1, q2, Option.bind_some]
        rw [if_neg (by exact m3_ne)]
        exact Same.mk rfl rfl q3
      · have c1 : ¬ nI n ≤ nI k := by rw [nI_L (by omega) (by omega)]; omega
        rw [if_neg (nneg (by omega)), if_neg c1, if_neg one_ne, if_neg one_ne, Option.bind_some, if_pos rfl, get2_in hj hc hn hk, set2_in hj hc hn hk, idx60, ck_t (inb_n (by omega) (by omega)), nI_c (by omega)]
        simp only [lt_, Option.bind_some]
        rw [ck_t (inb_n (by omega) (by omega)), hq k hk]
        refine Same.mk (σ' := pM σ (36 + j) (upd (gM σ (36 + j)) k v.toInt8.toInt32)) (τ' := pM τ 59 (upd (gM τ 59) (60 * j + k) v.toInt8.toInt32)) rfl rfl (h.texts ?_ rfl rfl (fun q h1 h2 => ?_) rfl rfl (fun q h1 h2 => ?_))
        · intro r hr
          rw [gM_ne (show 12 ≠ 36 + j by omega), gM_ne (show 58 ≠ 59 by omega), gM_same]
          obtain ⟨a, b⟩ := h.2.1 r hr
          refine ⟨a, ?_⟩
          rcases b with b | ⟨n', b1, b2, b3⟩
          · exact Or.inl b
          · refine Or.inr ⟨n', b1, b2, fun q hq' => ?_⟩
            by_cases e : r = j
            · subst e
              rw [gM_same]
              by_cases e2 : q = k
              · rw [e2, upd_same, upd_same]
              · rw [upd_ne e2, upd_ne (by omega), b3 q hq']
            · rw [gM_ne (show 36 + r ≠ 36 + j by omega), upd_ne (by omega), b3 q hq']
        · rw [gM_ne (by omega)]
        · rw [gM_ne (by omega)]
