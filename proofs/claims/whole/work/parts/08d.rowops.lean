/-! ===== row, lay, at, tear, copy, mean ===== -/
theorem Inv.rows {σ τ σ' τ' : QS} (h : Inv σ τ) (hr : RowsOk σ' τ') (hi : σ'.1 = σ.1) (hj : σ'.2.1 = σ.2.1) (hm : ∀ k, k ≠ 10 → (k < 30 ∨ 36 ≤ k) → gM σ' k = gM σ k) (ti : τ'.1 = τ.1) (tj : τ'.2.1 = τ.2.1) (tm : ∀ k, k ≠ 56 → k ≠ 57 → gM τ' k = gM τ k) : Inv σ' τ' := by
  obtain ⟨a1, a2, a3, a4, a5, a6, ns, nc, pr, a7⟩ := h
  have gi : ∀ k, gI σ' k = gI σ k := fun k => by unfold gI; rw [hi]
  have gt : ∀ k, gI τ' k = gI τ k := fun k => by unfold gI; rw [ti]
  have gj : ∀ k, gJ σ' k = gJ σ k := fun k => by unfold gJ; rw [hj]
  have gu : ∀ k, gJ τ' k = gJ τ k := fun k => by unfold gJ; rw [tj]
  refine ⟨hr, a2.keep (hm _ (by omega) (by omega)) (fun r _ => hm _ (by omega) (by omega)) (tm _ (by omega) (by omega)) (tm _ (by omega) (by omega)), a3.keep (gi _) (hm _ (by omega) (by omega)) (gt _) (tm _ (by omega) (by omega)), ?_, ?_, a6.keep (fun n hn => hm _ (by omega) (by omega)), ns, nc, pr, a7.keep ⟨fun k _ _ => gi k, hm _ (by omega) (by omega), fun k h1 h2 => hm _ (by omega) (by omega), fun k hk => hm _ (by omega) (by omega), gt _, gt _, tm _ (by omega) (by omega), tm _ (by omega) (by omega), tm _ (by omega) (by omega), tm _ (by omega) (by omega), tm _ (by omega) (by omega)⟩⟩
  · unfold ToldOk; rw [gi, gt]; exact a4
  · unfold FracOk; rw [gj, gj, gu, gu]; exact a5
theorem rows_set {σ τ : QS} (h : RowsOk σ τ) {j n : Nat} (hj : j < 6) (hn : n ≤ 40) {f g : Nat → Int32} (hfg : ∀ k, k < n → f k = g (40 * j + k)) (hg : ∀ q, (q < 40 * j ∨ 40 * j + 40 ≤ q) → g q = gM τ 57 q) : RowsOk (pM (pM σ 10 (upd (gM σ 10) j (nI n))) (30 + j) f) (pM (pM τ 56 (upd (gM τ 56) j (nI n))) 57 g) := by
  intro r hr
  have e1 : gM (pM (pM σ 10 (upd (gM σ 10) j (nI n))) (30 + j) f) 10 = upd (gM σ 10) j (nI n) := by rw [gM_ne (by omega), gM_same]
  have e2 : gM (pM (pM τ 56 (upd (gM τ 56) j (nI n))) 57 g) 56 = upd (gM τ 56) j (nI n) := by rw [gM_ne (by omega), gM_same]
  rw [e1, e2, gM_same]
  by_cases e : r = j
  · subst e
    rw [upd_same, upd_same, gM_same]
    exact ⟨rfl, Or.inr ⟨n, hn, rfl, hfg⟩⟩
  · rw [upd_ne e, upd_ne e, gM_ne (show 30 + r ≠ 30 + j by omega), gM_ne (show 30 + r ≠ 10 by omega)]
    obtain ⟨a, b⟩ := h r hr
    refine ⟨a, ?_⟩
    rcases b with b | ⟨n', b1, b2, b3⟩
    · exact Or.inl b
    · refine Or.inr ⟨n', b1, b2, fun k hk => ?_⟩
      rw [b3 k hk, hg _ (by omega)]
theorem idx40 (j i : Nat) : (40 : Int32) * nI j + nI i = nI (40 * j + i) := by
  show nI 40 * nI j + nI i = _
  rw [pk_mul, nI_add]
theorem makeRow_e {j : Nat} (h : j < 6) (x : Int32) (τ : QS) : fX5_makeRow_50 (nI j) x τ = some (pM (pM τ 56 (upd (gM τ 56) j x)) 57 (fun q => if 40 * j ≤ q ∧ q < 40 * j + 40 then 0 else gM τ 57 q)) := by
  unfold fX5_makeRow_50
  rw [ck_t (inb_n h (by omega)), nI_c (by omega)]
  simp only [lt_]
  refine for_fu (fun i => (nI i, pM (pM τ 56 (upd (gM τ 56) j x)) 57 (fun q => if 40 * j ≤ q ∧ q < 40 * j + i then 0 else gM τ 57 q))) 40 ?_ (by omega) ?_ ?_
  · have : (fun q => if 40 * j ≤ q ∧ q < 40 * j + 0 then 0 else gM τ 57 q) = gM (pM τ 56 (upd (gM τ 56) j x)) 57 := by
      rw [gM_ne (by omega)]
      funext q
      rw [if_neg (by omega)]
    show _ = (nI 0, pM (pM τ 56 (upd (gM τ 56) j x)) 57 (fun q => if 40 * j ≤ q ∧ q < 40 * j + 0 then 0 else gM τ 57 q))
    rw [this, pM_self]
    rfl
  · intro r i hi
    simp only []
    rw [if_neg (show ¬ (40 : Int32) ≤ nI i from by show ¬ nI 40 ≤ nI i; rw [nI_L (by omega) (by omega)]; omega), idx40, ck_t (inb_n (by omega) (by omega)), nI_c (by omega), nI_1, gM_same, pM_pM]
    have : upd (fun q => if 40 * j ≤ q ∧ q < 40 * j + i then 0 else gM τ 57 q) (40 * j + i) 0 = fun q => if 40 * j ≤ q ∧ q < 40 * j + (i + 1) then 0 else gM τ 57 q := by
      funext q
      by_cases e1 : q = 40 * j + i
      · rw [e1, upd_same, if_pos (by omega)]
      · rw [upd_ne e1]
        by_cases e2 : 40 * j ≤ q ∧ q < 40 * j + i
        · rw [if_pos e2, if_pos (by omega)]
        · rw [if_neg e2, if_neg (by omega)]
    rw [this]
  · intro r
    simp only []
    rw [if_pos (show (40 : Int32) ≤ nI 40 from by show nI 40 ≤ nI 40; rw [nI_L (by omega) (by omega)]; omega)]
theorem row_same {σ τ : QS} (h : Inv σ τ) (r n : Int32) : Same (fX4_row_0 r n σ) (fX5_row_50 r n τ) := by
  unfold fX4_row_0 fX5_row_50
  rw [isPlace1_e]
  rcases pk_ix r (n := 6) (by omega) with hr | hr | ⟨j, hj, rfl⟩
  · rw [row_bad (Or.inl hr), if_pos rfl, if_pos rfl]
    exact Same.mk rfl rfl h
  · rw [row_bad (Or.inr hr), if_pos rfl, if_pos rfl]
    exact Same.mk rfl rfl h
  · rw [row_good hj, if_neg one_ne, if_neg one_ne]
    by_cases c1 : n ≤ 40
    · rw [if_pos c1, if_pos c1]
      by_cases c2 : 0 ≤ n
      · rw [if_pos c2, if_pos c2]
        obtain ⟨m, hm, rfl⟩ := nI_of2 (M := 40) (n := 40) (by decide) (by rw [fa_lt]; rw [fa_le] at c2; omega) c1
        rw [make1_e hj hm, makeRow_e hj]
        refine Same.mk rfl rfl (h.rows (rows_set h.1 hj hm (fun k hk => ?_) (fun q hq => ?_)) rfl rfl (fun k h1 h2 => ?_) rfl rfl (fun k h1 h2 => ?_))
        · rw [if_pos (by omega), if_pos (by omega)]
        · rw [if_neg (by omega)]
        · rw [gM_ne (by omega), gM_ne (by omega)]
        · rw [gM_ne (by omega), gM_ne (by omega)]
      · rw [if_neg c2, if_neg c2]
        exact Same.ref h (f := 5) rfl (by omega) (by omega) rfl rfl
    · rw [if_neg c1, if_neg c1]
      exact Same.mk rfl rfl h
/-- refused, on the side of the reference, by the size -/
theorem in_sz {x : Int32} {n : Nat} (hn : n < 1000000) : fX5_in x.toInt64 (0 : Int64) ((nI n - (1 : Int32)).toInt64) = if x < 0 then 0 else if nI n ≤ x then 0 else 1 := by
  have e := in_int x 0 (nI n - 1)
  have e' : fX5_in x.toInt64 (0 : Int64) ((nI n - (1 : Int32)).toInt64) = if x < 0 then 0 else if nI n - 1 < x then 0 else 1 := e
  rw [e']
  have : nI n - 1 < x ↔ nI n ≤ x := by
    rw [fa_lt, fa_le, fb_subI (by rw [nI_toInt (by omega)]; show _ ≤ (n : Int) - 1; omega) (by rw [nI_toInt (by omega)]; show (n : Int) - 1 < _; omega)]
    have h1 : (1 : Int32).toInt = 1 := by decide
    rw [h1]
    omega
  simp only [this]
theorem m1_ne : ¬ (-1 : Int32) = 0 := by decide
theorem m3_ne : ¬ (-3 : Int32) = 0 := by decide
theorem ref_bad {r : Int32} (h : r < 0 ∨ nI 6 ≤ r) (i : Int32) (τ : QS) : fX5_refused_50 r i τ = some (-1, τ) := by
  unfold fX5_refused_50
  rw [row_bad h, if_pos rfl]
theorem ref_no {j : Nat} (h : j < 6) (i : Int32) {τ : QS} (hs : gM τ 56 j = -1) : fX5_refused_50 (nI j) i τ = (fX5_find_50 1 τ).bind (fun q => some (q.1, q.2)) := by
  unfold fX5_refused_50
  rw [row_good h, if_neg one_ne, ck_t (inb_n h (by omega)), nI_c (by omega), hs, if_neg (by decide)]
theorem ref_yes {j n : Nat} (h : j < 6) (i : Int32) {τ : QS} (hs : gM τ 56 j = nI n) (hn : n ≤ 40) : fX5_refused_50 (nI j) i τ = if i < 0 ∨ nI n ≤ i then (fX5_find_50 2 τ).bind (fun q => some (q.1, q.2)) else some (0, τ) := by
  unfold fX5_refused_50
  rw [row_good h, if_neg one_ne, ck_t (inb_n h (by omega)), nI_c (by omega), hs, if_pos (nI_pos' (by omega)), ck_t (inb_n h (by omega)), in_sz (by omega)]
  by_cases c1 : i < 0
  · rw [if_pos c1, if_pos rfl, if_pos (Or.inl c1)]
  · rw [if_neg c1]
    by_cases c2 : nI n ≤ i
    · rw [if_pos c2, if_pos rfl, if_pos (Or.inr c2)]
    · rw [if_neg c2, if_neg one_ne, if_neg (by rintro (q | q); exact c1 q; exact c2 q)]
theorem roi_bad {r : Int32} (h : r < 0 ∨ nI 6 ≤ r) (i : Int32) (σ : QS) : fX4_refusalOfItem_0_1 r i σ = some (-1, σ) := by
  unfold fX4_refusalOfItem_0_1
  rw [rop1_bad h, Option.bind_some, if_neg (by exact m1_ne)]
theorem roi_no {j : Nat} (h : j < 6) (i : Int32) {σ : QS} (hs : gM σ 10 j = -1) {σ' : QS} (hq : fX4_refuse_0 1 σ = some (-3, σ')) : fX4_refusalOfItem_0_1 (nI j) i σ = some (-3, σ') := by
  unfold fX4_refusalOfItem_0_1
  rw [rop1_no h hs, hq, Option.bind_some, Option.bind_some, if_neg (by exact m3_ne)]
theorem roi_yes {j n : Nat} (h : j < 6) (i : Int32) {σ : QS} (hs : gM σ 10 j = nI n) (hn : n ≤ 40) : fX4_refusalOfItem_0_1 (nI j) i σ = if i < 0 ∨ nI n ≤ i then (fX4_refuse_0 2 σ).bind (fun q => some (q.1, q.2)) else some (0, σ) := by
  unfold fX4_refusalOfItem_0_1
  rw [rop1_yes h hs hn, Option.bind_some, if_pos rfl, holds1_e h, hs, Option.bind_some]
  by_cases c1 : i < 0
  · rw [if_pos c1, if_pos rfl, if_pos (Or.inl c1)]
  · rw [if_neg c1]
    by_cases c2 : nI n ≤ i
    · rw [if_pos c2, if_pos rfl, if_pos (Or.inr c2)]
    · rw [if_neg c2, if_neg one_ne, if_neg (by rintro (q | q); exact c1 q; exact c2 q)]
/-- a row and a place in it: refused alike, or there -/
theorem item_cases {σ τ : QS} (h : Inv σ τ) (r i : Int32) : (∃ a σ' τ', a ≠ 0 ∧ fX4_refusalOfItem_0_1 r i σ = some (a, σ') ∧ fX5_refused_50 r i τ = some (a, τ') ∧ Inv σ' τ') ∨ ∃ j n k, j < 6 ∧ n ≤ 40 ∧ k < n ∧ r = nI j ∧ i = nI k ∧ gM σ 10 j = nI n ∧ gM τ 56 j = nI n ∧ (∀ q, q < n → gM σ (30 + j) q = gM τ 57 (40 * j + q)) ∧ fX4_refusalOfItem_0_1 r i σ = some (0, σ) ∧ fX5_refused_50 r i τ = some (0, τ) := by
  rcases pk_ix r (n := 6) (by omega) with hr | hr | ⟨j, hj, rfl⟩
  · exact Or.inl ⟨-1, σ, τ, by decide, roi_bad (Or.inl hr) i σ, ref_bad (Or.inl hr) i τ, h⟩
  · exact Or.inl ⟨-1, σ, τ, by decide, roi_bad (Or.inr hr) i σ, ref_bad (Or.inr hr) i τ, h⟩
  · obtain ⟨e, hc⟩ := h.1 j hj
    rcases hc with hc | ⟨n, hn, hc, hq⟩
    · obtain ⟨σ', τ', q1, q2, q3⟩ := refuse_ok h (x := 1) (f := 1) rfl (by omega) (by omega)
      refine Or.inl ⟨-3, σ', τ', by decide, roi_no hj i hc q1, ?_, q3⟩
      rw [ref_no hj i (by rw [← e]; exact hc), q2]; rfl
    · have he : gM τ 56 j = nI n := by rw [← e]; exact hc
      by_cases c : i < 0 ∨ nI n ≤ i
      · obtain ⟨σ', τ', q1, q2, q3⟩ := refuse_ok h (x := 2) (f := 2) rfl (by omega) (by omega)
        refine Or.inl ⟨-3, σ', τ', by decide, ?_, ?_, q3⟩
        · rw [roi_yes hj i hc hn, if_pos c, q1]; rfl
        · rw [ref_yes hj i he hn, if_pos c, q2]; rfl
      · rcases pk_ix i (n := n) (by omega) with hi | hi | ⟨k, hk, rfl⟩
        · exact absurd (Or.inl hi) c
        · exact absurd (Or.inr hi) c
        · refine Or.inr ⟨j, n, k, hj, hn, hk, rfl, rfl, hc, he, hq, ?_, ?_⟩
          · rw [roi_yes hj _ hc hn, if_neg c]
          · rw [ref_yes hj _ he hn, if_neg c]
theorem at_same {σ τ : QS} (h : Inv σ τ) (r i : Int32) : Same (fX4_at_0 r i σ) (fX5_at_50 r i τ) := by
  unfold fX4_at_0 fX5_at_50
  rcases item_cases h r i with ⟨a, σ', τ', h0, q1, q2, q3⟩ | ⟨j, n, k, hj, hn, hk, rfl, rfl, hc, he, hq, q1, q2⟩
  · rw [q1, q2, Option.bind_some, Option.bind_some, if_neg h0, if_neg h0]
    exact Same.mk rfl rfl q3
  · rw [q1, q2, Option.bind_some, Option.bind_some, if_pos rfl, if_pos rfl, get1_in hj hc hn hk, idx40, ck_t (inb_n (by omega) (by omega)), nI_c (by omega), hq k hk]
    exact Same.mk rfl rfl (told_ok h _)
theorem lay_same {σ τ : QS} (h : Inv σ τ) (r i v : Int32) : Same (fX4_lay_0 r i v σ) (fX5_lay_50 r i v τ) := by
  unfold fX4_lay_0 fX5_lay_50
  rcases item_cases h r i with ⟨a, σ', τ', h0, q1, q2, q3⟩ | ⟨j, n, k, hj, hn, hk, rfl, rfl, hc, he, hq, q1, q2⟩
  · rw [q1, q2, Option.bind_some, Option.bind_some, if_neg h0, if_neg h0]
    exact Same.mk rfl rfl q3
  · rw [q1, q2, Option.bind_some, Option.bind_some, if_pos rfl, if_pos rfl, get1_in hj hc hn hk, set1_in hj hc hn hk, idx40, ck_t (inb_n (by omega) (by omega)), nI_c (by omega)]
    simp only [lt_, Option.bind_some]
    rw [ck_t (inb_n (by omega) (by omega)), hq k hk]
    refine Same.mk (σ' := pI (pM σ (30 + j) (upd (gM σ (30 + j)) k v)) 1 (gM τ 57 (40 * j + k))) (τ' := pI (pM τ 57 (upd (gM τ 57) (40 * j + k) v)) 2 (gM τ 57 (40 * j + k))) rfl rfl (told_ok (σ := pM σ (30 + j) (upd (gM σ (30 + j)) k v)) (τ := pM τ 57 (upd (gM τ 57) (40 * j + k) v)) (h.rows ?_ rfl rfl (fun q h1 h2 => ?_) rfl rfl (fun q h1 h2 => ?_)) _)
    · intro r hr
      rw [gM_ne (show 10 ≠ 30 + j by omega), gM_ne (show 56 ≠ 57 by omega), gM_same]
      obtain ⟨a, b⟩ := h.1 r hr
      refine ⟨a, ?_⟩
      rcases b with b | ⟨n', b1, b2, b3⟩
      · exact Or.inl b
      · refine Or.inr ⟨n', b1, b2, fun q hq' => ?_⟩
        by_cases e : r = j
        · subst e
          rw [gM_same]
          by_cases e2 : q = k
          · rw [e2, upd_same, upd_same]
          · rw [upd_ne e2, upd_ne (by omega), b3 q hq']
        · rw [gM_ne (show 30 + r ≠ 30 + j by omega), upd_ne (by omega), b3 q hq']
    · rw [gM_ne (by omega)]
    · rw [gM_ne (by omega)]
theorem tear_same {σ τ : QS} (h : Inv σ τ) (r : Int32) : Same (fX4_tear_0 r σ) (fX5_tear_50 r τ) := by
  unfold fX4_tear_0 fX5_tear_50
  rcases pk_ix r (n := 6) (by omega) with hr | hr | ⟨j, hj, rfl⟩
  · rw [rop1_bad (Or.inl hr), row_bad (Or.inl hr), if_pos rfl, Option.bind_some, if_neg (by exact m1_ne)]
    exact Same.mk rfl rfl h
  · rw [rop1_bad (Or.inr hr), row_bad (Or.inr hr), if_pos rfl, Option.bind_some, if_neg (by exact m1_ne)]
    exact Same.mk rfl rfl h
  · rw [row_good hj, if_neg one_ne, ck_t (inb_n hj (by omega)), nI_c (by omega)]
    obtain ⟨e, hc⟩ := h.1 j hj
    rcases hc with hc | ⟨n, hn, hc, hq⟩
    · obtain ⟨σ', τ', q1, q2, q3⟩ := refuse_ok h (x := 1) (f := 1) rfl (by omega) (by omega)
      rw [rop1_no hj hc, q1, q2, ← e, hc, if_neg (show ¬ (0 : Int32) ≤ -1 by decide)]
      simp only [Option.bind_some]
      rw [if_neg (by exact m3_ne)]
      exact Same.mk rfl rfl q3
    · rw [rop1_yes hj hc hn, ← e, hc, if_pos (nI_pos' (by omega)), ck_t (inb_n hj (by omega)), Option.bind_some, if_pos rfl, drop1_e hj]
      refine Same.mk rfl rfl (h.rows ?_ rfl rfl (fun q h1 h2 => ?_) rfl rfl (fun q h1 h2 => ?_))
      · intro r hr
        rw [gM_same, gM_same, gM_ne (show 30 + r ≠ 10 by omega), gM_ne (show 57 ≠ 56 by omega)]
        by_cases e3 : r = j
        · subst e3
          rw [upd_same, upd_same]
          exact ⟨rfl, Or.inl rfl⟩
        · rw [upd_ne e3, upd_ne e3]
          exact h.1 r hr
      · rw [gM_ne (by omega)]
      · rw [gM_ne (by omega)]
theorem mean_same {σ τ : QS} (h : Inv σ τ) (r : Int32) : Same (fX4_mean_0 r σ) (fX5_mean_50 r τ) := by
  unfold fX4_mean_0 fX5_mean_50
  rcases pk_ix r (n := 6) (by omega) with hr | hr | ⟨j, hj, rfl⟩
  · rw [rop1_bad (Or.inl hr), row_bad (Or.inl hr), if_pos rfl, Option.bind_some, if_neg (by exact m1_ne)]
    exact Same.mk rfl rfl h
  · rw [rop1_bad (Or.inr hr), row_bad (Or.inr hr), if_pos rfl, Option.bind_some, if_neg (by exact m1_ne)]
    exact Same.mk rfl rfl h
  · rw [row_good hj, if_neg one_ne, ck_t (inb_n hj (by omega)), nI_c (by omega)]
    obtain ⟨e, hc⟩ := h.1 j hj
    rcases hc with hc | ⟨n, hn, hc, hq⟩
    · obtain ⟨σ', τ', q1, q2, q3⟩ := refuse_ok h (x := 1) (f := 1) rfl (by omega) (by omega)
      rw [rop1_no hj hc, q1, q2, ← e, hc, if_neg (show ¬ (0 : Int32) ≤ -1 by decide)]
      simp only [Option.bind_some]
      rw [if_neg (by exact m3_ne)]
      exact Same.mk rfl rfl q3
    · rw [rop1_yes hj hc hn, ← e, hc, if_pos (nI_pos' (by omega)), ck_t (inb_n hj (by omega)), Option.bind_some, if_pos rfl, size1_e hj, hc, Option.bind_some]
      by_cases c0 : n = 0
      · subst c0
        rw [if_neg (show ¬ (0 : Int32) < nI 0 by decide), if_pos (show nI 0 = 0 by decide)]
        exact Same.ref h (f := 4) rfl (by omega) (by omega) rfl rfl
      · rw [if_pos (show (0 : Int32) < nI n from by show nI 0 < nI n; rw [nI_l2 (by omega) (by omega)]; omega), if_neg (show ¬ nI n = 0 from by show ¬ nI n = nI 0; rw [nI_e (by omega) (by omega)]; omega)]
        have hz : ne0L (nI n).toInt64 = true := by
          have : ¬ (nI n).toInt64 = 0 := by
            intro q
            have q' : (nI n).toInt64 = (0 : Int32).toInt64 := q
            rw [fa_wide_eq] at q'
            have q2 : nI n = nI 0 := q'
            rw [nI_e (by omega) (by omega)] at q2
            exact c0 q2
          simp [ne0L, this]
        let sm : Nat → Int64 := fun i => Nat.rec (motive := fun _ => Int64) 0 (fun q a => a + (gM τ 57 (40 * j + q)).toInt64) i
        have hs : ∀ i, sm (i + 1) = sm i + (gM τ 57 (40 * j + i)).toInt64 := fun i => rfl
        have L : lp_ (fun (r4 : Int64 × Int32 → Option (Int32 × QS)) (a3 : Int64 × Int32) => (if nI n ≤ a3.2 then ck_ (ne0L (nI n).toInt64) (lt_ (fX4_tell_0 ((a3.1 / (nI n).toInt64).toInt32) σ) (fun (q6 : Int32 × QS) => some (q6.1, q6.2))) else Option.bind (fX3_get_1 (nI j) a3.2 σ) (fun (q7 : Int32) => lt_ (a3.1 + q7.toInt64) (fun (v8 : Int64) => r4 (v8, (a3.2 + (1 : Int32))))))) FV ((0 : Int64), (0 : Int32)) = some (1, pI σ 1 (sm n / (nI n).toInt64).toInt32) := by
          refine for_fu (fun i => (sm i, nI i)) n rfl (by omega) ?_ ?_
          · intro r i hi
            simp only []
            rw [if_neg (by rw [nI_L (by omega) (by omega)]; omega), get1_in hj hc hn hi, Option.bind_some, hq i hi, nI_1, hs]
            rfl
          · intro r
            simp only []
            rw [if_pos (by rw [nI_L (by omega) (by omega)]; omega), ck_t hz]
            rfl
        rw [L]
        have L2 : lp_ (fun (r4 : Int64 × Int32 → Option (Int32 × QS)) (a3 : Int64 × Int32) => ck_ (inb (nI j) 6) ((if nI n ≤ a3.2 then ck_ (inb (nI j) 6) (ck_ (ne0L (nI n).toInt64) (lt_ (fX5_tell_50 ((a3.1 / (nI n).toInt64).toInt32) τ) (fun (q8 : Int32 × QS) => some (q8.1, q8.2)))) else ck_ (inb (((40 : Int32) * nI j) + a3.2) 240) (lt_ (a3.1 + (gM τ 57 ((((40 : Int32) * nI j) + a3.2).toNatClampNeg)).toInt64) (fun (v10 : Int64) => r4 (v10, (a3.2 + (1 : Int32)))))))) FV ((0 : Int64), (0 : Int32)) = some (1, pI τ 2 (sm n / (nI n).toInt64).toInt32) := by
          refine for_fu (fun i => (sm i, nI i)) n rfl (by omega) ?_ ?_
          · intro r i hi
            simp only []
            rw [ck_t (inb_n hj (by omega)), if_neg (by rw [nI_L (by omega) (by omega)]; omega), idx40, ck_t (inb_n (by omega) (by omega)), nI_c (by omega), nI_1, hs]
            rfl
          · intro r
            simp only []
            rw [ck_t (inb_n hj (by omega)), if_pos (by rw [nI_L (by omega) (by omega)]; omega), ck_t (inb_n hj (by omega)), ck_t hz]
            rfl
        rw [L2]
        exact Same.mk rfl rfl (told_ok h _)
