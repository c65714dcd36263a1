/-! ===== copy ===== -/
theorem hp_neg {r x n : Int32} (σ : QS) (h : x < 0) : fX3_holdsPart_1 r x n σ = some 0 := by
  unfold fX3_holdsPart_1
  rw [if_pos h]
theorem sp_neg {r x n : Int32} (τ : QS) (h : x < 0) : fX5_isSpan_50 r x n τ = some 0 := by
  unfold fX5_isSpan_50
  rw [if_pos h]
theorem hp_e {j s a m : Nat} (hj : j < 6) {σ : QS} (hs : gM σ 10 j = nI s) (hn : s ≤ 40) (ha : a < 2 ^ 31) (hm : m < 2 ^ 31) : fX3_holdsPart_1 (nI j) (nI a) (nI m) σ = some (if s < a + m then 0 else 1) := by
  unfold fX3_holdsPart_1
  rw [if_neg (nI_pos ha), if_neg (nI_pos hm), size1_e hj, hs, Option.bind_some]
  have : nI s - nI m < nI a ↔ s < a + m := by
    rw [fa_lt, fb_subI (by rw [nI_toInt (by omega), nI_toInt hm]; omega) (by rw [nI_toInt (by omega), nI_toInt hm]; omega), nI_toInt (by omega), nI_toInt hm, nI_toInt ha]
    omega
  by_cases c : s < a + m
  · rw [if_pos (this.mpr c), if_pos c]
  · rw [if_neg (fun q => c (this.mp q)), if_neg c]
theorem sp_e {j s a m : Nat} (hj : j < 6) {τ : QS} (hs : gM τ 56 j = nI s) (hn : s ≤ 40) (ha : a < 2 ^ 31) (hm : m < 2 ^ 31) : fX5_isSpan_50 (nI j) (nI a) (nI m) τ = some (if s < a + m then 0 else 1) := by
  unfold fX5_isSpan_50
  rw [if_neg (nI_pos ha), ck_t (inb_n hj (by omega)), nI_c (by omega), hs]
  have : 0 < lg_cmp ((nI a).toInt64 + (nI m).toInt64) (nI s).toInt64 ↔ s < a + m := by
    rw [cmp_gt, nI_l ha, nI_l hm, nI_l (show s < 2 ^ 31 by omega), lN_add, pk_lLT (by omega) (by omega)]
  by_cases c : s < a + m
  · rw [if_pos (this.mpr c), if_pos c]
  · rw [if_neg (fun q => c (this.mp q)), if_neg c]
theorem idx40' (j a i : Nat) : (40 : Int32) * nI j + nI a + nI i = nI (40 * j + a + i) := by
  show nI 40 * nI j + nI a + nI i = _
  rw [pk_mul, nI_add, nI_add]
/-- n places copied -/
def cpR (g : Nat → Int32) (src dst n : Nat) : Nat → Int32 := fun p => if dst ≤ p ∧ p < dst + n then g (src + (p - dst)) else g p
theorem copy_core {σ τ : QS} (h : Inv σ τ) {j j' a b m s s' : Nat} (hj : j < 6) (hj' : j' < 6) (hs : gM σ 10 j = nI s) (hs' : gM σ 10 j' = nI s') (h1 : s ≤ 40) (h2 : s' ≤ 40) (ha : a + m ≤ s) (hb : b + m ≤ s') : Inv (pM σ (30 + j') (va_cpy (gM σ (30 + j)) (gM σ (30 + j')) a b m)) (pM τ 57 (cpR (gM τ 57) (40 * j + a) (40 * j' + b) m)) := by
  refine h.rows ?_ rfl rfl (fun q h1 h2 => by rw [gM_ne (by omega)]) rfl rfl (fun q h1 h2 => by rw [gM_ne (by omega)])
  intro r hr
  rw [gM_ne (show 10 ≠ 30 + j' by omega), gM_ne (show 56 ≠ 57 by omega), gM_same]
  obtain ⟨u, w⟩ := h.1 r hr
  refine ⟨u, ?_⟩
  rcases w with w | ⟨n', b1, b2, b3⟩
  · exact Or.inl w
  · refine Or.inr ⟨n', b1, b2, fun q hq => ?_⟩
    by_cases e : r = j'
    · subst e
      rw [gM_same]
      unfold va_cpy cpR
      by_cases c : b ≤ q ∧ q < b + m
      · rw [if_pos c, if_pos (by omega)]
        obtain ⟨-, w2⟩ := h.1 j hj
        rcases w2 with w2 | ⟨n2, c1, c2, c3⟩
        · rw [hs] at w2; exact absurd w2 (nI_nm1 (by omega))
        · rw [hs, nI_e (by omega) (by omega)] at c2
          rw [c3 _ (by omega)]
          congr 1
          omega
      · rw [if_neg c, if_neg (by omega), b3 q hq]
    · rw [gM_ne (show 30 + r ≠ 30 + j' by omega), b3 q hq]
      unfold cpR
      rw [if_neg (by omega)]
theorem cp_class {σ : QS} {j j' a b m s s' : Nat} (hj : j < 6) (hj' : j' < 6) (hs : gM σ 10 j = nI s) (hs' : gM σ 10 j' = nI s') (h1 : s ≤ 40) (h2 : s' ≤ 40) (ha : a + m ≤ s) (hb : b + m ≤ s') : fX3_copyPart_1 (nI j) (nI a) (nI j') (nI b) (nI m) σ = some (pM σ (30 + j') (va_cpy (gM σ (30 + j)) (gM σ (30 + j')) a b m)) := by
  unfold fX3_copyPart_1
  rw [hp_e hj hs h1 (by omega) (by omega), hp_e hj' hs' h2 (by omega) (by omega), if_neg (by omega), if_neg (by omega), Option.bind_some, if_neg one_ne, Option.bind_some, if_neg one_ne, ck_t (inb_n hj (by omega)), ck_t (inb_n hj' (by omega))]
  have : cpOk (nI a) (nI b) (nI m) 40 40 = true := by
    unfold cpOk
    rw [nI_c (by omega), nI_c (by omega), nI_c (by omega)]
    simp only [nneg (show a < 1000000 by omega), nneg (show b < 1000000 by omega), nneg (show m < 1000000 by omega), show a + m ≤ 40 by omega, show b + m ≤ 40 by omega, decide_false, Bool.not_false, decide_true, Bool.and_true]
  rw [ck_t this, nI_c (by omega), nI_c (by omega), nI_c (by omega), nI_c (by omega), nI_c (by omega)]
  rfl
theorem copy_same {σ τ : QS} (h : Inv σ τ) (r i t j n : Int32) : Same (fX4_copy_0 r i t j n σ) (fX5_copy_50 r i t j n τ) := by
  unfold fX4_copy_0 fX5_copy_50
  rw [isPlace1_e, isPlace1_e]
  rcases pk_ix r (n := 6) (by omega) with hr | hr | ⟨u, hu, rfl⟩
  · rw [row_bad (Or.inl hr), if_pos rfl, if_pos rfl]
    exact Same.mk rfl rfl h
  · rw [row_bad (Or.inr hr), if_pos rfl, if_pos rfl]
    exact Same.mk rfl rfl h
  · rw [row_good hu, if_neg one_ne, if_neg one_ne]
    rcases pk_ix t (n := 6) (by omega) with hr | hr | ⟨w, hw, rfl⟩
    · rw [row_bad (Or.inl hr), if_pos rfl, if_pos rfl]
      exact Same.mk rfl rfl h
    · rw [row_bad (Or.inr hr), if_pos rfl, if_pos rfl]
      exact Same.mk rfl rfl h
    · rw [row_good hw, if_neg one_ne, if_neg one_ne]
      by_cases c0 : 0 ≤ n
      · rw [if_pos c0, if_pos c0]
        obtain ⟨m, hm, rfl⟩ := nI_of (x := n) (by rw [fa_lt]; rw [fa_le] at c0; omega)
        simp only [lt_]
        rw [has1_e hu, has1_e hw, ck_t (inb_n hu (by omega)), ck_t (inb_n hw (by omega)), nI_c (show u < 1000000 by omega), nI_c (show w < 1000000 by omega)]
        obtain ⟨e, hc⟩ := h.1 u hu
        obtain ⟨e', hc'⟩ := h.1 w hw
        rcases hc with hc | ⟨s, hs, hc, hq⟩
        · rw [← e, hc, if_pos rfl, if_pos m1_neg, Option.bind_some, if_pos rfl]
          exact Same.ref h (f := 1) rfl (by omega) (by omega) rfl rfl
        · rw [← e, hc, if_neg (nI_nm1 (by omega)), if_neg (nneg (by omega)), Option.bind_some, if_neg one_ne]
          rcases hc' with hc' | ⟨s', hs', hc', hq'⟩
          · rw [← e', hc', if_pos rfl, if_neg (show ¬ (0 : Int32) ≤ -1 by decide), Option.bind_some, if_pos rfl]
            exact Same.ref h (f := 1) rfl (by omega) (by omega) rfl rfl
          · rw [← e', hc', if_neg (nI_nm1 (by omega)), if_pos (nI_pos' (by omega)), Option.bind_some, if_neg one_ne]
            have he : gM τ 56 u = nI s := by rw [← e]; exact hc
            have he' : gM τ 56 w = nI s' := by rw [← e']; exact hc'
            by_cases ci : i < 0
            · rw [hp_neg σ ci, sp_neg τ ci, Option.bind_some, Option.bind_some, if_pos rfl, if_pos rfl]
              exact Same.ref h (f := 2) rfl (by omega) (by omega) rfl rfl
            · obtain ⟨a, ha, rfl⟩ := nI_of ci
              rw [hp_e hu hc hs ha hm, sp_e hu he hs ha hm, Option.bind_some, Option.bind_some]
              by_cases c1 : s < a + m
              · rw [if_pos c1, if_pos rfl, if_pos rfl]
                exact Same.ref h (f := 2) rfl (by omega) (by omega) rfl rfl
              · rw [if_neg c1, if_neg one_ne, if_neg one_ne]
                by_cases cj : j < 0
                · rw [hp_neg σ cj, sp_neg τ cj, Option.bind_some, Option.bind_some, if_pos rfl, if_pos rfl]
                  exact Same.ref h (f := 2) rfl (by omega) (by omega) rfl rfl
                · obtain ⟨b, hb, rfl⟩ := nI_of cj
                  rw [hp_e hw hc' hs' hb hm, sp_e hw he' hs' hb hm, Option.bind_some, Option.bind_some]
                  by_cases c2 : s' < b + m
                  · rw [if_pos c2, if_pos rfl, if_pos rfl]
                    exact Same.ref h (f := 2) rfl (by omega) (by omega) rfl rfl
                  · rw [if_neg c2, if_neg one_ne, if_neg one_ne, cp_class hu hw hc hc' hs hs' (by omega) (by omega), Option.bind_some]
                    have key := copy_core h hu hw hc hc' hs hs' (a := a) (b := b) (m := m) (by omega) (by omega)
                    by_cases c3 : b ≤ a
                    · rw [if_pos (by rw [nI_L (by omega) (by omega)]; exact c3)]
                      refine Same.mk rfl (for_fu (fun k => (nI k, pM τ 57 (cpR (gM τ 57) (40 * u + a) (40 * w + b) k))) m ?_ (by omega) ?_ ?_) key
                      · have : cpR (gM τ 57) (40 * u + a) (40 * w + b) 0 = gM τ 57 := by
                          funext p
                          unfold cpR
                          rw [if_neg (by omega)]
                        show _ = (nI 0, pM τ 57 (cpR (gM τ 57) (40 * u + a) (40 * w + b) 0))
                        rw [this, pM_self]
                        rfl
                      · intro r k hk
                        simp only []
                        rw [if_neg (by rw [nI_L (by omega) (by omega)]; omega), if_pos trivial, idx40', idx40', ck_t (inb_n (by omega) (by omega)), ck_t (inb_n (by omega) (by omega)), nI_c (by omega), nI_c (by omega), nI_1, gM_same, pM_pM]
                        have : upd (cpR (gM τ 57) (40 * u + a) (40 * w + b) k) (40 * w + b + k) (cpR (gM τ 57) (40 * u + a) (40 * w + b) k (40 * u + a + k)) = cpR (gM τ 57) (40 * u + a) (40 * w + b) (k + 1) := by
                          funext p
                          by_cases e1 : p = 40 * w + b + k
                          · rw [e1, upd_same]
                            unfold cpR
                            rw [if_neg (by omega), if_pos (by omega)]
                            congr 1
                            omega
                          · rw [upd_ne e1]
                            unfold cpR
                            by_cases e2 : 40 * w + b ≤ p ∧ p < 40 * w + b + k
                            · rw [if_pos e2, if_pos (by omega)]
                            · rw [if_neg e2, if_neg (by omega)]
                        rw [this]
                      · intro r
                        simp only []
                        rw [if_pos (by rw [nI_L (by omega) (by omega)]; omega)]
                    · rw [if_neg (by rw [nI_L (by omega) (by omega)]; exact c3)]
                      refine Same.mk rfl (for_fu (fun k => (nI k, pM τ 57 (cpR (gM τ 57) (40 * u + a + (m - k)) (40 * w + b + (m - k)) k))) m ?_ (by omega) ?_ ?_) key
                      · have : cpR (gM τ 57) (40 * u + a + (m - 0)) (40 * w + b + (m - 0)) 0 = gM τ 57 := by
                          funext p
                          unfold cpR
                          rw [if_neg (by omega)]
                        show _ = (nI 0, pM τ 57 (cpR (gM τ 57) (40 * u + a + (m - 0)) (40 * w + b + (m - 0)) 0))
                        rw [this, pM_self]
                        rfl
                      · intro r k hk
                        simp only []
                        have e5 : nI m - 1 - nI k = nI (m - 1 - k) := by
                          show nI m - nI 1 - nI k = _
                          rw [pk_sub (by omega), pk_sub (by omega)]
                        rw [if_neg (by rw [nI_L (by omega) (by omega)]; omega), if_neg one_ne, e5, idx40', idx40', ck_t (inb_n (by omega) (by omega)), ck_t (inb_n (by omega) (by omega)), nI_c (by omega), nI_c (by omega), nI_1, gM_same, pM_pM]
                        have : upd (cpR (gM τ 57) (40 * u + a + (m - k)) (40 * w + b + (m - k)) k) (40 * w + b + (m - 1 - k)) (cpR (gM τ 57) (40 * u + a + (m - k)) (40 * w + b + (m - k)) k (40 * u + a + (m - 1 - k))) = cpR (gM τ 57) (40 * u + a + (m - (k + 1))) (40 * w + b + (m - (k + 1))) (k + 1) := by
                          funext p
                          by_cases e1 : p = 40 * w + b + (m - 1 - k)
                          · rw [e1, upd_same]
                            unfold cpR
                            rw [if_neg (by omega), if_pos (by omega)]
                            congr 1
                            omega
                          · rw [upd_ne e1]
                            unfold cpR
                            by_cases e2 : 40 * w + b + (m - k) ≤ p ∧ p < 40 * w + b + (m - k) + k
                            · rw [if_pos e2, if_pos (by omega)]
                              congr 1
                              omega
                            · rw [if_neg e2, if_neg (by omega)]
                        rw [this]
                      · intro r
                        simp only []
                        rw [if_pos (by rw [nI_L (by omega) (by omega)]; omega)]
                        simp only [Nat.sub_self, Nat.add_zero]
      · rw [if_neg c0, if_neg c0]
        exact Same.ref h (f := 5) rfl (by omega) (by omega) rfl rfl
