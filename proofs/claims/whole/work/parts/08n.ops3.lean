/-! ===== mark, whom ===== -/
theorem atLeast0 (x : Int32) : fX5_atLeast x = 0 ↔ x ≤ 0 := by
  unfold fX5_atLeast
  by_cases h : 0 ≤ x
  · rw [if_pos h, fa_eq, fa_le]
    rw [fa_le] at h
    omega
  · rw [if_neg h]
    rw [fa_le] at h
    simp only [fa_le]
    constructor
    · intro _; omega
    · intro _; trivial
theorem lacks0 {h : HH} {i s : Nat} {a : Int32} {c : Nat} (b1 : (hL h s).toInt ≤ 9) (b0 : 0 ≤ (hL h s).toInt) (b2 : 0 ≤ (sayP h i a c).toInt) : lackP h i s a c = 0 ↔ ¬ sayP h i a c < hL h s := by
  unfold lackP
  have r := fb_rng (sayP h i a c)
  rw [atLeast0, fa_le, fb_subI (by omega) (by omega), fa_lt]
  have h0 : (0 : Int32).toInt = 0 := by decide
  omega
theorem atL_n (x : Int32) : ∃ L, L < 2 ^ 31 ∧ fX5_atLeast x = nI L := by
  refine nI_of ?_
  unfold fX5_atLeast
  split
  · rename_i q; rw [fa_lt]; rw [fa_le] at q; omega
  · decide
theorem clq_le {kd : Nat → Int32} {i c : Nat} : ∀ n, clq kd i c n ≤ n
  | 0 => Nat.le_refl 0
  | n + 1 => by
    have := clq_le (kd := kd) (i := i) (c := c) n
    show clq kd i c n + _ ≤ n + 1
    split <;> omega
/-- what is feared is not below 0 -/
theorem fears_n (k f a : Int32) : 0 ≤ (fX5_fearsBy k f a).toInt := by
  unfold fX5_fearsBy
  simp only [lt_]
  obtain ⟨L, l1, l2⟩ := atL_n (f - a)
  rw [l2]
  split
  · rw [nI_toInt l1]; omega
  · have : nI L / 2 = nI (L / 2) := pk_div (d := 2) l1 (by decide) (by decide)
    rw [this, nI_toInt (by omega)]; omega
theorem says_n {h : HH} {i : Nat} {a : Int32} {c : Nat} (hn : hN h ≤ 6) {m : Nat} (hm : m < 10) (em : hM h i = nI m) : ∃ L, L ≤ 17 ∧ sayP h i a c = nI L := by
  unfold sayP fX5_saysBy
  simp only [lt_]
  have hf := fears_n (hK h i) (hF h i) a
  have rf := fb_rng (fX5_fearsBy (hK h i) (hF h i) a)
  have hx : ∃ L, L ≤ 9 ∧ fX5_atLeast (hM h i - fX5_fearsBy (hK h i) (hF h i) a) = nI L := by
    rw [em]
    unfold fX5_atLeast
    split
    · rename_i q
      have e : (nI m - fX5_fearsBy (hK h i) (hF h i) a).toInt = (m : Int) - (fX5_fearsBy (hK h i) (hF h i) a).toInt := by
        rw [fb_subI (by rw [nI_toInt (by omega)]; omega) (by rw [nI_toInt (by omega)]; omega), nI_toInt (by omega)]
      refine nI_of2 (M := 9) (n := 9) (by decide) (by rw [fa_lt]; rw [fa_le] at q; omega) ?_
      rw [fa_le, e]
      have : (9 : Int32).toInt = 9 := by decide
      omega
    · exact ⟨0, by omega, rfl⟩
  obtain ⟨L, l1, l2⟩ := hx
  have cl := clq_le (kd := hK h) (i := i) (c := c) (hN h)
  rw [l2]
  have g0 : ∀ z, z ≤ 9 → (if hK h i = 5 then nI L + (0 : Int32) + nI (clq (hK h) i c (hN h)) else nI L + 0 + 0) = nI (L + (if hK h i = 5 then clq (hK h) i c (hN h) else 0)) := fun z _ => by
    split
    · rw [Int32.add_zero, nI_add]
    · rw [Int32.add_zero, Int32.add_zero]; rfl
  by_cases e1 : fX5_isClerk (hK h i) = 0
  · rw [if_pos e1, g0 0 (by omega)]
    refine ⟨_, ?_, rfl⟩
    split <;> omega
  · rw [if_neg e1]
    have g2 : (if hK h i = 5 then nI L + (2 : Int32) + nI (clq (hK h) i c (hN h)) else nI L + 2 + 0) = nI (L + 2 + (if hK h i = 5 then clq (hK h) i c (hN h) else 0)) := by
      have e2 : nI L + (2 : Int32) = nI (L + 2) := by show nI L + nI 2 = _; rw [nI_add]
      rw [e2]
      split
      · rw [nI_add]
      · rw [Int32.add_zero, Nat.add_zero]
    rw [g2]
    refine ⟨_, ?_, rfl⟩
    split <;> omega
theorem lack_le {σ τ : QS} {ns nc : Nat} (hh : HouseOk σ τ ns nc) {i s c : Nat} {a : Int32} (hi : i < ns) (hs : s < nc) : ∃ L, L ≤ 9 ∧ lackP (hOf τ ns) i s a c = nI L := by
  obtain ⟨e1, e2, e3, -, ⟨m, m1, m2⟩, -⟩ := hh.2.2.2.2.2.2.2.2.1 i hi
  obtain ⟨l1, lv, lv1, lv2, lv3⟩ := hh.2.2.2.2.2.2.2.1 s hs
  obtain ⟨S, S1, S2⟩ := says_n (h := hOf τ ns) (i := i) (a := a) (c := c) hh.1 m1 (by show gM τ 54 i = _; rw [← e2]; exact m2)
  have el : hL (hOf τ ns) s = nI lv := by show gM τ 52 s = _; rw [← l1]; exact lv3
  unfold lackP
  rw [S2, el]
  unfold fX5_atLeast
  by_cases q : S ≤ lv
  · rw [pk_sub q, if_pos (nI_pos' (by omega))]
    exact ⟨lv - S, by omega, rfl⟩
  · rw [if_neg (by
      rw [fa_le, pk_sub_toInt (by omega) (by omega)]
      have h0 : (0 : Int32).toInt = 0 := by decide
      omega)]
    exact ⟨0, by omega, rfl⟩
def cntF (p : Nat → Bool) (s : Nat) : Nat → Nat
  | 0 => 0
  | k + 1 => cntF p s k + (if p (s + k) then 1 else 0)
theorem cntF_cong {p q : Nat → Bool} {s : Nat} : ∀ n, (∀ k, k < n → p (s + k) = q (s + k)) → cntF p s n = cntF q s n
  | 0, _ => rfl
  | n + 1, h => by
    show cntF p s n + _ = cntF q s n + _
    rw [cntF_cong n (fun k hk => h k (by omega)), h n (by omega)]
theorem swp_e {σ τ : QS} {ns nc : Nat} (hh : HouseOk σ τ ns nc) {i s c : Nat} (hi : i < ns) (hs : s ≤ nc) (hc : c < 64) (e13 : gI σ 13 = nI s) (e14 : gI σ 14 = nI c) : fX0_scenesWithoutPrompt_6 (nI i) σ = some (nI (cntF (fun k => decide (lackP (hOf τ ns) i k (gI σ 17) c = 0)) s (nc - s))) := by
  have hnc := hh.2.1
  unfold fX0_scenesWithoutPrompt_6
  simp only [lt_]
  refine for_fu (fun k => (nI (cntF (fun k => decide (lackP (hOf τ ns) i k (gI σ 17) c = 0)) s k), nI (s + k))) (nc - s) ?_ (by omega) ?_ ?_
  · show _ = (nI 0, nI (s + 0))
    rw [e13]; rfl
  · intro r k hk
    simp only []
    rw [hh.2.2.2.2.2.1, if_neg (by rw [nI_L (by omega) (by omega)]; omega), e14, lackC_e hh hi (by omega) hc, Option.bind_some, nI_1 (s + k)]
    show _ = r (nI (cntF _ s k + (if decide (lackP (hOf τ ns) i (s + k) (gI σ 17) c = 0) = true then 1 else 0)), nI (s + (k + 1)))
    by_cases e : lackP (hOf τ ns) i (s + k) (gI σ 17) c = 0
    · rw [if_pos e, if_pos (by simp [e]), nI_1]; rfl
    · rw [if_neg e, if_neg (by simp [e]), Int32.add_zero]; rfl
  · intro r
    simp only []
    rw [hh.2.2.2.2.2.1, if_pos (by rw [nI_L (by omega) (by omega)]; omega)]
theorem easy_e {σ τ : QS} {ns nc : Nat} (hh : HouseOk σ τ ns nc) {i s c : Nat} (hi : i < ns) (hs : s ≤ nc) (hc : c < 64) (e1 : gM τ 51 1 = nI s) (e6 : gM τ 51 6 = nI c) : fX5_easyScenes_50 (nI i) τ = some (nI (cntF (fun k => !decide (sayP (hOf τ ns) i (gM τ 51 4) c < gM τ 52 k)) s (nc - s))) := by
  have hnc := hh.2.1
  have hns := hh.1
  unfold fX5_easyScenes_50 fX5_saysNow_50
  simp only [lt_]
  refine for_fu (fun k => (nI (cntF (fun k => !decide (sayP (hOf τ ns) i (gM τ 51 4) c < gM τ 52 k)) s k), nI (s + k))) (nc - s) ?_ (by omega) ?_ ?_
  · show _ = (nI 0, nI (s + 0))
    rw [e1]; rfl
  · intro r k hk
    simp only []
    rw [hh.2.2.2.2.2.2.1, if_neg (by rw [nI_L (by omega) (by omega)]; omega), ck_t (inb_n (by omega) (by omega)), e6, saysR_e hh (by omega) hc, Option.bind_some, Option.bind_some, nI_c (by omega), nI_1 (s + k)]
    show _ = r (nI (cntF _ s k + (if (!decide (sayP (hOf τ ns) i (gM τ 51 4) c < gM τ 52 (s + k))) = true then 1 else 0)), nI (s + (k + 1)))
    by_cases e : sayP (hOf τ ns) i (gM τ 51 4) c < gM τ 52 (s + k)
    · rw [if_pos e, if_neg (by simp [e]), Int32.add_zero]; rfl
    · rw [if_neg e, if_pos (by simp [e]), nI_1]; rfl
  · intro r
    simp only []
    rw [hh.2.2.2.2.2.2.1, if_pos (by rw [nI_L (by omega) (by omega)]; omega)]
theorem evenC_e {σ τ : QS} {ns nc : Nat} (hh : HouseOk σ τ ns nc) {i : Nat} (hi : i < ns) : fX0_othersInEvenSeats_6 (nI i) σ = some (nI (cntF (fun k => decide (k ≠ i) && decide (gM σ 25 k - gM σ 25 k / 2 * 2 = 0)) 0 ns)) := by
  have hns := hh.1
  unfold fX0_othersInEvenSeats_6
  refine for_fu (fun k => (nI (cntF (fun k => decide (k ≠ i) && decide (gM σ 25 k - gM σ 25 k / 2 * 2 = 0)) 0 k), nI k)) ns rfl (by omega) ?_ ?_
  · intro r k hk
    simp only [lt_]
    rw [hh.2.2.2.1, if_neg (by rw [nI_L (by omega) (by omega)]; omega), nI_1 k]
    show _ = r (nI (cntF _ 0 k + (if (decide (0 + k ≠ i) && decide (gM σ 25 (0 + k) - gM σ 25 (0 + k) / 2 * 2 = 0)) = true then 1 else 0)), nI (k + 1))
    rw [Nat.zero_add]
    by_cases e : k = i
    · rw [if_pos (by rw [e]), if_neg (by simp [e]), Int32.add_zero]; rfl
    · rw [if_neg (by rw [nI_e (by omega) (by omega)]; exact e), ck_t (inb_n (by omega) (by omega)), nI_c (by omega)]
      by_cases z : gM σ 25 k - gM σ 25 k / 2 * 2 = 0
      · rw [if_pos z, if_pos (by simp [e, z]), nI_1]
      · rw [if_neg z, if_neg (by simp [z]), Int32.add_zero]; rfl
  · intro r
    simp only []
    rw [hh.2.2.2.1, if_pos (by rw [nI_L (by omega) (by omega)]; omega)]
theorem evenR_e {σ τ : QS} {ns nc : Nat} (hh : HouseOk σ τ ns nc) {i : Nat} (hi : i < ns) : fX5_evenOthers_50 (nI i) τ = some (nI (cntF (fun k => decide (k ≠ i) && decide (gM τ 51 (7 + k) - gM τ 51 (7 + k) / 2 * 2 = 0)) 0 ns)) := by
  have hns := hh.1
  unfold fX5_evenOthers_50
  refine for_fu (fun k => (nI (cntF (fun k => decide (k ≠ i) && decide (gM τ 51 (7 + k) - gM τ 51 (7 + k) / 2 * 2 = 0)) 0 k), nI k)) ns rfl (by omega) ?_ ?_
  · intro r k hk
    simp only [lt_]
    rw [hh.2.2.2.2.1, if_neg (by rw [nI_L (by omega) (by omega)]; omega), nI_1 k]
    show _ = r (nI (cntF _ 0 k + (if (decide (0 + k ≠ i) && decide (gM τ 51 (7 + (0 + k)) - gM τ 51 (7 + (0 + k)) / 2 * 2 = 0)) = true then 1 else 0)), nI (k + 1))
    rw [Nat.zero_add]
    by_cases e : k = i
    · rw [if_pos (by rw [e]), if_neg (by simp [e]), Int32.add_zero]; rfl
    · rw [if_neg (by rw [nI_e (by omega) (by omega)]; exact e), idx7, ck_t (inb_n (by omega) (by omega)), nI_c (by omega)]
      by_cases z : gM τ 51 (7 + k) - gM τ 51 (7 + k) / 2 * 2 = 0
      · rw [if_pos z, if_pos (by simp [e, z]), nI_1]
      · rw [if_neg z, if_neg (by simp [z]), Int32.add_zero]; rfl
  · intro r
    simp only []
    rw [hh.2.2.2.2.1, if_pos (by rw [nI_L (by omega) (by omega)]; omega)]
theorem isOf_e {i : Nat} (hi : i < 6) {k : Nat} (h1 : 1 ≤ k) (h5 : k ≤ 5) (τ : QS) : fX5_isOf_50 (nI i) (nI k) τ = some (fX4_isOfKind (gM τ 53 i) (nI k)) := by
  unfold fX5_isOf_50
  simp only [lt_]
  rw [ck_t (inb_n hi (by omega)), ck_t (inb_n hi (by omega)), ck_t (inb_n hi (by omega)), nI_c (by omega)]
  generalize gM τ 53 i = kd
  have cases5 : k = 1 ∨ k = 2 ∨ k = 3 ∨ k = 4 ∨ k = 5 := by omega
  rcases cases5 with rfl | rfl | rfl | rfl | rfl
  · rw [show fX4_isOfKind kd (nI 1) = fX5_isClerk kd from clerk_e kd, if_pos (show nI 1 = (1 : Int32) from rfl), if_neg (show ¬ nI 1 = (3 : Int32) by decide)]
    by_cases e : kd = nI 1
    · rw [if_pos e, e]; rfl
    · rw [if_neg e]
      unfold fX5_isClerk fX5_isUncle
      rw [if_neg (show ¬ kd = (1 : Int32) from e)]
      by_cases e3 : kd = 3
      · rw [if_pos e3]; rfl
      · rw [if_neg e3]
        by_cases e5 : kd = 5
        · rw [if_pos e5]; rfl
        · rw [if_neg e5]; rfl
  · unfold fX4_isOfKind
    rw [if_neg (show ¬ nI 2 = (1 : Int32) by decide), if_neg (show ¬ nI 2 = (3 : Int32) by decide), if_neg (show ¬ nI 2 = (0 : Int32) by decide), if_neg (show ¬ nI 2 = (1 : Int32) by decide), if_pos (show nI 2 = (2 : Int32) from rfl)]
    by_cases e : kd = nI 2
    · rw [if_pos e, if_pos e]
    · rw [if_neg e, if_neg e]
  · rw [show fX4_isOfKind kd (nI 3) = fX5_isUncle kd from uncle_e kd, if_neg (show ¬ nI 3 = (1 : Int32) by decide), if_pos (show nI 3 = (3 : Int32) from rfl)]
    by_cases e : kd = nI 3
    · rw [if_pos e, e]; rfl
    · rw [if_neg e]
      unfold fX5_isUncle
      rw [if_neg (show ¬ kd = (3 : Int32) from e)]
      by_cases e5 : kd = 5
      · rw [if_pos e5]; rfl
      · rw [if_neg e5]; rfl
  · unfold fX4_isOfKind
    rw [if_neg (show ¬ nI 4 = (1 : Int32) by decide), if_neg (show ¬ nI 4 = (3 : Int32) by decide), if_neg (show ¬ nI 4 = (0 : Int32) by decide), if_neg (show ¬ nI 4 = (1 : Int32) by decide), if_neg (show ¬ nI 4 = (2 : Int32) by decide), if_neg (show ¬ nI 4 = (3 : Int32) by decide)]
    by_cases e : kd = nI 4
    · rw [if_pos e, if_pos e]
    · rw [if_neg e, if_neg e]
  · unfold fX4_isOfKind
    rw [if_neg (show ¬ nI 5 = (1 : Int32) by decide), if_neg (show ¬ nI 5 = (3 : Int32) by decide), if_neg (show ¬ nI 5 = (0 : Int32) by decide), if_neg (show ¬ nI 5 = (1 : Int32) by decide), if_neg (show ¬ nI 5 = (2 : Int32) by decide), if_neg (show ¬ nI 5 = (3 : Int32) by decide)]
    by_cases e : kd = nI 5
    · rw [if_pos e, if_pos e]
    · rw [if_neg e, if_neg e]
