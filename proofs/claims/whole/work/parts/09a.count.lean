/-! ===== counts, the digest ===== -/
theorem clerkC_e {σ τ : QS} {ns nc : Nat} (hh : HouseOk σ τ ns nc) : fX1_clerkCount_5 σ = some (nI (cntF (fun k => decide (¬ fX5_isClerk (gM τ 53 k) = 0)) 0 ns)) := by
  have hns := hh.1
  unfold fX1_clerkCount_5
  refine for_fu (fun k => (nI (cntF (fun k => decide (¬ fX5_isClerk (gM τ 53 k) = 0)) 0 k), nI k)) ns rfl (by omega) ?_ ?_
  · intro r k hk
    simp only [lt_]
    rw [hh.2.2.2.1, if_neg (by rw [nI_L (by omega) (by omega)]; omega), ck_t (inb_n (by omega) (by omega)), nI_c (by omega), (hh.2.2.2.2.2.2.2.2.1 k hk).1, clerk_e, nI_1 k]
    show _ = r (nI (cntF _ 0 k + (if decide (¬ fX5_isClerk (gM τ 53 (0 + k)) = 0) = true then 1 else 0)), nI (k + 1))
    rw [Nat.zero_add]
    by_cases z : fX5_isClerk (gM τ 53 k) = 0
    · rw [if_pos z, if_neg (by simp [z]), Int32.add_zero]; rfl
    · rw [if_neg z, if_pos (by simp [z]), nI_1]
  · intro r
    simp only []
    rw [hh.2.2.2.1, if_pos (by rw [nI_L (by omega) (by omega)]; omega)]
theorem clerkR_e {σ τ : QS} {ns nc : Nat} (hh : HouseOk σ τ ns nc) : fX5_clerks_50 τ = some (nI (cntF (fun k => decide (¬ fX5_isClerk (gM τ 53 k) = 0)) 0 ns)) := by
  have hns := hh.1
  unfold fX5_clerks_50
  refine for_fu (fun k => (nI (cntF (fun k => decide (¬ fX5_isClerk (gM τ 53 k) = 0)) 0 k), nI k)) ns rfl (by omega) ?_ ?_
  · intro r k hk
    simp only [lt_]
    rw [hh.2.2.2.2.1, if_neg (by rw [nI_L (by omega) (by omega)]; omega), ck_t (inb_n (by omega) (by omega)), nI_c (by omega), nI_1 k]
    show _ = r (nI (cntF _ 0 k + (if decide (¬ fX5_isClerk (gM τ 53 (0 + k)) = 0) = true then 1 else 0)), nI (k + 1))
    rw [Nat.zero_add]
    by_cases z : fX5_isClerk (gM τ 53 k) = 0
    · rw [if_pos z, if_neg (by simp [z]), Int32.add_zero]; rfl
    · rw [if_neg z, if_pos (by simp [z]), nI_1]
  · intro r
    simp only []
    rw [hh.2.2.2.2.1, if_pos (by rw [nI_L (by omega) (by omega)]; omega)]
theorem there1_e (σ : QS) : fX3_thereCount_1 σ = some (nI (cntF (fun k => decide (¬ gM σ 10 k = -1)) 0 6)) := by
  unfold fX3_thereCount_1
  refine for_fu (fun k => (nI (cntF (fun k => decide (¬ gM σ 10 k = -1)) 0 k), nI k)) 6 rfl (by omega) ?_ ?_
  · intro r k hk
    simp only [lt_]
    rw [if_neg (show ¬ (6 : Int32) ≤ nI k from by show ¬ nI 6 ≤ nI k; rw [nI_L (by omega) (by omega)]; omega), has1_e hk, Option.bind_some, nI_1 k]
    show _ = r (nI (cntF _ 0 k + (if decide (¬ gM σ 10 (0 + k) = -1) = true then 1 else 0)), nI (k + 1))
    rw [Nat.zero_add]
    by_cases z : gM σ 10 k = -1
    · rw [if_pos z, if_pos rfl, if_neg (by simp [z]), Int32.add_zero]; rfl
    · rw [if_neg z, if_neg one_ne, if_pos (by simp [z]), nI_1]
  · intro r
    simp only []
    rw [if_pos (show (6 : Int32) ≤ nI 6 from by show nI 6 ≤ nI 6; rw [nI_L (by omega) (by omega)]; omega)]
theorem there2_e (σ : QS) : fX3_thereCount_2 σ = some (nI (cntF (fun k => decide (¬ gM σ 12 k = -1)) 0 4)) := by
  unfold fX3_thereCount_2
  refine for_fu (fun k => (nI (cntF (fun k => decide (¬ gM σ 12 k = -1)) 0 k), nI k)) 4 rfl (by omega) ?_ ?_
  · intro r k hk
    simp only [lt_]
    rw [if_neg (show ¬ (4 : Int32) ≤ nI k from by show ¬ nI 4 ≤ nI k; rw [nI_L (by omega) (by omega)]; omega), has2_e hk, Option.bind_some, nI_1 k]
    show _ = r (nI (cntF _ 0 k + (if decide (¬ gM σ 12 (0 + k) = -1) = true then 1 else 0)), nI (k + 1))
    rw [Nat.zero_add]
    by_cases z : gM σ 12 k = -1
    · rw [if_pos z, if_pos rfl, if_neg (by simp [z]), Int32.add_zero]; rfl
    · rw [if_neg z, if_neg one_ne, if_pos (by simp [z]), nI_1]
  · intro r
    simp only []
    rw [if_pos (show (4 : Int32) ≤ nI 4 from by show nI 4 ≤ nI 4; rw [nI_L (by omega) (by omega)]; omega)]
theorem there3_e (σ : QS) : fX3_thereCount_3 σ = some (nI (cntF (fun k => decide (¬ gM σ 14 k = -1)) 0 3)) := by
  unfold fX3_thereCount_3
  refine for_fu (fun k => (nI (cntF (fun k => decide (¬ gM σ 14 k = -1)) 0 k), nI k)) 3 rfl (by omega) ?_ ?_
  · intro r k hk
    simp only [lt_]
    rw [if_neg (show ¬ (3 : Int32) ≤ nI k from by show ¬ nI 3 ≤ nI k; rw [nI_L (by omega) (by omega)]; omega), has3_e hk, Option.bind_some, nI_1 k]
    show _ = r (nI (cntF _ 0 k + (if decide (¬ gM σ 14 (0 + k) = -1) = true then 1 else 0)), nI (k + 1))
    rw [Nat.zero_add]
    by_cases z : gM σ 14 k = -1
    · rw [if_pos z, if_pos rfl, if_neg (by simp [z]), Int32.add_zero]; rfl
    · rw [if_neg z, if_neg one_ne, if_pos (by simp [z]), nI_1]
  · intro r
    simp only []
    rw [if_pos (show (3 : Int32) ≤ nI 3 from by show nI 3 ≤ nI 3; rw [nI_L (by omega) (by omega)]; omega)]
theorem thereR8_e (τ : QS) : fX5_thereOf_50 (8 : Int32) τ = some (nI (cntF (fun k => decide (0 ≤ gM τ 56 k)) 0 6)) := by
  unfold fX5_thereOf_50
  refine for_fu (fun k => (nI (cntF (fun k => decide (0 ≤ gM τ 56 k)) 0 k), nI k)) 6 rfl (by omega) ?_ ?_
  · intro r k hk
    simp only [lt_]
    rw [if_neg (show ¬ (6 : Int32) ≤ nI k from by show ¬ nI 6 ≤ nI k; rw [nI_L (by omega) (by omega)]; omega), if_pos trivial, ck_t (inb_n (by omega) (by omega)), nI_c (by omega), nI_1 k]
    show _ = r (nI (cntF _ 0 k + (if decide (0 ≤ gM τ 56 (0 + k)) = true then 1 else 0)), nI (k + 1))
    rw [Nat.zero_add]
    by_cases z : 0 ≤ gM τ 56 k
    · rw [if_pos z, if_pos (by simp [z]), nI_1]
    · rw [if_neg z, if_neg (by simp [z]), Int32.add_zero]; rfl
  · intro r
    simp only []
    rw [if_pos (show (6 : Int32) ≤ nI 6 from by show nI 6 ≤ nI 6; rw [nI_L (by omega) (by omega)]; omega)]
theorem thereR9_e (τ : QS) : fX5_thereOf_50 (9 : Int32) τ = some (nI (cntF (fun k => decide (k < 4) && decide (¬ gM τ 58 k < 0)) 0 6)) := by
  unfold fX5_thereOf_50
  refine for_fu (fun k => (nI (cntF (fun k => decide (k < 4) && decide (¬ gM τ 58 k < 0)) 0 k), nI k)) 6 rfl (by omega) ?_ ?_
  · intro r k hk
    simp only [lt_]
    rw [if_neg (show ¬ (6 : Int32) ≤ nI k from by show ¬ nI 6 ≤ nI k; rw [nI_L (by omega) (by omega)]; omega), if_neg (show ¬ (9 : Int32) = 8 by decide), if_pos trivial, nI_1 k]
    show _ = r (nI (cntF _ 0 k + (if (decide (0 + k < 4) && decide (¬ gM τ 58 (0 + k) < 0)) = true then 1 else 0)), nI (k + 1))
    rw [Nat.zero_add]
    by_cases c : 4 ≤ k
    · rw [if_pos (show (4 : Int32) ≤ nI k from by show nI 4 ≤ nI k; rw [nI_L (by omega) (by omega)]; omega), if_neg (by simp; omega), Int32.add_zero]; rfl
    · rw [if_neg (show ¬ (4 : Int32) ≤ nI k from by show ¬ nI 4 ≤ nI k; rw [nI_L (by omega) (by omega)]; omega), ck_t (inb_n (by omega) (by omega)), nI_c (by omega)]
      by_cases z : gM τ 58 k < 0
      · rw [if_pos z, if_neg (by simp [z]), Int32.add_zero]; rfl
      · rw [if_neg z, if_pos (by simp [z]; omega), nI_1]
  · intro r
    simp only []
    rw [if_pos (show (6 : Int32) ≤ nI 6 from by show nI 6 ≤ nI 6; rw [nI_L (by omega) (by omega)]; omega)]
theorem thereR10_e (τ : QS) : fX5_thereOf_50 (10 : Int32) τ = some (nI (cntF (fun k => decide (k < 3) && decide (¬ gM τ 51 (493 * (k + 1)) < 0)) 0 6)) := by
  unfold fX5_thereOf_50
  refine for_fu (fun k => (nI (cntF (fun k => decide (k < 3) && decide (¬ gM τ 51 (493 * (k + 1)) < 0)) 0 k), nI k)) 6 rfl (by omega) ?_ ?_
  · intro r k hk
    simp only [lt_]
    rw [if_neg (show ¬ (6 : Int32) ≤ nI k from by show ¬ nI 6 ≤ nI k; rw [nI_L (by omega) (by omega)]; omega), if_neg (show ¬ (10 : Int32) = 8 by decide), if_neg (show ¬ (10 : Int32) = 9 by decide), nI_1 k]
    show _ = r (nI (cntF _ 0 k + (if (decide (0 + k < 3) && decide (¬ gM τ 51 (493 * (0 + k + 1)) < 0)) = true then 1 else 0)), nI (k + 1))
    rw [Nat.zero_add]
    by_cases c : 3 ≤ k
    · rw [if_pos (show (3 : Int32) ≤ nI k from by show nI 3 ≤ nI k; rw [nI_L (by omega) (by omega)]; omega), if_neg (by simp; omega), Int32.add_zero]; rfl
    · rw [if_neg (show ¬ (3 : Int32) ≤ nI k from by show ¬ nI 3 ≤ nI k; rw [nI_L (by omega) (by omega)]; omega), Int32.add_zero, idx493, ck_t (inb_n (by omega) (by omega)), nI_c (by omega)]
      by_cases z : gM τ 51 (493 * (k + 1)) < 0
      · rw [if_pos z, if_neg (by simp [z])]; simp only [Int32.add_zero]; rfl
      · rw [if_neg z, if_pos (by simp [z]; omega), nI_1]
  · intro r
    simp only []
    rw [if_pos (show (6 : Int32) ≤ nI 6 from by show nI 6 ≤ nI 6; rw [nI_L (by omega) (by omega)]; omega)]
theorem cntF_cut {p : Nat → Bool} {m : Nat} : ∀ n, m ≤ n → cntF (fun k => decide (k < m) && p k) 0 n = cntF p 0 m := by
  intro n
  induction n with
  | zero => intro h; have : m = 0 := by omega
            subst this; rfl
  | succ n ih =>
    intro h
    show cntF (fun k => decide (k < m) && p k) 0 n + (if (decide (0 + n < m) && p (0 + n)) = true then 1 else 0) = _
    by_cases e : m = n + 1
    · subst e
      rw [cntF_cong (q := p) n (fun k hk => by simp; omega)]
      show _ = cntF p 0 n + (if p (0 + n) = true then 1 else 0)
      simp
    · rw [ih (by omega), if_neg (by simp; omega)]; rfl
/-- a size: missing, or a number -/
def szOk (x : Int32) : Prop := x = -1 ∨ ∃ n, n ≤ 60 ∧ x = nI n
theorem sz_m1 {x : Int32} (h : szOk x) : (x = -1 ↔ x < 0) ∧ (x = -1 ↔ ¬ 0 ≤ x) := by
  rcases h with rfl | ⟨n, hn, rfl⟩
  · exact ⟨⟨fun _ => by decide, fun _ => rfl⟩, ⟨fun _ => by decide, fun _ => rfl⟩⟩
  · refine ⟨⟨fun q => absurd q (nI_nm1 (by omega)), fun q => absurd q (nneg (by omega))⟩, ⟨fun q => absurd q (nI_nm1 (by omega)), fun q => absurd (nI_pos' (by omega)) q⟩⟩
theorem kept_sz {σ τ : QS} {ns nc : Nat} (hk : KeptOk σ τ ns nc) {k : Nat} (h : k < 3) : gM σ 14 k = gM τ 51 (493 * (k + 1)) ∧ szOk (gM σ 14 k) := by
  rcases hk k h with ⟨x1, x2⟩ | ⟨m, x1, x2⟩
  · exact ⟨by rw [x1, x2], Or.inl x1⟩
  · exact ⟨by rw [x1, x2.2.1], Or.inr ⟨m, by have := x2.1; omega, x1⟩⟩
theorem row_sz {σ τ : QS} (h : RowsOk σ τ) {r : Nat} (hr : r < 6) : szOk (gM σ 10 r) := by
  rcases (h r hr).2 with x | ⟨n, x1, x2, -⟩
  · exact Or.inl x
  · exact Or.inr ⟨n, by omega, x2⟩
theorem text_sz {σ τ : QS} (h : TextsOk σ τ) {r : Nat} (hr : r < 4) : szOk (gM σ 12 r) := by
  rcases (h r hr).2 with x | ⟨n, x1, x2, -⟩
  · exact Or.inl x
  · exact Or.inr ⟨n, by omega, x2⟩
theorem countOf_same {σ τ : QS} (h : Inv σ τ) {w : Nat} (hw : w < 11) : SameR (fX4_countOf_0 (nI w) σ) (fX5_countOf_50 (nI w) τ) := by
  obtain ⟨ns, nc, pr, n, v, h2, hh, hn, h12, hv, hvo, hpr, hN, r0, rv⟩ := h.see
  have hns := hh.1
  have rows := h.1
  have texts := h.2.1
  have kept := h2.2.2.2
  have nn : ∀ k : Nat, k < 1000 → w ≠ k → ¬ nI w = nI k := fun k hk q => by rw [nI_e (by omega) (by omega)]; exact q
  unfold fX4_countOf_0 fX5_countOf_50
  by_cases w0 : w = 0
  · subst w0
    rw [if_pos (show nI 0 = (0 : Int32) from rfl), if_pos (show nI 0 = (0 : Int32) from rfl)]
    exact ⟨_, rfl, by rw [hh.2.2.2.1, hh.2.2.2.2.1]⟩
  rw [if_neg (show ¬ nI w = (0 : Int32) from nn 0 (by omega) w0), if_neg (show ¬ nI w = (0 : Int32) from nn 0 (by omega) w0)]
  by_cases w1 : w = 1
  · subst w1
    rw [if_pos (show nI 1 = (1 : Int32) from rfl), if_pos (show nI 1 = (1 : Int32) from rfl)]
    exact ⟨_, rfl, by rw [hh.2.2.2.2.2.1, hh.2.2.2.2.2.2.1]⟩
  rw [if_neg (show ¬ nI w = (1 : Int32) from nn 1 (by omega) w1), if_neg (show ¬ nI w = (1 : Int32) from nn 1 (by omega) w1)]
  by_cases w2 : w = 2
  · subst w2
    rw [if_pos (show nI 2 = (2 : Int32) from rfl), if_pos (show nI 2 = (2 : Int32) from rfl)]
    exact ⟨_, rfl, by rw [hN.1, ← rv 0 (by omega)]⟩
  rw [if_neg (show ¬ nI w = (2 : Int32) from nn 2 (by omega) w2), if_neg (show ¬ nI w = (2 : Int32) from nn 2 (by omega) w2)]
  by_cases w3 : w = 3
  · subst w3
    rw [if_pos (show nI 3 = (3 : Int32) from rfl), if_pos (show nI 3 = (3 : Int32) from rfl)]
    exact ⟨_, rfl, by rw [h12, r0]⟩
  rw [if_neg (show ¬ nI w = (3 : Int32) from nn 3 (by omega) w3), if_neg (show ¬ nI w = (3 : Int32) from nn 3 (by omega) w3)]
  by_cases w4 : w = 4
  · subst w4
    rw [if_pos (show nI 4 = (4 : Int32) from rfl), if_pos (show nI 4 = (4 : Int32) from rfl)]
    exact ⟨_, rfl, by rw [hN.2.1, ← rv 1 (by omega)]⟩
  rw [if_neg (show ¬ nI w = (4 : Int32) from nn 4 (by omega) w4), if_neg (show ¬ nI w = (4 : Int32) from nn 4 (by omega) w4)]
  by_cases w5 : w = 5
  · subst w5
    rw [if_pos (show nI 5 = (5 : Int32) from rfl), if_pos (show nI 5 = (5 : Int32) from rfl)]
    exact ⟨_, rfl, by rw [hN.2.2.1, ← rv 2 (by omega)]⟩
  rw [if_neg (show ¬ nI w = (5 : Int32) from nn 5 (by omega) w5), if_neg (show ¬ nI w = (5 : Int32) from nn 5 (by omega) w5)]
  by_cases w6 : w = 6
  · subst w6
    rw [if_pos (show nI 6 = (6 : Int32) from rfl), if_pos (show nI 6 = (6 : Int32) from rfl)]
    exact ⟨_, rfl, by rw [hN.2.2.2.2.1, ← rv 4 (by omega)]⟩
  rw [if_neg (show ¬ nI w = (6 : Int32) from nn 6 (by omega) w6), if_neg (show ¬ nI w = (6 : Int32) from nn 6 (by omega) w6)]
  by_cases w7 : w = 7
  · subst w7
    rw [if_pos (show nI 7 = (7 : Int32) from rfl), if_pos (show nI 7 = (7 : Int32) from rfl), clerkC_e hh, clerkR_e hh]
    exact ⟨_, rfl, rfl⟩
  rw [if_neg (show ¬ nI w = (7 : Int32) from nn 7 (by omega) w7), if_neg (show ¬ nI w = (7 : Int32) from nn 7 (by omega) w7)]
  by_cases w8 : w = 8
  · subst w8
    rw [if_pos (show nI 8 = (8 : Int32) from rfl), there1_e, show nI 8 = (8 : Int32) from rfl, thereR8_e]
    refine ⟨_, rfl, ?_⟩
    rw [Option.bind_some]
    congr 2
    refine cntF_cong _ (fun k hk => ?_)
    have q := (sz_m1 (row_sz rows (r := 0 + k) (by omega))).2
    rw [← (rows (0 + k) (by omega)).1]
    by_cases z : gM σ 10 (0 + k) = -1
    · have z2 := q.mp z; simp only [z2, z]; simp
    · have z2 : 0 ≤ gM σ 10 (0 + k) := Classical.byContradiction fun e => z (q.mpr e)
      rw [decide_eq_true z, decide_eq_true z2]
  rw [if_neg (show ¬ nI w = (8 : Int32) from nn 8 (by omega) w8)]
  by_cases w9 : w = 9
  · subst w9
    rw [if_pos (show nI 9 = (9 : Int32) from rfl), there2_e, show nI 9 = (9 : Int32) from rfl, thereR9_e, cntF_cut 6 (by omega)]
    refine ⟨_, rfl, ?_⟩
    rw [Option.bind_some]
    congr 2
    refine cntF_cong _ (fun k hk => ?_)
    have q := (sz_m1 (text_sz texts (r := 0 + k) (by omega))).1
    rw [← (texts (0 + k) (by omega)).1]
    by_cases z : gM σ 12 (0 + k) = -1
    · have z2 := q.mp z; simp only [z2, z]; simp
    · have z2 : ¬ gM σ 12 (0 + k) < 0 := fun e => z (q.mpr e)
      simp only [z, z2]
  rw [if_neg (show ¬ nI w = (9 : Int32) from nn 9 (by omega) w9)]
  have w10 : w = 10 := by omega
  subst w10
  rw [there3_e, show nI 10 = (10 : Int32) from rfl, thereR10_e, cntF_cut 6 (by omega)]
  refine ⟨_, rfl, ?_⟩
  rw [Option.bind_some]
  congr 2
  refine cntF_cong _ (fun k hk => ?_)
  have q := (sz_m1 (kept_sz kept (k := 0 + k) (by omega)).2).1
  rw [← (kept_sz kept (k := 0 + k) (by omega)).1]
  by_cases z : gM σ 14 (0 + k) = -1
  · have z2 := q.mp z; simp only [z2, z]; simp
  · have z2 : ¬ gM σ 14 (0 + k) < 0 := fun e => z (q.mpr e)
    simp only [z, z2]
theorem count_same {σ τ : QS} (h : Inv σ τ) (x : Int32) : SameR (fX4_count_0 x σ) (fX5_count_50 x τ) := by
  unfold fX4_count_0 fX5_count_50
  have e : fX5_in x.toInt64 (0 : Int64) (10 : Int64) = if x < 0 then 0 else if 10 < x then 0 else 1 := in_int x 0 10
  rw [e]
  by_cases c0 : x < 0
  · rw [if_pos c0, if_pos c0, if_pos rfl]
    exact ⟨_, rfl, rfl⟩
  · rw [if_neg c0, if_neg c0]
    by_cases c1 : x < 11
    · obtain ⟨m, hm, rfl⟩ := in_b (n := 11) (by omega) c0 c1
      rw [if_pos c1, if_neg (show ¬ (10 : Int32) < nI m from by show ¬ nI 10 < nI m; rw [nI_l2 (by omega) (by omega)]; omega), if_neg one_ne]
      obtain ⟨r, q1, q2⟩ := countOf_same h hm
      rw [q1, q2]
      exact ⟨r, rfl, rfl⟩
    · have c2 : (10 : Int32) < x := by
        rw [fa_lt]; rw [fa_lt] at c1
        have h7 : (10 : Int32).toInt = 10 := by decide
        have h8 : (11 : Int32).toInt = 11 := by decide
        omega
      rw [if_neg c1, if_pos c2, if_pos rfl]
      exact ⟨_, rfl, rfl⟩
def dgF (f : Nat → Int64) (h : Int64) : Nat → Int64
  | 0 => h
  | k + 1 => 31 * dgF f h k + f k
theorem dgF_cong {f g : Nat → Int64} {h : Int64} : ∀ n, (∀ k, k < n → f k = g k) → dgF f h n = dgF g h n
  | 0, _ => rfl
  | n + 1, q => by
    show 31 * dgF f h n + f n = 31 * dgF g h n + g n
    rw [dgF_cong n (fun k hk => q k (by omega)), q n (by omega)]
def rowD (sz : Nat → Int32) (it : Nat → Nat → Int32) (h : Int64) : Nat → Int64
  | 0 => h
  | r + 1 => dgF (fun i => (it r i).toInt64) (31 * rowD sz it h r + (sz r).toInt64) (sz r).toNatClampNeg
theorem rowD_cong {sz sz' : Nat → Int32} {it it' : Nat → Nat → Int32} {h : Int64} : ∀ n, (∀ r, r < n → sz r = sz' r ∧ ∀ k, k < (sz r).toNatClampNeg → it r k = it' r k) → rowD sz it h n = rowD sz' it' h n
  | 0, _ => rfl
  | n + 1, q => by
    show dgF _ (31 * rowD sz it h n + _) _ = dgF _ (31 * rowD sz' it' h n + _) _
    rw [rowD_cong n (fun k hk => q k (by omega)), ← (q n (by omega)).1]
    exact dgF_cong _ (fun k hk => by rw [(q n (by omega)).2 k hk])
theorem sz_le {x : Int32} (h : szOk x) {k : Nat} (hk : k < 1000) : x ≤ nI k ↔ x.toNatClampNeg ≤ k := by
  rcases h with rfl | ⟨n, hn, rfl⟩
  · constructor
    · intro _; rw [show (-1 : Int32).toNatClampNeg = 0 from by decide]; omega
    · intro _
      rw [fa_le, nI_toInt (by omega)]
      have : (-1 : Int32).toInt = -1 := by decide
      omega
  · rw [nI_L (by omega) (by omega), nI_c (by omega)]
theorem sz_b {x : Int32} (h : szOk x) : x.toNatClampNeg ≤ 60 := by
  rcases h with rfl | ⟨n, hn, rfl⟩
  · rw [show (-1 : Int32).toNatClampNeg = 0 from by decide]; omega
  · rw [nI_c (by omega)]; exact hn
theorem digFrom1_e {σ : QS} (hs : ∀ r, r < 6 → szOk (gM σ 10 r) ∧ (gM σ 10 r).toNatClampNeg ≤ 40) (x : Int64) : fX3_digestFrom_1 x σ = some (rowD (gM σ 10) (fun r i => gM σ (30 + r) i) x 6) := by
  unfold fX3_digestFrom_1
  refine for_fu (fun k => (rowD (gM σ 10) (fun r i => gM σ (30 + r) i) x k, nI k)) 6 rfl (by omega) ?_ ?_
  · intro r k hk
    simp only [lt_]
    obtain ⟨s1, s2⟩ := hs k hk
    have in1 : inb (nI k) 6 = true := inb_n hk (by omega)
    rw [if_neg (show ¬ (6 : Int32) ≤ nI k from by show ¬ nI 6 ≤ nI k; rw [nI_L (by omega) (by omega)]; omega), ck_t in1, nI_c (by omega)]
    refine for_fu (fun i => (dgF (fun i => (gM σ (30 + k) i).toInt64) (31 * rowD (gM σ 10) (fun r i => gM σ (30 + r) i) x k + (gM σ 10 k).toInt64) i, nI i)) (gM σ 10 k).toNatClampNeg rfl (by omega) ?_ ?_
    · intro r2 i hi
      simp only []
      rw [ck_t in1, if_neg (by rw [sz_le s1 (by omega)]; omega), ck_t in1, ck_t (inb_n (by omega) (by omega)), nI_c (by omega), nI_1]
      rfl
    · intro r2
      simp only []
      rw [ck_t in1, if_pos (by rw [sz_le s1 (by omega)]; omega), nI_1]
      rfl
  · intro r
    simp only []
    rw [if_pos (show (6 : Int32) ≤ nI 6 from by show nI 6 ≤ nI 6; rw [nI_L (by omega) (by omega)]; omega)]
theorem digFrom2_e {σ : QS} (hs : ∀ r, r < 4 → szOk (gM σ 12 r) ∧ (gM σ 12 r).toNatClampNeg ≤ 60) (x : Int64) : fX3_digestFrom_2 x σ = some (rowD (gM σ 12) (fun r i => gM σ (36 + r) i) x 4) := by
  unfold fX3_digestFrom_2
  refine for_fu (fun k => (rowD (gM σ 12) (fun r i => gM σ (36 + r) i) x k, nI k)) 4 rfl (by omega) ?_ ?_
  · intro r k hk
    simp only [lt_]
    obtain ⟨s1, s2⟩ := hs k hk
    have in1 : inb (nI k) 4 = true := inb_n hk (by omega)
    rw [if_neg (show ¬ (4 : Int32) ≤ nI k from by show ¬ nI 4 ≤ nI k; rw [nI_L (by omega) (by omega)]; omega), ck_t in1, nI_c (by omega)]
    refine for_fu (fun i => (dgF (fun i => (gM σ (36 + k) i).toInt64) (31 * rowD (gM σ 12) (fun r i => gM σ (36 + r) i) x k + (gM σ 12 k).toInt64) i, nI i)) (gM σ 12 k).toNatClampNeg rfl (by omega) ?_ ?_
    · intro r2 i hi
      simp only []
      rw [ck_t in1, if_neg (by rw [sz_le s1 (by omega)]; omega), ck_t in1, ck_t (inb_n (by omega) (by omega)), nI_c (by omega), nI_1]
      rfl
    · intro r2
      simp only []
      rw [ck_t in1, if_pos (by rw [sz_le s1 (by omega)]; omega), nI_1]
      rfl
  · intro r
    simp only []
    rw [if_pos (show (4 : Int32) ≤ nI 4 from by show nI 4 ≤ nI 4; rw [nI_L (by omega) (by omega)]; omega)]
theorem app_long {a : Int32} (h1 : -100 ≤ a.toInt) (h2 : a.toInt ≤ 100) (x : Int64) : x + ((1000 : Int32) + a).toInt64 = x + a.toInt64 + 1000 := by
  have e : ((1000 : Int32) + a).toInt64 = a.toInt64 + 1000 := by
    have t : (1000 : Int32).toInt = 1000 := by decide
    have t2 : (1000 : Int64).toInt = 1000 := by decide
    rw [fa_eq64, Int32.toInt_toInt64, fb_addI (by rw [t]; omega) (by rw [t]; omega), fb_addL (by rw [t2, Int32.toInt_toInt64]; omega) (by rw [t2, Int32.toInt_toInt64]; omega), Int32.toInt_toInt64, t, t2]
    omega
  rw [e, Int64.add_assoc]
theorem digest_same {σ τ : QS} (h : Inv σ τ) : ∃ r, fX4_digest_0 σ = some r ∧ fX5_digest_50 τ = some r := by
  obtain ⟨ns, nc, pr, n, v, h2, hh, hn, h12, hv, hvo, hpr, hN, r0, rv⟩ := h.see
  have hns := hh.1
  have hnc := hh.2.1
  have rows := h.1
  have texts := h.2.1
  have kept := h2.2.2.2
  have hcv : ∀ w, w < 11 → ∃ r, fX4_countOf_0 (nI w) σ = some r ∧ fX5_countOf_50 (nI w) τ = some r := fun w hw => countOf_same h hw
  have htv : ∀ k, k < 8 * ns → ∃ r, fX0_whatOfSitter_6 (nI (k / 8)) (nI (k % 8)) σ = some r ∧ fX5_toldOf_50 (nI (k / 8)) (nI (k % 8)) τ = some r := fun k hk => told_what h hh (by omega) (by omega)
  let cv : Nat → Int64 := fun w => ((fX5_countOf_50 (nI w) τ).getD 0).toInt64
  let tv : Nat → Int64 := fun k => ((fX5_toldOf_50 (nI (k / 8)) (nI (k % 8)) τ).getD 0).toInt64
  let lv : Nat → Int64 := fun k => (gM τ 52 k).toInt64
  let kv : Nat → Int64 := fun k => (gM τ 51 (493 * (k + 1))).toInt64
  let H1 : Int64 := 31 * dgF cv 17 11 + (gI σ 17).toInt64 + 1000
  let H2 : Int64 := dgF lv H1 nc
  let H3 : Int64 := dgF tv H2 (8 * ns)
  let H4 : Int64 := dgF kv H3 3
  have sR : ∀ r, r < 6 → szOk (gM σ 10 r) ∧ (gM σ 10 r).toNatClampNeg ≤ 40 := fun r hr => by
    refine ⟨row_sz rows hr, ?_⟩
    rcases (rows r hr).2 with x | ⟨m, x1, x2, -⟩
    · rw [x, show (-1 : Int32).toNatClampNeg = 0 from by decide]; omega
    · rw [x2, nI_c (by omega)]; exact x1
  have sT : ∀ r, r < 4 → szOk (gM σ 12 r) ∧ (gM σ 12 r).toNatClampNeg ≤ 60 := fun r hr => ⟨text_sz texts hr, sz_b (text_sz texts hr)⟩
  let H5 : Int64 := rowD (gM σ 10) (fun r i => gM σ (30 + r) i) H4 6
  let H6 : Int64 := rowD (gM σ 12) (fun r i => gM σ (36 + r) i) H5 4
  have e5 : H5 = rowD (gM τ 56) (fun r i => gM τ 57 (40 * r + i)) H4 6 := by
    refine rowD_cong 6 (fun r hr => ⟨(rows r hr).1, fun k hk => ?_⟩)
    rcases (rows r hr).2 with x | ⟨m, x1, x2, x3⟩
    · rw [x, show (-1 : Int32).toNatClampNeg = 0 from by decide] at hk; omega
    · rw [x2, nI_c (by omega)] at hk; exact x3 k hk
  have e6 : H6 = rowD (gM τ 58) (fun r i => gM τ 59 (60 * r + i)) H5 4 := by
    refine rowD_cong 4 (fun r hr => ⟨(texts r hr).1, fun k hk => ?_⟩)
    rcases (texts r hr).2 with x | ⟨m, x1, x2, x3⟩
    · rw [x, show (-1 : Int32).toNatClampNeg = 0 from by decide] at hk; omega
    · rw [x2, nI_c (by omega)] at hk; exact x3 k hk
  refine ⟨H6, ?_, ?_⟩
  · unfold fX4_digest_0
    refine for_fu (fun k => (dgF cv 17 k, nI k)) 11 rfl (by omega) ?_ ?_
    · intro r k hk
      simp only [lt_]
      obtain ⟨q, q1, q2⟩ := hcv k hk
      rw [if_neg (show ¬ (11 : Int32) ≤ nI k from by show ¬ nI 11 ≤ nI k; rw [nI_L (by omega) (by omega)]; omega), q1, Option.bind_some, nI_1]
      show _ = r (31 * dgF cv 17 k + ((fX5_countOf_50 (nI k) τ).getD 0).toInt64, nI (k + 1))
      rw [q2]
      rfl
    · intro r
      simp only [lt_]
      rw [if_pos (show (11 : Int32) ≤ nI 11 from by show nI 11 ≤ nI 11; rw [nI_L (by omega) (by omega)]; omega)]
      refine for_fu (fun k => (dgF lv H1 k, nI k)) nc rfl (by omega) ?_ ?_
      · intro r k hk
        simp only []
        rw [hh.2.2.2.2.2.1, if_neg (by rw [nI_L (by omega) (by omega)]; omega), ck_t (inb_n (by omega) (by omega)), nI_c (by omega), nI_1, (hh.2.2.2.2.2.2.2.1 k hk).1]
        rfl
      · intro r
        simp only []
        rw [hh.2.2.2.2.2.1, if_pos (by rw [nI_L (by omega) (by omega)]; omega)]
        refine for_fu (fun k => (dgF tv H2 (8 * k), nI k)) ns rfl (by omega) ?_ ?_
        · intro r k hk
          simp only []
          rw [hh.2.2.2.1, if_neg (by rw [nI_L (by omega) (by omega)]; omega)]
          refine for_fu (fun j => (dgF tv H2 (8 * k + j), nI j)) 8 rfl (by omega) ?_ ?_
          · intro r j hj
            simp only []
            obtain ⟨q, q1, q2⟩ := htv (8 * k + j) (by omega)
            rw [show (8 * k + j) / 8 = k by omega, show (8 * k + j) % 8 = j by omega] at q1
            rw [if_neg (show ¬ (8 : Int32) ≤ nI j from by show ¬ nI 8 ≤ nI j; rw [nI_L (by omega) (by omega)]; omega), q1, Option.bind_some, nI_1]
            show _ = r (31 * dgF tv H2 (8 * k + j) + ((fX5_toldOf_50 (nI ((8 * k + j) / 8)) (nI ((8 * k + j) % 8)) τ).getD 0).toInt64, nI (j + 1))
            rw [q2]
            rfl
          · intro r
            simp only []
            rw [if_pos (show (8 : Int32) ≤ nI 8 from by show nI 8 ≤ nI 8; rw [nI_L (by omega) (by omega)]; omega), nI_1]
            rfl
        · intro r
          simp only []
          rw [hh.2.2.2.1, if_pos (by rw [nI_L (by omega) (by omega)]; omega)]
          refine for_fu (fun k => (dgF kv H3 k, nI k)) 3 rfl (by omega) ?_ ?_
          · intro r k hk
            simp only []
            rw [if_neg (show ¬ (3 : Int32) ≤ nI k from by show ¬ nI 3 ≤ nI k; rw [nI_L (by omega) (by omega)]; omega), size3_e hk, Option.bind_some, nI_1, (kept_sz kept hk).1]
            rfl
          · intro r
            simp only []
            rw [if_pos (show (3 : Int32) ≤ nI 3 from by show nI 3 ≤ nI 3; rw [nI_L (by omega) (by omega)]; omega), digFrom1_e sR, Option.bind_some, digFrom2_e sT, Option.bind_some]
  · have ea : 31 * dgF cv 17 11 + (fX5_applause_50 τ).toInt64 = H1 := by
      show _ = 31 * dgF cv 17 11 + (gI σ 17).toInt64 + 1000
      unfold fX5_applause_50
      obtain ⟨⟨s, s1, s2, s3, s4, -⟩, -⟩ := hvo
      have e4r : gM τ 51 4 = v 3 := by rw [← rv 3 (by omega)]
      rw [e4r, hN.2.2.2.1]
      exact app_long (by omega) (by omega) _
    unfold fX5_digest_50
    refine for_fu (fun k => (dgF cv 17 k, nI k)) 11 rfl (by omega) ?_ ?_
    · intro r k hk
      simp only [lt_]
      obtain ⟨q, q1, q2⟩ := hcv k hk
      rw [if_neg (show ¬ (11 : Int32) ≤ nI k from by show ¬ nI 11 ≤ nI k; rw [nI_L (by omega) (by omega)]; omega), q2, Option.bind_some, nI_1]
      show _ = r (31 * dgF cv 17 k + ((fX5_countOf_50 (nI k) τ).getD 0).toInt64, nI (k + 1))
      rw [q2]
      rfl
    · intro r
      simp only [lt_]
      rw [if_pos (show (11 : Int32) ≤ nI 11 from by show nI 11 ≤ nI 11; rw [nI_L (by omega) (by omega)]; omega), ea]
      refine for_fu (fun k => (dgF lv H1 k, nI k)) nc rfl (by omega) ?_ ?_
      · intro r k hk
        simp only []
        rw [hh.2.2.2.2.2.2.1, if_neg (by rw [nI_L (by omega) (by omega)]; omega), ck_t (inb_n (by omega) (by omega)), nI_c (by omega), nI_1]
        rfl
      · intro r
        simp only []
        rw [hh.2.2.2.2.2.2.1, if_pos (by rw [nI_L (by omega) (by omega)]; omega)]
        refine for_fu (fun k => (dgF tv H2 k, nI k)) (8 * ns) rfl (by omega) ?_ ?_
        · intro r k hk
          simp only []
          obtain ⟨q, q1, q2⟩ := htv k hk
          have m8 : (8 : Int32) * nI ns = nI (8 * ns) := by show nI 8 * nI ns = _; rw [pk_mul]
          have d8 : nI k / (8 : Int32) = nI (k / 8) := by show nI k / nI 8 = _; rw [pk_div (by omega) (by omega) (by omega)]
          have e8 : nI k - nI k / (8 : Int32) * (8 : Int32) = nI (k % 8) := by show nI k - nI k / nI 8 * nI 8 = _; rw [pk_rem (by omega) (by omega) (by omega)]
          rw [hh.2.2.2.2.1, m8, if_neg (by rw [nI_L (by omega) (by omega)]; omega), e8, d8, q2, Option.bind_some, nI_1]
          show _ = r (31 * dgF tv H2 k + ((fX5_toldOf_50 (nI (k / 8)) (nI (k % 8)) τ).getD 0).toInt64, nI (k + 1))
          rw [q2]
          rfl
        · intro r
          simp only []
          have m8 : (8 : Int32) * nI ns = nI (8 * ns) := by show nI 8 * nI ns = _; rw [pk_mul]
          rw [hh.2.2.2.2.1, m8, if_pos (by rw [nI_L (by omega) (by omega)]; omega)]
          refine for_fu (fun k => (dgF kv H3 k, nI (k + 1))) 3 rfl (by omega) ?_ ?_
          · intro r k hk
            simp only []
            have i1 : (493 : Int32) * nI (k + 1) + 0 = nI (493 * (k + 1)) := by show nI 493 * nI (k + 1) + 0 = _; rw [pk_mul, Int32.add_zero]
            rw [if_neg (show ¬ (4 : Int32) ≤ nI (k + 1) from by show ¬ nI 4 ≤ nI (k + 1); rw [nI_L (by omega) (by omega)]; omega), i1, ck_t (inb_n (by omega) (by omega)), nI_c (by omega), nI_1]
            rfl
          · intro r
            simp only []
            rw [if_pos (show (4 : Int32) ≤ nI (3 + 1) from by show nI 4 ≤ nI 4; rw [nI_L (by omega) (by omega)]; omega)]
            rw [e6]
            refine for_fu (fun k => (rowD (gM τ 56) (fun r i => gM τ 57 (40 * r + i)) H4 k, nI k)) 6 rfl (by omega) ?_ ?_
            · intro r k hk
              simp only []
              obtain ⟨s1, s2⟩ := sR k hk
              rw [(rows k hk).1] at s1 s2
              have in1 : inb (nI k) 6 = true := inb_n hk (by omega)
              rw [if_neg (show ¬ (6 : Int32) ≤ nI k from by show ¬ nI 6 ≤ nI k; rw [nI_L (by omega) (by omega)]; omega), ck_t in1, nI_c (by omega)]
              refine for_fu (fun i => (dgF (fun i => (gM τ 57 (40 * k + i)).toInt64) (31 * rowD (gM τ 56) (fun r i => gM τ 57 (40 * r + i)) H4 k + (gM τ 56 k).toInt64) i, nI i)) (gM τ 56 k).toNatClampNeg rfl (by omega) ?_ ?_
              · intro r2 i hi
                simp only []
                rw [ck_t in1, if_neg (by rw [sz_le s1 (by omega)]; omega), idx40, ck_t (inb_n (by omega) (by omega)), nI_c (by omega), nI_1]
                rfl
              · intro r2
                simp only []
                rw [ck_t in1, if_pos (by rw [sz_le s1 (by omega)]; omega), nI_1]
                rfl
            · intro r
              simp only []
              rw [if_pos (show (6 : Int32) ≤ nI 6 from by show nI 6 ≤ nI 6; rw [nI_L (by omega) (by omega)]; omega), ← e5]
              refine for_fu (fun k => (rowD (gM τ 58) (fun r i => gM τ 59 (60 * r + i)) H5 k, nI k)) 4 rfl (by omega) ?_ ?_
              · intro r k hk
                simp only []
                obtain ⟨s1, s2⟩ := sT k hk
                rw [(texts k hk).1] at s1 s2
                have in1 : inb (nI k) 4 = true := inb_n hk (by omega)
                rw [if_neg (show ¬ (4 : Int32) ≤ nI k from by show ¬ nI 4 ≤ nI k; rw [nI_L (by omega) (by omega)]; omega), ck_t in1, nI_c (by omega)]
                refine for_fu (fun i => (dgF (fun i => (gM τ 59 (60 * k + i)).toInt64) (31 * rowD (gM τ 58) (fun r i => gM τ 59 (60 * r + i)) H5 k + (gM τ 58 k).toInt64) i, nI i)) (gM τ 58 k).toNatClampNeg rfl (by omega) ?_ ?_
                · intro r2 i hi
                  simp only []
                  rw [ck_t in1, if_neg (by rw [sz_le s1 (by omega)]; omega), idx60, ck_t (inb_n (by omega) (by omega)), nI_c (by omega), nI_1]
                  rfl
                · intro r2
                  simp only []
                  rw [ck_t in1, if_pos (by rw [sz_le s1 (by omega)]; omega), nI_1]
                  rfl
              · intro r
                simp only []
                rw [if_pos (show (4 : Int32) ≤ nI 4 from by show nI 4 ≤ nI 4; rw [nI_L (by omega) (by omega)]; omega)]
