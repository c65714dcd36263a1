theorem nI_nm1 {n : Nat} (h : n < 1000000) : ¬ nI n = -1 := by
  intro e
  have := nneg h
  rw [e] at this
  exact this (by decide)
theorem m1_neg : (-1 : Int32) < 0 := by decide
theorem isPlace1_bad {r : Int32} (h : r < 0 ∨ nI 6 ≤ r) (σ : QS) : fX3_isPlace_1 r σ = 0 := by
  unfold fX3_isPlace_1
  rcases h with h | h
  · rw [if_pos h]
  · by_cases c : r < 0
    · rw [if_pos c]
    · rw [if_neg c, if_pos (show (6 : Int32) ≤ r from h)]
theorem isPlace1_good {j : Nat} (h : j < 6) (σ : QS) : fX3_isPlace_1 (nI j) σ = 1 := by
  unfold fX3_isPlace_1
  rw [if_neg (nneg (by omega)), if_neg (show ¬ (6 : Int32) ≤ nI j from by show ¬ nI 6 ≤ nI j; rw [nI_L (by omega) (by omega)]; omega)]
theorem size1_e {j : Nat} (h : j < 6) (σ : QS) : fX3_size_1 (nI j) σ = some (gM σ 10 j) := by
  unfold fX3_size_1
  rw [isPlace1_good h, if_neg one_ne, ck_t (inb_n h (by omega)), nI_c (by omega)]
theorem has1_e {j : Nat} (h : j < 6) (σ : QS) : fX3_has_1 (nI j) σ = some (if gM σ 10 j = -1 then 0 else 1) := by
  unfold fX3_has_1
  rw [size1_e h]
  show (if gM σ 10 j = (-1 : Int32) then some (0 : Int32) else some 1) = _
  by_cases c : gM σ 10 j = -1
  · rw [if_pos c, if_pos c]
  · rw [if_neg c, if_neg c]
theorem holds1_e {j : Nat} (h : j < 6) (x : Int32) (σ : QS) : fX3_holds_1 (nI j) x σ = some (if x < 0 then 0 else if gM σ 10 j ≤ x then 0 else 1) := by
  unfold fX3_holds_1
  rw [isPlace1_good h, if_neg one_ne]
  by_cases c : x < 0
  · rw [if_pos c, if_pos c]
  · rw [if_neg c, if_neg c, ck_t (inb_n h (by omega)), nI_c (by omega)]
    by_cases c2 : gM σ 10 j ≤ x
    · rw [if_pos c2, if_pos c2]
    · rw [if_neg c2, if_neg c2]
theorem get1_out {j : Nat} (h : j < 6) {x : Int32} {σ : QS} (hx : x < 0 ∨ gM σ 10 j ≤ x) : fX3_get_1 (nI j) x σ = some 0 := by
  unfold fX3_get_1
  rw [holds1_e h]
  by_cases c : x < 0
  · rw [if_pos c]; rfl
  · rcases hx with hx | hx
    · exact absurd hx c
    · rw [if_neg c, if_pos hx]; rfl
theorem get1_in {j n k : Nat} (h : j < 6) {σ : QS} (hs : gM σ 10 j = nI n) (hn : n ≤ 40) (hk : k < n) : fX3_get_1 (nI j) (nI k) σ = some (gM σ (30 + j) k) := by
  unfold fX3_get_1
  rw [holds1_e h, hs, if_neg (nneg (by omega)), if_neg (by rw [nI_L (by omega) (by omega)]; omega)]
  rw [Option.bind_some, if_neg one_ne, ck_t (inb_n h (by omega)), ck_t (inb_n (show k < 40 by omega) (by omega)), nI_c (by omega), nI_c (by omega)]
theorem set1_in {j n k : Nat} (h : j < 6) {σ : QS} (hs : gM σ 10 j = nI n) (hn : n ≤ 40) (hk : k < n) (v : Int32) : fX3_set_1 (nI j) (nI k) v σ = some (pM σ (30 + j) (upd (gM σ (30 + j)) k v)) := by
  unfold fX3_set_1
  rw [holds1_e h, hs, if_neg (nneg (by omega)), if_neg (by rw [nI_L (by omega) (by omega)]; omega)]
  rw [Option.bind_some, if_neg one_ne, ck_t (inb_n h (by omega)), ck_t (inb_n (show k < 40 by omega) (by omega)), nI_c (by omega), nI_c (by omega)]
  rfl
theorem make1_e {j n : Nat} (h : j < 6) (hn : n ≤ 40) (v : Int32) (σ : QS) : fX3_make_1 (nI j) (nI n) v σ = some (pM (pM σ 10 (upd (gM σ 10) j (nI n))) (30 + j) (fun q => if q < 40 then v else gM σ (30 + j) q)) := by
  unfold fX3_make_1
  rw [isPlace1_good h, if_neg one_ne, if_neg (nneg (by omega)), ck_t (inb_n h (by omega)), if_neg (show ¬ (40 : Int32) < nI n from by show ¬ nI 40 < nI n; rw [nI_l2 (by omega) (by omega)]; omega), ck_t (inb_n h (by omega))]
  simp only [lt_]
  rw [ck_t (inb_n h (by omega)), nI_c (by omega), fill_e _ _ (by omega), gM_ne (show 30 + j ≠ 10 by omega)]
  rfl
theorem drop1_e {j : Nat} (h : j < 6) (σ : QS) : fX3_drop_1 (nI j) σ = some (pM σ 10 (upd (gM σ 10) j (-1))) := by
  unfold fX3_drop_1
  rw [isPlace1_good h, if_neg one_ne, ck_t (inb_n h (by omega)), nI_c (by omega)]
  rfl
theorem rop1_bad {r : Int32} (h : r < 0 ∨ nI 6 ≤ r) (σ : QS) : fX4_refusalOfPlace_0_1 r σ = some (-1, σ) := by
  unfold fX4_refusalOfPlace_0_1
  rw [isPlace1_bad h, if_pos rfl]
theorem rop1_no {j : Nat} (h : j < 6) {σ : QS} (hs : gM σ 10 j = -1) : fX4_refusalOfPlace_0_1 (nI j) σ = (fX4_refuse_0 1 σ).bind (fun q => some (q.1, q.2)) := by
  unfold fX4_refusalOfPlace_0_1
  rw [isPlace1_good h, if_neg one_ne, has1_e h, if_pos hs]
  rfl
theorem rop1_yes {j n : Nat} (h : j < 6) {σ : QS} (hs : gM σ 10 j = nI n) (hn : n ≤ 40) : fX4_refusalOfPlace_0_1 (nI j) σ = some (0, σ) := by
  unfold fX4_refusalOfPlace_0_1
  rw [isPlace1_good h, if_neg one_ne, has1_e h, if_neg (by rw [hs]; exact nI_nm1 (by omega))]
  rfl
theorem isPlace2_bad {r : Int32} (h : r < 0 ∨ nI 4 ≤ r) (σ : QS) : fX3_isPlace_2 r σ = 0 := by
  unfold fX3_isPlace_2
  rcases h with h | h
  · rw [if_pos h]
  · by_cases c : r < 0
    · rw [if_pos c]
    · rw [if_neg c, if_pos (show (4 : Int32) ≤ r from h)]
theorem isPlace2_good {j : Nat} (h : j < 4) (σ : QS) : fX3_isPlace_2 (nI j) σ = 1 := by
  unfold fX3_isPlace_2
  rw [if_neg (nneg (by omega)), if_neg (show ¬ (4 : Int32) ≤ nI j from by show ¬ nI 4 ≤ nI j; rw [nI_L (by omega) (by omega)]; omega)]
theorem size2_e {j : Nat} (h : j < 4) (σ : QS) : fX3_size_2 (nI j) σ = some (gM σ 12 j) := by
  unfold fX3_size_2
  rw [isPlace2_good h, if_neg one_ne, ck_t (inb_n h (by omega)), nI_c (by omega)]
theorem has2_e {j : Nat} (h : j < 4) (σ : QS) : fX3_has_2 (nI j) σ = some (if gM σ 12 j = -1 then 0 else 1) := by
  unfold fX3_has_2
  rw [size2_e h]
  show (if gM σ 12 j = (-1 : Int32) then some (0 : Int32) else some 1) = _
  by_cases c : gM σ 12 j = -1
  · rw [if_pos c, if_pos c]
  · rw [if_neg c, if_neg c]
theorem holds2_e {j : Nat} (h : j < 4) (x : Int32) (σ : QS) : fX3_holds_2 (nI j) x σ = some (if x < 0 then 0 else if gM σ 12 j ≤ x then 0 else 1) := by
  unfold fX3_holds_2
  rw [isPlace2_good h, if_neg one_ne]
  by_cases c : x < 0
  · rw [if_pos c, if_pos c]
  · rw [if_neg c, if_neg c, ck_t (inb_n h (by omega)), nI_c (by omega)]
    by_cases c2 : gM σ 12 j ≤ x
    · rw [if_pos c2, if_pos c2]
    · rw [if_neg c2, if_neg c2]
theorem get2_out {j : Nat} (h : j < 4) {x : Int32} {σ : QS} (hx : x < 0 ∨ gM σ 12 j ≤ x) : fX3_get_2 (nI j) x σ = some 0 := by
  unfold fX3_get_2
  rw [holds2_e h]
  by_cases c : x < 0
  · rw [if_pos c]; rfl
  · rcases hx with hx | hx
    · exact absurd hx c
    · rw [if_neg c, if_pos hx]; rfl
theorem get2_in {j n k : Nat} (h : j < 4) {σ : QS} (hs : gM σ 12 j = nI n) (hn : n ≤ 60) (hk : k < n) : fX3_get_2 (nI j) (nI k) σ = some (gM σ (36 + j) k) := by
  unfold fX3_get_2
  rw [holds2_e h, hs, if_neg (nneg (by omega)), if_neg (by rw [nI_L (by omega) (by omega)]; omega)]
  rw [Option.bind_some, if_neg one_ne, ck_t (inb_n h (by omega)), ck_t (inb_n (show k < 60 by omega) (by omega)), nI_c (by omega), nI_c (by omega)]
theorem set2_in {j n k : Nat} (h : j < 4) {σ : QS} (hs : gM σ 12 j = nI n) (hn : n ≤ 60) (hk : k < n) (v : Int32) : fX3_set_2 (nI j) (nI k) v σ = some (pM σ (36 + j) (upd (gM σ (36 + j)) k v)) := by
  unfold fX3_set_2
  rw [holds2_e h, hs, if_neg (nneg (by omega)), if_neg (by rw [nI_L (by omega) (by omega)]; omega)]
  rw [Option.bind_some, if_neg one_ne, ck_t (inb_n h (by omega)), ck_t (inb_n (show k < 60 by omega) (by omega)), nI_c (by omega), nI_c (by omega)]
  rfl
theorem make2_e {j n : Nat} (h : j < 4) (hn : n ≤ 60) (v : Int32) (σ : QS) : fX3_make_2 (nI j) (nI n) v σ = some (pM (pM σ 12 (upd (gM σ 12) j (nI n))) (36 + j) (fun q => if q < 60 then v else gM σ (36 + j) q)) := by
  unfold fX3_make_2
  rw [isPlace2_good h, if_neg one_ne, if_neg (nneg (by omega)), ck_t (inb_n h (by omega)), if_neg (show ¬ (60 : Int32) < nI n from by show ¬ nI 60 < nI n; rw [nI_l2 (by omega) (by omega)]; omega), ck_t (inb_n h (by omega))]
  simp only [lt_]
  rw [ck_t (inb_n h (by omega)), nI_c (by omega), fill_e _ _ (by omega), gM_ne (show 36 + j ≠ 12 by omega)]
  rfl
theorem rop2_bad {r : Int32} (h : r < 0 ∨ nI 4 ≤ r) (σ : QS) : fX4_refusalOfPlace_0_2 r σ = some (-1, σ) := by
  unfold fX4_refusalOfPlace_0_2
  rw [isPlace2_bad h, if_pos rfl]
theorem rop2_no {j : Nat} (h : j < 4) {σ : QS} (hs : gM σ 12 j = -1) : fX4_refusalOfPlace_0_2 (nI j) σ = (fX4_refuse_0 1 σ).bind (fun q => some (q.1, q.2)) := by
  unfold fX4_refusalOfPlace_0_2
  rw [isPlace2_good h, if_neg one_ne, has2_e h, if_pos hs]
  rfl
theorem rop2_yes {j n : Nat} (h : j < 4) {σ : QS} (hs : gM σ 12 j = nI n) (hn : n ≤ 60) : fX4_refusalOfPlace_0_2 (nI j) σ = some (0, σ) := by
  unfold fX4_refusalOfPlace_0_2
  rw [isPlace2_good h, if_neg one_ne, has2_e h, if_neg (by rw [hs]; exact nI_nm1 (by omega))]
  rfl
theorem isPlace3_bad {r : Int32} (h : r < 0 ∨ nI 3 ≤ r) (σ : QS) : fX3_isPlace_3 r σ = 0 := by
  unfold fX3_isPlace_3
  rcases h with h | h
  · rw [if_pos h]
  · by_cases c : r < 0
    · rw [if_pos c]
    · rw [if_neg c, if_pos (show (3 : Int32) ≤ r from h)]
theorem isPlace3_good {j : Nat} (h : j < 3) (σ : QS) : fX3_isPlace_3 (nI j) σ = 1 := by
  unfold fX3_isPlace_3
  rw [if_neg (nneg (by omega)), if_neg (show ¬ (3 : Int32) ≤ nI j from by show ¬ nI 3 ≤ nI j; rw [nI_L (by omega) (by omega)]; omega)]
theorem size3_e {j : Nat} (h : j < 3) (σ : QS) : fX3_size_3 (nI j) σ = some (gM σ 14 j) := by
  unfold fX3_size_3
  rw [isPlace3_good h, if_neg one_ne, ck_t (inb_n h (by omega)), nI_c (by omega)]
theorem has3_e {j : Nat} (h : j < 3) (σ : QS) : fX3_has_3 (nI j) σ = some (if gM σ 14 j = -1 then 0 else 1) := by
  unfold fX3_has_3
  rw [size3_e h]
  show (if gM σ 14 j = (-1 : Int32) then some (0 : Int32) else some 1) = _
  by_cases c : gM σ 14 j = -1
  · rw [if_pos c, if_pos c]
  · rw [if_neg c, if_neg c]
theorem holds3_e {j : Nat} (h : j < 3) (x : Int32) (σ : QS) : fX3_holds_3 (nI j) x σ = some (if x < 0 then 0 else if gM σ 14 j ≤ x then 0 else 1) := by
  unfold fX3_holds_3
  rw [isPlace3_good h, if_neg one_ne]
  by_cases c : x < 0
  · rw [if_pos c, if_pos c]
  · rw [if_neg c, if_neg c, ck_t (inb_n h (by omega)), nI_c (by omega)]
    by_cases c2 : gM σ 14 j ≤ x
    · rw [if_pos c2, if_pos c2]
    · rw [if_neg c2, if_neg c2]
theorem get3_out {j : Nat} (h : j < 3) {x : Int32} {σ : QS} (hx : x < 0 ∨ gM σ 14 j ≤ x) : fX3_get_3 (nI j) x σ = some 0 := by
  unfold fX3_get_3
  rw [holds3_e h]
  by_cases c : x < 0
  · rw [if_pos c]; rfl
  · rcases hx with hx | hx
    · exact absurd hx c
    · rw [if_neg c, if_pos hx]; rfl
theorem get3_in {j n k : Nat} (h : j < 3) {σ : QS} (hs : gM σ 14 j = nI n) (hn : n ≤ 40) (hk : k < n) : fX3_get_3 (nI j) (nI k) σ = some (gM σ (40 + j) k) := by
  unfold fX3_get_3
  rw [holds3_e h, hs, if_neg (nneg (by omega)), if_neg (by rw [nI_L (by omega) (by omega)]; omega)]
  rw [Option.bind_some, if_neg one_ne, ck_t (inb_n h (by omega)), ck_t (inb_n (show k < 40 by omega) (by omega)), nI_c (by omega), nI_c (by omega)]
theorem set3_in {j n k : Nat} (h : j < 3) {σ : QS} (hs : gM σ 14 j = nI n) (hn : n ≤ 40) (hk : k < n) (v : Int32) : fX3_set_3 (nI j) (nI k) v σ = some (pM σ (40 + j) (upd (gM σ (40 + j)) k v)) := by
  unfold fX3_set_3
  rw [holds3_e h, hs, if_neg (nneg (by omega)), if_neg (by rw [nI_L (by omega) (by omega)]; omega)]
  rw [Option.bind_some, if_neg one_ne, ck_t (inb_n h (by omega)), ck_t (inb_n (show k < 40 by omega) (by omega)), nI_c (by omega), nI_c (by omega)]
  rfl
theorem make3_e {j n : Nat} (h : j < 3) (hn : n ≤ 40) (v : Int32) (σ : QS) : fX3_make_3 (nI j) (nI n) v σ = some (pM (pM σ 14 (upd (gM σ 14) j (nI n))) (40 + j) (fun q => if q < 40 then v else gM σ (40 + j) q)) := by
  unfold fX3_make_3
  rw [isPlace3_good h, if_neg one_ne, if_neg (nneg (by omega)), ck_t (inb_n h (by omega)), if_neg (show ¬ (40 : Int32) < nI n from by show ¬ nI 40 < nI n; rw [nI_l2 (by omega) (by omega)]; omega), ck_t (inb_n h (by omega))]
  simp only [lt_]
  rw [ck_t (inb_n h (by omega)), nI_c (by omega), fill_e _ _ (by omega), gM_ne (show 40 + j ≠ 14 by omega)]
  rfl
theorem drop3_e {j : Nat} (h : j < 3) (σ : QS) : fX3_drop_3 (nI j) σ = some (pM σ 14 (upd (gM σ 14) j (-1))) := by
  unfold fX3_drop_3
  rw [isPlace3_good h, if_neg one_ne, ck_t (inb_n h (by omega)), nI_c (by omega)]
  rfl
theorem rop3_bad {r : Int32} (h : r < 0 ∨ nI 3 ≤ r) (σ : QS) : fX4_refusalOfPlace_0_3 r σ = some (-1, σ) := by
  unfold fX4_refusalOfPlace_0_3
  rw [isPlace3_bad h, if_pos rfl]
theorem rop3_no {j : Nat} (h : j < 3) {σ : QS} (hs : gM σ 14 j = -1) : fX4_refusalOfPlace_0_3 (nI j) σ = (fX4_refuse_0 1 σ).bind (fun q => some (q.1, q.2)) := by
  unfold fX4_refusalOfPlace_0_3
  rw [isPlace3_good h, if_neg one_ne, has3_e h, if_pos hs]
  rfl
theorem rop3_yes {j n : Nat} (h : j < 3) {σ : QS} (hs : gM σ 14 j = nI n) (hn : n ≤ 40) : fX4_refusalOfPlace_0_3 (nI j) σ = some (0, σ) := by
  unfold fX4_refusalOfPlace_0_3
  rw [isPlace3_good h, if_neg one_ne, has3_e h, if_neg (by rw [hs]; exact nI_nm1 (by omega))]
  rfl
