/-! ===== notices: frights, kinds ===== -/
def noB (l a z : Int32) : Bool := !decide (l < 1) && !decide (9 < l) && !decide (a < -9) && !decide (20 < a) && !decide (z < 0) && decide (z ≤ 1)
theorem noC {α : Type} (l a z : Int32) (A B : α) : (if l < (1 : Int32) then B else (if (9 : Int32) < l then B else (if a < (-9 : Int32) then B else (if (20 : Int32) < a then B else (if z < 0 then B else (if z ≤ (1 : Int32) then A else B)))))) = if noB l a z = true then A else B := by
  unfold noB
  by_cases c1 : l < 1
  · simp [c1]
  · by_cases c2 : (9 : Int32) < l
    · simp [c1, c2]
    · by_cases c3 : a < -9
      · simp [c1, c2, c3]
      · by_cases c4 : (20 : Int32) < a
        · simp [c1, c2, c3, c4]
        · by_cases c5 : z < 0
          · simp [c1, c2, c3, c4, c5]
          · by_cases c6 : z ≤ 1
            · simp [c1, c2, c3, c4, c5, c6]
            · simp [c1, c2, c3, c4, c5, c6]
theorem in19 (x : Int32) : fX5_in x.toInt64 (1 : Int64) (9 : Int64) = if x < 1 then 0 else if 9 < x then 0 else 1 := in_int x 1 9
theorem in920 (x : Int32) : fX5_in x.toInt64 (-9 : Int64) (20 : Int64) = if x < -9 then 0 else if 20 < x then 0 else 1 := in_int x (-9) 20
theorem in01 (x : Int32) : fX5_in x.toInt64 (0 : Int64) (1 : Int64) = if x < 0 then 0 else if 1 < x then 0 else 1 := in_int x 0 1
theorem in_if {α : Type} {x a b : Int32} (A B : α) : (if (if x < a then (0 : Int32) else if b < x then 0 else 1) = 0 then A else B) = if (x < a ∨ b < x) then A else B := by
  by_cases c1 : x < a
  · simp [c1]
  · by_cases c2 : b < x
    · simp [c1, c2]
    · simp [c1, c2]
theorem noR {α : Type} (l a z : Int32) (A B : α) : (if (fX5_in l.toInt64 (1 : Int64) (9 : Int64)) = 0 then B else (if (fX5_in a.toInt64 (-9 : Int64) (20 : Int64)) = 0 then B else (if (fX5_in z.toInt64 (0 : Int64) (1 : Int64)) = 0 then B else A))) = if noB l a z = true then A else B := by
  rw [in19, in920, in01, in_if, in_if, in_if]
  unfold noB
  have z1 : z ≤ 1 ↔ ¬ 1 < z := by rw [fa_le, fa_lt]; omega
  by_cases c1 : l < 1
  · simp [c1]
  · by_cases c2 : (9 : Int32) < l
    · simp [c1, c2]
    · by_cases c3 : a < -9
      · simp [c1, c2, c3]
      · by_cases c4 : (20 : Int32) < a
        · simp [c1, c2, c3, c4]
        · by_cases c5 : z < 0
          · simp [c1, c2, c3, c4, c5]
          · by_cases c6 : 1 < z
            · simp [c1, c2, c3, c4, c5, c6, z1]
            · simp [c1, c2, c3, c4, c5, c6, z1]
def allB (p : Nat → Bool) : Nat → Bool
  | 0 => true
  | k + 1 => allB p k && p k
theorem allB_s (p : Nat → Bool) (k : Nat) : allB p (k + 1) = (allB p k && p k) := rfl
theorem allB_cong {p q : Nat → Bool} : ∀ n, (∀ k, k < n → p k = q k) → allB p n = allB q n
  | 0, _ => rfl
  | n + 1, h => by rw [allB_s, allB_s, allB_cong n (fun k hk => h k (by omega)), h n (by omega)]
theorem allB_t {p : Nat → Bool} : ∀ {n : Nat}, allB p n = true ↔ ∀ k, k < n → p k = true
  | 0 => ⟨fun _ k hk => absurd hk (Nat.not_lt_zero k), fun _ => rfl⟩
  | n + 1 => by
    have ih := allB_t (p := p) (n := n)
    unfold allB
    rw [Bool.and_eq_true, ih]
    constructor
    · rintro ⟨a, b⟩ k hk
      by_cases e : k = n
      · rw [e]; exact b
      · exact a k (by omega)
    · intro a
      exact ⟨fun k hk => a k (by omega), a n (by omega)⟩
theorem allB_f {p : Nat → Bool} {n : Nat} (h : allB p n = false) : ∃ k, k < n ∧ p k = false ∧ ∀ j, j < k → p j = true := by
  have h2 : ∃ k, k < n ∧ p k = false := by
    refine Classical.byContradiction fun hx => ?_
    have : allB p n = true := allB_t.mpr (fun k hk => by
      cases e : p k
      · exact absurd ⟨k, hk, e⟩ hx
      · rfl)
    rw [this] at h
    cases h
  obtain ⟨i, i1, i2, i3⟩ := fb_first (p := fun k => p k = false) h2
  exact ⟨i, i1, i2, fun j hj => by
    cases e : p j
    · exact absurd e (i3 j hj)
    · rfl⟩
/-- a loop that is left at the first place that does not do -/
theorem for_all {α β : Type} {B : (α → Option β) → α → Option β} (A : Nat → α) (p : Nat → Bool) (N : Nat) {yes no : Option β} {a : α} (ha : a = A 0) (hN : N < 1000000) (hs : ∀ (r : α → Option β) (k : Nat), k < N → B r (A k) = if p k = true then r (A (k + 1)) else no) (hx : ∀ r : α → Option β, B r (A N) = yes) : lp_ B FV a = if allB p N = true then yes else no := by
  cases e : allB p N
  · obtain ⟨k, k1, k2, k3⟩ := allB_f e
    rw [if_neg (by decide)]
    exact for_fu A k ha (by omega) (fun r j hj => by rw [hs r j (by omega), if_pos (k3 j hj)]) (fun r => by rw [hs r k k1, k2, if_neg (by decide)])
  · rw [if_pos rfl]
    exact for_fu A N ha hN (fun r j hj => by rw [hs r j hj, if_pos (allB_t.mp e j hj)]) hx
theorem nI_p2 (k : Nat) : nI k + (2 : Int32) = nI (k + 2) := nI_add k 2
theorem nI_p3 (k : Nat) : nI k + (3 : Int32) = nI (k + 3) := nI_add k 3
theorem areC_e {j n m : Nat} (hj : j < 6) {σ : QS} (hs : gM σ 10 j = nI n) (hn : n ≤ 40) (hm : n = 3 * m) : fX4_areNotices_0 (nI j) σ = if allB (fun k => noB (gM σ (30 + j) (3 * k)) (gM σ (30 + j) (3 * k + 1)) (gM σ (30 + j) (3 * k + 2))) m = true then some 1 else some 0 := by
  unfold fX4_areNotices_0
  refine for_all (fun k => nI (3 * k)) _ m rfl (by omega) ?_ ?_
  · intro r k hk
    rw [size1_e hj, Option.bind_some, hs, nI_p2, nI_p3, if_neg (by rw [nI_L (by omega) (by omega)]; omega), get1_in hj hs hn (by omega), Option.bind_some, nI_1, get1_in hj hs hn (by omega), Option.bind_some, get1_in hj hs hn (by omega), Option.bind_some, noC, show 3 * k + 3 = 3 * (k + 1) by omega]
  · intro r
    rw [size1_e hj, Option.bind_some, hs, nI_p2, if_pos (by rw [nI_L (by omega) (by omega)]; omega)]
theorem noNo_e {j n m : Nat} (hj : j < 6) {τ : QS} (hs : gM τ 56 j = nI n) (hn : n ≤ 40) (hm : n = 3 * m) : fX5_noNotices_50 (nI j) τ = if allB (fun k => noB (gM τ 57 (40 * j + 3 * k)) (gM τ 57 (40 * j + 3 * k + 1)) (gM τ 57 (40 * j + 3 * k + 2))) m = true then some (0, τ) else Option.bind (fX5_find_50 (3 : Int32) τ) (fun (q7 : Int32 × QS) => some (q7.1, q7.2)) := by
  unfold fX5_noNotices_50
  simp only [lt_]
  have in1 : inb (nI j) 6 = true := inb_n hj (by omega)
  have e3 : nI n - nI n / (3 : Int32) * (3 : Int32) = nI (n % 3) := by show nI n - nI n / nI 3 * nI 3 = _; rw [pk_rem (by omega) (by omega) (by omega)]
  have m40 : (40 : Int32) * nI j = nI (40 * j) := by show nI 40 * nI j = _; rw [pk_mul]
  rw [ck_t in1, nI_c (by omega), hs, if_pos (nI_pos' (by omega)), ck_t in1, e3, if_pos (by rw [show n % 3 = 0 by omega]; rfl), m40]
  let p : Nat → Bool := fun k => noB (gM τ 57 (40 * j + 3 * k)) (gM τ 57 (40 * j + 3 * k + 1)) (gM τ 57 (40 * j + 3 * k + 2))
  show _ = if allB p m = true then _ else _
  have fin : (if allB p m = true then some ((0 : Int32), τ) else Option.bind (fX5_find_50 (3 : Int32) τ) (fun (q7 : Int32 × QS) => some (q7.1, q7.2))) = (if (if allB p m = true then (1 : Int32) else 0) = 0 then Option.bind (fX5_find_50 (3 : Int32) τ) (fun (q7 : Int32 × QS) => some (q7.1, q7.2)) else some ((0 : Int32), τ)) := by
    cases allB p m
    · rfl
    · rfl
  rw [fin]
  refine for_fu (fun k => (if allB p k = true then (1 : Int32) else 0, nI (40 * j + 3 * k))) m rfl (by omega) ?_ ?_
  · intro r k hk
    simp only []
    rw [ck_t in1, nI_add, if_neg (by rw [nI_L (by omega) (by omega)]; omega), nI_p3, nI_p2, nI_1, ck_t (inb_n (by omega) (by omega)), ck_t (inb_n (by omega) (by omega)), ck_t (inb_n (by omega) (by omega)), nI_c (by omega), nI_c (by omega), nI_c (by omega), show 40 * j + 3 * k + 3 = 40 * j + 3 * (k + 1) by omega, noR, allB_s]
    cases e : allB p k
    · rfl
    · rw [if_pos rfl, if_neg one_ne]
      show (if p k = true then _ else _) = _
      cases e2 : p k
      · rfl
      · rfl
  · intro r
    simp only []
    rw [ck_t in1, nI_add, if_pos (by rw [nI_L (by omega) (by omega)]; omega)]
noncomputable def ftB (kd m f a l z c : Int32) : Bool := decide ((if fX5_saysBy kd m f a c < l then (0 : Int32) else 1) = (if z = 1 then 1 else 0))
theorem fitC_e {j n m : Nat} (hj : j < 6) {σ : QS} (hs : gM σ 10 j = nI n) (hn : n ≤ 40) (hm : n = 3 * m) (kd me fr c : Int32) : fX4_fitsNotices_0 (nI j) kd me fr c σ = some (if allB (fun k => ftB kd me fr (gM σ (30 + j) (3 * k + 1)) (gM σ (30 + j) (3 * k)) (gM σ (30 + j) (3 * k + 2)) c) m = true then 1 else 0) := by
  unfold fX4_fitsNotices_0
  let p : Nat → Bool := fun k => ftB kd me fr (gM σ (30 + j) (3 * k + 1)) (gM σ (30 + j) (3 * k)) (gM σ (30 + j) (3 * k + 2)) c
  have fin : some (if allB p m = true then (1 : Int32) else 0) = if allB p m = true then some (1 : Int32) else some 0 := by cases allB p m <;> rfl
  show _ = some (if allB p m = true then 1 else 0)
  rw [fin]
  refine for_all (fun k => nI (3 * k)) p m rfl (by omega) ?_ ?_
  · intro r k hk
    simp only [lt_]
    rw [size1_e hj, Option.bind_some, hs, nI_p2, nI_p3, if_neg (by rw [nI_L (by omega) (by omega)]; omega), nI_1, get1_in hj hs hn (by omega), Option.bind_some, get1_in hj hs hn (by omega), Option.bind_some, get1_in hj hs hn (by omega), Option.bind_some, Option.bind_some, says_e, show 3 * k + 3 = 3 * (k + 1) by omega]
    show _ = if ftB kd me fr (gM σ (30 + j) (3 * k + 1)) (gM σ (30 + j) (3 * k)) (gM σ (30 + j) (3 * k + 2)) c = true then _ else _
    unfold ftB
    by_cases z1 : fX5_saysBy kd me fr (gM σ (30 + j) (3 * k + 1)) c < gM σ (30 + j) (3 * k)
    · by_cases z2 : gM σ (30 + j) (3 * k + 2) = 1
      · simp [z1, z2]
      · simp [z1, z2]
    · by_cases z2 : gM σ (30 + j) (3 * k + 2) = 1
      · simp [z1, z2]
      · simp [z1, z2]
  · intro r
    rw [size1_e hj, Option.bind_some, hs, nI_p2, if_pos (by rw [nI_L (by omega) (by omega)]; omega)]
theorem fitR_e {j n m : Nat} (hj : j < 6) {τ : QS} (hs : gM τ 56 j = nI n) (hn : n ≤ 40) (hm : n = 3 * m) (kd me fr c : Int32) : fX5_isNoticed_50 (nI j) kd me fr c τ = some (if allB (fun k => ftB kd me fr (gM τ 57 (40 * j + 3 * k + 1)) (gM τ 57 (40 * j + 3 * k)) (gM τ 57 (40 * j + 3 * k + 2)) c) m = true then 1 else 0) := by
  unfold fX5_isNoticed_50
  simp only [lt_]
  let p : Nat → Bool := fun k => ftB kd me fr (gM τ 57 (40 * j + 3 * k + 1)) (gM τ 57 (40 * j + 3 * k)) (gM τ 57 (40 * j + 3 * k + 2)) c
  show _ = some (if allB p m = true then 1 else 0)
  have in1 : inb (nI j) 6 = true := inb_n hj (by omega)
  have m40 : (40 : Int32) * nI j = nI (40 * j) := by show nI 40 * nI j = _; rw [pk_mul]
  rw [m40]
  refine for_fu (fun k => (if allB p k = true then (1 : Int32) else 0, nI (40 * j + 3 * k))) m rfl (by omega) ?_ ?_
  · intro r k hk
    simp only []
    rw [ck_t in1, nI_c (show j < 1000000 by omega), hs, nI_add, if_neg (by rw [nI_L (by omega) (by omega)]; omega), nI_p3, nI_p2, nI_1, ck_t (inb_n (by omega) (by omega)), ck_t (inb_n (by omega) (by omega)), ck_t (inb_n (by omega) (by omega)), nI_c (by omega), nI_c (by omega), nI_c (by omega), show 40 * j + 3 * k + 3 = 40 * j + 3 * (k + 1) by omega, allB_s]
    have in2 : inb (nI (40 * j + 3 * k + 2)) 240 = true := inb_n (by omega) (by omega)
    have ep : p k = ftB kd me fr (gM τ 57 (40 * j + 3 * k + 1)) (gM τ 57 (40 * j + 3 * k)) (gM τ 57 (40 * j + 3 * k + 2)) c := rfl
    rw [ep]
    cases e : allB p k
    · by_cases z1 : fX5_saysBy kd me fr (gM τ 57 (40 * j + 3 * k + 1)) c < gM τ 57 (40 * j + 3 * k)
      · simp [z1, ck_t in2]
      · simp [z1, ck_t in2]
    · unfold ftB
      by_cases z1 : fX5_saysBy kd me fr (gM τ 57 (40 * j + 3 * k + 1)) c < gM τ 57 (40 * j + 3 * k)
      · by_cases z2 : gM τ 57 (40 * j + 3 * k + 2) = 1
        · simp [z1, z2, ck_t in2]
        · simp [z1, z2, ck_t in2]
      · by_cases z2 : gM τ 57 (40 * j + 3 * k + 2) = 1
        · simp [z1, z2, ck_t in2]
        · simp [z1, z2, ck_t in2]
  · intro r
    simp only []
    rw [ck_t in1, nI_c (show j < 1000000 by omega), hs, nI_add, if_pos (by rw [nI_L (by omega) (by omega)]; omega)]
    cases allB p m <;> rfl
/-- both refuse, or there is a row of triples -/
theorem note_cases {σ τ : QS} (h : Inv σ τ) (x y : Int32) : (∃ a σ' τ', a ≠ 0 ∧ fX4_refusalOfNotices_0 x y σ = some (a, σ') ∧ (∀ K : Int32 × QS → Option (Int32 × QS), (if (fX5_isSitter_50 x τ) = 0 then some ((-1 : Int32), τ) else (if (fX5_isRow y) = 0 then some ((-1 : Int32), τ) else Option.bind (fX5_noNotices_50 y τ) (fun (q1 : Int32 × QS) => (if q1.1 = 0 then K q1 else some (q1.1, q1.2))))) = some (a, τ')) ∧ Inv σ' τ') ∨ ∃ i j n m ns nc, HouseOk σ τ ns nc ∧ i < ns ∧ j < 6 ∧ n ≤ 40 ∧ n = 3 * m ∧ x = nI i ∧ y = nI j ∧ gM σ 10 j = nI n ∧ gM τ 56 j = nI n ∧ (∀ q, q < n → gM σ (30 + j) q = gM τ 57 (40 * j + q)) ∧ fX4_refusalOfNotices_0 x y σ = some (0, σ) ∧ (∀ K : Int32 × QS → Option (Int32 × QS), (if (fX5_isSitter_50 x τ) = 0 then some ((-1 : Int32), τ) else (if (fX5_isRow y) = 0 then some ((-1 : Int32), τ) else Option.bind (fX5_noNotices_50 y τ) (fun (q1 : Int32 × QS) => (if q1.1 = 0 then K q1 else some (q1.1, q1.2))))) = K (0, τ)) := by
  obtain ⟨ns, nc, pr, n0, v, h2, hh, -⟩ := h.see
  have hns := hh.1
  have rows := h.1
  rcases pk_ix x (n := ns) (by omega) with hx | hx | ⟨i, hi, rfl⟩
  · refine Or.inl ⟨-1, σ, τ, m1_ne, ?_, fun K => ?_, h⟩
    · unfold fX4_refusalOfNotices_0
      rw [sitC_e hh, inr_bad (Or.inl hx), if_pos rfl]
    · rw [sitR_e hh, inr_bad (Or.inl hx), if_pos rfl]
  · refine Or.inl ⟨-1, σ, τ, m1_ne, ?_, fun K => ?_, h⟩
    · unfold fX4_refusalOfNotices_0
      rw [sitC_e hh, inr_bad (Or.inr hx), if_pos rfl]
    · rw [sitR_e hh, inr_bad (Or.inr hx), if_pos rfl]
  rcases pk_ix y (n := 6) (by omega) with hy | hy | ⟨j, hj, rfl⟩
  · refine Or.inl ⟨-1, σ, τ, m1_ne, ?_, fun K => ?_, h⟩
    · unfold fX4_refusalOfNotices_0
      rw [sitC_e hh, inr_good hi (by omega), if_neg one_ne, isPlace1_bad (Or.inl hy), if_pos rfl]
    · rw [sitR_e hh, inr_good hi (by omega), if_neg one_ne, row_bad (Or.inl hy), if_pos rfl]
  · refine Or.inl ⟨-1, σ, τ, m1_ne, ?_, fun K => ?_, h⟩
    · unfold fX4_refusalOfNotices_0
      rw [sitC_e hh, inr_good hi (by omega), if_neg one_ne, isPlace1_bad (Or.inr hy), if_pos rfl]
    · rw [sitR_e hh, inr_good hi (by omega), if_neg one_ne, row_bad (Or.inr hy), if_pos rfl]
  have in1 : inb (nI j) 6 = true := inb_n hj (by omega)
  have HC : fX4_refusalOfNotices_0 (nI i) (nI j) σ = Option.bind (fX3_has_1 (nI j) σ) (fun (q1 : Int32) => (if q1 = 0 then Option.bind (fX4_refuse_0 (1 : Int32) σ) (fun (q6 : Int32 × QS) => some (q6.1, q6.2)) else Option.bind (fX3_size_1 (nI j) σ) (fun (q2 : Int32) => (if (q2 - q2 / (3 : Int32) * (3 : Int32)) = 0 then Option.bind (fX4_areNotices_0 (nI j) σ) (fun (q3 : Int32) => (if q3 = 0 then Option.bind (fX4_refuse_0 (3 : Int32) σ) (fun (q4 : Int32 × QS) => some (q4.1, q4.2)) else some ((0 : Int32), σ))) else Option.bind (fX4_refuse_0 (5 : Int32) σ) (fun (q5 : Int32 × QS) => some (q5.1, q5.2)))))) := by
    unfold fX4_refusalOfNotices_0
    rw [sitC_e hh, inr_good hi (by omega), if_neg one_ne, isPlace1_good hj, if_neg one_ne]
  have HR : ∀ K : Int32 × QS → Option (Int32 × QS), (if (fX5_isSitter_50 (nI i) τ) = 0 then some ((-1 : Int32), τ) else (if (fX5_isRow (nI j)) = 0 then some ((-1 : Int32), τ) else Option.bind (fX5_noNotices_50 (nI j) τ) (fun (q1 : Int32 × QS) => (if q1.1 = 0 then K q1 else some (q1.1, q1.2))))) = Option.bind (fX5_noNotices_50 (nI j) τ) (fun (q1 : Int32 × QS) => (if q1.1 = 0 then K q1 else some (q1.1, q1.2))) := fun K => by
    rw [sitR_e hh, inr_good hi (by omega), if_neg one_ne, row_good hj, if_neg one_ne]
  have e3 : ∀ n, n ≤ 40 → nI n - nI n / (3 : Int32) * (3 : Int32) = nI (n % 3) := fun n hn => by show nI n - nI n / nI 3 * nI 3 = _; rw [pk_rem (by omega) (by omega) (by omega)]
  obtain ⟨r1, r2⟩ := rows j hj
  rcases r2 with r2 | ⟨n, n1, n2, n3⟩
  · obtain ⟨σ', τ', q1, q2, q3⟩ := refuse_ok h (x := 1) (f := 1) rfl (by omega) (by omega)
    refine Or.inl ⟨-3, σ', τ', m3_ne, ?_, fun K => ?_, q3⟩
    · rw [HC, has1_e hj, Option.bind_some, if_pos r2, if_pos rfl, q1]
      rfl
    · rw [HR]
      unfold fX5_noNotices_50
      rw [ck_t in1, nI_c (by omega), ← r1, r2, if_neg (by decide), q2]
      rfl
  rw [n2] at r1
  by_cases z : n % 3 = 0
  · have hm : n = 3 * (n / 3) := by omega
    have eq : allB (fun k => noB (gM σ (30 + j) (3 * k)) (gM σ (30 + j) (3 * k + 1)) (gM σ (30 + j) (3 * k + 2))) (n / 3) = allB (fun k => noB (gM τ 57 (40 * j + 3 * k)) (gM τ 57 (40 * j + 3 * k + 1)) (gM τ 57 (40 * j + 3 * k + 2))) (n / 3) := by
      refine allB_cong _ (fun k hk => ?_)
      show noB (gM σ (30 + j) (3 * k)) (gM σ (30 + j) (3 * k + 1)) (gM σ (30 + j) (3 * k + 2)) = _
      rw [n3 (3 * k) (by omega), n3 (3 * k + 1) (by omega), n3 (3 * k + 2) (by omega)]
      rfl
    have eN := noNo_e hj r1.symm n1 hm
    have eC := areC_e hj n2 n1 hm
    rw [eq] at eC
    have HC2 : fX4_refusalOfNotices_0 (nI i) (nI j) σ = Option.bind (fX4_areNotices_0 (nI j) σ) (fun (q3 : Int32) => (if q3 = 0 then Option.bind (fX4_refuse_0 (3 : Int32) σ) (fun (q4 : Int32 × QS) => some (q4.1, q4.2)) else some ((0 : Int32), σ))) := by
      rw [HC, has1_e hj, Option.bind_some, n2, if_neg (show ¬ nI n = -1 from nI_nm1 (by omega)), if_neg one_ne, size1_e hj, Option.bind_some, n2, e3 n n1, if_pos (by rw [z]; rfl)]
    cases e : allB (fun k => noB (gM τ 57 (40 * j + 3 * k)) (gM τ 57 (40 * j + 3 * k + 1)) (gM τ 57 (40 * j + 3 * k + 2))) (n / 3)
    · obtain ⟨σ', τ', q1, q2, q3⟩ := refuse_ok h (x := 3) (f := 3) rfl (by omega) (by omega)
      rw [e, if_neg (by decide)] at eC eN
      refine Or.inl ⟨-3, σ', τ', m3_ne, ?_, fun K => ?_, q3⟩
      · rw [HC2, eC, Option.bind_some, if_pos rfl, q1]
        rfl
      · rw [HR, eN, q2]
        rfl
    · rw [e, if_pos rfl] at eC eN
      refine Or.inr ⟨i, j, n, n / 3, ns, nc, hh, hi, hj, n1, hm, rfl, rfl, n2, r1.symm, n3, ?_, fun K => ?_⟩
      · rw [HC2, eC, Option.bind_some, if_neg one_ne]
      · rw [HR, eN]
        rfl
  · obtain ⟨σ', τ', q1, q2, q3⟩ := refuse_ok h (x := 5) (f := 5) rfl (by omega) (by omega)
    have z0 : ¬ nI (n % 3) = 0 := by rw [nI0_e (by omega)]; exact z
    refine Or.inl ⟨-3, σ', τ', m3_ne, ?_, fun K => ?_, q3⟩
    · rw [HC, has1_e hj, Option.bind_some, n2, if_neg (show ¬ nI n = -1 from nI_nm1 (by omega)), if_neg one_ne, size1_e hj, Option.bind_some, n2, e3 n n1, if_neg z0, q1]
      rfl
    · rw [HR]
      unfold fX5_noNotices_50
      rw [ck_t in1, nI_c (by omega), ← r1, if_pos (nI_pos' (by omega)), ck_t in1, e3 n n1, if_neg z0, q2]
      rfl
def bitI (p : Nat → Bool) : Nat → Int32
  | 0 => 0
  | k + 1 => if p k = true then bitI p k ||| ((1 : Int32) <<< (nI k &&& 31)) else bitI p k
theorem bitI_y {p : Nat → Bool} {k : Nat} (h : p k = true) : bitI p k ||| ((1 : Int32) <<< (nI k &&& 31)) = bitI p (k + 1) := by
  show _ = if p k = true then _ else _
  rw [if_pos h]
theorem bitI_n {p : Nat → Bool} {k : Nat} (h : p k = false) : bitI p k = bitI p (k + 1) := by
  show _ = if p k = true then _ else _
  rw [h, if_neg (by decide)]
theorem frights_same {σ τ : QS} (h : Inv σ τ) (x y : Int32) : Same (fX4_frights_0 x y σ) (fX5_frights_50 x y τ) := by
  unfold fX4_frights_0 fX5_frights_50
  rcases note_cases h x y with ⟨a, σ', τ', h0, h1, h2, h3⟩ | ⟨i, j, n, m, ns, nc, hh, hi, hj, n1, hm, rfl, rfl, n2, r1, n3, h1, h2⟩
  · rw [h1, Option.bind_some, if_neg h0, h2]
    exact Same.mk rfl rfl h3
  rw [h1, Option.bind_some, if_pos rfl, h2]
  have hns := hh.1
  obtain ⟨ns', nc', pr, n0, v, g2, hh', hn, h12, hv, hvo, hpr, hN, r0, rv⟩ := h.see
  have hns' := hh'.1
  have en : ns' = ns := by have a := hh.2.2.2.1; rw [hh'.2.2.2.1, nI_e (by omega) (by omega)] at a; exact a
  subst en
  obtain ⟨-, -, ⟨c, c1, c2⟩, -⟩ := hvo
  have hc6 := pow_le64 hns c1
  have e14 : gI σ 14 = nI c := by rw [hN.2.2.2.2.2.1, c2]
  have e6 : gM τ 51 6 = nI c := by rw [← c2, ← rv 5 (by omega)]
  obtain ⟨k1, k2, k3, -⟩ := hh.2.2.2.2.2.2.2.2.1 i hi
  have in6 : inb (nI i) 6 = true := inb_n (by omega) (by omega)
  simp only [lt_]
  rw [ck_t in6, nI_c (by omega), e14, e6, clqC_e hh (by omega) hc6, clqR_e hh (by omega) hc6, Option.bind_some, k1]
  let C : Int32 := nI (clq (gM τ 53) i c ns')
  let pf : Nat → Bool := fun v => allB (fun k => ftB (gM τ 53 i) (gM τ 54 i) (nI v) (gM τ 57 (40 * j + 3 * k + 1)) (gM τ 57 (40 * j + 3 * k)) (gM τ 57 (40 * j + 3 * k + 2)) C) m
  let pm : Nat → Bool := fun v => allB (fun k => ftB (gM τ 53 i) (nI v) (gM τ 55 i) (gM τ 57 (40 * j + 3 * k + 1)) (gM τ 57 (40 * j + 3 * k)) (gM τ 57 (40 * j + 3 * k + 2)) C) m
  have eqA : ∀ kd me fr : Int32, fX4_fitsNotices_0 (nI j) kd me fr C σ = some (if allB (fun k => ftB kd me fr (gM τ 57 (40 * j + 3 * k + 1)) (gM τ 57 (40 * j + 3 * k)) (gM τ 57 (40 * j + 3 * k + 2)) C) m = true then 1 else 0) := fun kd me fr => by
    rw [fitC_e hj n2 n1 hm]
    have ee : allB (fun k => ftB kd me fr (gM σ (30 + j) (3 * k + 1)) (gM σ (30 + j) (3 * k)) (gM σ (30 + j) (3 * k + 2)) C) m = allB (fun k => ftB kd me fr (gM τ 57 (40 * j + 3 * k + 1)) (gM τ 57 (40 * j + 3 * k)) (gM τ 57 (40 * j + 3 * k + 2)) C) m := allB_cong m (fun k hk => by simp only [n3 (3 * k) (by omega), n3 (3 * k + 1) (by omega), n3 (3 * k + 2) (by omega), Nat.add_assoc])
    rw [ee]
  refine Same.mk (r := bitI pf 10) (σ' := pI σ 1 (bitI pm 10)) (τ' := pI τ 2 (bitI pm 10)) ?_ ?_ (told_ok h _)
  · refine for_fu (fun k => (bitI pf k, bitI pm k, nI k)) 10 rfl (by omega) ?_ ?_
    · intro r k hk
      simp only []
      rw [if_neg (show ¬ (9 : Int32) < nI k from by show ¬ nI 9 < nI k; rw [nI_l2 (by omega) (by omega)]; omega)]
      simp only [ck_t in6]
      rw [k2, k3, eqA, eqA, Option.bind_some, Option.bind_some, Option.bind_some, nI_1]
      show (if (if pf k = true then (1 : Int32) else 0) = 0 then (if (if pm k = true then (1 : Int32) else 0) = 0 then _ else _) else (if (if pm k = true then (1 : Int32) else 0) = 0 then _ else _)) = _
      cases e1 : pf k
      · rw [bitI_n e1]
        cases e2 : pm k
        · rw [bitI_n e2]; rfl
        · rw [bitI_y e2]; rfl
      · rw [bitI_y e1]
        cases e2 : pm k
        · rw [bitI_n e2]; rfl
        · rw [bitI_y e2]; rfl
    · intro r
      simp only []
      rw [if_pos (show (9 : Int32) < nI 10 from by show nI 9 < nI 10; rw [nI_l2 (by omega) (by omega)]; omega)]
      rfl
  · refine for_fu (fun k => (bitI pf k, nI k, pI τ 2 (bitI pm k))) 10 rfl (by omega) ?_ ?_
    · intro r k hk
      simp only []
      have s56 : gM (pI τ 2 (bitI pm k)) 56 j = nI n := r1
      rw [if_neg (show ¬ (10 : Int32) ≤ nI k from by show ¬ nI 10 ≤ nI k; rw [nI_L (by omega) (by omega)]; omega)]
      simp only [ck_t in6]
      rw [fitR_e hj s56 n1 hm, fitR_e hj s56 n1 hm, Option.bind_some, Option.bind_some, Option.bind_some, nI_1, pI_pI, pI_pI, gI_same]
      show (if (if pf k = true then (1 : Int32) else 0) = 0 then (if (if pm k = true then (1 : Int32) else 0) = 0 then _ else _) else (if (if pm k = true then (1 : Int32) else 0) = 0 then _ else _)) = _
      cases e1 : pf k
      · rw [← bitI_n e1]
        cases e2 : pm k
        · rw [← bitI_n e2]; simp only [Int32.or_zero]; rfl
        · rw [← bitI_y e2]; simp only [Int32.or_zero]; rfl
      · rw [← bitI_y e1]
        cases e2 : pm k
        · rw [← bitI_n e2]; simp only [Int32.or_zero]; rfl
        · rw [← bitI_y e2]; rfl
    · intro r
      simp only []
      rw [if_pos (show (10 : Int32) ≤ nI 10 from by show nI 10 ≤ nI 10; rw [nI_L (by omega) (by omega)]; omega)]
theorem kinds_same {σ τ : QS} (h : Inv σ τ) (x y : Int32) : Same (fX4_kinds_0 x y σ) (fX5_kinds_50 x y τ) := by
  unfold fX4_kinds_0 fX5_kinds_50
  rcases note_cases h x y with ⟨a, σ', τ', h0, h1, h2, h3⟩ | ⟨i, j, n, m, ns, nc, hh, hi, hj, n1, hm, rfl, rfl, n2, r1, n3, h1, h2⟩
  · rw [h1, Option.bind_some, if_neg h0, h2]
    exact Same.mk rfl rfl h3
  rw [h1, Option.bind_some, if_pos rfl, h2]
  have hns := hh.1
  obtain ⟨ns', nc', pr, n0, v, g2, hh', hn, h12, hv, hvo, hpr, hN, r0, rv⟩ := h.see
  have hns' := hh'.1
  have en : ns' = ns := by have a := hh.2.2.2.1; rw [hh'.2.2.2.1, nI_e (by omega) (by omega)] at a; exact a
  subst en
  obtain ⟨-, -, ⟨c, c1, c2⟩, -⟩ := hvo
  have hc6 := pow_le64 hns c1
  have e14 : gI σ 14 = nI c := by rw [hN.2.2.2.2.2.1, c2]
  have e6 : gM τ 51 6 = nI c := by rw [← c2, ← rv 5 (by omega)]
  obtain ⟨k1, k2, k3, -⟩ := hh.2.2.2.2.2.2.2.2.1 i hi
  have in6 : inb (nI i) 6 = true := inb_n (by omega) (by omega)
  simp only [lt_]
  rw [e14, clqC_e hh (by omega) hc6]
  let C : Int32 := nI (clq (gM τ 53) i c ns')
  let pf : Nat → Bool := fun v => allB (fun k => ftB (nI v) (gM τ 54 i) (gM τ 55 i) (gM τ 57 (40 * j + 3 * k + 1)) (gM τ 57 (40 * j + 3 * k)) (gM τ 57 (40 * j + 3 * k + 2)) C) m
  have eqA : ∀ kd me fr : Int32, fX4_fitsNotices_0 (nI j) kd me fr C σ = some (if allB (fun k => ftB kd me fr (gM τ 57 (40 * j + 3 * k + 1)) (gM τ 57 (40 * j + 3 * k)) (gM τ 57 (40 * j + 3 * k + 2)) C) m = true then 1 else 0) := fun kd me fr => by
    rw [fitC_e hj n2 n1 hm]
    have ee : allB (fun k => ftB kd me fr (gM σ (30 + j) (3 * k + 1)) (gM σ (30 + j) (3 * k)) (gM σ (30 + j) (3 * k + 2)) C) m = allB (fun k => ftB kd me fr (gM τ 57 (40 * j + 3 * k + 1)) (gM τ 57 (40 * j + 3 * k)) (gM τ 57 (40 * j + 3 * k + 2)) C) m := allB_cong m (fun k hk => by simp only [n3 (3 * k) (by omega), n3 (3 * k + 1) (by omega), n3 (3 * k + 2) (by omega), Nat.add_assoc])
    rw [ee]
  refine Same.mk (r := bitI pf 6) (σ' := σ) (τ' := τ) ?_ ?_ h
  · refine for_fu (fun k => (bitI pf k, nI k)) 6 rfl (by omega) ?_ ?_
    · intro r k hk
      simp only []
      rw [if_neg (show ¬ (6 : Int32) ≤ nI k from by show ¬ nI 6 ≤ nI k; rw [nI_L (by omega) (by omega)]; omega), ck_t in6, ck_t in6, nI_c (by omega), k2, k3, eqA, Option.bind_some, nI_1]
      show (if (if pf k = true then (1 : Int32) else 0) = 0 then _ else _) = _
      cases e1 : pf k
      · rw [← bitI_n e1]; rfl
      · rw [← bitI_y e1]; rfl
    · intro r
      simp only []
      rw [if_pos (show (6 : Int32) ≤ nI 6 from by show nI 6 ≤ nI 6; rw [nI_L (by omega) (by omega)]; omega)]
  · refine for_fu (fun k => (bitI pf k, nI k)) 6 rfl (by omega) ?_ ?_
    · intro r k hk
      simp only []
      rw [if_neg (show ¬ (6 : Int32) ≤ nI k from by show ¬ nI 6 ≤ nI k; rw [nI_L (by omega) (by omega)]; omega), ck_t in6, ck_t in6, e6, clqR_e hh (by omega) hc6, Option.bind_some, nI_c (by omega), fitR_e hj r1 n1 hm, Option.bind_some, nI_1]
      show (if (if pf k = true then (1 : Int32) else 0) = 0 then _ else _) = _
      cases e1 : pf k
      · rw [← bitI_n e1, Int32.or_zero]; rfl
      · rw [← bitI_y e1]; rfl
    · intro r
      simp only []
      rw [if_pos (show (6 : Int32) ≤ nI 6 from by show nI 6 ≤ nI 6; rw [nI_L (by omega) (by omega)]; omega)]
