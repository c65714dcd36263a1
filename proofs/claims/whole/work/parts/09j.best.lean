/-! ===== the best plan ===== -/
def lvW (d : ND) : Nat := 10 * d.2.2.1 + d.1 + 1
theorem stN_p (h : HH) (s k : Nat) (d : ND) : (stN h s k d).1 ≤ d.1 := by
  cases k with
  | zero => exact Nat.le_refl _
  | succ i =>
    by_cases q : d.1 < lkZ h i s d.2.1 d.2.2.2
    · rw [stN_no q]; exact Nat.le_refl _
    · rw [stN_yes q]; exact Nat.sub_le _ _
theorem mxW_hi {h : HH} {al : Nat → Bool} : ∀ (m s : Nat) (d : ND), d.1 ≤ 9 → mxN h al lvW m s d ≤ 10 * mxN h al lvR m s d + 10
  | 0, _, d, hp => by show 10 * d.2.2.1 + d.1 + 1 ≤ 10 * d.2.2.1 + 10; omega
  | m + 1, s, d, hp => mxN_le.mpr (fun k hk e => by
    have h1 := mxW_hi (h := h) (al := al) m (s + 1) (stN h s k d) (Nat.le_trans (stN_p h s k d) hp)
    have h2 := mxN_ge (lv := lvR) (m := m) (s := s) (h := h) hk e
    omega)
theorem mxW_lo {h : HH} {al : Nat → Bool} : ∀ (m s : Nat) (d : ND), 10 * mxN h al lvR m s d + 1 ≤ mxN h al lvW m s d
  | 0, _, d => by show 10 * d.2.2.1 + 1 ≤ 10 * d.2.2.1 + d.1 + 1; omega
  | m + 1, s, d => by
    have key : mxN h al lvR (m + 1) s d ≤ (mxN h al lvW (m + 1) s d - 1) / 10 := mxN_le.mpr (fun k hk e => by
      have h1 := mxW_lo (h := h) (al := al) m (s + 1) (stN h s k d)
      have h2 := mxN_ge (lv := lvW) (m := m) (s := s) (h := h) hk e
      omega)
    have h1 := mxW_lo (h := h) (al := al) m (s + 1) d
    have h2 : mxN h al lvW m (s + 1) d ≤ mxN h al lvW (m + 1) s d := mxN_ge (h := h) (k := 0) (Nat.zero_le _) rfl
    omega
theorem mxW_p {h : HH} {al : Nat → Bool} {B : Nat} : ∀ (m s : Nat) (d : ND), mxN h al lvR m s d ≤ B → mxN h al lvW m s d ≤ 10 * B + d.1 + 1
  | 0, _, d, hB => by
    have hB' : d.2.2.1 ≤ B := hB
    show 10 * d.2.2.1 + d.1 + 1 ≤ _
    omega
  | m + 1, s, d, hB => mxN_le.mpr (fun k hk e => by
    have h1 := mxW_p (h := h) (al := al) (B := B) m (s + 1) (stN h s k d) (mxN_le.mp hB k hk e)
    have h2 := stN_p h s k d
    omega)
theorem lvW_dm (d d' : ND) (q : dmN d d') : lvW d ≤ lvW d' := by
  have := q.1
  have := q.2.2.1
  unfold lvW
  omega
abbrev BX : Type := Nat × (Nat → Nat)
def imF (p : Nat → Bool) (c : Nat → BX) (k : Nat) (y : BX) : BX := if p k = true then (if y.1 < (c k).1 then c k else y) else y
theorem imF_ge (p : Nat → Bool) (c : Nat → BX) (k : Nat) (y : BX) : y.1 ≤ (imF p c k y).1 := by
  unfold imF
  split
  · split
    · omega
    · exact Nat.le_refl _
  · exact Nat.le_refl _
theorem imF_max (p : Nat → Bool) (c : Nat → BX) (k : Nat) (y : BX) : (imF p c k y).1 = if p k = true then max y.1 (c k).1 else y.1 := by
  unfold imF
  split
  · split
    · omega
    · omega
  · rfl
theorem fdr_imge {p : Nat → Bool} {c : Nat → BX} : ∀ (d j : Nat) (y : BX), y.1 ≤ (fdr (imF p c) d j y).1
  | 0, _, _ => Nat.le_refl _
  | d + 1, j, y => Nat.le_trans (imF_ge p c j y) (fdr_imge d (j + 1) _)
theorem fdr_immax {p : Nat → Bool} {c : Nat → BX} : ∀ (d j : Nat) (y : BX), (fdr (imF p c) d j y).1 = fdr (fun k z => if p k = true then max z (c k).1 else z) d j y.1
  | 0, _, _ => rfl
  | d + 1, j, y => by
    show (fdr (imF p c) d (j + 1) (imF p c j y)).1 = fdr _ d (j + 1) (if p j = true then max y.1 (c j).1 else y.1)
    rw [fdr_immax d (j + 1), imF_max]
theorem fdr_imcmp {p : Nat → Bool} {c : Nat → BX} : ∀ (d j : Nat) (x y : BX), y.1 ≤ x.1 → fdr (imF p c) d j x = if x.1 < (fdr (imF p c) d j y).1 then fdr (imF p c) d j y else x
  | 0, _, x, y, h => by
    show x = if x.1 < y.1 then y else x
    rw [if_neg (by omega)]
  | d + 1, j, x, y, h => by
    show fdr (imF p c) d (j + 1) (imF p c j x) = if x.1 < (fdr (imF p c) d (j + 1) (imF p c j y)).1 then fdr (imF p c) d (j + 1) (imF p c j y) else x
    by_cases e : p j = true
    · by_cases q : x.1 < (c j).1
      · have e1 : imF p c j x = c j := by unfold imF; rw [if_pos e, if_pos q]
        have e2 : imF p c j y = c j := by unfold imF; rw [if_pos e, if_pos (by omega)]
        have g := fdr_imge (p := p) (c := c) d (j + 1) (c j)
        rw [e1, e2, if_pos (by omega)]
      · have e1 : imF p c j x = x := by unfold imF; rw [if_pos e, if_neg q]
        have e2 : (imF p c j y).1 ≤ x.1 := by
          rw [imF_max, if_pos e]
          omega
        rw [e1]
        exact fdr_imcmp d (j + 1) x _ e2
    · have e1 : imF p c j x = x := by unfold imF; rw [if_neg e]
      have e2 : imF p c j y = y := by unfold imF; rw [if_neg e]
      rw [e1, e2]
      exact fdr_imcmp d (j + 1) x y h
def gbP (M : Nat) (P : PS) (x : BX) : BX := if x.1 < lvW (P.2 M) then (lvW (P.2 M), P.1) else x
noncomputable def bpP (h : HH) (al : Nat → Bool) (s0 M m n : Nat) (P : PS) : BX := tfP h al s0 (gbP M) m n P (0, fun _ => 0)
theorem best_cmp {h : HH} {al : Nat → Bool} {s0 M : Nat} : ∀ (m n : Nat) (P : PS), n + m = M → (bpP h al s0 M m n P).1 = mxN h al lvW m (s0 + n) (P.2 n) ∧ ∀ x, tfP h al s0 (gbP M) m n P x = if x.1 < (bpP h al s0 M m n P).1 then bpP h al s0 M m n P else x
  | 0, n, P, hM => by
    have : n = M := by omega
    subst this
    have e : bpP h al s0 n 0 n P = (lvW (P.2 n), P.1) := by
      show gbP n P (0, fun _ => 0) = _
      unfold gbP
      rw [if_pos (show 0 < lvW (P.2 n) from by unfold lvW; omega)]
    refine ⟨by rw [e]; rfl, fun x => ?_⟩
    rw [e]
    rfl
  | m + 1, n, P, hM => by
    have ih := fun k => best_cmp (h := h) (al := al) (s0 := s0) (M := M) m (n + 1) (chP h (s0 + n) n k P) (by omega)
    have ef : ∀ x, tfP h al s0 (gbP M) (m + 1) n P x = fdr (imF (chB al (P.2 n).2.2.2) (fun k => bpP h al s0 M m (n + 1) (chP h (s0 + n) n k P))) (hN h + 1) 0 x := fun x => by
      show fdr _ (hN h + 1) 0 x = _
      refine fdr_cong _ _ _ (fun k _ _ y => ?_)
      unfold imF
      rw [(ih k).2 y]
    refine ⟨?_, fun x => ?_⟩
    · unfold bpP
      rw [ef, fdr_immax]
      refine fdr_cong _ _ _ (fun k _ _ y => ?_)
      rw [(ih k).1, chP_2]
      rfl
    · show _ = if x.1 < (tfP h al s0 (gbP M) (m + 1) n P (0, fun _ => 0)).1 then tfP h al s0 (gbP M) (m + 1) n P (0, fun _ => 0) else x
      rw [ef x, ef (0, fun _ => 0)]
      exact fdr_imcmp _ _ _ _ (Nat.zero_le _)
theorem best_no {h : HH} {al : Nat → Bool} {s0 M m n : Nat} {P : PS} {x : BX} (hM : n + m = M) (hx : mxN h al lvW m (s0 + n) (P.2 n) ≤ x.1) : tfP h al s0 (gbP M) m n P x = x := by
  obtain ⟨b1, b2⟩ := best_cmp (h := h) (al := al) (s0 := s0) m n P hM
  rw [b2, b1, if_neg (by omega)]
theorem best_ge {h : HH} {al : Nat → Bool} {s0 M m n : Nat} {P : PS} {x : BX} (hM : n + m = M) : x.1 ≤ (tfP h al s0 (gbP M) m n P x).1 ∧ mxN h al lvW m (s0 + n) (P.2 n) ≤ (tfP h al s0 (gbP M) m n P x).1 := by
  obtain ⟨b1, b2⟩ := best_cmp (h := h) (al := al) (s0 := s0) m n P hM
  rw [b2, b1]
  split
  · rw [b1]; omega
  · omega
/-- a choice as it stands in a row -/
def encC (k : Nat) : Int32 := if k = 0 then -9 else nI (k - 1)
noncomputable def sbB (d : Nat) (x1 x2 x3 x4 x5 : Int32) : (Int32 × QS → Option (QS)) → Int32 × QS → Option (QS) := (fun (r6 : Int32 × QS → Option (QS)) (a5 : Int32 × QS) => (if (gI a5.2 9) ≤ a5.1 then some a5.2 else lt_ (fun (v8 : Int32) => (if v8 < 0 then r6 ((a5.1 + (1 : Int32)), a5.2) else (if x4 < v8 then r6 ((a5.1 + (1 : Int32)), a5.2) else ck_ (inb x1 6) (lt_ (pM a5.2 27 (upd (gM a5.2 27) x1.toNatClampNeg a5.1)) (fun (S10 : QS) => Option.bind (fX2_seekBest_7 d (x1 + (1 : Int32)) (x2 ||| ((1 : Int32) <<< (a5.1 &&& 31))) (fX2_clappingBehind x3 v8 x4) (x4 - v8) (x5 + (1 : Int32)) S10) (fun (q11 : QS) => r6 ((a5.1 + (1 : Int32)), q11))))))) (fun (j7 : Int32 → Option (QS)) => (if (fX2_isFree_7 a5.1 x2 a5.2) = 0 then j7 (-9 : Int32) else Option.bind (fX1_lacking_5 a5.1 x1 x2 x3 a5.2) (fun (q12 : Int32) => j7 q12)))))
theorem seekBest_s (d : Nat) (x1 x2 x3 x4 x5 : Int32) (σ : QS) : fX2_seekBest_7 (d + 1) x1 x2 x3 x4 x5 σ = lt_ ((gI σ 15) - x4) (fun (v1 : Int32) => (if (x5 + (fX2_hope_7 x1 x2 σ)) < (gI σ 20) then some σ else (if v1 < (gI σ 21) then (if x1 < (gI σ 8) then ck_ (inb x1 6) (lt_ (pM σ 27 (upd (gM σ 27) x1.toNatClampNeg (-9 : Int32))) (fun (S3 : QS) => Option.bind (fX2_seekBest_7 d (x1 + (1 : Int32)) x2 x3 x4 x5 S3) (fun (q4 : QS) => lp_ (sbB d x1 x2 x3 x4 x5) FV ((0 : Int32), q4)))) else lt_ (pI σ 21 v1) (fun (S13 : QS) => lt_ (pM S13 28 (va_cpy (gM S13 27) (gM S13 28) (0 : Int32).toNatClampNeg (0 : Int32).toNatClampNeg (6 : Int32).toNatClampNeg)) (fun (S14 : QS) => some S14))) else some σ))) := rfl
theorem sbB_step {σ τ : QS} {ns nc A : Nat} {al : Nat → Bool} (hh : HouseOk σ τ ns nc) (hA : alB A ns al) (h19 : gI σ 19 = nI A) {D s t k pb : Nat} {d : ND} {x5 : Int32} (hs : s < nc) (ht : t ≤ 6) (hpb : pb ≤ 999) (hd : nbP pb ns t d) (hk : k < ns) (r : Int32 × QS → Option (QS)) : sbB D (nI s) (nI d.2.2.2) (PZ d.2.1) (nI d.1) x5 r (nI k, σ) = if chB al d.2.2.2 (k + 1) = true ∧ ¬ d.1 < lkZ (hOf τ ns) k s d.2.1 d.2.2.2 then Option.bind (fX2_seekBest_7 D (nI (s + 1)) (nI (stN (hOf τ ns) s (k + 1) d).2.2.2) (PZ (stN (hOf τ ns) s (k + 1) d).2.1) (nI (stN (hOf τ ns) s (k + 1) d).1) (x5 + (1 : Int32)) (pM σ 27 (upd (gM σ 27) s (nI k)))) (fun q => r (nI (k + 1), q)) else r (nI (k + 1), σ) := by
  have hns := hh.1
  have hnc := hh.2.1
  obtain ⟨b1, b2, b3, b4, b5⟩ := hd
  have c6 := pow_le64 hns b5
  have l9 := lkZ_le (hbd_of hh) (i := k) hs d.2.1 d.2.2.2
  unfold sbB
  simp only [lt_q]
  rw [hh.2.2.2.1, if_neg (by rw [nI_L (by omega) (by omega)]; omega), isFree_e hA hns h19 hk, lackC_z hh hk hs c6 (by omega) (by omega), Option.bind_some, nI_1, nI_1, if_neg (show ¬ nI (lkZ (hOf τ ns) k s d.2.1 d.2.2.2) < 0 from nneg (by omega)), if_pos (show (-9 : Int32) < 0 by decide), ck_t (inb_n (show s < 6 by omega) (by omega)), nI_c (by omega)]
  by_cases e : chB al d.2.2.2 (k + 1) = true
  · rw [if_pos e, if_neg one_ne]
    by_cases q : d.1 < lkZ (hOf τ ns) k s d.2.1 d.2.2.2
    · rw [if_pos (by rw [nI_l2 (by omega) (by omega)]; exact q), if_neg (fun w => w.2 q)]
    · rw [if_neg (by rw [nI_l2 (by omega) (by omega)]; exact q), if_pos ⟨e, q⟩, stN_yes q, clap_e (by omega) (by omega), if_neg q, pk_sub (by omega), shl_e (show k < 31 by omega), fa_or]
  · rw [if_neg e, if_pos rfl, if_neg (fun w => e w.1)]
theorem sbB_end {σ : QS} {ns : Nat} (h9 : gI σ 9 = nI ns) (hns : ns ≤ 6) {D : Nat} {x1 x2 x3 x4 x5 : Int32} (r : Int32 × QS → Option (QS)) : sbB D x1 x2 x3 x4 x5 r (nI ns, σ) = some σ := by
  unfold sbB
  simp only [lt_q]
  rw [h9, if_pos (by rw [nI_L (by omega) (by omega)]; omega)]
/-- the class's best so far, and the path -/
def rcB (σ : QS) (s0 n M most p0 : Nat) (P : PS) (x : BX) : Prop := gI σ 21 = nI (10 * most + p0 + 1 - x.1) ∧ 10 * most ≤ x.1 ∧ x.1 ≤ 10 * most + p0 + 1 ∧ (10 * most < x.1 → ∀ k, k < M → gM σ 28 (s0 + k) = encC (x.2 k)) ∧ ∀ k, k < n → gM σ 27 (s0 + k) = encC (P.1 k)
theorem rcB_back {σ : QS} {s0 n M most p0 k : Nat} {h : HH} {P : PS} {x : BX} (r : rcB σ s0 (n + 1) M most p0 (chP h (s0 + n) n k P) x) : rcB σ s0 n M most p0 P x := by
  obtain ⟨r1, r2, r3, r4, r5⟩ := r
  refine ⟨r1, r2, r3, r4, fun j hj => ?_⟩
  rw [r5 j (by omega), chP_1o (by omega)]
theorem rcB_go {σ : QS} {s0 n M most p0 k : Nat} {h : HH} {P : PS} {x : BX} (r : rcB σ s0 n M most p0 P x) {v : Int32} (hv : v = encC k) : rcB (pM σ 27 (upd (gM σ 27) (s0 + n) v)) s0 (n + 1) M most p0 (chP h (s0 + n) n k P) x := by
  obtain ⟨r1, r2, r3, r4, r5⟩ := r
  refine ⟨r1, r2, r3, fun q j hj => by rw [gM_ne (by omega)]; exact r4 q j hj, fun j hj => ?_⟩
  rw [gM_same]
  by_cases e : j = n
  · subst e
    rw [upd_same, chP_1, hv]
  · rw [upd_ne (by omega), chP_1o e]
    exact r5 j (by omega)
theorem seekBest_e {σ0 τ : QS} {ns nc A s0 M most p0 : Nat} {al : Nat → Bool} (hh : HouseOk σ0 τ ns nc) (hA : alB A ns al) (hM : s0 + M = nc) (hp0 : p0 ≤ 9) (h15 : gI σ0 15 = nI p0) (hmost : most ≤ 6) : ∀ (m D n : Nat) (P : PS) (σ : QS) (x : BX), n + m = M → m < D → srC σ0 σ → gI σ 19 = nI A → gI σ 20 = nI most → nbP 9 ns n (P.2 n) → (P.2 n).1 ≤ p0 → mxN (hOf τ ns) al lvR m (s0 + n) (P.2 n) ≤ most → rcB σ s0 n M most p0 P x → ∃ σ', fX2_seekBest_7 D (nI (s0 + n)) (nI (P.2 n).2.2.2) (PZ (P.2 n).2.1) (nI (P.2 n).1) (nI (P.2 n).2.2.1) σ = some σ' ∧ srC σ0 σ' ∧ gI σ' 19 = nI A ∧ gI σ' 20 = nI most ∧ rcB σ' s0 n M most p0 P (tfP (hOf τ ns) al s0 (gbP M) m n P x) := by
  have hns := hh.1
  have hnc := hh.2.1
  intro m
  induction m with
  | zero =>
    intro D n P σ x hn hD hsr h19 h20 hb hp hV hrc
    obtain ⟨D', rfl⟩ : ∃ D', D = D' + 1 := ⟨D - 1, by omega⟩
    obtain ⟨b1, b2, b3, b4, b5⟩ := hb
    obtain ⟨r1, r2, r3, r4, r5⟩ := hrc
    have hV' : (P.2 n).2.2.1 ≤ most := hV
    have hh' := hsr.house hh
    have e15 : gI σ 15 = nI p0 := (hsr.1 15 (by omega)).trans h15
    have enM : n = M := by omega
    subst enM
    have hf := fcN_le al (P.2 n).2.2.2 ns
    have et : tfP (hOf τ ns) al s0 (gbP n) 0 n P x = gbP n P x := rfl
    rw [et]
    unfold gbP
    rw [seekBest_s]
    simp only [lt_q]
    rw [hope_e hA hns hnc h19 hh'.2.2.2.2.2.1 (by omega), show nc - (s0 + n) = 0 by omega, Nat.zero_min, nI_add, h20, e15, pk_sub hp, r1, hh'.2.2.2.2.2.1]
    by_cases c1 : (P.2 n).2.2.1 + 0 < most
    · rw [if_pos (by rw [nI_l2 (by omega) (by omega)]; exact c1), if_neg (show ¬ x.1 < lvW (P.2 n) from by unfold lvW; omega)]
      exact ⟨σ, rfl, hsr, h19, h20, r1, r2, r3, r4, r5⟩
    · rw [if_neg (by rw [nI_l2 (by omega) (by omega)]; exact c1)]
      by_cases c2 : p0 - (P.2 n).1 < 10 * most + p0 + 1 - x.1
      · rw [if_pos (by rw [nI_l2 (by omega) (by omega)]; exact c2), if_neg (by rw [nI_l2 (by omega) (by omega)]; omega), if_pos (show x.1 < lvW (P.2 n) from by unfold lvW; omega)]
        refine ⟨_, rfl, (hsr.i (by omega) _).m (by omega) _, ?_, ?_, ?_, ?_, ?_, ?_, ?_⟩
        · show gI (pI σ 21 (nI (p0 - (P.2 n).1))) 19 = _
          rw [gI_ne (by omega)]; exact h19
        · show gI (pI σ 21 (nI (p0 - (P.2 n).1))) 20 = _
          rw [gI_ne (by omega)]; exact h20
        · show gI (pI σ 21 (nI (p0 - (P.2 n).1))) 21 = nI (10 * most + p0 + 1 - lvW (P.2 n))
          rw [gI_same]
          unfold lvW
          exact congrArg nI (by omega)
        · show 10 * most ≤ lvW (P.2 n)
          unfold lvW; omega
        · show lvW (P.2 n) ≤ _
          unfold lvW; omega
        · intro _ k hk
          rw [gM_same]
          show va_cpy (gM σ 27) _ (0 : Int32).toNatClampNeg (0 : Int32).toNatClampNeg (6 : Int32).toNatClampNeg (s0 + k) = _
          rw [show (0 : Int32).toNatClampNeg = 0 from rfl, show (6 : Int32).toNatClampNeg = 6 by decide]
          unfold va_cpy
          rw [if_pos (by omega), show 0 + (s0 + k - 0) = s0 + k by omega]
          exact r5 k hk
        · intro k hk
          rw [gM_ne (by omega)]
          exact r5 k hk
      · rw [if_neg (by rw [nI_l2 (by omega) (by omega)]; exact c2), if_neg (show ¬ x.1 < lvW (P.2 n) from by unfold lvW; omega)]
        exact ⟨σ, rfl, hsr, h19, h20, r1, r2, r3, r4, r5⟩
  | succ m ih =>
    intro D n P σ x hn hD hsr h19 h20 hb hp hV hrc
    obtain ⟨D', rfl⟩ : ∃ D', D = D' + 1 := ⟨D - 1, by omega⟩
    have hb' := hb
    obtain ⟨b1, b2, b3, b4, b5⟩ := hb'
    have hrc' := hrc
    obtain ⟨r1, r2, r3, r4, r5⟩ := hrc'
    have hh' := hsr.house hh
    have e15 : gI σ 15 = nI p0 := (hsr.1 15 (by omega)).trans h15
    have hf := fcN_le al (P.2 n).2.2.2 ns
    have vm := mxR_m (h := hOf τ ns) (al := al) (m + 1) (s0 + n) (P.2 n)
    have vf : mxN (hOf τ ns) al lvR (m + 1) (s0 + n) (P.2 n) ≤ (P.2 n).2.2.1 + fcN al (P.2 n).2.2.2 ns := mxR_f (h := hOf τ ns) (al := al) (m + 1) (s0 + n) (P.2 n)
    have vg := mxR_ge (h := hOf τ ns) (al := al) (m + 1) (s0 + n) (P.2 n)
    have wh := mxW_hi (h := hOf τ ns) (al := al) (m + 1) (s0 + n) (P.2 n) b1
    have wp := mxW_p (h := hOf τ ns) (al := al) (B := most) (m + 1) (s0 + n) (P.2 n) hV
    rw [seekBest_s]
    simp only [lt_q]
    rw [hope_e hA hns hnc h19 hh'.2.2.2.2.2.1 (by omega), nI_add, h20, e15, pk_sub hp, r1, hh'.2.2.2.2.2.1]
    by_cases c1 : (P.2 n).2.2.1 + min (nc - (s0 + n)) (fcN al (P.2 n).2.2.2 ns) < most
    · rw [if_pos (by rw [nI_l2 (by omega) (by omega)]; exact c1), best_no hn (by omega)]
      exact ⟨σ, rfl, hsr, h19, h20, hrc⟩
    rw [if_neg (by rw [nI_l2 (by omega) (by omega)]; exact c1)]
    by_cases c2 : p0 - (P.2 n).1 < 10 * most + p0 + 1 - x.1
    · rw [if_pos (by rw [nI_l2 (by omega) (by omega)]; exact c2), if_pos (by rw [nI_l2 (by omega) (by omega)]; omega), ck_t (inb_n (show s0 + n < 6 by omega) (by omega)), nI_c (by omega), nI_1]
      have vcut : mxN (hOf τ ns) al lvR m (s0 + n + 1) (P.2 n) ≤ most := Nat.le_trans (mxN_ge (h := hOf τ ns) (k := 0) (Nat.zero_le _) rfl) hV
      obtain ⟨σ1, f1, f2, f3, f4, f5⟩ := ih D' (n + 1) (chP (hOf τ ns) (s0 + n) n 0 P) (pM σ 27 (upd (gM σ 27) (s0 + n) (-9))) x (by omega) (by omega) (hsr.m (by omega) _) h19 h20 (by rw [chP_2]; exact nb_st (Nat.zero_le _) hb) (by rw [chP_2]; exact hp) (by rw [chP_2]; exact vcut) (rcB_go hrc rfl)
      rw [chP_2, stN_0] at f1
      have f1' : fX2_seekBest_7 D' (nI (s0 + n + 1)) (nI (P.2 n).2.2.2) (PZ (P.2 n).2.1) (nI (P.2 n).1) (nI (P.2 n).2.2.1) (pM σ 27 (upd (gM σ 27) (s0 + n) (-9))) = some σ1 := f1
      rw [f1', Option.bind_some]
      generalize hy0 : tfP (hOf τ ns) al s0 (gbP M) m (n + 1) (chP (hOf τ ns) (s0 + n) n 0 P) x = y0 at f5
      have yg := best_ge (h := hOf τ ns) (al := al) (s0 := s0) (M := M) (m := m) (n := n + 1) (P := chP (hOf τ ns) (s0 + n) n 0 P) (x := x) (by omega)
      rw [hy0, chP_2, stN_0] at yg
      have yW : mxN (hOf τ ns) al lvW m (s0 + (n + 1)) (P.2 n) ≤ y0.1 := yg.2
      let F : Nat → BX → BX := fun k z => if chB al (P.2 n).2.2.2 k = true then tfP (hOf τ ns) al s0 (gbP M) m (n + 1) (chP (hOf τ ns) (s0 + n) n k P) z else z
      have eT : tfP (hOf τ ns) al s0 (gbP M) (m + 1) n P x = fdr F ns 1 y0 := by
        rw [← hy0]
        rfl
      rw [eT]
      have Fge : ∀ k z, z.1 ≤ (F k z).1 := fun k z => by
        show z.1 ≤ (if chB al (P.2 n).2.2.2 k = true then tfP (hOf τ ns) al s0 (gbP M) m (n + 1) (chP (hOf τ ns) (s0 + n) n k P) z else z).1
        split
        · exact (best_ge (by omega)).1
        · exact Nat.le_refl _
      refine for_inv (Q := fun k (a : Int32 × QS) => a.1 = nI k ∧ srC σ0 a.2 ∧ gI a.2 19 = nI A ∧ gI a.2 20 = nI most ∧ rcB a.2 s0 n M most p0 P (fdr F k 1 y0) ∧ y0.1 ≤ (fdr F k 1 y0).1) ns (fun o => ∃ σ', o = some σ' ∧ srC σ0 σ' ∧ gI σ' 19 = nI A ∧ gI σ' 20 = nI most ∧ rcB σ' s0 n M most p0 P (fdr F ns 1 y0)) (by omega) ⟨rfl, f2, f3, f4, rcB_back f5, Nat.le_refl _⟩ ?_ ?_
      · rintro k ⟨a1, σk⟩ hk ⟨e1, e2, e3, e4, e5, e6⟩
        have e1' : a1 = nI k := e1
        subst e1'
        have e2' : srC σ0 σk := e2
        have e3' : gI σk 19 = nI A := e3
        have hhk := e2'.house hh
        have es : fdr F (k + 1) 1 y0 = F (k + 1) (fdr F k 1 y0) := by rw [fdr_end, Nat.add_comm 1 k]
        rw [es]
        generalize hz : fdr F k 1 y0 = z at e5 e6
        have e5' : rcB σk s0 n M most p0 P z := e5
        have e6' : y0.1 ≤ z.1 := e6
        have hFz := Fge (k + 1) z
        by_cases e : chB al (P.2 n).2.2.2 (k + 1) = true ∧ ¬ (P.2 n).1 < lkZ (hOf τ ns) k (s0 + n) (P.2 n).2.1 (P.2 n).2.2.2
        · have hr : (stN (hOf τ ns) (s0 + n) (k + 1) (P.2 n)).2.2.1 = (P.2 n).2.2.1 + 1 := by rw [stN_yes e.2]
          have sp := stN_p (hOf τ ns) (s0 + n) (k + 1) (P.2 n)
          have vch : mxN (hOf τ ns) al lvR m (s0 + n + 1) (stN (hOf τ ns) (s0 + n) (k + 1) (P.2 n)) ≤ most := Nat.le_trans (mxN_ge (h := hOf τ ns) (by show k + 1 ≤ ns; omega) e.1) hV
          obtain ⟨σ2, g1, g2, g3, g4, g5⟩ := ih D' (n + 1) (chP (hOf τ ns) (s0 + n) n (k + 1) P) (pM σk 27 (upd (gM σk 27) (s0 + n) (nI k))) z (by omega) (by omega) (e2'.m (by omega) _) e3' e4 (by rw [chP_2]; exact nb_st (h := hOf τ ns) (by show k + 1 ≤ ns; omega) hb) (by rw [chP_2]; omega) (by rw [chP_2]; exact vch) (rcB_go e5' (by show nI k = encC (k + 1); unfold encC; rw [if_neg (by omega)]; rfl))
          rw [chP_2, hr] at g1
          have g1' : fX2_seekBest_7 D' (nI (s0 + n + 1)) (nI (stN (hOf τ ns) (s0 + n) (k + 1) (P.2 n)).2.2.2) (PZ (stN (hOf τ ns) (s0 + n) (k + 1) (P.2 n)).2.1) (nI (stN (hOf τ ns) (s0 + n) (k + 1) (P.2 n)).1) (nI ((P.2 n).2.2.1 + 1)) (pM σk 27 (upd (gM σk 27) (s0 + n) (nI k))) = some σ2 := g1
          have eF : F (k + 1) z = tfP (hOf τ ns) al s0 (gbP M) m (n + 1) (chP (hOf τ ns) (s0 + n) n (k + 1) P) z := if_pos e.1
          refine ⟨(nI (k + 1), σ2), ⟨rfl, g2, g3, g4, ?_, by omega⟩, fun r => ?_⟩
          · rw [eF]
            exact rcB_back g5
          · rw [sbB_step hhk hA e3' (by omega) (by omega) (by omega) hb hk r, if_pos e, nI_1, g1', Option.bind_some]
        · have eF : F (k + 1) z = z := by
            show (if chB al (P.2 n).2.2.2 (k + 1) = true then tfP (hOf τ ns) al s0 (gbP M) m (n + 1) (chP (hOf τ ns) (s0 + n) n (k + 1) P) z else z) = z
            by_cases q : chB al (P.2 n).2.2.2 (k + 1) = true
            · rw [if_pos q]
              refine best_no (by omega) ?_
              have w : (P.2 n).1 < lkZ (hOf τ ns) k (s0 + n) (P.2 n).2.1 (P.2 n).2.2.2 := Classical.byContradiction fun w => e ⟨q, w⟩
              have := mxN_mono (h := hOf τ ns) (al := al) (al' := al) (lv := lvW) lvW_dm (fun _ h => h) m (s0 + (n + 1)) _ _ (dmN_no (h := hOf τ ns) (s := s0 + n) (i := k) (dmN_rf (P.2 n)) w)
              rw [chP_2]
              omega
            · rw [if_neg q]
          refine ⟨(nI (k + 1), σk), ⟨rfl, e2, e3, e4, by rw [eF]; exact e5', by rw [eF]; exact e6'⟩, fun r => ?_⟩
          rw [sbB_step hhk hA e3' (by omega) (by omega) (by omega) hb hk r, if_neg e]
      · rintro ⟨a1, σk⟩ ⟨e1, e2, e3, e4, e5, e6⟩ r
        have e1' : a1 = nI ns := e1
        subst e1'
        have e2' : srC σ0 σk := e2
        rw [sbB_end (e2'.house hh).2.2.2.1 hns]
        exact ⟨σk, rfl, e2, e3, e4, e5⟩
    · rw [if_neg (by rw [nI_l2 (by omega) (by omega)]; exact c2), best_no hn (by omega)]
      exact ⟨σ, rfl, hsr, h19, h20, hrc⟩
/-- the reference's best so far -/
noncomputable def moI (x : BX) : Int32 := if x.1 = 0 then -1 else nI ((x.1 - 1) / 10)
noncomputable def feI (p0 : Nat) (x : BX) : Int32 := if x.1 = 0 then 999 else nI (p0 - (x.1 - 1) % 10)
def rfB (τ0 τ : QS) : Prop := (∀ j, j < 63 → j ≠ 56 → j ≠ 57 → gM τ j = gM τ0 j) ∧ (∀ j, j ≤ 10 → gI τ j = gI τ0 j) ∧ ∀ j, gJ τ j = gJ τ0 j
def rwB (τ0 τ : QS) (j M : Nat) (x : BX) : Prop := (∀ q, (q < 40 * j ∨ 40 * j + 40 ≤ q) → gM τ 57 q = gM τ0 57 q) ∧ (x.1 = 0 → gM τ 56 = gM τ0 56) ∧ (x.1 ≠ 0 → gM τ 56 = upd (gM τ0 56) j (nI M) ∧ ∀ k, k < M → gM τ 57 (40 * j + k) = encC (x.2 k))
noncomputable def brB (x1 : Int32) : (Int32 × Int32 × QS → Option (Int32 × QS)) → Int32 × Int32 × QS → Option (Int32 × QS) := (fun (r3 : Int32 × Int32 × QS → Option (Int32 × QS)) (a2 : Int32 × Int32 × QS) => Option.bind (fX5_nextPlan_50 a2.2.2) (fun (q4 : Int32 × QS) => (if q4.1 = 0 then lt_ (pI q4.2 2 a2.2.1) (fun (S5 : QS) => some (a2.1, S5)) else ck_ (inb (gI q4.2 11) 7) (lt_ (gM q4.2 65 ((gI q4.2 11).toNatClampNeg)) (fun (v7 : Int32) => ck_ (inb (gI q4.2 11) 7) (lt_ ((gM q4.2 51 2) - (gM q4.2 63 ((gI q4.2 11).toNatClampNeg))) (fun (v9 : Int32) => lt_ (fun (_ : Unit) => Option.bind (fX5_makeRow_50 x1 (gI q4.2 11) q4.2) (fun (q11 : QS) => lp_ (fun (r13 : Int32 × QS → Option (Int32 × QS)) (a12 : Int32 × QS) => (if (gI a12.2 11) ≤ a12.1 then r3 (v7, v9, a12.2) else ck_ (inb a12.1 7) (lt_ (fun (v16 : Int32) => ck_ (inb (((40 : Int32) * x1) + a12.1) 240) (lt_ (pM a12.2 57 (upd (gM a12.2 57) ((((40 : Int32) * x1) + a12.1).toNatClampNeg) v16)) (fun (S18 : QS) => r13 ((a12.1 + (1 : Int32)), S18)))) (fun (j15 : Int32 → Option (Int32 × QS)) => (if (gM a12.2 67 a12.1.toNatClampNeg) = 0 then j15 (-9 : Int32) else ck_ (inb a12.1 7) (j15 ((gM a12.2 67 a12.1.toNatClampNeg) - (1 : Int32)))))))) FV ((0 : Int32), q11))) (fun (j10 : Unit → Option (Int32 × QS)) => (if a2.1 < v7 then j10 () else (if v7 = a2.1 then (if a2.2.1 ≤ v9 then r3 (a2.1, a2.2.1, q4.2) else j10 ()) else r3 (a2.1, a2.2.1, q4.2)))))))))))
theorem bs_far {σ τ0 τ τ' : QS} {ns nc : Nat} {h : HH} {al : Nat → Bool} {s0 M : Nat} (B : bsP σ τ ns nc h al s0 M) (hm : ∀ j, j < 56 → gM τ' j = gM τ j) (hi : ∀ j, gI τ' j = gI τ j) : bsP σ τ' ns nc h al s0 M := by
  obtain ⟨b1, b2, b3, b4, b5, b6, b7⟩ := B
  refine ⟨?_, ?_, ?_, ?_, ?_, ?_, b7⟩
  · unfold HouseOk
    rw [hi 1, hi 0, hm 52 (by omega), hm 53 (by omega), hm 54 (by omega), hm 55 (by omega)]
    exact b1
  · unfold hOf
    rw [hm 52 (by omega), hm 53 (by omega), hm 54 (by omega), hm 55 (by omega)]
    exact b2
  · unfold alR
    rw [hm 53 (by omega), hm 51 (by omega)]
    exact b3
  · rw [hm 51 (by omega)]; exact b4
  · rw [hi]; exact b5
  · rw [hi]; exact b6
theorem best_ref {σ τ : QS} {ns nc s p c : Nat} {a : Int} (hn : nowP σ τ ns nc s p a c) {j : Nat} (hj : j < 6) (h0 : ns ≠ 0) : ∃ τ', fX5_best_50 (nI j) τ = some (moI (bpP (hOf τ ns) (alR τ) s (nc - s) (nc - s) 0 (P0 p a c)), pI τ' 2 (feI p (bpP (hOf τ ns) (alR τ) s (nc - s) (nc - s) 0 (P0 p a c)))) ∧ rfB τ τ' ∧ rwB τ τ' j (nc - s) (bpP (hOf τ ns) (alR τ) s (nc - s) (nc - s) 0 (P0 p a c)) := by
  obtain ⟨hh, hs, hp, ⟨a1, a2⟩, hc, ⟨-, e1⟩, ⟨-, e2⟩, ⟨-, e4⟩, ⟨-, e6⟩, -⟩ := hn
  have hns := hh.1
  have hnc := hh.2.1
  have I : itP (X := BX) (S := Int32 × Int32 × QS) (β := Int32 × QS) p σ ns nc (hOf τ ns) (alR τ) s (nc - s) (fun x τ => (moI x, feI p x, τ)) (fun r3 x τ => ck_ (inb (gI τ 11) 7) (lt_ (gM τ 65 ((gI τ 11).toNatClampNeg)) (fun (v7 : Int32) => ck_ (inb (gI τ 11) 7) (lt_ ((gM τ 51 2) - (gM τ 63 ((gI τ 11).toNatClampNeg))) (fun (v9 : Int32) => lt_ (fun (_ : Unit) => Option.bind (fX5_makeRow_50 (nI j) (gI τ 11) τ) (fun (q11 : QS) => lp_ (fun (r13 : Int32 × QS → Option (Int32 × QS)) (a12 : Int32 × QS) => (if (gI a12.2 11) ≤ a12.1 then r3 (v7, v9, a12.2) else ck_ (inb a12.1 7) (lt_ (fun (v16 : Int32) => ck_ (inb (((40 : Int32) * (nI j)) + a12.1) 240) (lt_ (pM a12.2 57 (upd (gM a12.2 57) ((((40 : Int32) * (nI j)) + a12.1).toNatClampNeg) v16)) (fun (S18 : QS) => r13 ((a12.1 + (1 : Int32)), S18)))) (fun (j15 : Int32 → Option (Int32 × QS)) => (if (gM a12.2 67 a12.1.toNatClampNeg) = 0 then j15 (-9 : Int32) else ck_ (inb a12.1 7) (j15 ((gM a12.2 67 a12.1.toNatClampNeg) - (1 : Int32)))))))) FV ((0 : Int32), q11))) (fun (j10 : Unit → Option (Int32 × QS)) => (if (moI x) < v7 then j10 () else (if v7 = (moI x) then (if (feI p x) ≤ v9 then r3 ((moI x), (feI p x), τ) else j10 ()) else r3 ((moI x), (feI p x), τ))))))))) (fun x τ => lt_ (pI τ 2 (feI p x)) (fun (S5 : QS) => some (moI x, S5))) (brB (nI j)) (gbP (nc - s)) (fun x τ' => (x.1 ≤ 100 ∧ (x.1 - 1) % 10 ≤ p) ∧ bsP σ τ' ns nc (hOf τ ns) (alR τ) s (nc - s) ∧ rfB τ τ' ∧ rwB τ τ' j (nc - s) x) := by
    refine ⟨fun x τ1 τ2 hJ hb => ?_, fun x τ1 hJ => hJ.2.1, fun x τ1 P hJ ha ho => ?_, fun r x τ1 => rfl⟩
    · obtain ⟨j1, j2, j3, j4⟩ := hJ
      refine ⟨j1, bs_far (τ0 := τ) j2 (fun k hk => hb.1 k (by omega)) hb.2.1, ⟨fun k h1 h2 h3 => (hb.1 k (by omega)).trans (j3.1 k h1 h2 h3), fun k hk => (hb.2.1 k).trans (j3.2.1 k hk), fun k => (hb.2.2 k).trans (j3.2.2 k)⟩, ?_⟩
      unfold rwB
      rw [hb.1 57 (by omega), hb.1 56 (by omega)]
      exact j4
    · obtain ⟨⟨x100, xp⟩, B, j3, j4⟩ := hJ
      obtain ⟨a63, a64, a65, a66⟩ := ha.2 (nc - s) (Nat.le_refl _)
      obtain ⟨b1, b2, b3, b4, b5⟩ := ho.1 (nc - s) (Nat.le_refl _)
      have e51 : gM τ1 51 2 = nI p := by rw [j3.1 51 (by omega) (by omega) (by omega)]; exact e2
      have c1 : (nI (nc - s)).toNatClampNeg = nc - s := nI_c (by omega)
      have hi : inb (nI (nc - s)) 7 = true := inb_n (by omega) (by omega)
      let f57 : Nat → Int32 := fun q => if 40 * j ≤ q ∧ q < 40 * j + (nc - s) then encC (P.1 (q - 40 * j)) else if 40 * j ≤ q ∧ q < 40 * j + 40 then 0 else gM τ1 57 q
      let τn : QS := pM (pM τ1 56 (upd (gM τ1 56) j (nI (nc - s)))) 57 f57
      have cpy : ∀ (r3 : Int32 × Int32 × QS → Option (Int32 × QS)) (v7 v9 : Int32), Option.bind (fX5_makeRow_50 (nI j) (gI τ1 11) τ1) (fun (q11 : QS) => lp_ (fun (r13 : Int32 × QS → Option (Int32 × QS)) (a12 : Int32 × QS) => (if (gI a12.2 11) ≤ a12.1 then r3 (v7, v9, a12.2) else ck_ (inb a12.1 7) (lt_ (fun (v16 : Int32) => ck_ (inb (((40 : Int32) * (nI j)) + a12.1) 240) (lt_ (pM a12.2 57 (upd (gM a12.2 57) ((((40 : Int32) * (nI j)) + a12.1).toNatClampNeg) v16)) (fun (S18 : QS) => r13 ((a12.1 + (1 : Int32)), S18)))) (fun (j15 : Int32 → Option (Int32 × QS)) => (if (gM a12.2 67 a12.1.toNatClampNeg) = 0 then j15 (-9 : Int32) else ck_ (inb a12.1 7) (j15 ((gM a12.2 67 a12.1.toNatClampNeg) - (1 : Int32)))))))) FV ((0 : Int32), q11)) = r3 (v7, v9, τn) := fun r3 v7 v9 => by
        rw [makeRow_e hj, Option.bind_some, B.2.2.2.2.1]
        refine for_fu (fun k => (nI k, pM (pM τ1 56 (upd (gM τ1 56) j (nI (nc - s)))) 57 (fun q => if 40 * j ≤ q ∧ q < 40 * j + k then encC (P.1 (q - 40 * j)) else if 40 * j ≤ q ∧ q < 40 * j + 40 then 0 else gM τ1 57 q))) (nc - s) ?_ (by omega) ?_ ?_
        · have : (fun q => if 40 * j ≤ q ∧ q < 40 * j + 0 then encC (P.1 (q - 40 * j)) else if 40 * j ≤ q ∧ q < 40 * j + 40 then 0 else gM τ1 57 q) = (fun q => if 40 * j ≤ q ∧ q < 40 * j + 40 then 0 else gM τ1 57 q) := by
            funext q
            rw [if_neg (by omega)]
          show _ = (nI 0, pM _ 57 (fun q => if 40 * j ≤ q ∧ q < 40 * j + 0 then encC (P.1 (q - 40 * j)) else if 40 * j ≤ q ∧ q < 40 * j + 40 then 0 else gM τ1 57 q))
          rw [this]
          rfl
        · intro r k hk
          have e11 : gI (pM (pM τ1 56 (upd (gM τ1 56) j (nI (nc - s)))) 57 (fun q => if 40 * j ≤ q ∧ q < 40 * j + k then encC (P.1 (q - 40 * j)) else if 40 * j ≤ q ∧ q < 40 * j + 40 then 0 else gM τ1 57 q)) 11 = nI (nc - s) := B.2.2.2.2.1
          have e67 : gM (pM (pM τ1 56 (upd (gM τ1 56) j (nI (nc - s)))) 57 (fun q => if 40 * j ≤ q ∧ q < 40 * j + k then encC (P.1 (q - 40 * j)) else if 40 * j ≤ q ∧ q < 40 * j + 40 then 0 else gM τ1 57 q)) 67 k = nI (P.1 k) := by
            rw [gM_ne (by omega), gM_ne (by omega)]
            exact ha.1 k hk
          have pk := ho.2 k hk
          simp only [lt_q]
          rw [e11, if_neg (by rw [nI_L (by omega) (by omega)]; omega), nI_c (by omega), e67, idx40, ck_t (inb_n (show k < 7 from by omega) (by omega))]
          have fin : ∀ v, v = encC (P.1 k) → ck_ (inb (nI (40 * j + k)) 240) (r (nI k + (1 : Int32), pM (pM (pM τ1 56 (upd (gM τ1 56) j (nI (nc - s)))) 57 (fun q => if 40 * j ≤ q ∧ q < 40 * j + k then encC (P.1 (q - 40 * j)) else if 40 * j ≤ q ∧ q < 40 * j + 40 then 0 else gM τ1 57 q)) 57 (upd (gM (pM (pM τ1 56 (upd (gM τ1 56) j (nI (nc - s)))) 57 (fun q => if 40 * j ≤ q ∧ q < 40 * j + k then encC (P.1 (q - 40 * j)) else if 40 * j ≤ q ∧ q < 40 * j + 40 then 0 else gM τ1 57 q)) 57) (nI (40 * j + k)).toNatClampNeg v))) = r (nI (k + 1), pM (pM τ1 56 (upd (gM τ1 56) j (nI (nc - s)))) 57 (fun q => if 40 * j ≤ q ∧ q < 40 * j + (k + 1) then encC (P.1 (q - 40 * j)) else if 40 * j ≤ q ∧ q < 40 * j + 40 then 0 else gM τ1 57 q)) := fun v hv => by
            rw [ck_t (inb_n (by omega) (by omega)), nI_c (by omega), nI_1, pM_pM, gM_same, hv]
            have : upd (fun q => if 40 * j ≤ q ∧ q < 40 * j + k then encC (P.1 (q - 40 * j)) else if 40 * j ≤ q ∧ q < 40 * j + 40 then 0 else gM τ1 57 q) (40 * j + k) (encC (P.1 k)) = (fun q => if 40 * j ≤ q ∧ q < 40 * j + (k + 1) then encC (P.1 (q - 40 * j)) else if 40 * j ≤ q ∧ q < 40 * j + 40 then 0 else gM τ1 57 q) := by
              funext q
              by_cases e : q = 40 * j + k
              · rw [e, upd_same, if_pos (by omega), show 40 * j + k - 40 * j = k by omega]
              · rw [upd_ne e]
                by_cases e2 : 40 * j ≤ q ∧ q < 40 * j + k
                · rw [if_pos e2, if_pos (by omega)]
                · rw [if_neg e2, if_neg (show ¬ (40 * j ≤ q ∧ q < 40 * j + (k + 1)) from by omega)]
            rw [this]
          by_cases z : P.1 k = 0
          · rw [if_pos ((nI0_e (by omega)).mpr z)]
            exact fin _ (by unfold encC; rw [if_pos z])
          · rw [if_neg (fun w => z ((nI0_e (by omega)).mp w)), ck_t (inb_n (show k < 7 from by omega) (by omega))]
            exact fin (nI (P.1 k) - 1) (by unfold encC; rw [if_neg z]; show nI _ - nI 1 = _; rw [pk_sub (by omega)])
        · intro r
          have e11 : gI (pM (pM τ1 56 (upd (gM τ1 56) j (nI (nc - s)))) 57 f57) 11 = nI (nc - s) := B.2.2.2.2.1
          show (if gI (pM (pM τ1 56 (upd (gM τ1 56) j (nI (nc - s)))) 57 f57) 11 ≤ nI (nc - s) then _ else _) = _
          rw [e11, if_pos (by rw [nI_L (by omega) (by omega)]; omega)]
      have better : x.1 < lvW (P.2 (nc - s)) → ∀ r : Int32 × Int32 × QS → Option (Int32 × QS), r (nI (P.2 (nc - s)).2.2.1, nI p - nI (P.2 (nc - s)).1, τn) = r (moI (gbP (nc - s) P x), feI p (gbP (nc - s) P x), τn) := fun q r => by
        have e1 : gbP (nc - s) P x = (lvW (P.2 (nc - s)), P.1) := by unfold gbP; rw [if_pos q]
        rw [e1]
        have m1 : moI (lvW (P.2 (nc - s)), P.1) = nI (P.2 (nc - s)).2.2.1 := by
          unfold moI
          rw [if_neg (show ¬ (lvW (P.2 (nc - s)), P.1).1 = 0 from by show ¬ lvW _ = 0; unfold lvW; omega)]
          refine congrArg nI ?_
          show (lvW (P.2 (nc - s)) - 1) / 10 = _
          unfold lvW
          omega
        have m2 : feI p (lvW (P.2 (nc - s)), P.1) = nI (p - (P.2 (nc - s)).1) := by
          unfold feI
          rw [if_neg (show ¬ (lvW (P.2 (nc - s)), P.1).1 = 0 from by show ¬ lvW _ = 0; unfold lvW; omega)]
          refine congrArg nI ?_
          show p - (lvW (P.2 (nc - s)) - 1) % 10 = _
          unfold lvW
          omega
        rw [m1, m2, pk_sub b1]
      have Bn : bsP σ τn ns nc (hOf τ ns) (alR τ) s (nc - s) := bs_far (τ0 := τ) B (fun k hk => by show gM (pM (pM τ1 56 _) 57 _) k = _; rw [gM_ne (by omega), gM_ne (by omega)]) (fun k => rfl)
      have Jn : rfB τ τn := ⟨fun k h1 h2 h3 => by show gM (pM (pM τ1 56 _) 57 _) k = _; rw [gM_ne h3, gM_ne h2]; exact j3.1 k h1 h2 h3, j3.2.1, j3.2.2⟩
      have Kn : x.1 < lvW (P.2 (nc - s)) → ((gbP (nc - s) P x).1 ≤ 100 ∧ ((gbP (nc - s) P x).1 - 1) % 10 ≤ p) ∧ rwB τ τn j (nc - s) (gbP (nc - s) P x) := fun q => by
        have e1 : gbP (nc - s) P x = (lvW (P.2 (nc - s)), P.1) := by unfold gbP; rw [if_pos q]
        rw [e1]
        refine ⟨⟨?_, ?_⟩, fun q hq => ?_, fun w => ?_, fun _ => ⟨?_, fun k hk => ?_⟩⟩
        · show lvW _ ≤ 100; unfold lvW; omega
        · show (lvW _ - 1) % 10 ≤ p; unfold lvW; omega
        · show gM (pM (pM τ1 56 _) 57 f57) 57 q = _
          rw [gM_same]
          show (if 40 * j ≤ q ∧ q < 40 * j + (nc - s) then encC (P.1 (q - 40 * j)) else if 40 * j ≤ q ∧ q < 40 * j + 40 then 0 else gM τ1 57 q) = _
          rw [if_neg (by omega), if_neg (by omega)]
          exact j4.1 q hq
        · exact absurd w (by show ¬ lvW _ = 0; unfold lvW; omega)
        · show gM (pM (pM τ1 56 _) 57 f57) 56 = _
          rw [gM_ne (by omega), gM_same]
          by_cases x0 : x.1 = 0
          · rw [j4.2.1 x0]
          · rw [(j4.2.2 x0).1]
            exact fa_upd_twice _ _ _ _
        · show gM (pM (pM τ1 56 _) 57 f57) 57 (40 * j + k) = _
          rw [gM_same]
          show (if 40 * j ≤ 40 * j + k ∧ 40 * j + k < 40 * j + (nc - s) then encC (P.1 (40 * j + k - 40 * j)) else _) = _
          rw [if_pos (by omega), show 40 * j + k - 40 * j = k by omega]
      have same : ¬ x.1 < lvW (P.2 (nc - s)) → gbP (nc - s) P x = x := fun q => by unfold gbP; rw [if_neg q]
      have keep : ∀ k, 63 ≤ k → k ≤ 67 → gM τn k = gM τ1 k := fun k h1 h2 => by show gM (pM (pM τ1 56 _) 57 _) k = _; rw [gM_ne (by omega), gM_ne (by omega)]
      have lw : lvW (P.2 (nc - s)) = 10 * (P.2 (nc - s)).2.2.1 + (P.2 (nc - s)).1 + 1 := rfl
      have vis : ∀ r3 : Int32 × Int32 × QS → Option (Int32 × QS), ck_ (inb (gI τ1 11) 7) (lt_ (gM τ1 65 ((gI τ1 11).toNatClampNeg)) (fun (v7 : Int32) => ck_ (inb (gI τ1 11) 7) (lt_ ((gM τ1 51 2) - (gM τ1 63 ((gI τ1 11).toNatClampNeg))) (fun (v9 : Int32) => lt_ (fun (_ : Unit) => Option.bind (fX5_makeRow_50 (nI j) (gI τ1 11) τ1) (fun (q11 : QS) => lp_ (fun (r13 : Int32 × QS → Option (Int32 × QS)) (a12 : Int32 × QS) => (if (gI a12.2 11) ≤ a12.1 then r3 (v7, v9, a12.2) else ck_ (inb a12.1 7) (lt_ (fun (v16 : Int32) => ck_ (inb (((40 : Int32) * (nI j)) + a12.1) 240) (lt_ (pM a12.2 57 (upd (gM a12.2 57) ((((40 : Int32) * (nI j)) + a12.1).toNatClampNeg) v16)) (fun (S18 : QS) => r13 ((a12.1 + (1 : Int32)), S18)))) (fun (j15 : Int32 → Option (Int32 × QS)) => (if (gM a12.2 67 a12.1.toNatClampNeg) = 0 then j15 (-9 : Int32) else ck_ (inb a12.1 7) (j15 ((gM a12.2 67 a12.1.toNatClampNeg) - (1 : Int32)))))))) FV ((0 : Int32), q11))) (fun (j10 : Unit → Option (Int32 × QS)) => (if (moI x) < v7 then j10 () else (if v7 = (moI x) then (if (feI p x) ≤ v9 then r3 ((moI x), (feI p x), τ1) else j10 ()) else r3 ((moI x), (feI p x), τ1)))))))) = if x.1 < lvW (P.2 (nc - s)) then r3 (nI (P.2 (nc - s)).2.2.1, nI p - nI (P.2 (nc - s)).1, τn) else r3 (moI x, feI p x, τ1) := fun r3 => by
        have hi2 : inb (gI τ1 11) 7 = true := by rw [B.2.2.2.2.1]; exact hi
        have c11 : (gI τ1 11).toNatClampNeg = nc - s := by rw [B.2.2.2.2.1]; exact c1
        refine (ck_t hi2).trans ?_
        refine (lt_q _ _).trans ?_
        refine (ck_t hi2).trans ?_
        refine (lt_q _ _).trans ?_
        refine (lt_q _ _).trans ?_
        rw [c11, a65, a63, e51]
        simp only []
        rw [cpy r3 (nI (P.2 (nc - s)).2.2.1) (nI p - nI (P.2 (nc - s)).1), pk_sub b1]
        unfold moI feI
        by_cases x0 : x.1 = 0
        · rw [if_pos x0, if_pos (show (-1 : Int32) < nI (P.2 (nc - s)).2.2.1 from by rw [fa_lt, nI_toInt (by omega)]; have : (-1 : Int32).toInt = -1 := by decide
                                                                                     omega), if_pos (show x.1 < lvW (P.2 (nc - s)) from by omega)]
        · rw [if_neg x0, if_neg x0]
          by_cases g1 : (x.1 - 1) / 10 < (P.2 (nc - s)).2.2.1
          · rw [if_pos (show nI ((x.1 - 1) / 10) < nI (P.2 (nc - s)).2.2.1 from by rw [nI_l2 (by omega) (by omega)]; exact g1), if_pos (show x.1 < lvW (P.2 (nc - s)) from by omega)]
          · rw [if_neg (show ¬ nI ((x.1 - 1) / 10) < nI (P.2 (nc - s)).2.2.1 from by rw [nI_l2 (by omega) (by omega)]; exact g1)]
            by_cases g2 : (P.2 (nc - s)).2.2.1 = (x.1 - 1) / 10
            · rw [if_pos (by rw [g2])]
              by_cases g3 : p - (x.1 - 1) % 10 ≤ p - (P.2 (nc - s)).1
              · rw [if_pos (by rw [nI_L (by omega) (by omega)]; exact g3), if_neg (show ¬ x.1 < lvW (P.2 (nc - s)) from by omega)]
              · rw [if_neg (by rw [nI_L (by omega) (by omega)]; exact g3), if_pos (show x.1 < lvW (P.2 (nc - s)) from by omega)]
            · rw [if_neg (by rw [nI_e (by omega) (by omega)]; exact g2), if_neg (show ¬ x.1 < lvW (P.2 (nc - s)) from by omega)]
      by_cases q : x.1 < lvW (P.2 (nc - s))
      · refine ⟨τn, fun r => ?_, ⟨(Kn q).1, Bn, Jn, (Kn q).2⟩, keep⟩
        refine (vis r).trans ?_
        rw [if_pos q]
        exact better q r
      · refine ⟨τ1, fun r => ?_, ?_, fun k _ _ => rfl⟩
        · refine (vis r).trans ?_
          rw [if_neg q, same q]
        · rw [same q]
          exact ⟨⟨x100, xp⟩, B, j3, j4⟩
  have J0 := jb_0 hh e1 hs (nI p)
  obtain ⟨τ', g1, g2⟩ := plan_loop (by omega) I rfl hns (by omega) (x := (0, fun _ => 0)) (τ := bpT τ (nI p)) (P := P0 p a c) ⟨⟨Nat.zero_le _, Nat.zero_le _⟩, J0.1, ⟨fun k h1 _ _ => J0.2.1 k h1, J0.2.2.1, J0.2.2.2⟩, fun q _ => by rw [J0.2.1 57 (by omega)], fun _ => J0.2.1 56 (by omega), fun w => absurd rfl w⟩ (bp_12 _ _) (bp_at e4 e6) (ok_0 (Nat.le_refl _) a1 a2 hc) (bp_67 _ _)
  refine ⟨τ', ?_, g1.2.2.1, g1.2.2.2⟩
  unfold fX5_best_50
  rw [row_good hj, if_neg one_ne, hh.2.2.2.2.1, if_neg (by rw [nI0_e (by omega)]; exact h0), e2, begin_e, Option.bind_some]
  exact g2
