/-! ===== least ===== -/
theorem fdr_const {X : Type} {F : Nat → X → X} {x : X} : ∀ (d j : Nat), (∀ k, j ≤ k → k < j + d → F k x = x) → fdr F d j x = x
  | 0, _, _ => rfl
  | d + 1, j, h => by
    show fdr F d (j + 1) (F j x) = x
    rw [h j (Nat.le_refl j) (by omega)]
    exact fdr_const d (j + 1) (fun k h1 h2 => h k (by omega) (by omega))
theorem tf_const {X : Type} {h : HH} {al : Nat → Bool} {s0 M : Nat} {G : PS → X → X} (V : Nat → PS → Prop) (hV : ∀ n P k, V n P → k ≤ hN h → chB al (P.2 n).2.2.2 k = true → V (n + 1) (chP h (s0 + n) n k P)) {x : X} (hG : ∀ P, V M P → G P x = x) : ∀ (m n : Nat) (P : PS), n + m = M → V n P → tfP h al s0 G m n P x = x
  | 0, n, P, hM, v => by
    have : n = M := by omega
    subst this
    exact hG P v
  | m + 1, n, P, hM, v => fdr_const _ _ (fun k h1 h2 => by
    show (if chB al (P.2 n).2.2.2 k = true then tfP h al s0 G m (n + 1) (chP h (s0 + n) n k P) x else x) = x
    by_cases e : chB al (P.2 n).2.2.2 k = true
    · rw [if_pos e]
      exact tf_const V hV hG m (n + 1) _ (by omega) (hV n P k v (by omega) e)
    · rw [if_neg e])
theorem fdr_rel {X : Type} {F : Nat → X → X} {R : X → X → Prop} (rf : ∀ x, R x x) (tr : ∀ x y z, R x y → R y z → R x z) : ∀ (d j : Nat) (x : X), (∀ k y, R (F k y) y) → R (fdr F d j x) x
  | 0, _, x, _ => rf x
  | d + 1, j, x, h => tr _ _ _ (fdr_rel rf tr d (j + 1) (F j x) h) (h j x)
theorem tf_rel {X : Type} {h : HH} {al : Nat → Bool} {s0 : Nat} {G : PS → X → X} {R : X → X → Prop} (rf : ∀ x, R x x) (tr : ∀ x y z, R x y → R y z → R x z) (hG : ∀ P x, R (G P x) x) : ∀ (m n : Nat) (P : PS) (x : X), R (tfP h al s0 G m n P x) x
  | 0, _, P, x => hG P x
  | m + 1, n, P, x => fdr_rel rf tr _ _ _ (fun k y => by
    show R (if chB al (P.2 n).2.2.2 k = true then tfP h al s0 G m (n + 1) (chP h (s0 + n) n k P) y else y) y
    by_cases e : chB al (P.2 n).2.2.2 k = true
    · rw [if_pos e]; exact tf_rel rf tr hG m (n + 1) _ y
    · rw [if_neg e]; exact rf y)
abbrev LX : Type := Nat × Int32
def fcC (M : Nat) (P : PS) : Int32 := if M = 0 then -9 else nI (P.1 0) - 1
def glP (M : Nat) (P : PS) (x : LX) : LX := if (P.2 M).2.2.1 = M ∧ 999 - (P.2 M).1 < x.1 then (999 - (P.2 M).1, fcC M P) else x
theorem glP_le (M : Nat) (P : PS) (x : LX) : (glP M P x).1 ≤ x.1 := by
  unfold glP
  split
  · rename_i q
    show 999 - (P.2 M).1 ≤ x.1
    omega
  · exact Nat.le_refl _
theorem least_mono {h : HH} {al : Nat → Bool} {s0 M : Nat} (m n : Nat) (P : PS) (x : LX) : (tfP h al s0 (glP M) m n P x).1 ≤ x.1 := tf_rel (R := fun a b => a.1 ≤ b.1) (fun _ => Nat.le_refl _) (fun _ _ _ p q => Nat.le_trans p q) (glP_le M) m n P x
theorem least_gone {h : HH} {al : Nat → Bool} {s0 M m n : Nat} {P : PS} {x : LX} (hM : n + m = M) (hg : x.1 ≤ 999 - (P.2 n).1) : tfP h al s0 (glP M) m n P x = x := by
  refine tf_const (M := M) (fun n P => x.1 ≤ 999 - (P.2 n).1) (fun n P k v hk e => ?_) (fun P v => ?_) m n P hM hg
  · rw [chP_2]
    have := stN_p h (s0 + n) k (P.2 n)
    omega
  · unfold glP
    rw [if_neg (fun w => by omega)]
theorem least_cut {h : HH} {al : Nat → Bool} {s0 M m n : Nat} {P : PS} {x : LX} (hM : n + m = M) (hg : (P.2 n).2.2.1 < n) : tfP h al s0 (glP M) m n P x = x := by
  refine tf_const (M := M) (fun n P => (P.2 n).2.2.1 < n) (fun n P k v hk e => ?_) (fun P v => ?_) m n P hM hg
  · rw [chP_2]
    have := stN_r h (s0 + n) k (P.2 n)
    omega
  · unfold glP
    rw [if_neg (fun w => by omega)]
theorem least_few {h : HH} {al : Nat → Bool} {s0 M m n : Nat} {P : PS} {x : LX} (hM : n + m = M) (hg : (P.2 n).2.2.1 + fcN al (P.2 n).2.2.2 (hN h) < M) : tfP h al s0 (glP M) m n P x = x := by
  refine tf_const (M := M) (fun n P => (P.2 n).2.2.1 + fcN al (P.2 n).2.2.2 (hN h) < M) (fun n P k v hk e => ?_) (fun P v => ?_) m n P hM hg
  · rw [chP_2]
    have := stN_r h (s0 + n) k (P.2 n)
    cases k with
    | zero => exact v
    | succ i =>
      rw [stN_c]
      have := fcN_step e (hN h) (by omega)
      omega
  · unfold glP
    rw [if_neg (fun w => by omega)]
theorem fc_one {al : Nat → Bool} {c : Nat} : ∀ n, 0 < fcN al c n → ∃ i, i < n ∧ chB al c (i + 1) = true
  | 0, h => absurd h (Nat.lt_irrefl 0)
  | n + 1, h => by
    by_cases e : chB al c (n + 1) = true
    · exact ⟨n, by omega, e⟩
    · have h' : 0 < fcN al c n := by
        unfold fcN at h
        rw [if_neg e] at h
        exact h
      obtain ⟨i, i1, i2⟩ := fc_one n h'
      exact ⟨i, by omega, i2⟩
theorem fdr_hit {F : Nat → LX → LX} {B i : Nat} (mono : ∀ k y, (F k y).1 ≤ y.1) (hit : ∀ y, (F i y).1 ≤ B) : ∀ (d j : Nat) (x : LX), j ≤ i → i < j + d → (fdr F d j x).1 ≤ B
  | 0, j, x, h1, h2 => by omega
  | d + 1, j, x, h1, h2 => by
    show (fdr F d (j + 1) (F j x)).1 ≤ B
    by_cases e : j = i
    · subst e
      have := fdr_rel (F := F) (R := fun a b => a.1 ≤ b.1) (fun _ => Nat.le_refl _) (fun _ _ _ p q => Nat.le_trans p q) d (j + 1) (F j x) mono
      exact Nat.le_trans this (hit x)
    · exact fdr_hit mono hit d (j + 1) _ (by omega) (by omega)
theorem least_yes {h : HH} {nc s0 M : Nat} {al : Nat → Bool} (hb : hbd h nc) (hc : s0 + M = nc) : ∀ (m n : Nat) (P : PS) (x : LX), n + m = M → (P.2 n).2.2.1 = n → m ≤ fcN al (P.2 n).2.2.2 (hN h) → 999 ≤ (P.2 n).1 + 9 * n → (tfP h al s0 (glP M) m n P x).1 ≤ 9 * M
  | 0, n, P, x, hM, hr, hf, hg => by
    have : n = M := by omega
    subst this
    show (glP n P x).1 ≤ _
    unfold glP
    by_cases q : 999 - (P.2 n).1 < x.1
    · rw [if_pos ⟨hr, q⟩]
      show 999 - (P.2 n).1 ≤ _
      omega
    · rw [if_neg (fun w => q w.2)]
      omega
  | m + 1, n, P, x, hM, hr, hf, hg => by
    obtain ⟨i, i1, i2⟩ := fc_one (hN h) (show 0 < fcN al (P.2 n).2.2.2 (hN h) from by omega)
    refine fdr_hit (F := fun k y => if chB al (P.2 n).2.2.2 k = true then tfP h al s0 (glP M) m (n + 1) (chP h (s0 + n) n k P) y else y) (i := i + 1) (fun k y => ?_) (fun y => ?_) (hN h + 1) 0 x (by omega) (by omega)
    · by_cases e : chB al (P.2 n).2.2.2 k = true
      · simp only [if_pos e]; exact least_mono _ _ _ _
      · simp only [if_neg e]; exact Nat.le_refl _
    · simp only [if_pos i2]
      have l9 := lkZ_le hb (i := i) (show s0 + n < nc by omega) (P.2 n).2.1 (P.2 n).2.2.2
      have hnc := hb.2.1
      have q : ¬ (P.2 n).1 < lkZ h i (s0 + n) (P.2 n).2.1 (P.2 n).2.2.2 := by omega
      have fs := fcN_step i2 (hN h) i1
      refine least_yes hb hc m (n + 1) _ y (by omega) ?_ ?_ ?_
      · rw [chP_2, stN_yes q]
        show (P.2 n).2.2.1 + 1 = n + 1
        omega
      · rw [chP_2, stN_c]
        omega
      · rw [chP_2, stN_yes q]
        show 999 ≤ (P.2 n).1 - lkZ h i (s0 + n) (P.2 n).2.1 (P.2 n).2.2.2 + 9 * (n + 1)
        omega
noncomputable def slB (d : Nat) (x1 x2 x3 x4 : Int32) : (Int32 × QS → Option (QS)) → Int32 × QS → Option (QS) := (fun (r2 : Int32 × QS → Option (QS)) (a1 : Int32 × QS) => (if (gI a1.2 9) ≤ a1.1 then some a1.2 else (if (fX2_isFree_7 a1.1 x2 a1.2) = 0 then r2 ((a1.1 + (1 : Int32)), a1.2) else Option.bind (fX1_lacking_5 a1.1 x1 x2 x3 a1.2) (fun (q3 : Int32) => ck_ (inb x1 6) (lt_ (pM a1.2 27 (upd (gM a1.2 27) x1.toNatClampNeg a1.1)) (fun (S5 : QS) => Option.bind (fX2_seekLeast_7 d (x1 + (1 : Int32)) (x2 ||| ((1 : Int32) <<< (a1.1 &&& 31))) (fX2_clappingBehind x3 q3 q3) (x4 + q3) S5) (fun (q6 : QS) => r2 ((a1.1 + (1 : Int32)), q6))))))))
theorem seekLeast_s (d : Nat) (x1 x2 x3 x4 : Int32) (σ : QS) : fX2_seekLeast_7 (d + 1) x1 x2 x3 x4 σ = (if x4 < (gI σ 21) then (if x1 < (gI σ 8) then lp_ (slB d x1 x2 x3 x4) FV ((0 : Int32), σ) else lt_ (pI σ 21 x4) (fun (S7 : QS) => lt_ (fun (v9 : Int32) => lt_ (pI S7 22 v9) (fun (S10 : QS) => some S10)) (fun (j8 : Int32 → Option (QS)) => (if x1 ≤ (gI S7 13) then j8 (-9 : Int32) else ck_ (inb (gI S7 13) 6) (j8 (gM S7 27 ((gI S7 13).toNatClampNeg))))))) else some σ) := rfl
theorem slB_step {σ τ : QS} {ns nc A : Nat} {al : Nat → Bool} (hh : HouseOk σ τ ns nc) (hA : alB A ns al) (h19 : gI σ 19 = nI A) {D s t k : Nat} {d : ND} {g : Nat} (hs : s < nc) (ht : t ≤ 6) (hd : nbP 999 ns t d) (hk : k < ns) (r : Int32 × QS → Option (QS)) : slB D (nI s) (nI d.2.2.2) (PZ d.2.1) (nI g) r (nI k, σ) = if chB al d.2.2.2 (k + 1) = true then Option.bind (fX2_seekLeast_7 D (nI (s + 1)) (nI (d.2.2.2 ||| 2 ^ k)) (PZ (d.2.1 + (if lkZ (hOf τ ns) k s d.2.1 d.2.2.2 = 0 then 2 else 1))) (nI (g + lkZ (hOf τ ns) k s d.2.1 d.2.2.2)) (pM σ 27 (upd (gM σ 27) s (nI k)))) (fun q => r (nI (k + 1), q)) else r (nI (k + 1), σ) := by
  have hns := hh.1
  have hnc := hh.2.1
  obtain ⟨b1, b2, b3, b4, b5⟩ := hd
  have c6 := pow_le64 hns b5
  have l9 := lkZ_le (hbd_of hh) (i := k) hs d.2.1 d.2.2.2
  unfold slB
  simp only [lt_q]
  rw [hh.2.2.2.1, if_neg (by rw [nI_L (by omega) (by omega)]; omega), isFree_e hA hns h19 hk, lackC_z hh hk hs c6 (by omega) (by omega), Option.bind_some, nI_1, nI_1, ck_t (inb_n (show s < 6 by omega) (by omega)), nI_c (by omega), clap_e (by omega) (by omega), if_neg (Nat.lt_irrefl _), nI_add, shl_e (show k < 31 by omega), fa_or]
  by_cases e : chB al d.2.2.2 (k + 1) = true
  · rw [if_pos e, if_neg one_ne, if_pos e]
  · rw [if_neg e, if_pos rfl, if_neg e]
theorem slB_end {σ : QS} {ns : Nat} (h9 : gI σ 9 = nI ns) (hns : ns ≤ 6) {D : Nat} {x1 x2 x3 x4 : Int32} (r : Int32 × QS → Option (QS)) : slB D x1 x2 x3 x4 r (nI ns, σ) = some σ := by
  unfold slB
  simp only [lt_q]
  rw [h9, if_pos (by rw [nI_L (by omega) (by omega)]; omega)]
def rcL (σ : QS) (s0 n : Nat) (P : PS) (x : LX) : Prop := gI σ 21 = nI (if x.1 = 999 then 55 else x.1) ∧ gI σ 22 = x.2 ∧ (x.1 = 999 ∨ x.1 ≤ 54) ∧ (0 < n → gM σ 27 s0 = nI (P.1 0) - 1)
theorem seekLeast_e {σ0 τ : QS} {ns nc A s0 M : Nat} {al : Nat → Bool} (hh : HouseOk σ0 τ ns nc) (hA : alB A ns al) (hM : s0 + M = nc) (h13 : gI σ0 13 = nI s0) : ∀ (m D n : Nat) (P : PS) (σ : QS) (x : LX), n + m = M → m < D → srC σ0 σ → gI σ 19 = nI A → nbP 999 ns n (P.2 n) → (P.2 n).2.2.1 = n → 999 ≤ (P.2 n).1 + 9 * n → rcL σ s0 n P x → ∃ σ', fX2_seekLeast_7 D (nI (s0 + n)) (nI (P.2 n).2.2.2) (PZ (P.2 n).2.1) (nI (999 - (P.2 n).1)) σ = some σ' ∧ srC σ0 σ' ∧ gI σ' 19 = nI A ∧ rcL σ' s0 n P (tfP (hOf τ ns) al s0 (glP M) m n P x) := by
  have hns := hh.1
  have hnc := hh.2.1
  intro m
  induction m with
  | zero =>
    intro D n P σ x hn hD hsr h19 hb hr hg hrc
    obtain ⟨D', rfl⟩ : ∃ D', D = D' + 1 := ⟨D - 1, by omega⟩
    obtain ⟨r1, r2, r3, r4⟩ := hrc
    have hh' := hsr.house hh
    have e13 : gI σ 13 = nI s0 := (hsr.1 13 (by omega)).trans h13
    have enM : n = M := by omega
    subst enM
    have b1 := hb.1
    have et : tfP (hOf τ ns) al s0 (glP n) 0 n P x = glP n P x := rfl
    rw [et, seekLeast_s]
    simp only [lt_q]
    rw [r1, hh'.2.2.2.2.2.1]
    by_cases c2 : 999 - (P.2 n).1 < x.1
    · have eg : glP n P x = (999 - (P.2 n).1, fcC n P) := by unfold glP; rw [if_pos ⟨hr, c2⟩]
      rw [if_pos (by rw [nI_l2 (by omega) (by split <;> omega)]; split <;> omega), if_neg (by rw [nI_l2 (by omega) (by omega)]; omega), eg]
      have e13' : gI (pI σ 21 (nI (999 - (P.2 n).1))) 13 = nI s0 := by rw [gI_ne (by omega)]; exact e13
      have e27 : gM (pI σ 21 (nI (999 - (P.2 n).1))) 27 = gM σ 27 := rfl
      have hv : ∀ K : Int32 → Option QS, lt_ K (fun (j8 : Int32 → Option (QS)) => (if nI (s0 + n) ≤ nI s0 then j8 (-9 : Int32) else ck_ (inb (nI s0) 6) (j8 (gM σ 27 ((nI s0).toNatClampNeg))))) = K (fcC n P) := fun K => by
        rw [lt_q]
        unfold fcC
        by_cases n0 : n = 0
        · rw [if_pos (by rw [nI_L (by omega) (by omega)]; omega), if_pos n0]
        · rw [if_neg (by rw [nI_L (by omega) (by omega)]; omega), if_neg n0, ck_t (inb_n (by omega) (by omega)), nI_c (by omega), r4 (by omega)]
      rw [e13', e27]
      refine ⟨pI (pI σ 21 (nI (999 - (P.2 n).1))) 22 (fcC n P), hv (fun v9 => some (pI (pI σ 21 (nI (999 - (P.2 n).1))) 22 v9)), (hsr.i (by omega) _).i (by omega) _, by rw [gI_ne (by omega), gI_ne (by omega)]; exact h19, ?_, gI_same _ _ _, Or.inr (by show 999 - (P.2 n).1 ≤ 54; omega), r4⟩
      rw [gI_ne (by omega), gI_same, if_neg (show ¬ 999 - (P.2 n).1 = 999 from by omega)]
    · have eg : glP n P x = x := by unfold glP; rw [if_neg (fun w => c2 w.2)]
      rw [if_neg (by rw [nI_l2 (by omega) (by split <;> omega)]; split <;> omega), eg]
      exact ⟨σ, rfl, hsr, h19, r1, r2, r3, r4⟩
  | succ m ih =>
    intro D n P σ x hn hD hsr h19 hb hr hg hrc
    obtain ⟨D', rfl⟩ : ∃ D', D = D' + 1 := ⟨D - 1, by omega⟩
    have hrc' := hrc
    obtain ⟨r1, r2, r3, r4⟩ := hrc'
    have hh' := hsr.house hh
    have b1 := hb.1
    rw [seekLeast_s]
    simp only [lt_q]
    rw [r1, hh'.2.2.2.2.2.1]
    by_cases c2 : 999 - (P.2 n).1 < x.1
    · rw [if_pos (by rw [nI_l2 (by omega) (by split <;> omega)]; split <;> omega), if_pos (by rw [nI_l2 (by omega) (by omega)]; omega)]
      let F : Nat → LX → LX := fun k z => if chB al (P.2 n).2.2.2 k = true then tfP (hOf τ ns) al s0 (glP M) m (n + 1) (chP (hOf τ ns) (s0 + n) n k P) z else z
      have ecut : F 0 x = x := least_cut (by omega) (by rw [chP_2, stN_0]; omega)
      have eT : tfP (hOf τ ns) al s0 (glP M) (m + 1) n P x = fdr F ns 1 x := by
        show fdr F ns 1 (F 0 x) = _
        rw [ecut]
      rw [eT]
      refine for_inv (Q := fun k (a : Int32 × QS) => a.1 = nI k ∧ srC σ0 a.2 ∧ gI a.2 19 = nI A ∧ rcL a.2 s0 n P (fdr F k 1 x)) ns (fun o => ∃ σ', o = some σ' ∧ srC σ0 σ' ∧ gI σ' 19 = nI A ∧ rcL σ' s0 n P (fdr F ns 1 x)) (by omega) ⟨rfl, hsr, h19, hrc⟩ ?_ ?_
      · rintro k ⟨a1, σk⟩ hk ⟨e1, e2, e3, e5⟩
        have e1' : a1 = nI k := e1
        subst e1'
        have e2' : srC σ0 σk := e2
        have e3' : gI σk 19 = nI A := e3
        have hhk := e2'.house hh
        have es : fdr F (k + 1) 1 x = F (k + 1) (fdr F k 1 x) := by rw [fdr_end, Nat.add_comm 1 k]
        rw [es]
        generalize hz : fdr F k 1 x = z at e5
        have e5' : rcL σk s0 n P z := e5
        have l9 := lkZ_le (hbd_of hh) (i := k) (show s0 + n < nc by omega) (P.2 n).2.1 (P.2 n).2.2.2
        have q : ¬ (P.2 n).1 < lkZ (hOf τ ns) k (s0 + n) (P.2 n).2.1 (P.2 n).2.2.2 := by omega
        by_cases e : chB al (P.2 n).2.2.2 (k + 1) = true
        · have est := stN_yes (h := hOf τ ns) q
          obtain ⟨σ2, g1, g2, g3, g5⟩ := ih D' (n + 1) (chP (hOf τ ns) (s0 + n) n (k + 1) P) (pM σk 27 (upd (gM σk 27) (s0 + n) (nI k))) z (by omega) (by omega) (e2'.m (by omega) _) e3' (by rw [chP_2]; exact nb_st (h := hOf τ ns) (by show k + 1 ≤ ns; omega) hb) (by rw [chP_2, est]; show (P.2 n).2.2.1 + 1 = n + 1; omega) (by rw [chP_2, est]; show 999 ≤ (P.2 n).1 - lkZ (hOf τ ns) k (s0 + n) (P.2 n).2.1 (P.2 n).2.2.2 + 9 * (n + 1); omega) (by
            obtain ⟨w1, w2, w3, w4⟩ := e5'
            refine ⟨w1, w2, w3, fun _ => ?_⟩
            rw [gM_same]
            by_cases n0 : n = 0
            · subst n0
              rw [Nat.add_zero, upd_same, chP_1]
              show _ = nI (k + 1) - nI 1
              rw [pk_sub (by omega)]
              rfl
            · rw [upd_ne (by omega), chP_1o (by omega)]
              exact w4 (by omega))
          rw [chP_2, est] at g1
          have g1' : fX2_seekLeast_7 D' (nI (s0 + n + 1)) (nI ((P.2 n).2.2.2 ||| 2 ^ k)) (PZ ((P.2 n).2.1 + (if lkZ (hOf τ ns) k (s0 + n) (P.2 n).2.1 (P.2 n).2.2.2 = 0 then 2 else 1))) (nI (999 - ((P.2 n).1 - lkZ (hOf τ ns) k (s0 + n) (P.2 n).2.1 (P.2 n).2.2.2))) (pM σk 27 (upd (gM σk 27) (s0 + n) (nI k))) = some σ2 := g1
          rw [show 999 - ((P.2 n).1 - lkZ (hOf τ ns) k (s0 + n) (P.2 n).2.1 (P.2 n).2.2.2) = 999 - (P.2 n).1 + lkZ (hOf τ ns) k (s0 + n) (P.2 n).2.1 (P.2 n).2.2.2 by omega] at g1'
          have eF : F (k + 1) z = tfP (hOf τ ns) al s0 (glP M) m (n + 1) (chP (hOf τ ns) (s0 + n) n (k + 1) P) z := if_pos e
          refine ⟨(nI (k + 1), σ2), ⟨rfl, g2, g3, ?_⟩, fun r => ?_⟩
          · rw [eF]
            obtain ⟨w1, w2, w3, w4⟩ := g5
            refine ⟨w1, w2, w3, fun h0 => ?_⟩
            have := w4 (by omega)
            rw [chP_1o (by omega)] at this
            exact this
          · rw [slB_step hhk hA e3' (by omega) (by omega) hb hk r, if_pos e, g1', Option.bind_some]
        · have eF : F (k + 1) z = z := if_neg e
          refine ⟨(nI (k + 1), σk), ⟨rfl, e2, e3, by rw [eF]; exact e5'⟩, fun r => ?_⟩
          rw [slB_step hhk hA e3' (by omega) (by omega) hb hk r, if_neg e]
      · rintro ⟨a1, σk⟩ ⟨e1, e2, e3, e5⟩ r
        have e1' : a1 = nI ns := e1
        subst e1'
        have e2' : srC σ0 σk := e2
        rw [slB_end (e2'.house hh).2.2.2.1 hns]
        exact ⟨σk, rfl, e2, e3, e5⟩
    · rw [if_neg (by rw [nI_l2 (by omega) (by split <;> omega)]; split <;> omega), least_gone hn (by omega)]
      exact ⟨σ, rfl, hsr, h19, hrc⟩
theorem least_ref {σ τ : QS} {ns nc s p c : Nat} {a : Int} (hn : nowP σ τ ns nc s p a c) (h0 : ns ≠ 0) {X : LX} (hX : X = tfP (hOf τ ns) (alR τ) s (glP (nc - s)) (nc - s) 0 (P0 999 a c) (999, -9)) : ∃ τ', fX5_least_50 τ = (if X.1 = 999 then some (-9, τ') else some (nI X.1, pI τ' 2 X.2)) ∧ rfT τ τ' := by
  obtain ⟨hh, hs, hp, ⟨a1, a2⟩, hc, ⟨-, e1⟩, ⟨-, e2⟩, ⟨-, e4⟩, ⟨-, e6⟩, -⟩ := hn
  have hns := hh.1
  have hnc := hh.2.1
  have I : itP (X := LX) (S := Int32 × Int32 × QS) (β := Int32 × QS) 999 σ ns nc (hOf τ ns) (alR τ) s (nc - s) (fun x τ => (nI x.1, x.2, τ)) (fun r3 x τ => ck_ (inb (gI τ 11) 7) (lt_ ((999 : Int32) - (gM τ 63 ((gI τ 11).toNatClampNeg))) (fun (v7 : Int32) => ck_ (inb (gI τ 11) 7) ((if (gM τ 65 ((gI τ 11).toNatClampNeg)) = (gI τ 11) then (if (nI x.1) ≤ v7 then r3 ((nI x.1), x.2, τ) else (if (gI τ 11) = 0 then r3 (v7, (-9 : Int32), τ) else lt_ ((gM τ 67 0) - (1 : Int32)) (fun (v9 : Int32) => r3 (v7, v9, τ)))) else r3 ((nI x.1), x.2, τ)))))) (fun x τ => (if (nI x.1) = (999 : Int32) then some ((-9 : Int32), τ) else lt_ (pI τ 2 x.2) (fun (S5 : QS) => some ((nI x.1), S5)))) (fun (r3 : Int32 × Int32 × QS → Option (Int32 × QS)) (a2 : Int32 × Int32 × QS) => Option.bind (fX5_nextPlan_50 a2.2.2) (fun (q4 : Int32 × QS) => (if q4.1 = 0 then (if a2.1 = (999 : Int32) then some ((-9 : Int32), q4.2) else lt_ (pI q4.2 2 a2.2.1) (fun (S5 : QS) => some (a2.1, S5))) else ck_ (inb (gI q4.2 11) 7) (lt_ ((999 : Int32) - (gM q4.2 63 ((gI q4.2 11).toNatClampNeg))) (fun (v7 : Int32) => ck_ (inb (gI q4.2 11) 7) ((if (gM q4.2 65 ((gI q4.2 11).toNatClampNeg)) = (gI q4.2 11) then (if a2.1 ≤ v7 then r3 (a2.1, a2.2.1, q4.2) else (if (gI q4.2 11) = 0 then r3 (v7, (-9 : Int32), q4.2) else lt_ ((gM q4.2 67 0) - (1 : Int32)) (fun (v9 : Int32) => r3 (v7, v9, q4.2)))) else r3 (a2.1, a2.2.1, q4.2)))))))) (glP (nc - s)) (fun x τ' => x.1 ≤ 999 ∧ jbP σ τ ns nc (hOf τ ns) (alR τ) s (nc - s) τ') := by
    refine ⟨fun x τ1 τ2 hJ hb => ⟨hJ.1, jb_sb hJ.2 hb⟩, fun x τ1 hJ => hJ.2.1, fun x τ1 P hJ ha ho => ?_, fun r x τ1 => rfl⟩
    have B := hJ.2.1
    have x9 := hJ.1
    obtain ⟨a63, a64, a65, a66⟩ := ha.2 (nc - s) (Nat.le_refl _)
    obtain ⟨b1, b2, b3, b4, b5⟩ := ho.1 (nc - s) (Nat.le_refl _)
    have c1 : (nI (nc - s)).toNatClampNeg = nc - s := nI_c (by omega)
    have hi : inb (nI (nc - s)) 7 = true := inb_n (by omega) (by omega)
    refine ⟨τ1, fun r => ?_, ⟨Nat.le_trans (glP_le _ _ _) x9, hJ.2⟩, fun j _ _ => rfl⟩
    simp only [lt_q]
    have e999 : (999 : Int32) - nI (P.2 (nc - s)).1 = nI (999 - (P.2 (nc - s)).1) := by show nI 999 - _ = _; rw [pk_sub b1]
    rw [B.2.2.2.2.1, ck_t hi, ck_t hi, c1, a65, a63, e999]
    by_cases q1 : (P.2 (nc - s)).2.2.1 = nc - s
    · rw [if_pos (by rw [q1])]
      by_cases q2 : 999 - (P.2 (nc - s)).1 < x.1
      · have eg : glP (nc - s) P x = (999 - (P.2 (nc - s)).1, fcC (nc - s) P) := by unfold glP; rw [if_pos ⟨q1, q2⟩]
        rw [if_neg (show ¬ nI x.1 ≤ nI (999 - (P.2 (nc - s)).1) from by rw [nI_L (by omega) (by omega)]; omega), eg]
        unfold fcC
        by_cases m0 : nc - s = 0
        · rw [if_pos (show nI (nc - s) = 0 from by rw [m0]; rfl), if_pos m0]
        · rw [if_neg (show ¬ nI (nc - s) = 0 from by rw [nI0_e (by omega)]; exact m0), if_neg m0, ha.1 0 (by omega)]
      · have eg : glP (nc - s) P x = x := by unfold glP; rw [if_neg (fun w => q2 w.2)]
        rw [if_pos (show nI x.1 ≤ nI (999 - (P.2 (nc - s)).1) from by rw [nI_L (by omega) (by omega)]; omega), eg]
    · have eg : glP (nc - s) P x = x := by unfold glP; rw [if_neg (fun w => q1 w.1)]
      rw [if_neg (show ¬ nI (P.2 (nc - s)).2.2.1 = nI (nc - s) from by rw [nI_e (by omega) (by omega)]; exact q1), eg]
  obtain ⟨τ', g1, g2⟩ := plan_loop (by omega) I rfl hns (by omega) (x := (999, -9)) (τ := bpT τ (nI 999)) (P := P0 999 a c) ⟨Nat.le_refl _, jb_0 hh e1 hs _⟩ (bp_12 _ _) (bp_at e4 e6) (ok_0 (Nat.le_refl _) a1 a2 hc) (bp_67 _ _)
  rw [← hX] at g1 g2
  refine ⟨τ', ?_, g1.2.2⟩
  unfold fX5_least_50
  rw [hh.2.2.2.2.1, if_neg (by rw [nI0_e (by omega)]; exact h0), begin_e, Option.bind_some]
  refine Eq.trans g2 ?_
  have x9 := g1.1
  by_cases q : X.1 = 999
  · rw [if_pos q, if_pos (by rw [q]; rfl)]
  · rw [if_neg q, if_neg (show ¬ nI X.1 = (999 : Int32) from by show ¬ nI X.1 = nI 999; rw [nI_e (by omega) (by omega)]; exact q)]
    rfl
theorem free_pop {σ τ : QS} {ns nc s p c : Nat} {a : Int} (hn : nowP σ τ ns nc s p a c) : ∃ B, fX0_free_6 σ = some (nI B) ∧ B < 64 ∧ pop B 11 = fcN (alR τ) c ns ∧ pop B 10 = fcN (alR τ) c ns ∧ ∀ i, i < ns → B.testBit i = chB (alR τ) c (i + 1) := by
  obtain ⟨hh, hs, hp, ⟨a1, a2⟩, hc, ⟨e13, e1⟩, ⟨e15, e2⟩, ⟨e17, e4⟩, ⟨e14, e6⟩, es⟩ := hn
  have hns := hh.1
  have hA : alB (alS (gM τ 53) (gM σ 25) ns) ns (alR τ) := al_al (fun k hk => by rw [es k hk]; rfl)
  have l1 : dif (alS (gM τ 53) (gM σ 25) ns) c < 2 ^ ns := Nat.lt_of_le_of_lt (dif_le _ _) hA.1
  refine ⟨dif (alS (gM τ 53) (gM σ 25) ns) c, ?_, pow_le64 hns l1, ?_, ?_, fun i hi => ?_⟩
  · rw [freeC_e hh e14, fr_al hns]
  · rw [pop_ge (n := ns) l1 11 (by omega), pop_fc hA.2 ns (by omega) (by omega)]
  · rw [pop_ge (n := ns) l1 10 (by omega), pop_fc hA.2 ns (by omega) (by omega)]
  · rw [dif_bit _ _ _ (by omega), hA.2 i hi]
    exact Bool.and_comm _ _
theorem least_same {σ τ : QS} (h : Inv σ τ) : Same (fX4_least_0 σ) (fX5_least_50 τ) := by
  obtain ⟨ns, nc, s, p, a, c, hn⟩ := h.now
  have hn' := hn
  obtain ⟨hh, hs, hp, ⟨a1, a2⟩, hc, ⟨e13, e1⟩, ⟨e15, e2⟩, ⟨e17, e4⟩, ⟨e14, e6⟩, es⟩ := hn'
  have hns := hh.1
  have hnc := hh.2.1
  by_cases h0 : ns = 0
  · unfold fX4_least_0 fX5_least_50
    rw [hh.2.2.2.1, hh.2.2.2.2.1, if_pos (by rw [h0]; rfl), if_pos (by rw [h0]; rfl)]
    exact Same.mk rfl rfl h
  have hA : alB (alS (gM τ 53) (gM σ 25) ns) ns (alR τ) := al_al (fun k hk => by rw [es k hk]; rfl)
  obtain ⟨τ', d1, d2⟩ := least_ref hn h0 rfl
  obtain ⟨B, B1, B2, B3, -, -⟩ := free_pop hn
  have fl := fcN_le (alR τ) c ns
  rw [d1]
  unfold fX4_least_0
  rw [hh.2.2.2.1, if_neg (by rw [nI0_e (by omega)]; exact h0), B1, Option.bind_some, over_c hh e13 hs, bitCount_e (by omega), B3]
  by_cases q : nc - s ≤ fcN (alR τ) c ns
  · rw [if_pos (by rw [nI_L (by omega) (by omega)]; exact q)]
    have yes := least_yes (h := hOf τ ns) (nc := nc) (s0 := s) (M := nc - s) (al := alR τ) (hbd_of hh) (by omega) (nc - s) 0 (P0 999 a c) (999, -9) (by omega) rfl q (Nat.le_refl _)
    generalize hX : tfP (hOf τ ns) (alR τ) s (glP (nc - s)) (nc - s) 0 (P0 999 a c) (999, -9) = X at *
    obtain ⟨σ', g1, g2, g3, g5⟩ := seekLeast_e (s0 := s) (M := nc - s) hh hA (by omega) e13 (nc - s) DP 0 (P0 999 a c) (pI (pI (pI σ 19 (nI (alS (gM τ 53) (gM σ 25) ns))) 22 (-9)) 21 55) (999, -9) (by omega) (by show nc - s < 8; omega) ((((srC.rf σ).i (by omega) _).i (by omega) _).i (by omega) _) (by rw [gI_ne (by omega), gI_ne (by omega), gI_same]) ⟨Nat.le_refl _, by show _ ≤ a; omega, by show a ≤ _; omega, Nat.zero_le _, hc⟩ rfl (Nat.le_refl _) ⟨by rw [gI_same]; rfl, by rw [gI_ne (by omega), gI_same], Or.inl rfl, fun w => absurd w (Nat.lt_irrefl 0)⟩
    rw [hX] at g5
    obtain ⟨r1, r2, r3, r4⟩ := g5
    rw [if_neg (show ¬ X.1 = 999 from by omega)] at r1
    rw [if_neg (show ¬ X.1 = 999 from by omega)]
    unfold fX2_findLeast_7
    simp only [lt_q]
    rw [alC_e hh, Option.bind_some]
    have g1' : fX2_seekLeast_7 DP (gI (pI (pI (pI σ 19 (nI (alS (gM τ 53) (gM σ 25) ns))) 22 (-9)) 21 55) 13) (gI (pI (pI (pI σ 19 (nI (alS (gM τ 53) (gM σ 25) ns))) 22 (-9)) 21 55) 14) (gI (pI (pI (pI σ 19 (nI (alS (gM τ 53) (gM σ 25) ns))) 22 (-9)) 21 55) 17) (0 : Int32) (pI (pI (pI σ 19 (nI (alS (gM τ 53) (gM σ 25) ns))) 22 (-9)) 21 55) = some σ' := by
      rw [gI_ne (by omega), gI_ne (by omega), gI_ne (by omega), gI_ne (by omega), gI_ne (by omega), gI_ne (by omega), gI_ne (by omega), gI_ne (by omega), gI_ne (by omega), e13, e14, e17]
      exact g1
    rw [g1', Option.bind_some, Option.bind_some]
    rw [r1, r2]
    exact Same.mk rfl rfl (told_ok (inv_srch h g2 d2) _)
  · rw [if_neg (by rw [nI_L (by omega) (by omega)]; exact q)]
    have no : tfP (hOf τ ns) (alR τ) s (glP (nc - s)) (nc - s) 0 (P0 999 a c) (999, -9) = (999, -9) := least_few (by omega) (by show 0 + fcN (alR τ) c ns < nc - s; omega)
    rw [no, if_pos rfl]
    exact Same.mk rfl rfl (inv_srch h (srC.rf σ) d2)
