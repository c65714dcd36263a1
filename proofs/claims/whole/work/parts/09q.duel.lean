/-! ===== by turns ===== -/
def tkO (g : Nat) (y : Option Nat) (v : Nat) : Option Nat := match y with
  | none => some v
  | some b => if g % 2 = 0 then (if b < v then some v else some b) else (if v < b then some v else some b)
noncomputable def duV (h : HH) (al : Nat → Bool) : Nat → Nat → Nat → ND → Nat
  | 0, _, _, d => d.2.2.1
  | m + 1, g, s, d => if fcN al d.2.2.2 (hN h) = 0 then duV h al m (g + 1) (s + 1) d else (fdr (fun k y => if chB al d.2.2.2 k = true then tkO g y (duV h al m (g + 1) (s + 1) (stN h s k d)) else y) (hN h) 1 none).getD 0
noncomputable def duF (h : HH) (al : Nat → Bool) (m g s : Nat) (d : ND) : Nat → Option Nat → Option Nat := fun k y => if chB al d.2.2.2 k = true then tkO g y (duV h al m (g + 1) (s + 1) (stN h s k d)) else y
theorem duV_s {h : HH} {al : Nat → Bool} {m g s : Nat} {d : ND} : duV h al (m + 1) g s d = if fcN al d.2.2.2 (hN h) = 0 then duV h al m (g + 1) (s + 1) d else (fdr (duF h al m g s d) (hN h) 1 none).getD 0 := rfl
theorem duV_0 {h : HH} {al : Nat → Bool} : ∀ (m g s : Nat) (d : ND), fcN al d.2.2.2 (hN h) = 0 → duV h al m g s d = d.2.2.1
  | 0, _, _, _, _ => rfl
  | m + 1, g, s, d, hf => by
    rw [duV_s, if_pos hf]
    exact duV_0 m (g + 1) (s + 1) d hf
/-- within bounds -/
def bdO (lo hi : Nat) (y : Option Nat) : Prop := ∀ b, y = some b → lo ≤ b ∧ b ≤ hi
theorem tkO_bd {lo hi g : Nat} {y : Option Nat} {v : Nat} (hy : bdO lo hi y) (h1 : lo ≤ v) (h2 : v ≤ hi) : bdO lo hi (tkO g y v) ∧ tkO g y v ≠ none := by
  cases y with
  | none =>
    refine ⟨fun b hb => ?_, fun w => by cases w⟩
    have : v = b := by injection hb
    omega
  | some b0 =>
    have := hy b0 rfl
    have cs : tkO g (some b0) v = some v ∨ tkO g (some b0) v = some b0 := by
      unfold tkO
      simp only []
      split
      · split
        · exact Or.inl rfl
        · exact Or.inr rfl
      · split
        · exact Or.inl rfl
        · exact Or.inr rfl
    rcases cs with e | e
    · rw [e]
      refine ⟨fun b hb => ?_, fun w => by cases w⟩
      have : v = b := by injection hb
      omega
    · rw [e]
      exact ⟨hy, fun w => by cases w⟩
theorem duV_bd {h : HH} {al : Nat → Bool} : ∀ (m g s : Nat) (d : ND), d.2.2.1 ≤ duV h al m g s d ∧ duV h al m g s d ≤ d.2.2.1 + m
  | 0, _, _, _ => ⟨Nat.le_refl _, Nat.le_refl _⟩
  | m + 1, g, s, d => by
    rw [duV_s]
    by_cases hf : fcN al d.2.2.2 (hN h) = 0
    · rw [if_pos hf]
      have := duV_bd (h := h) (al := al) m (g + 1) (s + 1) d
      omega
    · rw [if_neg hf]
      have key : ∀ (k j : Nat) (y : Option Nat), bdO d.2.2.1 (d.2.2.1 + (m + 1)) y → bdO d.2.2.1 (d.2.2.1 + (m + 1)) (fdr (duF h al m g s d) k j y) := by
        intro k
        induction k with
        | zero => intro j y hy; exact hy
        | succ k ih =>
          intro j y hy
          refine ih (j + 1) _ ?_
          unfold duF
          by_cases e : chB al d.2.2.2 j = true
          · rw [if_pos e]
            have b := duV_bd (h := h) (al := al) m (g + 1) (s + 1) (stN h s j d)
            have r := stN_r h s j d
            exact (tkO_bd hy (by omega) (by omega)).1
          · rw [if_neg e]; exact hy
      have hb := key (hN h) 1 none (fun b hb => by cases hb)
      obtain ⟨i, i1, i2⟩ := fc_one (hN h) (show 0 < fcN al d.2.2.2 (hN h) from by omega)
      have some' : ∀ (k j : Nat) (y : Option Nat), bdO d.2.2.1 (d.2.2.1 + (m + 1)) y → (y ≠ none ∨ (j ≤ i + 1 ∧ i + 1 < j + k)) → fdr (duF h al m g s d) k j y ≠ none := by
        intro k
        induction k with
        | zero =>
          intro j y _ hy
          rcases hy with hy | hy
          · exact hy
          · omega
        | succ k ih =>
          intro j y hbd hy
          have b := duV_bd (h := h) (al := al) m (g + 1) (s + 1) (stN h s j d)
          have r := stN_r h s j d
          have tk := tkO_bd (g := g) hbd (v := duV h al m (g + 1) (s + 1) (stN h s j d)) (by omega) (by omega)
          have ef : duF h al m g s d j y = if chB al d.2.2.2 j = true then tkO g y (duV h al m (g + 1) (s + 1) (stN h s j d)) else y := rfl
          refine ih (j + 1) _ ?_ ?_
          · rw [ef]
            by_cases e : chB al d.2.2.2 j = true
            · rw [if_pos e]; exact tk.1
            · rw [if_neg e]; exact hbd
          · rw [ef]
            by_cases e : chB al d.2.2.2 j = true
            · rw [if_pos e]; exact Or.inl tk.2
            · rw [if_neg e]
              rcases hy with hy | ⟨q1, q2⟩
              · exact Or.inl hy
              · refine Or.inr ⟨?_, by omega⟩
                by_cases w : j = i + 1
                · rw [w, i2] at e; exact absurd rfl e
                · omega
      have ne := some' (hN h) 1 none (fun b hb => by cases hb) (Or.inr ⟨by omega, by omega⟩)
      cases e : fdr (duF h al m g s d) (hN h) 1 none with
      | none => exact absurd e ne
      | some v => exact hb v e
theorem duF_bd {h : HH} {al : Nat → Bool} {m g s : Nat} {d : ND} : ∀ (k j : Nat) (y : Option Nat), bdO d.2.2.1 (d.2.2.1 + (m + 1)) y → bdO d.2.2.1 (d.2.2.1 + (m + 1)) (fdr (duF h al m g s d) k j y)
  | 0, _, _, hy => hy
  | k + 1, j, y, hy => by
    refine duF_bd k (j + 1) _ ?_
    unfold duF
    by_cases e : chB al d.2.2.2 j = true
    · rw [if_pos e]
      have b := duV_bd (h := h) (al := al) m (g + 1) (s + 1) (stN h s j d)
      have r := stN_r h s j d
      exact (tkO_bd hy (by omega) (by omega)).1
    · rw [if_neg e]; exact hy
theorem duF_none {h : HH} {al : Nat → Bool} {m g s : Nat} {d : ND} (hf : fcN al d.2.2.2 (hN h) ≠ 0) : fdr (duF h al m g s d) (hN h) 1 none ≠ none := by
  obtain ⟨i, i1, i2⟩ := fc_one (hN h) (show 0 < fcN al d.2.2.2 (hN h) from by omega)
  have key : ∀ (k j : Nat) (y : Option Nat), (y ≠ none ∨ (j ≤ i + 1 ∧ i + 1 < j + k)) → fdr (duF h al m g s d) k j y ≠ none := by
    intro k
    induction k with
    | zero =>
      intro j y hy
      rcases hy with hy | hy
      · exact hy
      · omega
    | succ k ih =>
      intro j y hy
      have ef : duF h al m g s d j y = if chB al d.2.2.2 j = true then tkO g y (duV h al m (g + 1) (s + 1) (stN h s j d)) else y := rfl
      refine ih (j + 1) _ ?_
      rw [ef]
      by_cases e : chB al d.2.2.2 j = true
      · rw [if_pos e]
        refine Or.inl ?_
        cases y with
        | none => intro w; cases w
        | some b =>
          have hb : bdO 0 (b + duV h al m (g + 1) (s + 1) (stN h s j d)) (some b) := fun b' hb => by
            have : b = b' := by injection hb
            omega
          exact (tkO_bd (g := g) hb (Nat.zero_le _) (Nat.le_add_left _ _)).2
      · rw [if_neg e]
        rcases hy with hy | ⟨q1, q2⟩
        · exact Or.inl hy
        · refine Or.inr ⟨?_, by omega⟩
          by_cases w : j = i + 1
          · rw [w, i2] at e; exact absurd rfl e
          · omega
  exact key (hN h) 1 none (Or.inr ⟨by omega, by omega⟩)
/-! the class -/
noncomputable def dfB (d : Nat) (x1 x2 x3 x4 x5 x6 : Int32) (σ : QS) : (Int32 × Int32 → Option Int32) → Int32 × Int32 → Option Int32 := (fun (r2 : Int32 × Int32 → Option (Int32)) (a1 : Int32 × Int32) => (if (gI σ 9) ≤ a1.2 then some a1.1 else (if (fX2_isFree_7 a1.2 x3 σ) = 0 then r2 (a1.1, (a1.2 + (1 : Int32))) else Option.bind (fX1_lacking_5 a1.2 x1 x3 x4 σ) (fun (q3 : Int32) => lt_ (fun (v5 : Int32) => lt_ (fun (v7 : Int32) => Option.bind (fX2_duelFrom_7 d (x1 + (1 : Int32)) x2 (x3 ||| ((1 : Int32) <<< (a1.2 &&& 31))) (fX2_clappingBehind x4 q3 x5) (fX2_promptsBehind q3 x5) v7 σ) (fun (q8 : Int32) => lt_ (v5 + q8) (fun (v9 : Int32) => (if x6 = 0 then lt_ (fJ9_min_7cf53 a1.1 v9) (fun (v10 : Int32) => r2 (v10, (a1.2 + (1 : Int32)))) else lt_ (fJ9_max_7cf53 a1.1 v9) (fun (v11 : Int32) => r2 (v11, (a1.2 + (1 : Int32)))))))) (fun (j6 : Int32 → Option (Int32)) => (if x6 = 0 then j6 (1 : Int32) else j6 (0 : Int32)))) (fun (j4 : Int32 → Option (Int32)) => (if x5 < q3 then j4 (0 : Int32) else j4 (1 : Int32)))))))
theorem duelFrom_s (d : Nat) (x1 x2 x3 x4 x5 x6 : Int32) (σ : QS) : fX2_duelFrom_7 (d + 1) x1 x2 x3 x4 x5 x6 σ = (if x2 ≤ x1 then some (0 : Int32) else (if (gI σ 8) ≤ x1 then some (0 : Int32) else (if (fX2_freeCount_7 x3 σ) = 0 then some (0 : Int32) else (if x6 = 0 then lp_ (dfB d x1 x2 x3 x4 x5 x6 σ) FV ((7 : Int32), (0 : Int32)) else lp_ (dfB d x1 x2 x3 x4 x5 x6 σ) FV ((-1 : Int32), (0 : Int32)))))) := rfl
/-- whether many are wanted -/
def wmN (g : Nat) : Int32 := if g % 2 = 0 then 1 else 0
theorem wmN_s (g : Nat) : (if wmN g = 0 then (1 : Int32) else 0) = wmN (g + 1) := by
  unfold wmN
  by_cases e : g % 2 = 0
  · rw [if_pos e, if_neg one_ne, if_neg (by omega)]
  · rw [if_neg e, if_pos rfl, if_pos (by omega)]
/-- the class's best so far, of what is carried from here on -/
def chI (g r : Nat) (y : Option Nat) : Int32 := match y with
  | none => if g % 2 = 0 then -1 else 7
  | some b => nI (b - r)
theorem chI_tk {g r m : Nat} {y : Option Nat} {v : Nat} (hy : bdO r (r + m) y) (h1 : r ≤ v) (h2 : v ≤ r + m) (hm : m ≤ 6) : (if wmN g = 0 then fJ9_min_7cf53 (chI g r y) (nI (v - r)) else fJ9_max_7cf53 (chI g r y) (nI (v - r))) = chI g r (tkO g y v) := by
  unfold wmN
  cases y with
  | none =>
    show _ = nI (v - r)
    have c0 : chI g r none = if g % 2 = 0 then -1 else 7 := rfl
    rw [c0]
    by_cases e : g % 2 = 0
    · rw [if_pos e, if_neg one_ne, if_pos e]
      unfold fJ9_max_7cf53
      have m1 : (-1 : Int32).toInt = -1 := by decide
      rw [if_pos (show (-1 : Int32) < nI (v - r) from by rw [fa_lt, nI_toInt (by omega)]; omega)]
    · rw [if_neg e, if_pos rfl, if_neg e]
      unfold fJ9_min_7cf53
      rw [if_pos (show nI (v - r) < (7 : Int32) from by show nI _ < nI 7; rw [nI_l2 (by omega) (by omega)]; omega)]
  | some b =>
    have hb := hy b rfl
    by_cases e : g % 2 = 0
    · rw [if_pos e, if_neg one_ne]
      show fJ9_max_7cf53 (nI (b - r)) (nI (v - r)) = chI g r (if g % 2 = 0 then (if b < v then some v else some b) else (if v < b then some v else some b))
      rw [max_e (by omega) (by omega), if_pos e]
      by_cases q : b < v
      · rw [if_pos q]
        exact congrArg nI (by omega)
      · rw [if_neg q]
        exact congrArg nI (by omega)
    · rw [if_neg e, if_pos rfl]
      show fJ9_min_7cf53 (nI (b - r)) (nI (v - r)) = chI g r (if g % 2 = 0 then (if b < v then some v else some b) else (if v < b then some v else some b))
      rw [min_e (by omega) (by omega), if_neg e]
      by_cases q : v < b
      · rw [if_pos q]
        exact congrArg nI (by omega)
      · rw [if_neg q]
        exact congrArg nI (by omega)
theorem duelFrom_e {σ τ : QS} {ns nc A : Nat} {al : Nat → Bool} (hh : HouseOk σ τ ns nc) (hA : alB A ns al) (h19 : gI σ 19 = nI A) : ∀ (m D g s t : Nat) (d : ND), s + m ≤ nc → t + m ≤ 6 → m < D → nbP 999 ns t d → fX2_duelFrom_7 D (nI s) (nI (s + m)) (nI d.2.2.2) (PZ d.2.1) (nI d.1) (wmN g) σ = some (nI (duV (hOf τ ns) al m g s d - d.2.2.1)) := by
  have hns := hh.1
  have hnc := hh.2.1
  intro m
  induction m with
  | zero =>
    intro D g s t d hs ht hD hd
    obtain ⟨D', rfl⟩ : ∃ D', D = D' + 1 := ⟨D - 1, by omega⟩
    rw [duelFrom_s, if_pos (by rw [nI_L (by omega) (by omega)]; omega)]
    show some (nI 0) = some (nI (d.2.2.1 - d.2.2.1))
    rw [Nat.sub_self]
  | succ m ih =>
    intro D g s t d hs ht hD hd
    obtain ⟨D', rfl⟩ : ∃ D', D = D' + 1 := ⟨D - 1, by omega⟩
    have hd' := hd
    obtain ⟨b1, b2, b3, b4, b5⟩ := hd'
    have c6 := pow_le64 hns b5
    have hf := fcN_le al d.2.2.2 ns
    rw [duelFrom_s, if_neg (by rw [nI_L (by omega) (by omega)]; omega), hh.2.2.2.2.2.1, if_neg (by rw [nI_L (by omega) (by omega)]; omega), freeCount_e hA hns h19]
    by_cases f0 : fcN al d.2.2.2 ns = 0
    · rw [if_pos (by rw [f0]; rfl), duV_0 (h := hOf τ ns) (m + 1) g s d f0, Nat.sub_self]
      rfl
    rw [if_neg (by rw [nI0_e (by omega)]; exact f0)]
    have eV : duV (hOf τ ns) al (m + 1) g s d = (fdr (duF (hOf τ ns) al m g s d) ns 1 none).getD 0 := by rw [duV_s, if_neg (show ¬ fcN al d.2.2.2 (hN (hOf τ ns)) = 0 from f0)]
    have ne := duF_none (h := hOf τ ns) (al := al) (m := m) (g := g) (s := s) (d := d) f0
    have ne' : fdr (duF (hOf τ ns) al m g s d) ns 1 none ≠ none := ne
    have main : lp_ (dfB D' (nI s) (nI (s + (m + 1))) (nI d.2.2.2) (PZ d.2.1) (nI d.1) (wmN g) σ) FV (chI g d.2.2.1 none, (0 : Int32)) = some (nI (duV (hOf τ ns) al (m + 1) g s d - d.2.2.1)) := by
      refine for_fu (fun k => (chI g d.2.2.1 (fdr (duF (hOf τ ns) al m g s d) k 1 none), nI k)) ns rfl (by omega) ?_ ?_
      · intro r k hk
        have l9 := lkZ_le (hbd_of hh) (i := k) (show s < nc by omega) d.2.1 d.2.2.2
        obtain ⟨q1, q2, q3⟩ := stN_e1 (hOf τ ns) s k d
        have hy := duF_bd (h := hOf τ ns) (al := al) (m := m) (g := g) (s := s) (d := d) k 1 none (fun b hb => by cases hb)
        have es : fdr (duF (hOf τ ns) al m g s d) (k + 1) 1 none = duF (hOf τ ns) al m g s d (k + 1) (fdr (duF (hOf τ ns) al m g s d) k 1 none) := by rw [fdr_end, Nat.add_comm 1 k]
        rw [es]
        generalize fdr (duF (hOf τ ns) al m g s d) k 1 none = y at hy
        have rcv := ih D' (g + 1) (s + 1) (t + 1) (stN (hOf τ ns) s (k + 1) d) (by omega) (by omega) (by omega) (nb_st (h := hOf τ ns) (by show k + 1 ≤ ns; omega) hd)
        rw [show s + 1 + m = s + (m + 1) by omega, q1, q2, q3, stN_c] at rcv
        have vb := duV_bd (h := hOf τ ns) (al := al) m (g + 1) (s + 1) (stN (hOf τ ns) s (k + 1) d)
        rw [q3] at vb
        show dfB D' (nI s) (nI (s + (m + 1))) (nI d.2.2.2) (PZ d.2.1) (nI d.1) (wmN g) σ r (chI g d.2.2.1 y, nI k) = _
        unfold dfB
        simp only [lt_q]
        rw [hh.2.2.2.1, if_neg (by rw [nI_L (by omega) (by omega)]; omega), isFree_e hA hns h19 hk, lackC_z hh hk (by omega) c6 (by omega) (by omega), Option.bind_some, nI_1, nI_1, clap_e (by omega) (by omega), prom_e (by omega) (by omega), shl_e (show k < 31 by omega), fa_or]
        have wms := wmN_s g
        have ck := chI_tk (g := g) (v := duV (hOf τ ns) al m (g + 1) (s + 1) (stN (hOf τ ns) s (k + 1) d)) hy (by split at vb <;> omega) (by split at vb <;> omega) (by omega)
        have ef : duF (hOf τ ns) al m g s d (k + 1) y = if chB al d.2.2.2 (k + 1) = true then tkO g y (duV (hOf τ ns) al m (g + 1) (s + 1) (stN (hOf τ ns) s (k + 1) d)) else y := rfl
        rw [ef]
        by_cases e : chB al d.2.2.2 (k + 1) = true
        · rw [if_pos e, if_neg one_ne, if_pos e, ← ck]
          by_cases w0 : wmN g = 0
          · rw [if_pos w0] at wms
            rw [← wms] at rcv
            simp only [if_pos w0]
            by_cases q : d.1 < lkZ (hOf τ ns) k s d.2.1 d.2.2.2
            · rw [if_pos q] at vb
              simp only [if_pos q] at rcv
              rw [if_pos (show nI d.1 < nI (lkZ (hOf τ ns) k s d.2.1 d.2.2.2) from by rw [nI_l2 (by omega) (by omega)]; exact q)]
              simp only [if_pos q]
              rw [rcv, Option.bind_some, Int32.zero_add]
            · rw [if_neg q] at vb
              simp only [if_neg q] at rcv
              rw [if_neg (show ¬ nI d.1 < nI (lkZ (hOf τ ns) k s d.2.1 d.2.2.2) from by rw [nI_l2 (by omega) (by omega)]; exact q)]
              simp only [if_neg q]
              rw [rcv, Option.bind_some, show (1 : Int32) = nI 1 from rfl, nI_add, show 1 + (duV (hOf τ ns) al m (g + 1) (s + 1) (stN (hOf τ ns) s (k + 1) d) - (d.2.2.1 + 1)) = duV (hOf τ ns) al m (g + 1) (s + 1) (stN (hOf τ ns) s (k + 1) d) - d.2.2.1 by omega]
          · rw [if_neg w0] at wms
            rw [← wms] at rcv
            simp only [if_neg w0]
            by_cases q : d.1 < lkZ (hOf τ ns) k s d.2.1 d.2.2.2
            · rw [if_pos q] at vb
              simp only [if_pos q] at rcv
              rw [if_pos (show nI d.1 < nI (lkZ (hOf τ ns) k s d.2.1 d.2.2.2) from by rw [nI_l2 (by omega) (by omega)]; exact q)]
              simp only [if_pos q]
              rw [rcv, Option.bind_some, Int32.zero_add]
            · rw [if_neg q] at vb
              simp only [if_neg q] at rcv
              rw [if_neg (show ¬ nI d.1 < nI (lkZ (hOf τ ns) k s d.2.1 d.2.2.2) from by rw [nI_l2 (by omega) (by omega)]; exact q)]
              simp only [if_neg q]
              rw [rcv, Option.bind_some, show (1 : Int32) = nI 1 from rfl, nI_add, show 1 + (duV (hOf τ ns) al m (g + 1) (s + 1) (stN (hOf τ ns) s (k + 1) d) - (d.2.2.1 + 1)) = duV (hOf τ ns) al m (g + 1) (s + 1) (stN (hOf τ ns) s (k + 1) d) - d.2.2.1 by omega]
        · rw [if_neg e, if_pos rfl, if_neg e]
      · intro r
        show dfB D' (nI s) (nI (s + (m + 1))) (nI d.2.2.2) (PZ d.2.1) (nI d.1) (wmN g) σ r (chI g d.2.2.1 (fdr (duF (hOf τ ns) al m g s d) ns 1 none), nI ns) = _
        unfold dfB
        simp only [lt_q]
        rw [hh.2.2.2.1, if_pos (by rw [nI_L (by omega) (by omega)]; omega), eV]
        cases e : fdr (duF (hOf τ ns) al m g s d) ns 1 none with
        | none => exact absurd e ne'
        | some v => rfl
    by_cases w0 : wmN g = 0
    · rw [if_pos w0]
      have : chI g d.2.2.1 none = 7 := by
        show (if g % 2 = 0 then (-1 : Int32) else 7) = 7
        have : ¬ g % 2 = 0 := fun w => by
          unfold wmN at w0
          rw [if_pos w] at w0
          exact one_ne w0
        rw [if_neg this]
      rw [this] at main
      exact main
    · rw [if_neg w0]
      have : chI g d.2.2.1 none = -1 := by
        show (if g % 2 = 0 then (-1 : Int32) else 7) = -1
        have : g % 2 = 0 := Classical.byContradiction fun w => by
          unfold wmN at w0
          rw [if_neg w] at w0
          exact w0 rfl
        rw [if_pos this]
      rw [this] at main
      exact main
