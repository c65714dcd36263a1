/-! ===== plans, in whole numbers ===== -/
def zmx (x : Int) : Int := if x < 0 then 0 else x
theorem zmx_0 (x : Int) : 0 ≤ zmx x := by unfold zmx; split <;> omega
theorem zmx_mono {x y : Int} (h : x ≤ y) : zmx x ≤ zmx y := by unfold zmx; split <;> split <;> omega
theorem zmx_le {x y : Int} (h : x ≤ y) (h0 : 0 ≤ y) : zmx x ≤ y := by unfold zmx; split <;> omega
noncomputable def frZ (k : Int32) (f a : Int) : Int := if fX5_isUncle k = 0 then zmx (f - a) else zmx (f - a) / 2
noncomputable def syZ (k : Int32) (m f a o : Int) : Int := zmx (m - frZ k f a) + (if fX5_isClerk k = 0 then 0 else 2) + (if k = 5 then o else 0)
theorem frZ_0 (k : Int32) (f a : Int) : 0 ≤ frZ k f a := by
  have := zmx_0 (f - a)
  unfold frZ
  split <;> omega
theorem frZ_le (k : Int32) {f a B : Int} (h : f - a ≤ B) (h0 : 0 ≤ B) : frZ k f a ≤ B := by
  have := zmx_le h h0
  have := zmx_0 (f - a)
  unfold frZ
  split <;> omega
theorem frZ_anti (k : Int32) {f a a' : Int} (h : a ≤ a') : frZ k f a' ≤ frZ k f a := by
  have := zmx_mono (show f - a' ≤ f - a by omega)
  unfold frZ
  split <;> omega
theorem syZ_mono (k : Int32) {m f a a' o o' : Int} (h : a ≤ a') (ho : o ≤ o') : syZ k m f a o ≤ syZ k m f a' o' := by
  have := frZ_anti k (f := f) h
  have := zmx_mono (show m - frZ k f a ≤ m - frZ k f a' by omega)
  unfold syZ
  by_cases c : k = 5
  · rw [if_pos c, if_pos c]; omega
  · rw [if_neg c, if_neg c]; omega
theorem syZ_0 (k : Int32) {m f a o : Int} (ho : 0 ≤ o) : 0 ≤ syZ k m f a o := by
  have := zmx_0 (m - frZ k f a)
  unfold syZ
  split <;> split <;> omega
theorem atz_e (x : Int32) : (fX5_atLeast x).toInt = zmx x.toInt := by
  unfold fX5_atLeast zmx
  have h0 : (0 : Int32).toInt = 0 := by decide
  by_cases h : 0 ≤ x
  · rw [if_pos h]
    rw [fa_le] at h
    rw [if_neg (by omega)]
  · rw [if_neg h]
    rw [fa_le] at h
    rw [if_pos (by omega), h0]
theorem half_e {x : Int32} (h : 0 ≤ x.toInt) : (x / 2).toInt = x.toInt / 2 := by
  obtain ⟨L, l1, rfl⟩ := nI_of (x := x) (by rw [fa_lt]; have h0 : (0 : Int32).toInt = 0 := by decide
                                            omega)
  have : nI L / 2 = nI (L / 2) := pk_div (d := 2) l1 (by decide) (by decide)
  rw [this, nI_toInt (by omega), nI_toInt l1]
  omega
theorem frz_e (k : Int32) {f a : Int32} (f0 : 0 ≤ f.toInt) (f9 : f.toInt ≤ 9) (a0 : -1000 ≤ a.toInt) (a9 : a.toInt ≤ 1000) : (fX5_fearsBy k f a).toInt = frZ k f.toInt a.toInt := by
  have e1 : (fX5_atLeast (f - a)).toInt = zmx (f.toInt - a.toInt) := by rw [atz_e, fb_subI (by omega) (by omega)]
  unfold fX5_fearsBy frZ
  simp only [lt_]
  split
  · exact e1
  · rw [half_e (by rw [e1]; exact zmx_0 _), e1]
theorem syz_e (k : Int32) {m f a : Int32} {o : Nat} (m0 : 0 ≤ m.toInt) (m9 : m.toInt ≤ 9) (f0 : 0 ≤ f.toInt) (f9 : f.toInt ≤ 9) (a0 : -1000 ≤ a.toInt) (a9 : a.toInt ≤ 1000) (ho : o ≤ 6) : (fX5_saysBy k m f a (nI o)).toInt = syZ k m.toInt f.toInt a.toInt o := by
  have q0 := frZ_0 k f.toInt a.toInt
  have q1 := frZ_le k (f := f.toInt) (a := a.toInt) (B := 1009) (by omega) (by omega)
  have e0 := frz_e k f0 f9 a0 a9
  have e1 : (fX5_atLeast (m - fX5_fearsBy k f a)).toInt = zmx (m.toInt - frZ k f.toInt a.toInt) := by rw [atz_e, fb_subI (by omega) (by omega), e0]
  have z0 := zmx_0 (m.toInt - frZ k f.toInt a.toInt)
  have z9 : zmx (m.toInt - frZ k f.toInt a.toInt) ≤ 9 := zmx_le (by omega) (by omega)
  have t2 : (2 : Int32).toInt = 2 := by decide
  have t0 : (0 : Int32).toInt = 0 := by decide
  have to : (nI o).toInt = (o : Int) := nI_toInt (by omega)
  unfold fX5_saysBy syZ
  simp only [lt_]
  generalize fX5_atLeast (m - fX5_fearsBy k f a) = V at e1
  have A2 : (V + 2).toInt = V.toInt + 2 := by rw [fb_addI (by omega) (by omega), t2]
  by_cases c1 : fX5_isClerk k = 0
  · rw [if_pos c1, if_pos c1, Int32.add_zero]
    by_cases c2 : k = 5
    · rw [if_pos c2, if_pos c2, fb_addI (by omega) (by omega), e1, to]; omega
    · rw [if_neg c2, if_neg c2, Int32.add_zero, e1]; omega
  · rw [if_neg c1, if_neg c1]
    by_cases c2 : k = 5
    · rw [if_pos c2, if_pos c2, fb_addI (by omega) (by omega), A2, e1, to]
    · rw [if_neg c2, if_neg c2, Int32.add_zero, A2, e1]; omega
/-- what is lacking, as a number -/
noncomputable def lkZ (h : HH) (i s : Nat) (a : Int) (c : Nat) : Nat := (zmx ((hL h s).toInt - syZ (hK h i) (hM h i).toInt (hF h i).toInt a (clq (hK h) i c (hN h)))).toNat
def hbd (h : HH) (nc : Nat) : Prop := hN h ≤ 6 ∧ nc ≤ 6 ∧ (∀ i, i < hN h → (0 ≤ (hM h i).toInt ∧ (hM h i).toInt ≤ 9) ∧ 0 ≤ (hF h i).toInt ∧ (hF h i).toInt ≤ 9) ∧ ∀ s, s < nc → 0 ≤ (hL h s).toInt ∧ (hL h s).toInt ≤ 9
theorem hbd_of {σ τ : QS} {ns nc : Nat} (hh : HouseOk σ τ ns nc) : hbd (hOf τ ns) nc := by
  refine ⟨hh.1, hh.2.1, fun i hi => ?_, fun s hs => ?_⟩
  · obtain ⟨k1, k2, k3, -, ⟨m, m1, m2⟩, ⟨f, f1, f2⟩⟩ := hh.2.2.2.2.2.2.2.2.1 i hi
    have e1 : hM (hOf τ ns) i = nI m := by show gM τ 54 i = _; rw [← k2]; exact m2
    have e2 : hF (hOf τ ns) i = nI f := by show gM τ 55 i = _; rw [← k3]; exact f2
    rw [e1, e2, nI_toInt (by omega), nI_toInt (by omega)]
    omega
  · obtain ⟨l1, lv, lv1, lv2, lv3⟩ := hh.2.2.2.2.2.2.2.1 s hs
    have el : hL (hOf τ ns) s = nI lv := by show gM τ 52 s = _; rw [← l1]; exact lv3
    rw [el, nI_toInt (by omega)]
    omega
theorem lkZ_le {h : HH} {nc : Nat} (hb : hbd h nc) {i s : Nat} (hs : s < nc) (a : Int) (c : Nat) : lkZ h i s a c ≤ 9 := by
  have s0 := syZ_0 (hK h i) (m := (hM h i).toInt) (f := (hF h i).toInt) (a := a) (o := (clq (hK h) i c (hN h) : Nat)) (by omega)
  have b := hb.2.2.2 s hs
  have := zmx_le (x := (hL h s).toInt - syZ (hK h i) (hM h i).toInt (hF h i).toInt a (clq (hK h) i c (hN h))) (y := 9) (by omega) (by omega)
  unfold lkZ
  omega
theorem lack_z {h : HH} {nc : Nat} (hb : hbd h nc) {i s : Nat} (hi : i < hN h) (hs : s < nc) {a : Int32} (a0 : -1000 ≤ a.toInt) (a9 : a.toInt ≤ 1000) (c : Nat) : lackP h i s a c = nI (lkZ h i s a.toInt c) := by
  obtain ⟨⟨m0, m9⟩, f0, f9⟩ := hb.2.2.1 i hi
  obtain ⟨l0, l9⟩ := hb.2.2.2 s hs
  have co : clq (hK h) i c (hN h) ≤ 6 := Nat.le_trans (clq_le _) hb.1
  have es : (sayP h i a c).toInt = syZ (hK h i) (hM h i).toInt (hF h i).toInt a.toInt (clq (hK h) i c (hN h)) := syz_e (hK h i) m0 m9 f0 f9 a0 a9 co
  have s0 := syZ_0 (hK h i) (m := (hM h i).toInt) (f := (hF h i).toInt) (a := a.toInt) (o := (clq (hK h) i c (hN h) : Nat)) (by omega)
  have rg := fb_rng (sayP h i a c)
  have le := lkZ_le hb (i := i) hs a.toInt c
  have z0 := zmx_0 ((hL h s).toInt - syZ (hK h i) (hM h i).toInt (hF h i).toInt a.toInt (clq (hK h) i c (hN h)))
  rw [fa_eq, nI_toInt (by omega)]
  unfold lackP
  rw [atz_e, fb_subI (by omega) (by omega), es]
  unfold lkZ
  omega
theorem clq_anti {kd : Nat → Int32} {i c c' : Nat} (h : ∀ j, c'.testBit j = true → c.testBit j = true) : ∀ n, clq kd i c n ≤ clq kd i c' n
  | 0 => Nat.le_refl 0
  | n + 1 => by
    have ih := clq_anti (kd := kd) (i := i) h n
    unfold clq
    by_cases e1 : n ≠ i ∧ kd n = 5 ∧ c.testBit n = false
    · have e2 : n ≠ i ∧ kd n = 5 ∧ c'.testBit n = false := ⟨e1.1, e1.2.1, by
        cases e : c'.testBit n
        · rfl
        · have := h n e
          rw [e1.2.2] at this
          cases this⟩
      rw [if_pos e1, if_pos e2]; omega
    · rw [if_neg e1]; omega
theorem lkZ_mono (h : HH) {i s : Nat} {a a' : Int} {c c' : Nat} (ha : a ≤ a') (hc : ∀ j, c'.testBit j = true → c.testBit j = true) : lkZ h i s a' c' ≤ lkZ h i s a c := by
  have h1 := clq_anti (kd := hK h) (i := i) hc (hN h)
  have h2 := syZ_mono (hK h i) (m := (hM h i).toInt) (f := (hF h i).toInt) ha (show ((clq (hK h) i c (hN h) : Nat) : Int) ≤ (clq (hK h) i c' (hN h) : Nat) by omega)
  have h3 := zmx_mono (show (hL h s).toInt - syZ (hK h i) (hM h i).toInt (hF h i).toInt a' (clq (hK h) i c' (hN h)) ≤ (hL h s).toInt - syZ (hK h i) (hM h i).toInt (hF h i).toInt a (clq (hK h) i c (hN h)) by omega)
  unfold lkZ
  omega
/-- a place in a plan: prompts left, applause, carried, called -/
abbrev ND : Type := Nat × Int × Nat × Nat
/-- one choice more: 0 a cut, i + 1 the sitter i -/
noncomputable def stN (h : HH) (s : Nat) : Nat → ND → ND
  | 0, d => d
  | i + 1, d => if d.1 < lkZ h i s d.2.1 d.2.2.2 then (d.1, d.2.1 - 1, d.2.2.1, d.2.2.2 ||| 2 ^ i) else (d.1 - lkZ h i s d.2.1 d.2.2.2, d.2.1 + (if lkZ h i s d.2.1 d.2.2.2 = 0 then 2 else 1), d.2.2.1 + 1, d.2.2.2 ||| 2 ^ i)
theorem stN_no {h : HH} {s i : Nat} {d : ND} (q : d.1 < lkZ h i s d.2.1 d.2.2.2) : stN h s (i + 1) d = (d.1, d.2.1 - 1, d.2.2.1, d.2.2.2 ||| 2 ^ i) := if_pos q
theorem stN_yes {h : HH} {s i : Nat} {d : ND} (q : ¬ d.1 < lkZ h i s d.2.1 d.2.2.2) : stN h s (i + 1) d = (d.1 - lkZ h i s d.2.1 d.2.2.2, d.2.1 + (if lkZ h i s d.2.1 d.2.2.2 = 0 then 2 else 1), d.2.2.1 + 1, d.2.2.2 ||| 2 ^ i) := if_neg q
theorem stN_c (h : HH) (s i : Nat) (d : ND) : (stN h s (i + 1) d).2.2.2 = d.2.2.2 ||| 2 ^ i := by
  by_cases q : d.1 < lkZ h i s d.2.1 d.2.2.2
  · rw [stN_no q]
  · rw [stN_yes q]
def chB (al : Nat → Bool) (c : Nat) : Nat → Bool
  | 0 => true
  | i + 1 => !(c.testBit i) && al i
def fdr {X : Type} (f : Nat → X → X) : Nat → Nat → X → X
  | 0, _, x => x
  | d + 1, j, x => fdr f d (j + 1) (f j x)
theorem fdr_cong {X : Type} {f g : Nat → X → X} : ∀ (d j : Nat) (x : X), (∀ k, j ≤ k → k < j + d → ∀ y, f k y = g k y) → fdr f d j x = fdr g d j x
  | 0, _, _, _ => rfl
  | d + 1, j, x, h => by
    show fdr f d (j + 1) (f j x) = fdr g d (j + 1) (g j x)
    rw [h j (Nat.le_refl j) (by omega)]
    exact fdr_cong d (j + 1) _ (fun k h1 h2 y => h k (by omega) (by omega) y)
theorem fdr_max {p : Nat → Bool} {v : Nat → Nat} {B : Nat} : ∀ (d j x : Nat), fdr (fun k y => if p k = true then max y (v k) else y) d j x ≤ B ↔ x ≤ B ∧ ∀ k, j ≤ k → k < j + d → p k = true → v k ≤ B
  | 0, j, x => ⟨fun h => ⟨h, fun k h1 h2 => by omega⟩, fun h => h.1⟩
  | d + 1, j, x => by
    show fdr _ d (j + 1) (if p j = true then max x (v j) else x) ≤ B ↔ _
    rw [fdr_max d (j + 1)]
    constructor
    · rintro ⟨a, b⟩
      by_cases e : p j = true
      · rw [if_pos e] at a
        refine ⟨by omega, fun k h1 h2 h3 => ?_⟩
        by_cases e2 : k = j
        · rw [e2]; omega
        · exact b k (by omega) (by omega) h3
      · rw [if_neg e] at a
        refine ⟨a, fun k h1 h2 h3 => ?_⟩
        by_cases e2 : k = j
        · rw [e2] at h3; exact absurd h3 e
        · exact b k (by omega) (by omega) h3
    · rintro ⟨a, b⟩
      refine ⟨?_, fun k h1 h2 h3 => b k (by omega) (by omega) h3⟩
      by_cases e : p j = true
      · rw [if_pos e]
        have := b j (Nat.le_refl j) (by omega) e
        omega
      · rw [if_neg e]; exact a
noncomputable def mxN (h : HH) (al : Nat → Bool) (lv : ND → Nat) : Nat → Nat → ND → Nat
  | 0, _, d => lv d
  | m + 1, s, d => fdr (fun k y => if chB al d.2.2.2 k = true then max y (mxN h al lv m (s + 1) (stN h s k d)) else y) (hN h + 1) 0 0
theorem mxN_le {h : HH} {al : Nat → Bool} {lv : ND → Nat} {m s : Nat} {d : ND} {B : Nat} : mxN h al lv (m + 1) s d ≤ B ↔ ∀ k, k ≤ hN h → chB al d.2.2.2 k = true → mxN h al lv m (s + 1) (stN h s k d) ≤ B := by
  show fdr _ (hN h + 1) 0 0 ≤ B ↔ _
  rw [fdr_max (p := fun k => chB al d.2.2.2 k) (v := fun k => mxN h al lv m (s + 1) (stN h s k d))]
  constructor
  · rintro ⟨-, b⟩ k hk e
    exact b k (by omega) (by omega) e
  · intro b
    exact ⟨by omega, fun k h1 h2 e => b k (by omega) e⟩
theorem mxN_ge {h : HH} {al : Nat → Bool} {lv : ND → Nat} {m s : Nat} {d : ND} {k : Nat} (hk : k ≤ hN h) (e : chB al d.2.2.2 k = true) : mxN h al lv m (s + 1) (stN h s k d) ≤ mxN h al lv (m + 1) s d := mxN_le.mp (Nat.le_refl _) k hk e
/-- d' is nowhere worse than d -/
def dmN (d d' : ND) : Prop := d.1 ≤ d'.1 ∧ d.2.1 ≤ d'.2.1 ∧ d.2.2.1 ≤ d'.2.2.1 ∧ ∀ j, d'.2.2.2.testBit j = true → d.2.2.2.testBit j = true
theorem dmN_rf (d : ND) : dmN d d := ⟨Nat.le_refl _, Int.le_refl _, Nat.le_refl _, fun _ h => h⟩
theorem dmN_no {h : HH} {s i : Nat} {d d' : ND} (q : dmN d d') (e : d.1 < lkZ h i s d.2.1 d.2.2.2) : dmN (stN h s (i + 1) d) d' := by
  rw [stN_no e]
  refine ⟨q.1, ?_, q.2.2.1, fun j hj => ?_⟩
  · show d.2.1 - 1 ≤ d'.2.1
    have := q.2.1
    omega
  · show (d.2.2.2 ||| 2 ^ i).testBit j = true
    rw [fb_bit_set, q.2.2.2 j hj]
    rfl
theorem dmN_yes {h : HH} {s i : Nat} {d d' : ND} (q : dmN d d') (e : ¬ d.1 < lkZ h i s d.2.1 d.2.2.2) : ¬ d'.1 < lkZ h i s d'.2.1 d'.2.2.2 ∧ dmN (stN h s (i + 1) d) (stN h s (i + 1) d') := by
  have hl := lkZ_mono h (i := i) (s := s) q.2.1 q.2.2.2
  have q1 := q.1
  have q2 := q.2.1
  have q3 := q.2.2.1
  have e' : ¬ d'.1 < lkZ h i s d'.2.1 d'.2.2.2 := by omega
  refine ⟨e', ?_⟩
  rw [stN_yes e, stN_yes e']
  refine ⟨?_, ?_, ?_, fun j hj => ?_⟩
  · show d.1 - lkZ h i s d.2.1 d.2.2.2 ≤ d'.1 - lkZ h i s d'.2.1 d'.2.2.2
    omega
  · show d.2.1 + (if lkZ h i s d.2.1 d.2.2.2 = 0 then 2 else 1) ≤ d'.2.1 + (if lkZ h i s d'.2.1 d'.2.2.2 = 0 then 2 else 1)
    split
    · rw [if_pos (by omega)]; omega
    · split <;> omega
  · show d.2.2.1 + 1 ≤ d'.2.2.1 + 1
    omega
  · have hj' : (d'.2.2.2 ||| 2 ^ i).testBit j = true := hj
    show (d.2.2.2 ||| 2 ^ i).testBit j = true
    rw [fb_bit_set] at hj' ⊢
    cases e1 : d'.2.2.2.testBit j
    · rw [e1] at hj'
      rw [show decide (j = i) = true by simpa using hj']
      simp
    · rw [q.2.2.2 j e1]; rfl
theorem chB_mono {al al' : Nat → Bool} {c c' : Nat} (ha : ∀ i, al i = true → al' i = true) (hc : ∀ j, c'.testBit j = true → c.testBit j = true) {k : Nat} (h : chB al c k = true) : chB al' c' k = true := by
  cases k with
  | zero => rfl
  | succ i =>
    have h' : (!(c.testBit i) && al i) = true := h
    show (!(c'.testBit i) && al' i) = true
    rw [Bool.and_eq_true] at h' ⊢
    refine ⟨?_, ha i h'.2⟩
    cases e : c'.testBit i
    · rfl
    · rw [hc i e] at h'
      exact absurd h'.1 (by decide)
theorem mxN_mono {h : HH} {al al' : Nat → Bool} {lv : ND → Nat} (hlv : ∀ d d', dmN d d' → lv d ≤ lv d') (ha : ∀ i, al i = true → al' i = true) : ∀ (m s : Nat) (d d' : ND), dmN d d' → mxN h al lv m s d ≤ mxN h al' lv m s d'
  | 0, _, d, d', q => hlv d d' q
  | m + 1, s, d, d', q => by
    refine mxN_le.mpr (fun k hk e => ?_)
    have e' := chB_mono ha q.2.2.2 e
    cases k with
    | zero => exact Nat.le_trans (mxN_mono hlv ha m (s + 1) _ _ q) (mxN_ge (k := 0) (Nat.zero_le _) rfl)
    | succ i =>
      by_cases c : d.1 < lkZ h i s d.2.1 d.2.2.2
      · exact Nat.le_trans (mxN_mono hlv ha m (s + 1) _ _ (dmN_no q c)) (mxN_ge (k := 0) (Nat.zero_le _) rfl)
      · exact Nat.le_trans (mxN_mono hlv ha m (s + 1) _ _ (dmN_yes q c).2) (mxN_ge hk e')
/-- how many can be called -/
def fcN (al : Nat → Bool) (c : Nat) : Nat → Nat
  | 0 => 0
  | k + 1 => fcN al c k + (if chB al c (k + 1) = true then 1 else 0)
theorem fcN_le (al : Nat → Bool) (c : Nat) : ∀ n, fcN al c n ≤ n
  | 0 => Nat.le_refl 0
  | n + 1 => by
    have := fcN_le al c n
    unfold fcN
    split <;> omega
theorem chB_or {al : Nat → Bool} {c i k : Nat} : chB al (c ||| 2 ^ i) (k + 1) = (chB al c (k + 1) && !decide (k = i)) := by
  show (!((c ||| 2 ^ i).testBit k) && al k) = ((!(c.testBit k) && al k) && !decide (k = i))
  rw [fb_bit_set]
  cases c.testBit k <;> cases al k <;> cases decide (k = i) <;> rfl
theorem fcN_same {al : Nat → Bool} {c i : Nat} : ∀ n, n ≤ i → fcN al (c ||| 2 ^ i) n = fcN al c n
  | 0, _ => rfl
  | n + 1, h => by
    unfold fcN
    rw [fcN_same n (by omega), chB_or, decide_eq_false (show ¬ n = i by omega)]
    simp
theorem fcN_step {al : Nat → Bool} {c i : Nat} (e : chB al c (i + 1) = true) : ∀ n, i < n → fcN al (c ||| 2 ^ i) n + 1 = fcN al c n
  | 0, h => absurd h (Nat.not_lt_zero i)
  | n + 1, h => by
    unfold fcN
    rw [chB_or]
    by_cases q : n = i
    · subst q
      rw [fcN_same n (Nat.le_refl n), e]
      simp
    · rw [decide_eq_false q]
      have := fcN_step e n (by omega)
      simp only [Bool.not_false, Bool.and_true]
      omega
def lvR (d : ND) : Nat := d.2.2.1
theorem stN_r (h : HH) (s k : Nat) (d : ND) : d.2.2.1 ≤ (stN h s k d).2.2.1 ∧ (stN h s k d).2.2.1 ≤ d.2.2.1 + 1 := by
  cases k with
  | zero => exact ⟨Nat.le_refl _, Nat.le_succ _⟩
  | succ i =>
    by_cases q : d.1 < lkZ h i s d.2.1 d.2.2.2
    · rw [stN_no q]; exact ⟨Nat.le_refl _, Nat.le_succ _⟩
    · rw [stN_yes q]; exact ⟨Nat.le_succ _, Nat.le_refl _⟩
theorem mxR_m {h : HH} {al : Nat → Bool} : ∀ (m s : Nat) (d : ND), mxN h al lvR m s d ≤ d.2.2.1 + m
  | 0, _, d => Nat.le_refl _
  | m + 1, s, d => mxN_le.mpr (fun k _ _ => by
    have h1 := mxR_m (h := h) (al := al) m (s + 1) (stN h s k d)
    have h2 := stN_r h s k d
    omega)
theorem mxR_f {h : HH} {al : Nat → Bool} : ∀ (m s : Nat) (d : ND), mxN h al lvR m s d ≤ d.2.2.1 + fcN al d.2.2.2 (hN h)
  | 0, _, d => Nat.le_add_right _ _
  | m + 1, s, d => mxN_le.mpr (fun k hk e => by
    have h1 := mxR_f (h := h) (al := al) m (s + 1) (stN h s k d)
    cases k with
    | zero => exact h1
    | succ i =>
      have h2 := stN_r h s (i + 1) d
      rw [stN_c] at h1
      have h3 := fcN_step e (hN h) (by omega)
      omega)
theorem mxR_ge {h : HH} {al : Nat → Bool} : ∀ (m s : Nat) (d : ND), d.2.2.1 ≤ mxN h al lvR m s d
  | 0, _, _ => Nat.le_refl _
  | m + 1, s, d => Nat.le_trans (mxR_ge (h := h) (al := al) m (s + 1) d) (mxN_ge (k := 0) (Nat.zero_le _) rfl)
/-- a plan as it grows: what was chosen, the places passed -/
abbrev PS : Type := (Nat → Nat) × (Nat → ND)
noncomputable def chP (h : HH) (s n k : Nat) (P : PS) : PS := (fun j => if j = n then k else P.1 j, fun j => if j = n + 1 then stN h s k (P.2 n) else P.2 j)
theorem chP_1 (h : HH) (s n k : Nat) (P : PS) : (chP h s n k P).1 n = k := if_pos rfl
theorem chP_1o {h : HH} {s n k : Nat} {P : PS} {j : Nat} (q : j ≠ n) : (chP h s n k P).1 j = P.1 j := if_neg q
theorem chP_2 (h : HH) (s n k : Nat) (P : PS) : (chP h s n k P).2 (n + 1) = stN h s k (P.2 n) := if_pos rfl
theorem chP_2o {h : HH} {s n k : Nat} {P : PS} {j : Nat} (q : j ≠ n + 1) : (chP h s n k P).2 j = P.2 j := if_neg q
/-- over all plans, in order -/
noncomputable def tfP {X : Type} (h : HH) (al : Nat → Bool) (s0 : Nat) (G : PS → X → X) : Nat → Nat → PS → X → X
  | 0, _, P, x => G P x
  | m + 1, n, P, x => fdr (fun k y => if chB al (P.2 n).2.2.2 k = true then tfP h al s0 G m (n + 1) (chP h (s0 + n) n k P) y else y) (hN h + 1) 0 x
