/-! ===== lowest terms ===== -/
theorem gcd_go (a b : Nat) : Nat.gcd a b = Nat.gcd b (a % b) := by
  rw [Nat.gcd_comm a b, Nat.gcd_rec b a, Nat.gcd_comm]
theorem mod_half {b r k : Nat} (hb : b < 2 ^ (k + 1)) (h0 : 0 < r) (hr : r < b) : b % r < 2 ^ k := by
  have e : 2 ^ (k + 1) = 2 ^ k * 2 := Nat.pow_succ 2 k
  have h1 := Nat.mod_lt b h0
  have h2 := Nat.div_add_mod b r
  have h3 : 1 ≤ b / r := (Nat.one_le_div_iff h0).mpr (Nat.le_of_lt hr)
  have h4 : r * 1 ≤ r * (b / r) := Nat.mul_le_mul_left r h3
  by_cases q : r ≤ 2 ^ k
  · omega
  · omega
theorem lN0_e {n : Nat} (h : n < 2 ^ 31) : lg_cmp (lN n) (0 : Int64) = 0 ↔ n = 0 := by
  rw [cmp_eq]
  show lN n = lN 0 ↔ _
  rw [lN_eq h (by omega)]
theorem ne0L_n {n : Nat} (h : n < 2 ^ 31) (h0 : n ≠ 0) : ne0L (lN n) = true := by
  unfold ne0L
  have : ¬ lN n = 0 := by
    show ¬ lN n = lN 0
    rw [lN_eq h (by omega)]
    exact h0
  simp [this]
theorem gcdC_e : ∀ (k a b t : Nat), b < 2 ^ k → k ≤ 30 → a < 2 ^ 31 → t + 2 * k < 100 → ∀ f, 2 * k < f → lp_ (fun (r2 : Int64 × Int64 × Int32 → Option (Int64)) (a1 : Int64 × Int64 × Int32) => (if (100 : Int32) ≤ a1.2.2 then some a1.1 else (if (lg_cmp a1.2.1 (0 : Int64)) = 0 then some a1.1 else ck_ (ne0L a1.2.1) (lt_ (a1.1 - a1.1 / a1.2.1 * a1.2.1) (fun (v4 : Int64) => r2 (a1.2.1, v4, (a1.2.2 + (1 : Int32)))))))) f (lN a, lN b, nI t) = some (lN (Nat.gcd a b)) := by
  have stop : ∀ (a t f : Nat), t < 100 → 0 < f → lp_ (fun (r2 : Int64 × Int64 × Int32 → Option (Int64)) (a1 : Int64 × Int64 × Int32) => (if (100 : Int32) ≤ a1.2.2 then some a1.1 else (if (lg_cmp a1.2.1 (0 : Int64)) = 0 then some a1.1 else ck_ (ne0L a1.2.1) (lt_ (a1.1 - a1.1 / a1.2.1 * a1.2.1) (fun (v4 : Int64) => r2 (a1.2.1, v4, (a1.2.2 + (1 : Int32)))))))) f (lN a, lN 0, nI t) = some (lN a) := by
    intro a t f ht hf
    obtain ⟨f', rfl⟩ : ∃ f', f = f' + 1 := ⟨f - 1, by omega⟩
    show (if (100 : Int32) ≤ nI t then _ else (if lg_cmp (lN 0) (0 : Int64) = 0 then some (lN a) else _)) = _
    rw [if_neg (show ¬ (100 : Int32) ≤ nI t from by show ¬ nI 100 ≤ nI t; rw [nI_L (by omega) (by omega)]; omega), if_pos ((lN0_e (by omega)).mpr rfl)]
  have step : ∀ (a b t f : Nat), a < 2 ^ 31 → b < 2 ^ 31 → b ≠ 0 → t < 100 → lp_ (fun (r2 : Int64 × Int64 × Int32 → Option (Int64)) (a1 : Int64 × Int64 × Int32) => (if (100 : Int32) ≤ a1.2.2 then some a1.1 else (if (lg_cmp a1.2.1 (0 : Int64)) = 0 then some a1.1 else ck_ (ne0L a1.2.1) (lt_ (a1.1 - a1.1 / a1.2.1 * a1.2.1) (fun (v4 : Int64) => r2 (a1.2.1, v4, (a1.2.2 + (1 : Int32)))))))) (f + 1) (lN a, lN b, nI t) = lp_ (fun (r2 : Int64 × Int64 × Int32 → Option (Int64)) (a1 : Int64 × Int64 × Int32) => (if (100 : Int32) ≤ a1.2.2 then some a1.1 else (if (lg_cmp a1.2.1 (0 : Int64)) = 0 then some a1.1 else ck_ (ne0L a1.2.1) (lt_ (a1.1 - a1.1 / a1.2.1 * a1.2.1) (fun (v4 : Int64) => r2 (a1.2.1, v4, (a1.2.2 + (1 : Int32)))))))) f (lN b, lN (a % b), nI (t + 1)) := by
    intro a b t f ha hb h0 ht
    show (if (100 : Int32) ≤ nI t then _ else (if lg_cmp (lN b) (0 : Int64) = 0 then _ else ck_ (ne0L (lN b)) (lt_ (lN a - lN a / lN b * lN b) (fun v4 => lp_ _ f (lN b, v4, nI t + (1 : Int32)))))) = _
    rw [if_neg (show ¬ (100 : Int32) ≤ nI t from by show ¬ nI 100 ≤ nI t; rw [nI_L (by omega) (by omega)]; omega), if_neg (fun w => h0 ((lN0_e hb).mp w)), ck_t (ne0L_n hb h0), lt_q, pk_lRem (by omega) (by omega) (by omega), nI_1]
  intro k
  induction k with
  | zero =>
    intro a b t hb hk ha ht f hf
    have : b = 0 := by simp at hb; exact hb
    subst this
    rw [stop a t f (by omega) (by omega), Nat.gcd_zero_right]
  | succ k ih =>
    intro a b t hb hk ha ht f hf
    have h2k : 2 ^ (k + 1) ≤ 2 ^ 30 := Nat.pow_le_pow_right (by omega) hk
    by_cases h0 : b = 0
    · subst h0
      rw [stop a t f (by omega) (by omega), Nat.gcd_zero_right]
    · obtain ⟨f', rfl⟩ : ∃ f', f = f' + 1 := ⟨f - 1, by omega⟩
      have hr := Nat.mod_lt a (show 0 < b by omega)
      rw [step a b t f' ha (by omega) h0 (by omega), gcd_go]
      by_cases r0 : a % b = 0
      · rw [r0, stop b (t + 1) f' (by omega) (by omega), Nat.gcd_zero_right]
      · obtain ⟨f2, rfl⟩ : ∃ f2, f' = f2 + 1 := ⟨f' - 1, by omega⟩
        rw [step b (a % b) (t + 1) f2 (by omega) (by omega) r0 (by omega), gcd_go]
        exact ih (a % b) (b % (a % b)) (t + 1 + 1) (mod_half hb (by omega) hr) (by omega) (by omega) (by omega) f2 (by omega)
theorem gcdR_e : ∀ (k a b : Nat), b < 2 ^ k → k ≤ 30 → a < 2 ^ 31 → ∀ f, 2 * k < f → lp_ (fun (r2 : Int64 × Int64 → Option (Int64)) (a1 : Int64 × Int64) => (if (lg_cmp a1.2 (0 : Int64)) = 0 then some a1.1 else ck_ (ne0L a1.2) (lt_ (a1.1 - a1.1 / a1.2 * a1.2) (fun (v4 : Int64) => r2 (a1.2, v4))))) f (lN a, lN b) = some (lN (Nat.gcd a b)) := by
  have stop : ∀ (a f : Nat), 0 < f → lp_ (fun (r2 : Int64 × Int64 → Option (Int64)) (a1 : Int64 × Int64) => (if (lg_cmp a1.2 (0 : Int64)) = 0 then some a1.1 else ck_ (ne0L a1.2) (lt_ (a1.1 - a1.1 / a1.2 * a1.2) (fun (v4 : Int64) => r2 (a1.2, v4))))) f (lN a, lN 0) = some (lN a) := by
    intro a f hf
    obtain ⟨f', rfl⟩ : ∃ f', f = f' + 1 := ⟨f - 1, by omega⟩
    simp only [lp_]
    rw [if_pos ((lN0_e (by omega)).mpr rfl)]
  have step : ∀ (a b f : Nat), a < 2 ^ 31 → b < 2 ^ 31 → b ≠ 0 → lp_ (fun (r2 : Int64 × Int64 → Option (Int64)) (a1 : Int64 × Int64) => (if (lg_cmp a1.2 (0 : Int64)) = 0 then some a1.1 else ck_ (ne0L a1.2) (lt_ (a1.1 - a1.1 / a1.2 * a1.2) (fun (v4 : Int64) => r2 (a1.2, v4))))) (f + 1) (lN a, lN b) = lp_ (fun (r2 : Int64 × Int64 → Option (Int64)) (a1 : Int64 × Int64) => (if (lg_cmp a1.2 (0 : Int64)) = 0 then some a1.1 else ck_ (ne0L a1.2) (lt_ (a1.1 - a1.1 / a1.2 * a1.2) (fun (v4 : Int64) => r2 (a1.2, v4))))) f (lN b, lN (a % b)) := by
    intro a b f ha hb h0
    show (if lg_cmp (lN b) (0 : Int64) = 0 then _ else ck_ (ne0L (lN b)) (lt_ (lN a - lN a / lN b * lN b) (fun v4 => lp_ _ f (lN b, v4)))) = _
    rw [if_neg (fun w => h0 ((lN0_e hb).mp w)), ck_t (ne0L_n hb h0), lt_q, pk_lRem (by omega) (by omega) (by omega)]
  intro k
  induction k with
  | zero =>
    intro a b hb hk ha f hf
    have : b = 0 := by simp at hb; exact hb
    subst this
    rw [stop a f (by omega), Nat.gcd_zero_right]
  | succ k ih =>
    intro a b hb hk ha f hf
    have h2k : 2 ^ (k + 1) ≤ 2 ^ 30 := Nat.pow_le_pow_right (by omega) hk
    by_cases h0 : b = 0
    · subst h0
      rw [stop a f (by omega), Nat.gcd_zero_right]
    · obtain ⟨f', rfl⟩ : ∃ f', f = f' + 1 := ⟨f - 1, by omega⟩
      have hr := Nat.mod_lt a (show 0 < b by omega)
      rw [step a b f' ha (by omega) h0, gcd_go]
      by_cases r0 : a % b = 0
      · rw [r0, stop b f' (by omega), Nat.gcd_zero_right]
      · obtain ⟨f2, rfl⟩ : ∃ f2, f' = f2 + 1 := ⟨f' - 1, by omega⟩
        rw [step b (a % b) f2 (by omega) (by omega) r0, gcd_go]
        exact ih (a % b) (b % (a % b)) (mod_half hb (by omega) hr) (by omega) (by omega) f2 (by omega)
theorem abs_n {x : Int64} (h1 : -1000000000 ≤ x.toInt) (h2 : x.toInt ≤ 1000000000) : ∃ a, a ≤ 1000000000 ∧ (if 0 ≤ lg_cmp x (0 : Int64) then x else -x) = lN a := by
  have z : (0 : Int64).toInt = 0 := by decide
  have cl := cmp_lt x 0
  by_cases q : x < 0
  · have q' := cl.mpr q
    rw [fa_lt64, z] at q
    refine ⟨(-x.toInt).toNat, by omega, ?_⟩
    rw [if_neg (by rw [fa_lt] at q'; rw [fa_le]; omega), fa_eq64, Int64.toInt_neg, lN_toInt (by omega), fb_bmodL (by omega) (by omega)]
    omega
  · have q' : ¬ lg_cmp x 0 < 0 := fun w => q (cl.mp w)
    rw [fa_lt64, z] at q
    refine ⟨x.toInt.toNat, by omega, ?_⟩
    rw [if_pos (by rw [fa_lt] at q'; rw [fa_le]; omega), fa_eq64, lN_toInt (by omega)]
    omega
theorem frac_same {σ τ : QS} {x : Int64} {b : Nat} (h1 : -1000000000 ≤ x.toInt) (h2 : x.toInt ≤ 1000000000) (b0 : 0 < b) (b1 : b < 2 ^ 20) : ∃ u w, fX4_tellFraction_0 x (lN b) σ = some (pJ (pJ σ 0 u) 1 w) ∧ fX5_tellParts_50 x (lN b) τ = some (1, pJ (pJ τ 0 u) 1 w) := by
  obtain ⟨a, a1, a2⟩ := abs_n h1 h2
  have gp : 0 < Nat.gcd a b := Nat.gcd_pos_of_pos_right a b0
  have gl : Nat.gcd a b ≤ b := Nat.gcd_le_right a b0
  have ng : ne0L (lN (Nat.gcd a b)) = true := ne0L_n (by omega) (by omega)
  refine ⟨x / lN (Nat.gcd a b), lN b / lN (Nat.gcd a b), ?_, ?_⟩
  · unfold fX4_tellFraction_0 fX4_greatestDivisor
    have ea : fJ9_abs_067f4 x = lN a := a2
    have g := gcdC_e 20 a b 0 b1 (by omega) (by omega) (by omega) FV (Nat.lt_of_lt_of_le (by omega) FV_ge)
    have g' : lp_ (fun (r2 : Int64 × Int64 × Int32 → Option (Int64)) (a1 : Int64 × Int64 × Int32) => (if (100 : Int32) ≤ a1.2.2 then some a1.1 else (if (lg_cmp a1.2.1 (0 : Int64)) = 0 then some a1.1 else ck_ (ne0L a1.2.1) (lt_ (a1.1 - a1.1 / a1.2.1 * a1.2.1) (fun (v4 : Int64) => r2 (a1.2.1, v4, (a1.2.2 + (1 : Int32)))))))) FV (lN a, lN b, (0 : Int32)) = some (lN (Nat.gcd a b)) := g
    have cg := cmp_gt (lN (Nat.gcd a b)) 0
    have pos : (0 : Int64) < lN (Nat.gcd a b) := by show lN 0 < _; rw [lN_lt (by omega) (by omega)]; exact gp
    have cg' := cg.mpr pos
    rw [ea, g', Option.bind_some, if_neg (by rw [fa_lt] at cg'; rw [fa_le]; omega), ck_t ng, lt_q, ck_t ng, lt_q]
  · unfold fX5_tellParts_50
    have ed : fX5_divisor x (lN b) = some (lN (Nat.gcd a b)) := by
      have g := gcdR_e 20 a b b1 (by omega) (by omega) FV (Nat.lt_of_lt_of_le (by omega) FV_ge)
      unfold fX5_divisor
      by_cases q : 0 ≤ lg_cmp x (0 : Int64)
      · rw [if_pos q] at a2 ⊢
        rw [a2]
        exact g
      · rw [if_neg q] at a2 ⊢
        rw [lt_q, a2]
        exact g
    rw [ed, Option.bind_some, ck_t ng, lt_q, ck_t ng, lt_q]
/-! ===== by how many plans ===== -/
theorem tf_count {X : Type} {h : HH} {al : Nat → Bool} {s0 : Nat} {G : PS → X → X} (pr : X → Nat) (hh : hN h ≤ 6) (hG : ∀ P x, pr (G P x) ≤ pr x + 1) : ∀ (m n : Nat) (P : PS) (x : X), pr (tfP h al s0 G m n P x) ≤ pr x + 7 ^ m
  | 0, _, P, x => by
    have := hG P x
    show pr (G P x) ≤ pr x + 7 ^ 0
    simp only [Nat.pow_zero]
    exact this
  | m + 1, n, P, x => by
    have ih := tf_count (h := h) (al := al) (s0 := s0) (G := G) pr hh hG m (n + 1)
    have key : ∀ (d j : Nat) (x : X), pr (fdr (fun k y => if chB al (P.2 n).2.2.2 k = true then tfP h al s0 G m (n + 1) (chP h (s0 + n) n k P) y else y) d j x) ≤ pr x + d * 7 ^ m := by
      intro d
      induction d with
      | zero => intro j x; show pr x ≤ _; omega
      | succ d ihd =>
        intro j x
        have hs : (d + 1) * 7 ^ m = d * 7 ^ m + 7 ^ m := Nat.succ_mul d (7 ^ m)
        have h1 := ihd (j + 1) (if chB al (P.2 n).2.2.2 j = true then tfP h al s0 G m (n + 1) (chP h (s0 + n) n j P) x else x)
        have h2 : pr (if chB al (P.2 n).2.2.2 j = true then tfP h al s0 G m (n + 1) (chP h (s0 + n) n j P) x else x) ≤ pr x + 7 ^ m := by
          by_cases e : chB al (P.2 n).2.2.2 j = true
          · rw [if_pos e]; exact ih _ _
          · rw [if_neg e]; exact Nat.le_add_right _ _
        show pr (fdr _ d (j + 1) (if chB al (P.2 n).2.2.2 j = true then tfP h al s0 G m (n + 1) (chP h (s0 + n) n j P) x else x)) ≤ _
        omega
    have k1 := key (hN h + 1) 0 x
    have hs : 7 ^ (m + 1) = 7 ^ m * 7 := Nat.pow_succ 7 m
    have hm : (hN h + 1) * 7 ^ m ≤ 7 * 7 ^ m := Nat.mul_le_mul_right _ (by omega)
    show pr (fdr _ (hN h + 1) 0 x) ≤ _
    omega
theorem p7_le {m : Nat} (h : m ≤ 6) : 7 ^ m ≤ 117649 := by
  have := Nat.pow_le_pow_right (n := 7) (by omega) h
  exact Nat.le_trans this (by decide)
abbrev WX : Type := Nat × Nat
def gwP (wt c0 M : Nat) (P : PS) (x : WX) : WX := if wt ≤ (P.2 M).2.2.1 then (x.1 + 1, x.2 &&& dif (P.2 M).2.2.2 c0) else x
theorem pcnt_0 : ∀ n, pcnt n 0 = 1
  | 0 => rfl
  | _ + 1 => rfl
theorem pcnt_s (m k : Nat) : pcnt (m + 1) k = pcnt m k + k * pcnt m (k - 1) := by
  cases k with
  | zero => rw [pcnt_0, pcnt_0]
  | succ k => rfl
theorem pcnt_pos : ∀ n k, 0 < pcnt n k
  | 0, _ => Nat.one_pos
  | n + 1, k => by
    rw [pcnt_s]
    have := pcnt_pos n k
    omega
theorem pcnt_fin : ∀ n k : Fin 7, pcnt n.val k.val < 20000 := by decide
theorem and_dif {e c c0 k : Nat} (h : e &&& dif c c0 = e) : e &&& dif (c ||| 2 ^ k) c0 = e := by
  refine Nat.eq_of_testBit_eq (fun i => ?_)
  have hi : (e &&& dif c c0).testBit i = e.testBit i := by rw [h]
  unfold dif at hi ⊢
  rw [Nat.testBit_and, Nat.testBit_and] at hi
  rw [Nat.testBit_and, Nat.testBit_and, Nat.testBit_or]
  cases e1 : e.testBit i
  · simp
  · rw [e1] at hi
    cases e2 : c.testBit i
    · rw [e2] at hi; simp at hi
    · rw [e2] at hi
      simp at hi
      simp [hi]
theorem and_idem (e D : Nat) : (e &&& D) &&& D = e &&& D := by rw [Nat.and_assoc, Nat.and_self]
theorem ways_all {h : HH} {al : Nat → Bool} {s0 wt c0 M : Nat} : ∀ (m n : Nat) (P : PS) (x : WX), n + m = M → wt ≤ (P.2 n).2.2.1 → tfP h al s0 (gwP wt c0 M) m n P x = (x.1 + pcnt m (fcN al (P.2 n).2.2.2 (hN h)), x.2 &&& dif (P.2 n).2.2.2 c0)
  | 0, n, P, x, hM, hw => by
    have : n = M := by omega
    subst this
    show gwP wt c0 n P x = _
    unfold gwP
    rw [if_pos hw]
    rfl
  | m + 1, n, P, x, hM, hw => by
    have cut := ways_all (h := h) (al := al) (s0 := s0) (wt := wt) (c0 := c0) (M := M) m (n + 1) (chP h (s0 + n) n 0 P) x (by omega) (by rw [chP_2, stN_0]; exact hw)
    rw [chP_2, stN_0] at cut
    have key : ∀ j, j ≤ hN h → fdr (fun k y => if chB al (P.2 n).2.2.2 k = true then tfP h al s0 (gwP wt c0 M) m (n + 1) (chP h (s0 + n) n k P) y else y) j 1 (x.1 + pcnt m (fcN al (P.2 n).2.2.2 (hN h)), x.2 &&& dif (P.2 n).2.2.2 c0) = (x.1 + pcnt m (fcN al (P.2 n).2.2.2 (hN h)) + fcN al (P.2 n).2.2.2 j * pcnt m (fcN al (P.2 n).2.2.2 (hN h) - 1), x.2 &&& dif (P.2 n).2.2.2 c0) := by
      intro j
      induction j with
      | zero =>
        intro _
        show _ = (_ + 0 * _, _)
        rw [Nat.zero_mul]
        rfl
      | succ j ihj =>
        intro hj
        rw [fdr_end, ihj (by omega), Nat.add_comm 1 j]
        show (if chB al (P.2 n).2.2.2 (j + 1) = true then _ else _) = (_ + (fcN al (P.2 n).2.2.2 j + (if chB al (P.2 n).2.2.2 (j + 1) = true then 1 else 0)) * _, _)
        by_cases e : chB al (P.2 n).2.2.2 (j + 1) = true
        · have sr := stN_r h (s0 + n) (j + 1) (P.2 n)
          have fs := fcN_step e (hN h) (by omega)
          rw [if_pos e, if_pos e, ways_all m (n + 1) _ _ (by omega) (by rw [chP_2]; omega), chP_2, stN_c, and_dif (and_idem _ _), Nat.succ_mul, show fcN al ((P.2 n).2.2.2 ||| 2 ^ j) (hN h) = fcN al (P.2 n).2.2.2 (hN h) - 1 by omega]
          simp only [Nat.add_assoc]
        · rw [if_neg e, if_neg e]
          rfl
    show fdr _ (hN h) 1 (if chB al (P.2 n).2.2.2 0 = true then tfP h al s0 (gwP wt c0 M) m (n + 1) (chP h (s0 + n) n 0 P) x else x) = _
    rw [if_pos (show chB al (P.2 n).2.2.2 0 = true from rfl), cut, key (hN h) (Nat.le_refl _), pcnt_s m]
    simp only [Nat.add_assoc]
theorem ways_no {h : HH} {al : Nat → Bool} {s0 wt c0 M m n : Nat} {P : PS} {x : WX} (hM : n + m = M) (hg : mxN h al lvR m (s0 + n) (P.2 n) < wt) : tfP h al s0 (gwP wt c0 M) m n P x = x := by
  refine tf_const (M := M) (fun n P => n ≤ M → mxN h al lvR (M - n) (s0 + n) (P.2 n) < wt) (fun n P k v hk e hn => ?_) (fun P v => ?_) m n P hM (fun _ => by rw [show M - n = m by omega]; exact hg)
  · have := v (by omega)
    rw [show M - n = (M - (n + 1)) + 1 by omega] at this
    have g := mxN_ge (lv := lvR) (m := M - (n + 1)) (s := s0 + n) (h := h) hk e
    rw [chP_2]
    have g' : mxN h al lvR (M - (n + 1)) (s0 + (n + 1)) (stN h (s0 + n) k (P.2 n)) ≤ mxN h al lvR (M - (n + 1) + 1) (s0 + n) (P.2 n) := g
    omega
  · have := v (Nat.le_refl _)
    rw [Nat.sub_self] at this
    have this' : (P.2 M).2.2.1 < wt := this
    unfold gwP
    rw [if_neg (by omega)]
noncomputable def swB (d : Nat) (x1 x2 x3 x4 x5 : Int32) : (Int32 × QS → Option (QS)) → Int32 × QS → Option (QS) := (fun (r3 : Int32 × QS → Option (QS)) (a2 : Int32 × QS) => (if (gI a2.2 9) ≤ a2.1 then some a2.2 else (if (fX2_isFree_7 a2.1 x2 a2.2) = 0 then r3 ((a2.1 + (1 : Int32)), a2.2) else Option.bind (fX1_lacking_5 a2.1 x1 x2 x3 a2.2) (fun (q4 : Int32) => lt_ (fun (v6 : Int32) => Option.bind (fX2_seekWays_7 d (x1 + (1 : Int32)) (x2 ||| ((1 : Int32) <<< (a2.1 &&& 31))) (fX2_clappingBehind x3 q4 x4) (fX2_promptsBehind q4 x4) (x5 + v6) a2.2) (fun (q7 : QS) => r3 ((a2.1 + (1 : Int32)), q7))) (fun (j5 : Int32 → Option (QS)) => (if x4 < q4 then j5 (0 : Int32) else j5 (1 : Int32)))))))
theorem seekWays_s (d : Nat) (x1 x2 x3 x4 x5 : Int32) (σ : QS) : fX2_seekWays_7 (d + 1) x1 x2 x3 x4 x5 σ = (if x5 < (gI σ 24) then (if (gI σ 8) ≤ x1 then some σ else (if (gI σ 24) ≤ (x5 + (fX2_hope_7 x1 x2 σ)) then Option.bind (fX2_seekWays_7 d (x1 + (1 : Int32)) x2 x3 x4 x5 σ) (fun (q1 : QS) => lp_ (swB d x1 x2 x3 x4 x5) FV ((0 : Int32), q1)) else some σ)) else Option.bind (fX2_plansFor_7 ((gI σ 8) - x1) (fX2_freeCount_7 x2 σ) σ) (fun (q8 : Int32) => lt_ (pJ σ 2 ((gJ σ 2) + q8.toInt64)) (fun (S9 : QS) => lt_ (pI S9 25 ((gI S9 25) &&& x2)) (fun (S10 : QS) => some S10)))) := rfl
theorem stN_e1 (h : HH) (s i : Nat) (d : ND) : (stN h s (i + 1) d).1 = (if d.1 < lkZ h i s d.2.1 d.2.2.2 then d.1 else d.1 - lkZ h i s d.2.1 d.2.2.2) ∧ (stN h s (i + 1) d).2.1 = (if d.1 < lkZ h i s d.2.1 d.2.2.2 then d.2.1 - 1 else d.2.1 + (if lkZ h i s d.2.1 d.2.2.2 = 0 then 2 else 1)) ∧ (stN h s (i + 1) d).2.2.1 = (if d.1 < lkZ h i s d.2.1 d.2.2.2 then d.2.2.1 else d.2.2.1 + 1) := by
  by_cases q : d.1 < lkZ h i s d.2.1 d.2.2.2
  · rw [stN_no q, if_pos q, if_pos q, if_pos q]; exact ⟨rfl, rfl, rfl⟩
  · rw [stN_yes q, if_neg q, if_neg q, if_neg q]; exact ⟨rfl, rfl, rfl⟩
theorem swB_step {σ τ : QS} {ns nc A : Nat} {al : Nat → Bool} (hh : HouseOk σ τ ns nc) (hA : alB A ns al) (h19 : gI σ 19 = nI A) {D s t k : Nat} {d : ND} (hs : s < nc) (ht : t ≤ 6) (hd : nbP 999 ns t d) (hk : k < ns) (r : Int32 × QS → Option (QS)) : swB D (nI s) (nI d.2.2.2) (PZ d.2.1) (nI d.1) (nI d.2.2.1) r (nI k, σ) = if chB al d.2.2.2 (k + 1) = true then Option.bind (fX2_seekWays_7 D (nI (s + 1)) (nI (stN (hOf τ ns) s (k + 1) d).2.2.2) (PZ (stN (hOf τ ns) s (k + 1) d).2.1) (nI (stN (hOf τ ns) s (k + 1) d).1) (nI (stN (hOf τ ns) s (k + 1) d).2.2.1) σ) (fun q => r (nI (k + 1), q)) else r (nI (k + 1), σ) := by
  have hns := hh.1
  have hnc := hh.2.1
  obtain ⟨b1, b2, b3, b4, b5⟩ := hd
  have c6 := pow_le64 hns b5
  have l9 := lkZ_le (hbd_of hh) (i := k) hs d.2.1 d.2.2.2
  obtain ⟨q1, q2, q3⟩ := stN_e1 (hOf τ ns) s k d
  unfold swB
  simp only [lt_q]
  rw [hh.2.2.2.1, if_neg (by rw [nI_L (by omega) (by omega)]; omega), isFree_e hA hns h19 hk, lackC_z hh hk hs c6 (by omega) (by omega), Option.bind_some, nI_1, nI_1, clap_e (by omega) (by omega), prom_e (by omega) (by omega), shl_e (show k < 31 by omega), fa_or, q1, q2, q3, stN_c]
  by_cases e : chB al d.2.2.2 (k + 1) = true
  · rw [if_pos e, if_neg one_ne, if_pos e]
    by_cases q : d.1 < lkZ (hOf τ ns) k s d.2.1 d.2.2.2
    · rw [if_pos (show nI d.1 < nI (lkZ (hOf τ ns) k s d.2.1 d.2.2.2) from by rw [nI_l2 (by omega) (by omega)]; exact q), if_pos q, if_pos q, if_pos q, Int32.add_zero]
    · rw [if_neg (show ¬ nI d.1 < nI (lkZ (hOf τ ns) k s d.2.1 d.2.2.2) from by rw [nI_l2 (by omega) (by omega)]; exact q), if_neg q, if_neg q, if_neg q, nI_1]
  · rw [if_neg e, if_pos rfl, if_neg e]
theorem swB_end {σ : QS} {ns : Nat} (h9 : gI σ 9 = nI ns) (hns : ns ≤ 6) {D : Nat} {x1 x2 x3 x4 x5 : Int32} (r : Int32 × QS → Option (QS)) : swB D x1 x2 x3 x4 x5 r (nI ns, σ) = some σ := by
  unfold swB
  simp only [lt_q]
  rw [h9, if_pos (by rw [nI_L (by omega) (by omega)]; omega)]
theorem plansFor_e {σ : QS} (ht : TabOk σ) {m k : Nat} (hm : m ≤ 6) (hk : k ≤ 6) : fX2_plansFor_7 (nI m) (nI k) σ = some (nI (pcnt m k)) := by
  unfold fX2_plansFor_7
  simp only [lt_q]
  rw [if_neg (show ¬ nI m < 0 from nneg (by omega)), if_neg (show ¬ (6 : Int32) < nI m from by show ¬ nI 6 < nI m; rw [nI_l2 (by omega) (by omega)]; omega), if_neg (show ¬ nI k < 0 from nneg (by omega)), if_neg (show ¬ (6 : Int32) < nI k from by show ¬ nI 6 < nI k; rw [nI_l2 (by omega) (by omega)]; omega), if_neg one_ne, ck_t (inb_n (by omega) (by omega)), ck_t (inb_n (by omega) (by omega)), nI_c (by omega), nI_c (by omega), ht m (by omega) k (by omega)]
def rcW (σ : QS) (c0 : Nat) (x : WX) : Prop := gJ σ 2 = lN x.1 ∧ ∃ e, gI σ 25 = nI e ∧ ((x.1 = 0 ∧ x.2 = 63 ∧ e = c0 ^^^ 4294967295) ∨ (0 < x.1 ∧ e = x.2 ∧ x.2 &&& (c0 ^^^ 4294967295) = x.2))
theorem and_63 {c : Nat} (h : c < 64) (c0 : Nat) : 63 &&& dif c c0 = dif c c0 := by
  rw [Nat.and_comm]
  have : 63 = 2 ^ 6 - 1 := rfl
  rw [this, Nat.and_two_pow_sub_one_eq_mod]
  exact Nat.mod_eq_of_lt (Nat.lt_of_le_of_lt (dif_le _ _) h)
theorem seekWays_e {σ0 τ : QS} {ns nc A s0 M wt c0 : Nat} {al : Nat → Bool} (hh : HouseOk σ0 τ ns nc) (ht : TabOk σ0) (hA : alB A ns al) (hM : s0 + M = nc) (hwt : wt ≤ 6) : ∀ (m D n : Nat) (P : PS) (σ : QS) (x : WX), n + m = M → m < D → srC σ0 σ → gI σ 19 = nI A → gI σ 24 = nI wt → nbP 999 ns n (P.2 n) → rcW σ c0 x → ∃ σ', fX2_seekWays_7 D (nI (s0 + n)) (nI (P.2 n).2.2.2) (PZ (P.2 n).2.1) (nI (P.2 n).1) (nI (P.2 n).2.2.1) σ = some σ' ∧ srC σ0 σ' ∧ gI σ' 19 = nI A ∧ gI σ' 24 = nI wt ∧ rcW σ' c0 (tfP (hOf τ ns) al s0 (gwP wt c0 M) m n P x) := by
  have hns := hh.1
  have hnc := hh.2.1
  have sat : ∀ (m D n : Nat) (P : PS) (σ : QS) (x : WX), n + m = M → srC σ0 σ → gI σ 19 = nI A → gI σ 24 = nI wt → nbP 999 ns n (P.2 n) → rcW σ c0 x → wt ≤ (P.2 n).2.2.1 → ∃ σ', fX2_seekWays_7 (D + 1) (nI (s0 + n)) (nI (P.2 n).2.2.2) (PZ (P.2 n).2.1) (nI (P.2 n).1) (nI (P.2 n).2.2.1) σ = some σ' ∧ srC σ0 σ' ∧ gI σ' 19 = nI A ∧ gI σ' 24 = nI wt ∧ rcW σ' c0 (tfP (hOf τ ns) al s0 (gwP wt c0 M) m n P x) := by
    intro m D n P σ x hn hsr h19 h24 hb hrc hw
    obtain ⟨b1, b2, b3, b4, b5⟩ := hb
    obtain ⟨r1, e, r2, r3⟩ := hrc
    have hh' := hsr.house hh
    have ht' : TabOk σ := ht.keep (fun n hn => hsr.2.1 _ (by omega) (by omega))
    have fl := fcN_le al (P.2 n).2.2.2 ns
    have pb : pcnt m (fcN al (P.2 n).2.2.2 ns) < 20000 := pcnt_fin ⟨m, by omega⟩ ⟨_, by omega⟩
    have pp := pcnt_pos m (fcN al (P.2 n).2.2.2 ns)
    have c64 := pow_le64 hns b5
    rw [ways_all m n P x hn hw, seekWays_s]
    simp only [lt_q]
    rw [h24, if_neg (by rw [nI_l2 (by omega) (by omega)]; omega), hh'.2.2.2.2.2.1, pk_sub (by omega), show nc - (s0 + n) = m by omega, freeCount_e hA hns h19, plansFor_e ht' (by omega) (by omega), Option.bind_some, nI_l (by omega), r1, lN_add]
    refine ⟨_, rfl, (hsr.j (by omega) _).i (by omega) _, by rw [gI_ne (by omega)]; exact h19, by rw [gI_ne (by omega)]; exact h24, ?_, ?_⟩
    · show gJ (pJ σ 2 (lN (x.1 + pcnt m (fcN al (P.2 n).2.2.2 ns)))) 2 = _
      rw [gJ_pJ, if_pos rfl]
    · rw [gI_same]
      show ∃ e', gI σ 25 &&& nI (P.2 n).2.2.2 = nI e' ∧ _
      rw [r2, fa_and]
      refine ⟨_, rfl, Or.inr ⟨by show 0 < x.1 + pcnt m (fcN al (P.2 n).2.2.2 ns); omega, ?_, ?_⟩⟩
      · show e &&& (P.2 n).2.2.2 = x.2 &&& dif (P.2 n).2.2.2 c0
        rcases r3 with ⟨w1, w2, w3⟩ | ⟨w1, w2, w3⟩
        · rw [w2, w3, and_63 c64, Nat.and_comm]
          rfl
        · rw [w2]
          unfold dif
          rw [Nat.and_comm (P.2 n).2.2.2, ← Nat.and_assoc, w3]
      · show (x.2 &&& dif (P.2 n).2.2.2 c0) &&& (c0 ^^^ 4294967295) = x.2 &&& dif (P.2 n).2.2.2 c0
        unfold dif
        rw [Nat.and_assoc, Nat.and_assoc, Nat.and_self]
  intro m
  induction m with
  | zero =>
    intro D n P σ x hn hD hsr h19 h24 hb hrc
    obtain ⟨D', rfl⟩ : ∃ D', D = D' + 1 := ⟨D - 1, by omega⟩
    have b4 := hb.2.2.2.1
    have hh' := hsr.house hh
    by_cases hw : wt ≤ (P.2 n).2.2.1
    · exact sat 0 D' n P σ x hn hsr h19 h24 hb hrc hw
    · rw [ways_no hn (by show (P.2 n).2.2.1 < wt; omega), seekWays_s]
      simp only [lt_q]
      rw [h24, if_pos (by rw [nI_l2 (by omega) (by omega)]; omega), hh'.2.2.2.2.2.1, if_pos (by rw [nI_L (by omega) (by omega)]; omega)]
      exact ⟨σ, rfl, hsr, h19, h24, hrc⟩
  | succ m ih =>
    intro D n P σ x hn hD hsr h19 h24 hb hrc
    obtain ⟨D', rfl⟩ : ∃ D', D = D' + 1 := ⟨D - 1, by omega⟩
    have b4 := hb.2.2.2.1
    have hh' := hsr.house hh
    by_cases hw : wt ≤ (P.2 n).2.2.1
    · exact sat (m + 1) D' n P σ x hn hsr h19 h24 hb hrc hw
    have hf := fcN_le al (P.2 n).2.2.2 ns
    have vm := mxR_m (h := hOf τ ns) (al := al) (m + 1) (s0 + n) (P.2 n)
    have vf : mxN (hOf τ ns) al lvR (m + 1) (s0 + n) (P.2 n) ≤ (P.2 n).2.2.1 + fcN al (P.2 n).2.2.2 ns := mxR_f (h := hOf τ ns) (al := al) (m + 1) (s0 + n) (P.2 n)
    rw [seekWays_s]
    simp only [lt_q]
    rw [h24, if_pos (by rw [nI_l2 (by omega) (by omega)]; omega), hh'.2.2.2.2.2.1, if_neg (by rw [nI_L (by omega) (by omega)]; omega), hope_e hA hns hnc h19 hh'.2.2.2.2.2.1 (by omega), nI_add]
    by_cases c1 : wt ≤ (P.2 n).2.2.1 + min (nc - (s0 + n)) (fcN al (P.2 n).2.2.2 ns)
    · rw [if_pos (by rw [nI_L (by omega) (by omega)]; exact c1), nI_1]
      obtain ⟨σ1, f1, f2, f3, f4, f5⟩ := ih D' (n + 1) (chP (hOf τ ns) (s0 + n) n 0 P) σ x (by omega) (by omega) hsr h19 h24 (by rw [chP_2]; exact nb_st (Nat.zero_le _) hb) hrc
      rw [chP_2, stN_0] at f1
      have f1' : fX2_seekWays_7 D' (nI (s0 + n + 1)) (nI (P.2 n).2.2.2) (PZ (P.2 n).2.1) (nI (P.2 n).1) (nI (P.2 n).2.2.1) σ = some σ1 := f1
      rw [f1', Option.bind_some]
      let F : Nat → WX → WX := fun k z => if chB al (P.2 n).2.2.2 k = true then tfP (hOf τ ns) al s0 (gwP wt c0 M) m (n + 1) (chP (hOf τ ns) (s0 + n) n k P) z else z
      have eT : tfP (hOf τ ns) al s0 (gwP wt c0 M) (m + 1) n P x = fdr F ns 1 (tfP (hOf τ ns) al s0 (gwP wt c0 M) m (n + 1) (chP (hOf τ ns) (s0 + n) n 0 P) x) := rfl
      rw [eT]
      generalize tfP (hOf τ ns) al s0 (gwP wt c0 M) m (n + 1) (chP (hOf τ ns) (s0 + n) n 0 P) x = y0 at f5
      refine for_inv (Q := fun k (a : Int32 × QS) => a.1 = nI k ∧ srC σ0 a.2 ∧ gI a.2 19 = nI A ∧ gI a.2 24 = nI wt ∧ rcW a.2 c0 (fdr F k 1 y0)) ns (fun o => ∃ σ', o = some σ' ∧ srC σ0 σ' ∧ gI σ' 19 = nI A ∧ gI σ' 24 = nI wt ∧ rcW σ' c0 (fdr F ns 1 y0)) (by omega) ⟨rfl, f2, f3, f4, f5⟩ ?_ ?_
      · rintro k ⟨a1, σk⟩ hk ⟨e1, e2, e3, e4, e5⟩
        have e1' : a1 = nI k := e1
        subst e1'
        have e2' : srC σ0 σk := e2
        have e3' : gI σk 19 = nI A := e3
        have hhk := e2'.house hh
        have es : fdr F (k + 1) 1 y0 = F (k + 1) (fdr F k 1 y0) := by rw [fdr_end, Nat.add_comm 1 k]
        rw [es]
        generalize hz : fdr F k 1 y0 = z at e5
        by_cases e : chB al (P.2 n).2.2.2 (k + 1) = true
        · obtain ⟨σ2, g1, g2, g3, g4, g5⟩ := ih D' (n + 1) (chP (hOf τ ns) (s0 + n) n (k + 1) P) σk z (by omega) (by omega) e2' e3' e4 (by rw [chP_2]; exact nb_st (h := hOf τ ns) (by show k + 1 ≤ ns; omega) hb) e5
          rw [chP_2] at g1
          have eF : F (k + 1) z = tfP (hOf τ ns) al s0 (gwP wt c0 M) m (n + 1) (chP (hOf τ ns) (s0 + n) n (k + 1) P) z := if_pos e
          refine ⟨(nI (k + 1), σ2), ⟨rfl, g2, g3, g4, by rw [eF]; exact g5⟩, fun r => ?_⟩
          rw [swB_step hhk hA e3' (by omega) (by omega) hb hk r, if_pos e]
          refine Eq.trans (congrArg (fun o => Option.bind o _) g1) ?_
          rfl
        · have eF : F (k + 1) z = z := if_neg e
          refine ⟨(nI (k + 1), σk), ⟨rfl, e2, e3, e4, by rw [eF]; exact e5⟩, fun r => ?_⟩
          rw [swB_step hhk hA e3' (by omega) (by omega) hb hk r, if_neg e]
      · rintro ⟨a1, σk⟩ ⟨e1, e2, e3, e4, e5⟩ r
        have e1' : a1 = nI ns := e1
        subst e1'
        have e2' : srC σ0 σk := e2
        rw [swB_end (e2'.house hh).2.2.2.1 hns]
        exact ⟨σk, rfl, e2, e3, e4, e5⟩
    · rw [if_neg (by rw [nI_L (by omega) (by omega)]; exact c1), ways_no hn (by omega)]
      exact ⟨σ, rfl, hsr, h19, h24, hrc⟩
