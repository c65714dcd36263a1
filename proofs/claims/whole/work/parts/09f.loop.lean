/-! ===== a loop over all plans, as the reference walks them ===== -/
def atP (τ : QS) (n : Nat) (P : PS) : Prop := (∀ k, k < n → gM τ 67 k = nI (P.1 k)) ∧ ∀ k, k ≤ n → gM τ 63 k = nI (P.2 k).1 ∧ gM τ 64 k = PZ (P.2 k).2.1 ∧ gM τ 65 k = nI (P.2 k).2.2.1 ∧ gM τ 66 k = nI (P.2 k).2.2.2
def nbP (pb ns t : Nat) (d : ND) : Prop := d.1 ≤ pb ∧ -(50 + (t : Int)) ≤ d.2.1 ∧ d.2.1 ≤ 50 + 2 * (t : Int) ∧ d.2.2.1 ≤ t ∧ d.2.2.2 < 2 ^ ns
def okS (pb ns n : Nat) (P : PS) : Prop := (∀ k, k ≤ n → nbP pb ns k (P.2 k)) ∧ ∀ k, k < n → P.1 k ≤ ns
def sbP (τ τ' : QS) : Prop := (∀ j, (j < 63 ∨ 67 < j) → gM τ' j = gM τ j) ∧ (∀ j, gI τ' j = gI τ j) ∧ ∀ j, gJ τ' j = gJ τ j
def bsP (σ τ : QS) (ns nc : Nat) (h : HH) (al : Nat → Bool) (s0 M : Nat) : Prop := HouseOk σ τ ns nc ∧ hOf τ ns = h ∧ alR τ = al ∧ gM τ 51 1 = nI s0 ∧ gI τ 11 = nI M ∧ gI τ 12 = 1 ∧ s0 + M = nc
theorem nb_st {h : HH} {pb s k t : Nat} {d : ND} (hk : k ≤ hN h) (b : nbP pb (hN h) t d) : nbP pb (hN h) (t + 1) (stN h s k d) := by
  obtain ⟨b1, b2, b3, b4, b5⟩ := b
  cases k with
  | zero =>
    rw [stN_0]
    exact ⟨b1, by omega, by omega, by omega, b5⟩
  | succ i =>
    have hor : d.2.2.2 ||| 2 ^ i < 2 ^ hN h := Nat.or_lt_two_pow b5 (Nat.pow_lt_pow_right (by omega) (by omega))
    by_cases q : d.1 < lkZ h i s d.2.1 d.2.2.2
    · rw [stN_no q]
      refine ⟨b1, ?_, ?_, ?_, hor⟩
      · show _ ≤ d.2.1 - 1; omega
      · show d.2.1 - 1 ≤ _; omega
      · show d.2.2.1 ≤ t + 1; omega
    · rw [stN_yes q]
      refine ⟨?_, ?_, ?_, ?_, hor⟩
      · show d.1 - _ ≤ pb; omega
      · show _ ≤ d.2.1 + (if _ then _ else _); split <;> omega
      · show d.2.1 + (if _ then _ else _) ≤ _; split <;> omega
      · show d.2.2.1 + 1 ≤ t + 1; omega
theorem ok_ch {h : HH} {pb s n k : Nat} {P : PS} (hk : k ≤ hN h) (b : okS pb (hN h) n P) : okS pb (hN h) (n + 1) (chP h s n k P) := by
  refine ⟨fun j hj => ?_, fun j hj => ?_⟩
  · by_cases e : j = n + 1
    · subst e
      rw [chP_2]
      exact nb_st hk (b.1 n (Nat.le_refl n))
    · rw [chP_2o e]
      exact b.1 j (by omega)
  · by_cases e : j = n
    · subst e
      rw [chP_1]
      exact hk
    · rw [chP_1o e]
      exact b.2 j (by omega)
theorem at_ch {τ : QS} {h : HH} {s n k : Nat} {P : PS} (a : atP τ n P) : atP (chT τ n k (stN h s k (P.2 n))) (n + 1) (chP h s n k P) := by
  refine ⟨fun j hj => ?_, fun j hj => ?_⟩
  · rw [chT_67]
    by_cases e : j = n
    · subst e
      rw [upd_same, chP_1]
    · rw [upd_ne e, chP_1o e]
      exact a.1 j (by omega)
  · rw [chT_63, chT_64, chT_65, chT_66]
    by_cases e : j = n + 1
    · subst e
      rw [upd_same, upd_same, upd_same, upd_same, chP_2]
      exact ⟨rfl, rfl, rfl, rfl⟩
    · rw [upd_ne e, upd_ne e, upd_ne e, upd_ne e, chP_2o e]
      exact a.2 j (by omega)
theorem at_back {τ : QS} {h : HH} {s n k : Nat} {P : PS} (a : atP τ (n + 1) (chP h s n k P)) : atP τ n P ∧ gM τ 67 n = nI k := by
  refine ⟨⟨fun j hj => ?_, fun j hj => ?_⟩, ?_⟩
  · rw [a.1 j (by omega), chP_1o (by omega)]
  · have := a.2 j (by omega)
    rw [chP_2o (by omega)] at this
    exact this
  · rw [a.1 n (by omega), chP_1]
theorem atP_same {τ τ' : QS} {n : Nat} {P : PS} (a : atP τ n P) (h : ∀ j, 63 ≤ j → j ≤ 67 → gM τ' j = gM τ j) : atP τ' n P := by
  unfold atP
  rw [h 63 (by omega) (by omega), h 64 (by omega) (by omega), h 65 (by omega) (by omega), h 66 (by omega) (by omega), h 67 (by omega) (by omega)]
  exact a
theorem at_m1 {τ : QS} {n : Nat} {P : PS} (a : atP τ n P) (v : Int32) : atP (pM τ 67 (upd (gM τ 67) n v)) n P := by
  refine ⟨fun j hj => ?_, fun j hj => a.2 j hj⟩
  rw [gM_same, upd_ne (by omega)]
  exact a.1 j hj
theorem sb_ch (τ : QS) (n k : Nat) (d : ND) : sbP τ (chT τ n k d) := ⟨fun j hj => chT_o hj, fun j => rfl, fun j => rfl⟩
theorem sb_67 (τ : QS) (f : Nat → Int32) : sbP τ (pM τ 67 f) := ⟨fun j hj => gM_ne (by omega), fun j => rfl, fun j => rfl⟩
section PlanLoop
variable {X S β : Type} {pb : Nat} {σ : QS} {ns nc : Nat} {h : HH} {al : Nat → Bool} {s0 M : Nat} {st : X → QS → S} {vis : (S → Option β) → X → QS → Option β} {fin : X → QS → Option β} {OB : (S → Option β) → S → Option β} {G : PS → X → X} {J : X → QS → Prop}
def itP (pb : Nat) (σ : QS) (ns nc : Nat) (h : HH) (al : Nat → Bool) (s0 M : Nat) (st : X → QS → S) (vis : (S → Option β) → X → QS → Option β) (fin : X → QS → Option β) (OB : (S → Option β) → S → Option β) (G : PS → X → X) (J : X → QS → Prop) : Prop :=
  (∀ x τ τ', J x τ → sbP τ τ' → J x τ') ∧ (∀ x τ, J x τ → bsP σ τ ns nc h al s0 M) ∧ (∀ x τ P, J x τ → atP τ M P → okS pb ns M P → ∃ τ2, (∀ r, vis r x τ = r (st (G P x) τ2)) ∧ J (G P x) τ2 ∧ ∀ j, 63 ≤ j → j ≤ 67 → gM τ2 j = gM τ j) ∧ (∀ r x τ, OB r (st x τ) = Option.bind (fX5_nextPlan_50 τ) (fun q => if q.1 = 0 then fin x q.2 else vis r x q.2))
def gdP (vis : (S → Option β) → X → QS → Option β) (fin : X → QS → Option β) (OB : (S → Option β) → S → Option β) (K : Nat) (n : Int32) (x : X) (τ : QS) (res : Option β) : Prop :=
  ∀ FI f, K ≤ FI → K ≤ f → Option.bind (lp_ npB FI (n, τ)) (fun q => if q.1 = 0 then fin x q.2 else vis (lp_ OB f) x q.2) = res
def geP (vis : (S → Option β) → X → QS → Option β) (fin : X → QS → Option β) (OB : (S → Option β) → S → Option β) (J : X → QS → Prop) (y : X) (K : Nat) (n : Int32) (x : X) (τ : QS) : Prop :=
  ∃ τ', J y τ' ∧ gdP vis fin OB K n x τ (fin y τ')
theorem ge_le {y : X} {K K' : Nat} {n : Int32} {x : X} {τ : QS} (hk : K ≤ K') (g : geP vis fin OB J y K n x τ) : geP vis fin OB J y K' n x τ := by
  obtain ⟨τ', g1, g2⟩ := g
  exact ⟨τ', g1, fun FI f h1 h2 => g2 FI f (by omega) (by omega)⟩
theorem ge_step {y : X} {K : Nat} {n n' : Int32} {x : X} {τ τ1 : QS} (e : ∀ r, npB r (n, τ) = r (n', τ1)) (g : geP vis fin OB J y K n' x τ1) : geP vis fin OB J y (K + 1) n x τ := by
  obtain ⟨τ', g1, g2⟩ := g
  refine ⟨τ', g1, fun FI f h1 h2 => ?_⟩
  obtain ⟨F, rfl⟩ : ∃ F, FI = F + 1 := ⟨FI - 1, by omega⟩
  show Option.bind (npB (lp_ npB F) (n, τ)) _ = _
  rw [e]
  exact g2 F f (by omega) (by omega)
theorem ge_vis (I : itP pb σ ns nc h al s0 M st vis fin OB G J) {y : X} {K : Nat} {n : Int32} {x x' : X} {τ τ1 τ2 : QS} (e : ∀ r, npB r (n, τ) = some (1, τ1)) (v : ∀ r, vis r x τ1 = r (st x' τ2)) (h12 : gI τ2 12 = 1) (hK : K ≤ 1000000) (g : geP vis fin OB J y K (gI τ2 11 - 1) x' τ2) : geP vis fin OB J y (K + 1) n x τ := by
  obtain ⟨τ', g1, g2⟩ := g
  refine ⟨τ', g1, fun FI f h1 h2 => ?_⟩
  obtain ⟨F, rfl⟩ : ∃ F, FI = F + 1 := ⟨FI - 1, by omega⟩
  obtain ⟨f', rfl⟩ : ∃ f', f = f' + 1 := ⟨f - 1, by omega⟩
  show Option.bind (npB (lp_ npB F) (n, τ)) _ = _
  rw [e, Option.bind_some, if_neg (show ¬ ((1, τ1) : Int32 × QS).1 = 0 from one_ne), v]
  show OB (lp_ OB f') (st x' τ2) = _
  rw [I.2.2.2, nextPlan_e h12]
  exact g2 FV f' (Nat.le_trans hK FV_ge) (by omega)
theorem ge_end {y : X} {n : Int32} {τ : QS} (hn : n < 0) (hJ : J y τ) : geP vis fin OB J y 1 n y τ := by
  refine ⟨τ, hJ, fun FI f h1 h2 => ?_⟩
  obtain ⟨F, rfl⟩ : ∃ F, FI = F + 1 := ⟨FI - 1, by omega⟩
  have e : npB (lp_ npB F) (n, τ) = some (0, τ) := by
    unfold npB
    simp only []
    rw [if_pos hn]
  show Option.bind (npB (lp_ npB F) (n, τ)) _ = _
  rw [e, Option.bind_some, if_pos rfl]
def csP : Nat → Nat
  | 0 => 0
  | m + 1 => 7 * (csP m + 1) + 1
theorem kids (I : itP pb σ ns nc h al s0 M st vis fin OB G J) {y : X} {m n : Nat} {P : PS} (hM : n + (m + 1) = M) (hn6 : n < 6) (hns : ns ≤ 6) (hb : nbP pb ns n (P.2 n))
    (HS : ∀ (k : Nat) (x : X) (τ : QS) (K : Nat), k ≤ ns → chB al (P.2 n).2.2.2 k = true → J x τ → atP τ n P → fX5_nextChoice_50 (nI n) (gM τ 67 n + (1 : Int32)) τ = some (nI k) → K + csP m + 1 ≤ 1000000 → (∀ τ', J (tfP h al s0 G m (n + 1) (chP h (s0 + n) n k P) x) τ' → atP τ' n P → gM τ' 67 n = nI k → geP vis fin OB J y K (nI n) (tfP h al s0 G m (n + 1) (chP h (s0 + n) n k P) x) τ') → geP vis fin OB J y (K + csP m + 1) (nI n) x τ) :
    ∀ (d j : Nat) (x : X) (τ : QS) (K : Nat), j + d = ns + 1 → J x τ → atP τ n P → fX5_nextChoice_50 (nI n) (gM τ 67 n + (1 : Int32)) τ = some (nI (nxC (chB al (P.2 n).2.2.2) d j)) → K + d * (csP m + 1) + 1 ≤ 1000000 → (∀ τ', J (fdr (fun k z => if chB al (P.2 n).2.2.2 k = true then tfP h al s0 G m (n + 1) (chP h (s0 + n) n k P) z else z) d j x) τ' → atP τ' n P → geP vis fin OB J y K (nI n + (-1 : Int32)) (fdr (fun k z => if chB al (P.2 n).2.2.2 k = true then tfP h al s0 G m (n + 1) (chP h (s0 + n) n k P) z else z) d j x) τ') → geP vis fin OB J y (K + d * (csP m + 1) + 1) (nI n) x τ := by
  have c64 : (P.2 n).2.2.2 < 64 := pow_le64 hns hb.2.2.2.2
  intro d
  induction d with
  | zero =>
    intro j x τ K hj hJ ha hc hK hr
    have B := I.2.1 x τ hJ
    have hj' : j = ns + 1 := by omega
    have g := hr τ hJ ha
    refine ge_le (K := K + 1) (by omega) (ge_step (τ1 := τ) (n' := nI n + (-1 : Int32)) (fun r => ?_) g)
    have c1 : (nI n).toNatClampNeg = n := nI_c (by omega)
    unfold npB
    simp only []
    rw [if_neg (nneg (by omega)), ck_t (inb_n (by omega) (by omega)), c1, hc, Option.bind_some, B.1.2.2.2.2.1]
    show (if nI j ≤ nI ns then _ else _) = _
    rw [if_neg (by rw [nI_L (by omega) (by omega)]; omega)]
  | succ d ih =>
    intro j x τ K hj hJ ha hc hK hr
    have hmul : (d + 1) * (csP m + 1) = d * (csP m + 1) + (csP m + 1) := by rw [Nat.succ_mul]
    by_cases e : chB al (P.2 n).2.2.2 j = true
    · have ef : nxC (chB al (P.2 n).2.2.2) (d + 1) j = j := if_pos e
      rw [ef] at hc
      have g := HS j x τ (K + d * (csP m + 1) + 1) (by omega) e hJ ha hc (by omega) (fun τ' hJ' ha' h67 => by
        have B' := I.2.1 _ τ' hJ'
        have hc' : fX5_nextChoice_50 (nI n) (gM τ' 67 n + (1 : Int32)) τ' = some (nI (nxC (chB al (P.2 n).2.2.2) d (j + 1))) := by
          rw [h67, nI_1, ← B'.2.2.1]
          exact nextCh_e B'.1 (by omega) (ha'.2 n (Nat.le_refl n)).2.2.2 c64 (by omega)
        refine ih (j + 1) _ τ' K (by omega) hJ' ha' hc' (by omega) (fun τ2 hJ2 ha2 => ?_)
        have := hr τ2 (by
          show J (fdr _ d (j + 1) (if chB al (P.2 n).2.2.2 j = true then _ else _)) τ2
          rw [if_pos e]
          exact hJ2) ha2
        rw [show fdr (fun k z => if chB al (P.2 n).2.2.2 k = true then tfP h al s0 G m (n + 1) (chP h (s0 + n) n k P) z else z) (d + 1) j x = fdr (fun k z => if chB al (P.2 n).2.2.2 k = true then tfP h al s0 G m (n + 1) (chP h (s0 + n) n k P) z else z) d (j + 1) (if chB al (P.2 n).2.2.2 j = true then tfP h al s0 G m (n + 1) (chP h (s0 + n) n j P) x else x) from rfl, if_pos e] at this
        exact this)
      exact ge_le (by omega) g
    · have ef : nxC (chB al (P.2 n).2.2.2) (d + 1) j = nxC (chB al (P.2 n).2.2.2) d (j + 1) := if_neg e
      rw [ef] at hc
      refine ge_le (by omega) (ih (j + 1) x τ K (by omega) hJ ha hc (by omega) (fun τ2 hJ2 ha2 => ?_))
      have := hr τ2 (by
        show J (fdr _ d (j + 1) (if chB al (P.2 n).2.2.2 j = true then _ else _)) τ2
        rw [if_neg e]
        exact hJ2) ha2
      rw [show fdr (fun k z => if chB al (P.2 n).2.2.2 k = true then tfP h al s0 G m (n + 1) (chP h (s0 + n) n k P) z else z) (d + 1) j x = fdr (fun k z => if chB al (P.2 n).2.2.2 k = true then tfP h al s0 G m (n + 1) (chP h (s0 + n) n k P) z else z) d (j + 1) (if chB al (P.2 n).2.2.2 j = true then tfP h al s0 G m (n + 1) (chP h (s0 + n) n j P) x else x) from rfl, if_neg e] at this
      exact this
theorem kid_go (hpb : pb ≤ 999) {τ : QS} {n k m : Nat} {P : PS} (B : bsP σ τ ns nc h al s0 M) (hM : n + (m + 1) = M) (hk : k ≤ ns) (ha : atP τ n P) (hb : nbP pb ns n (P.2 n)) (hc : fX5_nextChoice_50 (nI n) (gM τ 67 n + (1 : Int32)) τ = some (nI k)) (r : Int32 × QS → Option (Int32 × QS)) : npB r (nI n, τ) = if n + 1 = M then some (1, chT τ n k (stN h (s0 + n) k (P.2 n))) else r (nI (n + 1), pM (chT τ n k (stN h (s0 + n) k (P.2 n))) 67 (upd (gM (chT τ n k (stN h (s0 + n) k (P.2 n))) 67) (n + 1) (-1))) := by
  obtain ⟨B1, B2, B3, B4, B5, B6, B7⟩ := B
  have hns := B1.1
  have hnc := B1.2.1
  have c1 : (nI n).toNatClampNeg = n := nI_c (by omega)
  have c2 : (nI (n + 1)).toNatClampNeg = n + 1 := nI_c (by omega)
  obtain ⟨a1, a2, a3, a4⟩ := ha.2 n (Nat.le_refl n)
  obtain ⟨b1, b2, b3, b4, b5⟩ := hb
  have ch := choose_e B1 (s0 := s0) (n := n) (k := k) (d := P.2 n) B4 (by omega) (by omega) hk a1 a2 a3 a4 (by omega) (by omega) (by omega) (pow_le64 hns b5)
  rw [B2] at ch
  unfold npB
  simp only []
  rw [if_neg (nneg (by omega)), ck_t (inb_n (by omega) (by omega)), c1, hc, Option.bind_some, B1.2.2.2.2.1, if_pos (by rw [nI_L (by omega) (by omega)]; omega), ch, Option.bind_some, nI_1, chT_i, B5]
  by_cases e : n + 1 = M
  · rw [if_pos (by rw [e]), if_pos e]
  · rw [if_neg (by rw [nI_e (by omega) (by omega)]; exact e), if_neg e, ck_t (inb_n (by omega) (by omega)), c2]
    rfl
theorem tree (hpb : pb ≤ 999) (I : itP pb σ ns nc h al s0 M st vis fin OB G J) (hh : hN h = ns) (hns : ns ≤ 6) (hM6 : M ≤ 6) {y : X} : ∀ (m n : Nat) (P : PS) (x : X) (τ : QS) (K : Nat), n + (m + 1) = M → J x τ → atP τ n P → okS pb ns n P → gM τ 67 n = -1 → K + csP (m + 1) ≤ 1000000 → (∀ τ', J (tfP h al s0 G (m + 1) n P x) τ' → atP τ' n P → geP vis fin OB J y K (nI n + (-1 : Int32)) (tfP h al s0 G (m + 1) n P x) τ') → geP vis fin OB J y (K + csP (m + 1)) (nI n) x τ := by
  have beg : ∀ (m n : Nat) (P : PS) (x : X) (τ : QS) (K : Nat), n + (m + 1) = M → J x τ → atP τ n P → okS pb ns n P → gM τ 67 n = -1 → K + csP (m + 1) ≤ 1000000 →
      (∀ (k : Nat) (x : X) (τ : QS) (K : Nat), k ≤ ns → chB al (P.2 n).2.2.2 k = true → J x τ → atP τ n P → fX5_nextChoice_50 (nI n) (gM τ 67 n + (1 : Int32)) τ = some (nI k) → K + csP m + 1 ≤ 1000000 → (∀ τ', J (tfP h al s0 G m (n + 1) (chP h (s0 + n) n k P) x) τ' → atP τ' n P → gM τ' 67 n = nI k → geP vis fin OB J y K (nI n) (tfP h al s0 G m (n + 1) (chP h (s0 + n) n k P) x) τ') → geP vis fin OB J y (K + csP m + 1) (nI n) x τ) →
      (∀ τ', J (tfP h al s0 G (m + 1) n P x) τ' → atP τ' n P → geP vis fin OB J y K (nI n + (-1 : Int32)) (tfP h al s0 G (m + 1) n P x) τ') → geP vis fin OB J y (K + csP (m + 1)) (nI n) x τ := by
    intro m n P x τ K hM hJ ha ho h67 hK HS hr
    have hb := ho.1 n (Nat.le_refl n)
    have B := I.2.1 x τ hJ
    have hc : fX5_nextChoice_50 (nI n) (gM τ 67 n + (1 : Int32)) τ = some (nI (nxC (chB al (P.2 n).2.2.2) (ns + 1) 0)) := by
      rw [h67, show (-1 : Int32) + 1 = nI 0 from by decide, ← B.2.2.1]
      exact nextCh_e B.1 (by omega) (ha.2 n (Nat.le_refl n)).2.2.2 (pow_le64 hns hb.2.2.2.2) (by omega)
    have ecs : csP (m + 1) = 7 * (csP m + 1) + 1 := rfl
    have lmul : (ns + 1) * (csP m + 1) ≤ 7 * (csP m + 1) := Nat.mul_le_mul_right _ (by omega)
    refine ge_le (K := K + (ns + 1) * (csP m + 1) + 1) (by omega) (kids I hM (by omega) hns hb HS (ns + 1) 0 x τ K (by omega) hJ ha hc (by omega) ?_)
    have et : ∀ x, tfP h al s0 G (m + 1) n P x = fdr (fun k z => if chB al (P.2 n).2.2.2 k = true then tfP h al s0 G m (n + 1) (chP h (s0 + n) n k P) z else z) (ns + 1) 0 x := fun x => by rw [← hh]; rfl
    rw [et] at hr
    exact hr
  intro m
  induction m with
  | zero =>
    intro n P x τ K hM hJ ha ho h67 hK hr
    refine beg 0 n P x τ K hM hJ ha ho h67 hK (fun k x τ K hk e hJ ha hc hK2 hr2 => ?_) hr
    have B := I.2.1 x τ hJ
    have hJ1 := I.1 x τ _ hJ (sb_ch τ n k (stN h (s0 + n) k (P.2 n)))
    have ha1 := at_ch (h := h) (s := s0 + n) (k := k) ha
    have ho1 : okS pb ns (n + 1) (chP h (s0 + n) n k P) := by rw [← hh]; exact ok_ch (by omega) (by rw [hh]; exact ho)
    have eM : n + 1 = M := by omega
    rw [eM] at ha1 ho1
    obtain ⟨τ2, v1, v2, v3⟩ := I.2.2.1 x _ _ hJ1 ha1 ho1
    have B2 := I.2.1 _ τ2 v2
    have ha2 := atP_same ha1 v3
    rw [← eM] at ha2
    obtain ⟨q1, q2⟩ := at_back ha2
    have e11 : gI τ2 11 - 1 = nI n := by
      rw [B2.2.2.2.2.1, ← eM]
      show nI (n + 1) - nI 1 = _
      rw [pk_sub (by omega)]
      rfl
    refine ge_vis I (τ1 := chT τ n k (stN h (s0 + n) k (P.2 n))) (τ2 := τ2) (fun r => ?_) v1 B2.2.2.2.2.2.1 (by omega) ?_
    · rw [kid_go hpb B hM hk ha (ho.1 n (Nat.le_refl n)) hc r, if_pos eM]
    · rw [e11]
      exact ge_le (by omega) (hr2 τ2 v2 q1 q2)
  | succ m ih =>
    intro n P x τ K hM hJ ha ho h67 hK hr
    refine beg (m + 1) n P x τ K hM hJ ha ho h67 hK (fun k x τ K hk e hJ ha hc hK2 hr2 => ?_) hr
    have B := I.2.1 x τ hJ
    have hJ1 := I.1 x τ _ hJ (sb_ch τ n k (stN h (s0 + n) k (P.2 n)))
    have ha1 := at_ch (h := h) (s := s0 + n) (k := k) ha
    have ho1 : okS pb ns (n + 1) (chP h (s0 + n) n k P) := by rw [← hh]; exact ok_ch (by omega) (by rw [hh]; exact ho)
    have hJ2 := I.1 x _ _ hJ1 (sb_67 (chT τ n k (stN h (s0 + n) k (P.2 n))) (upd (gM (chT τ n k (stN h (s0 + n) k (P.2 n))) 67) (n + 1) (-1)))
    refine ge_step (n' := nI (n + 1)) (fun r => ?_) ?_ (τ1 := pM (chT τ n k (stN h (s0 + n) k (P.2 n))) 67 (upd (gM (chT τ n k (stN h (s0 + n) k (P.2 n))) 67) (n + 1) (-1)))
    · rw [kid_go hpb B hM hk ha (ho.1 n (Nat.le_refl n)) hc r, if_neg (by omega)]
    · refine ih (n + 1) (chP h (s0 + n) n k P) x _ K (by omega) hJ2 (at_m1 ha1 _) ho1 (by rw [gM_same, upd_same]) (by omega) (fun τ' hJ' ha' => ?_)
      obtain ⟨q1, q2⟩ := at_back ha'
      rw [pk_m1]
      exact hr2 τ' hJ' q1 q2
theorem plan_loop (hpb : pb ≤ 999) (I : itP pb σ ns nc h al s0 M st vis fin OB G J) (hh : hN h = ns) (hns : ns ≤ 6) (hM6 : M ≤ 6) {x : X} {τ : QS} {P : PS} (hJ : J x (pI τ 12 1)) (h12 : gI τ 12 = 0) (ha : atP τ 0 P) (ho : okS pb ns 0 P) (h67 : gM τ 67 0 = -1) : ∃ τ', J (tfP h al s0 G M 0 P x) τ' ∧ lp_ OB FV (st x τ) = fin (tfP h al s0 G M 0 P x) τ' := by
  have B := I.2.1 _ _ hJ
  have e11 : gI τ 11 = nI M := B.2.2.2.2.1
  obtain ⟨F, hF⟩ : ∃ F, FV = F + 1 := ⟨FV - 1, by have := FV_ge; omega⟩
  have hF1 : 999999 ≤ F := by have := FV_ge; omega
  have go : lp_ OB FV (st x τ) = Option.bind (fX5_nextPlan_50 τ) (fun q => if q.1 = 0 then fin x q.2 else vis (lp_ OB F) x q.2) := by
    rw [hF]
    show OB (lp_ OB F) (st x τ) = _
    rw [I.2.2.2]
  rw [go]
  cases M with
  | zero =>
    have ha' : atP (pI τ 12 1) 0 P := ha
    obtain ⟨τ2, v1, v2, v3⟩ := I.2.2.1 x _ P hJ ha' ho
    have B2 := I.2.1 _ τ2 v2
    refine ⟨τ2, v2, ?_⟩
    rw [nextPlan_00 h12 (by rw [e11]; rfl), Option.bind_some, if_neg (show ¬ ((1, pI τ 12 1) : Int32 × QS).1 = 0 from one_ne), v1]
    obtain ⟨F', rfl⟩ : ∃ F', F = F' + 1 := ⟨F - 1, by omega⟩
    show OB (lp_ OB F') (st (G P x) τ2) = _
    rw [I.2.2.2, nextPlan_e B2.2.2.2.2.2.1, B2.2.2.2.2.1, hF]
    have e : ∀ r, npB r (nI 0 - 1, τ2) = some (0, τ2) := fun r => by
      unfold npB
      simp only []
      rw [if_pos (show nI 0 - (1 : Int32) < 0 by decide)]
    show Option.bind (npB (lp_ npB (F' + 1)) (nI 0 - 1, τ2)) _ = _
    rw [e, Option.bind_some, if_pos rfl]
    rfl
  | succ m =>
    have cs6 : csP (m + 1) ≤ 156864 := by
      have : m = 0 ∨ m = 1 ∨ m = 2 ∨ m = 3 ∨ m = 4 ∨ m = 5 := by omega
      rcases this with rfl | rfl | rfl | rfl | rfl | rfl <;> decide
    have ha' : atP (pI τ 12 1) 0 P := ha
    have g := tree hpb I hh hns hM6 (y := tfP h al s0 G (m + 1) 0 P x) m 0 P x (pI τ 12 1) 1 (by omega) hJ ha' ho h67 (by omega) (fun τ' hJ' _ => ge_end (by decide) hJ')
    obtain ⟨τ', g1, g2⟩ := g
    refine ⟨τ', g1, ?_⟩
    rw [nextPlan_0 h12 (by rw [e11, nI0_e (by omega)]; omega)]
    exact g2 FV F (Nat.le_trans (by omega) FV_ge) (by omega)
end PlanLoop
