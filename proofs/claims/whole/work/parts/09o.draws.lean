/-! ===== chances: who is drawn ===== -/
abbrev LZ (z : Int) : Int64 := Int64.ofInt z
theorem LZ_add (a b : Int) : LZ a + LZ b = LZ (a + b) := (Int64.ofInt_add a b).symm
theorem LZ_t {z : Int} (h1 : -1000000000 ≤ z) (h2 : z ≤ 1000000000) : (LZ z).toInt = z := by
  show (Int64.ofInt z).toInt = z
  rw [Int64.toInt_ofInt_of_le (by omega) (by omega)]
theorem LZ_n {n : Nat} (h : n ≤ 1000000000) : LZ (n : Int) = lN n := by
  rw [fa_eq64, LZ_t (by omega) (by omega), lN_toInt (by omega)]
theorem PZ_l {a : Int} (h1 : -1000 ≤ a) (h2 : a ≤ 1000) : (PZ a).toInt64 = LZ a := by
  rw [fa_eq64, Int32.toInt_toInt64, PZ_t (by omega) (by omega), LZ_t (by omega) (by omega)]
abbrev DX : Type := Nat × Int × Nat
/-- who was chosen was drawn: a cut only where nobody could be called -/
def drQ (al : Nat → Bool) (ns : Nat) (P : PS) (k : Nat) : Bool := !(decide (P.1 k = 0)) || decide (fcN al (P.2 k).2.2.2 ns = 0)
def gdQ (al : Nat → Bool) (ns wt M : Nat) (P : PS) (x : DX) : DX := if allB (drQ al ns P) M = true then (x.1 + (if wt ≤ (P.2 M).2.2.1 then 1 else 0), x.2.1 + (P.2 M).2.1, x.2.2 + 1) else x
theorem drQ_ch {al : Nat → Bool} {h : HH} {ns s n k : Nat} {P : PS} {j : Nat} (hj : j < n) : drQ al ns (chP h s n k P) j = drQ al ns P j := by
  unfold drQ
  rw [chP_1o (by omega), chP_2o (by omega)]
theorem drQ_n {al : Nat → Bool} {h : HH} {ns s n k : Nat} {P : PS} : drQ al ns (chP h s n k P) n = (!(decide (k = 0)) || decide (fcN al (P.2 n).2.2.2 ns = 0)) := by
  unfold drQ
  rw [chP_1, chP_2o (by omega)]
theorem drA_ch {al : Nat → Bool} {h : HH} {ns s n k : Nat} {P : PS} (a : allB (drQ al ns P) n = true) (b : (!(decide (k = 0)) || decide (fcN al (P.2 n).2.2.2 ns = 0)) = true) : allB (drQ al ns (chP h s n k P)) (n + 1) = true := by
  rw [allB_s, Bool.and_eq_true]
  refine ⟨?_, by rw [drQ_n]; exact b⟩
  rw [allB_cong n (fun j hj => drQ_ch hj)]
  exact a
theorem draw_none {h : HH} {al : Nat → Bool} {s0 wt M : Nat} : ∀ (m n : Nat) (P : PS) (x : DX), n + m = M → allB (drQ al (hN h) P) n = true → fcN al (P.2 n).2.2.2 (hN h) = 0 → tfP h al s0 (gdQ al (hN h) wt M) m n P x = (x.1 + (if wt ≤ (P.2 n).2.2.1 then 1 else 0), x.2.1 + (P.2 n).2.1, x.2.2 + 1)
  | 0, n, P, x, hM, ha, hf => by
    have : n = M := by omega
    subst this
    show gdQ al (hN h) wt n P x = _
    unfold gdQ
    rw [if_pos ha]
  | m + 1, n, P, x, hM, ha, hf => by
    have no : ∀ k, 0 < k → k ≤ hN h → chB al (P.2 n).2.2.2 k = false := fun k h1 h2 => by
      cases k with
      | zero => exact absurd h1 (Nat.lt_irrefl 0)
      | succ i =>
        cases e : chB al (P.2 n).2.2.2 (i + 1)
        · rfl
        · have := fcN_step e (hN h) (by omega)
          omega
    show fdr (fun k y => if chB al (P.2 n).2.2.2 k = true then tfP h al s0 (gdQ al (hN h) wt M) m (n + 1) (chP h (s0 + n) n k P) y else y) (hN h) 1 (if chB al (P.2 n).2.2.2 0 = true then tfP h al s0 (gdQ al (hN h) wt M) m (n + 1) (chP h (s0 + n) n 0 P) x else x) = _
    rw [fdr_const _ _ (fun k h1 h2 => by rw [no k (by omega) (by omega)]; rfl), if_pos (show chB al (P.2 n).2.2.2 0 = true from rfl)]
    have r := draw_none (h := h) (al := al) (s0 := s0) (wt := wt) (M := M) m (n + 1) (chP h (s0 + n) n 0 P) x (by omega) (drA_ch ha (by rw [hf]; rfl)) (by rw [chP_2, stN_0]; exact hf)
    rw [chP_2, stN_0] at r
    exact r
theorem draw_cut {h : HH} {al : Nat → Bool} {s0 wt M m n : Nat} {P : PS} {x : DX} (hM : n + 1 + m = M) (hf : fcN al (P.2 n).2.2.2 (hN h) ≠ 0) : tfP h al s0 (gdQ al (hN h) wt M) m (n + 1) (chP h (s0 + n) n 0 P) x = x := by
  refine tf_const (M := M) (fun n' P' => n < n' ∧ drQ al (hN h) P' n = false) (fun n' P' k v hk e => ?_) (fun P' v => ?_) m (n + 1) _ hM ⟨by omega, ?_⟩
  · exact ⟨by omega, by rw [drQ_ch v.1]; exact v.2⟩
  · unfold gdQ
    have : allB (drQ al (hN h) P') M = false := by
      cases e : allB (drQ al (hN h) P') M
      · rfl
      · have := allB_t.mp e n v.1
        rw [v.2] at this
        cases this
    rw [this, if_neg (by decide)]
  · rw [drQ_n, decide_eq_false hf]
    rfl
theorem fdr_up {F : Nat → DX → DX} {i : Nat} (mono : ∀ k y, y.2.2 ≤ (F k y).2.2) (hit : ∀ y, y.2.2 < (F i y).2.2) : ∀ (d j : Nat) (x : DX), j ≤ i → i < j + d → x.2.2 < (fdr F d j x).2.2
  | 0, j, x, h1, h2 => by omega
  | d + 1, j, x, h1, h2 => by
    show x.2.2 < (fdr F d (j + 1) (F j x)).2.2
    by_cases e : j = i
    · subst e
      have := fdr_rel (F := F) (R := fun a b => b.2.2 ≤ a.2.2) (fun _ => Nat.le_refl _) (fun _ _ _ p q => Nat.le_trans q p) d (j + 1) (F j x) mono
      have h3 := hit x
      omega
    · have h3 := fdr_up mono hit d (j + 1) (F j x) (by omega) (by omega)
      have h4 := mono j x
      omega
theorem gdQ_le (al : Nat → Bool) (ns wt M : Nat) (P : PS) (x : DX) : x.2.2 ≤ (gdQ al ns wt M P x).2.2 := by
  unfold gdQ
  split
  · exact Nat.le_succ _
  · exact Nat.le_refl _
theorem draw_pos {h : HH} {al : Nat → Bool} {s0 wt M : Nat} : ∀ (m n : Nat) (P : PS) (x : DX), n + m = M → allB (drQ al (hN h) P) n = true → x.2.2 < (tfP h al s0 (gdQ al (hN h) wt M) m n P x).2.2
  | 0, n, P, x, hM, ha => by
    have : n = M := by omega
    subst this
    show x.2.2 < (gdQ al (hN h) wt n P x).2.2
    unfold gdQ
    rw [if_pos ha]
    exact Nat.lt_succ_self _
  | m + 1, n, P, x, hM, ha => by
    by_cases hf : fcN al (P.2 n).2.2.2 (hN h) = 0
    · rw [draw_none (m + 1) n P x hM ha hf]
      exact Nat.lt_succ_self _
    · obtain ⟨i, i1, i2⟩ := fc_one (hN h) (show 0 < fcN al (P.2 n).2.2.2 (hN h) from by omega)
      refine fdr_up (F := fun k y => if chB al (P.2 n).2.2.2 k = true then tfP h al s0 (gdQ al (hN h) wt M) m (n + 1) (chP h (s0 + n) n k P) y else y) (i := i + 1) (fun k y => ?_) (fun y => ?_) (hN h + 1) 0 x (by omega) (by omega)
      · by_cases e : chB al (P.2 n).2.2.2 k = true
        · simp only [if_pos e]
          exact tf_rel (R := fun a b => b.2.2 ≤ a.2.2) (fun _ => Nat.le_refl _) (fun _ _ _ p q => Nat.le_trans q p) (gdQ_le al (hN h) wt M) m (n + 1) _ y
        · simp only [if_neg e]; exact Nat.le_refl _
      · simp only [if_pos i2]
        exact draw_pos m (n + 1) _ y (by omega) (drA_ch ha rfl)
theorem tf_ind {X : Type} {h : HH} {al : Nat → Bool} {s0 M : Nat} {G : PS → X → X} (V : Nat → PS → Prop) (hV : ∀ n P k, V n P → k ≤ hN h → chB al (P.2 n).2.2.2 k = true → V (n + 1) (chP h (s0 + n) n k P)) (K : X → Prop) (hG : ∀ P x, V M P → K x → K (G P x)) : ∀ (m n : Nat) (P : PS) (x : X), n + m = M → V n P → K x → K (tfP h al s0 G m n P x)
  | 0, n, P, x, hM, v, k => by
    have : n = M := by omega
    subst this
    exact hG P x v k
  | m + 1, n, P, x, hM, v, k => by
    have key : ∀ (d j : Nat) (x : X), j + d ≤ hN h + 1 → K x → K (fdr (fun k y => if chB al (P.2 n).2.2.2 k = true then tfP h al s0 G m (n + 1) (chP h (s0 + n) n k P) y else y) d j x) := by
      intro d
      induction d with
      | zero => intro j x _ hk; exact hk
      | succ d ihd =>
        intro j x hj hk
        refine ihd (j + 1) _ (by omega) ?_
        by_cases e : chB al (P.2 n).2.2.2 j = true
        · simp only [if_pos e]
          exact tf_ind V hV K hG m (n + 1) _ x (by omega) (hV n P j v (by omega) e) hk
        · simp only [if_neg e]; exact hk
    exact key (hN h + 1) 0 x (by omega) k
theorem draw_bound {h : HH} {al : Nat → Bool} {s0 wt M : Nat} (hM6 : M ≤ 6) (hns : hN h ≤ 6) {P : PS} (hb : nbP 9 (hN h) 0 (P.2 0)) : (tfP h al s0 (gdQ al (hN h) wt M) M 0 P (0, 0, 0)).1 ≤ 117649 ∧ (tfP h al s0 (gdQ al (hN h) wt M) M 0 P (0, 0, 0)).2.2 ≤ 117649 ∧ -(70 * ((tfP h al s0 (gdQ al (hN h) wt M) M 0 P (0, 0, 0)).2.2 : Int)) ≤ (tfP h al s0 (gdQ al (hN h) wt M) M 0 P (0, 0, 0)).2.1 ∧ (tfP h al s0 (gdQ al (hN h) wt M) M 0 P (0, 0, 0)).2.1 ≤ 70 * ((tfP h al s0 (gdQ al (hN h) wt M) M 0 P (0, 0, 0)).2.2 : Int) := by
  have p7 := p7_le hM6
  have k1 := tf_count (h := h) (al := al) (s0 := s0) (G := gdQ al (hN h) wt M) (fun x : DX => x.1) hns (fun P x => by
    show (gdQ al (hN h) wt M P x).1 ≤ x.1 + 1
    unfold gdQ
    split
    · show x.1 + (if _ then 1 else 0) ≤ x.1 + 1
      split <;> omega
    · exact Nat.le_succ _) M 0 P (0, 0, 0)
  have k2 := tf_count (h := h) (al := al) (s0 := s0) (G := gdQ al (hN h) wt M) (fun x : DX => x.2.2) hns (fun P x => by
    show (gdQ al (hN h) wt M P x).2.2 ≤ x.2.2 + 1
    unfold gdQ
    split
    · exact Nat.le_refl _
    · exact Nat.le_succ _) M 0 P (0, 0, 0)
  have k1' : (tfP h al s0 (gdQ al (hN h) wt M) M 0 P (0, 0, 0)).1 ≤ 0 + 7 ^ M := k1
  have k2' : (tfP h al s0 (gdQ al (hN h) wt M) M 0 P (0, 0, 0)).2.2 ≤ 0 + 7 ^ M := k2
  have k3 := tf_ind (h := h) (al := al) (s0 := s0) (M := M) (G := gdQ al (hN h) wt M) (fun n P => nbP 9 (hN h) n (P.2 n)) (fun n P k v hk _ => by rw [chP_2]; exact nb_st hk v) (fun x : DX => -(70 * (x.2.2 : Int)) ≤ x.2.1 ∧ x.2.1 ≤ 70 * (x.2.2 : Int)) (fun P x v hk => by
    obtain ⟨v1, v2, v3, v4, v5⟩ := v
    unfold gdQ
    split
    · show -(70 * ((x.2.2 + 1 : Nat) : Int)) ≤ x.2.1 + (P.2 M).2.1 ∧ x.2.1 + (P.2 M).2.1 ≤ 70 * ((x.2.2 + 1 : Nat) : Int)
      omega
    · exact hk) M 0 P (0, 0, 0) (by omega) hb ⟨by show -(70 * ((0 : Nat) : Int)) ≤ 0; omega, by show (0 : Int) ≤ 70 * ((0 : Nat) : Int); omega⟩
  exact ⟨by omega, by omega, k3.1, k3.2⟩
noncomputable def sdB (d : Nat) (x1 x2 x3 x4 x5 : Int32) : (Int32 × QS → Option (QS)) → Int32 × QS → Option (QS) := (fun (r8 : Int32 × QS → Option (QS)) (a7 : Int32 × QS) => (if (gI a7.2 9) ≤ a7.1 then some a7.2 else (if (fX2_isFree_7 a7.1 x2 a7.2) = 0 then r8 ((a7.1 + (1 : Int32)), a7.2) else Option.bind (fX1_lacking_5 a7.1 x1 x2 x3 a7.2) (fun (q9 : Int32) => lt_ (fun (v11 : Int32) => Option.bind (fX2_seekDraws_7 d (x1 + (1 : Int32)) (x2 ||| ((1 : Int32) <<< (a7.1 &&& 31))) (fX2_clappingBehind x3 q9 x4) (fX2_promptsBehind q9 x4) (x5 + v11) a7.2) (fun (q12 : QS) => r8 ((a7.1 + (1 : Int32)), q12))) (fun (j10 : Int32 → Option (QS)) => (if x4 < q9 then j10 (0 : Int32) else j10 (1 : Int32)))))))
theorem seekDraws_s (d : Nat) (x1 x2 x3 x4 x5 : Int32) (σ : QS) : fX2_seekDraws_7 (d + 1) x1 x2 x3 x4 x5 σ = lt_ (fun (_ : Unit) => lt_ (pJ σ 3 ((gJ σ 3) + (1 : Int64))) (fun (S2 : QS) => lt_ (fun (v4 : Int64) => lt_ (pJ S2 4 ((gJ S2 4) + v4)) (fun (S5 : QS) => lt_ (pJ S5 5 ((gJ S5 5) + x3.toInt64)) (fun (S6 : QS) => some S6))) (fun (j3 : Int64 → Option (QS)) => (if x5 < (gI S2 24) then j3 (0 : Int64) else j3 (1 : Int64))))) (fun (j1 : Unit → Option (QS)) => (if (gI σ 8) ≤ x1 then j1 () else (if (fX2_freeCount_7 x2 σ) = 0 then j1 () else lp_ (sdB d x1 x2 x3 x4 x5) FV ((0 : Int32), σ)))) := rfl
theorem sdB_step {σ τ : QS} {ns nc A : Nat} {al : Nat → Bool} (hh : HouseOk σ τ ns nc) (hA : alB A ns al) (h19 : gI σ 19 = nI A) {D s t k : Nat} {d : ND} (hs : s < nc) (ht : t ≤ 6) (hd : nbP 999 ns t d) (hk : k < ns) (r : Int32 × QS → Option (QS)) : sdB D (nI s) (nI d.2.2.2) (PZ d.2.1) (nI d.1) (nI d.2.2.1) r (nI k, σ) = if chB al d.2.2.2 (k + 1) = true then Option.bind (fX2_seekDraws_7 D (nI (s + 1)) (nI (stN (hOf τ ns) s (k + 1) d).2.2.2) (PZ (stN (hOf τ ns) s (k + 1) d).2.1) (nI (stN (hOf τ ns) s (k + 1) d).1) (nI (stN (hOf τ ns) s (k + 1) d).2.2.1) σ) (fun q => r (nI (k + 1), q)) else r (nI (k + 1), σ) := by
  have hns := hh.1
  have hnc := hh.2.1
  obtain ⟨b1, b2, b3, b4, b5⟩ := hd
  have c6 := pow_le64 hns b5
  have l9 := lkZ_le (hbd_of hh) (i := k) hs d.2.1 d.2.2.2
  obtain ⟨q1, q2, q3⟩ := stN_e1 (hOf τ ns) s k d
  unfold sdB
  simp only [lt_q]
  rw [hh.2.2.2.1, if_neg (by rw [nI_L (by omega) (by omega)]; omega), isFree_e hA hns h19 hk, lackC_z hh hk hs c6 (by omega) (by omega), Option.bind_some, nI_1, nI_1, clap_e (by omega) (by omega), prom_e (by omega) (by omega), shl_e (show k < 31 by omega), fa_or, q1, q2, q3, stN_c]
  by_cases e : chB al d.2.2.2 (k + 1) = true
  · rw [if_pos e, if_neg one_ne, if_pos e]
    by_cases q : d.1 < lkZ (hOf τ ns) k s d.2.1 d.2.2.2
    · rw [if_pos (show nI d.1 < nI (lkZ (hOf τ ns) k s d.2.1 d.2.2.2) from by rw [nI_l2 (by omega) (by omega)]; exact q), if_pos q, if_pos q, if_pos q, Int32.add_zero]
    · rw [if_neg (show ¬ nI d.1 < nI (lkZ (hOf τ ns) k s d.2.1 d.2.2.2) from by rw [nI_l2 (by omega) (by omega)]; exact q), if_neg q, if_neg q, if_neg q, nI_1]
  · rw [if_neg e, if_pos rfl, if_neg e]
theorem sdB_end {σ : QS} {ns : Nat} (h9 : gI σ 9 = nI ns) (hns : ns ≤ 6) {D : Nat} {x1 x2 x3 x4 x5 : Int32} (r : Int32 × QS → Option (QS)) : sdB D x1 x2 x3 x4 x5 r (nI ns, σ) = some σ := by
  unfold sdB
  simp only [lt_q]
  rw [h9, if_pos (by rw [nI_L (by omega) (by omega)]; omega)]
def rcD (σ : QS) (x : DX) : Prop := gJ σ 3 = lN x.2.2 ∧ gJ σ 4 = lN x.1 ∧ gJ σ 5 = LZ x.2.1
theorem seekDraws_e {σ0 τ : QS} {ns nc A s0 M wt : Nat} {al : Nat → Bool} (hh : HouseOk σ0 τ ns nc) (hA : alB A ns al) (hM : s0 + M = nc) (hwt : wt ≤ 6) : ∀ (m D n : Nat) (P : PS) (σ : QS) (x : DX), n + m = M → m < D → srC σ0 σ → gI σ 19 = nI A → gI σ 24 = nI wt → nbP 999 ns n (P.2 n) → allB (drQ al ns P) n = true → rcD σ x → ∃ σ', fX2_seekDraws_7 D (nI (s0 + n)) (nI (P.2 n).2.2.2) (PZ (P.2 n).2.1) (nI (P.2 n).1) (nI (P.2 n).2.2.1) σ = some σ' ∧ srC σ0 σ' ∧ gI σ' 19 = nI A ∧ gI σ' 24 = nI wt ∧ rcD σ' (tfP (hOf τ ns) al s0 (gdQ al ns wt M) m n P x) := by
  have hns := hh.1
  have hnc := hh.2.1
  have leaf : ∀ (n t : Nat) (d : ND) (σ : QS) (x : DX), t ≤ 6 → srC σ0 σ → gI σ 19 = nI A → gI σ 24 = nI wt → nbP 999 ns t d → rcD σ x → ∃ σ', (lt_ (pJ σ 3 ((gJ σ 3) + (1 : Int64))) (fun (S2 : QS) => lt_ (fun (v4 : Int64) => lt_ (pJ S2 4 ((gJ S2 4) + v4)) (fun (S5 : QS) => lt_ (pJ S5 5 ((gJ S5 5) + (PZ d.2.1).toInt64)) (fun (S6 : QS) => some S6))) (fun (j3 : Int64 → Option (QS)) => (if nI d.2.2.1 < (gI S2 24) then j3 (0 : Int64) else j3 (1 : Int64))))) = some σ' ∧ srC σ0 σ' ∧ gI σ' 19 = nI A ∧ gI σ' 24 = nI wt ∧ rcD σ' (x.1 + (if wt ≤ d.2.2.1 then 1 else 0), x.2.1 + d.2.1, x.2.2 + 1) := by
    intro n t d σ x ht hsr h19 h24 hb hrc
    obtain ⟨b1, b2, b3, b4, b5⟩ := hb
    obtain ⟨r1, r2, r3⟩ := hrc
    refine ⟨pJ (pJ (pJ σ 3 (lN (x.2.2 + 1))) 4 (lN (x.1 + (if wt ≤ d.2.2.1 then 1 else 0)))) 5 (LZ (x.2.1 + d.2.1)), ?_, ((hsr.j (by omega) _).j (by omega) _).j (by omega) _, h19, h24, ?_, ?_, ?_⟩
    · simp only [lt_q]
      have e24 : gI (pJ σ 3 ((gJ σ 3) + (1 : Int64))) 24 = nI wt := h24
      rw [e24, r1, lN_1, PZ_l (by omega) (by omega)]
      have g4 : gJ (pJ σ 3 (lN (x.2.2 + 1))) 4 = lN x.1 := by rw [gJ_pJ, if_neg (by omega)]; exact r2
      have g5 : ∀ v, gJ (pJ (pJ σ 3 (lN (x.2.2 + 1))) 4 v) 5 = LZ x.2.1 := fun v => by rw [gJ_pJ, if_neg (by omega), gJ_pJ, if_neg (by omega)]; exact r3
      rw [g4, g5, g5, LZ_add]
      by_cases q : wt ≤ d.2.2.1
      · rw [if_neg (by rw [nI_l2 (by omega) (by omega)]; omega), if_pos q, lN_1]
      · rw [if_pos (by rw [nI_l2 (by omega) (by omega)]; omega), if_neg q]
        have : lN x.1 + (0 : Int64) = lN (x.1 + 0) := lN_add x.1 0
        rw [this]
    · rw [gJ_pJ, if_neg (by omega), gJ_pJ, if_neg (by omega), gJ_pJ, if_pos rfl]
    · rw [gJ_pJ, if_neg (by omega), gJ_pJ, if_pos rfl]
    · rw [gJ_pJ, if_pos rfl]
  intro m
  induction m with
  | zero =>
    intro D n P σ x hn hD hsr h19 h24 hb ha hrc
    obtain ⟨D', rfl⟩ : ∃ D', D = D' + 1 := ⟨D - 1, by omega⟩
    have hh' := hsr.house hh
    have enM : n = M := by omega
    subst enM
    have et : tfP (hOf τ ns) al s0 (gdQ al ns wt n) 0 n P x = (x.1 + (if wt ≤ (P.2 n).2.2.1 then 1 else 0), x.2.1 + (P.2 n).2.1, x.2.2 + 1) := by
      show gdQ al ns wt n P x = _
      unfold gdQ
      rw [if_pos ha]
    rw [et, seekDraws_s]
    refine Exists.imp (fun σ' w => ?_) (leaf n n (P.2 n) σ x (by omega) hsr h19 h24 hb hrc)
    refine ⟨?_, w.2⟩
    rw [lt_q, hh'.2.2.2.2.2.1, if_pos (by rw [nI_L (by omega) (by omega)]; omega)]
    exact w.1
  | succ m ih =>
    intro D n P σ x hn hD hsr h19 h24 hb ha hrc
    obtain ⟨D', rfl⟩ : ∃ D', D = D' + 1 := ⟨D - 1, by omega⟩
    have hh' := hsr.house hh
    have hf := fcN_le al (P.2 n).2.2.2 ns
    rw [seekDraws_s]
    by_cases f0 : fcN al (P.2 n).2.2.2 ns = 0
    · rw [draw_none (h := hOf τ ns) (m + 1) n P x hn ha f0]
      refine Exists.imp (fun σ' w => ?_) (leaf n n (P.2 n) σ x (by omega) hsr h19 h24 hb hrc)
      refine ⟨?_, w.2⟩
      rw [lt_q, hh'.2.2.2.2.2.1, if_neg (by rw [nI_L (by omega) (by omega)]; omega), freeCount_e hA hns h19, if_pos (by rw [f0]; rfl)]
      exact w.1
    · rw [lt_q, hh'.2.2.2.2.2.1, if_neg (by rw [nI_L (by omega) (by omega)]; omega), freeCount_e hA hns h19, if_neg (by rw [nI0_e (by omega)]; exact f0)]
      let F : Nat → DX → DX := fun k z => if chB al (P.2 n).2.2.2 k = true then tfP (hOf τ ns) al s0 (gdQ al ns wt M) m (n + 1) (chP (hOf τ ns) (s0 + n) n k P) z else z
      have eT : tfP (hOf τ ns) al s0 (gdQ al ns wt M) (m + 1) n P x = fdr F ns 1 x := by
        show fdr F ns 1 (F 0 x) = _
        have : F 0 x = x := draw_cut (h := hOf τ ns) (by omega) f0
        rw [this]
      rw [eT]
      refine for_inv (Q := fun k (a : Int32 × QS) => a.1 = nI k ∧ srC σ0 a.2 ∧ gI a.2 19 = nI A ∧ gI a.2 24 = nI wt ∧ rcD a.2 (fdr F k 1 x)) ns (fun o => ∃ σ', o = some σ' ∧ srC σ0 σ' ∧ gI σ' 19 = nI A ∧ gI σ' 24 = nI wt ∧ rcD σ' (fdr F ns 1 x)) (by omega) ⟨rfl, hsr, h19, h24, hrc⟩ ?_ ?_
      · rintro k ⟨a1, σk⟩ hk ⟨e1, e2, e3, e4, e5⟩
        have e1' : a1 = nI k := e1
        subst e1'
        have e2' : srC σ0 σk := e2
        have e3' : gI σk 19 = nI A := e3
        have hhk := e2'.house hh
        have es : fdr F (k + 1) 1 x = F (k + 1) (fdr F k 1 x) := by rw [fdr_end, Nat.add_comm 1 k]
        rw [es]
        generalize hz : fdr F k 1 x = z at e5
        by_cases e : chB al (P.2 n).2.2.2 (k + 1) = true
        · obtain ⟨σ2, g1, g2, g3, g4, g5⟩ := ih D' (n + 1) (chP (hOf τ ns) (s0 + n) n (k + 1) P) σk z (by omega) (by omega) e2' e3' e4 (by rw [chP_2]; exact nb_st (h := hOf τ ns) (by show k + 1 ≤ ns; omega) hb) (drA_ch ha rfl) e5
          rw [chP_2] at g1
          have eF : F (k + 1) z = tfP (hOf τ ns) al s0 (gdQ al ns wt M) m (n + 1) (chP (hOf τ ns) (s0 + n) n (k + 1) P) z := if_pos e
          refine ⟨(nI (k + 1), σ2), ⟨rfl, g2, g3, g4, by rw [eF]; exact g5⟩, fun r => ?_⟩
          rw [sdB_step hhk hA e3' (by omega) (by omega) hb hk r, if_pos e]
          refine Eq.trans (congrArg (fun o => Option.bind o _) g1) ?_
          rfl
        · have eF : F (k + 1) z = z := if_neg e
          refine ⟨(nI (k + 1), σk), ⟨rfl, e2, e3, e4, by rw [eF]; exact e5⟩, fun r => ?_⟩
          rw [sdB_step hhk hA e3' (by omega) (by omega) hb hk r, if_neg e]
      · rintro ⟨a1, σk⟩ ⟨e1, e2, e3, e4, e5⟩ r
        have e1' : a1 = nI ns := e1
        subst e1'
        have e2' : srC σ0 σk := e2
        rw [sdB_end (e2'.house hh).2.2.2.1 hns]
        exact ⟨σk, rfl, e2, e3, e4, e5⟩
theorem mkS_0 {p : Nat → Bool} {n : Nat} : mkS p n = 0 ↔ ∀ i, i < n → p i = false := by
  constructor
  · intro h i hi
    have := mkS_bit p n i
    rw [h, Nat.zero_testBit, decide_eq_true hi, Bool.true_and] at this
    exact this.symm
  · intro h
    refine Nat.eq_of_testBit_eq (fun i => ?_)
    rw [mkS_bit, Nat.zero_testBit]
    by_cases l : i < n
    · rw [h i l]; simp
    · simp [l]
theorem fcN_0 {al : Nat → Bool} {c : Nat} : ∀ {n : Nat}, fcN al c n = 0 ↔ ∀ i, i < n → chB al c (i + 1) = false
  | 0 => ⟨fun _ i hi => absurd hi (Nat.not_lt_zero i), fun _ => rfl⟩
  | n + 1 => by
    have ih := fcN_0 (al := al) (c := c) (n := n)
    unfold fcN
    constructor
    · intro h i hi
      by_cases e : chB al c (n + 1) = true
      · rw [if_pos e] at h; omega
      · by_cases w : i = n
        · rw [w]
          cases q : chB al c (n + 1)
          · rfl
          · exact absurd q e
        · exact ih.mp (by omega) i (by omega)
    · intro h
      rw [ih.mpr (fun i hi => h i (by omega)), h n (by omega)]
      rfl
theorem isDrawn_e {σ τ : QS} {ns nc M : Nat} (hh : HouseOk σ τ ns nc) {P : PS} (hM : gI τ 11 = nI M) (hM6 : M ≤ 6) (ha : atP τ M P) {pb : Nat} (ho : okS pb ns M P) : fX5_isDrawn_50 τ = some (if allB (drQ (alR τ) ns P) M = true then 1 else 0) := by
  have hns := hh.1
  unfold fX5_isDrawn_50
  refine for_fu (fun k => (if allB (drQ (alR τ) ns P) k = true then (1 : Int32) else 0, nI k)) M rfl (by omega) ?_ ?_
  · intro r k hk
    simp only []
    have pk := ho.2 k hk
    have bk := pow_le64 hns (ho.1 k (by omega)).2.2.2.2
    have a66 := (ha.2 k (by omega)).2.2.2
    rw [hM, if_neg (by rw [nI_L (by omega) (by omega)]; omega), nI_c (by omega), ha.1 k hk, a66, canB_e hh bk, Option.bind_some, nI_1, allB_s]
    simp only [ck_t (inb_n (show k < 7 by omega) (by omega))]
    have hfr : nI (frS (gM τ 53) (fun i => gM τ 51 (7 + i)) (P.2 k).2.2.2 ns) = 0 ↔ fcN (alR τ) (P.2 k).2.2.2 ns = 0 := by
      rw [nI0_e (by have := fr_lt (kd := gM τ 53) (st := fun i => gM τ 51 (7 + i)) (c := (P.2 k).2.2.2) hns; omega), fcN_0]
      exact mkS_0
    cases e : allB (drQ (alR τ) ns P) k
    · rfl
    · rw [if_pos rfl, if_neg one_ne]
      unfold drQ
      by_cases p0 : P.1 k = 0
      · rw [if_pos ((nI0_e (by omega)).mpr p0), decide_eq_true p0]
        by_cases f0 : fcN (alR τ) (P.2 k).2.2.2 ns = 0
        · rw [if_pos (hfr.mpr f0), decide_eq_true f0]; rfl
        · rw [if_neg (fun w => f0 (hfr.mp w)), decide_eq_false f0]; rfl
      · rw [if_neg (fun w => p0 ((nI0_e (by omega)).mp w)), decide_eq_false p0]; rfl
  · intro r
    simp only []
    rw [hM, if_pos (by rw [nI_L (by omega) (by omega)]; omega)]
    cases allB (drQ (alR τ) ns P) M <;> rfl
theorem odds_ref {σ τ : QS} {ns nc s p c : Nat} {wt : Nat} {a : Int} (hn : nowP σ τ ns nc s p a c) (h0 : ns ≠ 0) (hw : wt ≤ 6) {X : DX} (hX : X = tfP (hOf τ ns) (alR τ) s (gdQ (alR τ) ns wt (nc - s)) (nc - s) 0 (P0 p a c) (0, 0, 0)) : ∃ τ', fX5_odds_50 (nI wt) τ = Option.bind (fX5_tellParts_50 (lN X.1) (lN X.2.2) τ') (fun (q5 : Int32 × QS) => some (q5.1, q5.2)) ∧ rfT τ τ' := by
  obtain ⟨hh, hs, hp, ⟨a1, a2⟩, hc, ⟨-, e1⟩, ⟨-, e2⟩, ⟨-, e4⟩, ⟨-, e6⟩, -⟩ := hn
  have hns := hh.1
  have hnc := hh.2.1
  have I : itP (X := DX) (S := Int64 × Int64 × QS) (β := Int32 × QS) 9 σ ns nc (hOf τ ns) (alR τ) s (nc - s) (fun x τ => (lN x.1, lN x.2.2, τ)) (fun r3 x τ => Option.bind (fX5_isDrawn_50 τ) (fun (q6 : Int32) => (if q6 = 0 then r3 ((lN x.1), (lN x.2.2), τ) else ck_ (inb (gI τ 11) 7) ((if (gM τ 65 ((gI τ 11).toNatClampNeg)) < (nI wt) then lt_ ((lN x.1) + (0 : Int64)) (fun (v8 : Int64) => lt_ ((lN x.2.2) + (1 : Int64)) (fun (v9 : Int64) => r3 (v8, v9, τ))) else lt_ ((lN x.1) + (1 : Int64)) (fun (v10 : Int64) => lt_ ((lN x.2.2) + (1 : Int64)) (fun (v11 : Int64) => r3 (v10, v11, τ)))))))) (fun x τ => Option.bind (fX5_tellParts_50 (lN x.1) (lN x.2.2) τ) (fun (q5 : Int32 × QS) => some (q5.1, q5.2))) (fun (r3 : Int64 × Int64 × QS → Option (Int32 × QS)) (a2 : Int64 × Int64 × QS) => Option.bind (fX5_nextPlan_50 a2.2.2) (fun (q4 : Int32 × QS) => (if q4.1 = 0 then Option.bind (fX5_tellParts_50 a2.1 a2.2.1 q4.2) (fun (q5 : Int32 × QS) => some (q5.1, q5.2)) else Option.bind (fX5_isDrawn_50 q4.2) (fun (q6 : Int32) => (if q6 = 0 then r3 (a2.1, a2.2.1, q4.2) else ck_ (inb (gI q4.2 11) 7) ((if (gM q4.2 65 ((gI q4.2 11).toNatClampNeg)) < (nI wt) then lt_ (a2.1 + (0 : Int64)) (fun (v8 : Int64) => lt_ (a2.2.1 + (1 : Int64)) (fun (v9 : Int64) => r3 (v8, v9, q4.2))) else lt_ (a2.1 + (1 : Int64)) (fun (v10 : Int64) => lt_ (a2.2.1 + (1 : Int64)) (fun (v11 : Int64) => r3 (v10, v11, q4.2)))))))))) (gdQ (alR τ) ns wt (nc - s)) (fun x τ' => jbP σ τ ns nc (hOf τ ns) (alR τ) s (nc - s) τ') := by
    refine ⟨fun x τ1 τ2 hJ hb => jb_sb hJ hb, fun x τ1 hJ => hJ.1, fun x τ1 P hJ ha ho => ?_, fun r x τ1 => rfl⟩
    have B := hJ.1
    obtain ⟨a63, a64, a65, a66⟩ := ha.2 (nc - s) (Nat.le_refl _)
    obtain ⟨b1, b2, b3, b4, b5⟩ := ho.1 (nc - s) (Nat.le_refl _)
    have c1 : (nI (nc - s)).toNatClampNeg = nc - s := nI_c (by omega)
    have hi2 : inb (gI τ1 11) 7 = true := by rw [B.2.2.2.2.1]; exact inb_n (by omega) (by omega)
    have c11 : (gI τ1 11).toNatClampNeg = nc - s := by rw [B.2.2.2.2.1]; exact c1
    have dr := isDrawn_e B.1 B.2.2.2.2.1 (by omega) ha ho
    rw [B.2.2.1] at dr
    refine ⟨τ1, fun r => ?_, hJ, fun j _ _ => rfl⟩
    simp only [lt_q]
    rw [dr, Option.bind_some, ck_t hi2, c11, a65]
    unfold gdQ
    cases e : allB (drQ (alR τ) ns P) (nc - s)
    · rfl
    · rw [if_pos rfl, if_neg one_ne, if_pos rfl]
      by_cases q : wt ≤ (P.2 (nc - s)).2.2.1
      · rw [if_neg (by rw [nI_l2 (by omega) (by omega)]; omega), if_pos q, lN_1, lN_1]
      · rw [if_pos (by rw [nI_l2 (by omega) (by omega)]; omega), if_neg q, lN_1]
        have : lN x.1 + (0 : Int64) = lN (x.1 + 0) := lN_add x.1 0
        rw [this]
  obtain ⟨τ', g1, g2⟩ := plan_loop (by omega) I rfl hns (by omega) (x := (0, 0, 0)) (τ := bpT τ (nI p)) (P := P0 p a c) (jb_0 hh e1 hs _) (bp_12 _ _) (bp_at e4 e6) (ok_0 hp a1 a2 hc) (bp_67 _ _)
  rw [← hX] at g2
  refine ⟨τ', ?_, g1.2⟩
  unfold fX5_odds_50
  have e : fX5_in (nI wt).toInt64 (0 : Int64) (6 : Int64) = if nI wt < 0 then 0 else if 6 < nI wt then 0 else 1 := in_int (nI wt) 0 6
  rw [e, if_neg (show ¬ nI wt < 0 from nneg (by omega)), if_neg (show ¬ (6 : Int32) < nI wt from by show ¬ nI 6 < nI wt; rw [nI_l2 (by omega) (by omega)]; omega), if_neg one_ne]
  rw [hh.2.2.2.2.1, if_neg (by rw [nI0_e (by omega)]; exact h0), e2, begin_e, Option.bind_some]
  exact g2
theorem mid_ref {σ τ : QS} {ns nc s p c : Nat} {a : Int} (hn : nowP σ τ ns nc s p a c) (h0 : ns ≠ 0) {X : DX} (hX : X = tfP (hOf τ ns) (alR τ) s (gdQ (alR τ) ns 0 (nc - s)) (nc - s) 0 (P0 p a c) (0, 0, 0)) : ∃ τ', fX5_mid_50 τ = Option.bind (fX5_tellParts_50 (LZ X.2.1) (lN X.2.2) τ') (fun (q5 : Int32 × QS) => some (q5.1, q5.2)) ∧ rfT τ τ' := by
  obtain ⟨hh, hs, hp, ⟨a1, a2⟩, hc, ⟨-, e1⟩, ⟨-, e2⟩, ⟨-, e4⟩, ⟨-, e6⟩, -⟩ := hn
  have hns := hh.1
  have hnc := hh.2.1
  have I : itP (X := DX) (S := Int64 × Int64 × QS) (β := Int32 × QS) 9 σ ns nc (hOf τ ns) (alR τ) s (nc - s) (fun x τ => (LZ x.2.1, lN x.2.2, τ)) (fun r3 x τ => Option.bind (fX5_isDrawn_50 τ) (fun (q6 : Int32) => (if q6 = 0 then r3 ((LZ x.2.1), (lN x.2.2), τ) else ck_ (inb (gI τ 11) 7) (lt_ ((LZ x.2.1) + (gM τ 64 ((gI τ 11).toNatClampNeg)).toInt64) (fun (v8 : Int64) => lt_ ((lN x.2.2) + (1 : Int64)) (fun (v9 : Int64) => r3 (v8, v9, τ))))))) (fun x τ => Option.bind (fX5_tellParts_50 (LZ x.2.1) (lN x.2.2) τ) (fun (q5 : Int32 × QS) => some (q5.1, q5.2))) (fun (r3 : Int64 × Int64 × QS → Option (Int32 × QS)) (a2 : Int64 × Int64 × QS) => Option.bind (fX5_nextPlan_50 a2.2.2) (fun (q4 : Int32 × QS) => (if q4.1 = 0 then Option.bind (fX5_tellParts_50 a2.1 a2.2.1 q4.2) (fun (q5 : Int32 × QS) => some (q5.1, q5.2)) else Option.bind (fX5_isDrawn_50 q4.2) (fun (q6 : Int32) => (if q6 = 0 then r3 (a2.1, a2.2.1, q4.2) else ck_ (inb (gI q4.2 11) 7) (lt_ (a2.1 + (gM q4.2 64 ((gI q4.2 11).toNatClampNeg)).toInt64) (fun (v8 : Int64) => lt_ (a2.2.1 + (1 : Int64)) (fun (v9 : Int64) => r3 (v8, v9, q4.2))))))))) (gdQ (alR τ) ns 0 (nc - s)) (fun x τ' => jbP σ τ ns nc (hOf τ ns) (alR τ) s (nc - s) τ') := by
    refine ⟨fun x τ1 τ2 hJ hb => jb_sb hJ hb, fun x τ1 hJ => hJ.1, fun x τ1 P hJ ha ho => ?_, fun r x τ1 => rfl⟩
    have B := hJ.1
    obtain ⟨a63, a64, a65, a66⟩ := ha.2 (nc - s) (Nat.le_refl _)
    obtain ⟨b1, b2, b3, b4, b5⟩ := ho.1 (nc - s) (Nat.le_refl _)
    have c1 : (nI (nc - s)).toNatClampNeg = nc - s := nI_c (by omega)
    have hi2 : inb (gI τ1 11) 7 = true := by rw [B.2.2.2.2.1]; exact inb_n (by omega) (by omega)
    have c11 : (gI τ1 11).toNatClampNeg = nc - s := by rw [B.2.2.2.2.1]; exact c1
    have dr := isDrawn_e B.1 B.2.2.2.2.1 (by omega) ha ho
    rw [B.2.2.1] at dr
    refine ⟨τ1, fun r => ?_, hJ, fun j _ _ => rfl⟩
    simp only [lt_q]
    rw [dr, Option.bind_some, ck_t hi2, c11, a64, PZ_l (by omega) (by omega)]
    unfold gdQ
    cases e : allB (drQ (alR τ) ns P) (nc - s)
    · rfl
    · rw [if_pos rfl, if_neg one_ne, if_pos rfl]
      rw [lN_1, LZ_add]
  obtain ⟨τ', g1, g2⟩ := plan_loop (by omega) I rfl hns (by omega) (x := (0, 0, 0)) (τ := bpT τ (nI p)) (P := P0 p a c) (jb_0 hh e1 hs _) (bp_12 _ _) (bp_at e4 e6) (ok_0 hp a1 a2 hc) (bp_67 _ _)
  rw [← hX] at g2
  refine ⟨τ', ?_, g1.2⟩
  unfold fX5_mid_50
  rw [hh.2.2.2.2.1, if_neg (by rw [nI0_e (by omega)]; exact h0), e2, begin_e, Option.bind_some]
  exact g2
theorem draws_cls {σ τ : QS} {ns nc s p c wt : Nat} {a : Int} (hn : nowP σ τ ns nc s p a c) (hw : wt ≤ 6) {X : DX} (hX : X = tfP (hOf τ ns) (alR τ) s (gdQ (alR τ) ns wt (nc - s)) (nc - s) 0 (P0 p a c) (0, 0, 0)) : ∃ σ', fX2_findDraws_7 (nI wt) σ = some σ' ∧ srC σ σ' ∧ rcD σ' X := by
  have hn' := hn
  obtain ⟨hh, hs, hp, ⟨a1, a2⟩, hc, ⟨e13, e1⟩, ⟨e15, e2⟩, ⟨e17, e4⟩, ⟨e14, e6⟩, es⟩ := hn'
  have hns := hh.1
  have hnc := hh.2.1
  have hA : alB (alS (gM τ 53) (gM σ 25) ns) ns (alR τ) := al_al (fun k hk => by rw [es k hk]; rfl)
  let S : QS := pJ (pJ (pJ (pI (pI σ 19 (nI (alS (gM τ 53) (gM σ 25) ns))) 24 (nI wt)) 3 0) 4 0) 5 0
  obtain ⟨σ', f1, f2, f3, f4, f5⟩ := seekDraws_e (s0 := s) (M := nc - s) (wt := wt) hh hA (by omega) hw (nc - s) DP 0 (P0 p a c) S (0, 0, 0) (by omega) (by show nc - s < 8; omega) ((((((srC.rf σ).i (by omega) _).i (by omega) _).j (by omega) _).j (by omega) _).j (by omega) _) rfl rfl ⟨by show p ≤ 999; omega, by show _ ≤ a; omega, by show a ≤ _; omega, Nat.zero_le _, hc⟩ rfl ⟨rfl, rfl, rfl⟩
  rw [← hX] at f5
  refine ⟨σ', ?_, f2, f5⟩
  unfold fX2_findDraws_7
  simp only [lt_q]
  rw [alC_e hh, Option.bind_some]
  have f1' : fX2_seekDraws_7 DP (gI S 13) (gI S 14) (gI S 17) (gI S 15) (0 : Int32) S = some σ' := by
    show fX2_seekDraws_7 DP (gI σ 13) (gI σ 14) (gI σ 17) (gI σ 15) (0 : Int32) S = some σ'
    rw [e13, e14, e15, e17]
    exact f1
  rw [f1', Option.bind_some]
theorem draws_fin {σ τ σ' τ' : QS} (h : Inv σ τ) (hc : srC σ σ') (hr : rfT τ τ') {x : Int64} {b : Nat} (h1 : -1000000000 ≤ x.toInt) (h2 : x.toInt ≤ 1000000000) (b0 : 0 < b) (b1 : b < 2 ^ 20) : Same (Option.bind (fX4_tellFraction_0 x (lN b) σ') (fun (q2 : QS) => some ((1 : Int32), q2))) (Option.bind (fX5_tellParts_50 x (lN b) τ') (fun (q5 : Int32 × QS) => some (q5.1, q5.2))) := by
  obtain ⟨u, w, q1, q2⟩ := frac_same (σ := σ') (τ := τ') h1 h2 b0 b1
  rw [q1, q2]
  exact Same.mk rfl rfl (frac_ok (inv_srch h hc hr) u w)
theorem odds_same {σ τ : QS} (h : Inv σ τ) (x : Int32) : Same (fX4_odds_0 x σ) (fX5_odds_50 x τ) := by
  obtain ⟨ns, nc, s, p, a, c, hn⟩ := h.now
  have hn' := hn
  obtain ⟨hh, hs, hp, ⟨a1, a2⟩, hc, -⟩ := hn'
  have hns := hh.1
  have hnc := hh.2.1
  have e : fX5_in x.toInt64 (0 : Int64) (6 : Int64) = if x < 0 then 0 else if 6 < x then 0 else 1 := in_int x 0 6
  by_cases c0 : x < 0
  · unfold fX4_odds_0 fX5_odds_50
    rw [e, if_pos c0, if_pos c0, if_pos rfl]
    exact Same.mk rfl rfl h
  by_cases c6 : x ≤ 6
  · obtain ⟨wt, hw, rfl⟩ := nI_of2 (M := 6) (n := 6) (by decide) c0 c6
    by_cases h0 : ns = 0
    · unfold fX4_odds_0 fX5_odds_50
      rw [e, if_neg c0, if_neg c0, if_pos c6, if_neg (show ¬ (6 : Int32) < nI wt from by rw [fa_lt]; rw [fa_le] at c6; omega), if_neg one_ne, hh.2.2.2.1, hh.2.2.2.2.1, if_pos (by rw [h0]; rfl), if_pos (by rw [h0]; rfl)]
      exact Same.mk rfl rfl h
    · have bd := draw_bound (h := hOf τ ns) (al := alR τ) (s0 := s) (wt := wt) (M := nc - s) (by omega) hns (P := P0 p a c) ⟨hp, by show _ ≤ a; omega, by show a ≤ _; omega, Nat.zero_le _, hc⟩
      have ps := draw_pos (h := hOf τ ns) (al := alR τ) (s0 := s) (wt := wt) (M := nc - s) (nc - s) 0 (P0 p a c) (0, 0, 0) (by omega) rfl
      obtain ⟨τ', d1, d2⟩ := odds_ref hn h0 hw rfl
      obtain ⟨σ', c1, c2, c3⟩ := draws_cls hn hw rfl
      have bd' : (tfP (hOf τ ns) (alR τ) s (gdQ (alR τ) ns wt (nc - s)) (nc - s) 0 (P0 p a c) (0, 0, 0)).1 ≤ 117649 ∧ (tfP (hOf τ ns) (alR τ) s (gdQ (alR τ) ns wt (nc - s)) (nc - s) 0 (P0 p a c) (0, 0, 0)).2.2 ≤ 117649 := ⟨bd.1, bd.2.1⟩
      have ps' : 0 < (tfP (hOf τ ns) (alR τ) s (gdQ (alR τ) ns wt (nc - s)) (nc - s) 0 (P0 p a c) (0, 0, 0)).2.2 := ps
      generalize tfP (hOf τ ns) (alR τ) s (gdQ (alR τ) ns wt (nc - s)) (nc - s) 0 (P0 p a c) (0, 0, 0) = X at *
      rw [d1]
      unfold fX4_odds_0
      rw [if_neg c0, if_pos c6, hh.2.2.2.1, if_neg (by rw [nI0_e (by omega)]; exact h0), c1, Option.bind_some, c3.1, c3.2.1]
      exact draws_fin h c2 d2 (by rw [lN_toInt (by omega)]; omega) (by rw [lN_toInt (by omega)]; omega) ps' (by omega)
  · unfold fX4_odds_0 fX5_odds_50
    rw [e, if_neg c0, if_neg c0, if_neg c6, if_pos (show (6 : Int32) < x from by rw [fa_lt]; rw [fa_le] at c6; omega), if_pos rfl]
    exact Same.mk rfl rfl h
theorem mid_same {σ τ : QS} (h : Inv σ τ) : Same (fX4_mid_0 σ) (fX5_mid_50 τ) := by
  obtain ⟨ns, nc, s, p, a, c, hn⟩ := h.now
  have hn' := hn
  obtain ⟨hh, hs, hp, ⟨a1, a2⟩, hc, -⟩ := hn'
  have hns := hh.1
  have hnc := hh.2.1
  by_cases h0 : ns = 0
  · unfold fX4_mid_0 fX5_mid_50
    rw [hh.2.2.2.1, hh.2.2.2.2.1, if_pos (by rw [h0]; rfl), if_pos (by rw [h0]; rfl)]
    exact Same.mk rfl rfl h
  · have bd := draw_bound (h := hOf τ ns) (al := alR τ) (s0 := s) (wt := 0) (M := nc - s) (by omega) hns (P := P0 p a c) ⟨hp, by show _ ≤ a; omega, by show a ≤ _; omega, Nat.zero_le _, hc⟩
    have ps := draw_pos (h := hOf τ ns) (al := alR τ) (s0 := s) (wt := 0) (M := nc - s) (nc - s) 0 (P0 p a c) (0, 0, 0) (by omega) rfl
    obtain ⟨τ', d1, d2⟩ := mid_ref hn h0 rfl
    obtain ⟨σ', c1, c2, c3⟩ := draws_cls hn (wt := 0) (by omega) rfl
    have bd1 : (tfP (hOf τ ns) (alR τ) s (gdQ (alR τ) ns 0 (nc - s)) (nc - s) 0 (P0 p a c) (0, 0, 0)).2.2 ≤ 117649 := bd.2.1
    have bd2 : -(70 * ((tfP (hOf τ ns) (alR τ) s (gdQ (alR τ) ns 0 (nc - s)) (nc - s) 0 (P0 p a c) (0, 0, 0)).2.2 : Int)) ≤ (tfP (hOf τ ns) (alR τ) s (gdQ (alR τ) ns 0 (nc - s)) (nc - s) 0 (P0 p a c) (0, 0, 0)).2.1 := bd.2.2.1
    have bd3 : (tfP (hOf τ ns) (alR τ) s (gdQ (alR τ) ns 0 (nc - s)) (nc - s) 0 (P0 p a c) (0, 0, 0)).2.1 ≤ 70 * ((tfP (hOf τ ns) (alR τ) s (gdQ (alR τ) ns 0 (nc - s)) (nc - s) 0 (P0 p a c) (0, 0, 0)).2.2 : Int) := bd.2.2.2
    have ps' : 0 < (tfP (hOf τ ns) (alR τ) s (gdQ (alR τ) ns 0 (nc - s)) (nc - s) 0 (P0 p a c) (0, 0, 0)).2.2 := ps
    generalize tfP (hOf τ ns) (alR τ) s (gdQ (alR τ) ns 0 (nc - s)) (nc - s) 0 (P0 p a c) (0, 0, 0) = X at *
    rw [d1]
    unfold fX4_mid_0
    have c1' : fX2_findDraws_7 (0 : Int32) σ = some σ' := c1
    rw [hh.2.2.2.1, if_neg (by rw [nI0_e (by omega)]; exact h0), c1', Option.bind_some, c3.1, c3.2.2]
    exact draws_fin h c2 d2 (by rw [LZ_t (by omega) (by omega)]; omega) (by rw [LZ_t (by omega) (by omega)]; omega) ps' (by omega)
