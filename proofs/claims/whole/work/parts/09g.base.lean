/-! ===== searches: what both sides stand on ===== -/
/-- a loop with what holds behind k rounds -/
theorem for_inv {α β : Type} {B : (α → Option β) → α → Option β} (Q : Nat → α → Prop) (N : Nat) (R : Option β → Prop) {a : α} (hN : N < 1000000) (h0 : Q 0 a) (hs : ∀ k a, k < N → Q k a → ∃ a', Q (k + 1) a' ∧ ∀ r : α → Option β, B r a = r a') (hx : ∀ a, Q N a → ∀ r : α → Option β, R (B r a)) : R (lp_ B FV a) := by
  have key : ∀ (m k : Nat) (a : α), k + m = N → Q k a → ∀ n, m < n → R (lp_ B n a) := by
    intro m
    induction m with
    | zero =>
      intro k a hk hq n hn
      obtain ⟨n', rfl⟩ : ∃ n', n = n' + 1 := ⟨n - 1, by omega⟩
      have : k = N := by omega
      subst this
      exact hx a hq _
    | succ m ih =>
      intro k a hk hq n hn
      obtain ⟨n', rfl⟩ : ∃ n', n = n' + 1 := ⟨n - 1, by omega⟩
      obtain ⟨a', q', e⟩ := hs k a (by omega) hq
      show R (B (lp_ B n') a)
      rw [e]
      exact ih (k + 1) a' (by omega) q' n' (by omega)
  exact key N 0 a (by omega) h0 FV (Nat.lt_of_lt_of_le hN FV_ge)
theorem fdr_end {X : Type} (f : Nat → X → X) : ∀ (k j : Nat) (x : X), fdr f (k + 1) j x = f (j + k) (fdr f k j x)
  | 0, _, _ => rfl
  | k + 1, j, x => by
    show fdr f (k + 1) (j + 1) (f j x) = f (j + (k + 1)) (fdr f k (j + 1) (f j x))
    rw [fdr_end f k (j + 1) (f j x), show j + 1 + k = j + (k + 1) by omega]
theorem fdr_max0 {p : Nat → Bool} {v : Nat → Nat} : ∀ (d j x : Nat), fdr (fun k y => if p k = true then max y (v k) else y) d j x = max x (fdr (fun k y => if p k = true then max y (v k) else y) d j 0)
  | 0, _, x => by show x = max x 0; omega
  | d + 1, j, x => by
    show fdr _ d (j + 1) (if p j = true then max x (v j) else x) = max x (fdr _ d (j + 1) (if p j = true then max 0 (v j) else 0))
    rw [fdr_max0 d (j + 1) (if p j = true then max x (v j) else x), fdr_max0 d (j + 1) (if p j = true then max 0 (v j) else 0)]
    by_cases e : p j = true
    · rw [if_pos e, if_pos e]; omega
    · rw [if_neg e, if_neg e]; omega
theorem tfP_max {h : HH} {al : Nat → Bool} {s0 M : Nat} {lv : ND → Nat} : ∀ (m n : Nat) (P : PS) (x : Nat), n + m = M → tfP h al s0 (fun P x => max x (lv (P.2 M))) m n P x = max x (mxN h al lv m (s0 + n) (P.2 n))
  | 0, n, P, x, hM => by
    have : n = M := by omega
    subst this
    rfl
  | m + 1, n, P, x, hM => by
    show fdr (fun k y => if chB al (P.2 n).2.2.2 k = true then tfP h al s0 (fun P x => max x (lv (P.2 M))) m (n + 1) (chP h (s0 + n) n k P) y else y) (hN h + 1) 0 x = max x (fdr (fun k y => if chB al (P.2 n).2.2.2 k = true then max y (mxN h al lv m (s0 + n + 1) (stN h (s0 + n) k (P.2 n))) else y) (hN h + 1) 0 0)
    rw [← fdr_max0 (p := fun k => chB al (P.2 n).2.2.2 k) (v := fun k => mxN h al lv m (s0 + n + 1) (stN h (s0 + n) k (P.2 n)))]
    refine fdr_cong _ _ _ (fun k _ _ y => ?_)
    rw [tfP_max m (n + 1) _ y (by omega), chP_2]
    rfl
/-- what the reference's searches leave -/
def rfT (τ τ' : QS) : Prop := (∀ j, j < 63 → gM τ' j = gM τ j) ∧ (∀ j, j ≤ 10 → gI τ' j = gI τ j) ∧ ∀ j, gJ τ' j = gJ τ j
theorem rfT.rf (τ : QS) : rfT τ τ := ⟨fun _ _ => rfl, fun _ _ => rfl, fun _ => rfl⟩
theorem rfT.tr {τ τ1 τ2 : QS} (h : rfT τ τ1) (g : rfT τ1 τ2) : rfT τ τ2 := ⟨fun j hj => (g.1 j hj).trans (h.1 j hj), fun j hj => (g.2.1 j hj).trans (h.2.1 j hj), fun j => (g.2.2 j).trans (h.2.2 j)⟩
theorem rfT.house {σ τ τ' : QS} {ns nc : Nat} (h : rfT τ τ') (hh : HouseOk σ τ ns nc) : HouseOk σ τ' ns nc := by
  unfold HouseOk
  rw [h.2.1 1 (by omega), h.2.1 0 (by omega), h.1 52 (by omega), h.1 53 (by omega), h.1 54 (by omega), h.1 55 (by omega)]
  exact hh
theorem rfT.hof {τ τ' : QS} (h : rfT τ τ') (ns : Nat) : hOf τ' ns = hOf τ ns := by
  unfold hOf
  rw [h.1 52 (by omega), h.1 53 (by omega), h.1 54 (by omega), h.1 55 (by omega)]
theorem rfT.al {τ τ' : QS} (h : rfT τ τ') : alR τ' = alR τ := by
  unfold alR
  rw [h.1 53 (by omega), h.1 51 (by omega)]
/-- what the class's searches leave -/
def srC (σ σ' : QS) : Prop := (∀ k, k ≤ 18 → gI σ' k = gI σ k) ∧ (∀ k, k ≠ 27 → k ≠ 28 → gM σ' k = gM σ k) ∧ gJ σ' 0 = gJ σ 0 ∧ gJ σ' 1 = gJ σ 1
theorem srC.rf (σ : QS) : srC σ σ := ⟨fun _ _ => rfl, fun _ _ _ => rfl, rfl, rfl⟩
theorem srC.tr {σ σ1 σ2 : QS} (h : srC σ σ1) (g : srC σ1 σ2) : srC σ σ2 := ⟨fun j hj => (g.1 j hj).trans (h.1 j hj), fun j a b => (g.2.1 j a b).trans (h.2.1 j a b), g.2.2.1.trans h.2.2.1, g.2.2.2.trans h.2.2.2⟩
theorem srC.i {σ σ' : QS} (h : srC σ σ') {k : Nat} (hk : 19 ≤ k) (v : Int32) : srC σ (pI σ' k v) := ⟨fun j hj => (gI_ne (by omega)).trans (h.1 j hj), fun j a b => h.2.1 j a b, h.2.2.1, h.2.2.2⟩
theorem srC.j {σ σ' : QS} (h : srC σ σ') {k : Nat} (hk : 2 ≤ k) (v : Int64) : srC σ (pJ σ' k v) := ⟨fun j hj => h.1 j hj, fun j a b => h.2.1 j a b, by rw [gJ_pJ, if_neg (by omega)]; exact h.2.2.1, by rw [gJ_pJ, if_neg (by omega)]; exact h.2.2.2⟩
theorem srC.m {σ σ' : QS} (h : srC σ σ') {k : Nat} (hk : k = 27 ∨ k = 28) (f : Nat → Int32) : srC σ (pM σ' k f) := ⟨fun j hj => h.1 j hj, fun j a b => (gM_ne (by omega)).trans (h.2.1 j a b), h.2.2.1, h.2.2.2⟩
theorem srC.house {σ σ' τ : QS} {ns nc : Nat} (h : srC σ σ') (hh : HouseOk σ τ ns nc) : HouseOk σ' τ ns nc := by
  unfold HouseOk
  rw [h.1 9 (by omega), h.1 8 (by omega), h.1 11 (by omega), h.2.1 20 (by omega) (by omega), h.2.1 21 (by omega) (by omega), h.2.1 23 (by omega) (by omega), h.2.1 24 (by omega) (by omega)]
  exact hh
/-- both have searched: all that lasts is as it was -/
theorem inv_srch {σ τ σ' τ' : QS} (h : Inv σ τ) (hc : srC σ σ') (hr : rfT τ τ') : Inv σ' τ' := by
  refine h.keep ⟨fun k h1 h2 => hc.1 k (by omega), hc.2.1 14 (by omega) (by omega), fun k h1 h2 => hc.2.1 k (by omega) (by omega), fun k hk => hc.2.1 _ (by omega) (by omega), hr.2.1 0 (by omega), hr.2.1 1 (by omega), hr.1 51 (by omega), hr.1 52 (by omega), hr.1 53 (by omega), hr.1 54 (by omega), hr.1 55 (by omega)⟩ (hc.1 0 (by omega)) (hc.1 1 (by omega)) hc.2.2.1 hc.2.2.2 (hc.2.1 8 (by omega) (by omega)) (hc.2.1 10 (by omega) (by omega)) (hc.2.1 12 (by omega) (by omega)) (fun k h1 h2 => hc.2.1 k (by omega) (by omega)) (hr.2.1 2 (by omega)) (hr.2.1 3 (by omega)) (hr.2.2 0) (hr.2.2 1) (fun k h1 h2 => hr.1 k (by omega))
/-- the night now, in whole numbers, on both sides -/
def nowP (σ τ : QS) (ns nc s p : Nat) (a : Int) (c : Nat) : Prop := HouseOk σ τ ns nc ∧ s ≤ nc ∧ p ≤ 9 ∧ (-20 ≤ a ∧ a ≤ 20) ∧ c < 2 ^ ns ∧ (gI σ 13 = nI s ∧ gM τ 51 1 = nI s) ∧ (gI σ 15 = nI p ∧ gM τ 51 2 = nI p) ∧ (gI σ 17 = PZ a ∧ gM τ 51 4 = PZ a) ∧ (gI σ 14 = nI c ∧ gM τ 51 6 = nI c) ∧ ∀ i, i < ns → gM σ 25 i = gM τ 51 (7 + i)
theorem Inv.now {σ τ : QS} (h : Inv σ τ) : ∃ ns nc s p a c, nowP σ τ ns nc s p a c := by
  obtain ⟨ns, nc, pr, n, v, h2, hh, hn, h12, hv, hvo, hpr, hN, r0, rv⟩ := h.see
  have hns := hh.1
  have hnc := hh.2.1
  obtain ⟨⟨s, s1, s2, s3, s4, k9, k91, k92⟩, ⟨p, q, p1, p2, p3⟩, ⟨c, c1, c2⟩, hs⟩ := hvo
  have ea : v 3 = PZ (v 3).toInt := (fb_asI (v 3)).symm
  refine ⟨ns, nc, s, p, (v 3).toInt, c, hh, s1, by omega, ⟨by omega, by omega⟩, c1, ⟨by rw [hN.1, s2], by rw [← s2, ← rv 0 (by omega)]⟩, ⟨by rw [hN.2.1, p2], by rw [← p2, ← rv 1 (by omega)]⟩, ⟨by rw [hN.2.2.2.1, ← ea], by rw [← ea, ← rv 3 (by omega)]⟩, ⟨by rw [hN.2.2.2.2.2.1, c2], by rw [← c2, ← rv 5 (by omega)]⟩, fun i hi => ?_⟩
  rw [hN.2.2.2.2.2.2 i hi, ← rv (6 + i) (by omega)]
  congr 1
  omega
/-- the set of those whose seats let them be called -/
def alB (A ns : Nat) (al : Nat → Bool) : Prop := A < 2 ^ ns ∧ ∀ i, i < ns → A.testBit i = al i
theorem al_al {kd st : Nat → Int32} {ns : Nat} {al : Nat → Bool} (h : ∀ i, i < ns → sitP (kd i) (st i) = al i) : alB (alS kd st ns) ns al := by
  refine ⟨al_lt _ _ _, fun i hi => ?_⟩
  unfold alS
  rw [mkS_bit, decide_eq_true hi, Bool.true_and, h i hi]
theorem pop_fc {A c ns : Nat} {al : Nat → Bool} (hA : ∀ i, i < ns → A.testBit i = al i) : ∀ n, n ≤ ns → n ≤ 31 → pop (dif A c) n = fcN al c n
  | 0, _, _ => rfl
  | n + 1, h, h31 => by
    show pop (dif A c) n + (if (dif A c).testBit n then 1 else 0) = fcN al c n + (if chB al c (n + 1) = true then 1 else 0)
    rw [pop_fc hA n (by omega) (by omega), dif_bit _ _ _ (by omega), hA n (by omega)]
    have : (al n && !c.testBit n) = chB al c (n + 1) := by
      show _ = (!(c.testBit n) && al n)
      exact Bool.and_comm _ _
    rw [this]
theorem freeCount_e {σ : QS} {A ns : Nat} {al : Nat → Bool} (hA : alB A ns al) (hns : ns ≤ 6) (h19 : gI σ 19 = nI A) (c : Nat) : fX2_freeCount_7 (nI c) σ = nI (fcN al c ns) := by
  have l1 : dif A c < 2 ^ ns := Nat.lt_of_le_of_lt (dif_le _ _) hA.1
  have := pow_le64 hns l1
  unfold fX2_freeCount_7
  rw [h19, dif_e, bitCount_e (by omega), pop_ge (n := ns) l1 11 (by omega), pop_fc hA.2 ns (by omega) (by omega)]
theorem isFree_e {σ : QS} {A ns : Nat} {al : Nat → Bool} (hA : alB A ns al) (hns : ns ≤ 6) (h19 : gI σ 19 = nI A) {i : Nat} (hi : i < ns) (c : Nat) : fX2_isFree_7 (nI i) (nI c) σ = if chB al c (i + 1) = true then 1 else 0 := by
  have l1 : dif A c < 2 ^ ns := Nat.lt_of_le_of_lt (dif_le _ _) hA.1
  have := pow_le64 hns l1
  unfold fX2_isFree_7
  rw [h19, dif_e, isIn_e (by omega) (by omega), dif_bit _ _ _ (by omega), hA.2 i hi]
  have : (al i && !c.testBit i) = chB al c (i + 1) := by
    show _ = (!(c.testBit i) && al i)
    exact Bool.and_comm _ _
  rw [this]
theorem clap_e {L p : Nat} {a : Int} (hL : L < 1000000) (hp : p < 1000000) : fX2_clappingBehind (PZ a) (nI L) (nI p) = PZ (if p < L then a - 1 else a + (if L = 0 then 2 else 1)) := by
  unfold fX2_clappingBehind
  by_cases q : p < L
  · rw [if_neg (by rw [nI_L (by omega) (by omega)]; omega), if_pos q]
    have e : PZ a - (1 : Int32) = PZ a + (-1 : Int32) := by rw [Int32.sub_eq_add_neg]
    rw [e, PZ_m1]
  · rw [if_pos (by rw [nI_L (by omega) (by omega)]; omega), if_neg q]
    by_cases z : L = 0
    · rw [if_pos ((nI0_e (by omega)).mpr z), if_pos z, PZ_2]
    · rw [if_neg (fun w => z ((nI0_e (by omega)).mp w)), if_neg z, PZ_1]
theorem prom_e {L p : Nat} (hL : L < 1000000) (hp : p < 1000000) : fX2_promptsBehind (nI L) (nI p) = nI (if p < L then p else p - L) := by
  unfold fX2_promptsBehind
  by_cases q : p < L
  · rw [if_neg (by rw [nI_L (by omega) (by omega)]; omega), if_pos q]
  · rw [if_pos (by rw [nI_L (by omega) (by omega)]; omega), if_neg q, pk_sub (by omega)]
theorem lackC_z {σ τ : QS} {ns nc : Nat} (hh : HouseOk σ τ ns nc) {i s c : Nat} {a : Int} (hi : i < ns) (hs : s < nc) (hc : c < 64) (a0 : -1000 ≤ a) (a9 : a ≤ 1000) : fX1_lacking_5 (nI i) (nI s) (nI c) (PZ a) σ = some (nI (lkZ (hOf τ ns) i s a c)) := by
  rw [lackC_e hh hi hs hc, lack_z (hbd_of hh) hi hs (by rw [PZ_t (by omega) (by omega)]; omega) (by rw [PZ_t (by omega) (by omega)]; omega), PZ_t (by omega) (by omega)]
/-- the reference begins -/
noncomputable def bpT (τ : QS) (x : Int32) : QS := pI (pM (pI (pM (pM (pM (pM τ 63 (upd (gM τ 63) 0 x)) 64 (upd (gM τ 64) 0 (gM τ 51 4))) 65 (upd (gM τ 65) 0 0)) 66 (upd (gM τ 66) 0 (gM τ 51 6))) 11 (gI τ 0 - gM τ 51 1)) 67 (upd (gM τ 67) 0 (-1))) 12 0
theorem begin_e (x : Int32) (τ : QS) : fX5_beginPlans_50 x τ = some (bpT τ x) := rfl
theorem bp_rf (x : Int32) (τ : QS) : rfT τ (bpT τ x) := by
  refine ⟨fun j hj => ?_, fun j hj => ?_, fun j => rfl⟩
  · unfold bpT
    show gM (pM (pI (pM (pM (pM (pM τ 63 _) 64 _) 65 _) 66 _) 11 _) 67 _) j = _
    rw [gM_ne (by omega)]
    show gM (pM (pM (pM (pM τ 63 _) 64 _) 65 _) 66 _) j = _
    rw [gM_ne (by omega), gM_ne (by omega), gM_ne (by omega), gM_ne (by omega)]
  · unfold bpT
    rw [gI_ne (by omega)]
    show gI (pI (pM (pM (pM (pM τ 63 _) 64 _) 65 _) 66 _) 11 _) j = _
    rw [gI_ne (by omega)]
    rfl
def P0 (p : Nat) (a : Int) (c : Nat) : PS := (fun _ => 0, fun _ => (p, a, 0, c))
theorem bp_at {τ : QS} {p c : Nat} {a : Int} (ha : gM τ 51 4 = PZ a) (hc : gM τ 51 6 = nI c) : atP (bpT τ (nI p)) 0 (P0 p a c) := by
  refine ⟨fun k hk => absurd hk (Nat.not_lt_zero k), fun k hk => ?_⟩
  have : k = 0 := by omega
  subst this
  refine ⟨?_, ?_, ?_, ?_⟩
  · show upd (gM τ 63) 0 (nI p) 0 = nI p
    rw [upd_same]
  · show upd (gM τ 64) 0 (gM τ 51 4) 0 = PZ a
    rw [upd_same, ha]
  · show upd (gM τ 65) 0 0 0 = nI 0
    rw [upd_same]
    rfl
  · show upd (gM τ 66) 0 (gM τ 51 6) 0 = nI c
    rw [upd_same, hc]
theorem bp_67 (x : Int32) (τ : QS) : gM (bpT τ x) 67 0 = -1 := by
  show upd (gM τ 67) 0 (-1) 0 = -1
  rw [upd_same]
theorem bp_11 {x : Int32} {τ : QS} {s nc : Nat} (h0 : gI τ 0 = nI nc) (h1 : gM τ 51 1 = nI s) (hs : s ≤ nc) : gI (bpT τ x) 11 = nI (nc - s) := by
  show gI τ 0 - gM τ 51 1 = _
  rw [h0, h1, pk_sub hs]
theorem bp_12 (x : Int32) (τ : QS) : gI (bpT τ x) 12 = 0 := rfl
theorem ok_0 {pb ns p c : Nat} {a : Int} (hp : p ≤ pb) (h1 : -20 ≤ a) (h2 : a ≤ 20) (hc : c < 2 ^ ns) : okS pb ns 0 (P0 p a c) := by
  refine ⟨fun k hk => ?_, fun k hk => absurd hk (Nat.not_lt_zero k)⟩
  have : k = 0 := by omega
  subst this
  refine ⟨hp, ?_, ?_, Nat.zero_le _, hc⟩
  · show _ ≤ a; omega
  · show a ≤ _; omega
/-- what stays, in a loop of the reference over all plans -/
def jbP (σ τ0 : QS) (ns nc : Nat) (h : HH) (al : Nat → Bool) (s0 M : Nat) (τ : QS) : Prop := bsP σ τ ns nc h al s0 M ∧ rfT τ0 τ
theorem jb_sb {σ τ0 τ τ' : QS} {ns nc : Nat} {h : HH} {al : Nat → Bool} {s0 M : Nat} (j : jbP σ τ0 ns nc h al s0 M τ) (b : sbP τ τ') : jbP σ τ0 ns nc h al s0 M τ' := by
  obtain ⟨⟨b1, b2, b3, b4, b5, b6, b7⟩, r⟩ := j
  have r2 : rfT τ τ' := ⟨fun k hk => b.1 k (Or.inl hk), fun k hk => b.2.1 k, b.2.2⟩
  refine ⟨⟨r2.house b1, by rw [r2.hof]; exact b2, by rw [r2.al]; exact b3, by rw [r2.1 51 (by omega)]; exact b4, by rw [b.2.1 11]; exact b5, by rw [b.2.1 12]; exact b6, b7⟩, r.tr r2⟩
theorem jb_0 {σ τ : QS} {ns nc s : Nat} (hh : HouseOk σ τ ns nc) (h1 : gM τ 51 1 = nI s) (hs : s ≤ nc) (x : Int32) : jbP σ τ ns nc (hOf τ ns) (alR τ) s (nc - s) (pI (bpT τ x) 12 1) := by
  have r := bp_rf x τ
  have r2 : rfT τ (pI (bpT τ x) 12 1) := ⟨fun k hk => r.1 k hk, fun k hk => by rw [gI_ne (by omega)]; exact r.2.1 k hk, r.2.2⟩
  refine ⟨⟨r2.house hh, r2.hof ns, r2.al, by rw [r2.1 51 (by omega)]; exact h1, ?_, rfl, by omega⟩, r2⟩
  exact bp_11 (x := x) hh.2.2.2.2.2.2.1 h1 hs
