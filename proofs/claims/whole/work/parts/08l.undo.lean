/-! ===== undo, keep, on ===== -/
theorem begin_ok {σ : QS} {ns pr : Nat} (hns : ns ≤ 6) (hb : BegOk σ ns pr) : gI (fX0_begin_6 σ) 12 = nI 0 ∧ gM (fX0_begin_6 σ) 26 = gM σ 26 ∧ NightOk (fX0_begin_6 σ) ns (v0Of σ ns) ∧ (∀ k, (k < 12 ∨ 19 ≤ k) → gI (fX0_begin_6 σ) k = gI σ k) ∧ (∀ k, gJ (fX0_begin_6 σ) k = gJ σ k) ∧ ∀ k, k ≠ 25 → gM (fX0_begin_6 σ) k = gM σ k := by
  unfold fX0_begin_6
  simp only [lt_]
  refine ⟨rfl, rfl, ⟨rfl, ?_, rfl, rfl, rfl, rfl, fun i hi => ?_⟩, fun k hk => ?_, fun k => rfl, fun k hk => gM_ne hk⟩
  · rfl
  · show va_cpy (gM σ 22) (gM σ 25) (0 : Int32).toNatClampNeg (0 : Int32).toNatClampNeg (6 : Int32).toNatClampNeg i = _
    rw [show (0 : Int32).toNatClampNeg = 0 from rfl, show (6 : Int32).toNatClampNeg = 6 by decide, pk_cpy_in (by omega) (by omega)]
    unfold v0Of
    rw [if_neg (by omega), if_pos (by omega)]
    congr 1
    omega
  · rw [gI_ne (by omega), gI_ne (by omega), gI_ne (by omega), gI_ne (by omega), gI_ne (by omega), gI_ne (by omega), gI_ne (by omega)]; rfl
/-- m deeds D done anew from the beginning -/
def RepSt (σ σm : QS) (h : HH) (ns m : Nat) (v0 : NV) (D : Nat → Int32) : Prop :=
  gI σm 12 = nI m ∧ (∀ j, gM σm 26 j = if j < m then D j else gM σ 26 j) ∧ NightOk σm ns (repP h v0 D m) ∧ (∀ k, (k < 12 ∨ 19 ≤ k) → gI σm k = gI σ k) ∧ (∀ k, gJ σm k = gJ σ k) ∧ ∀ k, k ≠ 25 → k ≠ 26 → gM σm k = gM σ k
theorem rep_beg {σ : QS} {h : HH} {ns pr : Nat} (hns : ns ≤ 6) (hb : BegOk σ ns pr) (D : Nat → Int32) : RepSt σ (fX0_begin_6 σ) h ns 0 (v0Of σ ns) D := by
  obtain ⟨b1, b2, b3, b4, b5, b6⟩ := begin_ok hns hb
  exact ⟨b1, fun j => by rw [b2, if_neg (by omega)], b3, b4, b5, fun k h1 h2 => b6 k h1⟩
theorem rep_step {σ σm τ : QS} {ns nc pr m : Nat} {D : Nat → Int32} (hh : HouseOk σ τ ns nc) (hb : BegOk σ ns pr) (hr : RepSt σ σm (hOf τ ns) ns m (v0Of σ ns) D) (hm : m < 40) (hok : ∀ k, k ≤ m → okP (hOf τ ns) nc (repP (hOf τ ns) (v0Of σ ns) D k) (D k)) : ∃ σ', fX0_perform_6 (D m) σm = some σ' ∧ RepSt σ σ' (hOf τ ns) ns (m + 1) (v0Of σ ns) D := by
  obtain ⟨r1, r2, r3, r4, r5, r6⟩ := hr
  have hh' := hh.keep r4 r6
  have hvo := nv_rep (h := hOf τ ns) hh.1 hh.2.1 (nv_beg (nc := nc) hb) m (fun k hk => hok k (by omega))
  obtain ⟨σ', p1, p2⟩ := perform_ok hh' hvo r3 r1 hm (hok m (Nat.le_refl m))
  obtain ⟨q1, q2, q3, q4, q5, q6⟩ := p2
  refine ⟨σ', p1, q1, fun j => ?_, q3, fun k hk => (q4 k hk).trans (r4 k hk), fun k => (q5 k).trans (r5 k), fun k h1 h2 => (q6 k h1 h2).trans (r6 k h1 h2)⟩
  rw [q2]
  by_cases e : j = m
  · rw [e, upd_same, if_pos (by omega)]
  · rw [upd_ne e, r2 j]
    by_cases e2 : j < m
    · rw [if_pos e2, if_pos (by omega)]
    · rw [if_neg e2, if_neg (by omega)]
theorem hist_cong {τ : QS} {b : Nat} {h : HH} {nc : Nat} {v0 : NV} {D D' : Nat → Int32} {n : Nat} (hh : HistOk τ b h nc v0 D n) (hD : ∀ k, k < n → D k = D' k) : HistOk τ b h nc v0 D' n := by
  obtain ⟨a1, a2, a3, a4, a5⟩ := hh
  have e : ∀ k, k ≤ n → repP h v0 D' k = repP h v0 D k := fun k hk => repP_cong k (fun j hj => (hD j (by omega)).symm)
  refine ⟨a1, a2, fun j hj => by rw [e n (by omega)]; exact a3 j hj, fun k hk j hj => by rw [e k (by omega)]; exact a4 k hk j hj, fun k hk => ?_⟩
  rw [e k (by omega), ← hD k hk]
  exact a5 k hk
/-- the class stands at the first m deeds D; the reference's row likewise -/
theorem rep_inv {σ τ σm : QS} {f : Nat → Int32} (h : Inv σ τ) {ns nc pr m : Nat} (h2 : Inv2 σ τ ns nc pr) {D : Nat → Int32} (hr : RepSt σ σm (hOf τ ns) ns m (v0Of σ ns) D) (hh : HistOk (pM τ 51 f) 0 (hOf τ ns) nc (v0Of σ ns) D m) (hf : ∀ q, 493 ≤ q → f q = gM τ 51 q) : Inv σm (pM τ 51 f) := by
  obtain ⟨a1, a2, a3, a4, a5, a6, -⟩ := h
  obtain ⟨b1, b2, -, b4⟩ := h2
  obtain ⟨i12, m26, hN, hi, hj, hm⟩ := hr
  have ev : v0Of σm ns = v0Of σ ns := by unfold v0Of; rw [hi 7 (by omega), hm 22 (by omega) (by omega)]
  refine ⟨a1.keep (hm _ (by omega) (by omega)) (fun r _ => hm _ (by omega) (by omega)) rfl rfl, a2.keep (hm _ (by omega) (by omega)) (fun r _ => hm _ (by omega) (by omega)) rfl rfl, a3.keep (hi _ (by omega)) (hm _ (by omega) (by omega)) rfl rfl, ?_, ?_, a6.keep (fun m _ => hm _ (by omega) (by omega)), ns, nc, pr, b1.keep hi hm, ?_, ⟨m, i12, ?_, ?_⟩, ?_⟩
  · unfold ToldOk; rw [hi 1 (by omega)]; exact a4
  · unfold FracOk; rw [hj, hj]; exact a5
  · unfold BegOk
    rw [hi 7 (by omega), hm 22 (by omega) (by omega)]
    exact b2
  · rw [ev]
    exact hist_cong hh (fun k hk => by rw [m26, if_pos hk])
  · rw [ev]
    show NightOk σm ns (repP (hOf τ ns) (v0Of σ ns) (gM σm 26) m)
    rw [repP_cong (D' := D) m (fun k hk => by rw [m26, if_pos hk])]
    exact hN
  · intro k hk
    rw [hm 14 (by omega) (by omega), hm (40 + k) (by omega) (by omega), ev, gM_same]
    rcases b4 k hk with ⟨x1, x2⟩ | ⟨n', x1, x2⟩
    · refine Or.inl ⟨x1, ?_⟩
      rw [hf _ (by omega)]; exact x2
    · exact Or.inr ⟨n', x1, hist_far x2 (fun q h1 _ => hf q (by omega))⟩
def unR (row : Nat → Int32) (m : Nat) (k : Nat) : Nat → Int32 := fun q => if 1 ≤ q ∧ q < 1 + k then row (12 + 12 * m + q) else row q
theorem undo_same {σ τ : QS} (h : Inv σ τ) (x : Int32) : Same (fX4_undo_0 x σ) (fX5_undo_50 x τ) := by
  obtain ⟨ns, nc, pr, n, v, h2, hh, hn, h12, hv, hvo, hpr, hN, r0, rv⟩ := h.see
  have hb := h2.2.1
  obtain ⟨n', c1, c2, c3⟩ := h2.2.2.1
  have en : n' = n := by have := c2.1; rw [h12, nI_e (by omega) (by omega)] at c1; exact c1.symm
  subst en
  unfold fX4_undo_0 fX5_undo_50
  have ein : fX5_in x.toInt64 (0 : Int64) ((gM τ 51 0).toInt64) = if x < 0 then 0 else if nI n' < x then 0 else 1 := by
    rw [r0]
    exact in_int x 0 (nI n')
  simp only [lt_]
  rw [ein, h12, r0]
  by_cases c0 : x < 0
  · rw [if_pos c0, if_pos c0, if_pos rfl]
    exact Same.mk rfl rfl h
  · rw [if_neg c0, if_neg c0]
    by_cases cn : x ≤ nI n'
    · obtain ⟨m, hm, rfl⟩ := nI_of2 (M := nI n') (n := n') (nI_toInt (by omega)) c0 cn
      rw [if_pos cn, if_neg (show ¬ nI n' < nI m from by rw [nI_l2 (by omega) (by omega)]; omega), if_neg one_ne, pk_sub hm]
      have hok : ∀ k, k < n' → okP (hOf τ ns) nc (repP (hOf τ ns) (v0Of σ ns) (gM σ 26) k) (gM σ 26 k) := c2.2.2.2.2
      -- the class: m deeds anew
      have L : ∀ (m' : Nat), m' ≤ m → ∃ σm, RepSt σ σm (hOf τ ns) ns m' (v0Of σ ns) (gM σ 26) ∧ ∀ (B : (Int32 × QS → Option (Int32 × QS)) → Int32 × QS → Option (Int32 × QS)), (∀ r a, B r a = (if nI m ≤ a.1 then some (nI (n' - m), a.2) else if (40 : Int32) ≤ a.1 then some (nI (n' - m), a.2) else ck_ (inb a.1 40) (Option.bind (fX0_perform_6 (gM a.2 26 a.1.toNatClampNeg) a.2) (fun q6 => r (a.1 + 1, q6))))) → ∀ N, lp_ B (N + m') (nI 0, fX0_begin_6 σ) = lp_ B N (nI m', σm) := by
        intro m'
        induction m' with
        | zero =>
          intro _
          exact ⟨_, rep_beg hh.1 hb _, fun B hB N => rfl⟩
        | succ m' ih =>
          intro hm'
          obtain ⟨σm, q1, q2⟩ := ih (by omega)
          obtain ⟨σ', p1, p2⟩ := rep_step hh hb q1 (by omega) (fun k hk => hok k (by omega))
          refine ⟨σ', p2, fun B hB N => ?_⟩
          rw [show N + (m' + 1) = (N + 1) + m' by omega, q2 B hB (N + 1)]
          show B (lp_ B N) (nI m', σm) = _
          rw [hB]
          simp only []
          rw [if_neg (by rw [nI_L (by omega) (by omega)]; omega), if_neg (show ¬ (40 : Int32) ≤ nI m' from by show ¬ nI 40 ≤ nI m'; rw [nI_L (by omega) (by omega)]; omega), ck_t (inb_n (by omega) (by omega)), nI_c (by omega), q1.2.1 m', if_neg (by omega), p1, Option.bind_some, nI_1]
      obtain ⟨σm, q1, q2⟩ := L m (Nat.le_refl m)
      have hFV := FV_ge
      have Lc := q2 _ (fun r a => rfl) (FV - m)
      rw [show FV - m + m = FV by omega] at Lc
      obtain ⟨N, hN'⟩ : ∃ N, FV - m = N + 1 := ⟨FV - m - 1, by omega⟩
      have La : lp_ (fun (r4 : Int32 × QS → Option (Int32 × QS)) (a3 : Int32 × QS) => (if nI m ≤ a3.1 then some (nI (n' - m), a3.2) else if (40 : Int32) ≤ a3.1 then some (nI (n' - m), a3.2) else ck_ (inb a3.1 40) (Option.bind (fX0_perform_6 (gM a3.2 26 a3.1.toNatClampNeg) a3.2) (fun q6 => r4 (a3.1 + 1, q6))))) FV ((0 : Int32), fX0_begin_6 σ) = some (nI (n' - m), σm) := by
        refine Lc.trans ?_
        rw [hN']
        show (if nI m ≤ nI m then _ else _) = _
        rw [if_pos (by rw [nI_L (by omega) (by omega)]; omega)]
      rw [La]
      by_cases e : m = n'
      · subst e
        rw [Nat.sub_self]
        refine Same.mk (τ' := pM τ 51 (upd (gM τ 51) 0 (nI m))) rfl (for_fu (fun _ => (nI 0, τ)) 0 rfl (by omega) (fun r k hk => absurd hk (by omega)) (fun r => ?_)) (rep_inv h h2 q1 (hist_far c2 (fun q _ _ => ?_)) (fun q hq => upd_ne (by omega)))
        · simp only []
          rw [if_neg (by decide), if_pos (by decide)]
        · by_cases e0 : q = 0
          · rw [e0, upd_same, r0]
          · exact upd_ne e0
      · have hmn : m < n' := by omega
        refine Same.mk (τ' := pM τ 51 (upd (unR (gM τ 51) m 12) 0 (nI m))) rfl (for_fu (fun k => (nI k, pM τ 51 (unR (gM τ 51) m k))) 12 ?_ (by omega) ?_ (fun r => ?_)) (rep_inv h h2 q1 ⟨by omega, ?_, fun j hj => ?_, fun k hk j hj => ?_, fun k hk => hok k (by omega)⟩ (fun q hq => ?_))
        · have : unR (gM τ 51) m 0 = gM τ 51 := by
            funext q
            unfold unR
            rw [if_neg (by omega)]
          show _ = (nI 0, pM τ 51 (unR (gM τ 51) m 0))
          rw [this, pM_self]
          rfl
        · intro r k hk
          simp only []
          rw [if_neg (show ¬ (12 : Int32) ≤ nI k from by show ¬ nI 12 ≤ nI k; rw [nI_L (by omega) (by omega)]; omega), if_neg (show ¬ nI (n' - m) ≤ 0 from by show ¬ nI (n' - m) ≤ nI 0; rw [nI_L (by omega) (by omega)]; omega), idx13, idx1, ck_t (inb_n (by omega) (by omega)), ck_t (inb_n (by omega) (by omega)), nI_c (by omega), nI_c (by omega), gM_same, pM_pM, nI_1]
          have : upd (unR (gM τ 51) m k) (1 + k) (unR (gM τ 51) m k (13 + 12 * m + k)) = unR (gM τ 51) m (k + 1) := by
            funext q
            by_cases e1 : q = 1 + k
            · rw [e1, upd_same]
              unfold unR
              rw [if_neg (by omega), if_pos (by omega)]
              congr 1
              omega
            · rw [upd_ne e1]
              unfold unR
              by_cases e2 : 1 ≤ q ∧ q < 1 + k
              · rw [if_pos e2, if_pos (by omega)]
              · rw [if_neg e2, if_neg (by omega)]
          rw [this]
        · simp only []
          rw [if_pos (show (12 : Int32) ≤ nI 12 from by show nI 12 ≤ nI 12; rw [nI_L (by omega) (by omega)]; omega), gM_same, pM_pM]
        · rw [gM_same, upd_same]
        · rw [gM_same, upd_ne (by omega), ← c2.2.2.2.1 m hmn j hj]
          unfold unR
          rw [if_pos (by omega)]
          congr 1
          omega
        · rw [gM_same, upd_ne (by omega), ← c2.2.2.2.1 k (by omega) j hj]
          unfold unR
          rw [if_neg (by omega)]
        · rw [upd_ne (by omega)]
          unfold unR
          rw [if_neg (by omega)]
    · rw [if_neg cn, if_pos (show nI n' < x from by rw [fa_lt]; rw [fa_le] at cn; omega), if_pos rfl]
      exact Same.mk rfl rfl h
theorem idx493 (k : Nat) : (493 : Int32) * ((1 : Int32) + nI k) = nI (493 * (k + 1)) := by
  show nI 493 * (nI 1 + nI k) = _
  rw [nI_add, pk_mul]
  congr 1
  omega
theorem copyHouse_e {a b : Nat} (ha : a + 493 ≤ 1972) (hb : b + 493 ≤ 1972) (hd : a + 493 ≤ b ∨ b + 493 ≤ a) (τ : QS) : fX5_copyHouse_50 (nI a) (nI b) τ = some (pM τ 51 (cpR (gM τ 51) a b 493)) := by
  unfold fX5_copyHouse_50
  refine for_fu (fun k => (nI k, pM τ 51 (cpR (gM τ 51) a b k))) 493 ?_ (by omega) ?_ ?_
  · have : cpR (gM τ 51) a b 0 = gM τ 51 := by
      funext p
      unfold cpR
      rw [if_neg (by omega)]
    show _ = (nI 0, pM τ 51 (cpR (gM τ 51) a b 0))
    rw [this, pM_self]
    rfl
  · intro r k hk
    simp only [lt_]
    rw [if_neg (show ¬ (493 : Int32) ≤ nI k from by show ¬ nI 493 ≤ nI k; rw [nI_L (by omega) (by omega)]; omega), nI_add, nI_add, ck_t (inb_n (by omega) (by omega)), ck_t (inb_n (by omega) (by omega)), nI_c (by omega), nI_c (by omega), gM_same, pM_pM, nI_1]
    have : upd (cpR (gM τ 51) a b k) (b + k) (cpR (gM τ 51) a b k (a + k)) = cpR (gM τ 51) a b (k + 1) := by
      funext p
      by_cases e1 : p = b + k
      · rw [e1, upd_same]
        unfold cpR
        rw [if_neg (by omega), if_pos (by omega)]
        congr 1
        omega
      · rw [upd_ne e1]
        unfold cpR
        by_cases e2 : b ≤ p ∧ p < b + k
        · rw [if_pos e2, if_pos (by omega)]
        · rw [if_neg e2, if_neg (by omega)]
    rw [this]
  · intro r
    simp only []
    rw [if_pos (show (493 : Int32) ≤ nI 493 from by show nI 493 ≤ nI 493; rw [nI_L (by omega) (by omega)]; omega)]
theorem hist_copy {τ : QS} {a b : Nat} {h : HH} {nc : Nat} {v0 : NV} {D : Nat → Int32} {n : Nat} (hh : HistOk τ a h nc v0 D n) : HistOk (pM τ 51 (cpR (gM τ 51) a b 493)) b h nc v0 D n := by
  obtain ⟨a1, a2, a3, a4, a5⟩ := hh
  have g : ∀ q, q < 493 → cpR (gM τ 51) a b 493 (b + q) = gM τ 51 (a + q) := fun q hq => by
    unfold cpR
    rw [if_pos (by omega)]
    congr 1
    omega
  refine ⟨a1, ?_, fun j hj => ?_, fun k hk j hj => ?_, a5⟩
  · have g0 := g 0 (by omega)
    rw [Nat.add_zero, Nat.add_zero] at g0
    rw [gM_same, g0]; exact a2
  · rw [gM_same, show b + 1 + j = b + (1 + j) by omega, g _ (by omega), ← a3 j hj]
    congr 1
    omega
  · rw [gM_same, show b + 13 + 12 * k + j = b + (13 + 12 * k + j) by omega, g _ (by omega), ← a4 k hk j hj]
    congr 1
    omega
theorem in2_e (x : Int32) : fX5_in x.toInt64 (0 : Int64) (2 : Int64) = if x < 0 then 0 else if nI 3 ≤ x then 0 else 1 := by
  have e := in_int x 0 2
  have e2 : fX5_in x.toInt64 (0 : Int64) (2 : Int64) = if x < 0 then 0 else if 2 < x then 0 else 1 := e
  rw [e2]
  have : (2 : Int32) < x ↔ nI 3 ≤ x := by
    rw [fa_lt, fa_le]
    have h5 : (2 : Int32).toInt = 2 := by decide
    have h6 : (nI 3).toInt = 3 := by decide
    omega
  simp only [this]
theorem keep_same {σ τ : QS} (h : Inv σ τ) (x : Int32) : Same (fX4_keep_0 x σ) (fX5_keep_50 x τ) := by
  obtain ⟨ns, nc, pr, n, v, h2, hh, hn, h12, hv, hvo, hpr, hN, r0, rv⟩ := h.see
  obtain ⟨n', c1, c2, c3⟩ := h2.2.2.1
  have en : n' = n := by have := c2.1; rw [h12, nI_e (by omega) (by omega)] at c1; exact c1.symm
  subst en
  have hns := hh.1
  unfold fX4_keep_0 fX5_keep_50
  rw [in2_e, hh.2.2.2.1, hh.2.2.2.2.1]
  rcases pk_ix x (n := 3) (by omega) with hx | hx | ⟨k, hk, rfl⟩
  · rw [isPlace3_bad (Or.inl hx), if_pos rfl, if_pos hx, if_pos rfl]
    exact Same.mk rfl rfl h
  · have c0 : ¬ x < 0 := by
      rw [fa_lt]
      rw [fa_le, nI_toInt (by omega)] at hx
      have : (0 : Int32).toInt = 0 := by decide
      omega
    rw [isPlace3_bad (Or.inr hx), if_pos rfl, if_neg c0, if_pos hx, if_pos rfl]
    exact Same.mk rfl rfl h
  · rw [isPlace3_good hk, if_neg one_ne, if_neg (nneg (by omega)), if_neg (show ¬ nI 3 ≤ nI k from by rw [nI_L (by omega) (by omega)]; omega), if_neg one_ne]
    by_cases e : ns = 0
    · rw [if_pos ((nI0_e (by omega)).mpr e), if_pos ((nI0_e (by omega)).mpr e)]
      exact Same.mk rfl rfl h
    · rw [if_neg (by rw [nI0_e (by omega)]; exact e), if_neg (by rw [nI0_e (by omega)]; exact e), h12, make3_e hk hn, Option.bind_some, idx493, show fX5_copyHouse_50 0 (nI (493 * (k + 1))) τ = _ from copyHouse_e (a := 0) (b := 493 * (k + 1)) (by omega) (by omega) (by omega) τ, Option.bind_some, gM_same]
      have s14 : ∀ f, gM (pM (pM σ 14 (upd (gM σ 14) k (nI n'))) (40 + k) f) 14 = upd (gM σ 14) k (nI n') := fun f => by rw [gM_ne (by omega), gM_same]
      let F : Nat → Nat → Int32 := fun i q => if q < i then gM σ 26 q else if q < 40 then 0 else gM σ (40 + k) q
      have L : lp_ (fun (r3 : Int32 × QS → Option (Int32 × QS)) (a2 : Int32 × QS) => (if (gI a2.2 12) ≤ a2.1 then some ((gI a2.2 12), a2.2) else ck_ (inb a2.1 40) (Option.bind (fX3_set_3 (nI k) a2.1 (gM a2.2 26 a2.1.toNatClampNeg) a2.2) (fun (q5 : QS) => r3 ((a2.1 + (1 : Int32)), q5))))) FV ((0 : Int32), pM (pM σ 14 (upd (gM σ 14) k (nI n'))) (40 + k) (fun q => if q < 40 then 0 else gM σ (40 + k) q)) = some (nI n', pM (pM σ 14 (upd (gM σ 14) k (nI n'))) (40 + k) (F n')) := by
        refine for_fu (fun i => (nI i, pM (pM σ 14 (upd (gM σ 14) k (nI n'))) (40 + k) (F i))) n' ?_ (by omega) ?_ ?_
        · show _ = (nI 0, pM (pM σ 14 (upd (gM σ 14) k (nI n'))) (40 + k) (F 0))
          have : F 0 = fun q => if q < 40 then 0 else gM σ (40 + k) q := by
            funext q
            show (if q < 0 then _ else _) = _
            rw [if_neg (by omega)]
          rw [this]
          rfl
        · intro r i hi
          simp only []
          have g12 : gI (pM (pM σ 14 (upd (gM σ 14) k (nI n'))) (40 + k) (F i)) 12 = nI n' := h12
          rw [g12, if_neg (by rw [nI_L (by omega) (by omega)]; omega), ck_t (inb_n (by omega) (by omega)), nI_c (by omega), set3_in (n := n') hk (by rw [s14, upd_same]) hn hi, Option.bind_some, gM_same, pM_pM, nI_1, gM_ne (show 26 ≠ 40 + k by omega), gM_ne (show 26 ≠ 14 by omega)]
          have : upd (F i) i (gM σ 26 i) = F (i + 1) := by
            funext q
            by_cases e1 : q = i
            · rw [e1, upd_same]
              show _ = (if i < i + 1 then _ else _)
              rw [if_pos (by omega)]
            · rw [upd_ne e1]
              show (if q < i then _ else _) = (if q < i + 1 then _ else _)
              by_cases e2 : q < i
              · rw [if_pos e2, if_pos (by omega)]
              · rw [if_neg e2, if_neg (show ¬ q < i + 1 by omega)]
          rw [this]
        · intro r
          simp only []
          have g12 : gI (pM (pM σ 14 (upd (gM σ 14) k (nI n'))) (40 + k) (F n')) 12 = nI n' := h12
          rw [g12, if_pos (by rw [nI_L (by omega) (by omega)]; omega)]
      rw [L]
      have g0 : cpR (gM τ 51) 0 (493 * (k + 1)) 493 0 = nI n' := by
        unfold cpR
        rw [if_neg (by omega)]; exact r0
      rw [g0]
      refine Same.mk rfl rfl ?_
      obtain ⟨a1, a2, a3, a4, a5, a6, -⟩ := h
      obtain ⟨b1, b2, b3, b4⟩ := h2
      have hm : ∀ m, m ≠ 14 → m ≠ 40 + k → gM (pM (pM σ 14 (upd (gM σ 14) k (nI n'))) (40 + k) (F n')) m = gM σ m := fun m h1 h2 => by rw [gM_ne h2, gM_ne h1]
      refine ⟨a1.keep (hm _ (by omega) (by omega)) (fun r _ => hm _ (by omega) (by omega)) rfl rfl, a2.keep (hm _ (by omega) (by omega)) (fun r _ => hm _ (by omega) (by omega)) rfl rfl, a3.keep rfl (hm _ (by omega) (by omega)) rfl rfl, a4, a5, a6.keep (fun m _ => hm _ (by omega) (by omega)), ns, nc, pr, ?_, ?_, ⟨n', h12, ?_, ?_⟩, ?_⟩
      · unfold HouseOk
        rw [hm 20 (by omega) (by omega), hm 21 (by omega) (by omega), hm 23 (by omega) (by omega), hm 24 (by omega) (by omega)]
        exact b1
      · unfold BegOk
        rw [hm 22 (by omega) (by omega)]
        exact b2
      · have ev : v0Of (pM (pM σ 14 (upd (gM σ 14) k (nI n'))) (40 + k) (F n')) ns = v0Of σ ns := by unfold v0Of; rw [hm 22 (by omega) (by omega)]; rfl
        rw [ev, hm 26 (by omega) (by omega)]
        exact hist_far c2 (fun q _ hq => by unfold cpR; rw [if_neg (by omega)])
      · have ev : v0Of (pM (pM σ 14 (upd (gM σ 14) k (nI n'))) (40 + k) (F n')) ns = v0Of σ ns := by unfold v0Of; rw [hm 22 (by omega) (by omega)]; rfl
        rw [ev, hm 26 (by omega) (by omega)]
        unfold NightOk
        rw [hm 25 (by omega) (by omega)]
        exact c3
      · have ev : v0Of (pM (pM σ 14 (upd (gM σ 14) k (nI n'))) (40 + k) (F n')) ns = v0Of σ ns := by unfold v0Of; rw [hm 22 (by omega) (by omega)]; rfl
        intro j hj
        rw [s14, ev, gM_same]
        by_cases ej : j = k
        · subst ej
          rw [upd_same, gM_same]
          refine Or.inr ⟨n', rfl, hist_cong (hist_copy c2) (fun q hq => ?_)⟩
          show _ = (if q < n' then _ else _)
          rw [if_pos hq]
        · rw [upd_ne ej, gM_ne (show 40 + j ≠ 40 + k by omega), gM_ne (show 40 + j ≠ 14 by omega)]
          rcases b4 j hj with ⟨x1, x2⟩ | ⟨n2, x1, x2⟩
          · refine Or.inl ⟨x1, ?_⟩
            unfold cpR
            rw [if_neg (by omega)]; exact x2
          · exact Or.inr ⟨n2, x1, hist_far x2 (fun q h1 h2 => by unfold cpR; rw [if_neg (by omega)])⟩
theorem on_same {σ τ : QS} (h : Inv σ τ) (x : Int32) : Same (fX4_on_0 x σ) (fX5_on_50 x τ) := by
  obtain ⟨ns, nc, pr, n, v, h2, hh, hn, h12, hv, hvo, hpr, hN, r0, rv⟩ := h.see
  have hb := h2.2.1
  have hns := hh.1
  unfold fX4_on_0 fX5_on_50
  rw [in2_e]
  rcases pk_ix x (n := 3) (by omega) with hx | hx | ⟨k, hk, rfl⟩
  · rw [rop3_bad (Or.inl hx), Option.bind_some, if_neg (by exact m1_ne), if_pos hx, if_pos rfl]
    exact Same.mk rfl rfl h
  · have c0 : ¬ x < 0 := by
      rw [fa_lt]
      rw [fa_le, nI_toInt (by omega)] at hx
      have : (0 : Int32).toInt = 0 := by decide
      omega
    rw [rop3_bad (Or.inr hx), Option.bind_some, if_neg (by exact m1_ne), if_neg c0, if_pos hx, if_pos rfl]
    exact Same.mk rfl rfl h
  · rw [if_neg (nneg (by omega)), if_neg (show ¬ nI 3 ≤ nI k from by rw [nI_L (by omega) (by omega)]; omega), if_neg one_ne, idx493, Int32.add_zero, ck_t (inb_n (by omega) (by omega)), nI_c (by omega)]
    rcases h2.2.2.2 k hk with ⟨x1, x2⟩ | ⟨m, x1, x2⟩
    · obtain ⟨σ', τ', q1, q2, q3⟩ := refuse_ok h (x := 1) (f := 1) rfl (by omega) (by omega)
      rw [rop3_no hk x1, q1, q2, x2, if_neg (show ¬ (0 : Int32) ≤ -1 by decide)]
      simp only [Option.bind_some]
      rw [if_neg (by exact m3_ne)]
      exact Same.mk rfl rfl q3
    · have hm40 : m ≤ 40 := x2.1
      rw [rop3_yes hk x1 hm40, Option.bind_some, if_pos rfl, x2.2.1, if_pos (nI_pos' (by omega)), show fX5_copyHouse_50 (nI (493 * (k + 1))) 0 τ = _ from copyHouse_e (a := 493 * (k + 1)) (b := 0) (by omega) (by omega) (by omega) τ, Option.bind_some, gM_same]
      have g0 : cpR (gM τ 51) (493 * (k + 1)) 0 493 0 = nI m := by
        unfold cpR
        rw [if_pos (by omega), ← x2.2.1]
        congr 1
      rw [g0]
      have hok := x2.2.2.2.2
      have L : ∀ (m' : Nat), m' ≤ m → ∃ σm, RepSt σ σm (hOf τ ns) ns m' (v0Of σ ns) (gM σ (40 + k)) ∧ ∀ (B : (Int32 × QS → Option (Int32 × QS)) → Int32 × QS → Option (Int32 × QS)), (∀ r a, B r a = Option.bind (fX3_size_3 (nI k) a.2) (fun q5 => (if q5 ≤ a.1 then some ((gI a.2 12), a.2) else Option.bind (fX3_get_3 (nI k) a.1 a.2) (fun q6 => Option.bind (fX0_perform_6 q6 a.2) (fun q7 => r (a.1 + 1, q7)))))) → ∀ N, lp_ B (N + m') (nI 0, fX0_begin_6 σ) = lp_ B N (nI m', σm) := by
        intro m'
        induction m' with
        | zero =>
          intro _
          exact ⟨_, rep_beg hh.1 hb _, fun B hB N => rfl⟩
        | succ m' ih =>
          intro hm'
          obtain ⟨σm, q1, q2⟩ := ih (by omega)
          obtain ⟨σ', p1, p2⟩ := rep_step hh hb q1 (by omega) (fun k hk => hok k (by omega))
          refine ⟨σ', p2, fun B hB N => ?_⟩
          rw [show N + (m' + 1) = (N + 1) + m' by omega, q2 B hB (N + 1)]
          show B (lp_ B N) (nI m', σm) = _
          rw [hB]
          simp only []
          have e14 : gM σm 14 k = nI m := by rw [q1.2.2.2.2.2 14 (by omega) (by omega)]; exact x1
          rw [size3_e hk, e14, Option.bind_some, if_neg (by rw [nI_L (by omega) (by omega)]; omega), get3_in hk e14 hm40 (by omega), Option.bind_some, q1.2.2.2.2.2 (40 + k) (by omega) (by omega), p1, Option.bind_some, nI_1]
      obtain ⟨σm, q1, q2⟩ := L m (Nat.le_refl m)
      have hFV := FV_ge
      have Lc := q2 _ (fun r a => rfl) (FV - m)
      rw [show FV - m + m = FV by omega] at Lc
      obtain ⟨N, hN'⟩ : ∃ N, FV - m = N + 1 := ⟨FV - m - 1, by omega⟩
      have La : lp_ (fun (r4 : Int32 × QS → Option (Int32 × QS)) (a3 : Int32 × QS) => Option.bind (fX3_size_3 (nI k) a3.2) (fun (q5 : Int32) => (if q5 ≤ a3.1 then some ((gI a3.2 12), a3.2) else Option.bind (fX3_get_3 (nI k) a3.1 a3.2) (fun (q6 : Int32) => Option.bind (fX0_perform_6 q6 a3.2) (fun (q7 : QS) => r4 ((a3.1 + (1 : Int32)), q7)))))) FV ((0 : Int32), fX0_begin_6 σ) = some (nI m, σm) := by
        refine Lc.trans ?_
        rw [hN']
        show Option.bind (fX3_size_3 (nI k) σm) _ = _
        have e14 : gM σm 14 k = nI m := by rw [q1.2.2.2.2.2 14 (by omega) (by omega)]; exact x1
        rw [size3_e hk, e14, Option.bind_some]
        simp only []
        rw [if_pos (by rw [nI_L (by omega) (by omega)]; omega), q1.1]
      simp only [lt_]
      rw [La]
      refine Same.mk rfl rfl (rep_inv h h2 q1 (hist_copy x2) (fun q hq => ?_))
      unfold cpR
      rw [if_neg (by omega)]
