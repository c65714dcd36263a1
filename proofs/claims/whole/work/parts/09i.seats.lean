/-! ===== whom to change seats ===== -/
theorem for_inn {α γ β : Type} {B : (γ → Option β) → (α → Option β) → α → Option β} (Q : Nat → α → Prop) (N : Nat) (Z : γ → Prop) {a : α} (hN : N < 1000000) (h0 : Q 0 a) (hs : ∀ k a, k < N → Q k a → ∃ a', Q (k + 1) a' ∧ ∀ (ro : γ → Option β) (r : α → Option β), B ro r a = r a') (hx : ∀ a, Q N a → ∃ b, Z b ∧ ∀ (ro : γ → Option β) (r : α → Option β), B ro r a = ro b) : ∃ b, Z b ∧ ∀ ro : γ → Option β, lp_ (B ro) FV a = ro b := by
  have key : ∀ (m k : Nat) (a : α), k + m = N → Q k a → ∃ b, Z b ∧ ∀ (ro : γ → Option β) (n : Nat), m < n → lp_ (B ro) n a = ro b := by
    intro m
    induction m with
    | zero =>
      intro k a hk hq
      have : k = N := by omega
      subst this
      obtain ⟨b, z, e⟩ := hx a hq
      refine ⟨b, z, fun ro n hn => ?_⟩
      obtain ⟨n', rfl⟩ : ∃ n', n = n' + 1 := ⟨n - 1, by omega⟩
      exact e ro _
    | succ m ih =>
      intro k a hk hq
      obtain ⟨a', q', e⟩ := hs k a (by omega) hq
      obtain ⟨b, z, f⟩ := ih (k + 1) a' (by omega) q'
      refine ⟨b, z, fun ro n hn => ?_⟩
      obtain ⟨n', rfl⟩ : ∃ n', n = n' + 1 := ⟨n - 1, by omega⟩
      show B ro (lp_ (B ro) n') a = _
      rw [e]
      exact f ro n' (by omega)
  obtain ⟨b, z, e⟩ := key N 0 a (by omega) h0
  exact ⟨b, z, fun ro => e ro FV (Nat.lt_of_lt_of_le hN FV_ge)⟩
def swF (f : Nat → Int32) (i j : Nat) : Nat → Int32 := upd (upd f i (f j)) j (f i)
theorem swF_tw (f : Nat → Int32) {i j : Nat} (h : i ≠ j) : swF (swF f i j) i j = f := by
  funext k
  unfold swF
  by_cases e1 : k = j
  · subst e1; rw [upd_same, upd_ne h, upd_same]
  · rw [upd_ne e1]
    by_cases e2 : k = i
    · subst e2; rw [upd_same, upd_same]
    · rw [upd_ne e2, upd_ne e1, upd_ne e2]
theorem exch_e {σ τ : QS} {ns nc : Nat} (hh : HouseOk σ τ ns nc) {i j : Nat} (hi : i < ns) (hj : j < ns) : fX0_exchange_6 (nI i) (nI j) σ = some (pM σ 25 (swF (gM σ 25) i j)) := by
  have hns := hh.1
  unfold fX0_exchange_6
  simp only [lt_q]
  rw [sitC_e hh, sitC_e hh, inr_good hi (by omega), inr_good hj (by omega), if_neg one_ne, if_neg one_ne, ck_t (inb_n (by omega) (by omega)), ck_t (inb_n (by omega) (by omega)), ck_t (inb_n (by omega) (by omega)), ck_t (inb_n (by omega) (by omega)), nI_c (by omega), nI_c (by omega), pM_pM]
  rfl
theorem swp_r {τ : QS} {i j : Nat} (hi : i < 6) (hj : j < 6) : fX5_swapSeats_50 (nI i) (nI j) τ = some (pM τ 51 (swF (gM τ 51) (7 + i) (7 + j))) := by
  unfold fX5_swapSeats_50
  simp only [lt_q]
  rw [idx7, idx7, ck_t (inb_n (by omega) (by omega)), ck_t (inb_n (by omega) (by omega)), ck_t (inb_n (by omega) (by omega)), ck_t (inb_n (by omega) (by omega)), nI_c (by omega), nI_c (by omega), pM_pM]
  rfl
theorem allIf_e {σ τ : QS} {ns nc : Nat} (hh : HouseOk σ τ ns nc) {i j : Nat} (hi : i < ns) (hj : j < ns) (hij : i ≠ j) : fX0_allowedIfChanged_6 (nI i) (nI j) σ = some (nI (alS (gM τ 53) (swF (gM σ 25) i j) ns), σ) := by
  unfold fX0_allowedIfChanged_6
  have hh1 : HouseOk (pM σ 25 (swF (gM σ 25) i j)) τ ns nc := hh
  rw [exch_e hh hi hj, Option.bind_some, alC_e hh1, Option.bind_some, exch_e hh1 hi hj, Option.bind_some, gM_same, swF_tw _ hij, pM_pM, pM_self]
noncomputable def alW (τ : QS) (i j : Nat) : Nat → Bool := alR (pM τ 51 (swF (gM τ 51) (7 + i) (7 + j)))
theorem alW_b {σ τ : QS} {ns i j : Nat} (hi : i < ns) (hj : j < ns) (hs : ∀ k, k < ns → gM σ 25 k = gM τ 51 (7 + k)) : alB (alS (gM τ 53) (swF (gM σ 25) i j) ns) ns (alW τ i j) := by
  refine al_al (fun k hk => ?_)
  show sitP (gM τ 53 k) (swF (gM σ 25) i j k) = sitP (gM τ 53 k) (swF (gM τ 51) (7 + i) (7 + j) (7 + k))
  congr 1
  unfold swF
  by_cases e1 : k = j
  · subst e1; rw [upd_same, upd_same]; exact hs i hi
  · rw [upd_ne e1, upd_ne (show 7 + k ≠ 7 + j by omega)]
    by_cases e2 : k = i
    · subst e2; rw [upd_same, upd_same]; exact hs j hj
    · rw [upd_ne e2, upd_ne (show 7 + k ≠ 7 + i by omega)]; exact hs k hk
/-- the most, with two changed -/
noncomputable def vW (τ : QS) (ns nc s p : Nat) (a : Int) (c i j : Nat) : Nat := mxN (hOf τ ns) (alW τ i j) lvR (nc - s) s (p, a, 0, c)
noncomputable def v0W (τ : QS) (ns nc s p : Nat) (a : Int) (c : Nat) : Nat := mxN (hOf τ ns) (alR τ) lvR (nc - s) s (p, a, 0, c)
def spW (V : Nat → Nat → Nat) (i j : Nat) (y : Nat × Int32) : Nat × Int32 := if V i j ≤ y.1 then y else (V i j, nI (10 * i + j))
theorem mostS_e {σ τ τ1 : QS} {ns nc s p c : Nat} {a : Int} (hn : nowP σ τ ns nc s p a c) (hr : rfT τ τ1) {i j : Nat} (hi : i < ns) (hj : j < ns) (hij : i ≠ j) : ∃ τ', Option.bind (fX5_swapSeats_50 (nI i) (nI j) τ1) (fun (q10 : QS) => Option.bind (fX5_mostCarried_50 q10) (fun (q11 : Int32 × QS) => Option.bind (fX5_swapSeats_50 (nI i) (nI j) q11.2) (fun (q12 : QS) => some (q11.1, q12)))) = some (nI (vW τ ns nc s p a c i j), τ') ∧ rfT τ τ' := by
  obtain ⟨hh, hs, hp, ⟨a1, a2⟩, hc, ⟨-, e1⟩, ⟨-, e2⟩, ⟨-, e4⟩, ⟨-, e6⟩, -⟩ := hn
  have hns := hh.1
  have e51 := hr.1 51 (by omega)
  have hh1 : HouseOk σ (pM τ1 51 (swF (gM τ1 51) (7 + i) (7 + j))) ns nc := hr.house hh
  have low : ∀ k, k < 7 → gM (pM τ1 51 (swF (gM τ1 51) (7 + i) (7 + j))) 51 k = gM τ 51 k := fun k hk => by
    rw [gM_same]
    unfold swF
    rw [upd_ne (by omega), upd_ne (by omega), e51]
  obtain ⟨τ2, g1, g2⟩ := mostR_e hh1 hs hp a1 a2 hc (by rw [low 1 (by omega)]; exact e1) (by rw [low 2 (by omega)]; exact e2) (by rw [low 4 (by omega)]; exact e4) (by rw [low 6 (by omega)]; exact e6)
  have eh : hOf (pM τ1 51 (swF (gM τ1 51) (7 + i) (7 + j))) ns = hOf τ ns := hr.hof ns
  have ea : alR (pM τ1 51 (swF (gM τ1 51) (7 + i) (7 + j))) = alW τ i j := by
    unfold alW
    rw [e51]
    unfold alR
    have : gM τ1 53 = gM τ 53 := hr.1 53 (by omega)
    funext k
    show sitP (gM τ1 53 k) _ = sitP (gM τ 53 k) _
    rw [this, gM_same, gM_same]
  rw [eh, ea] at g1
  refine ⟨pM τ2 51 (gM τ 51), ?_, ?_⟩
  · rw [swp_r (by omega) (by omega), Option.bind_some, g1, Option.bind_some, swp_r (by omega) (by omega), Option.bind_some, g2.1 51 (by omega), gM_same, swF_tw _ (by omega), e51]
    rfl
  · refine ⟨fun k hk => ?_, fun k hk => (g2.2.1 k hk).trans (hr.2.1 k hk), fun k => (g2.2.2 k).trans (hr.2.2 k)⟩
    by_cases e : k = 51
    · subst e; rw [gM_same]
    · rw [gM_ne e, g2.1 k hk, gM_ne e, hr.1 k hk]
noncomputable def scI (q1 : Int32) (a3 : Int32 × Int32 × Int32 × QS) (r4 : Int32 × Int32 × Int32 × QS → Option (Int32 × QS)) : (Int32 × Int32 × Int32 × QS → Option (Int32 × QS)) → Int32 × Int32 × Int32 × QS → Option (Int32 × QS) := (fun (r8 : Int32 × Int32 × Int32 × QS → Option (Int32 × QS)) (a7 : Int32 × Int32 × Int32 × QS) => (if (gI a7.2.2.2 9) ≤ a7.2.2.1 then r4 (a7.1, a7.2.1, (a3.2.2.1 + (1 : Int32)), a7.2.2.2) else Option.bind (fX0_allowedIfChanged_6 a3.2.2.1 a7.2.2.1 a7.2.2.2) (fun (q9 : Int32 × QS) => lt_ (fun (v11 : Int32) (S12 : QS) => (if v11 ≤ a7.1 then r8 (a7.1, a7.2.1, (a7.2.2.1 + (1 : Int32)), S12) else lt_ (((10 : Int32) * a3.2.2.1) + a7.2.2.1) (fun (v13 : Int32) => r8 (v11, v13, (a7.2.2.1 + (1 : Int32)), S12)))) (fun (j10 : Int32 → QS → Option (Int32 × QS)) => (if (q9.1 &&& (q1 ^^^ (-1 : Int32))) = 0 then j10 (0 : Int32) q9.2 else Option.bind (fX2_findMost_7 q9.1 a7.1 q9.2) (fun (q14 : Int32 × QS) => j10 q14.1 q14.2))))))
noncomputable def scB (q1 : Int32) : (Int32 × Int32 × Int32 × QS → Option (Int32 × QS)) → Int32 × Int32 × Int32 × QS → Option (Int32 × QS) := (fun (r4 : Int32 × Int32 × Int32 × QS → Option (Int32 × QS)) (a3 : Int32 × Int32 × Int32 × QS) => (if (gI a3.2.2.2 9) ≤ a3.2.2.1 then (if a3.2.1 = (-9 : Int32) then some (a3.2.1, a3.2.2.2) else lt_ (fX4_tell_0 a3.1 a3.2.2.2) (fun (q5 : Int32 × QS) => some (a3.2.1, q5.2))) else lt_ (a3.2.2.1 + (1 : Int32)) (fun (v6 : Int32) => lp_ (scI q1 a3 r4) FV (a3.1, a3.2.1, v6, a3.2.2.2))))
noncomputable def srI (a2 : Int32 × Int32 × Int32 × QS) (r3 : Int32 × Int32 × Int32 × QS → Option (Int32 × QS)) : (Int32 × Int32 × Int32 × QS → Option (Int32 × QS)) → Int32 × Int32 × Int32 × QS → Option (Int32 × QS) := (fun (r9 : Int32 × Int32 × Int32 × QS → Option (Int32 × QS)) (a8 : Int32 × Int32 × Int32 × QS) => (if (gI a8.2.2.2 1) ≤ a8.2.2.1 then r3 (a8.1, a8.2.1, (a2.2.2.1 + (1 : Int32)), a8.2.2.2) else Option.bind (fX5_swapSeats_50 a2.2.2.1 a8.2.2.1 a8.2.2.2) (fun (q10 : QS) => Option.bind (fX5_mostCarried_50 q10) (fun (q11 : Int32 × QS) => Option.bind (fX5_swapSeats_50 a2.2.2.1 a8.2.2.1 q11.2) (fun (q12 : QS) => lt_ (fun (v14 : Int32) => (if q11.1 ≤ a8.1 then r9 (a8.1, v14, (a8.2.2.1 + (1 : Int32)), q12) else r9 (q11.1, v14, (a8.2.2.1 + (1 : Int32)), q12))) (fun (j13 : Int32 → Option (Int32 × QS)) => (if q11.1 ≤ a8.1 then j13 a8.2.1 else j13 (((10 : Int32) * a2.2.2.1) + a8.2.2.1))))))))
noncomputable def srB : (Int32 × Int32 × Int32 × QS → Option (Int32 × QS)) → Int32 × Int32 × Int32 × QS → Option (Int32 × QS) := (fun (r3 : Int32 × Int32 × Int32 × QS → Option (Int32 × QS)) (a2 : Int32 × Int32 × Int32 × QS) => (if (gI a2.2.2.2 1) ≤ a2.2.2.1 then lt_ (fun (v5 : Int32) => lt_ (pI a2.2.2.2 2 v5) (fun (S6 : QS) => some (a2.2.1, S6))) (fun (j4 : Int32 → Option (Int32 × QS)) => (if a2.2.1 = (-9 : Int32) then j4 (gI a2.2.2.2 2) else j4 a2.1)) else lt_ (a2.2.2.1 + (1 : Int32)) (fun (v7 : Int32) => lp_ (srI a2 r3) FV (a2.1, a2.2.1, v7, a2.2.2.2))))
theorem spW_le {V : Nat → Nat → Nat} {v0 : Nat} (h0 : v0 ≤ 6) (hV : ∀ i j, V i j ≤ 6) {i j : Nat} {y : Nat × Int32} (h : v0 ≤ y.1 ∧ y.1 ≤ 6) : v0 ≤ (spW V i j y).1 ∧ (spW V i j y).1 ≤ 6 := by
  unfold spW
  have := hV i j
  by_cases q : V i j ≤ y.1
  · rw [if_pos q]; exact h
  · rw [if_neg q]
    show v0 ≤ V i j ∧ V i j ≤ 6
    omega
theorem vW_le {τ : QS} {ns nc s p c i j : Nat} {a : Int} (hnc : nc ≤ 6) : vW τ ns nc s p a c i j ≤ 6 := by
  have := mxR_m (h := hOf τ ns) (al := alW τ i j) (nc - s) s (p, a, 0, c)
  have : mxN (hOf τ ns) (alW τ i j) lvR (nc - s) s (p, a, 0, c) ≤ 0 + (nc - s) := this
  unfold vW
  omega
theorem scI_step {σ σ1 τ : QS} {ns nc s p c A : Nat} {a : Int} (hn : nowP σ τ ns nc s p a c) (hA : alB A ns (alR τ)) (hr : srC σ σ1) {i j mo : Nat} {pr : Int32} (hi : i < ns) (hj : j < ns) (hij : i ≠ j) (hm : mo ≤ 6) (h0 : v0W τ ns nc s p a c ≤ mo) {x y : Int32} {σ2 : QS} : ∃ σ3, srC σ σ3 ∧ ∀ ro r, scI (nI A) (x, y, nI i, σ2) ro r (nI mo, pr, nI j, σ1) = r (nI (spW (vW τ ns nc s p a c) i j (mo, pr)).1, (spW (vW τ ns nc s p a c) i j (mo, pr)).2, nI (j + 1), σ3) := by
  obtain ⟨hh, hs, hp, ⟨a1, a2⟩, hc, ⟨e13, e1⟩, ⟨e15, e2⟩, ⟨e17, e4⟩, ⟨e14, e6⟩, es⟩ := hn
  have hns := hh.1
  have hnc := hh.2.1
  have hh1 := hr.house hh
  have e25 := hr.2.1 25 (by omega) (by omega)
  have hW := alW_b (σ := σ) (τ := τ) hi hj es
  have vl := vW_le (τ := τ) (ns := ns) (nc := nc) (s := s) (p := p) (c := c) (i := i) (j := j) (a := a) hnc
  have hn1 : nowP σ1 τ ns nc s p a c := ⟨hh1, hs, hp, ⟨a1, a2⟩, hc, ⟨(hr.1 13 (by omega)).trans e13, e1⟩, ⟨(hr.1 15 (by omega)).trans e15, e2⟩, ⟨(hr.1 17 (by omega)).trans e17, e4⟩, ⟨(hr.1 14 (by omega)).trans e14, e6⟩, fun k hk => by rw [e25]; exact es k hk⟩
  have e9 : gI σ1 9 = nI ns := hh1.2.2.2.1
  have m10 : (10 : Int32) * nI i + nI j = nI (10 * i + j) := by show nI 10 * nI i + nI j = _; rw [pk_mul, nI_add]
  have start : ∀ ro r, scI (nI A) (x, y, nI i, σ2) ro r (nI mo, pr, nI j, σ1) = (if nI (dif (alS (gM τ 53) (swF (gM σ 25) i j) ns) A) = 0 then (if (0 : Int32) ≤ nI mo then r (nI mo, pr, nI (j + 1), σ1) else r ((0 : Int32), nI (10 * i + j), nI (j + 1), σ1)) else Option.bind (fX2_findMost_7 (nI (alS (gM τ 53) (swF (gM σ 25) i j) ns)) (nI mo) σ1) (fun (q14 : Int32 × QS) => (if q14.1 ≤ nI mo then r (nI mo, pr, nI (j + 1), q14.2) else r (q14.1, nI (10 * i + j), nI (j + 1), q14.2)))) := fun ro r => by
    unfold scI
    simp only [lt_q]
    rw [e9, if_neg (by rw [nI_L (by omega) (by omega)]; omega), allIf_e hh1 hi hj hij, Option.bind_some, e25, dif_e, m10, nI_1]
  by_cases z : dif (alS (gM τ 53) (swF (gM σ 25) i j) ns) A = 0
  · refine ⟨σ1, hr, fun ro r => ?_⟩
    have sub : ∀ k, alW τ i j k = true → k < ns → alR τ k = true := fun k hk hkn => by
      have b := dif_bit (alS (gM τ 53) (swF (gM σ 25) i j) ns) A k (by omega)
      rw [z, Nat.zero_testBit, hW.2 k hkn, hA.2 k hkn, hk] at b
      cases e : alR τ k
      · rw [e] at b; exact absurd b (by decide)
      · rfl
    have le : vW τ ns nc s p a c i j ≤ mo := by
      refine Nat.le_trans ?_ h0
      have key : ∀ (m s : Nat) (d : ND), mxN (hOf τ ns) (alW τ i j) lvR m s d ≤ mxN (hOf τ ns) (alR τ) lvR m s d := by
        intro m
        induction m with
        | zero => intro s d; show lvR d ≤ lvR d; exact Nat.le_refl _
        | succ m ih =>
          intro s d
          refine mxN_le.mpr (fun k hk e => Nat.le_trans (ih (s + 1) _) (mxN_ge hk ?_))
          cases k with
          | zero => rfl
          | succ k =>
            have e' : (!(d.2.2.2.testBit k) && alW τ i j k) = true := e
            show (!(d.2.2.2.testBit k) && alR τ k) = true
            rw [Bool.and_eq_true] at e' ⊢
            exact ⟨e'.1, sub k e'.2 hk⟩
      unfold vW v0W
      exact key _ _ _
    rw [start, z, if_pos (show nI 0 = 0 from rfl), if_pos (nI_pos' (by omega))]
    unfold spW
    rw [if_pos le]
  · have l6 := pow_le64 hns (Nat.lt_of_le_of_lt (dif_le (alS (gM τ 53) (swF (gM σ 25) i j) ns) A) hW.1)
    obtain ⟨σ3, f1, f2, -⟩ := findMost_e hn1 hW (q := mo) (by omega)
    refine ⟨σ3, hr.tr f2, fun ro r => ?_⟩
    have ev : mxN (hOf τ ns) (alW τ i j) lvR (nc - s) s (p, a, 0, c) = vW τ ns nc s p a c i j := rfl
    rw [start, if_neg (by rw [nI0_e (by omega)]; exact z), f1, Option.bind_some, ev]
    show (if nI (max mo (vW τ ns nc s p a c i j)) ≤ nI mo then _ else _) = _
    unfold spW
    by_cases q : vW τ ns nc s p a c i j ≤ mo
    · rw [if_pos (by rw [nI_L (by omega) (by omega)]; omega), if_pos q]
    · rw [if_neg (by rw [nI_L (by omega) (by omega)]; omega), if_neg q, show max mo (vW τ ns nc s p a c i j) = vW τ ns nc s p a c i j by omega]
theorem srI_step {σ τ τ1 : QS} {ns nc s p c : Nat} {a : Int} (hn : nowP σ τ ns nc s p a c) (hr : rfT τ τ1) {i j mo : Nat} {pr : Int32} (hi : i < ns) (hj : j < ns) (hij : i ≠ j) (hm : mo ≤ 6) {x y : Int32} {τ2 : QS} : ∃ τ3, rfT τ τ3 ∧ ∀ ro r, srI (x, y, nI i, τ2) ro r (nI mo, pr, nI j, τ1) = r (nI (spW (vW τ ns nc s p a c) i j (mo, pr)).1, (spW (vW τ ns nc s p a c) i j (mo, pr)).2, nI (j + 1), τ3) := by
  have hh := hn.1
  have hns := hh.1
  have hnc := hh.2.1
  have hh1 := hr.house hh
  have vl := vW_le (τ := τ) (ns := ns) (nc := nc) (s := s) (p := p) (c := c) (i := i) (j := j) (a := a) hnc
  have m10 : (10 : Int32) * nI i + nI j = nI (10 * i + j) := by show nI 10 * nI i + nI j = _; rw [pk_mul, nI_add]
  obtain ⟨τ3, g1, g2⟩ := mostS_e hn hr hi hj hij
  refine ⟨τ3, g2, fun ro r => ?_⟩
  have go : ∀ K : Int32 × QS → Option (Int32 × QS), Option.bind (fX5_swapSeats_50 (nI i) (nI j) τ1) (fun (q10 : QS) => Option.bind (fX5_mostCarried_50 q10) (fun (q11 : Int32 × QS) => Option.bind (fX5_swapSeats_50 (nI i) (nI j) q11.2) (fun (q12 : QS) => K (q11.1, q12)))) = K (nI (vW τ ns nc s p a c i j), τ3) := fun K => by
    have : Option.bind (fX5_swapSeats_50 (nI i) (nI j) τ1) (fun (q10 : QS) => Option.bind (fX5_mostCarried_50 q10) (fun (q11 : Int32 × QS) => Option.bind (fX5_swapSeats_50 (nI i) (nI j) q11.2) (fun (q12 : QS) => K (q11.1, q12)))) = Option.bind (Option.bind (fX5_swapSeats_50 (nI i) (nI j) τ1) (fun (q10 : QS) => Option.bind (fX5_mostCarried_50 q10) (fun (q11 : Int32 × QS) => Option.bind (fX5_swapSeats_50 (nI i) (nI j) q11.2) (fun (q12 : QS) => some (q11.1, q12))))) K := by
      rw [Option.bind_assoc]
      congr 1
      funext q10
      rw [Option.bind_assoc]
      congr 1
      funext q11
      rw [Option.bind_assoc]
      rfl
    rw [this, g1, Option.bind_some]
  unfold srI
  simp only [lt_q]
  rw [hh1.2.2.2.2.1, if_neg (by rw [nI_L (by omega) (by omega)]; omega), m10, nI_1]
  refine (go (fun q => if q.1 ≤ nI mo then (if q.1 ≤ nI mo then r (nI mo, pr, nI (j + 1), q.2) else r (q.1, pr, nI (j + 1), q.2)) else (if q.1 ≤ nI mo then r (nI mo, nI (10 * i + j), nI (j + 1), q.2) else r (q.1, nI (10 * i + j), nI (j + 1), q.2)))).trans ?_
  unfold spW
  simp only []
  by_cases q : vW τ ns nc s p a c i j ≤ mo
  · have q' : nI (vW τ ns nc s p a c i j) ≤ nI mo := by rw [nI_L (by omega) (by omega)]; exact q
    rw [if_pos q', if_pos q', if_pos q]
  · have q' : ¬ nI (vW τ ns nc s p a c i j) ≤ nI mo := by rw [nI_L (by omega) (by omega)]; exact q
    rw [if_neg q', if_neg q', if_neg q]
def inW (V : Nat → Nat → Nat) (ns i : Nat) (y : Nat × Int32) : Nat × Int32 := fdr (fun j z => spW V i j z) (ns - (i + 1)) (i + 1) y
def ouW (V : Nat → Nat → Nat) (ns k : Nat) (y : Nat × Int32) : Nat × Int32 := fdr (fun i y => inW V ns i y) k 0 y
theorem fdr_le {V : Nat → Nat → Nat} {v0 i : Nat} (h0 : v0 ≤ 6) (hV : ∀ i j, V i j ≤ 6) : ∀ (d j : Nat) (y : Nat × Int32), (v0 ≤ y.1 ∧ y.1 ≤ 6) → v0 ≤ (fdr (fun j z => spW V i j z) d j y).1 ∧ (fdr (fun j z => spW V i j z) d j y).1 ≤ 6
  | 0, _, _, h => h
  | d + 1, j, y, h => fdr_le h0 hV d (j + 1) _ (spW_le h0 hV h)
theorem fdo_le {V : Nat → Nat → Nat} {v0 ns : Nat} (h0 : v0 ≤ 6) (hV : ∀ i j, V i j ≤ 6) : ∀ (d j : Nat) (y : Nat × Int32), (v0 ≤ y.1 ∧ y.1 ≤ 6) → v0 ≤ (fdr (fun i y => inW V ns i y) d j y).1 ∧ (fdr (fun i y => inW V ns i y) d j y).1 ≤ 6
  | 0, _, _, h => h
  | d + 1, j, y, h => fdo_le h0 hV d (j + 1) _ (fdr_le h0 hV _ _ _ h)
theorem seats_same {σ τ : QS} (h : Inv σ τ) : Same (fX4_seats_0 σ) (fX5_seats_50 τ) := by
  obtain ⟨ns, nc, s, p, a, c, hn⟩ := h.now
  have hn' := hn
  obtain ⟨hh, hs, hp, ⟨a1, a2⟩, hc, ⟨e13, e1⟩, ⟨e15, e2⟩, ⟨e17, e4⟩, ⟨e14, e6⟩, es⟩ := hn'
  have hns := hh.1
  have hnc := hh.2.1
  by_cases e0 : ns = 0
  · unfold fX4_seats_0 fX5_seats_50
    rw [hh.2.2.2.1, hh.2.2.2.2.1, if_pos (by rw [e0]; rfl), if_pos (by rw [e0]; rfl)]
    exact Same.mk rfl rfl h
  have ne : ¬ nI ns = 0 := by rw [nI0_e (by omega)]; exact e0
  have hA : alB (alS (gM τ 53) (gM σ 25) ns) ns (alR τ) := al_al (fun k hk => by rw [es k hk]; rfl)
  obtain ⟨σ1, f1, f2, -⟩ := findMost_e hn hA (q := 0) (by omega)
  obtain ⟨τ1, g1, g2⟩ := mostR_e hh hs hp a1 a2 hc e1 e2 e4 e6
  have ev : mxN (hOf τ ns) (alR τ) lvR (nc - s) s (p, a, 0, c) = v0W τ ns nc s p a c := rfl
  rw [ev, Nat.zero_max] at f1
  rw [ev] at g1
  have v06 : v0W τ ns nc s p a c ≤ 6 := by
    have : mxN (hOf τ ns) (alR τ) lvR (nc - s) s (p, a, 0, c) ≤ 0 + (nc - s) := mxR_m (nc - s) s (p, a, 0, c)
    omega
  have hV : ∀ i j, vW τ ns nc s p a c i j ≤ 6 := fun i j => vW_le hnc
  generalize hv0 : v0W τ ns nc s p a c = v0 at *
  let V := vW τ ns nc s p a c
  let Y := ouW V ns ns (v0, -9)
  have Ck : ∃ σ2, srC σ σ2 ∧ fX4_seats_0 σ = (if Y.2 = (-9 : Int32) then some (Y.2, σ2) else some (Y.2, pI σ2 1 (nI Y.1))) := by
    unfold fX4_seats_0
    rw [hh.2.2.2.1, if_neg ne, alC_e hh, Option.bind_some]
    have f1' : fX2_findMost_7 (nI (alS (gM τ 53) (gM σ 25) ns)) (0 : Int32) σ = some (nI v0, σ1) := f1
    rw [f1', Option.bind_some]
    show ∃ σ2, srC σ σ2 ∧ lp_ (scB (nI (alS (gM τ 53) (gM σ 25) ns))) FV (nI v0, (-9 : Int32), (0 : Int32), σ1) = _
    refine for_inv (Q := fun k (b : Int32 × Int32 × Int32 × QS) => b.1 = nI (ouW V ns k (v0, -9)).1 ∧ b.2.1 = (ouW V ns k (v0, -9)).2 ∧ b.2.2.1 = nI k ∧ srC σ b.2.2.2) ns (fun o => ∃ σ2, srC σ σ2 ∧ o = (if Y.2 = (-9 : Int32) then some (Y.2, σ2) else some (Y.2, pI σ2 1 (nI Y.1)))) (by omega) ⟨rfl, rfl, rfl, f2⟩ ?_ ?_
    · rintro k ⟨b1, b2, b3, σk⟩ hk ⟨q1, q2, q3, q4⟩
      have q1' : b1 = nI (ouW V ns k (v0, -9)).1 := q1
      have q2' : b2 = (ouW V ns k (v0, -9)).2 := q2
      have q3' : b3 = nI k := q3
      subst q1' q2' q3'
      have q4' : srC σ σk := q4
      have yl := fdo_le (ns := ns) v06 hV k 0 (v0, -9) ⟨Nat.le_refl _, v06⟩
      have es1 : ouW V ns (k + 1) (v0, -9) = inW V ns k (ouW V ns k (v0, -9)) := by
        unfold ouW
        rw [fdr_end, Nat.zero_add]
      generalize hy : ouW V ns k (v0, -9) = y at *
      have yl' : v0 ≤ y.1 ∧ y.1 ≤ 6 := by rw [← hy]; exact yl
      obtain ⟨b, z, e⟩ := for_inn (B := scI (nI (alS (gM τ 53) (gM σ 25) ns)) (nI y.1, y.2, nI k, σk)) (β := Int32 × QS) (Q := fun l (b : Int32 × Int32 × Int32 × QS) => b.1 = nI (fdr (fun j z => spW V k j z) l (k + 1) y).1 ∧ b.2.1 = (fdr (fun j z => spW V k j z) l (k + 1) y).2 ∧ b.2.2.1 = nI (k + 1 + l) ∧ srC σ b.2.2.2) (ns - (k + 1)) (fun b => b.1 = nI (inW V ns k y).1 ∧ b.2.1 = (inW V ns k y).2 ∧ b.2.2.1 = nI (k + 1) ∧ srC σ b.2.2.2) (a := (nI y.1, y.2, nI (k + 1), σk)) (by omega) ⟨rfl, rfl, rfl, q4'⟩ (fun l b hl hq => by
        obtain ⟨b1, b2, b3, σl⟩ := b
        obtain ⟨w1, w2, w3, w4⟩ := hq
        have w1' : b1 = nI (fdr (fun j z => spW V k j z) l (k + 1) y).1 := w1
        have w2' : b2 = (fdr (fun j z => spW V k j z) l (k + 1) y).2 := w2
        have w3' : b3 = nI (k + 1 + l) := w3
        subst w1' w2' w3'
        have zl := fdr_le (i := k) v06 hV l (k + 1) y yl'
        obtain ⟨σ3, s1, s2⟩ := scI_step hn hA w4 (i := k) (j := k + 1 + l) (mo := (fdr (fun j z => spW V k j z) l (k + 1) y).1) (pr := (fdr (fun j z => spW V k j z) l (k + 1) y).2) hk (by omega) (by omega) zl.2 (by rw [hv0]; exact zl.1) (x := nI y.1) (y := y.2) (σ2 := σk)
        refine ⟨_, ⟨?_, ?_, ?_, ?_⟩, s2⟩
        · rw [fdr_end]
        · rw [fdr_end]
        · rfl
        · exact s1) (fun b hq => by
        obtain ⟨b1, b2, b3, σl⟩ := b
        obtain ⟨w1, w2, w3, w4⟩ := hq
        have w3' : b3 = nI (k + 1 + (ns - (k + 1))) := w3
        subst w3'
        have w4' : srC σ σl := w4
        refine ⟨(b1, b2, nI (k + 1), σl), ⟨w1, w2, rfl, w4⟩, fun ro r => ?_⟩
        unfold scI
        simp only [lt_q]
        rw [(w4'.house hh).2.2.2.1, if_pos (by rw [nI_L (by omega) (by omega)]; omega), nI_1])
      refine ⟨b, by rw [es1]; exact z, fun r => ?_⟩
      unfold scB
      simp only [lt_q]
      rw [(q4'.house hh).2.2.2.1, if_neg (by rw [nI_L (by omega) (by omega)]; omega), nI_1]
      exact e r
    · rintro ⟨b1, b2, b3, σk⟩ ⟨q1, q2, q3, q4⟩ r
      have q1' : b1 = nI Y.1 := q1
      have q2' : b2 = Y.2 := q2
      have q3' : b3 = nI ns := q3
      subst q1' q2' q3'
      refine ⟨σk, q4, ?_⟩
      have q4' : srC σ σk := q4
      unfold scB
      simp only [lt_q]
      rw [(q4'.house hh).2.2.2.1, if_pos (by rw [nI_L (by omega) (by omega)]; omega)]
      rfl
  have Rk : ∃ τ2, rfT τ τ2 ∧ fX5_seats_50 τ = (if Y.2 = (-9 : Int32) then some (Y.2, τ2) else some (Y.2, pI τ2 2 (nI Y.1))) := by
    unfold fX5_seats_50
    rw [hh.2.2.2.2.1, if_neg ne, g1, Option.bind_some]
    show ∃ τ2, rfT τ τ2 ∧ lp_ srB FV (nI v0, (-9 : Int32), (0 : Int32), τ1) = _
    refine for_inv (Q := fun k (b : Int32 × Int32 × Int32 × QS) => b.1 = nI (ouW V ns k (v0, -9)).1 ∧ b.2.1 = (ouW V ns k (v0, -9)).2 ∧ b.2.2.1 = nI k ∧ rfT τ b.2.2.2) ns (fun o => ∃ τ2, rfT τ τ2 ∧ o = (if Y.2 = (-9 : Int32) then some (Y.2, τ2) else some (Y.2, pI τ2 2 (nI Y.1)))) (by omega) ⟨rfl, rfl, rfl, g2⟩ ?_ ?_
    · rintro k ⟨b1, b2, b3, σk⟩ hk ⟨q1, q2, q3, q4⟩
      have q1' : b1 = nI (ouW V ns k (v0, -9)).1 := q1
      have q2' : b2 = (ouW V ns k (v0, -9)).2 := q2
      have q3' : b3 = nI k := q3
      subst q1' q2' q3'
      have q4' : rfT τ σk := q4
      have yl := fdo_le (ns := ns) v06 hV k 0 (v0, -9) ⟨Nat.le_refl _, v06⟩
      have es1 : ouW V ns (k + 1) (v0, -9) = inW V ns k (ouW V ns k (v0, -9)) := by
        unfold ouW
        rw [fdr_end, Nat.zero_add]
      generalize hy : ouW V ns k (v0, -9) = y at *
      have yl' : v0 ≤ y.1 ∧ y.1 ≤ 6 := by rw [← hy]; exact yl
      obtain ⟨b, z, e⟩ := for_inn (B := srI (nI y.1, y.2, nI k, σk)) (β := Int32 × QS) (Q := fun l (b : Int32 × Int32 × Int32 × QS) => b.1 = nI (fdr (fun j z => spW V k j z) l (k + 1) y).1 ∧ b.2.1 = (fdr (fun j z => spW V k j z) l (k + 1) y).2 ∧ b.2.2.1 = nI (k + 1 + l) ∧ rfT τ b.2.2.2) (ns - (k + 1)) (fun b => b.1 = nI (inW V ns k y).1 ∧ b.2.1 = (inW V ns k y).2 ∧ b.2.2.1 = nI (k + 1) ∧ rfT τ b.2.2.2) (a := (nI y.1, y.2, nI (k + 1), σk)) (by omega) ⟨rfl, rfl, rfl, q4'⟩ (fun l b hl hq => by
        obtain ⟨b1, b2, b3, σl⟩ := b
        obtain ⟨w1, w2, w3, w4⟩ := hq
        have w1' : b1 = nI (fdr (fun j z => spW V k j z) l (k + 1) y).1 := w1
        have w2' : b2 = (fdr (fun j z => spW V k j z) l (k + 1) y).2 := w2
        have w3' : b3 = nI (k + 1 + l) := w3
        subst w1' w2' w3'
        have zl := fdr_le (i := k) v06 hV l (k + 1) y yl'
        obtain ⟨σ3, s1, s2⟩ := srI_step hn w4 (i := k) (j := k + 1 + l) (mo := (fdr (fun j z => spW V k j z) l (k + 1) y).1) (pr := (fdr (fun j z => spW V k j z) l (k + 1) y).2) hk (by omega) (by omega) zl.2 (x := nI y.1) (y := y.2) (τ2 := σk)
        refine ⟨_, ⟨?_, ?_, ?_, ?_⟩, s2⟩
        · rw [fdr_end]
        · rw [fdr_end]
        · rfl
        · exact s1) (fun b hq => by
        obtain ⟨b1, b2, b3, σl⟩ := b
        obtain ⟨w1, w2, w3, w4⟩ := hq
        have w3' : b3 = nI (k + 1 + (ns - (k + 1))) := w3
        subst w3'
        have w4' : rfT τ σl := w4
        refine ⟨(b1, b2, nI (k + 1), σl), ⟨w1, w2, rfl, w4⟩, fun ro r => ?_⟩
        unfold srI
        simp only [lt_q]
        rw [(w4'.house hh).2.2.2.2.1, if_pos (by rw [nI_L (by omega) (by omega)]; omega), nI_1])
      refine ⟨b, by rw [es1]; exact z, fun r => ?_⟩
      unfold srB
      simp only [lt_q]
      rw [(q4'.house hh).2.2.2.2.1, if_neg (by rw [nI_L (by omega) (by omega)]; omega), nI_1]
      exact e r
    · rintro ⟨b1, b2, b3, σk⟩ ⟨q1, q2, q3, q4⟩ r
      have q1' : b1 = nI Y.1 := q1
      have q2' : b2 = Y.2 := q2
      have q3' : b3 = nI ns := q3
      subst q1' q2' q3'
      refine ⟨σk, q4, ?_⟩
      have q4' : rfT τ σk := q4
      unfold srB
      simp only [lt_q]
      rw [(q4'.house hh).2.2.2.2.1, if_pos (by rw [nI_L (by omega) (by omega)]; omega), pI_self]
  obtain ⟨σ2, c1, c2⟩ := Ck
  obtain ⟨τ2, d1, d2⟩ := Rk
  rw [c2, d2]
  by_cases q : Y.2 = (-9 : Int32)
  · rw [if_pos q, if_pos q]
    exact Same.mk rfl rfl (inv_srch h c1 d1)
  · rw [if_neg q, if_neg q]
    exact Same.mk rfl rfl (told_ok (inv_srch h c1 d1) _)
