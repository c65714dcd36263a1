/-! ===== fault, house ===== -/
theorem Inv.tx {σ τ : QS} (h : Inv σ τ) {t n : Nat} (ht : t < 4) (hc : gM σ 12 t = nI n) (hn : n ≤ 60) : TX σ t n (gM σ (36 + t)) ∧ TR τ t n (gM σ (36 + t)) := by
  obtain ⟨e, hq⟩ := h.2.1 t ht
  rcases hq with w | ⟨n', n1, n2, n3⟩
  · rw [hc] at w
    exact absurd w (nI_nm1 (by omega))
  · have : n' = n := by rw [hc, nI_e (by omega) (by omega)] at n2; exact n2.symm
    subst this
    exact ⟨⟨ht, hn, hc, fun k hk => rfl⟩, by rw [← e]; exact hc, fun k hk => (n3 k hk).symm⟩
theorem fault_same {σ τ : QS} (h : Inv σ τ) (x : Int32) : Same (fX4_fault_0 x σ) (fX5_fault_50 x τ) := by
  unfold fX4_fault_0 fX5_fault_50
  rcases pk_ix x (n := 4) (by omega) with hr | hr | ⟨t, ht, rfl⟩
  · rw [rop2_bad (Or.inl hr), text_bad (Or.inl hr), if_pos rfl, Option.bind_some, if_neg (by exact m1_ne)]
    exact Same.mk rfl rfl h
  · rw [rop2_bad (Or.inr hr), text_bad (Or.inr hr), if_pos rfl, Option.bind_some, if_neg (by exact m1_ne)]
    exact Same.mk rfl rfl h
  · rw [text_good ht, if_neg one_ne, ck_t (inb_n ht (by omega)), nI_c (by omega)]
    obtain ⟨e, hc⟩ := h.2.1 t ht
    rcases hc with hc | ⟨n, hn, hc, hq⟩
    · obtain ⟨σ', τ', q1, q2, q3⟩ := refuse_ok h (x := 1) (f := 1) rfl (by omega) (by omega)
      rw [rop2_no ht hc, q1, q2, ← e, hc, if_neg (show ¬ (0 : Int32) ≤ -1 by decide)]
      simp only [Option.bind_some]
      rw [if_neg (by exact m3_ne)]
      exact Same.mk rfl rfl q3
    · rw [rop2_yes ht hc hn, ← e, hc, if_pos (nI_pos' (by omega)), Option.bind_some, if_pos rfl]
      obtain ⟨hX, hT⟩ := h.tx ht hc hn
      obtain ⟨v, σ', τ', r1, r2, r3, r4, -⟩ := read4_same hX hT
      rw [r1, r2, Option.bind_some, Option.bind_some]
      refine Same.mk rfl rfl (h.keep ⟨fun k h1 h2 => r3.1 k (by omega), r3.2.2 14 (by omega), fun k h1 h2 => r3.2.2 k (by omega), fun k hk => r3.2.2 _ (by omega), r4.1 0 (by omega), r4.1 1 (by omega), r4.2.2 51 (by omega) (by omega), r4.2.2 52 (by omega) (by omega), r4.2.2 53 (by omega) (by omega), r4.2.2 54 (by omega) (by omega), r4.2.2 55 (by omega) (by omega)⟩ (r3.1 0 (by omega)) (r3.1 1 (by omega)) (r3.2.1 0) (r3.2.1 1) (r3.2.2 8 (by omega)) (r3.2.2 10 (by omega)) (r3.2.2 12 (by omega)) (fun k h1 h2 => r3.2.2 k (by omega)) (r4.1 2 (by omega)) (r4.1 3 (by omega)) (r4.2.1 0) (r4.2.1 1) (fun k h1 h2 => r4.2.2 k (by omega) (by omega)))
noncomputable def hsR (τ : QS) : Option (Int32 × QS) := lt_ (pI τ 0 (gI τ 8)) (fun (S3 : QS) => lt_ (pI S3 1 (gI S3 9)) (fun (S4 : QS) => lp_ (fun (r6 : Int32 × QS → Option (Int32 × QS)) (a5 : Int32 × QS) => (if (gI a5.2 0) ≤ a5.1 then lp_ (fun (r8 : Int32 × QS → Option (Int32 × QS)) (a7 : Int32 × QS) => (if (493 : Int32) ≤ a7.1 then lt_ (pM a7.2 51 (upd (gM a7.2 51) 2 (gI a7.2 7))) (fun (S9 : QS) => lp_ (fun (r11 : Int32 × QS → Option (Int32 × QS)) (a10 : Int32 × QS) => (if (gI a10.2 1) ≤ a10.1 then lp_ (fun (r13 : Int32 × QS → Option (Int32 × QS)) (a12 : Int32 × QS) => (if (4 : Int32) ≤ a12.1 then some ((gI a12.2 1), a12.2) else ck_ (inb (((493 : Int32) * a12.1) + (0 : Int32)) 1972) (lt_ (pM a12.2 51 (upd (gM a12.2 51) ((((493 : Int32) * a12.1) + (0 : Int32)).toNatClampNeg) (-1 : Int32))) (fun (S15 : QS) => r13 ((a12.1 + (1 : Int32)), S15))))) FV ((1 : Int32), a10.2) else ck_ (inb ((4 : Int32) * a10.1) 24) (ck_ (inb a10.1 6) (lt_ (pM a10.2 53 (upd (gM a10.2 53) a10.1.toNatClampNeg (gM a10.2 62 (((4 : Int32) * a10.1).toNatClampNeg)))) (fun (S18 : QS) => ck_ (inb (((4 : Int32) * a10.1) + (1 : Int32)) 24) (ck_ (inb ((7 : Int32) + a10.1) 1972) (lt_ (pM S18 51 (upd (gM S18 51) (((7 : Int32) + a10.1).toNatClampNeg) (gM S18 62 ((((4 : Int32) * a10.1) + (1 : Int32)).toNatClampNeg)))) (fun (S21 : QS) => ck_ (inb (((4 : Int32) * a10.1) + (2 : Int32)) 24) (ck_ (inb a10.1 6) (lt_ (pM S21 54 (upd (gM S21 54) a10.1.toNatClampNeg (gM S21 62 ((((4 : Int32) * a10.1) + (2 : Int32)).toNatClampNeg)))) (fun (S24 : QS) => ck_ (inb (((4 : Int32) * a10.1) + (3 : Int32)) 24) (ck_ (inb a10.1 6) (lt_ (pM S24 55 (upd (gM S24 55) a10.1.toNatClampNeg (gM S24 62 ((((4 : Int32) * a10.1) + (3 : Int32)).toNatClampNeg)))) (fun (S27 : QS) => r11 ((a10.1 + (1 : Int32)), S27))))))))))))))) FV ((0 : Int32), S9)) else ck_ (inb a7.1 1972) (lt_ (pM a7.2 51 (upd (gM a7.2 51) a7.1.toNatClampNeg (0 : Int32))) (fun (S29 : QS) => r8 ((a7.1 + (1 : Int32)), S29))))) FV ((0 : Int32), a5.2) else ck_ (inb a5.1 6) (ck_ (inb a5.1 6) (lt_ (pM a5.2 52 (upd (gM a5.2 52) a5.1.toNatClampNeg (gM a5.2 61 a5.1.toNatClampNeg))) (fun (S32 : QS) => r6 ((a5.1 + (1 : Int32)), S32)))))) FV ((0 : Int32), S4)))
/-- the reference with its new house -/
def hsOk (τ τ' : QS) (m ns pr : Nat) : Prop := gI τ' 0 = nI m ∧ gI τ' 1 = nI ns ∧ (∀ x, 2 ≤ x → gI τ' x = gI τ x) ∧ (∀ x, gJ τ' x = gJ τ x) ∧ (∀ x, x < 51 ∨ 55 < x → gM τ' x = gM τ x) ∧ (∀ k, k < m → gM τ' 52 k = gM τ 61 k) ∧ (∀ i, i < ns → gM τ' 53 i = gM τ 62 (4 * i) ∧ gM τ' 54 i = gM τ 62 (4 * i + 2) ∧ gM τ' 55 i = gM τ 62 (4 * i + 3)) ∧ gM τ' 51 0 = 0 ∧ (∀ j, j < 12 → gM τ' 51 (1 + j) = if j = 1 then nI pr else if 6 ≤ j ∧ j < 6 + ns then gM τ 62 (4 * (j - 6) + 1) else 0) ∧ ∀ k, k < 3 → gM τ' 51 (493 * (k + 1)) = -1
theorem hsR_e {τ : QS} {m ns pr : Nat} (hm : m ≤ 6) (hns : ns ≤ 6) (h8 : gI τ 8 = nI m) (h9 : gI τ 9 = nI ns) (h7 : gI τ 7 = nI pr) : ∃ τ', hsR τ = some (nI ns, τ') ∧ hsOk τ τ' m ns pr := by
  unfold hsR
  simp only [lt_q]
  rw [h8, gI_ne (show (9 : Nat) ≠ 0 by omega), h9]
  refine for_inv (fun k a => a = (nI k, pM (pI (pI τ 0 (nI m)) 1 (nI ns)) 52 (fun q => if q < k then gM τ 61 q else gM τ 52 q))) m (fun o => ∃ τ', o = some (nI ns, τ') ∧ hsOk τ τ' m ns pr) (by omega) ?_ ?_ ?_
  · rw [fill_0]
    show (nI 0, pI (pI τ 0 (nI m)) 1 (nI ns)) = (nI 0, pM (pI (pI τ 0 (nI m)) 1 (nI ns)) 52 (gM (pI (pI τ 0 (nI m)) 1 (nI ns)) 52))
    rw [pM_self]
  · rintro k a hk rfl
    refine ⟨_, rfl, fun r => ?_⟩
    dsimp only
    rw [gI_pM, gI_ne (show (0 : Nat) ≠ 1 by omega), gI_same, if_neg (by rw [nI_L (by omega) (by omega)]; omega), ck_t (inb_n (by omega) (by omega)), ck_t (inb_n (by omega) (by omega)), nI_c (by omega), nI_1, pM_pM, gM_same, gM_ne (show (61 : Nat) ≠ 52 by omega)]
    rw [upd_fill (show gM (pI (pI τ 0 (nI m)) 1 (nI ns)) 61 k = gM τ 61 k from rfl)]
  · rintro a rfl r
    dsimp only
    rw [gI_pM, gI_ne (show (0 : Nat) ≠ 1 by omega), gI_same, if_pos (by rw [nI_L (by omega) (by omega)]; omega)]
    have A52 : ∀ k, k < m → gM (pM (pI (pI τ 0 (nI m)) 1 (nI ns)) 52 (fun q => if q < m then gM τ 61 q else gM τ 52 q)) 52 k = gM τ 61 k := fun k hk => by rw [gM_same, if_pos hk]
    have AI0 : gI (pM (pI (pI τ 0 (nI m)) 1 (nI ns)) 52 (fun q => if q < m then gM τ 61 q else gM τ 52 q)) 0 = nI m := rfl
    have AI1 : gI (pM (pI (pI τ 0 (nI m)) 1 (nI ns)) 52 (fun q => if q < m then gM τ 61 q else gM τ 52 q)) 1 = nI ns := rfl
    have AI : ∀ x, 2 ≤ x → gI (pM (pI (pI τ 0 (nI m)) 1 (nI ns)) 52 (fun q => if q < m then gM τ 61 q else gM τ 52 q)) x = gI τ x := fun x hx => by rw [gI_pM, gI_ne (by omega), gI_ne (by omega)]
    have AJ : ∀ x, gJ (pM (pI (pI τ 0 (nI m)) 1 (nI ns)) 52 (fun q => if q < m then gM τ 61 q else gM τ 52 q)) x = gJ τ x := fun x => rfl
    have AM : ∀ x, x ≠ 52 → gM (pM (pI (pI τ 0 (nI m)) 1 (nI ns)) 52 (fun q => if q < m then gM τ 61 q else gM τ 52 q)) x = gM τ x := fun x hx => by rw [gM_ne hx]; rfl
    generalize pM (pI (pI τ 0 (nI m)) 1 (nI ns)) 52 (fun q => if q < m then gM τ 61 q else gM τ 52 q) = A at A52 AI0 AI1 AI AJ AM ⊢
    refine for_inv (fun k a => a = (nI k, pM A 51 (fun q => if q < k then (fun _ => (0 : Int32)) q else gM A 51 q))) 493 (fun o => ∃ τ', o = some (nI ns, τ') ∧ hsOk τ τ' m ns pr) (by omega) ?_ ?_ ?_
    · rw [fill_0, pM_self]
      rfl
    · rintro k a hk rfl
      refine ⟨_, rfl, fun r => ?_⟩
      dsimp only
      rw [if_neg (show ¬ (493 : Int32) ≤ nI k from by show ¬ nI 493 ≤ nI k; rw [nI_L (by omega) (by omega)]; omega), ck_t (inb_n (by omega) (by omega)), nI_c (by omega), nI_1, pM_pM, gM_same]
      rw [upd_fill (g := fun _ => (0 : Int32)) rfl]
    · rintro a rfl r
      dsimp only
      rw [if_pos (show (493 : Int32) ≤ nI 493 by decide), pM_pM, gM_same, gI_pM, AI 7 (by omega), h7]
      have B51 : ∀ q, gM (pM A 51 (upd (fun q => if q < 493 then (fun _ => (0 : Int32)) q else gM A 51 q) 2 (nI pr))) 51 q = if q = 2 then nI pr else if q < 493 then 0 else gM A 51 q := fun q => by
        rw [gM_same]
        by_cases e : q = 2
        · rw [e, upd_same, if_pos rfl]
        · rw [upd_ne e, if_neg e]
      have BI : ∀ x, gI (pM A 51 (upd (fun q => if q < 493 then (fun _ => (0 : Int32)) q else gM A 51 q) 2 (nI pr))) x = gI A x := fun _ => rfl
      have BJ : ∀ x, gJ (pM A 51 (upd (fun q => if q < 493 then (fun _ => (0 : Int32)) q else gM A 51 q) 2 (nI pr))) x = gJ A x := fun _ => rfl
      have BM : ∀ x, x ≠ 51 → gM (pM A 51 (upd (fun q => if q < 493 then (fun _ => (0 : Int32)) q else gM A 51 q) 2 (nI pr))) x = gM A x := fun x hx => gM_ne hx
      generalize pM A 51 (upd (fun q => if q < 493 then (fun _ => (0 : Int32)) q else gM A 51 q) 2 (nI pr)) = B at B51 BI BJ BM ⊢
      refine for_inv (fun k a => a.1 = nI k ∧ (∀ x, gI a.2 x = gI B x) ∧ (∀ x, gJ a.2 x = gJ B x) ∧ (∀ x, x ≠ 51 → x ≠ 53 → x ≠ 54 → x ≠ 55 → gM a.2 x = gM B x) ∧ (∀ i, i < k → gM a.2 53 i = gM τ 62 (4 * i) ∧ gM a.2 54 i = gM τ 62 (4 * i + 2) ∧ gM a.2 55 i = gM τ 62 (4 * i + 3)) ∧ ∀ q, gM a.2 51 q = if 7 ≤ q ∧ q < 7 + k then gM τ 62 (4 * (q - 7) + 1) else gM B 51 q) ns (fun o => ∃ τ', o = some (nI ns, τ') ∧ hsOk τ τ' m ns pr) (by omega) ?_ ?_ ?_
      · exact ⟨rfl, fun _ => rfl, fun _ => rfl, fun _ _ _ _ _ => rfl, fun i hi => absurd hi (by omega), fun q => by rw [if_neg (by omega)]⟩
      · rintro k ⟨a1, S⟩ hk ⟨q1, q2, q3, q4, q5, q6⟩
        dsimp only at q1 q2 q3 q4 q5 q6
        subst q1
        have m62 : gM S 62 = gM τ 62 := by rw [q4 62 (by omega) (by omega) (by omega) (by omega), BM 62 (by omega), AM 62 (by omega)]
        have f4 : (4 : Int32) * nI k = nI (4 * k) := by show nI 4 * nI k = _; rw [pk_mul]
        have f1 : nI (4 * k) + (1 : Int32) = nI (4 * k + 1) := nI_1 _
        have f2 : nI (4 * k) + (2 : Int32) = nI (4 * k + 2) := nI_add _ 2
        have f3 : nI (4 * k) + (3 : Int32) = nI (4 * k + 3) := nI_add _ 3
        have f7 : (7 : Int32) + nI k = nI (7 + k) := nI_add 7 k
        refine ⟨(nI (k + 1), pM (pM (pM (pM S 53 (upd (gM S 53) k (gM τ 62 (4 * k)))) 51 (upd (gM S 51) (7 + k) (gM τ 62 (4 * k + 1)))) 54 (upd (gM S 54) k (gM τ 62 (4 * k + 2)))) 55 (upd (gM S 55) k (gM τ 62 (4 * k + 3)))), ⟨rfl, fun x => q2 x, fun x => q3 x, fun x x1 x2 x3 x4 => ?_, fun i hi => ?_, fun q => ?_⟩, fun r => ?_⟩
        · dsimp only
          rw [gM_ne x4, gM_ne x3, gM_ne x1, gM_ne x2]
          exact q4 x x1 x2 x3 x4
        · dsimp only
          rw [gM_ne (show (53 : Nat) ≠ 55 by omega), gM_ne (show (53 : Nat) ≠ 54 by omega), gM_ne (show (53 : Nat) ≠ 51 by omega), gM_same, gM_ne (show (54 : Nat) ≠ 55 by omega), gM_same, gM_same]
          by_cases e : i = k
          · subst e
            rw [upd_same, upd_same, upd_same]
            exact ⟨rfl, rfl, rfl⟩
          · rw [upd_ne e, upd_ne e, upd_ne e]
            exact q5 i (by omega)
        · dsimp only
          rw [gM_ne (show (51 : Nat) ≠ 55 by omega), gM_ne (show (51 : Nat) ≠ 54 by omega), gM_same]
          by_cases e : q = 7 + k
          · subst e
            rw [upd_same, if_pos (by omega), show 7 + k - 7 = k by omega]
          · rw [upd_ne e, q6 q]
            by_cases e2 : 7 ≤ q ∧ q < 7 + k
            · rw [if_pos e2, if_pos (by omega)]
            · rw [if_neg e2, if_neg (by omega)]
        · dsimp only
          rw [q2 1, BI 1, AI1, if_neg (by rw [nI_L (by omega) (by omega)]; omega), f4, f1, f2, f3, f7, ck_t (inb_n (by omega) (by omega)), ck_t (inb_n (by omega) (by omega)), ck_t (inb_n (by omega) (by omega)), ck_t (inb_n (by omega) (by omega)), ck_t (inb_n (by omega) (by omega)), ck_t (inb_n (by omega) (by omega)), ck_t (inb_n (by omega) (by omega)), ck_t (inb_n (by omega) (by omega)), nI_c (by omega), nI_c (by omega), nI_c (by omega), nI_c (by omega), nI_c (by omega), nI_c (by omega), nI_1, ← m62]
          rfl
      · rintro ⟨a1, S⟩ ⟨q1, q2, q3, q4, q5, q6⟩ r
        dsimp only at q1 q2 q3 q4 q5 q6
        subst q1
        dsimp only
        rw [q2 1, BI 1, AI1, if_pos (by rw [nI_L (by omega) (by omega)]; omega)]
        refine for_inv (fun k a => a = (nI (k + 1), pM S 51 (fun q => if q % 493 = 0 ∧ 493 ≤ q ∧ q ≤ 493 * k then -1 else gM S 51 q))) 3 (fun o => ∃ τ', o = some (nI ns, τ') ∧ hsOk τ τ' m ns pr) (by omega) ?_ ?_ ?_
        · have : (fun q => if q % 493 = 0 ∧ 493 ≤ q ∧ q ≤ 493 * 0 then -1 else gM S 51 q) = gM S 51 := by
            funext q
            rw [if_neg (by omega)]
          rw [this, pM_self]
          rfl
        · rintro k a hk rfl
          refine ⟨_, rfl, fun r => ?_⟩
          dsimp only
          have i4 : (493 : Int32) * nI (k + 1) + (0 : Int32) = nI (493 * (k + 1)) := by
            show nI 493 * nI (k + 1) + nI 0 = _
            rw [pk_mul, nI_add]
            rfl
          rw [if_neg (show ¬ (4 : Int32) ≤ nI (k + 1) from by show ¬ nI 4 ≤ nI (k + 1); rw [nI_L (by omega) (by omega)]; omega), i4, ck_t (inb_n (by omega) (by omega)), nI_c (by omega), nI_1, pM_pM, gM_same]
          have : upd (fun q => if q % 493 = 0 ∧ 493 ≤ q ∧ q ≤ 493 * k then -1 else gM S 51 q) (493 * (k + 1)) (-1) = fun q => if q % 493 = 0 ∧ 493 ≤ q ∧ q ≤ 493 * (k + 1) then -1 else gM S 51 q := by
            funext q
            by_cases e : q = 493 * (k + 1)
            · rw [e, upd_same, if_pos (by omega)]
            · rw [upd_ne e]
              by_cases e2 : q % 493 = 0 ∧ 493 ≤ q ∧ q ≤ 493 * k
              · rw [if_pos e2, if_pos (by omega)]
              · rw [if_neg e2, if_neg (by omega)]
          rw [this]
        · rintro a rfl r
          dsimp only
          rw [if_pos (show (4 : Int32) ≤ nI (3 + 1) by decide)]
          refine ⟨pM S 51 (fun q => if q % 493 = 0 ∧ 493 ≤ q ∧ q ≤ 493 * 3 then -1 else gM S 51 q), ?_, ?_⟩
          · rw [gI_pM, q2 1, BI 1, AI1]
          · refine ⟨?_, ?_, fun x hx => ?_, fun x => ?_, fun x hx => ?_, fun k hk => ?_, fun i hi => ?_, ?_, fun j hj => ?_, fun k hk => ?_⟩
            · rw [gI_pM, q2, BI, AI0]
            · rw [gI_pM, q2, BI, AI1]
            · rw [gI_pM, q2, BI, AI x hx]
            · rw [gJ_pM, q3, BJ, AJ]
            · rw [gM_ne (by omega), q4 x (by omega) (by omega) (by omega) (by omega), BM x (by omega), AM x (by omega)]
            · rw [gM_ne (by omega), q4 52 (by omega) (by omega) (by omega) (by omega), BM 52 (by omega), A52 k hk]
            · rw [gM_ne (by omega), gM_ne (by omega), gM_ne (by omega)]
              exact q5 i hi
            · rw [gM_same, if_neg (by omega), q6, if_neg (by omega), B51, if_neg (by omega), if_pos (by omega)]
            · rw [gM_same, if_neg (by omega), q6]
              by_cases e1 : j = 1
              · subst e1
                rw [if_neg (by omega), B51, if_pos rfl, if_pos rfl]
              · by_cases e2 : 6 ≤ j ∧ j < 6 + ns
                · rw [if_pos (by omega), if_neg e1, if_pos e2, show 1 + j - 7 = j - 6 by omega]
                · rw [if_neg (by omega), if_neg e1, if_neg e2, B51, if_neg (by omega), if_pos (by omega)]
            · rw [gM_same, if_pos (by omega)]
theorem house_same {σ τ : QS} (h : Inv σ τ) (x : Int32) : Same (fX4_house_0 x σ) (fX5_house_50 x τ) := by
  have h0 := h
  obtain ⟨a1, a2, a3, a4, a5, a6, -⟩ := h0
  unfold fX4_house_0 fX5_house_50
  rcases pk_ix x (n := 4) (by omega) with hr | hr | ⟨t, ht, rfl⟩
  · rw [rop2_bad (Or.inl hr), text_bad (Or.inl hr), if_pos rfl, Option.bind_some, if_neg (by exact m1_ne)]
    exact Same.mk rfl rfl h
  · rw [rop2_bad (Or.inr hr), text_bad (Or.inr hr), if_pos rfl, Option.bind_some, if_neg (by exact m1_ne)]
    exact Same.mk rfl rfl h
  · rw [text_good ht, if_neg one_ne, ck_t (inb_n ht (by omega)), nI_c (by omega)]
    obtain ⟨e, hc⟩ := h.2.1 t ht
    rcases hc with hc | ⟨n, hn, hc, hq⟩
    · obtain ⟨σ', τ', q1, q2, q3⟩ := refuse_ok h (x := 1) (f := 1) rfl (by omega) (by omega)
      rw [rop2_no ht hc, q1, q2, ← e, hc, if_neg (show ¬ (0 : Int32) ≤ -1 by decide)]
      simp only [Option.bind_some]
      rw [if_neg (by exact m3_ne)]
      exact Same.mk rfl rfl q3
    · rw [rop2_yes ht hc hn, ← e, hc, if_pos (nI_pos' (by omega)), Option.bind_some, if_pos rfl]
      obtain ⟨hX, hT⟩ := h.tx ht hc hn
      obtain ⟨v, σ2, τ', r1, r2, r3, r4, -⟩ := read4_same hX hT
      rw [r1, r2, Option.bind_some, Option.bind_some]
      dsimp only
      by_cases cv : v = -9
      · rw [if_pos cv, if_pos cv]
        have hX2 : TX σ2 t n (gM σ (36 + t)) := ⟨ht, hn, by rw [r3.2.2 12 (by omega)]; exact hc, fun k hk => by rw [r3.2.2 (36 + t) (by omega)]⟩
        obtain ⟨v5, σ5, τ5, s1, s2, s3, s4, s5⟩ := read5_same hX2 hT
        have es : some (v, τ') = some (v5, τ5) := r2.symm.trans s2
        have ev5 : v5 = v := by injection es with w; injection w with w1 w2; exact w1.symm
        have et5 : τ5 = τ' := by injection es with w; injection w with w1 w2; exact w2.symm
        subst ev5 et5
        rw [s1, Option.bind_some, lt_q]
        obtain ⟨pr, m, j, U, cb, p1, p2, p3, p4, p5, p6, p7, p8, p9, d1, d2, d3, d4, d5, d6, d7, d8, d9⟩ := s5 cv
        have hbeg : BegOk σ5 j pr := ⟨p1, p2, fun i hi => by
          obtain ⟨k, s, m', f, k1, k2, k3, k4, k5, k6, k7, k8, k9, k10, k11, k12, k13⟩ := d9 i hi
          exact ⟨s, k2, k7⟩⟩
        obtain ⟨b1, b2, b3, b4, b5, b6⟩ := begin_ok d1 hbeg
        obtain ⟨τF, t1, w0, w1, w2, w3, w4, w5, w6, w7, w8, w9⟩ := hsR_e (τ := τ5) (m := m) (ns := j) (pr := pr) p5 d1 p7 d3 p3
        have L : lp_ (fun (r6 : Int32 × QS → Option (Int32 × QS)) (a5 : Int32 × QS) => (if (3 : Int32) ≤ a5.1 then some ((gI a5.2 9), a5.2) else Option.bind (fX3_drop_3 a5.1 a5.2) (fun (q7 : QS) => r6 ((a5.1 + (1 : Int32)), q7)))) FV ((0 : Int32), fX0_begin_6 σ5) = some (nI j, pM (fX0_begin_6 σ5) 14 (fun q => if q < 3 then (fun _ => (-1 : Int32)) q else gM (fX0_begin_6 σ5) 14 q)) := by
          refine for_fu (fun k => (nI k, pM (fX0_begin_6 σ5) 14 (fun q => if q < k then (fun _ => (-1 : Int32)) q else gM (fX0_begin_6 σ5) 14 q))) 3 ?_ (by omega) ?_ ?_
          · show _ = (nI 0, pM (fX0_begin_6 σ5) 14 (fun q => if q < 0 then (fun _ => (-1 : Int32)) q else gM (fX0_begin_6 σ5) 14 q))
            rw [fill_0, pM_self]
            rfl
          · intro r k hk
            dsimp only
            rw [if_neg (show ¬ (3 : Int32) ≤ nI k from by show ¬ nI 3 ≤ nI k; rw [nI_L (by omega) (by omega)]; omega), drop3_e hk, Option.bind_some, pM_pM, gM_same, nI_1]
            rw [upd_fill (g := fun _ => (-1 : Int32)) rfl]
          · intro r
            dsimp only
            rw [if_pos (show (3 : Int32) ≤ nI 3 by decide), gI_pM, b4 9 (by omega), d2]
        rw [L]
        refine Same.mk rfl t1 ?_
        have hi : ∀ k, k < 2 → gI (pM (fX0_begin_6 σ5) 14 (fun q => if q < 3 then (fun _ => (-1 : Int32)) q else gM (fX0_begin_6 σ5) 14 q)) k = gI σ k := fun k hk => by rw [gI_pM, b4 k (by omega), s3.1 k (by omega), r3.1 k (by omega)]
        have hi5 : ∀ k, (k < 12 ∨ 19 ≤ k) → gI (pM (fX0_begin_6 σ5) 14 (fun q => if q < 3 then (fun _ => (-1 : Int32)) q else gM (fX0_begin_6 σ5) 14 q)) k = gI σ5 k := fun k hk => b4 k hk
        have hj : ∀ k, gJ (pM (fX0_begin_6 σ5) 14 (fun q => if q < 3 then (fun _ => (-1 : Int32)) q else gM (fX0_begin_6 σ5) 14 q)) k = gJ σ k := fun k => by rw [gJ_pM, b5 k, s3.2.1 k, r3.2.1 k]
        have hm5 : ∀ k, k ≠ 14 → k ≠ 25 → gM (pM (fX0_begin_6 σ5) 14 (fun q => if q < 3 then (fun _ => (-1 : Int32)) q else gM (fX0_begin_6 σ5) 14 q)) k = gM σ5 k := fun k h1 h2 => by rw [gM_ne h1, b6 k h2]
        have hm : ∀ k, (k < 14 ∨ 25 < k) → gM (pM (fX0_begin_6 σ5) 14 (fun q => if q < 3 then (fun _ => (-1 : Int32)) q else gM (fX0_begin_6 σ5) 14 q)) k = gM σ k := fun k hk => by rw [hm5 k (by omega) (by omega), s3.2.2 k (by omega), r3.2.2 k (by omega)]
        have h14 : ∀ k, k < 3 → gM (pM (fX0_begin_6 σ5) 14 (fun q => if q < 3 then (fun _ => (-1 : Int32)) q else gM (fX0_begin_6 σ5) 14 q)) 14 k = -1 := fun k hk => by rw [gM_same, if_pos hk]
        have h12 : gI (pM (fX0_begin_6 σ5) 14 (fun q => if q < 3 then (fun _ => (-1 : Int32)) q else gM (fX0_begin_6 σ5) 14 q)) 12 = nI 0 := b1
        have hN : NightOk (pM (fX0_begin_6 σ5) 14 (fun q => if q < 3 then (fun _ => (-1 : Int32)) q else gM (fX0_begin_6 σ5) 14 q)) j (v0Of σ5 j) := by
          obtain ⟨x1, x2, x3, x4, x5, x6, x7⟩ := b3
          exact ⟨x1, x2, x3, x4, x5, x6, fun i hi => by rw [gM_ne (by omega)]; exact x7 i hi⟩
        generalize pM (fX0_begin_6 σ5) 14 (fun q => if q < 3 then (fun _ => (-1 : Int32)) q else gM (fX0_begin_6 σ5) 14 q) = σF at hi hi5 hj hm5 hm h14 h12 hN ⊢
        have tI : ∀ x, 2 ≤ x → x < 4 → gI τF x = gI τ x := fun x h1 h2 => by rw [w2 x h1, r4.1 x (by omega)]
        have tJ : ∀ x, gJ τF x = gJ τ x := fun x => by rw [w3 x, r4.2.1 x]
        have tM : ∀ x, 55 < x → x < 61 → gM τF x = gM τ x := fun x h1 h2 => by rw [w4 x (by omega), r4.2.2 x (by omega) (by omega)]
        have ev : v0Of σF j = v0Of σ5 j := by unfold v0Of; rw [hi5 7 (by omega), hm5 22 (by omega) (by omega)]
        refine ⟨a1.keep (hm _ (by omega)) (fun r hr => hm _ (by omega)) (tM 56 (by omega) (by omega)) (tM 57 (by omega) (by omega)), a2.keep (hm _ (by omega)) (fun r hr => hm _ (by omega)) (tM 58 (by omega) (by omega)) (tM 59 (by omega) (by omega)), a3.keep (hi 0 (by omega)) (hm _ (by omega)) (tI 3 (by omega) (by omega)) (tM 60 (by omega) (by omega)), ?_, ?_, a6.keep (fun n' hn' => hm _ (by omega)), j, m, pr, ?_, ?_, ?_, ?_⟩
        · unfold ToldOk; rw [hi 1 (by omega), tI 2 (by omega) (by omega)]; exact a4
        · unfold FracOk; rw [hj, hj, tJ, tJ]; exact a5
        · refine ⟨d1, p5, by omega, by rw [hi5 9 (by omega)]; exact d2, w1, by rw [hi5 8 (by omega)]; exact p6, w0, fun k hk => ?_, fun i hi' => ?_, cb, d8, by rw [hi5 11 (by omega)]; exact d7, fun i hi' => ?_⟩
          · rw [hm5 20 (by omega) (by omega), w5 k hk]
            exact p8 k hk
          · obtain ⟨k, s, m', f, k1, k2, k3, k4, k5, k6, k7, k8, k9, k10, k11, k12, k13⟩ := d9 i hi'
            obtain ⟨u1, u2, u3⟩ := w6 i hi'
            rw [hm5 21 (by omega) (by omega), hm5 23 (by omega) (by omega), hm5 24 (by omega) (by omega), u1, u2, u3]
            exact ⟨k5.trans k6.symm, k9.trans k10.symm, k11.trans k12.symm, ⟨k, k1, k5⟩, ⟨m', k3, k9⟩, ⟨f, k4, k11⟩⟩
          · obtain ⟨k, s, m', f, k1, k2, k3, k4, k5, k6, k7, k8, k9, k10, k11, k12, k13⟩ := d9 i hi'
            rw [k13, hm5 21 (by omega) (by omega), k5]
            by_cases e5 : k = 5
            · rw [decide_eq_true e5, decide_eq_true (show nI k = (5 : Int32) from by rw [e5]; rfl)]
            · rw [decide_eq_false e5, decide_eq_false (show ¬ nI k = (5 : Int32) from by show ¬ nI k = nI 5; rw [nI_e (by omega) (by omega)]; exact e5)]
        · unfold BegOk
          rw [hi5 7 (by omega), hm5 22 (by omega) (by omega)]
          exact hbeg
        · refine ⟨0, h12, ⟨by omega, w7, fun i hi' => ?_, fun k hk => absurd hk (by omega), fun k hk => absurd hk (by omega)⟩, ?_⟩
          · show gM τF 51 (0 + 1 + i) = v0Of σF j i
            rw [show 0 + 1 + i = 1 + i by omega, w8 i hi', ev]
            unfold v0Of
            by_cases e1 : i = 1
            · rw [if_pos e1, if_pos e1, p2]
            · rw [if_neg e1, if_neg e1]
              by_cases e2 : 6 ≤ i ∧ i < 6 + j
              · rw [if_pos e2, if_pos e2]
                obtain ⟨k, s, m', f, k1, k2, k3, k4, k5, k6, k7, k8, k9, k10, k11, k12, k13⟩ := d9 (i - 6) (by omega)
                rw [k7, k8]
              · rw [if_neg e2, if_neg e2]
          · show NightOk σF j (v0Of σF j)
            rw [ev]
            exact hN
        · intro k hk
          exact Or.inl ⟨h14 k hk, w9 k hk⟩
      · rw [if_neg cv, if_neg cv]
        refine Same.mk rfl rfl (h.keep ⟨fun k h1 h2 => r3.1 k (by omega), r3.2.2 14 (by omega), fun k h1 h2 => r3.2.2 k (by omega), fun k hk => r3.2.2 _ (by omega), r4.1 0 (by omega), r4.1 1 (by omega), r4.2.2 51 (by omega) (by omega), r4.2.2 52 (by omega) (by omega), r4.2.2 53 (by omega) (by omega), r4.2.2 54 (by omega) (by omega), r4.2.2 55 (by omega) (by omega)⟩ (r3.1 0 (by omega)) (r3.1 1 (by omega)) (r3.2.1 0) (r3.2.1 1) (r3.2.2 8 (by omega)) (r3.2.2 10 (by omega)) (r3.2.2 12 (by omega)) (fun k h1 h2 => r3.2.2 k (by omega)) (r4.1 2 (by omega)) (r4.1 3 (by omega)) (r4.2.1 0) (r4.2.1 1) (fun k h1 h2 => r4.2.2 k (by omega) (by omega)))
