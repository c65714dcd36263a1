/-! ===== the sitters, read on both sides ===== -/
theorem or_lt10 {a i : Nat} (ha : a < 1024) (hi : i < 10) : a ||| 2 ^ i < 1024 := by
  have h2 : 2 ^ i < 2 ^ 10 := Nat.pow_lt_pow_right (by omega) hi
  exact Nat.or_lt_two_pow (n := 10) ha h2
/-- what the class leaves as it reads a sitter -/
def frG (SI TS CB K S M F : Nat) (σ σ' : QS) : Prop := (∀ k, k ≠ SI → k ≠ TS → k ≠ CB → gI σ' k = gI σ k) ∧ (∀ k, gJ σ' k = gJ σ k) ∧ ∀ k, k ≠ K → k ≠ S → k ≠ M → k ≠ F → gM σ' k = gM σ k
theorem frG.tr {SI TS CB K S M F : Nat} {σ σ1 σ2 : QS} (h : frG SI TS CB K S M F σ σ1) (g : frG SI TS CB K S M F σ1 σ2) : frG SI TS CB K S M F σ σ2 := ⟨fun k a b c => (g.1 k a b c).trans (h.1 k a b c), fun k => (g.2.1 k).trans (h.2.1 k), fun k a b c d => (g.2.2 k a b c d).trans (h.2.2 k a b c d)⟩
theorem frG.rf {SI TS CB K S M F : Nat} (σ : QS) : frG SI TS CB K S M F σ σ := ⟨fun _ _ _ _ => rfl, fun _ => rfl, fun _ _ _ _ _ => rfl⟩
theorem frQ.rf (τ : QS) : frQ τ τ := ⟨fun _ _ _ _ => rfl, fun _ => rfl, fun _ _ => rfl⟩
theorem frG.tx {SI TS CB K S M F : Nat} {σ σ' : QS} (h : frG SI TS CB K S M F σ σ') (hK : 12 < K ∧ K < 36) (hS : 12 < S ∧ S < 36) (hM : 12 < M ∧ M < 36) (hF : 12 < F ∧ F < 36) {t n : Nat} {b : Nat → Int32} (hT : TX σ t n b) : TX σ' t n b := by
  obtain ⟨a1, a2, a3, a4⟩ := hT
  refine ⟨a1, a2, by rw [h.2.2 12 (by omega) (by omega) (by omega) (by omega)]; exact a3, fun j hj => ?_⟩
  rw [h.2.2 (36 + t) (by omega) (by omega) (by omega) (by omega)]
  exact a4 j hj
theorem frQ.rd {τ τ' : QS} (h : frQ τ τ') {t n : Nat} {b : Nat → Int32} {p q : Nat} (hR : RdR τ t n b p) (h5 : gI τ' 5 = nI q) : RdR τ' t n b q := by
  obtain ⟨h1, h2, h3, h4, h6, h7⟩ := hR
  exact ⟨h1, h2, by rw [h.1 4 (by omega) (by omega) (by omega)]; exact h3, h5, by rw [h.1 6 (by omega) (by omega) (by omega)]; exact h6, fun k hk => by rw [h.2.2 59 (by omega)]; exact h7 k hk⟩
/-- j sitters as both hold them -/
def siG (SI TS CB K S M F : Nat) (σ τ : QS) (j T cb : Nat) : Prop := j ≤ 6 ∧ gI σ SI = nI j ∧ gI τ 9 = nI j ∧ gI σ TS = nI T ∧ gI τ 10 = nI T ∧ T < 1024 ∧ gI σ CB = nI cb ∧ cb < 2 ^ j ∧ ∀ i, i < j → ∃ k s m f, k < 6 ∧ s < 10 ∧ m < 10 ∧ f < 10 ∧ gM σ K i = nI k ∧ gM τ 62 (4 * i) = nI k ∧ gM σ S i = nI s ∧ gM τ 62 (4 * i + 1) = nI s ∧ gM σ M i = nI m ∧ gM τ 62 (4 * i + 2) = nI m ∧ gM σ F i = nI f ∧ gM τ 62 (4 * i + 3) = nI f ∧ cb.testBit i = decide (k = 5)
theorem cb_new {cb j : Nat} (h : cb < 2 ^ j) (k : Nat) : (cb ||| (if k = 5 then 2 ^ j else 0)) < 2 ^ (j + 1) ∧ (∀ i, i < j → (cb ||| (if k = 5 then 2 ^ j else 0)).testBit i = cb.testBit i) ∧ (cb ||| (if k = 5 then 2 ^ j else 0)).testBit j = decide (k = 5) := by
  have l1 : cb < 2 ^ (j + 1) := Nat.lt_of_lt_of_le h (Nat.pow_le_pow_right (by omega) (by omega))
  have l2 : 2 ^ j < 2 ^ (j + 1) := Nat.pow_lt_pow_right (by omega) (by omega)
  have tb : cb.testBit j = false := Nat.testBit_lt_two_pow h
  by_cases e : k = 5
  · rw [if_pos e]
    refine ⟨Nat.or_lt_two_pow l1 l2, fun i hi => ?_, ?_⟩
    · rw [fb_bit_set, decide_eq_false (show ¬ i = j by omega), Bool.or_false]
    · rw [fb_bit_set, decide_eq_true rfl, Bool.or_true, decide_eq_true e]
  · rw [if_neg e, Nat.or_zero]
    exact ⟨l1, fun _ _ => rfl, by rw [tb, decide_eq_false e]⟩
theorem kind_fig : ∀ v, v < 10 → fX5_kindOfLetter (nI (48 + v)) = -9 := by
  intro v hv
  unfold fX5_kindOfLetter
  rw [if_neg (show ¬ nI (48 + v) = 115 from by show ¬ _ = nI 115; rw [nI_e (by omega) (by omega)]; omega), if_neg (show ¬ nI (48 + v) = 99 from by show ¬ _ = nI 99; rw [nI_e (by omega) (by omega)]; omega), if_neg (show ¬ nI (48 + v) = 107 from by show ¬ _ = nI 107; rw [nI_e (by omega) (by omega)]; omega), if_neg (show ¬ nI (48 + v) = 117 from by show ¬ _ = nI 117; rw [nI_e (by omega) (by omega)]; omega), if_neg (show ¬ nI (48 + v) = 119 from by show ¬ _ = nI 119; rw [nI_e (by omega) (by omega)]; omega), if_neg (show ¬ nI (48 + v) = 113 from by show ¬ _ = nI 113; rw [nI_e (by omega) (by omega)]; omega)]
theorem fgI_s (v : Nat) : fgI (some v) = nI v := rfl
theorem fgI_n : fgI none = -9 := rfl
theorem m9_lt : ¬ (0 : Int32) ≤ -9 := by decide
noncomputable def lR : (Int32 × QS → Option (Int32 × QS)) → Int32 × QS → Option (Int32 × QS) := (fun (r16 : Int32 × QS → Option (Int32 × QS)) (a15 : Int32 × QS) => lt_ (fun (_ : Unit) => (if a15.1 = 0 then some ((gI a15.2 5), a15.2) else (if (gI a15.2 9) ≤ 0 then some ((gI a15.2 5), a15.2) else some ((-9 : Int32), a15.2)))) (fun (j17 : Unit → Option (Int32 × QS)) => (if a15.1 = 0 then j17 () else (if (gI a15.2 6) ≤ (gI a15.2 5) then j17 () else Option.bind (fX5_readsSitter_50 a15.2) (fun (q18 : Int32 × QS) => (if q18.1 = 0 then r16 (q18.1, q18.2) else Option.bind (fX5_skip_50 q18.2) (fun (q19 : QS) => r16 (q18.1, q19))))))))
theorem lR_fail {τ : QS} (r : Int32 × QS → Option (Int32 × QS)) : lR r (0, τ) = some (gI τ 5, τ) := by
  unfold lR
  refine (lt_q _ _).trans ?_
  dsimp only
  rw [if_pos rfl, if_pos rfl]
theorem lR_end {τ : QS} {t n : Nat} {b : Nat → Int32} {p j : Nat} (h : RdR τ t n b p) (hp : n ≤ p) (hp2 : p < 1000) (h9 : gI τ 9 = nI j) (hj : j ≤ 6) (r : Int32 × QS → Option (Int32 × QS)) : lR r (1, τ) = some (if j = 0 then nI p else -9, τ) := by
  have hn := h.2.1
  unfold lR
  refine (lt_q _ _).trans ?_
  dsimp only
  rw [if_neg one_ne, h.2.2.2.2.1, h.2.2.2.1, if_pos (by rw [nI_L (by omega) (by omega)]; exact hp), if_neg one_ne, h9]
  by_cases e : j = 0
  · rw [if_pos (show nI j ≤ (0 : Int32) from by show nI j ≤ nI 0; rw [nI_L (by omega) (by omega)]; omega), if_pos e]
  · rw [if_neg (show ¬ nI j ≤ (0 : Int32) from by show ¬ nI j ≤ nI 0; rw [nI_L (by omega) (by omega)]; omega), if_neg e]
theorem lR_no {τ τ' : QS} {t n : Nat} {b : Nat → Int32} {p : Nat} (h : RdR τ t n b p) (hp : p < n) (hs : fX5_readsSitter_50 τ = some (0, τ')) (r : Int32 × QS → Option (Int32 × QS)) : lR r (1, τ) = r (0, τ') := by
  have hn := h.2.1
  unfold lR
  refine (lt_q _ _).trans ?_
  dsimp only
  rw [if_neg one_ne, h.2.2.2.2.1, h.2.2.2.1, if_neg (by rw [nI_L (by omega) (by omega)]; omega), hs, Option.bind_some, if_pos rfl]
theorem lR_yes {τ τ' : QS} {t n : Nat} {b : Nat → Int32} {p q : Nat} (h : RdR τ t n b p) (hp : p < n) (hs : fX5_readsSitter_50 τ = some (1, τ')) (h' : RdR τ' t n b q) (hq : q ≤ n) (r : Int32 × QS → Option (Int32 × QS)) : lR r (1, τ) = r (1, pI τ' 5 (nI (skN n b q))) := by
  have hn := h.2.1
  unfold lR
  refine (lt_q _ _).trans ?_
  dsimp only
  rw [if_neg one_ne, h.2.2.2.2.1, h.2.2.2.1, if_neg (by rw [nI_L (by omega) (by omega)]; omega), hs, Option.bind_some]
  dsimp only
  rw [if_neg one_ne, skR_e h' hq, Option.bind_some]
theorem rsC_kind_4 {σ : QS} {t n : Nat} {b : Nat → Int32} {q j : Nat} (h : TX σ t n b) (hq : q < n) (h4 : gI σ 4 = nI j) (hj : j ≤ 6) (hk : fX5_kindOfLetter (b q) = -9 ∨ j = 6) : fX1_readSitter_4_2 (nI t) (nI q) σ = some (0, σ) := by
  have hn := h.2.1
  have hby : byB n b q = b q := if_pos hq
  unfold fX1_readSitter_4_2
  rw [lt_q, h4, kindC_e h (by omega), Option.bind_some, hby]
  by_cases e : j = 6
  · rw [if_pos (show (6 : Int32) ≤ nI j from by show nI 6 ≤ nI j; rw [nI_L (by omega) (by omega)]; omega)]
  · rw [if_neg (show ¬ (6 : Int32) ≤ nI j from by show ¬ nI 6 ≤ nI j; rw [nI_L (by omega) (by omega)]; omega), if_pos (by rcases hk with w | w; exact w; exact absurd w e)]
theorem rsC_seat_4 {σ : QS} {t n : Nat} {b : Nat → Int32} {q j kd : Nat} (h : TX σ t n b) (hq : q < n) (h4 : gI σ 4 = nI j) (hj : j < 6) (hk : fX5_kindOfLetter (b q) = nI kd) (hkd : kd < 6) (hs : fgB n b (q + 1) = none) : fX1_readSitter_4_2 (nI t) (nI q) σ = some (1, σ) := by
  have hn := h.2.1
  have hby : byB n b q = b q := if_pos hq
  unfold fX1_readSitter_4_2
  rw [lt_q, h4, kindC_e h (by omega), Option.bind_some, hby, hk]
  have j6 : ¬ (6 : Int32) ≤ nI j := by
    show ¬ nI 6 ≤ nI j
    rw [nI_L (by omega) (by omega)]
    omega
  rw [if_neg j6, if_neg (nI_neg9 (by omega)), nI_1, figC_e h (by omega), Option.bind_some]
  rw [hs, fgI_n, if_pos (by decide)]
theorem rsC_taken_4 {σ : QS} {t n : Nat} {b : Nat → Int32} {q j kd : Nat} (h : TX σ t n b) (hq : q < n) (h4 : gI σ 4 = nI j) (hj : j < 6) (hk : fX5_kindOfLetter (b q) = nI kd) (hkd : kd < 6) {st T : Nat} (hs : fgB n b (q + 1) = some st) (hT : gI σ 5 = nI T) (hT2 : T < 1024) (hb : T.testBit st = true) : fX1_readSitter_4_2 (nI t) (nI q) σ = some (1, σ) := by
  have hn := h.2.1
  have st10 := (fg_some hs).1
  have hby : byB n b q = b q := if_pos hq
  unfold fX1_readSitter_4_2
  rw [lt_q, h4, kindC_e h (by omega), Option.bind_some, hby, hk]
  have j6 : ¬ (6 : Int32) ≤ nI j := by
    show ¬ nI 6 ≤ nI j
    rw [nI_L (by omega) (by omega)]
    omega
  rw [if_neg j6, if_neg (nI_neg9 (by omega)), nI_1, figC_e h (by omega), Option.bind_some]
  rw [hs, fgI_s, if_neg (nneg (by omega)), hT, isIn_e (by omega) (by omega), hb, if_pos rfl, if_neg one_ne]
noncomputable def rc4 (σ : QS) (j kd st : Nat) (me fr : Int32) : QS := pM (pM (pM (pM σ 16 (upd (gM σ 16) j (nI kd))) 17 (upd (gM σ 17) j (nI st))) 18 (upd (gM σ 18) j me)) 19 (upd (gM σ 19) j fr)
theorem rc4_fr (σ : QS) (j kd st : Nat) (me fr : Int32) : frG 4 5 6 16 17 18 19 σ (rc4 σ j kd st me fr) := by
  unfold rc4
  exact ⟨fun _ _ _ _ => rfl, fun _ => rfl, fun k a b c d => by rw [gM_ne d, gM_ne c, gM_ne b, gM_ne a]⟩
theorem rsC_mem_4 {σ : QS} {t n : Nat} {b : Nat → Int32} {q j kd : Nat} (h : TX σ t n b) (hq : q < n) (h4 : gI σ 4 = nI j) (hj : j < 6) (hk : fX5_kindOfLetter (b q) = nI kd) (hkd : kd < 6) {st T : Nat} (hs : fgB n b (q + 1) = some st) (hT : gI σ 5 = nI T) (hT2 : T < 1024) (hb : T.testBit st = false) (hm : fgB n b (q + 2) = none) : fX1_readSitter_4_2 (nI t) (nI q) σ = some (2, rc4 σ j kd st (-9) (fgI (fgB n b (q + 3)))) := by
  have hn := h.2.1
  have st10 := (fg_some hs).1
  have hby : byB n b q = b q := if_pos hq
  unfold fX1_readSitter_4_2
  rw [lt_q, h4, kindC_e h (by omega), Option.bind_some, hby, hk]
  have j6 : ¬ (6 : Int32) ≤ nI j := by
    show ¬ nI 6 ≤ nI j
    rw [nI_L (by omega) (by omega)]
    omega
  rw [if_neg j6, if_neg (nI_neg9 (by omega)), nI_1, figC_e h (by omega), Option.bind_some]
  have T2 := ((h.m (k := 16) (by omega) (by omega) (upd (gM σ 16) j (nI kd))).m (k := 17) (by omega) (by omega) (upd (gM σ 17) j (nI st)))
  have q2 : nI q + (2 : Int32) = nI (q + 2) := nI_add q 2
  have q3 : nI q + (3 : Int32) = nI (q + 3) := nI_add q 3
  have ib := inb_n (k := j) (n := 6) (by omega) (by omega)
  rw [hs, fgI_s, if_neg (nneg (by omega)), hT, isIn_e (by omega) (by omega), hb, if0, if_pos rfl, ck_t ib, nI_c (by omega), lt_q, ck_t ib, lt_q, gM_ne (show 17 ≠ 16 by omega), q2, figC_e T2 (by omega), Option.bind_some, ck_t ib, lt_q, gM_ne (show 18 ≠ 17 by omega), gM_ne (show 18 ≠ 16 by omega)]
  rw [hm, fgI_n, q3, figC_e (T2.m (k := 18) (by omega) (by omega) _) (by omega), Option.bind_some, ck_t ib, lt_q, ck_t ib, gM_ne (show 18 ≠ 19 by omega), gM_same, upd_same]
  rw [gM_ne (show 19 ≠ 18 by omega), gM_ne (show 19 ≠ 17 by omega), gM_ne (show 19 ≠ 16 by omega)]
  rw [if_neg m9_lt]
  rfl
theorem rsC_fri_4 {σ : QS} {t n : Nat} {b : Nat → Int32} {q j kd : Nat} (h : TX σ t n b) (hq : q < n) (h4 : gI σ 4 = nI j) (hj : j < 6) (hk : fX5_kindOfLetter (b q) = nI kd) (hkd : kd < 6) {st T me : Nat} (hs : fgB n b (q + 1) = some st) (hT : gI σ 5 = nI T) (hT2 : T < 1024) (hb : T.testBit st = false) (hm : fgB n b (q + 2) = some me) (hf : fgB n b (q + 3) = none) : fX1_readSitter_4_2 (nI t) (nI q) σ = some (3, rc4 σ j kd st (nI me) (-9)) := by
  have hn := h.2.1
  have st10 := (fg_some hs).1
  have me10 := (fg_some hm).1
  have hby : byB n b q = b q := if_pos hq
  unfold fX1_readSitter_4_2
  rw [lt_q, h4, kindC_e h (by omega), Option.bind_some, hby, hk]
  have j6 : ¬ (6 : Int32) ≤ nI j := by
    show ¬ nI 6 ≤ nI j
    rw [nI_L (by omega) (by omega)]
    omega
  rw [if_neg j6, if_neg (nI_neg9 (by omega)), nI_1, figC_e h (by omega), Option.bind_some]
  have T2 := ((h.m (k := 16) (by omega) (by omega) (upd (gM σ 16) j (nI kd))).m (k := 17) (by omega) (by omega) (upd (gM σ 17) j (nI st)))
  have q2 : nI q + (2 : Int32) = nI (q + 2) := nI_add q 2
  have q3 : nI q + (3 : Int32) = nI (q + 3) := nI_add q 3
  have ib := inb_n (k := j) (n := 6) (by omega) (by omega)
  rw [hs, fgI_s, if_neg (nneg (by omega)), hT, isIn_e (by omega) (by omega), hb, if0, if_pos rfl, ck_t ib, nI_c (by omega), lt_q, ck_t ib, lt_q, gM_ne (show 17 ≠ 16 by omega), q2, figC_e T2 (by omega), Option.bind_some, ck_t ib, lt_q, gM_ne (show 18 ≠ 17 by omega), gM_ne (show 18 ≠ 16 by omega)]
  rw [hm, fgI_s, q3, figC_e (T2.m (k := 18) (by omega) (by omega) _) (by omega), Option.bind_some, ck_t ib, lt_q, ck_t ib, gM_ne (show 18 ≠ 19 by omega), gM_same, upd_same]
  rw [gM_ne (show 19 ≠ 18 by omega), gM_ne (show 19 ≠ 17 by omega), gM_ne (show 19 ≠ 16 by omega), hf, fgI_n]
  rw [if_pos (nI_pos' (by omega)), ck_t ib, gM_same, upd_same]
  rw [if_neg m9_lt]
  rfl
theorem rsC_ok_4 {σ : QS} {t n : Nat} {b : Nat → Int32} {q j kd : Nat} (h : TX σ t n b) (hq : q < n) (h4 : gI σ 4 = nI j) (hj : j < 6) (hk : fX5_kindOfLetter (b q) = nI kd) (hkd : kd < 6) {st T me fr cb : Nat} (hs : fgB n b (q + 1) = some st) (hT : gI σ 5 = nI T) (hT2 : T < 1024) (hb : T.testBit st = false) (hm : fgB n b (q + 2) = some me) (hf : fgB n b (q + 3) = some fr) (hC : gI σ 6 = nI cb) : fX1_readSitter_4_2 (nI t) (nI q) σ = some (4, pI (pI (pI (rc4 σ j kd st (nI me) (nI fr)) 5 (nI (T ||| 2 ^ st))) 6 (nI (cb ||| (if kd = 5 then 2 ^ j else 0)))) 4 (nI (j + 1))) := by
  have hn := h.2.1
  have st10 := (fg_some hs).1
  have me10 := (fg_some hm).1
  have fr10 := (fg_some hf).1
  have hby : byB n b q = b q := if_pos hq
  unfold fX1_readSitter_4_2
  rw [lt_q, h4, kindC_e h (by omega), Option.bind_some, hby, hk]
  have j6 : ¬ (6 : Int32) ≤ nI j := by
    show ¬ nI 6 ≤ nI j
    rw [nI_L (by omega) (by omega)]
    omega
  rw [if_neg j6, if_neg (nI_neg9 (by omega)), nI_1, figC_e h (by omega), Option.bind_some]
  have T2 := ((h.m (k := 16) (by omega) (by omega) (upd (gM σ 16) j (nI kd))).m (k := 17) (by omega) (by omega) (upd (gM σ 17) j (nI st)))
  have q2 : nI q + (2 : Int32) = nI (q + 2) := nI_add q 2
  have q3 : nI q + (3 : Int32) = nI (q + 3) := nI_add q 3
  have ib := inb_n (k := j) (n := 6) (by omega) (by omega)
  rw [hs, fgI_s, if_neg (nneg (by omega)), hT, isIn_e (by omega) (by omega), hb, if0, if_pos rfl, ck_t ib, nI_c (by omega), lt_q, ck_t ib, lt_q, gM_ne (show 17 ≠ 16 by omega), q2, figC_e T2 (by omega), Option.bind_some, ck_t ib, lt_q, gM_ne (show 18 ≠ 17 by omega), gM_ne (show 18 ≠ 16 by omega)]
  rw [hm, fgI_s, q3, figC_e (T2.m (k := 18) (by omega) (by omega) _) (by omega), Option.bind_some, ck_t ib, lt_q, ck_t ib, gM_ne (show 18 ≠ 19 by omega), gM_same, upd_same]
  rw [gM_ne (show 19 ≠ 18 by omega), gM_ne (show 19 ≠ 17 by omega), gM_ne (show 19 ≠ 16 by omega), hf, fgI_s]
  rw [if_pos (nI_pos' (by omega)), ck_t ib, gM_same, upd_same]
  rw [if_pos (nI_pos' (by omega)), lt_q]
  refine (lt_q _ _).trans ?_
  rw [shl_e (show st < 31 by omega), shl_e (show j < 31 by omega)]
  have g10 : ∀ s : QS, s.1 = σ.1 → gI s 5 = nI T := fun s w => by unfold gI; rw [w]; exact hT
  by_cases e5 : kd = 5
  · rw [if_pos (show nI kd = (5 : Int32) from by rw [e5]; rfl), if_pos e5]
    simp only [lt_q]
    rw [gI_ne (show 6 ≠ 5 by omega)]
    show some ((4 : Int32), pI (pI (pI (rc4 σ j kd st (nI me) (nI fr)) 5 (gI σ 5 ||| nI (2 ^ st))) 6 (gI σ 6 ||| nI (2 ^ j))) 4 (nI j + 1)) = _
    rw [hT, hC, fa_or, fa_or, nI_1]
  · rw [if_neg (show ¬ nI kd = (5 : Int32) from by show ¬ nI kd = nI 5; rw [nI_e (by omega) (by omega)]; exact e5), if_neg e5]
    simp only [lt_q]
    rw [gI_ne (show 6 ≠ 5 by omega)]
    show some ((4 : Int32), pI (pI (pI (rc4 σ j kd st (nI me) (nI fr)) 5 (gI σ 5 ||| nI (2 ^ st))) 6 (gI σ 6 ||| nI 0)) 4 (nI j + 1)) = _
    rw [hT, hC, fa_or, fa_or, nI_1]
theorem sit_step_4 {σ τ : QS} {t n : Nat} {b : Nat → Int32} {q j T cb : Nat} (h : TX σ t n b) (hR : RdR τ t n b q) (hq : q < n) (hd : siG 4 5 6 16 17 18 19 σ τ j T cb) : (∃ r σ' τ', r < 4 ∧ fX1_readSitter_4_2 (nI t) (nI q) σ = some (nI r, σ') ∧ fX5_readsSitter_50 τ = some (0, τ') ∧ frG 4 5 6 16 17 18 19 σ σ' ∧ frQ τ τ' ∧ gI τ' 5 = nI (q + r)) ∨ (∃ σ' τ' T' cb', q + 4 ≤ n ∧ j < 6 ∧ fX1_readSitter_4_2 (nI t) (nI q) σ = some (4, σ') ∧ fX5_readsSitter_50 τ = some (1, τ') ∧ frG 4 5 6 16 17 18 19 σ σ' ∧ frQ τ τ' ∧ gI τ' 5 = nI (q + 4) ∧ siG 4 5 6 16 17 18 19 σ' τ' (j + 1) T' cb') := by
  obtain ⟨d1, d2, d3, d4, d5, d6, d7, d8, d9⟩ := hd
  have g5 := hR.2.2.2.1
  by_cases e6 : j = 6
  · exact Or.inl ⟨0, σ, τ, by omega, rsC_kind_4 h hq d2 d1 (Or.inr e6), rsR_kind hR hq (Or.inr (by rw [d3, e6]; rfl)), frG.rf _, frQ.rf _, g5⟩
  have j6 : j < 6 := by omega
  have h96 : gI τ 9 ≠ 6 := by
    rw [d3]
    show ¬ nI j = nI 6
    rw [nI_e (by omega) (by omega)]
    omega
  rcases kind_v (b q) with hk | ⟨kd, hkd, hk⟩
  · exact Or.inl ⟨0, σ, τ, by omega, rsC_kind_4 h hq d2 d1 (Or.inl hk), rsR_kind hR hq (Or.inl hk), frG.rf _, frQ.rf _, g5⟩
  cases hs : fgB n b (q + 1) with
  | none => exact Or.inl ⟨1, σ, _, by omega, rsC_seat_4 h hq d2 j6 hk hkd hs, rsR_seat hR hq hk hkd h96 hs, frG.rf _, frQ.i5 _ _, gI_same _ _ _⟩
  | some st =>
    by_cases hb : T.testBit st = true
    · exact Or.inl ⟨1, σ, _, by omega, rsC_taken_4 h hq d2 j6 hk hkd hs d4 d6 hb, rsR_taken hR hq hk hkd h96 hs d5 d6 hb, frG.rf _, frQ.i5 _ _, gI_same _ _ _⟩
    · have hb' : T.testBit st = false := by simpa using hb
      cases hm : fgB n b (q + 2) with
      | none => exact Or.inl ⟨2, _, _, by omega, rsC_mem_4 h hq d2 j6 hk hkd hs d4 d6 hb' hm, rsR_mem hR hq hk hkd h96 hs d5 d6 hb' hm, rc4_fr _ _ _ _ _ _, frQ.i5 _ _, gI_same _ _ _⟩
      | some me =>
        cases hf : fgB n b (q + 3) with
        | none => exact Or.inl ⟨3, _, _, by omega, rsC_fri_4 h hq d2 j6 hk hkd hs d4 d6 hb' hm hf, rsR_fri hR hq hk hkd h96 hs d5 d6 hb' hm hf, rc4_fr _ _ _ _ _ _, frQ.i5 _ _, gI_same _ _ _⟩
        | some fr =>
          obtain ⟨st10, -, -, -⟩ := fg_some hs
          obtain ⟨me10, -, -, -⟩ := fg_some hm
          obtain ⟨fr10, -, -, q3n⟩ := fg_some hf
          obtain ⟨c1, c2, c3⟩ := cb_new d8 kd
          refine Or.inr ⟨_, _, T ||| 2 ^ st, cb ||| (if kd = 5 then 2 ^ j else 0), by omega, j6, rsC_ok_4 h hq d2 j6 hk hkd hs d4 d6 hb' hm hf d7, rsR_ok hR hq hk hkd d3 j6 hs d5 d6 hb' hm hf, ?_, ?_, ?_, ?_⟩
          · have f := rc4_fr σ j kd st (nI me) (nI fr)
            refine ⟨fun k x1 x2 x3 => ?_, fun k => f.2.1 k, fun k x1 x2 x3 x4 => f.2.2 k x1 x2 x3 x4⟩
            rw [gI_ne x1, gI_ne x3, gI_ne x2]
            exact f.1 k x1 x2 x3
          · unfold okT
            refine ⟨fun k x1 x2 x3 => ?_, fun k => rfl, fun k x1 => ?_⟩
            · rw [gI_ne x2, gI_ne x3]
              exact gI_ne x1
            · exact gM_ne x1
          · unfold okT
            rw [gI_ne (by omega), gI_ne (by omega)]
            show gI (pI τ 5 (nI (q + 4))) 5 = _
            exact gI_same _ _ _
          · refine ⟨by omega, gI_same _ _ _, gI_same _ _ _, ?_, ?_, or_lt10 d6 st10, ?_, c1, fun i hi => ?_⟩
            · rw [gI_ne (by omega), gI_ne (by omega)]; exact gI_same _ _ _
            · unfold okT; rw [gI_ne (by omega)]; exact gI_same _ _ _
            · rw [gI_ne (by omega)]; exact gI_same _ _ _
            · have r1 : gM (pI (pI (pI (rc4 σ j kd st (nI me) (nI fr)) 5 (nI (T ||| 2 ^ st))) 6 (nI (cb ||| (if kd = 5 then 2 ^ j else 0)))) 4 (nI (j + 1))) 16 i = upd (gM σ 16) j (nI kd) i := rfl
              have r2 : gM (pI (pI (pI (rc4 σ j kd st (nI me) (nI fr)) 5 (nI (T ||| 2 ^ st))) 6 (nI (cb ||| (if kd = 5 then 2 ^ j else 0)))) 4 (nI (j + 1))) 17 i = upd (gM σ 17) j (nI st) i := rfl
              have r3 : gM (pI (pI (pI (rc4 σ j kd st (nI me) (nI fr)) 5 (nI (T ||| 2 ^ st))) 6 (nI (cb ||| (if kd = 5 then 2 ^ j else 0)))) 4 (nI (j + 1))) 18 i = upd (gM σ 18) j (nI me) i := rfl
              have r4 : gM (pI (pI (pI (rc4 σ j kd st (nI me) (nI fr)) 5 (nI (T ||| 2 ^ st))) 6 (nI (cb ||| (if kd = 5 then 2 ^ j else 0)))) 4 (nI (j + 1))) 19 i = upd (gM σ 19) j (nI fr) i := rfl
              have r5 : ∀ y, gM (okT τ q j kd st me fr T) 62 y = upd (upd (upd (upd (gM τ 62) (4 * j) (nI kd)) (4 * j + 1) (nI st)) (4 * j + 2) (nI me)) (4 * j + 3) (nI fr) y := fun _ => rfl
              by_cases ei : i = j
              · subst ei
                refine ⟨kd, st, me, fr, hkd, st10, me10, fr10, ?_, ?_, ?_, ?_, ?_, ?_, ?_, ?_, c3⟩
                · rw [r1, upd_same]
                · rw [r5, upd_ne (by omega), upd_ne (by omega), upd_ne (by omega), upd_same]
                · rw [r2, upd_same]
                · rw [r5, upd_ne (by omega), upd_ne (by omega), upd_same]
                · rw [r3, upd_same]
                · rw [r5, upd_ne (by omega), upd_same]
                · rw [r4, upd_same]
                · rw [r5, upd_same]
              · obtain ⟨k, s, m, f, k1, k2, k3, k4, k5, k6, k7, k8, k9, k10, k11, k12, k13⟩ := d9 i (by omega)
                refine ⟨k, s, m, f, k1, k2, k3, k4, ?_, ?_, ?_, ?_, ?_, ?_, ?_, ?_, (c2 i (by omega)).trans k13⟩
                · rw [r1, upd_ne ei, k5]
                · rw [r5, upd_ne (by omega), upd_ne (by omega), upd_ne (by omega), upd_ne (by omega), k6]
                · rw [r2, upd_ne ei, k7]
                · rw [r5, upd_ne (by omega), upd_ne (by omega), upd_ne (by omega), upd_ne (by omega), k8]
                · rw [r3, upd_ne ei, k9]
                · rw [r5, upd_ne (by omega), upd_ne (by omega), upd_ne (by omega), upd_ne (by omega), k10]
                · rw [r4, upd_ne ei, k11]
                · rw [r5, upd_ne (by omega), upd_ne (by omega), upd_ne (by omega), upd_ne (by omega), k12]
theorem rsC_kind_5 {σ : QS} {t n : Nat} {b : Nat → Int32} {q j : Nat} (h : TX σ t n b) (hq : q < n) (h4 : gI σ 9 = nI j) (hj : j ≤ 6) (hk : fX5_kindOfLetter (b q) = -9 ∨ j = 6) : fX1_readSitter_5_2 (nI t) (nI q) σ = some (0, σ) := by
  have hn := h.2.1
  have hby : byB n b q = b q := if_pos hq
  unfold fX1_readSitter_5_2
  rw [lt_q, h4, kindC_e h (by omega), Option.bind_some, hby]
  by_cases e : j = 6
  · rw [if_pos (show (6 : Int32) ≤ nI j from by show nI 6 ≤ nI j; rw [nI_L (by omega) (by omega)]; omega)]
  · rw [if_neg (show ¬ (6 : Int32) ≤ nI j from by show ¬ nI 6 ≤ nI j; rw [nI_L (by omega) (by omega)]; omega), if_pos (by rcases hk with w | w; exact w; exact absurd w e)]
theorem rsC_seat_5 {σ : QS} {t n : Nat} {b : Nat → Int32} {q j kd : Nat} (h : TX σ t n b) (hq : q < n) (h4 : gI σ 9 = nI j) (hj : j < 6) (hk : fX5_kindOfLetter (b q) = nI kd) (hkd : kd < 6) (hs : fgB n b (q + 1) = none) : fX1_readSitter_5_2 (nI t) (nI q) σ = some (1, σ) := by
  have hn := h.2.1
  have hby : byB n b q = b q := if_pos hq
  unfold fX1_readSitter_5_2
  rw [lt_q, h4, kindC_e h (by omega), Option.bind_some, hby, hk]
  have j6 : ¬ (6 : Int32) ≤ nI j := by
    show ¬ nI 6 ≤ nI j
    rw [nI_L (by omega) (by omega)]
    omega
  rw [if_neg j6, if_neg (nI_neg9 (by omega)), nI_1, figC_e h (by omega), Option.bind_some]
  rw [hs, fgI_n, if_pos (by decide)]
theorem rsC_taken_5 {σ : QS} {t n : Nat} {b : Nat → Int32} {q j kd : Nat} (h : TX σ t n b) (hq : q < n) (h4 : gI σ 9 = nI j) (hj : j < 6) (hk : fX5_kindOfLetter (b q) = nI kd) (hkd : kd < 6) {st T : Nat} (hs : fgB n b (q + 1) = some st) (hT : gI σ 10 = nI T) (hT2 : T < 1024) (hb : T.testBit st = true) : fX1_readSitter_5_2 (nI t) (nI q) σ = some (1, σ) := by
  have hn := h.2.1
  have st10 := (fg_some hs).1
  have hby : byB n b q = b q := if_pos hq
  unfold fX1_readSitter_5_2
  rw [lt_q, h4, kindC_e h (by omega), Option.bind_some, hby, hk]
  have j6 : ¬ (6 : Int32) ≤ nI j := by
    show ¬ nI 6 ≤ nI j
    rw [nI_L (by omega) (by omega)]
    omega
  rw [if_neg j6, if_neg (nI_neg9 (by omega)), nI_1, figC_e h (by omega), Option.bind_some]
  rw [hs, fgI_s, if_neg (nneg (by omega)), hT, isIn_e (by omega) (by omega), hb, if_pos rfl, if_neg one_ne]
noncomputable def rc5 (σ : QS) (j kd st : Nat) (me fr : Int32) : QS := pM (pM (pM (pM σ 21 (upd (gM σ 21) j (nI kd))) 22 (upd (gM σ 22) j (nI st))) 23 (upd (gM σ 23) j me)) 24 (upd (gM σ 24) j fr)
theorem rc5_fr (σ : QS) (j kd st : Nat) (me fr : Int32) : frG 9 10 11 21 22 23 24 σ (rc5 σ j kd st me fr) := by
  unfold rc5
  exact ⟨fun _ _ _ _ => rfl, fun _ => rfl, fun k a b c d => by rw [gM_ne d, gM_ne c, gM_ne b, gM_ne a]⟩
theorem rsC_mem_5 {σ : QS} {t n : Nat} {b : Nat → Int32} {q j kd : Nat} (h : TX σ t n b) (hq : q < n) (h4 : gI σ 9 = nI j) (hj : j < 6) (hk : fX5_kindOfLetter (b q) = nI kd) (hkd : kd < 6) {st T : Nat} (hs : fgB n b (q + 1) = some st) (hT : gI σ 10 = nI T) (hT2 : T < 1024) (hb : T.testBit st = false) (hm : fgB n b (q + 2) = none) : fX1_readSitter_5_2 (nI t) (nI q) σ = some (2, rc5 σ j kd st (-9) (fgI (fgB n b (q + 3)))) := by
  have hn := h.2.1
  have st10 := (fg_some hs).1
  have hby : byB n b q = b q := if_pos hq
  unfold fX1_readSitter_5_2
  rw [lt_q, h4, kindC_e h (by omega), Option.bind_some, hby, hk]
  have j6 : ¬ (6 : Int32) ≤ nI j := by
    show ¬ nI 6 ≤ nI j
    rw [nI_L (by omega) (by omega)]
    omega
  rw [if_neg j6, if_neg (nI_neg9 (by omega)), nI_1, figC_e h (by omega), Option.bind_some]
  have T2 := ((h.m (k := 21) (by omega) (by omega) (upd (gM σ 21) j (nI kd))).m (k := 22) (by omega) (by omega) (upd (gM σ 22) j (nI st)))
  have q2 : nI q + (2 : Int32) = nI (q + 2) := nI_add q 2
  have q3 : nI q + (3 : Int32) = nI (q + 3) := nI_add q 3
  have ib := inb_n (k := j) (n := 6) (by omega) (by omega)
  rw [hs, fgI_s, if_neg (nneg (by omega)), hT, isIn_e (by omega) (by omega), hb, if0, if_pos rfl, ck_t ib, nI_c (by omega), lt_q, ck_t ib, lt_q, gM_ne (show 22 ≠ 21 by omega), q2, figC_e T2 (by omega), Option.bind_some, ck_t ib, lt_q, gM_ne (show 23 ≠ 22 by omega), gM_ne (show 23 ≠ 21 by omega)]
  rw [hm, fgI_n, q3, figC_e (T2.m (k := 23) (by omega) (by omega) _) (by omega), Option.bind_some, ck_t ib, lt_q, ck_t ib, gM_ne (show 23 ≠ 24 by omega), gM_same, upd_same]
  rw [gM_ne (show 24 ≠ 23 by omega), gM_ne (show 24 ≠ 22 by omega), gM_ne (show 24 ≠ 21 by omega)]
  rw [if_neg m9_lt]
  rfl
theorem rsC_fri_5 {σ : QS} {t n : Nat} {b : Nat → Int32} {q j kd : Nat} (h : TX σ t n b) (hq : q < n) (h4 : gI σ 9 = nI j) (hj : j < 6) (hk : fX5_kindOfLetter (b q) = nI kd) (hkd : kd < 6) {st T me : Nat} (hs : fgB n b (q + 1) = some st) (hT : gI σ 10 = nI T) (hT2 : T < 1024) (hb : T.testBit st = false) (hm : fgB n b (q + 2) = some me) (hf : fgB n b (q + 3) = none) : fX1_readSitter_5_2 (nI t) (nI q) σ = some (3, rc5 σ j kd st (nI me) (-9)) := by
  have hn := h.2.1
  have st10 := (fg_some hs).1
  have me10 := (fg_some hm).1
  have hby : byB n b q = b q := if_pos hq
  unfold fX1_readSitter_5_2
  rw [lt_q, h4, kindC_e h (by omega), Option.bind_some, hby, hk]
  have j6 : ¬ (6 : Int32) ≤ nI j := by
    show ¬ nI 6 ≤ nI j
    rw [nI_L (by omega) (by omega)]
    omega
  rw [if_neg j6, if_neg (nI_neg9 (by omega)), nI_1, figC_e h (by omega), Option.bind_some]
  have T2 := ((h.m (k := 21) (by omega) (by omega) (upd (gM σ 21) j (nI kd))).m (k := 22) (by omega) (by omega) (upd (gM σ 22) j (nI st)))
  have q2 : nI q + (2 : Int32) = nI (q + 2) := nI_add q 2
  have q3 : nI q + (3 : Int32) = nI (q + 3) := nI_add q 3
  have ib := inb_n (k := j) (n := 6) (by omega) (by omega)
  rw [hs, fgI_s, if_neg (nneg (by omega)), hT, isIn_e (by omega) (by omega), hb, if0, if_pos rfl, ck_t ib, nI_c (by omega), lt_q, ck_t ib, lt_q, gM_ne (show 22 ≠ 21 by omega), q2, figC_e T2 (by omega), Option.bind_some, ck_t ib, lt_q, gM_ne (show 23 ≠ 22 by omega), gM_ne (show 23 ≠ 21 by omega)]
  rw [hm, fgI_s, q3, figC_e (T2.m (k := 23) (by omega) (by omega) _) (by omega), Option.bind_some, ck_t ib, lt_q, ck_t ib, gM_ne (show 23 ≠ 24 by omega), gM_same, upd_same]
  rw [gM_ne (show 24 ≠ 23 by omega), gM_ne (show 24 ≠ 22 by omega), gM_ne (show 24 ≠ 21 by omega), hf, fgI_n]
  rw [if_pos (nI_pos' (by omega)), ck_t ib, gM_same, upd_same]
  rw [if_neg m9_lt]
  rfl
theorem rsC_ok_5 {σ : QS} {t n : Nat} {b : Nat → Int32} {q j kd : Nat} (h : TX σ t n b) (hq : q < n) (h4 : gI σ 9 = nI j) (hj : j < 6) (hk : fX5_kindOfLetter (b q) = nI kd) (hkd : kd < 6) {st T me fr cb : Nat} (hs : fgB n b (q + 1) = some st) (hT : gI σ 10 = nI T) (hT2 : T < 1024) (hb : T.testBit st = false) (hm : fgB n b (q + 2) = some me) (hf : fgB n b (q + 3) = some fr) (hC : gI σ 11 = nI cb) : fX1_readSitter_5_2 (nI t) (nI q) σ = some (4, pI (pI (pI (rc5 σ j kd st (nI me) (nI fr)) 10 (nI (T ||| 2 ^ st))) 11 (nI (cb ||| (if kd = 5 then 2 ^ j else 0)))) 9 (nI (j + 1))) := by
  have hn := h.2.1
  have st10 := (fg_some hs).1
  have me10 := (fg_some hm).1
  have fr10 := (fg_some hf).1
  have hby : byB n b q = b q := if_pos hq
  unfold fX1_readSitter_5_2
  rw [lt_q, h4, kindC_e h (by omega), Option.bind_some, hby, hk]
  have j6 : ¬ (6 : Int32) ≤ nI j := by
    show ¬ nI 6 ≤ nI j
    rw [nI_L (by omega) (by omega)]
    omega
  rw [if_neg j6, if_neg (nI_neg9 (by omega)), nI_1, figC_e h (by omega), Option.bind_some]
  have T2 := ((h.m (k := 21) (by omega) (by omega) (upd (gM σ 21) j (nI kd))).m (k := 22) (by omega) (by omega) (upd (gM σ 22) j (nI st)))
  have q2 : nI q + (2 : Int32) = nI (q + 2) := nI_add q 2
  have q3 : nI q + (3 : Int32) = nI (q + 3) := nI_add q 3
  have ib := inb_n (k := j) (n := 6) (by omega) (by omega)
  rw [hs, fgI_s, if_neg (nneg (by omega)), hT, isIn_e (by omega) (by omega), hb, if0, if_pos rfl, ck_t ib, nI_c (by omega), lt_q, ck_t ib, lt_q, gM_ne (show 22 ≠ 21 by omega), q2, figC_e T2 (by omega), Option.bind_some, ck_t ib, lt_q, gM_ne (show 23 ≠ 22 by omega), gM_ne (show 23 ≠ 21 by omega)]
  rw [hm, fgI_s, q3, figC_e (T2.m (k := 23) (by omega) (by omega) _) (by omega), Option.bind_some, ck_t ib, lt_q, ck_t ib, gM_ne (show 23 ≠ 24 by omega), gM_same, upd_same]
  rw [gM_ne (show 24 ≠ 23 by omega), gM_ne (show 24 ≠ 22 by omega), gM_ne (show 24 ≠ 21 by omega), hf, fgI_s]
  rw [if_pos (nI_pos' (by omega)), ck_t ib, gM_same, upd_same]
  rw [if_pos (nI_pos' (by omega)), lt_q]
  refine (lt_q _ _).trans ?_
  rw [shl_e (show st < 31 by omega), shl_e (show j < 31 by omega)]
  have g10 : ∀ s : QS, s.1 = σ.1 → gI s 10 = nI T := fun s w => by unfold gI; rw [w]; exact hT
  by_cases e5 : kd = 5
  · rw [if_pos (show nI kd = (5 : Int32) from by rw [e5]; rfl), if_pos e5]
    simp only [lt_q]
    rw [gI_ne (show 11 ≠ 10 by omega)]
    show some ((4 : Int32), pI (pI (pI (rc5 σ j kd st (nI me) (nI fr)) 10 (gI σ 10 ||| nI (2 ^ st))) 11 (gI σ 11 ||| nI (2 ^ j))) 9 (nI j + 1)) = _
    rw [hT, hC, fa_or, fa_or, nI_1]
  · rw [if_neg (show ¬ nI kd = (5 : Int32) from by show ¬ nI kd = nI 5; rw [nI_e (by omega) (by omega)]; exact e5), if_neg e5]
    simp only [lt_q]
    rw [gI_ne (show 11 ≠ 10 by omega)]
    show some ((4 : Int32), pI (pI (pI (rc5 σ j kd st (nI me) (nI fr)) 10 (gI σ 10 ||| nI (2 ^ st))) 11 (gI σ 11 ||| nI 0)) 9 (nI j + 1)) = _
    rw [hT, hC, fa_or, fa_or, nI_1]
theorem sit_step_5 {σ τ : QS} {t n : Nat} {b : Nat → Int32} {q j T cb : Nat} (h : TX σ t n b) (hR : RdR τ t n b q) (hq : q < n) (hd : siG 9 10 11 21 22 23 24 σ τ j T cb) : (∃ r σ' τ', r < 4 ∧ fX1_readSitter_5_2 (nI t) (nI q) σ = some (nI r, σ') ∧ fX5_readsSitter_50 τ = some (0, τ') ∧ frG 9 10 11 21 22 23 24 σ σ' ∧ frQ τ τ' ∧ gI τ' 5 = nI (q + r)) ∨ (∃ σ' τ' T' cb', q + 4 ≤ n ∧ j < 6 ∧ fX1_readSitter_5_2 (nI t) (nI q) σ = some (4, σ') ∧ fX5_readsSitter_50 τ = some (1, τ') ∧ frG 9 10 11 21 22 23 24 σ σ' ∧ frQ τ τ' ∧ gI τ' 5 = nI (q + 4) ∧ siG 9 10 11 21 22 23 24 σ' τ' (j + 1) T' cb') := by
  obtain ⟨d1, d2, d3, d4, d5, d6, d7, d8, d9⟩ := hd
  have g5 := hR.2.2.2.1
  by_cases e6 : j = 6
  · exact Or.inl ⟨0, σ, τ, by omega, rsC_kind_5 h hq d2 d1 (Or.inr e6), rsR_kind hR hq (Or.inr (by rw [d3, e6]; rfl)), frG.rf _, frQ.rf _, g5⟩
  have j6 : j < 6 := by omega
  have h96 : gI τ 9 ≠ 6 := by
    rw [d3]
    show ¬ nI j = nI 6
    rw [nI_e (by omega) (by omega)]
    omega
  rcases kind_v (b q) with hk | ⟨kd, hkd, hk⟩
  · exact Or.inl ⟨0, σ, τ, by omega, rsC_kind_5 h hq d2 d1 (Or.inl hk), rsR_kind hR hq (Or.inl hk), frG.rf _, frQ.rf _, g5⟩
  cases hs : fgB n b (q + 1) with
  | none => exact Or.inl ⟨1, σ, _, by omega, rsC_seat_5 h hq d2 j6 hk hkd hs, rsR_seat hR hq hk hkd h96 hs, frG.rf _, frQ.i5 _ _, gI_same _ _ _⟩
  | some st =>
    by_cases hb : T.testBit st = true
    · exact Or.inl ⟨1, σ, _, by omega, rsC_taken_5 h hq d2 j6 hk hkd hs d4 d6 hb, rsR_taken hR hq hk hkd h96 hs d5 d6 hb, frG.rf _, frQ.i5 _ _, gI_same _ _ _⟩
    · have hb' : T.testBit st = false := by simpa using hb
      cases hm : fgB n b (q + 2) with
      | none => exact Or.inl ⟨2, _, _, by omega, rsC_mem_5 h hq d2 j6 hk hkd hs d4 d6 hb' hm, rsR_mem hR hq hk hkd h96 hs d5 d6 hb' hm, rc5_fr _ _ _ _ _ _, frQ.i5 _ _, gI_same _ _ _⟩
      | some me =>
        cases hf : fgB n b (q + 3) with
        | none => exact Or.inl ⟨3, _, _, by omega, rsC_fri_5 h hq d2 j6 hk hkd hs d4 d6 hb' hm hf, rsR_fri hR hq hk hkd h96 hs d5 d6 hb' hm hf, rc5_fr _ _ _ _ _ _, frQ.i5 _ _, gI_same _ _ _⟩
        | some fr =>
          obtain ⟨st10, -, -, -⟩ := fg_some hs
          obtain ⟨me10, -, -, -⟩ := fg_some hm
          obtain ⟨fr10, -, -, q3n⟩ := fg_some hf
          obtain ⟨c1, c2, c3⟩ := cb_new d8 kd
          refine Or.inr ⟨_, _, T ||| 2 ^ st, cb ||| (if kd = 5 then 2 ^ j else 0), by omega, j6, rsC_ok_5 h hq d2 j6 hk hkd hs d4 d6 hb' hm hf d7, rsR_ok hR hq hk hkd d3 j6 hs d5 d6 hb' hm hf, ?_, ?_, ?_, ?_⟩
          · have f := rc5_fr σ j kd st (nI me) (nI fr)
            refine ⟨fun k x1 x2 x3 => ?_, fun k => f.2.1 k, fun k x1 x2 x3 x4 => f.2.2 k x1 x2 x3 x4⟩
            rw [gI_ne x1, gI_ne x3, gI_ne x2]
            exact f.1 k x1 x2 x3
          · unfold okT
            refine ⟨fun k x1 x2 x3 => ?_, fun k => rfl, fun k x1 => ?_⟩
            · rw [gI_ne x2, gI_ne x3]
              exact gI_ne x1
            · exact gM_ne x1
          · unfold okT
            rw [gI_ne (by omega), gI_ne (by omega)]
            show gI (pI τ 5 (nI (q + 4))) 5 = _
            exact gI_same _ _ _
          · refine ⟨by omega, gI_same _ _ _, gI_same _ _ _, ?_, ?_, or_lt10 d6 st10, ?_, c1, fun i hi => ?_⟩
            · rw [gI_ne (by omega), gI_ne (by omega)]; exact gI_same _ _ _
            · unfold okT; rw [gI_ne (by omega)]; exact gI_same _ _ _
            · rw [gI_ne (by omega)]; exact gI_same _ _ _
            · have r1 : gM (pI (pI (pI (rc5 σ j kd st (nI me) (nI fr)) 10 (nI (T ||| 2 ^ st))) 11 (nI (cb ||| (if kd = 5 then 2 ^ j else 0)))) 9 (nI (j + 1))) 21 i = upd (gM σ 21) j (nI kd) i := rfl
              have r2 : gM (pI (pI (pI (rc5 σ j kd st (nI me) (nI fr)) 10 (nI (T ||| 2 ^ st))) 11 (nI (cb ||| (if kd = 5 then 2 ^ j else 0)))) 9 (nI (j + 1))) 22 i = upd (gM σ 22) j (nI st) i := rfl
              have r3 : gM (pI (pI (pI (rc5 σ j kd st (nI me) (nI fr)) 10 (nI (T ||| 2 ^ st))) 11 (nI (cb ||| (if kd = 5 then 2 ^ j else 0)))) 9 (nI (j + 1))) 23 i = upd (gM σ 23) j (nI me) i := rfl
              have r4 : gM (pI (pI (pI (rc5 σ j kd st (nI me) (nI fr)) 10 (nI (T ||| 2 ^ st))) 11 (nI (cb ||| (if kd = 5 then 2 ^ j else 0)))) 9 (nI (j + 1))) 24 i = upd (gM σ 24) j (nI fr) i := rfl
              have r5 : ∀ y, gM (okT τ q j kd st me fr T) 62 y = upd (upd (upd (upd (gM τ 62) (4 * j) (nI kd)) (4 * j + 1) (nI st)) (4 * j + 2) (nI me)) (4 * j + 3) (nI fr) y := fun _ => rfl
              by_cases ei : i = j
              · subst ei
                refine ⟨kd, st, me, fr, hkd, st10, me10, fr10, ?_, ?_, ?_, ?_, ?_, ?_, ?_, ?_, c3⟩
                · rw [r1, upd_same]
                · rw [r5, upd_ne (by omega), upd_ne (by omega), upd_ne (by omega), upd_same]
                · rw [r2, upd_same]
                · rw [r5, upd_ne (by omega), upd_ne (by omega), upd_same]
                · rw [r3, upd_same]
                · rw [r5, upd_ne (by omega), upd_same]
                · rw [r4, upd_same]
                · rw [r5, upd_same]
              · obtain ⟨k, s, m, f, k1, k2, k3, k4, k5, k6, k7, k8, k9, k10, k11, k12, k13⟩ := d9 i (by omega)
                refine ⟨k, s, m, f, k1, k2, k3, k4, ?_, ?_, ?_, ?_, ?_, ?_, ?_, ?_, (c2 i (by omega)).trans k13⟩
                · rw [r1, upd_ne ei, k5]
                · rw [r5, upd_ne (by omega), upd_ne (by omega), upd_ne (by omega), upd_ne (by omega), k6]
                · rw [r2, upd_ne ei, k7]
                · rw [r5, upd_ne (by omega), upd_ne (by omega), upd_ne (by omega), upd_ne (by omega), k8]
                · rw [r3, upd_ne ei, k9]
                · rw [r5, upd_ne (by omega), upd_ne (by omega), upd_ne (by omega), upd_ne (by omega), k10]
                · rw [r4, upd_ne ei, k11]
                · rw [r5, upd_ne (by omega), upd_ne (by omega), upd_ne (by omega), upd_ne (by omega), k12]
