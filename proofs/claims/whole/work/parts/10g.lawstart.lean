theorem law_len {L k : Nat} (hL : L ≤ 384) (hk : k ≤ L) : (nI L - 6 < nI k) ↔ L < k + 6 := by
  rw [fa_lt, Int32.toInt_sub, nI_toInt (show L < 2 ^ 31 by omega), nI_toInt (show k < 2 ^ 31 by omega), show (6 : Int32).toInt = 6 from rfl, fb_bmod (by omega) (by omega)]
  omega
theorem law_bits (x : Int32) : 0 ≤ (x &&& 63).toInt ∧ (x &&& 63).toInt ≤ 63 := by
  have h : (x &&& 63).toBitVec.toNat ≤ 63 := by
    rw [Int32.toBitVec_and, BitVec.toNat_and]
    exact Nat.and_le_right
  have e1 : (x &&& 63).toInt = ((x &&& 63).toBitVec.toNat : Int) := by
    show (x &&& 63).toBitVec.toInt = _
    rw [BitVec.toInt_eq_toNat_of_lt (by omega)]
  omega
set_option maxRecDepth 100000 in
set_option maxHeartbeats 4000000 in
theorem law_loop {E : QE} {p : Program} {l : Launch} {e : Env} {s : State} {m : MethodId} {below : List Frame} {meth : Method} {c : Code} {b L : Nat} {xs : Nat → Int32} (C : Cx E p s m #[Value.ref b] meth c cL_law 4 (some .boolean) "CalledStallsLaw") (hX : va_X b L xs s s.heap) (hbl : b < s.heap.size) (hbA : ¬ qA E b) (hL : L ≤ 384) (hA : ∀ q, qA E q → s.heap.size ≤ q) : ∀ (N k : Nat) (σ τ : QS), L < k + N → k ≤ L → Inv σ τ → ZL E p l e s m below meth c b σ τ 18 k [] := by
  intro N
  induction N with
  | zero => intro k σ τ h1 h2; omega
  | succ N ih =>
    intro k σ τ h1 h2 hI
    refine z_iload_n C dL_law_18 rfl 0 rfl ?_
    refine z_aload_n C dL_law_19 rfl 1 rfl ?_
    refine z_slen C hX hbl hbA dL_law_20 ?_
    refine z_bipush C (v := 6) dL_law_21 (by decide) ?_
    refine z_isub C dL_law_23 ?_
    refine z_icmp_gt C 1221 dL_law_24 (by decide) (fun _ => ?_) (fun h => ?_)
    · refine z_iconst C (v := 1) dL_law_1221 (by decide) ?_
      exact z_lawEnd C hA dL_law_1222
    · rw [law_len hL h2] at h
      have hk6 : k + 6 ≤ L := by omega
      have K : ∀ σ' τ' : QS, Inv σ' τ' → ZL E p l e s m below meth c b σ' τ' 1215 k [] := by
        intro σ' τ' hI'
        refine z_iinc C dL_law_1215 0 rfl (Nat.le_of_ble_eq_true rfl) (k2 := 6) (by decide) rfl (lv' := [(3, .int (nI k + (6 : Int32))), (0, .ref b), (1, .ref (qAd E 0)), (2, .ref (qAd E 50))]) rfl ?_
        refine z_goto C 18 dL_law_1218 (by decide) ?_
        rw [show nI k + (6 : Int32) = nI (k + 6) from nI_add k 6]
        exact ih (k + 6) σ' τ' (by omega) (by omega) hI'
      refine z_aload_n C dL_law_27 rfl 1 rfl ?_
      refine z_iload_n C dL_law_28 rfl 0 rfl ?_
      refine z_sld C hX hbl hbA (nI_in (show k < L by omega) (by omega)) (v := xs k) (by rw [nI_c (show k < 1000000 by omega)]) dL_law_29 ?_
      refine z_bipush C (v := 63) dL_law_30 (by decide) ?_
      refine z_iand C dL_law_32 ?_
      obtain ⟨b0, b1⟩ := law_bits (xs k)
      by_cases hd : 41 < (xs k &&& 63).toInt
      · exact z_tswD C 1215 dL_law_33 (Or.inr hd) (by decide) (K σ τ hI)
      obtain ⟨j, hj41, hj⟩ : ∃ j : Nat, j < 42 ∧ xs k &&& 63 = nI j := by
        refine ⟨(xs k &&& 63).toInt.toNat, by omega, ?_⟩
        rw [fa_eq, nI_toInt (by omega)]
        omega
      match j, hj41 with
      | 0, _ =>
        exact z_tsw C (off := 183) 216 hj dL_law_33 (by decide) (by decide) (by decide) (by decide) (lc_row C hX hbl hbA hL hI hk6 K)
      | 1, _ =>
        exact z_tsw C (off := 216) 249 hj dL_law_33 (by decide) (by decide) (by decide) (by decide) (lc_lay C hX hbl hbA hL hI hk6 K)
      | 2, _ =>
        exact z_tsw C (off := 259) 292 hj dL_law_33 (by decide) (by decide) (by decide) (by decide) (lc_at C hX hbl hbA hL hI hk6 K)
      | 3, _ =>
        exact z_tsw C (off := 292) 325 hj dL_law_33 (by decide) (by decide) (by decide) (by decide) (lc_tear C hX hbl hbA hL hI hk6 K)
      | 4, _ =>
        exact z_tsw C (off := 315) 348 hj dL_law_33 (by decide) (by decide) (by decide) (by decide) (lc_copy C hX hbl hbA hL hI hk6 K)
      | 5, _ =>
        exact z_tsw C (off := 378) 411 hj dL_law_33 (by decide) (by decide) (by decide) (by decide) (lc_mean C hX hbl hbA hL hI hk6 K)
      | 6, _ =>
        exact z_tsw C (off := 401) 434 hj dL_law_33 (by decide) (by decide) (by decide) (by decide) (lc_text C hX hbl hbA hL hI hk6 K)
      | 7, _ =>
        exact z_tsw C (off := 434) 467 hj dL_law_33 (by decide) (by decide) (by decide) (by decide) (lc_put C hX hbl hbA hL hI hk6 K)
      | 8, _ =>
        exact z_tsw C (off := 477) 510 hj dL_law_33 (by decide) (by decide) (by decide) (by decide) (lc_fault C hX hbl hbA hL hI hk6 K)
      | 9, _ =>
        exact z_tsw C (off := 500) 533 hj dL_law_33 (by decide) (by decide) (by decide) (by decide) (lc_house C hX hbl hbA hL hI hk6 K)
      | 10, _ =>
        exact z_tsw C (off := 523) 556 hj dL_law_33 (by decide) (by decide) (by decide) (by decide) (lc_sitter C hX hbl hbA hL hI hk6 K)
      | 11, _ =>
        exact z_tsw C (off := 556) 589 hj dL_law_33 (by decide) (by decide) (by decide) (by decide) (lc_mark C hX hbl hbA hL hI hk6 K)
      | 12, _ =>
        exact z_tsw C (off := 589) 622 hj dL_law_33 (by decide) (by decide) (by decide) (by decide) (lc_lines C hX hbl hbA hL hI hk6 K)
      | 13, _ =>
        exact z_tsw C (off := 612) 645 hj dL_law_33 (by decide) (by decide) (by decide) (by decide) (lc_call C hX hbl hbA hL hI hk6 K)
      | 14, _ =>
        exact z_tsw C (off := 635) 668 hj dL_law_33 (by decide) (by decide) (by decide) (by decide) (lc_cut C hX hbl hbA hL hI hk6 K)
      | 15, _ =>
        exact z_tsw C (off := 648) 681 hj dL_law_33 (by decide) (by decide) (by decide) (by decide) (lc_change C hX hbl hbA hL hI hk6 K)
      | 16, _ =>
        exact z_tsw C (off := 681) 714 hj dL_law_33 (by decide) (by decide) (by decide) (by decide) (lc_undo C hX hbl hbA hL hI hk6 K)
      | 17, _ =>
        exact z_tsw C (off := 704) 737 hj dL_law_33 (by decide) (by decide) (by decide) (by decide) (lc_keep C hX hbl hbA hL hI hk6 K)
      | 18, _ =>
        exact z_tsw C (off := 727) 760 hj dL_law_33 (by decide) (by decide) (by decide) (by decide) (lc_on C hX hbl hbA hL hI hk6 K)
      | 19, _ =>
        exact z_tsw C (off := 750) 783 hj dL_law_33 (by decide) (by decide) (by decide) (by decide) (lc_can C hX hbl hbA hL hI hk6 K)
      | 20, _ =>
        exact z_tsw C (off := 763) 796 hj dL_law_33 (by decide) (by decide) (by decide) (by decide) (lc_play C hX hbl hbA hL hI hk6 K)
      | 21, _ =>
        exact z_tsw C (off := 786) 819 hj dL_law_33 (by decide) (by decide) (by decide) (by decide) (lc_best C hX hbl hbA hL hI hk6 K)
      | 22, _ =>
        exact z_tsw C (off := 809) 842 hj dL_law_33 (by decide) (by decide) (by decide) (by decide) (lc_least C hX hbl hbA hL hI hk6 K)
      | 23, _ =>
        exact z_tsw C (off := 822) 855 hj dL_law_33 (by decide) (by decide) (by decide) (by decide) (lc_ways C hX hbl hbA hL hI hk6 K)
      | 24, _ =>
        exact z_tsw C (off := 845) 878 hj dL_law_33 (by decide) (by decide) (by decide) (by decide) (lc_seats C hX hbl hbA hL hI hk6 K)
      | 25, _ =>
        exact z_tsw C (off := 858) 891 hj dL_law_33 (by decide) (by decide) (by decide) (by decide) (lc_beside C hX hbl hbA hL hI hk6 K)
      | 26, _ =>
        exact z_tsw C (off := 871) 904 hj dL_law_33 (by decide) (by decide) (by decide) (by decide) (lc_apart C hX hbl hbA hL hI hk6 K)
      | 27, _ =>
        exact z_tsw C (off := 884) 917 hj dL_law_33 (by decide) (by decide) (by decide) (by decide) (lc_frights C hX hbl hbA hL hI hk6 K)
      | 28, _ =>
        exact z_tsw C (off := 917) 950 hj dL_law_33 (by decide) (by decide) (by decide) (by decide) (lc_kinds C hX hbl hbA hL hI hk6 K)
      | 29, _ =>
        exact z_tsw C (off := 950) 983 hj dL_law_33 (by decide) (by decide) (by decide) (by decide) (lc_whom C hX hbl hbA hL hI hk6 K)
      | 30, _ =>
        exact z_tsw C (off := 973) 1006 hj dL_law_33 (by decide) (by decide) (by decide) (by decide) (lc_duel C hX hbl hbA hL hI hk6 K)
      | 31, _ =>
        exact z_tsw C (off := 996) 1029 hj dL_law_33 (by decide) (by decide) (by decide) (by decide) (lc_odds C hX hbl hbA hL hI hk6 K)
      | 32, _ =>
        exact z_tsw C (off := 1019) 1052 hj dL_law_33 (by decide) (by decide) (by decide) (by decide) (lc_mid C hX hbl hbA hL hI hk6 K)
      | 33, _ =>
        exact z_tsw C (off := 1032) 1065 hj dL_law_33 (by decide) (by decide) (by decide) (by decide) (lc_lots C hX hbl hbA hL hI hk6 K)
      | 34, _ =>
        exact z_tsw C (off := 1055) 1088 hj dL_law_33 (by decide) (by decide) (by decide) (by decide) (lc_asked C hX hbl hbA hL hI hk6 K)
      | 35, _ =>
        exact z_tsw C (off := 1068) 1101 hj dL_law_33 (by decide) (by decide) (by decide) (by decide) (lc_upper C hX hbl hbA hL hI hk6 K)
      | 36, _ =>
        exact z_tsw C (off := 1082) 1115 hj dL_law_33 (by decide) (by decide) (by decide) (by decide) (lc_lower C hX hbl hbA hL hI hk6 K)
      | 37, _ =>
        exact z_tsw C (off := 1096) 1129 hj dL_law_33 (by decide) (by decide) (by decide) (by decide) (lc_count C hX hbl hbA hL hI hk6 K)
      | 38, _ =>
        exact z_tsw C (off := 1119) 1152 hj dL_law_33 (by decide) (by decide) (by decide) (by decide) (lc_applause C hX hbl hbA hL hI hk6 K)
      | 39, _ =>
        exact z_tsw C (off := 1132) 1165 hj dL_law_33 (by decide) (by decide) (by decide) (by decide) (lc_finding C hX hbl hbA hL hI hk6 K)
      | 40, _ =>
        exact z_tsw C (off := 1145) 1178 hj dL_law_33 (by decide) (by decide) (by decide) (by decide) (lc_findings C hX hbl hbA hL hI hk6 K)
      | 41, _ =>
        exact z_tsw C (off := 1168) 1201 hj dL_law_33 (by decide) (by decide) (by decide) (by decide) (lc_digest C hX hbl hbA hL hI hk6 K)
      | n + 42, h => exact absurd h (by omega)
def wlX (E : QE) (σ τ : QS) (F1 F2 F3 F4 : Nat → Option Nat) : va_W := [
  (qAd E 0, .inr (4, [.ref (qAd E 1), .ref (qAd E 2), .ref (qAd E 3), .ref (qAd E 4), .ref (qAd E 5), .ref (qAd E 6), .ref (qAd E 7), .ref (qAd E 8), .int (gI σ 0), .int (gI σ 1), .long (gJ σ 0), .long (gJ σ 1)])),
  (qAd E 1, .inr (3, [.ref (qAd E 9), .ref (qAd E 10)])),
  (qAd E 2, .inr (3, [.ref (qAd E 11), .ref (qAd E 12)])),
  (qAd E 3, .inr (3, [.ref (qAd E 13), .ref (qAd E 14)])),
  (qAd E 4, .inr (1, [.int (gI σ 2), .int (gI σ 3), .int (gI σ 4), .ref (qAd E 15), .ref (qAd E 16), .ref (qAd E 17), .ref (qAd E 18), .ref (qAd E 19), .int (gI σ 5), .int (gI σ 6)])),
  (qAd E 5, .inr (1, [.int (gI σ 7), .int (gI σ 8), .int (gI σ 9), .ref (qAd E 20), .ref (qAd E 21), .ref (qAd E 22), .ref (qAd E 23), .ref (qAd E 24), .int (gI σ 10), .int (gI σ 11)])),
  (qAd E 6, .inr (0, [.ref (qAd E 5), .ref (qAd E 25), .ref (qAd E 26), .int (gI σ 12), .int (gI σ 13), .int (gI σ 14), .int (gI σ 15), .int (gI σ 16), .int (gI σ 17), .int (gI σ 18)])),
  (qAd E 7, .inr (2, [.ref (qAd E 6), .ref (qAd E 5), .ref (qAd E 27), .ref (qAd E 28), .ref (qAd E 29), .int (gI σ 19), .int (gI σ 20), .int (gI σ 21), .int (gI σ 22), .int (gI σ 23), .int (gI σ 24), .long (gJ σ 2), .int (gI σ 25), .long (gJ σ 3), .long (gJ σ 4), .long (gJ σ 5)])),
  (qAd E 8, .inl (qI E, 6, .inl (gM σ 8))),
  (qAd E 9, .inl (qII E, 6, .inr (.inr (.inr (.inr F1))))),
  (qAd E 10, .inl (qI E, 6, .inl (gM σ 10))),
  (qAd E 11, .inl (qII E, 4, .inr (.inr (.inr (.inr F2))))),
  (qAd E 12, .inl (qI E, 4, .inl (gM σ 12))),
  (qAd E 13, .inl (qII E, 3, .inr (.inr (.inr (.inr F3))))),
  (qAd E 14, .inl (qI E, 3, .inl (gM σ 14))),
  (qAd E 15, .inl (qI E, 6, .inl (gM σ 15))),
  (qAd E 16, .inl (qI E, 6, .inl (gM σ 16))),
  (qAd E 17, .inl (qI E, 6, .inl (gM σ 17))),
  (qAd E 18, .inl (qI E, 6, .inl (gM σ 18))),
  (qAd E 19, .inl (qI E, 6, .inl (gM σ 19))),
  (qAd E 20, .inl (qI E, 6, .inl (gM σ 20))),
  (qAd E 21, .inl (qI E, 6, .inl (gM σ 21))),
  (qAd E 22, .inl (qI E, 6, .inl (gM σ 22))),
  (qAd E 23, .inl (qI E, 6, .inl (gM σ 23))),
  (qAd E 24, .inl (qI E, 6, .inl (gM σ 24))),
  (qAd E 25, .inl (qI E, 6, .inl (gM σ 25))),
  (qAd E 26, .inl (qI E, 40, .inl (gM σ 26))),
  (qAd E 27, .inl (qI E, 6, .inl (gM σ 27))),
  (qAd E 28, .inl (qI E, 6, .inl (gM σ 28))),
  (qAd E 29, .inl (qII E, 7, .inr (.inr (.inr (.inr F4))))),
  (qAd E 30, .inl (qI E, 40, .inl (gM σ 30))),
  (qAd E 31, .inl (qI E, 40, .inl (gM σ 31))),
  (qAd E 32, .inl (qI E, 40, .inl (gM σ 32))),
  (qAd E 33, .inl (qI E, 40, .inl (gM σ 33))),
  (qAd E 34, .inl (qI E, 40, .inl (gM σ 34))),
  (qAd E 35, .inl (qI E, 40, .inl (gM σ 35))),
  (qAd E 36, .inl (qI E, 60, .inl (gM σ 36))),
  (qAd E 37, .inl (qI E, 60, .inl (gM σ 37))),
  (qAd E 38, .inl (qI E, 60, .inl (gM σ 38))),
  (qAd E 39, .inl (qI E, 60, .inl (gM σ 39))),
  (qAd E 40, .inl (qI E, 40, .inl (gM σ 40))),
  (qAd E 41, .inl (qI E, 40, .inl (gM σ 41))),
  (qAd E 42, .inl (qI E, 40, .inl (gM σ 42))),
  (qAd E 43, .inl (qI E, 7, .inl (gM σ 43))),
  (qAd E 44, .inl (qI E, 7, .inl (gM σ 44))),
  (qAd E 45, .inl (qI E, 7, .inl (gM σ 45))),
  (qAd E 46, .inl (qI E, 7, .inl (gM σ 46))),
  (qAd E 47, .inl (qI E, 7, .inl (gM σ 47))),
  (qAd E 48, .inl (qI E, 7, .inl (gM σ 48))),
  (qAd E 49, .inl (qI E, 7, .inl (gM σ 49))),
  (qAd E 50, .inr (5, [.ref (qAd E 51), .int (gI τ 0), .ref (qAd E 52), .int (gI τ 1), .ref (qAd E 53), .ref (qAd E 54), .ref (qAd E 55), .ref (qAd E 56), .ref (qAd E 57), .ref (qAd E 58), .ref (qAd E 59), .int (gI τ 2), .long (gJ τ 0), .long (gJ τ 1), .int (gI τ 3), .ref (qAd E 60), .int (gI τ 4), .int (gI τ 5), .int (gI τ 6), .int (gI τ 7), .ref (qAd E 61), .int (gI τ 8), .ref (qAd E 62), .int (gI τ 9), .int (gI τ 10), .ref (qAd E 63), .ref (qAd E 64), .ref (qAd E 65), .ref (qAd E 66), .ref (qAd E 67), .int (gI τ 11), .int (gI τ 12), .ref (qAd E 68)])),
  (qAd E 51, .inl (qI E, 1972, .inl (gM τ 51))),
  (qAd E 52, .inl (qI E, 6, .inl (gM τ 52))),
  (qAd E 53, .inl (qI E, 6, .inl (gM τ 53))),
  (qAd E 54, .inl (qI E, 6, .inl (gM τ 54))),
  (qAd E 55, .inl (qI E, 6, .inl (gM τ 55))),
  (qAd E 56, .inl (qI E, 6, .inl (gM τ 56))),
  (qAd E 57, .inl (qI E, 240, .inl (gM τ 57))),
  (qAd E 58, .inl (qI E, 4, .inl (gM τ 58))),
  (qAd E 59, .inl (qI E, 240, .inl (gM τ 59))),
  (qAd E 60, .inl (qI E, 6, .inl (gM τ 60))),
  (qAd E 61, .inl (qI E, 6, .inl (gM τ 61))),
  (qAd E 62, .inl (qI E, 24, .inl (gM τ 62))),
  (qAd E 63, .inl (qI E, 7, .inl (gM τ 63))),
  (qAd E 64, .inl (qI E, 7, .inl (gM τ 64))),
  (qAd E 65, .inl (qI E, 7, .inl (gM τ 65))),
  (qAd E 66, .inl (qI E, 7, .inl (gM τ 66))),
  (qAd E 67, .inl (qI E, 7, .inl (gM τ 67))),
  (qAd E 68, .inl (qI E, 7, .inl (gM τ 68)))]
theorem wlX_e (E : QE) (σ τ : QS) : wlX E σ τ (fun i => if i < 6 then some (qAd E (30 + i)) else none) (fun i => if i < 4 then some (qAd E (36 + i)) else none) (fun i => if i < 3 then some (qAd E (40 + i)) else none) (fun i => if i < 7 then some (qAd E (43 + i)) else none) = wl E σ τ := rfl
/-- which address stands where -/
def ad0 (q0 s1 : Nat) (x1 : Nat × (Nat → Nat) × Nat) (s2 : Nat) (x2 : Nat × (Nat → Nat) × Nat) (s3 : Nat) (x3 : Nat × (Nat → Nat) × Nat) (c1 : Nat) (y1 : N5) (c2 : Nat) (y2 : N5) (hN : Nat) (z : Nat × Nat) (hs : Nat) (u : Nat × Nat × Nat × (Nat → Nat)) (qf q50 : Nat) (v : X5T) : Nat → Nat := fun k => [q0, s1, s2, s3, c1, c2, hN, hs, qf, x1.1, x1.2.2, x2.1, x2.2.2, x3.1, x3.2.2, y1.1, y1.2.1, y1.2.2.1, y1.2.2.2.1, y1.2.2.2.2, y2.1, y2.2.1, y2.2.2.1, y2.2.2.2.1, y2.2.2.2.2, z.1, z.2, u.1, u.2.1, u.2.2.1, x1.2.1 0, x1.2.1 1, x1.2.1 2, x1.2.1 3, x1.2.1 4, x1.2.1 5, x2.2.1 0, x2.2.1 1, x2.2.1 2, x2.2.1 3, x3.2.1 0, x3.2.1 1, x3.2.1 2, u.2.2.2 0, u.2.2.2 1, u.2.2.2 2, u.2.2.2 3, u.2.2.2 4, u.2.2.2 5, u.2.2.2 6, q50, v.1, v.2.1, v.2.2.1, v.2.2.2.1, v.2.2.2.2.1, v.2.2.2.2.2.1, v.2.2.2.2.2.2.1, v.2.2.2.2.2.2.2.1, v.2.2.2.2.2.2.2.2.1, v.2.2.2.2.2.2.2.2.2.1, v.2.2.2.2.2.2.2.2.2.2.1, v.2.2.2.2.2.2.2.2.2.2.2.1, v.2.2.2.2.2.2.2.2.2.2.2.2.1, v.2.2.2.2.2.2.2.2.2.2.2.2.2.1, v.2.2.2.2.2.2.2.2.2.2.2.2.2.2.1, v.2.2.2.2.2.2.2.2.2.2.2.2.2.2.2.1, v.2.2.2.2.2.2.2.2.2.2.2.2.2.2.2.2.1, v.2.2.2.2.2.2.2.2.2.2.2.2.2.2.2.2.2].getD k 0
def plc : List Nat := [0, 1, 10, 17, 23, 29, 35, 38, 49, 2, 9, 11, 16, 18, 22, 24, 25, 26, 27, 28, 30, 31, 32, 33, 34, 36, 37, 39, 40, 41, 3, 4, 5, 6, 7, 8, 12, 13, 14, 15, 19, 20, 21, 42, 43, 44, 45, 46, 47, 48, 50, 51, 52, 53, 54, 55, 56, 57, 58, 59, 60, 61, 62, 63, 64, 65, 66, 67, 68]
def fnR (N : Nat) (r : Nat → Nat) : Nat → Option Nat := fun i => if i < N then some (r i) else none
theorem fnR_e {N : Nat} {r g : Nat → Nat} (h : ∀ i, i < N → r i = g i) : fnR N r = fnR N g := by
  funext i
  unfold fnR
  by_cases hi : i < N
  · rw [if_pos hi, if_pos hi, h i hi]
  · rw [if_neg hi, if_neg hi]
set_option maxRecDepth 100000 in
set_option maxHeartbeats 8000000 in
theorem pl_1 (E : QE) (q0 s1 : Nat) (x1 : Nat × (Nat → Nat) × Nat) (s2 : Nat) (x2 : Nat × (Nat → Nat) × Nat) (s3 : Nat) (x3 : Nat × (Nat → Nat) × Nat) (c1 : Nat) (y1 : N5) (c2 : Nat) (y2 : N5) (hN : Nat) (z : Nat × Nat) (hs : Nat) (u : Nat × Nat × Nat × (Nat → Nat)) (qf q50 : Nat) (v : X5T) : plc.filterMap (fun i => (clW E q0 (s1, x1, s2, x2, s3, x3, c1, y1, c2, y2, hN, z, hs, u, qf) ++ moW E q50 v)[i]?) = wlX (ad0 q0 s1 x1 s2 x2 s3 x3 c1 y1 c2 y2 hN z hs u qf q50 v, E.2) sig0 tau0 (fnR 6 x1.2.1) (fnR 4 x2.2.1) (fnR 3 x3.2.1) (fnR 7 u.2.2.2) := rfl
set_option maxRecDepth 100000 in
set_option maxHeartbeats 8000000 in
theorem pl_2 (E : QE) (q0 s1 : Nat) (x1 : Nat × (Nat → Nat) × Nat) (s2 : Nat) (x2 : Nat × (Nat → Nat) × Nat) (s3 : Nat) (x3 : Nat × (Nat → Nat) × Nat) (c1 : Nat) (y1 : N5) (c2 : Nat) (y2 : N5) (hN : Nat) (z : Nat × Nat) (hs : Nat) (u : Nat × Nat × Nat × (Nat → Nat)) (qf q50 : Nat) (v : X5T) : plc.map (fun i => (clW E q0 (s1, x1, s2, x2, s3, x3, c1, y1, c2, y2, hN, z, hs, u, qf) ++ moW E q50 v)[i]?) = (wlX (ad0 q0 s1 x1 s2 x2 s3 x3 c1 y1 c2 y2 hN z hs u qf q50 v, E.2) sig0 tau0 (fnR 6 x1.2.1) (fnR 4 x2.2.1) (fnR 3 x3.2.1) (fnR 7 u.2.2.2)).map some := rfl
set_option maxRecDepth 100000 in
theorem pl_3 (E : QE) (q0 s1 : Nat) (x1 : Nat × (Nat → Nat) × Nat) (s2 : Nat) (x2 : Nat × (Nat → Nat) × Nat) (s3 : Nat) (x3 : Nat × (Nat → Nat) × Nat) (c1 : Nat) (y1 : N5) (c2 : Nat) (y2 : N5) (hN : Nat) (z : Nat × Nat) (hs : Nat) (u : Nat × Nat × Nat × (Nat → Nat)) (qf q50 : Nat) (v : X5T) : wlX (ad0 q0 s1 x1 s2 x2 s3 x3 c1 y1 c2 y2 hN z hs u qf q50 v, E.2) sig0 tau0 (fnR 6 x1.2.1) (fnR 4 x2.2.1) (fnR 3 x3.2.1) (fnR 7 u.2.2.2) = wl (ad0 q0 s1 x1 s2 x2 s3 x3 c1 y1 c2 y2 hN z hs u qf q50 v, E.2) sig0 tau0 := by
  rw [fnR_e (N := 6) (g := fun i => ad0 q0 s1 x1 s2 x2 s3 x3 c1 y1 c2 y2 hN z hs u qf q50 v (30 + i)) (fun i hi => by rcases (show i = 0 ∨ i = 1 ∨ i = 2 ∨ i = 3 ∨ i = 4 ∨ i = 5 by omega) with rfl | rfl | rfl | rfl | rfl | rfl <;> rfl),
    fnR_e (N := 4) (g := fun i => ad0 q0 s1 x1 s2 x2 s3 x3 c1 y1 c2 y2 hN z hs u qf q50 v (36 + i)) (fun i hi => by rcases (show i = 0 ∨ i = 1 ∨ i = 2 ∨ i = 3 by omega) with rfl | rfl | rfl | rfl <;> rfl),
    fnR_e (N := 3) (g := fun i => ad0 q0 s1 x1 s2 x2 s3 x3 c1 y1 c2 y2 hN z hs u qf q50 v (40 + i)) (fun i hi => by rcases (show i = 0 ∨ i = 1 ∨ i = 2 by omega) with rfl | rfl | rfl <;> rfl),
    fnR_e (N := 7) (g := fun i => ad0 q0 s1 x1 s2 x2 s3 x3 c1 y1 c2 y2 hN z hs u qf q50 v (43 + i)) (fun i hi => by rcases (show i = 0 ∨ i = 1 ∨ i = 2 ∨ i = 3 ∨ i = 4 ∨ i = 5 ∨ i = 6 by omega) with rfl | rfl | rfl | rfl | rfl | rfl | rfl <;> rfl)]
  rfl
set_option maxRecDepth 100000 in
set_option maxHeartbeats 4000000 in
/-- the law's world at its entry -/
theorem law_world {s : State} {b : Nat} (hts : ∀ w ∈ lw_tbl, w.before #[Value.ref b] s = true) (hgv : (Jvm.Cond.and given_1 narrow_1).before #[Value.ref b] s = true) : ∃ E : QE, qA E = (fun q => s.heap.size ≤ q) ∧ Fix E s ∧ va_AOA .int s := by
  have htb : ∀ w ∈ TB, w.before #[Value.ref b] s = true := fun w hw => hts w (tb_sub hw)
  have hfl := flat_of_before _ hgv
  have hA : ∀ a : Nat, a < s.heap.size → ¬ (fun q : Nat => s.heap.size ≤ q) a := fun a h h2 => absurd h2 (Nat.not_le.mpr h)
  obtain ⟨d0, e0, hKn0⟩ := u_known (C := RX0) (T := TX0) (N := 10) (n := 10) htb inT0 (htb _ in_X0)
  obtain ⟨d1, e1, hKn1⟩ := u_known (C := RX1) (T := TX1) (N := 10) (n := 10) htb inT1 (htb _ in_X1)
  obtain ⟨d2, e2, hKn2⟩ := u_known (C := RX2) (T := TX2) (N := 16) (n := 16) htb inT2 (htb _ in_X2)
  obtain ⟨d3, e3, hKn3⟩ := u_known (C := RX3) (T := TX3) (N := 2) (n := 2) htb inT3 (htb _ in_X3)
  obtain ⟨d4, e4, hKn4⟩ := u_known (C := RX4) (T := TX4) (N := 12) (n := 12) htb inT4 (htb _ in_X4)
  obtain ⟨d5, e5, hKn5⟩ := u_known (C := RX5) (T := TX5) (N := 33) (n := 33) htb inT5 (htb _ in_X5)
  have hO : va_AOA .int s := hts (.arrayOver (.array .int)) (List.mem_of_getElem? (i := 99) (by decide +kernel))
  obtain ⟨cI, cII, kA, f1, -, f3, f4, f5⟩ := arrayOverA_spec hO
  obtain ⟨cI2, kI, cc, g1, g2, g3⟩ := Cond.arrayClass_spec (htb _ ac_int)
  have eI : cI2 = cI := Option.some.inj (Eq.trans (Eq.symm g1) f1)
  subst eI
  obtain ⟨t, ht, hT⟩ := va_Tof (s := s) (args := #[Value.ref b]) (tm := (Jvm.Term.static "CalledStalls$Script" "LETTERS" "[C")) (ty := .char) (N := 6) (f := fun j => .int (ltr j)) (A := fun q : Nat => s.heap.size ≤ q) (by decide) (hfl (Cond.arrayOf (Jvm.Term.static "CalledStalls$Script" "LETTERS" "[C") .char) (by decide +kernel)) (va_eqt (hfl (Cond.eq (.length (Jvm.Term.static "CalledStalls$Script" "LETTERS" "[C")) (.int 6)) (by decide +kernel))) (fun j hj => by
    match j, hj with
    | 0, _ => exact va_eqt (hfl (Cond.eq (.elem (Jvm.Term.static "CalledStalls$Script" "LETTERS" "[C") (.int 0)) (.int 115)) (by decide +kernel))
    | 1, _ => exact va_eqt (hfl (Cond.eq (.elem (Jvm.Term.static "CalledStalls$Script" "LETTERS" "[C") (.int 1)) (.int 99)) (by decide +kernel))
    | 2, _ => exact va_eqt (hfl (Cond.eq (.elem (Jvm.Term.static "CalledStalls$Script" "LETTERS" "[C") (.int 2)) (.int 107)) (by decide +kernel))
    | 3, _ => exact va_eqt (hfl (Cond.eq (.elem (Jvm.Term.static "CalledStalls$Script" "LETTERS" "[C") (.int 3)) (.int 117)) (by decide +kernel))
    | 4, _ => exact va_eqt (hfl (Cond.eq (.elem (Jvm.Term.static "CalledStalls$Script" "LETTERS" "[C") (.int 4)) (.int 119)) (by decide +kernel))
    | 5, _ => exact va_eqt (hfl (Cond.eq (.elem (Jvm.Term.static "CalledStalls$Script" "LETTERS" "[C") (.int 5)) (.int 113)) (by decide +kernel))
    | n + 6, h => exact absurd h (by omega)) hA
  have hZ := va_Zref (hts (.laysStatic "CalledStalls$Script" "LETTERS" "[C") (List.mem_of_getElem? (i := 437) (by decide +kernel))) (htb _ ii_X1) ht hA
  refine ⟨(fun _ => 0, (fun k => if k = 0 then d0 else if k = 1 then d1 else if k = 2 then d2 else if k = 3 then d3 else if k = 4 then d4 else d5, fun k => if k = 0 then e0 else if k = 1 then e1 else if k = 2 then e2 else if k = 3 then e3 else if k = 4 then e4 else e5), cI2, cII, (fun q : Nat => s.heap.size ≤ q), t), rfl, ⟨⟨fun k q hq => ?_, fun k q hq => ?_⟩, ⟨hZ, hT⟩, fun w hw => ?_⟩, hO⟩
  · match k, hq with
    | 0, hq => cases hq; exact hKn0
    | 1, hq => cases hq; exact hKn1
    | 2, hq => cases hq; exact hKn2
    | 3, hq => cases hq; exact hKn3
    | 4, hq => cases hq; exact hKn4
    | 5, hq => cases hq; exact hKn5
    | k + 6, hq => simp [vwCl] at hq
  · match k, hq with
    | 0, hq => cases hq; exact ⟨fun n z => ⟨fun k h => (by cases h), kI, g2, cc, g3⟩, g1⟩
    | 1, hq => cases hq; exact ⟨fun n z => ⟨fun k h => (by cases h), kA, f3, cI2, f4⟩, f5⟩
    | k + 2, hq => simp [tysQ] at hq
  · have h1 := List.mem_filter.mp hw
    have h2 := hts w h1.1
    have h3 := h1.2
    cases w <;> first | exact va_Nw.of rfl h2 | exact absurd h3 (by simp [isNest])
set_option maxRecDepth 100000 in
set_option maxHeartbeats 8000000 in
/-- YOUR PART: from the entry, for every script of at most 384 ints, the law comes to its end with true -/
theorem whole_start {p : Program} {e : Env} {s : State} {m : MethodId} {below : List Frame} {meth : Method} {c : Code} (l : Launch) (hflags : l.flags = flags0) {b L : Nat} {xs : Nat → Int32} (hL : L ≤ 384) (C0 : lw_At p s m meth c b L xs) : W p l e room_1 s m #[Value.ref b] below meth c s.heap [] 0 0 (lw_Z below #[Value.ref b] s) (entryFrame m ([Value.ref b] : List Value).toArray 4) := by
  obtain ⟨hx, hb, hr, hml, hown, hts, hX, hbl, hlocks, hgv⟩ := id C0
  obtain ⟨E, hEA, hF, hO⟩ := law_world hts hgv
  have hbA : ¬ qA E b := by rw [hEA]; exact Nat.not_le.mpr hbl
  have hA : ∀ q, s.heap.size ≤ q → qA E q := fun q h => by rw [hEA]; exact h
  have hA2 : ∀ q, qA E q → s.heap.size ≤ q := fun q h => by rw [hEA] at h; exact h
  have C : Cx E p s m #[Value.ref b] meth c cL_law 4 (some .boolean) "CalledStallsLaw" := ⟨hx, hb, hml, hown, fun w hw => hts w (tb_sub hw), hr, hlocks, hF⟩
  rw [lg_entry_eq]
  have hl := lv_entry ([Value.ref b]) (n := 4) (Nat.le_of_ble_eq_true rfl)
  have body : Z E p l e room_1 s m #[Value.ref b] below meth c 4 (lw_Z below #[Value.ref b] s) [] 0 0 0 [(0, .ref b)] [] := by
    refine z_new (w := []) (A := []) C hA (ci := 4) (Cn := RX4) (Tt := TX4) (N := 12) (fs := [.null, .null, .null, .null, .null, .null, .null, .null, .int 0, .int 0, .long 0, .long 0]) rfl inT4 tyX4 tyX4_ok cl_L_7 in_X4 ii_X4 (by decide +kernel) (Nat.le_of_ble_eq_true rfl) (Nat.le_of_ble_eq_true rfl) dL_law_0 (fun q0 => ?_)
    refine z_ws (ws1 := [] ++ [(q0, .inr (4, [.null, .null, .null, .null, .null, .null, .null, .null, .int 0, .int 0, .long 0, .long 0]))]) rfl ?_
    refine z_dup C dL_law_3 rfl ?_
    refine z_cI C hO (Nat.le_refl _) (kz_class l E s.heap.size hA [] q0) ci_X4 rfl ml_L_9 rfl ⟨rfl, rfl, Nat.le_of_ble_eq_true rfl, Nat.le_of_ble_eq_true rfl⟩ dL_law_4 rfl (Nat.le_of_ble_eq_true rfl) (Nat.le_of_ble_eq_true rfl) (Nat.le_of_ble_eq_true rfl) (fun x => ?_)
    refine z_astore_n C dL_law_7 rfl (Nat.le_of_ble_eq_true rfl) (lv' := [(1, .ref q0), (0, .ref b)]) rfl ?_
    refine z_new C hA (ci := 5) (Cn := RX5) (Tt := TX5) (N := 33) (fs := [.null, .int 0, .null, .int 0, .null, .null, .null, .null, .null, .null, .null, .int 0, .long 0, .long 0, .int 0, .null, .int 0, .int 0, .int 0, .int 0, .null, .int 0, .null, .int 0, .int 0, .null, .null, .null, .null, .null, .int 0, .int 0, .null]) rfl inT5 tyX5 tyX5_ok cl_L_10 in_X5 ii_X5 (by decide +kernel) (Nat.le_of_ble_eq_true rfl) (Nat.le_of_ble_eq_true rfl) dL_law_8 (fun q50 => ?_)
    refine z_ws (ws1 := clW E q0 x ++ [(q50, .inr (5, [.null, .int 0, .null, .int 0, .null, .null, .null, .null, .null, .null, .null, .int 0, .long 0, .long 0, .int 0, .null, .int 0, .int 0, .int 0, .int 0, .null, .int 0, .null, .int 0, .int 0, .null, .null, .null, .null, .null, .int 0, .int 0, .null]))]) rfl ?_
    refine z_dup C dL_law_11 rfl ?_
    refine z_cI C hO (Nat.le_refl _) (kz_model l E s.heap.size hA (clW E q0 x) q50) ci_X5 rfl ml_L_12 rfl ⟨rfl, rfl, Nat.le_of_ble_eq_true rfl, Nat.le_of_ble_eq_true rfl⟩ dL_law_12 rfl (Nat.le_of_ble_eq_true rfl) (Nat.le_of_ble_eq_true rfl) (Nat.le_of_ble_eq_true rfl) (fun v => ?_)
    refine z_astore_n C dL_law_15 rfl (Nat.le_of_ble_eq_true rfl) (lv' := [(2, .ref q50), (1, .ref q0), (0, .ref b)]) rfl ?_
    refine z_iconst C (v := nI 0) dL_law_16 (by decide) ?_
    refine z_istore_n C dL_law_17 rfl (Nat.le_of_ble_eq_true rfl) rfl (lv' := [(3, .int (nI 0)), (2, .ref q50), (1, .ref q0), (0, .ref b)]) rfl ?_
    refine z_widen (c1 := 600000) (s1 := 7302250) (Nat.le_of_ble_eq_true rfl) (Nat.le_of_ble_eq_true rfl) ?_
    refine z_sub [0, 3, 2, 1] (lv' := [(3, .int (nI 0)), (0, .ref b), (1, .ref q0), (2, .ref q50)]) rfl ?_
    obtain ⟨s1, x1, s2, x2, s3, x3, c1, y1, c2, y2, hN, z, hs, u, qf⟩ := x
    refine z_perm plc (pl_1 E q0 s1 x1 s2 x2 s3 x3 c1 y1 c2 y2 hN z hs u qf q50 v) (by decide) (pl_2 E q0 s1 x1 s2 x2 s3 x3 c1 y1 c2 y2 hN z hs u qf q50 v) ?_
    refine z_ws (pl_3 E q0 s1 x1 s2 x2 s3 x3 c1 y1 c2 y2 hN z hs u qf q50 v) ?_
    exact law_loop (E := (ad0 q0 s1 x1 s2 x2 s3 x3 c1 y1 c2 y2 hN z hs u qf q50 v, E.2)) C hX hbl hbA hL hA2 (L + 1) 0 sig0 tau0 (by omega) (Nat.zero_le L) inv0
  exact body s.heap [] _ ⟨fun k q h => by simp at h, fun i j p q h => by simp at h, fun k q h => by simp at h⟩ va_S.rf hl
