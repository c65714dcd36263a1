noncomputable def fX4_isOfKind (x0 : Int32) (x1 : Int32) : Int32 :=
    (if x1 = (0 : Int32) then (1 : Int32) else (if x1 = (1 : Int32) then (if x0 = (1 : Int32) then (1 : Int32) else (if x0 = (3 : Int32) then (1 : Int32) else (if x0 = (5 : Int32) then (1 : Int32) else (0 : Int32)))) else (if x1 = (2 : Int32) then (if x0 = x1 then (1 : Int32) else (0 : Int32)) else (if x1 = (3 : Int32) then (if x0 = (3 : Int32) then (1 : Int32) else (if x0 = (5 : Int32) then (1 : Int32) else (0 : Int32))) else ((if x0 = x1 then (1 : Int32) else (0 : Int32)))))))
def rm_X4_isOfKind : Room := { frames := 0, cells := 0, slots := 0, locals := 0 }
set_option maxRecDepth 100000 in
set_option maxHeartbeats 4000000 in
theorem kX4_isOfKind (l : Launch) (E : QE) (σ τ : QS) (x0 : Int32) (x1 : Int32) (q : Int32) (hf : fX4_isOfKind x0 x1 = q) : KQ l yX4_isOfKind cX4_isOfKind 2 (some .boolean) rm_X4_isOfKind E [.int x0, .int x1] σ τ (PI E q σ τ) := by
  unfold fX4_isOfKind at hf
  refine y_met rfl (Nat.le_of_ble_eq_true rfl) rfl (fun p e s m below meth c C => ?_)
  refine y_iload_n C dX4_isOfKind_0 rfl 1 rfl ?_
  rcases Decidable.em (x1 = (0 : Int32)) with hs0 | hs0
  · replace hf := (if_pos hs0).symm.trans hf
    refine y_tsw C (off := 31) 32 hs0 dX4_isOfKind_1 (by decide) (by decide) (by decide) (by decide) ?_
    refine y_iconst C (v := 1) dX4_isOfKind_32 (by decide) ?_
    exact y_zret C zOk1 hf rfl rfl dX4_isOfKind_33
  replace hf := (if_neg hs0).symm.trans hf
  rcases Decidable.em (x1 = (1 : Int32)) with hs1 | hs1
  · replace hf := (if_pos hs1).symm.trans hf
    refine y_tsw C (off := 33) 34 hs1 dX4_isOfKind_1 (by decide) (by decide) (by decide) (by decide) ?_
    refine y_iload_n C dX4_isOfKind_34 rfl 0 rfl ?_
    refine y_iconst C (v := 1) dX4_isOfKind_35 (by decide) ?_
    refine y_icmp_eq C 49 dX4_isOfKind_36 (by decide) hf (fun hf => ?_) (fun hf => ?_)
    · refine y_iconst C (v := 1) dX4_isOfKind_49 (by decide) ?_
      refine y_goto C 54 dX4_isOfKind_50 (by decide) ?_
      exact y_zret C zOk1 hf rfl rfl dX4_isOfKind_54
    · refine y_iload_n C dX4_isOfKind_39 rfl 0 rfl ?_
      refine y_iconst C (v := 3) dX4_isOfKind_40 (by decide) ?_
      refine y_icmp_eq C 49 dX4_isOfKind_41 (by decide) hf (fun hf => ?_) (fun hf => ?_)
      · refine y_iconst C (v := 1) dX4_isOfKind_49 (by decide) ?_
        refine y_goto C 54 dX4_isOfKind_50 (by decide) ?_
        exact y_zret C zOk1 hf rfl rfl dX4_isOfKind_54
      · refine y_iload_n C dX4_isOfKind_44 rfl 0 rfl ?_
        refine y_iconst C (v := 5) dX4_isOfKind_45 (by decide) ?_
        refine y_icmp_ne C 53 dX4_isOfKind_46 (by decide) hf (fun hf => ?_) (fun hf => ?_)
        · refine y_iconst C (v := 0) dX4_isOfKind_53 (by decide) ?_
          exact y_zret C zOk0 hf rfl rfl dX4_isOfKind_54
        · refine y_iconst C (v := 1) dX4_isOfKind_49 (by decide) ?_
          refine y_goto C 54 dX4_isOfKind_50 (by decide) ?_
          exact y_zret C zOk1 hf rfl rfl dX4_isOfKind_54
  replace hf := (if_neg hs1).symm.trans hf
  rcases Decidable.em (x1 = (2 : Int32)) with hs2 | hs2
  · replace hf := (if_pos hs2).symm.trans hf
    refine y_tsw C (off := 70) 71 hs2 dX4_isOfKind_1 (by decide) (by decide) (by decide) (by decide) ?_
    refine y_iload_n C dX4_isOfKind_71 rfl 0 rfl ?_
    refine y_iload_n C dX4_isOfKind_72 rfl 1 rfl ?_
    refine y_icmp_ne C 80 dX4_isOfKind_73 (by decide) hf (fun hf => ?_) (fun hf => ?_)
    · refine y_iconst C (v := 0) dX4_isOfKind_80 (by decide) ?_
      exact y_zret C zOk0 hf rfl rfl dX4_isOfKind_81
    · refine y_iconst C (v := 1) dX4_isOfKind_76 (by decide) ?_
      refine y_goto C 81 dX4_isOfKind_77 (by decide) ?_
      exact y_zret C zOk1 hf rfl rfl dX4_isOfKind_81
  replace hf := (if_neg hs2).symm.trans hf
  rcases Decidable.em (x1 = (3 : Int32)) with hs3 | hs3
  · replace hf := (if_pos hs3).symm.trans hf
    refine y_tsw C (off := 54) 55 hs3 dX4_isOfKind_1 (by decide) (by decide) (by decide) (by decide) ?_
    refine y_iload_n C dX4_isOfKind_55 rfl 0 rfl ?_
    refine y_iconst C (v := 3) dX4_isOfKind_56 (by decide) ?_
    refine y_icmp_eq C 65 dX4_isOfKind_57 (by decide) hf (fun hf => ?_) (fun hf => ?_)
    · refine y_iconst C (v := 1) dX4_isOfKind_65 (by decide) ?_
      refine y_goto C 70 dX4_isOfKind_66 (by decide) ?_
      exact y_zret C zOk1 hf rfl rfl dX4_isOfKind_70
    · refine y_iload_n C dX4_isOfKind_60 rfl 0 rfl ?_
      refine y_iconst C (v := 5) dX4_isOfKind_61 (by decide) ?_
      refine y_icmp_ne C 69 dX4_isOfKind_62 (by decide) hf (fun hf => ?_) (fun hf => ?_)
      · refine y_iconst C (v := 0) dX4_isOfKind_69 (by decide) ?_
        exact y_zret C zOk0 hf rfl rfl dX4_isOfKind_70
      · refine y_iconst C (v := 1) dX4_isOfKind_65 (by decide) ?_
        refine y_goto C 70 dX4_isOfKind_66 (by decide) ?_
        exact y_zret C zOk1 hf rfl rfl dX4_isOfKind_70
  replace hf := (if_neg hs3).symm.trans hf
  have hsn0 := lv_neT hs0 (a := 0) (by decide)
  have hsn1 := lv_neT hs1 (a := 1) (by decide)
  have hsn2 := lv_neT hs2 (a := 2) (by decide)
  have hsn3 := lv_neT hs3 (a := 3) (by decide)
  refine y_tswD C 71 dX4_isOfKind_1 (by omega) (by decide) ?_
  refine y_iload_n C dX4_isOfKind_71 rfl 0 rfl ?_
  refine y_iload_n C dX4_isOfKind_72 rfl 1 rfl ?_
  refine y_icmp_ne C 80 dX4_isOfKind_73 (by decide) hf (fun hf => ?_) (fun hf => ?_)
  · refine y_iconst C (v := 0) dX4_isOfKind_80 (by decide) ?_
    exact y_zret C zOk0 hf rfl rfl dX4_isOfKind_81
  · refine y_iconst C (v := 1) dX4_isOfKind_76 (by decide) ?_
    refine y_goto C 81 dX4_isOfKind_77 (by decide) ?_
    exact y_zret C zOk1 hf rfl rfl dX4_isOfKind_81
theorem zX4_isOfKind (x0 : Int32) (x1 : Int32) : zOk (fX4_isOfKind x0 x1) := by
  unfold fX4_isOfKind
  try simp only [lt_]
  (repeat' split) <;> first | exact zOk0 | exact zOk1
noncomputable def fX4_fears (x0 : Int32) (x1 : Int32) (x2 : Int32) : Int32 :=
    lt_ (fJ9_max_7cf53 (0 : Int32) (x1 - x2)) (fun (v1 : Int32) => (if (fX4_isOfKind x0 (3 : Int32)) = 0 then v1 else (v1 / (2 : Int32))))
def rm_X4_fears : Room := { frames := 1, cells := 0, slots := 0, locals := 21 }
set_option maxRecDepth 100000 in
set_option maxHeartbeats 4000000 in
theorem kX4_fears (l : Launch) (E : QE) (σ τ : QS) (x0 : Int32) (x1 : Int32) (x2 : Int32) (q : Int32) (hf : fX4_fears x0 x1 x2 = q) : KQ l yX4_fears cX4_fears 4 (some .int) rm_X4_fears E [.int x0, .int x1, .int x2] σ τ (PI E q σ τ) := by
  unfold fX4_fears at hf
  refine y_met rfl (Nat.le_of_ble_eq_true rfl) rfl (fun p e s m below meth c C => ?_)
  refine y_iconst C (v := 0) dX4_fears_0 (by decide) ?_
  refine y_iload_n C dX4_fears_1 rfl 1 rfl ?_
  refine y_iload_n C dX4_fears_2 rfl 2 rfl ?_
  refine y_isub C dX4_fears_3 ?_
  refine y_cSi C (kJ9_max_7cf53 l E σ τ (0 : Int32) (x1 - x2) _ rfl) si_J9_max_7cf53 ml_X4_225 rfl ⟨rfl, rfl, Nat.le_of_ble_eq_true rfl, Nat.le_of_ble_eq_true rfl⟩ dX4_fears_4 rfl (Nat.le_of_ble_eq_true rfl) ?_
  obtain ⟨v1, e_v1, hf⟩ := lt_e hf
  refine y_istore_n C dX4_fears_7 rfl (Nat.le_of_ble_eq_true rfl) e_v1 (lv' := [(3, .int v1), (0, .int x0), (1, .int x1), (2, .int x2)]) rfl ?_
  refine y_iload_n C dX4_fears_8 rfl 1 rfl ?_
  refine y_iconst C (v := 3) dX4_fears_9 (by decide) ?_
  refine y_cSi C (kX4_isOfKind l E σ τ x0 (3 : Int32) _ rfl) si_X4_isOfKind ml_X4_127 rfl ⟨rfl, rfl, Nat.le_of_ble_eq_true rfl, Nat.le_of_ble_eq_true rfl⟩ dX4_fears_10 rfl (Nat.le_of_ble_eq_true rfl) ?_
  refine y_if_eq C 22 dX4_fears_13 (by decide) hf (fun hf => ?_) (fun hf => ?_)
  · refine y_iload_n C dX4_fears_22 rfl 0 rfl ?_
    exact y_iret C hf rfl rfl dX4_fears_23
  · refine y_iload_n C dX4_fears_16 rfl 0 rfl ?_
    refine y_iconst C (v := 2) dX4_fears_17 (by decide) ?_
    refine y_idiv C (by decide) dX4_fears_18 ?_
    refine y_goto C 23 dX4_fears_19 (by decide) ?_
    exact y_iret C hf rfl rfl dX4_fears_23
noncomputable def fJ6_bitCount_0f7a4 (x0 : Int32) : Int32 :=
    lt_ (x0 - ((x0.toUInt32 >>> ((1 : Int32).toUInt32 &&& Int32.toUInt32 31)).toInt32 &&& (1431655765 : Int32))) (fun (v1 : Int32) => lt_ ((v1 &&& (858993459 : Int32)) + ((v1.toUInt32 >>> ((2 : Int32).toUInt32 &&& Int32.toUInt32 31)).toInt32 &&& (858993459 : Int32))) (fun (v2 : Int32) => lt_ ((v2 + (v2.toUInt32 >>> ((4 : Int32).toUInt32 &&& Int32.toUInt32 31)).toInt32) &&& (252645135 : Int32)) (fun (v3 : Int32) => lt_ (v3 + (v3.toUInt32 >>> ((8 : Int32).toUInt32 &&& Int32.toUInt32 31)).toInt32) (fun (v4 : Int32) => lt_ (v4 + (v4.toUInt32 >>> ((16 : Int32).toUInt32 &&& Int32.toUInt32 31)).toInt32) (fun (v5 : Int32) => (v5 &&& (63 : Int32)))))))
def rm_J6_bitCount_0f7a4 : Room := { frames := 0, cells := 0, slots := 0, locals := 0 }
set_option maxRecDepth 100000 in
set_option maxHeartbeats 4000000 in
theorem kJ6_bitCount_0f7a4 (l : Launch) (E : QE) (σ τ : QS) (x0 : Int32) (q : Int32) (hf : fJ6_bitCount_0f7a4 x0 = q) : KQ l yJ6_bitCount_0f7a4 cJ6_bitCount_0f7a4 1 (some .int) rm_J6_bitCount_0f7a4 E [.int x0] σ τ (PI E q σ τ) := by
  unfold fJ6_bitCount_0f7a4 at hf
  refine y_met rfl (Nat.le_of_ble_eq_true rfl) rfl (fun p e s m below meth c C => ?_)
  refine y_iload_n C dJ6_bitCount_0f7a4_0 rfl 0 rfl ?_
  refine y_iload_n C dJ6_bitCount_0f7a4_1 rfl 0 rfl ?_
  refine y_iconst C (v := 1) dJ6_bitCount_0f7a4_2 (by decide) ?_
  refine y_iushr C dJ6_bitCount_0f7a4_3 ?_
  refine y_ldcw C kc_J6_265 dJ6_bitCount_0f7a4_4 ?_
  refine y_iand C dJ6_bitCount_0f7a4_7 ?_
  refine y_isub C dJ6_bitCount_0f7a4_8 ?_
  obtain ⟨v1, e_v1, hf⟩ := lt_e hf
  refine y_istore_n C dJ6_bitCount_0f7a4_9 rfl (Nat.le_of_ble_eq_true rfl) e_v1 (lv' := [(0, .int v1)]) rfl ?_
  refine y_iload_n C dJ6_bitCount_0f7a4_10 rfl 0 rfl ?_
  refine y_ldcw C kc_J6_266 dJ6_bitCount_0f7a4_11 ?_
  refine y_iand C dJ6_bitCount_0f7a4_14 ?_
  refine y_iload_n C dJ6_bitCount_0f7a4_15 rfl 0 rfl ?_
  refine y_iconst C (v := 2) dJ6_bitCount_0f7a4_16 (by decide) ?_
  refine y_iushr C dJ6_bitCount_0f7a4_17 ?_
  refine y_ldcw C kc_J6_266 dJ6_bitCount_0f7a4_18 ?_
  refine y_iand C dJ6_bitCount_0f7a4_21 ?_
  refine y_iadd C dJ6_bitCount_0f7a4_22 ?_
  obtain ⟨v2, e_v2, hf⟩ := lt_e hf
  refine y_istore_n C dJ6_bitCount_0f7a4_23 rfl (Nat.le_of_ble_eq_true rfl) e_v2 (lv' := [(0, .int v2)]) rfl ?_
  refine y_iload_n C dJ6_bitCount_0f7a4_24 rfl 0 rfl ?_
  refine y_iload_n C dJ6_bitCount_0f7a4_25 rfl 0 rfl ?_
  refine y_iconst C (v := 4) dJ6_bitCount_0f7a4_26 (by decide) ?_
  refine y_iushr C dJ6_bitCount_0f7a4_27 ?_
  refine y_iadd C dJ6_bitCount_0f7a4_28 ?_
  refine y_ldcw C kc_J6_267 dJ6_bitCount_0f7a4_29 ?_
  refine y_iand C dJ6_bitCount_0f7a4_32 ?_
  obtain ⟨v3, e_v3, hf⟩ := lt_e hf
  refine y_istore_n C dJ6_bitCount_0f7a4_33 rfl (Nat.le_of_ble_eq_true rfl) e_v3 (lv' := [(0, .int v3)]) rfl ?_
  refine y_iload_n C dJ6_bitCount_0f7a4_34 rfl 0 rfl ?_
  refine y_iload_n C dJ6_bitCount_0f7a4_35 rfl 0 rfl ?_
  refine y_bipush C (v := 8) dJ6_bitCount_0f7a4_36 (by decide) ?_
  refine y_iushr C dJ6_bitCount_0f7a4_38 ?_
  refine y_iadd C dJ6_bitCount_0f7a4_39 ?_
  obtain ⟨v4, e_v4, hf⟩ := lt_e hf
  refine y_istore_n C dJ6_bitCount_0f7a4_40 rfl (Nat.le_of_ble_eq_true rfl) e_v4 (lv' := [(0, .int v4)]) rfl ?_
  refine y_iload_n C dJ6_bitCount_0f7a4_41 rfl 0 rfl ?_
  refine y_iload_n C dJ6_bitCount_0f7a4_42 rfl 0 rfl ?_
  refine y_bipush C (v := 16) dJ6_bitCount_0f7a4_43 (by decide) ?_
  refine y_iushr C dJ6_bitCount_0f7a4_45 ?_
  refine y_iadd C dJ6_bitCount_0f7a4_46 ?_
  obtain ⟨v5, e_v5, hf⟩ := lt_e hf
  refine y_istore_n C dJ6_bitCount_0f7a4_47 rfl (Nat.le_of_ble_eq_true rfl) e_v5 (lv' := [(0, .int v5)]) rfl ?_
  refine y_iload_n C dJ6_bitCount_0f7a4_48 rfl 0 rfl ?_
  refine y_bipush C (v := 63) dJ6_bitCount_0f7a4_49 (by decide) ?_
  refine y_iand C dJ6_bitCount_0f7a4_51 ?_
  exact y_iret C hf rfl rfl dJ6_bitCount_0f7a4_52
noncomputable def fX1_otherClaques_5 (x1 : Int32) (x2 : Int32) (σ : QS) : Int32 :=
    (fJ6_bitCount_0f7a4 (((gI σ 11) &&& (x2 ^^^ (-1 : Int32))) &&& (((1 : Int32) <<< (x1 &&& 31)) ^^^ (-1 : Int32))))
def rm_X1_otherClaques_5 : Room := { frames := 1, cells := 0, slots := 0, locals := 20 }
set_option maxRecDepth 100000 in
set_option maxHeartbeats 4000000 in
theorem kX1_otherClaques_5 (l : Launch) (E : QE) (σ τ : QS) (x1 : Int32) (x2 : Int32) (q : Int32) (hf : fX1_otherClaques_5 x1 x2 σ = q) : KQ l yX1_otherClaques cX1_otherClaques 3 (some .int) rm_X1_otherClaques_5 E [.ref (qAd E 5), .int x1, .int x2] σ τ (PI E q σ τ) := by
  unfold fX1_otherClaques_5 at hf
  refine y_met rfl (Nat.le_of_ble_eq_true rfl) rfl (fun p e s m below meth c C => ?_)
  refine y_aload_n C dX1_otherClaques_0 rfl 0 rfl ?_
  refine g5_claqueBits C fl_X1_37 dX1_otherClaques_1 ?_
  refine y_iload_n C dX1_otherClaques_4 rfl 2 rfl ?_
  refine y_iconst C (v := -1) dX1_otherClaques_5 (by decide) ?_
  refine y_ixor C dX1_otherClaques_6 ?_
  refine y_iand C dX1_otherClaques_7 ?_
  refine y_iconst C (v := 1) dX1_otherClaques_8 (by decide) ?_
  refine y_iload_n C dX1_otherClaques_9 rfl 1 rfl ?_
  refine y_ishl C dX1_otherClaques_10 ?_
  refine y_iconst C (v := -1) dX1_otherClaques_11 (by decide) ?_
  refine y_ixor C dX1_otherClaques_12 ?_
  refine y_iand C dX1_otherClaques_13 ?_
  refine y_cSi C (kJ6_bitCount_0f7a4 l E σ τ (((gI σ 11) &&& (x2 ^^^ (-1 : Int32))) &&& (((1 : Int32) <<< (x1 &&& 31)) ^^^ (-1 : Int32))) _ rfl) si_J6_bitCount_0f7a4 ml_X1_80 rfl ⟨rfl, rfl, Nat.le_of_ble_eq_true rfl, Nat.le_of_ble_eq_true rfl⟩ dX1_otherClaques_14 rfl (Nat.le_of_ble_eq_true rfl) ?_
  exact y_iret C hf rfl rfl dX1_otherClaques_17
noncomputable def fX4_says (x0 : Int32) (x1 : Int32) (x2 : Int32) (x3 : Int32) (x4 : Int32) : Int32 :=
    lt_ (fJ9_max_7cf53 (0 : Int32) (x1 - (fX4_fears x0 x2 x3))) (fun (v1 : Int32) => lt_ (fun (v3 : Int32) => (if x0 = (5 : Int32) then (v3 + x4) else v3)) (fun (j2 : Int32 → Int32) => (if (fX4_isOfKind x0 (1 : Int32)) = 0 then j2 v1 else j2 (v1 + (2 : Int32)))))
def rm_X4_says : Room := { frames := 2, cells := 0, slots := 0, locals := 44 }
set_option maxRecDepth 100000 in
set_option maxHeartbeats 4000000 in
theorem kX4_says (l : Launch) (E : QE) (σ τ : QS) (x0 : Int32) (x1 : Int32) (x2 : Int32) (x3 : Int32) (x4 : Int32) (q : Int32) (hf : fX4_says x0 x1 x2 x3 x4 = q) : KQ l yX4_says cX4_says 6 (some .int) rm_X4_says E [.int x0, .int x1, .int x2, .int x3, .int x4] σ τ (PI E q σ τ) := by
  unfold fX4_says at hf
  refine y_met rfl (Nat.le_of_ble_eq_true rfl) rfl (fun p e s m below meth c C => ?_)
  refine y_iconst C (v := 0) dX4_says_0 (by decide) ?_
  refine y_iload_n C dX4_says_1 rfl 1 rfl ?_
  refine y_iload_n C dX4_says_2 rfl 0 rfl ?_
  refine y_iload_n C dX4_says_3 rfl 2 rfl ?_
  refine y_iload_n C dX4_says_4 rfl 3 rfl ?_
  refine y_cSi C (kX4_fears l E σ τ x0 x2 x3 _ rfl) si_X4_fears ml_X4_334 rfl ⟨rfl, rfl, Nat.le_of_ble_eq_true rfl, Nat.le_of_ble_eq_true rfl⟩ dX4_says_5 rfl (Nat.le_of_ble_eq_true rfl) ?_
  refine y_isub C dX4_says_8 ?_
  refine y_cSi C (kJ9_max_7cf53 l E σ τ (0 : Int32) (x1 - (fX4_fears x0 x2 x3)) _ rfl) si_J9_max_7cf53 ml_X4_225 rfl ⟨rfl, rfl, Nat.le_of_ble_eq_true rfl, Nat.le_of_ble_eq_true rfl⟩ dX4_says_9 rfl (Nat.le_of_ble_eq_true rfl) ?_
  obtain ⟨v1, e_v1, hf⟩ := lt_e hf
  refine y_istore C dX4_says_12 (Nat.le_of_ble_eq_true rfl) e_v1 (lv' := [(5, .int v1), (0, .int x0), (1, .int x1), (2, .int x2), (3, .int x3), (4, .int x4)]) rfl ?_
  refine y_iload_n C dX4_says_14 rfl 1 rfl ?_
  refine y_iconst C (v := 1) dX4_says_15 (by decide) ?_
  refine y_cSi C (kX4_isOfKind l E σ τ x0 (1 : Int32) _ rfl) si_X4_isOfKind ml_X4_127 rfl ⟨rfl, rfl, Nat.le_of_ble_eq_true rfl, Nat.le_of_ble_eq_true rfl⟩ dX4_says_16 rfl (Nat.le_of_ble_eq_true rfl) ?_
  obtain ⟨j2, ek_j2, hf⟩ := lt_e hf
  have h_j2 : ∀ (v3 : Int32), j2 v3 = q → Y E p l e rm_X4_says s m ([.int x0, .int x1, .int x2, .int x3, .int x4] : List Value).toArray below meth c 6 (MQ below (PI E q σ τ) ([.int x0, .int x1, .int x2, .int x3, .int x4] : List Value).toArray s 0 0 (qA E)) σ τ 25 [(0, .int x0), (4, .int x4), (5, .int v3)] [] := by
    intro v3 hf
    replace hf := (congrFun (ek_j2) v3).symm.trans hf
    refine y_iload_n C dX4_says_25 rfl 0 rfl ?_
    refine y_iconst C (v := 5) dX4_says_26 (by decide) ?_
    refine y_icmp_ne C 38 dX4_says_27 (by decide) hf (fun hf => ?_) (fun hf => ?_)
    · refine y_iload C dX4_says_38 2 rfl ?_
      exact y_iret C hf rfl rfl dX4_says_40
    · refine y_iload C dX4_says_30 2 rfl ?_
      refine y_iload C dX4_says_32 1 rfl ?_
      refine y_iadd C dX4_says_34 ?_
      refine y_goto C 40 dX4_says_35 (by decide) ?_
      exact y_iret C hf rfl rfl dX4_says_40
  refine y_if_eq C 25 dX4_says_19 (by decide) hf (fun hf => ?_) (fun hf => ?_)
  · refine y_sub [1, 5, 0] rfl ?_
    exact h_j2 v1 hf
  · refine y_iinc C dX4_says_22 0 rfl (Nat.le_of_ble_eq_true rfl) (k2 := 2) (by decide) rfl (lv' := [(5, .int (v1 + (2 : Int32))), (0, .int x0), (1, .int x1), (2, .int x2), (3, .int x3), (4, .int x4)]) rfl ?_
    refine y_sub [1, 5, 0] rfl ?_
    exact h_j2 (v1 + (2 : Int32)) hf
noncomputable def fX0_saysNow_6 (x1 : Int32) (σ : QS) : Option (Int32) :=
    lt_ (fX1_otherClaques_5 x1 (gI σ 14) σ) (fun (v1 : Int32) => ck_ (inb x1 6) (ck_ (inb x1 6) (ck_ (inb x1 6) (some (fX4_says (gM σ 21 x1.toNatClampNeg) (gM σ 23 x1.toNatClampNeg) (gM σ 24 x1.toNatClampNeg) (gI σ 17) v1)))))
def rm_X0_saysNow_6 : Room := { frames := 3, cells := 0, slots := 0, locals := 69 }
set_option maxRecDepth 100000 in
set_option maxHeartbeats 4000000 in
theorem kX0_saysNow_6 (l : Launch) (E : QE) (σ τ : QS) (x1 : Int32) (q : Int32) (hf : fX0_saysNow_6 x1 σ = some q) : KQ l yX0_saysNow cX0_saysNow 3 (some .int) rm_X0_saysNow_6 E [.ref (qAd E 6), .int x1] σ τ (PI E q σ τ) := by
  unfold fX0_saysNow_6 at hf
  refine y_met rfl (Nat.le_of_ble_eq_true rfl) rfl (fun p e s m below meth c C => ?_)
  refine y_aload_n C dX0_saysNow_0 rfl 0 rfl ?_
  refine g6_script C fl_X0_18 dX0_saysNow_1 ?_
  refine y_iload_n C dX0_saysNow_4 rfl 1 rfl ?_
  refine y_aload_n C dX0_saysNow_5 rfl 0 rfl ?_
  refine g6_called C fl_X0_38 dX0_saysNow_6 ?_
  refine y_cVi C (kX1_otherClaques_5 l E σ τ x1 (gI σ 14) _ rfl) vi_X1_otherClaques ml_X0_112 ⟨1, _, o5, rfl, rfl⟩ rfl ⟨rfl, rfl, Nat.le_of_ble_eq_true rfl, Nat.le_of_ble_eq_true rfl⟩ dX0_saysNow_9 rfl (Nat.le_of_ble_eq_true rfl) ?_
  obtain ⟨v1, e_v1, hf⟩ := lt_e hf
  refine y_istore_n C dX0_saysNow_12 rfl (Nat.le_of_ble_eq_true rfl) e_v1 (lv' := [(2, .int v1), (0, .ref (qAd E 6)), (1, .int x1)]) rfl ?_
  refine y_aload_n C dX0_saysNow_13 rfl 1 rfl ?_
  refine g6_script C fl_X0_18 dX0_saysNow_14 ?_
  refine gN5_kind C fn_X0_78 dX0_saysNow_17 ?_
  refine y_iload_n C dX0_saysNow_20 rfl 2 rfl ?_
  obtain ⟨hi2, hf⟩ := ck_e hf
  refine y_ialdC C a21 (j := x1.toNatClampNeg) rfl hi2 dX0_saysNow_21 ?_
  refine y_aload_n C dX0_saysNow_22 rfl 1 rfl ?_
  refine g6_script C fl_X0_18 dX0_saysNow_23 ?_
  refine gN5_memory C fn_X0_96 dX0_saysNow_26 ?_
  refine y_iload_n C dX0_saysNow_29 rfl 2 rfl ?_
  obtain ⟨hi3, hf⟩ := ck_e hf
  refine y_ialdC C a23 (j := x1.toNatClampNeg) rfl hi3 dX0_saysNow_30 ?_
  refine y_aload_n C dX0_saysNow_31 rfl 1 rfl ?_
  refine g6_script C fl_X0_18 dX0_saysNow_32 ?_
  refine gN5_fright C fn_X0_99 dX0_saysNow_35 ?_
  refine y_iload_n C dX0_saysNow_38 rfl 2 rfl ?_
  obtain ⟨hi4, hf⟩ := ck_e hf
  refine y_ialdC C a24 (j := x1.toNatClampNeg) rfl hi4 dX0_saysNow_39 ?_
  refine y_aload_n C dX0_saysNow_40 rfl 1 rfl ?_
  refine g6_clapping C fl_X0_50 dX0_saysNow_41 ?_
  refine y_iload_n C dX0_saysNow_44 rfl 0 rfl ?_
  refine y_cNi C (kX4_says l E σ τ (gM σ 21 x1.toNatClampNeg) (gM σ 23 x1.toNatClampNeg) (gM σ 24 x1.toNatClampNeg) (gI σ 17) v1 _ rfl) si_X4_says mn_X0_116 rfl ⟨rfl, rfl, Nat.le_of_ble_eq_true rfl, Nat.le_of_ble_eq_true rfl⟩ dX0_saysNow_45 rfl (Nat.le_of_ble_eq_true rfl) ?_
  exact y_iret C (Option.some.inj hf) rfl rfl dX0_saysNow_48
noncomputable def fX4_isCallableFrom (x0 : Int32) (x1 : Int32) : Int32 :=
    (if x0 = (2 : Int32) then (if (x1 - x1 / (2 : Int32) * (2 : Int32)) = (1 : Int32) then (1 : Int32) else (0 : Int32)) else (if x0 = (4 : Int32) then (if (7 : Int32) ≤ x1 then (0 : Int32) else (1 : Int32)) else ((1 : Int32))))
def rm_X4_isCallableFrom : Room := { frames := 0, cells := 0, slots := 0, locals := 0 }
set_option maxRecDepth 100000 in
set_option maxHeartbeats 4000000 in
theorem kX4_isCallableFrom (l : Launch) (E : QE) (σ τ : QS) (x0 : Int32) (x1 : Int32) (q : Int32) (hf : fX4_isCallableFrom x0 x1 = q) : KQ l yX4_isCallableFrom cX4_isCallableFrom 2 (some .boolean) rm_X4_isCallableFrom E [.int x0, .int x1] σ τ (PI E q σ τ) := by
  unfold fX4_isCallableFrom at hf
  refine y_met rfl (Nat.le_of_ble_eq_true rfl) rfl (fun p e s m below meth c C => ?_)
  refine y_iload_n C dX4_isCallableFrom_0 rfl 0 rfl ?_
  rcases Decidable.em (x0 = (2 : Int32)) with hs2 | hs2
  · replace hf := (if_pos hs2).symm.trans hf
    refine y_lsw C (off := 27) 28 dX4_isCallableFrom_1 (by decide) (by rw [hs2]; decide) (by decide) ?_
    refine y_iload_n C dX4_isCallableFrom_28 rfl 1 rfl ?_
    refine y_iconst C (v := 2) dX4_isCallableFrom_29 (by decide) ?_
    refine y_irem C (by decide) dX4_isCallableFrom_30 ?_
    refine y_iconst C (v := 1) dX4_isCallableFrom_31 (by decide) ?_
    refine y_icmp_ne C 39 dX4_isCallableFrom_32 (by decide) hf (fun hf => ?_) (fun hf => ?_)
    · refine y_iconst C (v := 0) dX4_isCallableFrom_39 (by decide) ?_
      exact y_zret C zOk0 hf rfl rfl dX4_isCallableFrom_40
    · refine y_iconst C (v := 1) dX4_isCallableFrom_35 (by decide) ?_
      refine y_goto C 40 dX4_isCallableFrom_36 (by decide) ?_
      exact y_zret C zOk1 hf rfl rfl dX4_isCallableFrom_40
  replace hf := (if_neg hs2).symm.trans hf
  rcases Decidable.em (x0 = (4 : Int32)) with hs4 | hs4
  · replace hf := (if_pos hs4).symm.trans hf
    refine y_lsw C (off := 40) 41 dX4_isCallableFrom_1 (by decide) (by rw [hs4]; decide) (by decide) ?_
    refine y_iload_n C dX4_isCallableFrom_41 rfl 1 rfl ?_
    refine y_bipush C (v := 7) dX4_isCallableFrom_42 (by decide) ?_
    refine y_icmp_ge C 51 dX4_isCallableFrom_44 (by decide) hf (fun hf => ?_) (fun hf => ?_)
    · refine y_iconst C (v := 0) dX4_isCallableFrom_51 (by decide) ?_
      exact y_zret C zOk0 hf rfl rfl dX4_isCallableFrom_52
    · refine y_iconst C (v := 1) dX4_isCallableFrom_47 (by decide) ?_
      refine y_goto C 52 dX4_isCallableFrom_48 (by decide) ?_
      exact y_zret C zOk1 hf rfl rfl dX4_isCallableFrom_52
  replace hf := (if_neg hs4).symm.trans hf
  refine y_lsw C (off := 52) 53 dX4_isCallableFrom_1 (by decide) (by show Op.lookupswitch.offset [(2, 27), (4, 40)] 52 _ = _; rw [lv_osw hs2 (by decide), lv_osw hs4 (by decide)]; rfl) (by decide) ?_
  refine y_iconst C (v := 1) dX4_isCallableFrom_53 (by decide) ?_
  exact y_zret C zOk1 hf rfl rfl dX4_isCallableFrom_54
theorem zX4_isCallableFrom (x0 : Int32) (x1 : Int32) : zOk (fX4_isCallableFrom x0 x1) := by
  unfold fX4_isCallableFrom
  try simp only [lt_]
  (repeat' split) <;> first | exact zOk0 | exact zOk1
noncomputable def fX0_allowed_6  (σ : QS) : Option (Int32) :=
    lp_ (fun (r2 : Int32 × Int32 → Option (Int32)) (a1 : Int32 × Int32) => (if (gI σ 9) ≤ a1.2 then some a1.1 else ck_ (inb a1.2 6) (ck_ (inb a1.2 6) ((if (fX4_isCallableFrom (gM σ 21 a1.2.toNatClampNeg) (gM σ 25 a1.2.toNatClampNeg)) = 0 then lt_ (a1.1 ||| (0 : Int32)) (fun (v5 : Int32) => r2 (v5, (a1.2 + (1 : Int32)))) else lt_ (a1.1 ||| ((1 : Int32) <<< (a1.2 &&& 31))) (fun (v6 : Int32) => r2 (v6, (a1.2 + (1 : Int32))))))))) FV ((0 : Int32), (0 : Int32))
def rm_X0_allowed_6 : Room := { frames := 1, cells := 0, slots := 0, locals := 21 }
set_option maxRecDepth 100000 in
set_option maxHeartbeats 4000000 in
theorem kX0_allowed_6 (l : Launch) (E : QE) (σ τ : QS)  (q : Int32) (hf : fX0_allowed_6 σ = some q) : KQ l yX0_allowed cX0_allowed 3 (some .int) rm_X0_allowed_6 E [.ref (qAd E 6)] σ τ (PI E q σ τ) := by
  unfold fX0_allowed_6 at hf
  refine y_met rfl (Nat.le_of_ble_eq_true rfl) rfl (fun p e s m below meth c C => ?_)
  refine y_iconst C (v := 0) dX0_allowed_0 (by decide) ?_
  refine y_istore_n C dX0_allowed_1 rfl (Nat.le_of_ble_eq_true rfl) rfl (lv' := [(1, .int (0 : Int32)), (0, .ref (qAd E 6))]) rfl ?_
  refine y_iconst C (v := 0) dX0_allowed_2 (by decide) ?_
  refine y_istore_n C dX0_allowed_3 rfl (Nat.le_of_ble_eq_true rfl) rfl (lv' := [(2, .int (0 : Int32)), (1, .int (0 : Int32)), (0, .ref (qAd E 6))]) rfl ?_
  refine y_sub [0, 1, 2] rfl ?_
  refine lp_ind (P := fun a1 : Int32 × Int32 => Y E p l e rm_X0_allowed_6 s m ([.ref (qAd E 6)] : List Value).toArray below meth c 3 (MQ below (PI E q σ τ) ([.ref (qAd E 6)] : List Value).toArray s 0 0 (qA E)) σ τ 4 [(2, .int a1.2), (1, .int a1.1), (0, .ref (qAd E 6))] []) (fun r2 a1 ih_r2 hf => ?_) _ _ hf
  refine y_iload_n C dX0_allowed_4 rfl 0 rfl ?_
  refine y_aload_n C dX0_allowed_5 rfl 2 rfl ?_
  refine g6_script C fl_X0_18 dX0_allowed_6 ?_
  refine gN5_sitterCount C fn_X0_75 dX0_allowed_9 ?_
  refine y_icmp_ge C 52 dX0_allowed_12 (by decide) hf (fun hf => ?_) (fun hf => ?_)
  · refine y_iload_n C dX0_allowed_52 rfl 1 rfl ?_
    exact y_iret C (Option.some.inj hf) rfl rfl dX0_allowed_53
  · refine y_iload_n C dX0_allowed_15 rfl 1 rfl ?_
    refine y_aload_n C dX0_allowed_16 rfl 2 rfl ?_
    refine g6_script C fl_X0_18 dX0_allowed_17 ?_
    refine gN5_kind C fn_X0_78 dX0_allowed_20 ?_
    refine y_iload_n C dX0_allowed_23 rfl 0 rfl ?_
    obtain ⟨hi3, hf⟩ := ck_e hf
    refine y_ialdC C a21 (j := a1.2.toNatClampNeg) rfl hi3 dX0_allowed_24 ?_
    refine y_aload_n C dX0_allowed_25 rfl 2 rfl ?_
    refine g6_seat C fl_X0_9 dX0_allowed_26 ?_
    refine y_iload_n C dX0_allowed_29 rfl 0 rfl ?_
    obtain ⟨hi4, hf⟩ := ck_e hf
    refine y_ialdC C a25 (j := a1.2.toNatClampNeg) rfl hi4 dX0_allowed_30 ?_
    refine y_cNi C (kX4_isCallableFrom l E σ τ (gM σ 21 a1.2.toNatClampNeg) (gM σ 25 a1.2.toNatClampNeg) _ rfl) si_X4_isCallableFrom mn_X0_81 rfl ⟨rfl, rfl, Nat.le_of_ble_eq_true rfl, Nat.le_of_ble_eq_true rfl⟩ dX0_allowed_31 rfl (Nat.le_of_ble_eq_true rfl) ?_
    refine y_if_eq C 43 dX0_allowed_34 (by decide) hf (fun hf => ?_) (fun hf => ?_)
    · refine y_iconst C (v := 0) dX0_allowed_43 (by decide) ?_
      refine y_ior C dX0_allowed_44 ?_
      obtain ⟨v5, e_v5, hf⟩ := lt_e hf
      refine y_istore_n C dX0_allowed_45 rfl (Nat.le_of_ble_eq_true rfl) e_v5 (lv' := [(1, .int v5), (2, .int a1.2), (0, .ref (qAd E 6))]) rfl ?_
      refine y_iinc C dX0_allowed_46 1 rfl (Nat.le_of_ble_eq_true rfl) (k2 := 1) (by decide) rfl (lv' := [(2, .int (a1.2 + (1 : Int32))), (1, .int v5), (0, .ref (qAd E 6))]) rfl ?_
      refine y_goto C 4 dX0_allowed_49 (by decide) ?_
      refine y_sub [0, 1, 2] rfl ?_
      exact ih_r2 (v5, (a1.2 + (1 : Int32))) hf
    · refine y_iconst C (v := 1) dX0_allowed_37 (by decide) ?_
      refine y_iload_n C dX0_allowed_38 rfl 0 rfl ?_
      refine y_ishl C dX0_allowed_39 ?_
      refine y_goto C 44 dX0_allowed_40 (by decide) ?_
      refine y_ior C dX0_allowed_44 ?_
      obtain ⟨v6, e_v6, hf⟩ := lt_e hf
      refine y_istore_n C dX0_allowed_45 rfl (Nat.le_of_ble_eq_true rfl) e_v6 (lv' := [(1, .int v6), (2, .int a1.2), (0, .ref (qAd E 6))]) rfl ?_
      refine y_iinc C dX0_allowed_46 1 rfl (Nat.le_of_ble_eq_true rfl) (k2 := 1) (by decide) rfl (lv' := [(2, .int (a1.2 + (1 : Int32))), (1, .int v6), (0, .ref (qAd E 6))]) rfl ?_
      refine y_goto C 4 dX0_allowed_49 (by decide) ?_
      refine y_sub [0, 1, 2] rfl ?_
      exact ih_r2 (v6, (a1.2 + (1 : Int32))) hf
noncomputable def fX0_free_6  (σ : QS) : Option (Int32) :=
    Option.bind (fX0_allowed_6 σ) (fun (q1 : Int32) => some (q1 &&& ((gI σ 14) ^^^ (-1 : Int32))))
def rm_X0_free_6 : Room := { frames := 2, cells := 0, slots := 0, locals := 43 }
set_option maxRecDepth 100000 in
set_option maxHeartbeats 4000000 in
theorem kX0_free_6 (l : Launch) (E : QE) (σ τ : QS)  (q : Int32) (hf : fX0_free_6 σ = some q) : KQ l yX0_free cX0_free 1 (some .int) rm_X0_free_6 E [.ref (qAd E 6)] σ τ (PI E q σ τ) := by
  unfold fX0_free_6 at hf
  refine y_met rfl (Nat.le_of_ble_eq_true rfl) rfl (fun p e s m below meth c C => ?_)
  refine y_aload_n C dX0_free_0 rfl 0 rfl ?_
  obtain ⟨q1, h_q1, hf⟩ := bd_e hf
  refine y_cVi C (kX0_allowed_6 l E σ τ _ h_q1) vi_X0_allowed ml_X0_85 ⟨0, _, o6, rfl, rfl⟩ rfl ⟨rfl, rfl, Nat.le_of_ble_eq_true rfl, Nat.le_of_ble_eq_true rfl⟩ dX0_free_1 rfl (Nat.le_of_ble_eq_true rfl) ?_
  refine y_aload_n C dX0_free_4 rfl 0 rfl ?_
  refine g6_called C fl_X0_38 dX0_free_5 ?_
  refine y_iconst C (v := -1) dX0_free_8 (by decide) ?_
  refine y_ixor C dX0_free_9 ?_
  refine y_iand C dX0_free_10 ?_
  exact y_iret C (Option.some.inj hf) rfl rfl dX0_free_11
noncomputable def fX0_whatOfSitter_6 (x1 : Int32) (x2 : Int32) (σ : QS) : Option (Int32) :=
    (if (fX1_isSitter_5 x1 σ) = 0 then some (-1 : Int32) else (if x2 = (0 : Int32) then ck_ (inb x1 6) (some (gM σ 21 x1.toNatClampNeg)) else (if x2 = (1 : Int32) then ck_ (inb x1 6) (some (gM σ 25 x1.toNatClampNeg)) else (if x2 = (2 : Int32) then ck_ (inb x1 6) (some (gM σ 23 x1.toNatClampNeg)) else (if x2 = (3 : Int32) then ck_ (inb x1 6) (some (gM σ 24 x1.toNatClampNeg)) else (if x2 = (4 : Int32) then ck_ (inb x1 6) (ck_ (inb x1 6) (some (fX4_fears (gM σ 21 x1.toNatClampNeg) (gM σ 24 x1.toNatClampNeg) (gI σ 17)))) else (if x2 = (5 : Int32) then Option.bind (fX0_saysNow_6 x1 σ) (fun (q7 : Int32) => some q7) else (if x2 = (6 : Int32) then (if (fX4_isIn (gI σ 14) x1) = 0 then some (0 : Int32) else some (1 : Int32)) else (Option.bind (fX0_free_6 σ) (fun (q8 : Int32) => (if (fX4_isIn q8 x1) = 0 then some (0 : Int32) else some (1 : Int32))))))))))))
def rm_X0_whatOfSitter_6 : Room := { frames := 4, cells := 0, slots := 0, locals := 91 }
set_option maxRecDepth 100000 in
set_option maxHeartbeats 4000000 in
theorem kX0_whatOfSitter_6 (l : Launch) (E : QE) (σ τ : QS) (x1 : Int32) (x2 : Int32) (q : Int32) (hf : fX0_whatOfSitter_6 x1 x2 σ = some q) : KQ l yX0_whatOfSitter cX0_whatOfSitter 3 (some .int) rm_X0_whatOfSitter_6 E [.ref (qAd E 6), .int x1, .int x2] σ τ (PI E q σ τ) := by
  unfold fX0_whatOfSitter_6 at hf
  refine y_met rfl (Nat.le_of_ble_eq_true rfl) rfl (fun p e s m below meth c C => ?_)
  refine y_aload_n C dX0_whatOfSitter_0 rfl 0 rfl ?_
  refine g6_script C fl_X0_18 dX0_whatOfSitter_1 ?_
  refine y_iload_n C dX0_whatOfSitter_4 rfl 1 rfl ?_
  refine y_cVi C (kX1_isSitter_5 l E σ τ x1 _ rfl) vi_X1_isSitter ml_X0_68 ⟨1, _, o5, rfl, rfl⟩ rfl ⟨rfl, rfl, Nat.le_of_ble_eq_true rfl, Nat.le_of_ble_eq_true rfl⟩ dX0_whatOfSitter_5 rfl (Nat.le_of_ble_eq_true rfl) ?_
  refine y_if_ne C 13 dX0_whatOfSitter_8 (by decide) hf (fun hf => ?_) (fun hf => ?_)
  · refine y_iload_n C dX0_whatOfSitter_13 rfl 2 rfl ?_
    rcases Decidable.em (x2 = (0 : Int32)) with hs0 | hs0
    · replace hf := (if_pos hs0).symm.trans hf
      refine y_tsw C (off := 42) 56 hs0 dX0_whatOfSitter_14 (by decide) (by decide) (by decide) (by decide) ?_
      refine y_aload_n C dX0_whatOfSitter_56 rfl 0 rfl ?_
      refine g6_script C fl_X0_18 dX0_whatOfSitter_57 ?_
      refine gN5_kind C fn_X0_78 dX0_whatOfSitter_60 ?_
      refine y_iload_n C dX0_whatOfSitter_63 rfl 1 rfl ?_
      obtain ⟨hi1, hf⟩ := ck_e hf
      refine y_ialdC C a21 (j := x1.toNatClampNeg) rfl hi1 dX0_whatOfSitter_64 ?_
      exact y_iret C (Option.some.inj hf) rfl rfl dX0_whatOfSitter_65
    replace hf := (if_neg hs0).symm.trans hf
    rcases Decidable.em (x2 = (1 : Int32)) with hs1 | hs1
    · replace hf := (if_pos hs1).symm.trans hf
      refine y_tsw C (off := 52) 66 hs1 dX0_whatOfSitter_14 (by decide) (by decide) (by decide) (by decide) ?_
      refine y_aload_n C dX0_whatOfSitter_66 rfl 0 rfl ?_
      refine g6_seat C fl_X0_9 dX0_whatOfSitter_67 ?_
      refine y_iload_n C dX0_whatOfSitter_70 rfl 1 rfl ?_
      obtain ⟨hi2, hf⟩ := ck_e hf
      refine y_ialdC C a25 (j := x1.toNatClampNeg) rfl hi2 dX0_whatOfSitter_71 ?_
      exact y_iret C (Option.some.inj hf) rfl rfl dX0_whatOfSitter_72
    replace hf := (if_neg hs1).symm.trans hf
    rcases Decidable.em (x2 = (2 : Int32)) with hs2 | hs2
    · replace hf := (if_pos hs2).symm.trans hf
      refine y_tsw C (off := 59) 73 hs2 dX0_whatOfSitter_14 (by decide) (by decide) (by decide) (by decide) ?_
      refine y_aload_n C dX0_whatOfSitter_73 rfl 0 rfl ?_
      refine g6_script C fl_X0_18 dX0_whatOfSitter_74 ?_
      refine gN5_memory C fn_X0_96 dX0_whatOfSitter_77 ?_
      refine y_iload_n C dX0_whatOfSitter_80 rfl 1 rfl ?_
      obtain ⟨hi3, hf⟩ := ck_e hf
      refine y_ialdC C a23 (j := x1.toNatClampNeg) rfl hi3 dX0_whatOfSitter_81 ?_
      exact y_iret C (Option.some.inj hf) rfl rfl dX0_whatOfSitter_82
    replace hf := (if_neg hs2).symm.trans hf
    rcases Decidable.em (x2 = (3 : Int32)) with hs3 | hs3
    · replace hf := (if_pos hs3).symm.trans hf
      refine y_tsw C (off := 69) 83 hs3 dX0_whatOfSitter_14 (by decide) (by decide) (by decide) (by decide) ?_
      refine y_aload_n C dX0_whatOfSitter_83 rfl 0 rfl ?_
      refine g6_script C fl_X0_18 dX0_whatOfSitter_84 ?_
      refine gN5_fright C fn_X0_99 dX0_whatOfSitter_87 ?_
      refine y_iload_n C dX0_whatOfSitter_90 rfl 1 rfl ?_
      obtain ⟨hi4, hf⟩ := ck_e hf
      refine y_ialdC C a24 (j := x1.toNatClampNeg) rfl hi4 dX0_whatOfSitter_91 ?_
      exact y_iret C (Option.some.inj hf) rfl rfl dX0_whatOfSitter_92
    replace hf := (if_neg hs3).symm.trans hf
    rcases Decidable.em (x2 = (4 : Int32)) with hs4 | hs4
    · replace hf := (if_pos hs4).symm.trans hf
      refine y_tsw C (off := 79) 93 hs4 dX0_whatOfSitter_14 (by decide) (by decide) (by decide) (by decide) ?_
      refine y_aload_n C dX0_whatOfSitter_93 rfl 0 rfl ?_
      refine g6_script C fl_X0_18 dX0_whatOfSitter_94 ?_
      refine gN5_kind C fn_X0_78 dX0_whatOfSitter_97 ?_
      refine y_iload_n C dX0_whatOfSitter_100 rfl 1 rfl ?_
      obtain ⟨hi5, hf⟩ := ck_e hf
      refine y_ialdC C a21 (j := x1.toNatClampNeg) rfl hi5 dX0_whatOfSitter_101 ?_
      refine y_aload_n C dX0_whatOfSitter_102 rfl 0 rfl ?_
      refine g6_script C fl_X0_18 dX0_whatOfSitter_103 ?_
      refine gN5_fright C fn_X0_99 dX0_whatOfSitter_106 ?_
      refine y_iload_n C dX0_whatOfSitter_109 rfl 1 rfl ?_
      obtain ⟨hi6, hf⟩ := ck_e hf
      refine y_ialdC C a24 (j := x1.toNatClampNeg) rfl hi6 dX0_whatOfSitter_110 ?_
      refine y_aload_n C dX0_whatOfSitter_111 rfl 0 rfl ?_
      refine g6_clapping C fl_X0_50 dX0_whatOfSitter_112 ?_
      refine y_cNi C (kX4_fears l E σ τ (gM σ 21 x1.toNatClampNeg) (gM σ 24 x1.toNatClampNeg) (gI σ 17) _ rfl) si_X4_fears mn_X0_102 rfl ⟨rfl, rfl, Nat.le_of_ble_eq_true rfl, Nat.le_of_ble_eq_true rfl⟩ dX0_whatOfSitter_115 rfl (Nat.le_of_ble_eq_true rfl) ?_
      exact y_iret C (Option.some.inj hf) rfl rfl dX0_whatOfSitter_118
    replace hf := (if_neg hs4).symm.trans hf
    rcases Decidable.em (x2 = (5 : Int32)) with hs5 | hs5
    · replace hf := (if_pos hs5).symm.trans hf
      refine y_tsw C (off := 105) 119 hs5 dX0_whatOfSitter_14 (by decide) (by decide) (by decide) (by decide) ?_
      refine y_aload_n C dX0_whatOfSitter_119 rfl 0 rfl ?_
      refine y_iload_n C dX0_whatOfSitter_120 rfl 1 rfl ?_
      obtain ⟨q7, h_q7, hf⟩ := bd_e hf
      refine y_cVi C (kX0_saysNow_6 l E σ τ x1 _ h_q7) vi_X0_saysNow ml_X0_106 ⟨0, _, o6, rfl, rfl⟩ rfl ⟨rfl, rfl, Nat.le_of_ble_eq_true rfl, Nat.le_of_ble_eq_true rfl⟩ dX0_whatOfSitter_121 rfl (Nat.le_of_ble_eq_true rfl) ?_
      exact y_iret C (Option.some.inj hf) rfl rfl dX0_whatOfSitter_124
    replace hf := (if_neg hs5).symm.trans hf
    rcases Decidable.em (x2 = (6 : Int32)) with hs6 | hs6
    · replace hf := (if_pos hs6).symm.trans hf
      refine y_tsw C (off := 111) 125 hs6 dX0_whatOfSitter_14 (by decide) (by decide) (by decide) (by decide) ?_
      refine y_aload_n C dX0_whatOfSitter_125 rfl 0 rfl ?_
      refine g6_called C fl_X0_38 dX0_whatOfSitter_126 ?_
      refine y_iload_n C dX0_whatOfSitter_129 rfl 1 rfl ?_
      refine y_cNi C (kX4_isIn l E σ τ (gI σ 14) x1 _ rfl) si_X4_isIn mn_X0_93 rfl ⟨rfl, rfl, Nat.le_of_ble_eq_true rfl, Nat.le_of_ble_eq_true rfl⟩ dX0_whatOfSitter_130 rfl (Nat.le_of_ble_eq_true rfl) ?_
      refine y_if_eq C 140 dX0_whatOfSitter_133 (by decide) hf (fun hf => ?_) (fun hf => ?_)
      · refine y_iconst C (v := 0) dX0_whatOfSitter_140 (by decide) ?_
        exact y_iret C (Option.some.inj hf) rfl rfl dX0_whatOfSitter_141
      · refine y_iconst C (v := 1) dX0_whatOfSitter_136 (by decide) ?_
        refine y_goto C 141 dX0_whatOfSitter_137 (by decide) ?_
        exact y_iret C (Option.some.inj hf) rfl rfl dX0_whatOfSitter_141
    replace hf := (if_neg hs6).symm.trans hf
    have hsn0 := lv_neT hs0 (a := 0) (by decide)
    have hsn1 := lv_neT hs1 (a := 1) (by decide)
    have hsn2 := lv_neT hs2 (a := 2) (by decide)
    have hsn3 := lv_neT hs3 (a := 3) (by decide)
    have hsn4 := lv_neT hs4 (a := 4) (by decide)
    have hsn5 := lv_neT hs5 (a := 5) (by decide)
    have hsn6 := lv_neT hs6 (a := 6) (by decide)
    refine y_tswD C 142 dX0_whatOfSitter_14 (by omega) (by decide) ?_
    refine y_aload_n C dX0_whatOfSitter_142 rfl 0 rfl ?_
    obtain ⟨q8, h_q8, hf⟩ := bd_e hf
    refine y_cVi C (kX0_free_6 l E σ τ _ h_q8) vi_X0_free ml_X0_109 ⟨0, _, o6, rfl, rfl⟩ rfl ⟨rfl, rfl, Nat.le_of_ble_eq_true rfl, Nat.le_of_ble_eq_true rfl⟩ dX0_whatOfSitter_143 rfl (Nat.le_of_ble_eq_true rfl) ?_
    refine y_iload_n C dX0_whatOfSitter_146 rfl 1 rfl ?_
    refine y_cNi C (kX4_isIn l E σ τ q8 x1 _ rfl) si_X4_isIn mn_X0_93 rfl ⟨rfl, rfl, Nat.le_of_ble_eq_true rfl, Nat.le_of_ble_eq_true rfl⟩ dX0_whatOfSitter_147 rfl (Nat.le_of_ble_eq_true rfl) ?_
    refine y_if_eq C 157 dX0_whatOfSitter_150 (by decide) hf (fun hf => ?_) (fun hf => ?_)
    · refine y_iconst C (v := 0) dX0_whatOfSitter_157 (by decide) ?_
      exact y_iret C (Option.some.inj hf) rfl rfl dX0_whatOfSitter_158
    · refine y_iconst C (v := 1) dX0_whatOfSitter_153 (by decide) ?_
      refine y_goto C 158 dX0_whatOfSitter_154 (by decide) ?_
      exact y_iret C (Option.some.inj hf) rfl rfl dX0_whatOfSitter_158
  · refine y_iconst C (v := -1) dX0_whatOfSitter_11 (by decide) ?_
    exact y_iret C (Option.some.inj hf) rfl rfl dX0_whatOfSitter_12
noncomputable def fX4_sitter_0 (x1 : Int32) (x2 : Int32) (σ : QS) : Option (Int32 × QS) :=
    (if (fX1_isSitter_5 x1 σ) = 0 then some ((-1 : Int32), σ) else (if x2 < 0 then some ((-1 : Int32), σ) else (if x2 < (8 : Int32) then Option.bind (fX0_whatOfSitter_6 x1 x2 σ) (fun (q1 : Int32) => lt_ (fX4_tell_0 q1 σ) (fun (q2 : Int32 × QS) => some (q2.1, q2.2))) else some ((-1 : Int32), σ))))
def rm_X4_sitter_0 : Room := { frames := 5, cells := 0, slots := 0, locals := 113 }
set_option maxRecDepth 100000 in
set_option maxHeartbeats 4000000 in
theorem kX4_sitter_0 (l : Launch) (E : QE) (σ τ : QS) (x1 : Int32) (x2 : Int32) (q : Int32 × QS) (hf : fX4_sitter_0 x1 x2 σ = some q) : KQ l yX4_sitter cX4_sitter 3 (some .int) rm_X4_sitter_0 E [.ref (qAd E 0), .int x1, .int x2] σ τ (PI E q.1 q.2 τ) := by
  unfold fX4_sitter_0 at hf
  refine y_met rfl (Nat.le_of_ble_eq_true rfl) rfl (fun p e s m below meth c C => ?_)
  refine y_aload_n C dX4_sitter_0 rfl 0 rfl ?_
  refine g0_script C fl_X4_31 dX4_sitter_1 ?_
  refine y_iload_n C dX4_sitter_4 rfl 1 rfl ?_
  refine y_cVi C (kX1_isSitter_5 l E σ τ x1 _ rfl) vi_X1_isSitter ml_X4_118 ⟨1, _, o5, rfl, rfl⟩ rfl ⟨rfl, rfl, Nat.le_of_ble_eq_true rfl, Nat.le_of_ble_eq_true rfl⟩ dX4_sitter_5 rfl (Nat.le_of_ble_eq_true rfl) ?_
  refine y_if_eq C 21 dX4_sitter_8 (by decide) hf (fun hf => ?_) (fun hf => ?_)
  · refine y_iconst C (v := -1) dX4_sitter_21 (by decide) ?_
    exact y_iret C (rs1 hf) (rs2 hf) rfl dX4_sitter_22
  · refine y_iload_n C dX4_sitter_11 rfl 2 rfl ?_
    refine y_if_lt C 21 dX4_sitter_12 (by decide) hf (fun hf => ?_) (fun hf => ?_)
    · refine y_iconst C (v := -1) dX4_sitter_21 (by decide) ?_
      exact y_iret C (rs1 hf) (rs2 hf) rfl dX4_sitter_22
    · refine y_iload_n C dX4_sitter_15 rfl 2 rfl ?_
      refine y_bipush C (v := 8) dX4_sitter_16 (by decide) ?_
      refine y_icmp_lt C 23 dX4_sitter_18 (by decide) hf (fun hf => ?_) (fun hf => ?_)
      · refine y_aload_n C dX4_sitter_23 rfl 0 rfl ?_
        refine y_aload_n C dX4_sitter_24 rfl 0 rfl ?_
        refine g0_night C fl_X4_39 dX4_sitter_25 ?_
        refine y_iload_n C dX4_sitter_28 rfl 1 rfl ?_
        refine y_iload_n C dX4_sitter_29 rfl 2 rfl ?_
        obtain ⟨q1, h_q1, hf⟩ := bd_e hf
        refine y_cVi C (kX0_whatOfSitter_6 l E σ τ x1 x2 _ h_q1) vi_X0_whatOfSitter ml_X4_121 ⟨0, _, o6, rfl, rfl⟩ rfl ⟨rfl, rfl, Nat.le_of_ble_eq_true rfl, Nat.le_of_ble_eq_true rfl⟩ dX4_sitter_30 rfl (Nat.le_of_ble_eq_true rfl) ?_
        obtain ⟨q2, e_q2, hf⟩ := lt_e hf
        refine y_cVi C (kX4_tell_0 l E σ τ q1 _ e_q2.symm) vi_X4_tell ml_X4_83 ⟨4, _, o0, rfl, rfl⟩ rfl ⟨rfl, rfl, Nat.le_of_ble_eq_true rfl, Nat.le_of_ble_eq_true rfl⟩ dX4_sitter_33 rfl (Nat.le_of_ble_eq_true rfl) ?_
        exact y_iret C (rs1 hf) (rs2 hf) rfl dX4_sitter_36
      · refine y_iconst C (v := -1) dX4_sitter_21 (by decide) ?_
        exact y_iret C (rs1 hf) (rs2 hf) rfl dX4_sitter_22
noncomputable def fX5_isSitter_50 (x1 : Int32) (τ : QS) : Int32 :=
    (fX5_in x1.toInt64 (0 : Int64) (((gI τ 1) - (1 : Int32)).toInt64))
def rm_X5_isSitter_50 : Room := { frames := 1, cells := 0, slots := 0, locals := 25 }
set_option maxRecDepth 100000 in
set_option maxHeartbeats 4000000 in
theorem kX5_isSitter_50 (l : Launch) (E : QE) (σ τ : QS) (x1 : Int32) (q : Int32) (hf : fX5_isSitter_50 x1 τ = q) : KQ l yX5_isSitter cX5_isSitter 2 (some .boolean) rm_X5_isSitter_50 E [.ref (qAd E 50), .int x1] σ τ (PI E q σ τ) := by
  unfold fX5_isSitter_50 at hf
  refine y_met rfl (Nat.le_of_ble_eq_true rfl) rfl (fun p e s m below meth c C => ?_)
  refine y_iload_n C dX5_isSitter_0 rfl 1 rfl ?_
  refine y_i2l C dX5_isSitter_1 ?_
  refine y_lconst C (v := 0) dX5_isSitter_2 (by decide) ?_
  refine y_aload_n C dX5_isSitter_3 rfl 0 rfl ?_
  refine g50_sitters C fl_X5_163 dX5_isSitter_4 ?_
  refine y_iconst C (v := 1) dX5_isSitter_7 (by decide) ?_
  refine y_isub C dX5_isSitter_8 ?_
  refine y_i2l C dX5_isSitter_9 ?_
  refine y_cSi C (kX5_in l E σ τ x1.toInt64 (0 : Int64) (((gI τ 1) - (1 : Int32)).toInt64) _ rfl) si_X5_in ml_X5_77 rfl ⟨rfl, rfl, Nat.le_of_ble_eq_true rfl, Nat.le_of_ble_eq_true rfl⟩ dX5_isSitter_10 rfl (Nat.le_of_ble_eq_true rfl) ?_
  exact y_zret C (zX5_in x1.toInt64 (0 : Int64) (((gI τ 1) - (1 : Int32)).toInt64)) hf rfl rfl dX5_isSitter_13
theorem zX5_isSitter_50 (x1 : Int32) (τ : QS) : zOk (fX5_isSitter_50 x1 τ) := by
  unfold fX5_isSitter_50
  try simp only [lt_]
  (repeat' split) <;> first | exact zOk0 | exact zOk1 | exact zX5_in ..
noncomputable def fX5_atLeast (x0 : Int32) : Int32 :=
    (if 0 ≤ x0 then x0 else (0 : Int32))
def rm_X5_atLeast : Room := { frames := 0, cells := 0, slots := 0, locals := 0 }
set_option maxRecDepth 100000 in
set_option maxHeartbeats 4000000 in
theorem kX5_atLeast (l : Launch) (E : QE) (σ τ : QS) (x0 : Int32) (q : Int32) (hf : fX5_atLeast x0 = q) : KQ l yX5_atLeast cX5_atLeast 1 (some .int) rm_X5_atLeast E [.int x0] σ τ (PI E q σ τ) := by
  unfold fX5_atLeast at hf
  refine y_met rfl (Nat.le_of_ble_eq_true rfl) rfl (fun p e s m below meth c C => ?_)
  refine y_iload_n C dX5_atLeast_0 rfl 0 rfl ?_
  refine y_if_ge C 8 dX5_atLeast_1 (by decide) hf (fun hf => ?_) (fun hf => ?_)
  · refine y_iload_n C dX5_atLeast_8 rfl 0 rfl ?_
    exact y_iret C hf rfl rfl dX5_atLeast_9
  · refine y_iconst C (v := 0) dX5_atLeast_4 (by decide) ?_
    refine y_goto C 9 dX5_atLeast_5 (by decide) ?_
    exact y_iret C hf rfl rfl dX5_atLeast_9
noncomputable def fX5_isUncle (x0 : Int32) : Int32 :=
    (if x0 = (3 : Int32) then (1 : Int32) else (if x0 = (5 : Int32) then (1 : Int32) else (0 : Int32)))
def rm_X5_isUncle : Room := { frames := 0, cells := 0, slots := 0, locals := 0 }
set_option maxRecDepth 100000 in
set_option maxHeartbeats 4000000 in
theorem kX5_isUncle (l : Launch) (E : QE) (σ τ : QS) (x0 : Int32) (q : Int32) (hf : fX5_isUncle x0 = q) : KQ l yX5_isUncle cX5_isUncle 1 (some .boolean) rm_X5_isUncle E [.int x0] σ τ (PI E q σ τ) := by
  unfold fX5_isUncle at hf
  refine y_met rfl (Nat.le_of_ble_eq_true rfl) rfl (fun p e s m below meth c C => ?_)
  refine y_iload_n C dX5_isUncle_0 rfl 0 rfl ?_
  refine y_iconst C (v := 3) dX5_isUncle_1 (by decide) ?_
  refine y_icmp_eq C 10 dX5_isUncle_2 (by decide) hf (fun hf => ?_) (fun hf => ?_)
  · refine y_iconst C (v := 1) dX5_isUncle_10 (by decide) ?_
    refine y_goto C 15 dX5_isUncle_11 (by decide) ?_
    exact y_zret C zOk1 hf rfl rfl dX5_isUncle_15
  · refine y_iload_n C dX5_isUncle_5 rfl 0 rfl ?_
    refine y_iconst C (v := 5) dX5_isUncle_6 (by decide) ?_
    refine y_icmp_ne C 14 dX5_isUncle_7 (by decide) hf (fun hf => ?_) (fun hf => ?_)
    · refine y_iconst C (v := 0) dX5_isUncle_14 (by decide) ?_
      exact y_zret C zOk0 hf rfl rfl dX5_isUncle_15
    · refine y_iconst C (v := 1) dX5_isUncle_10 (by decide) ?_
      refine y_goto C 15 dX5_isUncle_11 (by decide) ?_
      exact y_zret C zOk1 hf rfl rfl dX5_isUncle_15
theorem zX5_isUncle (x0 : Int32) : zOk (fX5_isUncle x0) := by
  unfold fX5_isUncle
  try simp only [lt_]
  (repeat' split) <;> first | exact zOk0 | exact zOk1
noncomputable def fX5_fearsBy (x0 : Int32) (x1 : Int32) (x2 : Int32) : Int32 :=
    lt_ (fX5_atLeast (x1 - x2)) (fun (v1 : Int32) => (if (fX5_isUncle x0) = 0 then v1 else (v1 / (2 : Int32))))
def rm_X5_fearsBy : Room := { frames := 1, cells := 0, slots := 0, locals := 20 }
set_option maxRecDepth 100000 in
set_option maxHeartbeats 4000000 in
theorem kX5_fearsBy (l : Launch) (E : QE) (σ τ : QS) (x0 : Int32) (x1 : Int32) (x2 : Int32) (q : Int32) (hf : fX5_fearsBy x0 x1 x2 = q) : KQ l yX5_fearsBy cX5_fearsBy 4 (some .int) rm_X5_fearsBy E [.int x0, .int x1, .int x2] σ τ (PI E q σ τ) := by
  unfold fX5_fearsBy at hf
  refine y_met rfl (Nat.le_of_ble_eq_true rfl) rfl (fun p e s m below meth c C => ?_)
  refine y_iload_n C dX5_fearsBy_0 rfl 1 rfl ?_
  refine y_iload_n C dX5_fearsBy_1 rfl 2 rfl ?_
  refine y_isub C dX5_fearsBy_2 ?_
  refine y_cSi C (kX5_atLeast l E σ τ (x1 - x2) _ rfl) si_X5_atLeast ml_X5_169 rfl ⟨rfl, rfl, Nat.le_of_ble_eq_true rfl, Nat.le_of_ble_eq_true rfl⟩ dX5_fearsBy_3 rfl (Nat.le_of_ble_eq_true rfl) ?_
  obtain ⟨v1, e_v1, hf⟩ := lt_e hf
  refine y_istore_n C dX5_fearsBy_6 rfl (Nat.le_of_ble_eq_true rfl) e_v1 (lv' := [(3, .int v1), (0, .int x0), (1, .int x1), (2, .int x2)]) rfl ?_
  refine y_iload_n C dX5_fearsBy_7 rfl 1 rfl ?_
  refine y_cSi C (kX5_isUncle l E σ τ x0 _ rfl) si_X5_isUncle ml_X5_166 rfl ⟨rfl, rfl, Nat.le_of_ble_eq_true rfl, Nat.le_of_ble_eq_true rfl⟩ dX5_fearsBy_8 rfl (Nat.le_of_ble_eq_true rfl) ?_
  refine y_if_eq C 20 dX5_fearsBy_11 (by decide) hf (fun hf => ?_) (fun hf => ?_)
  · refine y_iload_n C dX5_fearsBy_20 rfl 0 rfl ?_
    exact y_iret C hf rfl rfl dX5_fearsBy_21
  · refine y_iload_n C dX5_fearsBy_14 rfl 0 rfl ?_
    refine y_iconst C (v := 2) dX5_fearsBy_15 (by decide) ?_
    refine y_idiv C (by decide) dX5_fearsBy_16 ?_
    refine y_goto C 21 dX5_fearsBy_17 (by decide) ?_
    exact y_iret C hf rfl rfl dX5_fearsBy_21
noncomputable def fX5_claques_50 (x1 : Int32) (x2 : Int32) (τ : QS) : Option (Int32) :=
    lp_ (fun (r2 : Int32 × Int32 → Option (Int32)) (a1 : Int32 × Int32) => (if (gI τ 1) ≤ a1.2 then some a1.1 else (if a1.2 = x1 then lt_ (a1.1 + (0 : Int32)) (fun (v3 : Int32) => r2 (v3, (a1.2 + (1 : Int32)))) else ck_ (inb a1.2 6) ((if (gM τ 53 a1.2.toNatClampNeg) = (5 : Int32) then (if (fX5_has x2 a1.2) = 0 then lt_ (a1.1 + (1 : Int32)) (fun (v7 : Int32) => r2 (v7, (a1.2 + (1 : Int32)))) else lt_ (a1.1 + (0 : Int32)) (fun (v6 : Int32) => r2 (v6, (a1.2 + (1 : Int32))))) else lt_ (a1.1 + (0 : Int32)) (fun (v5 : Int32) => r2 (v5, (a1.2 + (1 : Int32))))))))) FV ((0 : Int32), (0 : Int32))
def rm_X5_claques_50 : Room := { frames := 1, cells := 0, slots := 0, locals := 21 }
set_option maxRecDepth 100000 in
set_option maxHeartbeats 4000000 in
theorem kX5_claques_50 (l : Launch) (E : QE) (σ τ : QS) (x1 : Int32) (x2 : Int32) (q : Int32) (hf : fX5_claques_50 x1 x2 τ = some q) : KQ l yX5_claques cX5_claques 5 (some .int) rm_X5_claques_50 E [.ref (qAd E 50), .int x1, .int x2] σ τ (PI E q σ τ) := by
  unfold fX5_claques_50 at hf
  refine y_met rfl (Nat.le_of_ble_eq_true rfl) rfl (fun p e s m below meth c C => ?_)
  refine y_iconst C (v := 0) dX5_claques_0 (by decide) ?_
  refine y_istore_n C dX5_claques_1 rfl (Nat.le_of_ble_eq_true rfl) rfl (lv' := [(3, .int (0 : Int32)), (0, .ref (qAd E 50)), (1, .int x1), (2, .int x2)]) rfl ?_
  refine y_iconst C (v := 0) dX5_claques_2 (by decide) ?_
  refine y_istore C dX5_claques_3 (Nat.le_of_ble_eq_true rfl) rfl (lv' := [(4, .int (0 : Int32)), (3, .int (0 : Int32)), (0, .ref (qAd E 50)), (1, .int x1), (2, .int x2)]) rfl ?_
  refine y_sub [0, 1, 2, 3, 4] rfl ?_
  refine lp_ind (P := fun a1 : Int32 × Int32 => Y E p l e rm_X5_claques_50 s m ([.ref (qAd E 50), .int x1, .int x2] : List Value).toArray below meth c 5 (MQ below (PI E q σ τ) ([.ref (qAd E 50), .int x1, .int x2] : List Value).toArray s 0 0 (qA E)) σ τ 5 [(4, .int a1.2), (3, .int a1.1), (0, .ref (qAd E 50)), (1, .int x1), (2, .int x2)] []) (fun r2 a1 ih_r2 hf => ?_) _ _ hf
  refine y_iload C dX5_claques_5 0 rfl ?_
  refine y_aload_n C dX5_claques_7 rfl 2 rfl ?_
  refine g50_sitters C fl_X5_163 dX5_claques_8 ?_
  refine y_icmp_ge C 54 dX5_claques_11 (by decide) hf (fun hf => ?_) (fun hf => ?_)
  · refine y_iload_n C dX5_claques_54 rfl 1 rfl ?_
    exact y_iret C (Option.some.inj hf) rfl rfl dX5_claques_55
  · refine y_iload_n C dX5_claques_14 rfl 1 rfl ?_
    refine y_iload C dX5_claques_15 0 rfl ?_
    refine y_iload_n C dX5_claques_17 rfl 3 rfl ?_
    refine y_icmp_eq C 45 dX5_claques_18 (by decide) hf (fun hf => ?_) (fun hf => ?_)
    · refine y_iconst C (v := 0) dX5_claques_45 (by decide) ?_
      refine y_iadd C dX5_claques_46 ?_
      obtain ⟨v3, e_v3, hf⟩ := lt_e hf
      refine y_istore_n C dX5_claques_47 rfl (Nat.le_of_ble_eq_true rfl) e_v3 (lv' := [(3, .int v3), (4, .int a1.2), (0, .ref (qAd E 50)), (1, .int x1), (2, .int x2)]) rfl ?_
      refine y_iinc C dX5_claques_48 1 rfl (Nat.le_of_ble_eq_true rfl) (k2 := 1) (by decide) rfl (lv' := [(4, .int (a1.2 + (1 : Int32))), (3, .int v3), (0, .ref (qAd E 50)), (1, .int x1), (2, .int x2)]) rfl ?_
      refine y_goto C 5 dX5_claques_51 (by decide) ?_
      refine y_sub [0, 1, 2, 3, 4] rfl ?_
      exact ih_r2 (v3, (a1.2 + (1 : Int32))) hf
    · refine y_aload_n C dX5_claques_21 rfl 2 rfl ?_
      refine g50_kinds C fl_X5_16 dX5_claques_22 ?_
      refine y_iload C dX5_claques_25 0 rfl ?_
      obtain ⟨hi4, hf⟩ := ck_e hf
      refine y_ialdR C a53 (j := a1.2.toNatClampNeg) rfl hi4 dX5_claques_27 ?_
      refine y_iconst C (v := 5) dX5_claques_28 (by decide) ?_
      refine y_icmp_ne C 45 dX5_claques_29 (by decide) hf (fun hf => ?_) (fun hf => ?_)
      · refine y_iconst C (v := 0) dX5_claques_45 (by decide) ?_
        refine y_iadd C dX5_claques_46 ?_
        obtain ⟨v5, e_v5, hf⟩ := lt_e hf
        refine y_istore_n C dX5_claques_47 rfl (Nat.le_of_ble_eq_true rfl) e_v5 (lv' := [(3, .int v5), (4, .int a1.2), (0, .ref (qAd E 50)), (1, .int x1), (2, .int x2)]) rfl ?_
        refine y_iinc C dX5_claques_48 1 rfl (Nat.le_of_ble_eq_true rfl) (k2 := 1) (by decide) rfl (lv' := [(4, .int (a1.2 + (1 : Int32))), (3, .int v5), (0, .ref (qAd E 50)), (1, .int x1), (2, .int x2)]) rfl ?_
        refine y_goto C 5 dX5_claques_51 (by decide) ?_
        refine y_sub [0, 1, 2, 3, 4] rfl ?_
        exact ih_r2 (v5, (a1.2 + (1 : Int32))) hf
      · refine y_iload_n C dX5_claques_32 rfl 4 rfl ?_
        refine y_iload C dX5_claques_33 0 rfl ?_
        refine y_cSi C (kX5_has l E σ τ x2 a1.2 _ rfl) si_X5_has ml_X5_147 rfl ⟨rfl, rfl, Nat.le_of_ble_eq_true rfl, Nat.le_of_ble_eq_true rfl⟩ dX5_claques_35 rfl (Nat.le_of_ble_eq_true rfl) ?_
        refine y_if_ne C 45 dX5_claques_38 (by decide) hf (fun hf => ?_) (fun hf => ?_)
        · refine y_iconst C (v := 0) dX5_claques_45 (by decide) ?_
          refine y_iadd C dX5_claques_46 ?_
          obtain ⟨v6, e_v6, hf⟩ := lt_e hf
          refine y_istore_n C dX5_claques_47 rfl (Nat.le_of_ble_eq_true rfl) e_v6 (lv' := [(3, .int v6), (4, .int a1.2), (0, .ref (qAd E 50)), (1, .int x1), (2, .int x2)]) rfl ?_
          refine y_iinc C dX5_claques_48 1 rfl (Nat.le_of_ble_eq_true rfl) (k2 := 1) (by decide) rfl (lv' := [(4, .int (a1.2 + (1 : Int32))), (3, .int v6), (0, .ref (qAd E 50)), (1, .int x1), (2, .int x2)]) rfl ?_
          refine y_goto C 5 dX5_claques_51 (by decide) ?_
          refine y_sub [0, 1, 2, 3, 4] rfl ?_
          exact ih_r2 (v6, (a1.2 + (1 : Int32))) hf
        · refine y_iconst C (v := 1) dX5_claques_41 (by decide) ?_
          refine y_goto C 46 dX5_claques_42 (by decide) ?_
          refine y_iadd C dX5_claques_46 ?_
          obtain ⟨v7, e_v7, hf⟩ := lt_e hf
          refine y_istore_n C dX5_claques_47 rfl (Nat.le_of_ble_eq_true rfl) e_v7 (lv' := [(3, .int v7), (4, .int a1.2), (0, .ref (qAd E 50)), (1, .int x1), (2, .int x2)]) rfl ?_
          refine y_iinc C dX5_claques_48 1 rfl (Nat.le_of_ble_eq_true rfl) (k2 := 1) (by decide) rfl (lv' := [(4, .int (a1.2 + (1 : Int32))), (3, .int v7), (0, .ref (qAd E 50)), (1, .int x1), (2, .int x2)]) rfl ?_
          refine y_goto C 5 dX5_claques_51 (by decide) ?_
          refine y_sub [0, 1, 2, 3, 4] rfl ?_
          exact ih_r2 (v7, (a1.2 + (1 : Int32))) hf
noncomputable def fX5_isClerk (x0 : Int32) : Int32 :=
    (if x0 = (1 : Int32) then (1 : Int32) else (if (fX5_isUncle x0) = 0 then (0 : Int32) else (1 : Int32)))
def rm_X5_isClerk : Room := { frames := 1, cells := 0, slots := 0, locals := 20 }
set_option maxRecDepth 100000 in
set_option maxHeartbeats 4000000 in
theorem kX5_isClerk (l : Launch) (E : QE) (σ τ : QS) (x0 : Int32) (q : Int32) (hf : fX5_isClerk x0 = q) : KQ l yX5_isClerk cX5_isClerk 1 (some .boolean) rm_X5_isClerk E [.int x0] σ τ (PI E q σ τ) := by
  unfold fX5_isClerk at hf
  refine y_met rfl (Nat.le_of_ble_eq_true rfl) rfl (fun p e s m below meth c C => ?_)
  refine y_iload_n C dX5_isClerk_0 rfl 0 rfl ?_
  refine y_iconst C (v := 1) dX5_isClerk_1 (by decide) ?_
  refine y_icmp_eq C 12 dX5_isClerk_2 (by decide) hf (fun hf => ?_) (fun hf => ?_)
  · refine y_iconst C (v := 1) dX5_isClerk_12 (by decide) ?_
    refine y_goto C 17 dX5_isClerk_13 (by decide) ?_
    exact y_zret C zOk1 hf rfl rfl dX5_isClerk_17
  · refine y_iload_n C dX5_isClerk_5 rfl 0 rfl ?_
    refine y_cSi C (kX5_isUncle l E σ τ x0 _ rfl) si_X5_isUncle ml_X5_166 rfl ⟨rfl, rfl, Nat.le_of_ble_eq_true rfl, Nat.le_of_ble_eq_true rfl⟩ dX5_isClerk_6 rfl (Nat.le_of_ble_eq_true rfl) ?_
    refine y_if_eq C 16 dX5_isClerk_9 (by decide) hf (fun hf => ?_) (fun hf => ?_)
    · refine y_iconst C (v := 0) dX5_isClerk_16 (by decide) ?_
      exact y_zret C zOk0 hf rfl rfl dX5_isClerk_17
    · refine y_iconst C (v := 1) dX5_isClerk_12 (by decide) ?_
      refine y_goto C 17 dX5_isClerk_13 (by decide) ?_
      exact y_zret C zOk1 hf rfl rfl dX5_isClerk_17
theorem zX5_isClerk (x0 : Int32) : zOk (fX5_isClerk x0) := by
  unfold fX5_isClerk
  try simp only [lt_]
  (repeat' split) <;> first | exact zOk0 | exact zOk1
noncomputable def fX5_saysBy (x0 : Int32) (x1 : Int32) (x2 : Int32) (x3 : Int32) (x4 : Int32) : Int32 :=
    lt_ (fX5_atLeast (x1 - (fX5_fearsBy x0 x2 x3))) (fun (v1 : Int32) => lt_ (fun (v3 : Int32) => (if x0 = (5 : Int32) then ((v1 + v3) + x4) else ((v1 + v3) + (0 : Int32)))) (fun (j2 : Int32 → Int32) => (if (fX5_isClerk x0) = 0 then j2 (0 : Int32) else j2 (2 : Int32))))
def rm_X5_saysBy : Room := { frames := 2, cells := 0, slots := 0, locals := 43 }
set_option maxRecDepth 100000 in
set_option maxHeartbeats 4000000 in
theorem kX5_saysBy (l : Launch) (E : QE) (σ τ : QS) (x0 : Int32) (x1 : Int32) (x2 : Int32) (x3 : Int32) (x4 : Int32) (q : Int32) (hf : fX5_saysBy x0 x1 x2 x3 x4 = q) : KQ l yX5_saysBy cX5_saysBy 6 (some .int) rm_X5_saysBy E [.int x0, .int x1, .int x2, .int x3, .int x4] σ τ (PI E q σ τ) := by
  unfold fX5_saysBy at hf
  refine y_met rfl (Nat.le_of_ble_eq_true rfl) rfl (fun p e s m below meth c C => ?_)
  refine y_iload_n C dX5_saysBy_0 rfl 1 rfl ?_
  refine y_iload_n C dX5_saysBy_1 rfl 0 rfl ?_
  refine y_iload_n C dX5_saysBy_2 rfl 2 rfl ?_
  refine y_iload_n C dX5_saysBy_3 rfl 3 rfl ?_
  refine y_cSi C (kX5_fearsBy l E σ τ x0 x2 x3 _ rfl) si_X5_fearsBy ml_X5_172 rfl ⟨rfl, rfl, Nat.le_of_ble_eq_true rfl, Nat.le_of_ble_eq_true rfl⟩ dX5_saysBy_4 rfl (Nat.le_of_ble_eq_true rfl) ?_
  refine y_isub C dX5_saysBy_7 ?_
  refine y_cSi C (kX5_atLeast l E σ τ (x1 - (fX5_fearsBy x0 x2 x3)) _ rfl) si_X5_atLeast ml_X5_169 rfl ⟨rfl, rfl, Nat.le_of_ble_eq_true rfl, Nat.le_of_ble_eq_true rfl⟩ dX5_saysBy_8 rfl (Nat.le_of_ble_eq_true rfl) ?_
  obtain ⟨v1, e_v1, hf⟩ := lt_e hf
  refine y_istore C dX5_saysBy_11 (Nat.le_of_ble_eq_true rfl) e_v1 (lv' := [(5, .int v1), (0, .int x0), (1, .int x1), (2, .int x2), (3, .int x3), (4, .int x4)]) rfl ?_
  refine y_iload C dX5_saysBy_13 0 rfl ?_
  refine y_iload_n C dX5_saysBy_15 rfl 1 rfl ?_
  refine y_cSi C (kX5_isClerk l E σ τ x0 _ rfl) si_X5_isClerk ml_X5_176 rfl ⟨rfl, rfl, Nat.le_of_ble_eq_true rfl, Nat.le_of_ble_eq_true rfl⟩ dX5_saysBy_16 rfl (Nat.le_of_ble_eq_true rfl) ?_
  obtain ⟨j2, ek_j2, hf⟩ := lt_e hf
  have h_j2 : ∀ (v3 : Int32), j2 v3 = q → Y E p l e rm_X5_saysBy s m ([.int x0, .int x1, .int x2, .int x3, .int x4] : List Value).toArray below meth c 6 (MQ below (PI E q σ τ) ([.int x0, .int x1, .int x2, .int x3, .int x4] : List Value).toArray s 0 0 (qA E)) σ τ 27 [(0, .int x0), (4, .int x4)] [.int v3, .int v1] := by
    intro v3 hf
    replace hf := (congrFun (ek_j2) v3).symm.trans hf
    refine y_iadd C dX5_saysBy_27 ?_
    refine y_iload_n C dX5_saysBy_28 rfl 0 rfl ?_
    refine y_iconst C (v := 5) dX5_saysBy_29 (by decide) ?_
    refine y_icmp_ne C 38 dX5_saysBy_30 (by decide) hf (fun hf => ?_) (fun hf => ?_)
    · refine y_iconst C (v := 0) dX5_saysBy_38 (by decide) ?_
      refine y_iadd C dX5_saysBy_39 ?_
      exact y_iret C hf rfl rfl dX5_saysBy_40
    · refine y_iload C dX5_saysBy_33 1 rfl ?_
      refine y_goto C 39 dX5_saysBy_35 (by decide) ?_
      refine y_iadd C dX5_saysBy_39 ?_
      exact y_iret C hf rfl rfl dX5_saysBy_40
  refine y_if_eq C 26 dX5_saysBy_19 (by decide) hf (fun hf => ?_) (fun hf => ?_)
  · refine y_iconst C (v := 0) dX5_saysBy_26 (by decide) ?_
    refine y_sub [1, 5] rfl ?_
    exact h_j2 (0 : Int32) hf
  · refine y_iconst C (v := 2) dX5_saysBy_22 (by decide) ?_
    refine y_goto C 27 dX5_saysBy_23 (by decide) ?_
    refine y_sub [1, 5] rfl ?_
    exact h_j2 (2 : Int32) hf
