noncomputable def fX5_saysOf_50 (x1 : Int32) (x2 : Int32) (x3 : Int32) (τ : QS) : Option (Int32) :=
    ck_ (inb x1 6) (ck_ (inb x1 6) (ck_ (inb x1 6) (Option.bind (fX5_claques_50 x1 x3 τ) (fun (q4 : Int32) => some (fX5_saysBy (gM τ 53 x1.toNatClampNeg) (gM τ 54 x1.toNatClampNeg) (gM τ 55 x1.toNatClampNeg) x2 q4)))))
def rm_X5_saysOf_50 : Room := { frames := 3, cells := 0, slots := 0, locals := 68 }
set_option maxRecDepth 100000 in
set_option maxHeartbeats 4000000 in
theorem kX5_saysOf_50 (l : Launch) (E : QE) (σ τ : QS) (x1 : Int32) (x2 : Int32) (x3 : Int32) (q : Int32) (hf : fX5_saysOf_50 x1 x2 x3 τ = some q) : KQ l yX5_saysOf cX5_saysOf 4 (some .int) rm_X5_saysOf_50 E [.ref (qAd E 50), .int x1, .int x2, .int x3] σ τ (PI E q σ τ) := by
  unfold fX5_saysOf_50 at hf
  refine y_met rfl (Nat.le_of_ble_eq_true rfl) rfl (fun p e s m below meth c C => ?_)
  refine y_aload_n C dX5_saysOf_0 rfl 0 rfl ?_
  refine g50_kinds C fl_X5_16 dX5_saysOf_1 ?_
  refine y_iload_n C dX5_saysOf_4 rfl 1 rfl ?_
  obtain ⟨hi1, hf⟩ := ck_e hf
  refine y_ialdR C a53 (j := x1.toNatClampNeg) rfl hi1 dX5_saysOf_5 ?_
  refine y_aload_n C dX5_saysOf_6 rfl 0 rfl ?_
  refine g50_memories C fl_X5_19 dX5_saysOf_7 ?_
  refine y_iload_n C dX5_saysOf_10 rfl 1 rfl ?_
  obtain ⟨hi2, hf⟩ := ck_e hf
  refine y_ialdR C a54 (j := x1.toNatClampNeg) rfl hi2 dX5_saysOf_11 ?_
  refine y_aload_n C dX5_saysOf_12 rfl 0 rfl ?_
  refine g50_frights C fl_X5_22 dX5_saysOf_13 ?_
  refine y_iload_n C dX5_saysOf_16 rfl 1 rfl ?_
  obtain ⟨hi3, hf⟩ := ck_e hf
  refine y_ialdR C a55 (j := x1.toNatClampNeg) rfl hi3 dX5_saysOf_17 ?_
  refine y_iload_n C dX5_saysOf_18 rfl 2 rfl ?_
  refine y_aload_n C dX5_saysOf_19 rfl 0 rfl ?_
  refine y_iload_n C dX5_saysOf_20 rfl 1 rfl ?_
  refine y_iload_n C dX5_saysOf_21 rfl 3 rfl ?_
  obtain ⟨q4, h_q4, hf⟩ := bd_e hf
  refine y_cVi C (kX5_claques_50 l E σ τ x1 x3 _ h_q4) vi_X5_claques ml_X5_179 ⟨5, _, o50, rfl, rfl⟩ rfl ⟨rfl, rfl, Nat.le_of_ble_eq_true rfl, Nat.le_of_ble_eq_true rfl⟩ dX5_saysOf_22 rfl (Nat.le_of_ble_eq_true rfl) ?_
  refine y_cSi C (kX5_saysBy l E σ τ (gM τ 53 x1.toNatClampNeg) (gM τ 54 x1.toNatClampNeg) (gM τ 55 x1.toNatClampNeg) x2 q4 _ rfl) si_X5_saysBy ml_X5_182 rfl ⟨rfl, rfl, Nat.le_of_ble_eq_true rfl, Nat.le_of_ble_eq_true rfl⟩ dX5_saysOf_25 rfl (Nat.le_of_ble_eq_true rfl) ?_
  exact y_iret C (Option.some.inj hf) rfl rfl dX5_saysOf_28
noncomputable def fX5_saysNow_50 (x1 : Int32) (τ : QS) : Option (Int32) :=
    Option.bind (fX5_saysOf_50 x1 (gM τ 51 4) (gM τ 51 6) τ) (fun (q1 : Int32) => some q1)
def rm_X5_saysNow_50 : Room := { frames := 4, cells := 0, slots := 0, locals := 91 }
set_option maxRecDepth 100000 in
set_option maxHeartbeats 4000000 in
theorem kX5_saysNow_50 (l : Launch) (E : QE) (σ τ : QS) (x1 : Int32) (q : Int32) (hf : fX5_saysNow_50 x1 τ = some q) : KQ l yX5_saysNow cX5_saysNow 2 (some .int) rm_X5_saysNow_50 E [.ref (qAd E 50), .int x1] σ τ (PI E q σ τ) := by
  unfold fX5_saysNow_50 at hf
  refine y_met rfl (Nat.le_of_ble_eq_true rfl) rfl (fun p e s m below meth c C => ?_)
  refine y_aload_n C dX5_saysNow_0 rfl 0 rfl ?_
  refine y_iload_n C dX5_saysNow_1 rfl 1 rfl ?_
  refine y_aload_n C dX5_saysNow_2 rfl 0 rfl ?_
  refine g50_row C fl_X5_7 dX5_saysNow_3 ?_
  refine y_iconst C (v := 4) dX5_saysNow_6 (by decide) ?_
  refine y_ialdR C a51 (j := 4) (by decide) (by decide) dX5_saysNow_7 ?_
  refine y_aload_n C dX5_saysNow_8 rfl 0 rfl ?_
  refine g50_row C fl_X5_7 dX5_saysNow_9 ?_
  refine y_bipush C (v := 6) dX5_saysNow_12 (by decide) ?_
  refine y_ialdR C a51 (j := 6) (by decide) (by decide) dX5_saysNow_14 ?_
  obtain ⟨q1, h_q1, hf⟩ := bd_e hf
  refine y_cVi C (kX5_saysOf_50 l E σ τ x1 (gM τ 51 4) (gM τ 51 6) _ h_q1) vi_X5_saysOf ml_X5_189 ⟨5, _, o50, rfl, rfl⟩ rfl ⟨rfl, rfl, Nat.le_of_ble_eq_true rfl, Nat.le_of_ble_eq_true rfl⟩ dX5_saysNow_15 rfl (Nat.le_of_ble_eq_true rfl) ?_
  exact y_iret C (Option.some.inj hf) rfl rfl dX5_saysNow_18
noncomputable def fX5_canSit_50 (x1 : Int32) (τ : QS) : Option (Int32) :=
    ck_ (inb ((7 : Int32) + x1) 1972) (lt_ (gM τ 51 (((7 : Int32) + x1).toNatClampNeg)) (fun (v2 : Int32) => ck_ (inb x1 6) ((if (gM τ 53 x1.toNatClampNeg) = (2 : Int32) then (if (v2 - v2 / (2 : Int32) * (2 : Int32)) = (1 : Int32) then some (1 : Int32) else some (0 : Int32)) else ck_ (inb x1 6) ((if (gM τ 53 x1.toNatClampNeg) = (4 : Int32) then (if (7 : Int32) ≤ v2 then some (0 : Int32) else some (1 : Int32)) else some (1 : Int32)))))))
def rm_X5_canSit_50 : Room := { frames := 0, cells := 0, slots := 0, locals := 0 }
set_option maxRecDepth 100000 in
set_option maxHeartbeats 4000000 in
theorem kX5_canSit_50 (l : Launch) (E : QE) (σ τ : QS) (x1 : Int32) (q : Int32) (hf : fX5_canSit_50 x1 τ = some q) : KQ l yX5_canSit cX5_canSit 3 (some .boolean) rm_X5_canSit_50 E [.ref (qAd E 50), .int x1] σ τ (PI E q σ τ) := by
  unfold fX5_canSit_50 at hf
  refine y_met rfl (Nat.le_of_ble_eq_true rfl) rfl (fun p e s m below meth c C => ?_)
  refine y_aload_n C dX5_canSit_0 rfl 0 rfl ?_
  refine g50_row C fl_X5_7 dX5_canSit_1 ?_
  refine y_bipush C (v := 7) dX5_canSit_4 (by decide) ?_
  refine y_iload_n C dX5_canSit_6 rfl 1 rfl ?_
  refine y_iadd C dX5_canSit_7 ?_
  obtain ⟨hi1, hf⟩ := ck_e hf
  refine y_ialdR C a51 (j := ((7 : Int32) + x1).toNatClampNeg) rfl hi1 dX5_canSit_8 ?_
  obtain ⟨v2, e_v2, hf⟩ := lt_e hf
  refine y_istore_n C dX5_canSit_9 rfl (Nat.le_of_ble_eq_true rfl) e_v2 (lv' := [(2, .int v2), (0, .ref (qAd E 50)), (1, .int x1)]) rfl ?_
  refine y_aload_n C dX5_canSit_10 rfl 1 rfl ?_
  refine g50_kinds C fl_X5_16 dX5_canSit_11 ?_
  refine y_iload_n C dX5_canSit_14 rfl 2 rfl ?_
  obtain ⟨hi3, hf⟩ := ck_e hf
  refine y_ialdR C a53 (j := x1.toNatClampNeg) rfl hi3 dX5_canSit_15 ?_
  refine y_iconst C (v := 2) dX5_canSit_16 (by decide) ?_
  refine y_icmp_ne C 35 dX5_canSit_17 (by decide) hf (fun hf => ?_) (fun hf => ?_)
  · refine y_aload_n C dX5_canSit_35 rfl 1 rfl ?_
    refine g50_kinds C fl_X5_16 dX5_canSit_36 ?_
    refine y_iload_n C dX5_canSit_39 rfl 2 rfl ?_
    obtain ⟨hi4, hf⟩ := ck_e hf
    refine y_ialdR C a53 (j := x1.toNatClampNeg) rfl hi4 dX5_canSit_40 ?_
    refine y_iconst C (v := 4) dX5_canSit_41 (by decide) ?_
    refine y_icmp_ne C 51 dX5_canSit_42 (by decide) hf (fun hf => ?_) (fun hf => ?_)
    · refine y_iconst C (v := 1) dX5_canSit_51 (by decide) ?_
      refine y_goto C 56 dX5_canSit_52 (by decide) ?_
      exact y_zret C zOk1 (Option.some.inj hf) rfl rfl dX5_canSit_56
    · refine y_iload_n C dX5_canSit_45 rfl 0 rfl ?_
      refine y_bipush C (v := 7) dX5_canSit_46 (by decide) ?_
      refine y_icmp_ge C 55 dX5_canSit_48 (by decide) hf (fun hf => ?_) (fun hf => ?_)
      · refine y_iconst C (v := 0) dX5_canSit_55 (by decide) ?_
        exact y_zret C zOk0 (Option.some.inj hf) rfl rfl dX5_canSit_56
      · refine y_iconst C (v := 1) dX5_canSit_51 (by decide) ?_
        refine y_goto C 56 dX5_canSit_52 (by decide) ?_
        exact y_zret C zOk1 (Option.some.inj hf) rfl rfl dX5_canSit_56
  · refine y_iload_n C dX5_canSit_20 rfl 0 rfl ?_
    refine y_iconst C (v := 2) dX5_canSit_21 (by decide) ?_
    refine y_irem C (by decide) dX5_canSit_22 ?_
    refine y_iconst C (v := 1) dX5_canSit_23 (by decide) ?_
    refine y_icmp_ne C 31 dX5_canSit_24 (by decide) hf (fun hf => ?_) (fun hf => ?_)
    · refine y_iconst C (v := 0) dX5_canSit_31 (by decide) ?_
      refine y_goto C 56 dX5_canSit_32 (by decide) ?_
      exact y_zret C zOk0 (Option.some.inj hf) rfl rfl dX5_canSit_56
    · refine y_iconst C (v := 1) dX5_canSit_27 (by decide) ?_
      refine y_goto C 56 dX5_canSit_28 (by decide) ?_
      exact y_zret C zOk1 (Option.some.inj hf) rfl rfl dX5_canSit_56
noncomputable def fX5_mayCall_50 (x1 : Int32) (x2 : Int32) (τ : QS) : Option (Int32) :=
    (if (fX5_has x2 x1) = 0 then Option.bind (fX5_canSit_50 x1 τ) (fun (q1 : Int32) => (if q1 = 0 then some (0 : Int32) else some (1 : Int32))) else some (0 : Int32))
def rm_X5_mayCall_50 : Room := { frames := 1, cells := 0, slots := 0, locals := 22 }
set_option maxRecDepth 100000 in
set_option maxHeartbeats 4000000 in
theorem kX5_mayCall_50 (l : Launch) (E : QE) (σ τ : QS) (x1 : Int32) (x2 : Int32) (q : Int32) (hf : fX5_mayCall_50 x1 x2 τ = some q) : KQ l yX5_mayCall cX5_mayCall 3 (some .boolean) rm_X5_mayCall_50 E [.ref (qAd E 50), .int x1, .int x2] σ τ (PI E q σ τ) := by
  unfold fX5_mayCall_50 at hf
  refine y_met rfl (Nat.le_of_ble_eq_true rfl) rfl (fun p e s m below meth c C => ?_)
  refine y_iload_n C dX5_mayCall_0 rfl 2 rfl ?_
  refine y_iload_n C dX5_mayCall_1 rfl 1 rfl ?_
  refine y_cSi C (kX5_has l E σ τ x2 x1 _ rfl) si_X5_has ml_X5_147 rfl ⟨rfl, rfl, Nat.le_of_ble_eq_true rfl, Nat.le_of_ble_eq_true rfl⟩ dX5_mayCall_2 rfl (Nat.le_of_ble_eq_true rfl) ?_
  refine y_if_ne C 20 dX5_mayCall_5 (by decide) hf (fun hf => ?_) (fun hf => ?_)
  · refine y_iconst C (v := 0) dX5_mayCall_20 (by decide) ?_
    exact y_zret C zOk0 (Option.some.inj hf) rfl rfl dX5_mayCall_21
  · refine y_aload_n C dX5_mayCall_8 rfl 0 rfl ?_
    refine y_iload_n C dX5_mayCall_9 rfl 1 rfl ?_
    obtain ⟨q1, h_q1, hf⟩ := bd_e hf
    refine y_cVi C (kX5_canSit_50 l E σ τ x1 _ h_q1) vi_X5_canSit ml_X5_186 ⟨5, _, o50, rfl, rfl⟩ rfl ⟨rfl, rfl, Nat.le_of_ble_eq_true rfl, Nat.le_of_ble_eq_true rfl⟩ dX5_mayCall_10 rfl (Nat.le_of_ble_eq_true rfl) ?_
    refine y_if_eq C 20 dX5_mayCall_13 (by decide) hf (fun hf => ?_) (fun hf => ?_)
    · refine y_iconst C (v := 0) dX5_mayCall_20 (by decide) ?_
      exact y_zret C zOk0 (Option.some.inj hf) rfl rfl dX5_mayCall_21
    · refine y_iconst C (v := 1) dX5_mayCall_16 (by decide) ?_
      refine y_goto C 21 dX5_mayCall_17 (by decide) ?_
      exact y_zret C zOk1 (Option.some.inj hf) rfl rfl dX5_mayCall_21
noncomputable def fX5_toldOf_50 (x1 : Int32) (x2 : Int32) (τ : QS) : Option (Int32) :=
    (if x2 = (0 : Int32) then ck_ (inb x1 6) (some (gM τ 53 x1.toNatClampNeg)) else (if x2 = (1 : Int32) then ck_ (inb ((7 : Int32) + x1) 1972) (some (gM τ 51 (((7 : Int32) + x1).toNatClampNeg))) else (if x2 = (2 : Int32) then ck_ (inb x1 6) (some (gM τ 54 x1.toNatClampNeg)) else (if x2 = (3 : Int32) then ck_ (inb x1 6) (some (gM τ 55 x1.toNatClampNeg)) else (if x2 = (4 : Int32) then ck_ (inb x1 6) (ck_ (inb x1 6) (some (fX5_fearsBy (gM τ 53 x1.toNatClampNeg) (gM τ 55 x1.toNatClampNeg) (gM τ 51 4)))) else (if x2 = (5 : Int32) then Option.bind (fX5_saysNow_50 x1 τ) (fun (q7 : Int32) => some q7) else (if x2 = (6 : Int32) then some (((gM τ 51 6) >>> (x1 &&& 31)) &&& (1 : Int32)) else (Option.bind (fX5_mayCall_50 x1 (gM τ 51 6) τ) (fun (q8 : Int32) => (if q8 = 0 then some (0 : Int32) else some (1 : Int32)))))))))))
def rm_X5_toldOf_50 : Room := { frames := 5, cells := 0, slots := 0, locals := 112 }
set_option maxRecDepth 100000 in
set_option maxHeartbeats 4000000 in
theorem kX5_toldOf_50 (l : Launch) (E : QE) (σ τ : QS) (x1 : Int32) (x2 : Int32) (q : Int32) (hf : fX5_toldOf_50 x1 x2 τ = some q) : KQ l yX5_toldOf cX5_toldOf 3 (some .int) rm_X5_toldOf_50 E [.ref (qAd E 50), .int x1, .int x2] σ τ (PI E q σ τ) := by
  unfold fX5_toldOf_50 at hf
  refine y_met rfl (Nat.le_of_ble_eq_true rfl) rfl (fun p e s m below meth c C => ?_)
  refine y_iload_n C dX5_toldOf_0 rfl 2 rfl ?_
  rcases Decidable.em (x2 = (0 : Int32)) with hs0 | hs0
  · replace hf := (if_pos hs0).symm.trans hf
    refine y_tsw C (off := 43) 44 hs0 dX5_toldOf_1 (by decide) (by decide) (by decide) (by decide) ?_
    refine y_aload_n C dX5_toldOf_44 rfl 0 rfl ?_
    refine g50_kinds C fl_X5_16 dX5_toldOf_45 ?_
    refine y_iload_n C dX5_toldOf_48 rfl 1 rfl ?_
    obtain ⟨hi1, hf⟩ := ck_e hf
    refine y_ialdR C a53 (j := x1.toNatClampNeg) rfl hi1 dX5_toldOf_49 ?_
    exact y_iret C (Option.some.inj hf) rfl rfl dX5_toldOf_50
  replace hf := (if_neg hs0).symm.trans hf
  rcases Decidable.em (x2 = (1 : Int32)) with hs1 | hs1
  · replace hf := (if_pos hs1).symm.trans hf
    refine y_tsw C (off := 50) 51 hs1 dX5_toldOf_1 (by decide) (by decide) (by decide) (by decide) ?_
    refine y_aload_n C dX5_toldOf_51 rfl 0 rfl ?_
    refine g50_row C fl_X5_7 dX5_toldOf_52 ?_
    refine y_bipush C (v := 7) dX5_toldOf_55 (by decide) ?_
    refine y_iload_n C dX5_toldOf_57 rfl 1 rfl ?_
    refine y_iadd C dX5_toldOf_58 ?_
    obtain ⟨hi2, hf⟩ := ck_e hf
    refine y_ialdR C a51 (j := ((7 : Int32) + x1).toNatClampNeg) rfl hi2 dX5_toldOf_59 ?_
    exact y_iret C (Option.some.inj hf) rfl rfl dX5_toldOf_60
  replace hf := (if_neg hs1).symm.trans hf
  rcases Decidable.em (x2 = (2 : Int32)) with hs2 | hs2
  · replace hf := (if_pos hs2).symm.trans hf
    refine y_tsw C (off := 60) 61 hs2 dX5_toldOf_1 (by decide) (by decide) (by decide) (by decide) ?_
    refine y_aload_n C dX5_toldOf_61 rfl 0 rfl ?_
    refine g50_memories C fl_X5_19 dX5_toldOf_62 ?_
    refine y_iload_n C dX5_toldOf_65 rfl 1 rfl ?_
    obtain ⟨hi3, hf⟩ := ck_e hf
    refine y_ialdR C a54 (j := x1.toNatClampNeg) rfl hi3 dX5_toldOf_66 ?_
    exact y_iret C (Option.some.inj hf) rfl rfl dX5_toldOf_67
  replace hf := (if_neg hs2).symm.trans hf
  rcases Decidable.em (x2 = (3 : Int32)) with hs3 | hs3
  · replace hf := (if_pos hs3).symm.trans hf
    refine y_tsw C (off := 67) 68 hs3 dX5_toldOf_1 (by decide) (by decide) (by decide) (by decide) ?_
    refine y_aload_n C dX5_toldOf_68 rfl 0 rfl ?_
    refine g50_frights C fl_X5_22 dX5_toldOf_69 ?_
    refine y_iload_n C dX5_toldOf_72 rfl 1 rfl ?_
    obtain ⟨hi4, hf⟩ := ck_e hf
    refine y_ialdR C a55 (j := x1.toNatClampNeg) rfl hi4 dX5_toldOf_73 ?_
    exact y_iret C (Option.some.inj hf) rfl rfl dX5_toldOf_74
  replace hf := (if_neg hs3).symm.trans hf
  rcases Decidable.em (x2 = (4 : Int32)) with hs4 | hs4
  · replace hf := (if_pos hs4).symm.trans hf
    refine y_tsw C (off := 74) 75 hs4 dX5_toldOf_1 (by decide) (by decide) (by decide) (by decide) ?_
    refine y_aload_n C dX5_toldOf_75 rfl 0 rfl ?_
    refine g50_kinds C fl_X5_16 dX5_toldOf_76 ?_
    refine y_iload_n C dX5_toldOf_79 rfl 1 rfl ?_
    obtain ⟨hi5, hf⟩ := ck_e hf
    refine y_ialdR C a53 (j := x1.toNatClampNeg) rfl hi5 dX5_toldOf_80 ?_
    refine y_aload_n C dX5_toldOf_81 rfl 0 rfl ?_
    refine g50_frights C fl_X5_22 dX5_toldOf_82 ?_
    refine y_iload_n C dX5_toldOf_85 rfl 1 rfl ?_
    obtain ⟨hi6, hf⟩ := ck_e hf
    refine y_ialdR C a55 (j := x1.toNatClampNeg) rfl hi6 dX5_toldOf_86 ?_
    refine y_aload_n C dX5_toldOf_87 rfl 0 rfl ?_
    refine g50_row C fl_X5_7 dX5_toldOf_88 ?_
    refine y_iconst C (v := 4) dX5_toldOf_91 (by decide) ?_
    refine y_ialdR C a51 (j := 4) (by decide) (by decide) dX5_toldOf_92 ?_
    refine y_cSi C (kX5_fearsBy l E σ τ (gM τ 53 x1.toNatClampNeg) (gM τ 55 x1.toNatClampNeg) (gM τ 51 4) _ rfl) si_X5_fearsBy ml_X5_172 rfl ⟨rfl, rfl, Nat.le_of_ble_eq_true rfl, Nat.le_of_ble_eq_true rfl⟩ dX5_toldOf_93 rfl (Nat.le_of_ble_eq_true rfl) ?_
    exact y_iret C (Option.some.inj hf) rfl rfl dX5_toldOf_96
  replace hf := (if_neg hs4).symm.trans hf
  rcases Decidable.em (x2 = (5 : Int32)) with hs5 | hs5
  · replace hf := (if_pos hs5).symm.trans hf
    refine y_tsw C (off := 96) 97 hs5 dX5_toldOf_1 (by decide) (by decide) (by decide) (by decide) ?_
    refine y_aload_n C dX5_toldOf_97 rfl 0 rfl ?_
    refine y_iload_n C dX5_toldOf_98 rfl 1 rfl ?_
    obtain ⟨q7, h_q7, hf⟩ := bd_e hf
    refine y_cVi C (kX5_saysNow_50 l E σ τ x1 _ h_q7) vi_X5_saysNow ml_X5_192 ⟨5, _, o50, rfl, rfl⟩ rfl ⟨rfl, rfl, Nat.le_of_ble_eq_true rfl, Nat.le_of_ble_eq_true rfl⟩ dX5_toldOf_99 rfl (Nat.le_of_ble_eq_true rfl) ?_
    exact y_iret C (Option.some.inj hf) rfl rfl dX5_toldOf_102
  replace hf := (if_neg hs5).symm.trans hf
  rcases Decidable.em (x2 = (6 : Int32)) with hs6 | hs6
  · replace hf := (if_pos hs6).symm.trans hf
    refine y_tsw C (off := 102) 103 hs6 dX5_toldOf_1 (by decide) (by decide) (by decide) (by decide) ?_
    refine y_aload_n C dX5_toldOf_103 rfl 0 rfl ?_
    refine g50_row C fl_X5_7 dX5_toldOf_104 ?_
    refine y_bipush C (v := 6) dX5_toldOf_107 (by decide) ?_
    refine y_ialdR C a51 (j := 6) (by decide) (by decide) dX5_toldOf_109 ?_
    refine y_iload_n C dX5_toldOf_110 rfl 1 rfl ?_
    refine y_ishr C dX5_toldOf_111 ?_
    refine y_iconst C (v := 1) dX5_toldOf_112 (by decide) ?_
    refine y_iand C dX5_toldOf_113 ?_
    exact y_iret C (Option.some.inj hf) rfl rfl dX5_toldOf_114
  replace hf := (if_neg hs6).symm.trans hf
  have hsn0 := lv_neT hs0 (a := 0) (by decide)
  have hsn1 := lv_neT hs1 (a := 1) (by decide)
  have hsn2 := lv_neT hs2 (a := 2) (by decide)
  have hsn3 := lv_neT hs3 (a := 3) (by decide)
  have hsn4 := lv_neT hs4 (a := 4) (by decide)
  have hsn5 := lv_neT hs5 (a := 5) (by decide)
  have hsn6 := lv_neT hs6 (a := 6) (by decide)
  refine y_tswD C 115 dX5_toldOf_1 (by omega) (by decide) ?_
  refine y_aload_n C dX5_toldOf_115 rfl 0 rfl ?_
  refine y_iload_n C dX5_toldOf_116 rfl 1 rfl ?_
  refine y_aload_n C dX5_toldOf_117 rfl 0 rfl ?_
  refine g50_row C fl_X5_7 dX5_toldOf_118 ?_
  refine y_bipush C (v := 6) dX5_toldOf_121 (by decide) ?_
  refine y_ialdR C a51 (j := 6) (by decide) (by decide) dX5_toldOf_123 ?_
  obtain ⟨q8, h_q8, hf⟩ := bd_e hf
  refine y_cVi C (kX5_mayCall_50 l E σ τ x1 (gM τ 51 6) _ h_q8) vi_X5_mayCall ml_X5_195 ⟨5, _, o50, rfl, rfl⟩ rfl ⟨rfl, rfl, Nat.le_of_ble_eq_true rfl, Nat.le_of_ble_eq_true rfl⟩ dX5_toldOf_124 rfl (Nat.le_of_ble_eq_true rfl) ?_
  refine y_if_eq C 134 dX5_toldOf_127 (by decide) hf (fun hf => ?_) (fun hf => ?_)
  · refine y_iconst C (v := 0) dX5_toldOf_134 (by decide) ?_
    exact y_iret C (Option.some.inj hf) rfl rfl dX5_toldOf_135
  · refine y_iconst C (v := 1) dX5_toldOf_130 (by decide) ?_
    refine y_goto C 135 dX5_toldOf_131 (by decide) ?_
    exact y_iret C (Option.some.inj hf) rfl rfl dX5_toldOf_135
noncomputable def fX5_sitter_50 (x1 : Int32) (x2 : Int32) (τ : QS) : Option (Int32 × QS) :=
    (if (fX5_isSitter_50 x1 τ) = 0 then some ((-1 : Int32), τ) else (if (fX5_in x2.toInt64 (0 : Int64) (7 : Int64)) = 0 then some ((-1 : Int32), τ) else Option.bind (fX5_toldOf_50 x1 x2 τ) (fun (q1 : Int32) => lt_ (fX5_tell_50 q1 τ) (fun (q2 : Int32 × QS) => some (q2.1, q2.2)))))
def rm_X5_sitter_50 : Room := { frames := 6, cells := 0, slots := 0, locals := 134 }
set_option maxRecDepth 100000 in
set_option maxHeartbeats 4000000 in
theorem kX5_sitter_50 (l : Launch) (E : QE) (σ τ : QS) (x1 : Int32) (x2 : Int32) (q : Int32 × QS) (hf : fX5_sitter_50 x1 x2 τ = some q) : KQ l yX5_sitter cX5_sitter 3 (some .int) rm_X5_sitter_50 E [.ref (qAd E 50), .int x1, .int x2] σ τ (PI E q.1 σ q.2) := by
  unfold fX5_sitter_50 at hf
  refine y_met rfl (Nat.le_of_ble_eq_true rfl) rfl (fun p e s m below meth c C => ?_)
  refine y_aload_n C dX5_sitter_0 rfl 0 rfl ?_
  refine y_iload_n C dX5_sitter_1 rfl 1 rfl ?_
  refine y_cVi C (kX5_isSitter_50 l E σ τ x1 _ rfl) vi_X5_isSitter ml_X5_198 ⟨5, _, o50, rfl, rfl⟩ rfl ⟨rfl, rfl, Nat.le_of_ble_eq_true rfl, Nat.le_of_ble_eq_true rfl⟩ dX5_sitter_2 rfl (Nat.le_of_ble_eq_true rfl) ?_
  refine y_if_eq C 33 dX5_sitter_5 (by decide) hf (fun hf => ?_) (fun hf => ?_)
  · refine y_iconst C (v := -1) dX5_sitter_33 (by decide) ?_
    exact y_iret C (rs1 hf) rfl (rs2 hf) dX5_sitter_34
  · refine y_iload_n C dX5_sitter_8 rfl 2 rfl ?_
    refine y_i2l C dX5_sitter_9 ?_
    refine y_lconst C (v := 0) dX5_sitter_10 (by decide) ?_
    refine y_ldc2 C kl_X5_201 dX5_sitter_11 ?_
    refine y_cSi C (kX5_in l E σ τ x2.toInt64 (0 : Int64) (7 : Int64) _ rfl) si_X5_in ml_X5_77 rfl ⟨rfl, rfl, Nat.le_of_ble_eq_true rfl, Nat.le_of_ble_eq_true rfl⟩ dX5_sitter_14 rfl (Nat.le_of_ble_eq_true rfl) ?_
    refine y_if_eq C 33 dX5_sitter_17 (by decide) hf (fun hf => ?_) (fun hf => ?_)
    · refine y_iconst C (v := -1) dX5_sitter_33 (by decide) ?_
      exact y_iret C (rs1 hf) rfl (rs2 hf) dX5_sitter_34
    · refine y_aload_n C dX5_sitter_20 rfl 0 rfl ?_
      refine y_aload_n C dX5_sitter_21 rfl 0 rfl ?_
      refine y_iload_n C dX5_sitter_22 rfl 1 rfl ?_
      refine y_iload_n C dX5_sitter_23 rfl 2 rfl ?_
      obtain ⟨q1, h_q1, hf⟩ := bd_e hf
      refine y_cVi C (kX5_toldOf_50 l E σ τ x1 x2 _ h_q1) vi_X5_toldOf ml_X5_203 ⟨5, _, o50, rfl, rfl⟩ rfl ⟨rfl, rfl, Nat.le_of_ble_eq_true rfl, Nat.le_of_ble_eq_true rfl⟩ dX5_sitter_24 rfl (Nat.le_of_ble_eq_true rfl) ?_
      obtain ⟨q2, e_q2, hf⟩ := lt_e hf
      refine y_cVi C (kX5_tell_50 l E σ τ q1 _ e_q2.symm) vi_X5_tell ml_X5_99 ⟨5, _, o50, rfl, rfl⟩ rfl ⟨rfl, rfl, Nat.le_of_ble_eq_true rfl, Nat.le_of_ble_eq_true rfl⟩ dX5_sitter_27 rfl (Nat.le_of_ble_eq_true rfl) ?_
      refine y_goto C 34 dX5_sitter_30 (by decide) ?_
      exact y_iret C (rs1 hf) rfl (rs2 hf) dX5_sitter_34
noncomputable def fX1_lacking_5 (x1 : Int32) (x2 : Int32) (x3 : Int32) (x4 : Int32) (σ : QS) : Option (Int32) :=
    (if (fX1_isSitter_5 x1 σ) = 0 then some (0 : Int32) else (if x2 < 0 then some (0 : Int32) else (if x2 < (gI σ 8) then ck_ (inb x1 6) (ck_ (inb x1 6) (ck_ (inb x1 6) (lt_ (fX4_says (gM σ 21 x1.toNatClampNeg) (gM σ 23 x1.toNatClampNeg) (gM σ 24 x1.toNatClampNeg) x4 (fX1_otherClaques_5 x1 x3 σ)) (fun (v4 : Int32) => ck_ (inb x2 6) (some (fJ9_max_7cf53 (0 : Int32) ((gM σ 20 x2.toNatClampNeg) - v4))))))) else some (0 : Int32))))
def rm_X1_lacking_5 : Room := { frames := 3, cells := 0, slots := 0, locals := 69 }
set_option maxRecDepth 100000 in
set_option maxHeartbeats 4000000 in
theorem kX1_lacking_5 (l : Launch) (E : QE) (σ τ : QS) (x1 : Int32) (x2 : Int32) (x3 : Int32) (x4 : Int32) (q : Int32) (hf : fX1_lacking_5 x1 x2 x3 x4 σ = some q) : KQ l yX1_lacking cX1_lacking 6 (some .int) rm_X1_lacking_5 E [.ref (qAd E 5), .int x1, .int x2, .int x3, .int x4] σ τ (PI E q σ τ) := by
  unfold fX1_lacking_5 at hf
  refine y_met rfl (Nat.le_of_ble_eq_true rfl) rfl (fun p e s m below meth c C => ?_)
  refine y_aload_n C dX1_lacking_0 rfl 0 rfl ?_
  refine y_iload_n C dX1_lacking_1 rfl 1 rfl ?_
  refine y_cVi C (kX1_isSitter_5 l E σ τ x1 _ rfl) vi_X1_isSitter ml_X1_85 ⟨1, _, o5, rfl, rfl⟩ rfl ⟨rfl, rfl, Nat.le_of_ble_eq_true rfl, Nat.le_of_ble_eq_true rfl⟩ dX1_lacking_2 rfl (Nat.le_of_ble_eq_true rfl) ?_
  refine y_if_eq C 20 dX1_lacking_5 (by decide) hf (fun hf => ?_) (fun hf => ?_)
  · refine y_iconst C (v := 0) dX1_lacking_20 (by decide) ?_
    exact y_iret C (Option.some.inj hf) rfl rfl dX1_lacking_21
  · refine y_iload_n C dX1_lacking_8 rfl 2 rfl ?_
    refine y_if_lt C 20 dX1_lacking_9 (by decide) hf (fun hf => ?_) (fun hf => ?_)
    · refine y_iconst C (v := 0) dX1_lacking_20 (by decide) ?_
      exact y_iret C (Option.some.inj hf) rfl rfl dX1_lacking_21
    · refine y_iload_n C dX1_lacking_12 rfl 2 rfl ?_
      refine y_aload_n C dX1_lacking_13 rfl 0 rfl ?_
      refine g5_sceneCount C fl_X1_27 dX1_lacking_14 ?_
      refine y_icmp_lt C 22 dX1_lacking_17 (by decide) hf (fun hf => ?_) (fun hf => ?_)
      · refine y_aload_n C dX1_lacking_22 rfl 0 rfl ?_
        refine g5_kind C fl_X1_15 dX1_lacking_23 ?_
        refine y_iload_n C dX1_lacking_26 rfl 1 rfl ?_
        obtain ⟨hi1, hf⟩ := ck_e hf
        refine y_ialdC C a21 (j := x1.toNatClampNeg) rfl hi1 dX1_lacking_27 ?_
        refine y_aload_n C dX1_lacking_28 rfl 0 rfl ?_
        refine g5_memory C fl_X1_21 dX1_lacking_29 ?_
        refine y_iload_n C dX1_lacking_32 rfl 1 rfl ?_
        obtain ⟨hi2, hf⟩ := ck_e hf
        refine y_ialdC C a23 (j := x1.toNatClampNeg) rfl hi2 dX1_lacking_33 ?_
        refine y_aload_n C dX1_lacking_34 rfl 0 rfl ?_
        refine g5_fright C fl_X1_24 dX1_lacking_35 ?_
        refine y_iload_n C dX1_lacking_38 rfl 1 rfl ?_
        obtain ⟨hi3, hf⟩ := ck_e hf
        refine y_ialdC C a24 (j := x1.toNatClampNeg) rfl hi3 dX1_lacking_39 ?_
        refine y_iload C dX1_lacking_40 4 rfl ?_
        refine y_aload_n C dX1_lacking_42 rfl 0 rfl ?_
        refine y_iload_n C dX1_lacking_43 rfl 1 rfl ?_
        refine y_iload_n C dX1_lacking_44 rfl 3 rfl ?_
        refine y_cVi C (kX1_otherClaques_5 l E σ τ x1 x3 _ rfl) vi_X1_otherClaques ml_X1_89 ⟨1, _, o5, rfl, rfl⟩ rfl ⟨rfl, rfl, Nat.le_of_ble_eq_true rfl, Nat.le_of_ble_eq_true rfl⟩ dX1_lacking_45 rfl (Nat.le_of_ble_eq_true rfl) ?_
        refine y_cNi C (kX4_says l E σ τ (gM σ 21 x1.toNatClampNeg) (gM σ 23 x1.toNatClampNeg) (gM σ 24 x1.toNatClampNeg) x4 (fX1_otherClaques_5 x1 x3 σ) _ rfl) si_X4_says mn_X1_92 rfl ⟨rfl, rfl, Nat.le_of_ble_eq_true rfl, Nat.le_of_ble_eq_true rfl⟩ dX1_lacking_48 rfl (Nat.le_of_ble_eq_true rfl) ?_
        obtain ⟨v4, e_v4, hf⟩ := lt_e hf
        refine y_istore C dX1_lacking_51 (Nat.le_of_ble_eq_true rfl) e_v4 (lv' := [(5, .int v4), (0, .ref (qAd E 5)), (1, .int x1), (2, .int x2), (3, .int x3), (4, .int x4)]) rfl ?_
        refine y_iconst C (v := 0) dX1_lacking_53 (by decide) ?_
        refine y_aload_n C dX1_lacking_54 rfl 1 rfl ?_
        refine g5_lineCount C fl_X1_9 dX1_lacking_55 ?_
        refine y_iload_n C dX1_lacking_58 rfl 3 rfl ?_
        obtain ⟨hi5, hf⟩ := ck_e hf
        refine y_ialdC C a20 (j := x2.toNatClampNeg) rfl hi5 dX1_lacking_59 ?_
        refine y_iload C dX1_lacking_60 0 rfl ?_
        refine y_isub C dX1_lacking_62 ?_
        refine y_cSi C (kJ9_max_7cf53 l E σ τ (0 : Int32) ((gM σ 20 x2.toNatClampNeg) - v4) _ rfl) si_J9_max_7cf53 ml_X1_96 rfl ⟨rfl, rfl, Nat.le_of_ble_eq_true rfl, Nat.le_of_ble_eq_true rfl⟩ dX1_lacking_63 rfl (Nat.le_of_ble_eq_true rfl) ?_
        exact y_iret C (Option.some.inj hf) rfl rfl dX1_lacking_66
      · refine y_iconst C (v := 0) dX1_lacking_20 (by decide) ?_
        exact y_iret C (Option.some.inj hf) rfl rfl dX1_lacking_21
noncomputable def fX0_scenesWithoutPrompt_6 (x1 : Int32) (σ : QS) : Option (Int32) :=
    lt_ (gI σ 13) (fun (v1 : Int32) => lp_ (fun (r3 : Int32 × Int32 → Option (Int32)) (a2 : Int32 × Int32) => (if (gI σ 8) ≤ a2.2 then some a2.1 else Option.bind (fX1_lacking_5 x1 a2.2 (gI σ 14) (gI σ 17) σ) (fun (q4 : Int32) => (if q4 = 0 then lt_ (a2.1 + (1 : Int32)) (fun (v6 : Int32) => r3 (v6, (a2.2 + (1 : Int32)))) else lt_ (a2.1 + (0 : Int32)) (fun (v5 : Int32) => r3 (v5, (a2.2 + (1 : Int32)))))))) FV ((0 : Int32), v1))
def rm_X0_scenesWithoutPrompt_6 : Room := { frames := 4, cells := 0, slots := 0, locals := 94 }
set_option maxRecDepth 100000 in
set_option maxHeartbeats 4000000 in
theorem kX0_scenesWithoutPrompt_6 (l : Launch) (E : QE) (σ τ : QS) (x1 : Int32) (q : Int32) (hf : fX0_scenesWithoutPrompt_6 x1 σ = some q) : KQ l yX0_scenesWithoutPrompt cX0_scenesWithoutPrompt 4 (some .int) rm_X0_scenesWithoutPrompt_6 E [.ref (qAd E 6), .int x1] σ τ (PI E q σ τ) := by
  unfold fX0_scenesWithoutPrompt_6 at hf
  refine y_met rfl (Nat.le_of_ble_eq_true rfl) rfl (fun p e s m below meth c C => ?_)
  refine y_iconst C (v := 0) dX0_scenesWithoutPrompt_0 (by decide) ?_
  refine y_istore_n C dX0_scenesWithoutPrompt_1 rfl (Nat.le_of_ble_eq_true rfl) rfl (lv' := [(2, .int (0 : Int32)), (0, .ref (qAd E 6)), (1, .int x1)]) rfl ?_
  refine y_aload_n C dX0_scenesWithoutPrompt_2 rfl 1 rfl ?_
  refine g6_scene C fl_X0_35 dX0_scenesWithoutPrompt_3 ?_
  obtain ⟨v1, e_v1, hf⟩ := lt_e hf
  refine y_istore_n C dX0_scenesWithoutPrompt_6 rfl (Nat.le_of_ble_eq_true rfl) e_v1 (lv' := [(3, .int v1), (2, .int (0 : Int32)), (0, .ref (qAd E 6)), (1, .int x1)]) rfl ?_
  refine y_sub [0, 1, 2, 3] rfl ?_
  refine lp_ind (P := fun a2 : Int32 × Int32 => Y E p l e rm_X0_scenesWithoutPrompt_6 s m ([.ref (qAd E 6), .int x1] : List Value).toArray below meth c 4 (MQ below (PI E q σ τ) ([.ref (qAd E 6), .int x1] : List Value).toArray s 0 0 (qA E)) σ τ 7 [(3, .int a2.2), (2, .int a2.1), (0, .ref (qAd E 6)), (1, .int x1)] []) (fun r3 a2 ih_r3 hf => ?_) _ _ hf
  refine y_iload_n C dX0_scenesWithoutPrompt_7 rfl 0 rfl ?_
  refine y_aload_n C dX0_scenesWithoutPrompt_8 rfl 2 rfl ?_
  refine g6_script C fl_X0_18 dX0_scenesWithoutPrompt_9 ?_
  refine gN5_sceneCount C fn_X0_72 dX0_scenesWithoutPrompt_12 ?_
  refine y_icmp_ge C 52 dX0_scenesWithoutPrompt_15 (by decide) hf (fun hf => ?_) (fun hf => ?_)
  · refine y_iload_n C dX0_scenesWithoutPrompt_52 rfl 1 rfl ?_
    exact y_iret C (Option.some.inj hf) rfl rfl dX0_scenesWithoutPrompt_53
  · refine y_iload_n C dX0_scenesWithoutPrompt_18 rfl 1 rfl ?_
    refine y_aload_n C dX0_scenesWithoutPrompt_19 rfl 2 rfl ?_
    refine g6_script C fl_X0_18 dX0_scenesWithoutPrompt_20 ?_
    refine y_iload_n C dX0_scenesWithoutPrompt_23 rfl 3 rfl ?_
    refine y_iload_n C dX0_scenesWithoutPrompt_24 rfl 0 rfl ?_
    refine y_aload_n C dX0_scenesWithoutPrompt_25 rfl 2 rfl ?_
    refine g6_called C fl_X0_38 dX0_scenesWithoutPrompt_26 ?_
    refine y_aload_n C dX0_scenesWithoutPrompt_29 rfl 2 rfl ?_
    refine g6_clapping C fl_X0_50 dX0_scenesWithoutPrompt_30 ?_
    obtain ⟨q4, h_q4, hf⟩ := bd_e hf
    refine y_cVi C (kX1_lacking_5 l E σ τ x1 a2.2 (gI σ 14) (gI σ 17) _ h_q4) vi_X1_lacking ml_X0_64 ⟨1, _, o5, rfl, rfl⟩ rfl ⟨rfl, rfl, Nat.le_of_ble_eq_true rfl, Nat.le_of_ble_eq_true rfl⟩ dX0_scenesWithoutPrompt_33 rfl (Nat.le_of_ble_eq_true rfl) ?_
    refine y_if_ne C 43 dX0_scenesWithoutPrompt_36 (by decide) hf (fun hf => ?_) (fun hf => ?_)
    · refine y_iconst C (v := 0) dX0_scenesWithoutPrompt_43 (by decide) ?_
      refine y_iadd C dX0_scenesWithoutPrompt_44 ?_
      obtain ⟨v5, e_v5, hf⟩ := lt_e hf
      refine y_istore_n C dX0_scenesWithoutPrompt_45 rfl (Nat.le_of_ble_eq_true rfl) e_v5 (lv' := [(2, .int v5), (3, .int a2.2), (0, .ref (qAd E 6)), (1, .int x1)]) rfl ?_
      refine y_iinc C dX0_scenesWithoutPrompt_46 1 rfl (Nat.le_of_ble_eq_true rfl) (k2 := 1) (by decide) rfl (lv' := [(3, .int (a2.2 + (1 : Int32))), (2, .int v5), (0, .ref (qAd E 6)), (1, .int x1)]) rfl ?_
      refine y_goto C 7 dX0_scenesWithoutPrompt_49 (by decide) ?_
      refine y_sub [0, 1, 2, 3] rfl ?_
      exact ih_r3 (v5, (a2.2 + (1 : Int32))) hf
    · refine y_iconst C (v := 1) dX0_scenesWithoutPrompt_39 (by decide) ?_
      refine y_goto C 44 dX0_scenesWithoutPrompt_40 (by decide) ?_
      refine y_iadd C dX0_scenesWithoutPrompt_44 ?_
      obtain ⟨v6, e_v6, hf⟩ := lt_e hf
      refine y_istore_n C dX0_scenesWithoutPrompt_45 rfl (Nat.le_of_ble_eq_true rfl) e_v6 (lv' := [(2, .int v6), (3, .int a2.2), (0, .ref (qAd E 6)), (1, .int x1)]) rfl ?_
      refine y_iinc C dX0_scenesWithoutPrompt_46 1 rfl (Nat.le_of_ble_eq_true rfl) (k2 := 1) (by decide) rfl (lv' := [(3, .int (a2.2 + (1 : Int32))), (2, .int v6), (0, .ref (qAd E 6)), (1, .int x1)]) rfl ?_
      refine y_goto C 7 dX0_scenesWithoutPrompt_49 (by decide) ?_
      refine y_sub [0, 1, 2, 3] rfl ?_
      exact ih_r3 (v6, (a2.2 + (1 : Int32))) hf
noncomputable def fX0_othersInEvenSeats_6 (x1 : Int32) (σ : QS) : Option (Int32) :=
    lp_ (fun (r2 : Int32 × Int32 → Option (Int32)) (a1 : Int32 × Int32) => (if (gI σ 9) ≤ a1.2 then some a1.1 else (if a1.2 = x1 then lt_ (a1.1 + (0 : Int32)) (fun (v3 : Int32) => r2 (v3, (a1.2 + (1 : Int32)))) else ck_ (inb a1.2 6) ((if ((gM σ 25 a1.2.toNatClampNeg) - (gM σ 25 a1.2.toNatClampNeg) / (2 : Int32) * (2 : Int32)) = 0 then lt_ (a1.1 + (1 : Int32)) (fun (v6 : Int32) => r2 (v6, (a1.2 + (1 : Int32)))) else lt_ (a1.1 + (0 : Int32)) (fun (v5 : Int32) => r2 (v5, (a1.2 + (1 : Int32))))))))) FV ((0 : Int32), (0 : Int32))
def rm_X0_othersInEvenSeats_6 : Room := { frames := 0, cells := 0, slots := 0, locals := 0 }
set_option maxRecDepth 100000 in
set_option maxHeartbeats 4000000 in
theorem kX0_othersInEvenSeats_6 (l : Launch) (E : QE) (σ τ : QS) (x1 : Int32) (q : Int32) (hf : fX0_othersInEvenSeats_6 x1 σ = some q) : KQ l yX0_othersInEvenSeats cX0_othersInEvenSeats 4 (some .int) rm_X0_othersInEvenSeats_6 E [.ref (qAd E 6), .int x1] σ τ (PI E q σ τ) := by
  unfold fX0_othersInEvenSeats_6 at hf
  refine y_met rfl (Nat.le_of_ble_eq_true rfl) rfl (fun p e s m below meth c C => ?_)
  refine y_iconst C (v := 0) dX0_othersInEvenSeats_0 (by decide) ?_
  refine y_istore_n C dX0_othersInEvenSeats_1 rfl (Nat.le_of_ble_eq_true rfl) rfl (lv' := [(2, .int (0 : Int32)), (0, .ref (qAd E 6)), (1, .int x1)]) rfl ?_
  refine y_iconst C (v := 0) dX0_othersInEvenSeats_2 (by decide) ?_
  refine y_istore_n C dX0_othersInEvenSeats_3 rfl (Nat.le_of_ble_eq_true rfl) rfl (lv' := [(3, .int (0 : Int32)), (2, .int (0 : Int32)), (0, .ref (qAd E 6)), (1, .int x1)]) rfl ?_
  refine y_sub [0, 1, 2, 3] rfl ?_
  refine lp_ind (P := fun a1 : Int32 × Int32 => Y E p l e rm_X0_othersInEvenSeats_6 s m ([.ref (qAd E 6), .int x1] : List Value).toArray below meth c 4 (MQ below (PI E q σ τ) ([.ref (qAd E 6), .int x1] : List Value).toArray s 0 0 (qA E)) σ τ 4 [(3, .int a1.2), (2, .int a1.1), (0, .ref (qAd E 6)), (1, .int x1)] []) (fun r2 a1 ih_r2 hf => ?_) _ _ hf
  refine y_iload_n C dX0_othersInEvenSeats_4 rfl 0 rfl ?_
  refine y_aload_n C dX0_othersInEvenSeats_5 rfl 2 rfl ?_
  refine g6_script C fl_X0_18 dX0_othersInEvenSeats_6 ?_
  refine gN5_sitterCount C fn_X0_75 dX0_othersInEvenSeats_9 ?_
  refine y_icmp_ge C 45 dX0_othersInEvenSeats_12 (by decide) hf (fun hf => ?_) (fun hf => ?_)
  · refine y_iload_n C dX0_othersInEvenSeats_45 rfl 1 rfl ?_
    exact y_iret C (Option.some.inj hf) rfl rfl dX0_othersInEvenSeats_46
  · refine y_iload_n C dX0_othersInEvenSeats_15 rfl 1 rfl ?_
    refine y_iload_n C dX0_othersInEvenSeats_16 rfl 0 rfl ?_
    refine y_iload_n C dX0_othersInEvenSeats_17 rfl 3 rfl ?_
    refine y_icmp_eq C 36 dX0_othersInEvenSeats_18 (by decide) hf (fun hf => ?_) (fun hf => ?_)
    · refine y_iconst C (v := 0) dX0_othersInEvenSeats_36 (by decide) ?_
      refine y_iadd C dX0_othersInEvenSeats_37 ?_
      obtain ⟨v3, e_v3, hf⟩ := lt_e hf
      refine y_istore_n C dX0_othersInEvenSeats_38 rfl (Nat.le_of_ble_eq_true rfl) e_v3 (lv' := [(2, .int v3), (3, .int a1.2), (0, .ref (qAd E 6)), (1, .int x1)]) rfl ?_
      refine y_iinc C dX0_othersInEvenSeats_39 1 rfl (Nat.le_of_ble_eq_true rfl) (k2 := 1) (by decide) rfl (lv' := [(3, .int (a1.2 + (1 : Int32))), (2, .int v3), (0, .ref (qAd E 6)), (1, .int x1)]) rfl ?_
      refine y_goto C 4 dX0_othersInEvenSeats_42 (by decide) ?_
      refine y_sub [0, 1, 2, 3] rfl ?_
      exact ih_r2 (v3, (a1.2 + (1 : Int32))) hf
    · refine y_aload_n C dX0_othersInEvenSeats_21 rfl 2 rfl ?_
      refine g6_seat C fl_X0_9 dX0_othersInEvenSeats_22 ?_
      refine y_iload_n C dX0_othersInEvenSeats_25 rfl 0 rfl ?_
      obtain ⟨hi4, hf⟩ := ck_e hf
      refine y_ialdC C a25 (j := a1.2.toNatClampNeg) rfl hi4 dX0_othersInEvenSeats_26 ?_
      refine y_iconst C (v := 2) dX0_othersInEvenSeats_27 (by decide) ?_
      refine y_irem C (by decide) dX0_othersInEvenSeats_28 ?_
      refine y_if_ne C 36 dX0_othersInEvenSeats_29 (by decide) hf (fun hf => ?_) (fun hf => ?_)
      · refine y_iconst C (v := 0) dX0_othersInEvenSeats_36 (by decide) ?_
        refine y_iadd C dX0_othersInEvenSeats_37 ?_
        obtain ⟨v5, e_v5, hf⟩ := lt_e hf
        refine y_istore_n C dX0_othersInEvenSeats_38 rfl (Nat.le_of_ble_eq_true rfl) e_v5 (lv' := [(2, .int v5), (3, .int a1.2), (0, .ref (qAd E 6)), (1, .int x1)]) rfl ?_
        refine y_iinc C dX0_othersInEvenSeats_39 1 rfl (Nat.le_of_ble_eq_true rfl) (k2 := 1) (by decide) rfl (lv' := [(3, .int (a1.2 + (1 : Int32))), (2, .int v5), (0, .ref (qAd E 6)), (1, .int x1)]) rfl ?_
        refine y_goto C 4 dX0_othersInEvenSeats_42 (by decide) ?_
        refine y_sub [0, 1, 2, 3] rfl ?_
        exact ih_r2 (v5, (a1.2 + (1 : Int32))) hf
      · refine y_iconst C (v := 1) dX0_othersInEvenSeats_32 (by decide) ?_
        refine y_goto C 37 dX0_othersInEvenSeats_33 (by decide) ?_
        refine y_iadd C dX0_othersInEvenSeats_37 ?_
        obtain ⟨v6, e_v6, hf⟩ := lt_e hf
        refine y_istore_n C dX0_othersInEvenSeats_38 rfl (Nat.le_of_ble_eq_true rfl) e_v6 (lv' := [(2, .int v6), (3, .int a1.2), (0, .ref (qAd E 6)), (1, .int x1)]) rfl ?_
        refine y_iinc C dX0_othersInEvenSeats_39 1 rfl (Nat.le_of_ble_eq_true rfl) (k2 := 1) (by decide) rfl (lv' := [(3, .int (a1.2 + (1 : Int32))), (2, .int v6), (0, .ref (qAd E 6)), (1, .int x1)]) rfl ?_
        refine y_goto C 4 dX0_othersInEvenSeats_42 (by decide) ?_
        refine y_sub [0, 1, 2, 3] rfl ?_
        exact ih_r2 (v6, (a1.2 + (1 : Int32))) hf
noncomputable def fX0_markOf_6 (x1 : Int32) (x2 : Int32) (σ : QS) : Option (Int32) :=
    (if (fX1_isSitter_5 x1 σ) = 0 then some (-1 : Int32) else (if x2 = (1 : Int32) then Option.bind (fX0_scenesWithoutPrompt_6 x1 σ) (fun (q1 : Int32) => some q1) else (if x2 = (2 : Int32) then Option.bind (fX0_othersInEvenSeats_6 x1 σ) (fun (q2 : Int32) => some q2) else (if x2 = (3 : Int32) then ck_ (inb x1 6) (ck_ (inb x1 6) (some ((fX4_fears (0 : Int32) (gM σ 24 x1.toNatClampNeg) (gI σ 17)) - (fX4_fears (3 : Int32) (gM σ 24 x1.toNatClampNeg) (gI σ 17))))) else (if x2 = (4 : Int32) then ck_ (inb x1 6) (some (fJ9_max_7cf53 (0 : Int32) ((7 : Int32) - (gM σ 25 x1.toNatClampNeg)))) else (some (fX1_otherClaques_5 x1 (gI σ 14) σ)))))))
def rm_X0_markOf_6 : Room := { frames := 5, cells := 0, slots := 0, locals := 117 }
set_option maxRecDepth 100000 in
set_option maxHeartbeats 4000000 in
theorem kX0_markOf_6 (l : Launch) (E : QE) (σ τ : QS) (x1 : Int32) (x2 : Int32) (q : Int32) (hf : fX0_markOf_6 x1 x2 σ = some q) : KQ l yX0_markOf cX0_markOf 3 (some .int) rm_X0_markOf_6 E [.ref (qAd E 6), .int x1, .int x2] σ τ (PI E q σ τ) := by
  unfold fX0_markOf_6 at hf
  refine y_met rfl (Nat.le_of_ble_eq_true rfl) rfl (fun p e s m below meth c C => ?_)
  refine y_aload_n C dX0_markOf_0 rfl 0 rfl ?_
  refine g6_script C fl_X0_18 dX0_markOf_1 ?_
  refine y_iload_n C dX0_markOf_4 rfl 1 rfl ?_
  refine y_cVi C (kX1_isSitter_5 l E σ τ x1 _ rfl) vi_X1_isSitter ml_X0_68 ⟨1, _, o5, rfl, rfl⟩ rfl ⟨rfl, rfl, Nat.le_of_ble_eq_true rfl, Nat.le_of_ble_eq_true rfl⟩ dX0_markOf_5 rfl (Nat.le_of_ble_eq_true rfl) ?_
  refine y_if_ne C 13 dX0_markOf_8 (by decide) hf (fun hf => ?_) (fun hf => ?_)
  · refine y_iload_n C dX0_markOf_13 rfl 2 rfl ?_
    rcases Decidable.em (x2 = (1 : Int32)) with hs1 | hs1
    · replace hf := (if_pos hs1).symm.trans hf
      refine y_tsw C (off := 30) 44 hs1 dX0_markOf_14 (by decide) (by decide) (by decide) (by decide) ?_
      refine y_aload_n C dX0_markOf_44 rfl 0 rfl ?_
      refine y_iload_n C dX0_markOf_45 rfl 1 rfl ?_
      obtain ⟨q1, h_q1, hf⟩ := bd_e hf
      refine y_cVi C (kX0_scenesWithoutPrompt_6 l E σ τ x1 _ h_q1) vi_X0_scenesWithoutPrompt ml_X0_120 ⟨0, _, o6, rfl, rfl⟩ rfl ⟨rfl, rfl, Nat.le_of_ble_eq_true rfl, Nat.le_of_ble_eq_true rfl⟩ dX0_markOf_46 rfl (Nat.le_of_ble_eq_true rfl) ?_
      exact y_iret C (Option.some.inj hf) rfl rfl dX0_markOf_49
    replace hf := (if_neg hs1).symm.trans hf
    rcases Decidable.em (x2 = (2 : Int32)) with hs2 | hs2
    · replace hf := (if_pos hs2).symm.trans hf
      refine y_tsw C (off := 36) 50 hs2 dX0_markOf_14 (by decide) (by decide) (by decide) (by decide) ?_
      refine y_aload_n C dX0_markOf_50 rfl 0 rfl ?_
      refine y_iload_n C dX0_markOf_51 rfl 1 rfl ?_
      obtain ⟨q2, h_q2, hf⟩ := bd_e hf
      refine y_cVi C (kX0_othersInEvenSeats_6 l E σ τ x1 _ h_q2) vi_X0_othersInEvenSeats ml_X0_123 ⟨0, _, o6, rfl, rfl⟩ rfl ⟨rfl, rfl, Nat.le_of_ble_eq_true rfl, Nat.le_of_ble_eq_true rfl⟩ dX0_markOf_52 rfl (Nat.le_of_ble_eq_true rfl) ?_
      exact y_iret C (Option.some.inj hf) rfl rfl dX0_markOf_55
    replace hf := (if_neg hs2).symm.trans hf
    rcases Decidable.em (x2 = (3 : Int32)) with hs3 | hs3
    · replace hf := (if_pos hs3).symm.trans hf
      refine y_tsw C (off := 42) 56 hs3 dX0_markOf_14 (by decide) (by decide) (by decide) (by decide) ?_
      refine y_iconst C (v := 0) dX0_markOf_56 (by decide) ?_
      refine y_aload_n C dX0_markOf_57 rfl 0 rfl ?_
      refine g6_script C fl_X0_18 dX0_markOf_58 ?_
      refine gN5_fright C fn_X0_99 dX0_markOf_61 ?_
      refine y_iload_n C dX0_markOf_64 rfl 1 rfl ?_
      obtain ⟨hi3, hf⟩ := ck_e hf
      refine y_ialdC C a24 (j := x1.toNatClampNeg) rfl hi3 dX0_markOf_65 ?_
      refine y_aload_n C dX0_markOf_66 rfl 0 rfl ?_
      refine g6_clapping C fl_X0_50 dX0_markOf_67 ?_
      refine y_cNi C (kX4_fears l E σ τ (0 : Int32) (gM σ 24 x1.toNatClampNeg) (gI σ 17) _ rfl) si_X4_fears mn_X0_102 rfl ⟨rfl, rfl, Nat.le_of_ble_eq_true rfl, Nat.le_of_ble_eq_true rfl⟩ dX0_markOf_70 rfl (Nat.le_of_ble_eq_true rfl) ?_
      refine y_iconst C (v := 3) dX0_markOf_73 (by decide) ?_
      refine y_aload_n C dX0_markOf_74 rfl 0 rfl ?_
      refine g6_script C fl_X0_18 dX0_markOf_75 ?_
      refine gN5_fright C fn_X0_99 dX0_markOf_78 ?_
      refine y_iload_n C dX0_markOf_81 rfl 1 rfl ?_
      obtain ⟨hi4, hf⟩ := ck_e hf
      refine y_ialdC C a24 (j := x1.toNatClampNeg) rfl hi4 dX0_markOf_82 ?_
      refine y_aload_n C dX0_markOf_83 rfl 0 rfl ?_
      refine g6_clapping C fl_X0_50 dX0_markOf_84 ?_
      refine y_cNi C (kX4_fears l E σ τ (3 : Int32) (gM σ 24 x1.toNatClampNeg) (gI σ 17) _ rfl) si_X4_fears mn_X0_102 rfl ⟨rfl, rfl, Nat.le_of_ble_eq_true rfl, Nat.le_of_ble_eq_true rfl⟩ dX0_markOf_87 rfl (Nat.le_of_ble_eq_true rfl) ?_
      refine y_isub C dX0_markOf_90 ?_
      exact y_iret C (Option.some.inj hf) rfl rfl dX0_markOf_91
    replace hf := (if_neg hs3).symm.trans hf
    rcases Decidable.em (x2 = (4 : Int32)) with hs4 | hs4
    · replace hf := (if_pos hs4).symm.trans hf
      refine y_tsw C (off := 78) 92 hs4 dX0_markOf_14 (by decide) (by decide) (by decide) (by decide) ?_
      refine y_iconst C (v := 0) dX0_markOf_92 (by decide) ?_
      refine y_bipush C (v := 7) dX0_markOf_93 (by decide) ?_
      refine y_aload_n C dX0_markOf_95 rfl 0 rfl ?_
      refine g6_seat C fl_X0_9 dX0_markOf_96 ?_
      refine y_iload_n C dX0_markOf_99 rfl 1 rfl ?_
      obtain ⟨hi5, hf⟩ := ck_e hf
      refine y_ialdC C a25 (j := x1.toNatClampNeg) rfl hi5 dX0_markOf_100 ?_
      refine y_isub C dX0_markOf_101 ?_
      refine y_cSi C (kJ9_max_7cf53 l E σ τ (0 : Int32) ((7 : Int32) - (gM σ 25 x1.toNatClampNeg)) _ rfl) si_J9_max_7cf53 ml_X0_126 rfl ⟨rfl, rfl, Nat.le_of_ble_eq_true rfl, Nat.le_of_ble_eq_true rfl⟩ dX0_markOf_102 rfl (Nat.le_of_ble_eq_true rfl) ?_
      exact y_iret C (Option.some.inj hf) rfl rfl dX0_markOf_105
    replace hf := (if_neg hs4).symm.trans hf
    have hsn1 := lv_neT hs1 (a := 1) (by decide)
    have hsn2 := lv_neT hs2 (a := 2) (by decide)
    have hsn3 := lv_neT hs3 (a := 3) (by decide)
    have hsn4 := lv_neT hs4 (a := 4) (by decide)
    refine y_tswD C 106 dX0_markOf_14 (by omega) (by decide) ?_
    refine y_aload_n C dX0_markOf_106 rfl 0 rfl ?_
    refine g6_script C fl_X0_18 dX0_markOf_107 ?_
    refine y_iload_n C dX0_markOf_110 rfl 1 rfl ?_
    refine y_aload_n C dX0_markOf_111 rfl 0 rfl ?_
    refine g6_called C fl_X0_38 dX0_markOf_112 ?_
    refine y_cVi C (kX1_otherClaques_5 l E σ τ x1 (gI σ 14) _ rfl) vi_X1_otherClaques ml_X0_112 ⟨1, _, o5, rfl, rfl⟩ rfl ⟨rfl, rfl, Nat.le_of_ble_eq_true rfl, Nat.le_of_ble_eq_true rfl⟩ dX0_markOf_115 rfl (Nat.le_of_ble_eq_true rfl) ?_
    exact y_iret C (Option.some.inj hf) rfl rfl dX0_markOf_118
  · refine y_iconst C (v := -1) dX0_markOf_11 (by decide) ?_
    exact y_iret C (Option.some.inj hf) rfl rfl dX0_markOf_12
noncomputable def fX4_mark_0 (x1 : Int32) (x2 : Int32) (σ : QS) : Option (Int32 × QS) :=
    (if (fX1_isSitter_5 x1 σ) = 0 then some ((-1 : Int32), σ) else (if x2 ≤ 0 then some ((-1 : Int32), σ) else (if x2 < (6 : Int32) then ck_ (inb x1 6) ((if (fX4_isOfKind (gM σ 21 x1.toNatClampNeg) x2) = 0 then Option.bind (fX4_refuse_0 (3 : Int32) σ) (fun (q2 : Int32 × QS) => some (q2.1, q2.2)) else Option.bind (fX0_markOf_6 x1 x2 σ) (fun (q3 : Int32) => some (q3, σ)))) else some ((-1 : Int32), σ))))
def rm_X4_mark_0 : Room := { frames := 6, cells := 0, slots := 0, locals := 139 }
set_option maxRecDepth 100000 in
set_option maxHeartbeats 4000000 in
theorem kX4_mark_0 (l : Launch) (E : QE) (σ τ : QS) (x1 : Int32) (x2 : Int32) (q : Int32 × QS) (hf : fX4_mark_0 x1 x2 σ = some q) : KQ l yX4_mark cX4_mark 3 (some .int) rm_X4_mark_0 E [.ref (qAd E 0), .int x1, .int x2] σ τ (PI E q.1 q.2 τ) := by
  unfold fX4_mark_0 at hf
  refine y_met rfl (Nat.le_of_ble_eq_true rfl) rfl (fun p e s m below meth c C => ?_)
  refine y_aload_n C dX4_mark_0 rfl 0 rfl ?_
  refine g0_script C fl_X4_31 dX4_mark_1 ?_
  refine y_iload_n C dX4_mark_4 rfl 1 rfl ?_
  refine y_cVi C (kX1_isSitter_5 l E σ τ x1 _ rfl) vi_X1_isSitter ml_X4_118 ⟨1, _, o5, rfl, rfl⟩ rfl ⟨rfl, rfl, Nat.le_of_ble_eq_true rfl, Nat.le_of_ble_eq_true rfl⟩ dX4_mark_5 rfl (Nat.le_of_ble_eq_true rfl) ?_
  refine y_if_eq C 21 dX4_mark_8 (by decide) hf (fun hf => ?_) (fun hf => ?_)
  · refine y_iconst C (v := -1) dX4_mark_21 (by decide) ?_
    exact y_iret C (rs1 hf) (rs2 hf) rfl dX4_mark_22
  · refine y_iload_n C dX4_mark_11 rfl 2 rfl ?_
    refine y_if_le C 21 dX4_mark_12 (by decide) hf (fun hf => ?_) (fun hf => ?_)
    · refine y_iconst C (v := -1) dX4_mark_21 (by decide) ?_
      exact y_iret C (rs1 hf) (rs2 hf) rfl dX4_mark_22
    · refine y_iload_n C dX4_mark_15 rfl 2 rfl ?_
      refine y_bipush C (v := 6) dX4_mark_16 (by decide) ?_
      refine y_icmp_lt C 23 dX4_mark_18 (by decide) hf (fun hf => ?_) (fun hf => ?_)
      · refine y_aload_n C dX4_mark_23 rfl 0 rfl ?_
        refine g0_script C fl_X4_31 dX4_mark_24 ?_
        refine gN5_kind C fn_X4_124 dX4_mark_27 ?_
        refine y_iload_n C dX4_mark_30 rfl 1 rfl ?_
        obtain ⟨hi1, hf⟩ := ck_e hf
        refine y_ialdC C a21 (j := x1.toNatClampNeg) rfl hi1 dX4_mark_31 ?_
        refine y_iload_n C dX4_mark_32 rfl 2 rfl ?_
        refine y_cSi C (kX4_isOfKind l E σ τ (gM σ 21 x1.toNatClampNeg) x2 _ rfl) si_X4_isOfKind ml_X4_127 rfl ⟨rfl, rfl, Nat.le_of_ble_eq_true rfl, Nat.le_of_ble_eq_true rfl⟩ dX4_mark_33 rfl (Nat.le_of_ble_eq_true rfl) ?_
        refine y_if_eq C 51 dX4_mark_36 (by decide) hf (fun hf => ?_) (fun hf => ?_)
        · refine y_aload_n C dX4_mark_51 rfl 0 rfl ?_
          refine y_iconst C (v := 3) dX4_mark_52 (by decide) ?_
          obtain ⟨q2, h_q2, hf⟩ := bd_e hf
          refine y_cVi C (kX4_refuse_0 l E σ τ (3 : Int32) _ h_q2) vi_X4_refuse ml_X4_64 ⟨4, _, o0, rfl, rfl⟩ rfl ⟨rfl, rfl, Nat.le_of_ble_eq_true rfl, Nat.le_of_ble_eq_true rfl⟩ dX4_mark_53 rfl (Nat.le_of_ble_eq_true rfl) ?_
          exact y_iret C (rs1 hf) (rs2 hf) rfl dX4_mark_56
        · refine y_aload_n C dX4_mark_39 rfl 0 rfl ?_
          refine g0_night C fl_X4_39 dX4_mark_40 ?_
          refine y_iload_n C dX4_mark_43 rfl 1 rfl ?_
          refine y_iload_n C dX4_mark_44 rfl 2 rfl ?_
          obtain ⟨q3, h_q3, hf⟩ := bd_e hf
          refine y_cVi C (kX0_markOf_6 l E σ τ x1 x2 _ h_q3) vi_X0_markOf ml_X4_131 ⟨0, _, o6, rfl, rfl⟩ rfl ⟨rfl, rfl, Nat.le_of_ble_eq_true rfl, Nat.le_of_ble_eq_true rfl⟩ dX4_mark_45 rfl (Nat.le_of_ble_eq_true rfl) ?_
          refine y_goto C 56 dX4_mark_48 (by decide) ?_
          exact y_iret C (rs1 hf) (rs2 hf) rfl dX4_mark_56
      · refine y_iconst C (v := -1) dX4_mark_21 (by decide) ?_
        exact y_iret C (rs1 hf) (rs2 hf) rfl dX4_mark_22
noncomputable def fX5_isOf_50 (x1 : Int32) (x2 : Int32) (τ : QS) : Option (Int32) :=
    ck_ (inb x1 6) ((if (gM τ 53 x1.toNatClampNeg) = x2 then some (1 : Int32) else lt_ (fun (_ : Unit) => (if x2 = (3 : Int32) then ck_ (inb x1 6) ((if (fX5_isUncle (gM τ 53 x1.toNatClampNeg)) = 0 then some (0 : Int32) else some (1 : Int32))) else some (0 : Int32))) (fun (j2 : Unit → Option (Int32)) => (if x2 = (1 : Int32) then ck_ (inb x1 6) ((if (fX5_isClerk (gM τ 53 x1.toNatClampNeg)) = 0 then j2 () else some (1 : Int32))) else j2 ()))))
def rm_X5_isOf_50 : Room := { frames := 2, cells := 0, slots := 0, locals := 40 }
set_option maxRecDepth 100000 in
set_option maxHeartbeats 4000000 in
theorem kX5_isOf_50 (l : Launch) (E : QE) (σ τ : QS) (x1 : Int32) (x2 : Int32) (q : Int32) (hf : fX5_isOf_50 x1 x2 τ = some q) : KQ l yX5_isOf cX5_isOf 3 (some .boolean) rm_X5_isOf_50 E [.ref (qAd E 50), .int x1, .int x2] σ τ (PI E q σ τ) := by
  unfold fX5_isOf_50 at hf
  refine y_met rfl (Nat.le_of_ble_eq_true rfl) rfl (fun p e s m below meth c C => ?_)
  refine y_aload_n C dX5_isOf_0 rfl 0 rfl ?_
  refine g50_kinds C fl_X5_16 dX5_isOf_1 ?_
  refine y_iload_n C dX5_isOf_4 rfl 1 rfl ?_
  obtain ⟨hi1, hf⟩ := ck_e hf
  refine y_ialdR C a53 (j := x1.toNatClampNeg) rfl hi1 dX5_isOf_5 ?_
  refine y_iload_n C dX5_isOf_6 rfl 2 rfl ?_
  refine y_icmp_eq C 44 dX5_isOf_7 (by decide) hf (fun hf => ?_) (fun hf => ?_)
  · refine y_iconst C (v := 1) dX5_isOf_44 (by decide) ?_
    refine y_goto C 49 dX5_isOf_45 (by decide) ?_
    exact y_zret C zOk1 (Option.some.inj hf) rfl rfl dX5_isOf_49
  · refine y_iload_n C dX5_isOf_10 rfl 2 rfl ?_
    refine y_iconst C (v := 1) dX5_isOf_11 (by decide) ?_
    obtain ⟨j2, ek_j2, hf⟩ := lt_e hf
    have h_j2 : ∀ (_ : Unit), j2 () = some q → Y E p l e rm_X5_isOf_50 s m ([.ref (qAd E 50), .int x1, .int x2] : List Value).toArray below meth c 3 (MQ below (PI E q σ τ) ([.ref (qAd E 50), .int x1, .int x2] : List Value).toArray s 0 0 (qA E)) σ τ 27 [(0, .ref (qAd E 50)), (1, .int x1), (2, .int x2)] [] := by
      intro _ hf
      replace hf := (congrFun (ek_j2) ()).symm.trans hf
      refine y_iload_n C dX5_isOf_27 rfl 2 rfl ?_
      refine y_iconst C (v := 3) dX5_isOf_28 (by decide) ?_
      refine y_icmp_ne C 48 dX5_isOf_29 (by decide) hf (fun hf => ?_) (fun hf => ?_)
      · refine y_iconst C (v := 0) dX5_isOf_48 (by decide) ?_
        exact y_zret C zOk0 (Option.some.inj hf) rfl rfl dX5_isOf_49
      · refine y_aload_n C dX5_isOf_32 rfl 0 rfl ?_
        refine g50_kinds C fl_X5_16 dX5_isOf_33 ?_
        refine y_iload_n C dX5_isOf_36 rfl 1 rfl ?_
        obtain ⟨hi3, hf⟩ := ck_e hf
        refine y_ialdR C a53 (j := x1.toNatClampNeg) rfl hi3 dX5_isOf_37 ?_
        refine y_cSi C (kX5_isUncle l E σ τ (gM τ 53 x1.toNatClampNeg) _ rfl) si_X5_isUncle ml_X5_166 rfl ⟨rfl, rfl, Nat.le_of_ble_eq_true rfl, Nat.le_of_ble_eq_true rfl⟩ dX5_isOf_38 rfl (Nat.le_of_ble_eq_true rfl) ?_
        refine y_if_eq C 48 dX5_isOf_41 (by decide) hf (fun hf => ?_) (fun hf => ?_)
        · refine y_iconst C (v := 0) dX5_isOf_48 (by decide) ?_
          exact y_zret C zOk0 (Option.some.inj hf) rfl rfl dX5_isOf_49
        · refine y_iconst C (v := 1) dX5_isOf_44 (by decide) ?_
          refine y_goto C 49 dX5_isOf_45 (by decide) ?_
          exact y_zret C zOk1 (Option.some.inj hf) rfl rfl dX5_isOf_49
    refine y_icmp_ne C 27 dX5_isOf_12 (by decide) hf (fun hf => ?_) (fun hf => ?_)
    · refine y_sub [0, 1, 2] rfl ?_
      exact h_j2 () hf
    · refine y_aload_n C dX5_isOf_15 rfl 0 rfl ?_
      refine g50_kinds C fl_X5_16 dX5_isOf_16 ?_
      refine y_iload_n C dX5_isOf_19 rfl 1 rfl ?_
      obtain ⟨hi4, hf⟩ := ck_e hf
      refine y_ialdR C a53 (j := x1.toNatClampNeg) rfl hi4 dX5_isOf_20 ?_
      refine y_cSi C (kX5_isClerk l E σ τ (gM τ 53 x1.toNatClampNeg) _ rfl) si_X5_isClerk ml_X5_176 rfl ⟨rfl, rfl, Nat.le_of_ble_eq_true rfl, Nat.le_of_ble_eq_true rfl⟩ dX5_isOf_21 rfl (Nat.le_of_ble_eq_true rfl) ?_
      refine y_if_ne C 44 dX5_isOf_24 (by decide) hf (fun hf => ?_) (fun hf => ?_)
      · refine y_iconst C (v := 1) dX5_isOf_44 (by decide) ?_
        refine y_goto C 49 dX5_isOf_45 (by decide) ?_
        exact y_zret C zOk1 (Option.some.inj hf) rfl rfl dX5_isOf_49
      · refine y_sub [0, 1, 2] rfl ?_
        exact h_j2 () hf
noncomputable def fX5_easyScenes_50 (x1 : Int32) (τ : QS) : Option (Int32) :=
    lt_ (gM τ 51 1) (fun (v1 : Int32) => lp_ (fun (r3 : Int32 × Int32 → Option (Int32)) (a2 : Int32 × Int32) => (if (gI τ 0) ≤ a2.2 then some a2.1 else ck_ (inb a2.2 6) (Option.bind (fX5_saysNow_50 x1 τ) (fun (q5 : Int32) => (if q5 < (gM τ 52 a2.2.toNatClampNeg) then lt_ (a2.1 + (0 : Int32)) (fun (v6 : Int32) => r3 (v6, (a2.2 + (1 : Int32)))) else lt_ (a2.1 + (1 : Int32)) (fun (v7 : Int32) => r3 (v7, (a2.2 + (1 : Int32))))))))) FV ((0 : Int32), v1))
def rm_X5_easyScenes_50 : Room := { frames := 5, cells := 0, slots := 0, locals := 112 }
set_option maxRecDepth 100000 in
set_option maxHeartbeats 4000000 in
theorem kX5_easyScenes_50 (l : Launch) (E : QE) (σ τ : QS) (x1 : Int32) (q : Int32) (hf : fX5_easyScenes_50 x1 τ = some q) : KQ l yX5_easyScenes cX5_easyScenes 4 (some .int) rm_X5_easyScenes_50 E [.ref (qAd E 50), .int x1] σ τ (PI E q σ τ) := by
  unfold fX5_easyScenes_50 at hf
  refine y_met rfl (Nat.le_of_ble_eq_true rfl) rfl (fun p e s m below meth c C => ?_)
  refine y_iconst C (v := 0) dX5_easyScenes_0 (by decide) ?_
  refine y_istore_n C dX5_easyScenes_1 rfl (Nat.le_of_ble_eq_true rfl) rfl (lv' := [(2, .int (0 : Int32)), (0, .ref (qAd E 50)), (1, .int x1)]) rfl ?_
  refine y_aload_n C dX5_easyScenes_2 rfl 1 rfl ?_
  refine g50_row C fl_X5_7 dX5_easyScenes_3 ?_
  refine y_iconst C (v := 1) dX5_easyScenes_6 (by decide) ?_
  refine y_ialdR C a51 (j := 1) (by decide) (by decide) dX5_easyScenes_7 ?_
  obtain ⟨v1, e_v1, hf⟩ := lt_e hf
  refine y_istore_n C dX5_easyScenes_8 rfl (Nat.le_of_ble_eq_true rfl) e_v1 (lv' := [(3, .int v1), (2, .int (0 : Int32)), (0, .ref (qAd E 50)), (1, .int x1)]) rfl ?_
  refine y_sub [0, 1, 2, 3] rfl ?_
  refine lp_ind (P := fun a2 : Int32 × Int32 => Y E p l e rm_X5_easyScenes_50 s m ([.ref (qAd E 50), .int x1] : List Value).toArray below meth c 4 (MQ below (PI E q σ τ) ([.ref (qAd E 50), .int x1] : List Value).toArray s 0 0 (qA E)) σ τ 9 [(3, .int a2.2), (2, .int a2.1), (0, .ref (qAd E 50)), (1, .int x1)] []) (fun r3 a2 ih_r3 hf => ?_) _ _ hf
  refine y_iload_n C dX5_easyScenes_9 rfl 0 rfl ?_
  refine y_aload_n C dX5_easyScenes_10 rfl 2 rfl ?_
  refine g50_scenes C fl_X5_160 dX5_easyScenes_11 ?_
  refine y_icmp_ge C 45 dX5_easyScenes_14 (by decide) hf (fun hf => ?_) (fun hf => ?_)
  · refine y_iload_n C dX5_easyScenes_45 rfl 1 rfl ?_
    exact y_iret C (Option.some.inj hf) rfl rfl dX5_easyScenes_46
  · refine y_iload_n C dX5_easyScenes_17 rfl 1 rfl ?_
    refine y_aload_n C dX5_easyScenes_18 rfl 2 rfl ?_
    refine g50_lines C fl_X5_13 dX5_easyScenes_19 ?_
    refine y_iload_n C dX5_easyScenes_22 rfl 0 rfl ?_
    obtain ⟨hi4, hf⟩ := ck_e hf
    refine y_ialdR C a52 (j := a2.2.toNatClampNeg) rfl hi4 dX5_easyScenes_23 ?_
    refine y_aload_n C dX5_easyScenes_24 rfl 2 rfl ?_
    refine y_iload_n C dX5_easyScenes_25 rfl 3 rfl ?_
    obtain ⟨q5, h_q5, hf⟩ := bd_e hf
    refine y_cVi C (kX5_saysNow_50 l E σ τ x1 _ h_q5) vi_X5_saysNow ml_X5_192 ⟨5, _, o50, rfl, rfl⟩ rfl ⟨rfl, rfl, Nat.le_of_ble_eq_true rfl, Nat.le_of_ble_eq_true rfl⟩ dX5_easyScenes_26 rfl (Nat.le_of_ble_eq_true rfl) ?_
    refine y_icmp_gt C 36 dX5_easyScenes_29 (by decide) hf (fun hf => ?_) (fun hf => ?_)
    · refine y_iconst C (v := 0) dX5_easyScenes_36 (by decide) ?_
      refine y_iadd C dX5_easyScenes_37 ?_
      obtain ⟨v6, e_v6, hf⟩ := lt_e hf
      refine y_istore_n C dX5_easyScenes_38 rfl (Nat.le_of_ble_eq_true rfl) e_v6 (lv' := [(2, .int v6), (3, .int a2.2), (0, .ref (qAd E 50)), (1, .int x1)]) rfl ?_
      refine y_iinc C dX5_easyScenes_39 1 rfl (Nat.le_of_ble_eq_true rfl) (k2 := 1) (by decide) rfl (lv' := [(3, .int (a2.2 + (1 : Int32))), (2, .int v6), (0, .ref (qAd E 50)), (1, .int x1)]) rfl ?_
      refine y_goto C 9 dX5_easyScenes_42 (by decide) ?_
      refine y_sub [0, 1, 2, 3] rfl ?_
      exact ih_r3 (v6, (a2.2 + (1 : Int32))) hf
    · refine y_iconst C (v := 1) dX5_easyScenes_32 (by decide) ?_
      refine y_goto C 37 dX5_easyScenes_33 (by decide) ?_
      refine y_iadd C dX5_easyScenes_37 ?_
      obtain ⟨v7, e_v7, hf⟩ := lt_e hf
      refine y_istore_n C dX5_easyScenes_38 rfl (Nat.le_of_ble_eq_true rfl) e_v7 (lv' := [(2, .int v7), (3, .int a2.2), (0, .ref (qAd E 50)), (1, .int x1)]) rfl ?_
      refine y_iinc C dX5_easyScenes_39 1 rfl (Nat.le_of_ble_eq_true rfl) (k2 := 1) (by decide) rfl (lv' := [(3, .int (a2.2 + (1 : Int32))), (2, .int v7), (0, .ref (qAd E 50)), (1, .int x1)]) rfl ?_
      refine y_goto C 9 dX5_easyScenes_42 (by decide) ?_
      refine y_sub [0, 1, 2, 3] rfl ?_
      exact ih_r3 (v7, (a2.2 + (1 : Int32))) hf
