noncomputable def fX5_evenOthers_50 (x1 : Int32) (τ : QS) : Option (Int32) :=
    lp_ (fun (r2 : Int32 × Int32 → Option (Int32)) (a1 : Int32 × Int32) => (if (gI τ 1) ≤ a1.2 then some a1.1 else (if a1.2 = x1 then lt_ (a1.1 + (0 : Int32)) (fun (v3 : Int32) => r2 (v3, (a1.2 + (1 : Int32)))) else ck_ (inb ((7 : Int32) + a1.2) 1972) ((if ((gM τ 51 (((7 : Int32) + a1.2).toNatClampNeg)) - (gM τ 51 (((7 : Int32) + a1.2).toNatClampNeg)) / (2 : Int32) * (2 : Int32)) = 0 then lt_ (a1.1 + (1 : Int32)) (fun (v6 : Int32) => r2 (v6, (a1.2 + (1 : Int32)))) else lt_ (a1.1 + (0 : Int32)) (fun (v5 : Int32) => r2 (v5, (a1.2 + (1 : Int32))))))))) FV ((0 : Int32), (0 : Int32))
def rm_X5_evenOthers_50 : Room := { frames := 0, cells := 0, slots := 0, locals := 0 }
set_option maxRecDepth 100000 in
set_option maxHeartbeats 4000000 in
theorem kX5_evenOthers_50 (l : Launch) (E : QE) (σ τ : QS) (x1 : Int32) (q : Int32) (hf : fX5_evenOthers_50 x1 τ = some q) : KQ l yX5_evenOthers cX5_evenOthers 4 (some .int) rm_X5_evenOthers_50 E [.ref (qAd E 50), .int x1] σ τ (PI E q σ τ) := by
  unfold fX5_evenOthers_50 at hf
  refine y_met rfl (Nat.le_of_ble_eq_true rfl) rfl (fun p e s m below meth c C => ?_)
  refine y_iconst C (v := 0) dX5_evenOthers_0 (by decide) ?_
  refine y_istore_n C dX5_evenOthers_1 rfl (Nat.le_of_ble_eq_true rfl) rfl (lv' := [(2, .int (0 : Int32)), (0, .ref (qAd E 50)), (1, .int x1)]) rfl ?_
  refine y_iconst C (v := 0) dX5_evenOthers_2 (by decide) ?_
  refine y_istore_n C dX5_evenOthers_3 rfl (Nat.le_of_ble_eq_true rfl) rfl (lv' := [(3, .int (0 : Int32)), (2, .int (0 : Int32)), (0, .ref (qAd E 50)), (1, .int x1)]) rfl ?_
  refine y_sub [0, 1, 2, 3] rfl ?_
  refine lp_ind (P := fun a1 : Int32 × Int32 => Y E p l e rm_X5_evenOthers_50 s m ([.ref (qAd E 50), .int x1] : List Value).toArray below meth c 4 (MQ below (PI E q σ τ) ([.ref (qAd E 50), .int x1] : List Value).toArray s 0 0 (qA E)) σ τ 4 [(3, .int a1.2), (2, .int a1.1), (0, .ref (qAd E 50)), (1, .int x1)] []) (fun r2 a1 ih_r2 hf => ?_) _ _ hf
  refine y_iload_n C dX5_evenOthers_4 rfl 0 rfl ?_
  refine y_aload_n C dX5_evenOthers_5 rfl 2 rfl ?_
  refine g50_sitters C fl_X5_163 dX5_evenOthers_6 ?_
  refine y_icmp_ge C 45 dX5_evenOthers_9 (by decide) hf (fun hf => ?_) (fun hf => ?_)
  · refine y_iload_n C dX5_evenOthers_45 rfl 1 rfl ?_
    exact y_iret C (Option.some.inj hf) rfl rfl dX5_evenOthers_46
  · refine y_iload_n C dX5_evenOthers_12 rfl 1 rfl ?_
    refine y_iload_n C dX5_evenOthers_13 rfl 0 rfl ?_
    refine y_iload_n C dX5_evenOthers_14 rfl 3 rfl ?_
    refine y_icmp_eq C 36 dX5_evenOthers_15 (by decide) hf (fun hf => ?_) (fun hf => ?_)
    · refine y_iconst C (v := 0) dX5_evenOthers_36 (by decide) ?_
      refine y_iadd C dX5_evenOthers_37 ?_
      obtain ⟨v3, e_v3, hf⟩ := lt_e hf
      refine y_istore_n C dX5_evenOthers_38 rfl (Nat.le_of_ble_eq_true rfl) e_v3 (lv' := [(2, .int v3), (3, .int a1.2), (0, .ref (qAd E 50)), (1, .int x1)]) rfl ?_
      refine y_iinc C dX5_evenOthers_39 1 rfl (Nat.le_of_ble_eq_true rfl) (k2 := 1) (by decide) rfl (lv' := [(3, .int (a1.2 + (1 : Int32))), (2, .int v3), (0, .ref (qAd E 50)), (1, .int x1)]) rfl ?_
      refine y_goto C 4 dX5_evenOthers_42 (by decide) ?_
      refine y_sub [0, 1, 2, 3] rfl ?_
      exact ih_r2 (v3, (a1.2 + (1 : Int32))) hf
    · refine y_aload_n C dX5_evenOthers_18 rfl 2 rfl ?_
      refine g50_row C fl_X5_7 dX5_evenOthers_19 ?_
      refine y_bipush C (v := 7) dX5_evenOthers_22 (by decide) ?_
      refine y_iload_n C dX5_evenOthers_24 rfl 0 rfl ?_
      refine y_iadd C dX5_evenOthers_25 ?_
      obtain ⟨hi4, hf⟩ := ck_e hf
      refine y_ialdR C a51 (j := ((7 : Int32) + a1.2).toNatClampNeg) rfl hi4 dX5_evenOthers_26 ?_
      refine y_iconst C (v := 2) dX5_evenOthers_27 (by decide) ?_
      refine y_irem C (by decide) dX5_evenOthers_28 ?_
      refine y_if_ne C 36 dX5_evenOthers_29 (by decide) hf (fun hf => ?_) (fun hf => ?_)
      · refine y_iconst C (v := 0) dX5_evenOthers_36 (by decide) ?_
        refine y_iadd C dX5_evenOthers_37 ?_
        obtain ⟨v5, e_v5, hf⟩ := lt_e hf
        refine y_istore_n C dX5_evenOthers_38 rfl (Nat.le_of_ble_eq_true rfl) e_v5 (lv' := [(2, .int v5), (3, .int a1.2), (0, .ref (qAd E 50)), (1, .int x1)]) rfl ?_
        refine y_iinc C dX5_evenOthers_39 1 rfl (Nat.le_of_ble_eq_true rfl) (k2 := 1) (by decide) rfl (lv' := [(3, .int (a1.2 + (1 : Int32))), (2, .int v5), (0, .ref (qAd E 50)), (1, .int x1)]) rfl ?_
        refine y_goto C 4 dX5_evenOthers_42 (by decide) ?_
        refine y_sub [0, 1, 2, 3] rfl ?_
        exact ih_r2 (v5, (a1.2 + (1 : Int32))) hf
      · refine y_iconst C (v := 1) dX5_evenOthers_32 (by decide) ?_
        refine y_goto C 37 dX5_evenOthers_33 (by decide) ?_
        refine y_iadd C dX5_evenOthers_37 ?_
        obtain ⟨v6, e_v6, hf⟩ := lt_e hf
        refine y_istore_n C dX5_evenOthers_38 rfl (Nat.le_of_ble_eq_true rfl) e_v6 (lv' := [(2, .int v6), (3, .int a1.2), (0, .ref (qAd E 50)), (1, .int x1)]) rfl ?_
        refine y_iinc C dX5_evenOthers_39 1 rfl (Nat.le_of_ble_eq_true rfl) (k2 := 1) (by decide) rfl (lv' := [(3, .int (a1.2 + (1 : Int32))), (2, .int v6), (0, .ref (qAd E 50)), (1, .int x1)]) rfl ?_
        refine y_goto C 4 dX5_evenOthers_42 (by decide) ?_
        refine y_sub [0, 1, 2, 3] rfl ?_
        exact ih_r2 (v6, (a1.2 + (1 : Int32))) hf
noncomputable def fX5_mark_50 (x1 : Int32) (x2 : Int32) (τ : QS) : Option (Int32 × QS) :=
    (if (fX5_isSitter_50 x1 τ) = 0 then some ((-1 : Int32), τ) else (if (fX5_in x2.toInt64 (1 : Int64) (5 : Int64)) = 0 then some ((-1 : Int32), τ) else Option.bind (fX5_isOf_50 x1 x2 τ) (fun (q1 : Int32) => (if q1 = 0 then Option.bind (fX5_find_50 (3 : Int32) τ) (fun (q8 : Int32 × QS) => some (q8.1, q8.2)) else (if x2 = (1 : Int32) then Option.bind (fX5_easyScenes_50 x1 τ) (fun (q2 : Int32) => some (q2, τ)) else (if x2 = (2 : Int32) then Option.bind (fX5_evenOthers_50 x1 τ) (fun (q3 : Int32) => some (q3, τ)) else (if x2 = (3 : Int32) then ck_ (inb x1 6) (Option.bind (fX5_toldOf_50 x1 (4 : Int32) τ) (fun (q5 : Int32) => some (((fX5_atLeast ((gM τ 55 x1.toNatClampNeg) - (gM τ 51 4))) - q5), τ))) else (if x2 = (4 : Int32) then ck_ (inb ((7 : Int32) + x1) 1972) (some ((fX5_atLeast ((7 : Int32) - (gM τ 51 (((7 : Int32) + x1).toNatClampNeg)))), τ)) else (Option.bind (fX5_claques_50 x1 (gM τ 51 6) τ) (fun (q7 : Int32) => some (q7, τ)))))))))))
def rm_X5_mark_50 : Room := { frames := 6, cells := 0, slots := 0, locals := 135 }
set_option maxRecDepth 100000 in
set_option maxHeartbeats 4000000 in
theorem kX5_mark_50 (l : Launch) (E : QE) (σ τ : QS) (x1 : Int32) (x2 : Int32) (q : Int32 × QS) (hf : fX5_mark_50 x1 x2 τ = some q) : KQ l yX5_mark cX5_mark 3 (some .int) rm_X5_mark_50 E [.ref (qAd E 50), .int x1, .int x2] σ τ (PI E q.1 σ q.2) := by
  unfold fX5_mark_50 at hf
  refine y_met rfl (Nat.le_of_ble_eq_true rfl) rfl (fun p e s m below meth c C => ?_)
  refine y_aload_n C dX5_mark_0 rfl 0 rfl ?_
  refine y_iload_n C dX5_mark_1 rfl 1 rfl ?_
  refine y_cVi C (kX5_isSitter_50 l E σ τ x1 _ rfl) vi_X5_isSitter ml_X5_198 ⟨5, _, o50, rfl, rfl⟩ rfl ⟨rfl, rfl, Nat.le_of_ble_eq_true rfl, Nat.le_of_ble_eq_true rfl⟩ dX5_mark_2 rfl (Nat.le_of_ble_eq_true rfl) ?_
  refine y_if_eq C 20 dX5_mark_5 (by decide) hf (fun hf => ?_) (fun hf => ?_)
  · refine y_iconst C (v := -1) dX5_mark_20 (by decide) ?_
    exact y_iret C (rs1 hf) rfl (rs2 hf) dX5_mark_21
  · refine y_iload_n C dX5_mark_8 rfl 2 rfl ?_
    refine y_i2l C dX5_mark_9 ?_
    refine y_lconst C (v := 1) dX5_mark_10 (by decide) ?_
    refine y_ldc2 C kl_X5_75 dX5_mark_11 ?_
    refine y_cSi C (kX5_in l E σ τ x2.toInt64 (1 : Int64) (5 : Int64) _ rfl) si_X5_in ml_X5_77 rfl ⟨rfl, rfl, Nat.le_of_ble_eq_true rfl, Nat.le_of_ble_eq_true rfl⟩ dX5_mark_14 rfl (Nat.le_of_ble_eq_true rfl) ?_
    refine y_if_ne C 22 dX5_mark_17 (by decide) hf (fun hf => ?_) (fun hf => ?_)
    · refine y_aload_n C dX5_mark_22 rfl 0 rfl ?_
      refine y_iload_n C dX5_mark_23 rfl 1 rfl ?_
      refine y_iload_n C dX5_mark_24 rfl 2 rfl ?_
      obtain ⟨q1, h_q1, hf⟩ := bd_e hf
      refine y_cVi C (kX5_isOf_50 l E σ τ x1 x2 _ h_q1) vi_X5_isOf ml_X5_206 ⟨5, _, o50, rfl, rfl⟩ rfl ⟨rfl, rfl, Nat.le_of_ble_eq_true rfl, Nat.le_of_ble_eq_true rfl⟩ dX5_mark_25 rfl (Nat.le_of_ble_eq_true rfl) ?_
      refine y_if_ne C 37 dX5_mark_28 (by decide) hf (fun hf => ?_) (fun hf => ?_)
      · refine y_iload_n C dX5_mark_37 rfl 2 rfl ?_
        rcases Decidable.em (x2 = (1 : Int32)) with hs1 | hs1
        · replace hf := (if_pos hs1).symm.trans hf
          refine y_tsw C (off := 30) 68 hs1 dX5_mark_38 (by decide) (by decide) (by decide) (by decide) ?_
          refine y_aload_n C dX5_mark_68 rfl 0 rfl ?_
          refine y_iload_n C dX5_mark_69 rfl 1 rfl ?_
          obtain ⟨q2, h_q2, hf⟩ := bd_e hf
          refine y_cVi C (kX5_easyScenes_50 l E σ τ x1 _ h_q2) vi_X5_easyScenes ml_X5_209 ⟨5, _, o50, rfl, rfl⟩ rfl ⟨rfl, rfl, Nat.le_of_ble_eq_true rfl, Nat.le_of_ble_eq_true rfl⟩ dX5_mark_70 rfl (Nat.le_of_ble_eq_true rfl) ?_
          exact y_iret C (rs1 hf) rfl (rs2 hf) dX5_mark_73
        replace hf := (if_neg hs1).symm.trans hf
        rcases Decidable.em (x2 = (2 : Int32)) with hs2 | hs2
        · replace hf := (if_pos hs2).symm.trans hf
          refine y_tsw C (off := 36) 74 hs2 dX5_mark_38 (by decide) (by decide) (by decide) (by decide) ?_
          refine y_aload_n C dX5_mark_74 rfl 0 rfl ?_
          refine y_iload_n C dX5_mark_75 rfl 1 rfl ?_
          obtain ⟨q3, h_q3, hf⟩ := bd_e hf
          refine y_cVi C (kX5_evenOthers_50 l E σ τ x1 _ h_q3) vi_X5_evenOthers ml_X5_212 ⟨5, _, o50, rfl, rfl⟩ rfl ⟨rfl, rfl, Nat.le_of_ble_eq_true rfl, Nat.le_of_ble_eq_true rfl⟩ dX5_mark_76 rfl (Nat.le_of_ble_eq_true rfl) ?_
          exact y_iret C (rs1 hf) rfl (rs2 hf) dX5_mark_79
        replace hf := (if_neg hs2).symm.trans hf
        rcases Decidable.em (x2 = (3 : Int32)) with hs3 | hs3
        · replace hf := (if_pos hs3).symm.trans hf
          refine y_tsw C (off := 42) 80 hs3 dX5_mark_38 (by decide) (by decide) (by decide) (by decide) ?_
          refine y_aload_n C dX5_mark_80 rfl 0 rfl ?_
          refine g50_frights C fl_X5_22 dX5_mark_81 ?_
          refine y_iload_n C dX5_mark_84 rfl 1 rfl ?_
          obtain ⟨hi4, hf⟩ := ck_e hf
          refine y_ialdR C a55 (j := x1.toNatClampNeg) rfl hi4 dX5_mark_85 ?_
          refine y_aload_n C dX5_mark_86 rfl 0 rfl ?_
          refine g50_row C fl_X5_7 dX5_mark_87 ?_
          refine y_iconst C (v := 4) dX5_mark_90 (by decide) ?_
          refine y_ialdR C a51 (j := 4) (by decide) (by decide) dX5_mark_91 ?_
          refine y_isub C dX5_mark_92 ?_
          refine y_cSi C (kX5_atLeast l E σ τ ((gM τ 55 x1.toNatClampNeg) - (gM τ 51 4)) _ rfl) si_X5_atLeast ml_X5_169 rfl ⟨rfl, rfl, Nat.le_of_ble_eq_true rfl, Nat.le_of_ble_eq_true rfl⟩ dX5_mark_93 rfl (Nat.le_of_ble_eq_true rfl) ?_
          refine y_aload_n C dX5_mark_96 rfl 0 rfl ?_
          refine y_iload_n C dX5_mark_97 rfl 1 rfl ?_
          refine y_iconst C (v := 4) dX5_mark_98 (by decide) ?_
          obtain ⟨q5, h_q5, hf⟩ := bd_e hf
          refine y_cVi C (kX5_toldOf_50 l E σ τ x1 (4 : Int32) _ h_q5) vi_X5_toldOf ml_X5_203 ⟨5, _, o50, rfl, rfl⟩ rfl ⟨rfl, rfl, Nat.le_of_ble_eq_true rfl, Nat.le_of_ble_eq_true rfl⟩ dX5_mark_99 rfl (Nat.le_of_ble_eq_true rfl) ?_
          refine y_isub C dX5_mark_102 ?_
          exact y_iret C (rs1 hf) rfl (rs2 hf) dX5_mark_103
        replace hf := (if_neg hs3).symm.trans hf
        rcases Decidable.em (x2 = (4 : Int32)) with hs4 | hs4
        · replace hf := (if_pos hs4).symm.trans hf
          refine y_tsw C (off := 66) 104 hs4 dX5_mark_38 (by decide) (by decide) (by decide) (by decide) ?_
          refine y_bipush C (v := 7) dX5_mark_104 (by decide) ?_
          refine y_aload_n C dX5_mark_106 rfl 0 rfl ?_
          refine g50_row C fl_X5_7 dX5_mark_107 ?_
          refine y_bipush C (v := 7) dX5_mark_110 (by decide) ?_
          refine y_iload_n C dX5_mark_112 rfl 1 rfl ?_
          refine y_iadd C dX5_mark_113 ?_
          obtain ⟨hi6, hf⟩ := ck_e hf
          refine y_ialdR C a51 (j := ((7 : Int32) + x1).toNatClampNeg) rfl hi6 dX5_mark_114 ?_
          refine y_isub C dX5_mark_115 ?_
          refine y_cSi C (kX5_atLeast l E σ τ ((7 : Int32) - (gM τ 51 (((7 : Int32) + x1).toNatClampNeg))) _ rfl) si_X5_atLeast ml_X5_169 rfl ⟨rfl, rfl, Nat.le_of_ble_eq_true rfl, Nat.le_of_ble_eq_true rfl⟩ dX5_mark_116 rfl (Nat.le_of_ble_eq_true rfl) ?_
          exact y_iret C (rs1 hf) rfl (rs2 hf) dX5_mark_119
        replace hf := (if_neg hs4).symm.trans hf
        have hsn1 := lv_neT hs1 (a := 1) (by decide)
        have hsn2 := lv_neT hs2 (a := 2) (by decide)
        have hsn3 := lv_neT hs3 (a := 3) (by decide)
        have hsn4 := lv_neT hs4 (a := 4) (by decide)
        refine y_tswD C 120 dX5_mark_38 (by omega) (by decide) ?_
        refine y_aload_n C dX5_mark_120 rfl 0 rfl ?_
        refine y_iload_n C dX5_mark_121 rfl 1 rfl ?_
        refine y_aload_n C dX5_mark_122 rfl 0 rfl ?_
        refine g50_row C fl_X5_7 dX5_mark_123 ?_
        refine y_bipush C (v := 6) dX5_mark_126 (by decide) ?_
        refine y_ialdR C a51 (j := 6) (by decide) (by decide) dX5_mark_128 ?_
        obtain ⟨q7, h_q7, hf⟩ := bd_e hf
        refine y_cVi C (kX5_claques_50 l E σ τ x1 (gM τ 51 6) _ h_q7) vi_X5_claques ml_X5_179 ⟨5, _, o50, rfl, rfl⟩ rfl ⟨rfl, rfl, Nat.le_of_ble_eq_true rfl, Nat.le_of_ble_eq_true rfl⟩ dX5_mark_129 rfl (Nat.le_of_ble_eq_true rfl) ?_
        exact y_iret C (rs1 hf) rfl (rs2 hf) dX5_mark_132
      · refine y_aload_n C dX5_mark_31 rfl 0 rfl ?_
        refine y_iconst C (v := 3) dX5_mark_32 (by decide) ?_
        obtain ⟨q8, h_q8, hf⟩ := bd_e hf
        refine y_cVi C (kX5_find_50 l E σ τ (3 : Int32) _ h_q8) vi_X5_find ml_X5_87 ⟨5, _, o50, rfl, rfl⟩ rfl ⟨rfl, rfl, Nat.le_of_ble_eq_true rfl, Nat.le_of_ble_eq_true rfl⟩ dX5_mark_33 rfl (Nat.le_of_ble_eq_true rfl) ?_
        exact y_iret C (rs1 hf) rfl (rs2 hf) dX5_mark_36
    · refine y_iconst C (v := -1) dX5_mark_20 (by decide) ?_
      exact y_iret C (rs1 hf) rfl (rs2 hf) dX5_mark_21
noncomputable def fX4_lines_0 (x1 : Int32) (σ : QS) : Option (Int32) :=
    (if x1 < 0 then some (-1 : Int32) else (if x1 < (gI σ 8) then ck_ (inb x1 6) (some (gM σ 20 x1.toNatClampNeg)) else some (-1 : Int32)))
def rm_X4_lines_0 : Room := { frames := 0, cells := 0, slots := 0, locals := 0 }
set_option maxRecDepth 100000 in
set_option maxHeartbeats 4000000 in
theorem kX4_lines_0 (l : Launch) (E : QE) (σ τ : QS) (x1 : Int32) (q : Int32) (hf : fX4_lines_0 x1 σ = some q) : KQ l yX4_lines cX4_lines 2 (some .int) rm_X4_lines_0 E [.ref (qAd E 0), .int x1] σ τ (PI E q σ τ) := by
  unfold fX4_lines_0 at hf
  refine y_met rfl (Nat.le_of_ble_eq_true rfl) rfl (fun p e s m below meth c C => ?_)
  refine y_iload_n C dX4_lines_0 rfl 1 rfl ?_
  refine y_if_lt C 15 dX4_lines_1 (by decide) hf (fun hf => ?_) (fun hf => ?_)
  · refine y_iconst C (v := -1) dX4_lines_15 (by decide) ?_
    refine y_goto C 28 dX4_lines_16 (by decide) ?_
    exact y_iret C (Option.some.inj hf) rfl rfl dX4_lines_28
  · refine y_iload_n C dX4_lines_4 rfl 1 rfl ?_
    refine y_aload_n C dX4_lines_5 rfl 0 rfl ?_
    refine g0_script C fl_X4_31 dX4_lines_6 ?_
    refine gN5_sceneCount C fn_X4_134 dX4_lines_9 ?_
    refine y_icmp_lt C 19 dX4_lines_12 (by decide) hf (fun hf => ?_) (fun hf => ?_)
    · refine y_aload_n C dX4_lines_19 rfl 0 rfl ?_
      refine g0_script C fl_X4_31 dX4_lines_20 ?_
      refine gN5_lineCount C fn_X4_137 dX4_lines_23 ?_
      refine y_iload_n C dX4_lines_26 rfl 1 rfl ?_
      obtain ⟨hi1, hf⟩ := ck_e hf
      refine y_ialdC C a20 (j := x1.toNatClampNeg) rfl hi1 dX4_lines_27 ?_
      exact y_iret C (Option.some.inj hf) rfl rfl dX4_lines_28
    · refine y_iconst C (v := -1) dX4_lines_15 (by decide) ?_
      refine y_goto C 28 dX4_lines_16 (by decide) ?_
      exact y_iret C (Option.some.inj hf) rfl rfl dX4_lines_28
noncomputable def fX5_lines_50 (x1 : Int32) (τ : QS) : Option (Int32) :=
    (if (fX5_in x1.toInt64 (0 : Int64) (((gI τ 0) - (1 : Int32)).toInt64)) = 0 then some (-1 : Int32) else ck_ (inb x1 6) (some (gM τ 52 x1.toNatClampNeg)))
def rm_X5_lines_50 : Room := { frames := 1, cells := 0, slots := 0, locals := 25 }
set_option maxRecDepth 100000 in
set_option maxHeartbeats 4000000 in
theorem kX5_lines_50 (l : Launch) (E : QE) (σ τ : QS) (x1 : Int32) (q : Int32) (hf : fX5_lines_50 x1 τ = some q) : KQ l yX5_lines cX5_lines 2 (some .int) rm_X5_lines_50 E [.ref (qAd E 50), .int x1] σ τ (PI E q σ τ) := by
  unfold fX5_lines_50 at hf
  refine y_met rfl (Nat.le_of_ble_eq_true rfl) rfl (fun p e s m below meth c C => ?_)
  refine y_iload_n C dX5_lines_0 rfl 1 rfl ?_
  refine y_i2l C dX5_lines_1 ?_
  refine y_lconst C (v := 0) dX5_lines_2 (by decide) ?_
  refine y_aload_n C dX5_lines_3 rfl 0 rfl ?_
  refine g50_scenes C fl_X5_160 dX5_lines_4 ?_
  refine y_iconst C (v := 1) dX5_lines_7 (by decide) ?_
  refine y_isub C dX5_lines_8 ?_
  refine y_i2l C dX5_lines_9 ?_
  refine y_cSi C (kX5_in l E σ τ x1.toInt64 (0 : Int64) (((gI τ 0) - (1 : Int32)).toInt64) _ rfl) si_X5_in ml_X5_77 rfl ⟨rfl, rfl, Nat.le_of_ble_eq_true rfl, Nat.le_of_ble_eq_true rfl⟩ dX5_lines_10 rfl (Nat.le_of_ble_eq_true rfl) ?_
  refine y_if_eq C 25 dX5_lines_13 (by decide) hf (fun hf => ?_) (fun hf => ?_)
  · refine y_iconst C (v := -1) dX5_lines_25 (by decide) ?_
    exact y_iret C (Option.some.inj hf) rfl rfl dX5_lines_26
  · refine y_aload_n C dX5_lines_16 rfl 0 rfl ?_
    refine g50_lines C fl_X5_13 dX5_lines_17 ?_
    refine y_iload_n C dX5_lines_20 rfl 1 rfl ?_
    obtain ⟨hi1, hf⟩ := ck_e hf
    refine y_ialdR C a52 (j := x1.toNatClampNeg) rfl hi1 dX5_lines_21 ?_
    refine y_goto C 26 dX5_lines_22 (by decide) ?_
    exact y_iret C (Option.some.inj hf) rfl rfl dX5_lines_26
noncomputable def fX0_scenesYet_6  (σ : QS) : Int32 :=
    ((gI σ 8) - (gI σ 13))
def rm_X0_scenesYet_6 : Room := { frames := 0, cells := 0, slots := 0, locals := 0 }
set_option maxRecDepth 100000 in
set_option maxHeartbeats 4000000 in
theorem kX0_scenesYet_6 (l : Launch) (E : QE) (σ τ : QS)  (q : Int32) (hf : fX0_scenesYet_6 σ = q) : KQ l yX0_scenesYet cX0_scenesYet 1 (some .int) rm_X0_scenesYet_6 E [.ref (qAd E 6)] σ τ (PI E q σ τ) := by
  unfold fX0_scenesYet_6 at hf
  refine y_met rfl (Nat.le_of_ble_eq_true rfl) rfl (fun p e s m below meth c C => ?_)
  refine y_aload_n C dX0_scenesYet_0 rfl 0 rfl ?_
  refine g6_script C fl_X0_18 dX0_scenesYet_1 ?_
  refine gN5_sceneCount C fn_X0_72 dX0_scenesYet_4 ?_
  refine y_aload_n C dX0_scenesYet_7 rfl 0 rfl ?_
  refine g6_scene C fl_X0_35 dX0_scenesYet_8 ?_
  refine y_isub C dX0_scenesYet_11 ?_
  exact y_iret C hf rfl rfl dX0_scenesYet_12
noncomputable def fX0_lackingNow_6 (x1 : Int32) (σ : QS) : Option (Int32) :=
    Option.bind (fX1_lacking_5 x1 (gI σ 13) (gI σ 14) (gI σ 17) σ) (fun (q1 : Int32) => some q1)
def rm_X0_lackingNow_6 : Room := { frames := 4, cells := 0, slots := 0, locals := 94 }
set_option maxRecDepth 100000 in
set_option maxHeartbeats 4000000 in
theorem kX0_lackingNow_6 (l : Launch) (E : QE) (σ τ : QS) (x1 : Int32) (q : Int32) (hf : fX0_lackingNow_6 x1 σ = some q) : KQ l yX0_lackingNow cX0_lackingNow 2 (some .int) rm_X0_lackingNow_6 E [.ref (qAd E 6), .int x1] σ τ (PI E q σ τ) := by
  unfold fX0_lackingNow_6 at hf
  refine y_met rfl (Nat.le_of_ble_eq_true rfl) rfl (fun p e s m below meth c C => ?_)
  refine y_aload_n C dX0_lackingNow_0 rfl 0 rfl ?_
  refine g6_script C fl_X0_18 dX0_lackingNow_1 ?_
  refine y_iload_n C dX0_lackingNow_4 rfl 1 rfl ?_
  refine y_aload_n C dX0_lackingNow_5 rfl 0 rfl ?_
  refine g6_scene C fl_X0_35 dX0_lackingNow_6 ?_
  refine y_aload_n C dX0_lackingNow_9 rfl 0 rfl ?_
  refine g6_called C fl_X0_38 dX0_lackingNow_10 ?_
  refine y_aload_n C dX0_lackingNow_13 rfl 0 rfl ?_
  refine g6_clapping C fl_X0_50 dX0_lackingNow_14 ?_
  obtain ⟨q1, h_q1, hf⟩ := bd_e hf
  refine y_cVi C (kX1_lacking_5 l E σ τ x1 (gI σ 13) (gI σ 14) (gI σ 17) _ h_q1) vi_X1_lacking ml_X0_64 ⟨1, _, o5, rfl, rfl⟩ rfl ⟨rfl, rfl, Nat.le_of_ble_eq_true rfl, Nat.le_of_ble_eq_true rfl⟩ dX0_lackingNow_17 rfl (Nat.le_of_ble_eq_true rfl) ?_
  exact y_iret C (Option.some.inj hf) rfl rfl dX0_lackingNow_20
noncomputable def fX0_playScene_6 (x1 : Int32) (σ : QS) : Option (QS) :=
    Option.bind (fX1_lacking_5 x1 (gI σ 13) (gI σ 14) (gI σ 17) σ) (fun (q1 : Int32) => lt_ (fun (S3 : QS) => lt_ (pI S3 14 ((gI S3 14) ||| ((1 : Int32) <<< (x1 &&& 31)))) (fun (S4 : QS) => some S4)) (fun (j2 : QS → Option (QS)) => (if (gI σ 15) < q1 then lt_ (pI σ 17 ((gI σ 17) - (1 : Int32))) (fun (S5 : QS) => j2 S5) else lt_ (pI σ 15 ((gI σ 15) - q1)) (fun (S6 : QS) => lt_ (pI S6 16 ((gI S6 16) + q1)) (fun (S7 : QS) => lt_ (fun (v9 : Int32) => lt_ (pI S7 17 ((gI S7 17) + v9)) (fun (S10 : QS) => lt_ (pI S10 18 ((gI S10 18) + (1 : Int32))) (fun (S11 : QS) => j2 S11))) (fun (j8 : Int32 → Option (QS)) => (if q1 = 0 then j8 (2 : Int32) else j8 (1 : Int32))))))))
def rm_X0_playScene_6 : Room := { frames := 4, cells := 0, slots := 0, locals := 94 }
set_option maxRecDepth 100000 in
set_option maxHeartbeats 4000000 in
theorem kX0_playScene_6 (l : Launch) (E : QE) (σ τ : QS) (x1 : Int32) (q : QS) (hf : fX0_playScene_6 x1 σ = some q) : KQ l yX0_playScene cX0_playScene 3 none rm_X0_playScene_6 E [.ref (qAd E 6), .int x1] σ τ (PV E q τ) := by
  unfold fX0_playScene_6 at hf
  refine y_met rfl (Nat.le_of_ble_eq_true rfl) rfl (fun p e s m below meth c C => ?_)
  refine y_aload_n C dX0_playScene_0 rfl 0 rfl ?_
  refine g6_script C fl_X0_18 dX0_playScene_1 ?_
  refine y_iload_n C dX0_playScene_4 rfl 1 rfl ?_
  refine y_aload_n C dX0_playScene_5 rfl 0 rfl ?_
  refine g6_scene C fl_X0_35 dX0_playScene_6 ?_
  refine y_aload_n C dX0_playScene_9 rfl 0 rfl ?_
  refine g6_called C fl_X0_38 dX0_playScene_10 ?_
  refine y_aload_n C dX0_playScene_13 rfl 0 rfl ?_
  refine g6_clapping C fl_X0_50 dX0_playScene_14 ?_
  obtain ⟨q1, h_q1, hf⟩ := bd_e hf
  refine y_cVi C (kX1_lacking_5 l E σ τ x1 (gI σ 13) (gI σ 14) (gI σ 17) _ h_q1) vi_X1_lacking ml_X0_64 ⟨1, _, o5, rfl, rfl⟩ rfl ⟨rfl, rfl, Nat.le_of_ble_eq_true rfl, Nat.le_of_ble_eq_true rfl⟩ dX0_playScene_17 rfl (Nat.le_of_ble_eq_true rfl) ?_
  refine y_istore_n C dX0_playScene_20 rfl (Nat.le_of_ble_eq_true rfl) rfl (lv' := [(2, .int q1), (0, .ref (qAd E 6)), (1, .int x1)]) rfl ?_
  refine y_iload_n C dX0_playScene_21 rfl 0 rfl ?_
  refine y_aload_n C dX0_playScene_22 rfl 1 rfl ?_
  refine g6_promptsLeft C fl_X0_44 dX0_playScene_23 ?_
  obtain ⟨j2, ek_j2, hf⟩ := lt_e hf
  have h_j2 : ∀ (S3 : QS), j2 S3 = some q → Y E p l e rm_X0_playScene_6 s m ([.ref (qAd E 6), .int x1] : List Value).toArray below meth c 3 (MQ below (PV E q τ) ([.ref (qAd E 6), .int x1] : List Value).toArray s 0 0 (qA E)) S3 τ 90 [(0, .ref (qAd E 6)), (1, .int x1)] [] := by
    intro S3 hf
    replace hf := (congrFun (ek_j2) S3).symm.trans hf
    refine y_aload_n C dX0_playScene_90 rfl 0 rfl ?_
    refine y_dup C dX0_playScene_91 rfl ?_
    refine g6_called C fl_X0_38 dX0_playScene_92 ?_
    refine y_iconst C (v := 1) dX0_playScene_95 (by decide) ?_
    refine y_iload_n C dX0_playScene_96 rfl 1 rfl ?_
    refine y_ishl C dX0_playScene_97 ?_
    refine y_ior C dX0_playScene_98 ?_
    obtain ⟨S4, e_S4, hf⟩ := lt_e hf
    refine p6_called C fl_X0_38 e_S4 dX0_playScene_99 ?_
    exact y_vret C (Option.some.inj hf) rfl dX0_playScene_102
  refine y_icmp_gt C 80 dX0_playScene_26 (by decide) hf (fun hf => ?_) (fun hf => ?_)
  · refine y_aload_n C dX0_playScene_80 rfl 1 rfl ?_
    refine y_dup C dX0_playScene_81 rfl ?_
    refine g6_clapping C fl_X0_50 dX0_playScene_82 ?_
    refine y_iconst C (v := 1) dX0_playScene_85 (by decide) ?_
    refine y_isub C dX0_playScene_86 ?_
    obtain ⟨S5, e_S5, hf⟩ := lt_e hf
    refine p6_clapping C fl_X0_50 e_S5 dX0_playScene_87 ?_
    refine y_sub [1, 2] rfl ?_
    exact h_j2 S5 hf
  · refine y_aload_n C dX0_playScene_29 rfl 1 rfl ?_
    refine y_dup C dX0_playScene_30 rfl ?_
    refine g6_promptsLeft C fl_X0_44 dX0_playScene_31 ?_
    refine y_iload_n C dX0_playScene_34 rfl 0 rfl ?_
    refine y_isub C dX0_playScene_35 ?_
    obtain ⟨S6, e_S6, hf⟩ := lt_e hf
    refine p6_promptsLeft C fl_X0_44 e_S6 dX0_playScene_36 ?_
    refine y_aload_n C dX0_playScene_39 rfl 1 rfl ?_
    refine y_dup C dX0_playScene_40 rfl ?_
    refine g6_shame C fl_X0_47 dX0_playScene_41 ?_
    refine y_iload_n C dX0_playScene_44 rfl 0 rfl ?_
    refine y_iadd C dX0_playScene_45 ?_
    obtain ⟨S7, e_S7, hf⟩ := lt_e hf
    refine p6_shame C fl_X0_47 e_S7 dX0_playScene_46 ?_
    refine y_aload_n C dX0_playScene_49 rfl 1 rfl ?_
    refine y_dup C dX0_playScene_50 rfl ?_
    refine g6_clapping C fl_X0_50 dX0_playScene_51 ?_
    refine y_iload_n C dX0_playScene_54 rfl 0 rfl ?_
    obtain ⟨j8, ek_j8, hf⟩ := lt_e hf
    have h_j8 : ∀ (v9 : Int32), j8 v9 = some q → Y E p l e rm_X0_playScene_6 s m ([.ref (qAd E 6), .int x1] : List Value).toArray below meth c 3 (MQ below (PV E q τ) ([.ref (qAd E 6), .int x1] : List Value).toArray s 0 0 (qA E)) S7 τ 63 [(0, .ref (qAd E 6)), (1, .int x1)] [.int v9, .int (gI S7 17), .ref (qAd E 6)] := by
      intro v9 hf
      replace hf := (congrFun (ek_j8) v9).symm.trans hf
      refine y_iadd C dX0_playScene_63 ?_
      obtain ⟨S10, e_S10, hf⟩ := lt_e hf
      refine p6_clapping C fl_X0_50 e_S10 dX0_playScene_64 ?_
      refine y_aload_n C dX0_playScene_67 rfl 0 rfl ?_
      refine y_dup C dX0_playScene_68 rfl ?_
      refine g6_carriedCount C fl_X0_53 dX0_playScene_69 ?_
      refine y_iconst C (v := 1) dX0_playScene_72 (by decide) ?_
      refine y_iadd C dX0_playScene_73 ?_
      obtain ⟨S11, e_S11, hf⟩ := lt_e hf
      refine p6_carriedCount C fl_X0_53 e_S11 dX0_playScene_74 ?_
      refine y_goto C 90 dX0_playScene_77 (by decide) ?_
      refine y_sub [0, 1] rfl ?_
      exact h_j2 S11 hf
    refine y_if_ne C 62 dX0_playScene_55 (by decide) hf (fun hf => ?_) (fun hf => ?_)
    · refine y_iconst C (v := 1) dX0_playScene_62 (by decide) ?_
      refine y_sub [1, 2] rfl ?_
      exact h_j8 (1 : Int32) hf
    · refine y_iconst C (v := 2) dX0_playScene_58 (by decide) ?_
      refine y_goto C 63 dX0_playScene_59 (by decide) ?_
      refine y_sub [1, 2] rfl ?_
      exact h_j8 (2 : Int32) hf
noncomputable def fX0_exchange_6 (x1 : Int32) (x2 : Int32) (σ : QS) : Option (QS) :=
    (if (fX1_isSitter_5 x1 σ) = 0 then some σ else (if (fX1_isSitter_5 x2 σ) = 0 then some σ else ck_ (inb x1 6) (lt_ (gM σ 25 x1.toNatClampNeg) (fun (v2 : Int32) => ck_ (inb x2 6) (ck_ (inb x1 6) (lt_ (pM σ 25 (upd (gM σ 25) x1.toNatClampNeg (gM σ 25 x2.toNatClampNeg))) (fun (S5 : QS) => ck_ (inb x2 6) (lt_ (pM S5 25 (upd (gM S5 25) x2.toNatClampNeg v2)) (fun (S7 : QS) => some S7)))))))))
def rm_X0_exchange_6 : Room := { frames := 1, cells := 0, slots := 0, locals := 21 }
set_option maxRecDepth 100000 in
set_option maxHeartbeats 4000000 in
theorem kX0_exchange_6 (l : Launch) (E : QE) (σ τ : QS) (x1 : Int32) (x2 : Int32) (q : QS) (hf : fX0_exchange_6 x1 x2 σ = some q) : KQ l yX0_exchange cX0_exchange 4 none rm_X0_exchange_6 E [.ref (qAd E 6), .int x1, .int x2] σ τ (PV E q τ) := by
  unfold fX0_exchange_6 at hf
  refine y_met rfl (Nat.le_of_ble_eq_true rfl) rfl (fun p e s m below meth c C => ?_)
  refine y_aload_n C dX0_exchange_0 rfl 0 rfl ?_
  refine g6_script C fl_X0_18 dX0_exchange_1 ?_
  refine y_iload_n C dX0_exchange_4 rfl 1 rfl ?_
  refine y_cVi C (kX1_isSitter_5 l E σ τ x1 _ rfl) vi_X1_isSitter ml_X0_68 ⟨1, _, o5, rfl, rfl⟩ rfl ⟨rfl, rfl, Nat.le_of_ble_eq_true rfl, Nat.le_of_ble_eq_true rfl⟩ dX0_exchange_5 rfl (Nat.le_of_ble_eq_true rfl) ?_
  refine y_if_eq C 48 dX0_exchange_8 (by decide) hf (fun hf => ?_) (fun hf => ?_)
  · exact y_vret C (Option.some.inj hf) rfl dX0_exchange_48
  · refine y_aload_n C dX0_exchange_11 rfl 0 rfl ?_
    refine g6_script C fl_X0_18 dX0_exchange_12 ?_
    refine y_iload_n C dX0_exchange_15 rfl 2 rfl ?_
    refine y_cVi C (kX1_isSitter_5 l E σ τ x2 _ rfl) vi_X1_isSitter ml_X0_68 ⟨1, _, o5, rfl, rfl⟩ rfl ⟨rfl, rfl, Nat.le_of_ble_eq_true rfl, Nat.le_of_ble_eq_true rfl⟩ dX0_exchange_16 rfl (Nat.le_of_ble_eq_true rfl) ?_
    refine y_if_eq C 48 dX0_exchange_19 (by decide) hf (fun hf => ?_) (fun hf => ?_)
    · exact y_vret C (Option.some.inj hf) rfl dX0_exchange_48
    · refine y_aload_n C dX0_exchange_22 rfl 0 rfl ?_
      refine g6_seat C fl_X0_9 dX0_exchange_23 ?_
      refine y_iload_n C dX0_exchange_26 rfl 1 rfl ?_
      obtain ⟨hi1, hf⟩ := ck_e hf
      refine y_ialdC C a25 (j := x1.toNatClampNeg) rfl hi1 dX0_exchange_27 ?_
      obtain ⟨v2, e_v2, hf⟩ := lt_e hf
      refine y_istore_n C dX0_exchange_28 rfl (Nat.le_of_ble_eq_true rfl) e_v2 (lv' := [(3, .int v2), (0, .ref (qAd E 6)), (1, .int x1), (2, .int x2)]) rfl ?_
      refine y_aload_n C dX0_exchange_29 rfl 1 rfl ?_
      refine g6_seat C fl_X0_9 dX0_exchange_30 ?_
      refine y_iload_n C dX0_exchange_33 rfl 2 rfl ?_
      refine y_aload_n C dX0_exchange_34 rfl 1 rfl ?_
      refine g6_seat C fl_X0_9 dX0_exchange_35 ?_
      refine y_iload_n C dX0_exchange_38 rfl 3 rfl ?_
      obtain ⟨hi3, hf⟩ := ck_e hf
      refine y_ialdC C a25 (j := x2.toNatClampNeg) rfl hi3 dX0_exchange_39 ?_
      obtain ⟨hi4, hf⟩ := ck_e hf
      obtain ⟨S5, e_S5, hf⟩ := lt_e hf
      refine y_iastC C a25 (j := x1.toNatClampNeg) rfl hi4 e_S5 dX0_exchange_40 ?_
      refine y_aload_n C dX0_exchange_41 rfl 1 rfl ?_
      refine g6_seat C fl_X0_9 dX0_exchange_42 ?_
      refine y_iload_n C dX0_exchange_45 rfl 3 rfl ?_
      refine y_iload_n C dX0_exchange_46 rfl 0 rfl ?_
      obtain ⟨hi6, hf⟩ := ck_e hf
      obtain ⟨S7, e_S7, hf⟩ := lt_e hf
      refine y_iastC C a25 (j := x2.toNatClampNeg) rfl hi6 e_S7 dX0_exchange_47 ?_
      exact y_vret C (Option.some.inj hf) rfl dX0_exchange_48
noncomputable def fX0_perform_6 (x1 : Int32) (σ : QS) : Option (QS) :=
    (if (gI σ 12) < (40 : Int32) then ck_ (inb (gI σ 12) 40) (lt_ (pM σ 26 (upd (gM σ 26) ((gI σ 12).toNatClampNeg) x1)) (fun (S2 : QS) => lt_ (pI S2 12 ((gI S2 12) + (1 : Int32))) (fun (S3 : QS) => (if x1 < (10 : Int32) then lt_ (fun (S5 : QS) => lt_ (pI S5 13 ((gI S5 13) + (1 : Int32))) (fun (S6 : QS) => some S6)) (fun (j4 : QS → Option (QS)) => (if x1 = (-9 : Int32) then j4 S3 else Option.bind (fX0_playScene_6 x1 S3) (fun (q7 : QS) => j4 q7))) else Option.bind (fX0_exchange_6 ((x1 - (10 : Int32)) / (6 : Int32)) ((x1 - (10 : Int32)) - (x1 - (10 : Int32)) / (6 : Int32) * (6 : Int32)) S3) (fun (q8 : QS) => some q8))))) else some σ)
def rm_X0_perform_6 : Room := { frames := 5, cells := 0, slots := 0, locals := 116 }
set_option maxRecDepth 100000 in
set_option maxHeartbeats 4000000 in
theorem kX0_perform_6 (l : Launch) (E : QE) (σ τ : QS) (x1 : Int32) (q : QS) (hf : fX0_perform_6 x1 σ = some q) : KQ l yX0_perform cX0_perform 2 none rm_X0_perform_6 E [.ref (qAd E 6), .int x1] σ τ (PV E q τ) := by
  unfold fX0_perform_6 at hf
  refine y_met rfl (Nat.le_of_ble_eq_true rfl) rfl (fun p e s m below meth c C => ?_)
  refine y_aload_n C dX0_perform_0 rfl 0 rfl ?_
  refine g6_deedCount C fl_X0_31 dX0_perform_1 ?_
  refine y_bipush C (v := 40) dX0_perform_4 (by decide) ?_
  refine y_icmp_lt C 10 dX0_perform_6 (by decide) hf (fun hf => ?_) (fun hf => ?_)
  · refine y_aload_n C dX0_perform_10 rfl 0 rfl ?_
    refine g6_deeds C fl_X0_15 dX0_perform_11 ?_
    refine y_aload_n C dX0_perform_14 rfl 0 rfl ?_
    refine g6_deedCount C fl_X0_31 dX0_perform_15 ?_
    refine y_iload_n C dX0_perform_18 rfl 1 rfl ?_
    obtain ⟨hi1, hf⟩ := ck_e hf
    obtain ⟨S2, e_S2, hf⟩ := lt_e hf
    refine y_iastC C a26 (j := (gI σ 12).toNatClampNeg) rfl hi1 e_S2 dX0_perform_19 ?_
    refine y_aload_n C dX0_perform_20 rfl 0 rfl ?_
    refine y_dup C dX0_perform_21 rfl ?_
    refine g6_deedCount C fl_X0_31 dX0_perform_22 ?_
    refine y_iconst C (v := 1) dX0_perform_25 (by decide) ?_
    refine y_iadd C dX0_perform_26 ?_
    obtain ⟨S3, e_S3, hf⟩ := lt_e hf
    refine p6_deedCount C fl_X0_31 e_S3 dX0_perform_27 ?_
    refine y_iload_n C dX0_perform_30 rfl 1 rfl ?_
    refine y_bipush C (v := 10) dX0_perform_31 (by decide) ?_
    refine y_icmp_lt C 55 dX0_perform_33 (by decide) hf (fun hf => ?_) (fun hf => ?_)
    · refine y_iload_n C dX0_perform_55 rfl 1 rfl ?_
      refine y_bipush C (v := -9) dX0_perform_56 (by decide) ?_
      obtain ⟨j4, ek_j4, hf⟩ := lt_e hf
      have h_j4 : ∀ (S5 : QS), j4 S5 = some q → Y E p l e rm_X0_perform_6 s m ([.ref (qAd E 6), .int x1] : List Value).toArray below meth c 2 (MQ below (PV E q τ) ([.ref (qAd E 6), .int x1] : List Value).toArray s 0 0 (qA E)) S5 τ 66 [(0, .ref (qAd E 6))] [] := by
        intro S5 hf
        replace hf := (congrFun (ek_j4) S5).symm.trans hf
        refine y_aload_n C dX0_perform_66 rfl 0 rfl ?_
        refine y_dup C dX0_perform_67 rfl ?_
        refine g6_scene C fl_X0_35 dX0_perform_68 ?_
        refine y_iconst C (v := 1) dX0_perform_71 (by decide) ?_
        refine y_iadd C dX0_perform_72 ?_
        obtain ⟨S6, e_S6, hf⟩ := lt_e hf
        refine p6_scene C fl_X0_35 e_S6 dX0_perform_73 ?_
        exact y_vret C (Option.some.inj hf) rfl dX0_perform_76
      refine y_icmp_eq C 66 dX0_perform_58 (by decide) hf (fun hf => ?_) (fun hf => ?_)
      · refine y_sub [0] rfl ?_
        exact h_j4 S3 hf
      · refine y_aload_n C dX0_perform_61 rfl 0 rfl ?_
        refine y_iload_n C dX0_perform_62 rfl 1 rfl ?_
        obtain ⟨q7, h_q7, hf⟩ := bd_e hf
        refine y_cVv C (kX0_playScene_6 l E S3 τ x1 _ h_q7) vi_X0_playScene ml_X0_60 ⟨0, _, o6, rfl, rfl⟩ rfl ⟨rfl, rfl, Nat.le_of_ble_eq_true rfl, Nat.le_of_ble_eq_true rfl⟩ dX0_perform_63 rfl (Nat.le_of_ble_eq_true rfl) ?_
        refine y_sub [0] rfl ?_
        exact h_j4 q7 hf
    · refine y_aload_n C dX0_perform_36 rfl 0 rfl ?_
      refine y_iload_n C dX0_perform_37 rfl 1 rfl ?_
      refine y_bipush C (v := 10) dX0_perform_38 (by decide) ?_
      refine y_isub C dX0_perform_40 ?_
      refine y_bipush C (v := 6) dX0_perform_41 (by decide) ?_
      refine y_idiv C (by decide) dX0_perform_43 ?_
      refine y_iload_n C dX0_perform_44 rfl 1 rfl ?_
      refine y_bipush C (v := 10) dX0_perform_45 (by decide) ?_
      refine y_isub C dX0_perform_47 ?_
      refine y_bipush C (v := 6) dX0_perform_48 (by decide) ?_
      refine y_irem C (by decide) dX0_perform_50 ?_
      obtain ⟨q8, h_q8, hf⟩ := bd_e hf
      refine y_cVv C (kX0_exchange_6 l E S3 τ ((x1 - (10 : Int32)) / (6 : Int32)) ((x1 - (10 : Int32)) - (x1 - (10 : Int32)) / (6 : Int32) * (6 : Int32)) _ h_q8) vi_X0_exchange ml_X0_56 ⟨0, _, o6, rfl, rfl⟩ rfl ⟨rfl, rfl, Nat.le_of_ble_eq_true rfl, Nat.le_of_ble_eq_true rfl⟩ dX0_perform_51 rfl (Nat.le_of_ble_eq_true rfl) ?_
      exact y_vret C (Option.some.inj hf) rfl dX0_perform_54
  · exact y_vret C (Option.some.inj hf) rfl dX0_perform_9
noncomputable def fX4_call_0 (x1 : Int32) (σ : QS) : Option (Int32 × QS) :=
    (if (fX1_isSitter_5 x1 σ) = 0 then some ((-1 : Int32), σ) else (if (fX0_scenesYet_6 σ) = 0 then some ((-4 : Int32), σ) else Option.bind (fX0_free_6 σ) (fun (q1 : Int32) => (if (fX4_isIn q1 x1) = 0 then some ((-4 : Int32), σ) else (if (gI σ 12) < (40 : Int32) then Option.bind (fX0_lackingNow_6 x1 σ) (fun (q2 : Int32) => lt_ (gI σ 18) (fun (v3 : Int32) => Option.bind (fX0_perform_6 x1 σ) (fun (q4 : QS) => lt_ (fX4_tell_0 q2 q4) (fun (q5 : Int32 × QS) => some (((gI q5.2 18) - v3), q5.2))))) else some ((-2 : Int32), σ))))))
def rm_X4_call_0 : Room := { frames := 6, cells := 0, slots := 0, locals := 137 }
set_option maxRecDepth 100000 in
set_option maxHeartbeats 4000000 in
theorem kX4_call_0 (l : Launch) (E : QE) (σ τ : QS) (x1 : Int32) (q : Int32 × QS) (hf : fX4_call_0 x1 σ = some q) : KQ l yX4_call cX4_call 4 (some .int) rm_X4_call_0 E [.ref (qAd E 0), .int x1] σ τ (PI E q.1 q.2 τ) := by
  unfold fX4_call_0 at hf
  refine y_met rfl (Nat.le_of_ble_eq_true rfl) rfl (fun p e s m below meth c C => ?_)
  refine y_aload_n C dX4_call_0 rfl 0 rfl ?_
  refine g0_script C fl_X4_31 dX4_call_1 ?_
  refine y_iload_n C dX4_call_4 rfl 1 rfl ?_
  refine y_cVi C (kX1_isSitter_5 l E σ τ x1 _ rfl) vi_X1_isSitter ml_X4_118 ⟨1, _, o5, rfl, rfl⟩ rfl ⟨rfl, rfl, Nat.le_of_ble_eq_true rfl, Nat.le_of_ble_eq_true rfl⟩ dX4_call_5 rfl (Nat.le_of_ble_eq_true rfl) ?_
  refine y_if_ne C 13 dX4_call_8 (by decide) hf (fun hf => ?_) (fun hf => ?_)
  · refine y_aload_n C dX4_call_13 rfl 0 rfl ?_
    refine g0_night C fl_X4_39 dX4_call_14 ?_
    refine y_cVi C (kX0_scenesYet_6 l E σ τ _ rfl) vi_X0_scenesYet ml_X4_140 ⟨0, _, o6, rfl, rfl⟩ rfl ⟨rfl, rfl, Nat.le_of_ble_eq_true rfl, Nat.le_of_ble_eq_true rfl⟩ dX4_call_17 rfl (Nat.le_of_ble_eq_true rfl) ?_
    refine y_if_eq C 37 dX4_call_20 (by decide) hf (fun hf => ?_) (fun hf => ?_)
    · refine y_bipush C (v := -4) dX4_call_37 (by decide) ?_
      exact y_iret C (rs1 hf) (rs2 hf) rfl dX4_call_39
    · refine y_aload_n C dX4_call_23 rfl 0 rfl ?_
      refine g0_night C fl_X4_39 dX4_call_24 ?_
      obtain ⟨q1, h_q1, hf⟩ := bd_e hf
      refine y_cVi C (kX0_free_6 l E σ τ _ h_q1) vi_X0_free ml_X4_144 ⟨0, _, o6, rfl, rfl⟩ rfl ⟨rfl, rfl, Nat.le_of_ble_eq_true rfl, Nat.le_of_ble_eq_true rfl⟩ dX4_call_27 rfl (Nat.le_of_ble_eq_true rfl) ?_
      refine y_iload_n C dX4_call_30 rfl 1 rfl ?_
      refine y_cSi C (kX4_isIn l E σ τ q1 x1 _ rfl) si_X4_isIn ml_X4_147 rfl ⟨rfl, rfl, Nat.le_of_ble_eq_true rfl, Nat.le_of_ble_eq_true rfl⟩ dX4_call_31 rfl (Nat.le_of_ble_eq_true rfl) ?_
      refine y_if_ne C 40 dX4_call_34 (by decide) hf (fun hf => ?_) (fun hf => ?_)
      · refine y_aload_n C dX4_call_40 rfl 0 rfl ?_
        refine g0_night C fl_X4_39 dX4_call_41 ?_
        refine gN6_deedCount C fn_X4_150 dX4_call_44 ?_
        refine y_bipush C (v := 40) dX4_call_47 (by decide) ?_
        refine y_icmp_lt C 55 dX4_call_49 (by decide) hf (fun hf => ?_) (fun hf => ?_)
        · refine y_aload_n C dX4_call_55 rfl 0 rfl ?_
          refine g0_night C fl_X4_39 dX4_call_56 ?_
          refine y_iload_n C dX4_call_59 rfl 1 rfl ?_
          obtain ⟨q2, h_q2, hf⟩ := bd_e hf
          refine y_cVi C (kX0_lackingNow_6 l E σ τ x1 _ h_q2) vi_X0_lackingNow ml_X4_153 ⟨0, _, o6, rfl, rfl⟩ rfl ⟨rfl, rfl, Nat.le_of_ble_eq_true rfl, Nat.le_of_ble_eq_true rfl⟩ dX4_call_60 rfl (Nat.le_of_ble_eq_true rfl) ?_
          refine y_istore_n C dX4_call_63 rfl (Nat.le_of_ble_eq_true rfl) rfl (lv' := [(2, .int q2), (0, .ref (qAd E 0)), (1, .int x1)]) rfl ?_
          refine y_aload_n C dX4_call_64 rfl 1 rfl ?_
          refine g0_night C fl_X4_39 dX4_call_65 ?_
          refine gN6_carriedCount C fn_X4_156 dX4_call_68 ?_
          obtain ⟨v3, e_v3, hf⟩ := lt_e hf
          refine y_istore_n C dX4_call_71 rfl (Nat.le_of_ble_eq_true rfl) e_v3 (lv' := [(3, .int v3), (2, .int q2), (0, .ref (qAd E 0)), (1, .int x1)]) rfl ?_
          refine y_aload_n C dX4_call_72 rfl 2 rfl ?_
          refine g0_night C fl_X4_39 dX4_call_73 ?_
          refine y_iload_n C dX4_call_76 rfl 3 rfl ?_
          obtain ⟨q4, h_q4, hf⟩ := bd_e hf
          refine y_cVv C (kX0_perform_6 l E σ τ x1 _ h_q4) vi_X0_perform ml_X4_159 ⟨0, _, o6, rfl, rfl⟩ rfl ⟨rfl, rfl, Nat.le_of_ble_eq_true rfl, Nat.le_of_ble_eq_true rfl⟩ dX4_call_77 rfl (Nat.le_of_ble_eq_true rfl) ?_
          refine y_aload_n C dX4_call_80 rfl 2 rfl ?_
          refine y_iload_n C dX4_call_81 rfl 1 rfl ?_
          obtain ⟨q5, e_q5, hf⟩ := lt_e hf
          refine y_cVi C (kX4_tell_0 l E q4 τ q2 _ e_q5.symm) vi_X4_tell ml_X4_83 ⟨4, _, o0, rfl, rfl⟩ rfl ⟨rfl, rfl, Nat.le_of_ble_eq_true rfl, Nat.le_of_ble_eq_true rfl⟩ dX4_call_82 rfl (Nat.le_of_ble_eq_true rfl) ?_
          refine y_pop C dX4_call_85 rfl ?_
          refine y_aload_n C dX4_call_86 rfl 2 rfl ?_
          refine g0_night C fl_X4_39 dX4_call_87 ?_
          refine gN6_carriedCount C fn_X4_156 dX4_call_90 ?_
          refine y_iload_n C dX4_call_93 rfl 0 rfl ?_
          refine y_isub C dX4_call_94 ?_
          exact y_iret C (rs1 hf) (rs2 hf) rfl dX4_call_95
        · refine y_bipush C (v := -2) dX4_call_52 (by decide) ?_
          exact y_iret C (rs1 hf) (rs2 hf) rfl dX4_call_54
      · refine y_bipush C (v := -4) dX4_call_37 (by decide) ?_
        exact y_iret C (rs1 hf) (rs2 hf) rfl dX4_call_39
  · refine y_iconst C (v := -1) dX4_call_11 (by decide) ?_
    exact y_iret C (rs1 hf) (rs2 hf) rfl dX4_call_12
noncomputable def fX5_isOver_50  (τ : QS) : Int32 :=
    (if (gM τ 51 1) = (gI τ 0) then (1 : Int32) else (0 : Int32))
def rm_X5_isOver_50 : Room := { frames := 0, cells := 0, slots := 0, locals := 0 }
set_option maxRecDepth 100000 in
set_option maxHeartbeats 4000000 in
theorem kX5_isOver_50 (l : Launch) (E : QE) (σ τ : QS)  (q : Int32) (hf : fX5_isOver_50 τ = q) : KQ l yX5_isOver cX5_isOver 1 (some .boolean) rm_X5_isOver_50 E [.ref (qAd E 50)] σ τ (PI E q σ τ) := by
  unfold fX5_isOver_50 at hf
  refine y_met rfl (Nat.le_of_ble_eq_true rfl) rfl (fun p e s m below meth c C => ?_)
  refine y_aload_n C dX5_isOver_0 rfl 0 rfl ?_
  refine g50_row C fl_X5_7 dX5_isOver_1 ?_
  refine y_iconst C (v := 1) dX5_isOver_4 (by decide) ?_
  refine y_ialdR C a51 (j := 1) (by decide) (by decide) dX5_isOver_5 ?_
  refine y_aload_n C dX5_isOver_6 rfl 0 rfl ?_
  refine g50_scenes C fl_X5_160 dX5_isOver_7 ?_
  refine y_icmp_ne C 17 dX5_isOver_10 (by decide) hf (fun hf => ?_) (fun hf => ?_)
  · refine y_iconst C (v := 0) dX5_isOver_17 (by decide) ?_
    exact y_zret C zOk0 hf rfl rfl dX5_isOver_18
  · refine y_iconst C (v := 1) dX5_isOver_13 (by decide) ?_
    refine y_goto C 18 dX5_isOver_14 (by decide) ?_
    exact y_zret C zOk1 hf rfl rfl dX5_isOver_18
theorem zX5_isOver_50  (τ : QS) : zOk (fX5_isOver_50 τ) := by
  unfold fX5_isOver_50
  try simp only [lt_]
  (repeat' split) <;> first | exact zOk0 | exact zOk1
noncomputable def fX5_lacking_50 (x1 : Int32) (x2 : Int32) (x3 : Int32) (x4 : Int32) (τ : QS) : Option (Int32) :=
    ck_ (inb x2 6) (Option.bind (fX5_saysOf_50 x1 x3 x4 τ) (fun (q2 : Int32) => some (fX5_atLeast ((gM τ 52 x2.toNatClampNeg) - q2))))
def rm_X5_lacking_50 : Room := { frames := 4, cells := 0, slots := 0, locals := 91 }
set_option maxRecDepth 100000 in
set_option maxHeartbeats 4000000 in
theorem kX5_lacking_50 (l : Launch) (E : QE) (σ τ : QS) (x1 : Int32) (x2 : Int32) (x3 : Int32) (x4 : Int32) (q : Int32) (hf : fX5_lacking_50 x1 x2 x3 x4 τ = some q) : KQ l yX5_lacking cX5_lacking 5 (some .int) rm_X5_lacking_50 E [.ref (qAd E 50), .int x1, .int x2, .int x3, .int x4] σ τ (PI E q σ τ) := by
  unfold fX5_lacking_50 at hf
  refine y_met rfl (Nat.le_of_ble_eq_true rfl) rfl (fun p e s m below meth c C => ?_)
  refine y_aload_n C dX5_lacking_0 rfl 0 rfl ?_
  refine g50_lines C fl_X5_13 dX5_lacking_1 ?_
  refine y_iload_n C dX5_lacking_4 rfl 2 rfl ?_
  obtain ⟨hi1, hf⟩ := ck_e hf
  refine y_ialdR C a52 (j := x2.toNatClampNeg) rfl hi1 dX5_lacking_5 ?_
  refine y_aload_n C dX5_lacking_6 rfl 0 rfl ?_
  refine y_iload_n C dX5_lacking_7 rfl 1 rfl ?_
  refine y_iload_n C dX5_lacking_8 rfl 3 rfl ?_
  refine y_iload C dX5_lacking_9 4 rfl ?_
  obtain ⟨q2, h_q2, hf⟩ := bd_e hf
  refine y_cVi C (kX5_saysOf_50 l E σ τ x1 x3 x4 _ h_q2) vi_X5_saysOf ml_X5_189 ⟨5, _, o50, rfl, rfl⟩ rfl ⟨rfl, rfl, Nat.le_of_ble_eq_true rfl, Nat.le_of_ble_eq_true rfl⟩ dX5_lacking_11 rfl (Nat.le_of_ble_eq_true rfl) ?_
  refine y_isub C dX5_lacking_14 ?_
  refine y_cSi C (kX5_atLeast l E σ τ ((gM τ 52 x2.toNatClampNeg) - q2) _ rfl) si_X5_atLeast ml_X5_169 rfl ⟨rfl, rfl, Nat.le_of_ble_eq_true rfl, Nat.le_of_ble_eq_true rfl⟩ dX5_lacking_15 rfl (Nat.le_of_ble_eq_true rfl) ?_
  exact y_iret C (Option.some.inj hf) rfl rfl dX5_lacking_18
noncomputable def fX5_keepPast_50  (τ : QS) : Option (QS) :=
    lp_ (fun (r2 : Int32 × QS → Option (QS)) (a1 : Int32 × QS) => (if (12 : Int32) ≤ a1.1 then lt_ (pM a1.2 51 (upd (gM a1.2 51) 0 ((gM a1.2 51 0) + (1 : Int32)))) (fun (S3 : QS) => some S3) else ck_ (inb ((1 : Int32) + a1.1) 1972) (ck_ (inb (((13 : Int32) + ((12 : Int32) * (gM a1.2 51 0))) + a1.1) 1972) (lt_ (pM a1.2 51 (upd (gM a1.2 51) ((((13 : Int32) + ((12 : Int32) * (gM a1.2 51 0))) + a1.1).toNatClampNeg) (gM a1.2 51 (((1 : Int32) + a1.1).toNatClampNeg)))) (fun (S6 : QS) => r2 ((a1.1 + (1 : Int32)), S6)))))) FV ((0 : Int32), τ)
def rm_X5_keepPast_50 : Room := { frames := 0, cells := 0, slots := 0, locals := 0 }
set_option maxRecDepth 100000 in
set_option maxHeartbeats 4000000 in
theorem kX5_keepPast_50 (l : Launch) (E : QE) (σ τ : QS)  (q : QS) (hf : fX5_keepPast_50 τ = some q) : KQ l yX5_keepPast cX5_keepPast 2 none rm_X5_keepPast_50 E [.ref (qAd E 50)] σ τ (PV E σ q) := by
  unfold fX5_keepPast_50 at hf
  refine y_met rfl (Nat.le_of_ble_eq_true rfl) rfl (fun p e s m below meth c C => ?_)
  refine y_iconst C (v := 0) dX5_keepPast_0 (by decide) ?_
  refine y_istore_n C dX5_keepPast_1 rfl (Nat.le_of_ble_eq_true rfl) rfl (lv' := [(1, .int (0 : Int32)), (0, .ref (qAd E 50))]) rfl ?_
  refine y_sub [0, 1] rfl ?_
  refine lp_ind (P := fun a1 : Int32 × QS => Y E p l e rm_X5_keepPast_50 s m ([.ref (qAd E 50)] : List Value).toArray below meth c 2 (MQ below (PV E σ q) ([.ref (qAd E 50)] : List Value).toArray s 0 0 (qA E)) σ a1.2 2 [(1, .int a1.1), (0, .ref (qAd E 50))] []) (fun r2 a1 ih_r2 hf => ?_) _ _ hf
  refine y_iload_n C dX5_keepPast_2 rfl 0 rfl ?_
  refine y_bipush C (v := 12) dX5_keepPast_3 (by decide) ?_
  refine y_icmp_ge C 41 dX5_keepPast_5 (by decide) hf (fun hf => ?_) (fun hf => ?_)
  · refine y_aload_n C dX5_keepPast_41 rfl 1 rfl ?_
    refine g50_row C fl_X5_7 dX5_keepPast_42 ?_
    refine y_iconst C (v := 0) dX5_keepPast_45 (by decide) ?_
    refine y_dup2 C dX5_keepPast_46 rfl rfl ?_
    refine y_ialdR C a51 (j := 0) (by decide) (by decide) dX5_keepPast_47 ?_
    refine y_iconst C (v := 1) dX5_keepPast_48 (by decide) ?_
    refine y_iadd C dX5_keepPast_49 ?_
    obtain ⟨S3, e_S3, hf⟩ := lt_e hf
    refine y_iastR C a51 (j := 0) (by decide) (by decide) e_S3 dX5_keepPast_50 ?_
    exact y_vret C rfl (Option.some.inj hf) dX5_keepPast_51
  · refine y_aload_n C dX5_keepPast_8 rfl 1 rfl ?_
    refine g50_row C fl_X5_7 dX5_keepPast_9 ?_
    refine y_bipush C (v := 13) dX5_keepPast_12 (by decide) ?_
    refine y_bipush C (v := 12) dX5_keepPast_14 (by decide) ?_
    refine y_aload_n C dX5_keepPast_16 rfl 1 rfl ?_
    refine g50_row C fl_X5_7 dX5_keepPast_17 ?_
    refine y_iconst C (v := 0) dX5_keepPast_20 (by decide) ?_
    refine y_ialdR C a51 (j := 0) (by decide) (by decide) dX5_keepPast_21 ?_
    refine y_imul C dX5_keepPast_22 ?_
    refine y_iadd C dX5_keepPast_23 ?_
    refine y_iload_n C dX5_keepPast_24 rfl 0 rfl ?_
    refine y_iadd C dX5_keepPast_25 ?_
    refine y_aload_n C dX5_keepPast_26 rfl 1 rfl ?_
    refine g50_row C fl_X5_7 dX5_keepPast_27 ?_
    refine y_iconst C (v := 1) dX5_keepPast_30 (by decide) ?_
    refine y_iload_n C dX5_keepPast_31 rfl 0 rfl ?_
    refine y_iadd C dX5_keepPast_32 ?_
    obtain ⟨hi4, hf⟩ := ck_e hf
    refine y_ialdR C a51 (j := ((1 : Int32) + a1.1).toNatClampNeg) rfl hi4 dX5_keepPast_33 ?_
    obtain ⟨hi5, hf⟩ := ck_e hf
    obtain ⟨S6, e_S6, hf⟩ := lt_e hf
    refine y_iastR C a51 (j := (((13 : Int32) + ((12 : Int32) * (gM a1.2 51 0))) + a1.1).toNatClampNeg) rfl hi5 e_S6 dX5_keepPast_34 ?_
    refine y_iinc C dX5_keepPast_35 0 rfl (Nat.le_of_ble_eq_true rfl) (k2 := 1) (by decide) rfl (lv' := [(1, .int (a1.1 + (1 : Int32))), (0, .ref (qAd E 50))]) rfl ?_
    refine y_goto C 2 dX5_keepPast_38 (by decide) ?_
    refine y_sub [0, 1] rfl ?_
    exact ih_r2 ((a1.1 + (1 : Int32)), S6) hf
noncomputable def fX5_doCall_50 (x1 : Int32) (τ : QS) : Option (Int32 × QS) :=
    Option.bind (fX5_keepPast_50 τ) (fun (q1 : QS) => Option.bind (fX5_lacking_50 x1 (gM q1 51 1) (gM q1 51 4) (gM q1 51 6) q1) (fun (q2 : Int32) => lt_ (fun (v4 : Int32) => lt_ (fun (v6 : Int32) => lt_ (pM q1 51 (upd (gM q1 51) 2 ((gM q1 51 2) - v6))) (fun (S7 : QS) => lt_ (fun (v9 : Int32) => lt_ (pM S7 51 (upd (gM S7 51) 3 ((gM S7 51 3) + v9))) (fun (S10 : QS) => lt_ (fun (v12 : Int32) => lt_ (pM S10 51 (upd (gM S10 51) 4 ((gM S10 51 4) + v12))) (fun (S13 : QS) => lt_ (fun (v15 : Int32) => lt_ (pM S13 51 (upd (gM S13 51) 5 ((gM S13 51 5) + v15))) (fun (S16 : QS) => lt_ (pM S16 51 (upd (gM S16 51) 6 ((gM S16 51 6) ||| ((1 : Int32) <<< (x1 &&& 31))))) (fun (S17 : QS) => lt_ (pM S17 51 (upd (gM S17 51) 1 ((gM S17 51 1) + (1 : Int32)))) (fun (S18 : QS) => (if v4 = 0 then some ((0 : Int32), S18) else some ((1 : Int32), S18)))))) (fun (j14 : Int32 → Option (Int32 × QS)) => (if v4 = 0 then j14 (0 : Int32) else j14 (1 : Int32))))) (fun (j11 : Int32 → Option (Int32 × QS)) => (if v4 = 0 then j11 (-1 : Int32) else (if q2 = 0 then j11 (2 : Int32) else j11 (1 : Int32)))))) (fun (j8 : Int32 → Option (Int32 × QS)) => (if v4 = 0 then j8 (0 : Int32) else j8 q2)))) (fun (j5 : Int32 → Option (Int32 × QS)) => (if v4 = 0 then j5 (0 : Int32) else j5 q2))) (fun (j3 : Int32 → Option (Int32 × QS)) => (if (gM q1 51 2) < q2 then j3 (0 : Int32) else j3 (1 : Int32)))))
def rm_X5_doCall_50 : Room := { frames := 5, cells := 0, slots := 0, locals := 115 }
set_option maxRecDepth 100000 in
set_option maxHeartbeats 4000000 in
theorem kX5_doCall_50 (l : Launch) (E : QE) (σ τ : QS) (x1 : Int32) (q : Int32 × QS) (hf : fX5_doCall_50 x1 τ = some q) : KQ l yX5_doCall cX5_doCall 4 (some .int) rm_X5_doCall_50 E [.ref (qAd E 50), .int x1] σ τ (PI E q.1 σ q.2) := by
  unfold fX5_doCall_50 at hf
  refine y_met rfl (Nat.le_of_ble_eq_true rfl) rfl (fun p e s m below meth c C => ?_)
  refine y_aload_n C dX5_doCall_0 rfl 0 rfl ?_
  obtain ⟨q1, h_q1, hf⟩ := bd_e hf
  refine y_cVv C (kX5_keepPast_50 l E σ τ _ h_q1) vi_X5_keepPast ml_X5_215 ⟨5, _, o50, rfl, rfl⟩ rfl ⟨rfl, rfl, Nat.le_of_ble_eq_true rfl, Nat.le_of_ble_eq_true rfl⟩ dX5_doCall_1 rfl (Nat.le_of_ble_eq_true rfl) ?_
  refine y_aload_n C dX5_doCall_4 rfl 0 rfl ?_
  refine y_iload_n C dX5_doCall_5 rfl 1 rfl ?_
  refine y_aload_n C dX5_doCall_6 rfl 0 rfl ?_
  refine g50_row C fl_X5_7 dX5_doCall_7 ?_
  refine y_iconst C (v := 1) dX5_doCall_10 (by decide) ?_
  refine y_ialdR C a51 (j := 1) (by decide) (by decide) dX5_doCall_11 ?_
  refine y_aload_n C dX5_doCall_12 rfl 0 rfl ?_
  refine g50_row C fl_X5_7 dX5_doCall_13 ?_
  refine y_iconst C (v := 4) dX5_doCall_16 (by decide) ?_
  refine y_ialdR C a51 (j := 4) (by decide) (by decide) dX5_doCall_17 ?_
  refine y_aload_n C dX5_doCall_18 rfl 0 rfl ?_
  refine g50_row C fl_X5_7 dX5_doCall_19 ?_
  refine y_bipush C (v := 6) dX5_doCall_22 (by decide) ?_
  refine y_ialdR C a51 (j := 6) (by decide) (by decide) dX5_doCall_24 ?_
  obtain ⟨q2, h_q2, hf⟩ := bd_e hf
  refine y_cVi C (kX5_lacking_50 l E σ q1 x1 (gM q1 51 1) (gM q1 51 4) (gM q1 51 6) _ h_q2) vi_X5_lacking ml_X5_218 ⟨5, _, o50, rfl, rfl⟩ rfl ⟨rfl, rfl, Nat.le_of_ble_eq_true rfl, Nat.le_of_ble_eq_true rfl⟩ dX5_doCall_25 rfl (Nat.le_of_ble_eq_true rfl) ?_
  refine y_istore_n C dX5_doCall_28 rfl (Nat.le_of_ble_eq_true rfl) rfl (lv' := [(2, .int q2), (0, .ref (qAd E 50)), (1, .int x1)]) rfl ?_
  refine y_iload_n C dX5_doCall_29 rfl 0 rfl ?_
  refine y_aload_n C dX5_doCall_30 rfl 1 rfl ?_
  refine g50_row C fl_X5_7 dX5_doCall_31 ?_
  refine y_iconst C (v := 2) dX5_doCall_34 (by decide) ?_
  refine y_ialdR C a51 (j := 2) (by decide) (by decide) dX5_doCall_35 ?_
  obtain ⟨j3, ek_j3, hf⟩ := lt_e hf
  have h_j3 : ∀ (v4 : Int32), j3 v4 = some q → Y E p l e rm_X5_doCall_50 s m ([.ref (qAd E 50), .int x1] : List Value).toArray below meth c 4 (MQ below (PI E q.1 σ q.2) ([.ref (qAd E 50), .int x1] : List Value).toArray s 0 0 (qA E)) σ q1 44 [(0, .ref (qAd E 50)), (1, .int x1), (2, .int q2)] [.int v4] := by
    intro v4 hf
    replace hf := (congrFun (ek_j3) v4).symm.trans hf
    refine y_istore_n C dX5_doCall_44 rfl (Nat.le_of_ble_eq_true rfl) rfl (lv' := [(3, .int v4), (0, .ref (qAd E 50)), (1, .int x1), (2, .int q2)]) rfl ?_
    refine y_aload_n C dX5_doCall_45 rfl 1 rfl ?_
    refine g50_row C fl_X5_7 dX5_doCall_46 ?_
    refine y_iconst C (v := 2) dX5_doCall_49 (by decide) ?_
    refine y_dup2 C dX5_doCall_50 rfl rfl ?_
    refine y_ialdR C a51 (j := 2) (by decide) (by decide) dX5_doCall_51 ?_
    refine y_iload_n C dX5_doCall_52 rfl 0 rfl ?_
    obtain ⟨j5, ek_j5, hf⟩ := lt_e hf
    have h_j5 : ∀ (v6 : Int32), j5 v6 = some q → Y E p l e rm_X5_doCall_50 s m ([.ref (qAd E 50), .int x1] : List Value).toArray below meth c 4 (MQ below (PI E q.1 σ q.2) ([.ref (qAd E 50), .int x1] : List Value).toArray s 0 0 (qA E)) σ q1 61 [(0, .ref (qAd E 50)), (1, .int x1), (2, .int q2), (3, .int v4)] [.int v6, .int (gM q1 51 2), .int (2 : Int32), .ref (qAd E 51)] := by
      intro v6 hf
      replace hf := (congrFun (ek_j5) v6).symm.trans hf
      refine y_isub C dX5_doCall_61 ?_
      obtain ⟨S7, e_S7, hf⟩ := lt_e hf
      refine y_iastR C a51 (j := 2) (by decide) (by decide) e_S7 dX5_doCall_62 ?_
      refine y_aload_n C dX5_doCall_63 rfl 0 rfl ?_
      refine g50_row C fl_X5_7 dX5_doCall_64 ?_
      refine y_iconst C (v := 3) dX5_doCall_67 (by decide) ?_
      refine y_dup2 C dX5_doCall_68 rfl rfl ?_
      refine y_ialdR C a51 (j := 3) (by decide) (by decide) dX5_doCall_69 ?_
      refine y_iload_n C dX5_doCall_70 rfl 3 rfl ?_
      obtain ⟨j8, ek_j8, hf⟩ := lt_e hf
      have h_j8 : ∀ (v9 : Int32), j8 v9 = some q → Y E p l e rm_X5_doCall_50 s m ([.ref (qAd E 50), .int x1] : List Value).toArray below meth c 4 (MQ below (PI E q.1 σ q.2) ([.ref (qAd E 50), .int x1] : List Value).toArray s 0 0 (qA E)) σ S7 79 [(0, .ref (qAd E 50)), (1, .int x1), (2, .int q2), (3, .int v4)] [.int v9, .int (gM S7 51 3), .int (3 : Int32), .ref (qAd E 51)] := by
        intro v9 hf
        replace hf := (congrFun (ek_j8) v9).symm.trans hf
        refine y_iadd C dX5_doCall_79 ?_
        obtain ⟨S10, e_S10, hf⟩ := lt_e hf
        refine y_iastR C a51 (j := 3) (by decide) (by decide) e_S10 dX5_doCall_80 ?_
        refine y_aload_n C dX5_doCall_81 rfl 0 rfl ?_
        refine g50_row C fl_X5_7 dX5_doCall_82 ?_
        refine y_iconst C (v := 4) dX5_doCall_85 (by decide) ?_
        refine y_dup2 C dX5_doCall_86 rfl rfl ?_
        refine y_ialdR C a51 (j := 4) (by decide) (by decide) dX5_doCall_87 ?_
        refine y_iload_n C dX5_doCall_88 rfl 3 rfl ?_
        obtain ⟨j11, ek_j11, hf⟩ := lt_e hf
        have h_j11 : ∀ (v12 : Int32), j11 v12 = some q → Y E p l e rm_X5_doCall_50 s m ([.ref (qAd E 50), .int x1] : List Value).toArray below meth c 4 (MQ below (PI E q.1 σ q.2) ([.ref (qAd E 50), .int x1] : List Value).toArray s 0 0 (qA E)) σ S10 105 [(0, .ref (qAd E 50)), (1, .int x1), (3, .int v4)] [.int v12, .int (gM S10 51 4), .int (4 : Int32), .ref (qAd E 51)] := by
          intro v12 hf
          replace hf := (congrFun (ek_j11) v12).symm.trans hf
          refine y_iadd C dX5_doCall_105 ?_
          obtain ⟨S13, e_S13, hf⟩ := lt_e hf
          refine y_iastR C a51 (j := 4) (by decide) (by decide) e_S13 dX5_doCall_106 ?_
          refine y_aload_n C dX5_doCall_107 rfl 0 rfl ?_
          refine g50_row C fl_X5_7 dX5_doCall_108 ?_
          refine y_iconst C (v := 5) dX5_doCall_111 (by decide) ?_
          refine y_dup2 C dX5_doCall_112 rfl rfl ?_
          refine y_ialdR C a51 (j := 5) (by decide) (by decide) dX5_doCall_113 ?_
          refine y_iload_n C dX5_doCall_114 rfl 2 rfl ?_
          obtain ⟨j14, ek_j14, hf⟩ := lt_e hf
          have h_j14 : ∀ (v15 : Int32), j14 v15 = some q → Y E p l e rm_X5_doCall_50 s m ([.ref (qAd E 50), .int x1] : List Value).toArray below meth c 4 (MQ below (PI E q.1 σ q.2) ([.ref (qAd E 50), .int x1] : List Value).toArray s 0 0 (qA E)) σ S13 123 [(0, .ref (qAd E 50)), (1, .int x1), (3, .int v4)] [.int v15, .int (gM S13 51 5), .int (5 : Int32), .ref (qAd E 51)] := by
            intro v15 hf
            replace hf := (congrFun (ek_j14) v15).symm.trans hf
            refine y_iadd C dX5_doCall_123 ?_
            obtain ⟨S16, e_S16, hf⟩ := lt_e hf
            refine y_iastR C a51 (j := 5) (by decide) (by decide) e_S16 dX5_doCall_124 ?_
            refine y_aload_n C dX5_doCall_125 rfl 0 rfl ?_
            refine g50_row C fl_X5_7 dX5_doCall_126 ?_
            refine y_bipush C (v := 6) dX5_doCall_129 (by decide) ?_
            refine y_dup2 C dX5_doCall_131 rfl rfl ?_
            refine y_ialdR C a51 (j := 6) (by decide) (by decide) dX5_doCall_132 ?_
            refine y_iconst C (v := 1) dX5_doCall_133 (by decide) ?_
            refine y_iload_n C dX5_doCall_134 rfl 1 rfl ?_
            refine y_ishl C dX5_doCall_135 ?_
            refine y_ior C dX5_doCall_136 ?_
            obtain ⟨S17, e_S17, hf⟩ := lt_e hf
            refine y_iastR C a51 (j := 6) (by decide) (by decide) e_S17 dX5_doCall_137 ?_
            refine y_aload_n C dX5_doCall_138 rfl 0 rfl ?_
            refine g50_row C fl_X5_7 dX5_doCall_139 ?_
            refine y_iconst C (v := 1) dX5_doCall_142 (by decide) ?_
            refine y_dup2 C dX5_doCall_143 rfl rfl ?_
            refine y_ialdR C a51 (j := 1) (by decide) (by decide) dX5_doCall_144 ?_
            refine y_iconst C (v := 1) dX5_doCall_145 (by decide) ?_
            refine y_iadd C dX5_doCall_146 ?_
            obtain ⟨S18, e_S18, hf⟩ := lt_e hf
            refine y_iastR C a51 (j := 1) (by decide) (by decide) e_S18 dX5_doCall_147 ?_
            refine y_iload_n C dX5_doCall_148 rfl 2 rfl ?_
            refine y_if_eq C 156 dX5_doCall_149 (by decide) hf (fun hf => ?_) (fun hf => ?_)
            · refine y_iconst C (v := 0) dX5_doCall_156 (by decide) ?_
              exact y_iret C (rs1 hf) rfl (rs2 hf) dX5_doCall_157
            · refine y_iconst C (v := 1) dX5_doCall_152 (by decide) ?_
              refine y_goto C 157 dX5_doCall_153 (by decide) ?_
              exact y_iret C (rs1 hf) rfl (rs2 hf) dX5_doCall_157
          refine y_if_eq C 122 dX5_doCall_115 (by decide) hf (fun hf => ?_) (fun hf => ?_)
          · refine y_iconst C (v := 0) dX5_doCall_122 (by decide) ?_
            refine y_sub [0, 1, 2] rfl ?_
            exact h_j14 (0 : Int32) hf
          · refine y_iconst C (v := 1) dX5_doCall_118 (by decide) ?_
            refine y_goto C 123 dX5_doCall_119 (by decide) ?_
            refine y_sub [0, 1, 2] rfl ?_
            exact h_j14 (1 : Int32) hf
        refine y_if_ne C 96 dX5_doCall_89 (by decide) hf (fun hf => ?_) (fun hf => ?_)
        · refine y_iload_n C dX5_doCall_96 rfl 2 rfl ?_
          refine y_if_ne C 104 dX5_doCall_97 (by decide) hf (fun hf => ?_) (fun hf => ?_)
          · refine y_iconst C (v := 1) dX5_doCall_104 (by decide) ?_
            refine y_sub [0, 1, 3] rfl ?_
            exact h_j11 (1 : Int32) hf
          · refine y_iconst C (v := 2) dX5_doCall_100 (by decide) ?_
            refine y_goto C 105 dX5_doCall_101 (by decide) ?_
            refine y_sub [0, 1, 3] rfl ?_
            exact h_j11 (2 : Int32) hf
        · refine y_iconst C (v := -1) dX5_doCall_92 (by decide) ?_
          refine y_goto C 105 dX5_doCall_93 (by decide) ?_
          refine y_sub [0, 1, 3] rfl ?_
          exact h_j11 (-1 : Int32) hf
      refine y_if_eq C 78 dX5_doCall_71 (by decide) hf (fun hf => ?_) (fun hf => ?_)
      · refine y_iconst C (v := 0) dX5_doCall_78 (by decide) ?_
        refine y_sub [0, 1, 2, 3] rfl ?_
        exact h_j8 (0 : Int32) hf
      · refine y_iload_n C dX5_doCall_74 rfl 2 rfl ?_
        refine y_goto C 79 dX5_doCall_75 (by decide) ?_
        refine y_sub [0, 1, 2, 3] rfl ?_
        exact h_j8 q2 hf
    refine y_if_eq C 60 dX5_doCall_53 (by decide) hf (fun hf => ?_) (fun hf => ?_)
    · refine y_iconst C (v := 0) dX5_doCall_60 (by decide) ?_
      refine y_sub [1, 2, 3, 0] rfl ?_
      exact h_j5 (0 : Int32) hf
    · refine y_iload_n C dX5_doCall_56 rfl 3 rfl ?_
      refine y_goto C 61 dX5_doCall_57 (by decide) ?_
      refine y_sub [1, 2, 3, 0] rfl ?_
      exact h_j5 q2 hf
  refine y_icmp_gt C 43 dX5_doCall_36 (by decide) hf (fun hf => ?_) (fun hf => ?_)
  · refine y_iconst C (v := 0) dX5_doCall_43 (by decide) ?_
    refine y_sub [1, 2, 0] rfl ?_
    exact h_j3 (0 : Int32) hf
  · refine y_iconst C (v := 1) dX5_doCall_39 (by decide) ?_
    refine y_goto C 44 dX5_doCall_40 (by decide) ?_
    refine y_sub [1, 2, 0] rfl ?_
    exact h_j3 (1 : Int32) hf
