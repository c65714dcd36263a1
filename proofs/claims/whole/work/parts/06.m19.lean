noncomputable def fX5_thereOf_50 (x1 : Int32) (τ : QS) : Option (Int32) :=
    lp_ (fun (r2 : Int32 × Int32 → Option (Int32)) (a1 : Int32 × Int32) => (if (6 : Int32) ≤ a1.2 then some a1.1 else (if x1 = (8 : Int32) then ck_ (inb a1.2 6) ((if 0 ≤ (gM τ 56 a1.2.toNatClampNeg) then lt_ (a1.1 + (1 : Int32)) (fun (v12 : Int32) => r2 (v12, (a1.2 + (1 : Int32)))) else lt_ (a1.1 + (0 : Int32)) (fun (v13 : Int32) => r2 (v13, (a1.2 + (1 : Int32)))))) else (if x1 = (9 : Int32) then (if (4 : Int32) ≤ a1.2 then lt_ (a1.1 + (0 : Int32)) (fun (v7 : Int32) => r2 (v7, (a1.2 + (1 : Int32)))) else ck_ (inb a1.2 4) ((if (gM τ 58 a1.2.toNatClampNeg) < 0 then lt_ (a1.1 + (0 : Int32)) (fun (v9 : Int32) => r2 (v9, (a1.2 + (1 : Int32)))) else lt_ (a1.1 + (1 : Int32)) (fun (v10 : Int32) => r2 (v10, (a1.2 + (1 : Int32))))))) else (if (3 : Int32) ≤ a1.2 then lt_ (a1.1 + (0 : Int32)) (fun (v3 : Int32) => r2 (v3, (a1.2 + (1 : Int32)))) else ck_ (inb (((493 : Int32) * ((1 : Int32) + a1.2)) + (0 : Int32)) 1972) ((if (gM τ 51 ((((493 : Int32) * ((1 : Int32) + a1.2)) + (0 : Int32)).toNatClampNeg)) < 0 then lt_ (a1.1 + (0 : Int32)) (fun (v5 : Int32) => r2 (v5, (a1.2 + (1 : Int32)))) else lt_ (a1.1 + (1 : Int32)) (fun (v6 : Int32) => r2 (v6, (a1.2 + (1 : Int32))))))))))) FV ((0 : Int32), (0 : Int32))
def rm_X5_thereOf_50 : Room := { frames := 0, cells := 0, slots := 0, locals := 0 }
set_option maxRecDepth 100000 in
set_option maxHeartbeats 4000000 in
theorem kX5_thereOf_50 (l : Launch) (E : QE) (σ τ : QS) (x1 : Int32) (q : Int32) (hf : fX5_thereOf_50 x1 τ = some q) : KQ l yX5_thereOf cX5_thereOf 4 (some .int) rm_X5_thereOf_50 E [.ref (qAd E 50), .int x1] σ τ (PI E q σ τ) := by
  unfold fX5_thereOf_50 at hf
  refine y_met rfl (Nat.le_of_ble_eq_true rfl) rfl (fun p e s m below meth c C => ?_)
  refine y_iconst C (v := 0) dX5_thereOf_0 (by decide) ?_
  refine y_istore_n C dX5_thereOf_1 rfl (Nat.le_of_ble_eq_true rfl) rfl (lv' := [(2, .int (0 : Int32)), (0, .ref (qAd E 50)), (1, .int x1)]) rfl ?_
  refine y_iconst C (v := 0) dX5_thereOf_2 (by decide) ?_
  refine y_istore_n C dX5_thereOf_3 rfl (Nat.le_of_ble_eq_true rfl) rfl (lv' := [(3, .int (0 : Int32)), (2, .int (0 : Int32)), (0, .ref (qAd E 50)), (1, .int x1)]) rfl ?_
  refine y_sub [0, 1, 2, 3] rfl ?_
  refine lp_ind (P := fun a1 : Int32 × Int32 => Y E p l e rm_X5_thereOf_50 s m ([.ref (qAd E 50), .int x1] : List Value).toArray below meth c 4 (MQ below (PI E q σ τ) ([.ref (qAd E 50), .int x1] : List Value).toArray s 0 0 (qA E)) σ τ 4 [(3, .int a1.2), (2, .int a1.1), (0, .ref (qAd E 50)), (1, .int x1)] []) (fun r2 a1 ih_r2 hf => ?_) _ _ hf
  refine y_iload_n C dX5_thereOf_4 rfl 0 rfl ?_
  refine y_bipush C (v := 6) dX5_thereOf_5 (by decide) ?_
  refine y_icmp_ge C 97 dX5_thereOf_7 (by decide) hf (fun hf => ?_) (fun hf => ?_)
  · refine y_iload_n C dX5_thereOf_97 rfl 1 rfl ?_
    exact y_iret C (Option.some.inj hf) rfl rfl dX5_thereOf_98
  · refine y_iload_n C dX5_thereOf_10 rfl 1 rfl ?_
    refine y_iload_n C dX5_thereOf_11 rfl 3 rfl ?_
    refine y_bipush C (v := 8) dX5_thereOf_12 (by decide) ?_
    refine y_icmp_ne C 34 dX5_thereOf_14 (by decide) hf (fun hf => ?_) (fun hf => ?_)
    · refine y_iload_n C dX5_thereOf_34 rfl 3 rfl ?_
      refine y_bipush C (v := 9) dX5_thereOf_35 (by decide) ?_
      refine y_icmp_ne C 62 dX5_thereOf_37 (by decide) hf (fun hf => ?_) (fun hf => ?_)
      · refine y_iload_n C dX5_thereOf_62 rfl 0 rfl ?_
        refine y_iconst C (v := 3) dX5_thereOf_63 (by decide) ?_
        refine y_icmp_ge C 88 dX5_thereOf_64 (by decide) hf (fun hf => ?_) (fun hf => ?_)
        · refine y_iconst C (v := 0) dX5_thereOf_88 (by decide) ?_
          refine y_iadd C dX5_thereOf_89 ?_
          obtain ⟨v3, e_v3, hf⟩ := lt_e hf
          refine y_istore_n C dX5_thereOf_90 rfl (Nat.le_of_ble_eq_true rfl) e_v3 (lv' := [(2, .int v3), (3, .int a1.2), (0, .ref (qAd E 50)), (1, .int x1)]) rfl ?_
          refine y_iinc C dX5_thereOf_91 1 rfl (Nat.le_of_ble_eq_true rfl) (k2 := 1) (by decide) rfl (lv' := [(3, .int (a1.2 + (1 : Int32))), (2, .int v3), (0, .ref (qAd E 50)), (1, .int x1)]) rfl ?_
          refine y_goto C 4 dX5_thereOf_94 (by decide) ?_
          refine y_sub [0, 1, 2, 3] rfl ?_
          exact ih_r2 (v3, (a1.2 + (1 : Int32))) hf
        · refine y_aload_n C dX5_thereOf_67 rfl 2 rfl ?_
          refine g50_row C fl_X5_7 dX5_thereOf_68 ?_
          refine y_sipush C (v := 493) dX5_thereOf_71 (by decide) ?_
          refine y_iconst C (v := 1) dX5_thereOf_74 (by decide) ?_
          refine y_iload_n C dX5_thereOf_75 rfl 0 rfl ?_
          refine y_iadd C dX5_thereOf_76 ?_
          refine y_imul C dX5_thereOf_77 ?_
          refine y_iconst C (v := 0) dX5_thereOf_78 (by decide) ?_
          refine y_iadd C dX5_thereOf_79 ?_
          obtain ⟨hi4, hf⟩ := ck_e hf
          refine y_ialdR C a51 (j := (((493 : Int32) * ((1 : Int32) + a1.2)) + (0 : Int32)).toNatClampNeg) rfl hi4 dX5_thereOf_80 ?_
          refine y_if_lt C 88 dX5_thereOf_81 (by decide) hf (fun hf => ?_) (fun hf => ?_)
          · refine y_iconst C (v := 0) dX5_thereOf_88 (by decide) ?_
            refine y_iadd C dX5_thereOf_89 ?_
            obtain ⟨v5, e_v5, hf⟩ := lt_e hf
            refine y_istore_n C dX5_thereOf_90 rfl (Nat.le_of_ble_eq_true rfl) e_v5 (lv' := [(2, .int v5), (3, .int a1.2), (0, .ref (qAd E 50)), (1, .int x1)]) rfl ?_
            refine y_iinc C dX5_thereOf_91 1 rfl (Nat.le_of_ble_eq_true rfl) (k2 := 1) (by decide) rfl (lv' := [(3, .int (a1.2 + (1 : Int32))), (2, .int v5), (0, .ref (qAd E 50)), (1, .int x1)]) rfl ?_
            refine y_goto C 4 dX5_thereOf_94 (by decide) ?_
            refine y_sub [0, 1, 2, 3] rfl ?_
            exact ih_r2 (v5, (a1.2 + (1 : Int32))) hf
          · refine y_iconst C (v := 1) dX5_thereOf_84 (by decide) ?_
            refine y_goto C 89 dX5_thereOf_85 (by decide) ?_
            refine y_iadd C dX5_thereOf_89 ?_
            obtain ⟨v6, e_v6, hf⟩ := lt_e hf
            refine y_istore_n C dX5_thereOf_90 rfl (Nat.le_of_ble_eq_true rfl) e_v6 (lv' := [(2, .int v6), (3, .int a1.2), (0, .ref (qAd E 50)), (1, .int x1)]) rfl ?_
            refine y_iinc C dX5_thereOf_91 1 rfl (Nat.le_of_ble_eq_true rfl) (k2 := 1) (by decide) rfl (lv' := [(3, .int (a1.2 + (1 : Int32))), (2, .int v6), (0, .ref (qAd E 50)), (1, .int x1)]) rfl ?_
            refine y_goto C 4 dX5_thereOf_94 (by decide) ?_
            refine y_sub [0, 1, 2, 3] rfl ?_
            exact ih_r2 (v6, (a1.2 + (1 : Int32))) hf
      · refine y_iload_n C dX5_thereOf_40 rfl 0 rfl ?_
        refine y_iconst C (v := 4) dX5_thereOf_41 (by decide) ?_
        refine y_icmp_ge C 58 dX5_thereOf_42 (by decide) hf (fun hf => ?_) (fun hf => ?_)
        · refine y_iconst C (v := 0) dX5_thereOf_58 (by decide) ?_
          refine y_goto C 89 dX5_thereOf_59 (by decide) ?_
          refine y_iadd C dX5_thereOf_89 ?_
          obtain ⟨v7, e_v7, hf⟩ := lt_e hf
          refine y_istore_n C dX5_thereOf_90 rfl (Nat.le_of_ble_eq_true rfl) e_v7 (lv' := [(2, .int v7), (3, .int a1.2), (0, .ref (qAd E 50)), (1, .int x1)]) rfl ?_
          refine y_iinc C dX5_thereOf_91 1 rfl (Nat.le_of_ble_eq_true rfl) (k2 := 1) (by decide) rfl (lv' := [(3, .int (a1.2 + (1 : Int32))), (2, .int v7), (0, .ref (qAd E 50)), (1, .int x1)]) rfl ?_
          refine y_goto C 4 dX5_thereOf_94 (by decide) ?_
          refine y_sub [0, 1, 2, 3] rfl ?_
          exact ih_r2 (v7, (a1.2 + (1 : Int32))) hf
        · refine y_aload_n C dX5_thereOf_45 rfl 2 rfl ?_
          refine g50_lengths C fl_X5_31 dX5_thereOf_46 ?_
          refine y_iload_n C dX5_thereOf_49 rfl 0 rfl ?_
          obtain ⟨hi8, hf⟩ := ck_e hf
          refine y_ialdR C a58 (j := a1.2.toNatClampNeg) rfl hi8 dX5_thereOf_50 ?_
          refine y_if_lt C 58 dX5_thereOf_51 (by decide) hf (fun hf => ?_) (fun hf => ?_)
          · refine y_iconst C (v := 0) dX5_thereOf_58 (by decide) ?_
            refine y_goto C 89 dX5_thereOf_59 (by decide) ?_
            refine y_iadd C dX5_thereOf_89 ?_
            obtain ⟨v9, e_v9, hf⟩ := lt_e hf
            refine y_istore_n C dX5_thereOf_90 rfl (Nat.le_of_ble_eq_true rfl) e_v9 (lv' := [(2, .int v9), (3, .int a1.2), (0, .ref (qAd E 50)), (1, .int x1)]) rfl ?_
            refine y_iinc C dX5_thereOf_91 1 rfl (Nat.le_of_ble_eq_true rfl) (k2 := 1) (by decide) rfl (lv' := [(3, .int (a1.2 + (1 : Int32))), (2, .int v9), (0, .ref (qAd E 50)), (1, .int x1)]) rfl ?_
            refine y_goto C 4 dX5_thereOf_94 (by decide) ?_
            refine y_sub [0, 1, 2, 3] rfl ?_
            exact ih_r2 (v9, (a1.2 + (1 : Int32))) hf
          · refine y_iconst C (v := 1) dX5_thereOf_54 (by decide) ?_
            refine y_goto C 89 dX5_thereOf_55 (by decide) ?_
            refine y_iadd C dX5_thereOf_89 ?_
            obtain ⟨v10, e_v10, hf⟩ := lt_e hf
            refine y_istore_n C dX5_thereOf_90 rfl (Nat.le_of_ble_eq_true rfl) e_v10 (lv' := [(2, .int v10), (3, .int a1.2), (0, .ref (qAd E 50)), (1, .int x1)]) rfl ?_
            refine y_iinc C dX5_thereOf_91 1 rfl (Nat.le_of_ble_eq_true rfl) (k2 := 1) (by decide) rfl (lv' := [(3, .int (a1.2 + (1 : Int32))), (2, .int v10), (0, .ref (qAd E 50)), (1, .int x1)]) rfl ?_
            refine y_goto C 4 dX5_thereOf_94 (by decide) ?_
            refine y_sub [0, 1, 2, 3] rfl ?_
            exact ih_r2 (v10, (a1.2 + (1 : Int32))) hf
    · refine y_aload_n C dX5_thereOf_17 rfl 2 rfl ?_
      refine g50_sizes C fl_X5_25 dX5_thereOf_18 ?_
      refine y_iload_n C dX5_thereOf_21 rfl 0 rfl ?_
      obtain ⟨hi11, hf⟩ := ck_e hf
      refine y_ialdR C a56 (j := a1.2.toNatClampNeg) rfl hi11 dX5_thereOf_22 ?_
      refine y_if_ge C 30 dX5_thereOf_23 (by decide) hf (fun hf => ?_) (fun hf => ?_)
      · refine y_iconst C (v := 1) dX5_thereOf_30 (by decide) ?_
        refine y_goto C 89 dX5_thereOf_31 (by decide) ?_
        refine y_iadd C dX5_thereOf_89 ?_
        obtain ⟨v12, e_v12, hf⟩ := lt_e hf
        refine y_istore_n C dX5_thereOf_90 rfl (Nat.le_of_ble_eq_true rfl) e_v12 (lv' := [(2, .int v12), (3, .int a1.2), (0, .ref (qAd E 50)), (1, .int x1)]) rfl ?_
        refine y_iinc C dX5_thereOf_91 1 rfl (Nat.le_of_ble_eq_true rfl) (k2 := 1) (by decide) rfl (lv' := [(3, .int (a1.2 + (1 : Int32))), (2, .int v12), (0, .ref (qAd E 50)), (1, .int x1)]) rfl ?_
        refine y_goto C 4 dX5_thereOf_94 (by decide) ?_
        refine y_sub [0, 1, 2, 3] rfl ?_
        exact ih_r2 (v12, (a1.2 + (1 : Int32))) hf
      · refine y_iconst C (v := 0) dX5_thereOf_26 (by decide) ?_
        refine y_goto C 89 dX5_thereOf_27 (by decide) ?_
        refine y_iadd C dX5_thereOf_89 ?_
        obtain ⟨v13, e_v13, hf⟩ := lt_e hf
        refine y_istore_n C dX5_thereOf_90 rfl (Nat.le_of_ble_eq_true rfl) e_v13 (lv' := [(2, .int v13), (3, .int a1.2), (0, .ref (qAd E 50)), (1, .int x1)]) rfl ?_
        refine y_iinc C dX5_thereOf_91 1 rfl (Nat.le_of_ble_eq_true rfl) (k2 := 1) (by decide) rfl (lv' := [(3, .int (a1.2 + (1 : Int32))), (2, .int v13), (0, .ref (qAd E 50)), (1, .int x1)]) rfl ?_
        refine y_goto C 4 dX5_thereOf_94 (by decide) ?_
        refine y_sub [0, 1, 2, 3] rfl ?_
        exact ih_r2 (v13, (a1.2 + (1 : Int32))) hf
noncomputable def fX5_countOf_50 (x1 : Int32) (τ : QS) : Option (Int32) :=
    (if x1 = (0 : Int32) then some (gI τ 1) else (if x1 = (1 : Int32) then some (gI τ 0) else (if x1 = (2 : Int32) then some (gM τ 51 1) else (if x1 = (3 : Int32) then some (gM τ 51 0) else (if x1 = (4 : Int32) then some (gM τ 51 2) else (if x1 = (5 : Int32) then some (gM τ 51 3) else (if x1 = (6 : Int32) then some (gM τ 51 5) else (if x1 = (7 : Int32) then Option.bind (fX5_clerks_50 τ) (fun (q1 : Int32) => some q1) else (Option.bind (fX5_thereOf_50 x1 τ) (fun (q2 : Int32) => some q2))))))))))
def rm_X5_countOf_50 : Room := { frames := 3, cells := 0, slots := 0, locals := 62 }
set_option maxRecDepth 100000 in
set_option maxHeartbeats 4000000 in
theorem kX5_countOf_50 (l : Launch) (E : QE) (σ τ : QS) (x1 : Int32) (q : Int32) (hf : fX5_countOf_50 x1 τ = some q) : KQ l yX5_countOf cX5_countOf 2 (some .int) rm_X5_countOf_50 E [.ref (qAd E 50), .int x1] σ τ (PI E q σ τ) := by
  unfold fX5_countOf_50 at hf
  refine y_met rfl (Nat.le_of_ble_eq_true rfl) rfl (fun p e s m below meth c C => ?_)
  refine y_iload_n C dX5_countOf_0 rfl 1 rfl ?_
  rcases Decidable.em (x1 = (0 : Int32)) with hs0 | hs0
  · replace hf := (if_pos hs0).symm.trans hf
    refine y_tsw C (off := 47) 48 hs0 dX5_countOf_1 (by decide) (by decide) (by decide) (by decide) ?_
    refine y_aload_n C dX5_countOf_48 rfl 0 rfl ?_
    refine g50_sitters C fl_X5_163 dX5_countOf_49 ?_
    exact y_iret C (Option.some.inj hf) rfl rfl dX5_countOf_52
  replace hf := (if_neg hs0).symm.trans hf
  rcases Decidable.em (x1 = (1 : Int32)) with hs1 | hs1
  · replace hf := (if_pos hs1).symm.trans hf
    refine y_tsw C (off := 52) 53 hs1 dX5_countOf_1 (by decide) (by decide) (by decide) (by decide) ?_
    refine y_aload_n C dX5_countOf_53 rfl 0 rfl ?_
    refine g50_scenes C fl_X5_160 dX5_countOf_54 ?_
    exact y_iret C (Option.some.inj hf) rfl rfl dX5_countOf_57
  replace hf := (if_neg hs1).symm.trans hf
  rcases Decidable.em (x1 = (2 : Int32)) with hs2 | hs2
  · replace hf := (if_pos hs2).symm.trans hf
    refine y_tsw C (off := 57) 58 hs2 dX5_countOf_1 (by decide) (by decide) (by decide) (by decide) ?_
    refine y_aload_n C dX5_countOf_58 rfl 0 rfl ?_
    refine g50_row C fl_X5_7 dX5_countOf_59 ?_
    refine y_iconst C (v := 1) dX5_countOf_62 (by decide) ?_
    refine y_ialdR C a51 (j := 1) (by decide) (by decide) dX5_countOf_63 ?_
    exact y_iret C (Option.some.inj hf) rfl rfl dX5_countOf_64
  replace hf := (if_neg hs2).symm.trans hf
  rcases Decidable.em (x1 = (3 : Int32)) with hs3 | hs3
  · replace hf := (if_pos hs3).symm.trans hf
    refine y_tsw C (off := 64) 65 hs3 dX5_countOf_1 (by decide) (by decide) (by decide) (by decide) ?_
    refine y_aload_n C dX5_countOf_65 rfl 0 rfl ?_
    refine g50_row C fl_X5_7 dX5_countOf_66 ?_
    refine y_iconst C (v := 0) dX5_countOf_69 (by decide) ?_
    refine y_ialdR C a51 (j := 0) (by decide) (by decide) dX5_countOf_70 ?_
    exact y_iret C (Option.some.inj hf) rfl rfl dX5_countOf_71
  replace hf := (if_neg hs3).symm.trans hf
  rcases Decidable.em (x1 = (4 : Int32)) with hs4 | hs4
  · replace hf := (if_pos hs4).symm.trans hf
    refine y_tsw C (off := 71) 72 hs4 dX5_countOf_1 (by decide) (by decide) (by decide) (by decide) ?_
    refine y_aload_n C dX5_countOf_72 rfl 0 rfl ?_
    refine g50_row C fl_X5_7 dX5_countOf_73 ?_
    refine y_iconst C (v := 2) dX5_countOf_76 (by decide) ?_
    refine y_ialdR C a51 (j := 2) (by decide) (by decide) dX5_countOf_77 ?_
    exact y_iret C (Option.some.inj hf) rfl rfl dX5_countOf_78
  replace hf := (if_neg hs4).symm.trans hf
  rcases Decidable.em (x1 = (5 : Int32)) with hs5 | hs5
  · replace hf := (if_pos hs5).symm.trans hf
    refine y_tsw C (off := 78) 79 hs5 dX5_countOf_1 (by decide) (by decide) (by decide) (by decide) ?_
    refine y_aload_n C dX5_countOf_79 rfl 0 rfl ?_
    refine g50_row C fl_X5_7 dX5_countOf_80 ?_
    refine y_iconst C (v := 3) dX5_countOf_83 (by decide) ?_
    refine y_ialdR C a51 (j := 3) (by decide) (by decide) dX5_countOf_84 ?_
    exact y_iret C (Option.some.inj hf) rfl rfl dX5_countOf_85
  replace hf := (if_neg hs5).symm.trans hf
  rcases Decidable.em (x1 = (6 : Int32)) with hs6 | hs6
  · replace hf := (if_pos hs6).symm.trans hf
    refine y_tsw C (off := 85) 86 hs6 dX5_countOf_1 (by decide) (by decide) (by decide) (by decide) ?_
    refine y_aload_n C dX5_countOf_86 rfl 0 rfl ?_
    refine g50_row C fl_X5_7 dX5_countOf_87 ?_
    refine y_iconst C (v := 5) dX5_countOf_90 (by decide) ?_
    refine y_ialdR C a51 (j := 5) (by decide) (by decide) dX5_countOf_91 ?_
    exact y_iret C (Option.some.inj hf) rfl rfl dX5_countOf_92
  replace hf := (if_neg hs6).symm.trans hf
  rcases Decidable.em (x1 = (7 : Int32)) with hs7 | hs7
  · replace hf := (if_pos hs7).symm.trans hf
    refine y_tsw C (off := 92) 93 hs7 dX5_countOf_1 (by decide) (by decide) (by decide) (by decide) ?_
    refine y_aload_n C dX5_countOf_93 rfl 0 rfl ?_
    obtain ⟨q1, h_q1, hf⟩ := bd_e hf
    refine y_cVi C (kX5_clerks_50 l E σ τ _ h_q1) vi_X5_clerks ml_X5_322 ⟨5, _, o50, rfl, rfl⟩ rfl ⟨rfl, rfl, Nat.le_of_ble_eq_true rfl, Nat.le_of_ble_eq_true rfl⟩ dX5_countOf_94 rfl (Nat.le_of_ble_eq_true rfl) ?_
    exact y_iret C (Option.some.inj hf) rfl rfl dX5_countOf_97
  replace hf := (if_neg hs7).symm.trans hf
  have hsn0 := lv_neT hs0 (a := 0) (by decide)
  have hsn1 := lv_neT hs1 (a := 1) (by decide)
  have hsn2 := lv_neT hs2 (a := 2) (by decide)
  have hsn3 := lv_neT hs3 (a := 3) (by decide)
  have hsn4 := lv_neT hs4 (a := 4) (by decide)
  have hsn5 := lv_neT hs5 (a := 5) (by decide)
  have hsn6 := lv_neT hs6 (a := 6) (by decide)
  have hsn7 := lv_neT hs7 (a := 7) (by decide)
  refine y_tswD C 98 dX5_countOf_1 (by omega) (by decide) ?_
  refine y_aload_n C dX5_countOf_98 rfl 0 rfl ?_
  refine y_iload_n C dX5_countOf_99 rfl 1 rfl ?_
  obtain ⟨q2, h_q2, hf⟩ := bd_e hf
  refine y_cVi C (kX5_thereOf_50 l E σ τ x1 _ h_q2) vi_X5_thereOf ml_X5_325 ⟨5, _, o50, rfl, rfl⟩ rfl ⟨rfl, rfl, Nat.le_of_ble_eq_true rfl, Nat.le_of_ble_eq_true rfl⟩ dX5_countOf_100 rfl (Nat.le_of_ble_eq_true rfl) ?_
  exact y_iret C (Option.some.inj hf) rfl rfl dX5_countOf_103
noncomputable def fX5_count_50 (x1 : Int32) (τ : QS) : Option (Int32) :=
    (if (fX5_in x1.toInt64 (0 : Int64) (10 : Int64)) = 0 then some (-1 : Int32) else Option.bind (fX5_countOf_50 x1 τ) (fun (q1 : Int32) => some q1))
def rm_X5_count_50 : Room := { frames := 4, cells := 0, slots := 0, locals := 83 }
set_option maxRecDepth 100000 in
set_option maxHeartbeats 4000000 in
theorem kX5_count_50 (l : Launch) (E : QE) (σ τ : QS) (x1 : Int32) (q : Int32) (hf : fX5_count_50 x1 τ = some q) : KQ l yX5_count cX5_count 2 (some .int) rm_X5_count_50 E [.ref (qAd E 50), .int x1] σ τ (PI E q σ τ) := by
  unfold fX5_count_50 at hf
  refine y_met rfl (Nat.le_of_ble_eq_true rfl) rfl (fun p e s m below meth c C => ?_)
  refine y_iload_n C dX5_count_0 rfl 1 rfl ?_
  refine y_i2l C dX5_count_1 ?_
  refine y_lconst C (v := 0) dX5_count_2 (by decide) ?_
  refine y_ldc2 C kl_X5_328 dX5_count_3 ?_
  refine y_cSi C (kX5_in l E σ τ x1.toInt64 (0 : Int64) (10 : Int64) _ rfl) si_X5_in ml_X5_77 rfl ⟨rfl, rfl, Nat.le_of_ble_eq_true rfl, Nat.le_of_ble_eq_true rfl⟩ dX5_count_6 rfl (Nat.le_of_ble_eq_true rfl) ?_
  refine y_if_eq C 20 dX5_count_9 (by decide) hf (fun hf => ?_) (fun hf => ?_)
  · refine y_iconst C (v := -1) dX5_count_20 (by decide) ?_
    exact y_iret C (Option.some.inj hf) rfl rfl dX5_count_21
  · refine y_aload_n C dX5_count_12 rfl 0 rfl ?_
    refine y_iload_n C dX5_count_13 rfl 1 rfl ?_
    obtain ⟨q1, h_q1, hf⟩ := bd_e hf
    refine y_cVi C (kX5_countOf_50 l E σ τ x1 _ h_q1) vi_X5_countOf ml_X5_330 ⟨5, _, o50, rfl, rfl⟩ rfl ⟨rfl, rfl, Nat.le_of_ble_eq_true rfl, Nat.le_of_ble_eq_true rfl⟩ dX5_count_14 rfl (Nat.le_of_ble_eq_true rfl) ?_
    refine y_goto C 21 dX5_count_17 (by decide) ?_
    exact y_iret C (Option.some.inj hf) rfl rfl dX5_count_21
noncomputable def fX4_applause_0  (σ : QS) : Int32 :=
    ((gI σ 17) + (1000 : Int32))
def rm_X4_applause_0 : Room := { frames := 0, cells := 0, slots := 0, locals := 0 }
set_option maxRecDepth 100000 in
set_option maxHeartbeats 4000000 in
theorem kX4_applause_0 (l : Launch) (E : QE) (σ τ : QS)  (q : Int32) (hf : fX4_applause_0 σ = q) : KQ l yX4_applause cX4_applause 1 (some .int) rm_X4_applause_0 E [.ref (qAd E 0)] σ τ (PI E q σ τ) := by
  unfold fX4_applause_0 at hf
  refine y_met rfl (Nat.le_of_ble_eq_true rfl) rfl (fun p e s m below meth c C => ?_)
  refine y_aload_n C dX4_applause_0 rfl 0 rfl ?_
  refine g0_night C fl_X4_39 dX4_applause_1 ?_
  refine gN6_clapping C fn_X4_289 dX4_applause_4 ?_
  refine y_sipush C (v := 1000) dX4_applause_7 (by decide) ?_
  refine y_iadd C dX4_applause_10 ?_
  exact y_iret C hf rfl rfl dX4_applause_11
noncomputable def fX5_applause_50  (τ : QS) : Int32 :=
    ((1000 : Int32) + (gM τ 51 4))
def rm_X5_applause_50 : Room := { frames := 0, cells := 0, slots := 0, locals := 0 }
set_option maxRecDepth 100000 in
set_option maxHeartbeats 4000000 in
theorem kX5_applause_50 (l : Launch) (E : QE) (σ τ : QS)  (q : Int32) (hf : fX5_applause_50 τ = q) : KQ l yX5_applause cX5_applause 1 (some .int) rm_X5_applause_50 E [.ref (qAd E 50)] σ τ (PI E q σ τ) := by
  unfold fX5_applause_50 at hf
  refine y_met rfl (Nat.le_of_ble_eq_true rfl) rfl (fun p e s m below meth c C => ?_)
  refine y_sipush C (v := 1000) dX5_applause_0 (by decide) ?_
  refine y_aload_n C dX5_applause_3 rfl 0 rfl ?_
  refine g50_row C fl_X5_7 dX5_applause_4 ?_
  refine y_iconst C (v := 4) dX5_applause_7 (by decide) ?_
  refine y_ialdR C a51 (j := 4) (by decide) (by decide) dX5_applause_8 ?_
  refine y_iadd C dX5_applause_9 ?_
  exact y_iret C hf rfl rfl dX5_applause_10
noncomputable def fX4_finding_0  (σ : QS) : Int32 :=
    (gI σ 0)
def rm_X4_finding_0 : Room := { frames := 0, cells := 0, slots := 0, locals := 0 }
set_option maxRecDepth 100000 in
set_option maxHeartbeats 4000000 in
theorem kX4_finding_0 (l : Launch) (E : QE) (σ τ : QS)  (q : Int32) (hf : fX4_finding_0 σ = q) : KQ l yX4_finding cX4_finding 1 (some .int) rm_X4_finding_0 E [.ref (qAd E 0)] σ τ (PI E q σ τ) := by
  unfold fX4_finding_0 at hf
  refine y_met rfl (Nat.le_of_ble_eq_true rfl) rfl (fun p e s m below meth c C => ?_)
  refine y_aload_n C dX4_finding_0 rfl 0 rfl ?_
  refine g0_lastFinding C fl_X4_292 dX4_finding_1 ?_
  exact y_iret C hf rfl rfl dX4_finding_4
noncomputable def fX5_finding_50  (τ : QS) : Int32 :=
    (gI τ 3)
def rm_X5_finding_50 : Room := { frames := 0, cells := 0, slots := 0, locals := 0 }
set_option maxRecDepth 100000 in
set_option maxHeartbeats 4000000 in
theorem kX5_finding_50 (l : Launch) (E : QE) (σ τ : QS)  (q : Int32) (hf : fX5_finding_50 τ = q) : KQ l yX5_finding cX5_finding 1 (some .int) rm_X5_finding_50 E [.ref (qAd E 50)] σ τ (PI E q σ τ) := by
  unfold fX5_finding_50 at hf
  refine y_met rfl (Nat.le_of_ble_eq_true rfl) rfl (fun p e s m below meth c C => ?_)
  refine y_aload_n C dX5_finding_0 rfl 0 rfl ?_
  refine g50_finding C fl_X5_68 dX5_finding_1 ?_
  exact y_iret C hf rfl rfl dX5_finding_4
noncomputable def fX4_findings_0 (x1 : Int32) (σ : QS) : Option (Int32) :=
    (if x1 < (1 : Int32) then some (-1 : Int32) else (if x1 ≤ (5 : Int32) then ck_ (inb x1 6) (some (gM σ 8 x1.toNatClampNeg)) else some (-1 : Int32)))
def rm_X4_findings_0 : Room := { frames := 0, cells := 0, slots := 0, locals := 0 }
set_option maxRecDepth 100000 in
set_option maxHeartbeats 4000000 in
theorem kX4_findings_0 (l : Launch) (E : QE) (σ τ : QS) (x1 : Int32) (q : Int32) (hf : fX4_findings_0 x1 σ = some q) : KQ l yX4_findings cX4_findings 2 (some .int) rm_X4_findings_0 E [.ref (qAd E 0), .int x1] σ τ (PI E q σ τ) := by
  unfold fX4_findings_0 at hf
  refine y_met rfl (Nat.le_of_ble_eq_true rfl) rfl (fun p e s m below meth c C => ?_)
  refine y_iload_n C dX4_findings_0 rfl 1 rfl ?_
  refine y_iconst C (v := 1) dX4_findings_1 (by decide) ?_
  refine y_icmp_lt C 10 dX4_findings_2 (by decide) hf (fun hf => ?_) (fun hf => ?_)
  · refine y_iconst C (v := -1) dX4_findings_10 (by decide) ?_
    refine y_goto C 20 dX4_findings_11 (by decide) ?_
    exact y_iret C (Option.some.inj hf) rfl rfl dX4_findings_20
  · refine y_iload_n C dX4_findings_5 rfl 1 rfl ?_
    refine y_iconst C (v := 5) dX4_findings_6 (by decide) ?_
    refine y_icmp_le C 14 dX4_findings_7 (by decide) hf (fun hf => ?_) (fun hf => ?_)
    · refine y_aload_n C dX4_findings_14 rfl 0 rfl ?_
      refine g0_foundTimes C fl_X4_52 dX4_findings_15 ?_
      refine y_iload_n C dX4_findings_18 rfl 1 rfl ?_
      obtain ⟨hi1, hf⟩ := ck_e hf
      refine y_ialdC C a8 (j := x1.toNatClampNeg) rfl hi1 dX4_findings_19 ?_
      exact y_iret C (Option.some.inj hf) rfl rfl dX4_findings_20
    · refine y_iconst C (v := -1) dX4_findings_10 (by decide) ?_
      refine y_goto C 20 dX4_findings_11 (by decide) ?_
      exact y_iret C (Option.some.inj hf) rfl rfl dX4_findings_20
noncomputable def fX5_findings_50 (x1 : Int32) (τ : QS) : Option (Int32) :=
    (if (fX5_in x1.toInt64 (1 : Int64) (5 : Int64)) = 0 then some (-1 : Int32) else ck_ (inb x1 6) (some (gM τ 60 x1.toNatClampNeg)))
def rm_X5_findings_50 : Room := { frames := 1, cells := 0, slots := 0, locals := 25 }
set_option maxRecDepth 100000 in
set_option maxHeartbeats 4000000 in
theorem kX5_findings_50 (l : Launch) (E : QE) (σ τ : QS) (x1 : Int32) (q : Int32) (hf : fX5_findings_50 x1 τ = some q) : KQ l yX5_findings cX5_findings 2 (some .int) rm_X5_findings_50 E [.ref (qAd E 50), .int x1] σ τ (PI E q σ τ) := by
  unfold fX5_findings_50 at hf
  refine y_met rfl (Nat.le_of_ble_eq_true rfl) rfl (fun p e s m below meth c C => ?_)
  refine y_iload_n C dX5_findings_0 rfl 1 rfl ?_
  refine y_i2l C dX5_findings_1 ?_
  refine y_lconst C (v := 1) dX5_findings_2 (by decide) ?_
  refine y_ldc2 C kl_X5_75 dX5_findings_3 ?_
  refine y_cSi C (kX5_in l E σ τ x1.toInt64 (1 : Int64) (5 : Int64) _ rfl) si_X5_in ml_X5_77 rfl ⟨rfl, rfl, Nat.le_of_ble_eq_true rfl, Nat.le_of_ble_eq_true rfl⟩ dX5_findings_6 rfl (Nat.le_of_ble_eq_true rfl) ?_
  refine y_if_eq C 21 dX5_findings_9 (by decide) hf (fun hf => ?_) (fun hf => ?_)
  · refine y_iconst C (v := -1) dX5_findings_21 (by decide) ?_
    exact y_iret C (Option.some.inj hf) rfl rfl dX5_findings_22
  · refine y_aload_n C dX5_findings_12 rfl 0 rfl ?_
    refine g50_findings C fl_X5_41 dX5_findings_13 ?_
    refine y_iload_n C dX5_findings_16 rfl 1 rfl ?_
    obtain ⟨hi1, hf⟩ := ck_e hf
    refine y_ialdR C a60 (j := x1.toNatClampNeg) rfl hi1 dX5_findings_17 ?_
    refine y_goto C 22 dX5_findings_18 (by decide) ?_
    exact y_iret C (Option.some.inj hf) rfl rfl dX5_findings_22
noncomputable def fX3_digestFrom_1 (x1 : Int64) (σ : QS) : Option (Int64) :=
    lp_ (fun (r2 : Int64 × Int32 → Option (Int64)) (a1 : Int64 × Int32) => (if (6 : Int32) ≤ a1.2 then some a1.1 else ck_ (inb a1.2 6) (lt_ (((31 : Int64) * a1.1) + (gM σ 10 a1.2.toNatClampNeg).toInt64) (fun (v4 : Int64) => lp_ (fun (r6 : Int64 × Int32 → Option (Int64)) (a5 : Int64 × Int32) => ck_ (inb a1.2 6) ((if (gM σ 10 a1.2.toNatClampNeg) ≤ a5.2 then r2 (a5.1, (a1.2 + (1 : Int32))) else ck_ (inb a1.2 6) (ck_ (inb a5.2 40) (lt_ (((31 : Int64) * a5.1) + (gM σ (30 + a1.2.toNatClampNeg) a5.2.toNatClampNeg).toInt64) (fun (v10 : Int64) => r6 (v10, (a5.2 + (1 : Int32))))))))) FV (v4, (0 : Int32)))))) FV (x1, (0 : Int32))
def rm_X3_digestFrom_1 : Room := { frames := 0, cells := 0, slots := 0, locals := 0 }
set_option maxRecDepth 100000 in
set_option maxHeartbeats 4000000 in
theorem kX3_digestFrom_1 (l : Launch) (E : QE) (σ τ : QS) (x1 : Int64) (q : Int64) (hf : fX3_digestFrom_1 x1 σ = some q) : KQ l yX3_digestFrom cX3_digestFrom 7 (some .long) rm_X3_digestFrom_1 E [.ref (qAd E 1), .long x1] σ τ (PL E q σ τ) := by
  unfold fX3_digestFrom_1 at hf
  refine y_met rfl (Nat.le_of_ble_eq_true rfl) rfl (fun p e s m below meth c C => ?_)
  refine y_lload_n C dX3_digestFrom_0 rfl 1 rfl ?_
  refine y_lstore_n C dX3_digestFrom_1 rfl (Nat.le_of_ble_eq_true rfl) rfl (lv' := [(3, .long x1), (0, .ref (qAd E 1)), (1, .long x1)]) rfl ?_
  refine y_iconst C (v := 0) dX3_digestFrom_2 (by decide) ?_
  refine y_istore C dX3_digestFrom_3 (Nat.le_of_ble_eq_true rfl) rfl (lv' := [(5, .int (0 : Int32)), (3, .long x1), (0, .ref (qAd E 1)), (1, .long x1)]) rfl ?_
  refine y_sub [0, 1, 2] rfl ?_
  refine lp_ind (P := fun a1 : Int64 × Int32 => Y E p l e rm_X3_digestFrom_1 s m ([.ref (qAd E 1), .long x1] : List Value).toArray below meth c 7 (MQ below (PL E q σ τ) ([.ref (qAd E 1), .long x1] : List Value).toArray s 0 0 (qA E)) σ τ 5 [(5, .int a1.2), (3, .long a1.1), (0, .ref (qAd E 1))] []) (fun r2 a1 ih_r2 hf => ?_) _ _ hf
  refine y_iload C dX3_digestFrom_5 0 rfl ?_
  refine y_aload_n C dX3_digestFrom_7 rfl 2 rfl ?_
  refine g1_sizes C fl_X3_14 dX3_digestFrom_8 ?_
  refine y_alenC C a10 (v := 6) (by decide) dX3_digestFrom_11 ?_
  refine y_icmp_ge C 75 dX3_digestFrom_12 (by decide) hf (fun hf => ?_) (fun hf => ?_)
  · refine y_lload_n C dX3_digestFrom_75 rfl 1 rfl ?_
    exact y_lret C (Option.some.inj hf) rfl rfl dX3_digestFrom_76
  · refine y_ldc2 C kl_X3_49 dX3_digestFrom_15 ?_
    refine y_lload_n C dX3_digestFrom_18 rfl 1 rfl ?_
    refine y_lmul C dX3_digestFrom_19 ?_
    refine y_aload_n C dX3_digestFrom_20 rfl 2 rfl ?_
    refine g1_sizes C fl_X3_14 dX3_digestFrom_21 ?_
    refine y_iload C dX3_digestFrom_24 0 rfl ?_
    obtain ⟨hi3, hf⟩ := ck_e hf
    refine y_ialdC C a10 (j := a1.2.toNatClampNeg) rfl hi3 dX3_digestFrom_26 ?_
    refine y_i2l C dX3_digestFrom_27 ?_
    refine y_ladd C dX3_digestFrom_28 ?_
    obtain ⟨v4, e_v4, hf⟩ := lt_e hf
    refine y_lstore_n C dX3_digestFrom_29 rfl (Nat.le_of_ble_eq_true rfl) e_v4 (lv' := [(3, .long v4), (5, .int a1.2), (0, .ref (qAd E 1))]) rfl ?_
    refine y_iconst C (v := 0) dX3_digestFrom_30 (by decide) ?_
    refine y_istore C dX3_digestFrom_31 (Nat.le_of_ble_eq_true rfl) rfl (lv' := [(6, .int (0 : Int32)), (3, .long v4), (5, .int a1.2), (0, .ref (qAd E 1))]) rfl ?_
    refine y_sub [0, 1, 2, 3] rfl ?_
    refine lp_ind (P := fun a5 : Int64 × Int32 => Y E p l e rm_X3_digestFrom_1 s m ([.ref (qAd E 1), .long x1] : List Value).toArray below meth c 7 (MQ below (PL E q σ τ) ([.ref (qAd E 1), .long x1] : List Value).toArray s 0 0 (qA E)) σ τ 33 [(6, .int a5.2), (3, .long a5.1), (5, .int a1.2), (0, .ref (qAd E 1))] []) (fun r6 a5 ih_r6 hf => ?_) _ _ hf
    refine y_iload C dX3_digestFrom_33 0 rfl ?_
    refine y_aload_n C dX3_digestFrom_35 rfl 3 rfl ?_
    refine g1_sizes C fl_X3_14 dX3_digestFrom_36 ?_
    refine y_iload C dX3_digestFrom_39 2 rfl ?_
    obtain ⟨hi7, hf⟩ := ck_e hf
    refine y_ialdC C a10 (j := a1.2.toNatClampNeg) rfl hi7 dX3_digestFrom_41 ?_
    refine y_icmp_ge C 69 dX3_digestFrom_42 (by decide) hf (fun hf => ?_) (fun hf => ?_)
    · refine y_iinc C dX3_digestFrom_69 2 rfl (Nat.le_of_ble_eq_true rfl) (k2 := 1) (by decide) rfl (lv' := [(5, .int (a1.2 + (1 : Int32))), (6, .int a5.2), (3, .long a5.1), (0, .ref (qAd E 1))]) rfl ?_
      refine y_goto C 5 dX3_digestFrom_72 (by decide) ?_
      refine y_sub [0, 2, 3] rfl ?_
      exact ih_r2 (a5.1, (a1.2 + (1 : Int32))) hf
    · refine y_ldc2 C kl_X3_49 dX3_digestFrom_45 ?_
      refine y_lload_n C dX3_digestFrom_48 rfl 1 rfl ?_
      refine y_lmul C dX3_digestFrom_49 ?_
      refine y_aload_n C dX3_digestFrom_50 rfl 3 rfl ?_
      refine g1_items C fl_X3_9 dX3_digestFrom_51 ?_
      refine y_iload C dX3_digestFrom_54 2 rfl ?_
      obtain ⟨hi8, hf⟩ := ck_e hf
      refine y_aald C q9 hi8 dX3_digestFrom_56 ?_
      refine y_iload C dX3_digestFrom_57 0 rfl ?_
      obtain ⟨hi9, hf⟩ := ck_e hf
      refine y_ialdC C (in9 (inb_e hi8)) (j := a5.2.toNatClampNeg) rfl hi9 dX3_digestFrom_59 ?_
      refine y_i2l C dX3_digestFrom_60 ?_
      refine y_ladd C dX3_digestFrom_61 ?_
      obtain ⟨v10, e_v10, hf⟩ := lt_e hf
      refine y_lstore_n C dX3_digestFrom_62 rfl (Nat.le_of_ble_eq_true rfl) e_v10 (lv' := [(3, .long v10), (6, .int a5.2), (5, .int a1.2), (0, .ref (qAd E 1))]) rfl ?_
      refine y_iinc C dX3_digestFrom_63 1 rfl (Nat.le_of_ble_eq_true rfl) (k2 := 1) (by decide) rfl (lv' := [(6, .int (a5.2 + (1 : Int32))), (3, .long v10), (5, .int a1.2), (0, .ref (qAd E 1))]) rfl ?_
      refine y_goto C 33 dX3_digestFrom_66 (by decide) ?_
      refine y_sub [0, 1, 2, 3] rfl ?_
      exact ih_r6 (v10, (a5.2 + (1 : Int32))) hf
noncomputable def fX3_digestFrom_2 (x1 : Int64) (σ : QS) : Option (Int64) :=
    lp_ (fun (r2 : Int64 × Int32 → Option (Int64)) (a1 : Int64 × Int32) => (if (4 : Int32) ≤ a1.2 then some a1.1 else ck_ (inb a1.2 4) (lt_ (((31 : Int64) * a1.1) + (gM σ 12 a1.2.toNatClampNeg).toInt64) (fun (v4 : Int64) => lp_ (fun (r6 : Int64 × Int32 → Option (Int64)) (a5 : Int64 × Int32) => ck_ (inb a1.2 4) ((if (gM σ 12 a1.2.toNatClampNeg) ≤ a5.2 then r2 (a5.1, (a1.2 + (1 : Int32))) else ck_ (inb a1.2 4) (ck_ (inb a5.2 60) (lt_ (((31 : Int64) * a5.1) + (gM σ (36 + a1.2.toNatClampNeg) a5.2.toNatClampNeg).toInt64) (fun (v10 : Int64) => r6 (v10, (a5.2 + (1 : Int32))))))))) FV (v4, (0 : Int32)))))) FV (x1, (0 : Int32))
def rm_X3_digestFrom_2 : Room := { frames := 0, cells := 0, slots := 0, locals := 0 }
set_option maxRecDepth 100000 in
set_option maxHeartbeats 4000000 in
theorem kX3_digestFrom_2 (l : Launch) (E : QE) (σ τ : QS) (x1 : Int64) (q : Int64) (hf : fX3_digestFrom_2 x1 σ = some q) : KQ l yX3_digestFrom cX3_digestFrom 7 (some .long) rm_X3_digestFrom_2 E [.ref (qAd E 2), .long x1] σ τ (PL E q σ τ) := by
  unfold fX3_digestFrom_2 at hf
  refine y_met rfl (Nat.le_of_ble_eq_true rfl) rfl (fun p e s m below meth c C => ?_)
  refine y_lload_n C dX3_digestFrom_0 rfl 1 rfl ?_
  refine y_lstore_n C dX3_digestFrom_1 rfl (Nat.le_of_ble_eq_true rfl) rfl (lv' := [(3, .long x1), (0, .ref (qAd E 2)), (1, .long x1)]) rfl ?_
  refine y_iconst C (v := 0) dX3_digestFrom_2 (by decide) ?_
  refine y_istore C dX3_digestFrom_3 (Nat.le_of_ble_eq_true rfl) rfl (lv' := [(5, .int (0 : Int32)), (3, .long x1), (0, .ref (qAd E 2)), (1, .long x1)]) rfl ?_
  refine y_sub [0, 1, 2] rfl ?_
  refine lp_ind (P := fun a1 : Int64 × Int32 => Y E p l e rm_X3_digestFrom_2 s m ([.ref (qAd E 2), .long x1] : List Value).toArray below meth c 7 (MQ below (PL E q σ τ) ([.ref (qAd E 2), .long x1] : List Value).toArray s 0 0 (qA E)) σ τ 5 [(5, .int a1.2), (3, .long a1.1), (0, .ref (qAd E 2))] []) (fun r2 a1 ih_r2 hf => ?_) _ _ hf
  refine y_iload C dX3_digestFrom_5 0 rfl ?_
  refine y_aload_n C dX3_digestFrom_7 rfl 2 rfl ?_
  refine g2_sizes C fl_X3_14 dX3_digestFrom_8 ?_
  refine y_alenC C a12 (v := 4) (by decide) dX3_digestFrom_11 ?_
  refine y_icmp_ge C 75 dX3_digestFrom_12 (by decide) hf (fun hf => ?_) (fun hf => ?_)
  · refine y_lload_n C dX3_digestFrom_75 rfl 1 rfl ?_
    exact y_lret C (Option.some.inj hf) rfl rfl dX3_digestFrom_76
  · refine y_ldc2 C kl_X3_49 dX3_digestFrom_15 ?_
    refine y_lload_n C dX3_digestFrom_18 rfl 1 rfl ?_
    refine y_lmul C dX3_digestFrom_19 ?_
    refine y_aload_n C dX3_digestFrom_20 rfl 2 rfl ?_
    refine g2_sizes C fl_X3_14 dX3_digestFrom_21 ?_
    refine y_iload C dX3_digestFrom_24 0 rfl ?_
    obtain ⟨hi3, hf⟩ := ck_e hf
    refine y_ialdC C a12 (j := a1.2.toNatClampNeg) rfl hi3 dX3_digestFrom_26 ?_
    refine y_i2l C dX3_digestFrom_27 ?_
    refine y_ladd C dX3_digestFrom_28 ?_
    obtain ⟨v4, e_v4, hf⟩ := lt_e hf
    refine y_lstore_n C dX3_digestFrom_29 rfl (Nat.le_of_ble_eq_true rfl) e_v4 (lv' := [(3, .long v4), (5, .int a1.2), (0, .ref (qAd E 2))]) rfl ?_
    refine y_iconst C (v := 0) dX3_digestFrom_30 (by decide) ?_
    refine y_istore C dX3_digestFrom_31 (Nat.le_of_ble_eq_true rfl) rfl (lv' := [(6, .int (0 : Int32)), (3, .long v4), (5, .int a1.2), (0, .ref (qAd E 2))]) rfl ?_
    refine y_sub [0, 1, 2, 3] rfl ?_
    refine lp_ind (P := fun a5 : Int64 × Int32 => Y E p l e rm_X3_digestFrom_2 s m ([.ref (qAd E 2), .long x1] : List Value).toArray below meth c 7 (MQ below (PL E q σ τ) ([.ref (qAd E 2), .long x1] : List Value).toArray s 0 0 (qA E)) σ τ 33 [(6, .int a5.2), (3, .long a5.1), (5, .int a1.2), (0, .ref (qAd E 2))] []) (fun r6 a5 ih_r6 hf => ?_) _ _ hf
    refine y_iload C dX3_digestFrom_33 0 rfl ?_
    refine y_aload_n C dX3_digestFrom_35 rfl 3 rfl ?_
    refine g2_sizes C fl_X3_14 dX3_digestFrom_36 ?_
    refine y_iload C dX3_digestFrom_39 2 rfl ?_
    obtain ⟨hi7, hf⟩ := ck_e hf
    refine y_ialdC C a12 (j := a1.2.toNatClampNeg) rfl hi7 dX3_digestFrom_41 ?_
    refine y_icmp_ge C 69 dX3_digestFrom_42 (by decide) hf (fun hf => ?_) (fun hf => ?_)
    · refine y_iinc C dX3_digestFrom_69 2 rfl (Nat.le_of_ble_eq_true rfl) (k2 := 1) (by decide) rfl (lv' := [(5, .int (a1.2 + (1 : Int32))), (6, .int a5.2), (3, .long a5.1), (0, .ref (qAd E 2))]) rfl ?_
      refine y_goto C 5 dX3_digestFrom_72 (by decide) ?_
      refine y_sub [0, 2, 3] rfl ?_
      exact ih_r2 (a5.1, (a1.2 + (1 : Int32))) hf
    · refine y_ldc2 C kl_X3_49 dX3_digestFrom_45 ?_
      refine y_lload_n C dX3_digestFrom_48 rfl 1 rfl ?_
      refine y_lmul C dX3_digestFrom_49 ?_
      refine y_aload_n C dX3_digestFrom_50 rfl 3 rfl ?_
      refine g2_items C fl_X3_9 dX3_digestFrom_51 ?_
      refine y_iload C dX3_digestFrom_54 2 rfl ?_
      obtain ⟨hi8, hf⟩ := ck_e hf
      refine y_aald C q11 hi8 dX3_digestFrom_56 ?_
      refine y_iload C dX3_digestFrom_57 0 rfl ?_
      obtain ⟨hi9, hf⟩ := ck_e hf
      refine y_ialdC C (in11 (inb_e hi8)) (j := a5.2.toNatClampNeg) rfl hi9 dX3_digestFrom_59 ?_
      refine y_i2l C dX3_digestFrom_60 ?_
      refine y_ladd C dX3_digestFrom_61 ?_
      obtain ⟨v10, e_v10, hf⟩ := lt_e hf
      refine y_lstore_n C dX3_digestFrom_62 rfl (Nat.le_of_ble_eq_true rfl) e_v10 (lv' := [(3, .long v10), (6, .int a5.2), (5, .int a1.2), (0, .ref (qAd E 2))]) rfl ?_
      refine y_iinc C dX3_digestFrom_63 1 rfl (Nat.le_of_ble_eq_true rfl) (k2 := 1) (by decide) rfl (lv' := [(6, .int (a5.2 + (1 : Int32))), (3, .long v10), (5, .int a1.2), (0, .ref (qAd E 2))]) rfl ?_
      refine y_goto C 33 dX3_digestFrom_66 (by decide) ?_
      refine y_sub [0, 1, 2, 3] rfl ?_
      exact ih_r6 (v10, (a5.2 + (1 : Int32))) hf
noncomputable def fX4_digest_0  (σ : QS) : Option (Int64) :=
    lp_ (fun (r2 : Int64 × Int32 → Option (Int64)) (a1 : Int64 × Int32) => (if (11 : Int32) ≤ a1.2 then lt_ ((((31 : Int64) * a1.1) + (gI σ 17).toInt64) + (1000 : Int64)) (fun (v3 : Int64) => lp_ (fun (r5 : Int64 × Int32 → Option (Int64)) (a4 : Int64 × Int32) => (if (gI σ 8) ≤ a4.2 then lp_ (fun (r7 : Int64 × Int32 → Option (Int64)) (a6 : Int64 × Int32) => (if (gI σ 9) ≤ a6.2 then lp_ (fun (r9 : Int64 × Int32 → Option (Int64)) (a8 : Int64 × Int32) => (if (3 : Int32) ≤ a8.2 then Option.bind (fX3_digestFrom_1 a8.1 σ) (fun (q10 : Int64) => Option.bind (fX3_digestFrom_2 q10 σ) (fun (q11 : Int64) => some q11)) else Option.bind (fX3_size_3 a8.2 σ) (fun (q12 : Int32) => lt_ (((31 : Int64) * a8.1) + q12.toInt64) (fun (v13 : Int64) => r9 (v13, (a8.2 + (1 : Int32))))))) FV (a6.1, (0 : Int32)) else lp_ (fun (r15 : Int64 × Int32 → Option (Int64)) (a14 : Int64 × Int32) => (if (8 : Int32) ≤ a14.2 then r7 (a14.1, (a6.2 + (1 : Int32))) else Option.bind (fX0_whatOfSitter_6 a6.2 a14.2 σ) (fun (q16 : Int32) => lt_ (((31 : Int64) * a14.1) + q16.toInt64) (fun (v17 : Int64) => r15 (v17, (a14.2 + (1 : Int32))))))) FV (a6.1, (0 : Int32)))) FV (a4.1, (0 : Int32)) else ck_ (inb a4.2 6) (lt_ (((31 : Int64) * a4.1) + (gM σ 20 a4.2.toNatClampNeg).toInt64) (fun (v19 : Int64) => r5 (v19, (a4.2 + (1 : Int32))))))) FV (v3, (0 : Int32))) else Option.bind (fX4_countOf_0 a1.2 σ) (fun (q20 : Int32) => lt_ (((31 : Int64) * a1.1) + q20.toInt64) (fun (v21 : Int64) => r2 (v21, (a1.2 + (1 : Int32))))))) FV ((17 : Int64), (0 : Int32))
def rm_X4_digest_0 : Room := { frames := 5, cells := 0, slots := 0, locals := 113 }
set_option maxRecDepth 100000 in
set_option maxHeartbeats 4000000 in
theorem kX4_digest_0 (l : Launch) (E : QE) (σ τ : QS)  (q : Int64) (hf : fX4_digest_0 σ = some q) : KQ l yX4_digest cX4_digest 5 (some .long) rm_X4_digest_0 E [.ref (qAd E 0)] σ τ (PL E q σ τ) := by
  unfold fX4_digest_0 at hf
  refine y_met rfl (Nat.le_of_ble_eq_true rfl) rfl (fun p e s m below meth c C => ?_)
  refine y_ldc2 C kl_X4_295 dX4_digest_0 ?_
  refine y_lstore_n C dX4_digest_3 rfl (Nat.le_of_ble_eq_true rfl) rfl (lv' := [(1, .long (17 : Int64)), (0, .ref (qAd E 0))]) rfl ?_
  refine y_iconst C (v := 0) dX4_digest_4 (by decide) ?_
  refine y_istore_n C dX4_digest_5 rfl (Nat.le_of_ble_eq_true rfl) rfl (lv' := [(3, .int (0 : Int32)), (1, .long (17 : Int64)), (0, .ref (qAd E 0))]) rfl ?_
  refine y_sub [0, 1, 2] rfl ?_
  refine lp_ind (P := fun a1 : Int64 × Int32 => Y E p l e rm_X4_digest_0 s m ([.ref (qAd E 0)] : List Value).toArray below meth c 5 (MQ below (PL E q σ τ) ([.ref (qAd E 0)] : List Value).toArray s 0 0 (qA E)) σ τ 6 [(3, .int a1.2), (1, .long a1.1), (0, .ref (qAd E 0))] []) (fun r2 a1 ih_r2 hf => ?_) _ _ hf
  refine y_iload_n C dX4_digest_6 rfl 0 rfl ?_
  refine y_bipush C (v := 11) dX4_digest_7 (by decide) ?_
  refine y_icmp_ge C 31 dX4_digest_9 (by decide) hf (fun hf => ?_) (fun hf => ?_)
  · refine y_ldc2 C kl_X4_297 dX4_digest_31 ?_
    refine y_lload_n C dX4_digest_34 rfl 1 rfl ?_
    refine y_lmul C dX4_digest_35 ?_
    refine y_aload_n C dX4_digest_36 rfl 2 rfl ?_
    refine g0_night C fl_X4_39 dX4_digest_37 ?_
    refine gN6_clapping C fn_X4_289 dX4_digest_40 ?_
    refine y_i2l C dX4_digest_43 ?_
    refine y_ladd C dX4_digest_44 ?_
    refine y_ldc2 C kl_X4_299 dX4_digest_45 ?_
    refine y_ladd C dX4_digest_48 ?_
    obtain ⟨v3, e_v3, hf⟩ := lt_e hf
    refine y_lstore_n C dX4_digest_49 rfl (Nat.le_of_ble_eq_true rfl) e_v3 (lv' := [(1, .long v3), (3, .int a1.2), (0, .ref (qAd E 0))]) rfl ?_
    refine y_iconst C (v := 0) dX4_digest_50 (by decide) ?_
    refine y_istore_n C dX4_digest_51 rfl (Nat.le_of_ble_eq_true rfl) rfl (lv' := [(3, .int (0 : Int32)), (1, .long v3), (0, .ref (qAd E 0))]) rfl ?_
    refine y_sub [0, 1, 2] rfl ?_
    refine lp_ind (P := fun a4 : Int64 × Int32 => Y E p l e rm_X4_digest_0 s m ([.ref (qAd E 0)] : List Value).toArray below meth c 5 (MQ below (PL E q σ τ) ([.ref (qAd E 0)] : List Value).toArray s 0 0 (qA E)) σ τ 52 [(3, .int a4.2), (1, .long a4.1), (0, .ref (qAd E 0))] []) (fun r5 a4 ih_r5 hf => ?_) _ _ hf
    refine y_iload_n C dX4_digest_52 rfl 0 rfl ?_
    refine y_aload_n C dX4_digest_53 rfl 2 rfl ?_
    refine g0_script C fl_X4_31 dX4_digest_54 ?_
    refine gN5_sceneCount C fn_X4_134 dX4_digest_57 ?_
    refine y_icmp_ge C 86 dX4_digest_60 (by decide) hf (fun hf => ?_) (fun hf => ?_)
    · refine y_iconst C (v := 0) dX4_digest_86 (by decide) ?_
      refine y_istore_n C dX4_digest_87 rfl (Nat.le_of_ble_eq_true rfl) rfl (lv' := [(3, .int (0 : Int32)), (1, .long a4.1), (0, .ref (qAd E 0))]) rfl ?_
      refine y_sub [0, 1, 2] rfl ?_
      refine lp_ind (P := fun a6 : Int64 × Int32 => Y E p l e rm_X4_digest_0 s m ([.ref (qAd E 0)] : List Value).toArray below meth c 5 (MQ below (PL E q σ τ) ([.ref (qAd E 0)] : List Value).toArray s 0 0 (qA E)) σ τ 88 [(3, .int a6.2), (1, .long a6.1), (0, .ref (qAd E 0))] []) (fun r7 a6 ih_r7 hf => ?_) _ _ hf
      refine y_iload_n C dX4_digest_88 rfl 0 rfl ?_
      refine y_aload_n C dX4_digest_89 rfl 2 rfl ?_
      refine g0_script C fl_X4_31 dX4_digest_90 ?_
      refine gN5_sitterCount C fn_X4_114 dX4_digest_93 ?_
      refine y_icmp_ge C 139 dX4_digest_96 (by decide) hf (fun hf => ?_) (fun hf => ?_)
      · refine y_iconst C (v := 0) dX4_digest_139 (by decide) ?_
        refine y_istore_n C dX4_digest_140 rfl (Nat.le_of_ble_eq_true rfl) rfl (lv' := [(3, .int (0 : Int32)), (1, .long a6.1), (0, .ref (qAd E 0))]) rfl ?_
        refine y_sub [0, 1, 2] rfl ?_
        refine lp_ind (P := fun a8 : Int64 × Int32 => Y E p l e rm_X4_digest_0 s m ([.ref (qAd E 0)] : List Value).toArray below meth c 5 (MQ below (PL E q σ τ) ([.ref (qAd E 0)] : List Value).toArray s 0 0 (qA E)) σ τ 141 [(3, .int a8.2), (1, .long a8.1), (0, .ref (qAd E 0))] []) (fun r9 a8 ih_r9 hf => ?_) _ _ hf
        refine y_iload_n C dX4_digest_141 rfl 0 rfl ?_
        refine y_iconst C (v := 3) dX4_digest_142 (by decide) ?_
        refine y_icmp_ge C 168 dX4_digest_143 (by decide) hf (fun hf => ?_) (fun hf => ?_)
        · refine y_aload_n C dX4_digest_168 rfl 2 rfl ?_
          refine g0_textShelf C fl_X4_18 dX4_digest_169 ?_
          refine y_aload_n C dX4_digest_172 rfl 2 rfl ?_
          refine g0_rowShelf C fl_X4_14 dX4_digest_173 ?_
          refine y_lload_n C dX4_digest_176 rfl 1 rfl ?_
          obtain ⟨q10, h_q10, hf⟩ := bd_e hf
          refine y_cVl C (kX3_digestFrom_1 l E σ τ a8.1 _ h_q10) vi_X3_digestFrom ml_X4_301 ⟨3, _, o1, rfl, rfl⟩ rfl ⟨rfl, rfl, Nat.le_of_ble_eq_true rfl, Nat.le_of_ble_eq_true rfl⟩ dX4_digest_177 rfl (Nat.le_of_ble_eq_true rfl) ?_
          obtain ⟨q11, h_q11, hf⟩ := bd_e hf
          refine y_cVl C (kX3_digestFrom_2 l E σ τ q10 _ h_q11) vi_X3_digestFrom ml_X4_301 ⟨3, _, o2, rfl, rfl⟩ rfl ⟨rfl, rfl, Nat.le_of_ble_eq_true rfl, Nat.le_of_ble_eq_true rfl⟩ dX4_digest_180 rfl (Nat.le_of_ble_eq_true rfl) ?_
          exact y_lret C (Option.some.inj hf) rfl rfl dX4_digest_183
        · refine y_ldc2 C kl_X4_297 dX4_digest_146 ?_
          refine y_lload_n C dX4_digest_149 rfl 1 rfl ?_
          refine y_lmul C dX4_digest_150 ?_
          refine y_aload_n C dX4_digest_151 rfl 2 rfl ?_
          refine g0_keptShelf C fl_X4_21 dX4_digest_152 ?_
          refine y_iload_n C dX4_digest_155 rfl 0 rfl ?_
          obtain ⟨q12, h_q12, hf⟩ := bd_e hf
          refine y_cVi C (kX3_size_3 l E σ τ a8.2 _ h_q12) vi_X3_size ml_X4_105 ⟨3, _, o3, rfl, rfl⟩ rfl ⟨rfl, rfl, Nat.le_of_ble_eq_true rfl, Nat.le_of_ble_eq_true rfl⟩ dX4_digest_156 rfl (Nat.le_of_ble_eq_true rfl) ?_
          refine y_i2l C dX4_digest_159 ?_
          refine y_ladd C dX4_digest_160 ?_
          obtain ⟨v13, e_v13, hf⟩ := lt_e hf
          refine y_lstore_n C dX4_digest_161 rfl (Nat.le_of_ble_eq_true rfl) e_v13 (lv' := [(1, .long v13), (3, .int a8.2), (0, .ref (qAd E 0))]) rfl ?_
          refine y_iinc C dX4_digest_162 1 rfl (Nat.le_of_ble_eq_true rfl) (k2 := 1) (by decide) rfl (lv' := [(3, .int (a8.2 + (1 : Int32))), (1, .long v13), (0, .ref (qAd E 0))]) rfl ?_
          refine y_goto C 141 dX4_digest_165 (by decide) ?_
          refine y_sub [0, 1, 2] rfl ?_
          exact ih_r9 (v13, (a8.2 + (1 : Int32))) hf
      · refine y_iconst C (v := 0) dX4_digest_99 (by decide) ?_
        refine y_istore C dX4_digest_100 (Nat.le_of_ble_eq_true rfl) rfl (lv' := [(4, .int (0 : Int32)), (3, .int a6.2), (1, .long a6.1), (0, .ref (qAd E 0))]) rfl ?_
        refine y_sub [0, 1, 2, 3] rfl ?_
        refine lp_ind (P := fun a14 : Int64 × Int32 => Y E p l e rm_X4_digest_0 s m ([.ref (qAd E 0)] : List Value).toArray below meth c 5 (MQ below (PL E q σ τ) ([.ref (qAd E 0)] : List Value).toArray s 0 0 (qA E)) σ τ 102 [(4, .int a14.2), (3, .int a6.2), (1, .long a14.1), (0, .ref (qAd E 0))] []) (fun r15 a14 ih_r15 hf => ?_) _ _ hf
        refine y_iload C dX4_digest_102 0 rfl ?_
        refine y_bipush C (v := 8) dX4_digest_104 (by decide) ?_
        refine y_icmp_ge C 133 dX4_digest_106 (by decide) hf (fun hf => ?_) (fun hf => ?_)
        · refine y_iinc C dX4_digest_133 1 rfl (Nat.le_of_ble_eq_true rfl) (k2 := 1) (by decide) rfl (lv' := [(3, .int (a6.2 + (1 : Int32))), (4, .int a14.2), (1, .long a14.1), (0, .ref (qAd E 0))]) rfl ?_
          refine y_goto C 88 dX4_digest_136 (by decide) ?_
          refine y_sub [0, 2, 3] rfl ?_
          exact ih_r7 (a14.1, (a6.2 + (1 : Int32))) hf
        · refine y_ldc2 C kl_X4_297 dX4_digest_109 ?_
          refine y_lload_n C dX4_digest_112 rfl 2 rfl ?_
          refine y_lmul C dX4_digest_113 ?_
          refine y_aload_n C dX4_digest_114 rfl 3 rfl ?_
          refine g0_night C fl_X4_39 dX4_digest_115 ?_
          refine y_iload_n C dX4_digest_118 rfl 1 rfl ?_
          refine y_iload C dX4_digest_119 0 rfl ?_
          obtain ⟨q16, h_q16, hf⟩ := bd_e hf
          refine y_cVi C (kX0_whatOfSitter_6 l E σ τ a6.2 a14.2 _ h_q16) vi_X0_whatOfSitter ml_X4_121 ⟨0, _, o6, rfl, rfl⟩ rfl ⟨rfl, rfl, Nat.le_of_ble_eq_true rfl, Nat.le_of_ble_eq_true rfl⟩ dX4_digest_121 rfl (Nat.le_of_ble_eq_true rfl) ?_
          refine y_i2l C dX4_digest_124 ?_
          refine y_ladd C dX4_digest_125 ?_
          obtain ⟨v17, e_v17, hf⟩ := lt_e hf
          refine y_lstore_n C dX4_digest_126 rfl (Nat.le_of_ble_eq_true rfl) e_v17 (lv' := [(1, .long v17), (4, .int a14.2), (3, .int a6.2), (0, .ref (qAd E 0))]) rfl ?_
          refine y_iinc C dX4_digest_127 1 rfl (Nat.le_of_ble_eq_true rfl) (k2 := 1) (by decide) rfl (lv' := [(4, .int (a14.2 + (1 : Int32))), (1, .long v17), (3, .int a6.2), (0, .ref (qAd E 0))]) rfl ?_
          refine y_goto C 102 dX4_digest_130 (by decide) ?_
          refine y_sub [0, 2, 1, 3] rfl ?_
          exact ih_r15 (v17, (a14.2 + (1 : Int32))) hf
    · refine y_ldc2 C kl_X4_297 dX4_digest_63 ?_
      refine y_lload_n C dX4_digest_66 rfl 1 rfl ?_
      refine y_lmul C dX4_digest_67 ?_
      refine y_aload_n C dX4_digest_68 rfl 2 rfl ?_
      refine g0_script C fl_X4_31 dX4_digest_69 ?_
      refine gN5_lineCount C fn_X4_137 dX4_digest_72 ?_
      refine y_iload_n C dX4_digest_75 rfl 0 rfl ?_
      obtain ⟨hi18, hf⟩ := ck_e hf
      refine y_ialdC C a20 (j := a4.2.toNatClampNeg) rfl hi18 dX4_digest_76 ?_
      refine y_i2l C dX4_digest_77 ?_
      refine y_ladd C dX4_digest_78 ?_
      obtain ⟨v19, e_v19, hf⟩ := lt_e hf
      refine y_lstore_n C dX4_digest_79 rfl (Nat.le_of_ble_eq_true rfl) e_v19 (lv' := [(1, .long v19), (3, .int a4.2), (0, .ref (qAd E 0))]) rfl ?_
      refine y_iinc C dX4_digest_80 1 rfl (Nat.le_of_ble_eq_true rfl) (k2 := 1) (by decide) rfl (lv' := [(3, .int (a4.2 + (1 : Int32))), (1, .long v19), (0, .ref (qAd E 0))]) rfl ?_
      refine y_goto C 52 dX4_digest_83 (by decide) ?_
      refine y_sub [0, 1, 2] rfl ?_
      exact ih_r5 (v19, (a4.2 + (1 : Int32))) hf
  · refine y_ldc2 C kl_X4_297 dX4_digest_12 ?_
    refine y_lload_n C dX4_digest_15 rfl 1 rfl ?_
    refine y_lmul C dX4_digest_16 ?_
    refine y_aload_n C dX4_digest_17 rfl 2 rfl ?_
    refine y_iload_n C dX4_digest_18 rfl 0 rfl ?_
    obtain ⟨q20, h_q20, hf⟩ := bd_e hf
    refine y_cVi C (kX4_countOf_0 l E σ τ a1.2 _ h_q20) vi_X4_countOf ml_X4_286 ⟨4, _, o0, rfl, rfl⟩ rfl ⟨rfl, rfl, Nat.le_of_ble_eq_true rfl, Nat.le_of_ble_eq_true rfl⟩ dX4_digest_19 rfl (Nat.le_of_ble_eq_true rfl) ?_
    refine y_i2l C dX4_digest_22 ?_
    refine y_ladd C dX4_digest_23 ?_
    obtain ⟨v21, e_v21, hf⟩ := lt_e hf
    refine y_lstore_n C dX4_digest_24 rfl (Nat.le_of_ble_eq_true rfl) e_v21 (lv' := [(1, .long v21), (3, .int a1.2), (0, .ref (qAd E 0))]) rfl ?_
    refine y_iinc C dX4_digest_25 1 rfl (Nat.le_of_ble_eq_true rfl) (k2 := 1) (by decide) rfl (lv' := [(3, .int (a1.2 + (1 : Int32))), (1, .long v21), (0, .ref (qAd E 0))]) rfl ?_
    refine y_goto C 6 dX4_digest_28 (by decide) ?_
    refine y_sub [0, 1, 2] rfl ?_
    exact ih_r2 (v21, (a1.2 + (1 : Int32))) hf
