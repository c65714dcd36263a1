noncomputable def fX5_fault_50 (x1 : Int32) (τ : QS) : Option (Int32 × QS) :=
    (if (fX5_isText x1) = 0 then some ((-1 : Int32), τ) else ck_ (inb x1 4) ((if 0 ≤ (gM τ 58 x1.toNatClampNeg) then Option.bind (fX5_faultOf_50 x1 τ) (fun (q2 : Int32 × QS) => some (q2.1, q2.2)) else Option.bind (fX5_find_50 (1 : Int32) τ) (fun (q3 : Int32 × QS) => some (q3.1, q3.2)))))
def rm_X5_fault_50 : Room := { frames := 5, cells := 0, slots := 0, locals := 116 }
set_option maxRecDepth 100000 in
set_option maxHeartbeats 4000000 in
theorem kX5_fault_50 (l : Launch) (E : QE) (σ τ : QS) (x1 : Int32) (q : Int32 × QS) (hf : fX5_fault_50 x1 τ = some q) : KQ l yX5_fault cX5_fault 2 (some .int) rm_X5_fault_50 E [.ref (qAd E 50), .int x1] σ τ (PI E q.1 σ q.2) := by
  unfold fX5_fault_50 at hf
  refine y_met rfl (Nat.le_of_ble_eq_true rfl) rfl (fun p e s m below meth c C => ?_)
  refine y_iload_n C dX5_fault_0 rfl 1 rfl ?_
  refine y_cSi C (kX5_isText l E σ τ x1 _ rfl) si_X5_isText ml_X5_106 rfl ⟨rfl, rfl, Nat.le_of_ble_eq_true rfl, Nat.le_of_ble_eq_true rfl⟩ dX5_fault_1 rfl (Nat.le_of_ble_eq_true rfl) ?_
  refine y_if_ne C 9 dX5_fault_4 (by decide) hf (fun hf => ?_) (fun hf => ?_)
  · refine y_aload_n C dX5_fault_9 rfl 0 rfl ?_
    refine g50_lengths C fl_X5_31 dX5_fault_10 ?_
    refine y_iload_n C dX5_fault_13 rfl 1 rfl ?_
    obtain ⟨hi1, hf⟩ := ck_e hf
    refine y_ialdR C a58 (j := x1.toNatClampNeg) rfl hi1 dX5_fault_14 ?_
    refine y_if_ge C 26 dX5_fault_15 (by decide) hf (fun hf => ?_) (fun hf => ?_)
    · refine y_aload_n C dX5_fault_26 rfl 0 rfl ?_
      refine y_iload_n C dX5_fault_27 rfl 1 rfl ?_
      obtain ⟨q2, h_q2, hf⟩ := bd_e hf
      refine y_cVi C (kX5_faultOf_50 l E σ τ x1 _ h_q2) vi_X5_faultOf ml_X5_157 ⟨5, _, o50, rfl, rfl⟩ rfl ⟨rfl, rfl, Nat.le_of_ble_eq_true rfl, Nat.le_of_ble_eq_true rfl⟩ dX5_fault_28 rfl (Nat.le_of_ble_eq_true rfl) ?_
      exact y_iret C (rs1 hf) rfl (rs2 hf) dX5_fault_31
    · refine y_aload_n C dX5_fault_18 rfl 0 rfl ?_
      refine y_iconst C (v := 1) dX5_fault_19 (by decide) ?_
      obtain ⟨q3, h_q3, hf⟩ := bd_e hf
      refine y_cVi C (kX5_find_50 l E σ τ (1 : Int32) _ h_q3) vi_X5_find ml_X5_87 ⟨5, _, o50, rfl, rfl⟩ rfl ⟨rfl, rfl, Nat.le_of_ble_eq_true rfl, Nat.le_of_ble_eq_true rfl⟩ dX5_fault_20 rfl (Nat.le_of_ble_eq_true rfl) ?_
      refine y_goto C 31 dX5_fault_23 (by decide) ?_
      exact y_iret C (rs1 hf) rfl (rs2 hf) dX5_fault_31
  · refine y_iconst C (v := -1) dX5_fault_7 (by decide) ?_
    exact y_iret C (rs1 hf) rfl (rs2 hf) dX5_fault_8
noncomputable def fX1_readLines_5_2 (x2 : Int32) (x3 : Int32) (σ : QS) : Option (Int32 × QS) :=
    lp_ (fun (r2 : Int32 × Int32 × QS → Option (Int32 × QS)) (a1 : Int32 × Int32 × QS) => (if (6 : Int32) ≤ a1.2.1 then some (a1.1, a1.2.2) else Option.bind (fX1_figureAt_2 x2 a1.1 a1.2.2) (fun (q3 : Int32) => (if q3 ≤ 0 then some (a1.1, a1.2.2) else Option.bind (fX1_figureAt_2 x2 a1.1 a1.2.2) (fun (q4 : Int32) => ck_ (inb a1.2.1 6) (lt_ (pM a1.2.2 20 (upd (gM a1.2.2 20) a1.2.1.toNatClampNeg q4)) (fun (S6 : QS) => lt_ (pI S6 8 (a1.2.1 + (1 : Int32))) (fun (S7 : QS) => r2 ((a1.1 + (1 : Int32)), (a1.2.1 + (1 : Int32)), S7))))))))) FV (x3, (0 : Int32), σ)
def rm_X1_readLines_5_2 : Room := { frames := 4, cells := 0, slots := 0, locals := 88 }
set_option maxRecDepth 100000 in
set_option maxHeartbeats 4000000 in
theorem kX1_readLines_5_2 (l : Launch) (E : QE) (σ τ : QS) (x2 : Int32) (x3 : Int32) (q : Int32 × QS) (hf : fX1_readLines_5_2 x2 x3 σ = some q) : KQ l yX1_readLines cX1_readLines 6 (some .int) rm_X1_readLines_5_2 E [.ref (qAd E 5), .ref (qAd E 2), .int x2, .int x3] σ τ (PI E q.1 q.2 τ) := by
  unfold fX1_readLines_5_2 at hf
  refine y_met rfl (Nat.le_of_ble_eq_true rfl) rfl (fun p e s m below meth c C => ?_)
  refine y_iload_n C dX1_readLines_0 rfl 3 rfl ?_
  refine y_istore C dX1_readLines_1 (Nat.le_of_ble_eq_true rfl) rfl (lv' := [(4, .int x3), (0, .ref (qAd E 5)), (1, .ref (qAd E 2)), (2, .int x2), (3, .int x3)]) rfl ?_
  refine y_iconst C (v := 0) dX1_readLines_3 (by decide) ?_
  refine y_istore C dX1_readLines_4 (Nat.le_of_ble_eq_true rfl) rfl (lv' := [(5, .int (0 : Int32)), (4, .int x3), (0, .ref (qAd E 5)), (1, .ref (qAd E 2)), (2, .int x2), (3, .int x3)]) rfl ?_
  refine y_sub [0, 1, 2, 3, 4] rfl ?_
  refine lp_ind (P := fun a1 : Int32 × Int32 × QS => Y E p l e rm_X1_readLines_5_2 s m ([.ref (qAd E 5), .ref (qAd E 2), .int x2, .int x3] : List Value).toArray below meth c 6 (MQ below (PI E q.1 q.2 τ) ([.ref (qAd E 5), .ref (qAd E 2), .int x2, .int x3] : List Value).toArray s 0 0 (qA E)) a1.2.2 τ 6 [(5, .int a1.2.1), (4, .int a1.1), (0, .ref (qAd E 5)), (1, .ref (qAd E 2)), (2, .int x2)] []) (fun r2 a1 ih_r2 hf => ?_) _ _ hf
  refine y_iload C dX1_readLines_6 0 rfl ?_
  refine y_bipush C (v := 6) dX1_readLines_8 (by decide) ?_
  refine y_icmp_ge C 54 dX1_readLines_10 (by decide) hf (fun hf => ?_) (fun hf => ?_)
  · refine y_iload C dX1_readLines_54 1 rfl ?_
    exact y_iret C (rs1 hf) (rs2 hf) rfl dX1_readLines_56
  · refine y_aload_n C dX1_readLines_13 rfl 3 rfl ?_
    refine y_iload_n C dX1_readLines_14 rfl 4 rfl ?_
    refine y_iload C dX1_readLines_15 1 rfl ?_
    obtain ⟨q3, h_q3, hf⟩ := bd_e hf
    refine y_cSi C (kX1_figureAt_2 l E a1.2.2 τ x2 a1.1 _ h_q3) si_X1_figureAt ml_X1_50 rfl ⟨rfl, rfl, Nat.le_of_ble_eq_true rfl, Nat.le_of_ble_eq_true rfl⟩ dX1_readLines_17 rfl (Nat.le_of_ble_eq_true rfl) ?_
    refine y_if_le C 54 dX1_readLines_20 (by decide) hf (fun hf => ?_) (fun hf => ?_)
    · refine y_iload C dX1_readLines_54 1 rfl ?_
      exact y_iret C (rs1 hf) (rs2 hf) rfl dX1_readLines_56
    · refine y_aload_n C dX1_readLines_23 rfl 2 rfl ?_
      refine g5_lineCount C fl_X1_9 dX1_readLines_24 ?_
      refine y_iload C dX1_readLines_27 0 rfl ?_
      refine y_aload_n C dX1_readLines_29 rfl 3 rfl ?_
      refine y_iload_n C dX1_readLines_30 rfl 4 rfl ?_
      refine y_iload C dX1_readLines_31 1 rfl ?_
      obtain ⟨q4, h_q4, hf⟩ := bd_e hf
      refine y_cSi C (kX1_figureAt_2 l E a1.2.2 τ x2 a1.1 _ h_q4) si_X1_figureAt ml_X1_50 rfl ⟨rfl, rfl, Nat.le_of_ble_eq_true rfl, Nat.le_of_ble_eq_true rfl⟩ dX1_readLines_33 rfl (Nat.le_of_ble_eq_true rfl) ?_
      obtain ⟨hi5, hf⟩ := ck_e hf
      obtain ⟨S6, e_S6, hf⟩ := lt_e hf
      refine y_iastC C a20 (j := a1.2.1.toNatClampNeg) rfl hi5 e_S6 dX1_readLines_36 ?_
      refine y_aload_n C dX1_readLines_37 rfl 2 rfl ?_
      refine y_iload C dX1_readLines_38 0 rfl ?_
      refine y_iconst C (v := 1) dX1_readLines_40 (by decide) ?_
      refine y_iadd C dX1_readLines_41 ?_
      obtain ⟨S7, e_S7, hf⟩ := lt_e hf
      refine p5_sceneCount C fl_X1_27 e_S7 dX1_readLines_42 ?_
      refine y_iinc C dX1_readLines_45 1 rfl (Nat.le_of_ble_eq_true rfl) (k2 := 1) (by decide) rfl (lv' := [(4, .int (a1.1 + (1 : Int32))), (5, .int a1.2.1), (0, .ref (qAd E 5)), (1, .ref (qAd E 2)), (2, .int x2)]) rfl ?_
      refine y_iinc C dX1_readLines_48 1 rfl (Nat.le_of_ble_eq_true rfl) (k2 := 1) (by decide) rfl (lv' := [(5, .int (a1.2.1 + (1 : Int32))), (4, .int (a1.1 + (1 : Int32))), (0, .ref (qAd E 5)), (1, .ref (qAd E 2)), (2, .int x2)]) rfl ?_
      refine y_goto C 6 dX1_readLines_51 (by decide) ?_
      refine y_sub [0, 1, 2, 3, 4] rfl ?_
      exact ih_r2 ((a1.1 + (1 : Int32)), (a1.2.1 + (1 : Int32)), S7) hf
noncomputable def fX1_readSitter_5_2 (x2 : Int32) (x3 : Int32) (σ : QS) : Option (Int32 × QS) :=
    lt_ (gI σ 9) (fun (v1 : Int32) => Option.bind (fX1_kindAt_2 x2 x3 σ) (fun (q2 : Int32) => (if (6 : Int32) ≤ v1 then some ((0 : Int32), σ) else (if q2 = (-9 : Int32) then some ((0 : Int32), σ) else Option.bind (fX1_figureAt_2 x2 (x3 + (1 : Int32)) σ) (fun (q3 : Int32) => (if q3 < 0 then some ((1 : Int32), σ) else (if (fX4_isIn (gI σ 10) q3) = 0 then ck_ (inb v1 6) (lt_ (pM σ 21 (upd (gM σ 21) v1.toNatClampNeg q2)) (fun (S5 : QS) => ck_ (inb v1 6) (lt_ (pM S5 22 (upd (gM S5 22) v1.toNatClampNeg q3)) (fun (S7 : QS) => Option.bind (fX1_figureAt_2 x2 (x3 + (2 : Int32)) S7) (fun (q8 : Int32) => ck_ (inb v1 6) (lt_ (pM S7 23 (upd (gM S7 23) v1.toNatClampNeg q8)) (fun (S10 : QS) => Option.bind (fX1_figureAt_2 x2 (x3 + (3 : Int32)) S10) (fun (q11 : Int32) => ck_ (inb v1 6) (lt_ (pM S10 24 (upd (gM S10 24) v1.toNatClampNeg q11)) (fun (S13 : QS) => ck_ (inb v1 6) ((if 0 ≤ (gM S13 23 v1.toNatClampNeg) then ck_ (inb v1 6) ((if 0 ≤ (gM S13 24 v1.toNatClampNeg) then lt_ (pI S13 10 ((gI S13 10) ||| ((1 : Int32) <<< (q3 &&& 31)))) (fun (S16 : QS) => lt_ (fun (v18 : Int32) => lt_ (pI S16 11 ((gI S16 11) ||| v18)) (fun (S19 : QS) => lt_ (pI S19 9 (v1 + (1 : Int32))) (fun (S20 : QS) => some ((4 : Int32), S20)))) (fun (j17 : Int32 → Option (Int32 × QS)) => (if q2 = (5 : Int32) then j17 ((1 : Int32) <<< (v1 &&& 31)) else j17 (0 : Int32)))) else some ((3 : Int32), S13))) else some ((2 : Int32), S13))))))))))))) else some ((1 : Int32), σ))))))))
def rm_X1_readSitter_5_2 : Room := { frames := 4, cells := 0, slots := 0, locals := 89 }
set_option maxRecDepth 100000 in
set_option maxHeartbeats 4000000 in
theorem kX1_readSitter_5_2 (l : Launch) (E : QE) (σ τ : QS) (x2 : Int32) (x3 : Int32) (q : Int32 × QS) (hf : fX1_readSitter_5_2 x2 x3 σ = some q) : KQ l yX1_readSitter cX1_readSitter 7 (some .int) rm_X1_readSitter_5_2 E [.ref (qAd E 5), .ref (qAd E 2), .int x2, .int x3] σ τ (PI E q.1 q.2 τ) := by
  unfold fX1_readSitter_5_2 at hf
  refine y_met rfl (Nat.le_of_ble_eq_true rfl) rfl (fun p e s m below meth c C => ?_)
  refine y_aload_n C dX1_readSitter_0 rfl 0 rfl ?_
  refine g5_sitterCount C fl_X1_31 dX1_readSitter_1 ?_
  obtain ⟨v1, e_v1, hf⟩ := lt_e hf
  refine y_istore C dX1_readSitter_4 (Nat.le_of_ble_eq_true rfl) e_v1 (lv' := [(4, .int v1), (0, .ref (qAd E 5)), (1, .ref (qAd E 2)), (2, .int x2), (3, .int x3)]) rfl ?_
  refine y_aload_n C dX1_readSitter_6 rfl 2 rfl ?_
  refine y_iload_n C dX1_readSitter_7 rfl 3 rfl ?_
  refine y_iload_n C dX1_readSitter_8 rfl 4 rfl ?_
  obtain ⟨q2, h_q2, hf⟩ := bd_e hf
  refine y_cSi C (kX1_kindAt_2 l E σ τ x2 x3 _ h_q2) si_X1_kindAt ml_X1_66 rfl ⟨rfl, rfl, Nat.le_of_ble_eq_true rfl, Nat.le_of_ble_eq_true rfl⟩ dX1_readSitter_9 rfl (Nat.le_of_ble_eq_true rfl) ?_
  refine y_istore C dX1_readSitter_12 (Nat.le_of_ble_eq_true rfl) rfl (lv' := [(5, .int q2), (4, .int v1), (0, .ref (qAd E 5)), (1, .ref (qAd E 2)), (2, .int x2), (3, .int x3)]) rfl ?_
  refine y_iload C dX1_readSitter_14 1 rfl ?_
  refine y_bipush C (v := 6) dX1_readSitter_16 (by decide) ?_
  refine y_icmp_ge C 28 dX1_readSitter_18 (by decide) hf (fun hf => ?_) (fun hf => ?_)
  · refine y_iconst C (v := 0) dX1_readSitter_28 (by decide) ?_
    exact y_iret C (rs1 hf) (rs2 hf) rfl dX1_readSitter_29
  · refine y_iload C dX1_readSitter_21 0 rfl ?_
    refine y_bipush C (v := -9) dX1_readSitter_23 (by decide) ?_
    refine y_icmp_ne C 30 dX1_readSitter_25 (by decide) hf (fun hf => ?_) (fun hf => ?_)
    · refine y_aload_n C dX1_readSitter_30 rfl 3 rfl ?_
      refine y_iload_n C dX1_readSitter_31 rfl 4 rfl ?_
      refine y_iload_n C dX1_readSitter_32 rfl 5 rfl ?_
      refine y_iconst C (v := 1) dX1_readSitter_33 (by decide) ?_
      refine y_iadd C dX1_readSitter_34 ?_
      obtain ⟨q3, h_q3, hf⟩ := bd_e hf
      refine y_cSi C (kX1_figureAt_2 l E σ τ x2 (x3 + (1 : Int32)) _ h_q3) si_X1_figureAt ml_X1_50 rfl ⟨rfl, rfl, Nat.le_of_ble_eq_true rfl, Nat.le_of_ble_eq_true rfl⟩ dX1_readSitter_35 rfl (Nat.le_of_ble_eq_true rfl) ?_
      refine y_istore C dX1_readSitter_38 (Nat.le_of_ble_eq_true rfl) rfl (lv' := [(6, .int q3), (5, .int q2), (4, .int v1), (0, .ref (qAd E 5)), (1, .ref (qAd E 2)), (2, .int x2), (3, .int x3)]) rfl ?_
      refine y_iload C dX1_readSitter_40 0 rfl ?_
      refine y_if_lt C 57 dX1_readSitter_42 (by decide) hf (fun hf => ?_) (fun hf => ?_)
      · refine y_iconst C (v := 1) dX1_readSitter_57 (by decide) ?_
        exact y_iret C (rs1 hf) (rs2 hf) rfl dX1_readSitter_58
      · refine y_aload_n C dX1_readSitter_45 rfl 3 rfl ?_
        refine g5_takenSeats C fl_X1_34 dX1_readSitter_46 ?_
        refine y_iload C dX1_readSitter_49 0 rfl ?_
        refine y_cNi C (kX4_isIn l E σ τ (gI σ 10) q3 _ rfl) si_X4_isIn mn_X1_69 rfl ⟨rfl, rfl, Nat.le_of_ble_eq_true rfl, Nat.le_of_ble_eq_true rfl⟩ dX1_readSitter_51 rfl (Nat.le_of_ble_eq_true rfl) ?_
        refine y_if_eq C 59 dX1_readSitter_54 (by decide) hf (fun hf => ?_) (fun hf => ?_)
        · refine y_aload_n C dX1_readSitter_59 rfl 3 rfl ?_
          refine g5_kind C fl_X1_15 dX1_readSitter_60 ?_
          refine y_iload C dX1_readSitter_63 2 rfl ?_
          refine y_iload C dX1_readSitter_65 1 rfl ?_
          obtain ⟨hi4, hf⟩ := ck_e hf
          obtain ⟨S5, e_S5, hf⟩ := lt_e hf
          refine y_iastC C a21 (j := v1.toNatClampNeg) rfl hi4 e_S5 dX1_readSitter_67 ?_
          refine y_aload_n C dX1_readSitter_68 rfl 3 rfl ?_
          refine g5_seat C fl_X1_18 dX1_readSitter_69 ?_
          refine y_iload C dX1_readSitter_72 2 rfl ?_
          refine y_iload C dX1_readSitter_74 0 rfl ?_
          obtain ⟨hi6, hf⟩ := ck_e hf
          obtain ⟨S7, e_S7, hf⟩ := lt_e hf
          refine y_iastC C a22 (j := v1.toNatClampNeg) rfl hi6 e_S7 dX1_readSitter_76 ?_
          refine y_aload_n C dX1_readSitter_77 rfl 3 rfl ?_
          refine g5_memory C fl_X1_21 dX1_readSitter_78 ?_
          refine y_iload C dX1_readSitter_81 2 rfl ?_
          refine y_aload_n C dX1_readSitter_83 rfl 4 rfl ?_
          refine y_iload_n C dX1_readSitter_84 rfl 5 rfl ?_
          refine y_iload_n C dX1_readSitter_85 rfl 6 rfl ?_
          refine y_iconst C (v := 2) dX1_readSitter_86 (by decide) ?_
          refine y_iadd C dX1_readSitter_87 ?_
          obtain ⟨q8, h_q8, hf⟩ := bd_e hf
          refine y_cSi C (kX1_figureAt_2 l E S7 τ x2 (x3 + (2 : Int32)) _ h_q8) si_X1_figureAt ml_X1_50 rfl ⟨rfl, rfl, Nat.le_of_ble_eq_true rfl, Nat.le_of_ble_eq_true rfl⟩ dX1_readSitter_88 rfl (Nat.le_of_ble_eq_true rfl) ?_
          obtain ⟨hi9, hf⟩ := ck_e hf
          obtain ⟨S10, e_S10, hf⟩ := lt_e hf
          refine y_iastC C a23 (j := v1.toNatClampNeg) rfl hi9 e_S10 dX1_readSitter_91 ?_
          refine y_aload_n C dX1_readSitter_92 rfl 3 rfl ?_
          refine g5_fright C fl_X1_24 dX1_readSitter_93 ?_
          refine y_iload C dX1_readSitter_96 2 rfl ?_
          refine y_aload_n C dX1_readSitter_98 rfl 4 rfl ?_
          refine y_iload_n C dX1_readSitter_99 rfl 5 rfl ?_
          refine y_iload_n C dX1_readSitter_100 rfl 6 rfl ?_
          refine y_iconst C (v := 3) dX1_readSitter_101 (by decide) ?_
          refine y_iadd C dX1_readSitter_102 ?_
          obtain ⟨q11, h_q11, hf⟩ := bd_e hf
          refine y_cSi C (kX1_figureAt_2 l E S10 τ x2 (x3 + (3 : Int32)) _ h_q11) si_X1_figureAt ml_X1_50 rfl ⟨rfl, rfl, Nat.le_of_ble_eq_true rfl, Nat.le_of_ble_eq_true rfl⟩ dX1_readSitter_103 rfl (Nat.le_of_ble_eq_true rfl) ?_
          obtain ⟨hi12, hf⟩ := ck_e hf
          obtain ⟨S13, e_S13, hf⟩ := lt_e hf
          refine y_iastC C a24 (j := v1.toNatClampNeg) rfl hi12 e_S13 dX1_readSitter_106 ?_
          refine y_aload_n C dX1_readSitter_107 rfl 3 rfl ?_
          refine g5_memory C fl_X1_21 dX1_readSitter_108 ?_
          refine y_iload C dX1_readSitter_111 2 rfl ?_
          obtain ⟨hi14, hf⟩ := ck_e hf
          refine y_ialdC C a23 (j := v1.toNatClampNeg) rfl hi14 dX1_readSitter_113 ?_
          refine y_if_ge C 119 dX1_readSitter_114 (by decide) hf (fun hf => ?_) (fun hf => ?_)
          · refine y_aload_n C dX1_readSitter_119 rfl 3 rfl ?_
            refine g5_fright C fl_X1_24 dX1_readSitter_120 ?_
            refine y_iload C dX1_readSitter_123 2 rfl ?_
            obtain ⟨hi15, hf⟩ := ck_e hf
            refine y_ialdC C a24 (j := v1.toNatClampNeg) rfl hi15 dX1_readSitter_125 ?_
            refine y_if_ge C 131 dX1_readSitter_126 (by decide) hf (fun hf => ?_) (fun hf => ?_)
            · refine y_aload_n C dX1_readSitter_131 rfl 3 rfl ?_
              refine y_dup C dX1_readSitter_132 rfl ?_
              refine g5_takenSeats C fl_X1_34 dX1_readSitter_133 ?_
              refine y_iconst C (v := 1) dX1_readSitter_136 (by decide) ?_
              refine y_iload C dX1_readSitter_137 0 rfl ?_
              refine y_ishl C dX1_readSitter_139 ?_
              refine y_ior C dX1_readSitter_140 ?_
              obtain ⟨S16, e_S16, hf⟩ := lt_e hf
              refine p5_takenSeats C fl_X1_34 e_S16 dX1_readSitter_141 ?_
              refine y_aload_n C dX1_readSitter_144 rfl 3 rfl ?_
              refine y_dup C dX1_readSitter_145 rfl ?_
              refine g5_claqueBits C fl_X1_37 dX1_readSitter_146 ?_
              refine y_iload C dX1_readSitter_149 1 rfl ?_
              refine y_iconst C (v := 5) dX1_readSitter_151 (by decide) ?_
              obtain ⟨j17, ek_j17, hf⟩ := lt_e hf
              have h_j17 : ∀ (v18 : Int32), j17 v18 = some q → Y E p l e rm_X1_readSitter_5_2 s m ([.ref (qAd E 5), .ref (qAd E 2), .int x2, .int x3] : List Value).toArray below meth c 7 (MQ below (PI E q.1 q.2 τ) ([.ref (qAd E 5), .ref (qAd E 2), .int x2, .int x3] : List Value).toArray s 0 0 (qA E)) S16 τ 163 [(0, .ref (qAd E 5)), (4, .int v1)] [.int v18, .int (gI S16 11), .ref (qAd E 5)] := by
                intro v18 hf
                replace hf := (congrFun (ek_j17) v18).symm.trans hf
                refine y_ior C dX1_readSitter_163 ?_
                obtain ⟨S19, e_S19, hf⟩ := lt_e hf
                refine p5_claqueBits C fl_X1_37 e_S19 dX1_readSitter_164 ?_
                refine y_aload_n C dX1_readSitter_167 rfl 0 rfl ?_
                refine y_iload C dX1_readSitter_168 1 rfl ?_
                refine y_iconst C (v := 1) dX1_readSitter_170 (by decide) ?_
                refine y_iadd C dX1_readSitter_171 ?_
                obtain ⟨S20, e_S20, hf⟩ := lt_e hf
                refine p5_sitterCount C fl_X1_31 e_S20 dX1_readSitter_172 ?_
                refine y_iconst C (v := 4) dX1_readSitter_175 (by decide) ?_
                exact y_iret C (rs1 hf) (rs2 hf) rfl dX1_readSitter_176
              refine y_icmp_ne C 162 dX1_readSitter_152 (by decide) hf (fun hf => ?_) (fun hf => ?_)
              · refine y_iconst C (v := 0) dX1_readSitter_162 (by decide) ?_
                refine y_sub [3, 2] rfl ?_
                exact h_j17 (0 : Int32) hf
              · refine y_iconst C (v := 1) dX1_readSitter_155 (by decide) ?_
                refine y_iload C dX1_readSitter_156 2 rfl ?_
                refine y_ishl C dX1_readSitter_158 ?_
                refine y_goto C 163 dX1_readSitter_159 (by decide) ?_
                refine y_sub [3, 2] rfl ?_
                exact h_j17 ((1 : Int32) <<< (v1 &&& 31)) hf
            · refine y_iconst C (v := 3) dX1_readSitter_129 (by decide) ?_
              exact y_iret C (rs1 hf) (rs2 hf) rfl dX1_readSitter_130
          · refine y_iconst C (v := 2) dX1_readSitter_117 (by decide) ?_
            exact y_iret C (rs1 hf) (rs2 hf) rfl dX1_readSitter_118
        · refine y_iconst C (v := 1) dX1_readSitter_57 (by decide) ?_
          exact y_iret C (rs1 hf) (rs2 hf) rfl dX1_readSitter_58
    · refine y_iconst C (v := 0) dX1_readSitter_28 (by decide) ?_
      exact y_iret C (rs1 hf) (rs2 hf) rfl dX1_readSitter_29
noncomputable def fX1_read_5_2 (x2 : Int32) (σ : QS) : Option (Int32 × QS) :=
    lt_ (pI σ 8 (0 : Int32)) (fun (S1 : QS) => lt_ (pI S1 9 (0 : Int32)) (fun (S2 : QS) => lt_ (pI S2 10 (0 : Int32)) (fun (S3 : QS) => lt_ (pI S3 11 (0 : Int32)) (fun (S4 : QS) => Option.bind (fX1_pastBlanks_2 x2 (0 : Int32) S4) (fun (q5 : Int32) => Option.bind (fX3_get_2 x2 q5 S4) (fun (q6 : Int32) => (if q6 = (97 : Int32) then Option.bind (fX1_figureAt_2 x2 (q5 + (1 : Int32)) S4) (fun (q7 : Int32) => lt_ (pI S4 7 q7) (fun (S8 : QS) => (if 0 ≤ (gI S8 7) then Option.bind (fX1_readLines_5_2 x2 (q5 + (2 : Int32)) S8) (fun (q9 : Int32 × QS) => (if (gI q9.2 8) = 0 then some (q9.1, q9.2) else lp_ (fun (r11 : Int32 × Int32 × QS → Option (Int32 × QS)) (a10 : Int32 × Int32 × QS) => (if (6 : Int32) < a10.2.1 then some (a10.1, a10.2.2) else Option.bind (fX1_pastBlanks_2 x2 a10.1 a10.2.2) (fun (q12 : Int32) => Option.bind (fX3_size_2 x2 a10.2.2) (fun (q13 : Int32) => (if q12 < q13 then Option.bind (fX1_readSitter_5_2 x2 q12 a10.2.2) (fun (q14 : Int32 × QS) => (if (4 : Int32) ≤ q14.1 then lt_ (q12 + q14.1) (fun (v15 : Int32) => r11 (v15, (a10.2.1 + (1 : Int32)), q14.2)) else some ((q12 + q14.1), q14.2))) else (if (gI a10.2.2 9) = 0 then some (q12, a10.2.2) else some ((-9 : Int32), a10.2.2))))))) FV (q9.1, (0 : Int32), q9.2))) else some ((q5 + (1 : Int32)), S8)))) else some (q5, S4))))))))
def rm_X1_read_5_2 : Room := { frames := 5, cells := 0, slots := 0, locals := 115 }
set_option maxRecDepth 100000 in
set_option maxHeartbeats 4000000 in
theorem kX1_read_5_2 (l : Launch) (E : QE) (σ τ : QS) (x2 : Int32) (q : Int32 × QS) (hf : fX1_read_5_2 x2 σ = some q) : KQ l yX1_read cX1_read 6 (some .int) rm_X1_read_5_2 E [.ref (qAd E 5), .ref (qAd E 2), .int x2] σ τ (PI E q.1 q.2 τ) := by
  unfold fX1_read_5_2 at hf
  refine y_met rfl (Nat.le_of_ble_eq_true rfl) rfl (fun p e s m below meth c C => ?_)
  refine y_aload_n C dX1_read_0 rfl 0 rfl ?_
  refine y_iconst C (v := 0) dX1_read_1 (by decide) ?_
  obtain ⟨S1, e_S1, hf⟩ := lt_e hf
  refine p5_sceneCount C fl_X1_27 e_S1 dX1_read_2 ?_
  refine y_aload_n C dX1_read_5 rfl 0 rfl ?_
  refine y_iconst C (v := 0) dX1_read_6 (by decide) ?_
  obtain ⟨S2, e_S2, hf⟩ := lt_e hf
  refine p5_sitterCount C fl_X1_31 e_S2 dX1_read_7 ?_
  refine y_aload_n C dX1_read_10 rfl 0 rfl ?_
  refine y_iconst C (v := 0) dX1_read_11 (by decide) ?_
  obtain ⟨S3, e_S3, hf⟩ := lt_e hf
  refine p5_takenSeats C fl_X1_34 e_S3 dX1_read_12 ?_
  refine y_aload_n C dX1_read_15 rfl 0 rfl ?_
  refine y_iconst C (v := 0) dX1_read_16 (by decide) ?_
  obtain ⟨S4, e_S4, hf⟩ := lt_e hf
  refine p5_claqueBits C fl_X1_37 e_S4 dX1_read_17 ?_
  refine y_aload_n C dX1_read_20 rfl 1 rfl ?_
  refine y_iload_n C dX1_read_21 rfl 2 rfl ?_
  refine y_iconst C (v := 0) dX1_read_22 (by decide) ?_
  obtain ⟨q5, h_q5, hf⟩ := bd_e hf
  refine y_cSi C (kX1_pastBlanks_2 l E S4 τ x2 (0 : Int32) _ h_q5) si_X1_pastBlanks ml_X1_40 rfl ⟨rfl, rfl, Nat.le_of_ble_eq_true rfl, Nat.le_of_ble_eq_true rfl⟩ dX1_read_23 rfl (Nat.le_of_ble_eq_true rfl) ?_
  refine y_istore_n C dX1_read_26 rfl (Nat.le_of_ble_eq_true rfl) rfl (lv' := [(3, .int q5), (0, .ref (qAd E 5)), (1, .ref (qAd E 2)), (2, .int x2)]) rfl ?_
  refine y_aload_n C dX1_read_27 rfl 2 rfl ?_
  refine y_iload_n C dX1_read_28 rfl 3 rfl ?_
  refine y_iload_n C dX1_read_29 rfl 0 rfl ?_
  obtain ⟨q6, h_q6, hf⟩ := bd_e hf
  refine y_cVi C (kX3_get_2 l E S4 τ x2 q5 _ h_q6) vi_X3_get ml_X1_44 ⟨3, _, o2, rfl, rfl⟩ rfl ⟨rfl, rfl, Nat.le_of_ble_eq_true rfl, Nat.le_of_ble_eq_true rfl⟩ dX1_read_30 rfl (Nat.le_of_ble_eq_true rfl) ?_
  refine y_bipush C (v := 97) dX1_read_33 (by decide) ?_
  refine y_icmp_eq C 40 dX1_read_35 (by decide) hf (fun hf => ?_) (fun hf => ?_)
  · refine y_aload_n C dX1_read_40 rfl 1 rfl ?_
    refine y_aload_n C dX1_read_41 rfl 2 rfl ?_
    refine y_iload_n C dX1_read_42 rfl 3 rfl ?_
    refine y_iload_n C dX1_read_43 rfl 0 rfl ?_
    refine y_iconst C (v := 1) dX1_read_44 (by decide) ?_
    refine y_iadd C dX1_read_45 ?_
    obtain ⟨q7, h_q7, hf⟩ := bd_e hf
    refine y_cSi C (kX1_figureAt_2 l E S4 τ x2 (q5 + (1 : Int32)) _ h_q7) si_X1_figureAt ml_X1_50 rfl ⟨rfl, rfl, Nat.le_of_ble_eq_true rfl, Nat.le_of_ble_eq_true rfl⟩ dX1_read_46 rfl (Nat.le_of_ble_eq_true rfl) ?_
    obtain ⟨S8, e_S8, hf⟩ := lt_e hf
    refine p5_promptCount C fl_X1_53 e_S8 dX1_read_49 ?_
    refine y_aload_n C dX1_read_52 rfl 1 rfl ?_
    refine g5_promptCount C fl_X1_53 dX1_read_53 ?_
    refine y_if_ge C 63 dX1_read_56 (by decide) hf (fun hf => ?_) (fun hf => ?_)
    · refine y_aload_n C dX1_read_63 rfl 1 rfl ?_
      refine y_aload_n C dX1_read_64 rfl 2 rfl ?_
      refine y_iload_n C dX1_read_65 rfl 3 rfl ?_
      refine y_iload_n C dX1_read_66 rfl 0 rfl ?_
      refine y_iconst C (v := 2) dX1_read_67 (by decide) ?_
      refine y_iadd C dX1_read_68 ?_
      obtain ⟨q9, h_q9, hf⟩ := bd_e hf
      refine y_cVi C (kX1_readLines_5_2 l E S8 τ x2 (q5 + (2 : Int32)) _ h_q9) vi_X1_readLines ml_X1_56 ⟨1, _, o5, rfl, rfl⟩ rfl ⟨rfl, rfl, Nat.le_of_ble_eq_true rfl, Nat.le_of_ble_eq_true rfl⟩ dX1_read_69 rfl (Nat.le_of_ble_eq_true rfl) ?_
      refine y_istore_n C dX1_read_72 rfl (Nat.le_of_ble_eq_true rfl) rfl (lv' := [(3, .int q9.1), (0, .ref (qAd E 5)), (1, .ref (qAd E 2)), (2, .int x2)]) rfl ?_
      refine y_aload_n C dX1_read_73 rfl 1 rfl ?_
      refine g5_sceneCount C fl_X1_27 dX1_read_74 ?_
      refine y_if_ne C 82 dX1_read_77 (by decide) hf (fun hf => ?_) (fun hf => ?_)
      · refine y_iconst C (v := 0) dX1_read_82 (by decide) ?_
        refine y_istore C dX1_read_83 (Nat.le_of_ble_eq_true rfl) rfl (lv' := [(4, .int (0 : Int32)), (3, .int q9.1), (0, .ref (qAd E 5)), (1, .ref (qAd E 2)), (2, .int x2)]) rfl ?_
        refine y_sub [0, 1, 2, 3, 4] rfl ?_
        refine lp_ind (P := fun a10 : Int32 × Int32 × QS => Y E p l e rm_X1_read_5_2 s m ([.ref (qAd E 5), .ref (qAd E 2), .int x2] : List Value).toArray below meth c 6 (MQ below (PI E q.1 q.2 τ) ([.ref (qAd E 5), .ref (qAd E 2), .int x2] : List Value).toArray s 0 0 (qA E)) a10.2.2 τ 85 [(4, .int a10.2.1), (3, .int a10.1), (0, .ref (qAd E 5)), (1, .ref (qAd E 2)), (2, .int x2)] []) (fun r11 a10 ih_r11 hf => ?_) _ _ hf
        refine y_iload C dX1_read_85 0 rfl ?_
        refine y_bipush C (v := 6) dX1_read_87 (by decide) ?_
        refine y_icmp_gt C 153 dX1_read_89 (by decide) hf (fun hf => ?_) (fun hf => ?_)
        · refine y_iload_n C dX1_read_153 rfl 1 rfl ?_
          exact y_iret C (rs1 hf) (rs2 hf) rfl dX1_read_154
        · refine y_aload_n C dX1_read_92 rfl 3 rfl ?_
          refine y_iload_n C dX1_read_93 rfl 4 rfl ?_
          refine y_iload_n C dX1_read_94 rfl 1 rfl ?_
          obtain ⟨q12, h_q12, hf⟩ := bd_e hf
          refine y_cSi C (kX1_pastBlanks_2 l E a10.2.2 τ x2 a10.1 _ h_q12) si_X1_pastBlanks ml_X1_40 rfl ⟨rfl, rfl, Nat.le_of_ble_eq_true rfl, Nat.le_of_ble_eq_true rfl⟩ dX1_read_95 rfl (Nat.le_of_ble_eq_true rfl) ?_
          refine y_istore_n C dX1_read_98 rfl (Nat.le_of_ble_eq_true rfl) rfl (lv' := [(3, .int q12), (4, .int a10.2.1), (0, .ref (qAd E 5)), (1, .ref (qAd E 2)), (2, .int x2)]) rfl ?_
          refine y_iload_n C dX1_read_99 rfl 0 rfl ?_
          refine y_aload_n C dX1_read_100 rfl 3 rfl ?_
          refine y_iload_n C dX1_read_101 rfl 4 rfl ?_
          obtain ⟨q13, h_q13, hf⟩ := bd_e hf
          refine y_cVi C (kX3_size_2 l E a10.2.2 τ x2 _ h_q13) vi_X3_size ml_X1_59 ⟨3, _, o2, rfl, rfl⟩ rfl ⟨rfl, rfl, Nat.le_of_ble_eq_true rfl, Nat.le_of_ble_eq_true rfl⟩ dX1_read_102 rfl (Nat.le_of_ble_eq_true rfl) ?_
          refine y_icmp_lt C 122 dX1_read_105 (by decide) hf (fun hf => ?_) (fun hf => ?_)
          · refine y_aload_n C dX1_read_122 rfl 2 rfl ?_
            refine y_aload_n C dX1_read_123 rfl 3 rfl ?_
            refine y_iload_n C dX1_read_124 rfl 4 rfl ?_
            refine y_iload_n C dX1_read_125 rfl 0 rfl ?_
            obtain ⟨q14, h_q14, hf⟩ := bd_e hf
            refine y_cVi C (kX1_readSitter_5_2 l E a10.2.2 τ x2 q12 _ h_q14) vi_X1_readSitter ml_X1_63 ⟨1, _, o5, rfl, rfl⟩ rfl ⟨rfl, rfl, Nat.le_of_ble_eq_true rfl, Nat.le_of_ble_eq_true rfl⟩ dX1_read_126 rfl (Nat.le_of_ble_eq_true rfl) ?_
            refine y_istore C dX1_read_129 (Nat.le_of_ble_eq_true rfl) rfl (lv' := [(5, .int q14.1), (3, .int q12), (4, .int a10.2.1), (0, .ref (qAd E 5)), (1, .ref (qAd E 2)), (2, .int x2)]) rfl ?_
            refine y_iload C dX1_read_131 0 rfl ?_
            refine y_iconst C (v := 4) dX1_read_133 (by decide) ?_
            refine y_icmp_ge C 142 dX1_read_134 (by decide) hf (fun hf => ?_) (fun hf => ?_)
            · refine y_iload_n C dX1_read_142 rfl 1 rfl ?_
              refine y_iload C dX1_read_143 0 rfl ?_
              refine y_iadd C dX1_read_145 ?_
              obtain ⟨v15, e_v15, hf⟩ := lt_e hf
              refine y_istore_n C dX1_read_146 rfl (Nat.le_of_ble_eq_true rfl) e_v15 (lv' := [(3, .int v15), (5, .int q14.1), (4, .int a10.2.1), (0, .ref (qAd E 5)), (1, .ref (qAd E 2)), (2, .int x2)]) rfl ?_
              refine y_iinc C dX1_read_147 2 rfl (Nat.le_of_ble_eq_true rfl) (k2 := 1) (by decide) rfl (lv' := [(4, .int (a10.2.1 + (1 : Int32))), (3, .int v15), (5, .int q14.1), (0, .ref (qAd E 5)), (1, .ref (qAd E 2)), (2, .int x2)]) rfl ?_
              refine y_goto C 85 dX1_read_150 (by decide) ?_
              refine y_sub [0, 1, 3, 4, 5] rfl ?_
              exact ih_r11 (v15, (a10.2.1 + (1 : Int32)), q14.2) hf
            · refine y_iload_n C dX1_read_137 rfl 1 rfl ?_
              refine y_iload C dX1_read_138 0 rfl ?_
              refine y_iadd C dX1_read_140 ?_
              exact y_iret C (rs1 hf) (rs2 hf) rfl dX1_read_141
          · refine y_aload_n C dX1_read_108 rfl 2 rfl ?_
            refine g5_sitterCount C fl_X1_31 dX1_read_109 ?_
            refine y_if_ne C 119 dX1_read_112 (by decide) hf (fun hf => ?_) (fun hf => ?_)
            · refine y_bipush C (v := -9) dX1_read_119 (by decide) ?_
              exact y_iret C (rs1 hf) (rs2 hf) rfl dX1_read_121
            · refine y_iload_n C dX1_read_115 rfl 0 rfl ?_
              refine y_goto C 121 dX1_read_116 (by decide) ?_
              exact y_iret C (rs1 hf) (rs2 hf) rfl dX1_read_121
      · refine y_iload_n C dX1_read_80 rfl 0 rfl ?_
        exact y_iret C (rs1 hf) (rs2 hf) rfl dX1_read_81
    · refine y_iload_n C dX1_read_59 rfl 0 rfl ?_
      refine y_iconst C (v := 1) dX1_read_60 (by decide) ?_
      refine y_iadd C dX1_read_61 ?_
      exact y_iret C (rs1 hf) (rs2 hf) rfl dX1_read_62
  · refine y_iload_n C dX1_read_38 rfl 0 rfl ?_
    exact y_iret C (rs1 hf) (rs2 hf) rfl dX1_read_39
noncomputable def fX0_begin_6  (σ : QS) : QS :=
    lt_ (pM σ 25 (va_cpy (gM σ 22) (gM σ 25) (0 : Int32).toNatClampNeg (0 : Int32).toNatClampNeg (6 : Int32).toNatClampNeg)) (fun (S1 : QS) => lt_ (pI S1 12 (0 : Int32)) (fun (S2 : QS) => lt_ (pI S2 13 (0 : Int32)) (fun (S3 : QS) => lt_ (pI S3 14 (0 : Int32)) (fun (S4 : QS) => lt_ (pI S4 15 (gI S4 7)) (fun (S5 : QS) => lt_ (pI S5 16 (0 : Int32)) (fun (S6 : QS) => lt_ (pI S6 17 (0 : Int32)) (fun (S7 : QS) => lt_ (pI S7 18 (0 : Int32)) (fun (S8 : QS) => S8))))))))
def rm_X0_begin_6 : Room := { frames := 1, cells := 0, slots := 0, locals := 64 }
set_option maxRecDepth 100000 in
set_option maxHeartbeats 4000000 in
theorem kX0_begin_6 (l : Launch) (E : QE) (σ τ : QS)  (q : QS) (hf : fX0_begin_6 σ = q) : KQ l yX0_begin cX0_begin 1 none rm_X0_begin_6 E [.ref (qAd E 6)] σ τ (PV E q τ) := by
  unfold fX0_begin_6 at hf
  refine y_met rfl (Nat.le_of_ble_eq_true rfl) rfl (fun p e s m below meth c C => ?_)
  refine y_aload_n C dX0_begin_0 rfl 0 rfl ?_
  refine g6_script C fl_X0_18 dX0_begin_1 ?_
  refine gN5_seat C fn_X0_22 dX0_begin_4 ?_
  refine y_iconst C (v := 0) dX0_begin_7 (by decide) ?_
  refine y_aload_n C dX0_begin_8 rfl 0 rfl ?_
  refine g6_seat C fl_X0_9 dX0_begin_9 ?_
  refine y_iconst C (v := 0) dX0_begin_12 (by decide) ?_
  refine y_bipush C (v := 6) dX0_begin_13 (by decide) ?_
  obtain ⟨S1, e_S1, hf⟩ := lt_e hf
  refine y_copy C a22 a25 (by decide) mc_X0_25 ac_nat ac_stat ac_ini (Nat.le_of_ble_eq_true rfl) (by decide) e_S1 dX0_begin_15 ?_
  refine y_aload_n C dX0_begin_18 rfl 0 rfl ?_
  refine y_iconst C (v := 0) dX0_begin_19 (by decide) ?_
  obtain ⟨S2, e_S2, hf⟩ := lt_e hf
  refine p6_deedCount C fl_X0_31 e_S2 dX0_begin_20 ?_
  refine y_aload_n C dX0_begin_23 rfl 0 rfl ?_
  refine y_iconst C (v := 0) dX0_begin_24 (by decide) ?_
  obtain ⟨S3, e_S3, hf⟩ := lt_e hf
  refine p6_scene C fl_X0_35 e_S3 dX0_begin_25 ?_
  refine y_aload_n C dX0_begin_28 rfl 0 rfl ?_
  refine y_iconst C (v := 0) dX0_begin_29 (by decide) ?_
  obtain ⟨S4, e_S4, hf⟩ := lt_e hf
  refine p6_called C fl_X0_38 e_S4 dX0_begin_30 ?_
  refine y_aload_n C dX0_begin_33 rfl 0 rfl ?_
  refine y_aload_n C dX0_begin_34 rfl 0 rfl ?_
  refine g6_script C fl_X0_18 dX0_begin_35 ?_
  refine gN5_promptCount C fn_X0_41 dX0_begin_38 ?_
  obtain ⟨S5, e_S5, hf⟩ := lt_e hf
  refine p6_promptsLeft C fl_X0_44 e_S5 dX0_begin_41 ?_
  refine y_aload_n C dX0_begin_44 rfl 0 rfl ?_
  refine y_iconst C (v := 0) dX0_begin_45 (by decide) ?_
  obtain ⟨S6, e_S6, hf⟩ := lt_e hf
  refine p6_shame C fl_X0_47 e_S6 dX0_begin_46 ?_
  refine y_aload_n C dX0_begin_49 rfl 0 rfl ?_
  refine y_iconst C (v := 0) dX0_begin_50 (by decide) ?_
  obtain ⟨S7, e_S7, hf⟩ := lt_e hf
  refine p6_clapping C fl_X0_50 e_S7 dX0_begin_51 ?_
  refine y_aload_n C dX0_begin_54 rfl 0 rfl ?_
  refine y_iconst C (v := 0) dX0_begin_55 (by decide) ?_
  obtain ⟨S8, e_S8, hf⟩ := lt_e hf
  refine p6_carriedCount C fl_X0_53 e_S8 dX0_begin_56 ?_
  exact y_vret C hf rfl dX0_begin_59
noncomputable def fX3_isPlace_3 (x1 : Int32) (σ : QS) : Int32 :=
    (if x1 < 0 then (0 : Int32) else (if (3 : Int32) ≤ x1 then (0 : Int32) else (1 : Int32)))
def rm_X3_isPlace_3 : Room := { frames := 0, cells := 0, slots := 0, locals := 0 }
set_option maxRecDepth 100000 in
set_option maxHeartbeats 4000000 in
theorem kX3_isPlace_3 (l : Launch) (E : QE) (σ τ : QS) (x1 : Int32) (q : Int32) (hf : fX3_isPlace_3 x1 σ = q) : KQ l yX3_isPlace cX3_isPlace 2 (some .boolean) rm_X3_isPlace_3 E [.ref (qAd E 3), .int x1] σ τ (PI E q σ τ) := by
  unfold fX3_isPlace_3 at hf
  refine y_met rfl (Nat.le_of_ble_eq_true rfl) rfl (fun p e s m below meth c C => ?_)
  refine y_iload_n C dX3_isPlace_0 rfl 1 rfl ?_
  refine y_if_lt C 17 dX3_isPlace_1 (by decide) hf (fun hf => ?_) (fun hf => ?_)
  · refine y_iconst C (v := 0) dX3_isPlace_17 (by decide) ?_
    exact y_zret C zOk0 hf rfl rfl dX3_isPlace_18
  · refine y_iload_n C dX3_isPlace_4 rfl 1 rfl ?_
    refine y_aload_n C dX3_isPlace_5 rfl 0 rfl ?_
    refine g3_sizes C fl_X3_14 dX3_isPlace_6 ?_
    refine y_alenC C a14 (v := 3) (by decide) dX3_isPlace_9 ?_
    refine y_icmp_ge C 17 dX3_isPlace_10 (by decide) hf (fun hf => ?_) (fun hf => ?_)
    · refine y_iconst C (v := 0) dX3_isPlace_17 (by decide) ?_
      exact y_zret C zOk0 hf rfl rfl dX3_isPlace_18
    · refine y_iconst C (v := 1) dX3_isPlace_13 (by decide) ?_
      refine y_goto C 18 dX3_isPlace_14 (by decide) ?_
      exact y_zret C zOk1 hf rfl rfl dX3_isPlace_18
theorem zX3_isPlace_3 (x1 : Int32) (σ : QS) : zOk (fX3_isPlace_3 x1 σ) := by
  unfold fX3_isPlace_3
  try simp only [lt_]
  (repeat' split) <;> first | exact zOk0 | exact zOk1
noncomputable def fX3_drop_3 (x1 : Int32) (σ : QS) : Option (QS) :=
    (if (fX3_isPlace_3 x1 σ) = 0 then some σ else ck_ (inb x1 3) (lt_ (pM σ 14 (upd (gM σ 14) x1.toNatClampNeg (-1 : Int32))) (fun (S2 : QS) => some S2)))
def rm_X3_drop_3 : Room := { frames := 1, cells := 0, slots := 0, locals := 21 }
set_option maxRecDepth 100000 in
set_option maxHeartbeats 4000000 in
theorem kX3_drop_3 (l : Launch) (E : QE) (σ τ : QS) (x1 : Int32) (q : QS) (hf : fX3_drop_3 x1 σ = some q) : KQ l yX3_drop cX3_drop 2 none rm_X3_drop_3 E [.ref (qAd E 3), .int x1] σ τ (PV E q τ) := by
  unfold fX3_drop_3 at hf
  refine y_met rfl (Nat.le_of_ble_eq_true rfl) rfl (fun p e s m below meth c C => ?_)
  refine y_aload_n C dX3_drop_0 rfl 0 rfl ?_
  refine y_iload_n C dX3_drop_1 rfl 1 rfl ?_
  refine y_cVi C (kX3_isPlace_3 l E σ τ x1 _ rfl) vi_X3_isPlace ml_X3_28 ⟨3, _, o3, rfl, rfl⟩ rfl ⟨rfl, rfl, Nat.le_of_ble_eq_true rfl, Nat.le_of_ble_eq_true rfl⟩ dX3_drop_2 rfl (Nat.le_of_ble_eq_true rfl) ?_
  refine y_if_eq C 15 dX3_drop_5 (by decide) hf (fun hf => ?_) (fun hf => ?_)
  · exact y_vret C (Option.some.inj hf) rfl dX3_drop_15
  · refine y_aload_n C dX3_drop_8 rfl 0 rfl ?_
    refine g3_sizes C fl_X3_14 dX3_drop_9 ?_
    refine y_iload_n C dX3_drop_12 rfl 1 rfl ?_
    refine y_iconst C (v := -1) dX3_drop_13 (by decide) ?_
    obtain ⟨hi1, hf⟩ := ck_e hf
    obtain ⟨S2, e_S2, hf⟩ := lt_e hf
    refine y_iastC C a14 (j := x1.toNatClampNeg) rfl hi1 e_S2 dX3_drop_14 ?_
    exact y_vret C (Option.some.inj hf) rfl dX3_drop_15
noncomputable def fX4_house_0 (x1 : Int32) (σ : QS) : Option (Int32 × QS) :=
    Option.bind (fX4_refusalOfPlace_0_2 x1 σ) (fun (q1 : Int32 × QS) => (if q1.1 = 0 then Option.bind (fX1_read_4_2 x1 q1.2) (fun (q2 : Int32 × QS) => (if q2.1 = (-9 : Int32) then Option.bind (fX1_read_5_2 x1 q2.2) (fun (q3 : Int32 × QS) => lt_ (fX0_begin_6 q3.2) (fun (q4 : QS) => lp_ (fun (r6 : Int32 × QS → Option (Int32 × QS)) (a5 : Int32 × QS) => (if (3 : Int32) ≤ a5.1 then some ((gI a5.2 9), a5.2) else Option.bind (fX3_drop_3 a5.1 a5.2) (fun (q7 : QS) => r6 ((a5.1 + (1 : Int32)), q7)))) FV ((0 : Int32), q4))) else some ((-4 : Int32), q2.2))) else some (q1.1, q1.2)))
def rm_X4_house_0 : Room := { frames := 6, cells := 0, slots := 0, locals := 140 }
set_option maxRecDepth 100000 in
set_option maxHeartbeats 4000000 in
theorem kX4_house_0 (l : Launch) (E : QE) (σ τ : QS) (x1 : Int32) (q : Int32 × QS) (hf : fX4_house_0 x1 σ = some q) : KQ l yX4_house cX4_house 4 (some .int) rm_X4_house_0 E [.ref (qAd E 0), .int x1] σ τ (PI E q.1 q.2 τ) := by
  unfold fX4_house_0 at hf
  refine y_met rfl (Nat.le_of_ble_eq_true rfl) rfl (fun p e s m below meth c C => ?_)
  refine y_aload_n C dX4_house_0 rfl 0 rfl ?_
  refine y_aload_n C dX4_house_1 rfl 0 rfl ?_
  refine g0_textShelf C fl_X4_18 dX4_house_2 ?_
  refine y_iload_n C dX4_house_5 rfl 1 rfl ?_
  obtain ⟨q1, h_q1, hf⟩ := bd_e hf
  refine y_cVi C (kX4_refusalOfPlace_0_2 l E σ τ x1 _ h_q1) vi_X4_refusalOfPlace ml_X4_86 ⟨4, _, o0, rfl, rfl⟩ rfl ⟨rfl, rfl, Nat.le_of_ble_eq_true rfl, Nat.le_of_ble_eq_true rfl⟩ dX4_house_6 rfl (Nat.le_of_ble_eq_true rfl) ?_
  refine y_istore_n C dX4_house_9 rfl (Nat.le_of_ble_eq_true rfl) rfl (lv' := [(2, .int q1.1), (0, .ref (qAd E 0)), (1, .int x1)]) rfl ?_
  refine y_iload_n C dX4_house_10 rfl 0 rfl ?_
  refine y_if_eq C 16 dX4_house_11 (by decide) hf (fun hf => ?_) (fun hf => ?_)
  · refine y_aload_n C dX4_house_16 rfl 1 rfl ?_
    refine g0_draft C fl_X4_27 dX4_house_17 ?_
    refine y_aload_n C dX4_house_20 rfl 1 rfl ?_
    refine g0_textShelf C fl_X4_18 dX4_house_21 ?_
    refine y_iload_n C dX4_house_24 rfl 2 rfl ?_
    obtain ⟨q2, h_q2, hf⟩ := bd_e hf
    refine y_cVi C (kX1_read_4_2 l E q1.2 τ x1 _ h_q2) vi_X1_read ml_X4_108 ⟨1, _, o4, rfl, rfl⟩ rfl ⟨rfl, rfl, Nat.le_of_ble_eq_true rfl, Nat.le_of_ble_eq_true rfl⟩ dX4_house_25 rfl (Nat.le_of_ble_eq_true rfl) ?_
    refine y_bipush C (v := -9) dX4_house_28 (by decide) ?_
    refine y_icmp_eq C 36 dX4_house_30 (by decide) hf (fun hf => ?_) (fun hf => ?_)
    · refine y_aload_n C dX4_house_36 rfl 1 rfl ?_
      refine g0_script C fl_X4_31 dX4_house_37 ?_
      refine y_aload_n C dX4_house_40 rfl 1 rfl ?_
      refine g0_textShelf C fl_X4_18 dX4_house_41 ?_
      refine y_iload_n C dX4_house_44 rfl 2 rfl ?_
      obtain ⟨q3, h_q3, hf⟩ := bd_e hf
      refine y_cVi C (kX1_read_5_2 l E q2.2 τ x1 _ h_q3) vi_X1_read ml_X4_108 ⟨1, _, o5, rfl, rfl⟩ rfl ⟨rfl, rfl, Nat.le_of_ble_eq_true rfl, Nat.le_of_ble_eq_true rfl⟩ dX4_house_45 rfl (Nat.le_of_ble_eq_true rfl) ?_
      refine y_pop C dX4_house_48 rfl ?_
      refine y_aload_n C dX4_house_49 rfl 1 rfl ?_
      refine g0_night C fl_X4_39 dX4_house_50 ?_
      obtain ⟨q4, e_q4, hf⟩ := lt_e hf
      refine y_cVv C (kX0_begin_6 l E q3.2 τ _ e_q4.symm) vi_X0_begin ml_X4_111 ⟨0, _, o6, rfl, rfl⟩ rfl ⟨rfl, rfl, Nat.le_of_ble_eq_true rfl, Nat.le_of_ble_eq_true rfl⟩ dX4_house_53 rfl (Nat.le_of_ble_eq_true rfl) ?_
      refine y_iconst C (v := 0) dX4_house_56 (by decide) ?_
      refine y_istore_n C dX4_house_57 rfl (Nat.le_of_ble_eq_true rfl) rfl (lv' := [(3, .int (0 : Int32)), (2, .int q1.1), (0, .ref (qAd E 0)), (1, .int x1)]) rfl ?_
      refine y_sub [0, 2] rfl ?_
      refine lp_ind (P := fun a5 : Int32 × QS => Y E p l e rm_X4_house_0 s m ([.ref (qAd E 0), .int x1] : List Value).toArray below meth c 4 (MQ below (PI E q.1 q.2 τ) ([.ref (qAd E 0), .int x1] : List Value).toArray s 0 0 (qA E)) a5.2 τ 58 [(3, .int a5.1), (0, .ref (qAd E 0))] []) (fun r6 a5 ih_r6 hf => ?_) _ _ hf
      refine y_iload_n C dX4_house_58 rfl 0 rfl ?_
      refine y_iconst C (v := 3) dX4_house_59 (by decide) ?_
      refine y_icmp_ge C 77 dX4_house_60 (by decide) hf (fun hf => ?_) (fun hf => ?_)
      · refine y_aload_n C dX4_house_77 rfl 1 rfl ?_
        refine g0_script C fl_X4_31 dX4_house_78 ?_
        refine gN5_sitterCount C fn_X4_114 dX4_house_81 ?_
        exact y_iret C (rs1 hf) (rs2 hf) rfl dX4_house_84
      · refine y_aload_n C dX4_house_63 rfl 1 rfl ?_
        refine g0_keptShelf C fl_X4_21 dX4_house_64 ?_
        refine y_iload_n C dX4_house_67 rfl 0 rfl ?_
        obtain ⟨q7, h_q7, hf⟩ := bd_e hf
        refine y_cVv C (kX3_drop_3 l E a5.2 τ a5.1 _ h_q7) vi_X3_drop ml_X4_90 ⟨3, _, o3, rfl, rfl⟩ rfl ⟨rfl, rfl, Nat.le_of_ble_eq_true rfl, Nat.le_of_ble_eq_true rfl⟩ dX4_house_68 rfl (Nat.le_of_ble_eq_true rfl) ?_
        refine y_iinc C dX4_house_71 0 rfl (Nat.le_of_ble_eq_true rfl) (k2 := 1) (by decide) rfl (lv' := [(3, .int (a5.1 + (1 : Int32))), (0, .ref (qAd E 0))]) rfl ?_
        refine y_goto C 58 dX4_house_74 (by decide) ?_
        refine y_sub [0, 1] rfl ?_
        exact ih_r6 ((a5.1 + (1 : Int32)), q7) hf
    · refine y_bipush C (v := -4) dX4_house_33 (by decide) ?_
      exact y_iret C (rs1 hf) (rs2 hf) rfl dX4_house_35
  · refine y_iload_n C dX4_house_14 rfl 0 rfl ?_
    exact y_iret C (rs1 hf) (rs2 hf) rfl dX4_house_15
noncomputable def fX5_house_50 (x1 : Int32) (τ : QS) : Option (Int32 × QS) :=
    (if (fX5_isText x1) = 0 then some ((-1 : Int32), τ) else ck_ (inb x1 4) ((if 0 ≤ (gM τ 58 x1.toNatClampNeg) then Option.bind (fX5_faultOf_50 x1 τ) (fun (q2 : Int32 × QS) => (if q2.1 = (-9 : Int32) then lt_ (pI q2.2 0 (gI q2.2 8)) (fun (S3 : QS) => lt_ (pI S3 1 (gI S3 9)) (fun (S4 : QS) => lp_ (fun (r6 : Int32 × QS → Option (Int32 × QS)) (a5 : Int32 × QS) => (if (gI a5.2 0) ≤ a5.1 then lp_ (fun (r8 : Int32 × QS → Option (Int32 × QS)) (a7 : Int32 × QS) => (if (493 : Int32) ≤ a7.1 then lt_ (pM a7.2 51 (upd (gM a7.2 51) 2 (gI a7.2 7))) (fun (S9 : QS) => lp_ (fun (r11 : Int32 × QS → Option (Int32 × QS)) (a10 : Int32 × QS) => (if (gI a10.2 1) ≤ a10.1 then lp_ (fun (r13 : Int32 × QS → Option (Int32 × QS)) (a12 : Int32 × QS) => (if (4 : Int32) ≤ a12.1 then some ((gI a12.2 1), a12.2) else ck_ (inb (((493 : Int32) * a12.1) + (0 : Int32)) 1972) (lt_ (pM a12.2 51 (upd (gM a12.2 51) ((((493 : Int32) * a12.1) + (0 : Int32)).toNatClampNeg) (-1 : Int32))) (fun (S15 : QS) => r13 ((a12.1 + (1 : Int32)), S15))))) FV ((1 : Int32), a10.2) else ck_ (inb ((4 : Int32) * a10.1) 24) (ck_ (inb a10.1 6) (lt_ (pM a10.2 53 (upd (gM a10.2 53) a10.1.toNatClampNeg (gM a10.2 62 (((4 : Int32) * a10.1).toNatClampNeg)))) (fun (S18 : QS) => ck_ (inb (((4 : Int32) * a10.1) + (1 : Int32)) 24) (ck_ (inb ((7 : Int32) + a10.1) 1972) (lt_ (pM S18 51 (upd (gM S18 51) (((7 : Int32) + a10.1).toNatClampNeg) (gM S18 62 ((((4 : Int32) * a10.1) + (1 : Int32)).toNatClampNeg)))) (fun (S21 : QS) => ck_ (inb (((4 : Int32) * a10.1) + (2 : Int32)) 24) (ck_ (inb a10.1 6) (lt_ (pM S21 54 (upd (gM S21 54) a10.1.toNatClampNeg (gM S21 62 ((((4 : Int32) * a10.1) + (2 : Int32)).toNatClampNeg)))) (fun (S24 : QS) => ck_ (inb (((4 : Int32) * a10.1) + (3 : Int32)) 24) (ck_ (inb a10.1 6) (lt_ (pM S24 55 (upd (gM S24 55) a10.1.toNatClampNeg (gM S24 62 ((((4 : Int32) * a10.1) + (3 : Int32)).toNatClampNeg)))) (fun (S27 : QS) => r11 ((a10.1 + (1 : Int32)), S27))))))))))))))) FV ((0 : Int32), S9)) else ck_ (inb a7.1 1972) (lt_ (pM a7.2 51 (upd (gM a7.2 51) a7.1.toNatClampNeg (0 : Int32))) (fun (S29 : QS) => r8 ((a7.1 + (1 : Int32)), S29))))) FV ((0 : Int32), a5.2) else ck_ (inb a5.1 6) (ck_ (inb a5.1 6) (lt_ (pM a5.2 52 (upd (gM a5.2 52) a5.1.toNatClampNeg (gM a5.2 61 a5.1.toNatClampNeg))) (fun (S32 : QS) => r6 ((a5.1 + (1 : Int32)), S32)))))) FV ((0 : Int32), S4))) else some ((-4 : Int32), q2.2))) else Option.bind (fX5_find_50 (1 : Int32) τ) (fun (q33 : Int32 × QS) => some (q33.1, q33.2)))))
def rm_X5_house_50 : Room := { frames := 5, cells := 0, slots := 0, locals := 116 }
set_option maxRecDepth 100000 in
set_option maxHeartbeats 4000000 in
theorem kX5_house_50 (l : Launch) (E : QE) (σ τ : QS) (x1 : Int32) (q : Int32 × QS) (hf : fX5_house_50 x1 τ = some q) : KQ l yX5_house cX5_house 3 (some .int) rm_X5_house_50 E [.ref (qAd E 50), .int x1] σ τ (PI E q.1 σ q.2) := by
  unfold fX5_house_50 at hf
  refine y_met rfl (Nat.le_of_ble_eq_true rfl) rfl (fun p e s m below meth c C => ?_)
  refine y_iload_n C dX5_house_0 rfl 1 rfl ?_
  refine y_cSi C (kX5_isText l E σ τ x1 _ rfl) si_X5_isText ml_X5_106 rfl ⟨rfl, rfl, Nat.le_of_ble_eq_true rfl, Nat.le_of_ble_eq_true rfl⟩ dX5_house_1 rfl (Nat.le_of_ble_eq_true rfl) ?_
  refine y_if_ne C 9 dX5_house_4 (by decide) hf (fun hf => ?_) (fun hf => ?_)
  · refine y_aload_n C dX5_house_9 rfl 0 rfl ?_
    refine g50_lengths C fl_X5_31 dX5_house_10 ?_
    refine y_iload_n C dX5_house_13 rfl 1 rfl ?_
    obtain ⟨hi1, hf⟩ := ck_e hf
    refine y_ialdR C a58 (j := x1.toNatClampNeg) rfl hi1 dX5_house_14 ?_
    refine y_if_ge C 24 dX5_house_15 (by decide) hf (fun hf => ?_) (fun hf => ?_)
    · refine y_aload_n C dX5_house_24 rfl 0 rfl ?_
      refine y_iload_n C dX5_house_25 rfl 1 rfl ?_
      obtain ⟨q2, h_q2, hf⟩ := bd_e hf
      refine y_cVi C (kX5_faultOf_50 l E σ τ x1 _ h_q2) vi_X5_faultOf ml_X5_157 ⟨5, _, o50, rfl, rfl⟩ rfl ⟨rfl, rfl, Nat.le_of_ble_eq_true rfl, Nat.le_of_ble_eq_true rfl⟩ dX5_house_26 rfl (Nat.le_of_ble_eq_true rfl) ?_
      refine y_bipush C (v := -9) dX5_house_29 (by decide) ?_
      refine y_icmp_eq C 37 dX5_house_31 (by decide) hf (fun hf => ?_) (fun hf => ?_)
      · refine y_aload_n C dX5_house_37 rfl 0 rfl ?_
        refine y_aload_n C dX5_house_38 rfl 0 rfl ?_
        refine g50_readScenes C fl_X5_135 dX5_house_39 ?_
        obtain ⟨S3, e_S3, hf⟩ := lt_e hf
        refine p50_scenes C fl_X5_160 e_S3 dX5_house_42 ?_
        refine y_aload_n C dX5_house_45 rfl 0 rfl ?_
        refine y_aload_n C dX5_house_46 rfl 0 rfl ?_
        refine g50_readMany C fl_X5_141 dX5_house_47 ?_
        obtain ⟨S4, e_S4, hf⟩ := lt_e hf
        refine p50_sitters C fl_X5_163 e_S4 dX5_house_50 ?_
        refine y_iconst C (v := 0) dX5_house_53 (by decide) ?_
        refine y_istore_n C dX5_house_54 rfl (Nat.le_of_ble_eq_true rfl) rfl (lv' := [(2, .int (0 : Int32)), (0, .ref (qAd E 50)), (1, .int x1)]) rfl ?_
        refine y_sub [0, 1] rfl ?_
        refine lp_ind (P := fun a5 : Int32 × QS => Y E p l e rm_X5_house_50 s m ([.ref (qAd E 50), .int x1] : List Value).toArray below meth c 3 (MQ below (PI E q.1 σ q.2) ([.ref (qAd E 50), .int x1] : List Value).toArray s 0 0 (qA E)) σ a5.2 55 [(2, .int a5.1), (0, .ref (qAd E 50))] []) (fun r6 a5 ih_r6 hf => ?_) _ _ hf
        refine y_iload_n C dX5_house_55 rfl 0 rfl ?_
        refine y_aload_n C dX5_house_56 rfl 1 rfl ?_
        refine g50_scenes C fl_X5_160 dX5_house_57 ?_
        refine y_icmp_ge C 81 dX5_house_60 (by decide) hf (fun hf => ?_) (fun hf => ?_)
        · refine y_iconst C (v := 0) dX5_house_81 (by decide) ?_
          refine y_istore_n C dX5_house_82 rfl (Nat.le_of_ble_eq_true rfl) rfl (lv' := [(2, .int (0 : Int32)), (0, .ref (qAd E 50))]) rfl ?_
          refine y_sub [0, 1] rfl ?_
          refine lp_ind (P := fun a7 : Int32 × QS => Y E p l e rm_X5_house_50 s m ([.ref (qAd E 50), .int x1] : List Value).toArray below meth c 3 (MQ below (PI E q.1 σ q.2) ([.ref (qAd E 50), .int x1] : List Value).toArray s 0 0 (qA E)) σ a7.2 83 [(2, .int a7.1), (0, .ref (qAd E 50))] []) (fun r8 a7 ih_r8 hf => ?_) _ _ hf
          refine y_iload_n C dX5_house_83 rfl 0 rfl ?_
          refine y_sipush C (v := 493) dX5_house_84 (by decide) ?_
          refine y_icmp_ge C 103 dX5_house_87 (by decide) hf (fun hf => ?_) (fun hf => ?_)
          · refine y_aload_n C dX5_house_103 rfl 1 rfl ?_
            refine g50_row C fl_X5_7 dX5_house_104 ?_
            refine y_iconst C (v := 2) dX5_house_107 (by decide) ?_
            refine y_aload_n C dX5_house_108 rfl 1 rfl ?_
            refine g50_readPrompts C fl_X5_132 dX5_house_109 ?_
            obtain ⟨S9, e_S9, hf⟩ := lt_e hf
            refine y_iastR C a51 (j := 2) (by decide) (by decide) e_S9 dX5_house_112 ?_
            refine y_iconst C (v := 0) dX5_house_113 (by decide) ?_
            refine y_istore_n C dX5_house_114 rfl (Nat.le_of_ble_eq_true rfl) rfl (lv' := [(2, .int (0 : Int32)), (0, .ref (qAd E 50))]) rfl ?_
            refine y_sub [0, 1] rfl ?_
            refine lp_ind (P := fun a10 : Int32 × QS => Y E p l e rm_X5_house_50 s m ([.ref (qAd E 50), .int x1] : List Value).toArray below meth c 3 (MQ below (PI E q.1 σ q.2) ([.ref (qAd E 50), .int x1] : List Value).toArray s 0 0 (qA E)) σ a10.2 115 [(2, .int a10.1), (0, .ref (qAd E 50))] []) (fun r11 a10 ih_r11 hf => ?_) _ _ hf
            refine y_iload_n C dX5_house_115 rfl 0 rfl ?_
            refine y_aload_n C dX5_house_116 rfl 1 rfl ?_
            refine g50_sitters C fl_X5_163 dX5_house_117 ?_
            refine y_icmp_ge C 194 dX5_house_120 (by decide) hf (fun hf => ?_) (fun hf => ?_)
            · refine y_iconst C (v := 1) dX5_house_194 (by decide) ?_
              refine y_istore_n C dX5_house_195 rfl (Nat.le_of_ble_eq_true rfl) rfl (lv' := [(2, .int (1 : Int32)), (0, .ref (qAd E 50))]) rfl ?_
              refine y_sub [0, 1] rfl ?_
              refine lp_ind (P := fun a12 : Int32 × QS => Y E p l e rm_X5_house_50 s m ([.ref (qAd E 50), .int x1] : List Value).toArray below meth c 3 (MQ below (PI E q.1 σ q.2) ([.ref (qAd E 50), .int x1] : List Value).toArray s 0 0 (qA E)) σ a12.2 196 [(2, .int a12.1), (0, .ref (qAd E 50))] []) (fun r13 a12 ih_r13 hf => ?_) _ _ hf
              refine y_iload_n C dX5_house_196 rfl 0 rfl ?_
              refine y_iconst C (v := 4) dX5_house_197 (by decide) ?_
              refine y_icmp_ge C 220 dX5_house_198 (by decide) hf (fun hf => ?_) (fun hf => ?_)
              · refine y_aload_n C dX5_house_220 rfl 1 rfl ?_
                refine g50_sitters C fl_X5_163 dX5_house_221 ?_
                exact y_iret C (rs1 hf) rfl (rs2 hf) dX5_house_224
              · refine y_aload_n C dX5_house_201 rfl 1 rfl ?_
                refine g50_row C fl_X5_7 dX5_house_202 ?_
                refine y_sipush C (v := 493) dX5_house_205 (by decide) ?_
                refine y_iload_n C dX5_house_208 rfl 0 rfl ?_
                refine y_imul C dX5_house_209 ?_
                refine y_iconst C (v := 0) dX5_house_210 (by decide) ?_
                refine y_iadd C dX5_house_211 ?_
                refine y_iconst C (v := -1) dX5_house_212 (by decide) ?_
                obtain ⟨hi14, hf⟩ := ck_e hf
                obtain ⟨S15, e_S15, hf⟩ := lt_e hf
                refine y_iastR C a51 (j := (((493 : Int32) * a12.1) + (0 : Int32)).toNatClampNeg) rfl hi14 e_S15 dX5_house_213 ?_
                refine y_iinc C dX5_house_214 0 rfl (Nat.le_of_ble_eq_true rfl) (k2 := 1) (by decide) rfl (lv' := [(2, .int (a12.1 + (1 : Int32))), (0, .ref (qAd E 50))]) rfl ?_
                refine y_goto C 196 dX5_house_217 (by decide) ?_
                refine y_sub [0, 1] rfl ?_
                exact ih_r13 ((a12.1 + (1 : Int32)), S15) hf
            · refine y_aload_n C dX5_house_123 rfl 1 rfl ?_
              refine g50_kinds C fl_X5_16 dX5_house_124 ?_
              refine y_iload_n C dX5_house_127 rfl 0 rfl ?_
              refine y_aload_n C dX5_house_128 rfl 1 rfl ?_
              refine g50_readSitters C fl_X5_47 dX5_house_129 ?_
              refine y_iconst C (v := 4) dX5_house_132 (by decide) ?_
              refine y_iload_n C dX5_house_133 rfl 0 rfl ?_
              refine y_imul C dX5_house_134 ?_
              obtain ⟨hi16, hf⟩ := ck_e hf
              refine y_ialdR C a62 (j := ((4 : Int32) * a10.1).toNatClampNeg) rfl hi16 dX5_house_135 ?_
              obtain ⟨hi17, hf⟩ := ck_e hf
              obtain ⟨S18, e_S18, hf⟩ := lt_e hf
              refine y_iastR C a53 (j := a10.1.toNatClampNeg) rfl hi17 e_S18 dX5_house_136 ?_
              refine y_aload_n C dX5_house_137 rfl 1 rfl ?_
              refine g50_row C fl_X5_7 dX5_house_138 ?_
              refine y_bipush C (v := 7) dX5_house_141 (by decide) ?_
              refine y_iload_n C dX5_house_143 rfl 0 rfl ?_
              refine y_iadd C dX5_house_144 ?_
              refine y_aload_n C dX5_house_145 rfl 1 rfl ?_
              refine g50_readSitters C fl_X5_47 dX5_house_146 ?_
              refine y_iconst C (v := 4) dX5_house_149 (by decide) ?_
              refine y_iload_n C dX5_house_150 rfl 0 rfl ?_
              refine y_imul C dX5_house_151 ?_
              refine y_iconst C (v := 1) dX5_house_152 (by decide) ?_
              refine y_iadd C dX5_house_153 ?_
              obtain ⟨hi19, hf⟩ := ck_e hf
              refine y_ialdR C a62 (j := (((4 : Int32) * a10.1) + (1 : Int32)).toNatClampNeg) rfl hi19 dX5_house_154 ?_
              obtain ⟨hi20, hf⟩ := ck_e hf
              obtain ⟨S21, e_S21, hf⟩ := lt_e hf
              refine y_iastR C a51 (j := ((7 : Int32) + a10.1).toNatClampNeg) rfl hi20 e_S21 dX5_house_155 ?_
              refine y_aload_n C dX5_house_156 rfl 1 rfl ?_
              refine g50_memories C fl_X5_19 dX5_house_157 ?_
              refine y_iload_n C dX5_house_160 rfl 0 rfl ?_
              refine y_aload_n C dX5_house_161 rfl 1 rfl ?_
              refine g50_readSitters C fl_X5_47 dX5_house_162 ?_
              refine y_iconst C (v := 4) dX5_house_165 (by decide) ?_
              refine y_iload_n C dX5_house_166 rfl 0 rfl ?_
              refine y_imul C dX5_house_167 ?_
              refine y_iconst C (v := 2) dX5_house_168 (by decide) ?_
              refine y_iadd C dX5_house_169 ?_
              obtain ⟨hi22, hf⟩ := ck_e hf
              refine y_ialdR C a62 (j := (((4 : Int32) * a10.1) + (2 : Int32)).toNatClampNeg) rfl hi22 dX5_house_170 ?_
              obtain ⟨hi23, hf⟩ := ck_e hf
              obtain ⟨S24, e_S24, hf⟩ := lt_e hf
              refine y_iastR C a54 (j := a10.1.toNatClampNeg) rfl hi23 e_S24 dX5_house_171 ?_
              refine y_aload_n C dX5_house_172 rfl 1 rfl ?_
              refine g50_frights C fl_X5_22 dX5_house_173 ?_
              refine y_iload_n C dX5_house_176 rfl 0 rfl ?_
              refine y_aload_n C dX5_house_177 rfl 1 rfl ?_
              refine g50_readSitters C fl_X5_47 dX5_house_178 ?_
              refine y_iconst C (v := 4) dX5_house_181 (by decide) ?_
              refine y_iload_n C dX5_house_182 rfl 0 rfl ?_
              refine y_imul C dX5_house_183 ?_
              refine y_iconst C (v := 3) dX5_house_184 (by decide) ?_
              refine y_iadd C dX5_house_185 ?_
              obtain ⟨hi25, hf⟩ := ck_e hf
              refine y_ialdR C a62 (j := (((4 : Int32) * a10.1) + (3 : Int32)).toNatClampNeg) rfl hi25 dX5_house_186 ?_
              obtain ⟨hi26, hf⟩ := ck_e hf
              obtain ⟨S27, e_S27, hf⟩ := lt_e hf
              refine y_iastR C a55 (j := a10.1.toNatClampNeg) rfl hi26 e_S27 dX5_house_187 ?_
              refine y_iinc C dX5_house_188 0 rfl (Nat.le_of_ble_eq_true rfl) (k2 := 1) (by decide) rfl (lv' := [(2, .int (a10.1 + (1 : Int32))), (0, .ref (qAd E 50))]) rfl ?_
              refine y_goto C 115 dX5_house_191 (by decide) ?_
              refine y_sub [0, 1] rfl ?_
              exact ih_r11 ((a10.1 + (1 : Int32)), S27) hf
          · refine y_aload_n C dX5_house_90 rfl 1 rfl ?_
            refine g50_row C fl_X5_7 dX5_house_91 ?_
            refine y_iload_n C dX5_house_94 rfl 0 rfl ?_
            refine y_iconst C (v := 0) dX5_house_95 (by decide) ?_
            obtain ⟨hi28, hf⟩ := ck_e hf
            obtain ⟨S29, e_S29, hf⟩ := lt_e hf
            refine y_iastR C a51 (j := a7.1.toNatClampNeg) rfl hi28 e_S29 dX5_house_96 ?_
            refine y_iinc C dX5_house_97 0 rfl (Nat.le_of_ble_eq_true rfl) (k2 := 1) (by decide) rfl (lv' := [(2, .int (a7.1 + (1 : Int32))), (0, .ref (qAd E 50))]) rfl ?_
            refine y_goto C 83 dX5_house_100 (by decide) ?_
            refine y_sub [0, 1] rfl ?_
            exact ih_r8 ((a7.1 + (1 : Int32)), S29) hf
        · refine y_aload_n C dX5_house_63 rfl 1 rfl ?_
          refine g50_lines C fl_X5_13 dX5_house_64 ?_
          refine y_iload_n C dX5_house_67 rfl 0 rfl ?_
          refine y_aload_n C dX5_house_68 rfl 1 rfl ?_
          refine g50_readLines C fl_X5_44 dX5_house_69 ?_
          refine y_iload_n C dX5_house_72 rfl 0 rfl ?_
          obtain ⟨hi30, hf⟩ := ck_e hf
          refine y_ialdR C a61 (j := a5.1.toNatClampNeg) rfl hi30 dX5_house_73 ?_
          obtain ⟨hi31, hf⟩ := ck_e hf
          obtain ⟨S32, e_S32, hf⟩ := lt_e hf
          refine y_iastR C a52 (j := a5.1.toNatClampNeg) rfl hi31 e_S32 dX5_house_74 ?_
          refine y_iinc C dX5_house_75 0 rfl (Nat.le_of_ble_eq_true rfl) (k2 := 1) (by decide) rfl (lv' := [(2, .int (a5.1 + (1 : Int32))), (0, .ref (qAd E 50))]) rfl ?_
          refine y_goto C 55 dX5_house_78 (by decide) ?_
          refine y_sub [0, 1] rfl ?_
          exact ih_r6 ((a5.1 + (1 : Int32)), S32) hf
      · refine y_bipush C (v := -4) dX5_house_34 (by decide) ?_
        exact y_iret C (rs1 hf) rfl (rs2 hf) dX5_house_36
    · refine y_aload_n C dX5_house_18 rfl 0 rfl ?_
      refine y_iconst C (v := 1) dX5_house_19 (by decide) ?_
      obtain ⟨q33, h_q33, hf⟩ := bd_e hf
      refine y_cVi C (kX5_find_50 l E σ τ (1 : Int32) _ h_q33) vi_X5_find ml_X5_87 ⟨5, _, o50, rfl, rfl⟩ rfl ⟨rfl, rfl, Nat.le_of_ble_eq_true rfl, Nat.le_of_ble_eq_true rfl⟩ dX5_house_20 rfl (Nat.le_of_ble_eq_true rfl) ?_
      exact y_iret C (rs1 hf) rfl (rs2 hf) dX5_house_23
  · refine y_iconst C (v := -1) dX5_house_7 (by decide) ?_
    exact y_iret C (rs1 hf) rfl (rs2 hf) dX5_house_8
noncomputable def fX1_isSitter_5 (x1 : Int32) (σ : QS) : Int32 :=
    (if x1 < 0 then (0 : Int32) else (if (gI σ 9) ≤ x1 then (0 : Int32) else (1 : Int32)))
def rm_X1_isSitter_5 : Room := { frames := 0, cells := 0, slots := 0, locals := 0 }
set_option maxRecDepth 100000 in
set_option maxHeartbeats 4000000 in
theorem kX1_isSitter_5 (l : Launch) (E : QE) (σ τ : QS) (x1 : Int32) (q : Int32) (hf : fX1_isSitter_5 x1 σ = q) : KQ l yX1_isSitter cX1_isSitter 2 (some .boolean) rm_X1_isSitter_5 E [.ref (qAd E 5), .int x1] σ τ (PI E q σ τ) := by
  unfold fX1_isSitter_5 at hf
  refine y_met rfl (Nat.le_of_ble_eq_true rfl) rfl (fun p e s m below meth c C => ?_)
  refine y_iload_n C dX1_isSitter_0 rfl 1 rfl ?_
  refine y_if_lt C 16 dX1_isSitter_1 (by decide) hf (fun hf => ?_) (fun hf => ?_)
  · refine y_iconst C (v := 0) dX1_isSitter_16 (by decide) ?_
    exact y_zret C zOk0 hf rfl rfl dX1_isSitter_17
  · refine y_iload_n C dX1_isSitter_4 rfl 1 rfl ?_
    refine y_aload_n C dX1_isSitter_5 rfl 0 rfl ?_
    refine g5_sitterCount C fl_X1_31 dX1_isSitter_6 ?_
    refine y_icmp_ge C 16 dX1_isSitter_9 (by decide) hf (fun hf => ?_) (fun hf => ?_)
    · refine y_iconst C (v := 0) dX1_isSitter_16 (by decide) ?_
      exact y_zret C zOk0 hf rfl rfl dX1_isSitter_17
    · refine y_iconst C (v := 1) dX1_isSitter_12 (by decide) ?_
      refine y_goto C 17 dX1_isSitter_13 (by decide) ?_
      exact y_zret C zOk1 hf rfl rfl dX1_isSitter_17
theorem zX1_isSitter_5 (x1 : Int32) (σ : QS) : zOk (fX1_isSitter_5 x1 σ) := by
  unfold fX1_isSitter_5
  try simp only [lt_]
  (repeat' split) <;> first | exact zOk0 | exact zOk1
noncomputable def fJ9_max_7cf53 (x0 : Int32) (x1 : Int32) : Int32 :=
    (if x0 < x1 then x1 else x0)
def rm_J9_max_7cf53 : Room := { frames := 0, cells := 0, slots := 0, locals := 0 }
set_option maxRecDepth 100000 in
set_option maxHeartbeats 4000000 in
theorem kJ9_max_7cf53 (l : Launch) (E : QE) (σ τ : QS) (x0 : Int32) (x1 : Int32) (q : Int32) (hf : fJ9_max_7cf53 x0 x1 = q) : KQ l yJ9_max_7cf53 cJ9_max_7cf53 2 (some .int) rm_J9_max_7cf53 E [.int x0, .int x1] σ τ (PI E q σ τ) := by
  unfold fJ9_max_7cf53 at hf
  refine y_metF pl_J9_max_7cf53 (Nat.le_of_ble_eq_true rfl) rfl (fun p e s m below meth c C => ?_)
  refine y_iload_n C dJ9_max_7cf53_0 rfl 0 rfl ?_
  refine y_iload_n C dJ9_max_7cf53_1 rfl 1 rfl ?_
  refine y_icmp_lt C 9 dJ9_max_7cf53_2 (by decide) hf (fun hf => ?_) (fun hf => ?_)
  · refine y_iload_n C dJ9_max_7cf53_9 rfl 1 rfl ?_
    exact y_iret C hf rfl rfl dJ9_max_7cf53_10
  · refine y_iload_n C dJ9_max_7cf53_5 rfl 0 rfl ?_
    refine y_goto C 10 dJ9_max_7cf53_6 (by decide) ?_
    exact y_iret C hf rfl rfl dJ9_max_7cf53_10
