noncomputable def fX1_read_4_2 (x2 : Int32) (σ : QS) : Option (Int32 × QS) :=
    lt_ (pI σ 3 (0 : Int32)) (fun (S1 : QS) => lt_ (pI S1 4 (0 : Int32)) (fun (S2 : QS) => lt_ (pI S2 5 (0 : Int32)) (fun (S3 : QS) => lt_ (pI S3 6 (0 : Int32)) (fun (S4 : QS) => Option.bind (fX1_pastBlanks_2 x2 (0 : Int32) S4) (fun (q5 : Int32) => Option.bind (fX3_get_2 x2 q5 S4) (fun (q6 : Int32) => (if q6 = (97 : Int32) then Option.bind (fX1_figureAt_2 x2 (q5 + (1 : Int32)) S4) (fun (q7 : Int32) => lt_ (pI S4 2 q7) (fun (S8 : QS) => (if 0 ≤ (gI S8 2) then Option.bind (fX1_readLines_4_2 x2 (q5 + (2 : Int32)) S8) (fun (q9 : Int32 × QS) => (if (gI q9.2 3) = 0 then some (q9.1, q9.2) else lp_ (fun (r11 : Int32 × Int32 × QS → Option (Int32 × QS)) (a10 : Int32 × Int32 × QS) => (if (6 : Int32) < a10.2.1 then some (a10.1, a10.2.2) else Option.bind (fX1_pastBlanks_2 x2 a10.1 a10.2.2) (fun (q12 : Int32) => Option.bind (fX3_size_2 x2 a10.2.2) (fun (q13 : Int32) => (if q12 < q13 then Option.bind (fX1_readSitter_4_2 x2 q12 a10.2.2) (fun (q14 : Int32 × QS) => (if (4 : Int32) ≤ q14.1 then lt_ (q12 + q14.1) (fun (v15 : Int32) => r11 (v15, (a10.2.1 + (1 : Int32)), q14.2)) else some ((q12 + q14.1), q14.2))) else (if (gI a10.2.2 4) = 0 then some (q12, a10.2.2) else some ((-9 : Int32), a10.2.2))))))) FV (q9.1, (0 : Int32), q9.2))) else some ((q5 + (1 : Int32)), S8)))) else some (q5, S4))))))))
def rm_X1_read_4_2 : Room := { frames := 5, cells := 0, slots := 0, locals := 115 }
set_option maxRecDepth 100000 in
set_option maxHeartbeats 4000000 in
theorem kX1_read_4_2 (l : Launch) (E : QE) (σ τ : QS) (x2 : Int32) (q : Int32 × QS) (hf : fX1_read_4_2 x2 σ = some q) : KQ l yX1_read cX1_read 6 (some .int) rm_X1_read_4_2 E [.ref (qAd E 4), .ref (qAd E 2), .int x2] σ τ (PI E q.1 q.2 τ) := by
  unfold fX1_read_4_2 at hf
  refine y_met rfl (Nat.le_of_ble_eq_true rfl) rfl (fun p e s m below meth c C => ?_)
  refine y_aload_n C dX1_read_0 rfl 0 rfl ?_
  refine y_iconst C (v := 0) dX1_read_1 (by decide) ?_
  obtain ⟨S1, e_S1, hf⟩ := lt_e hf
  refine p4_sceneCount C fl_X1_27 e_S1 dX1_read_2 ?_
  refine y_aload_n C dX1_read_5 rfl 0 rfl ?_
  refine y_iconst C (v := 0) dX1_read_6 (by decide) ?_
  obtain ⟨S2, e_S2, hf⟩ := lt_e hf
  refine p4_sitterCount C fl_X1_31 e_S2 dX1_read_7 ?_
  refine y_aload_n C dX1_read_10 rfl 0 rfl ?_
  refine y_iconst C (v := 0) dX1_read_11 (by decide) ?_
  obtain ⟨S3, e_S3, hf⟩ := lt_e hf
  refine p4_takenSeats C fl_X1_34 e_S3 dX1_read_12 ?_
  refine y_aload_n C dX1_read_15 rfl 0 rfl ?_
  refine y_iconst C (v := 0) dX1_read_16 (by decide) ?_
  obtain ⟨S4, e_S4, hf⟩ := lt_e hf
  refine p4_claqueBits C fl_X1_37 e_S4 dX1_read_17 ?_
  refine y_aload_n C dX1_read_20 rfl 1 rfl ?_
  refine y_iload_n C dX1_read_21 rfl 2 rfl ?_
  refine y_iconst C (v := 0) dX1_read_22 (by decide) ?_
  obtain ⟨q5, h_q5, hf⟩ := bd_e hf
  refine y_cSi C (kX1_pastBlanks_2 l E S4 τ x2 (0 : Int32) _ h_q5) si_X1_pastBlanks ml_X1_40 rfl ⟨rfl, rfl, Nat.le_of_ble_eq_true rfl, Nat.le_of_ble_eq_true rfl⟩ dX1_read_23 rfl (Nat.le_of_ble_eq_true rfl) ?_
  refine y_istore_n C dX1_read_26 rfl (Nat.le_of_ble_eq_true rfl) rfl (lv' := [(3, .int q5), (0, .ref (qAd E 4)), (1, .ref (qAd E 2)), (2, .int x2)]) rfl ?_
  refine y_aload_n C dX1_read_27 rfl 2 rfl ?_
  refine y_iload_n C dX1_read_28 rfl 3 rfl ?_
  refine y_iload_n C dX1_read_29 rfl 0 rfl ?_
  obtain ⟨q6, h_q6, hf⟩ := bd_e hf
  refine y_cVi C (kX3_get_2 l E S4 τ x2 q5 _ h_q6) vi_X3_get ml_X1_44 ⟨3, _, o2, rfl, rfl⟩ rfl ⟨rfl, rfl, Nat.le_of_ble_eq_true rfl, Nat.le_of_ble_eq_true rfl⟩ dX1_read_30 rfl (Nat.le_of_ble_eq_true rfl) ?_
  refine y_bipush C (v := 97) dX1_read_33 (by decide) ?_
  refine y_icmp_eq C 40 dX1_read_35 (by decide) hf (fun hf => ?_) (fun hf => ?_)
  · refine y_aload_n C dX1_read_40 rfl 1 rfl ?_
    refine y_aload_n C dX1_read_41 rfl 2 rfl ?_
    refine y_iload_n C dX1_read_42 rfl 3 rfl ?_
    refine y_iload_n C dX1_read_43 rfl 0 rfl ?_
    refine y_iconst C (v := 1) dX1_read_44 (by decide) ?_
    refine y_iadd C dX1_read_45 ?_
    obtain ⟨q7, h_q7, hf⟩ := bd_e hf
    refine y_cSi C (kX1_figureAt_2 l E S4 τ x2 (q5 + (1 : Int32)) _ h_q7) si_X1_figureAt ml_X1_50 rfl ⟨rfl, rfl, Nat.le_of_ble_eq_true rfl, Nat.le_of_ble_eq_true rfl⟩ dX1_read_46 rfl (Nat.le_of_ble_eq_true rfl) ?_
    obtain ⟨S8, e_S8, hf⟩ := lt_e hf
    refine p4_promptCount C fl_X1_53 e_S8 dX1_read_49 ?_
    refine y_aload_n C dX1_read_52 rfl 1 rfl ?_
    refine g4_promptCount C fl_X1_53 dX1_read_53 ?_
    refine y_if_ge C 63 dX1_read_56 (by decide) hf (fun hf => ?_) (fun hf => ?_)
    · refine y_aload_n C dX1_read_63 rfl 1 rfl ?_
      refine y_aload_n C dX1_read_64 rfl 2 rfl ?_
      refine y_iload_n C dX1_read_65 rfl 3 rfl ?_
      refine y_iload_n C dX1_read_66 rfl 0 rfl ?_
      refine y_iconst C (v := 2) dX1_read_67 (by decide) ?_
      refine y_iadd C dX1_read_68 ?_
      obtain ⟨q9, h_q9, hf⟩ := bd_e hf
      refine y_cVi C (kX1_readLines_4_2 l E S8 τ x2 (q5 + (2 : Int32)) _ h_q9) vi_X1_readLines ml_X1_56 ⟨1, _, o4, rfl, rfl⟩ rfl ⟨rfl, rfl, Nat.le_of_ble_eq_true rfl, Nat.le_of_ble_eq_true rfl⟩ dX1_read_69 rfl (Nat.le_of_ble_eq_true rfl) ?_
      refine y_istore_n C dX1_read_72 rfl (Nat.le_of_ble_eq_true rfl) rfl (lv' := [(3, .int q9.1), (0, .ref (qAd E 4)), (1, .ref (qAd E 2)), (2, .int x2)]) rfl ?_
      refine y_aload_n C dX1_read_73 rfl 1 rfl ?_
      refine g4_sceneCount C fl_X1_27 dX1_read_74 ?_
      refine y_if_ne C 82 dX1_read_77 (by decide) hf (fun hf => ?_) (fun hf => ?_)
      · refine y_iconst C (v := 0) dX1_read_82 (by decide) ?_
        refine y_istore C dX1_read_83 (Nat.le_of_ble_eq_true rfl) rfl (lv' := [(4, .int (0 : Int32)), (3, .int q9.1), (0, .ref (qAd E 4)), (1, .ref (qAd E 2)), (2, .int x2)]) rfl ?_
        refine y_sub [0, 1, 2, 3, 4] rfl ?_
        refine lp_ind (P := fun a10 : Int32 × Int32 × QS => Y E p l e rm_X1_read_4_2 s m ([.ref (qAd E 4), .ref (qAd E 2), .int x2] : List Value).toArray below meth c 6 (MQ below (PI E q.1 q.2 τ) ([.ref (qAd E 4), .ref (qAd E 2), .int x2] : List Value).toArray s 0 0 (qA E)) a10.2.2 τ 85 [(4, .int a10.2.1), (3, .int a10.1), (0, .ref (qAd E 4)), (1, .ref (qAd E 2)), (2, .int x2)] []) (fun r11 a10 ih_r11 hf => ?_) _ _ hf
        refine y_iload C dX1_read_85 0 rfl ?_
        refine y_bipush C (v := 6) dX1_read_87 (by decide) ?_
        refine y_icmp_gt C 153 dX1_read_89 (by decide) hf (fun hf => ?_) (fun hf => ?_)
        · refine y_iload_n C dX1_read_153 rfl 1 rfl ?_
          exact y_iret C (rs1 hf) (rs2 hf) rfl dX1_read_154
        · refine y_aload_n C dX1_read_92 rfl 3 rfl ?_
          refine y_iload_n C dX1_read_93 rfl 4 rfl ?_
          refine y_iload_n C dX1_read_94 rfl 1 rfl ?_
          obtain ⟨q12, h_q12, hf⟩ := bd_e hf
          refine y_cSi C (kX1_pastBlanks_2 l E a10.2.2 τ x2 a10.1 _ h_q12) si_X1_pastBlanks ml_X1_40 rfl ⟨rfl, rfl, Nat.le_of_ble_eq_true rfl, Nat.le_of_ble_eq_true rfl⟩ dX1_read_95 rfl (Nat.le_of_ble_eq_true rfl) ?_
          refine y_istore_n C dX1_read_98 rfl (Nat.le_of_ble_eq_true rfl) rfl (lv' := [(3, .int q12), (4, .int a10.2.1), (0, .ref (qAd E 4)), (1, .ref (qAd E 2)), (2, .int x2)]) rfl ?_
          refine y_iload_n C dX1_read_99 rfl 0 rfl ?_
          refine y_aload_n C dX1_read_100 rfl 3 rfl ?_
          refine y_iload_n C dX1_read_101 rfl 4 rfl ?_
          obtain ⟨q13, h_q13, hf⟩ := bd_e hf
          refine y_cVi C (kX3_size_2 l E a10.2.2 τ x2 _ h_q13) vi_X3_size ml_X1_59 ⟨3, _, o2, rfl, rfl⟩ rfl ⟨rfl, rfl, Nat.le_of_ble_eq_true rfl, Nat.le_of_ble_eq_true rfl⟩ dX1_read_102 rfl (Nat.le_of_ble_eq_true rfl) ?_
          refine y_icmp_lt C 122 dX1_read_105 (by decide) hf (fun hf => ?_) (fun hf => ?_)
          · refine y_aload_n C dX1_read_122 rfl 2 rfl ?_
            refine y_aload_n C dX1_read_123 rfl 3 rfl ?_
            refine y_iload_n C dX1_read_124 rfl 4 rfl ?_
            refine y_iload_n C dX1_read_125 rfl 0 rfl ?_
            obtain ⟨q14, h_q14, hf⟩ := bd_e hf
            refine y_cVi C (kX1_readSitter_4_2 l E a10.2.2 τ x2 q12 _ h_q14) vi_X1_readSitter ml_X1_63 ⟨1, _, o4, rfl, rfl⟩ rfl ⟨rfl, rfl, Nat.le_of_ble_eq_true rfl, Nat.le_of_ble_eq_true rfl⟩ dX1_read_126 rfl (Nat.le_of_ble_eq_true rfl) ?_
            refine y_istore C dX1_read_129 (Nat.le_of_ble_eq_true rfl) rfl (lv' := [(5, .int q14.1), (3, .int q12), (4, .int a10.2.1), (0, .ref (qAd E 4)), (1, .ref (qAd E 2)), (2, .int x2)]) rfl ?_
            refine y_iload C dX1_read_131 0 rfl ?_
            refine y_iconst C (v := 4) dX1_read_133 (by decide) ?_
            refine y_icmp_ge C 142 dX1_read_134 (by decide) hf (fun hf => ?_) (fun hf => ?_)
            · refine y_iload_n C dX1_read_142 rfl 1 rfl ?_
              refine y_iload C dX1_read_143 0 rfl ?_
              refine y_iadd C dX1_read_145 ?_
              obtain ⟨v15, e_v15, hf⟩ := lt_e hf
              refine y_istore_n C dX1_read_146 rfl (Nat.le_of_ble_eq_true rfl) e_v15 (lv' := [(3, .int v15), (5, .int q14.1), (4, .int a10.2.1), (0, .ref (qAd E 4)), (1, .ref (qAd E 2)), (2, .int x2)]) rfl ?_
              refine y_iinc C dX1_read_147 2 rfl (Nat.le_of_ble_eq_true rfl) (k2 := 1) (by decide) rfl (lv' := [(4, .int (a10.2.1 + (1 : Int32))), (3, .int v15), (5, .int q14.1), (0, .ref (qAd E 4)), (1, .ref (qAd E 2)), (2, .int x2)]) rfl ?_
              refine y_goto C 85 dX1_read_150 (by decide) ?_
              refine y_sub [0, 1, 3, 4, 5] rfl ?_
              exact ih_r11 (v15, (a10.2.1 + (1 : Int32)), q14.2) hf
            · refine y_iload_n C dX1_read_137 rfl 1 rfl ?_
              refine y_iload C dX1_read_138 0 rfl ?_
              refine y_iadd C dX1_read_140 ?_
              exact y_iret C (rs1 hf) (rs2 hf) rfl dX1_read_141
          · refine y_aload_n C dX1_read_108 rfl 2 rfl ?_
            refine g4_sitterCount C fl_X1_31 dX1_read_109 ?_
            refine y_if_ne C 119 dX1_read_112 (by decide) hf (fun hf => ?_) (fun hf => ?_)
            · refine y_bipush C (v := -9) dX1_read_119 (by decide) ?_
              exact y_iret C (rs1 hf) (rs2 hf) rfl dX1_read_121
            · refine y_iload_n C dX1_read_115 rfl 0 rfl ?_
              refine y_goto C 121 dX1_read_116 (by decide) ?_
              exact y_iret C (rs1 hf) (rs2 hf) rfl dX1_read_121
      · refine y_iload_n C dX1_read_80 rfl 0 rfl ?_
        exact y_iret C (rs1 hf) (rs2 hf) rfl dX1_read_81
    · refine y_iload_n C dX1_read_59 rfl 0 rfl ?_
      refine y_iconst C (v := 1) dX1_read_60 (by decide) ?_
      refine y_iadd C dX1_read_61 ?_
      exact y_iret C (rs1 hf) (rs2 hf) rfl dX1_read_62
  · refine y_iload_n C dX1_read_38 rfl 0 rfl ?_
    exact y_iret C (rs1 hf) (rs2 hf) rfl dX1_read_39
noncomputable def fX4_fault_0 (x1 : Int32) (σ : QS) : Option (Int32 × QS) :=
    Option.bind (fX4_refusalOfPlace_0_2 x1 σ) (fun (q1 : Int32 × QS) => (if q1.1 = 0 then Option.bind (fX1_read_4_2 x1 q1.2) (fun (q2 : Int32 × QS) => some (q2.1, q2.2)) else some (q1.1, q1.2)))
def rm_X4_fault_0 : Room := { frames := 6, cells := 0, slots := 0, locals := 140 }
set_option maxRecDepth 100000 in
set_option maxHeartbeats 4000000 in
theorem kX4_fault_0 (l : Launch) (E : QE) (σ τ : QS) (x1 : Int32) (q : Int32 × QS) (hf : fX4_fault_0 x1 σ = some q) : KQ l yX4_fault cX4_fault 3 (some .int) rm_X4_fault_0 E [.ref (qAd E 0), .int x1] σ τ (PI E q.1 q.2 τ) := by
  unfold fX4_fault_0 at hf
  refine y_met rfl (Nat.le_of_ble_eq_true rfl) rfl (fun p e s m below meth c C => ?_)
  refine y_aload_n C dX4_fault_0 rfl 0 rfl ?_
  refine y_aload_n C dX4_fault_1 rfl 0 rfl ?_
  refine g0_textShelf C fl_X4_18 dX4_fault_2 ?_
  refine y_iload_n C dX4_fault_5 rfl 1 rfl ?_
  obtain ⟨q1, h_q1, hf⟩ := bd_e hf
  refine y_cVi C (kX4_refusalOfPlace_0_2 l E σ τ x1 _ h_q1) vi_X4_refusalOfPlace ml_X4_86 ⟨4, _, o0, rfl, rfl⟩ rfl ⟨rfl, rfl, Nat.le_of_ble_eq_true rfl, Nat.le_of_ble_eq_true rfl⟩ dX4_fault_6 rfl (Nat.le_of_ble_eq_true rfl) ?_
  refine y_istore_n C dX4_fault_9 rfl (Nat.le_of_ble_eq_true rfl) rfl (lv' := [(2, .int q1.1), (0, .ref (qAd E 0)), (1, .int x1)]) rfl ?_
  refine y_iload_n C dX4_fault_10 rfl 0 rfl ?_
  refine y_if_eq C 18 dX4_fault_11 (by decide) hf (fun hf => ?_) (fun hf => ?_)
  · refine y_aload_n C dX4_fault_18 rfl 1 rfl ?_
    refine g0_draft C fl_X4_27 dX4_fault_19 ?_
    refine y_aload_n C dX4_fault_22 rfl 1 rfl ?_
    refine g0_textShelf C fl_X4_18 dX4_fault_23 ?_
    refine y_iload_n C dX4_fault_26 rfl 2 rfl ?_
    obtain ⟨q2, h_q2, hf⟩ := bd_e hf
    refine y_cVi C (kX1_read_4_2 l E q1.2 τ x1 _ h_q2) vi_X1_read ml_X4_108 ⟨1, _, o4, rfl, rfl⟩ rfl ⟨rfl, rfl, Nat.le_of_ble_eq_true rfl, Nat.le_of_ble_eq_true rfl⟩ dX4_fault_27 rfl (Nat.le_of_ble_eq_true rfl) ?_
    exact y_iret C (rs1 hf) (rs2 hf) rfl dX4_fault_30
  · refine y_iload_n C dX4_fault_14 rfl 0 rfl ?_
    refine y_goto C 30 dX4_fault_15 (by decide) ?_
    exact y_iret C (rs1 hf) (rs2 hf) rfl dX4_fault_30
noncomputable def fX5_here_50  (τ : QS) : Option (Int32) :=
    ck_ (inb ((gI τ 4) + (gI τ 5)) 240) (some (gM τ 59 (((gI τ 4) + (gI τ 5)).toNatClampNeg)))
def rm_X5_here_50 : Room := { frames := 0, cells := 0, slots := 0, locals := 0 }
set_option maxRecDepth 100000 in
set_option maxHeartbeats 4000000 in
theorem kX5_here_50 (l : Launch) (E : QE) (σ τ : QS)  (q : Int32) (hf : fX5_here_50 τ = some q) : KQ l yX5_here cX5_here 1 (some .int) rm_X5_here_50 E [.ref (qAd E 50)] σ τ (PI E q σ τ) := by
  unfold fX5_here_50 at hf
  refine y_met rfl (Nat.le_of_ble_eq_true rfl) rfl (fun p e s m below meth c C => ?_)
  refine y_aload_n C dX5_here_0 rfl 0 rfl ?_
  refine g50_bytes C fl_X5_34 dX5_here_1 ?_
  refine y_aload_n C dX5_here_4 rfl 0 rfl ?_
  refine g50_from C fl_X5_109 dX5_here_5 ?_
  refine y_aload_n C dX5_here_8 rfl 0 rfl ?_
  refine g50_place C fl_X5_112 dX5_here_9 ?_
  refine y_iadd C dX5_here_12 ?_
  obtain ⟨hi1, hf⟩ := ck_e hf
  refine y_ialdR C a59 (j := ((gI τ 4) + (gI τ 5)).toNatClampNeg) rfl hi1 dX5_here_13 ?_
  exact y_iret C (Option.some.inj hf) rfl rfl dX5_here_14
noncomputable def fX5_skip_50  (τ : QS) : Option (QS) :=
    lp_ (fun (r2 : QS → Option (QS)) (a1 : QS) => (if (gI a1 6) ≤ (gI a1 5) then some a1 else Option.bind (fX5_here_50 a1) (fun (q3 : Int32) => (if q3 = (32 : Int32) then lt_ (pI a1 5 ((gI a1 5) + (1 : Int32))) (fun (S4 : QS) => r2 S4) else some a1)))) FV τ
def rm_X5_skip_50 : Room := { frames := 1, cells := 0, slots := 0, locals := 20 }
set_option maxRecDepth 100000 in
set_option maxHeartbeats 4000000 in
theorem kX5_skip_50 (l : Launch) (E : QE) (σ τ : QS)  (q : QS) (hf : fX5_skip_50 τ = some q) : KQ l yX5_skip cX5_skip 1 none rm_X5_skip_50 E [.ref (qAd E 50)] σ τ (PV E σ q) := by
  unfold fX5_skip_50 at hf
  refine y_met rfl (Nat.le_of_ble_eq_true rfl) rfl (fun p e s m below meth c C => ?_)
  refine y_sub [0] rfl ?_
  refine lp_ind (P := fun a1 : QS => Y E p l e rm_X5_skip_50 s m ([.ref (qAd E 50)] : List Value).toArray below meth c 1 (MQ below (PV E σ q) ([.ref (qAd E 50)] : List Value).toArray s 0 0 (qA E)) σ a1 0 [(0, .ref (qAd E 50))] []) (fun r2 a1 ih_r2 hf => ?_) _ _ hf
  refine y_aload_n C dX5_skip_0 rfl 0 rfl ?_
  refine g50_place C fl_X5_112 dX5_skip_1 ?_
  refine y_aload_n C dX5_skip_4 rfl 0 rfl ?_
  refine g50_end C fl_X5_115 dX5_skip_5 ?_
  refine y_icmp_ge C 33 dX5_skip_8 (by decide) hf (fun hf => ?_) (fun hf => ?_)
  · exact y_vret C rfl (Option.some.inj hf) dX5_skip_33
  · refine y_aload_n C dX5_skip_11 rfl 0 rfl ?_
    obtain ⟨q3, h_q3, hf⟩ := bd_e hf
    refine y_cVi C (kX5_here_50 l E σ a1 _ h_q3) vi_X5_here ml_X5_118 ⟨5, _, o50, rfl, rfl⟩ rfl ⟨rfl, rfl, Nat.le_of_ble_eq_true rfl, Nat.le_of_ble_eq_true rfl⟩ dX5_skip_12 rfl (Nat.le_of_ble_eq_true rfl) ?_
    refine y_bipush C (v := 32) dX5_skip_15 (by decide) ?_
    refine y_icmp_ne C 33 dX5_skip_17 (by decide) hf (fun hf => ?_) (fun hf => ?_)
    · exact y_vret C rfl (Option.some.inj hf) dX5_skip_33
    · refine y_aload_n C dX5_skip_20 rfl 0 rfl ?_
      refine y_dup C dX5_skip_21 rfl ?_
      refine g50_place C fl_X5_112 dX5_skip_22 ?_
      refine y_iconst C (v := 1) dX5_skip_25 (by decide) ?_
      refine y_iadd C dX5_skip_26 ?_
      obtain ⟨S4, e_S4, hf⟩ := lt_e hf
      refine p50_place C fl_X5_112 e_S4 dX5_skip_27 ?_
      refine y_goto C 0 dX5_skip_30 (by decide) ?_
      refine y_sub [0] rfl ?_
      exact ih_r2 S4 hf
noncomputable def fX5_isFigure_50 (x1 : Int32) (x2 : Int32) (τ : QS) : Option (Int32) :=
    (if (gI τ 6) ≤ (gI τ 5) then some (0 : Int32) else Option.bind (fX5_here_50 τ) (fun (q1 : Int32) => (if (fX5_in q1.toInt64 (((48 : Int32) + x1).toInt64) (((48 : Int32) + x2).toInt64)) = 0 then some (0 : Int32) else some (1 : Int32))))
def rm_X5_isFigure_50 : Room := { frames := 1, cells := 0, slots := 0, locals := 25 }
set_option maxRecDepth 100000 in
set_option maxHeartbeats 4000000 in
theorem kX5_isFigure_50 (l : Launch) (E : QE) (σ τ : QS) (x1 : Int32) (x2 : Int32) (q : Int32) (hf : fX5_isFigure_50 x1 x2 τ = some q) : KQ l yX5_isFigure cX5_isFigure 3 (some .boolean) rm_X5_isFigure_50 E [.ref (qAd E 50), .int x1, .int x2] σ τ (PI E q σ τ) := by
  unfold fX5_isFigure_50 at hf
  refine y_met rfl (Nat.le_of_ble_eq_true rfl) rfl (fun p e s m below meth c C => ?_)
  refine y_aload_n C dX5_isFigure_0 rfl 0 rfl ?_
  refine g50_place C fl_X5_112 dX5_isFigure_1 ?_
  refine y_aload_n C dX5_isFigure_4 rfl 0 rfl ?_
  refine g50_end C fl_X5_115 dX5_isFigure_5 ?_
  refine y_icmp_ge C 36 dX5_isFigure_8 (by decide) hf (fun hf => ?_) (fun hf => ?_)
  · refine y_iconst C (v := 0) dX5_isFigure_36 (by decide) ?_
    exact y_zret C zOk0 (Option.some.inj hf) rfl rfl dX5_isFigure_37
  · refine y_aload_n C dX5_isFigure_11 rfl 0 rfl ?_
    obtain ⟨q1, h_q1, hf⟩ := bd_e hf
    refine y_cVi C (kX5_here_50 l E σ τ _ h_q1) vi_X5_here ml_X5_118 ⟨5, _, o50, rfl, rfl⟩ rfl ⟨rfl, rfl, Nat.le_of_ble_eq_true rfl, Nat.le_of_ble_eq_true rfl⟩ dX5_isFigure_12 rfl (Nat.le_of_ble_eq_true rfl) ?_
    refine y_i2l C dX5_isFigure_15 ?_
    refine y_bipush C (v := 48) dX5_isFigure_16 (by decide) ?_
    refine y_iload_n C dX5_isFigure_18 rfl 1 rfl ?_
    refine y_iadd C dX5_isFigure_19 ?_
    refine y_i2l C dX5_isFigure_20 ?_
    refine y_bipush C (v := 48) dX5_isFigure_21 (by decide) ?_
    refine y_iload_n C dX5_isFigure_23 rfl 2 rfl ?_
    refine y_iadd C dX5_isFigure_24 ?_
    refine y_i2l C dX5_isFigure_25 ?_
    refine y_cSi C (kX5_in l E σ τ q1.toInt64 (((48 : Int32) + x1).toInt64) (((48 : Int32) + x2).toInt64) _ rfl) si_X5_in ml_X5_77 rfl ⟨rfl, rfl, Nat.le_of_ble_eq_true rfl, Nat.le_of_ble_eq_true rfl⟩ dX5_isFigure_26 rfl (Nat.le_of_ble_eq_true rfl) ?_
    refine y_if_eq C 36 dX5_isFigure_29 (by decide) hf (fun hf => ?_) (fun hf => ?_)
    · refine y_iconst C (v := 0) dX5_isFigure_36 (by decide) ?_
      exact y_zret C zOk0 (Option.some.inj hf) rfl rfl dX5_isFigure_37
    · refine y_iconst C (v := 1) dX5_isFigure_32 (by decide) ?_
      refine y_goto C 37 dX5_isFigure_33 (by decide) ?_
      exact y_zret C zOk1 (Option.some.inj hf) rfl rfl dX5_isFigure_37
noncomputable def fX5_figure_50 (x1 : Int32) (x2 : Int32) (τ : QS) : Option (Int32 × QS) :=
    Option.bind (fX5_isFigure_50 x1 x2 τ) (fun (q1 : Int32) => (if q1 = 0 then some ((-9 : Int32), τ) else lt_ (pI τ 5 ((gI τ 5) + (1 : Int32))) (fun (S2 : QS) => ck_ (inb (((gI S2 4) + (gI S2 5)) - (1 : Int32)) 240) (some (((gM S2 59 ((((gI S2 4) + (gI S2 5)) - (1 : Int32)).toNatClampNeg)) - (48 : Int32)), S2)))))
def rm_X5_figure_50 : Room := { frames := 2, cells := 0, slots := 0, locals := 47 }
set_option maxRecDepth 100000 in
set_option maxHeartbeats 4000000 in
theorem kX5_figure_50 (l : Launch) (E : QE) (σ τ : QS) (x1 : Int32) (x2 : Int32) (q : Int32 × QS) (hf : fX5_figure_50 x1 x2 τ = some q) : KQ l yX5_figure cX5_figure 3 (some .int) rm_X5_figure_50 E [.ref (qAd E 50), .int x1, .int x2] σ τ (PI E q.1 σ q.2) := by
  unfold fX5_figure_50 at hf
  refine y_met rfl (Nat.le_of_ble_eq_true rfl) rfl (fun p e s m below meth c C => ?_)
  refine y_aload_n C dX5_figure_0 rfl 0 rfl ?_
  refine y_iload_n C dX5_figure_1 rfl 1 rfl ?_
  refine y_iload_n C dX5_figure_2 rfl 2 rfl ?_
  obtain ⟨q1, h_q1, hf⟩ := bd_e hf
  refine y_cVi C (kX5_isFigure_50 l E σ τ x1 x2 _ h_q1) vi_X5_isFigure ml_X5_122 ⟨5, _, o50, rfl, rfl⟩ rfl ⟨rfl, rfl, Nat.le_of_ble_eq_true rfl, Nat.le_of_ble_eq_true rfl⟩ dX5_figure_3 rfl (Nat.le_of_ble_eq_true rfl) ?_
  refine y_if_ne C 12 dX5_figure_6 (by decide) hf (fun hf => ?_) (fun hf => ?_)
  · refine y_aload_n C dX5_figure_12 rfl 0 rfl ?_
    refine y_dup C dX5_figure_13 rfl ?_
    refine g50_place C fl_X5_112 dX5_figure_14 ?_
    refine y_iconst C (v := 1) dX5_figure_17 (by decide) ?_
    refine y_iadd C dX5_figure_18 ?_
    obtain ⟨S2, e_S2, hf⟩ := lt_e hf
    refine p50_place C fl_X5_112 e_S2 dX5_figure_19 ?_
    refine y_aload_n C dX5_figure_22 rfl 0 rfl ?_
    refine g50_bytes C fl_X5_34 dX5_figure_23 ?_
    refine y_aload_n C dX5_figure_26 rfl 0 rfl ?_
    refine g50_from C fl_X5_109 dX5_figure_27 ?_
    refine y_aload_n C dX5_figure_30 rfl 0 rfl ?_
    refine g50_place C fl_X5_112 dX5_figure_31 ?_
    refine y_iadd C dX5_figure_34 ?_
    refine y_iconst C (v := 1) dX5_figure_35 (by decide) ?_
    refine y_isub C dX5_figure_36 ?_
    obtain ⟨hi3, hf⟩ := ck_e hf
    refine y_ialdR C a59 (j := (((gI S2 4) + (gI S2 5)) - (1 : Int32)).toNatClampNeg) rfl hi3 dX5_figure_37 ?_
    refine y_bipush C (v := 48) dX5_figure_38 (by decide) ?_
    refine y_isub C dX5_figure_40 ?_
    exact y_iret C (rs1 hf) rfl (rs2 hf) dX5_figure_41
  · refine y_bipush C (v := -9) dX5_figure_9 (by decide) ?_
    exact y_iret C (rs1 hf) rfl (rs2 hf) dX5_figure_11
noncomputable def fX5_readsPlay_50  (τ : QS) : Option (Int32 × QS) :=
    Option.bind (fX5_skip_50 τ) (fun (q1 : QS) => (if (gI q1 5) = (gI q1 6) then some ((0 : Int32), q1) else Option.bind (fX5_here_50 q1) (fun (q2 : Int32) => (if q2 = (97 : Int32) then lt_ (pI q1 5 ((gI q1 5) + (1 : Int32))) (fun (S3 : QS) => Option.bind (fX5_figure_50 (0 : Int32) (9 : Int32) S3) (fun (q4 : Int32 × QS) => lt_ (pI q4.2 7 q4.1) (fun (S5 : QS) => (if (gI S5 7) = (-9 : Int32) then some ((0 : Int32), S5) else lp_ (fun (r7 : QS → Option (Int32 × QS)) (a6 : QS) => Option.bind (fX5_isFigure_50 (1 : Int32) (9 : Int32) a6) (fun (q8 : Int32) => (if q8 = 0 then (if (gI a6 8) ≤ 0 then some ((0 : Int32), a6) else some ((1 : Int32), a6)) else (if (gI a6 8) = (6 : Int32) then some ((0 : Int32), a6) else Option.bind (fX5_figure_50 (1 : Int32) (9 : Int32) a6) (fun (q9 : Int32 × QS) => ck_ (inb (gI a6 8) 6) (lt_ (pM q9.2 61 (upd (gM q9.2 61) ((gI a6 8).toNatClampNeg) q9.1)) (fun (S11 : QS) => lt_ (pI S11 8 ((gI S11 8) + (1 : Int32))) (fun (S12 : QS) => r7 S12)))))))) FV S5)))) else some ((0 : Int32), q1)))))
def rm_X5_readsPlay_50 : Room := { frames := 3, cells := 0, slots := 0, locals := 69 }
set_option maxRecDepth 100000 in
set_option maxHeartbeats 4000000 in
theorem kX5_readsPlay_50 (l : Launch) (E : QE) (σ τ : QS)  (q : Int32 × QS) (hf : fX5_readsPlay_50 τ = some q) : KQ l yX5_readsPlay cX5_readsPlay 1 (some .boolean) rm_X5_readsPlay_50 E [.ref (qAd E 50)] σ τ (PI E q.1 σ q.2) := by
  unfold fX5_readsPlay_50 at hf
  refine y_met rfl (Nat.le_of_ble_eq_true rfl) rfl (fun p e s m below meth c C => ?_)
  refine y_aload_n C dX5_readsPlay_0 rfl 0 rfl ?_
  obtain ⟨q1, h_q1, hf⟩ := bd_e hf
  refine y_cVv C (kX5_skip_50 l E σ τ _ h_q1) vi_X5_skip ml_X5_126 ⟨5, _, o50, rfl, rfl⟩ rfl ⟨rfl, rfl, Nat.le_of_ble_eq_true rfl, Nat.le_of_ble_eq_true rfl⟩ dX5_readsPlay_1 rfl (Nat.le_of_ble_eq_true rfl) ?_
  refine y_aload_n C dX5_readsPlay_4 rfl 0 rfl ?_
  refine g50_place C fl_X5_112 dX5_readsPlay_5 ?_
  refine y_aload_n C dX5_readsPlay_8 rfl 0 rfl ?_
  refine g50_end C fl_X5_115 dX5_readsPlay_9 ?_
  refine y_icmp_eq C 24 dX5_readsPlay_12 (by decide) hf (fun hf => ?_) (fun hf => ?_)
  · refine y_iconst C (v := 0) dX5_readsPlay_24 (by decide) ?_
    exact y_zret C zOk0 (rs1 hf) rfl (rs2 hf) dX5_readsPlay_25
  · refine y_aload_n C dX5_readsPlay_15 rfl 0 rfl ?_
    obtain ⟨q2, h_q2, hf⟩ := bd_e hf
    refine y_cVi C (kX5_here_50 l E σ q1 _ h_q2) vi_X5_here ml_X5_118 ⟨5, _, o50, rfl, rfl⟩ rfl ⟨rfl, rfl, Nat.le_of_ble_eq_true rfl, Nat.le_of_ble_eq_true rfl⟩ dX5_readsPlay_16 rfl (Nat.le_of_ble_eq_true rfl) ?_
    refine y_bipush C (v := 97) dX5_readsPlay_19 (by decide) ?_
    refine y_icmp_eq C 26 dX5_readsPlay_21 (by decide) hf (fun hf => ?_) (fun hf => ?_)
    · refine y_aload_n C dX5_readsPlay_26 rfl 0 rfl ?_
      refine y_dup C dX5_readsPlay_27 rfl ?_
      refine g50_place C fl_X5_112 dX5_readsPlay_28 ?_
      refine y_iconst C (v := 1) dX5_readsPlay_31 (by decide) ?_
      refine y_iadd C dX5_readsPlay_32 ?_
      obtain ⟨S3, e_S3, hf⟩ := lt_e hf
      refine p50_place C fl_X5_112 e_S3 dX5_readsPlay_33 ?_
      refine y_aload_n C dX5_readsPlay_36 rfl 0 rfl ?_
      refine y_aload_n C dX5_readsPlay_37 rfl 0 rfl ?_
      refine y_iconst C (v := 0) dX5_readsPlay_38 (by decide) ?_
      refine y_bipush C (v := 9) dX5_readsPlay_39 (by decide) ?_
      obtain ⟨q4, h_q4, hf⟩ := bd_e hf
      refine y_cVi C (kX5_figure_50 l E σ S3 (0 : Int32) (9 : Int32) _ h_q4) vi_X5_figure ml_X5_129 ⟨5, _, o50, rfl, rfl⟩ rfl ⟨rfl, rfl, Nat.le_of_ble_eq_true rfl, Nat.le_of_ble_eq_true rfl⟩ dX5_readsPlay_41 rfl (Nat.le_of_ble_eq_true rfl) ?_
      obtain ⟨S5, e_S5, hf⟩ := lt_e hf
      refine p50_readPrompts C fl_X5_132 e_S5 dX5_readsPlay_44 ?_
      refine y_aload_n C dX5_readsPlay_47 rfl 0 rfl ?_
      refine g50_readPrompts C fl_X5_132 dX5_readsPlay_48 ?_
      refine y_bipush C (v := -9) dX5_readsPlay_51 (by decide) ?_
      refine y_icmp_ne C 58 dX5_readsPlay_53 (by decide) hf (fun hf => ?_) (fun hf => ?_)
      · refine y_sub [0] rfl ?_
        refine lp_ind (P := fun a6 : QS => Y E p l e rm_X5_readsPlay_50 s m ([.ref (qAd E 50)] : List Value).toArray below meth c 1 (MQ below (PI E q.1 σ q.2) ([.ref (qAd E 50)] : List Value).toArray s 0 0 (qA E)) σ a6 58 [(0, .ref (qAd E 50))] []) (fun r7 a6 ih_r7 hf => ?_) _ _ hf
        refine y_aload_n C dX5_readsPlay_58 rfl 0 rfl ?_
        refine y_iconst C (v := 1) dX5_readsPlay_59 (by decide) ?_
        refine y_bipush C (v := 9) dX5_readsPlay_60 (by decide) ?_
        obtain ⟨q8, h_q8, hf⟩ := bd_e hf
        refine y_cVi C (kX5_isFigure_50 l E σ a6 (1 : Int32) (9 : Int32) _ h_q8) vi_X5_isFigure ml_X5_122 ⟨5, _, o50, rfl, rfl⟩ rfl ⟨rfl, rfl, Nat.le_of_ble_eq_true rfl, Nat.le_of_ble_eq_true rfl⟩ dX5_readsPlay_62 rfl (Nat.le_of_ble_eq_true rfl) ?_
        refine y_if_eq C 108 dX5_readsPlay_65 (by decide) hf (fun hf => ?_) (fun hf => ?_)
        · refine y_aload_n C dX5_readsPlay_108 rfl 0 rfl ?_
          refine g50_readScenes C fl_X5_135 dX5_readsPlay_109 ?_
          refine y_if_le C 119 dX5_readsPlay_112 (by decide) hf (fun hf => ?_) (fun hf => ?_)
          · refine y_iconst C (v := 0) dX5_readsPlay_119 (by decide) ?_
            exact y_zret C zOk0 (rs1 hf) rfl (rs2 hf) dX5_readsPlay_120
          · refine y_iconst C (v := 1) dX5_readsPlay_115 (by decide) ?_
            refine y_goto C 120 dX5_readsPlay_116 (by decide) ?_
            exact y_zret C zOk1 (rs1 hf) rfl (rs2 hf) dX5_readsPlay_120
        · refine y_aload_n C dX5_readsPlay_68 rfl 0 rfl ?_
          refine g50_readScenes C fl_X5_135 dX5_readsPlay_69 ?_
          refine y_bipush C (v := 6) dX5_readsPlay_72 (by decide) ?_
          refine y_icmp_ne C 79 dX5_readsPlay_74 (by decide) hf (fun hf => ?_) (fun hf => ?_)
          · refine y_aload_n C dX5_readsPlay_79 rfl 0 rfl ?_
            refine g50_readLines C fl_X5_44 dX5_readsPlay_80 ?_
            refine y_aload_n C dX5_readsPlay_83 rfl 0 rfl ?_
            refine g50_readScenes C fl_X5_135 dX5_readsPlay_84 ?_
            refine y_aload_n C dX5_readsPlay_87 rfl 0 rfl ?_
            refine y_iconst C (v := 1) dX5_readsPlay_88 (by decide) ?_
            refine y_bipush C (v := 9) dX5_readsPlay_89 (by decide) ?_
            obtain ⟨q9, h_q9, hf⟩ := bd_e hf
            refine y_cVi C (kX5_figure_50 l E σ a6 (1 : Int32) (9 : Int32) _ h_q9) vi_X5_figure ml_X5_129 ⟨5, _, o50, rfl, rfl⟩ rfl ⟨rfl, rfl, Nat.le_of_ble_eq_true rfl, Nat.le_of_ble_eq_true rfl⟩ dX5_readsPlay_91 rfl (Nat.le_of_ble_eq_true rfl) ?_
            obtain ⟨hi10, hf⟩ := ck_e hf
            obtain ⟨S11, e_S11, hf⟩ := lt_e hf
            refine y_iastR C a61 (j := (gI a6 8).toNatClampNeg) rfl hi10 e_S11 dX5_readsPlay_94 ?_
            refine y_aload_n C dX5_readsPlay_95 rfl 0 rfl ?_
            refine y_dup C dX5_readsPlay_96 rfl ?_
            refine g50_readScenes C fl_X5_135 dX5_readsPlay_97 ?_
            refine y_iconst C (v := 1) dX5_readsPlay_100 (by decide) ?_
            refine y_iadd C dX5_readsPlay_101 ?_
            obtain ⟨S12, e_S12, hf⟩ := lt_e hf
            refine p50_readScenes C fl_X5_135 e_S12 dX5_readsPlay_102 ?_
            refine y_goto C 58 dX5_readsPlay_105 (by decide) ?_
            refine y_sub [0] rfl ?_
            exact ih_r7 S12 hf
          · refine y_iconst C (v := 0) dX5_readsPlay_77 (by decide) ?_
            exact y_zret C zOk0 (rs1 hf) rfl (rs2 hf) dX5_readsPlay_78
      · refine y_iconst C (v := 0) dX5_readsPlay_56 (by decide) ?_
        exact y_zret C zOk0 (rs1 hf) rfl (rs2 hf) dX5_readsPlay_57
    · refine y_iconst C (v := 0) dX5_readsPlay_24 (by decide) ?_
      exact y_zret C zOk0 (rs1 hf) rfl (rs2 hf) dX5_readsPlay_25
noncomputable def fX5_kindOfLetter (x0 : Int32) : Int32 :=
    (if x0 = (115 : Int32) then (0 : Int32) else (if x0 = (99 : Int32) then (1 : Int32) else (if x0 = (107 : Int32) then (2 : Int32) else (if x0 = (117 : Int32) then (3 : Int32) else (if x0 = (119 : Int32) then (4 : Int32) else (if x0 = (113 : Int32) then (5 : Int32) else (-9 : Int32)))))))
def rm_X5_kindOfLetter : Room := { frames := 0, cells := 0, slots := 0, locals := 0 }
set_option maxRecDepth 100000 in
set_option maxHeartbeats 4000000 in
theorem kX5_kindOfLetter (l : Launch) (E : QE) (σ τ : QS) (x0 : Int32) (q : Int32) (hf : fX5_kindOfLetter x0 = q) : KQ l yX5_kindOfLetter cX5_kindOfLetter 1 (some .int) rm_X5_kindOfLetter E [.int x0] σ τ (PI E q σ τ) := by
  unfold fX5_kindOfLetter at hf
  refine y_met rfl (Nat.le_of_ble_eq_true rfl) rfl (fun p e s m below meth c C => ?_)
  refine y_iload_n C dX5_kindOfLetter_0 rfl 0 rfl ?_
  refine y_bipush C (v := 115) dX5_kindOfLetter_1 (by decide) ?_
  refine y_icmp_ne C 10 dX5_kindOfLetter_3 (by decide) hf (fun hf => ?_) (fun hf => ?_)
  · refine y_iload_n C dX5_kindOfLetter_10 rfl 0 rfl ?_
    refine y_bipush C (v := 99) dX5_kindOfLetter_11 (by decide) ?_
    refine y_icmp_ne C 20 dX5_kindOfLetter_13 (by decide) hf (fun hf => ?_) (fun hf => ?_)
    · refine y_iload_n C dX5_kindOfLetter_20 rfl 0 rfl ?_
      refine y_bipush C (v := 107) dX5_kindOfLetter_21 (by decide) ?_
      refine y_icmp_ne C 30 dX5_kindOfLetter_23 (by decide) hf (fun hf => ?_) (fun hf => ?_)
      · refine y_iload_n C dX5_kindOfLetter_30 rfl 0 rfl ?_
        refine y_bipush C (v := 117) dX5_kindOfLetter_31 (by decide) ?_
        refine y_icmp_ne C 40 dX5_kindOfLetter_33 (by decide) hf (fun hf => ?_) (fun hf => ?_)
        · refine y_iload_n C dX5_kindOfLetter_40 rfl 0 rfl ?_
          refine y_bipush C (v := 119) dX5_kindOfLetter_41 (by decide) ?_
          refine y_icmp_ne C 50 dX5_kindOfLetter_43 (by decide) hf (fun hf => ?_) (fun hf => ?_)
          · refine y_iload_n C dX5_kindOfLetter_50 rfl 0 rfl ?_
            refine y_bipush C (v := 113) dX5_kindOfLetter_51 (by decide) ?_
            refine y_icmp_ne C 60 dX5_kindOfLetter_53 (by decide) hf (fun hf => ?_) (fun hf => ?_)
            · refine y_bipush C (v := -9) dX5_kindOfLetter_60 (by decide) ?_
              exact y_iret C hf rfl rfl dX5_kindOfLetter_62
            · refine y_iconst C (v := 5) dX5_kindOfLetter_56 (by decide) ?_
              refine y_goto C 62 dX5_kindOfLetter_57 (by decide) ?_
              exact y_iret C hf rfl rfl dX5_kindOfLetter_62
          · refine y_iconst C (v := 4) dX5_kindOfLetter_46 (by decide) ?_
            refine y_goto C 62 dX5_kindOfLetter_47 (by decide) ?_
            exact y_iret C hf rfl rfl dX5_kindOfLetter_62
        · refine y_iconst C (v := 3) dX5_kindOfLetter_36 (by decide) ?_
          refine y_goto C 62 dX5_kindOfLetter_37 (by decide) ?_
          exact y_iret C hf rfl rfl dX5_kindOfLetter_62
      · refine y_iconst C (v := 2) dX5_kindOfLetter_26 (by decide) ?_
        refine y_goto C 62 dX5_kindOfLetter_27 (by decide) ?_
        exact y_iret C hf rfl rfl dX5_kindOfLetter_62
    · refine y_iconst C (v := 1) dX5_kindOfLetter_16 (by decide) ?_
      refine y_goto C 62 dX5_kindOfLetter_17 (by decide) ?_
      exact y_iret C hf rfl rfl dX5_kindOfLetter_62
  · refine y_iconst C (v := 0) dX5_kindOfLetter_6 (by decide) ?_
    refine y_goto C 62 dX5_kindOfLetter_7 (by decide) ?_
    exact y_iret C hf rfl rfl dX5_kindOfLetter_62
noncomputable def fX5_has (x0 : Int32) (x1 : Int32) : Int32 :=
    (if ((x0 >>> (x1 &&& 31)) &&& (1 : Int32)) = (1 : Int32) then (1 : Int32) else (0 : Int32))
def rm_X5_has : Room := { frames := 0, cells := 0, slots := 0, locals := 0 }
set_option maxRecDepth 100000 in
set_option maxHeartbeats 4000000 in
theorem kX5_has (l : Launch) (E : QE) (σ τ : QS) (x0 : Int32) (x1 : Int32) (q : Int32) (hf : fX5_has x0 x1 = q) : KQ l yX5_has cX5_has 2 (some .boolean) rm_X5_has E [.int x0, .int x1] σ τ (PI E q σ τ) := by
  unfold fX5_has at hf
  refine y_met rfl (Nat.le_of_ble_eq_true rfl) rfl (fun p e s m below meth c C => ?_)
  refine y_iload_n C dX5_has_0 rfl 0 rfl ?_
  refine y_iload_n C dX5_has_1 rfl 1 rfl ?_
  refine y_ishr C dX5_has_2 ?_
  refine y_iconst C (v := 1) dX5_has_3 (by decide) ?_
  refine y_iand C dX5_has_4 ?_
  refine y_iconst C (v := 1) dX5_has_5 (by decide) ?_
  refine y_icmp_ne C 13 dX5_has_6 (by decide) hf (fun hf => ?_) (fun hf => ?_)
  · refine y_iconst C (v := 0) dX5_has_13 (by decide) ?_
    exact y_zret C zOk0 hf rfl rfl dX5_has_14
  · refine y_iconst C (v := 1) dX5_has_9 (by decide) ?_
    refine y_goto C 14 dX5_has_10 (by decide) ?_
    exact y_zret C zOk1 hf rfl rfl dX5_has_14
theorem zX5_has (x0 : Int32) (x1 : Int32) : zOk (fX5_has x0 x1) := by
  unfold fX5_has
  try simp only [lt_]
  (repeat' split) <;> first | exact zOk0 | exact zOk1
noncomputable def fX5_readsSitter_50  (τ : QS) : Option (Int32 × QS) :=
    Option.bind (fX5_here_50 τ) (fun (q1 : Int32) => lt_ (fX5_kindOfLetter q1) (fun (v2 : Int32) => (if v2 = (-9 : Int32) then some ((0 : Int32), τ) else (if (gI τ 9) = (6 : Int32) then some ((0 : Int32), τ) else lt_ (pI τ 5 ((gI τ 5) + (1 : Int32))) (fun (S3 : QS) => Option.bind (fX5_figure_50 (0 : Int32) (9 : Int32) S3) (fun (q4 : Int32 × QS) => lt_ (fun (_ : Unit) => lt_ (fun (v7 : Int32) (S8 : QS) => lt_ (fun (v10 : Int32) (S11 : QS) => (if v10 = (-9 : Int32) then some ((0 : Int32), S11) else lt_ ((4 : Int32) * (gI S11 9)) (fun (v12 : Int32) => ck_ (inb v12 24) (lt_ (pM S11 62 (upd (gM S11 62) v12.toNatClampNeg v2)) (fun (S14 : QS) => ck_ (inb (v12 + (1 : Int32)) 24) (lt_ (pM S14 62 (upd (gM S14 62) ((v12 + (1 : Int32)).toNatClampNeg) q4.1)) (fun (S16 : QS) => ck_ (inb (v12 + (2 : Int32)) 24) (lt_ (pM S16 62 (upd (gM S16 62) ((v12 + (2 : Int32)).toNatClampNeg) v7)) (fun (S18 : QS) => ck_ (inb (v12 + (3 : Int32)) 24) (lt_ (pM S18 62 (upd (gM S18 62) ((v12 + (3 : Int32)).toNatClampNeg) v10)) (fun (S20 : QS) => lt_ (pI S20 10 ((gI S20 10) ||| ((1 : Int32) <<< (q4.1 &&& 31)))) (fun (S21 : QS) => lt_ (pI S21 9 ((gI S21 9) + (1 : Int32))) (fun (S22 : QS) => some ((1 : Int32), S22)))))))))))))) (fun (j9 : Int32 → QS → Option (Int32 × QS)) => (if v7 = (-9 : Int32) then j9 (-9 : Int32) S8 else Option.bind (fX5_figure_50 (0 : Int32) (9 : Int32) S8) (fun (q23 : Int32 × QS) => j9 q23.1 q23.2)))) (fun (j6 : Int32 → QS → Option (Int32 × QS)) => (if q4.1 = (-9 : Int32) then j6 (-9 : Int32) q4.2 else Option.bind (fX5_figure_50 (0 : Int32) (9 : Int32) q4.2) (fun (q24 : Int32 × QS) => j6 q24.1 q24.2)))) (fun (j5 : Unit → Option (Int32 × QS)) => (if q4.1 = (-9 : Int32) then j5 () else (if (fX5_has (gI q4.2 10) q4.1) = 0 then j5 () else lt_ (pI q4.2 5 ((gI q4.2 5) - (1 : Int32))) (fun (S25 : QS) => some ((0 : Int32), S25)))))))))))
def rm_X5_readsSitter_50 : Room := { frames := 3, cells := 0, slots := 0, locals := 69 }
set_option maxRecDepth 100000 in
set_option maxHeartbeats 4000000 in
theorem kX5_readsSitter_50 (l : Launch) (E : QE) (σ τ : QS)  (q : Int32 × QS) (hf : fX5_readsSitter_50 τ = some q) : KQ l yX5_readsSitter cX5_readsSitter 6 (some .boolean) rm_X5_readsSitter_50 E [.ref (qAd E 50)] σ τ (PI E q.1 σ q.2) := by
  unfold fX5_readsSitter_50 at hf
  refine y_met rfl (Nat.le_of_ble_eq_true rfl) rfl (fun p e s m below meth c C => ?_)
  refine y_aload_n C dX5_readsSitter_0 rfl 0 rfl ?_
  obtain ⟨q1, h_q1, hf⟩ := bd_e hf
  refine y_cVi C (kX5_here_50 l E σ τ _ h_q1) vi_X5_here ml_X5_118 ⟨5, _, o50, rfl, rfl⟩ rfl ⟨rfl, rfl, Nat.le_of_ble_eq_true rfl, Nat.le_of_ble_eq_true rfl⟩ dX5_readsSitter_1 rfl (Nat.le_of_ble_eq_true rfl) ?_
  refine y_cSi C (kX5_kindOfLetter l E σ τ q1 _ rfl) si_X5_kindOfLetter ml_X5_138 rfl ⟨rfl, rfl, Nat.le_of_ble_eq_true rfl, Nat.le_of_ble_eq_true rfl⟩ dX5_readsSitter_4 rfl (Nat.le_of_ble_eq_true rfl) ?_
  obtain ⟨v2, e_v2, hf⟩ := lt_e hf
  refine y_istore_n C dX5_readsSitter_7 rfl (Nat.le_of_ble_eq_true rfl) e_v2 (lv' := [(1, .int v2), (0, .ref (qAd E 50))]) rfl ?_
  refine y_iload_n C dX5_readsSitter_8 rfl 0 rfl ?_
  refine y_bipush C (v := -9) dX5_readsSitter_9 (by decide) ?_
  refine y_icmp_eq C 23 dX5_readsSitter_11 (by decide) hf (fun hf => ?_) (fun hf => ?_)
  · refine y_iconst C (v := 0) dX5_readsSitter_23 (by decide) ?_
    exact y_zret C zOk0 (rs1 hf) rfl (rs2 hf) dX5_readsSitter_24
  · refine y_aload_n C dX5_readsSitter_14 rfl 1 rfl ?_
    refine g50_readMany C fl_X5_141 dX5_readsSitter_15 ?_
    refine y_bipush C (v := 6) dX5_readsSitter_18 (by decide) ?_
    refine y_icmp_ne C 25 dX5_readsSitter_20 (by decide) hf (fun hf => ?_) (fun hf => ?_)
    · refine y_aload_n C dX5_readsSitter_25 rfl 1 rfl ?_
      refine y_dup C dX5_readsSitter_26 rfl ?_
      refine g50_place C fl_X5_112 dX5_readsSitter_27 ?_
      refine y_iconst C (v := 1) dX5_readsSitter_30 (by decide) ?_
      refine y_iadd C dX5_readsSitter_31 ?_
      obtain ⟨S3, e_S3, hf⟩ := lt_e hf
      refine p50_place C fl_X5_112 e_S3 dX5_readsSitter_32 ?_
      refine y_aload_n C dX5_readsSitter_35 rfl 1 rfl ?_
      refine y_iconst C (v := 0) dX5_readsSitter_36 (by decide) ?_
      refine y_bipush C (v := 9) dX5_readsSitter_37 (by decide) ?_
      obtain ⟨q4, h_q4, hf⟩ := bd_e hf
      refine y_cVi C (kX5_figure_50 l E σ S3 (0 : Int32) (9 : Int32) _ h_q4) vi_X5_figure ml_X5_129 ⟨5, _, o50, rfl, rfl⟩ rfl ⟨rfl, rfl, Nat.le_of_ble_eq_true rfl, Nat.le_of_ble_eq_true rfl⟩ dX5_readsSitter_39 rfl (Nat.le_of_ble_eq_true rfl) ?_
      refine y_istore_n C dX5_readsSitter_42 rfl (Nat.le_of_ble_eq_true rfl) rfl (lv' := [(2, .int q4.1), (1, .int v2), (0, .ref (qAd E 50))]) rfl ?_
      refine y_iload_n C dX5_readsSitter_43 rfl 0 rfl ?_
      refine y_bipush C (v := -9) dX5_readsSitter_44 (by decide) ?_
      obtain ⟨j5, ek_j5, hf⟩ := lt_e hf
      have h_j5 : ∀ (_ : Unit), j5 () = some q → Y E p l e rm_X5_readsSitter_50 s m ([.ref (qAd E 50)] : List Value).toArray below meth c 6 (MQ below (PI E q.1 σ q.2) ([.ref (qAd E 50)] : List Value).toArray s 0 0 (qA E)) σ q4.2 72 [(0, .ref (qAd E 50)), (1, .int v2), (2, .int q4.1)] [] := by
        intro _ hf
        replace hf := (congrFun (ek_j5) ()).symm.trans hf
        refine y_iload_n C dX5_readsSitter_72 rfl 2 rfl ?_
        refine y_bipush C (v := -9) dX5_readsSitter_73 (by decide) ?_
        obtain ⟨j6, ek_j6, hf⟩ := lt_e hf
        have h_j6 : ∀ (v7 : Int32) (S8 : QS), j6 v7 S8 = some q → Y E p l e rm_X5_readsSitter_50 s m ([.ref (qAd E 50)] : List Value).toArray below meth c 6 (MQ below (PI E q.1 σ q.2) ([.ref (qAd E 50)] : List Value).toArray s 0 0 (qA E)) σ S8 90 [(0, .ref (qAd E 50)), (1, .int v2), (2, .int q4.1)] [.int v7] := by
          intro v7 S8 hf
          replace hf := (congrFun (congrFun (ek_j6) v7) S8).symm.trans hf
          refine y_istore_n C dX5_readsSitter_90 rfl (Nat.le_of_ble_eq_true rfl) rfl (lv' := [(3, .int v7), (0, .ref (qAd E 50)), (1, .int v2), (2, .int q4.1)]) rfl ?_
          refine y_iload_n C dX5_readsSitter_91 rfl 0 rfl ?_
          refine y_bipush C (v := -9) dX5_readsSitter_92 (by decide) ?_
          obtain ⟨j9, ek_j9, hf⟩ := lt_e hf
          have h_j9 : ∀ (v10 : Int32) (S11 : QS), j9 v10 S11 = some q → Y E p l e rm_X5_readsSitter_50 s m ([.ref (qAd E 50)] : List Value).toArray below meth c 6 (MQ below (PI E q.1 σ q.2) ([.ref (qAd E 50)] : List Value).toArray s 0 0 (qA E)) σ S11 109 [(0, .ref (qAd E 50)), (1, .int v2), (2, .int q4.1), (3, .int v7)] [.int v10] := by
            intro v10 S11 hf
            replace hf := (congrFun (congrFun (ek_j9) v10) S11).symm.trans hf
            refine y_istore C dX5_readsSitter_109 (Nat.le_of_ble_eq_true rfl) rfl (lv' := [(4, .int v10), (0, .ref (qAd E 50)), (1, .int v2), (2, .int q4.1), (3, .int v7)]) rfl ?_
            refine y_iload C dX5_readsSitter_111 0 rfl ?_
            refine y_bipush C (v := -9) dX5_readsSitter_113 (by decide) ?_
            refine y_icmp_ne C 120 dX5_readsSitter_115 (by decide) hf (fun hf => ?_) (fun hf => ?_)
            · refine y_iconst C (v := 4) dX5_readsSitter_120 (by decide) ?_
              refine y_aload_n C dX5_readsSitter_121 rfl 1 rfl ?_
              refine g50_readMany C fl_X5_141 dX5_readsSitter_122 ?_
              refine y_imul C dX5_readsSitter_125 ?_
              obtain ⟨v12, e_v12, hf⟩ := lt_e hf
              refine y_istore C dX5_readsSitter_126 (Nat.le_of_ble_eq_true rfl) e_v12 (lv' := [(5, .int v12), (4, .int v10), (0, .ref (qAd E 50)), (1, .int v2), (2, .int q4.1), (3, .int v7)]) rfl ?_
              refine y_aload_n C dX5_readsSitter_128 rfl 2 rfl ?_
              refine g50_readSitters C fl_X5_47 dX5_readsSitter_129 ?_
              refine y_iload C dX5_readsSitter_132 0 rfl ?_
              refine y_iload_n C dX5_readsSitter_134 rfl 3 rfl ?_
              obtain ⟨hi13, hf⟩ := ck_e hf
              obtain ⟨S14, e_S14, hf⟩ := lt_e hf
              refine y_iastR C a62 (j := v12.toNatClampNeg) rfl hi13 e_S14 dX5_readsSitter_135 ?_
              refine y_aload_n C dX5_readsSitter_136 rfl 2 rfl ?_
              refine g50_readSitters C fl_X5_47 dX5_readsSitter_137 ?_
              refine y_iload C dX5_readsSitter_140 0 rfl ?_
              refine y_iconst C (v := 1) dX5_readsSitter_142 (by decide) ?_
              refine y_iadd C dX5_readsSitter_143 ?_
              refine y_iload_n C dX5_readsSitter_144 rfl 4 rfl ?_
              obtain ⟨hi15, hf⟩ := ck_e hf
              obtain ⟨S16, e_S16, hf⟩ := lt_e hf
              refine y_iastR C a62 (j := (v12 + (1 : Int32)).toNatClampNeg) rfl hi15 e_S16 dX5_readsSitter_145 ?_
              refine y_aload_n C dX5_readsSitter_146 rfl 2 rfl ?_
              refine g50_readSitters C fl_X5_47 dX5_readsSitter_147 ?_
              refine y_iload C dX5_readsSitter_150 0 rfl ?_
              refine y_iconst C (v := 2) dX5_readsSitter_152 (by decide) ?_
              refine y_iadd C dX5_readsSitter_153 ?_
              refine y_iload_n C dX5_readsSitter_154 rfl 5 rfl ?_
              obtain ⟨hi17, hf⟩ := ck_e hf
              obtain ⟨S18, e_S18, hf⟩ := lt_e hf
              refine y_iastR C a62 (j := (v12 + (2 : Int32)).toNatClampNeg) rfl hi17 e_S18 dX5_readsSitter_155 ?_
              refine y_aload_n C dX5_readsSitter_156 rfl 2 rfl ?_
              refine g50_readSitters C fl_X5_47 dX5_readsSitter_157 ?_
              refine y_iload C dX5_readsSitter_160 0 rfl ?_
              refine y_iconst C (v := 3) dX5_readsSitter_162 (by decide) ?_
              refine y_iadd C dX5_readsSitter_163 ?_
              refine y_iload C dX5_readsSitter_164 1 rfl ?_
              obtain ⟨hi19, hf⟩ := ck_e hf
              obtain ⟨S20, e_S20, hf⟩ := lt_e hf
              refine y_iastR C a62 (j := (v12 + (3 : Int32)).toNatClampNeg) rfl hi19 e_S20 dX5_readsSitter_166 ?_
              refine y_aload_n C dX5_readsSitter_167 rfl 2 rfl ?_
              refine y_dup C dX5_readsSitter_168 rfl ?_
              refine g50_readSeats C fl_X5_144 dX5_readsSitter_169 ?_
              refine y_iconst C (v := 1) dX5_readsSitter_172 (by decide) ?_
              refine y_iload_n C dX5_readsSitter_173 rfl 4 rfl ?_
              refine y_ishl C dX5_readsSitter_174 ?_
              refine y_ior C dX5_readsSitter_175 ?_
              obtain ⟨S21, e_S21, hf⟩ := lt_e hf
              refine p50_readSeats C fl_X5_144 e_S21 dX5_readsSitter_176 ?_
              refine y_aload_n C dX5_readsSitter_179 rfl 2 rfl ?_
              refine y_dup C dX5_readsSitter_180 rfl ?_
              refine g50_readMany C fl_X5_141 dX5_readsSitter_181 ?_
              refine y_iconst C (v := 1) dX5_readsSitter_184 (by decide) ?_
              refine y_iadd C dX5_readsSitter_185 ?_
              obtain ⟨S22, e_S22, hf⟩ := lt_e hf
              refine p50_readMany C fl_X5_141 e_S22 dX5_readsSitter_186 ?_
              refine y_iconst C (v := 1) dX5_readsSitter_189 (by decide) ?_
              exact y_zret C zOk1 (rs1 hf) rfl (rs2 hf) dX5_readsSitter_190
            · refine y_iconst C (v := 0) dX5_readsSitter_118 (by decide) ?_
              exact y_zret C zOk0 (rs1 hf) rfl (rs2 hf) dX5_readsSitter_119
          refine y_icmp_ne C 102 dX5_readsSitter_94 (by decide) hf (fun hf => ?_) (fun hf => ?_)
          · refine y_aload_n C dX5_readsSitter_102 rfl 1 rfl ?_
            refine y_iconst C (v := 0) dX5_readsSitter_103 (by decide) ?_
            refine y_bipush C (v := 9) dX5_readsSitter_104 (by decide) ?_
            obtain ⟨q23, h_q23, hf⟩ := bd_e hf
            refine y_cVi C (kX5_figure_50 l E σ S8 (0 : Int32) (9 : Int32) _ h_q23) vi_X5_figure ml_X5_129 ⟨5, _, o50, rfl, rfl⟩ rfl ⟨rfl, rfl, Nat.le_of_ble_eq_true rfl, Nat.le_of_ble_eq_true rfl⟩ dX5_readsSitter_106 rfl (Nat.le_of_ble_eq_true rfl) ?_
            refine y_sub [1, 2, 3, 0] rfl ?_
            exact h_j9 q23.1 q23.2 hf
          · refine y_bipush C (v := -9) dX5_readsSitter_97 (by decide) ?_
            refine y_goto C 109 dX5_readsSitter_99 (by decide) ?_
            refine y_sub [1, 2, 3, 0] rfl ?_
            exact h_j9 (-9 : Int32) S8 hf
        refine y_icmp_ne C 83 dX5_readsSitter_75 (by decide) hf (fun hf => ?_) (fun hf => ?_)
        · refine y_aload_n C dX5_readsSitter_83 rfl 0 rfl ?_
          refine y_iconst C (v := 0) dX5_readsSitter_84 (by decide) ?_
          refine y_bipush C (v := 9) dX5_readsSitter_85 (by decide) ?_
          obtain ⟨q24, h_q24, hf⟩ := bd_e hf
          refine y_cVi C (kX5_figure_50 l E σ q4.2 (0 : Int32) (9 : Int32) _ h_q24) vi_X5_figure ml_X5_129 ⟨5, _, o50, rfl, rfl⟩ rfl ⟨rfl, rfl, Nat.le_of_ble_eq_true rfl, Nat.le_of_ble_eq_true rfl⟩ dX5_readsSitter_87 rfl (Nat.le_of_ble_eq_true rfl) ?_
          refine y_sub [0, 1, 2] rfl ?_
          exact h_j6 q24.1 q24.2 hf
        · refine y_bipush C (v := -9) dX5_readsSitter_78 (by decide) ?_
          refine y_goto C 90 dX5_readsSitter_80 (by decide) ?_
          refine y_sub [0, 1, 2] rfl ?_
          exact h_j6 (-9 : Int32) q4.2 hf
      refine y_icmp_eq C 72 dX5_readsSitter_46 (by decide) hf (fun hf => ?_) (fun hf => ?_)
      · refine y_sub [2, 1, 0] rfl ?_
        exact h_j5 () hf
      · refine y_aload_n C dX5_readsSitter_49 rfl 2 rfl ?_
        refine g50_readSeats C fl_X5_144 dX5_readsSitter_50 ?_
        refine y_iload_n C dX5_readsSitter_53 rfl 0 rfl ?_
        refine y_cSi C (kX5_has l E σ q4.2 (gI q4.2 10) q4.1 _ rfl) si_X5_has ml_X5_147 rfl ⟨rfl, rfl, Nat.le_of_ble_eq_true rfl, Nat.le_of_ble_eq_true rfl⟩ dX5_readsSitter_54 rfl (Nat.le_of_ble_eq_true rfl) ?_
        refine y_if_eq C 72 dX5_readsSitter_57 (by decide) hf (fun hf => ?_) (fun hf => ?_)
        · refine y_sub [2, 1, 0] rfl ?_
          exact h_j5 () hf
        · refine y_aload_n C dX5_readsSitter_60 rfl 2 rfl ?_
          refine y_dup C dX5_readsSitter_61 rfl ?_
          refine g50_place C fl_X5_112 dX5_readsSitter_62 ?_
          refine y_iconst C (v := 1) dX5_readsSitter_65 (by decide) ?_
          refine y_isub C dX5_readsSitter_66 ?_
          obtain ⟨S25, e_S25, hf⟩ := lt_e hf
          refine p50_place C fl_X5_112 e_S25 dX5_readsSitter_67 ?_
          refine y_iconst C (v := 0) dX5_readsSitter_70 (by decide) ?_
          exact y_zret C zOk0 (rs1 hf) rfl (rs2 hf) dX5_readsSitter_71
    · refine y_iconst C (v := 0) dX5_readsSitter_23 (by decide) ?_
      exact y_zret C zOk0 (rs1 hf) rfl (rs2 hf) dX5_readsSitter_24
noncomputable def fX5_faultOf_50 (x1 : Int32) (τ : QS) : Option (Int32 × QS) :=
    lt_ (pI τ 4 ((60 : Int32) * x1)) (fun (S1 : QS) => lt_ (pI S1 5 (0 : Int32)) (fun (S2 : QS) => ck_ (inb x1 4) (lt_ (pI S2 6 (gM S2 58 x1.toNatClampNeg)) (fun (S4 : QS) => lt_ (pI S4 8 (0 : Int32)) (fun (S5 : QS) => lt_ (pI S5 9 (0 : Int32)) (fun (S6 : QS) => lt_ (pI S6 10 (0 : Int32)) (fun (S7 : QS) => Option.bind (fX5_readsPlay_50 S7) (fun (q8 : Int32 × QS) => (if q8.1 = 0 then lp_ (fun (r10 : Int32 × QS → Option (Int32 × QS)) (a9 : Int32 × QS) => lt_ (fun (_ : Unit) => (if a9.1 = 0 then some ((gI a9.2 5), a9.2) else (if (gI a9.2 9) ≤ 0 then some ((gI a9.2 5), a9.2) else some ((-9 : Int32), a9.2)))) (fun (j11 : Unit → Option (Int32 × QS)) => (if a9.1 = 0 then j11 () else (if (gI a9.2 6) ≤ (gI a9.2 5) then j11 () else Option.bind (fX5_readsSitter_50 a9.2) (fun (q12 : Int32 × QS) => (if q12.1 = 0 then r10 (q12.1, q12.2) else Option.bind (fX5_skip_50 q12.2) (fun (q13 : QS) => r10 (q12.1, q13)))))))) FV (q8.1, q8.2) else Option.bind (fX5_skip_50 q8.2) (fun (q14 : QS) => lp_ (fun (r16 : Int32 × QS → Option (Int32 × QS)) (a15 : Int32 × QS) => lt_ (fun (_ : Unit) => (if a15.1 = 0 then some ((gI a15.2 5), a15.2) else (if (gI a15.2 9) ≤ 0 then some ((gI a15.2 5), a15.2) else some ((-9 : Int32), a15.2)))) (fun (j17 : Unit → Option (Int32 × QS)) => (if a15.1 = 0 then j17 () else (if (gI a15.2 6) ≤ (gI a15.2 5) then j17 () else Option.bind (fX5_readsSitter_50 a15.2) (fun (q18 : Int32 × QS) => (if q18.1 = 0 then r16 (q18.1, q18.2) else Option.bind (fX5_skip_50 q18.2) (fun (q19 : QS) => r16 (q18.1, q19)))))))) FV (q8.1, q14)))))))))))
def rm_X5_faultOf_50 : Room := { frames := 4, cells := 0, slots := 0, locals := 94 }
set_option maxRecDepth 100000 in
set_option maxHeartbeats 4000000 in
theorem kX5_faultOf_50 (l : Launch) (E : QE) (σ τ : QS) (x1 : Int32) (q : Int32 × QS) (hf : fX5_faultOf_50 x1 τ = some q) : KQ l yX5_faultOf cX5_faultOf 3 (some .int) rm_X5_faultOf_50 E [.ref (qAd E 50), .int x1] σ τ (PI E q.1 σ q.2) := by
  unfold fX5_faultOf_50 at hf
  refine y_met rfl (Nat.le_of_ble_eq_true rfl) rfl (fun p e s m below meth c C => ?_)
  refine y_aload_n C dX5_faultOf_0 rfl 0 rfl ?_
  refine y_bipush C (v := 60) dX5_faultOf_1 (by decide) ?_
  refine y_iload_n C dX5_faultOf_3 rfl 1 rfl ?_
  refine y_imul C dX5_faultOf_4 ?_
  obtain ⟨S1, e_S1, hf⟩ := lt_e hf
  refine p50_from C fl_X5_109 e_S1 dX5_faultOf_5 ?_
  refine y_aload_n C dX5_faultOf_8 rfl 0 rfl ?_
  refine y_iconst C (v := 0) dX5_faultOf_9 (by decide) ?_
  obtain ⟨S2, e_S2, hf⟩ := lt_e hf
  refine p50_place C fl_X5_112 e_S2 dX5_faultOf_10 ?_
  refine y_aload_n C dX5_faultOf_13 rfl 0 rfl ?_
  refine y_aload_n C dX5_faultOf_14 rfl 0 rfl ?_
  refine g50_lengths C fl_X5_31 dX5_faultOf_15 ?_
  refine y_iload_n C dX5_faultOf_18 rfl 1 rfl ?_
  obtain ⟨hi3, hf⟩ := ck_e hf
  refine y_ialdR C a58 (j := x1.toNatClampNeg) rfl hi3 dX5_faultOf_19 ?_
  obtain ⟨S4, e_S4, hf⟩ := lt_e hf
  refine p50_end C fl_X5_115 e_S4 dX5_faultOf_20 ?_
  refine y_aload_n C dX5_faultOf_23 rfl 0 rfl ?_
  refine y_iconst C (v := 0) dX5_faultOf_24 (by decide) ?_
  obtain ⟨S5, e_S5, hf⟩ := lt_e hf
  refine p50_readScenes C fl_X5_135 e_S5 dX5_faultOf_25 ?_
  refine y_aload_n C dX5_faultOf_28 rfl 0 rfl ?_
  refine y_iconst C (v := 0) dX5_faultOf_29 (by decide) ?_
  obtain ⟨S6, e_S6, hf⟩ := lt_e hf
  refine p50_readMany C fl_X5_141 e_S6 dX5_faultOf_30 ?_
  refine y_aload_n C dX5_faultOf_33 rfl 0 rfl ?_
  refine y_iconst C (v := 0) dX5_faultOf_34 (by decide) ?_
  obtain ⟨S7, e_S7, hf⟩ := lt_e hf
  refine p50_readSeats C fl_X5_144 e_S7 dX5_faultOf_35 ?_
  refine y_aload_n C dX5_faultOf_38 rfl 0 rfl ?_
  obtain ⟨q8, h_q8, hf⟩ := bd_e hf
  refine y_cVi C (kX5_readsPlay_50 l E σ S7 _ h_q8) vi_X5_readsPlay ml_X5_150 ⟨5, _, o50, rfl, rfl⟩ rfl ⟨rfl, rfl, Nat.le_of_ble_eq_true rfl, Nat.le_of_ble_eq_true rfl⟩ dX5_faultOf_39 rfl (Nat.le_of_ble_eq_true rfl) ?_
  refine y_istore_n C dX5_faultOf_42 rfl (Nat.le_of_ble_eq_true rfl) rfl (lv' := [(2, .int q8.1), (0, .ref (qAd E 50)), (1, .int x1)]) rfl ?_
  refine y_iload_n C dX5_faultOf_43 rfl 0 rfl ?_
  refine y_if_eq C 51 dX5_faultOf_44 (by decide) hf (fun hf => ?_) (fun hf => ?_)
  · refine y_sub [0, 1] rfl ?_
    refine lp_ind (P := fun a9 : Int32 × QS => Y E p l e rm_X5_faultOf_50 s m ([.ref (qAd E 50), .int x1] : List Value).toArray below meth c 3 (MQ below (PI E q.1 σ q.2) ([.ref (qAd E 50), .int x1] : List Value).toArray s 0 0 (qA E)) σ a9.2 51 [(2, .int a9.1), (0, .ref (qAd E 50))] []) (fun r10 a9 ih_r10 hf => ?_) _ _ hf
    refine y_iload_n C dX5_faultOf_51 rfl 0 rfl ?_
    obtain ⟨j11, ek_j11, hf⟩ := lt_e hf
    have h_j11 : ∀ (_ : Unit), j11 () = some q → Y E p l e rm_X5_faultOf_50 s m ([.ref (qAd E 50), .int x1] : List Value).toArray below meth c 3 (MQ below (PI E q.1 σ q.2) ([.ref (qAd E 50), .int x1] : List Value).toArray s 0 0 (qA E)) σ a9.2 82 [(0, .ref (qAd E 50)), (2, .int a9.1)] [] := by
      intro _ hf
      replace hf := (congrFun (ek_j11) ()).symm.trans hf
      refine y_iload_n C dX5_faultOf_82 rfl 1 rfl ?_
      refine y_if_eq C 98 dX5_faultOf_83 (by decide) hf (fun hf => ?_) (fun hf => ?_)
      · refine y_aload_n C dX5_faultOf_98 rfl 0 rfl ?_
        refine g50_place C fl_X5_112 dX5_faultOf_99 ?_
        exact y_iret C (rs1 hf) rfl (rs2 hf) dX5_faultOf_102
      · refine y_aload_n C dX5_faultOf_86 rfl 0 rfl ?_
        refine g50_readMany C fl_X5_141 dX5_faultOf_87 ?_
        refine y_if_le C 98 dX5_faultOf_90 (by decide) hf (fun hf => ?_) (fun hf => ?_)
        · refine y_aload_n C dX5_faultOf_98 rfl 0 rfl ?_
          refine g50_place C fl_X5_112 dX5_faultOf_99 ?_
          exact y_iret C (rs1 hf) rfl (rs2 hf) dX5_faultOf_102
        · refine y_bipush C (v := -9) dX5_faultOf_93 (by decide) ?_
          refine y_goto C 102 dX5_faultOf_95 (by decide) ?_
          exact y_iret C (rs1 hf) rfl (rs2 hf) dX5_faultOf_102
    refine y_if_eq C 82 dX5_faultOf_52 (by decide) hf (fun hf => ?_) (fun hf => ?_)
    · refine y_sub [1, 0] rfl ?_
      exact h_j11 () hf
    · refine y_aload_n C dX5_faultOf_55 rfl 1 rfl ?_
      refine g50_place C fl_X5_112 dX5_faultOf_56 ?_
      refine y_aload_n C dX5_faultOf_59 rfl 1 rfl ?_
      refine g50_end C fl_X5_115 dX5_faultOf_60 ?_
      refine y_icmp_ge C 82 dX5_faultOf_63 (by decide) hf (fun hf => ?_) (fun hf => ?_)
      · refine y_sub [1, 0] rfl ?_
        exact h_j11 () hf
      · refine y_aload_n C dX5_faultOf_66 rfl 1 rfl ?_
        obtain ⟨q12, h_q12, hf⟩ := bd_e hf
        refine y_cVi C (kX5_readsSitter_50 l E σ a9.2 _ h_q12) vi_X5_readsSitter ml_X5_154 ⟨5, _, o50, rfl, rfl⟩ rfl ⟨rfl, rfl, Nat.le_of_ble_eq_true rfl, Nat.le_of_ble_eq_true rfl⟩ dX5_faultOf_67 rfl (Nat.le_of_ble_eq_true rfl) ?_
        refine y_istore_n C dX5_faultOf_70 rfl (Nat.le_of_ble_eq_true rfl) rfl (lv' := [(2, .int q12.1), (0, .ref (qAd E 50))]) rfl ?_
        refine y_iload_n C dX5_faultOf_71 rfl 0 rfl ?_
        refine y_if_eq C 51 dX5_faultOf_72 (by decide) hf (fun hf => ?_) (fun hf => ?_)
        · refine y_sub [0, 1] rfl ?_
          exact ih_r10 (q12.1, q12.2) hf
        · refine y_aload_n C dX5_faultOf_75 rfl 1 rfl ?_
          obtain ⟨q13, h_q13, hf⟩ := bd_e hf
          refine y_cVv C (kX5_skip_50 l E σ q12.2 _ h_q13) vi_X5_skip ml_X5_126 ⟨5, _, o50, rfl, rfl⟩ rfl ⟨rfl, rfl, Nat.le_of_ble_eq_true rfl, Nat.le_of_ble_eq_true rfl⟩ dX5_faultOf_76 rfl (Nat.le_of_ble_eq_true rfl) ?_
          refine y_goto C 51 dX5_faultOf_79 (by decide) ?_
          refine y_sub [0, 1] rfl ?_
          exact ih_r10 (q12.1, q13) hf
  · refine y_aload_n C dX5_faultOf_47 rfl 1 rfl ?_
    obtain ⟨q14, h_q14, hf⟩ := bd_e hf
    refine y_cVv C (kX5_skip_50 l E σ q8.2 _ h_q14) vi_X5_skip ml_X5_126 ⟨5, _, o50, rfl, rfl⟩ rfl ⟨rfl, rfl, Nat.le_of_ble_eq_true rfl, Nat.le_of_ble_eq_true rfl⟩ dX5_faultOf_48 rfl (Nat.le_of_ble_eq_true rfl) ?_
    refine y_sub [0, 1] rfl ?_
    refine lp_ind (P := fun a15 : Int32 × QS => Y E p l e rm_X5_faultOf_50 s m ([.ref (qAd E 50), .int x1] : List Value).toArray below meth c 3 (MQ below (PI E q.1 σ q.2) ([.ref (qAd E 50), .int x1] : List Value).toArray s 0 0 (qA E)) σ a15.2 51 [(2, .int a15.1), (0, .ref (qAd E 50))] []) (fun r16 a15 ih_r16 hf => ?_) _ _ hf
    refine y_iload_n C dX5_faultOf_51 rfl 0 rfl ?_
    obtain ⟨j17, ek_j17, hf⟩ := lt_e hf
    have h_j17 : ∀ (_ : Unit), j17 () = some q → Y E p l e rm_X5_faultOf_50 s m ([.ref (qAd E 50), .int x1] : List Value).toArray below meth c 3 (MQ below (PI E q.1 σ q.2) ([.ref (qAd E 50), .int x1] : List Value).toArray s 0 0 (qA E)) σ a15.2 82 [(0, .ref (qAd E 50)), (2, .int a15.1)] [] := by
      intro _ hf
      replace hf := (congrFun (ek_j17) ()).symm.trans hf
      refine y_iload_n C dX5_faultOf_82 rfl 1 rfl ?_
      refine y_if_eq C 98 dX5_faultOf_83 (by decide) hf (fun hf => ?_) (fun hf => ?_)
      · refine y_aload_n C dX5_faultOf_98 rfl 0 rfl ?_
        refine g50_place C fl_X5_112 dX5_faultOf_99 ?_
        exact y_iret C (rs1 hf) rfl (rs2 hf) dX5_faultOf_102
      · refine y_aload_n C dX5_faultOf_86 rfl 0 rfl ?_
        refine g50_readMany C fl_X5_141 dX5_faultOf_87 ?_
        refine y_if_le C 98 dX5_faultOf_90 (by decide) hf (fun hf => ?_) (fun hf => ?_)
        · refine y_aload_n C dX5_faultOf_98 rfl 0 rfl ?_
          refine g50_place C fl_X5_112 dX5_faultOf_99 ?_
          exact y_iret C (rs1 hf) rfl (rs2 hf) dX5_faultOf_102
        · refine y_bipush C (v := -9) dX5_faultOf_93 (by decide) ?_
          refine y_goto C 102 dX5_faultOf_95 (by decide) ?_
          exact y_iret C (rs1 hf) rfl (rs2 hf) dX5_faultOf_102
    refine y_if_eq C 82 dX5_faultOf_52 (by decide) hf (fun hf => ?_) (fun hf => ?_)
    · refine y_sub [1, 0] rfl ?_
      exact h_j17 () hf
    · refine y_aload_n C dX5_faultOf_55 rfl 1 rfl ?_
      refine g50_place C fl_X5_112 dX5_faultOf_56 ?_
      refine y_aload_n C dX5_faultOf_59 rfl 1 rfl ?_
      refine g50_end C fl_X5_115 dX5_faultOf_60 ?_
      refine y_icmp_ge C 82 dX5_faultOf_63 (by decide) hf (fun hf => ?_) (fun hf => ?_)
      · refine y_sub [1, 0] rfl ?_
        exact h_j17 () hf
      · refine y_aload_n C dX5_faultOf_66 rfl 1 rfl ?_
        obtain ⟨q18, h_q18, hf⟩ := bd_e hf
        refine y_cVi C (kX5_readsSitter_50 l E σ a15.2 _ h_q18) vi_X5_readsSitter ml_X5_154 ⟨5, _, o50, rfl, rfl⟩ rfl ⟨rfl, rfl, Nat.le_of_ble_eq_true rfl, Nat.le_of_ble_eq_true rfl⟩ dX5_faultOf_67 rfl (Nat.le_of_ble_eq_true rfl) ?_
        refine y_istore_n C dX5_faultOf_70 rfl (Nat.le_of_ble_eq_true rfl) rfl (lv' := [(2, .int q18.1), (0, .ref (qAd E 50))]) rfl ?_
        refine y_iload_n C dX5_faultOf_71 rfl 0 rfl ?_
        refine y_if_eq C 51 dX5_faultOf_72 (by decide) hf (fun hf => ?_) (fun hf => ?_)
        · refine y_sub [0, 1] rfl ?_
          exact ih_r16 (q18.1, q18.2) hf
        · refine y_aload_n C dX5_faultOf_75 rfl 1 rfl ?_
          obtain ⟨q19, h_q19, hf⟩ := bd_e hf
          refine y_cVv C (kX5_skip_50 l E σ q18.2 _ h_q19) vi_X5_skip ml_X5_126 ⟨5, _, o50, rfl, rfl⟩ rfl ⟨rfl, rfl, Nat.le_of_ble_eq_true rfl, Nat.le_of_ble_eq_true rfl⟩ dX5_faultOf_76 rfl (Nat.le_of_ble_eq_true rfl) ?_
          refine y_goto C 51 dX5_faultOf_79 (by decide) ?_
          refine y_sub [0, 1] rfl ?_
          exact ih_r16 (q18.1, q19) hf
