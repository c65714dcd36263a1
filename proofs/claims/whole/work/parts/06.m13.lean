noncomputable def fX4_seats_0  (σ : QS) : Option (Int32 × QS) :=
    (if (gI σ 9) = 0 then some ((-4 : Int32), σ) else Option.bind (fX0_allowed_6 σ) (fun (q1 : Int32) => Option.bind (fX2_findMost_7 q1 (0 : Int32) σ) (fun (q2 : Int32 × QS) => lp_ (fun (r4 : Int32 × Int32 × Int32 × QS → Option (Int32 × QS)) (a3 : Int32 × Int32 × Int32 × QS) => (if (gI a3.2.2.2 9) ≤ a3.2.2.1 then (if a3.2.1 = (-9 : Int32) then some (a3.2.1, a3.2.2.2) else lt_ (fX4_tell_0 a3.1 a3.2.2.2) (fun (q5 : Int32 × QS) => some (a3.2.1, q5.2))) else lt_ (a3.2.2.1 + (1 : Int32)) (fun (v6 : Int32) => lp_ (fun (r8 : Int32 × Int32 × Int32 × QS → Option (Int32 × QS)) (a7 : Int32 × Int32 × Int32 × QS) => (if (gI a7.2.2.2 9) ≤ a7.2.2.1 then r4 (a7.1, a7.2.1, (a3.2.2.1 + (1 : Int32)), a7.2.2.2) else Option.bind (fX0_allowedIfChanged_6 a3.2.2.1 a7.2.2.1 a7.2.2.2) (fun (q9 : Int32 × QS) => lt_ (fun (v11 : Int32) (S12 : QS) => (if v11 ≤ a7.1 then r8 (a7.1, a7.2.1, (a7.2.2.1 + (1 : Int32)), S12) else lt_ (((10 : Int32) * a3.2.2.1) + a7.2.2.1) (fun (v13 : Int32) => r8 (v11, v13, (a7.2.2.1 + (1 : Int32)), S12)))) (fun (j10 : Int32 → QS → Option (Int32 × QS)) => (if (q9.1 &&& (q1 ^^^ (-1 : Int32))) = 0 then j10 (0 : Int32) q9.2 else Option.bind (fX2_findMost_7 q9.1 a7.1 q9.2) (fun (q14 : Int32 × QS) => j10 q14.1 q14.2)))))) FV (a3.1, a3.2.1, v6, a3.2.2.2)))) FV (q2.1, (-9 : Int32), (0 : Int32), q2.2))))
def rm_X4_seats_0 : Room := { frames := 14, cells := 0, slots := 0, locals := 359 }
set_option maxRecDepth 100000 in
set_option maxHeartbeats 4000000 in
theorem kX4_seats_0 (l : Launch) (E : QE) (σ τ : QS)  (q : Int32 × QS) (hf : fX4_seats_0 σ = some q) : KQ l yX4_seats cX4_seats 8 (some .int) rm_X4_seats_0 E [.ref (qAd E 0)] σ τ (PI E q.1 q.2 τ) := by
  unfold fX4_seats_0 at hf
  refine y_met rfl (Nat.le_of_ble_eq_true rfl) rfl (fun p e s m below meth c C => ?_)
  refine y_aload_n C dX4_seats_0 rfl 0 rfl ?_
  refine g0_script C fl_X4_31 dX4_seats_1 ?_
  refine gN5_sitterCount C fn_X4_114 dX4_seats_4 ?_
  refine y_if_ne C 13 dX4_seats_7 (by decide) hf (fun hf => ?_) (fun hf => ?_)
  · refine y_aload_n C dX4_seats_13 rfl 0 rfl ?_
    refine g0_night C fl_X4_39 dX4_seats_14 ?_
    obtain ⟨q1, h_q1, hf⟩ := bd_e hf
    refine y_cVi C (kX0_allowed_6 l E σ τ _ h_q1) vi_X0_allowed ml_X4_185 ⟨0, _, o6, rfl, rfl⟩ rfl ⟨rfl, rfl, Nat.le_of_ble_eq_true rfl, Nat.le_of_ble_eq_true rfl⟩ dX4_seats_17 rfl (Nat.le_of_ble_eq_true rfl) ?_
    refine y_istore_n C dX4_seats_20 rfl (Nat.le_of_ble_eq_true rfl) rfl (lv' := [(1, .int q1), (0, .ref (qAd E 0))]) rfl ?_
    refine y_aload_n C dX4_seats_21 rfl 1 rfl ?_
    refine g0_search C fl_X4_48 dX4_seats_22 ?_
    refine y_iload_n C dX4_seats_25 rfl 0 rfl ?_
    refine y_iconst C (v := 0) dX4_seats_26 (by decide) ?_
    obtain ⟨q2, h_q2, hf⟩ := bd_e hf
    refine y_cVi C (kX2_findMost_7 l E σ τ q1 (0 : Int32) _ h_q2) vi_X2_findMost ml_X4_188 ⟨2, _, o7, rfl, rfl⟩ rfl ⟨rfl, rfl, Nat.le_of_ble_eq_true rfl, Nat.le_of_ble_eq_true rfl⟩ dX4_seats_27 rfl (Nat.le_of_ble_eq_true rfl) ?_
    refine y_istore_n C dX4_seats_30 rfl (Nat.le_of_ble_eq_true rfl) rfl (lv' := [(2, .int q2.1), (1, .int q1), (0, .ref (qAd E 0))]) rfl ?_
    refine y_bipush C (v := -9) dX4_seats_31 (by decide) ?_
    refine y_istore_n C dX4_seats_33 rfl (Nat.le_of_ble_eq_true rfl) rfl (lv' := [(3, .int (-9 : Int32)), (2, .int q2.1), (1, .int q1), (0, .ref (qAd E 0))]) rfl ?_
    refine y_iconst C (v := 0) dX4_seats_34 (by decide) ?_
    refine y_istore C dX4_seats_35 (Nat.le_of_ble_eq_true rfl) rfl (lv' := [(4, .int (0 : Int32)), (3, .int (-9 : Int32)), (2, .int q2.1), (1, .int q1), (0, .ref (qAd E 0))]) rfl ?_
    refine y_sub [0, 1, 2, 3, 4] rfl ?_
    refine lp_ind (P := fun a3 : Int32 × Int32 × Int32 × QS => Y E p l e rm_X4_seats_0 s m ([.ref (qAd E 0)] : List Value).toArray below meth c 8 (MQ below (PI E q.1 q.2 τ) ([.ref (qAd E 0)] : List Value).toArray s 0 0 (qA E)) a3.2.2.2 τ 37 [(4, .int a3.2.2.1), (3, .int a3.2.1), (2, .int a3.1), (1, .int q1), (0, .ref (qAd E 0))] []) (fun r4 a3 ih_r4 hf => ?_) _ _ hf
    refine y_iload C dX4_seats_37 0 rfl ?_
    refine y_aload_n C dX4_seats_39 rfl 4 rfl ?_
    refine g0_script C fl_X4_31 dX4_seats_40 ?_
    refine gN5_sitterCount C fn_X4_114 dX4_seats_43 ?_
    refine y_icmp_ge C 135 dX4_seats_46 (by decide) hf (fun hf => ?_) (fun hf => ?_)
    · refine y_iload_n C dX4_seats_135 rfl 1 rfl ?_
      refine y_bipush C (v := -9) dX4_seats_136 (by decide) ?_
      refine y_icmp_eq C 147 dX4_seats_138 (by decide) hf (fun hf => ?_) (fun hf => ?_)
      · refine y_iload_n C dX4_seats_147 rfl 1 rfl ?_
        exact y_iret C (rs1 hf) (rs2 hf) rfl dX4_seats_148
      · refine y_aload_n C dX4_seats_141 rfl 4 rfl ?_
        refine y_iload_n C dX4_seats_142 rfl 2 rfl ?_
        obtain ⟨q5, e_q5, hf⟩ := lt_e hf
        refine y_cVi C (kX4_tell_0 l E a3.2.2.2 τ a3.1 _ e_q5.symm) vi_X4_tell ml_X4_83 ⟨4, _, o0, rfl, rfl⟩ rfl ⟨rfl, rfl, Nat.le_of_ble_eq_true rfl, Nat.le_of_ble_eq_true rfl⟩ dX4_seats_143 rfl (Nat.le_of_ble_eq_true rfl) ?_
        refine y_pop C dX4_seats_146 rfl ?_
        refine y_iload_n C dX4_seats_147 rfl 1 rfl ?_
        exact y_iret C (rs1 hf) (rs2 hf) rfl dX4_seats_148
    · refine y_iload C dX4_seats_49 0 rfl ?_
      refine y_iconst C (v := 1) dX4_seats_51 (by decide) ?_
      refine y_iadd C dX4_seats_52 ?_
      obtain ⟨v6, e_v6, hf⟩ := lt_e hf
      refine y_istore C dX4_seats_53 (Nat.le_of_ble_eq_true rfl) e_v6 (lv' := [(5, .int v6), (4, .int a3.2.2.1), (3, .int a3.2.1), (2, .int a3.1), (1, .int q1), (0, .ref (qAd E 0))]) rfl ?_
      refine y_sub [0, 1, 2, 3, 4, 5] rfl ?_
      refine lp_ind (P := fun a7 : Int32 × Int32 × Int32 × QS => Y E p l e rm_X4_seats_0 s m ([.ref (qAd E 0)] : List Value).toArray below meth c 8 (MQ below (PI E q.1 q.2 τ) ([.ref (qAd E 0)] : List Value).toArray s 0 0 (qA E)) a7.2.2.2 τ 55 [(5, .int a7.2.2.1), (4, .int a3.2.2.1), (3, .int a7.2.1), (2, .int a7.1), (1, .int q1), (0, .ref (qAd E 0))] []) (fun r8 a7 ih_r8 hf => ?_) _ _ hf
      refine y_iload C dX4_seats_55 0 rfl ?_
      refine y_aload_n C dX4_seats_57 rfl 5 rfl ?_
      refine g0_script C fl_X4_31 dX4_seats_58 ?_
      refine gN5_sitterCount C fn_X4_114 dX4_seats_61 ?_
      refine y_icmp_ge C 129 dX4_seats_64 (by decide) hf (fun hf => ?_) (fun hf => ?_)
      · refine y_iinc C dX4_seats_129 1 rfl (Nat.le_of_ble_eq_true rfl) (k2 := 1) (by decide) rfl (lv' := [(4, .int (a3.2.2.1 + (1 : Int32))), (5, .int a7.2.2.1), (3, .int a7.2.1), (2, .int a7.1), (1, .int q1), (0, .ref (qAd E 0))]) rfl ?_
        refine y_goto C 37 dX4_seats_132 (by decide) ?_
        refine y_sub [0, 2, 3, 4, 5] rfl ?_
        exact ih_r4 (a7.1, a7.2.1, (a3.2.2.1 + (1 : Int32)), a7.2.2.2) hf
      · refine y_aload_n C dX4_seats_67 rfl 5 rfl ?_
        refine g0_night C fl_X4_39 dX4_seats_68 ?_
        refine y_iload C dX4_seats_71 1 rfl ?_
        refine y_iload C dX4_seats_73 0 rfl ?_
        obtain ⟨q9, h_q9, hf⟩ := bd_e hf
        refine y_cVi C (kX0_allowedIfChanged_6 l E a7.2.2.2 τ a3.2.2.1 a7.2.2.1 _ h_q9) vi_X0_allowedIfChanged ml_X4_219 ⟨0, _, o6, rfl, rfl⟩ rfl ⟨rfl, rfl, Nat.le_of_ble_eq_true rfl, Nat.le_of_ble_eq_true rfl⟩ dX4_seats_75 rfl (Nat.le_of_ble_eq_true rfl) ?_
        refine y_istore C dX4_seats_78 (Nat.le_of_ble_eq_true rfl) rfl (lv' := [(6, .int q9.1), (5, .int a7.2.2.1), (4, .int a3.2.2.1), (3, .int a7.2.1), (2, .int a7.1), (1, .int q1), (0, .ref (qAd E 0))]) rfl ?_
        refine y_iload C dX4_seats_80 0 rfl ?_
        refine y_iload_n C dX4_seats_82 rfl 5 rfl ?_
        refine y_iconst C (v := -1) dX4_seats_83 (by decide) ?_
        refine y_ixor C dX4_seats_84 ?_
        refine y_iand C dX4_seats_85 ?_
        obtain ⟨j10, ek_j10, hf⟩ := lt_e hf
        have h_j10 : ∀ (v11 : Int32) (S12 : QS), j10 v11 S12 = some q → Y E p l e rm_X4_seats_0 s m ([.ref (qAd E 0)] : List Value).toArray below meth c 8 (MQ below (PI E q.1 q.2 τ) ([.ref (qAd E 0)] : List Value).toArray s 0 0 (qA E)) S12 τ 103 [(0, .ref (qAd E 0)), (1, .int q1), (2, .int a7.1), (3, .int a7.2.1), (4, .int a3.2.2.1), (5, .int a7.2.2.1)] [.int v11] := by
          intro v11 S12 hf
          replace hf := (congrFun (congrFun (ek_j10) v11) S12).symm.trans hf
          refine y_istore C dX4_seats_103 (Nat.le_of_ble_eq_true rfl) rfl (lv' := [(7, .int v11), (0, .ref (qAd E 0)), (1, .int q1), (2, .int a7.1), (3, .int a7.2.1), (4, .int a3.2.2.1), (5, .int a7.2.2.1)]) rfl ?_
          refine y_iload C dX4_seats_105 0 rfl ?_
          refine y_iload_n C dX4_seats_107 rfl 3 rfl ?_
          refine y_icmp_le C 123 dX4_seats_108 (by decide) hf (fun hf => ?_) (fun hf => ?_)
          · refine y_iinc C dX4_seats_123 6 rfl (Nat.le_of_ble_eq_true rfl) (k2 := 1) (by decide) rfl (lv' := [(5, .int (a7.2.2.1 + (1 : Int32))), (7, .int v11), (0, .ref (qAd E 0)), (1, .int q1), (2, .int a7.1), (3, .int a7.2.1), (4, .int a3.2.2.1)]) rfl ?_
            refine y_goto C 55 dX4_seats_126 (by decide) ?_
            refine y_sub [0, 6, 5, 4, 3, 2] rfl ?_
            exact ih_r8 (a7.1, a7.2.1, (a7.2.2.1 + (1 : Int32)), S12) hf
          · refine y_iload C dX4_seats_111 0 rfl ?_
            refine y_istore_n C dX4_seats_113 rfl (Nat.le_of_ble_eq_true rfl) rfl (lv' := [(2, .int v11), (7, .int v11), (0, .ref (qAd E 0)), (1, .int q1), (3, .int a7.2.1), (4, .int a3.2.2.1), (5, .int a7.2.2.1)]) rfl ?_
            refine y_bipush C (v := 10) dX4_seats_114 (by decide) ?_
            refine y_iload C dX4_seats_116 5 rfl ?_
            refine y_imul C dX4_seats_118 ?_
            refine y_iload C dX4_seats_119 6 rfl ?_
            refine y_iadd C dX4_seats_121 ?_
            obtain ⟨v13, e_v13, hf⟩ := lt_e hf
            refine y_istore_n C dX4_seats_122 rfl (Nat.le_of_ble_eq_true rfl) e_v13 (lv' := [(3, .int v13), (2, .int v11), (7, .int v11), (0, .ref (qAd E 0)), (1, .int q1), (4, .int a3.2.2.1), (5, .int a7.2.2.1)]) rfl ?_
            refine y_iinc C dX4_seats_123 6 rfl (Nat.le_of_ble_eq_true rfl) (k2 := 1) (by decide) rfl (lv' := [(5, .int (a7.2.2.1 + (1 : Int32))), (3, .int v13), (2, .int v11), (7, .int v11), (0, .ref (qAd E 0)), (1, .int q1), (4, .int a3.2.2.1)]) rfl ?_
            refine y_goto C 55 dX4_seats_126 (by decide) ?_
            refine y_sub [0, 6, 1, 2, 5, 4] rfl ?_
            exact ih_r8 (v11, v13, (a7.2.2.1 + (1 : Int32)), S12) hf
        refine y_if_ne C 93 dX4_seats_86 (by decide) hf (fun hf => ?_) (fun hf => ?_)
        · refine y_aload_n C dX4_seats_93 rfl 6 rfl ?_
          refine g0_search C fl_X4_48 dX4_seats_94 ?_
          refine y_iload C dX4_seats_97 0 rfl ?_
          refine y_iload_n C dX4_seats_99 rfl 4 rfl ?_
          obtain ⟨q14, h_q14, hf⟩ := bd_e hf
          refine y_cVi C (kX2_findMost_7 l E q9.2 τ q9.1 a7.1 _ h_q14) vi_X2_findMost ml_X4_188 ⟨2, _, o7, rfl, rfl⟩ rfl ⟨rfl, rfl, Nat.le_of_ble_eq_true rfl, Nat.le_of_ble_eq_true rfl⟩ dX4_seats_100 rfl (Nat.le_of_ble_eq_true rfl) ?_
          refine y_sub [6, 5, 4, 3, 2, 1] rfl ?_
          exact h_j10 q14.1 q14.2 hf
        · refine y_iconst C (v := 0) dX4_seats_89 (by decide) ?_
          refine y_goto C 103 dX4_seats_90 (by decide) ?_
          refine y_sub [6, 5, 4, 3, 2, 1] rfl ?_
          exact h_j10 (0 : Int32) q9.2 hf
  · refine y_bipush C (v := -4) dX4_seats_10 (by decide) ?_
    exact y_iret C (rs1 hf) (rs2 hf) rfl dX4_seats_12
noncomputable def fX5_mostCarried_50  (τ : QS) : Option (Int32 × QS) :=
    Option.bind (fX5_beginPlans_50 (gM τ 51 2) τ) (fun (q1 : QS) => lp_ (fun (r3 : Int32 × QS → Option (Int32 × QS)) (a2 : Int32 × QS) => Option.bind (fX5_nextPlan_50 a2.2) (fun (q4 : Int32 × QS) => (if q4.1 = 0 then some (a2.1, q4.2) else ck_ (inb (gI q4.2 11) 7) ((if (gM q4.2 65 ((gI q4.2 11).toNatClampNeg)) ≤ a2.1 then r3 (a2.1, q4.2) else ck_ (inb (gI q4.2 11) 7) (lt_ (gM q4.2 65 ((gI q4.2 11).toNatClampNeg)) (fun (v7 : Int32) => r3 (v7, q4.2)))))))) FV ((0 : Int32), q1))
def rm_X5_mostCarried_50 : Room := { frames := 7, cells := 0, slots := 0, locals := 162 }
set_option maxRecDepth 100000 in
set_option maxHeartbeats 4000000 in
theorem kX5_mostCarried_50 (l : Launch) (E : QE) (σ τ : QS)  (q : Int32 × QS) (hf : fX5_mostCarried_50 τ = some q) : KQ l yX5_mostCarried cX5_mostCarried 2 (some .int) rm_X5_mostCarried_50 E [.ref (qAd E 50)] σ τ (PI E q.1 σ q.2) := by
  unfold fX5_mostCarried_50 at hf
  refine y_met rfl (Nat.le_of_ble_eq_true rfl) rfl (fun p e s m below meth c C => ?_)
  refine y_iconst C (v := 0) dX5_mostCarried_0 (by decide) ?_
  refine y_istore_n C dX5_mostCarried_1 rfl (Nat.le_of_ble_eq_true rfl) rfl (lv' := [(1, .int (0 : Int32)), (0, .ref (qAd E 50))]) rfl ?_
  refine y_aload_n C dX5_mostCarried_2 rfl 1 rfl ?_
  refine y_aload_n C dX5_mostCarried_3 rfl 1 rfl ?_
  refine g50_row C fl_X5_7 dX5_mostCarried_4 ?_
  refine y_iconst C (v := 2) dX5_mostCarried_7 (by decide) ?_
  refine y_ialdR C a51 (j := 2) (by decide) (by decide) dX5_mostCarried_8 ?_
  obtain ⟨q1, h_q1, hf⟩ := bd_e hf
  refine y_cVv C (kX5_beginPlans_50 l E σ τ (gM τ 51 2) _ h_q1) vi_X5_beginPlans ml_X5_258 ⟨5, _, o50, rfl, rfl⟩ rfl ⟨rfl, rfl, Nat.le_of_ble_eq_true rfl, Nat.le_of_ble_eq_true rfl⟩ dX5_mostCarried_9 rfl (Nat.le_of_ble_eq_true rfl) ?_
  refine y_sub [0, 1] rfl ?_
  refine lp_ind (P := fun a2 : Int32 × QS => Y E p l e rm_X5_mostCarried_50 s m ([.ref (qAd E 50)] : List Value).toArray below meth c 2 (MQ below (PI E q.1 σ q.2) ([.ref (qAd E 50)] : List Value).toArray s 0 0 (qA E)) σ a2.2 12 [(1, .int a2.1), (0, .ref (qAd E 50))] []) (fun r3 a2 ih_r3 hf => ?_) _ _ hf
  refine y_aload_n C dX5_mostCarried_12 rfl 1 rfl ?_
  obtain ⟨q4, h_q4, hf⟩ := bd_e hf
  refine y_cVi C (kX5_nextPlan_50 l E σ a2.2 _ h_q4) vi_X5_nextPlan ml_X5_265 ⟨5, _, o50, rfl, rfl⟩ rfl ⟨rfl, rfl, Nat.le_of_ble_eq_true rfl, Nat.le_of_ble_eq_true rfl⟩ dX5_mostCarried_13 rfl (Nat.le_of_ble_eq_true rfl) ?_
  refine y_if_eq C 49 dX5_mostCarried_16 (by decide) hf (fun hf => ?_) (fun hf => ?_)
  · refine y_iload_n C dX5_mostCarried_49 rfl 0 rfl ?_
    exact y_iret C (rs1 hf) rfl (rs2 hf) dX5_mostCarried_50
  · refine y_aload_n C dX5_mostCarried_19 rfl 1 rfl ?_
    refine g50_planCarried C fl_X5_56 dX5_mostCarried_20 ?_
    refine y_aload_n C dX5_mostCarried_23 rfl 1 rfl ?_
    refine g50_planMany C fl_X5_245 dX5_mostCarried_24 ?_
    obtain ⟨hi5, hf⟩ := ck_e hf
    refine y_ialdR C a65 (j := (gI q4.2 11).toNatClampNeg) rfl hi5 dX5_mostCarried_27 ?_
    refine y_iload_n C dX5_mostCarried_28 rfl 0 rfl ?_
    refine y_icmp_le C 44 dX5_mostCarried_29 (by decide) hf (fun hf => ?_) (fun hf => ?_)
    · refine y_iload_n C dX5_mostCarried_44 rfl 0 rfl ?_
      refine y_istore_n C dX5_mostCarried_45 rfl (Nat.le_of_ble_eq_true rfl) rfl (lv' := [(1, .int a2.1), (0, .ref (qAd E 50))]) rfl ?_
      refine y_goto C 12 dX5_mostCarried_46 (by decide) ?_
      refine y_sub [0, 1] rfl ?_
      exact ih_r3 (a2.1, q4.2) hf
    · refine y_aload_n C dX5_mostCarried_32 rfl 1 rfl ?_
      refine g50_planCarried C fl_X5_56 dX5_mostCarried_33 ?_
      refine y_aload_n C dX5_mostCarried_36 rfl 1 rfl ?_
      refine g50_planMany C fl_X5_245 dX5_mostCarried_37 ?_
      obtain ⟨hi6, hf⟩ := ck_e hf
      refine y_ialdR C a65 (j := (gI q4.2 11).toNatClampNeg) rfl hi6 dX5_mostCarried_40 ?_
      refine y_goto C 45 dX5_mostCarried_41 (by decide) ?_
      obtain ⟨v7, e_v7, hf⟩ := lt_e hf
      refine y_istore_n C dX5_mostCarried_45 rfl (Nat.le_of_ble_eq_true rfl) e_v7 (lv' := [(1, .int v7), (0, .ref (qAd E 50))]) rfl ?_
      refine y_goto C 12 dX5_mostCarried_46 (by decide) ?_
      refine y_sub [0, 1] rfl ?_
      exact ih_r3 (v7, q4.2) hf
noncomputable def fX5_seats_50  (τ : QS) : Option (Int32 × QS) :=
    (if (gI τ 1) = 0 then some ((-4 : Int32), τ) else Option.bind (fX5_mostCarried_50 τ) (fun (q1 : Int32 × QS) => lp_ (fun (r3 : Int32 × Int32 × Int32 × QS → Option (Int32 × QS)) (a2 : Int32 × Int32 × Int32 × QS) => (if (gI a2.2.2.2 1) ≤ a2.2.2.1 then lt_ (fun (v5 : Int32) => lt_ (pI a2.2.2.2 2 v5) (fun (S6 : QS) => some (a2.2.1, S6))) (fun (j4 : Int32 → Option (Int32 × QS)) => (if a2.2.1 = (-9 : Int32) then j4 (gI a2.2.2.2 2) else j4 a2.1)) else lt_ (a2.2.2.1 + (1 : Int32)) (fun (v7 : Int32) => lp_ (fun (r9 : Int32 × Int32 × Int32 × QS → Option (Int32 × QS)) (a8 : Int32 × Int32 × Int32 × QS) => (if (gI a8.2.2.2 1) ≤ a8.2.2.1 then r3 (a8.1, a8.2.1, (a2.2.2.1 + (1 : Int32)), a8.2.2.2) else Option.bind (fX5_swapSeats_50 a2.2.2.1 a8.2.2.1 a8.2.2.2) (fun (q10 : QS) => Option.bind (fX5_mostCarried_50 q10) (fun (q11 : Int32 × QS) => Option.bind (fX5_swapSeats_50 a2.2.2.1 a8.2.2.1 q11.2) (fun (q12 : QS) => lt_ (fun (v14 : Int32) => (if q11.1 ≤ a8.1 then r9 (a8.1, v14, (a8.2.2.1 + (1 : Int32)), q12) else r9 (q11.1, v14, (a8.2.2.1 + (1 : Int32)), q12))) (fun (j13 : Int32 → Option (Int32 × QS)) => (if q11.1 ≤ a8.1 then j13 a8.2.1 else j13 (((10 : Int32) * a2.2.2.1) + a8.2.2.1)))))))) FV (a2.1, a2.2.1, v7, a2.2.2.2)))) FV (q1.1, (-9 : Int32), (0 : Int32), q1.2)))
def rm_X5_seats_50 : Room := { frames := 8, cells := 0, slots := 0, locals := 183 }
set_option maxRecDepth 100000 in
set_option maxHeartbeats 4000000 in
theorem kX5_seats_50 (l : Launch) (E : QE) (σ τ : QS)  (q : Int32 × QS) (hf : fX5_seats_50 τ = some q) : KQ l yX5_seats cX5_seats 6 (some .int) rm_X5_seats_50 E [.ref (qAd E 50)] σ τ (PI E q.1 σ q.2) := by
  unfold fX5_seats_50 at hf
  refine y_met rfl (Nat.le_of_ble_eq_true rfl) rfl (fun p e s m below meth c C => ?_)
  refine y_aload_n C dX5_seats_0 rfl 0 rfl ?_
  refine g50_sitters C fl_X5_163 dX5_seats_1 ?_
  refine y_if_ne C 10 dX5_seats_4 (by decide) hf (fun hf => ?_) (fun hf => ?_)
  · refine y_aload_n C dX5_seats_10 rfl 0 rfl ?_
    obtain ⟨q1, h_q1, hf⟩ := bd_e hf
    refine y_cVi C (kX5_mostCarried_50 l E σ τ _ h_q1) vi_X5_mostCarried ml_X5_273 ⟨5, _, o50, rfl, rfl⟩ rfl ⟨rfl, rfl, Nat.le_of_ble_eq_true rfl, Nat.le_of_ble_eq_true rfl⟩ dX5_seats_11 rfl (Nat.le_of_ble_eq_true rfl) ?_
    refine y_istore_n C dX5_seats_14 rfl (Nat.le_of_ble_eq_true rfl) rfl (lv' := [(1, .int q1.1), (0, .ref (qAd E 50))]) rfl ?_
    refine y_bipush C (v := -9) dX5_seats_15 (by decide) ?_
    refine y_istore_n C dX5_seats_17 rfl (Nat.le_of_ble_eq_true rfl) rfl (lv' := [(2, .int (-9 : Int32)), (1, .int q1.1), (0, .ref (qAd E 50))]) rfl ?_
    refine y_iconst C (v := 0) dX5_seats_18 (by decide) ?_
    refine y_istore_n C dX5_seats_19 rfl (Nat.le_of_ble_eq_true rfl) rfl (lv' := [(3, .int (0 : Int32)), (2, .int (-9 : Int32)), (1, .int q1.1), (0, .ref (qAd E 50))]) rfl ?_
    refine y_sub [0, 1, 2, 3] rfl ?_
    refine lp_ind (P := fun a2 : Int32 × Int32 × Int32 × QS => Y E p l e rm_X5_seats_50 s m ([.ref (qAd E 50)] : List Value).toArray below meth c 6 (MQ below (PI E q.1 σ q.2) ([.ref (qAd E 50)] : List Value).toArray s 0 0 (qA E)) σ a2.2.2.2 20 [(3, .int a2.2.2.1), (2, .int a2.2.1), (1, .int a2.1), (0, .ref (qAd E 50))] []) (fun r3 a2 ih_r3 hf => ?_) _ _ hf
    refine y_iload_n C dX5_seats_20 rfl 0 rfl ?_
    refine y_aload_n C dX5_seats_21 rfl 3 rfl ?_
    refine g50_sitters C fl_X5_163 dX5_seats_22 ?_
    refine y_icmp_ge C 105 dX5_seats_25 (by decide) hf (fun hf => ?_) (fun hf => ?_)
    · refine y_aload_n C dX5_seats_105 rfl 3 rfl ?_
      refine y_iload_n C dX5_seats_106 rfl 1 rfl ?_
      refine y_bipush C (v := -9) dX5_seats_107 (by decide) ?_
      obtain ⟨j4, ek_j4, hf⟩ := lt_e hf
      have h_j4 : ∀ (v5 : Int32), j4 v5 = some q → Y E p l e rm_X5_seats_50 s m ([.ref (qAd E 50)] : List Value).toArray below meth c 6 (MQ below (PI E q.1 σ q.2) ([.ref (qAd E 50)] : List Value).toArray s 0 0 (qA E)) σ a2.2.2.2 120 [(2, .int a2.2.1)] [.int v5, .ref (qAd E 50)] := by
        intro v5 hf
        replace hf := (congrFun (ek_j4) v5).symm.trans hf
        obtain ⟨S6, e_S6, hf⟩ := lt_e hf
        refine p50_asked C fl_X5_72 e_S6 dX5_seats_120 ?_
        refine y_iload_n C dX5_seats_123 rfl 0 rfl ?_
        exact y_iret C (rs1 hf) rfl (rs2 hf) dX5_seats_124
      refine y_icmp_ne C 119 dX5_seats_109 (by decide) hf (fun hf => ?_) (fun hf => ?_)
      · refine y_iload_n C dX5_seats_119 rfl 2 rfl ?_
        refine y_sub [1] rfl ?_
        exact h_j4 a2.1 hf
      · refine y_aload_n C dX5_seats_112 rfl 3 rfl ?_
        refine g50_asked C fl_X5_72 dX5_seats_113 ?_
        refine y_goto C 120 dX5_seats_116 (by decide) ?_
        refine y_sub [1] rfl ?_
        exact h_j4 (gI a2.2.2.2 2) hf
    · refine y_iload_n C dX5_seats_28 rfl 0 rfl ?_
      refine y_iconst C (v := 1) dX5_seats_29 (by decide) ?_
      refine y_iadd C dX5_seats_30 ?_
      obtain ⟨v7, e_v7, hf⟩ := lt_e hf
      refine y_istore C dX5_seats_31 (Nat.le_of_ble_eq_true rfl) e_v7 (lv' := [(4, .int v7), (3, .int a2.2.2.1), (2, .int a2.2.1), (1, .int a2.1), (0, .ref (qAd E 50))]) rfl ?_
      refine y_sub [0, 1, 2, 3, 4] rfl ?_
      refine lp_ind (P := fun a8 : Int32 × Int32 × Int32 × QS => Y E p l e rm_X5_seats_50 s m ([.ref (qAd E 50)] : List Value).toArray below meth c 6 (MQ below (PI E q.1 σ q.2) ([.ref (qAd E 50)] : List Value).toArray s 0 0 (qA E)) σ a8.2.2.2 33 [(4, .int a8.2.2.1), (3, .int a2.2.2.1), (2, .int a8.2.1), (1, .int a8.1), (0, .ref (qAd E 50))] []) (fun r9 a8 ih_r9 hf => ?_) _ _ hf
      refine y_iload C dX5_seats_33 0 rfl ?_
      refine y_aload_n C dX5_seats_35 rfl 4 rfl ?_
      refine g50_sitters C fl_X5_163 dX5_seats_36 ?_
      refine y_icmp_ge C 99 dX5_seats_39 (by decide) hf (fun hf => ?_) (fun hf => ?_)
      · refine y_iinc C dX5_seats_99 1 rfl (Nat.le_of_ble_eq_true rfl) (k2 := 1) (by decide) rfl (lv' := [(3, .int (a2.2.2.1 + (1 : Int32))), (4, .int a8.2.2.1), (2, .int a8.2.1), (1, .int a8.1), (0, .ref (qAd E 50))]) rfl ?_
        refine y_goto C 20 dX5_seats_102 (by decide) ?_
        refine y_sub [0, 2, 3, 4] rfl ?_
        exact ih_r3 (a8.1, a8.2.1, (a2.2.2.1 + (1 : Int32)), a8.2.2.2) hf
      · refine y_aload_n C dX5_seats_42 rfl 4 rfl ?_
        refine y_iload_n C dX5_seats_43 rfl 1 rfl ?_
        refine y_iload C dX5_seats_44 0 rfl ?_
        obtain ⟨q10, h_q10, hf⟩ := bd_e hf
        refine y_cVv C (kX5_swapSeats_50 l E σ a8.2.2.2 a2.2.2.1 a8.2.2.1 _ h_q10) vi_X5_swapSeats ml_X5_231 ⟨5, _, o50, rfl, rfl⟩ rfl ⟨rfl, rfl, Nat.le_of_ble_eq_true rfl, Nat.le_of_ble_eq_true rfl⟩ dX5_seats_46 rfl (Nat.le_of_ble_eq_true rfl) ?_
        refine y_aload_n C dX5_seats_49 rfl 4 rfl ?_
        obtain ⟨q11, h_q11, hf⟩ := bd_e hf
        refine y_cVi C (kX5_mostCarried_50 l E σ q10 _ h_q11) vi_X5_mostCarried ml_X5_273 ⟨5, _, o50, rfl, rfl⟩ rfl ⟨rfl, rfl, Nat.le_of_ble_eq_true rfl, Nat.le_of_ble_eq_true rfl⟩ dX5_seats_50 rfl (Nat.le_of_ble_eq_true rfl) ?_
        refine y_istore C dX5_seats_53 (Nat.le_of_ble_eq_true rfl) rfl (lv' := [(5, .int q11.1), (4, .int a8.2.2.1), (3, .int a2.2.2.1), (2, .int a8.2.1), (1, .int a8.1), (0, .ref (qAd E 50))]) rfl ?_
        refine y_aload_n C dX5_seats_55 rfl 5 rfl ?_
        refine y_iload_n C dX5_seats_56 rfl 2 rfl ?_
        refine y_iload C dX5_seats_57 1 rfl ?_
        obtain ⟨q12, h_q12, hf⟩ := bd_e hf
        refine y_cVv C (kX5_swapSeats_50 l E σ q11.2 a2.2.2.1 a8.2.2.1 _ h_q12) vi_X5_swapSeats ml_X5_231 ⟨5, _, o50, rfl, rfl⟩ rfl ⟨rfl, rfl, Nat.le_of_ble_eq_true rfl, Nat.le_of_ble_eq_true rfl⟩ dX5_seats_59 rfl (Nat.le_of_ble_eq_true rfl) ?_
        refine y_iload C dX5_seats_62 0 rfl ?_
        refine y_iload_n C dX5_seats_64 rfl 4 rfl ?_
        obtain ⟨j13, ek_j13, hf⟩ := lt_e hf
        have h_j13 : ∀ (v14 : Int32), j13 v14 = some q → Y E p l e rm_X5_seats_50 s m ([.ref (qAd E 50)] : List Value).toArray below meth c 6 (MQ below (PI E q.1 σ q.2) ([.ref (qAd E 50)] : List Value).toArray s 0 0 (qA E)) σ q12 79 [(0, .ref (qAd E 50)), (1, .int a8.1), (3, .int a2.2.2.1), (4, .int a8.2.2.1), (5, .int q11.1)] [.int v14] := by
          intro v14 hf
          replace hf := (congrFun (ek_j13) v14).symm.trans hf
          refine y_istore_n C dX5_seats_79 rfl (Nat.le_of_ble_eq_true rfl) rfl (lv' := [(2, .int v14), (0, .ref (qAd E 50)), (1, .int a8.1), (3, .int a2.2.2.1), (4, .int a8.2.2.1), (5, .int q11.1)]) rfl ?_
          refine y_iload C dX5_seats_80 5 rfl ?_
          refine y_iload_n C dX5_seats_82 rfl 2 rfl ?_
          refine y_icmp_le C 91 dX5_seats_83 (by decide) hf (fun hf => ?_) (fun hf => ?_)
          · refine y_iload_n C dX5_seats_91 rfl 2 rfl ?_
            refine y_istore_n C dX5_seats_92 rfl (Nat.le_of_ble_eq_true rfl) rfl (lv' := [(1, .int a8.1), (2, .int v14), (0, .ref (qAd E 50)), (3, .int a2.2.2.1), (4, .int a8.2.2.1), (5, .int q11.1)]) rfl ?_
            refine y_iinc C dX5_seats_93 4 rfl (Nat.le_of_ble_eq_true rfl) (k2 := 1) (by decide) rfl (lv' := [(4, .int (a8.2.2.1 + (1 : Int32))), (1, .int a8.1), (2, .int v14), (0, .ref (qAd E 50)), (3, .int a2.2.2.1), (5, .int q11.1)]) rfl ?_
            refine y_goto C 33 dX5_seats_96 (by decide) ?_
            refine y_sub [0, 4, 2, 1, 3] rfl ?_
            exact ih_r9 (a8.1, v14, (a8.2.2.1 + (1 : Int32)), q12) hf
          · refine y_iload C dX5_seats_86 5 rfl ?_
            refine y_goto C 92 dX5_seats_88 (by decide) ?_
            refine y_istore_n C dX5_seats_92 rfl (Nat.le_of_ble_eq_true rfl) rfl (lv' := [(1, .int q11.1), (2, .int v14), (0, .ref (qAd E 50)), (3, .int a2.2.2.1), (4, .int a8.2.2.1), (5, .int q11.1)]) rfl ?_
            refine y_iinc C dX5_seats_93 4 rfl (Nat.le_of_ble_eq_true rfl) (k2 := 1) (by decide) rfl (lv' := [(4, .int (a8.2.2.1 + (1 : Int32))), (1, .int q11.1), (2, .int v14), (0, .ref (qAd E 50)), (3, .int a2.2.2.1), (5, .int q11.1)]) rfl ?_
            refine y_goto C 33 dX5_seats_96 (by decide) ?_
            refine y_sub [0, 4, 2, 1, 3] rfl ?_
            exact ih_r9 (q11.1, v14, (a8.2.2.1 + (1 : Int32)), q12) hf
        refine y_icmp_le C 78 dX5_seats_65 (by decide) hf (fun hf => ?_) (fun hf => ?_)
        · refine y_iload_n C dX5_seats_78 rfl 3 rfl ?_
          refine y_sub [5, 4, 2, 1, 0] rfl ?_
          exact h_j13 a8.2.1 hf
        · refine y_bipush C (v := 10) dX5_seats_68 (by decide) ?_
          refine y_iload_n C dX5_seats_70 rfl 2 rfl ?_
          refine y_imul C dX5_seats_71 ?_
          refine y_iload C dX5_seats_72 1 rfl ?_
          refine y_iadd C dX5_seats_74 ?_
          refine y_goto C 79 dX5_seats_75 (by decide) ?_
          refine y_sub [5, 4, 2, 1, 0] rfl ?_
          exact h_j13 (((10 : Int32) * a2.2.2.1) + a8.2.2.1) hf
  · refine y_bipush C (v := -4) dX5_seats_7 (by decide) ?_
    exact y_iret C (rs1 hf) rfl (rs2 hf) dX5_seats_9
noncomputable def fX0_takenSeatsWithout_6 (x1 : Int32) (σ : QS) : Option (Int32) :=
    lp_ (fun (r2 : Int32 × Int32 → Option (Int32)) (a1 : Int32 × Int32) => (if (gI σ 9) ≤ a1.2 then some a1.1 else (if (fX4_isIn x1 a1.2) = 0 then ck_ (inb a1.2 6) (lt_ (a1.1 ||| ((1 : Int32) <<< ((gM σ 25 a1.2.toNatClampNeg) &&& 31))) (fun (v4 : Int32) => r2 (v4, (a1.2 + (1 : Int32))))) else lt_ (a1.1 ||| (0 : Int32)) (fun (v5 : Int32) => r2 (v5, (a1.2 + (1 : Int32))))))) FV ((0 : Int32), (0 : Int32))
def rm_X0_takenSeatsWithout_6 : Room := { frames := 1, cells := 0, slots := 0, locals := 21 }
set_option maxRecDepth 100000 in
set_option maxHeartbeats 4000000 in
theorem kX0_takenSeatsWithout_6 (l : Launch) (E : QE) (σ τ : QS) (x1 : Int32) (q : Int32) (hf : fX0_takenSeatsWithout_6 x1 σ = some q) : KQ l yX0_takenSeatsWithout cX0_takenSeatsWithout 4 (some .int) rm_X0_takenSeatsWithout_6 E [.ref (qAd E 6), .int x1] σ τ (PI E q σ τ) := by
  unfold fX0_takenSeatsWithout_6 at hf
  refine y_met rfl (Nat.le_of_ble_eq_true rfl) rfl (fun p e s m below meth c C => ?_)
  refine y_iconst C (v := 0) dX0_takenSeatsWithout_0 (by decide) ?_
  refine y_istore_n C dX0_takenSeatsWithout_1 rfl (Nat.le_of_ble_eq_true rfl) rfl (lv' := [(2, .int (0 : Int32)), (0, .ref (qAd E 6)), (1, .int x1)]) rfl ?_
  refine y_iconst C (v := 0) dX0_takenSeatsWithout_2 (by decide) ?_
  refine y_istore_n C dX0_takenSeatsWithout_3 rfl (Nat.le_of_ble_eq_true rfl) rfl (lv' := [(3, .int (0 : Int32)), (2, .int (0 : Int32)), (0, .ref (qAd E 6)), (1, .int x1)]) rfl ?_
  refine y_sub [0, 1, 2, 3] rfl ?_
  refine lp_ind (P := fun a1 : Int32 × Int32 => Y E p l e rm_X0_takenSeatsWithout_6 s m ([.ref (qAd E 6), .int x1] : List Value).toArray below meth c 4 (MQ below (PI E q σ τ) ([.ref (qAd E 6), .int x1] : List Value).toArray s 0 0 (qA E)) σ τ 4 [(3, .int a1.2), (2, .int a1.1), (0, .ref (qAd E 6)), (1, .int x1)] []) (fun r2 a1 ih_r2 hf => ?_) _ _ hf
  refine y_iload_n C dX0_takenSeatsWithout_4 rfl 0 rfl ?_
  refine y_aload_n C dX0_takenSeatsWithout_5 rfl 2 rfl ?_
  refine g6_script C fl_X0_18 dX0_takenSeatsWithout_6 ?_
  refine gN5_sitterCount C fn_X0_75 dX0_takenSeatsWithout_9 ?_
  refine y_icmp_ge C 44 dX0_takenSeatsWithout_12 (by decide) hf (fun hf => ?_) (fun hf => ?_)
  · refine y_iload_n C dX0_takenSeatsWithout_44 rfl 1 rfl ?_
    exact y_iret C (Option.some.inj hf) rfl rfl dX0_takenSeatsWithout_45
  · refine y_iload_n C dX0_takenSeatsWithout_15 rfl 1 rfl ?_
    refine y_iload_n C dX0_takenSeatsWithout_16 rfl 3 rfl ?_
    refine y_iload_n C dX0_takenSeatsWithout_17 rfl 0 rfl ?_
    refine y_cNi C (kX4_isIn l E σ τ x1 a1.2 _ rfl) si_X4_isIn mn_X0_93 rfl ⟨rfl, rfl, Nat.le_of_ble_eq_true rfl, Nat.le_of_ble_eq_true rfl⟩ dX0_takenSeatsWithout_18 rfl (Nat.le_of_ble_eq_true rfl) ?_
    refine y_if_eq C 28 dX0_takenSeatsWithout_21 (by decide) hf (fun hf => ?_) (fun hf => ?_)
    · refine y_iconst C (v := 1) dX0_takenSeatsWithout_28 (by decide) ?_
      refine y_aload_n C dX0_takenSeatsWithout_29 rfl 2 rfl ?_
      refine g6_seat C fl_X0_9 dX0_takenSeatsWithout_30 ?_
      refine y_iload_n C dX0_takenSeatsWithout_33 rfl 0 rfl ?_
      obtain ⟨hi3, hf⟩ := ck_e hf
      refine y_ialdC C a25 (j := a1.2.toNatClampNeg) rfl hi3 dX0_takenSeatsWithout_34 ?_
      refine y_ishl C dX0_takenSeatsWithout_35 ?_
      refine y_ior C dX0_takenSeatsWithout_36 ?_
      obtain ⟨v4, e_v4, hf⟩ := lt_e hf
      refine y_istore_n C dX0_takenSeatsWithout_37 rfl (Nat.le_of_ble_eq_true rfl) e_v4 (lv' := [(2, .int v4), (3, .int a1.2), (0, .ref (qAd E 6)), (1, .int x1)]) rfl ?_
      refine y_iinc C dX0_takenSeatsWithout_38 1 rfl (Nat.le_of_ble_eq_true rfl) (k2 := 1) (by decide) rfl (lv' := [(3, .int (a1.2 + (1 : Int32))), (2, .int v4), (0, .ref (qAd E 6)), (1, .int x1)]) rfl ?_
      refine y_goto C 4 dX0_takenSeatsWithout_41 (by decide) ?_
      refine y_sub [0, 1, 2, 3] rfl ?_
      exact ih_r2 (v4, (a1.2 + (1 : Int32))) hf
    · refine y_iconst C (v := 0) dX0_takenSeatsWithout_24 (by decide) ?_
      refine y_goto C 36 dX0_takenSeatsWithout_25 (by decide) ?_
      refine y_ior C dX0_takenSeatsWithout_36 ?_
      obtain ⟨v5, e_v5, hf⟩ := lt_e hf
      refine y_istore_n C dX0_takenSeatsWithout_37 rfl (Nat.le_of_ble_eq_true rfl) e_v5 (lv' := [(2, .int v5), (3, .int a1.2), (0, .ref (qAd E 6)), (1, .int x1)]) rfl ?_
      refine y_iinc C dX0_takenSeatsWithout_38 1 rfl (Nat.le_of_ble_eq_true rfl) (k2 := 1) (by decide) rfl (lv' := [(3, .int (a1.2 + (1 : Int32))), (2, .int v5), (0, .ref (qAd E 6)), (1, .int x1)]) rfl ?_
      refine y_goto C 4 dX0_takenSeatsWithout_41 (by decide) ?_
      refine y_sub [0, 1, 2, 3] rfl ?_
      exact ih_r2 (v5, (a1.2 + (1 : Int32))) hf
noncomputable def fX0_takenSeats_6  (σ : QS) : Option (Int32) :=
    Option.bind (fX0_takenSeatsWithout_6 (0 : Int32) σ) (fun (q1 : Int32) => some q1)
def rm_X0_takenSeats_6 : Room := { frames := 2, cells := 0, slots := 0, locals := 44 }
set_option maxRecDepth 100000 in
set_option maxHeartbeats 4000000 in
theorem kX0_takenSeats_6 (l : Launch) (E : QE) (σ τ : QS)  (q : Int32) (hf : fX0_takenSeats_6 σ = some q) : KQ l yX0_takenSeats cX0_takenSeats 1 (some .int) rm_X0_takenSeats_6 E [.ref (qAd E 6)] σ τ (PI E q σ τ) := by
  unfold fX0_takenSeats_6 at hf
  refine y_met rfl (Nat.le_of_ble_eq_true rfl) rfl (fun p e s m below meth c C => ?_)
  refine y_aload_n C dX0_takenSeats_0 rfl 0 rfl ?_
  refine y_iconst C (v := 0) dX0_takenSeats_1 (by decide) ?_
  obtain ⟨q1, h_q1, hf⟩ := bd_e hf
  refine y_cVi C (kX0_takenSeatsWithout_6 l E σ τ (0 : Int32) _ h_q1) vi_X0_takenSeatsWithout ml_X0_89 ⟨0, _, o6, rfl, rfl⟩ rfl ⟨rfl, rfl, Nat.le_of_ble_eq_true rfl, Nat.le_of_ble_eq_true rfl⟩ dX0_takenSeats_2 rfl (Nat.le_of_ble_eq_true rfl) ?_
  exact y_iret C (Option.some.inj hf) rfl rfl dX0_takenSeats_5
noncomputable def fX4_beside_0  (σ : QS) : Option (Int32 × QS) :=
    (if (gI σ 9) = 0 then some ((-4 : Int32), σ) else Option.bind (fX0_takenSeats_6 σ) (fun (q1 : Int32) => lp_ (fun (r3 : Int32 × Int32 × Int32 → Option (Int32 × QS)) (a2 : Int32 × Int32 × Int32) => (if (9 : Int32) < a2.2.2 then lt_ (fX4_tell_0 a2.1 σ) (fun (q4 : Int32 × QS) => some ((fJ6_bitCount_0f7a4 (q1 &&& (q1 <<< ((1 : Int32) &&& 31)))), q4.2)) else lt_ (fun (v6 : Int32) => lt_ (fJ9_max_7cf53 a2.1 v6) (fun (v7 : Int32) => r3 (v7, v6, (a2.2.2 + (1 : Int32))))) (fun (j5 : Int32 → Option (Int32 × QS)) => (if (fX4_isIn q1 a2.2.2) = 0 then j5 (0 : Int32) else j5 (a2.2.1 + (1 : Int32)))))) FV ((0 : Int32), (0 : Int32), (0 : Int32))))
def rm_X4_beside_0 : Room := { frames := 3, cells := 0, slots := 0, locals := 64 }
set_option maxRecDepth 100000 in
set_option maxHeartbeats 4000000 in
theorem kX4_beside_0 (l : Launch) (E : QE) (σ τ : QS)  (q : Int32 × QS) (hf : fX4_beside_0 σ = some q) : KQ l yX4_beside cX4_beside 5 (some .int) rm_X4_beside_0 E [.ref (qAd E 0)] σ τ (PI E q.1 q.2 τ) := by
  unfold fX4_beside_0 at hf
  refine y_met rfl (Nat.le_of_ble_eq_true rfl) rfl (fun p e s m below meth c C => ?_)
  refine y_aload_n C dX4_beside_0 rfl 0 rfl ?_
  refine g0_script C fl_X4_31 dX4_beside_1 ?_
  refine gN5_sitterCount C fn_X4_114 dX4_beside_4 ?_
  refine y_if_ne C 13 dX4_beside_7 (by decide) hf (fun hf => ?_) (fun hf => ?_)
  · refine y_aload_n C dX4_beside_13 rfl 0 rfl ?_
    refine g0_night C fl_X4_39 dX4_beside_14 ?_
    obtain ⟨q1, h_q1, hf⟩ := bd_e hf
    refine y_cVi C (kX0_takenSeats_6 l E σ τ _ h_q1) vi_X0_takenSeats ml_X4_222 ⟨0, _, o6, rfl, rfl⟩ rfl ⟨rfl, rfl, Nat.le_of_ble_eq_true rfl, Nat.le_of_ble_eq_true rfl⟩ dX4_beside_17 rfl (Nat.le_of_ble_eq_true rfl) ?_
    refine y_istore_n C dX4_beside_20 rfl (Nat.le_of_ble_eq_true rfl) rfl (lv' := [(1, .int q1), (0, .ref (qAd E 0))]) rfl ?_
    refine y_iconst C (v := 0) dX4_beside_21 (by decide) ?_
    refine y_istore_n C dX4_beside_22 rfl (Nat.le_of_ble_eq_true rfl) rfl (lv' := [(2, .int (0 : Int32)), (1, .int q1), (0, .ref (qAd E 0))]) rfl ?_
    refine y_iconst C (v := 0) dX4_beside_23 (by decide) ?_
    refine y_istore_n C dX4_beside_24 rfl (Nat.le_of_ble_eq_true rfl) rfl (lv' := [(3, .int (0 : Int32)), (2, .int (0 : Int32)), (1, .int q1), (0, .ref (qAd E 0))]) rfl ?_
    refine y_iconst C (v := 0) dX4_beside_25 (by decide) ?_
    refine y_istore C dX4_beside_26 (Nat.le_of_ble_eq_true rfl) rfl (lv' := [(4, .int (0 : Int32)), (3, .int (0 : Int32)), (2, .int (0 : Int32)), (1, .int q1), (0, .ref (qAd E 0))]) rfl ?_
    refine y_sub [0, 1, 2, 3, 4] rfl ?_
    refine lp_ind (P := fun a2 : Int32 × Int32 × Int32 => Y E p l e rm_X4_beside_0 s m ([.ref (qAd E 0)] : List Value).toArray below meth c 5 (MQ below (PI E q.1 q.2 τ) ([.ref (qAd E 0)] : List Value).toArray s 0 0 (qA E)) σ τ 28 [(4, .int a2.2.2), (3, .int a2.2.1), (2, .int a2.1), (1, .int q1), (0, .ref (qAd E 0))] []) (fun r3 a2 ih_r3 hf => ?_) _ _ hf
    refine y_iload C dX4_beside_28 0 rfl ?_
    refine y_bipush C (v := 9) dX4_beside_30 (by decide) ?_
    refine y_icmp_gt C 64 dX4_beside_32 (by decide) hf (fun hf => ?_) (fun hf => ?_)
    · refine y_aload_n C dX4_beside_64 rfl 4 rfl ?_
      refine y_iload_n C dX4_beside_65 rfl 2 rfl ?_
      obtain ⟨q4, e_q4, hf⟩ := lt_e hf
      refine y_cVi C (kX4_tell_0 l E σ τ a2.1 _ e_q4.symm) vi_X4_tell ml_X4_83 ⟨4, _, o0, rfl, rfl⟩ rfl ⟨rfl, rfl, Nat.le_of_ble_eq_true rfl, Nat.le_of_ble_eq_true rfl⟩ dX4_beside_66 rfl (Nat.le_of_ble_eq_true rfl) ?_
      refine y_pop C dX4_beside_69 rfl ?_
      refine y_iload_n C dX4_beside_70 rfl 3 rfl ?_
      refine y_iload_n C dX4_beside_71 rfl 3 rfl ?_
      refine y_iconst C (v := 1) dX4_beside_72 (by decide) ?_
      refine y_ishl C dX4_beside_73 ?_
      refine y_iand C dX4_beside_74 ?_
      refine y_cSi C (kJ6_bitCount_0f7a4 l E q4.2 τ (q1 &&& (q1 <<< ((1 : Int32) &&& 31))) _ rfl) si_J6_bitCount_0f7a4 ml_X4_168 rfl ⟨rfl, rfl, Nat.le_of_ble_eq_true rfl, Nat.le_of_ble_eq_true rfl⟩ dX4_beside_75 rfl (Nat.le_of_ble_eq_true rfl) ?_
      exact y_iret C (rs1 hf) (rs2 hf) rfl dX4_beside_78
    · refine y_iload_n C dX4_beside_35 rfl 3 rfl ?_
      refine y_iload C dX4_beside_36 0 rfl ?_
      refine y_cSi C (kX4_isIn l E σ τ q1 a2.2.2 _ rfl) si_X4_isIn ml_X4_147 rfl ⟨rfl, rfl, Nat.le_of_ble_eq_true rfl, Nat.le_of_ble_eq_true rfl⟩ dX4_beside_38 rfl (Nat.le_of_ble_eq_true rfl) ?_
      obtain ⟨j5, ek_j5, hf⟩ := lt_e hf
      have h_j5 : ∀ (v6 : Int32), j5 v6 = some q → Y E p l e rm_X4_beside_0 s m ([.ref (qAd E 0)] : List Value).toArray below meth c 5 (MQ below (PI E q.1 q.2 τ) ([.ref (qAd E 0)] : List Value).toArray s 0 0 (qA E)) σ τ 51 [(0, .ref (qAd E 0)), (1, .int q1), (2, .int a2.1), (4, .int a2.2.2)] [.int v6] := by
        intro v6 hf
        replace hf := (congrFun (ek_j5) v6).symm.trans hf
        refine y_istore_n C dX4_beside_51 rfl (Nat.le_of_ble_eq_true rfl) rfl (lv' := [(3, .int v6), (0, .ref (qAd E 0)), (1, .int q1), (2, .int a2.1), (4, .int a2.2.2)]) rfl ?_
        refine y_iload_n C dX4_beside_52 rfl 3 rfl ?_
        refine y_iload_n C dX4_beside_53 rfl 0 rfl ?_
        refine y_cSi C (kJ9_max_7cf53 l E σ τ a2.1 v6 _ rfl) si_J9_max_7cf53 ml_X4_225 rfl ⟨rfl, rfl, Nat.le_of_ble_eq_true rfl, Nat.le_of_ble_eq_true rfl⟩ dX4_beside_54 rfl (Nat.le_of_ble_eq_true rfl) ?_
        obtain ⟨v7, e_v7, hf⟩ := lt_e hf
        refine y_istore_n C dX4_beside_57 rfl (Nat.le_of_ble_eq_true rfl) e_v7 (lv' := [(2, .int v7), (3, .int v6), (0, .ref (qAd E 0)), (1, .int q1), (4, .int a2.2.2)]) rfl ?_
        refine y_iinc C dX4_beside_58 4 rfl (Nat.le_of_ble_eq_true rfl) (k2 := 1) (by decide) rfl (lv' := [(4, .int (a2.2.2 + (1 : Int32))), (2, .int v7), (3, .int v6), (0, .ref (qAd E 0)), (1, .int q1)]) rfl ?_
        refine y_goto C 28 dX4_beside_61 (by decide) ?_
        refine y_sub [0, 2, 1, 4, 3] rfl ?_
        exact ih_r3 (v7, v6, (a2.2.2 + (1 : Int32))) hf
      refine y_if_eq C 50 dX4_beside_41 (by decide) hf (fun hf => ?_) (fun hf => ?_)
      · refine y_iconst C (v := 0) dX4_beside_50 (by decide) ?_
        refine y_sub [4, 3, 2, 0] rfl ?_
        exact h_j5 (0 : Int32) hf
      · refine y_iload_n C dX4_beside_44 rfl 1 rfl ?_
        refine y_iconst C (v := 1) dX4_beside_45 (by decide) ?_
        refine y_iadd C dX4_beside_46 ?_
        refine y_goto C 51 dX4_beside_47 (by decide) ?_
        refine y_sub [4, 3, 2, 0] rfl ?_
        exact h_j5 (a2.2.1 + (1 : Int32)) hf
  · refine y_bipush C (v := -4) dX4_beside_10 (by decide) ?_
    exact y_iret C (rs1 hf) (rs2 hf) rfl dX4_beside_12
noncomputable def fX5_seatsOf_50 (x1 : Int32) (τ : QS) : Option (Int32) :=
    lp_ (fun (r2 : Int32 × Int32 → Option (Int32)) (a1 : Int32 × Int32) => (if (gI τ 1) ≤ a1.2 then some a1.1 else (if (fX5_has x1 a1.2) = 0 then lt_ (a1.1 ||| (0 : Int32)) (fun (v3 : Int32) => r2 (v3, (a1.2 + (1 : Int32)))) else ck_ (inb ((7 : Int32) + a1.2) 1972) (lt_ (a1.1 ||| ((1 : Int32) <<< ((gM τ 51 (((7 : Int32) + a1.2).toNatClampNeg)) &&& 31))) (fun (v5 : Int32) => r2 (v5, (a1.2 + (1 : Int32)))))))) FV ((0 : Int32), (0 : Int32))
def rm_X5_seatsOf_50 : Room := { frames := 1, cells := 0, slots := 0, locals := 21 }
set_option maxRecDepth 100000 in
set_option maxHeartbeats 4000000 in
theorem kX5_seatsOf_50 (l : Launch) (E : QE) (σ τ : QS) (x1 : Int32) (q : Int32) (hf : fX5_seatsOf_50 x1 τ = some q) : KQ l yX5_seatsOf cX5_seatsOf 4 (some .int) rm_X5_seatsOf_50 E [.ref (qAd E 50), .int x1] σ τ (PI E q σ τ) := by
  unfold fX5_seatsOf_50 at hf
  refine y_met rfl (Nat.le_of_ble_eq_true rfl) rfl (fun p e s m below meth c C => ?_)
  refine y_iconst C (v := 0) dX5_seatsOf_0 (by decide) ?_
  refine y_istore_n C dX5_seatsOf_1 rfl (Nat.le_of_ble_eq_true rfl) rfl (lv' := [(2, .int (0 : Int32)), (0, .ref (qAd E 50)), (1, .int x1)]) rfl ?_
  refine y_iconst C (v := 0) dX5_seatsOf_2 (by decide) ?_
  refine y_istore_n C dX5_seatsOf_3 rfl (Nat.le_of_ble_eq_true rfl) rfl (lv' := [(3, .int (0 : Int32)), (2, .int (0 : Int32)), (0, .ref (qAd E 50)), (1, .int x1)]) rfl ?_
  refine y_sub [0, 1, 2, 3] rfl ?_
  refine lp_ind (P := fun a1 : Int32 × Int32 => Y E p l e rm_X5_seatsOf_50 s m ([.ref (qAd E 50), .int x1] : List Value).toArray below meth c 4 (MQ below (PI E q σ τ) ([.ref (qAd E 50), .int x1] : List Value).toArray s 0 0 (qA E)) σ τ 4 [(3, .int a1.2), (2, .int a1.1), (0, .ref (qAd E 50)), (1, .int x1)] []) (fun r2 a1 ih_r2 hf => ?_) _ _ hf
  refine y_iload_n C dX5_seatsOf_4 rfl 0 rfl ?_
  refine y_aload_n C dX5_seatsOf_5 rfl 2 rfl ?_
  refine g50_sitters C fl_X5_163 dX5_seatsOf_6 ?_
  refine y_icmp_ge C 44 dX5_seatsOf_9 (by decide) hf (fun hf => ?_) (fun hf => ?_)
  · refine y_iload_n C dX5_seatsOf_44 rfl 1 rfl ?_
    exact y_iret C (Option.some.inj hf) rfl rfl dX5_seatsOf_45
  · refine y_iload_n C dX5_seatsOf_12 rfl 1 rfl ?_
    refine y_iload_n C dX5_seatsOf_13 rfl 3 rfl ?_
    refine y_iload_n C dX5_seatsOf_14 rfl 0 rfl ?_
    refine y_cSi C (kX5_has l E σ τ x1 a1.2 _ rfl) si_X5_has ml_X5_147 rfl ⟨rfl, rfl, Nat.le_of_ble_eq_true rfl, Nat.le_of_ble_eq_true rfl⟩ dX5_seatsOf_15 rfl (Nat.le_of_ble_eq_true rfl) ?_
    refine y_if_eq C 35 dX5_seatsOf_18 (by decide) hf (fun hf => ?_) (fun hf => ?_)
    · refine y_iconst C (v := 0) dX5_seatsOf_35 (by decide) ?_
      refine y_ior C dX5_seatsOf_36 ?_
      obtain ⟨v3, e_v3, hf⟩ := lt_e hf
      refine y_istore_n C dX5_seatsOf_37 rfl (Nat.le_of_ble_eq_true rfl) e_v3 (lv' := [(2, .int v3), (3, .int a1.2), (0, .ref (qAd E 50)), (1, .int x1)]) rfl ?_
      refine y_iinc C dX5_seatsOf_38 1 rfl (Nat.le_of_ble_eq_true rfl) (k2 := 1) (by decide) rfl (lv' := [(3, .int (a1.2 + (1 : Int32))), (2, .int v3), (0, .ref (qAd E 50)), (1, .int x1)]) rfl ?_
      refine y_goto C 4 dX5_seatsOf_41 (by decide) ?_
      refine y_sub [0, 1, 2, 3] rfl ?_
      exact ih_r2 (v3, (a1.2 + (1 : Int32))) hf
    · refine y_iconst C (v := 1) dX5_seatsOf_21 (by decide) ?_
      refine y_aload_n C dX5_seatsOf_22 rfl 2 rfl ?_
      refine g50_row C fl_X5_7 dX5_seatsOf_23 ?_
      refine y_bipush C (v := 7) dX5_seatsOf_26 (by decide) ?_
      refine y_iload_n C dX5_seatsOf_28 rfl 0 rfl ?_
      refine y_iadd C dX5_seatsOf_29 ?_
      obtain ⟨hi4, hf⟩ := ck_e hf
      refine y_ialdR C a51 (j := ((7 : Int32) + a1.2).toNatClampNeg) rfl hi4 dX5_seatsOf_30 ?_
      refine y_ishl C dX5_seatsOf_31 ?_
      refine y_goto C 36 dX5_seatsOf_32 (by decide) ?_
      refine y_ior C dX5_seatsOf_36 ?_
      obtain ⟨v5, e_v5, hf⟩ := lt_e hf
      refine y_istore_n C dX5_seatsOf_37 rfl (Nat.le_of_ble_eq_true rfl) e_v5 (lv' := [(2, .int v5), (3, .int a1.2), (0, .ref (qAd E 50)), (1, .int x1)]) rfl ?_
      refine y_iinc C dX5_seatsOf_38 1 rfl (Nat.le_of_ble_eq_true rfl) (k2 := 1) (by decide) rfl (lv' := [(3, .int (a1.2 + (1 : Int32))), (2, .int v5), (0, .ref (qAd E 50)), (1, .int x1)]) rfl ?_
      refine y_goto C 4 dX5_seatsOf_41 (by decide) ?_
      refine y_sub [0, 1, 2, 3] rfl ?_
      exact ih_r2 (v5, (a1.2 + (1 : Int32))) hf
noncomputable def fX5_beside_50  (τ : QS) : Option (Int32 × QS) :=
    (if (gI τ 1) = 0 then some ((-4 : Int32), τ) else Option.bind (fX5_seatsOf_50 (63 : Int32) τ) (fun (q1 : Int32) => lp_ (fun (r3 : Int32 × Int32 × Int32 → Option (Int32 × QS)) (a2 : Int32 × Int32 × Int32) => (if (10 : Int32) ≤ a2.2.2 then lt_ (pI τ 2 a2.1) (fun (S4 : QS) => Option.bind (fX5_bits (q1 &&& (q1 >>> ((1 : Int32) &&& 31)))) (fun (q5 : Int32) => some (q5, S4))) else lt_ (fun (v7 : Int32) => (if v7 ≤ a2.1 then r3 (a2.1, v7, (a2.2.2 + (1 : Int32))) else r3 (v7, v7, (a2.2.2 + (1 : Int32))))) (fun (j6 : Int32 → Option (Int32 × QS)) => (if (fX5_has q1 a2.2.2) = 0 then j6 (0 : Int32) else j6 (a2.2.1 + (1 : Int32)))))) FV ((0 : Int32), (0 : Int32), (0 : Int32))))
def rm_X5_beside_50 : Room := { frames := 2, cells := 0, slots := 0, locals := 44 }
set_option maxRecDepth 100000 in
set_option maxHeartbeats 4000000 in
theorem kX5_beside_50 (l : Launch) (E : QE) (σ τ : QS)  (q : Int32 × QS) (hf : fX5_beside_50 τ = some q) : KQ l yX5_beside cX5_beside 5 (some .int) rm_X5_beside_50 E [.ref (qAd E 50)] σ τ (PI E q.1 σ q.2) := by
  unfold fX5_beside_50 at hf
  refine y_met rfl (Nat.le_of_ble_eq_true rfl) rfl (fun p e s m below meth c C => ?_)
  refine y_aload_n C dX5_beside_0 rfl 0 rfl ?_
  refine g50_sitters C fl_X5_163 dX5_beside_1 ?_
  refine y_if_ne C 10 dX5_beside_4 (by decide) hf (fun hf => ?_) (fun hf => ?_)
  · refine y_aload_n C dX5_beside_10 rfl 0 rfl ?_
    refine y_bipush C (v := 63) dX5_beside_11 (by decide) ?_
    obtain ⟨q1, h_q1, hf⟩ := bd_e hf
    refine y_cVi C (kX5_seatsOf_50 l E σ τ (63 : Int32) _ h_q1) vi_X5_seatsOf ml_X5_276 ⟨5, _, o50, rfl, rfl⟩ rfl ⟨rfl, rfl, Nat.le_of_ble_eq_true rfl, Nat.le_of_ble_eq_true rfl⟩ dX5_beside_13 rfl (Nat.le_of_ble_eq_true rfl) ?_
    refine y_istore_n C dX5_beside_16 rfl (Nat.le_of_ble_eq_true rfl) rfl (lv' := [(1, .int q1), (0, .ref (qAd E 50))]) rfl ?_
    refine y_iconst C (v := 0) dX5_beside_17 (by decide) ?_
    refine y_istore_n C dX5_beside_18 rfl (Nat.le_of_ble_eq_true rfl) rfl (lv' := [(2, .int (0 : Int32)), (1, .int q1), (0, .ref (qAd E 50))]) rfl ?_
    refine y_iconst C (v := 0) dX5_beside_19 (by decide) ?_
    refine y_istore_n C dX5_beside_20 rfl (Nat.le_of_ble_eq_true rfl) rfl (lv' := [(3, .int (0 : Int32)), (2, .int (0 : Int32)), (1, .int q1), (0, .ref (qAd E 50))]) rfl ?_
    refine y_iconst C (v := 0) dX5_beside_21 (by decide) ?_
    refine y_istore C dX5_beside_22 (Nat.le_of_ble_eq_true rfl) rfl (lv' := [(4, .int (0 : Int32)), (3, .int (0 : Int32)), (2, .int (0 : Int32)), (1, .int q1), (0, .ref (qAd E 50))]) rfl ?_
    refine y_sub [0, 1, 2, 3, 4] rfl ?_
    refine lp_ind (P := fun a2 : Int32 × Int32 × Int32 => Y E p l e rm_X5_beside_50 s m ([.ref (qAd E 50)] : List Value).toArray below meth c 5 (MQ below (PI E q.1 σ q.2) ([.ref (qAd E 50)] : List Value).toArray s 0 0 (qA E)) σ τ 24 [(4, .int a2.2.2), (3, .int a2.2.1), (2, .int a2.1), (1, .int q1), (0, .ref (qAd E 50))] []) (fun r3 a2 ih_r3 hf => ?_) _ _ hf
    refine y_iload C dX5_beside_24 0 rfl ?_
    refine y_bipush C (v := 10) dX5_beside_26 (by decide) ?_
    refine y_icmp_ge C 65 dX5_beside_28 (by decide) hf (fun hf => ?_) (fun hf => ?_)
    · refine y_aload_n C dX5_beside_65 rfl 4 rfl ?_
      refine y_iload_n C dX5_beside_66 rfl 2 rfl ?_
      obtain ⟨S4, e_S4, hf⟩ := lt_e hf
      refine p50_asked C fl_X5_72 e_S4 dX5_beside_67 ?_
      refine y_iload_n C dX5_beside_70 rfl 3 rfl ?_
      refine y_iload_n C dX5_beside_71 rfl 3 rfl ?_
      refine y_iconst C (v := 1) dX5_beside_72 (by decide) ?_
      refine y_ishr C dX5_beside_73 ?_
      refine y_iand C dX5_beside_74 ?_
      obtain ⟨q5, h_q5, hf⟩ := bd_e hf
      refine y_cSi C (kX5_bits l E σ S4 (q1 &&& (q1 >>> ((1 : Int32) &&& 31))) _ h_q5) si_X5_bits ml_X5_237 rfl ⟨rfl, rfl, Nat.le_of_ble_eq_true rfl, Nat.le_of_ble_eq_true rfl⟩ dX5_beside_75 rfl (Nat.le_of_ble_eq_true rfl) ?_
      exact y_iret C (rs1 hf) rfl (rs2 hf) dX5_beside_78
    · refine y_iload_n C dX5_beside_31 rfl 3 rfl ?_
      refine y_iload C dX5_beside_32 0 rfl ?_
      refine y_cSi C (kX5_has l E σ τ q1 a2.2.2 _ rfl) si_X5_has ml_X5_147 rfl ⟨rfl, rfl, Nat.le_of_ble_eq_true rfl, Nat.le_of_ble_eq_true rfl⟩ dX5_beside_34 rfl (Nat.le_of_ble_eq_true rfl) ?_
      obtain ⟨j6, ek_j6, hf⟩ := lt_e hf
      have h_j6 : ∀ (v7 : Int32), j6 v7 = some q → Y E p l e rm_X5_beside_50 s m ([.ref (qAd E 50)] : List Value).toArray below meth c 5 (MQ below (PI E q.1 σ q.2) ([.ref (qAd E 50)] : List Value).toArray s 0 0 (qA E)) σ τ 47 [(0, .ref (qAd E 50)), (1, .int q1), (2, .int a2.1), (4, .int a2.2.2)] [.int v7] := by
        intro v7 hf
        replace hf := (congrFun (ek_j6) v7).symm.trans hf
        refine y_istore_n C dX5_beside_47 rfl (Nat.le_of_ble_eq_true rfl) rfl (lv' := [(3, .int v7), (0, .ref (qAd E 50)), (1, .int q1), (2, .int a2.1), (4, .int a2.2.2)]) rfl ?_
        refine y_iload_n C dX5_beside_48 rfl 0 rfl ?_
        refine y_iload_n C dX5_beside_49 rfl 3 rfl ?_
        refine y_icmp_le C 57 dX5_beside_50 (by decide) hf (fun hf => ?_) (fun hf => ?_)
        · refine y_iload_n C dX5_beside_57 rfl 3 rfl ?_
          refine y_istore_n C dX5_beside_58 rfl (Nat.le_of_ble_eq_true rfl) rfl (lv' := [(2, .int a2.1), (3, .int v7), (0, .ref (qAd E 50)), (1, .int q1), (4, .int a2.2.2)]) rfl ?_
          refine y_iinc C dX5_beside_59 4 rfl (Nat.le_of_ble_eq_true rfl) (k2 := 1) (by decide) rfl (lv' := [(4, .int (a2.2.2 + (1 : Int32))), (2, .int a2.1), (3, .int v7), (0, .ref (qAd E 50)), (1, .int q1)]) rfl ?_
          refine y_goto C 24 dX5_beside_62 (by decide) ?_
          refine y_sub [0, 2, 1, 4, 3] rfl ?_
          exact ih_r3 (a2.1, v7, (a2.2.2 + (1 : Int32))) hf
        · refine y_iload_n C dX5_beside_53 rfl 0 rfl ?_
          refine y_goto C 58 dX5_beside_54 (by decide) ?_
          refine y_istore_n C dX5_beside_58 rfl (Nat.le_of_ble_eq_true rfl) rfl (lv' := [(2, .int v7), (3, .int v7), (0, .ref (qAd E 50)), (1, .int q1), (4, .int a2.2.2)]) rfl ?_
          refine y_iinc C dX5_beside_59 4 rfl (Nat.le_of_ble_eq_true rfl) (k2 := 1) (by decide) rfl (lv' := [(4, .int (a2.2.2 + (1 : Int32))), (2, .int v7), (3, .int v7), (0, .ref (qAd E 50)), (1, .int q1)]) rfl ?_
          refine y_goto C 24 dX5_beside_62 (by decide) ?_
          refine y_sub [0, 2, 1, 4, 3] rfl ?_
          exact ih_r3 (v7, v7, (a2.2.2 + (1 : Int32))) hf
      refine y_if_eq C 46 dX5_beside_37 (by decide) hf (fun hf => ?_) (fun hf => ?_)
      · refine y_iconst C (v := 0) dX5_beside_46 (by decide) ?_
        refine y_sub [4, 3, 2, 0] rfl ?_
        exact h_j6 (0 : Int32) hf
      · refine y_iload_n C dX5_beside_40 rfl 1 rfl ?_
        refine y_iconst C (v := 1) dX5_beside_41 (by decide) ?_
        refine y_iadd C dX5_beside_42 ?_
        refine y_goto C 47 dX5_beside_43 (by decide) ?_
        refine y_sub [4, 3, 2, 0] rfl ?_
        exact h_j6 (a2.2.1 + (1 : Int32)) hf
  · refine y_bipush C (v := -4) dX5_beside_7 (by decide) ?_
    exact y_iret C (rs1 hf) rfl (rs2 hf) dX5_beside_9
noncomputable def fX4_apart_0  (σ : QS) : Option (Int32 × QS) :=
    (if (gI σ 9) = 0 then some ((-4 : Int32), σ) else lt_ (gI σ 9) (fun (v1 : Int32) => lt_ (((1 : Int32) <<< ((gI σ 9) &&& 31)) - (1 : Int32)) (fun (v2 : Int32) => lp_ (fun (r4 : Int32 × Int32 × Int32 → Option (Int32 × QS)) (a3 : Int32 × Int32 × Int32) => (if ((1 : Int32) <<< ((gI σ 9) &&& 31)) ≤ a3.2.2 then lt_ (fX4_tell_0 a3.2.1 σ) (fun (q5 : Int32 × QS) => some (a3.1, q5.2)) else Option.bind (fX0_takenSeatsWithout_6 a3.2.2 σ) (fun (q6 : Int32) => (if a3.1 ≤ (fJ6_bitCount_0f7a4 a3.2.2) then r4 (a3.1, a3.2.1, (a3.2.2 + (1 : Int32))) else (if (q6 &&& (q6 <<< ((1 : Int32) &&& 31))) = 0 then lt_ (fJ6_bitCount_0f7a4 a3.2.2) (fun (v7 : Int32) => r4 (v7, a3.2.2, (a3.2.2 + (1 : Int32)))) else r4 (a3.1, a3.2.1, (a3.2.2 + (1 : Int32)))))))) FV (v1, v2, (0 : Int32)))))
def rm_X4_apart_0 : Room := { frames := 2, cells := 0, slots := 0, locals := 44 }
set_option maxRecDepth 100000 in
set_option maxHeartbeats 4000000 in
theorem kX4_apart_0 (l : Launch) (E : QE) (σ τ : QS)  (q : Int32 × QS) (hf : fX4_apart_0 σ = some q) : KQ l yX4_apart cX4_apart 5 (some .int) rm_X4_apart_0 E [.ref (qAd E 0)] σ τ (PI E q.1 q.2 τ) := by
  unfold fX4_apart_0 at hf
  refine y_met rfl (Nat.le_of_ble_eq_true rfl) rfl (fun p e s m below meth c C => ?_)
  refine y_aload_n C dX4_apart_0 rfl 0 rfl ?_
  refine g0_script C fl_X4_31 dX4_apart_1 ?_
  refine gN5_sitterCount C fn_X4_114 dX4_apart_4 ?_
  refine y_if_ne C 13 dX4_apart_7 (by decide) hf (fun hf => ?_) (fun hf => ?_)
  · refine y_aload_n C dX4_apart_13 rfl 0 rfl ?_
    refine g0_script C fl_X4_31 dX4_apart_14 ?_
    refine gN5_sitterCount C fn_X4_114 dX4_apart_17 ?_
    obtain ⟨v1, e_v1, hf⟩ := lt_e hf
    refine y_istore_n C dX4_apart_20 rfl (Nat.le_of_ble_eq_true rfl) e_v1 (lv' := [(1, .int v1), (0, .ref (qAd E 0))]) rfl ?_
    refine y_iconst C (v := 1) dX4_apart_21 (by decide) ?_
    refine y_aload_n C dX4_apart_22 rfl 1 rfl ?_
    refine g0_script C fl_X4_31 dX4_apart_23 ?_
    refine gN5_sitterCount C fn_X4_114 dX4_apart_26 ?_
    refine y_ishl C dX4_apart_29 ?_
    refine y_iconst C (v := 1) dX4_apart_30 (by decide) ?_
    refine y_isub C dX4_apart_31 ?_
    obtain ⟨v2, e_v2, hf⟩ := lt_e hf
    refine y_istore_n C dX4_apart_32 rfl (Nat.le_of_ble_eq_true rfl) e_v2 (lv' := [(2, .int v2), (1, .int v1), (0, .ref (qAd E 0))]) rfl ?_
    refine y_iconst C (v := 0) dX4_apart_33 (by decide) ?_
    refine y_istore_n C dX4_apart_34 rfl (Nat.le_of_ble_eq_true rfl) rfl (lv' := [(3, .int (0 : Int32)), (2, .int v2), (1, .int v1), (0, .ref (qAd E 0))]) rfl ?_
    refine y_sub [0, 1, 2, 3] rfl ?_
    refine lp_ind (P := fun a3 : Int32 × Int32 × Int32 => Y E p l e rm_X4_apart_0 s m ([.ref (qAd E 0)] : List Value).toArray below meth c 5 (MQ below (PI E q.1 q.2 τ) ([.ref (qAd E 0)] : List Value).toArray s 0 0 (qA E)) σ τ 35 [(3, .int a3.2.2), (2, .int a3.2.1), (1, .int a3.1), (0, .ref (qAd E 0))] []) (fun r4 a3 ih_r4 hf => ?_) _ _ hf
    refine y_iload_n C dX4_apart_35 rfl 0 rfl ?_
    refine y_iconst C (v := 1) dX4_apart_36 (by decide) ?_
    refine y_aload_n C dX4_apart_37 rfl 3 rfl ?_
    refine g0_script C fl_X4_31 dX4_apart_38 ?_
    refine gN5_sitterCount C fn_X4_114 dX4_apart_41 ?_
    refine y_ishl C dX4_apart_44 ?_
    refine y_icmp_ge C 89 dX4_apart_45 (by decide) hf (fun hf => ?_) (fun hf => ?_)
    · refine y_aload_n C dX4_apart_89 rfl 3 rfl ?_
      refine y_iload_n C dX4_apart_90 rfl 1 rfl ?_
      obtain ⟨q5, e_q5, hf⟩ := lt_e hf
      refine y_cVi C (kX4_tell_0 l E σ τ a3.2.1 _ e_q5.symm) vi_X4_tell ml_X4_83 ⟨4, _, o0, rfl, rfl⟩ rfl ⟨rfl, rfl, Nat.le_of_ble_eq_true rfl, Nat.le_of_ble_eq_true rfl⟩ dX4_apart_91 rfl (Nat.le_of_ble_eq_true rfl) ?_
      refine y_pop C dX4_apart_94 rfl ?_
      refine y_iload_n C dX4_apart_95 rfl 2 rfl ?_
      exact y_iret C (rs1 hf) (rs2 hf) rfl dX4_apart_96
    · refine y_aload_n C dX4_apart_48 rfl 3 rfl ?_
      refine g0_night C fl_X4_39 dX4_apart_49 ?_
      refine y_iload_n C dX4_apart_52 rfl 0 rfl ?_
      obtain ⟨q6, h_q6, hf⟩ := bd_e hf
      refine y_cVi C (kX0_takenSeatsWithout_6 l E σ τ a3.2.2 _ h_q6) vi_X0_takenSeatsWithout ml_X4_230 ⟨0, _, o6, rfl, rfl⟩ rfl ⟨rfl, rfl, Nat.le_of_ble_eq_true rfl, Nat.le_of_ble_eq_true rfl⟩ dX4_apart_53 rfl (Nat.le_of_ble_eq_true rfl) ?_
      refine y_istore C dX4_apart_56 (Nat.le_of_ble_eq_true rfl) rfl (lv' := [(4, .int q6), (3, .int a3.2.2), (2, .int a3.2.1), (1, .int a3.1), (0, .ref (qAd E 0))]) rfl ?_
      refine y_iload_n C dX4_apart_58 rfl 1 rfl ?_
      refine y_cSi C (kJ6_bitCount_0f7a4 l E σ τ a3.2.2 _ rfl) si_J6_bitCount_0f7a4 ml_X4_168 rfl ⟨rfl, rfl, Nat.le_of_ble_eq_true rfl, Nat.le_of_ble_eq_true rfl⟩ dX4_apart_59 rfl (Nat.le_of_ble_eq_true rfl) ?_
      refine y_iload_n C dX4_apart_62 rfl 3 rfl ?_
      refine y_icmp_ge C 83 dX4_apart_63 (by decide) hf (fun hf => ?_) (fun hf => ?_)
      · refine y_iinc C dX4_apart_83 1 rfl (Nat.le_of_ble_eq_true rfl) (k2 := 1) (by decide) rfl (lv' := [(3, .int (a3.2.2 + (1 : Int32))), (4, .int q6), (2, .int a3.2.1), (1, .int a3.1), (0, .ref (qAd E 0))]) rfl ?_
        refine y_goto C 35 dX4_apart_86 (by decide) ?_
        refine y_sub [0, 2, 3, 4] rfl ?_
        exact ih_r4 (a3.1, a3.2.1, (a3.2.2 + (1 : Int32))) hf
      · refine y_iload C dX4_apart_66 0 rfl ?_
        refine y_iload C dX4_apart_68 0 rfl ?_
        refine y_iconst C (v := 1) dX4_apart_70 (by decide) ?_
        refine y_ishl C dX4_apart_71 ?_
        refine y_iand C dX4_apart_72 ?_
        refine y_if_ne C 83 dX4_apart_73 (by decide) hf (fun hf => ?_) (fun hf => ?_)
        · refine y_iinc C dX4_apart_83 1 rfl (Nat.le_of_ble_eq_true rfl) (k2 := 1) (by decide) rfl (lv' := [(3, .int (a3.2.2 + (1 : Int32))), (4, .int q6), (2, .int a3.2.1), (1, .int a3.1), (0, .ref (qAd E 0))]) rfl ?_
          refine y_goto C 35 dX4_apart_86 (by decide) ?_
          refine y_sub [0, 2, 3, 4] rfl ?_
          exact ih_r4 (a3.1, a3.2.1, (a3.2.2 + (1 : Int32))) hf
        · refine y_iload_n C dX4_apart_76 rfl 1 rfl ?_
          refine y_cSi C (kJ6_bitCount_0f7a4 l E σ τ a3.2.2 _ rfl) si_J6_bitCount_0f7a4 ml_X4_168 rfl ⟨rfl, rfl, Nat.le_of_ble_eq_true rfl, Nat.le_of_ble_eq_true rfl⟩ dX4_apart_77 rfl (Nat.le_of_ble_eq_true rfl) ?_
          obtain ⟨v7, e_v7, hf⟩ := lt_e hf
          refine y_istore_n C dX4_apart_80 rfl (Nat.le_of_ble_eq_true rfl) e_v7 (lv' := [(1, .int v7), (4, .int q6), (3, .int a3.2.2), (2, .int a3.2.1), (0, .ref (qAd E 0))]) rfl ?_
          refine y_iload_n C dX4_apart_81 rfl 2 rfl ?_
          refine y_istore_n C dX4_apart_82 rfl (Nat.le_of_ble_eq_true rfl) rfl (lv' := [(2, .int a3.2.2), (1, .int v7), (4, .int q6), (3, .int a3.2.2), (0, .ref (qAd E 0))]) rfl ?_
          refine y_iinc C dX4_apart_83 3 rfl (Nat.le_of_ble_eq_true rfl) (k2 := 1) (by decide) rfl (lv' := [(3, .int (a3.2.2 + (1 : Int32))), (2, .int a3.2.2), (1, .int v7), (4, .int q6), (0, .ref (qAd E 0))]) rfl ?_
          refine y_goto C 35 dX4_apart_86 (by decide) ?_
          refine y_sub [0, 1, 2, 4] rfl ?_
          exact ih_r4 (v7, a3.2.2, (a3.2.2 + (1 : Int32))) hf
  · refine y_bipush C (v := -4) dX4_apart_10 (by decide) ?_
    exact y_iret C (rs1 hf) (rs2 hf) rfl dX4_apart_12
