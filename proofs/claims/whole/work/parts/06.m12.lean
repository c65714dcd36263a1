noncomputable def fX2_findLeast_7  (σ : QS) : Option (Int32 × QS) :=
    Option.bind (fX0_allowed_6 σ) (fun (q1 : Int32) => lt_ (pI σ 19 q1) (fun (S2 : QS) => lt_ (pI S2 22 (-9 : Int32)) (fun (S3 : QS) => lt_ (pI S3 21 (55 : Int32)) (fun (S4 : QS) => Option.bind (fX2_seekLeast_7 DP (gI S4 13) (gI S4 14) (gI S4 17) (0 : Int32) S4) (fun (q5 : QS) => some ((gI q5 21), q5))))))
def rm_X2_findLeast_7 : Room := { frames := 13, cells := 0, slots := 0, locals := 328 }
set_option maxRecDepth 100000 in
set_option maxHeartbeats 4000000 in
theorem kX2_findLeast_7 (l : Launch) (E : QE) (σ τ : QS)  (q : Int32 × QS) (hf : fX2_findLeast_7 σ = some q) : KQ l yX2_findLeast cX2_findLeast 1 (some .int) rm_X2_findLeast_7 E [.ref (qAd E 7)] σ τ (PI E q.1 q.2 τ) := by
  unfold fX2_findLeast_7 at hf
  refine y_met rfl (Nat.le_of_ble_eq_true rfl) rfl (fun p e s m below meth c C => ?_)
  refine y_aload_n C dX2_findLeast_0 rfl 0 rfl ?_
  refine y_aload_n C dX2_findLeast_1 rfl 0 rfl ?_
  refine g7_night C fl_X2_23 dX2_findLeast_2 ?_
  obtain ⟨q1, h_q1, hf⟩ := bd_e hf
  refine y_cVi C (kX0_allowed_6 l E σ τ _ h_q1) vi_X0_allowed ml_X2_127 ⟨0, _, o6, rfl, rfl⟩ rfl ⟨rfl, rfl, Nat.le_of_ble_eq_true rfl, Nat.le_of_ble_eq_true rfl⟩ dX2_findLeast_5 rfl (Nat.le_of_ble_eq_true rfl) ?_
  obtain ⟨S2, e_S2, hf⟩ := lt_e hf
  refine p7_allowed C fl_X2_34 e_S2 dX2_findLeast_8 ?_
  refine y_aload_n C dX2_findLeast_11 rfl 0 rfl ?_
  refine y_bipush C (v := -9) dX2_findLeast_12 (by decide) ?_
  obtain ⟨S3, e_S3, hf⟩ := lt_e hf
  refine p7_firstCalled C fl_X2_130 e_S3 dX2_findLeast_14 ?_
  refine y_aload_n C dX2_findLeast_17 rfl 0 rfl ?_
  refine y_bipush C (v := 55) dX2_findLeast_18 (by decide) ?_
  obtain ⟨S4, e_S4, hf⟩ := lt_e hf
  refine p7_fewestGone C fl_X2_115 e_S4 dX2_findLeast_20 ?_
  refine y_aload_n C dX2_findLeast_23 rfl 0 rfl ?_
  refine y_aload_n C dX2_findLeast_24 rfl 0 rfl ?_
  refine g7_night C fl_X2_23 dX2_findLeast_25 ?_
  refine gN6_scene C fn_X2_82 dX2_findLeast_28 ?_
  refine y_aload_n C dX2_findLeast_31 rfl 0 rfl ?_
  refine g7_night C fl_X2_23 dX2_findLeast_32 ?_
  refine gN6_called C fn_X2_62 dX2_findLeast_35 ?_
  refine y_aload_n C dX2_findLeast_38 rfl 0 rfl ?_
  refine g7_night C fl_X2_23 dX2_findLeast_39 ?_
  refine gN6_clapping C fn_X2_68 dX2_findLeast_42 ?_
  refine y_iconst C (v := 0) dX2_findLeast_45 (by decide) ?_
  obtain ⟨q5, h_q5, hf⟩ := bd_e hf
  refine y_cVv C (kX2_seekLeast_7 l E DP S4 τ (gI S4 13) (gI S4 14) (gI S4 17) (0 : Int32) _ h_q5) vi_X2_seekLeast ml_X2_133 ⟨2, _, o7, rfl, rfl⟩ rfl ⟨rfl, rfl, Nat.le_of_ble_eq_true rfl, Nat.le_of_ble_eq_true rfl⟩ dX2_findLeast_46 rfl (Nat.le_of_ble_eq_true rfl) ?_
  refine y_aload_n C dX2_findLeast_49 rfl 0 rfl ?_
  refine g7_fewestGone C fl_X2_115 dX2_findLeast_50 ?_
  exact y_iret C (rs1 hf) (rs2 hf) rfl dX2_findLeast_53
noncomputable def fX4_least_0  (σ : QS) : Option (Int32 × QS) :=
    (if (gI σ 9) = 0 then some ((-4 : Int32), σ) else Option.bind (fX0_free_6 σ) (fun (q1 : Int32) => (if (fX0_scenesYet_6 σ) ≤ (fJ6_bitCount_0f7a4 q1) then Option.bind (fX2_findLeast_7 σ) (fun (q2 : Int32 × QS) => lt_ (fX4_tell_0 (gI q2.2 22) q2.2) (fun (q3 : Int32 × QS) => some (q2.1, q3.2))) else some ((-9 : Int32), σ))))
def rm_X4_least_0 : Room := { frames := 14, cells := 0, slots := 0, locals := 348 }
set_option maxRecDepth 100000 in
set_option maxHeartbeats 4000000 in
theorem kX4_least_0 (l : Launch) (E : QE) (σ τ : QS)  (q : Int32 × QS) (hf : fX4_least_0 σ = some q) : KQ l yX4_least cX4_least 2 (some .int) rm_X4_least_0 E [.ref (qAd E 0)] σ τ (PI E q.1 q.2 τ) := by
  unfold fX4_least_0 at hf
  refine y_met rfl (Nat.le_of_ble_eq_true rfl) rfl (fun p e s m below meth c C => ?_)
  refine y_aload_n C dX4_least_0 rfl 0 rfl ?_
  refine g0_script C fl_X4_31 dX4_least_1 ?_
  refine gN5_sitterCount C fn_X4_114 dX4_least_4 ?_
  refine y_if_ne C 13 dX4_least_7 (by decide) hf (fun hf => ?_) (fun hf => ?_)
  · refine y_aload_n C dX4_least_13 rfl 0 rfl ?_
    refine g0_night C fl_X4_39 dX4_least_14 ?_
    obtain ⟨q1, h_q1, hf⟩ := bd_e hf
    refine y_cVi C (kX0_free_6 l E σ τ _ h_q1) vi_X0_free ml_X4_144 ⟨0, _, o6, rfl, rfl⟩ rfl ⟨rfl, rfl, Nat.le_of_ble_eq_true rfl, Nat.le_of_ble_eq_true rfl⟩ dX4_least_17 rfl (Nat.le_of_ble_eq_true rfl) ?_
    refine y_cSi C (kJ6_bitCount_0f7a4 l E σ τ q1 _ rfl) si_J6_bitCount_0f7a4 ml_X4_168 rfl ⟨rfl, rfl, Nat.le_of_ble_eq_true rfl, Nat.le_of_ble_eq_true rfl⟩ dX4_least_20 rfl (Nat.le_of_ble_eq_true rfl) ?_
    refine y_aload_n C dX4_least_23 rfl 0 rfl ?_
    refine g0_night C fl_X4_39 dX4_least_24 ?_
    refine y_cVi C (kX0_scenesYet_6 l E σ τ _ rfl) vi_X0_scenesYet ml_X4_140 ⟨0, _, o6, rfl, rfl⟩ rfl ⟨rfl, rfl, Nat.le_of_ble_eq_true rfl, Nat.le_of_ble_eq_true rfl⟩ dX4_least_27 rfl (Nat.le_of_ble_eq_true rfl) ?_
    refine y_icmp_ge C 36 dX4_least_30 (by decide) hf (fun hf => ?_) (fun hf => ?_)
    · refine y_aload_n C dX4_least_36 rfl 0 rfl ?_
      refine g0_search C fl_X4_48 dX4_least_37 ?_
      obtain ⟨q2, h_q2, hf⟩ := bd_e hf
      refine y_cVi C (kX2_findLeast_7 l E σ τ _ h_q2) vi_X2_findLeast ml_X4_200 ⟨2, _, o7, rfl, rfl⟩ rfl ⟨rfl, rfl, Nat.le_of_ble_eq_true rfl, Nat.le_of_ble_eq_true rfl⟩ dX4_least_40 rfl (Nat.le_of_ble_eq_true rfl) ?_
      refine y_istore_n C dX4_least_43 rfl (Nat.le_of_ble_eq_true rfl) rfl (lv' := [(1, .int q2.1), (0, .ref (qAd E 0))]) rfl ?_
      refine y_aload_n C dX4_least_44 rfl 1 rfl ?_
      refine y_aload_n C dX4_least_45 rfl 1 rfl ?_
      refine g0_search C fl_X4_48 dX4_least_46 ?_
      refine gN7_firstCalled C fn_X4_203 dX4_least_49 ?_
      obtain ⟨q3, e_q3, hf⟩ := lt_e hf
      refine y_cVi C (kX4_tell_0 l E q2.2 τ (gI q2.2 22) _ e_q3.symm) vi_X4_tell ml_X4_83 ⟨4, _, o0, rfl, rfl⟩ rfl ⟨rfl, rfl, Nat.le_of_ble_eq_true rfl, Nat.le_of_ble_eq_true rfl⟩ dX4_least_52 rfl (Nat.le_of_ble_eq_true rfl) ?_
      refine y_pop C dX4_least_55 rfl ?_
      refine y_iload_n C dX4_least_56 rfl 0 rfl ?_
      exact y_iret C (rs1 hf) (rs2 hf) rfl dX4_least_57
    · refine y_bipush C (v := -9) dX4_least_33 (by decide) ?_
      exact y_iret C (rs1 hf) (rs2 hf) rfl dX4_least_35
  · refine y_bipush C (v := -4) dX4_least_10 (by decide) ?_
    exact y_iret C (rs1 hf) (rs2 hf) rfl dX4_least_12
noncomputable def fX5_least_50  (τ : QS) : Option (Int32 × QS) :=
    (if (gI τ 1) = 0 then some ((-4 : Int32), τ) else Option.bind (fX5_beginPlans_50 (999 : Int32) τ) (fun (q1 : QS) => lp_ (fun (r3 : Int32 × Int32 × QS → Option (Int32 × QS)) (a2 : Int32 × Int32 × QS) => Option.bind (fX5_nextPlan_50 a2.2.2) (fun (q4 : Int32 × QS) => (if q4.1 = 0 then (if a2.1 = (999 : Int32) then some ((-9 : Int32), q4.2) else lt_ (pI q4.2 2 a2.2.1) (fun (S5 : QS) => some (a2.1, S5))) else ck_ (inb (gI q4.2 11) 7) (lt_ ((999 : Int32) - (gM q4.2 63 ((gI q4.2 11).toNatClampNeg))) (fun (v7 : Int32) => ck_ (inb (gI q4.2 11) 7) ((if (gM q4.2 65 ((gI q4.2 11).toNatClampNeg)) = (gI q4.2 11) then (if a2.1 ≤ v7 then r3 (a2.1, a2.2.1, q4.2) else (if (gI q4.2 11) = 0 then r3 (v7, (-9 : Int32), q4.2) else lt_ ((gM q4.2 67 0) - (1 : Int32)) (fun (v9 : Int32) => r3 (v7, v9, q4.2)))) else r3 (a2.1, a2.2.1, q4.2)))))))) FV ((999 : Int32), (-9 : Int32), q1)))
def rm_X5_least_50 : Room := { frames := 7, cells := 0, slots := 0, locals := 162 }
set_option maxRecDepth 100000 in
set_option maxHeartbeats 4000000 in
theorem kX5_least_50 (l : Launch) (E : QE) (σ τ : QS)  (q : Int32 × QS) (hf : fX5_least_50 τ = some q) : KQ l yX5_least cX5_least 4 (some .int) rm_X5_least_50 E [.ref (qAd E 50)] σ τ (PI E q.1 σ q.2) := by
  unfold fX5_least_50 at hf
  refine y_met rfl (Nat.le_of_ble_eq_true rfl) rfl (fun p e s m below meth c C => ?_)
  refine y_aload_n C dX5_least_0 rfl 0 rfl ?_
  refine g50_sitters C fl_X5_163 dX5_least_1 ?_
  refine y_if_ne C 10 dX5_least_4 (by decide) hf (fun hf => ?_) (fun hf => ?_)
  · refine y_sipush C (v := 999) dX5_least_10 (by decide) ?_
    refine y_istore_n C dX5_least_13 rfl (Nat.le_of_ble_eq_true rfl) rfl (lv' := [(1, .int (999 : Int32)), (0, .ref (qAd E 50))]) rfl ?_
    refine y_bipush C (v := -9) dX5_least_14 (by decide) ?_
    refine y_istore_n C dX5_least_16 rfl (Nat.le_of_ble_eq_true rfl) rfl (lv' := [(2, .int (-9 : Int32)), (1, .int (999 : Int32)), (0, .ref (qAd E 50))]) rfl ?_
    refine y_aload_n C dX5_least_17 rfl 2 rfl ?_
    refine y_sipush C (v := 999) dX5_least_18 (by decide) ?_
    obtain ⟨q1, h_q1, hf⟩ := bd_e hf
    refine y_cVv C (kX5_beginPlans_50 l E σ τ (999 : Int32) _ h_q1) vi_X5_beginPlans ml_X5_258 ⟨5, _, o50, rfl, rfl⟩ rfl ⟨rfl, rfl, Nat.le_of_ble_eq_true rfl, Nat.le_of_ble_eq_true rfl⟩ dX5_least_21 rfl (Nat.le_of_ble_eq_true rfl) ?_
    refine y_sub [0, 1, 2] rfl ?_
    refine lp_ind (P := fun a2 : Int32 × Int32 × QS => Y E p l e rm_X5_least_50 s m ([.ref (qAd E 50)] : List Value).toArray below meth c 4 (MQ below (PI E q.1 σ q.2) ([.ref (qAd E 50)] : List Value).toArray s 0 0 (qA E)) σ a2.2.2 24 [(2, .int a2.2.1), (1, .int a2.1), (0, .ref (qAd E 50))] []) (fun r3 a2 ih_r3 hf => ?_) _ _ hf
    refine y_aload_n C dX5_least_24 rfl 2 rfl ?_
    obtain ⟨q4, h_q4, hf⟩ := bd_e hf
    refine y_cVi C (kX5_nextPlan_50 l E σ a2.2.2 _ h_q4) vi_X5_nextPlan ml_X5_265 ⟨5, _, o50, rfl, rfl⟩ rfl ⟨rfl, rfl, Nat.le_of_ble_eq_true rfl, Nat.le_of_ble_eq_true rfl⟩ dX5_least_25 rfl (Nat.le_of_ble_eq_true rfl) ?_
    refine y_if_eq C 92 dX5_least_28 (by decide) hf (fun hf => ?_) (fun hf => ?_)
    · refine y_iload_n C dX5_least_92 rfl 1 rfl ?_
      refine y_sipush C (v := 999) dX5_least_93 (by decide) ?_
      refine y_icmp_ne C 102 dX5_least_96 (by decide) hf (fun hf => ?_) (fun hf => ?_)
      · refine y_aload_n C dX5_least_102 rfl 2 rfl ?_
        refine y_iload_n C dX5_least_103 rfl 0 rfl ?_
        obtain ⟨S5, e_S5, hf⟩ := lt_e hf
        refine p50_asked C fl_X5_72 e_S5 dX5_least_104 ?_
        refine y_iload_n C dX5_least_107 rfl 1 rfl ?_
        exact y_iret C (rs1 hf) rfl (rs2 hf) dX5_least_108
      · refine y_bipush C (v := -9) dX5_least_99 (by decide) ?_
        exact y_iret C (rs1 hf) rfl (rs2 hf) dX5_least_101
    · refine y_sipush C (v := 999) dX5_least_31 (by decide) ?_
      refine y_aload_n C dX5_least_34 rfl 2 rfl ?_
      refine g50_planPrompts C fl_X5_50 dX5_least_35 ?_
      refine y_aload_n C dX5_least_38 rfl 2 rfl ?_
      refine g50_planMany C fl_X5_245 dX5_least_39 ?_
      obtain ⟨hi6, hf⟩ := ck_e hf
      refine y_ialdR C a63 (j := (gI q4.2 11).toNatClampNeg) rfl hi6 dX5_least_42 ?_
      refine y_isub C dX5_least_43 ?_
      obtain ⟨v7, e_v7, hf⟩ := lt_e hf
      refine y_istore_n C dX5_least_44 rfl (Nat.le_of_ble_eq_true rfl) e_v7 (lv' := [(3, .int v7), (2, .int a2.2.1), (1, .int a2.1), (0, .ref (qAd E 50))]) rfl ?_
      refine y_aload_n C dX5_least_45 rfl 3 rfl ?_
      refine g50_planCarried C fl_X5_56 dX5_least_46 ?_
      refine y_aload_n C dX5_least_49 rfl 3 rfl ?_
      refine g50_planMany C fl_X5_245 dX5_least_50 ?_
      obtain ⟨hi8, hf⟩ := ck_e hf
      refine y_ialdR C a65 (j := (gI q4.2 11).toNatClampNeg) rfl hi8 dX5_least_53 ?_
      refine y_aload_n C dX5_least_54 rfl 3 rfl ?_
      refine g50_planMany C fl_X5_245 dX5_least_55 ?_
      refine y_icmp_ne C 89 dX5_least_58 (by decide) hf (fun hf => ?_) (fun hf => ?_)
      · refine y_goto C 24 dX5_least_89 (by decide) ?_
        refine y_sub [1, 2, 3] rfl ?_
        exact ih_r3 (a2.1, a2.2.1, q4.2) hf
      · refine y_iload_n C dX5_least_61 rfl 0 rfl ?_
        refine y_iload_n C dX5_least_62 rfl 2 rfl ?_
        refine y_icmp_ge C 89 dX5_least_63 (by decide) hf (fun hf => ?_) (fun hf => ?_)
        · refine y_goto C 24 dX5_least_89 (by decide) ?_
          refine y_sub [1, 2, 3] rfl ?_
          exact ih_r3 (a2.1, a2.2.1, q4.2) hf
        · refine y_iload_n C dX5_least_66 rfl 0 rfl ?_
          refine y_istore_n C dX5_least_67 rfl (Nat.le_of_ble_eq_true rfl) rfl (lv' := [(1, .int v7), (3, .int v7), (2, .int a2.2.1), (0, .ref (qAd E 50))]) rfl ?_
          refine y_aload_n C dX5_least_68 rfl 3 rfl ?_
          refine g50_planMany C fl_X5_245 dX5_least_69 ?_
          refine y_if_ne C 80 dX5_least_72 (by decide) hf (fun hf => ?_) (fun hf => ?_)
          · refine y_aload_n C dX5_least_80 rfl 3 rfl ?_
            refine g50_choices C fl_X5_62 dX5_least_81 ?_
            refine y_iconst C (v := 0) dX5_least_84 (by decide) ?_
            refine y_ialdR C a67 (j := 0) (by decide) (by decide) dX5_least_85 ?_
            refine y_iconst C (v := 1) dX5_least_86 (by decide) ?_
            refine y_isub C dX5_least_87 ?_
            obtain ⟨v9, e_v9, hf⟩ := lt_e hf
            refine y_istore_n C dX5_least_88 rfl (Nat.le_of_ble_eq_true rfl) e_v9 (lv' := [(2, .int v9), (1, .int v7), (3, .int v7), (0, .ref (qAd E 50))]) rfl ?_
            refine y_goto C 24 dX5_least_89 (by decide) ?_
            refine y_sub [0, 1, 3] rfl ?_
            exact ih_r3 (v7, v9, q4.2) hf
          · refine y_bipush C (v := -9) dX5_least_75 (by decide) ?_
            refine y_goto C 88 dX5_least_77 (by decide) ?_
            refine y_istore_n C dX5_least_88 rfl (Nat.le_of_ble_eq_true rfl) rfl (lv' := [(2, .int (-9 : Int32)), (1, .int v7), (3, .int v7), (0, .ref (qAd E 50))]) rfl ?_
            refine y_goto C 24 dX5_least_89 (by decide) ?_
            refine y_sub [0, 1, 3] rfl ?_
            exact ih_r3 (v7, (-9 : Int32), q4.2) hf
  · refine y_bipush C (v := -4) dX5_least_7 (by decide) ?_
    exact y_iret C (rs1 hf) rfl (rs2 hf) dX5_least_9
noncomputable def fX2_plansFor_7 (x1 : Int32) (x2 : Int32) (σ : QS) : Option (Int32) :=
    lt_ (fun (v2 : Int32) => (if v2 = 0 then some (0 : Int32) else ck_ (inb x1 7) (ck_ (inb x2 7) (some (gM σ (43 + x1.toNatClampNeg) x2.toNatClampNeg))))) (fun (j1 : Int32 → Option (Int32)) => (if x1 < 0 then j1 (0 : Int32) else (if (6 : Int32) < x1 then j1 (0 : Int32) else (if x2 < 0 then j1 (0 : Int32) else (if (6 : Int32) < x2 then j1 (0 : Int32) else j1 (1 : Int32))))))
def rm_X2_plansFor_7 : Room := { frames := 0, cells := 0, slots := 0, locals := 0 }
set_option maxRecDepth 100000 in
set_option maxHeartbeats 4000000 in
theorem kX2_plansFor_7 (l : Launch) (E : QE) (σ τ : QS) (x1 : Int32) (x2 : Int32) (q : Int32) (hf : fX2_plansFor_7 x1 x2 σ = some q) : KQ l yX2_plansFor cX2_plansFor 4 (some .int) rm_X2_plansFor_7 E [.ref (qAd E 7), .int x1, .int x2] σ τ (PI E q σ τ) := by
  unfold fX2_plansFor_7 at hf
  refine y_met rfl (Nat.le_of_ble_eq_true rfl) rfl (fun p e s m below meth c C => ?_)
  refine y_iload_n C dX2_plansFor_0 rfl 1 rfl ?_
  obtain ⟨j1, ek_j1, hf⟩ := lt_e hf
  have h_j1 : ∀ (v2 : Int32), j1 v2 = some q → Y E p l e rm_X2_plansFor_7 s m ([.ref (qAd E 7), .int x1, .int x2] : List Value).toArray below meth c 4 (MQ below (PI E q σ τ) ([.ref (qAd E 7), .int x1, .int x2] : List Value).toArray s 0 0 (qA E)) σ τ 25 [(0, .ref (qAd E 7)), (1, .int x1), (2, .int x2)] [.int v2] := by
    intro v2 hf
    replace hf := (congrFun (ek_j1) v2).symm.trans hf
    refine y_istore_n C dX2_plansFor_25 rfl (Nat.le_of_ble_eq_true rfl) rfl (lv' := [(3, .int v2), (0, .ref (qAd E 7)), (1, .int x1), (2, .int x2)]) rfl ?_
    refine y_iload_n C dX2_plansFor_26 rfl 0 rfl ?_
    refine y_if_eq C 41 dX2_plansFor_27 (by decide) hf (fun hf => ?_) (fun hf => ?_)
    · refine y_iconst C (v := 0) dX2_plansFor_41 (by decide) ?_
      exact y_iret C (Option.some.inj hf) rfl rfl dX2_plansFor_42
    · refine y_aload_n C dX2_plansFor_30 rfl 1 rfl ?_
      refine g7_planCount C fl_X2_20 dX2_plansFor_31 ?_
      refine y_iload_n C dX2_plansFor_34 rfl 2 rfl ?_
      obtain ⟨hi3, hf⟩ := ck_e hf
      refine y_aald C q29 hi3 dX2_plansFor_35 ?_
      refine y_iload_n C dX2_plansFor_36 rfl 3 rfl ?_
      obtain ⟨hi4, hf⟩ := ck_e hf
      refine y_ialdC C (in29 (inb_e hi3)) (j := x2.toNatClampNeg) rfl hi4 dX2_plansFor_37 ?_
      refine y_goto C 42 dX2_plansFor_38 (by decide) ?_
      exact y_iret C (Option.some.inj hf) rfl rfl dX2_plansFor_42
  refine y_if_lt C 24 dX2_plansFor_1 (by decide) hf (fun hf => ?_) (fun hf => ?_)
  · refine y_iconst C (v := 0) dX2_plansFor_24 (by decide) ?_
    refine y_sub [0, 1, 2] rfl ?_
    exact h_j1 (0 : Int32) hf
  · refine y_iload_n C dX2_plansFor_4 rfl 1 rfl ?_
    refine y_bipush C (v := 6) dX2_plansFor_5 (by decide) ?_
    refine y_icmp_gt C 24 dX2_plansFor_7 (by decide) hf (fun hf => ?_) (fun hf => ?_)
    · refine y_iconst C (v := 0) dX2_plansFor_24 (by decide) ?_
      refine y_sub [0, 1, 2] rfl ?_
      exact h_j1 (0 : Int32) hf
    · refine y_iload_n C dX2_plansFor_10 rfl 2 rfl ?_
      refine y_if_lt C 24 dX2_plansFor_11 (by decide) hf (fun hf => ?_) (fun hf => ?_)
      · refine y_iconst C (v := 0) dX2_plansFor_24 (by decide) ?_
        refine y_sub [0, 1, 2] rfl ?_
        exact h_j1 (0 : Int32) hf
      · refine y_iload_n C dX2_plansFor_14 rfl 2 rfl ?_
        refine y_bipush C (v := 6) dX2_plansFor_15 (by decide) ?_
        refine y_icmp_gt C 24 dX2_plansFor_17 (by decide) hf (fun hf => ?_) (fun hf => ?_)
        · refine y_iconst C (v := 0) dX2_plansFor_24 (by decide) ?_
          refine y_sub [0, 1, 2] rfl ?_
          exact h_j1 (0 : Int32) hf
        · refine y_iconst C (v := 1) dX2_plansFor_20 (by decide) ?_
          refine y_goto C 25 dX2_plansFor_21 (by decide) ?_
          refine y_sub [0, 1, 2] rfl ?_
          exact h_j1 (1 : Int32) hf
noncomputable def fX2_seekWays_7 : Nat → Int32 → Int32 → Int32 → Int32 → Int32 → QS → Option (QS)
  | 0, _, _, _, _, _, _ => none
  | d + 1, x1, x2, x3, x4, x5, σ =>
    (if x5 < (gI σ 24) then (if (gI σ 8) ≤ x1 then some σ else (if (gI σ 24) ≤ (x5 + (fX2_hope_7 x1 x2 σ)) then Option.bind (fX2_seekWays_7 d (x1 + (1 : Int32)) x2 x3 x4 x5 σ) (fun (q1 : QS) => lp_ (fun (r3 : Int32 × QS → Option (QS)) (a2 : Int32 × QS) => (if (gI a2.2 9) ≤ a2.1 then some a2.2 else (if (fX2_isFree_7 a2.1 x2 a2.2) = 0 then r3 ((a2.1 + (1 : Int32)), a2.2) else Option.bind (fX1_lacking_5 a2.1 x1 x2 x3 a2.2) (fun (q4 : Int32) => lt_ (fun (v6 : Int32) => Option.bind (fX2_seekWays_7 d (x1 + (1 : Int32)) (x2 ||| ((1 : Int32) <<< (a2.1 &&& 31))) (fX2_clappingBehind x3 q4 x4) (fX2_promptsBehind q4 x4) (x5 + v6) a2.2) (fun (q7 : QS) => r3 ((a2.1 + (1 : Int32)), q7))) (fun (j5 : Int32 → Option (QS)) => (if x4 < q4 then j5 (0 : Int32) else j5 (1 : Int32))))))) FV ((0 : Int32), q1)) else some σ)) else Option.bind (fX2_plansFor_7 ((gI σ 8) - x1) (fX2_freeCount_7 x2 σ) σ) (fun (q8 : Int32) => lt_ (pJ σ 2 ((gJ σ 2) + q8.toInt64)) (fun (S9 : QS) => lt_ (pI S9 25 ((gI S9 25) &&& x2)) (fun (S10 : QS) => some S10))))
def rm_X2_seekWays_7 (d : Nat) : Room := { frames := 4 + d, cells := 0, slots := 0, locals := 94 + d * 27 }
theorem rk_X2_seekWays_7_self (d : Nat) : rmOk (rm_X2_seekWays_7 d) (rm_X2_seekWays_7 (d + 1)) 8 := by
  refine ⟨rfl, rfl, ?_, ?_⟩ <;> simp only [rm_X2_seekWays_7] <;> omega
set_option maxRecDepth 100000 in
set_option maxHeartbeats 4000000 in
theorem kX2_seekWays_7 (l : Launch) (E : QE) : ∀ (d : Nat) (σ τ : QS) (x1 : Int32) (x2 : Int32) (x3 : Int32) (x4 : Int32) (x5 : Int32) (q : QS) (hf : fX2_seekWays_7 d x1 x2 x3 x4 x5 σ = some q), KQ l yX2_seekWays cX2_seekWays 8 none (rm_X2_seekWays_7 d) E [.ref (qAd E 7), .int x1, .int x2, .int x3, .int x4, .int x5] σ τ (PV E q τ) := by
  intro d
  induction d with
  | zero =>
    intro σ τ x1 x2 x3 x4 x5 q hf
    cases hf
  | succ d ihd =>
    intro σ τ x1 x2 x3 x4 x5 q hf
    rw [fX2_seekWays_7] at hf
    refine y_met rfl (Nat.le_of_ble_eq_true rfl) rfl (fun p e s m below meth c C => ?_)
    refine y_iload C dX2_seekWays_0 5 rfl ?_
    refine y_aload_n C dX2_seekWays_2 rfl 0 rfl ?_
    refine g7_wanted C fl_X2_137 dX2_seekWays_3 ?_
    refine y_icmp_lt C 48 dX2_seekWays_6 (by decide) hf (fun hf => ?_) (fun hf => ?_)
    · refine y_iload_n C dX2_seekWays_48 rfl 1 rfl ?_
      refine y_aload_n C dX2_seekWays_49 rfl 0 rfl ?_
      refine g7_script C fl_X2_33 dX2_seekWays_50 ?_
      refine gN5_sceneCount C fn_X2_48 dX2_seekWays_53 ?_
      refine y_icmp_ge C 75 dX2_seekWays_56 (by decide) hf (fun hf => ?_) (fun hf => ?_)
      · exact y_vret C (Option.some.inj hf) rfl dX2_seekWays_75
      · refine y_iload C dX2_seekWays_59 5 rfl ?_
        refine y_aload_n C dX2_seekWays_61 rfl 0 rfl ?_
        refine y_iload_n C dX2_seekWays_62 rfl 1 rfl ?_
        refine y_iload_n C dX2_seekWays_63 rfl 2 rfl ?_
        refine y_cVi C (kX2_hope_7 l E σ τ x1 x2 _ rfl) vi_X2_hope ml_X2_106 ⟨2, _, o7, rfl, rfl⟩ rfl (by refine ⟨rfl, rfl, ?_, ?_⟩ <;> simp only [rm_X2_hope_7, rm_X2_seekWays_7] <;> omega) dX2_seekWays_64 rfl (Nat.le_of_ble_eq_true rfl) ?_
        refine y_iadd C dX2_seekWays_67 ?_
        refine y_aload_n C dX2_seekWays_68 rfl 0 rfl ?_
        refine g7_wanted C fl_X2_137 dX2_seekWays_69 ?_
        refine y_icmp_ge C 76 dX2_seekWays_72 (by decide) hf (fun hf => ?_) (fun hf => ?_)
        · refine y_aload_n C dX2_seekWays_76 rfl 0 rfl ?_
          refine y_iload_n C dX2_seekWays_77 rfl 1 rfl ?_
          refine y_iconst C (v := 1) dX2_seekWays_78 (by decide) ?_
          refine y_iadd C dX2_seekWays_79 ?_
          refine y_iload_n C dX2_seekWays_80 rfl 2 rfl ?_
          refine y_iload_n C dX2_seekWays_81 rfl 3 rfl ?_
          refine y_iload C dX2_seekWays_82 4 rfl ?_
          refine y_iload C dX2_seekWays_84 5 rfl ?_
          obtain ⟨q1, h_q1, hf⟩ := bd_e hf
          refine y_cVv C (ihd σ τ (x1 + (1 : Int32)) x2 x3 x4 x5 _ h_q1) vi_X2_seekWays ml_X2_147 ⟨2, _, o7, rfl, rfl⟩ rfl (rk_X2_seekWays_7_self d) dX2_seekWays_86 rfl (Nat.le_of_ble_eq_true rfl) ?_
          refine y_iconst C (v := 0) dX2_seekWays_89 (by decide) ?_
          refine y_istore C dX2_seekWays_90 (Nat.le_of_ble_eq_true rfl) rfl (lv' := [(6, .int (0 : Int32)), (0, .ref (qAd E 7)), (1, .int x1), (2, .int x2), (3, .int x3), (4, .int x4), (5, .int x5)]) rfl ?_
          refine y_sub [0, 1, 2, 3, 4, 5, 6] rfl ?_
          refine lp_ind (P := fun a2 : Int32 × QS => Y E p l e (rm_X2_seekWays_7 (d + 1)) s m ([.ref (qAd E 7), .int x1, .int x2, .int x3, .int x4, .int x5] : List Value).toArray below meth c 8 (MQ below (PV E q τ) ([.ref (qAd E 7), .int x1, .int x2, .int x3, .int x4, .int x5] : List Value).toArray s 0 0 (qA E)) a2.2 τ 92 [(6, .int a2.1), (0, .ref (qAd E 7)), (1, .int x1), (2, .int x2), (3, .int x3), (4, .int x4), (5, .int x5)] []) (fun r3 a2 ih_r3 hf => ?_) _ _ hf
          refine y_iload C dX2_seekWays_92 0 rfl ?_
          refine y_aload_n C dX2_seekWays_94 rfl 1 rfl ?_
          refine g7_script C fl_X2_33 dX2_seekWays_95 ?_
          refine gN5_sitterCount C fn_X2_109 dX2_seekWays_98 ?_
          refine y_icmp_ge C 177 dX2_seekWays_101 (by decide) hf (fun hf => ?_) (fun hf => ?_)
          · exact y_vret C (Option.some.inj hf) rfl dX2_seekWays_177
          · refine y_aload_n C dX2_seekWays_104 rfl 1 rfl ?_
            refine y_iload C dX2_seekWays_105 0 rfl ?_
            refine y_iload_n C dX2_seekWays_107 rfl 3 rfl ?_
            refine y_cVi C (kX2_isFree_7 l E a2.2 τ a2.1 x2 _ rfl) vi_X2_isFree ml_X2_112 ⟨2, _, o7, rfl, rfl⟩ rfl (by refine ⟨rfl, rfl, ?_, ?_⟩ <;> simp only [rm_X2_isFree_7, rm_X2_seekWays_7] <;> omega) dX2_seekWays_108 rfl (Nat.le_of_ble_eq_true rfl) ?_
            refine y_if_eq C 171 dX2_seekWays_111 (by decide) hf (fun hf => ?_) (fun hf => ?_)
            · refine y_iinc C dX2_seekWays_171 0 rfl (Nat.le_of_ble_eq_true rfl) (k2 := 1) (by decide) rfl (lv' := [(6, .int (a2.1 + (1 : Int32))), (0, .ref (qAd E 7)), (1, .int x1), (2, .int x2), (3, .int x3), (4, .int x4), (5, .int x5)]) rfl ?_
              refine y_goto C 92 dX2_seekWays_174 (by decide) ?_
              refine y_sub [0, 1, 2, 3, 4, 5, 6] rfl ?_
              exact ih_r3 ((a2.1 + (1 : Int32)), a2.2) hf
            · refine y_aload_n C dX2_seekWays_114 rfl 1 rfl ?_
              refine g7_script C fl_X2_33 dX2_seekWays_115 ?_
              refine y_iload C dX2_seekWays_118 0 rfl ?_
              refine y_iload_n C dX2_seekWays_120 rfl 2 rfl ?_
              refine y_iload_n C dX2_seekWays_121 rfl 3 rfl ?_
              refine y_iload_n C dX2_seekWays_122 rfl 4 rfl ?_
              obtain ⟨q4, h_q4, hf⟩ := bd_e hf
              refine y_cVi C (kX1_lacking_5 l E a2.2 τ a2.1 x1 x2 x3 _ h_q4) vi_X1_lacking ml_X2_85 ⟨1, _, o5, rfl, rfl⟩ rfl (by refine ⟨rfl, rfl, ?_, ?_⟩ <;> simp only [rm_X1_lacking_5, rm_X2_seekWays_7] <;> omega) dX2_seekWays_123 rfl (Nat.le_of_ble_eq_true rfl) ?_
              refine y_istore C dX2_seekWays_126 (Nat.le_of_ble_eq_true rfl) rfl (lv' := [(7, .int q4), (6, .int a2.1), (0, .ref (qAd E 7)), (1, .int x1), (2, .int x2), (3, .int x3), (4, .int x4), (5, .int x5)]) rfl ?_
              refine y_aload_n C dX2_seekWays_128 rfl 2 rfl ?_
              refine y_iload_n C dX2_seekWays_129 rfl 3 rfl ?_
              refine y_iconst C (v := 1) dX2_seekWays_130 (by decide) ?_
              refine y_iadd C dX2_seekWays_131 ?_
              refine y_iload_n C dX2_seekWays_132 rfl 4 rfl ?_
              refine y_iconst C (v := 1) dX2_seekWays_133 (by decide) ?_
              refine y_iload C dX2_seekWays_134 1 rfl ?_
              refine y_ishl C dX2_seekWays_136 ?_
              refine y_ior C dX2_seekWays_137 ?_
              refine y_iload_n C dX2_seekWays_138 rfl 5 rfl ?_
              refine y_iload C dX2_seekWays_139 0 rfl ?_
              refine y_iload C dX2_seekWays_141 6 rfl ?_
              refine y_cSi C (kX2_clappingBehind l E a2.2 τ x3 q4 x4 _ rfl) si_X2_clappingBehind ml_X2_89 rfl (by refine ⟨rfl, rfl, ?_, ?_⟩ <;> simp only [rm_X2_clappingBehind, rm_X2_seekWays_7] <;> omega) dX2_seekWays_143 rfl (Nat.le_of_ble_eq_true rfl) ?_
              refine y_iload C dX2_seekWays_146 0 rfl ?_
              refine y_iload C dX2_seekWays_148 6 rfl ?_
              refine y_cSi C (kX2_promptsBehind l E a2.2 τ q4 x4 _ rfl) si_X2_promptsBehind ml_X2_93 rfl (by refine ⟨rfl, rfl, ?_, ?_⟩ <;> simp only [rm_X2_promptsBehind, rm_X2_seekWays_7] <;> omega) dX2_seekWays_150 rfl (Nat.le_of_ble_eq_true rfl) ?_
              refine y_iload C dX2_seekWays_153 7 rfl ?_
              refine y_iload C dX2_seekWays_155 0 rfl ?_
              refine y_iload C dX2_seekWays_157 6 rfl ?_
              obtain ⟨j5, ek_j5, hf⟩ := lt_e hf
              have h_j5 : ∀ (v6 : Int32), j5 v6 = some q → Y E p l e (rm_X2_seekWays_7 (d + 1)) s m ([.ref (qAd E 7), .int x1, .int x2, .int x3, .int x4, .int x5] : List Value).toArray below meth c 8 (MQ below (PV E q τ) ([.ref (qAd E 7), .int x1, .int x2, .int x3, .int x4, .int x5] : List Value).toArray s 0 0 (qA E)) a2.2 τ 167 [(0, .ref (qAd E 7)), (1, .int x1), (2, .int x2), (3, .int x3), (4, .int x4), (5, .int x5), (6, .int a2.1)] [.int v6, .int x5, .int (fX2_promptsBehind q4 x4), .int (fX2_clappingBehind x3 q4 x4), .int (x2 ||| ((1 : Int32) <<< (a2.1 &&& 31))), .int (x1 + (1 : Int32)), .ref (qAd E 7)] := by
                intro v6 hf
                replace hf := (congrFun (ek_j5) v6).symm.trans hf
                refine y_iadd C dX2_seekWays_167 ?_
                obtain ⟨q7, h_q7, hf⟩ := bd_e hf
                refine y_cVv C (ihd a2.2 τ (x1 + (1 : Int32)) (x2 ||| ((1 : Int32) <<< (a2.1 &&& 31))) (fX2_clappingBehind x3 q4 x4) (fX2_promptsBehind q4 x4) (x5 + v6) _ h_q7) vi_X2_seekWays ml_X2_147 ⟨2, _, o7, rfl, rfl⟩ rfl (rk_X2_seekWays_7_self d) dX2_seekWays_168 rfl (Nat.le_of_ble_eq_true rfl) ?_
                refine y_iinc C dX2_seekWays_171 6 rfl (Nat.le_of_ble_eq_true rfl) (k2 := 1) (by decide) rfl (lv' := [(6, .int (a2.1 + (1 : Int32))), (0, .ref (qAd E 7)), (1, .int x1), (2, .int x2), (3, .int x3), (4, .int x4), (5, .int x5)]) rfl ?_
                refine y_goto C 92 dX2_seekWays_174 (by decide) ?_
                refine y_sub [0, 1, 2, 3, 4, 5, 6] rfl ?_
                exact ih_r3 ((a2.1 + (1 : Int32)), q7) hf
              refine y_icmp_gt C 166 dX2_seekWays_159 (by decide) hf (fun hf => ?_) (fun hf => ?_)
              · refine y_iconst C (v := 0) dX2_seekWays_166 (by decide) ?_
                refine y_sub [2, 3, 4, 5, 6, 7, 1] rfl ?_
                exact h_j5 (0 : Int32) hf
              · refine y_iconst C (v := 1) dX2_seekWays_162 (by decide) ?_
                refine y_goto C 167 dX2_seekWays_163 (by decide) ?_
                refine y_sub [2, 3, 4, 5, 6, 7, 1] rfl ?_
                exact h_j5 (1 : Int32) hf
        · exact y_vret C (Option.some.inj hf) rfl dX2_seekWays_75
    · refine y_aload_n C dX2_seekWays_9 rfl 0 rfl ?_
      refine y_dup C dX2_seekWays_10 rfl ?_
      refine g7_wayCount C fl_X2_140 dX2_seekWays_11 ?_
      refine y_aload_n C dX2_seekWays_14 rfl 0 rfl ?_
      refine y_aload_n C dX2_seekWays_15 rfl 0 rfl ?_
      refine g7_script C fl_X2_33 dX2_seekWays_16 ?_
      refine gN5_sceneCount C fn_X2_48 dX2_seekWays_19 ?_
      refine y_iload_n C dX2_seekWays_22 rfl 1 rfl ?_
      refine y_isub C dX2_seekWays_23 ?_
      refine y_aload_n C dX2_seekWays_24 rfl 0 rfl ?_
      refine y_iload_n C dX2_seekWays_25 rfl 2 rfl ?_
      refine y_cVi C (kX2_freeCount_7 l E σ τ x2 _ rfl) vi_X2_freeCount ml_X2_53 ⟨2, _, o7, rfl, rfl⟩ rfl (by refine ⟨rfl, rfl, ?_, ?_⟩ <;> simp only [rm_X2_freeCount_7, rm_X2_seekWays_7] <;> omega) dX2_seekWays_26 rfl (Nat.le_of_ble_eq_true rfl) ?_
      obtain ⟨q8, h_q8, hf⟩ := bd_e hf
      refine y_cVi C (kX2_plansFor_7 l E σ τ ((gI σ 8) - x1) (fX2_freeCount_7 x2 σ) _ h_q8) vi_X2_plansFor ml_X2_150 ⟨2, _, o7, rfl, rfl⟩ rfl (by refine ⟨rfl, rfl, ?_, ?_⟩ <;> simp only [rm_X2_plansFor_7, rm_X2_seekWays_7] <;> omega) dX2_seekWays_29 rfl (Nat.le_of_ble_eq_true rfl) ?_
      refine y_i2l C dX2_seekWays_32 ?_
      refine y_ladd C dX2_seekWays_33 ?_
      obtain ⟨S9, e_S9, hf⟩ := lt_e hf
      refine p7_wayCount C fl_X2_140 e_S9 dX2_seekWays_34 ?_
      refine y_aload_n C dX2_seekWays_37 rfl 0 rfl ?_
      refine y_dup C dX2_seekWays_38 rfl ?_
      refine g7_calledInAll C fl_X2_144 dX2_seekWays_39 ?_
      refine y_iload_n C dX2_seekWays_42 rfl 2 rfl ?_
      refine y_iand C dX2_seekWays_43 ?_
      obtain ⟨S10, e_S10, hf⟩ := lt_e hf
      refine p7_calledInAll C fl_X2_144 e_S10 dX2_seekWays_44 ?_
      exact y_vret C (Option.some.inj hf) rfl dX2_seekWays_47
noncomputable def fX2_findWays_7 (x1 : Int32) (σ : QS) : Option (QS) :=
    Option.bind (fX0_allowed_6 σ) (fun (q1 : Int32) => lt_ (pI σ 19 q1) (fun (S2 : QS) => lt_ (pI S2 24 x1) (fun (S3 : QS) => lt_ (pJ S3 2 (0 : Int64)) (fun (S4 : QS) => lt_ (pI S4 25 ((gI S4 14) ^^^ (-1 : Int32))) (fun (S5 : QS) => Option.bind (fX2_seekWays_7 DP (gI S5 13) (gI S5 14) (gI S5 17) (gI S5 15) (0 : Int32) S5) (fun (q6 : QS) => lt_ (fun (v8 : Int32) => lt_ (pI q6 25 v8) (fun (S9 : QS) => some S9)) (fun (j7 : Int32 → Option (QS)) => (if (lg_cmp (gJ q6 2) (0 : Int64)) = 0 then j7 (0 : Int32) else j7 (gI q6 25)))))))))
def rm_X2_findWays_7 : Room := { frames := 13, cells := 0, slots := 0, locals := 337 }
set_option maxRecDepth 100000 in
set_option maxHeartbeats 4000000 in
theorem kX2_findWays_7 (l : Launch) (E : QE) (σ τ : QS) (x1 : Int32) (q : QS) (hf : fX2_findWays_7 x1 σ = some q) : KQ l yX2_findWays cX2_findWays 2 none rm_X2_findWays_7 E [.ref (qAd E 7), .int x1] σ τ (PV E q τ) := by
  unfold fX2_findWays_7 at hf
  refine y_met rfl (Nat.le_of_ble_eq_true rfl) rfl (fun p e s m below meth c C => ?_)
  refine y_aload_n C dX2_findWays_0 rfl 0 rfl ?_
  refine y_aload_n C dX2_findWays_1 rfl 0 rfl ?_
  refine g7_night C fl_X2_23 dX2_findWays_2 ?_
  obtain ⟨q1, h_q1, hf⟩ := bd_e hf
  refine y_cVi C (kX0_allowed_6 l E σ τ _ h_q1) vi_X0_allowed ml_X2_127 ⟨0, _, o6, rfl, rfl⟩ rfl ⟨rfl, rfl, Nat.le_of_ble_eq_true rfl, Nat.le_of_ble_eq_true rfl⟩ dX2_findWays_5 rfl (Nat.le_of_ble_eq_true rfl) ?_
  obtain ⟨S2, e_S2, hf⟩ := lt_e hf
  refine p7_allowed C fl_X2_34 e_S2 dX2_findWays_8 ?_
  refine y_aload_n C dX2_findWays_11 rfl 0 rfl ?_
  refine y_iload_n C dX2_findWays_12 rfl 1 rfl ?_
  obtain ⟨S3, e_S3, hf⟩ := lt_e hf
  refine p7_wanted C fl_X2_137 e_S3 dX2_findWays_13 ?_
  refine y_aload_n C dX2_findWays_16 rfl 0 rfl ?_
  refine y_lconst C (v := 0) dX2_findWays_17 (by decide) ?_
  obtain ⟨S4, e_S4, hf⟩ := lt_e hf
  refine p7_wayCount C fl_X2_140 e_S4 dX2_findWays_18 ?_
  refine y_aload_n C dX2_findWays_21 rfl 0 rfl ?_
  refine y_aload_n C dX2_findWays_22 rfl 0 rfl ?_
  refine g7_night C fl_X2_23 dX2_findWays_23 ?_
  refine gN6_called C fn_X2_62 dX2_findWays_26 ?_
  refine y_iconst C (v := -1) dX2_findWays_29 (by decide) ?_
  refine y_ixor C dX2_findWays_30 ?_
  obtain ⟨S5, e_S5, hf⟩ := lt_e hf
  refine p7_calledInAll C fl_X2_144 e_S5 dX2_findWays_31 ?_
  refine y_aload_n C dX2_findWays_34 rfl 0 rfl ?_
  refine y_aload_n C dX2_findWays_35 rfl 0 rfl ?_
  refine g7_night C fl_X2_23 dX2_findWays_36 ?_
  refine gN6_scene C fn_X2_82 dX2_findWays_39 ?_
  refine y_aload_n C dX2_findWays_42 rfl 0 rfl ?_
  refine g7_night C fl_X2_23 dX2_findWays_43 ?_
  refine gN6_called C fn_X2_62 dX2_findWays_46 ?_
  refine y_aload_n C dX2_findWays_49 rfl 0 rfl ?_
  refine g7_night C fl_X2_23 dX2_findWays_50 ?_
  refine gN6_clapping C fn_X2_68 dX2_findWays_53 ?_
  refine y_aload_n C dX2_findWays_56 rfl 0 rfl ?_
  refine g7_night C fl_X2_23 dX2_findWays_57 ?_
  refine gN6_promptsLeft C fn_X2_65 dX2_findWays_60 ?_
  refine y_iconst C (v := 0) dX2_findWays_63 (by decide) ?_
  obtain ⟨q6, h_q6, hf⟩ := bd_e hf
  refine y_cVv C (kX2_seekWays_7 l E DP S5 τ (gI S5 13) (gI S5 14) (gI S5 17) (gI S5 15) (0 : Int32) _ h_q6) vi_X2_seekWays ml_X2_147 ⟨2, _, o7, rfl, rfl⟩ rfl ⟨rfl, rfl, Nat.le_of_ble_eq_true rfl, Nat.le_of_ble_eq_true rfl⟩ dX2_findWays_64 rfl (Nat.le_of_ble_eq_true rfl) ?_
  refine y_aload_n C dX2_findWays_67 rfl 0 rfl ?_
  refine y_aload_n C dX2_findWays_68 rfl 0 rfl ?_
  refine g7_wayCount C fl_X2_140 dX2_findWays_69 ?_
  refine y_lconst C (v := 0) dX2_findWays_72 (by decide) ?_
  refine y_lcmp C dX2_findWays_73 ?_
  obtain ⟨j7, ek_j7, hf⟩ := lt_e hf
  have h_j7 : ∀ (v8 : Int32), j7 v8 = some q → Y E p l e rm_X2_findWays_7 s m ([.ref (qAd E 7), .int x1] : List Value).toArray below meth c 2 (MQ below (PV E q τ) ([.ref (qAd E 7), .int x1] : List Value).toArray s 0 0 (qA E)) q6 τ 85 [] [.int v8, .ref (qAd E 7)] := by
    intro v8 hf
    replace hf := (congrFun (ek_j7) v8).symm.trans hf
    obtain ⟨S9, e_S9, hf⟩ := lt_e hf
    refine p7_calledInAll C fl_X2_144 e_S9 dX2_findWays_85 ?_
    exact y_vret C (Option.some.inj hf) rfl dX2_findWays_88
  refine y_if_ne C 81 dX2_findWays_74 (by decide) hf (fun hf => ?_) (fun hf => ?_)
  · refine y_aload_n C dX2_findWays_81 rfl 0 rfl ?_
    refine g7_calledInAll C fl_X2_144 dX2_findWays_82 ?_
    refine y_sub [] rfl ?_
    exact h_j7 (gI q6 25) hf
  · refine y_iconst C (v := 0) dX2_findWays_77 (by decide) ?_
    refine y_goto C 85 dX2_findWays_78 (by decide) ?_
    refine y_sub [] rfl ?_
    exact h_j7 (0 : Int32) hf
noncomputable def fJ9_abs_067f4 (x0 : Int64) : Int64 :=
    (if 0 ≤ (lg_cmp x0 (0 : Int64)) then x0 else (-x0))
def rm_J9_abs_067f4 : Room := { frames := 0, cells := 0, slots := 0, locals := 0 }
set_option maxRecDepth 100000 in
set_option maxHeartbeats 4000000 in
theorem kJ9_abs_067f4 (l : Launch) (E : QE) (σ τ : QS) (x0 : Int64) (q : Int64) (hf : fJ9_abs_067f4 x0 = q) : KQ l yJ9_abs_067f4 cJ9_abs_067f4 2 (some .long) rm_J9_abs_067f4 E [.long x0] σ τ (PL E q σ τ) := by
  unfold fJ9_abs_067f4 at hf
  refine y_metF pl_J9_abs_067f4 (Nat.le_of_ble_eq_true rfl) rfl (fun p e s m below meth c C => ?_)
  refine y_lload_n C dJ9_abs_067f4_0 rfl 0 rfl ?_
  refine y_lconst C (v := 0) dJ9_abs_067f4_1 (by decide) ?_
  refine y_lcmp C dJ9_abs_067f4_2 ?_
  refine y_if_ge C 11 dJ9_abs_067f4_3 (by decide) hf (fun hf => ?_) (fun hf => ?_)
  · refine y_lload_n C dJ9_abs_067f4_11 rfl 0 rfl ?_
    exact y_lret C hf rfl rfl dJ9_abs_067f4_12
  · refine y_lload_n C dJ9_abs_067f4_6 rfl 0 rfl ?_
    refine y_lneg C dJ9_abs_067f4_7 ?_
    refine y_goto C 12 dJ9_abs_067f4_8 (by decide) ?_
    exact y_lret C hf rfl rfl dJ9_abs_067f4_12
noncomputable def fX4_greatestDivisor (x0 : Int64) (x1 : Int64) : Option (Int64) :=
    lp_ (fun (r2 : Int64 × Int64 × Int32 → Option (Int64)) (a1 : Int64 × Int64 × Int32) => (if (100 : Int32) ≤ a1.2.2 then some a1.1 else (if (lg_cmp a1.2.1 (0 : Int64)) = 0 then some a1.1 else ck_ (ne0L a1.2.1) (lt_ (a1.1 - a1.1 / a1.2.1 * a1.2.1) (fun (v4 : Int64) => r2 (a1.2.1, v4, (a1.2.2 + (1 : Int32)))))))) FV (x0, x1, (0 : Int32))
def rm_X4_greatestDivisor : Room := { frames := 0, cells := 0, slots := 0, locals := 0 }
set_option maxRecDepth 100000 in
set_option maxHeartbeats 4000000 in
theorem kX4_greatestDivisor (l : Launch) (E : QE) (σ τ : QS) (x0 : Int64) (x1 : Int64) (q : Int64) (hf : fX4_greatestDivisor x0 x1 = some q) : KQ l yX4_greatestDivisor cX4_greatestDivisor 11 (some .long) rm_X4_greatestDivisor E [.long x0, .long x1] σ τ (PL E q σ τ) := by
  unfold fX4_greatestDivisor at hf
  refine y_met rfl (Nat.le_of_ble_eq_true rfl) rfl (fun p e s m below meth c C => ?_)
  refine y_lload_n C dX4_greatestDivisor_0 rfl 0 rfl ?_
  refine y_lstore C dX4_greatestDivisor_1 (Nat.le_of_ble_eq_true rfl) rfl (lv' := [(4, .long x0), (0, .long x0), (2, .long x1)]) rfl ?_
  refine y_lload_n C dX4_greatestDivisor_3 rfl 2 rfl ?_
  refine y_lstore C dX4_greatestDivisor_4 (Nat.le_of_ble_eq_true rfl) rfl (lv' := [(6, .long x1), (4, .long x0), (0, .long x0), (2, .long x1)]) rfl ?_
  refine y_iconst C (v := 0) dX4_greatestDivisor_6 (by decide) ?_
  refine y_istore C dX4_greatestDivisor_7 (Nat.le_of_ble_eq_true rfl) rfl (lv' := [(8, .int (0 : Int32)), (6, .long x1), (4, .long x0), (0, .long x0), (2, .long x1)]) rfl ?_
  refine y_sub [0, 1, 2] rfl ?_
  refine lp_ind (P := fun a1 : Int64 × Int64 × Int32 => Y E p l e rm_X4_greatestDivisor s m ([.long x0, .long x1] : List Value).toArray below meth c 11 (MQ below (PL E q σ τ) ([.long x0, .long x1] : List Value).toArray s 0 0 (qA E)) σ τ 9 [(8, .int a1.2.2), (6, .long a1.2.1), (4, .long a1.1)] []) (fun r2 a1 ih_r2 hf => ?_) _ _ hf
  refine y_iload C dX4_greatestDivisor_9 0 rfl ?_
  refine y_bipush C (v := 100) dX4_greatestDivisor_11 (by decide) ?_
  refine y_icmp_ge C 44 dX4_greatestDivisor_13 (by decide) hf (fun hf => ?_) (fun hf => ?_)
  · refine y_lload C dX4_greatestDivisor_44 2 rfl ?_
    exact y_lret C (Option.some.inj hf) rfl rfl dX4_greatestDivisor_46
  · refine y_lload C dX4_greatestDivisor_16 1 rfl ?_
    refine y_lconst C (v := 0) dX4_greatestDivisor_18 (by decide) ?_
    refine y_lcmp C dX4_greatestDivisor_19 ?_
    refine y_if_eq C 44 dX4_greatestDivisor_20 (by decide) hf (fun hf => ?_) (fun hf => ?_)
    · refine y_lload C dX4_greatestDivisor_44 2 rfl ?_
      exact y_lret C (Option.some.inj hf) rfl rfl dX4_greatestDivisor_46
    · refine y_lload C dX4_greatestDivisor_23 2 rfl ?_
      refine y_lload C dX4_greatestDivisor_25 1 rfl ?_
      obtain ⟨hz3, hf⟩ := ck_e hf
      refine y_lrem C hz3 dX4_greatestDivisor_27 ?_
      obtain ⟨v4, e_v4, hf⟩ := lt_e hf
      refine y_lstore C dX4_greatestDivisor_28 (Nat.le_of_ble_eq_true rfl) e_v4 (lv' := [(9, .long v4), (8, .int a1.2.2), (6, .long a1.2.1), (4, .long a1.1)]) rfl ?_
      refine y_lload C dX4_greatestDivisor_30 2 rfl ?_
      refine y_lstore C dX4_greatestDivisor_32 (Nat.le_of_ble_eq_true rfl) rfl (lv' := [(4, .long a1.2.1), (9, .long v4), (8, .int a1.2.2), (6, .long a1.2.1)]) rfl ?_
      refine y_lload C dX4_greatestDivisor_34 1 rfl ?_
      refine y_lstore C dX4_greatestDivisor_36 (Nat.le_of_ble_eq_true rfl) rfl (lv' := [(6, .long v4), (4, .long a1.2.1), (9, .long v4), (8, .int a1.2.2)]) rfl ?_
      refine y_iinc C dX4_greatestDivisor_38 3 rfl (Nat.le_of_ble_eq_true rfl) (k2 := 1) (by decide) rfl (lv' := [(8, .int (a1.2.2 + (1 : Int32))), (6, .long v4), (4, .long a1.2.1), (9, .long v4)]) rfl ?_
      refine y_goto C 9 dX4_greatestDivisor_41 (by decide) ?_
      refine y_sub [0, 1, 2] rfl ?_
      exact ih_r2 (a1.2.1, v4, (a1.2.2 + (1 : Int32))) hf
noncomputable def fX4_tellFraction_0 (x1 : Int64) (x2 : Int64) (σ : QS) : Option (QS) :=
    Option.bind (fX4_greatestDivisor (fJ9_abs_067f4 x1) x2) (fun (q1 : Int64) => (if (lg_cmp q1 (0 : Int64)) ≤ 0 then some σ else ck_ (ne0L q1) (lt_ (pJ σ 0 (x1 / q1)) (fun (S3 : QS) => ck_ (ne0L q1) (lt_ (pJ S3 1 (x2 / q1)) (fun (S5 : QS) => some S5))))))
def rm_X4_tellFraction_0 : Room := { frames := 1, cells := 0, slots := 0, locals := 30 }
set_option maxRecDepth 100000 in
set_option maxHeartbeats 4000000 in
theorem kX4_tellFraction_0 (l : Launch) (E : QE) (σ τ : QS) (x1 : Int64) (x2 : Int64) (q : QS) (hf : fX4_tellFraction_0 x1 x2 σ = some q) : KQ l yX4_tellFraction cX4_tellFraction 7 none rm_X4_tellFraction_0 E [.ref (qAd E 0), .long x1, .long x2] σ τ (PV E q τ) := by
  unfold fX4_tellFraction_0 at hf
  refine y_met rfl (Nat.le_of_ble_eq_true rfl) rfl (fun p e s m below meth c C => ?_)
  refine y_lload_n C dX4_tellFraction_0 rfl 1 rfl ?_
  refine y_cSl C (kJ9_abs_067f4 l E σ τ x1 _ rfl) si_J9_abs_067f4 ml_X4_305 rfl ⟨rfl, rfl, Nat.le_of_ble_eq_true rfl, Nat.le_of_ble_eq_true rfl⟩ dX4_tellFraction_1 rfl (Nat.le_of_ble_eq_true rfl) ?_
  refine y_lload_n C dX4_tellFraction_4 rfl 2 rfl ?_
  obtain ⟨q1, h_q1, hf⟩ := bd_e hf
  refine y_cSl C (kX4_greatestDivisor l E σ τ (fJ9_abs_067f4 x1) x2 _ h_q1) si_X4_greatestDivisor ml_X4_308 rfl ⟨rfl, rfl, Nat.le_of_ble_eq_true rfl, Nat.le_of_ble_eq_true rfl⟩ dX4_tellFraction_5 rfl (Nat.le_of_ble_eq_true rfl) ?_
  refine y_lstore C dX4_tellFraction_8 (Nat.le_of_ble_eq_true rfl) rfl (lv' := [(5, .long q1), (0, .ref (qAd E 0)), (1, .long x1), (3, .long x2)]) rfl ?_
  refine y_lload C dX4_tellFraction_10 0 rfl ?_
  refine y_lconst C (v := 0) dX4_tellFraction_12 (by decide) ?_
  refine y_lcmp C dX4_tellFraction_13 ?_
  refine y_if_le C 33 dX4_tellFraction_14 (by decide) hf (fun hf => ?_) (fun hf => ?_)
  · exact y_vret C (Option.some.inj hf) rfl dX4_tellFraction_33
  · refine y_aload_n C dX4_tellFraction_17 rfl 1 rfl ?_
    refine y_lload_n C dX4_tellFraction_18 rfl 2 rfl ?_
    refine y_lload C dX4_tellFraction_19 0 rfl ?_
    obtain ⟨hz2, hf⟩ := ck_e hf
    refine y_ldiv C hz2 dX4_tellFraction_21 ?_
    obtain ⟨S3, e_S3, hf⟩ := lt_e hf
    refine p0_upperTold C fl_X4_283 e_S3 dX4_tellFraction_22 ?_
    refine y_aload_n C dX4_tellFraction_25 rfl 1 rfl ?_
    refine y_lload_n C dX4_tellFraction_26 rfl 3 rfl ?_
    refine y_lload C dX4_tellFraction_27 0 rfl ?_
    obtain ⟨hz4, hf⟩ := ck_e hf
    refine y_ldiv C hz4 dX4_tellFraction_29 ?_
    obtain ⟨S5, e_S5, hf⟩ := lt_e hf
    refine p0_lowerTold C fl_X4_56 e_S5 dX4_tellFraction_30 ?_
    exact y_vret C (Option.some.inj hf) rfl dX4_tellFraction_33
noncomputable def fX4_ways_0 (x1 : Int32) (σ : QS) : Option (Int32 × QS) :=
    (if x1 < 0 then some ((-1 : Int32), σ) else (if x1 ≤ (6 : Int32) then (if (gI σ 9) = 0 then some ((-4 : Int32), σ) else Option.bind (fX2_findWays_7 x1 σ) (fun (q1 : QS) => Option.bind (fX4_tellFraction_0 (gJ q1 2) (1 : Int64) q1) (fun (q2 : QS) => lt_ (fX4_tell_0 (gI q2 25) q2) (fun (q3 : Int32 × QS) => some (q3.1, q3.2))))) else some ((-1 : Int32), σ)))
def rm_X4_ways_0 : Room := { frames := 14, cells := 0, slots := 0, locals := 358 }
set_option maxRecDepth 100000 in
set_option maxHeartbeats 4000000 in
theorem kX4_ways_0 (l : Launch) (E : QE) (σ τ : QS) (x1 : Int32) (q : Int32 × QS) (hf : fX4_ways_0 x1 σ = some q) : KQ l yX4_ways cX4_ways 2 (some .int) rm_X4_ways_0 E [.ref (qAd E 0), .int x1] σ τ (PI E q.1 q.2 τ) := by
  unfold fX4_ways_0 at hf
  refine y_met rfl (Nat.le_of_ble_eq_true rfl) rfl (fun p e s m below meth c C => ?_)
  refine y_iload_n C dX4_ways_0 rfl 1 rfl ?_
  refine y_if_lt C 10 dX4_ways_1 (by decide) hf (fun hf => ?_) (fun hf => ?_)
  · refine y_iconst C (v := -1) dX4_ways_10 (by decide) ?_
    exact y_iret C (rs1 hf) (rs2 hf) rfl dX4_ways_11
  · refine y_iload_n C dX4_ways_4 rfl 1 rfl ?_
    refine y_bipush C (v := 6) dX4_ways_5 (by decide) ?_
    refine y_icmp_le C 12 dX4_ways_7 (by decide) hf (fun hf => ?_) (fun hf => ?_)
    · refine y_aload_n C dX4_ways_12 rfl 0 rfl ?_
      refine g0_script C fl_X4_31 dX4_ways_13 ?_
      refine gN5_sitterCount C fn_X4_114 dX4_ways_16 ?_
      refine y_if_ne C 25 dX4_ways_19 (by decide) hf (fun hf => ?_) (fun hf => ?_)
      · refine y_aload_n C dX4_ways_25 rfl 0 rfl ?_
        refine g0_search C fl_X4_48 dX4_ways_26 ?_
        refine y_iload_n C dX4_ways_29 rfl 1 rfl ?_
        obtain ⟨q1, h_q1, hf⟩ := bd_e hf
        refine y_cVv C (kX2_findWays_7 l E σ τ x1 _ h_q1) vi_X2_findWays ml_X4_206 ⟨2, _, o7, rfl, rfl⟩ rfl ⟨rfl, rfl, Nat.le_of_ble_eq_true rfl, Nat.le_of_ble_eq_true rfl⟩ dX4_ways_30 rfl (Nat.le_of_ble_eq_true rfl) ?_
        refine y_aload_n C dX4_ways_33 rfl 0 rfl ?_
        refine y_aload_n C dX4_ways_34 rfl 0 rfl ?_
        refine g0_search C fl_X4_48 dX4_ways_35 ?_
        refine gN7_wayCount C fn_X4_209 dX4_ways_38 ?_
        refine y_lconst C (v := 1) dX4_ways_41 (by decide) ?_
        obtain ⟨q2, h_q2, hf⟩ := bd_e hf
        refine y_cVv C (kX4_tellFraction_0 l E q1 τ (gJ q1 2) (1 : Int64) _ h_q2) vi_X4_tellFraction ml_X4_212 ⟨4, _, o0, rfl, rfl⟩ rfl ⟨rfl, rfl, Nat.le_of_ble_eq_true rfl, Nat.le_of_ble_eq_true rfl⟩ dX4_ways_42 rfl (Nat.le_of_ble_eq_true rfl) ?_
        refine y_aload_n C dX4_ways_45 rfl 0 rfl ?_
        refine y_aload_n C dX4_ways_46 rfl 0 rfl ?_
        refine g0_search C fl_X4_48 dX4_ways_47 ?_
        refine gN7_calledInAll C fn_X4_216 dX4_ways_50 ?_
        obtain ⟨q3, e_q3, hf⟩ := lt_e hf
        refine y_cVi C (kX4_tell_0 l E q2 τ (gI q2 25) _ e_q3.symm) vi_X4_tell ml_X4_83 ⟨4, _, o0, rfl, rfl⟩ rfl ⟨rfl, rfl, Nat.le_of_ble_eq_true rfl, Nat.le_of_ble_eq_true rfl⟩ dX4_ways_53 rfl (Nat.le_of_ble_eq_true rfl) ?_
        exact y_iret C (rs1 hf) (rs2 hf) rfl dX4_ways_56
      · refine y_bipush C (v := -4) dX4_ways_22 (by decide) ?_
        exact y_iret C (rs1 hf) (rs2 hf) rfl dX4_ways_24
    · refine y_iconst C (v := -1) dX4_ways_10 (by decide) ?_
      exact y_iret C (rs1 hf) (rs2 hf) rfl dX4_ways_11
noncomputable def fX5_ways_50 (x1 : Int32) (τ : QS) : Option (Int32 × QS) :=
    (if (fX5_in x1.toInt64 (0 : Int64) (6 : Int64)) = 0 then some ((-1 : Int32), τ) else (if (gI τ 1) = 0 then some ((-4 : Int32), τ) else lt_ (pJ τ 0 (0 : Int64)) (fun (S1 : QS) => lt_ (pJ S1 1 (1 : Int64)) (fun (S2 : QS) => Option.bind (fX5_beginPlans_50 (gM S2 51 2) S2) (fun (q3 : QS) => lp_ (fun (r5 : Int32 × QS → Option (Int32 × QS)) (a4 : Int32 × QS) => Option.bind (fX5_nextPlan_50 a4.2) (fun (q6 : Int32 × QS) => (if q6.1 = 0 then lt_ (fun (v8 : Int32) => lt_ (pI q6.2 2 v8) (fun (S9 : QS) => some ((1 : Int32), S9))) (fun (j7 : Int32 → Option (Int32 × QS)) => (if (lg_cmp (gJ q6.2 0) (0 : Int64)) = 0 then j7 (0 : Int32) else j7 a4.1)) else ck_ (inb (gI q6.2 11) 7) ((if (gM q6.2 65 ((gI q6.2 11).toNatClampNeg)) < x1 then r5 (a4.1, q6.2) else lt_ (pJ q6.2 0 ((gJ q6.2 0) + (1 : Int64))) (fun (S11 : QS) => ck_ (inb (gI S11 11) 7) (lt_ (a4.1 &&& ((gM S11 66 ((gI S11 11).toNatClampNeg)) &&& ((gM S11 51 6) ^^^ (-1 : Int32)))) (fun (v13 : Int32) => r5 (v13, S11))))))))) FV ((63 : Int32), q3))))))
def rm_X5_ways_50 : Room := { frames := 7, cells := 0, slots := 0, locals := 162 }
set_option maxRecDepth 100000 in
set_option maxHeartbeats 4000000 in
theorem kX5_ways_50 (l : Launch) (E : QE) (σ τ : QS) (x1 : Int32) (q : Int32 × QS) (hf : fX5_ways_50 x1 τ = some q) : KQ l yX5_ways cX5_ways 3 (some .int) rm_X5_ways_50 E [.ref (qAd E 50), .int x1] σ τ (PI E q.1 σ q.2) := by
  unfold fX5_ways_50 at hf
  refine y_met rfl (Nat.le_of_ble_eq_true rfl) rfl (fun p e s m below meth c C => ?_)
  refine y_iload_n C dX5_ways_0 rfl 1 rfl ?_
  refine y_i2l C dX5_ways_1 ?_
  refine y_lconst C (v := 0) dX5_ways_2 (by decide) ?_
  refine y_ldc2 C kl_X5_268 dX5_ways_3 ?_
  refine y_cSi C (kX5_in l E σ τ x1.toInt64 (0 : Int64) (6 : Int64) _ rfl) si_X5_in ml_X5_77 rfl ⟨rfl, rfl, Nat.le_of_ble_eq_true rfl, Nat.le_of_ble_eq_true rfl⟩ dX5_ways_6 rfl (Nat.le_of_ble_eq_true rfl) ?_
  refine y_if_ne C 14 dX5_ways_9 (by decide) hf (fun hf => ?_) (fun hf => ?_)
  · refine y_aload_n C dX5_ways_14 rfl 0 rfl ?_
    refine g50_sitters C fl_X5_163 dX5_ways_15 ?_
    refine y_if_ne C 24 dX5_ways_18 (by decide) hf (fun hf => ?_) (fun hf => ?_)
    · refine y_aload_n C dX5_ways_24 rfl 0 rfl ?_
      refine y_lconst C (v := 0) dX5_ways_25 (by decide) ?_
      obtain ⟨S1, e_S1, hf⟩ := lt_e hf
      refine p50_upper C fl_X5_270 e_S1 dX5_ways_26 ?_
      refine y_aload_n C dX5_ways_29 rfl 0 rfl ?_
      refine y_lconst C (v := 1) dX5_ways_30 (by decide) ?_
      obtain ⟨S2, e_S2, hf⟩ := lt_e hf
      refine p50_lower C fl_X5_37 e_S2 dX5_ways_31 ?_
      refine y_bipush C (v := 63) dX5_ways_34 (by decide) ?_
      refine y_istore_n C dX5_ways_36 rfl (Nat.le_of_ble_eq_true rfl) rfl (lv' := [(2, .int (63 : Int32)), (0, .ref (qAd E 50)), (1, .int x1)]) rfl ?_
      refine y_aload_n C dX5_ways_37 rfl 1 rfl ?_
      refine y_aload_n C dX5_ways_38 rfl 1 rfl ?_
      refine g50_row C fl_X5_7 dX5_ways_39 ?_
      refine y_iconst C (v := 2) dX5_ways_42 (by decide) ?_
      refine y_ialdR C a51 (j := 2) (by decide) (by decide) dX5_ways_43 ?_
      obtain ⟨q3, h_q3, hf⟩ := bd_e hf
      refine y_cVv C (kX5_beginPlans_50 l E σ S2 (gM S2 51 2) _ h_q3) vi_X5_beginPlans ml_X5_258 ⟨5, _, o50, rfl, rfl⟩ rfl ⟨rfl, rfl, Nat.le_of_ble_eq_true rfl, Nat.le_of_ble_eq_true rfl⟩ dX5_ways_44 rfl (Nat.le_of_ble_eq_true rfl) ?_
      refine y_sub [0, 1, 2] rfl ?_
      refine lp_ind (P := fun a4 : Int32 × QS => Y E p l e rm_X5_ways_50 s m ([.ref (qAd E 50), .int x1] : List Value).toArray below meth c 3 (MQ below (PI E q.1 σ q.2) ([.ref (qAd E 50), .int x1] : List Value).toArray s 0 0 (qA E)) σ a4.2 47 [(2, .int a4.1), (0, .ref (qAd E 50)), (1, .int x1)] []) (fun r5 a4 ih_r5 hf => ?_) _ _ hf
      refine y_aload_n C dX5_ways_47 rfl 1 rfl ?_
      obtain ⟨q6, h_q6, hf⟩ := bd_e hf
      refine y_cVi C (kX5_nextPlan_50 l E σ a4.2 _ h_q6) vi_X5_nextPlan ml_X5_265 ⟨5, _, o50, rfl, rfl⟩ rfl ⟨rfl, rfl, Nat.le_of_ble_eq_true rfl, Nat.le_of_ble_eq_true rfl⟩ dX5_ways_48 rfl (Nat.le_of_ble_eq_true rfl) ?_
      refine y_if_eq C 102 dX5_ways_51 (by decide) hf (fun hf => ?_) (fun hf => ?_)
      · refine y_aload_n C dX5_ways_102 rfl 1 rfl ?_
        refine y_aload_n C dX5_ways_103 rfl 1 rfl ?_
        refine g50_upper C fl_X5_270 dX5_ways_104 ?_
        refine y_lconst C (v := 0) dX5_ways_107 (by decide) ?_
        refine y_lcmp C dX5_ways_108 ?_
        obtain ⟨j7, ek_j7, hf⟩ := lt_e hf
        have h_j7 : ∀ (v8 : Int32), j7 v8 = some q → Y E p l e rm_X5_ways_50 s m ([.ref (qAd E 50), .int x1] : List Value).toArray below meth c 3 (MQ below (PI E q.1 σ q.2) ([.ref (qAd E 50), .int x1] : List Value).toArray s 0 0 (qA E)) σ q6.2 117 [] [.int v8, .ref (qAd E 50)] := by
          intro v8 hf
          replace hf := (congrFun (ek_j7) v8).symm.trans hf
          obtain ⟨S9, e_S9, hf⟩ := lt_e hf
          refine p50_asked C fl_X5_72 e_S9 dX5_ways_117 ?_
          refine y_iconst C (v := 1) dX5_ways_120 (by decide) ?_
          exact y_iret C (rs1 hf) rfl (rs2 hf) dX5_ways_121
        refine y_if_ne C 116 dX5_ways_109 (by decide) hf (fun hf => ?_) (fun hf => ?_)
        · refine y_iload_n C dX5_ways_116 rfl 0 rfl ?_
          refine y_sub [] rfl ?_
          exact h_j7 a4.1 hf
        · refine y_iconst C (v := 0) dX5_ways_112 (by decide) ?_
          refine y_goto C 117 dX5_ways_113 (by decide) ?_
          refine y_sub [] rfl ?_
          exact h_j7 (0 : Int32) hf
      · refine y_aload_n C dX5_ways_54 rfl 1 rfl ?_
        refine g50_planCarried C fl_X5_56 dX5_ways_55 ?_
        refine y_aload_n C dX5_ways_58 rfl 1 rfl ?_
        refine g50_planMany C fl_X5_245 dX5_ways_59 ?_
        obtain ⟨hi10, hf⟩ := ck_e hf
        refine y_ialdR C a65 (j := (gI q6.2 11).toNatClampNeg) rfl hi10 dX5_ways_62 ?_
        refine y_iload_n C dX5_ways_63 rfl 2 rfl ?_
        refine y_icmp_lt C 47 dX5_ways_64 (by decide) hf (fun hf => ?_) (fun hf => ?_)
        · refine y_sub [0, 1, 2] rfl ?_
          exact ih_r5 (a4.1, q6.2) hf
        · refine y_aload_n C dX5_ways_67 rfl 1 rfl ?_
          refine y_dup C dX5_ways_68 rfl ?_
          refine g50_upper C fl_X5_270 dX5_ways_69 ?_
          refine y_lconst C (v := 1) dX5_ways_72 (by decide) ?_
          refine y_ladd C dX5_ways_73 ?_
          obtain ⟨S11, e_S11, hf⟩ := lt_e hf
          refine p50_upper C fl_X5_270 e_S11 dX5_ways_74 ?_
          refine y_iload_n C dX5_ways_77 rfl 0 rfl ?_
          refine y_aload_n C dX5_ways_78 rfl 1 rfl ?_
          refine g50_planCalled C fl_X5_59 dX5_ways_79 ?_
          refine y_aload_n C dX5_ways_82 rfl 1 rfl ?_
          refine g50_planMany C fl_X5_245 dX5_ways_83 ?_
          obtain ⟨hi12, hf⟩ := ck_e hf
          refine y_ialdR C a66 (j := (gI S11 11).toNatClampNeg) rfl hi12 dX5_ways_86 ?_
          refine y_aload_n C dX5_ways_87 rfl 1 rfl ?_
          refine g50_row C fl_X5_7 dX5_ways_88 ?_
          refine y_bipush C (v := 6) dX5_ways_91 (by decide) ?_
          refine y_ialdR C a51 (j := 6) (by decide) (by decide) dX5_ways_93 ?_
          refine y_iconst C (v := -1) dX5_ways_94 (by decide) ?_
          refine y_ixor C dX5_ways_95 ?_
          refine y_iand C dX5_ways_96 ?_
          refine y_iand C dX5_ways_97 ?_
          obtain ⟨v13, e_v13, hf⟩ := lt_e hf
          refine y_istore_n C dX5_ways_98 rfl (Nat.le_of_ble_eq_true rfl) e_v13 (lv' := [(2, .int v13), (0, .ref (qAd E 50)), (1, .int x1)]) rfl ?_
          refine y_goto C 47 dX5_ways_99 (by decide) ?_
          refine y_sub [0, 1, 2] rfl ?_
          exact ih_r5 (v13, S11) hf
    · refine y_bipush C (v := -4) dX5_ways_21 (by decide) ?_
      exact y_iret C (rs1 hf) rfl (rs2 hf) dX5_ways_23
  · refine y_iconst C (v := -1) dX5_ways_12 (by decide) ?_
    exact y_iret C (rs1 hf) rfl (rs2 hf) dX5_ways_13
noncomputable def fX0_allowedIfChanged_6 (x1 : Int32) (x2 : Int32) (σ : QS) : Option (Int32 × QS) :=
    Option.bind (fX0_exchange_6 x1 x2 σ) (fun (q1 : QS) => Option.bind (fX0_allowed_6 q1) (fun (q2 : Int32) => Option.bind (fX0_exchange_6 x1 x2 q1) (fun (q3 : QS) => some (q2, q3))))
def rm_X0_allowedIfChanged_6 : Room := { frames := 2, cells := 0, slots := 0, locals := 44 }
set_option maxRecDepth 100000 in
set_option maxHeartbeats 4000000 in
theorem kX0_allowedIfChanged_6 (l : Launch) (E : QE) (σ τ : QS) (x1 : Int32) (x2 : Int32) (q : Int32 × QS) (hf : fX0_allowedIfChanged_6 x1 x2 σ = some q) : KQ l yX0_allowedIfChanged cX0_allowedIfChanged 4 (some .int) rm_X0_allowedIfChanged_6 E [.ref (qAd E 6), .int x1, .int x2] σ τ (PI E q.1 q.2 τ) := by
  unfold fX0_allowedIfChanged_6 at hf
  refine y_met rfl (Nat.le_of_ble_eq_true rfl) rfl (fun p e s m below meth c C => ?_)
  refine y_aload_n C dX0_allowedIfChanged_0 rfl 0 rfl ?_
  refine y_iload_n C dX0_allowedIfChanged_1 rfl 1 rfl ?_
  refine y_iload_n C dX0_allowedIfChanged_2 rfl 2 rfl ?_
  obtain ⟨q1, h_q1, hf⟩ := bd_e hf
  refine y_cVv C (kX0_exchange_6 l E σ τ x1 x2 _ h_q1) vi_X0_exchange ml_X0_56 ⟨0, _, o6, rfl, rfl⟩ rfl ⟨rfl, rfl, Nat.le_of_ble_eq_true rfl, Nat.le_of_ble_eq_true rfl⟩ dX0_allowedIfChanged_3 rfl (Nat.le_of_ble_eq_true rfl) ?_
  refine y_aload_n C dX0_allowedIfChanged_6 rfl 0 rfl ?_
  obtain ⟨q2, h_q2, hf⟩ := bd_e hf
  refine y_cVi C (kX0_allowed_6 l E q1 τ _ h_q2) vi_X0_allowed ml_X0_85 ⟨0, _, o6, rfl, rfl⟩ rfl ⟨rfl, rfl, Nat.le_of_ble_eq_true rfl, Nat.le_of_ble_eq_true rfl⟩ dX0_allowedIfChanged_7 rfl (Nat.le_of_ble_eq_true rfl) ?_
  refine y_istore_n C dX0_allowedIfChanged_10 rfl (Nat.le_of_ble_eq_true rfl) rfl (lv' := [(3, .int q2), (0, .ref (qAd E 6)), (1, .int x1), (2, .int x2)]) rfl ?_
  refine y_aload_n C dX0_allowedIfChanged_11 rfl 1 rfl ?_
  refine y_iload_n C dX0_allowedIfChanged_12 rfl 2 rfl ?_
  refine y_iload_n C dX0_allowedIfChanged_13 rfl 3 rfl ?_
  obtain ⟨q3, h_q3, hf⟩ := bd_e hf
  refine y_cVv C (kX0_exchange_6 l E q1 τ x1 x2 _ h_q3) vi_X0_exchange ml_X0_56 ⟨0, _, o6, rfl, rfl⟩ rfl ⟨rfl, rfl, Nat.le_of_ble_eq_true rfl, Nat.le_of_ble_eq_true rfl⟩ dX0_allowedIfChanged_14 rfl (Nat.le_of_ble_eq_true rfl) ?_
  refine y_iload_n C dX0_allowedIfChanged_17 rfl 0 rfl ?_
  exact y_iret C (rs1 hf) (rs2 hf) rfl dX0_allowedIfChanged_18
