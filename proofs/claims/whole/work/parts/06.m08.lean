noncomputable def fX5_call_50 (x1 : Int32) (τ : QS) : Option (Int32 × QS) :=
    (if (fX5_isSitter_50 x1 τ) = 0 then some ((-1 : Int32), τ) else (if (fX5_isOver_50 τ) = 0 then Option.bind (fX5_mayCall_50 x1 (gM τ 51 6) τ) (fun (q1 : Int32) => (if q1 = 0 then some ((-4 : Int32), τ) else (if (gM τ 51 0) = (40 : Int32) then some ((-2 : Int32), τ) else Option.bind (fX5_lacking_50 x1 (gM τ 51 1) (gM τ 51 4) (gM τ 51 6) τ) (fun (q2 : Int32) => lt_ (pI τ 2 q2) (fun (S3 : QS) => Option.bind (fX5_doCall_50 x1 S3) (fun (q4 : Int32 × QS) => some (q4.1, q4.2))))))) else some ((-4 : Int32), τ)))
def rm_X5_call_50 : Room := { frames := 6, cells := 0, slots := 0, locals := 138 }
set_option maxRecDepth 100000 in
set_option maxHeartbeats 4000000 in
theorem kX5_call_50 (l : Launch) (E : QE) (σ τ : QS) (x1 : Int32) (q : Int32 × QS) (hf : fX5_call_50 x1 τ = some q) : KQ l yX5_call cX5_call 2 (some .int) rm_X5_call_50 E [.ref (qAd E 50), .int x1] σ τ (PI E q.1 σ q.2) := by
  unfold fX5_call_50 at hf
  refine y_met rfl (Nat.le_of_ble_eq_true rfl) rfl (fun p e s m below meth c C => ?_)
  refine y_aload_n C dX5_call_0 rfl 0 rfl ?_
  refine y_iload_n C dX5_call_1 rfl 1 rfl ?_
  refine y_cVi C (kX5_isSitter_50 l E σ τ x1 _ rfl) vi_X5_isSitter ml_X5_198 ⟨5, _, o50, rfl, rfl⟩ rfl ⟨rfl, rfl, Nat.le_of_ble_eq_true rfl, Nat.le_of_ble_eq_true rfl⟩ dX5_call_2 rfl (Nat.le_of_ble_eq_true rfl) ?_
  refine y_if_ne C 10 dX5_call_5 (by decide) hf (fun hf => ?_) (fun hf => ?_)
  · refine y_aload_n C dX5_call_10 rfl 0 rfl ?_
    refine y_cVi C (kX5_isOver_50 l E σ τ _ rfl) vi_X5_isOver ml_X5_222 ⟨5, _, o50, rfl, rfl⟩ rfl ⟨rfl, rfl, Nat.le_of_ble_eq_true rfl, Nat.le_of_ble_eq_true rfl⟩ dX5_call_11 rfl (Nat.le_of_ble_eq_true rfl) ?_
    refine y_if_ne C 32 dX5_call_14 (by decide) hf (fun hf => ?_) (fun hf => ?_)
    · refine y_bipush C (v := -4) dX5_call_32 (by decide) ?_
      exact y_iret C (rs1 hf) rfl (rs2 hf) dX5_call_34
    · refine y_aload_n C dX5_call_17 rfl 0 rfl ?_
      refine y_iload_n C dX5_call_18 rfl 1 rfl ?_
      refine y_aload_n C dX5_call_19 rfl 0 rfl ?_
      refine g50_row C fl_X5_7 dX5_call_20 ?_
      refine y_bipush C (v := 6) dX5_call_23 (by decide) ?_
      refine y_ialdR C a51 (j := 6) (by decide) (by decide) dX5_call_25 ?_
      obtain ⟨q1, h_q1, hf⟩ := bd_e hf
      refine y_cVi C (kX5_mayCall_50 l E σ τ x1 (gM τ 51 6) _ h_q1) vi_X5_mayCall ml_X5_195 ⟨5, _, o50, rfl, rfl⟩ rfl ⟨rfl, rfl, Nat.le_of_ble_eq_true rfl, Nat.le_of_ble_eq_true rfl⟩ dX5_call_26 rfl (Nat.le_of_ble_eq_true rfl) ?_
      refine y_if_ne C 35 dX5_call_29 (by decide) hf (fun hf => ?_) (fun hf => ?_)
      · refine y_aload_n C dX5_call_35 rfl 0 rfl ?_
        refine g50_row C fl_X5_7 dX5_call_36 ?_
        refine y_iconst C (v := 0) dX5_call_39 (by decide) ?_
        refine y_ialdR C a51 (j := 0) (by decide) (by decide) dX5_call_40 ?_
        refine y_bipush C (v := 40) dX5_call_41 (by decide) ?_
        refine y_icmp_ne C 49 dX5_call_43 (by decide) hf (fun hf => ?_) (fun hf => ?_)
        · refine y_aload_n C dX5_call_49 rfl 0 rfl ?_
          refine y_aload_n C dX5_call_50 rfl 0 rfl ?_
          refine y_iload_n C dX5_call_51 rfl 1 rfl ?_
          refine y_aload_n C dX5_call_52 rfl 0 rfl ?_
          refine g50_row C fl_X5_7 dX5_call_53 ?_
          refine y_iconst C (v := 1) dX5_call_56 (by decide) ?_
          refine y_ialdR C a51 (j := 1) (by decide) (by decide) dX5_call_57 ?_
          refine y_aload_n C dX5_call_58 rfl 0 rfl ?_
          refine g50_row C fl_X5_7 dX5_call_59 ?_
          refine y_iconst C (v := 4) dX5_call_62 (by decide) ?_
          refine y_ialdR C a51 (j := 4) (by decide) (by decide) dX5_call_63 ?_
          refine y_aload_n C dX5_call_64 rfl 0 rfl ?_
          refine g50_row C fl_X5_7 dX5_call_65 ?_
          refine y_bipush C (v := 6) dX5_call_68 (by decide) ?_
          refine y_ialdR C a51 (j := 6) (by decide) (by decide) dX5_call_70 ?_
          obtain ⟨q2, h_q2, hf⟩ := bd_e hf
          refine y_cVi C (kX5_lacking_50 l E σ τ x1 (gM τ 51 1) (gM τ 51 4) (gM τ 51 6) _ h_q2) vi_X5_lacking ml_X5_218 ⟨5, _, o50, rfl, rfl⟩ rfl ⟨rfl, rfl, Nat.le_of_ble_eq_true rfl, Nat.le_of_ble_eq_true rfl⟩ dX5_call_71 rfl (Nat.le_of_ble_eq_true rfl) ?_
          obtain ⟨S3, e_S3, hf⟩ := lt_e hf
          refine p50_asked C fl_X5_72 e_S3 dX5_call_74 ?_
          refine y_aload_n C dX5_call_77 rfl 0 rfl ?_
          refine y_iload_n C dX5_call_78 rfl 1 rfl ?_
          obtain ⟨q4, h_q4, hf⟩ := bd_e hf
          refine y_cVi C (kX5_doCall_50 l E σ S3 x1 _ h_q4) vi_X5_doCall ml_X5_225 ⟨5, _, o50, rfl, rfl⟩ rfl ⟨rfl, rfl, Nat.le_of_ble_eq_true rfl, Nat.le_of_ble_eq_true rfl⟩ dX5_call_79 rfl (Nat.le_of_ble_eq_true rfl) ?_
          exact y_iret C (rs1 hf) rfl (rs2 hf) dX5_call_82
        · refine y_bipush C (v := -2) dX5_call_46 (by decide) ?_
          exact y_iret C (rs1 hf) rfl (rs2 hf) dX5_call_48
      · refine y_bipush C (v := -4) dX5_call_32 (by decide) ?_
        exact y_iret C (rs1 hf) rfl (rs2 hf) dX5_call_34
  · refine y_iconst C (v := -1) dX5_call_8 (by decide) ?_
    exact y_iret C (rs1 hf) rfl (rs2 hf) dX5_call_9
noncomputable def fX4_cut_0  (σ : QS) : Option (Int32 × QS) :=
    (if (fX0_scenesYet_6 σ) = 0 then some ((-4 : Int32), σ) else (if (gI σ 12) < (40 : Int32) then Option.bind (fX0_perform_6 (-9 : Int32) σ) (fun (q1 : QS) => some ((gI q1 13), q1)) else some ((-2 : Int32), σ)))
def rm_X4_cut_0 : Room := { frames := 6, cells := 0, slots := 0, locals := 137 }
set_option maxRecDepth 100000 in
set_option maxHeartbeats 4000000 in
theorem kX4_cut_0 (l : Launch) (E : QE) (σ τ : QS)  (q : Int32 × QS) (hf : fX4_cut_0 σ = some q) : KQ l yX4_cut cX4_cut 1 (some .int) rm_X4_cut_0 E [.ref (qAd E 0)] σ τ (PI E q.1 q.2 τ) := by
  unfold fX4_cut_0 at hf
  refine y_met rfl (Nat.le_of_ble_eq_true rfl) rfl (fun p e s m below meth c C => ?_)
  refine y_aload_n C dX4_cut_0 rfl 0 rfl ?_
  refine g0_night C fl_X4_39 dX4_cut_1 ?_
  refine y_cVi C (kX0_scenesYet_6 l E σ τ _ rfl) vi_X0_scenesYet ml_X4_140 ⟨0, _, o6, rfl, rfl⟩ rfl ⟨rfl, rfl, Nat.le_of_ble_eq_true rfl, Nat.le_of_ble_eq_true rfl⟩ dX4_cut_4 rfl (Nat.le_of_ble_eq_true rfl) ?_
  refine y_if_ne C 13 dX4_cut_7 (by decide) hf (fun hf => ?_) (fun hf => ?_)
  · refine y_aload_n C dX4_cut_13 rfl 0 rfl ?_
    refine g0_night C fl_X4_39 dX4_cut_14 ?_
    refine gN6_deedCount C fn_X4_150 dX4_cut_17 ?_
    refine y_bipush C (v := 40) dX4_cut_20 (by decide) ?_
    refine y_icmp_lt C 28 dX4_cut_22 (by decide) hf (fun hf => ?_) (fun hf => ?_)
    · refine y_aload_n C dX4_cut_28 rfl 0 rfl ?_
      refine g0_night C fl_X4_39 dX4_cut_29 ?_
      refine y_bipush C (v := -9) dX4_cut_32 (by decide) ?_
      obtain ⟨q1, h_q1, hf⟩ := bd_e hf
      refine y_cVv C (kX0_perform_6 l E σ τ (-9 : Int32) _ h_q1) vi_X0_perform ml_X4_159 ⟨0, _, o6, rfl, rfl⟩ rfl ⟨rfl, rfl, Nat.le_of_ble_eq_true rfl, Nat.le_of_ble_eq_true rfl⟩ dX4_cut_34 rfl (Nat.le_of_ble_eq_true rfl) ?_
      refine y_aload_n C dX4_cut_37 rfl 0 rfl ?_
      refine g0_night C fl_X4_39 dX4_cut_38 ?_
      refine gN6_scene C fn_X4_162 dX4_cut_41 ?_
      exact y_iret C (rs1 hf) (rs2 hf) rfl dX4_cut_44
    · refine y_bipush C (v := -2) dX4_cut_25 (by decide) ?_
      exact y_iret C (rs1 hf) (rs2 hf) rfl dX4_cut_27
  · refine y_bipush C (v := -4) dX4_cut_10 (by decide) ?_
    exact y_iret C (rs1 hf) (rs2 hf) rfl dX4_cut_12
noncomputable def fX5_doCut_50  (τ : QS) : Option (QS) :=
    Option.bind (fX5_keepPast_50 τ) (fun (q1 : QS) => lt_ (pM q1 51 (upd (gM q1 51) 1 ((gM q1 51 1) + (1 : Int32)))) (fun (S2 : QS) => some S2))
def rm_X5_doCut_50 : Room := { frames := 1, cells := 0, slots := 0, locals := 21 }
set_option maxRecDepth 100000 in
set_option maxHeartbeats 4000000 in
theorem kX5_doCut_50 (l : Launch) (E : QE) (σ τ : QS)  (q : QS) (hf : fX5_doCut_50 τ = some q) : KQ l yX5_doCut cX5_doCut 1 none rm_X5_doCut_50 E [.ref (qAd E 50)] σ τ (PV E σ q) := by
  unfold fX5_doCut_50 at hf
  refine y_met rfl (Nat.le_of_ble_eq_true rfl) rfl (fun p e s m below meth c C => ?_)
  refine y_aload_n C dX5_doCut_0 rfl 0 rfl ?_
  obtain ⟨q1, h_q1, hf⟩ := bd_e hf
  refine y_cVv C (kX5_keepPast_50 l E σ τ _ h_q1) vi_X5_keepPast ml_X5_215 ⟨5, _, o50, rfl, rfl⟩ rfl ⟨rfl, rfl, Nat.le_of_ble_eq_true rfl, Nat.le_of_ble_eq_true rfl⟩ dX5_doCut_1 rfl (Nat.le_of_ble_eq_true rfl) ?_
  refine y_aload_n C dX5_doCut_4 rfl 0 rfl ?_
  refine g50_row C fl_X5_7 dX5_doCut_5 ?_
  refine y_iconst C (v := 1) dX5_doCut_8 (by decide) ?_
  refine y_dup2 C dX5_doCut_9 rfl rfl ?_
  refine y_ialdR C a51 (j := 1) (by decide) (by decide) dX5_doCut_10 ?_
  refine y_iconst C (v := 1) dX5_doCut_11 (by decide) ?_
  refine y_iadd C dX5_doCut_12 ?_
  obtain ⟨S2, e_S2, hf⟩ := lt_e hf
  refine y_iastR C a51 (j := 1) (by decide) (by decide) e_S2 dX5_doCut_13 ?_
  exact y_vret C rfl (Option.some.inj hf) dX5_doCut_14
noncomputable def fX5_cut_50  (τ : QS) : Option (Int32 × QS) :=
    (if (fX5_isOver_50 τ) = 0 then (if (gM τ 51 0) = (40 : Int32) then some ((-2 : Int32), τ) else Option.bind (fX5_doCut_50 τ) (fun (q1 : QS) => some ((gM q1 51 1), q1))) else some ((-4 : Int32), τ))
def rm_X5_cut_50 : Room := { frames := 2, cells := 0, slots := 0, locals := 41 }
set_option maxRecDepth 100000 in
set_option maxHeartbeats 4000000 in
theorem kX5_cut_50 (l : Launch) (E : QE) (σ τ : QS)  (q : Int32 × QS) (hf : fX5_cut_50 τ = some q) : KQ l yX5_cut cX5_cut 1 (some .int) rm_X5_cut_50 E [.ref (qAd E 50)] σ τ (PI E q.1 σ q.2) := by
  unfold fX5_cut_50 at hf
  refine y_met rfl (Nat.le_of_ble_eq_true rfl) rfl (fun p e s m below meth c C => ?_)
  refine y_aload_n C dX5_cut_0 rfl 0 rfl ?_
  refine y_cVi C (kX5_isOver_50 l E σ τ _ rfl) vi_X5_isOver ml_X5_222 ⟨5, _, o50, rfl, rfl⟩ rfl ⟨rfl, rfl, Nat.le_of_ble_eq_true rfl, Nat.le_of_ble_eq_true rfl⟩ dX5_cut_1 rfl (Nat.le_of_ble_eq_true rfl) ?_
  refine y_if_eq C 10 dX5_cut_4 (by decide) hf (fun hf => ?_) (fun hf => ?_)
  · refine y_aload_n C dX5_cut_10 rfl 0 rfl ?_
    refine g50_row C fl_X5_7 dX5_cut_11 ?_
    refine y_iconst C (v := 0) dX5_cut_14 (by decide) ?_
    refine y_ialdR C a51 (j := 0) (by decide) (by decide) dX5_cut_15 ?_
    refine y_bipush C (v := 40) dX5_cut_16 (by decide) ?_
    refine y_icmp_ne C 24 dX5_cut_18 (by decide) hf (fun hf => ?_) (fun hf => ?_)
    · refine y_aload_n C dX5_cut_24 rfl 0 rfl ?_
      obtain ⟨q1, h_q1, hf⟩ := bd_e hf
      refine y_cVv C (kX5_doCut_50 l E σ τ _ h_q1) vi_X5_doCut ml_X5_228 ⟨5, _, o50, rfl, rfl⟩ rfl ⟨rfl, rfl, Nat.le_of_ble_eq_true rfl, Nat.le_of_ble_eq_true rfl⟩ dX5_cut_25 rfl (Nat.le_of_ble_eq_true rfl) ?_
      refine y_aload_n C dX5_cut_28 rfl 0 rfl ?_
      refine g50_row C fl_X5_7 dX5_cut_29 ?_
      refine y_iconst C (v := 1) dX5_cut_32 (by decide) ?_
      refine y_ialdR C a51 (j := 1) (by decide) (by decide) dX5_cut_33 ?_
      exact y_iret C (rs1 hf) rfl (rs2 hf) dX5_cut_34
    · refine y_bipush C (v := -2) dX5_cut_21 (by decide) ?_
      exact y_iret C (rs1 hf) rfl (rs2 hf) dX5_cut_23
  · refine y_bipush C (v := -4) dX5_cut_7 (by decide) ?_
    exact y_iret C (rs1 hf) rfl (rs2 hf) dX5_cut_9
noncomputable def fX0_deedOfChange (x0 : Int32) (x1 : Int32) : Int32 :=
    (((10 : Int32) + (x0 * (6 : Int32))) + x1)
def rm_X0_deedOfChange : Room := { frames := 0, cells := 0, slots := 0, locals := 0 }
set_option maxRecDepth 100000 in
set_option maxHeartbeats 4000000 in
theorem kX0_deedOfChange (l : Launch) (E : QE) (σ τ : QS) (x0 : Int32) (x1 : Int32) (q : Int32) (hf : fX0_deedOfChange x0 x1 = q) : KQ l yX0_deedOfChange cX0_deedOfChange 2 (some .int) rm_X0_deedOfChange E [.int x0, .int x1] σ τ (PI E q σ τ) := by
  unfold fX0_deedOfChange at hf
  refine y_met rfl (Nat.le_of_ble_eq_true rfl) rfl (fun p e s m below meth c C => ?_)
  refine y_bipush C (v := 10) dX0_deedOfChange_0 (by decide) ?_
  refine y_iload_n C dX0_deedOfChange_2 rfl 0 rfl ?_
  refine y_bipush C (v := 6) dX0_deedOfChange_3 (by decide) ?_
  refine y_imul C dX0_deedOfChange_5 ?_
  refine y_iadd C dX0_deedOfChange_6 ?_
  refine y_iload_n C dX0_deedOfChange_7 rfl 1 rfl ?_
  refine y_iadd C dX0_deedOfChange_8 ?_
  exact y_iret C hf rfl rfl dX0_deedOfChange_9
noncomputable def fX4_change_0 (x1 : Int32) (x2 : Int32) (σ : QS) : Option (Int32 × QS) :=
    (if (fX1_isSitter_5 x1 σ) = 0 then some ((-1 : Int32), σ) else (if (fX1_isSitter_5 x2 σ) = 0 then some ((-1 : Int32), σ) else (if x1 = x2 then some ((-1 : Int32), σ) else (if (gI σ 12) < (40 : Int32) then Option.bind (fX0_perform_6 (fX0_deedOfChange x1 x2) σ) (fun (q1 : QS) => Option.bind (fX0_free_6 q1) (fun (q2 : Int32) => some ((fJ6_bitCount_0f7a4 q2), q1))) else some ((-2 : Int32), σ)))))
def rm_X4_change_0 : Room := { frames := 6, cells := 0, slots := 0, locals := 137 }
set_option maxRecDepth 100000 in
set_option maxHeartbeats 4000000 in
theorem kX4_change_0 (l : Launch) (E : QE) (σ τ : QS) (x1 : Int32) (x2 : Int32) (q : Int32 × QS) (hf : fX4_change_0 x1 x2 σ = some q) : KQ l yX4_change cX4_change 3 (some .int) rm_X4_change_0 E [.ref (qAd E 0), .int x1, .int x2] σ τ (PI E q.1 q.2 τ) := by
  unfold fX4_change_0 at hf
  refine y_met rfl (Nat.le_of_ble_eq_true rfl) rfl (fun p e s m below meth c C => ?_)
  refine y_aload_n C dX4_change_0 rfl 0 rfl ?_
  refine g0_script C fl_X4_31 dX4_change_1 ?_
  refine y_iload_n C dX4_change_4 rfl 1 rfl ?_
  refine y_cVi C (kX1_isSitter_5 l E σ τ x1 _ rfl) vi_X1_isSitter ml_X4_118 ⟨1, _, o5, rfl, rfl⟩ rfl ⟨rfl, rfl, Nat.le_of_ble_eq_true rfl, Nat.le_of_ble_eq_true rfl⟩ dX4_change_5 rfl (Nat.le_of_ble_eq_true rfl) ?_
  refine y_if_eq C 27 dX4_change_8 (by decide) hf (fun hf => ?_) (fun hf => ?_)
  · refine y_iconst C (v := -1) dX4_change_27 (by decide) ?_
    exact y_iret C (rs1 hf) (rs2 hf) rfl dX4_change_28
  · refine y_aload_n C dX4_change_11 rfl 0 rfl ?_
    refine g0_script C fl_X4_31 dX4_change_12 ?_
    refine y_iload_n C dX4_change_15 rfl 2 rfl ?_
    refine y_cVi C (kX1_isSitter_5 l E σ τ x2 _ rfl) vi_X1_isSitter ml_X4_118 ⟨1, _, o5, rfl, rfl⟩ rfl ⟨rfl, rfl, Nat.le_of_ble_eq_true rfl, Nat.le_of_ble_eq_true rfl⟩ dX4_change_16 rfl (Nat.le_of_ble_eq_true rfl) ?_
    refine y_if_eq C 27 dX4_change_19 (by decide) hf (fun hf => ?_) (fun hf => ?_)
    · refine y_iconst C (v := -1) dX4_change_27 (by decide) ?_
      exact y_iret C (rs1 hf) (rs2 hf) rfl dX4_change_28
    · refine y_iload_n C dX4_change_22 rfl 1 rfl ?_
      refine y_iload_n C dX4_change_23 rfl 2 rfl ?_
      refine y_icmp_ne C 29 dX4_change_24 (by decide) hf (fun hf => ?_) (fun hf => ?_)
      · refine y_aload_n C dX4_change_29 rfl 0 rfl ?_
        refine g0_night C fl_X4_39 dX4_change_30 ?_
        refine gN6_deedCount C fn_X4_150 dX4_change_33 ?_
        refine y_bipush C (v := 40) dX4_change_36 (by decide) ?_
        refine y_icmp_lt C 44 dX4_change_38 (by decide) hf (fun hf => ?_) (fun hf => ?_)
        · refine y_aload_n C dX4_change_44 rfl 0 rfl ?_
          refine g0_night C fl_X4_39 dX4_change_45 ?_
          refine y_iload_n C dX4_change_48 rfl 1 rfl ?_
          refine y_iload_n C dX4_change_49 rfl 2 rfl ?_
          refine y_cSi C (kX0_deedOfChange l E σ τ x1 x2 _ rfl) si_X0_deedOfChange ml_X4_165 rfl ⟨rfl, rfl, Nat.le_of_ble_eq_true rfl, Nat.le_of_ble_eq_true rfl⟩ dX4_change_50 rfl (Nat.le_of_ble_eq_true rfl) ?_
          obtain ⟨q1, h_q1, hf⟩ := bd_e hf
          refine y_cVv C (kX0_perform_6 l E σ τ (fX0_deedOfChange x1 x2) _ h_q1) vi_X0_perform ml_X4_159 ⟨0, _, o6, rfl, rfl⟩ rfl ⟨rfl, rfl, Nat.le_of_ble_eq_true rfl, Nat.le_of_ble_eq_true rfl⟩ dX4_change_53 rfl (Nat.le_of_ble_eq_true rfl) ?_
          refine y_aload_n C dX4_change_56 rfl 0 rfl ?_
          refine g0_night C fl_X4_39 dX4_change_57 ?_
          obtain ⟨q2, h_q2, hf⟩ := bd_e hf
          refine y_cVi C (kX0_free_6 l E q1 τ _ h_q2) vi_X0_free ml_X4_144 ⟨0, _, o6, rfl, rfl⟩ rfl ⟨rfl, rfl, Nat.le_of_ble_eq_true rfl, Nat.le_of_ble_eq_true rfl⟩ dX4_change_60 rfl (Nat.le_of_ble_eq_true rfl) ?_
          refine y_cSi C (kJ6_bitCount_0f7a4 l E q1 τ q2 _ rfl) si_J6_bitCount_0f7a4 ml_X4_168 rfl ⟨rfl, rfl, Nat.le_of_ble_eq_true rfl, Nat.le_of_ble_eq_true rfl⟩ dX4_change_63 rfl (Nat.le_of_ble_eq_true rfl) ?_
          exact y_iret C (rs1 hf) (rs2 hf) rfl dX4_change_66
        · refine y_bipush C (v := -2) dX4_change_41 (by decide) ?_
          exact y_iret C (rs1 hf) (rs2 hf) rfl dX4_change_43
      · refine y_iconst C (v := -1) dX4_change_27 (by decide) ?_
        exact y_iret C (rs1 hf) (rs2 hf) rfl dX4_change_28
noncomputable def fX5_swapSeats_50 (x1 : Int32) (x2 : Int32) (τ : QS) : Option (QS) :=
    ck_ (inb ((7 : Int32) + x1) 1972) (lt_ (gM τ 51 (((7 : Int32) + x1).toNatClampNeg)) (fun (v2 : Int32) => ck_ (inb ((7 : Int32) + x2) 1972) (ck_ (inb ((7 : Int32) + x1) 1972) (lt_ (pM τ 51 (upd (gM τ 51) (((7 : Int32) + x1).toNatClampNeg) (gM τ 51 (((7 : Int32) + x2).toNatClampNeg)))) (fun (S5 : QS) => ck_ (inb ((7 : Int32) + x2) 1972) (lt_ (pM S5 51 (upd (gM S5 51) (((7 : Int32) + x2).toNatClampNeg) v2)) (fun (S7 : QS) => some S7)))))))
def rm_X5_swapSeats_50 : Room := { frames := 0, cells := 0, slots := 0, locals := 0 }
set_option maxRecDepth 100000 in
set_option maxHeartbeats 4000000 in
theorem kX5_swapSeats_50 (l : Launch) (E : QE) (σ τ : QS) (x1 : Int32) (x2 : Int32) (q : QS) (hf : fX5_swapSeats_50 x1 x2 τ = some q) : KQ l yX5_swapSeats cX5_swapSeats 4 none rm_X5_swapSeats_50 E [.ref (qAd E 50), .int x1, .int x2] σ τ (PV E σ q) := by
  unfold fX5_swapSeats_50 at hf
  refine y_met rfl (Nat.le_of_ble_eq_true rfl) rfl (fun p e s m below meth c C => ?_)
  refine y_aload_n C dX5_swapSeats_0 rfl 0 rfl ?_
  refine g50_row C fl_X5_7 dX5_swapSeats_1 ?_
  refine y_bipush C (v := 7) dX5_swapSeats_4 (by decide) ?_
  refine y_iload_n C dX5_swapSeats_6 rfl 1 rfl ?_
  refine y_iadd C dX5_swapSeats_7 ?_
  obtain ⟨hi1, hf⟩ := ck_e hf
  refine y_ialdR C a51 (j := ((7 : Int32) + x1).toNatClampNeg) rfl hi1 dX5_swapSeats_8 ?_
  obtain ⟨v2, e_v2, hf⟩ := lt_e hf
  refine y_istore_n C dX5_swapSeats_9 rfl (Nat.le_of_ble_eq_true rfl) e_v2 (lv' := [(3, .int v2), (0, .ref (qAd E 50)), (1, .int x1), (2, .int x2)]) rfl ?_
  refine y_aload_n C dX5_swapSeats_10 rfl 1 rfl ?_
  refine g50_row C fl_X5_7 dX5_swapSeats_11 ?_
  refine y_bipush C (v := 7) dX5_swapSeats_14 (by decide) ?_
  refine y_iload_n C dX5_swapSeats_16 rfl 2 rfl ?_
  refine y_iadd C dX5_swapSeats_17 ?_
  refine y_aload_n C dX5_swapSeats_18 rfl 1 rfl ?_
  refine g50_row C fl_X5_7 dX5_swapSeats_19 ?_
  refine y_bipush C (v := 7) dX5_swapSeats_22 (by decide) ?_
  refine y_iload_n C dX5_swapSeats_24 rfl 3 rfl ?_
  refine y_iadd C dX5_swapSeats_25 ?_
  obtain ⟨hi3, hf⟩ := ck_e hf
  refine y_ialdR C a51 (j := ((7 : Int32) + x2).toNatClampNeg) rfl hi3 dX5_swapSeats_26 ?_
  obtain ⟨hi4, hf⟩ := ck_e hf
  obtain ⟨S5, e_S5, hf⟩ := lt_e hf
  refine y_iastR C a51 (j := ((7 : Int32) + x1).toNatClampNeg) rfl hi4 e_S5 dX5_swapSeats_27 ?_
  refine y_aload_n C dX5_swapSeats_28 rfl 1 rfl ?_
  refine g50_row C fl_X5_7 dX5_swapSeats_29 ?_
  refine y_bipush C (v := 7) dX5_swapSeats_32 (by decide) ?_
  refine y_iload_n C dX5_swapSeats_34 rfl 3 rfl ?_
  refine y_iadd C dX5_swapSeats_35 ?_
  refine y_iload_n C dX5_swapSeats_36 rfl 0 rfl ?_
  obtain ⟨hi6, hf⟩ := ck_e hf
  obtain ⟨S7, e_S7, hf⟩ := lt_e hf
  refine y_iastR C a51 (j := ((7 : Int32) + x2).toNatClampNeg) rfl hi6 e_S7 dX5_swapSeats_37 ?_
  exact y_vret C rfl (Option.some.inj hf) dX5_swapSeats_38
noncomputable def fX5_canBits_50 (x1 : Int32) (τ : QS) : Option (Int32) :=
    lp_ (fun (r2 : Int32 × Int32 → Option (Int32)) (a1 : Int32 × Int32) => (if (gI τ 1) ≤ a1.2 then some a1.1 else Option.bind (fX5_mayCall_50 a1.2 x1 τ) (fun (q3 : Int32) => (if q3 = 0 then lt_ (a1.1 ||| (0 : Int32)) (fun (v4 : Int32) => r2 (v4, (a1.2 + (1 : Int32)))) else lt_ (a1.1 ||| ((1 : Int32) <<< (a1.2 &&& 31))) (fun (v5 : Int32) => r2 (v5, (a1.2 + (1 : Int32)))))))) FV ((0 : Int32), (0 : Int32))
def rm_X5_canBits_50 : Room := { frames := 2, cells := 0, slots := 0, locals := 44 }
set_option maxRecDepth 100000 in
set_option maxHeartbeats 4000000 in
theorem kX5_canBits_50 (l : Launch) (E : QE) (σ τ : QS) (x1 : Int32) (q : Int32) (hf : fX5_canBits_50 x1 τ = some q) : KQ l yX5_canBits cX5_canBits 4 (some .int) rm_X5_canBits_50 E [.ref (qAd E 50), .int x1] σ τ (PI E q σ τ) := by
  unfold fX5_canBits_50 at hf
  refine y_met rfl (Nat.le_of_ble_eq_true rfl) rfl (fun p e s m below meth c C => ?_)
  refine y_iconst C (v := 0) dX5_canBits_0 (by decide) ?_
  refine y_istore_n C dX5_canBits_1 rfl (Nat.le_of_ble_eq_true rfl) rfl (lv' := [(2, .int (0 : Int32)), (0, .ref (qAd E 50)), (1, .int x1)]) rfl ?_
  refine y_iconst C (v := 0) dX5_canBits_2 (by decide) ?_
  refine y_istore_n C dX5_canBits_3 rfl (Nat.le_of_ble_eq_true rfl) rfl (lv' := [(3, .int (0 : Int32)), (2, .int (0 : Int32)), (0, .ref (qAd E 50)), (1, .int x1)]) rfl ?_
  refine y_sub [0, 1, 2, 3] rfl ?_
  refine lp_ind (P := fun a1 : Int32 × Int32 => Y E p l e rm_X5_canBits_50 s m ([.ref (qAd E 50), .int x1] : List Value).toArray below meth c 4 (MQ below (PI E q σ τ) ([.ref (qAd E 50), .int x1] : List Value).toArray s 0 0 (qA E)) σ τ 4 [(3, .int a1.2), (2, .int a1.1), (0, .ref (qAd E 50)), (1, .int x1)] []) (fun r2 a1 ih_r2 hf => ?_) _ _ hf
  refine y_iload_n C dX5_canBits_4 rfl 0 rfl ?_
  refine y_aload_n C dX5_canBits_5 rfl 2 rfl ?_
  refine g50_sitters C fl_X5_163 dX5_canBits_6 ?_
  refine y_icmp_ge C 37 dX5_canBits_9 (by decide) hf (fun hf => ?_) (fun hf => ?_)
  · refine y_iload_n C dX5_canBits_37 rfl 1 rfl ?_
    exact y_iret C (Option.some.inj hf) rfl rfl dX5_canBits_38
  · refine y_iload_n C dX5_canBits_12 rfl 1 rfl ?_
    refine y_aload_n C dX5_canBits_13 rfl 2 rfl ?_
    refine y_iload_n C dX5_canBits_14 rfl 0 rfl ?_
    refine y_iload_n C dX5_canBits_15 rfl 3 rfl ?_
    obtain ⟨q3, h_q3, hf⟩ := bd_e hf
    refine y_cVi C (kX5_mayCall_50 l E σ τ a1.2 x1 _ h_q3) vi_X5_mayCall ml_X5_195 ⟨5, _, o50, rfl, rfl⟩ rfl ⟨rfl, rfl, Nat.le_of_ble_eq_true rfl, Nat.le_of_ble_eq_true rfl⟩ dX5_canBits_16 rfl (Nat.le_of_ble_eq_true rfl) ?_
    refine y_if_eq C 28 dX5_canBits_19 (by decide) hf (fun hf => ?_) (fun hf => ?_)
    · refine y_iconst C (v := 0) dX5_canBits_28 (by decide) ?_
      refine y_ior C dX5_canBits_29 ?_
      obtain ⟨v4, e_v4, hf⟩ := lt_e hf
      refine y_istore_n C dX5_canBits_30 rfl (Nat.le_of_ble_eq_true rfl) e_v4 (lv' := [(2, .int v4), (3, .int a1.2), (0, .ref (qAd E 50)), (1, .int x1)]) rfl ?_
      refine y_iinc C dX5_canBits_31 1 rfl (Nat.le_of_ble_eq_true rfl) (k2 := 1) (by decide) rfl (lv' := [(3, .int (a1.2 + (1 : Int32))), (2, .int v4), (0, .ref (qAd E 50)), (1, .int x1)]) rfl ?_
      refine y_goto C 4 dX5_canBits_34 (by decide) ?_
      refine y_sub [0, 1, 2, 3] rfl ?_
      exact ih_r2 (v4, (a1.2 + (1 : Int32))) hf
    · refine y_iconst C (v := 1) dX5_canBits_22 (by decide) ?_
      refine y_iload_n C dX5_canBits_23 rfl 0 rfl ?_
      refine y_ishl C dX5_canBits_24 ?_
      refine y_goto C 29 dX5_canBits_25 (by decide) ?_
      refine y_ior C dX5_canBits_29 ?_
      obtain ⟨v5, e_v5, hf⟩ := lt_e hf
      refine y_istore_n C dX5_canBits_30 rfl (Nat.le_of_ble_eq_true rfl) e_v5 (lv' := [(2, .int v5), (3, .int a1.2), (0, .ref (qAd E 50)), (1, .int x1)]) rfl ?_
      refine y_iinc C dX5_canBits_31 1 rfl (Nat.le_of_ble_eq_true rfl) (k2 := 1) (by decide) rfl (lv' := [(3, .int (a1.2 + (1 : Int32))), (2, .int v5), (0, .ref (qAd E 50)), (1, .int x1)]) rfl ?_
      refine y_goto C 4 dX5_canBits_34 (by decide) ?_
      refine y_sub [0, 1, 2, 3] rfl ?_
      exact ih_r2 (v5, (a1.2 + (1 : Int32))) hf
noncomputable def fX5_bits (x0 : Int32) : Option (Int32) :=
    lp_ (fun (r2 : Int32 × Int32 → Option (Int32)) (a1 : Int32 × Int32) => (if (10 : Int32) ≤ a1.2 then some a1.1 else lt_ (a1.1 + ((x0 >>> (a1.2 &&& 31)) &&& (1 : Int32))) (fun (v3 : Int32) => r2 (v3, (a1.2 + (1 : Int32)))))) FV ((0 : Int32), (0 : Int32))
def rm_X5_bits : Room := { frames := 0, cells := 0, slots := 0, locals := 0 }
set_option maxRecDepth 100000 in
set_option maxHeartbeats 4000000 in
theorem kX5_bits (l : Launch) (E : QE) (σ τ : QS) (x0 : Int32) (q : Int32) (hf : fX5_bits x0 = some q) : KQ l yX5_bits cX5_bits 3 (some .int) rm_X5_bits E [.int x0] σ τ (PI E q σ τ) := by
  unfold fX5_bits at hf
  refine y_met rfl (Nat.le_of_ble_eq_true rfl) rfl (fun p e s m below meth c C => ?_)
  refine y_iconst C (v := 0) dX5_bits_0 (by decide) ?_
  refine y_istore_n C dX5_bits_1 rfl (Nat.le_of_ble_eq_true rfl) rfl (lv' := [(1, .int (0 : Int32)), (0, .int x0)]) rfl ?_
  refine y_iconst C (v := 0) dX5_bits_2 (by decide) ?_
  refine y_istore_n C dX5_bits_3 rfl (Nat.le_of_ble_eq_true rfl) rfl (lv' := [(2, .int (0 : Int32)), (1, .int (0 : Int32)), (0, .int x0)]) rfl ?_
  refine y_sub [0, 1, 2] rfl ?_
  refine lp_ind (P := fun a1 : Int32 × Int32 => Y E p l e rm_X5_bits s m ([.int x0] : List Value).toArray below meth c 3 (MQ below (PI E q σ τ) ([.int x0] : List Value).toArray s 0 0 (qA E)) σ τ 4 [(2, .int a1.2), (1, .int a1.1), (0, .int x0)] []) (fun r2 a1 ih_r2 hf => ?_) _ _ hf
  refine y_iload_n C dX5_bits_4 rfl 0 rfl ?_
  refine y_bipush C (v := 10) dX5_bits_5 (by decide) ?_
  refine y_icmp_ge C 24 dX5_bits_7 (by decide) hf (fun hf => ?_) (fun hf => ?_)
  · refine y_iload_n C dX5_bits_24 rfl 1 rfl ?_
    exact y_iret C (Option.some.inj hf) rfl rfl dX5_bits_25
  · refine y_iload_n C dX5_bits_10 rfl 1 rfl ?_
    refine y_iload_n C dX5_bits_11 rfl 2 rfl ?_
    refine y_iload_n C dX5_bits_12 rfl 0 rfl ?_
    refine y_ishr C dX5_bits_13 ?_
    refine y_iconst C (v := 1) dX5_bits_14 (by decide) ?_
    refine y_iand C dX5_bits_15 ?_
    refine y_iadd C dX5_bits_16 ?_
    obtain ⟨v3, e_v3, hf⟩ := lt_e hf
    refine y_istore_n C dX5_bits_17 rfl (Nat.le_of_ble_eq_true rfl) e_v3 (lv' := [(1, .int v3), (2, .int a1.2), (0, .int x0)]) rfl ?_
    refine y_iinc C dX5_bits_18 1 rfl (Nat.le_of_ble_eq_true rfl) (k2 := 1) (by decide) rfl (lv' := [(2, .int (a1.2 + (1 : Int32))), (1, .int v3), (0, .int x0)]) rfl ?_
    refine y_goto C 4 dX5_bits_21 (by decide) ?_
    refine y_sub [0, 1, 2] rfl ?_
    exact ih_r2 (v3, (a1.2 + (1 : Int32))) hf
noncomputable def fX5_change_50 (x1 : Int32) (x2 : Int32) (τ : QS) : Option (Int32 × QS) :=
    (if (fX5_isSitter_50 x1 τ) = 0 then some ((-1 : Int32), τ) else (if (fX5_isSitter_50 x2 τ) = 0 then some ((-1 : Int32), τ) else (if x1 = x2 then some ((-1 : Int32), τ) else (if (gM τ 51 0) = (40 : Int32) then some ((-2 : Int32), τ) else Option.bind (fX5_keepPast_50 τ) (fun (q1 : QS) => Option.bind (fX5_swapSeats_50 x1 x2 q1) (fun (q2 : QS) => Option.bind (fX5_canBits_50 (gM q2 51 6) q2) (fun (q3 : Int32) => Option.bind (fX5_bits q3) (fun (q4 : Int32) => some (q4, q2)))))))))
def rm_X5_change_50 : Room := { frames := 3, cells := 0, slots := 0, locals := 67 }
set_option maxRecDepth 100000 in
set_option maxHeartbeats 4000000 in
theorem kX5_change_50 (l : Launch) (E : QE) (σ τ : QS) (x1 : Int32) (x2 : Int32) (q : Int32 × QS) (hf : fX5_change_50 x1 x2 τ = some q) : KQ l yX5_change cX5_change 3 (some .int) rm_X5_change_50 E [.ref (qAd E 50), .int x1, .int x2] σ τ (PI E q.1 σ q.2) := by
  unfold fX5_change_50 at hf
  refine y_met rfl (Nat.le_of_ble_eq_true rfl) rfl (fun p e s m below meth c C => ?_)
  refine y_aload_n C dX5_change_0 rfl 0 rfl ?_
  refine y_iload_n C dX5_change_1 rfl 1 rfl ?_
  refine y_cVi C (kX5_isSitter_50 l E σ τ x1 _ rfl) vi_X5_isSitter ml_X5_198 ⟨5, _, o50, rfl, rfl⟩ rfl ⟨rfl, rfl, Nat.le_of_ble_eq_true rfl, Nat.le_of_ble_eq_true rfl⟩ dX5_change_2 rfl (Nat.le_of_ble_eq_true rfl) ?_
  refine y_if_eq C 21 dX5_change_5 (by decide) hf (fun hf => ?_) (fun hf => ?_)
  · refine y_iconst C (v := -1) dX5_change_21 (by decide) ?_
    exact y_iret C (rs1 hf) rfl (rs2 hf) dX5_change_22
  · refine y_aload_n C dX5_change_8 rfl 0 rfl ?_
    refine y_iload_n C dX5_change_9 rfl 2 rfl ?_
    refine y_cVi C (kX5_isSitter_50 l E σ τ x2 _ rfl) vi_X5_isSitter ml_X5_198 ⟨5, _, o50, rfl, rfl⟩ rfl ⟨rfl, rfl, Nat.le_of_ble_eq_true rfl, Nat.le_of_ble_eq_true rfl⟩ dX5_change_10 rfl (Nat.le_of_ble_eq_true rfl) ?_
    refine y_if_eq C 21 dX5_change_13 (by decide) hf (fun hf => ?_) (fun hf => ?_)
    · refine y_iconst C (v := -1) dX5_change_21 (by decide) ?_
      exact y_iret C (rs1 hf) rfl (rs2 hf) dX5_change_22
    · refine y_iload_n C dX5_change_16 rfl 1 rfl ?_
      refine y_iload_n C dX5_change_17 rfl 2 rfl ?_
      refine y_icmp_ne C 23 dX5_change_18 (by decide) hf (fun hf => ?_) (fun hf => ?_)
      · refine y_aload_n C dX5_change_23 rfl 0 rfl ?_
        refine g50_row C fl_X5_7 dX5_change_24 ?_
        refine y_iconst C (v := 0) dX5_change_27 (by decide) ?_
        refine y_ialdR C a51 (j := 0) (by decide) (by decide) dX5_change_28 ?_
        refine y_bipush C (v := 40) dX5_change_29 (by decide) ?_
        refine y_icmp_ne C 37 dX5_change_31 (by decide) hf (fun hf => ?_) (fun hf => ?_)
        · refine y_aload_n C dX5_change_37 rfl 0 rfl ?_
          obtain ⟨q1, h_q1, hf⟩ := bd_e hf
          refine y_cVv C (kX5_keepPast_50 l E σ τ _ h_q1) vi_X5_keepPast ml_X5_215 ⟨5, _, o50, rfl, rfl⟩ rfl ⟨rfl, rfl, Nat.le_of_ble_eq_true rfl, Nat.le_of_ble_eq_true rfl⟩ dX5_change_38 rfl (Nat.le_of_ble_eq_true rfl) ?_
          refine y_aload_n C dX5_change_41 rfl 0 rfl ?_
          refine y_iload_n C dX5_change_42 rfl 1 rfl ?_
          refine y_iload_n C dX5_change_43 rfl 2 rfl ?_
          obtain ⟨q2, h_q2, hf⟩ := bd_e hf
          refine y_cVv C (kX5_swapSeats_50 l E σ q1 x1 x2 _ h_q2) vi_X5_swapSeats ml_X5_231 ⟨5, _, o50, rfl, rfl⟩ rfl ⟨rfl, rfl, Nat.le_of_ble_eq_true rfl, Nat.le_of_ble_eq_true rfl⟩ dX5_change_44 rfl (Nat.le_of_ble_eq_true rfl) ?_
          refine y_aload_n C dX5_change_47 rfl 0 rfl ?_
          refine y_aload_n C dX5_change_48 rfl 0 rfl ?_
          refine g50_row C fl_X5_7 dX5_change_49 ?_
          refine y_bipush C (v := 6) dX5_change_52 (by decide) ?_
          refine y_ialdR C a51 (j := 6) (by decide) (by decide) dX5_change_54 ?_
          obtain ⟨q3, h_q3, hf⟩ := bd_e hf
          refine y_cVi C (kX5_canBits_50 l E σ q2 (gM q2 51 6) _ h_q3) vi_X5_canBits ml_X5_234 ⟨5, _, o50, rfl, rfl⟩ rfl ⟨rfl, rfl, Nat.le_of_ble_eq_true rfl, Nat.le_of_ble_eq_true rfl⟩ dX5_change_55 rfl (Nat.le_of_ble_eq_true rfl) ?_
          obtain ⟨q4, h_q4, hf⟩ := bd_e hf
          refine y_cSi C (kX5_bits l E σ q2 q3 _ h_q4) si_X5_bits ml_X5_237 rfl ⟨rfl, rfl, Nat.le_of_ble_eq_true rfl, Nat.le_of_ble_eq_true rfl⟩ dX5_change_58 rfl (Nat.le_of_ble_eq_true rfl) ?_
          exact y_iret C (rs1 hf) rfl (rs2 hf) dX5_change_61
        · refine y_bipush C (v := -2) dX5_change_34 (by decide) ?_
          exact y_iret C (rs1 hf) rfl (rs2 hf) dX5_change_36
      · refine y_iconst C (v := -1) dX5_change_21 (by decide) ?_
        exact y_iret C (rs1 hf) rfl (rs2 hf) dX5_change_22
noncomputable def fX4_undo_0 (x1 : Int32) (σ : QS) : Option (Int32 × QS) :=
    lt_ (gI σ 12) (fun (v1 : Int32) => (if x1 < 0 then some ((-1 : Int32), σ) else (if x1 ≤ v1 then lt_ (fX0_begin_6 σ) (fun (q2 : QS) => lp_ (fun (r4 : Int32 × QS → Option (Int32 × QS)) (a3 : Int32 × QS) => (if x1 ≤ a3.1 then some ((v1 - x1), a3.2) else (if (40 : Int32) ≤ a3.1 then some ((v1 - x1), a3.2) else ck_ (inb a3.1 40) (Option.bind (fX0_perform_6 (gM a3.2 26 a3.1.toNatClampNeg) a3.2) (fun (q6 : QS) => r4 ((a3.1 + (1 : Int32)), q6)))))) FV ((0 : Int32), q2)) else some ((-1 : Int32), σ))))
def rm_X4_undo_0 : Room := { frames := 6, cells := 0, slots := 0, locals := 137 }
set_option maxRecDepth 100000 in
set_option maxHeartbeats 4000000 in
theorem kX4_undo_0 (l : Launch) (E : QE) (σ τ : QS) (x1 : Int32) (q : Int32 × QS) (hf : fX4_undo_0 x1 σ = some q) : KQ l yX4_undo cX4_undo 4 (some .int) rm_X4_undo_0 E [.ref (qAd E 0), .int x1] σ τ (PI E q.1 q.2 τ) := by
  unfold fX4_undo_0 at hf
  refine y_met rfl (Nat.le_of_ble_eq_true rfl) rfl (fun p e s m below meth c C => ?_)
  refine y_aload_n C dX4_undo_0 rfl 0 rfl ?_
  refine g0_night C fl_X4_39 dX4_undo_1 ?_
  refine gN6_deedCount C fn_X4_150 dX4_undo_4 ?_
  obtain ⟨v1, e_v1, hf⟩ := lt_e hf
  refine y_istore_n C dX4_undo_7 rfl (Nat.le_of_ble_eq_true rfl) e_v1 (lv' := [(2, .int v1), (0, .ref (qAd E 0)), (1, .int x1)]) rfl ?_
  refine y_iload_n C dX4_undo_8 rfl 2 rfl ?_
  refine y_if_lt C 17 dX4_undo_9 (by decide) hf (fun hf => ?_) (fun hf => ?_)
  · refine y_iconst C (v := -1) dX4_undo_17 (by decide) ?_
    exact y_iret C (rs1 hf) (rs2 hf) rfl dX4_undo_18
  · refine y_iload_n C dX4_undo_12 rfl 2 rfl ?_
    refine y_iload_n C dX4_undo_13 rfl 0 rfl ?_
    refine y_icmp_le C 19 dX4_undo_14 (by decide) hf (fun hf => ?_) (fun hf => ?_)
    · refine y_aload_n C dX4_undo_19 rfl 1 rfl ?_
      refine g0_night C fl_X4_39 dX4_undo_20 ?_
      obtain ⟨q2, e_q2, hf⟩ := lt_e hf
      refine y_cVv C (kX0_begin_6 l E σ τ _ e_q2.symm) vi_X0_begin ml_X4_111 ⟨0, _, o6, rfl, rfl⟩ rfl ⟨rfl, rfl, Nat.le_of_ble_eq_true rfl, Nat.le_of_ble_eq_true rfl⟩ dX4_undo_23 rfl (Nat.le_of_ble_eq_true rfl) ?_
      refine y_iconst C (v := 0) dX4_undo_26 (by decide) ?_
      refine y_istore_n C dX4_undo_27 rfl (Nat.le_of_ble_eq_true rfl) rfl (lv' := [(3, .int (0 : Int32)), (2, .int v1), (0, .ref (qAd E 0)), (1, .int x1)]) rfl ?_
      refine y_sub [0, 1, 2, 3] rfl ?_
      refine lp_ind (P := fun a3 : Int32 × QS => Y E p l e rm_X4_undo_0 s m ([.ref (qAd E 0), .int x1] : List Value).toArray below meth c 4 (MQ below (PI E q.1 q.2 τ) ([.ref (qAd E 0), .int x1] : List Value).toArray s 0 0 (qA E)) a3.2 τ 28 [(3, .int a3.1), (2, .int v1), (0, .ref (qAd E 0)), (1, .int x1)] []) (fun r4 a3 ih_r4 hf => ?_) _ _ hf
      refine y_iload_n C dX4_undo_28 rfl 0 rfl ?_
      refine y_iload_n C dX4_undo_29 rfl 3 rfl ?_
      refine y_icmp_ge C 61 dX4_undo_30 (by decide) hf (fun hf => ?_) (fun hf => ?_)
      · refine y_iload_n C dX4_undo_61 rfl 1 rfl ?_
        refine y_iload_n C dX4_undo_62 rfl 3 rfl ?_
        refine y_isub C dX4_undo_63 ?_
        exact y_iret C (rs1 hf) (rs2 hf) rfl dX4_undo_64
      · refine y_iload_n C dX4_undo_33 rfl 0 rfl ?_
        refine y_bipush C (v := 40) dX4_undo_34 (by decide) ?_
        refine y_icmp_ge C 61 dX4_undo_36 (by decide) hf (fun hf => ?_) (fun hf => ?_)
        · refine y_iload_n C dX4_undo_61 rfl 1 rfl ?_
          refine y_iload_n C dX4_undo_62 rfl 3 rfl ?_
          refine y_isub C dX4_undo_63 ?_
          exact y_iret C (rs1 hf) (rs2 hf) rfl dX4_undo_64
        · refine y_aload_n C dX4_undo_39 rfl 2 rfl ?_
          refine g0_night C fl_X4_39 dX4_undo_40 ?_
          refine y_aload_n C dX4_undo_43 rfl 2 rfl ?_
          refine g0_night C fl_X4_39 dX4_undo_44 ?_
          refine gN6_deeds C fn_X4_173 dX4_undo_47 ?_
          refine y_iload_n C dX4_undo_50 rfl 0 rfl ?_
          obtain ⟨hi5, hf⟩ := ck_e hf
          refine y_ialdC C a26 (j := a3.1.toNatClampNeg) rfl hi5 dX4_undo_51 ?_
          obtain ⟨q6, h_q6, hf⟩ := bd_e hf
          refine y_cVv C (kX0_perform_6 l E a3.2 τ (gM a3.2 26 a3.1.toNatClampNeg) _ h_q6) vi_X0_perform ml_X4_159 ⟨0, _, o6, rfl, rfl⟩ rfl ⟨rfl, rfl, Nat.le_of_ble_eq_true rfl, Nat.le_of_ble_eq_true rfl⟩ dX4_undo_52 rfl (Nat.le_of_ble_eq_true rfl) ?_
          refine y_iinc C dX4_undo_55 0 rfl (Nat.le_of_ble_eq_true rfl) (k2 := 1) (by decide) rfl (lv' := [(3, .int (a3.1 + (1 : Int32))), (2, .int v1), (0, .ref (qAd E 0)), (1, .int x1)]) rfl ?_
          refine y_goto C 28 dX4_undo_58 (by decide) ?_
          refine y_sub [0, 1, 2, 3] rfl ?_
          exact ih_r4 ((a3.1 + (1 : Int32)), q6) hf
    · refine y_iconst C (v := -1) dX4_undo_17 (by decide) ?_
      exact y_iret C (rs1 hf) (rs2 hf) rfl dX4_undo_18
noncomputable def fX5_undo_50 (x1 : Int32) (τ : QS) : Option (Int32 × QS) :=
    (if (fX5_in x1.toInt64 (0 : Int64) ((gM τ 51 0).toInt64)) = 0 then some ((-1 : Int32), τ) else lt_ ((gM τ 51 0) - x1) (fun (v1 : Int32) => lp_ (fun (r3 : Int32 × QS → Option (Int32 × QS)) (a2 : Int32 × QS) => lt_ (fun (_ : Unit) => lt_ (pM a2.2 51 (upd (gM a2.2 51) 0 x1)) (fun (S5 : QS) => some (v1, S5))) (fun (j4 : Unit → Option (Int32 × QS)) => (if (12 : Int32) ≤ a2.1 then j4 () else (if v1 ≤ 0 then j4 () else ck_ (inb (((13 : Int32) + ((12 : Int32) * x1)) + a2.1) 1972) (ck_ (inb ((1 : Int32) + a2.1) 1972) (lt_ (pM a2.2 51 (upd (gM a2.2 51) (((1 : Int32) + a2.1).toNatClampNeg) (gM a2.2 51 ((((13 : Int32) + ((12 : Int32) * x1)) + a2.1).toNatClampNeg)))) (fun (S8 : QS) => r3 ((a2.1 + (1 : Int32)), S8)))))))) FV ((0 : Int32), τ)))
def rm_X5_undo_50 : Room := { frames := 1, cells := 0, slots := 0, locals := 25 }
set_option maxRecDepth 100000 in
set_option maxHeartbeats 4000000 in
theorem kX5_undo_50 (l : Launch) (E : QE) (σ τ : QS) (x1 : Int32) (q : Int32 × QS) (hf : fX5_undo_50 x1 τ = some q) : KQ l yX5_undo cX5_undo 4 (some .int) rm_X5_undo_50 E [.ref (qAd E 50), .int x1] σ τ (PI E q.1 σ q.2) := by
  unfold fX5_undo_50 at hf
  refine y_met rfl (Nat.le_of_ble_eq_true rfl) rfl (fun p e s m below meth c C => ?_)
  refine y_iload_n C dX5_undo_0 rfl 1 rfl ?_
  refine y_i2l C dX5_undo_1 ?_
  refine y_lconst C (v := 0) dX5_undo_2 (by decide) ?_
  refine y_aload_n C dX5_undo_3 rfl 0 rfl ?_
  refine g50_row C fl_X5_7 dX5_undo_4 ?_
  refine y_iconst C (v := 0) dX5_undo_7 (by decide) ?_
  refine y_ialdR C a51 (j := 0) (by decide) (by decide) dX5_undo_8 ?_
  refine y_i2l C dX5_undo_9 ?_
  refine y_cSi C (kX5_in l E σ τ x1.toInt64 (0 : Int64) ((gM τ 51 0).toInt64) _ rfl) si_X5_in ml_X5_77 rfl ⟨rfl, rfl, Nat.le_of_ble_eq_true rfl, Nat.le_of_ble_eq_true rfl⟩ dX5_undo_10 rfl (Nat.le_of_ble_eq_true rfl) ?_
  refine y_if_ne C 18 dX5_undo_13 (by decide) hf (fun hf => ?_) (fun hf => ?_)
  · refine y_aload_n C dX5_undo_18 rfl 0 rfl ?_
    refine g50_row C fl_X5_7 dX5_undo_19 ?_
    refine y_iconst C (v := 0) dX5_undo_22 (by decide) ?_
    refine y_ialdR C a51 (j := 0) (by decide) (by decide) dX5_undo_23 ?_
    refine y_iload_n C dX5_undo_24 rfl 1 rfl ?_
    refine y_isub C dX5_undo_25 ?_
    obtain ⟨v1, e_v1, hf⟩ := lt_e hf
    refine y_istore_n C dX5_undo_26 rfl (Nat.le_of_ble_eq_true rfl) e_v1 (lv' := [(2, .int v1), (0, .ref (qAd E 50)), (1, .int x1)]) rfl ?_
    refine y_iconst C (v := 0) dX5_undo_27 (by decide) ?_
    refine y_istore_n C dX5_undo_28 rfl (Nat.le_of_ble_eq_true rfl) rfl (lv' := [(3, .int (0 : Int32)), (2, .int v1), (0, .ref (qAd E 50)), (1, .int x1)]) rfl ?_
    refine y_sub [0, 1, 2, 3] rfl ?_
    refine lp_ind (P := fun a2 : Int32 × QS => Y E p l e rm_X5_undo_50 s m ([.ref (qAd E 50), .int x1] : List Value).toArray below meth c 4 (MQ below (PI E q.1 σ q.2) ([.ref (qAd E 50), .int x1] : List Value).toArray s 0 0 (qA E)) σ a2.2 29 [(3, .int a2.1), (2, .int v1), (0, .ref (qAd E 50)), (1, .int x1)] []) (fun r3 a2 ih_r3 hf => ?_) _ _ hf
    refine y_iload_n C dX5_undo_29 rfl 0 rfl ?_
    refine y_bipush C (v := 12) dX5_undo_30 (by decide) ?_
    obtain ⟨j4, ek_j4, hf⟩ := lt_e hf
    have h_j4 : ∀ (_ : Unit), j4 () = some q → Y E p l e rm_X5_undo_50 s m ([.ref (qAd E 50), .int x1] : List Value).toArray below meth c 4 (MQ below (PI E q.1 σ q.2) ([.ref (qAd E 50), .int x1] : List Value).toArray s 0 0 (qA E)) σ a2.2 67 [(0, .ref (qAd E 50)), (1, .int x1), (2, .int v1)] [] := by
      intro _ hf
      replace hf := (congrFun (ek_j4) ()).symm.trans hf
      refine y_aload_n C dX5_undo_67 rfl 0 rfl ?_
      refine g50_row C fl_X5_7 dX5_undo_68 ?_
      refine y_iconst C (v := 0) dX5_undo_71 (by decide) ?_
      refine y_iload_n C dX5_undo_72 rfl 1 rfl ?_
      obtain ⟨S5, e_S5, hf⟩ := lt_e hf
      refine y_iastR C a51 (j := 0) (by decide) (by decide) e_S5 dX5_undo_73 ?_
      refine y_iload_n C dX5_undo_74 rfl 2 rfl ?_
      exact y_iret C (rs1 hf) rfl (rs2 hf) dX5_undo_75
    refine y_icmp_ge C 67 dX5_undo_32 (by decide) hf (fun hf => ?_) (fun hf => ?_)
    · refine y_sub [2, 3, 1] rfl ?_
      exact h_j4 () hf
    · refine y_iload_n C dX5_undo_35 rfl 1 rfl ?_
      refine y_if_le C 67 dX5_undo_36 (by decide) hf (fun hf => ?_) (fun hf => ?_)
      · refine y_sub [2, 3, 1] rfl ?_
        exact h_j4 () hf
      · refine y_aload_n C dX5_undo_39 rfl 2 rfl ?_
        refine g50_row C fl_X5_7 dX5_undo_40 ?_
        refine y_iconst C (v := 1) dX5_undo_43 (by decide) ?_
        refine y_iload_n C dX5_undo_44 rfl 0 rfl ?_
        refine y_iadd C dX5_undo_45 ?_
        refine y_aload_n C dX5_undo_46 rfl 2 rfl ?_
        refine g50_row C fl_X5_7 dX5_undo_47 ?_
        refine y_bipush C (v := 13) dX5_undo_50 (by decide) ?_
        refine y_bipush C (v := 12) dX5_undo_52 (by decide) ?_
        refine y_iload_n C dX5_undo_54 rfl 3 rfl ?_
        refine y_imul C dX5_undo_55 ?_
        refine y_iadd C dX5_undo_56 ?_
        refine y_iload_n C dX5_undo_57 rfl 0 rfl ?_
        refine y_iadd C dX5_undo_58 ?_
        obtain ⟨hi6, hf⟩ := ck_e hf
        refine y_ialdR C a51 (j := (((13 : Int32) + ((12 : Int32) * x1)) + a2.1).toNatClampNeg) rfl hi6 dX5_undo_59 ?_
        obtain ⟨hi7, hf⟩ := ck_e hf
        obtain ⟨S8, e_S8, hf⟩ := lt_e hf
        refine y_iastR C a51 (j := ((1 : Int32) + a2.1).toNatClampNeg) rfl hi7 e_S8 dX5_undo_60 ?_
        refine y_iinc C dX5_undo_61 0 rfl (Nat.le_of_ble_eq_true rfl) (k2 := 1) (by decide) rfl (lv' := [(3, .int (a2.1 + (1 : Int32))), (2, .int v1), (0, .ref (qAd E 50)), (1, .int x1)]) rfl ?_
        refine y_goto C 29 dX5_undo_64 (by decide) ?_
        refine y_sub [0, 1, 2, 3] rfl ?_
        exact ih_r3 ((a2.1 + (1 : Int32)), S8) hf
  · refine y_iconst C (v := -1) dX5_undo_16 (by decide) ?_
    exact y_iret C (rs1 hf) rfl (rs2 hf) dX5_undo_17
noncomputable def fX3_make_3 (x1 : Int32) (x2 : Int32) (x3 : Int32) (σ : QS) : Option (QS) :=
    (if (fX3_isPlace_3 x1 σ) = 0 then some σ else (if x2 < 0 then some σ else ck_ (inb x1 3) ((if (40 : Int32) < x2 then some σ else ck_ (inb x1 3) (lt_ (pM σ 14 (upd (gM σ 14) x1.toNatClampNeg x2)) (fun (S3 : QS) => ck_ (inb x1 3) (Option.bind (fJ7_fill_53178_a (40 + x1.toNatClampNeg) 40 x3 S3) (fun (q5 : QS) => some q5))))))))
def rm_X3_make_3 : Room := { frames := 1, cells := 0, slots := 0, locals := 23 }
set_option maxRecDepth 100000 in
set_option maxHeartbeats 4000000 in
theorem kX3_make_3 (l : Launch) (E : QE) (σ τ : QS) (x1 : Int32) (x2 : Int32) (x3 : Int32) (q : QS) (hf : fX3_make_3 x1 x2 x3 σ = some q) : KQ l yX3_make cX3_make 4 none rm_X3_make_3 E [.ref (qAd E 3), .int x1, .int x2, .int x3] σ τ (PV E q τ) := by
  unfold fX3_make_3 at hf
  refine y_met rfl (Nat.le_of_ble_eq_true rfl) rfl (fun p e s m below meth c C => ?_)
  refine y_aload_n C dX3_make_0 rfl 0 rfl ?_
  refine y_iload_n C dX3_make_1 rfl 1 rfl ?_
  refine y_cVi C (kX3_isPlace_3 l E σ τ x1 _ rfl) vi_X3_isPlace ml_X3_28 ⟨3, _, o3, rfl, rfl⟩ rfl ⟨rfl, rfl, Nat.le_of_ble_eq_true rfl, Nat.le_of_ble_eq_true rfl⟩ dX3_make_2 rfl (Nat.le_of_ble_eq_true rfl) ?_
  refine y_if_eq C 40 dX3_make_5 (by decide) hf (fun hf => ?_) (fun hf => ?_)
  · exact y_vret C (Option.some.inj hf) rfl dX3_make_40
  · refine y_iload_n C dX3_make_8 rfl 2 rfl ?_
    refine y_if_lt C 40 dX3_make_9 (by decide) hf (fun hf => ?_) (fun hf => ?_)
    · exact y_vret C (Option.some.inj hf) rfl dX3_make_40
    · refine y_iload_n C dX3_make_12 rfl 2 rfl ?_
      refine y_aload_n C dX3_make_13 rfl 0 rfl ?_
      refine g3_items C fl_X3_9 dX3_make_14 ?_
      refine y_iload_n C dX3_make_17 rfl 1 rfl ?_
      obtain ⟨hi1, hf⟩ := ck_e hf
      refine y_aald C q13 hi1 dX3_make_18 ?_
      refine y_alenC C (in13 (inb_e hi1)) (v := 40) (by decide) dX3_make_19 ?_
      refine y_icmp_gt C 40 dX3_make_20 (by decide) hf (fun hf => ?_) (fun hf => ?_)
      · exact y_vret C (Option.some.inj hf) rfl dX3_make_40
      · refine y_aload_n C dX3_make_23 rfl 0 rfl ?_
        refine g3_sizes C fl_X3_14 dX3_make_24 ?_
        refine y_iload_n C dX3_make_27 rfl 1 rfl ?_
        refine y_iload_n C dX3_make_28 rfl 2 rfl ?_
        obtain ⟨hi2, hf⟩ := ck_e hf
        obtain ⟨S3, e_S3, hf⟩ := lt_e hf
        refine y_iastC C a14 (j := x1.toNatClampNeg) rfl hi2 e_S3 dX3_make_29 ?_
        refine y_aload_n C dX3_make_30 rfl 0 rfl ?_
        refine g3_items C fl_X3_9 dX3_make_31 ?_
        refine y_iload_n C dX3_make_34 rfl 1 rfl ?_
        obtain ⟨hi4, hf⟩ := ck_e hf
        refine y_aald C q13 hi4 dX3_make_35 ?_
        refine y_iload_n C dX3_make_36 rfl 3 rfl ?_
        obtain ⟨q5, h_q5, hf⟩ := bd_e hf
        refine y_cSv C (kJ7_fill_53178_a l E S3 τ (40 + x1.toNatClampNeg) 40 x3 _ (in13 (inb_e hi4)) h_q5) si_J7_fill_53178 ml_X3_18 rfl ⟨rfl, rfl, Nat.le_of_ble_eq_true rfl, Nat.le_of_ble_eq_true rfl⟩ dX3_make_37 rfl (Nat.le_of_ble_eq_true rfl) ?_
        exact y_vret C (Option.some.inj hf) rfl dX3_make_40
noncomputable def fX3_holds_3 (x1 : Int32) (x2 : Int32) (σ : QS) : Option (Int32) :=
    (if (fX3_isPlace_3 x1 σ) = 0 then some (0 : Int32) else (if x2 < 0 then some (0 : Int32) else ck_ (inb x1 3) ((if (gM σ 14 x1.toNatClampNeg) ≤ x2 then some (0 : Int32) else some (1 : Int32)))))
def rm_X3_holds_3 : Room := { frames := 1, cells := 0, slots := 0, locals := 21 }
set_option maxRecDepth 100000 in
set_option maxHeartbeats 4000000 in
theorem kX3_holds_3 (l : Launch) (E : QE) (σ τ : QS) (x1 : Int32) (x2 : Int32) (q : Int32) (hf : fX3_holds_3 x1 x2 σ = some q) : KQ l yX3_holds cX3_holds 3 (some .boolean) rm_X3_holds_3 E [.ref (qAd E 3), .int x1, .int x2] σ τ (PI E q σ τ) := by
  unfold fX3_holds_3 at hf
  refine y_met rfl (Nat.le_of_ble_eq_true rfl) rfl (fun p e s m below meth c C => ?_)
  refine y_aload_n C dX3_holds_0 rfl 0 rfl ?_
  refine y_iload_n C dX3_holds_1 rfl 1 rfl ?_
  refine y_cVi C (kX3_isPlace_3 l E σ τ x1 _ rfl) vi_X3_isPlace ml_X3_28 ⟨3, _, o3, rfl, rfl⟩ rfl ⟨rfl, rfl, Nat.le_of_ble_eq_true rfl, Nat.le_of_ble_eq_true rfl⟩ dX3_holds_2 rfl (Nat.le_of_ble_eq_true rfl) ?_
  refine y_if_eq C 26 dX3_holds_5 (by decide) hf (fun hf => ?_) (fun hf => ?_)
  · refine y_iconst C (v := 0) dX3_holds_26 (by decide) ?_
    exact y_zret C zOk0 (Option.some.inj hf) rfl rfl dX3_holds_27
  · refine y_iload_n C dX3_holds_8 rfl 2 rfl ?_
    refine y_if_lt C 26 dX3_holds_9 (by decide) hf (fun hf => ?_) (fun hf => ?_)
    · refine y_iconst C (v := 0) dX3_holds_26 (by decide) ?_
      exact y_zret C zOk0 (Option.some.inj hf) rfl rfl dX3_holds_27
    · refine y_iload_n C dX3_holds_12 rfl 2 rfl ?_
      refine y_aload_n C dX3_holds_13 rfl 0 rfl ?_
      refine g3_sizes C fl_X3_14 dX3_holds_14 ?_
      refine y_iload_n C dX3_holds_17 rfl 1 rfl ?_
      obtain ⟨hi1, hf⟩ := ck_e hf
      refine y_ialdC C a14 (j := x1.toNatClampNeg) rfl hi1 dX3_holds_18 ?_
      refine y_icmp_ge C 26 dX3_holds_19 (by decide) hf (fun hf => ?_) (fun hf => ?_)
      · refine y_iconst C (v := 0) dX3_holds_26 (by decide) ?_
        exact y_zret C zOk0 (Option.some.inj hf) rfl rfl dX3_holds_27
      · refine y_iconst C (v := 1) dX3_holds_22 (by decide) ?_
        refine y_goto C 27 dX3_holds_23 (by decide) ?_
        exact y_zret C zOk1 (Option.some.inj hf) rfl rfl dX3_holds_27
noncomputable def fX3_set_3 (x1 : Int32) (x2 : Int32) (x3 : Int32) (σ : QS) : Option (QS) :=
    Option.bind (fX3_holds_3 x1 x2 σ) (fun (q1 : Int32) => (if q1 = 0 then some σ else ck_ (inb x1 3) (ck_ (inb x2 40) (lt_ (pM σ (40 + x1.toNatClampNeg) (upd (gM σ (40 + x1.toNatClampNeg)) x2.toNatClampNeg x3)) (fun (S4 : QS) => some S4)))))
def rm_X3_set_3 : Room := { frames := 2, cells := 0, slots := 0, locals := 43 }
set_option maxRecDepth 100000 in
set_option maxHeartbeats 4000000 in
theorem kX3_set_3 (l : Launch) (E : QE) (σ τ : QS) (x1 : Int32) (x2 : Int32) (x3 : Int32) (q : QS) (hf : fX3_set_3 x1 x2 x3 σ = some q) : KQ l yX3_set cX3_set 4 none rm_X3_set_3 E [.ref (qAd E 3), .int x1, .int x2, .int x3] σ τ (PV E q τ) := by
  unfold fX3_set_3 at hf
  refine y_met rfl (Nat.le_of_ble_eq_true rfl) rfl (fun p e s m below meth c C => ?_)
  refine y_aload_n C dX3_set_0 rfl 0 rfl ?_
  refine y_iload_n C dX3_set_1 rfl 1 rfl ?_
  refine y_iload_n C dX3_set_2 rfl 2 rfl ?_
  obtain ⟨q1, h_q1, hf⟩ := bd_e hf
  refine y_cVi C (kX3_holds_3 l E σ τ x1 x2 _ h_q1) vi_X3_holds ml_X3_32 ⟨3, _, o3, rfl, rfl⟩ rfl ⟨rfl, rfl, Nat.le_of_ble_eq_true rfl, Nat.le_of_ble_eq_true rfl⟩ dX3_set_3 rfl (Nat.le_of_ble_eq_true rfl) ?_
  refine y_if_eq C 18 dX3_set_6 (by decide) hf (fun hf => ?_) (fun hf => ?_)
  · exact y_vret C (Option.some.inj hf) rfl dX3_set_18
  · refine y_aload_n C dX3_set_9 rfl 0 rfl ?_
    refine g3_items C fl_X3_9 dX3_set_10 ?_
    refine y_iload_n C dX3_set_13 rfl 1 rfl ?_
    obtain ⟨hi2, hf⟩ := ck_e hf
    refine y_aald C q13 hi2 dX3_set_14 ?_
    refine y_iload_n C dX3_set_15 rfl 2 rfl ?_
    refine y_iload_n C dX3_set_16 rfl 3 rfl ?_
    obtain ⟨hi3, hf⟩ := ck_e hf
    obtain ⟨S4, e_S4, hf⟩ := lt_e hf
    refine y_iastC C (in13 (inb_e hi2)) (j := x2.toNatClampNeg) rfl hi3 e_S4 dX3_set_17 ?_
    exact y_vret C (Option.some.inj hf) rfl dX3_set_18
noncomputable def fX4_keep_0 (x1 : Int32) (σ : QS) : Option (Int32 × QS) :=
    (if (fX3_isPlace_3 x1 σ) = 0 then some ((-1 : Int32), σ) else (if (gI σ 9) = 0 then some ((-4 : Int32), σ) else Option.bind (fX3_make_3 x1 (gI σ 12) (0 : Int32) σ) (fun (q1 : QS) => lp_ (fun (r3 : Int32 × QS → Option (Int32 × QS)) (a2 : Int32 × QS) => (if (gI a2.2 12) ≤ a2.1 then some ((gI a2.2 12), a2.2) else ck_ (inb a2.1 40) (Option.bind (fX3_set_3 x1 a2.1 (gM a2.2 26 a2.1.toNatClampNeg) a2.2) (fun (q5 : QS) => r3 ((a2.1 + (1 : Int32)), q5))))) FV ((0 : Int32), q1))))
def rm_X4_keep_0 : Room := { frames := 3, cells := 0, slots := 0, locals := 66 }
set_option maxRecDepth 100000 in
set_option maxHeartbeats 4000000 in
theorem kX4_keep_0 (l : Launch) (E : QE) (σ τ : QS) (x1 : Int32) (q : Int32 × QS) (hf : fX4_keep_0 x1 σ = some q) : KQ l yX4_keep cX4_keep 3 (some .int) rm_X4_keep_0 E [.ref (qAd E 0), .int x1] σ τ (PI E q.1 q.2 τ) := by
  unfold fX4_keep_0 at hf
  refine y_met rfl (Nat.le_of_ble_eq_true rfl) rfl (fun p e s m below meth c C => ?_)
  refine y_aload_n C dX4_keep_0 rfl 0 rfl ?_
  refine g0_keptShelf C fl_X4_21 dX4_keep_1 ?_
  refine y_iload_n C dX4_keep_4 rfl 1 rfl ?_
  refine y_cVi C (kX3_isPlace_3 l E σ τ x1 _ rfl) vi_X3_isPlace ml_X4_60 ⟨3, _, o3, rfl, rfl⟩ rfl ⟨rfl, rfl, Nat.le_of_ble_eq_true rfl, Nat.le_of_ble_eq_true rfl⟩ dX4_keep_5 rfl (Nat.le_of_ble_eq_true rfl) ?_
  refine y_if_ne C 13 dX4_keep_8 (by decide) hf (fun hf => ?_) (fun hf => ?_)
  · refine y_aload_n C dX4_keep_13 rfl 0 rfl ?_
    refine g0_script C fl_X4_31 dX4_keep_14 ?_
    refine gN5_sitterCount C fn_X4_114 dX4_keep_17 ?_
    refine y_if_ne C 26 dX4_keep_20 (by decide) hf (fun hf => ?_) (fun hf => ?_)
    · refine y_aload_n C dX4_keep_26 rfl 0 rfl ?_
      refine g0_keptShelf C fl_X4_21 dX4_keep_27 ?_
      refine y_iload_n C dX4_keep_30 rfl 1 rfl ?_
      refine y_aload_n C dX4_keep_31 rfl 0 rfl ?_
      refine g0_night C fl_X4_39 dX4_keep_32 ?_
      refine gN6_deedCount C fn_X4_150 dX4_keep_35 ?_
      refine y_iconst C (v := 0) dX4_keep_38 (by decide) ?_
      obtain ⟨q1, h_q1, hf⟩ := bd_e hf
      refine y_cVv C (kX3_make_3 l E σ τ x1 (gI σ 12) (0 : Int32) _ h_q1) vi_X3_make ml_X4_68 ⟨3, _, o3, rfl, rfl⟩ rfl ⟨rfl, rfl, Nat.le_of_ble_eq_true rfl, Nat.le_of_ble_eq_true rfl⟩ dX4_keep_39 rfl (Nat.le_of_ble_eq_true rfl) ?_
      refine y_iconst C (v := 0) dX4_keep_42 (by decide) ?_
      refine y_istore_n C dX4_keep_43 rfl (Nat.le_of_ble_eq_true rfl) rfl (lv' := [(2, .int (0 : Int32)), (0, .ref (qAd E 0)), (1, .int x1)]) rfl ?_
      refine y_sub [0, 1, 2] rfl ?_
      refine lp_ind (P := fun a2 : Int32 × QS => Y E p l e rm_X4_keep_0 s m ([.ref (qAd E 0), .int x1] : List Value).toArray below meth c 3 (MQ below (PI E q.1 q.2 τ) ([.ref (qAd E 0), .int x1] : List Value).toArray s 0 0 (qA E)) a2.2 τ 44 [(2, .int a2.1), (0, .ref (qAd E 0)), (1, .int x1)] []) (fun r3 a2 ih_r3 hf => ?_) _ _ hf
      refine y_iload_n C dX4_keep_44 rfl 0 rfl ?_
      refine y_aload_n C dX4_keep_45 rfl 1 rfl ?_
      refine g0_night C fl_X4_39 dX4_keep_46 ?_
      refine gN6_deedCount C fn_X4_150 dX4_keep_49 ?_
      refine y_icmp_ge C 79 dX4_keep_52 (by decide) hf (fun hf => ?_) (fun hf => ?_)
      · refine y_aload_n C dX4_keep_79 rfl 1 rfl ?_
        refine g0_night C fl_X4_39 dX4_keep_80 ?_
        refine gN6_deedCount C fn_X4_150 dX4_keep_83 ?_
        exact y_iret C (rs1 hf) (rs2 hf) rfl dX4_keep_86
      · refine y_aload_n C dX4_keep_55 rfl 1 rfl ?_
        refine g0_keptShelf C fl_X4_21 dX4_keep_56 ?_
        refine y_iload_n C dX4_keep_59 rfl 2 rfl ?_
        refine y_iload_n C dX4_keep_60 rfl 0 rfl ?_
        refine y_aload_n C dX4_keep_61 rfl 1 rfl ?_
        refine g0_night C fl_X4_39 dX4_keep_62 ?_
        refine gN6_deeds C fn_X4_173 dX4_keep_65 ?_
        refine y_iload_n C dX4_keep_68 rfl 0 rfl ?_
        obtain ⟨hi4, hf⟩ := ck_e hf
        refine y_ialdC C a26 (j := a2.1.toNatClampNeg) rfl hi4 dX4_keep_69 ?_
        obtain ⟨q5, h_q5, hf⟩ := bd_e hf
        refine y_cVv C (kX3_set_3 l E a2.2 τ x1 a2.1 (gM a2.2 26 a2.1.toNatClampNeg) _ h_q5) vi_X3_set ml_X4_80 ⟨3, _, o3, rfl, rfl⟩ rfl ⟨rfl, rfl, Nat.le_of_ble_eq_true rfl, Nat.le_of_ble_eq_true rfl⟩ dX4_keep_70 rfl (Nat.le_of_ble_eq_true rfl) ?_
        refine y_iinc C dX4_keep_73 0 rfl (Nat.le_of_ble_eq_true rfl) (k2 := 1) (by decide) rfl (lv' := [(2, .int (a2.1 + (1 : Int32))), (0, .ref (qAd E 0)), (1, .int x1)]) rfl ?_
        refine y_goto C 44 dX4_keep_76 (by decide) ?_
        refine y_sub [0, 1, 2] rfl ?_
        exact ih_r3 ((a2.1 + (1 : Int32)), q5) hf
    · refine y_bipush C (v := -4) dX4_keep_23 (by decide) ?_
      exact y_iret C (rs1 hf) (rs2 hf) rfl dX4_keep_25
  · refine y_iconst C (v := -1) dX4_keep_11 (by decide) ?_
    exact y_iret C (rs1 hf) (rs2 hf) rfl dX4_keep_12
noncomputable def fX5_copyHouse_50 (x1 : Int32) (x2 : Int32) (τ : QS) : Option (QS) :=
    lp_ (fun (r2 : Int32 × QS → Option (QS)) (a1 : Int32 × QS) => (if (493 : Int32) ≤ a1.1 then some a1.2 else ck_ (inb (x1 + a1.1) 1972) (ck_ (inb (x2 + a1.1) 1972) (lt_ (pM a1.2 51 (upd (gM a1.2 51) ((x2 + a1.1).toNatClampNeg) (gM a1.2 51 ((x1 + a1.1).toNatClampNeg)))) (fun (S5 : QS) => r2 ((a1.1 + (1 : Int32)), S5)))))) FV ((0 : Int32), τ)
def rm_X5_copyHouse_50 : Room := { frames := 0, cells := 0, slots := 0, locals := 0 }
set_option maxRecDepth 100000 in
set_option maxHeartbeats 4000000 in
theorem kX5_copyHouse_50 (l : Launch) (E : QE) (σ τ : QS) (x1 : Int32) (x2 : Int32) (q : QS) (hf : fX5_copyHouse_50 x1 x2 τ = some q) : KQ l yX5_copyHouse cX5_copyHouse 4 none rm_X5_copyHouse_50 E [.ref (qAd E 50), .int x1, .int x2] σ τ (PV E σ q) := by
  unfold fX5_copyHouse_50 at hf
  refine y_met rfl (Nat.le_of_ble_eq_true rfl) rfl (fun p e s m below meth c C => ?_)
  refine y_iconst C (v := 0) dX5_copyHouse_0 (by decide) ?_
  refine y_istore_n C dX5_copyHouse_1 rfl (Nat.le_of_ble_eq_true rfl) rfl (lv' := [(3, .int (0 : Int32)), (0, .ref (qAd E 50)), (1, .int x1), (2, .int x2)]) rfl ?_
  refine y_sub [0, 1, 2, 3] rfl ?_
  refine lp_ind (P := fun a1 : Int32 × QS => Y E p l e rm_X5_copyHouse_50 s m ([.ref (qAd E 50), .int x1, .int x2] : List Value).toArray below meth c 4 (MQ below (PV E σ q) ([.ref (qAd E 50), .int x1, .int x2] : List Value).toArray s 0 0 (qA E)) σ a1.2 2 [(3, .int a1.1), (0, .ref (qAd E 50)), (1, .int x1), (2, .int x2)] []) (fun r2 a1 ih_r2 hf => ?_) _ _ hf
  refine y_iload_n C dX5_copyHouse_2 rfl 0 rfl ?_
  refine y_sipush C (v := 493) dX5_copyHouse_3 (by decide) ?_
  refine y_icmp_ge C 31 dX5_copyHouse_6 (by decide) hf (fun hf => ?_) (fun hf => ?_)
  · exact y_vret C rfl (Option.some.inj hf) dX5_copyHouse_31
  · refine y_aload_n C dX5_copyHouse_9 rfl 1 rfl ?_
    refine g50_row C fl_X5_7 dX5_copyHouse_10 ?_
    refine y_iload_n C dX5_copyHouse_13 rfl 3 rfl ?_
    refine y_iload_n C dX5_copyHouse_14 rfl 0 rfl ?_
    refine y_iadd C dX5_copyHouse_15 ?_
    refine y_aload_n C dX5_copyHouse_16 rfl 1 rfl ?_
    refine g50_row C fl_X5_7 dX5_copyHouse_17 ?_
    refine y_iload_n C dX5_copyHouse_20 rfl 2 rfl ?_
    refine y_iload_n C dX5_copyHouse_21 rfl 0 rfl ?_
    refine y_iadd C dX5_copyHouse_22 ?_
    obtain ⟨hi3, hf⟩ := ck_e hf
    refine y_ialdR C a51 (j := (x1 + a1.1).toNatClampNeg) rfl hi3 dX5_copyHouse_23 ?_
    obtain ⟨hi4, hf⟩ := ck_e hf
    obtain ⟨S5, e_S5, hf⟩ := lt_e hf
    refine y_iastR C a51 (j := (x2 + a1.1).toNatClampNeg) rfl hi4 e_S5 dX5_copyHouse_24 ?_
    refine y_iinc C dX5_copyHouse_25 0 rfl (Nat.le_of_ble_eq_true rfl) (k2 := 1) (by decide) rfl (lv' := [(3, .int (a1.1 + (1 : Int32))), (0, .ref (qAd E 50)), (1, .int x1), (2, .int x2)]) rfl ?_
    refine y_goto C 2 dX5_copyHouse_28 (by decide) ?_
    refine y_sub [0, 1, 2, 3] rfl ?_
    exact ih_r2 ((a1.1 + (1 : Int32)), S5) hf
noncomputable def fX5_keep_50 (x1 : Int32) (τ : QS) : Option (Int32 × QS) :=
    (if (fX5_in x1.toInt64 (0 : Int64) (2 : Int64)) = 0 then some ((-1 : Int32), τ) else (if (gI τ 1) = 0 then some ((-4 : Int32), τ) else Option.bind (fX5_copyHouse_50 (0 : Int32) ((493 : Int32) * ((1 : Int32) + x1)) τ) (fun (q1 : QS) => some ((gM q1 51 0), q1))))
def rm_X5_keep_50 : Room := { frames := 1, cells := 0, slots := 0, locals := 25 }
set_option maxRecDepth 100000 in
set_option maxHeartbeats 4000000 in
theorem kX5_keep_50 (l : Launch) (E : QE) (σ τ : QS) (x1 : Int32) (q : Int32 × QS) (hf : fX5_keep_50 x1 τ = some q) : KQ l yX5_keep cX5_keep 2 (some .int) rm_X5_keep_50 E [.ref (qAd E 50), .int x1] σ τ (PI E q.1 σ q.2) := by
  unfold fX5_keep_50 at hf
  refine y_met rfl (Nat.le_of_ble_eq_true rfl) rfl (fun p e s m below meth c C => ?_)
  refine y_iload_n C dX5_keep_0 rfl 1 rfl ?_
  refine y_i2l C dX5_keep_1 ?_
  refine y_lconst C (v := 0) dX5_keep_2 (by decide) ?_
  refine y_ldc2 C kl_X5_240 dX5_keep_3 ?_
  refine y_cSi C (kX5_in l E σ τ x1.toInt64 (0 : Int64) (2 : Int64) _ rfl) si_X5_in ml_X5_77 rfl ⟨rfl, rfl, Nat.le_of_ble_eq_true rfl, Nat.le_of_ble_eq_true rfl⟩ dX5_keep_6 rfl (Nat.le_of_ble_eq_true rfl) ?_
  refine y_if_ne C 14 dX5_keep_9 (by decide) hf (fun hf => ?_) (fun hf => ?_)
  · refine y_aload_n C dX5_keep_14 rfl 0 rfl ?_
    refine g50_sitters C fl_X5_163 dX5_keep_15 ?_
    refine y_if_ne C 24 dX5_keep_18 (by decide) hf (fun hf => ?_) (fun hf => ?_)
    · refine y_aload_n C dX5_keep_24 rfl 0 rfl ?_
      refine y_iconst C (v := 0) dX5_keep_25 (by decide) ?_
      refine y_sipush C (v := 493) dX5_keep_26 (by decide) ?_
      refine y_iconst C (v := 1) dX5_keep_29 (by decide) ?_
      refine y_iload_n C dX5_keep_30 rfl 1 rfl ?_
      refine y_iadd C dX5_keep_31 ?_
      refine y_imul C dX5_keep_32 ?_
      obtain ⟨q1, h_q1, hf⟩ := bd_e hf
      refine y_cVv C (kX5_copyHouse_50 l E σ τ (0 : Int32) ((493 : Int32) * ((1 : Int32) + x1)) _ h_q1) vi_X5_copyHouse ml_X5_242 ⟨5, _, o50, rfl, rfl⟩ rfl ⟨rfl, rfl, Nat.le_of_ble_eq_true rfl, Nat.le_of_ble_eq_true rfl⟩ dX5_keep_33 rfl (Nat.le_of_ble_eq_true rfl) ?_
      refine y_aload_n C dX5_keep_36 rfl 0 rfl ?_
      refine g50_row C fl_X5_7 dX5_keep_37 ?_
      refine y_iconst C (v := 0) dX5_keep_40 (by decide) ?_
      refine y_ialdR C a51 (j := 0) (by decide) (by decide) dX5_keep_41 ?_
      exact y_iret C (rs1 hf) rfl (rs2 hf) dX5_keep_42
    · refine y_bipush C (v := -4) dX5_keep_21 (by decide) ?_
      exact y_iret C (rs1 hf) rfl (rs2 hf) dX5_keep_23
  · refine y_iconst C (v := -1) dX5_keep_12 (by decide) ?_
    exact y_iret C (rs1 hf) rfl (rs2 hf) dX5_keep_13
