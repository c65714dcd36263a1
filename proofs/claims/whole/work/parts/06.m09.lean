noncomputable def fX3_size_3 (x1 : Int32) (σ : QS) : Option (Int32) :=
    (if (fX3_isPlace_3 x1 σ) = 0 then some (-1 : Int32) else ck_ (inb x1 3) (some (gM σ 14 x1.toNatClampNeg)))
def rm_X3_size_3 : Room := { frames := 1, cells := 0, slots := 0, locals := 21 }
set_option maxRecDepth 100000 in
set_option maxHeartbeats 4000000 in
theorem kX3_size_3 (l : Launch) (E : QE) (σ τ : QS) (x1 : Int32) (q : Int32) (hf : fX3_size_3 x1 σ = some q) : KQ l yX3_size cX3_size 2 (some .int) rm_X3_size_3 E [.ref (qAd E 3), .int x1] σ τ (PI E q σ τ) := by
  unfold fX3_size_3 at hf
  refine y_met rfl (Nat.le_of_ble_eq_true rfl) rfl (fun p e s m below meth c C => ?_)
  refine y_aload_n C dX3_size_0 rfl 0 rfl ?_
  refine y_iload_n C dX3_size_1 rfl 1 rfl ?_
  refine y_cVi C (kX3_isPlace_3 l E σ τ x1 _ rfl) vi_X3_isPlace ml_X3_28 ⟨3, _, o3, rfl, rfl⟩ rfl ⟨rfl, rfl, Nat.le_of_ble_eq_true rfl, Nat.le_of_ble_eq_true rfl⟩ dX3_size_2 rfl (Nat.le_of_ble_eq_true rfl) ?_
  refine y_if_eq C 17 dX3_size_5 (by decide) hf (fun hf => ?_) (fun hf => ?_)
  · refine y_iconst C (v := -1) dX3_size_17 (by decide) ?_
    exact y_iret C (Option.some.inj hf) rfl rfl dX3_size_18
  · refine y_aload_n C dX3_size_8 rfl 0 rfl ?_
    refine g3_sizes C fl_X3_14 dX3_size_9 ?_
    refine y_iload_n C dX3_size_12 rfl 1 rfl ?_
    obtain ⟨hi1, hf⟩ := ck_e hf
    refine y_ialdC C a14 (j := x1.toNatClampNeg) rfl hi1 dX3_size_13 ?_
    refine y_goto C 18 dX3_size_14 (by decide) ?_
    exact y_iret C (Option.some.inj hf) rfl rfl dX3_size_18
noncomputable def fX3_has_3 (x1 : Int32) (σ : QS) : Option (Int32) :=
    Option.bind (fX3_size_3 x1 σ) (fun (q1 : Int32) => (if q1 = (-1 : Int32) then some (0 : Int32) else some (1 : Int32)))
def rm_X3_has_3 : Room := { frames := 2, cells := 0, slots := 0, locals := 42 }
set_option maxRecDepth 100000 in
set_option maxHeartbeats 4000000 in
theorem kX3_has_3 (l : Launch) (E : QE) (σ τ : QS) (x1 : Int32) (q : Int32) (hf : fX3_has_3 x1 σ = some q) : KQ l yX3_has cX3_has 2 (some .boolean) rm_X3_has_3 E [.ref (qAd E 3), .int x1] σ τ (PI E q σ τ) := by
  unfold fX3_has_3 at hf
  refine y_met rfl (Nat.le_of_ble_eq_true rfl) rfl (fun p e s m below meth c C => ?_)
  refine y_aload_n C dX3_has_0 rfl 0 rfl ?_
  refine y_iload_n C dX3_has_1 rfl 1 rfl ?_
  obtain ⟨q1, h_q1, hf⟩ := bd_e hf
  refine y_cVi C (kX3_size_3 l E σ τ x1 _ h_q1) vi_X3_size ml_X3_24 ⟨3, _, o3, rfl, rfl⟩ rfl ⟨rfl, rfl, Nat.le_of_ble_eq_true rfl, Nat.le_of_ble_eq_true rfl⟩ dX3_has_2 rfl (Nat.le_of_ble_eq_true rfl) ?_
  refine y_iconst C (v := -1) dX3_has_5 (by decide) ?_
  refine y_icmp_eq C 13 dX3_has_6 (by decide) hf (fun hf => ?_) (fun hf => ?_)
  · refine y_iconst C (v := 0) dX3_has_13 (by decide) ?_
    exact y_zret C zOk0 (Option.some.inj hf) rfl rfl dX3_has_14
  · refine y_iconst C (v := 1) dX3_has_9 (by decide) ?_
    refine y_goto C 14 dX3_has_10 (by decide) ?_
    exact y_zret C zOk1 (Option.some.inj hf) rfl rfl dX3_has_14
noncomputable def fX4_refusalOfPlace_0_3 (x2 : Int32) (σ : QS) : Option (Int32 × QS) :=
    (if (fX3_isPlace_3 x2 σ) = 0 then some ((-1 : Int32), σ) else Option.bind (fX3_has_3 x2 σ) (fun (q1 : Int32) => (if q1 = 0 then Option.bind (fX4_refuse_0 (1 : Int32) σ) (fun (q2 : Int32 × QS) => some (q2.1, q2.2)) else some ((0 : Int32), σ))))
def rm_X4_refusalOfPlace_0_3 : Room := { frames := 3, cells := 0, slots := 0, locals := 63 }
set_option maxRecDepth 100000 in
set_option maxHeartbeats 4000000 in
theorem kX4_refusalOfPlace_0_3 (l : Launch) (E : QE) (σ τ : QS) (x2 : Int32) (q : Int32 × QS) (hf : fX4_refusalOfPlace_0_3 x2 σ = some q) : KQ l yX4_refusalOfPlace cX4_refusalOfPlace 3 (some .int) rm_X4_refusalOfPlace_0_3 E [.ref (qAd E 0), .ref (qAd E 3), .int x2] σ τ (PI E q.1 q.2 τ) := by
  unfold fX4_refusalOfPlace_0_3 at hf
  refine y_met rfl (Nat.le_of_ble_eq_true rfl) rfl (fun p e s m below meth c C => ?_)
  refine y_aload_n C dX4_refusalOfPlace_0 rfl 1 rfl ?_
  refine y_iload_n C dX4_refusalOfPlace_1 rfl 2 rfl ?_
  refine y_cVi C (kX3_isPlace_3 l E σ τ x2 _ rfl) vi_X3_isPlace ml_X4_60 ⟨3, _, o3, rfl, rfl⟩ rfl ⟨rfl, rfl, Nat.le_of_ble_eq_true rfl, Nat.le_of_ble_eq_true rfl⟩ dX4_refusalOfPlace_2 rfl (Nat.le_of_ble_eq_true rfl) ?_
  refine y_if_ne C 10 dX4_refusalOfPlace_5 (by decide) hf (fun hf => ?_) (fun hf => ?_)
  · refine y_aload_n C dX4_refusalOfPlace_10 rfl 1 rfl ?_
    refine y_iload_n C dX4_refusalOfPlace_11 rfl 2 rfl ?_
    obtain ⟨q1, h_q1, hf⟩ := bd_e hf
    refine y_cVi C (kX3_has_3 l E σ τ x2 _ h_q1) vi_X3_has ml_X4_94 ⟨3, _, o3, rfl, rfl⟩ rfl ⟨rfl, rfl, Nat.le_of_ble_eq_true rfl, Nat.le_of_ble_eq_true rfl⟩ dX4_refusalOfPlace_12 rfl (Nat.le_of_ble_eq_true rfl) ?_
    refine y_if_eq C 22 dX4_refusalOfPlace_15 (by decide) hf (fun hf => ?_) (fun hf => ?_)
    · refine y_aload_n C dX4_refusalOfPlace_22 rfl 0 rfl ?_
      refine y_iconst C (v := 1) dX4_refusalOfPlace_23 (by decide) ?_
      obtain ⟨q2, h_q2, hf⟩ := bd_e hf
      refine y_cVi C (kX4_refuse_0 l E σ τ (1 : Int32) _ h_q2) vi_X4_refuse ml_X4_64 ⟨4, _, o0, rfl, rfl⟩ rfl ⟨rfl, rfl, Nat.le_of_ble_eq_true rfl, Nat.le_of_ble_eq_true rfl⟩ dX4_refusalOfPlace_24 rfl (Nat.le_of_ble_eq_true rfl) ?_
      exact y_iret C (rs1 hf) (rs2 hf) rfl dX4_refusalOfPlace_27
    · refine y_iconst C (v := 0) dX4_refusalOfPlace_18 (by decide) ?_
      refine y_goto C 27 dX4_refusalOfPlace_19 (by decide) ?_
      exact y_iret C (rs1 hf) (rs2 hf) rfl dX4_refusalOfPlace_27
  · refine y_iconst C (v := -1) dX4_refusalOfPlace_8 (by decide) ?_
    exact y_iret C (rs1 hf) (rs2 hf) rfl dX4_refusalOfPlace_9
noncomputable def fX3_get_3 (x1 : Int32) (x2 : Int32) (σ : QS) : Option (Int32) :=
    Option.bind (fX3_holds_3 x1 x2 σ) (fun (q1 : Int32) => (if q1 = 0 then some (0 : Int32) else ck_ (inb x1 3) (ck_ (inb x2 40) (some (gM σ (40 + x1.toNatClampNeg) x2.toNatClampNeg)))))
def rm_X3_get_3 : Room := { frames := 2, cells := 0, slots := 0, locals := 43 }
set_option maxRecDepth 100000 in
set_option maxHeartbeats 4000000 in
theorem kX3_get_3 (l : Launch) (E : QE) (σ τ : QS) (x1 : Int32) (x2 : Int32) (q : Int32) (hf : fX3_get_3 x1 x2 σ = some q) : KQ l yX3_get cX3_get 3 (some .int) rm_X3_get_3 E [.ref (qAd E 3), .int x1, .int x2] σ τ (PI E q σ τ) := by
  unfold fX3_get_3 at hf
  refine y_met rfl (Nat.le_of_ble_eq_true rfl) rfl (fun p e s m below meth c C => ?_)
  refine y_aload_n C dX3_get_0 rfl 0 rfl ?_
  refine y_iload_n C dX3_get_1 rfl 1 rfl ?_
  refine y_iload_n C dX3_get_2 rfl 2 rfl ?_
  obtain ⟨q1, h_q1, hf⟩ := bd_e hf
  refine y_cVi C (kX3_holds_3 l E σ τ x1 x2 _ h_q1) vi_X3_holds ml_X3_32 ⟨3, _, o3, rfl, rfl⟩ rfl ⟨rfl, rfl, Nat.le_of_ble_eq_true rfl, Nat.le_of_ble_eq_true rfl⟩ dX3_get_3 rfl (Nat.le_of_ble_eq_true rfl) ?_
  refine y_if_eq C 20 dX3_get_6 (by decide) hf (fun hf => ?_) (fun hf => ?_)
  · refine y_iconst C (v := 0) dX3_get_20 (by decide) ?_
    exact y_iret C (Option.some.inj hf) rfl rfl dX3_get_21
  · refine y_aload_n C dX3_get_9 rfl 0 rfl ?_
    refine g3_items C fl_X3_9 dX3_get_10 ?_
    refine y_iload_n C dX3_get_13 rfl 1 rfl ?_
    obtain ⟨hi2, hf⟩ := ck_e hf
    refine y_aald C q13 hi2 dX3_get_14 ?_
    refine y_iload_n C dX3_get_15 rfl 2 rfl ?_
    obtain ⟨hi3, hf⟩ := ck_e hf
    refine y_ialdC C (in13 (inb_e hi2)) (j := x2.toNatClampNeg) rfl hi3 dX3_get_16 ?_
    refine y_goto C 21 dX3_get_17 (by decide) ?_
    exact y_iret C (Option.some.inj hf) rfl rfl dX3_get_21
noncomputable def fX4_on_0 (x1 : Int32) (σ : QS) : Option (Int32 × QS) :=
    Option.bind (fX4_refusalOfPlace_0_3 x1 σ) (fun (q1 : Int32 × QS) => (if q1.1 = 0 then lt_ (fX0_begin_6 q1.2) (fun (q2 : QS) => lp_ (fun (r4 : Int32 × QS → Option (Int32 × QS)) (a3 : Int32 × QS) => Option.bind (fX3_size_3 x1 a3.2) (fun (q5 : Int32) => (if q5 ≤ a3.1 then some ((gI a3.2 12), a3.2) else Option.bind (fX3_get_3 x1 a3.1 a3.2) (fun (q6 : Int32) => Option.bind (fX0_perform_6 q6 a3.2) (fun (q7 : QS) => r4 ((a3.1 + (1 : Int32)), q7)))))) FV ((0 : Int32), q2)) else some (q1.1, q1.2)))
def rm_X4_on_0 : Room := { frames := 6, cells := 0, slots := 0, locals := 137 }
set_option maxRecDepth 100000 in
set_option maxHeartbeats 4000000 in
theorem kX4_on_0 (l : Launch) (E : QE) (σ τ : QS) (x1 : Int32) (q : Int32 × QS) (hf : fX4_on_0 x1 σ = some q) : KQ l yX4_on cX4_on 4 (some .int) rm_X4_on_0 E [.ref (qAd E 0), .int x1] σ τ (PI E q.1 q.2 τ) := by
  unfold fX4_on_0 at hf
  refine y_met rfl (Nat.le_of_ble_eq_true rfl) rfl (fun p e s m below meth c C => ?_)
  refine y_aload_n C dX4_on_0 rfl 0 rfl ?_
  refine y_aload_n C dX4_on_1 rfl 0 rfl ?_
  refine g0_keptShelf C fl_X4_21 dX4_on_2 ?_
  refine y_iload_n C dX4_on_5 rfl 1 rfl ?_
  obtain ⟨q1, h_q1, hf⟩ := bd_e hf
  refine y_cVi C (kX4_refusalOfPlace_0_3 l E σ τ x1 _ h_q1) vi_X4_refusalOfPlace ml_X4_86 ⟨4, _, o0, rfl, rfl⟩ rfl ⟨rfl, rfl, Nat.le_of_ble_eq_true rfl, Nat.le_of_ble_eq_true rfl⟩ dX4_on_6 rfl (Nat.le_of_ble_eq_true rfl) ?_
  refine y_istore_n C dX4_on_9 rfl (Nat.le_of_ble_eq_true rfl) rfl (lv' := [(2, .int q1.1), (0, .ref (qAd E 0)), (1, .int x1)]) rfl ?_
  refine y_iload_n C dX4_on_10 rfl 0 rfl ?_
  refine y_if_eq C 16 dX4_on_11 (by decide) hf (fun hf => ?_) (fun hf => ?_)
  · refine y_aload_n C dX4_on_16 rfl 1 rfl ?_
    refine g0_night C fl_X4_39 dX4_on_17 ?_
    obtain ⟨q2, e_q2, hf⟩ := lt_e hf
    refine y_cVv C (kX0_begin_6 l E q1.2 τ _ e_q2.symm) vi_X0_begin ml_X4_111 ⟨0, _, o6, rfl, rfl⟩ rfl ⟨rfl, rfl, Nat.le_of_ble_eq_true rfl, Nat.le_of_ble_eq_true rfl⟩ dX4_on_20 rfl (Nat.le_of_ble_eq_true rfl) ?_
    refine y_iconst C (v := 0) dX4_on_23 (by decide) ?_
    refine y_istore_n C dX4_on_24 rfl (Nat.le_of_ble_eq_true rfl) rfl (lv' := [(3, .int (0 : Int32)), (2, .int q1.1), (0, .ref (qAd E 0)), (1, .int x1)]) rfl ?_
    refine y_sub [0, 2, 3] rfl ?_
    refine lp_ind (P := fun a3 : Int32 × QS => Y E p l e rm_X4_on_0 s m ([.ref (qAd E 0), .int x1] : List Value).toArray below meth c 4 (MQ below (PI E q.1 q.2 τ) ([.ref (qAd E 0), .int x1] : List Value).toArray s 0 0 (qA E)) a3.2 τ 25 [(3, .int a3.1), (0, .ref (qAd E 0)), (1, .int x1)] []) (fun r4 a3 ih_r4 hf => ?_) _ _ hf
    refine y_iload_n C dX4_on_25 rfl 0 rfl ?_
    refine y_aload_n C dX4_on_26 rfl 1 rfl ?_
    refine g0_keptShelf C fl_X4_21 dX4_on_27 ?_
    refine y_iload_n C dX4_on_30 rfl 2 rfl ?_
    obtain ⟨q5, h_q5, hf⟩ := bd_e hf
    refine y_cVi C (kX3_size_3 l E a3.2 τ x1 _ h_q5) vi_X3_size ml_X4_105 ⟨3, _, o3, rfl, rfl⟩ rfl ⟨rfl, rfl, Nat.le_of_ble_eq_true rfl, Nat.le_of_ble_eq_true rfl⟩ dX4_on_31 rfl (Nat.le_of_ble_eq_true rfl) ?_
    refine y_icmp_ge C 59 dX4_on_34 (by decide) hf (fun hf => ?_) (fun hf => ?_)
    · refine y_aload_n C dX4_on_59 rfl 1 rfl ?_
      refine g0_night C fl_X4_39 dX4_on_60 ?_
      refine gN6_deedCount C fn_X4_150 dX4_on_63 ?_
      exact y_iret C (rs1 hf) (rs2 hf) rfl dX4_on_66
    · refine y_aload_n C dX4_on_37 rfl 1 rfl ?_
      refine g0_night C fl_X4_39 dX4_on_38 ?_
      refine y_aload_n C dX4_on_41 rfl 1 rfl ?_
      refine g0_keptShelf C fl_X4_21 dX4_on_42 ?_
      refine y_iload_n C dX4_on_45 rfl 2 rfl ?_
      refine y_iload_n C dX4_on_46 rfl 0 rfl ?_
      obtain ⟨q6, h_q6, hf⟩ := bd_e hf
      refine y_cVi C (kX3_get_3 l E a3.2 τ x1 a3.1 _ h_q6) vi_X3_get ml_X4_76 ⟨3, _, o3, rfl, rfl⟩ rfl ⟨rfl, rfl, Nat.le_of_ble_eq_true rfl, Nat.le_of_ble_eq_true rfl⟩ dX4_on_47 rfl (Nat.le_of_ble_eq_true rfl) ?_
      obtain ⟨q7, h_q7, hf⟩ := bd_e hf
      refine y_cVv C (kX0_perform_6 l E a3.2 τ q6 _ h_q7) vi_X0_perform ml_X4_159 ⟨0, _, o6, rfl, rfl⟩ rfl ⟨rfl, rfl, Nat.le_of_ble_eq_true rfl, Nat.le_of_ble_eq_true rfl⟩ dX4_on_50 rfl (Nat.le_of_ble_eq_true rfl) ?_
      refine y_iinc C dX4_on_53 0 rfl (Nat.le_of_ble_eq_true rfl) (k2 := 1) (by decide) rfl (lv' := [(3, .int (a3.1 + (1 : Int32))), (0, .ref (qAd E 0)), (1, .int x1)]) rfl ?_
      refine y_goto C 25 dX4_on_56 (by decide) ?_
      refine y_sub [0, 1, 2] rfl ?_
      exact ih_r4 ((a3.1 + (1 : Int32)), q7) hf
  · refine y_iload_n C dX4_on_14 rfl 0 rfl ?_
    exact y_iret C (rs1 hf) (rs2 hf) rfl dX4_on_15
noncomputable def fX5_on_50 (x1 : Int32) (τ : QS) : Option (Int32 × QS) :=
    (if (fX5_in x1.toInt64 (0 : Int64) (2 : Int64)) = 0 then some ((-1 : Int32), τ) else ck_ (inb (((493 : Int32) * ((1 : Int32) + x1)) + (0 : Int32)) 1972) ((if 0 ≤ (gM τ 51 ((((493 : Int32) * ((1 : Int32) + x1)) + (0 : Int32)).toNatClampNeg)) then Option.bind (fX5_copyHouse_50 ((493 : Int32) * ((1 : Int32) + x1)) (0 : Int32) τ) (fun (q2 : QS) => some ((gM q2 51 0), q2)) else Option.bind (fX5_find_50 (1 : Int32) τ) (fun (q3 : Int32 × QS) => some (q3.1, q3.2)))))
def rm_X5_on_50 : Room := { frames := 1, cells := 0, slots := 0, locals := 25 }
set_option maxRecDepth 100000 in
set_option maxHeartbeats 4000000 in
theorem kX5_on_50 (l : Launch) (E : QE) (σ τ : QS) (x1 : Int32) (q : Int32 × QS) (hf : fX5_on_50 x1 τ = some q) : KQ l yX5_on cX5_on 2 (some .int) rm_X5_on_50 E [.ref (qAd E 50), .int x1] σ τ (PI E q.1 σ q.2) := by
  unfold fX5_on_50 at hf
  refine y_met rfl (Nat.le_of_ble_eq_true rfl) rfl (fun p e s m below meth c C => ?_)
  refine y_iload_n C dX5_on_0 rfl 1 rfl ?_
  refine y_i2l C dX5_on_1 ?_
  refine y_lconst C (v := 0) dX5_on_2 (by decide) ?_
  refine y_ldc2 C kl_X5_240 dX5_on_3 ?_
  refine y_cSi C (kX5_in l E σ τ x1.toInt64 (0 : Int64) (2 : Int64) _ rfl) si_X5_in ml_X5_77 rfl ⟨rfl, rfl, Nat.le_of_ble_eq_true rfl, Nat.le_of_ble_eq_true rfl⟩ dX5_on_6 rfl (Nat.le_of_ble_eq_true rfl) ?_
  refine y_if_ne C 14 dX5_on_9 (by decide) hf (fun hf => ?_) (fun hf => ?_)
  · refine y_aload_n C dX5_on_14 rfl 0 rfl ?_
    refine g50_row C fl_X5_7 dX5_on_15 ?_
    refine y_sipush C (v := 493) dX5_on_18 (by decide) ?_
    refine y_iconst C (v := 1) dX5_on_21 (by decide) ?_
    refine y_iload_n C dX5_on_22 rfl 1 rfl ?_
    refine y_iadd C dX5_on_23 ?_
    refine y_imul C dX5_on_24 ?_
    refine y_iconst C (v := 0) dX5_on_25 (by decide) ?_
    refine y_iadd C dX5_on_26 ?_
    obtain ⟨hi1, hf⟩ := ck_e hf
    refine y_ialdR C a51 (j := (((493 : Int32) * ((1 : Int32) + x1)) + (0 : Int32)).toNatClampNeg) rfl hi1 dX5_on_27 ?_
    refine y_if_ge C 37 dX5_on_28 (by decide) hf (fun hf => ?_) (fun hf => ?_)
    · refine y_aload_n C dX5_on_37 rfl 0 rfl ?_
      refine y_sipush C (v := 493) dX5_on_38 (by decide) ?_
      refine y_iconst C (v := 1) dX5_on_41 (by decide) ?_
      refine y_iload_n C dX5_on_42 rfl 1 rfl ?_
      refine y_iadd C dX5_on_43 ?_
      refine y_imul C dX5_on_44 ?_
      refine y_iconst C (v := 0) dX5_on_45 (by decide) ?_
      obtain ⟨q2, h_q2, hf⟩ := bd_e hf
      refine y_cVv C (kX5_copyHouse_50 l E σ τ ((493 : Int32) * ((1 : Int32) + x1)) (0 : Int32) _ h_q2) vi_X5_copyHouse ml_X5_242 ⟨5, _, o50, rfl, rfl⟩ rfl ⟨rfl, rfl, Nat.le_of_ble_eq_true rfl, Nat.le_of_ble_eq_true rfl⟩ dX5_on_46 rfl (Nat.le_of_ble_eq_true rfl) ?_
      refine y_aload_n C dX5_on_49 rfl 0 rfl ?_
      refine g50_row C fl_X5_7 dX5_on_50 ?_
      refine y_iconst C (v := 0) dX5_on_53 (by decide) ?_
      refine y_ialdR C a51 (j := 0) (by decide) (by decide) dX5_on_54 ?_
      exact y_iret C (rs1 hf) rfl (rs2 hf) dX5_on_55
    · refine y_aload_n C dX5_on_31 rfl 0 rfl ?_
      refine y_iconst C (v := 1) dX5_on_32 (by decide) ?_
      obtain ⟨q3, h_q3, hf⟩ := bd_e hf
      refine y_cVi C (kX5_find_50 l E σ τ (1 : Int32) _ h_q3) vi_X5_find ml_X5_87 ⟨5, _, o50, rfl, rfl⟩ rfl ⟨rfl, rfl, Nat.le_of_ble_eq_true rfl, Nat.le_of_ble_eq_true rfl⟩ dX5_on_33 rfl (Nat.le_of_ble_eq_true rfl) ?_
      exact y_iret C (rs1 hf) rfl (rs2 hf) dX5_on_36
  · refine y_iconst C (v := -1) dX5_on_12 (by decide) ?_
    exact y_iret C (rs1 hf) rfl (rs2 hf) dX5_on_13
noncomputable def fX4_can_0  (σ : QS) : Option (Int32) :=
    Option.bind (fX0_free_6 σ) (fun (q1 : Int32) => some q1)
def rm_X4_can_0 : Room := { frames := 3, cells := 0, slots := 0, locals := 63 }
set_option maxRecDepth 100000 in
set_option maxHeartbeats 4000000 in
theorem kX4_can_0 (l : Launch) (E : QE) (σ τ : QS)  (q : Int32) (hf : fX4_can_0 σ = some q) : KQ l yX4_can cX4_can 1 (some .int) rm_X4_can_0 E [.ref (qAd E 0)] σ τ (PI E q σ τ) := by
  unfold fX4_can_0 at hf
  refine y_met rfl (Nat.le_of_ble_eq_true rfl) rfl (fun p e s m below meth c C => ?_)
  refine y_aload_n C dX4_can_0 rfl 0 rfl ?_
  refine g0_night C fl_X4_39 dX4_can_1 ?_
  obtain ⟨q1, h_q1, hf⟩ := bd_e hf
  refine y_cVi C (kX0_free_6 l E σ τ _ h_q1) vi_X0_free ml_X4_144 ⟨0, _, o6, rfl, rfl⟩ rfl ⟨rfl, rfl, Nat.le_of_ble_eq_true rfl, Nat.le_of_ble_eq_true rfl⟩ dX4_can_4 rfl (Nat.le_of_ble_eq_true rfl) ?_
  exact y_iret C (Option.some.inj hf) rfl rfl dX4_can_7
noncomputable def fX5_can_50  (τ : QS) : Option (Int32) :=
    Option.bind (fX5_canBits_50 (gM τ 51 6) τ) (fun (q1 : Int32) => some q1)
def rm_X5_can_50 : Room := { frames := 3, cells := 0, slots := 0, locals := 67 }
set_option maxRecDepth 100000 in
set_option maxHeartbeats 4000000 in
theorem kX5_can_50 (l : Launch) (E : QE) (σ τ : QS)  (q : Int32) (hf : fX5_can_50 τ = some q) : KQ l yX5_can cX5_can 1 (some .int) rm_X5_can_50 E [.ref (qAd E 50)] σ τ (PI E q σ τ) := by
  unfold fX5_can_50 at hf
  refine y_met rfl (Nat.le_of_ble_eq_true rfl) rfl (fun p e s m below meth c C => ?_)
  refine y_aload_n C dX5_can_0 rfl 0 rfl ?_
  refine y_aload_n C dX5_can_1 rfl 0 rfl ?_
  refine g50_row C fl_X5_7 dX5_can_2 ?_
  refine y_bipush C (v := 6) dX5_can_5 (by decide) ?_
  refine y_ialdR C a51 (j := 6) (by decide) (by decide) dX5_can_7 ?_
  obtain ⟨q1, h_q1, hf⟩ := bd_e hf
  refine y_cVi C (kX5_canBits_50 l E σ τ (gM τ 51 6) _ h_q1) vi_X5_canBits ml_X5_234 ⟨5, _, o50, rfl, rfl⟩ rfl ⟨rfl, rfl, Nat.le_of_ble_eq_true rfl, Nat.le_of_ble_eq_true rfl⟩ dX5_can_8 rfl (Nat.le_of_ble_eq_true rfl) ?_
  exact y_iret C (Option.some.inj hf) rfl rfl dX5_can_11
noncomputable def fX4_isPlan_0 (x1 : Int32) (σ : QS) : Option (Int32) :=
    Option.bind (fX0_free_6 σ) (fun (q1 : Int32) => lp_ (fun (r3 : Int32 × Int32 → Option (Int32)) (a2 : Int32 × Int32) => Option.bind (fX3_size_1 x1 σ) (fun (q4 : Int32) => (if q4 ≤ a2.2 then some (1 : Int32) else Option.bind (fX3_get_1 x1 a2.2 σ) (fun (q5 : Int32) => (if q5 = (-9 : Int32) then r3 (a2.1, (a2.2 + (1 : Int32))) else (if (fX1_isSitter_5 q5 σ) = 0 then some (0 : Int32) else (if (fX4_isIn a2.1 q5) = 0 then some (0 : Int32) else lt_ (a2.1 &&& (((1 : Int32) <<< (q5 &&& 31)) ^^^ (-1 : Int32))) (fun (v6 : Int32) => r3 (v6, (a2.2 + (1 : Int32))))))))))) FV (q1, (0 : Int32)))
def rm_X4_isPlan_0 : Room := { frames := 3, cells := 0, slots := 0, locals := 65 }
set_option maxRecDepth 100000 in
set_option maxHeartbeats 4000000 in
theorem kX4_isPlan_0 (l : Launch) (E : QE) (σ τ : QS) (x1 : Int32) (q : Int32) (hf : fX4_isPlan_0 x1 σ = some q) : KQ l yX4_isPlan cX4_isPlan 5 (some .boolean) rm_X4_isPlan_0 E [.ref (qAd E 0), .int x1] σ τ (PI E q σ τ) := by
  unfold fX4_isPlan_0 at hf
  refine y_met rfl (Nat.le_of_ble_eq_true rfl) rfl (fun p e s m below meth c C => ?_)
  refine y_aload_n C dX4_isPlan_0 rfl 0 rfl ?_
  refine g0_night C fl_X4_39 dX4_isPlan_1 ?_
  obtain ⟨q1, h_q1, hf⟩ := bd_e hf
  refine y_cVi C (kX0_free_6 l E σ τ _ h_q1) vi_X0_free ml_X4_144 ⟨0, _, o6, rfl, rfl⟩ rfl ⟨rfl, rfl, Nat.le_of_ble_eq_true rfl, Nat.le_of_ble_eq_true rfl⟩ dX4_isPlan_4 rfl (Nat.le_of_ble_eq_true rfl) ?_
  refine y_istore_n C dX4_isPlan_7 rfl (Nat.le_of_ble_eq_true rfl) rfl (lv' := [(2, .int q1), (0, .ref (qAd E 0)), (1, .int x1)]) rfl ?_
  refine y_iconst C (v := 0) dX4_isPlan_8 (by decide) ?_
  refine y_istore_n C dX4_isPlan_9 rfl (Nat.le_of_ble_eq_true rfl) rfl (lv' := [(3, .int (0 : Int32)), (2, .int q1), (0, .ref (qAd E 0)), (1, .int x1)]) rfl ?_
  refine y_sub [0, 1, 2, 3] rfl ?_
  refine lp_ind (P := fun a2 : Int32 × Int32 => Y E p l e rm_X4_isPlan_0 s m ([.ref (qAd E 0), .int x1] : List Value).toArray below meth c 5 (MQ below (PI E q σ τ) ([.ref (qAd E 0), .int x1] : List Value).toArray s 0 0 (qA E)) σ τ 10 [(3, .int a2.2), (2, .int a2.1), (0, .ref (qAd E 0)), (1, .int x1)] []) (fun r3 a2 ih_r3 hf => ?_) _ _ hf
  refine y_iload_n C dX4_isPlan_10 rfl 0 rfl ?_
  refine y_aload_n C dX4_isPlan_11 rfl 2 rfl ?_
  refine g0_rowShelf C fl_X4_14 dX4_isPlan_12 ?_
  refine y_iload_n C dX4_isPlan_15 rfl 3 rfl ?_
  obtain ⟨q4, h_q4, hf⟩ := bd_e hf
  refine y_cVi C (kX3_size_1 l E σ τ x1 _ h_q4) vi_X3_size ml_X4_105 ⟨3, _, o1, rfl, rfl⟩ rfl ⟨rfl, rfl, Nat.le_of_ble_eq_true rfl, Nat.le_of_ble_eq_true rfl⟩ dX4_isPlan_16 rfl (Nat.le_of_ble_eq_true rfl) ?_
  refine y_icmp_ge C 78 dX4_isPlan_19 (by decide) hf (fun hf => ?_) (fun hf => ?_)
  · refine y_iconst C (v := 1) dX4_isPlan_78 (by decide) ?_
    exact y_zret C zOk1 (Option.some.inj hf) rfl rfl dX4_isPlan_79
  · refine y_aload_n C dX4_isPlan_22 rfl 2 rfl ?_
    refine g0_rowShelf C fl_X4_14 dX4_isPlan_23 ?_
    refine y_iload_n C dX4_isPlan_26 rfl 3 rfl ?_
    refine y_iload_n C dX4_isPlan_27 rfl 0 rfl ?_
    obtain ⟨q5, h_q5, hf⟩ := bd_e hf
    refine y_cVi C (kX3_get_1 l E σ τ x1 a2.2 _ h_q5) vi_X3_get ml_X4_76 ⟨3, _, o1, rfl, rfl⟩ rfl ⟨rfl, rfl, Nat.le_of_ble_eq_true rfl, Nat.le_of_ble_eq_true rfl⟩ dX4_isPlan_28 rfl (Nat.le_of_ble_eq_true rfl) ?_
    refine y_istore C dX4_isPlan_31 (Nat.le_of_ble_eq_true rfl) rfl (lv' := [(4, .int q5), (3, .int a2.2), (2, .int a2.1), (0, .ref (qAd E 0)), (1, .int x1)]) rfl ?_
    refine y_iload C dX4_isPlan_33 0 rfl ?_
    refine y_bipush C (v := -9) dX4_isPlan_35 (by decide) ?_
    refine y_icmp_eq C 72 dX4_isPlan_37 (by decide) hf (fun hf => ?_) (fun hf => ?_)
    · refine y_iinc C dX4_isPlan_72 1 rfl (Nat.le_of_ble_eq_true rfl) (k2 := 1) (by decide) rfl (lv' := [(3, .int (a2.2 + (1 : Int32))), (4, .int q5), (2, .int a2.1), (0, .ref (qAd E 0)), (1, .int x1)]) rfl ?_
      refine y_goto C 10 dX4_isPlan_75 (by decide) ?_
      refine y_sub [0, 2, 3, 4] rfl ?_
      exact ih_r3 (a2.1, (a2.2 + (1 : Int32))) hf
    · refine y_aload_n C dX4_isPlan_40 rfl 3 rfl ?_
      refine g0_script C fl_X4_31 dX4_isPlan_41 ?_
      refine y_iload C dX4_isPlan_44 0 rfl ?_
      refine y_cVi C (kX1_isSitter_5 l E σ τ q5 _ rfl) vi_X1_isSitter ml_X4_118 ⟨1, _, o5, rfl, rfl⟩ rfl ⟨rfl, rfl, Nat.le_of_ble_eq_true rfl, Nat.le_of_ble_eq_true rfl⟩ dX4_isPlan_46 rfl (Nat.le_of_ble_eq_true rfl) ?_
      refine y_if_eq C 61 dX4_isPlan_49 (by decide) hf (fun hf => ?_) (fun hf => ?_)
      · refine y_iconst C (v := 0) dX4_isPlan_61 (by decide) ?_
        exact y_zret C zOk0 (Option.some.inj hf) rfl rfl dX4_isPlan_62
      · refine y_iload_n C dX4_isPlan_52 rfl 2 rfl ?_
        refine y_iload C dX4_isPlan_53 0 rfl ?_
        refine y_cSi C (kX4_isIn l E σ τ a2.1 q5 _ rfl) si_X4_isIn ml_X4_147 rfl ⟨rfl, rfl, Nat.le_of_ble_eq_true rfl, Nat.le_of_ble_eq_true rfl⟩ dX4_isPlan_55 rfl (Nat.le_of_ble_eq_true rfl) ?_
        refine y_if_ne C 63 dX4_isPlan_58 (by decide) hf (fun hf => ?_) (fun hf => ?_)
        · refine y_iload_n C dX4_isPlan_63 rfl 2 rfl ?_
          refine y_iconst C (v := 1) dX4_isPlan_64 (by decide) ?_
          refine y_iload C dX4_isPlan_65 0 rfl ?_
          refine y_ishl C dX4_isPlan_67 ?_
          refine y_iconst C (v := -1) dX4_isPlan_68 (by decide) ?_
          refine y_ixor C dX4_isPlan_69 ?_
          refine y_iand C dX4_isPlan_70 ?_
          obtain ⟨v6, e_v6, hf⟩ := lt_e hf
          refine y_istore_n C dX4_isPlan_71 rfl (Nat.le_of_ble_eq_true rfl) e_v6 (lv' := [(2, .int v6), (4, .int q5), (3, .int a2.2), (0, .ref (qAd E 0)), (1, .int x1)]) rfl ?_
          refine y_iinc C dX4_isPlan_72 2 rfl (Nat.le_of_ble_eq_true rfl) (k2 := 1) (by decide) rfl (lv' := [(3, .int (a2.2 + (1 : Int32))), (2, .int v6), (4, .int q5), (0, .ref (qAd E 0)), (1, .int x1)]) rfl ?_
          refine y_goto C 10 dX4_isPlan_75 (by decide) ?_
          refine y_sub [0, 1, 3, 4] rfl ?_
          exact ih_r3 (v6, (a2.2 + (1 : Int32))) hf
        · refine y_iconst C (v := 0) dX4_isPlan_61 (by decide) ?_
          exact y_zret C zOk0 (Option.some.inj hf) rfl rfl dX4_isPlan_62
noncomputable def fX2_clappingBehind (x0 : Int32) (x1 : Int32) (x2 : Int32) : Int32 :=
    (if x1 ≤ x2 then (if x1 = 0 then (x0 + (2 : Int32)) else (x0 + (1 : Int32))) else (x0 - (1 : Int32)))
def rm_X2_clappingBehind : Room := { frames := 0, cells := 0, slots := 0, locals := 0 }
set_option maxRecDepth 100000 in
set_option maxHeartbeats 4000000 in
theorem kX2_clappingBehind (l : Launch) (E : QE) (σ τ : QS) (x0 : Int32) (x1 : Int32) (x2 : Int32) (q : Int32) (hf : fX2_clappingBehind x0 x1 x2 = q) : KQ l yX2_clappingBehind cX2_clappingBehind 3 (some .int) rm_X2_clappingBehind E [.int x0, .int x1, .int x2] σ τ (PI E q σ τ) := by
  unfold fX2_clappingBehind at hf
  refine y_met rfl (Nat.le_of_ble_eq_true rfl) rfl (fun p e s m below meth c C => ?_)
  refine y_iload_n C dX2_clappingBehind_0 rfl 1 rfl ?_
  refine y_iload_n C dX2_clappingBehind_1 rfl 2 rfl ?_
  refine y_icmp_le C 9 dX2_clappingBehind_2 (by decide) hf (fun hf => ?_) (fun hf => ?_)
  · refine y_iload_n C dX2_clappingBehind_9 rfl 0 rfl ?_
    refine y_iload_n C dX2_clappingBehind_10 rfl 1 rfl ?_
    refine y_if_ne C 18 dX2_clappingBehind_11 (by decide) hf (fun hf => ?_) (fun hf => ?_)
    · refine y_iconst C (v := 1) dX2_clappingBehind_18 (by decide) ?_
      refine y_iadd C dX2_clappingBehind_19 ?_
      exact y_iret C hf rfl rfl dX2_clappingBehind_20
    · refine y_iconst C (v := 2) dX2_clappingBehind_14 (by decide) ?_
      refine y_goto C 19 dX2_clappingBehind_15 (by decide) ?_
      refine y_iadd C dX2_clappingBehind_19 ?_
      exact y_iret C hf rfl rfl dX2_clappingBehind_20
  · refine y_iload_n C dX2_clappingBehind_5 rfl 0 rfl ?_
    refine y_iconst C (v := 1) dX2_clappingBehind_6 (by decide) ?_
    refine y_isub C dX2_clappingBehind_7 ?_
    exact y_iret C hf rfl rfl dX2_clappingBehind_8
noncomputable def fX2_promptsBehind (x0 : Int32) (x1 : Int32) : Int32 :=
    (if x0 ≤ x1 then (x1 - x0) else x1)
def rm_X2_promptsBehind : Room := { frames := 0, cells := 0, slots := 0, locals := 0 }
set_option maxRecDepth 100000 in
set_option maxHeartbeats 4000000 in
theorem kX2_promptsBehind (l : Launch) (E : QE) (σ τ : QS) (x0 : Int32) (x1 : Int32) (q : Int32) (hf : fX2_promptsBehind x0 x1 = q) : KQ l yX2_promptsBehind cX2_promptsBehind 2 (some .int) rm_X2_promptsBehind E [.int x0, .int x1] σ τ (PI E q σ τ) := by
  unfold fX2_promptsBehind at hf
  refine y_met rfl (Nat.le_of_ble_eq_true rfl) rfl (fun p e s m below meth c C => ?_)
  refine y_iload_n C dX2_promptsBehind_0 rfl 0 rfl ?_
  refine y_iload_n C dX2_promptsBehind_1 rfl 1 rfl ?_
  refine y_icmp_le C 9 dX2_promptsBehind_2 (by decide) hf (fun hf => ?_) (fun hf => ?_)
  · refine y_iload_n C dX2_promptsBehind_9 rfl 1 rfl ?_
    refine y_iload_n C dX2_promptsBehind_10 rfl 0 rfl ?_
    refine y_isub C dX2_promptsBehind_11 ?_
    exact y_iret C hf rfl rfl dX2_promptsBehind_12
  · refine y_iload_n C dX2_promptsBehind_5 rfl 1 rfl ?_
    refine y_goto C 12 dX2_promptsBehind_6 (by decide) ?_
    exact y_iret C hf rfl rfl dX2_promptsBehind_12
noncomputable def fX2_playPlan_7_1 (x2 : Int32) (σ : QS) : Option (Int32 × QS) :=
    lt_ (gI σ 14) (fun (v1 : Int32) => lt_ (gI σ 15) (fun (v2 : Int32) => lt_ (pI σ 23 (gI σ 17)) (fun (S3 : QS) => lp_ (fun (r5 : Int32 × Int32 × Int32 × Int32 × QS → Option (Int32 × QS)) (a4 : Int32 × Int32 × Int32 × Int32 × QS) => Option.bind (fX3_size_1 x2 a4.2.2.2.2) (fun (q6 : Int32) => (if q6 ≤ a4.2.2.2.1 then some (a4.2.2.1, a4.2.2.2.2) else Option.bind (fX3_get_1 x2 a4.2.2.2.1 a4.2.2.2.2) (fun (q7 : Int32) => (if q7 = (-9 : Int32) then r5 (a4.1, a4.2.1, a4.2.2.1, (a4.2.2.2.1 + (1 : Int32)), a4.2.2.2.2) else Option.bind (fX1_lacking_5 q7 ((gI a4.2.2.2.2 13) + a4.2.2.2.1) a4.1 (gI a4.2.2.2.2 23) a4.2.2.2.2) (fun (q8 : Int32) => lt_ (fun (v10 : Int32) => lt_ (a4.2.2.1 + v10) (fun (v11 : Int32) => lt_ (pI a4.2.2.2.2 23 (fX2_clappingBehind (gI a4.2.2.2.2 23) q8 a4.2.1)) (fun (S12 : QS) => lt_ (fX2_promptsBehind q8 a4.2.1) (fun (v13 : Int32) => lt_ (a4.1 ||| ((1 : Int32) <<< (q7 &&& 31))) (fun (v14 : Int32) => r5 (v14, v13, v11, (a4.2.2.2.1 + (1 : Int32)), S12)))))) (fun (j9 : Int32 → Option (Int32 × QS)) => (if a4.2.1 < q8 then j9 (0 : Int32) else j9 (1 : Int32))))))))) FV (v1, v2, (0 : Int32), (0 : Int32), S3))))
def rm_X2_playPlan_7_1 : Room := { frames := 4, cells := 0, slots := 0, locals := 94 }
set_option maxRecDepth 100000 in
set_option maxHeartbeats 4000000 in
theorem kX2_playPlan_7_1 (l : Launch) (E : QE) (σ τ : QS) (x2 : Int32) (q : Int32 × QS) (hf : fX2_playPlan_7_1 x2 σ = some q) : KQ l yX2_playPlan cX2_playPlan 9 (some .int) rm_X2_playPlan_7_1 E [.ref (qAd E 7), .ref (qAd E 1), .int x2] σ τ (PI E q.1 q.2 τ) := by
  unfold fX2_playPlan_7_1 at hf
  refine y_met rfl (Nat.le_of_ble_eq_true rfl) rfl (fun p e s m below meth c C => ?_)
  refine y_aload_n C dX2_playPlan_0 rfl 0 rfl ?_
  refine g7_night C fl_X2_23 dX2_playPlan_1 ?_
  refine gN6_called C fn_X2_62 dX2_playPlan_4 ?_
  obtain ⟨v1, e_v1, hf⟩ := lt_e hf
  refine y_istore_n C dX2_playPlan_7 rfl (Nat.le_of_ble_eq_true rfl) e_v1 (lv' := [(3, .int v1), (0, .ref (qAd E 7)), (1, .ref (qAd E 1)), (2, .int x2)]) rfl ?_
  refine y_aload_n C dX2_playPlan_8 rfl 1 rfl ?_
  refine g7_night C fl_X2_23 dX2_playPlan_9 ?_
  refine gN6_promptsLeft C fn_X2_65 dX2_playPlan_12 ?_
  obtain ⟨v2, e_v2, hf⟩ := lt_e hf
  refine y_istore C dX2_playPlan_15 (Nat.le_of_ble_eq_true rfl) e_v2 (lv' := [(4, .int v2), (3, .int v1), (0, .ref (qAd E 7)), (1, .ref (qAd E 1)), (2, .int x2)]) rfl ?_
  refine y_iconst C (v := 0) dX2_playPlan_17 (by decide) ?_
  refine y_istore C dX2_playPlan_18 (Nat.le_of_ble_eq_true rfl) rfl (lv' := [(5, .int (0 : Int32)), (4, .int v2), (3, .int v1), (0, .ref (qAd E 7)), (1, .ref (qAd E 1)), (2, .int x2)]) rfl ?_
  refine y_aload_n C dX2_playPlan_20 rfl 3 rfl ?_
  refine y_aload_n C dX2_playPlan_21 rfl 3 rfl ?_
  refine g7_night C fl_X2_23 dX2_playPlan_22 ?_
  refine gN6_clapping C fn_X2_68 dX2_playPlan_25 ?_
  obtain ⟨S3, e_S3, hf⟩ := lt_e hf
  refine p7_applauseBehind C fl_X2_71 e_S3 dX2_playPlan_28 ?_
  refine y_iconst C (v := 0) dX2_playPlan_31 (by decide) ?_
  refine y_istore C dX2_playPlan_32 (Nat.le_of_ble_eq_true rfl) rfl (lv' := [(6, .int (0 : Int32)), (5, .int (0 : Int32)), (4, .int v2), (3, .int v1), (0, .ref (qAd E 7)), (1, .ref (qAd E 1)), (2, .int x2)]) rfl ?_
  refine y_sub [0, 1, 2, 3, 4, 5, 6] rfl ?_
  refine lp_ind (P := fun a4 : Int32 × Int32 × Int32 × Int32 × QS => Y E p l e rm_X2_playPlan_7_1 s m ([.ref (qAd E 7), .ref (qAd E 1), .int x2] : List Value).toArray below meth c 9 (MQ below (PI E q.1 q.2 τ) ([.ref (qAd E 7), .ref (qAd E 1), .int x2] : List Value).toArray s 0 0 (qA E)) a4.2.2.2.2 τ 34 [(6, .int a4.2.2.2.1), (5, .int a4.2.2.1), (4, .int a4.2.1), (3, .int a4.1), (0, .ref (qAd E 7)), (1, .ref (qAd E 1)), (2, .int x2)] []) (fun r5 a4 ih_r5 hf => ?_) _ _ hf
  refine y_iload C dX2_playPlan_34 0 rfl ?_
  refine y_aload_n C dX2_playPlan_36 rfl 5 rfl ?_
  refine y_iload_n C dX2_playPlan_37 rfl 6 rfl ?_
  obtain ⟨q6, h_q6, hf⟩ := bd_e hf
  refine y_cVi C (kX3_size_1 l E a4.2.2.2.2 τ x2 _ h_q6) vi_X3_size ml_X2_74 ⟨3, _, o1, rfl, rfl⟩ rfl ⟨rfl, rfl, Nat.le_of_ble_eq_true rfl, Nat.le_of_ble_eq_true rfl⟩ dX2_playPlan_38 rfl (Nat.le_of_ble_eq_true rfl) ?_
  refine y_icmp_ge C 140 dX2_playPlan_41 (by decide) hf (fun hf => ?_) (fun hf => ?_)
  · refine y_iload C dX2_playPlan_140 1 rfl ?_
    exact y_iret C (rs1 hf) (rs2 hf) rfl dX2_playPlan_142
  · refine y_aload_n C dX2_playPlan_44 rfl 5 rfl ?_
    refine y_iload_n C dX2_playPlan_45 rfl 6 rfl ?_
    refine y_iload C dX2_playPlan_46 0 rfl ?_
    obtain ⟨q7, h_q7, hf⟩ := bd_e hf
    refine y_cVi C (kX3_get_1 l E a4.2.2.2.2 τ x2 a4.2.2.2.1 _ h_q7) vi_X3_get ml_X2_79 ⟨3, _, o1, rfl, rfl⟩ rfl ⟨rfl, rfl, Nat.le_of_ble_eq_true rfl, Nat.le_of_ble_eq_true rfl⟩ dX2_playPlan_48 rfl (Nat.le_of_ble_eq_true rfl) ?_
    refine y_istore C dX2_playPlan_51 (Nat.le_of_ble_eq_true rfl) rfl (lv' := [(7, .int q7), (6, .int a4.2.2.2.1), (5, .int a4.2.2.1), (4, .int a4.2.1), (3, .int a4.1), (0, .ref (qAd E 7)), (1, .ref (qAd E 1)), (2, .int x2)]) rfl ?_
    refine y_iload C dX2_playPlan_53 0 rfl ?_
    refine y_bipush C (v := -9) dX2_playPlan_55 (by decide) ?_
    refine y_icmp_eq C 134 dX2_playPlan_57 (by decide) hf (fun hf => ?_) (fun hf => ?_)
    · refine y_iinc C dX2_playPlan_134 1 rfl (Nat.le_of_ble_eq_true rfl) (k2 := 1) (by decide) rfl (lv' := [(6, .int (a4.2.2.2.1 + (1 : Int32))), (7, .int q7), (5, .int a4.2.2.1), (4, .int a4.2.1), (3, .int a4.1), (0, .ref (qAd E 7)), (1, .ref (qAd E 1)), (2, .int x2)]) rfl ?_
      refine y_goto C 34 dX2_playPlan_137 (by decide) ?_
      refine y_sub [0, 2, 3, 4, 5, 6, 7] rfl ?_
      exact ih_r5 (a4.1, a4.2.1, a4.2.2.1, (a4.2.2.2.1 + (1 : Int32)), a4.2.2.2.2) hf
    · refine y_aload_n C dX2_playPlan_60 rfl 5 rfl ?_
      refine g7_script C fl_X2_33 dX2_playPlan_61 ?_
      refine y_iload C dX2_playPlan_64 0 rfl ?_
      refine y_aload_n C dX2_playPlan_66 rfl 5 rfl ?_
      refine g7_night C fl_X2_23 dX2_playPlan_67 ?_
      refine gN6_scene C fn_X2_82 dX2_playPlan_70 ?_
      refine y_iload C dX2_playPlan_73 1 rfl ?_
      refine y_iadd C dX2_playPlan_75 ?_
      refine y_iload_n C dX2_playPlan_76 rfl 4 rfl ?_
      refine y_aload_n C dX2_playPlan_77 rfl 5 rfl ?_
      refine g7_applauseBehind C fl_X2_71 dX2_playPlan_78 ?_
      obtain ⟨q8, h_q8, hf⟩ := bd_e hf
      refine y_cVi C (kX1_lacking_5 l E a4.2.2.2.2 τ q7 ((gI a4.2.2.2.2 13) + a4.2.2.2.1) a4.1 (gI a4.2.2.2.2 23) _ h_q8) vi_X1_lacking ml_X2_85 ⟨1, _, o5, rfl, rfl⟩ rfl ⟨rfl, rfl, Nat.le_of_ble_eq_true rfl, Nat.le_of_ble_eq_true rfl⟩ dX2_playPlan_81 rfl (Nat.le_of_ble_eq_true rfl) ?_
      refine y_istore C dX2_playPlan_84 (Nat.le_of_ble_eq_true rfl) rfl (lv' := [(8, .int q8), (7, .int q7), (6, .int a4.2.2.2.1), (5, .int a4.2.2.1), (4, .int a4.2.1), (3, .int a4.1), (0, .ref (qAd E 7)), (1, .ref (qAd E 1)), (2, .int x2)]) rfl ?_
      refine y_iload C dX2_playPlan_86 3 rfl ?_
      refine y_iload C dX2_playPlan_88 0 rfl ?_
      refine y_iload C dX2_playPlan_90 4 rfl ?_
      obtain ⟨j9, ek_j9, hf⟩ := lt_e hf
      have h_j9 : ∀ (v10 : Int32), j9 v10 = some q → Y E p l e rm_X2_playPlan_7_1 s m ([.ref (qAd E 7), .ref (qAd E 1), .int x2] : List Value).toArray below meth c 9 (MQ below (PI E q.1 q.2 τ) ([.ref (qAd E 7), .ref (qAd E 1), .int x2] : List Value).toArray s 0 0 (qA E)) a4.2.2.2.2 τ 100 [(0, .ref (qAd E 7)), (1, .ref (qAd E 1)), (2, .int x2), (3, .int a4.1), (4, .int a4.2.1), (6, .int a4.2.2.2.1), (7, .int q7), (8, .int q8)] [.int v10, .int a4.2.2.1] := by
        intro v10 hf
        replace hf := (congrFun (ek_j9) v10).symm.trans hf
        refine y_iadd C dX2_playPlan_100 ?_
        obtain ⟨v11, e_v11, hf⟩ := lt_e hf
        refine y_istore C dX2_playPlan_101 (Nat.le_of_ble_eq_true rfl) e_v11 (lv' := [(5, .int v11), (0, .ref (qAd E 7)), (1, .ref (qAd E 1)), (2, .int x2), (3, .int a4.1), (4, .int a4.2.1), (6, .int a4.2.2.2.1), (7, .int q7), (8, .int q8)]) rfl ?_
        refine y_aload_n C dX2_playPlan_103 rfl 1 rfl ?_
        refine y_aload_n C dX2_playPlan_104 rfl 1 rfl ?_
        refine g7_applauseBehind C fl_X2_71 dX2_playPlan_105 ?_
        refine y_iload C dX2_playPlan_108 8 rfl ?_
        refine y_iload C dX2_playPlan_110 5 rfl ?_
        refine y_cSi C (kX2_clappingBehind l E a4.2.2.2.2 τ (gI a4.2.2.2.2 23) q8 a4.2.1 _ rfl) si_X2_clappingBehind ml_X2_89 rfl ⟨rfl, rfl, Nat.le_of_ble_eq_true rfl, Nat.le_of_ble_eq_true rfl⟩ dX2_playPlan_112 rfl (Nat.le_of_ble_eq_true rfl) ?_
        obtain ⟨S12, e_S12, hf⟩ := lt_e hf
        refine p7_applauseBehind C fl_X2_71 e_S12 dX2_playPlan_115 ?_
        refine y_iload C dX2_playPlan_118 8 rfl ?_
        refine y_iload C dX2_playPlan_120 5 rfl ?_
        refine y_cSi C (kX2_promptsBehind l E S12 τ q8 a4.2.1 _ rfl) si_X2_promptsBehind ml_X2_93 rfl ⟨rfl, rfl, Nat.le_of_ble_eq_true rfl, Nat.le_of_ble_eq_true rfl⟩ dX2_playPlan_122 rfl (Nat.le_of_ble_eq_true rfl) ?_
        obtain ⟨v13, e_v13, hf⟩ := lt_e hf
        refine y_istore C dX2_playPlan_125 (Nat.le_of_ble_eq_true rfl) e_v13 (lv' := [(4, .int v13), (5, .int v11), (0, .ref (qAd E 7)), (1, .ref (qAd E 1)), (2, .int x2), (3, .int a4.1), (6, .int a4.2.2.2.1), (7, .int q7), (8, .int q8)]) rfl ?_
        refine y_iload_n C dX2_playPlan_127 rfl 5 rfl ?_
        refine y_iconst C (v := 1) dX2_playPlan_128 (by decide) ?_
        refine y_iload C dX2_playPlan_129 7 rfl ?_
        refine y_ishl C dX2_playPlan_131 ?_
        refine y_ior C dX2_playPlan_132 ?_
        obtain ⟨v14, e_v14, hf⟩ := lt_e hf
        refine y_istore_n C dX2_playPlan_133 rfl (Nat.le_of_ble_eq_true rfl) e_v14 (lv' := [(3, .int v14), (4, .int v13), (5, .int v11), (0, .ref (qAd E 7)), (1, .ref (qAd E 1)), (2, .int x2), (6, .int a4.2.2.2.1), (7, .int q7), (8, .int q8)]) rfl ?_
        refine y_iinc C dX2_playPlan_134 6 rfl (Nat.le_of_ble_eq_true rfl) (k2 := 1) (by decide) rfl (lv' := [(6, .int (a4.2.2.2.1 + (1 : Int32))), (3, .int v14), (4, .int v13), (5, .int v11), (0, .ref (qAd E 7)), (1, .ref (qAd E 1)), (2, .int x2), (7, .int q7), (8, .int q8)]) rfl ?_
        refine y_goto C 34 dX2_playPlan_137 (by decide) ?_
        refine y_sub [0, 3, 2, 1, 4, 5, 6] rfl ?_
        exact ih_r5 (v14, v13, v11, (a4.2.2.2.1 + (1 : Int32)), S12) hf
      refine y_icmp_gt C 99 dX2_playPlan_92 (by decide) hf (fun hf => ?_) (fun hf => ?_)
      · refine y_iconst C (v := 0) dX2_playPlan_99 (by decide) ?_
        refine y_sub [6, 7, 8, 5, 4, 2, 1, 0] rfl ?_
        exact h_j9 (0 : Int32) hf
      · refine y_iconst C (v := 1) dX2_playPlan_95 (by decide) ?_
        refine y_goto C 100 dX2_playPlan_96 (by decide) ?_
        refine y_sub [6, 7, 8, 5, 4, 2, 1, 0] rfl ?_
        exact h_j9 (1 : Int32) hf
noncomputable def fX4_play_0 (x1 : Int32) (σ : QS) : Option (Int32 × QS) :=
    (if (fX3_isPlace_1 x1 σ) = 0 then some ((-1 : Int32), σ) else (if (gI σ 9) = 0 then some ((-4 : Int32), σ) else Option.bind (fX3_has_1 x1 σ) (fun (q1 : Int32) => (if q1 = 0 then Option.bind (fX4_refuse_0 (1 : Int32) σ) (fun (q8 : Int32 × QS) => some (q8.1, q8.2)) else Option.bind (fX3_size_1 x1 σ) (fun (q2 : Int32) => (if q2 ≤ (fX0_scenesYet_6 σ) then Option.bind (fX4_isPlan_0 x1 σ) (fun (q3 : Int32) => (if q3 = 0 then Option.bind (fX4_refuse_0 (3 : Int32) σ) (fun (q6 : Int32 × QS) => some (q6.1, q6.2)) else Option.bind (fX2_playPlan_7_1 x1 σ) (fun (q4 : Int32 × QS) => lt_ (fX4_tell_0 (gI q4.2 23) q4.2) (fun (q5 : Int32 × QS) => some (q4.1, q5.2))))) else Option.bind (fX4_refuse_0 (5 : Int32) σ) (fun (q7 : Int32 × QS) => some (q7.1, q7.2))))))))
def rm_X4_play_0 : Room := { frames := 5, cells := 0, slots := 0, locals := 122 }
set_option maxRecDepth 100000 in
set_option maxHeartbeats 4000000 in
theorem kX4_play_0 (l : Launch) (E : QE) (σ τ : QS) (x1 : Int32) (q : Int32 × QS) (hf : fX4_play_0 x1 σ = some q) : KQ l yX4_play cX4_play 3 (some .int) rm_X4_play_0 E [.ref (qAd E 0), .int x1] σ τ (PI E q.1 q.2 τ) := by
  unfold fX4_play_0 at hf
  refine y_met rfl (Nat.le_of_ble_eq_true rfl) rfl (fun p e s m below meth c C => ?_)
  refine y_aload_n C dX4_play_0 rfl 0 rfl ?_
  refine g0_rowShelf C fl_X4_14 dX4_play_1 ?_
  refine y_iload_n C dX4_play_4 rfl 1 rfl ?_
  refine y_cVi C (kX3_isPlace_1 l E σ τ x1 _ rfl) vi_X3_isPlace ml_X4_60 ⟨3, _, o1, rfl, rfl⟩ rfl ⟨rfl, rfl, Nat.le_of_ble_eq_true rfl, Nat.le_of_ble_eq_true rfl⟩ dX4_play_5 rfl (Nat.le_of_ble_eq_true rfl) ?_
  refine y_if_ne C 13 dX4_play_8 (by decide) hf (fun hf => ?_) (fun hf => ?_)
  · refine y_aload_n C dX4_play_13 rfl 0 rfl ?_
    refine g0_script C fl_X4_31 dX4_play_14 ?_
    refine gN5_sitterCount C fn_X4_114 dX4_play_17 ?_
    refine y_if_ne C 26 dX4_play_20 (by decide) hf (fun hf => ?_) (fun hf => ?_)
    · refine y_aload_n C dX4_play_26 rfl 0 rfl ?_
      refine g0_rowShelf C fl_X4_14 dX4_play_27 ?_
      refine y_iload_n C dX4_play_30 rfl 1 rfl ?_
      obtain ⟨q1, h_q1, hf⟩ := bd_e hf
      refine y_cVi C (kX3_has_1 l E σ τ x1 _ h_q1) vi_X3_has ml_X4_94 ⟨3, _, o1, rfl, rfl⟩ rfl ⟨rfl, rfl, Nat.le_of_ble_eq_true rfl, Nat.le_of_ble_eq_true rfl⟩ dX4_play_31 rfl (Nat.le_of_ble_eq_true rfl) ?_
      refine y_if_ne C 43 dX4_play_34 (by decide) hf (fun hf => ?_) (fun hf => ?_)
      · refine y_aload_n C dX4_play_43 rfl 0 rfl ?_
        refine g0_rowShelf C fl_X4_14 dX4_play_44 ?_
        refine y_iload_n C dX4_play_47 rfl 1 rfl ?_
        obtain ⟨q2, h_q2, hf⟩ := bd_e hf
        refine y_cVi C (kX3_size_1 l E σ τ x1 _ h_q2) vi_X3_size ml_X4_105 ⟨3, _, o1, rfl, rfl⟩ rfl ⟨rfl, rfl, Nat.le_of_ble_eq_true rfl, Nat.le_of_ble_eq_true rfl⟩ dX4_play_48 rfl (Nat.le_of_ble_eq_true rfl) ?_
        refine y_aload_n C dX4_play_51 rfl 0 rfl ?_
        refine g0_night C fl_X4_39 dX4_play_52 ?_
        refine y_cVi C (kX0_scenesYet_6 l E σ τ _ rfl) vi_X0_scenesYet ml_X4_140 ⟨0, _, o6, rfl, rfl⟩ rfl ⟨rfl, rfl, Nat.le_of_ble_eq_true rfl, Nat.le_of_ble_eq_true rfl⟩ dX4_play_55 rfl (Nat.le_of_ble_eq_true rfl) ?_
        refine y_icmp_le C 67 dX4_play_58 (by decide) hf (fun hf => ?_) (fun hf => ?_)
        · refine y_aload_n C dX4_play_67 rfl 0 rfl ?_
          refine y_iload_n C dX4_play_68 rfl 1 rfl ?_
          obtain ⟨q3, h_q3, hf⟩ := bd_e hf
          refine y_cVi C (kX4_isPlan_0 l E σ τ x1 _ h_q3) vi_X4_isPlan ml_X4_176 ⟨4, _, o0, rfl, rfl⟩ rfl ⟨rfl, rfl, Nat.le_of_ble_eq_true rfl, Nat.le_of_ble_eq_true rfl⟩ dX4_play_69 rfl (Nat.le_of_ble_eq_true rfl) ?_
          refine y_if_ne C 81 dX4_play_72 (by decide) hf (fun hf => ?_) (fun hf => ?_)
          · refine y_aload_n C dX4_play_81 rfl 0 rfl ?_
            refine g0_search C fl_X4_48 dX4_play_82 ?_
            refine y_aload_n C dX4_play_85 rfl 0 rfl ?_
            refine g0_rowShelf C fl_X4_14 dX4_play_86 ?_
            refine y_iload_n C dX4_play_89 rfl 1 rfl ?_
            obtain ⟨q4, h_q4, hf⟩ := bd_e hf
            refine y_cVi C (kX2_playPlan_7_1 l E σ τ x1 _ h_q4) vi_X2_playPlan ml_X4_179 ⟨2, _, o7, rfl, rfl⟩ rfl ⟨rfl, rfl, Nat.le_of_ble_eq_true rfl, Nat.le_of_ble_eq_true rfl⟩ dX4_play_90 rfl (Nat.le_of_ble_eq_true rfl) ?_
            refine y_istore_n C dX4_play_93 rfl (Nat.le_of_ble_eq_true rfl) rfl (lv' := [(2, .int q4.1), (0, .ref (qAd E 0)), (1, .int x1)]) rfl ?_
            refine y_aload_n C dX4_play_94 rfl 1 rfl ?_
            refine y_aload_n C dX4_play_95 rfl 1 rfl ?_
            refine g0_search C fl_X4_48 dX4_play_96 ?_
            refine gN7_applauseBehind C fn_X4_182 dX4_play_99 ?_
            obtain ⟨q5, e_q5, hf⟩ := lt_e hf
            refine y_cVi C (kX4_tell_0 l E q4.2 τ (gI q4.2 23) _ e_q5.symm) vi_X4_tell ml_X4_83 ⟨4, _, o0, rfl, rfl⟩ rfl ⟨rfl, rfl, Nat.le_of_ble_eq_true rfl, Nat.le_of_ble_eq_true rfl⟩ dX4_play_102 rfl (Nat.le_of_ble_eq_true rfl) ?_
            refine y_pop C dX4_play_105 rfl ?_
            refine y_iload_n C dX4_play_106 rfl 0 rfl ?_
            exact y_iret C (rs1 hf) (rs2 hf) rfl dX4_play_107
          · refine y_aload_n C dX4_play_75 rfl 0 rfl ?_
            refine y_iconst C (v := 3) dX4_play_76 (by decide) ?_
            obtain ⟨q6, h_q6, hf⟩ := bd_e hf
            refine y_cVi C (kX4_refuse_0 l E σ τ (3 : Int32) _ h_q6) vi_X4_refuse ml_X4_64 ⟨4, _, o0, rfl, rfl⟩ rfl ⟨rfl, rfl, Nat.le_of_ble_eq_true rfl, Nat.le_of_ble_eq_true rfl⟩ dX4_play_77 rfl (Nat.le_of_ble_eq_true rfl) ?_
            exact y_iret C (rs1 hf) (rs2 hf) rfl dX4_play_80
        · refine y_aload_n C dX4_play_61 rfl 0 rfl ?_
          refine y_iconst C (v := 5) dX4_play_62 (by decide) ?_
          obtain ⟨q7, h_q7, hf⟩ := bd_e hf
          refine y_cVi C (kX4_refuse_0 l E σ τ (5 : Int32) _ h_q7) vi_X4_refuse ml_X4_64 ⟨4, _, o0, rfl, rfl⟩ rfl ⟨rfl, rfl, Nat.le_of_ble_eq_true rfl, Nat.le_of_ble_eq_true rfl⟩ dX4_play_63 rfl (Nat.le_of_ble_eq_true rfl) ?_
          exact y_iret C (rs1 hf) (rs2 hf) rfl dX4_play_66
      · refine y_aload_n C dX4_play_37 rfl 0 rfl ?_
        refine y_iconst C (v := 1) dX4_play_38 (by decide) ?_
        obtain ⟨q8, h_q8, hf⟩ := bd_e hf
        refine y_cVi C (kX4_refuse_0 l E σ τ (1 : Int32) _ h_q8) vi_X4_refuse ml_X4_64 ⟨4, _, o0, rfl, rfl⟩ rfl ⟨rfl, rfl, Nat.le_of_ble_eq_true rfl, Nat.le_of_ble_eq_true rfl⟩ dX4_play_39 rfl (Nat.le_of_ble_eq_true rfl) ?_
        exact y_iret C (rs1 hf) (rs2 hf) rfl dX4_play_42
    · refine y_bipush C (v := -4) dX4_play_23 (by decide) ?_
      exact y_iret C (rs1 hf) (rs2 hf) rfl dX4_play_25
  · refine y_iconst C (v := -1) dX4_play_11 (by decide) ?_
    exact y_iret C (rs1 hf) (rs2 hf) rfl dX4_play_12
noncomputable def fX5_beginPlans_50 (x1 : Int32) (τ : QS) : Option (QS) :=
    lt_ (pM τ 63 (upd (gM τ 63) 0 x1)) (fun (S1 : QS) => lt_ (pM S1 64 (upd (gM S1 64) 0 (gM S1 51 4))) (fun (S2 : QS) => lt_ (pM S2 65 (upd (gM S2 65) 0 (0 : Int32))) (fun (S3 : QS) => lt_ (pM S3 66 (upd (gM S3 66) 0 (gM S3 51 6))) (fun (S4 : QS) => lt_ (pI S4 11 ((gI S4 0) - (gM S4 51 1))) (fun (S5 : QS) => lt_ (pM S5 67 (upd (gM S5 67) 0 (-1 : Int32))) (fun (S6 : QS) => lt_ (pI S6 12 (0 : Int32)) (fun (S7 : QS) => some S7)))))))
def rm_X5_beginPlans_50 : Room := { frames := 0, cells := 0, slots := 0, locals := 0 }
set_option maxRecDepth 100000 in
set_option maxHeartbeats 4000000 in
theorem kX5_beginPlans_50 (l : Launch) (E : QE) (σ τ : QS) (x1 : Int32) (q : QS) (hf : fX5_beginPlans_50 x1 τ = some q) : KQ l yX5_beginPlans cX5_beginPlans 2 none rm_X5_beginPlans_50 E [.ref (qAd E 50), .int x1] σ τ (PV E σ q) := by
  unfold fX5_beginPlans_50 at hf
  refine y_met rfl (Nat.le_of_ble_eq_true rfl) rfl (fun p e s m below meth c C => ?_)
  refine y_aload_n C dX5_beginPlans_0 rfl 0 rfl ?_
  refine g50_planPrompts C fl_X5_50 dX5_beginPlans_1 ?_
  refine y_iconst C (v := 0) dX5_beginPlans_4 (by decide) ?_
  refine y_iload_n C dX5_beginPlans_5 rfl 1 rfl ?_
  obtain ⟨S1, e_S1, hf⟩ := lt_e hf
  refine y_iastR C a63 (j := 0) (by decide) (by decide) e_S1 dX5_beginPlans_6 ?_
  refine y_aload_n C dX5_beginPlans_7 rfl 0 rfl ?_
  refine g50_planApplause C fl_X5_53 dX5_beginPlans_8 ?_
  refine y_iconst C (v := 0) dX5_beginPlans_11 (by decide) ?_
  refine y_aload_n C dX5_beginPlans_12 rfl 0 rfl ?_
  refine g50_row C fl_X5_7 dX5_beginPlans_13 ?_
  refine y_iconst C (v := 4) dX5_beginPlans_16 (by decide) ?_
  refine y_ialdR C a51 (j := 4) (by decide) (by decide) dX5_beginPlans_17 ?_
  obtain ⟨S2, e_S2, hf⟩ := lt_e hf
  refine y_iastR C a64 (j := 0) (by decide) (by decide) e_S2 dX5_beginPlans_18 ?_
  refine y_aload_n C dX5_beginPlans_19 rfl 0 rfl ?_
  refine g50_planCarried C fl_X5_56 dX5_beginPlans_20 ?_
  refine y_iconst C (v := 0) dX5_beginPlans_23 (by decide) ?_
  refine y_iconst C (v := 0) dX5_beginPlans_24 (by decide) ?_
  obtain ⟨S3, e_S3, hf⟩ := lt_e hf
  refine y_iastR C a65 (j := 0) (by decide) (by decide) e_S3 dX5_beginPlans_25 ?_
  refine y_aload_n C dX5_beginPlans_26 rfl 0 rfl ?_
  refine g50_planCalled C fl_X5_59 dX5_beginPlans_27 ?_
  refine y_iconst C (v := 0) dX5_beginPlans_30 (by decide) ?_
  refine y_aload_n C dX5_beginPlans_31 rfl 0 rfl ?_
  refine g50_row C fl_X5_7 dX5_beginPlans_32 ?_
  refine y_bipush C (v := 6) dX5_beginPlans_35 (by decide) ?_
  refine y_ialdR C a51 (j := 6) (by decide) (by decide) dX5_beginPlans_37 ?_
  obtain ⟨S4, e_S4, hf⟩ := lt_e hf
  refine y_iastR C a66 (j := 0) (by decide) (by decide) e_S4 dX5_beginPlans_38 ?_
  refine y_aload_n C dX5_beginPlans_39 rfl 0 rfl ?_
  refine y_aload_n C dX5_beginPlans_40 rfl 0 rfl ?_
  refine g50_scenes C fl_X5_160 dX5_beginPlans_41 ?_
  refine y_aload_n C dX5_beginPlans_44 rfl 0 rfl ?_
  refine g50_row C fl_X5_7 dX5_beginPlans_45 ?_
  refine y_iconst C (v := 1) dX5_beginPlans_48 (by decide) ?_
  refine y_ialdR C a51 (j := 1) (by decide) (by decide) dX5_beginPlans_49 ?_
  refine y_isub C dX5_beginPlans_50 ?_
  obtain ⟨S5, e_S5, hf⟩ := lt_e hf
  refine p50_planMany C fl_X5_245 e_S5 dX5_beginPlans_51 ?_
  refine y_aload_n C dX5_beginPlans_54 rfl 0 rfl ?_
  refine g50_choices C fl_X5_62 dX5_beginPlans_55 ?_
  refine y_iconst C (v := 0) dX5_beginPlans_58 (by decide) ?_
  refine y_iconst C (v := -1) dX5_beginPlans_59 (by decide) ?_
  obtain ⟨S6, e_S6, hf⟩ := lt_e hf
  refine y_iastR C a67 (j := 0) (by decide) (by decide) e_S6 dX5_beginPlans_60 ?_
  refine y_aload_n C dX5_beginPlans_61 rfl 0 rfl ?_
  refine y_iconst C (v := 0) dX5_beginPlans_62 (by decide) ?_
  obtain ⟨S7, e_S7, hf⟩ := lt_e hf
  refine p50_isBegun C zOk0 fl_X5_248 e_S7 dX5_beginPlans_63 ?_
  exact y_vret C rfl (Option.some.inj hf) dX5_beginPlans_66
