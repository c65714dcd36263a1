noncomputable def fX5_text_50 (x1 : Int32) (x2 : Int32) (τ : QS) : Option (Int32 × QS) :=
    (if (fX5_isText x1) = 0 then some ((-1 : Int32), τ) else (if x2 ≤ (60 : Int32) then (if 0 ≤ x2 then ck_ (inb x1 4) (lt_ (pM τ 58 (upd (gM τ 58) x1.toNatClampNeg x2)) (fun (S2 : QS) => lp_ (fun (r4 : Int32 × QS → Option (Int32 × QS)) (a3 : Int32 × QS) => (if (60 : Int32) ≤ a3.1 then some (x2, a3.2) else ck_ (inb (((60 : Int32) * x1) + a3.1) 240) (lt_ (pM a3.2 59 (upd (gM a3.2 59) ((((60 : Int32) * x1) + a3.1).toNatClampNeg) (32 : Int32))) (fun (S6 : QS) => r4 ((a3.1 + (1 : Int32)), S6))))) FV ((0 : Int32), S2))) else Option.bind (fX5_find_50 (5 : Int32) τ) (fun (q7 : Int32 × QS) => some (q7.1, q7.2))) else some ((-1 : Int32), τ)))
def rm_X5_text_50 : Room := { frames := 2, cells := 0, slots := 0, locals := 45 }
set_option maxRecDepth 100000 in
set_option maxHeartbeats 4000000 in
theorem kX5_text_50 (l : Launch) (E : QE) (σ τ : QS) (x1 : Int32) (x2 : Int32) (q : Int32 × QS) (hf : fX5_text_50 x1 x2 τ = some q) : KQ l yX5_text cX5_text 4 (some .int) rm_X5_text_50 E [.ref (qAd E 50), .int x1, .int x2] σ τ (PI E q.1 σ q.2) := by
  unfold fX5_text_50 at hf
  refine y_met rfl (Nat.le_of_ble_eq_true rfl) rfl (fun p e s m below meth c C => ?_)
  refine y_iload_n C dX5_text_0 rfl 1 rfl ?_
  refine y_cSi C (kX5_isText l E σ τ x1 _ rfl) si_X5_isText ml_X5_106 rfl ⟨rfl, rfl, Nat.le_of_ble_eq_true rfl, Nat.le_of_ble_eq_true rfl⟩ dX5_text_1 rfl (Nat.le_of_ble_eq_true rfl) ?_
  refine y_if_eq C 13 dX5_text_4 (by decide) hf (fun hf => ?_) (fun hf => ?_)
  · refine y_iconst C (v := -1) dX5_text_13 (by decide) ?_
    exact y_iret C (rs1 hf) rfl (rs2 hf) dX5_text_14
  · refine y_iload_n C dX5_text_7 rfl 2 rfl ?_
    refine y_bipush C (v := 60) dX5_text_8 (by decide) ?_
    refine y_icmp_le C 15 dX5_text_10 (by decide) hf (fun hf => ?_) (fun hf => ?_)
    · refine y_iload_n C dX5_text_15 rfl 2 rfl ?_
      refine y_if_ge C 25 dX5_text_16 (by decide) hf (fun hf => ?_) (fun hf => ?_)
      · refine y_aload_n C dX5_text_25 rfl 0 rfl ?_
        refine g50_lengths C fl_X5_31 dX5_text_26 ?_
        refine y_iload_n C dX5_text_29 rfl 1 rfl ?_
        refine y_iload_n C dX5_text_30 rfl 2 rfl ?_
        obtain ⟨hi1, hf⟩ := ck_e hf
        obtain ⟨S2, e_S2, hf⟩ := lt_e hf
        refine y_iastR C a58 (j := x1.toNatClampNeg) rfl hi1 e_S2 dX5_text_31 ?_
        refine y_iconst C (v := 0) dX5_text_32 (by decide) ?_
        refine y_istore_n C dX5_text_33 rfl (Nat.le_of_ble_eq_true rfl) rfl (lv' := [(3, .int (0 : Int32)), (0, .ref (qAd E 50)), (1, .int x1), (2, .int x2)]) rfl ?_
        refine y_sub [0, 1, 2, 3] rfl ?_
        refine lp_ind (P := fun a3 : Int32 × QS => Y E p l e rm_X5_text_50 s m ([.ref (qAd E 50), .int x1, .int x2] : List Value).toArray below meth c 4 (MQ below (PI E q.1 σ q.2) ([.ref (qAd E 50), .int x1, .int x2] : List Value).toArray s 0 0 (qA E)) σ a3.2 34 [(3, .int a3.1), (0, .ref (qAd E 50)), (1, .int x1), (2, .int x2)] []) (fun r4 a3 ih_r4 hf => ?_) _ _ hf
        refine y_iload_n C dX5_text_34 rfl 0 rfl ?_
        refine y_bipush C (v := 60) dX5_text_35 (by decide) ?_
        refine y_icmp_ge C 59 dX5_text_37 (by decide) hf (fun hf => ?_) (fun hf => ?_)
        · refine y_iload_n C dX5_text_59 rfl 3 rfl ?_
          exact y_iret C (rs1 hf) rfl (rs2 hf) dX5_text_60
        · refine y_aload_n C dX5_text_40 rfl 1 rfl ?_
          refine g50_bytes C fl_X5_34 dX5_text_41 ?_
          refine y_bipush C (v := 60) dX5_text_44 (by decide) ?_
          refine y_iload_n C dX5_text_46 rfl 2 rfl ?_
          refine y_imul C dX5_text_47 ?_
          refine y_iload_n C dX5_text_48 rfl 0 rfl ?_
          refine y_iadd C dX5_text_49 ?_
          refine y_bipush C (v := 32) dX5_text_50 (by decide) ?_
          obtain ⟨hi5, hf⟩ := ck_e hf
          obtain ⟨S6, e_S6, hf⟩ := lt_e hf
          refine y_iastR C a59 (j := (((60 : Int32) * x1) + a3.1).toNatClampNeg) rfl hi5 e_S6 dX5_text_52 ?_
          refine y_iinc C dX5_text_53 0 rfl (Nat.le_of_ble_eq_true rfl) (k2 := 1) (by decide) rfl (lv' := [(3, .int (a3.1 + (1 : Int32))), (0, .ref (qAd E 50)), (1, .int x1), (2, .int x2)]) rfl ?_
          refine y_goto C 34 dX5_text_56 (by decide) ?_
          refine y_sub [0, 1, 2, 3] rfl ?_
          exact ih_r4 ((a3.1 + (1 : Int32)), S6) hf
      · refine y_aload_n C dX5_text_19 rfl 0 rfl ?_
        refine y_iconst C (v := 5) dX5_text_20 (by decide) ?_
        obtain ⟨q7, h_q7, hf⟩ := bd_e hf
        refine y_cVi C (kX5_find_50 l E σ τ (5 : Int32) _ h_q7) vi_X5_find ml_X5_87 ⟨5, _, o50, rfl, rfl⟩ rfl ⟨rfl, rfl, Nat.le_of_ble_eq_true rfl, Nat.le_of_ble_eq_true rfl⟩ dX5_text_21 rfl (Nat.le_of_ble_eq_true rfl) ?_
        exact y_iret C (rs1 hf) rfl (rs2 hf) dX5_text_24
    · refine y_iconst C (v := -1) dX5_text_13 (by decide) ?_
      exact y_iret C (rs1 hf) rfl (rs2 hf) dX5_text_14
noncomputable def fX3_size_2 (x1 : Int32) (σ : QS) : Option (Int32) :=
    (if (fX3_isPlace_2 x1 σ) = 0 then some (-1 : Int32) else ck_ (inb x1 4) (some (gM σ 12 x1.toNatClampNeg)))
def rm_X3_size_2 : Room := { frames := 1, cells := 0, slots := 0, locals := 21 }
set_option maxRecDepth 100000 in
set_option maxHeartbeats 4000000 in
theorem kX3_size_2 (l : Launch) (E : QE) (σ τ : QS) (x1 : Int32) (q : Int32) (hf : fX3_size_2 x1 σ = some q) : KQ l yX3_size cX3_size 2 (some .int) rm_X3_size_2 E [.ref (qAd E 2), .int x1] σ τ (PI E q σ τ) := by
  unfold fX3_size_2 at hf
  refine y_met rfl (Nat.le_of_ble_eq_true rfl) rfl (fun p e s m below meth c C => ?_)
  refine y_aload_n C dX3_size_0 rfl 0 rfl ?_
  refine y_iload_n C dX3_size_1 rfl 1 rfl ?_
  refine y_cVi C (kX3_isPlace_2 l E σ τ x1 _ rfl) vi_X3_isPlace ml_X3_28 ⟨3, _, o2, rfl, rfl⟩ rfl ⟨rfl, rfl, Nat.le_of_ble_eq_true rfl, Nat.le_of_ble_eq_true rfl⟩ dX3_size_2 rfl (Nat.le_of_ble_eq_true rfl) ?_
  refine y_if_eq C 17 dX3_size_5 (by decide) hf (fun hf => ?_) (fun hf => ?_)
  · refine y_iconst C (v := -1) dX3_size_17 (by decide) ?_
    exact y_iret C (Option.some.inj hf) rfl rfl dX3_size_18
  · refine y_aload_n C dX3_size_8 rfl 0 rfl ?_
    refine g2_sizes C fl_X3_14 dX3_size_9 ?_
    refine y_iload_n C dX3_size_12 rfl 1 rfl ?_
    obtain ⟨hi1, hf⟩ := ck_e hf
    refine y_ialdC C a12 (j := x1.toNatClampNeg) rfl hi1 dX3_size_13 ?_
    refine y_goto C 18 dX3_size_14 (by decide) ?_
    exact y_iret C (Option.some.inj hf) rfl rfl dX3_size_18
noncomputable def fX3_has_2 (x1 : Int32) (σ : QS) : Option (Int32) :=
    Option.bind (fX3_size_2 x1 σ) (fun (q1 : Int32) => (if q1 = (-1 : Int32) then some (0 : Int32) else some (1 : Int32)))
def rm_X3_has_2 : Room := { frames := 2, cells := 0, slots := 0, locals := 42 }
set_option maxRecDepth 100000 in
set_option maxHeartbeats 4000000 in
theorem kX3_has_2 (l : Launch) (E : QE) (σ τ : QS) (x1 : Int32) (q : Int32) (hf : fX3_has_2 x1 σ = some q) : KQ l yX3_has cX3_has 2 (some .boolean) rm_X3_has_2 E [.ref (qAd E 2), .int x1] σ τ (PI E q σ τ) := by
  unfold fX3_has_2 at hf
  refine y_met rfl (Nat.le_of_ble_eq_true rfl) rfl (fun p e s m below meth c C => ?_)
  refine y_aload_n C dX3_has_0 rfl 0 rfl ?_
  refine y_iload_n C dX3_has_1 rfl 1 rfl ?_
  obtain ⟨q1, h_q1, hf⟩ := bd_e hf
  refine y_cVi C (kX3_size_2 l E σ τ x1 _ h_q1) vi_X3_size ml_X3_24 ⟨3, _, o2, rfl, rfl⟩ rfl ⟨rfl, rfl, Nat.le_of_ble_eq_true rfl, Nat.le_of_ble_eq_true rfl⟩ dX3_has_2 rfl (Nat.le_of_ble_eq_true rfl) ?_
  refine y_iconst C (v := -1) dX3_has_5 (by decide) ?_
  refine y_icmp_eq C 13 dX3_has_6 (by decide) hf (fun hf => ?_) (fun hf => ?_)
  · refine y_iconst C (v := 0) dX3_has_13 (by decide) ?_
    exact y_zret C zOk0 (Option.some.inj hf) rfl rfl dX3_has_14
  · refine y_iconst C (v := 1) dX3_has_9 (by decide) ?_
    refine y_goto C 14 dX3_has_10 (by decide) ?_
    exact y_zret C zOk1 (Option.some.inj hf) rfl rfl dX3_has_14
noncomputable def fX4_refusalOfPlace_0_2 (x2 : Int32) (σ : QS) : Option (Int32 × QS) :=
    (if (fX3_isPlace_2 x2 σ) = 0 then some ((-1 : Int32), σ) else Option.bind (fX3_has_2 x2 σ) (fun (q1 : Int32) => (if q1 = 0 then Option.bind (fX4_refuse_0 (1 : Int32) σ) (fun (q2 : Int32 × QS) => some (q2.1, q2.2)) else some ((0 : Int32), σ))))
def rm_X4_refusalOfPlace_0_2 : Room := { frames := 3, cells := 0, slots := 0, locals := 63 }
set_option maxRecDepth 100000 in
set_option maxHeartbeats 4000000 in
theorem kX4_refusalOfPlace_0_2 (l : Launch) (E : QE) (σ τ : QS) (x2 : Int32) (q : Int32 × QS) (hf : fX4_refusalOfPlace_0_2 x2 σ = some q) : KQ l yX4_refusalOfPlace cX4_refusalOfPlace 3 (some .int) rm_X4_refusalOfPlace_0_2 E [.ref (qAd E 0), .ref (qAd E 2), .int x2] σ τ (PI E q.1 q.2 τ) := by
  unfold fX4_refusalOfPlace_0_2 at hf
  refine y_met rfl (Nat.le_of_ble_eq_true rfl) rfl (fun p e s m below meth c C => ?_)
  refine y_aload_n C dX4_refusalOfPlace_0 rfl 1 rfl ?_
  refine y_iload_n C dX4_refusalOfPlace_1 rfl 2 rfl ?_
  refine y_cVi C (kX3_isPlace_2 l E σ τ x2 _ rfl) vi_X3_isPlace ml_X4_60 ⟨3, _, o2, rfl, rfl⟩ rfl ⟨rfl, rfl, Nat.le_of_ble_eq_true rfl, Nat.le_of_ble_eq_true rfl⟩ dX4_refusalOfPlace_2 rfl (Nat.le_of_ble_eq_true rfl) ?_
  refine y_if_ne C 10 dX4_refusalOfPlace_5 (by decide) hf (fun hf => ?_) (fun hf => ?_)
  · refine y_aload_n C dX4_refusalOfPlace_10 rfl 1 rfl ?_
    refine y_iload_n C dX4_refusalOfPlace_11 rfl 2 rfl ?_
    obtain ⟨q1, h_q1, hf⟩ := bd_e hf
    refine y_cVi C (kX3_has_2 l E σ τ x2 _ h_q1) vi_X3_has ml_X4_94 ⟨3, _, o2, rfl, rfl⟩ rfl ⟨rfl, rfl, Nat.le_of_ble_eq_true rfl, Nat.le_of_ble_eq_true rfl⟩ dX4_refusalOfPlace_12 rfl (Nat.le_of_ble_eq_true rfl) ?_
    refine y_if_eq C 22 dX4_refusalOfPlace_15 (by decide) hf (fun hf => ?_) (fun hf => ?_)
    · refine y_aload_n C dX4_refusalOfPlace_22 rfl 0 rfl ?_
      refine y_iconst C (v := 1) dX4_refusalOfPlace_23 (by decide) ?_
      obtain ⟨q2, h_q2, hf⟩ := bd_e hf
      refine y_cVi C (kX4_refuse_0 l E σ τ (1 : Int32) _ h_q2) vi_X4_refuse ml_X4_64 ⟨4, _, o0, rfl, rfl⟩ rfl ⟨rfl, rfl, Nat.le_of_ble_eq_true rfl, Nat.le_of_ble_eq_true rfl⟩ dX4_refusalOfPlace_24 rfl (Nat.le_of_ble_eq_true rfl) ?_
      exact y_iret C (rs1 hf) (rs2 hf) rfl dX4_refusalOfPlace_27
    · refine y_iconst C (v := 0) dX4_refusalOfPlace_18 (by decide) ?_
      refine y_goto C 27 dX4_refusalOfPlace_19 (by decide) ?_
      exact y_iret C (rs1 hf) (rs2 hf) rfl dX4_refusalOfPlace_27
  · refine y_iconst C (v := -1) dX4_refusalOfPlace_8 (by decide) ?_
    exact y_iret C (rs1 hf) (rs2 hf) rfl dX4_refusalOfPlace_9
noncomputable def fX3_holds_2 (x1 : Int32) (x2 : Int32) (σ : QS) : Option (Int32) :=
    (if (fX3_isPlace_2 x1 σ) = 0 then some (0 : Int32) else (if x2 < 0 then some (0 : Int32) else ck_ (inb x1 4) ((if (gM σ 12 x1.toNatClampNeg) ≤ x2 then some (0 : Int32) else some (1 : Int32)))))
def rm_X3_holds_2 : Room := { frames := 1, cells := 0, slots := 0, locals := 21 }
set_option maxRecDepth 100000 in
set_option maxHeartbeats 4000000 in
theorem kX3_holds_2 (l : Launch) (E : QE) (σ τ : QS) (x1 : Int32) (x2 : Int32) (q : Int32) (hf : fX3_holds_2 x1 x2 σ = some q) : KQ l yX3_holds cX3_holds 3 (some .boolean) rm_X3_holds_2 E [.ref (qAd E 2), .int x1, .int x2] σ τ (PI E q σ τ) := by
  unfold fX3_holds_2 at hf
  refine y_met rfl (Nat.le_of_ble_eq_true rfl) rfl (fun p e s m below meth c C => ?_)
  refine y_aload_n C dX3_holds_0 rfl 0 rfl ?_
  refine y_iload_n C dX3_holds_1 rfl 1 rfl ?_
  refine y_cVi C (kX3_isPlace_2 l E σ τ x1 _ rfl) vi_X3_isPlace ml_X3_28 ⟨3, _, o2, rfl, rfl⟩ rfl ⟨rfl, rfl, Nat.le_of_ble_eq_true rfl, Nat.le_of_ble_eq_true rfl⟩ dX3_holds_2 rfl (Nat.le_of_ble_eq_true rfl) ?_
  refine y_if_eq C 26 dX3_holds_5 (by decide) hf (fun hf => ?_) (fun hf => ?_)
  · refine y_iconst C (v := 0) dX3_holds_26 (by decide) ?_
    exact y_zret C zOk0 (Option.some.inj hf) rfl rfl dX3_holds_27
  · refine y_iload_n C dX3_holds_8 rfl 2 rfl ?_
    refine y_if_lt C 26 dX3_holds_9 (by decide) hf (fun hf => ?_) (fun hf => ?_)
    · refine y_iconst C (v := 0) dX3_holds_26 (by decide) ?_
      exact y_zret C zOk0 (Option.some.inj hf) rfl rfl dX3_holds_27
    · refine y_iload_n C dX3_holds_12 rfl 2 rfl ?_
      refine y_aload_n C dX3_holds_13 rfl 0 rfl ?_
      refine g2_sizes C fl_X3_14 dX3_holds_14 ?_
      refine y_iload_n C dX3_holds_17 rfl 1 rfl ?_
      obtain ⟨hi1, hf⟩ := ck_e hf
      refine y_ialdC C a12 (j := x1.toNatClampNeg) rfl hi1 dX3_holds_18 ?_
      refine y_icmp_ge C 26 dX3_holds_19 (by decide) hf (fun hf => ?_) (fun hf => ?_)
      · refine y_iconst C (v := 0) dX3_holds_26 (by decide) ?_
        exact y_zret C zOk0 (Option.some.inj hf) rfl rfl dX3_holds_27
      · refine y_iconst C (v := 1) dX3_holds_22 (by decide) ?_
        refine y_goto C 27 dX3_holds_23 (by decide) ?_
        exact y_zret C zOk1 (Option.some.inj hf) rfl rfl dX3_holds_27
noncomputable def fX4_refusalOfItem_0_2 (x2 : Int32) (x3 : Int32) (σ : QS) : Option (Int32 × QS) :=
    Option.bind (fX4_refusalOfPlace_0_2 x2 σ) (fun (q1 : Int32 × QS) => (if q1.1 = 0 then Option.bind (fX3_holds_2 x2 x3 q1.2) (fun (q2 : Int32) => (if q2 = 0 then Option.bind (fX4_refuse_0 (2 : Int32) q1.2) (fun (q3 : Int32 × QS) => some (q3.1, q3.2)) else some ((0 : Int32), q1.2))) else some (q1.1, q1.2)))
def rm_X4_refusalOfItem_0_2 : Room := { frames := 4, cells := 0, slots := 0, locals := 85 }
set_option maxRecDepth 100000 in
set_option maxHeartbeats 4000000 in
theorem kX4_refusalOfItem_0_2 (l : Launch) (E : QE) (σ τ : QS) (x2 : Int32) (x3 : Int32) (q : Int32 × QS) (hf : fX4_refusalOfItem_0_2 x2 x3 σ = some q) : KQ l yX4_refusalOfItem cX4_refusalOfItem 5 (some .int) rm_X4_refusalOfItem_0_2 E [.ref (qAd E 0), .ref (qAd E 2), .int x2, .int x3] σ τ (PI E q.1 q.2 τ) := by
  unfold fX4_refusalOfItem_0_2 at hf
  refine y_met rfl (Nat.le_of_ble_eq_true rfl) rfl (fun p e s m below meth c C => ?_)
  refine y_aload_n C dX4_refusalOfItem_0 rfl 0 rfl ?_
  refine y_aload_n C dX4_refusalOfItem_1 rfl 1 rfl ?_
  refine y_iload_n C dX4_refusalOfItem_2 rfl 2 rfl ?_
  obtain ⟨q1, h_q1, hf⟩ := bd_e hf
  refine y_cVi C (kX4_refusalOfPlace_0_2 l E σ τ x2 _ h_q1) vi_X4_refusalOfPlace ml_X4_86 ⟨4, _, o0, rfl, rfl⟩ rfl ⟨rfl, rfl, Nat.le_of_ble_eq_true rfl, Nat.le_of_ble_eq_true rfl⟩ dX4_refusalOfItem_3 rfl (Nat.le_of_ble_eq_true rfl) ?_
  refine y_istore C dX4_refusalOfItem_6 (Nat.le_of_ble_eq_true rfl) rfl (lv' := [(4, .int q1.1), (0, .ref (qAd E 0)), (1, .ref (qAd E 2)), (2, .int x2), (3, .int x3)]) rfl ?_
  refine y_iload C dX4_refusalOfItem_8 0 rfl ?_
  refine y_if_eq C 16 dX4_refusalOfItem_10 (by decide) hf (fun hf => ?_) (fun hf => ?_)
  · refine y_aload_n C dX4_refusalOfItem_16 rfl 2 rfl ?_
    refine y_iload_n C dX4_refusalOfItem_17 rfl 3 rfl ?_
    refine y_iload_n C dX4_refusalOfItem_18 rfl 4 rfl ?_
    obtain ⟨q2, h_q2, hf⟩ := bd_e hf
    refine y_cVi C (kX3_holds_2 l E q1.2 τ x2 x3 _ h_q2) vi_X3_holds ml_X4_312 ⟨3, _, o2, rfl, rfl⟩ rfl ⟨rfl, rfl, Nat.le_of_ble_eq_true rfl, Nat.le_of_ble_eq_true rfl⟩ dX4_refusalOfItem_19 rfl (Nat.le_of_ble_eq_true rfl) ?_
    refine y_if_eq C 29 dX4_refusalOfItem_22 (by decide) hf (fun hf => ?_) (fun hf => ?_)
    · refine y_aload_n C dX4_refusalOfItem_29 rfl 1 rfl ?_
      refine y_iconst C (v := 2) dX4_refusalOfItem_30 (by decide) ?_
      obtain ⟨q3, h_q3, hf⟩ := bd_e hf
      refine y_cVi C (kX4_refuse_0 l E q1.2 τ (2 : Int32) _ h_q3) vi_X4_refuse ml_X4_64 ⟨4, _, o0, rfl, rfl⟩ rfl ⟨rfl, rfl, Nat.le_of_ble_eq_true rfl, Nat.le_of_ble_eq_true rfl⟩ dX4_refusalOfItem_31 rfl (Nat.le_of_ble_eq_true rfl) ?_
      exact y_iret C (rs1 hf) (rs2 hf) rfl dX4_refusalOfItem_34
    · refine y_iconst C (v := 0) dX4_refusalOfItem_25 (by decide) ?_
      refine y_goto C 34 dX4_refusalOfItem_26 (by decide) ?_
      exact y_iret C (rs1 hf) (rs2 hf) rfl dX4_refusalOfItem_34
  · refine y_iload C dX4_refusalOfItem_13 0 rfl ?_
    exact y_iret C (rs1 hf) (rs2 hf) rfl dX4_refusalOfItem_15
noncomputable def fX3_get_2 (x1 : Int32) (x2 : Int32) (σ : QS) : Option (Int32) :=
    Option.bind (fX3_holds_2 x1 x2 σ) (fun (q1 : Int32) => (if q1 = 0 then some (0 : Int32) else ck_ (inb x1 4) (ck_ (inb x2 60) (some (gM σ (36 + x1.toNatClampNeg) x2.toNatClampNeg)))))
def rm_X3_get_2 : Room := { frames := 2, cells := 0, slots := 0, locals := 43 }
set_option maxRecDepth 100000 in
set_option maxHeartbeats 4000000 in
theorem kX3_get_2 (l : Launch) (E : QE) (σ τ : QS) (x1 : Int32) (x2 : Int32) (q : Int32) (hf : fX3_get_2 x1 x2 σ = some q) : KQ l yX3_get cX3_get 3 (some .int) rm_X3_get_2 E [.ref (qAd E 2), .int x1, .int x2] σ τ (PI E q σ τ) := by
  unfold fX3_get_2 at hf
  refine y_met rfl (Nat.le_of_ble_eq_true rfl) rfl (fun p e s m below meth c C => ?_)
  refine y_aload_n C dX3_get_0 rfl 0 rfl ?_
  refine y_iload_n C dX3_get_1 rfl 1 rfl ?_
  refine y_iload_n C dX3_get_2 rfl 2 rfl ?_
  obtain ⟨q1, h_q1, hf⟩ := bd_e hf
  refine y_cVi C (kX3_holds_2 l E σ τ x1 x2 _ h_q1) vi_X3_holds ml_X3_32 ⟨3, _, o2, rfl, rfl⟩ rfl ⟨rfl, rfl, Nat.le_of_ble_eq_true rfl, Nat.le_of_ble_eq_true rfl⟩ dX3_get_3 rfl (Nat.le_of_ble_eq_true rfl) ?_
  refine y_if_eq C 20 dX3_get_6 (by decide) hf (fun hf => ?_) (fun hf => ?_)
  · refine y_iconst C (v := 0) dX3_get_20 (by decide) ?_
    exact y_iret C (Option.some.inj hf) rfl rfl dX3_get_21
  · refine y_aload_n C dX3_get_9 rfl 0 rfl ?_
    refine g2_items C fl_X3_9 dX3_get_10 ?_
    refine y_iload_n C dX3_get_13 rfl 1 rfl ?_
    obtain ⟨hi2, hf⟩ := ck_e hf
    refine y_aald C q11 hi2 dX3_get_14 ?_
    refine y_iload_n C dX3_get_15 rfl 2 rfl ?_
    obtain ⟨hi3, hf⟩ := ck_e hf
    refine y_ialdC C (in11 (inb_e hi2)) (j := x2.toNatClampNeg) rfl hi3 dX3_get_16 ?_
    refine y_goto C 21 dX3_get_17 (by decide) ?_
    exact y_iret C (Option.some.inj hf) rfl rfl dX3_get_21
noncomputable def fX3_set_2 (x1 : Int32) (x2 : Int32) (x3 : Int32) (σ : QS) : Option (QS) :=
    Option.bind (fX3_holds_2 x1 x2 σ) (fun (q1 : Int32) => (if q1 = 0 then some σ else ck_ (inb x1 4) (ck_ (inb x2 60) (lt_ (pM σ (36 + x1.toNatClampNeg) (upd (gM σ (36 + x1.toNatClampNeg)) x2.toNatClampNeg x3)) (fun (S4 : QS) => some S4)))))
def rm_X3_set_2 : Room := { frames := 2, cells := 0, slots := 0, locals := 43 }
set_option maxRecDepth 100000 in
set_option maxHeartbeats 4000000 in
theorem kX3_set_2 (l : Launch) (E : QE) (σ τ : QS) (x1 : Int32) (x2 : Int32) (x3 : Int32) (q : QS) (hf : fX3_set_2 x1 x2 x3 σ = some q) : KQ l yX3_set cX3_set 4 none rm_X3_set_2 E [.ref (qAd E 2), .int x1, .int x2, .int x3] σ τ (PV E q τ) := by
  unfold fX3_set_2 at hf
  refine y_met rfl (Nat.le_of_ble_eq_true rfl) rfl (fun p e s m below meth c C => ?_)
  refine y_aload_n C dX3_set_0 rfl 0 rfl ?_
  refine y_iload_n C dX3_set_1 rfl 1 rfl ?_
  refine y_iload_n C dX3_set_2 rfl 2 rfl ?_
  obtain ⟨q1, h_q1, hf⟩ := bd_e hf
  refine y_cVi C (kX3_holds_2 l E σ τ x1 x2 _ h_q1) vi_X3_holds ml_X3_32 ⟨3, _, o2, rfl, rfl⟩ rfl ⟨rfl, rfl, Nat.le_of_ble_eq_true rfl, Nat.le_of_ble_eq_true rfl⟩ dX3_set_3 rfl (Nat.le_of_ble_eq_true rfl) ?_
  refine y_if_eq C 18 dX3_set_6 (by decide) hf (fun hf => ?_) (fun hf => ?_)
  · exact y_vret C (Option.some.inj hf) rfl dX3_set_18
  · refine y_aload_n C dX3_set_9 rfl 0 rfl ?_
    refine g2_items C fl_X3_9 dX3_set_10 ?_
    refine y_iload_n C dX3_set_13 rfl 1 rfl ?_
    obtain ⟨hi2, hf⟩ := ck_e hf
    refine y_aald C q11 hi2 dX3_set_14 ?_
    refine y_iload_n C dX3_set_15 rfl 2 rfl ?_
    refine y_iload_n C dX3_set_16 rfl 3 rfl ?_
    obtain ⟨hi3, hf⟩ := ck_e hf
    obtain ⟨S4, e_S4, hf⟩ := lt_e hf
    refine y_iastC C (in11 (inb_e hi2)) (j := x2.toNatClampNeg) rfl hi3 e_S4 dX3_set_17 ?_
    exact y_vret C (Option.some.inj hf) rfl dX3_set_18
noncomputable def fX4_put_0 (x1 : Int32) (x2 : Int32) (x3 : Int32) (σ : QS) : Option (Int32 × QS) :=
    Option.bind (fX4_refusalOfItem_0_2 x1 x2 σ) (fun (q1 : Int32 × QS) => (if q1.1 = 0 then Option.bind (fX3_get_2 x1 x2 q1.2) (fun (q2 : Int32) => Option.bind (fX3_set_2 x1 x2 x3.toInt8.toInt32 q1.2) (fun (q3 : QS) => some ((q2 + (1000 : Int32)), q3))) else some (q1.1, q1.2)))
def rm_X4_put_0 : Room := { frames := 5, cells := 0, slots := 0, locals := 109 }
set_option maxRecDepth 100000 in
set_option maxHeartbeats 4000000 in
theorem kX4_put_0 (l : Launch) (E : QE) (σ τ : QS) (x1 : Int32) (x2 : Int32) (x3 : Int32) (q : Int32 × QS) (hf : fX4_put_0 x1 x2 x3 σ = some q) : KQ l yX4_put cX4_put 6 (some .int) rm_X4_put_0 E [.ref (qAd E 0), .int x1, .int x2, .int x3] σ τ (PI E q.1 q.2 τ) := by
  unfold fX4_put_0 at hf
  refine y_met rfl (Nat.le_of_ble_eq_true rfl) rfl (fun p e s m below meth c C => ?_)
  refine y_aload_n C dX4_put_0 rfl 0 rfl ?_
  refine y_aload_n C dX4_put_1 rfl 0 rfl ?_
  refine g0_textShelf C fl_X4_18 dX4_put_2 ?_
  refine y_iload_n C dX4_put_5 rfl 1 rfl ?_
  refine y_iload_n C dX4_put_6 rfl 2 rfl ?_
  obtain ⟨q1, h_q1, hf⟩ := bd_e hf
  refine y_cVi C (kX4_refusalOfItem_0_2 l E σ τ x1 x2 _ h_q1) vi_X4_refusalOfItem ml_X4_72 ⟨4, _, o0, rfl, rfl⟩ rfl ⟨rfl, rfl, Nat.le_of_ble_eq_true rfl, Nat.le_of_ble_eq_true rfl⟩ dX4_put_7 rfl (Nat.le_of_ble_eq_true rfl) ?_
  refine y_istore C dX4_put_10 (Nat.le_of_ble_eq_true rfl) rfl (lv' := [(4, .int q1.1), (0, .ref (qAd E 0)), (1, .int x1), (2, .int x2), (3, .int x3)]) rfl ?_
  refine y_iload C dX4_put_12 0 rfl ?_
  refine y_if_eq C 20 dX4_put_14 (by decide) hf (fun hf => ?_) (fun hf => ?_)
  · refine y_aload_n C dX4_put_20 rfl 1 rfl ?_
    refine g0_textShelf C fl_X4_18 dX4_put_21 ?_
    refine y_iload_n C dX4_put_24 rfl 2 rfl ?_
    refine y_iload_n C dX4_put_25 rfl 3 rfl ?_
    obtain ⟨q2, h_q2, hf⟩ := bd_e hf
    refine y_cVi C (kX3_get_2 l E q1.2 τ x1 x2 _ h_q2) vi_X3_get ml_X4_76 ⟨3, _, o2, rfl, rfl⟩ rfl ⟨rfl, rfl, Nat.le_of_ble_eq_true rfl, Nat.le_of_ble_eq_true rfl⟩ dX4_put_26 rfl (Nat.le_of_ble_eq_true rfl) ?_
    refine y_istore C dX4_put_29 (Nat.le_of_ble_eq_true rfl) rfl (lv' := [(5, .int q2), (4, .int q1.1), (0, .ref (qAd E 0)), (1, .int x1), (2, .int x2), (3, .int x3)]) rfl ?_
    refine y_aload_n C dX4_put_31 rfl 2 rfl ?_
    refine g0_textShelf C fl_X4_18 dX4_put_32 ?_
    refine y_iload_n C dX4_put_35 rfl 3 rfl ?_
    refine y_iload_n C dX4_put_36 rfl 4 rfl ?_
    refine y_iload_n C dX4_put_37 rfl 5 rfl ?_
    refine y_i2b C dX4_put_38 ?_
    obtain ⟨q3, h_q3, hf⟩ := bd_e hf
    refine y_cVv C (kX3_set_2 l E q1.2 τ x1 x2 x3.toInt8.toInt32 _ h_q3) vi_X3_set ml_X4_80 ⟨3, _, o2, rfl, rfl⟩ rfl ⟨rfl, rfl, Nat.le_of_ble_eq_true rfl, Nat.le_of_ble_eq_true rfl⟩ dX4_put_39 rfl (Nat.le_of_ble_eq_true rfl) ?_
    refine y_iload C dX4_put_42 0 rfl ?_
    refine y_sipush C (v := 1000) dX4_put_44 (by decide) ?_
    refine y_iadd C dX4_put_47 ?_
    exact y_iret C (rs1 hf) (rs2 hf) rfl dX4_put_48
  · refine y_iload C dX4_put_17 0 rfl ?_
    exact y_iret C (rs1 hf) (rs2 hf) rfl dX4_put_19
noncomputable def fX5_put_50 (x1 : Int32) (x2 : Int32) (x3 : Int32) (τ : QS) : Option (Int32 × QS) :=
    (if (fX5_isText x1) = 0 then some ((-1 : Int32), τ) else ck_ (inb x1 4) ((if 0 ≤ (gM τ 58 x1.toNatClampNeg) then ck_ (inb x1 4) ((if (fX5_in x2.toInt64 (0 : Int64) (((gM τ 58 x1.toNatClampNeg) - (1 : Int32)).toInt64)) = 0 then Option.bind (fX5_find_50 (2 : Int32) τ) (fun (q7 : Int32 × QS) => some (q7.1, q7.2)) else ck_ (inb (((60 : Int32) * x1) + x2) 240) (lt_ (gM τ 59 ((((60 : Int32) * x1) + x2).toNatClampNeg)) (fun (v4 : Int32) => ck_ (inb (((60 : Int32) * x1) + x2) 240) (lt_ (pM τ 59 (upd (gM τ 59) ((((60 : Int32) * x1) + x2).toNatClampNeg) x3.toInt8.toInt32)) (fun (S6 : QS) => some ((v4 + (1000 : Int32)), S6))))))) else Option.bind (fX5_find_50 (1 : Int32) τ) (fun (q8 : Int32 × QS) => some (q8.1, q8.2)))))
def rm_X5_put_50 : Room := { frames := 2, cells := 0, slots := 0, locals := 45 }
set_option maxRecDepth 100000 in
set_option maxHeartbeats 4000000 in
theorem kX5_put_50 (l : Launch) (E : QE) (σ τ : QS) (x1 : Int32) (x2 : Int32) (x3 : Int32) (q : Int32 × QS) (hf : fX5_put_50 x1 x2 x3 τ = some q) : KQ l yX5_put cX5_put 5 (some .int) rm_X5_put_50 E [.ref (qAd E 50), .int x1, .int x2, .int x3] σ τ (PI E q.1 σ q.2) := by
  unfold fX5_put_50 at hf
  refine y_met rfl (Nat.le_of_ble_eq_true rfl) rfl (fun p e s m below meth c C => ?_)
  refine y_iload_n C dX5_put_0 rfl 1 rfl ?_
  refine y_cSi C (kX5_isText l E σ τ x1 _ rfl) si_X5_isText ml_X5_106 rfl ⟨rfl, rfl, Nat.le_of_ble_eq_true rfl, Nat.le_of_ble_eq_true rfl⟩ dX5_put_1 rfl (Nat.le_of_ble_eq_true rfl) ?_
  refine y_if_ne C 9 dX5_put_4 (by decide) hf (fun hf => ?_) (fun hf => ?_)
  · refine y_aload_n C dX5_put_9 rfl 0 rfl ?_
    refine g50_lengths C fl_X5_31 dX5_put_10 ?_
    refine y_iload_n C dX5_put_13 rfl 1 rfl ?_
    obtain ⟨hi1, hf⟩ := ck_e hf
    refine y_ialdR C a58 (j := x1.toNatClampNeg) rfl hi1 dX5_put_14 ?_
    refine y_if_ge C 24 dX5_put_15 (by decide) hf (fun hf => ?_) (fun hf => ?_)
    · refine y_iload_n C dX5_put_24 rfl 2 rfl ?_
      refine y_i2l C dX5_put_25 ?_
      refine y_lconst C (v := 0) dX5_put_26 (by decide) ?_
      refine y_aload_n C dX5_put_27 rfl 0 rfl ?_
      refine g50_lengths C fl_X5_31 dX5_put_28 ?_
      refine y_iload_n C dX5_put_31 rfl 1 rfl ?_
      obtain ⟨hi2, hf⟩ := ck_e hf
      refine y_ialdR C a58 (j := x1.toNatClampNeg) rfl hi2 dX5_put_32 ?_
      refine y_iconst C (v := 1) dX5_put_33 (by decide) ?_
      refine y_isub C dX5_put_34 ?_
      refine y_i2l C dX5_put_35 ?_
      refine y_cSi C (kX5_in l E σ τ x2.toInt64 (0 : Int64) (((gM τ 58 x1.toNatClampNeg) - (1 : Int32)).toInt64) _ rfl) si_X5_in ml_X5_77 rfl ⟨rfl, rfl, Nat.le_of_ble_eq_true rfl, Nat.le_of_ble_eq_true rfl⟩ dX5_put_36 rfl (Nat.le_of_ble_eq_true rfl) ?_
      refine y_if_ne C 48 dX5_put_39 (by decide) hf (fun hf => ?_) (fun hf => ?_)
      · refine y_aload_n C dX5_put_48 rfl 0 rfl ?_
        refine g50_bytes C fl_X5_34 dX5_put_49 ?_
        refine y_bipush C (v := 60) dX5_put_52 (by decide) ?_
        refine y_iload_n C dX5_put_54 rfl 1 rfl ?_
        refine y_imul C dX5_put_55 ?_
        refine y_iload_n C dX5_put_56 rfl 2 rfl ?_
        refine y_iadd C dX5_put_57 ?_
        obtain ⟨hi3, hf⟩ := ck_e hf
        refine y_ialdR C a59 (j := (((60 : Int32) * x1) + x2).toNatClampNeg) rfl hi3 dX5_put_58 ?_
        obtain ⟨v4, e_v4, hf⟩ := lt_e hf
        refine y_istore C dX5_put_59 (Nat.le_of_ble_eq_true rfl) e_v4 (lv' := [(4, .int v4), (0, .ref (qAd E 50)), (1, .int x1), (2, .int x2), (3, .int x3)]) rfl ?_
        refine y_aload_n C dX5_put_61 rfl 1 rfl ?_
        refine g50_bytes C fl_X5_34 dX5_put_62 ?_
        refine y_bipush C (v := 60) dX5_put_65 (by decide) ?_
        refine y_iload_n C dX5_put_67 rfl 2 rfl ?_
        refine y_imul C dX5_put_68 ?_
        refine y_iload_n C dX5_put_69 rfl 3 rfl ?_
        refine y_iadd C dX5_put_70 ?_
        refine y_iload_n C dX5_put_71 rfl 4 rfl ?_
        refine y_i2b C dX5_put_72 ?_
        obtain ⟨hi5, hf⟩ := ck_e hf
        obtain ⟨S6, e_S6, hf⟩ := lt_e hf
        refine y_iastR C a59 (j := (((60 : Int32) * x1) + x2).toNatClampNeg) rfl hi5 e_S6 dX5_put_73 ?_
        refine y_iload C dX5_put_74 0 rfl ?_
        refine y_sipush C (v := 1000) dX5_put_76 (by decide) ?_
        refine y_iadd C dX5_put_79 ?_
        exact y_iret C (rs1 hf) rfl (rs2 hf) dX5_put_80
      · refine y_aload_n C dX5_put_42 rfl 0 rfl ?_
        refine y_iconst C (v := 2) dX5_put_43 (by decide) ?_
        obtain ⟨q7, h_q7, hf⟩ := bd_e hf
        refine y_cVi C (kX5_find_50 l E σ τ (2 : Int32) _ h_q7) vi_X5_find ml_X5_87 ⟨5, _, o50, rfl, rfl⟩ rfl ⟨rfl, rfl, Nat.le_of_ble_eq_true rfl, Nat.le_of_ble_eq_true rfl⟩ dX5_put_44 rfl (Nat.le_of_ble_eq_true rfl) ?_
        exact y_iret C (rs1 hf) rfl (rs2 hf) dX5_put_47
    · refine y_aload_n C dX5_put_18 rfl 0 rfl ?_
      refine y_iconst C (v := 1) dX5_put_19 (by decide) ?_
      obtain ⟨q8, h_q8, hf⟩ := bd_e hf
      refine y_cVi C (kX5_find_50 l E σ τ (1 : Int32) _ h_q8) vi_X5_find ml_X5_87 ⟨5, _, o50, rfl, rfl⟩ rfl ⟨rfl, rfl, Nat.le_of_ble_eq_true rfl, Nat.le_of_ble_eq_true rfl⟩ dX5_put_20 rfl (Nat.le_of_ble_eq_true rfl) ?_
      exact y_iret C (rs1 hf) rfl (rs2 hf) dX5_put_23
  · refine y_iconst C (v := -1) dX5_put_7 (by decide) ?_
    exact y_iret C (rs1 hf) rfl (rs2 hf) dX5_put_8
noncomputable def fX1_pastBlanks_2 (x1 : Int32) (x2 : Int32) (σ : QS) : Option (Int32) :=
    lp_ (fun (r2 : Int32 → Option (Int32)) (a1 : Int32) => Option.bind (fX3_size_2 x1 σ) (fun (q3 : Int32) => (if q3 ≤ a1 then some a1 else Option.bind (fX3_get_2 x1 a1 σ) (fun (q4 : Int32) => (if q4 = (32 : Int32) then r2 (a1 + (1 : Int32)) else some a1))))) FV x2
def rm_X1_pastBlanks_2 : Room := { frames := 3, cells := 0, slots := 0, locals := 65 }
set_option maxRecDepth 100000 in
set_option maxHeartbeats 4000000 in
theorem kX1_pastBlanks_2 (l : Launch) (E : QE) (σ τ : QS) (x1 : Int32) (x2 : Int32) (q : Int32) (hf : fX1_pastBlanks_2 x1 x2 σ = some q) : KQ l yX1_pastBlanks cX1_pastBlanks 4 (some .int) rm_X1_pastBlanks_2 E [.ref (qAd E 2), .int x1, .int x2] σ τ (PI E q σ τ) := by
  unfold fX1_pastBlanks_2 at hf
  refine y_met rfl (Nat.le_of_ble_eq_true rfl) rfl (fun p e s m below meth c C => ?_)
  refine y_iload_n C dX1_pastBlanks_0 rfl 2 rfl ?_
  refine y_istore_n C dX1_pastBlanks_1 rfl (Nat.le_of_ble_eq_true rfl) rfl (lv' := [(3, .int x2), (0, .ref (qAd E 2)), (1, .int x1), (2, .int x2)]) rfl ?_
  refine y_sub [0, 1, 2] rfl ?_
  refine lp_ind (P := fun a1 : Int32 => Y E p l e rm_X1_pastBlanks_2 s m ([.ref (qAd E 2), .int x1, .int x2] : List Value).toArray below meth c 4 (MQ below (PI E q σ τ) ([.ref (qAd E 2), .int x1, .int x2] : List Value).toArray s 0 0 (qA E)) σ τ 2 [(3, .int a1), (0, .ref (qAd E 2)), (1, .int x1)] []) (fun r2 a1 ih_r2 hf => ?_) _ _ hf
  refine y_iload_n C dX1_pastBlanks_2 rfl 0 rfl ?_
  refine y_aload_n C dX1_pastBlanks_3 rfl 1 rfl ?_
  refine y_iload_n C dX1_pastBlanks_4 rfl 2 rfl ?_
  obtain ⟨q3, h_q3, hf⟩ := bd_e hf
  refine y_cVi C (kX3_size_2 l E σ τ x1 _ h_q3) vi_X3_size ml_X1_59 ⟨3, _, o2, rfl, rfl⟩ rfl ⟨rfl, rfl, Nat.le_of_ble_eq_true rfl, Nat.le_of_ble_eq_true rfl⟩ dX1_pastBlanks_5 rfl (Nat.le_of_ble_eq_true rfl) ?_
  refine y_icmp_ge C 28 dX1_pastBlanks_8 (by decide) hf (fun hf => ?_) (fun hf => ?_)
  · refine y_iload_n C dX1_pastBlanks_28 rfl 0 rfl ?_
    exact y_iret C (Option.some.inj hf) rfl rfl dX1_pastBlanks_29
  · refine y_aload_n C dX1_pastBlanks_11 rfl 1 rfl ?_
    refine y_iload_n C dX1_pastBlanks_12 rfl 2 rfl ?_
    refine y_iload_n C dX1_pastBlanks_13 rfl 0 rfl ?_
    obtain ⟨q4, h_q4, hf⟩ := bd_e hf
    refine y_cVi C (kX3_get_2 l E σ τ x1 a1 _ h_q4) vi_X3_get ml_X1_44 ⟨3, _, o2, rfl, rfl⟩ rfl ⟨rfl, rfl, Nat.le_of_ble_eq_true rfl, Nat.le_of_ble_eq_true rfl⟩ dX1_pastBlanks_14 rfl (Nat.le_of_ble_eq_true rfl) ?_
    refine y_bipush C (v := 32) dX1_pastBlanks_17 (by decide) ?_
    refine y_icmp_ne C 28 dX1_pastBlanks_19 (by decide) hf (fun hf => ?_) (fun hf => ?_)
    · refine y_iload_n C dX1_pastBlanks_28 rfl 0 rfl ?_
      exact y_iret C (Option.some.inj hf) rfl rfl dX1_pastBlanks_29
    · refine y_iinc C dX1_pastBlanks_22 0 rfl (Nat.le_of_ble_eq_true rfl) (k2 := 1) (by decide) rfl (lv' := [(3, .int (a1 + (1 : Int32))), (0, .ref (qAd E 2)), (1, .int x1)]) rfl ?_
      refine y_goto C 2 dX1_pastBlanks_25 (by decide) ?_
      refine y_sub [0, 1, 2] rfl ?_
      exact ih_r2 (a1 + (1 : Int32)) hf
noncomputable def fX1_figureAt_2 (x1 : Int32) (x2 : Int32) (σ : QS) : Option (Int32) :=
    Option.bind (fX3_get_2 x1 x2 σ) (fun (q1 : Int32) => (if q1 < (48 : Int32) then some (-9 : Int32) else (if (57 : Int32) < q1 then some (-9 : Int32) else some (q1 - (48 : Int32)))))
def rm_X1_figureAt_2 : Room := { frames := 3, cells := 0, slots := 0, locals := 65 }
set_option maxRecDepth 100000 in
set_option maxHeartbeats 4000000 in
theorem kX1_figureAt_2 (l : Launch) (E : QE) (σ τ : QS) (x1 : Int32) (x2 : Int32) (q : Int32) (hf : fX1_figureAt_2 x1 x2 σ = some q) : KQ l yX1_figureAt cX1_figureAt 4 (some .int) rm_X1_figureAt_2 E [.ref (qAd E 2), .int x1, .int x2] σ τ (PI E q σ τ) := by
  unfold fX1_figureAt_2 at hf
  refine y_met rfl (Nat.le_of_ble_eq_true rfl) rfl (fun p e s m below meth c C => ?_)
  refine y_aload_n C dX1_figureAt_0 rfl 0 rfl ?_
  refine y_iload_n C dX1_figureAt_1 rfl 1 rfl ?_
  refine y_iload_n C dX1_figureAt_2 rfl 2 rfl ?_
  obtain ⟨q1, h_q1, hf⟩ := bd_e hf
  refine y_cVi C (kX3_get_2 l E σ τ x1 x2 _ h_q1) vi_X3_get ml_X1_44 ⟨3, _, o2, rfl, rfl⟩ rfl ⟨rfl, rfl, Nat.le_of_ble_eq_true rfl, Nat.le_of_ble_eq_true rfl⟩ dX1_figureAt_3 rfl (Nat.le_of_ble_eq_true rfl) ?_
  refine y_istore_n C dX1_figureAt_6 rfl (Nat.le_of_ble_eq_true rfl) rfl (lv' := [(3, .int q1), (0, .ref (qAd E 2)), (1, .int x1), (2, .int x2)]) rfl ?_
  refine y_iload_n C dX1_figureAt_7 rfl 0 rfl ?_
  refine y_bipush C (v := 48) dX1_figureAt_8 (by decide) ?_
  refine y_icmp_lt C 26 dX1_figureAt_10 (by decide) hf (fun hf => ?_) (fun hf => ?_)
  · refine y_bipush C (v := -9) dX1_figureAt_26 (by decide) ?_
    exact y_iret C (Option.some.inj hf) rfl rfl dX1_figureAt_28
  · refine y_iload_n C dX1_figureAt_13 rfl 0 rfl ?_
    refine y_bipush C (v := 57) dX1_figureAt_14 (by decide) ?_
    refine y_icmp_gt C 26 dX1_figureAt_16 (by decide) hf (fun hf => ?_) (fun hf => ?_)
    · refine y_bipush C (v := -9) dX1_figureAt_26 (by decide) ?_
      exact y_iret C (Option.some.inj hf) rfl rfl dX1_figureAt_28
    · refine y_iload_n C dX1_figureAt_19 rfl 0 rfl ?_
      refine y_bipush C (v := 48) dX1_figureAt_20 (by decide) ?_
      refine y_isub C dX1_figureAt_22 ?_
      refine y_goto C 28 dX1_figureAt_23 (by decide) ?_
      exact y_iret C (Option.some.inj hf) rfl rfl dX1_figureAt_28
noncomputable def fX1_readLines_4_2 (x2 : Int32) (x3 : Int32) (σ : QS) : Option (Int32 × QS) :=
    lp_ (fun (r2 : Int32 × Int32 × QS → Option (Int32 × QS)) (a1 : Int32 × Int32 × QS) => (if (6 : Int32) ≤ a1.2.1 then some (a1.1, a1.2.2) else Option.bind (fX1_figureAt_2 x2 a1.1 a1.2.2) (fun (q3 : Int32) => (if q3 ≤ 0 then some (a1.1, a1.2.2) else Option.bind (fX1_figureAt_2 x2 a1.1 a1.2.2) (fun (q4 : Int32) => ck_ (inb a1.2.1 6) (lt_ (pM a1.2.2 15 (upd (gM a1.2.2 15) a1.2.1.toNatClampNeg q4)) (fun (S6 : QS) => lt_ (pI S6 3 (a1.2.1 + (1 : Int32))) (fun (S7 : QS) => r2 ((a1.1 + (1 : Int32)), (a1.2.1 + (1 : Int32)), S7))))))))) FV (x3, (0 : Int32), σ)
def rm_X1_readLines_4_2 : Room := { frames := 4, cells := 0, slots := 0, locals := 88 }
set_option maxRecDepth 100000 in
set_option maxHeartbeats 4000000 in
theorem kX1_readLines_4_2 (l : Launch) (E : QE) (σ τ : QS) (x2 : Int32) (x3 : Int32) (q : Int32 × QS) (hf : fX1_readLines_4_2 x2 x3 σ = some q) : KQ l yX1_readLines cX1_readLines 6 (some .int) rm_X1_readLines_4_2 E [.ref (qAd E 4), .ref (qAd E 2), .int x2, .int x3] σ τ (PI E q.1 q.2 τ) := by
  unfold fX1_readLines_4_2 at hf
  refine y_met rfl (Nat.le_of_ble_eq_true rfl) rfl (fun p e s m below meth c C => ?_)
  refine y_iload_n C dX1_readLines_0 rfl 3 rfl ?_
  refine y_istore C dX1_readLines_1 (Nat.le_of_ble_eq_true rfl) rfl (lv' := [(4, .int x3), (0, .ref (qAd E 4)), (1, .ref (qAd E 2)), (2, .int x2), (3, .int x3)]) rfl ?_
  refine y_iconst C (v := 0) dX1_readLines_3 (by decide) ?_
  refine y_istore C dX1_readLines_4 (Nat.le_of_ble_eq_true rfl) rfl (lv' := [(5, .int (0 : Int32)), (4, .int x3), (0, .ref (qAd E 4)), (1, .ref (qAd E 2)), (2, .int x2), (3, .int x3)]) rfl ?_
  refine y_sub [0, 1, 2, 3, 4] rfl ?_
  refine lp_ind (P := fun a1 : Int32 × Int32 × QS => Y E p l e rm_X1_readLines_4_2 s m ([.ref (qAd E 4), .ref (qAd E 2), .int x2, .int x3] : List Value).toArray below meth c 6 (MQ below (PI E q.1 q.2 τ) ([.ref (qAd E 4), .ref (qAd E 2), .int x2, .int x3] : List Value).toArray s 0 0 (qA E)) a1.2.2 τ 6 [(5, .int a1.2.1), (4, .int a1.1), (0, .ref (qAd E 4)), (1, .ref (qAd E 2)), (2, .int x2)] []) (fun r2 a1 ih_r2 hf => ?_) _ _ hf
  refine y_iload C dX1_readLines_6 0 rfl ?_
  refine y_bipush C (v := 6) dX1_readLines_8 (by decide) ?_
  refine y_icmp_ge C 54 dX1_readLines_10 (by decide) hf (fun hf => ?_) (fun hf => ?_)
  · refine y_iload C dX1_readLines_54 1 rfl ?_
    exact y_iret C (rs1 hf) (rs2 hf) rfl dX1_readLines_56
  · refine y_aload_n C dX1_readLines_13 rfl 3 rfl ?_
    refine y_iload_n C dX1_readLines_14 rfl 4 rfl ?_
    refine y_iload C dX1_readLines_15 1 rfl ?_
    obtain ⟨q3, h_q3, hf⟩ := bd_e hf
    refine y_cSi C (kX1_figureAt_2 l E a1.2.2 τ x2 a1.1 _ h_q3) si_X1_figureAt ml_X1_50 rfl ⟨rfl, rfl, Nat.le_of_ble_eq_true rfl, Nat.le_of_ble_eq_true rfl⟩ dX1_readLines_17 rfl (Nat.le_of_ble_eq_true rfl) ?_
    refine y_if_le C 54 dX1_readLines_20 (by decide) hf (fun hf => ?_) (fun hf => ?_)
    · refine y_iload C dX1_readLines_54 1 rfl ?_
      exact y_iret C (rs1 hf) (rs2 hf) rfl dX1_readLines_56
    · refine y_aload_n C dX1_readLines_23 rfl 2 rfl ?_
      refine g4_lineCount C fl_X1_9 dX1_readLines_24 ?_
      refine y_iload C dX1_readLines_27 0 rfl ?_
      refine y_aload_n C dX1_readLines_29 rfl 3 rfl ?_
      refine y_iload_n C dX1_readLines_30 rfl 4 rfl ?_
      refine y_iload C dX1_readLines_31 1 rfl ?_
      obtain ⟨q4, h_q4, hf⟩ := bd_e hf
      refine y_cSi C (kX1_figureAt_2 l E a1.2.2 τ x2 a1.1 _ h_q4) si_X1_figureAt ml_X1_50 rfl ⟨rfl, rfl, Nat.le_of_ble_eq_true rfl, Nat.le_of_ble_eq_true rfl⟩ dX1_readLines_33 rfl (Nat.le_of_ble_eq_true rfl) ?_
      obtain ⟨hi5, hf⟩ := ck_e hf
      obtain ⟨S6, e_S6, hf⟩ := lt_e hf
      refine y_iastC C a15 (j := a1.2.1.toNatClampNeg) rfl hi5 e_S6 dX1_readLines_36 ?_
      refine y_aload_n C dX1_readLines_37 rfl 2 rfl ?_
      refine y_iload C dX1_readLines_38 0 rfl ?_
      refine y_iconst C (v := 1) dX1_readLines_40 (by decide) ?_
      refine y_iadd C dX1_readLines_41 ?_
      obtain ⟨S7, e_S7, hf⟩ := lt_e hf
      refine p4_sceneCount C fl_X1_27 e_S7 dX1_readLines_42 ?_
      refine y_iinc C dX1_readLines_45 1 rfl (Nat.le_of_ble_eq_true rfl) (k2 := 1) (by decide) rfl (lv' := [(4, .int (a1.1 + (1 : Int32))), (5, .int a1.2.1), (0, .ref (qAd E 4)), (1, .ref (qAd E 2)), (2, .int x2)]) rfl ?_
      refine y_iinc C dX1_readLines_48 1 rfl (Nat.le_of_ble_eq_true rfl) (k2 := 1) (by decide) rfl (lv' := [(5, .int (a1.2.1 + (1 : Int32))), (4, .int (a1.1 + (1 : Int32))), (0, .ref (qAd E 4)), (1, .ref (qAd E 2)), (2, .int x2)]) rfl ?_
      refine y_goto C 6 dX1_readLines_51 (by decide) ?_
      refine y_sub [0, 1, 2, 3, 4] rfl ?_
      exact ih_r2 ((a1.1 + (1 : Int32)), (a1.2.1 + (1 : Int32)), S7) hf
noncomputable def fX1_kindAt_2 (x1 : Int32) (x2 : Int32) (σ : QS) : Option (Int32) :=
    Option.bind (fX3_get_2 x1 x2 σ) (fun (q1 : Int32) => lp_ (fun (r3 : Int32 → Option (Int32)) (a2 : Int32) => (if (6 : Int32) ≤ a2 then some (-9 : Int32) else ck_ (inb a2 6) ((if (ltr a2.toNatClampNeg) = q1 then some a2 else r3 (a2 + (1 : Int32)))))) FV (0 : Int32))
def rm_X1_kindAt_2 : Room := { frames := 3, cells := 0, slots := 0, locals := 65 }
set_option maxRecDepth 100000 in
set_option maxHeartbeats 4000000 in
theorem kX1_kindAt_2 (l : Launch) (E : QE) (σ τ : QS) (x1 : Int32) (x2 : Int32) (q : Int32) (hf : fX1_kindAt_2 x1 x2 σ = some q) : KQ l yX1_kindAt cX1_kindAt 5 (some .int) rm_X1_kindAt_2 E [.ref (qAd E 2), .int x1, .int x2] σ τ (PI E q σ τ) := by
  unfold fX1_kindAt_2 at hf
  refine y_met rfl (Nat.le_of_ble_eq_true rfl) rfl (fun p e s m below meth c C => ?_)
  refine y_aload_n C dX1_kindAt_0 rfl 0 rfl ?_
  refine y_iload_n C dX1_kindAt_1 rfl 1 rfl ?_
  refine y_iload_n C dX1_kindAt_2 rfl 2 rfl ?_
  obtain ⟨q1, h_q1, hf⟩ := bd_e hf
  refine y_cVi C (kX3_get_2 l E σ τ x1 x2 _ h_q1) vi_X3_get ml_X1_44 ⟨3, _, o2, rfl, rfl⟩ rfl ⟨rfl, rfl, Nat.le_of_ble_eq_true rfl, Nat.le_of_ble_eq_true rfl⟩ dX1_kindAt_3 rfl (Nat.le_of_ble_eq_true rfl) ?_
  refine y_istore_n C dX1_kindAt_6 rfl (Nat.le_of_ble_eq_true rfl) rfl (lv' := [(3, .int q1), (0, .ref (qAd E 2)), (1, .int x1), (2, .int x2)]) rfl ?_
  refine y_iconst C (v := 0) dX1_kindAt_7 (by decide) ?_
  refine y_istore C dX1_kindAt_8 (Nat.le_of_ble_eq_true rfl) rfl (lv' := [(4, .int (0 : Int32)), (3, .int q1), (0, .ref (qAd E 2)), (1, .int x1), (2, .int x2)]) rfl ?_
  refine y_sub [0, 1] rfl ?_
  refine lp_ind (P := fun a2 : Int32 => Y E p l e rm_X1_kindAt_2 s m ([.ref (qAd E 2), .int x1, .int x2] : List Value).toArray below meth c 5 (MQ below (PI E q σ τ) ([.ref (qAd E 2), .int x1, .int x2] : List Value).toArray s 0 0 (qA E)) σ τ 10 [(4, .int a2), (3, .int q1)] []) (fun r3 a2 ih_r3 hf => ?_) _ _ hf
  refine y_iload C dX1_kindAt_10 0 rfl ?_
  refine y_ltrs C fl_X1_73 dX1_kindAt_12 ?_
  refine y_calen C dX1_kindAt_15 ?_
  refine y_icmp_ge C 38 dX1_kindAt_16 (by decide) hf (fun hf => ?_) (fun hf => ?_)
  · refine y_bipush C (v := -9) dX1_kindAt_38 (by decide) ?_
    exact y_iret C (Option.some.inj hf) rfl rfl dX1_kindAt_40
  · refine y_ltrs C fl_X1_73 dX1_kindAt_19 ?_
    refine y_iload C dX1_kindAt_22 0 rfl ?_
    obtain ⟨hi4, hf⟩ := ck_e hf
    refine y_cald C hi4 dX1_kindAt_24 ?_
    refine y_iload_n C dX1_kindAt_25 rfl 1 rfl ?_
    refine y_icmp_ne C 32 dX1_kindAt_26 (by decide) hf (fun hf => ?_) (fun hf => ?_)
    · refine y_iinc C dX1_kindAt_32 0 rfl (Nat.le_of_ble_eq_true rfl) (k2 := 1) (by decide) rfl (lv' := [(4, .int (a2 + (1 : Int32))), (3, .int q1)]) rfl ?_
      refine y_goto C 10 dX1_kindAt_35 (by decide) ?_
      refine y_sub [0, 1] rfl ?_
      exact ih_r3 (a2 + (1 : Int32)) hf
    · refine y_iload C dX1_kindAt_29 0 rfl ?_
      exact y_iret C (Option.some.inj hf) rfl rfl dX1_kindAt_31
noncomputable def fX4_isIn (x0 : Int32) (x1 : Int32) : Int32 :=
    (if x1 < 0 then (0 : Int32) else (if (32 : Int32) ≤ x1 then (0 : Int32) else (if ((x0 >>> (x1 &&& 31)) &&& (1 : Int32)) = 0 then (0 : Int32) else (1 : Int32))))
def rm_X4_isIn : Room := { frames := 0, cells := 0, slots := 0, locals := 0 }
set_option maxRecDepth 100000 in
set_option maxHeartbeats 4000000 in
theorem kX4_isIn (l : Launch) (E : QE) (σ τ : QS) (x0 : Int32) (x1 : Int32) (q : Int32) (hf : fX4_isIn x0 x1 = q) : KQ l yX4_isIn cX4_isIn 2 (some .boolean) rm_X4_isIn E [.int x0, .int x1] σ τ (PI E q σ τ) := by
  unfold fX4_isIn at hf
  refine y_met rfl (Nat.le_of_ble_eq_true rfl) rfl (fun p e s m below meth c C => ?_)
  refine y_iload_n C dX4_isIn_0 rfl 1 rfl ?_
  refine y_if_lt C 22 dX4_isIn_1 (by decide) hf (fun hf => ?_) (fun hf => ?_)
  · refine y_iconst C (v := 0) dX4_isIn_22 (by decide) ?_
    exact y_zret C zOk0 hf rfl rfl dX4_isIn_23
  · refine y_iload_n C dX4_isIn_4 rfl 1 rfl ?_
    refine y_bipush C (v := 32) dX4_isIn_5 (by decide) ?_
    refine y_icmp_ge C 22 dX4_isIn_7 (by decide) hf (fun hf => ?_) (fun hf => ?_)
    · refine y_iconst C (v := 0) dX4_isIn_22 (by decide) ?_
      exact y_zret C zOk0 hf rfl rfl dX4_isIn_23
    · refine y_iload_n C dX4_isIn_10 rfl 0 rfl ?_
      refine y_iload_n C dX4_isIn_11 rfl 1 rfl ?_
      refine y_ishr C dX4_isIn_12 ?_
      refine y_iconst C (v := 1) dX4_isIn_13 (by decide) ?_
      refine y_iand C dX4_isIn_14 ?_
      refine y_if_eq C 22 dX4_isIn_15 (by decide) hf (fun hf => ?_) (fun hf => ?_)
      · refine y_iconst C (v := 0) dX4_isIn_22 (by decide) ?_
        exact y_zret C zOk0 hf rfl rfl dX4_isIn_23
      · refine y_iconst C (v := 1) dX4_isIn_18 (by decide) ?_
        refine y_goto C 23 dX4_isIn_19 (by decide) ?_
        exact y_zret C zOk1 hf rfl rfl dX4_isIn_23
theorem zX4_isIn (x0 : Int32) (x1 : Int32) : zOk (fX4_isIn x0 x1) := by
  unfold fX4_isIn
  try simp only [lt_]
  (repeat' split) <;> first | exact zOk0 | exact zOk1
noncomputable def fX1_readSitter_4_2 (x2 : Int32) (x3 : Int32) (σ : QS) : Option (Int32 × QS) :=
    lt_ (gI σ 4) (fun (v1 : Int32) => Option.bind (fX1_kindAt_2 x2 x3 σ) (fun (q2 : Int32) => (if (6 : Int32) ≤ v1 then some ((0 : Int32), σ) else (if q2 = (-9 : Int32) then some ((0 : Int32), σ) else Option.bind (fX1_figureAt_2 x2 (x3 + (1 : Int32)) σ) (fun (q3 : Int32) => (if q3 < 0 then some ((1 : Int32), σ) else (if (fX4_isIn (gI σ 5) q3) = 0 then ck_ (inb v1 6) (lt_ (pM σ 16 (upd (gM σ 16) v1.toNatClampNeg q2)) (fun (S5 : QS) => ck_ (inb v1 6) (lt_ (pM S5 17 (upd (gM S5 17) v1.toNatClampNeg q3)) (fun (S7 : QS) => Option.bind (fX1_figureAt_2 x2 (x3 + (2 : Int32)) S7) (fun (q8 : Int32) => ck_ (inb v1 6) (lt_ (pM S7 18 (upd (gM S7 18) v1.toNatClampNeg q8)) (fun (S10 : QS) => Option.bind (fX1_figureAt_2 x2 (x3 + (3 : Int32)) S10) (fun (q11 : Int32) => ck_ (inb v1 6) (lt_ (pM S10 19 (upd (gM S10 19) v1.toNatClampNeg q11)) (fun (S13 : QS) => ck_ (inb v1 6) ((if 0 ≤ (gM S13 18 v1.toNatClampNeg) then ck_ (inb v1 6) ((if 0 ≤ (gM S13 19 v1.toNatClampNeg) then lt_ (pI S13 5 ((gI S13 5) ||| ((1 : Int32) <<< (q3 &&& 31)))) (fun (S16 : QS) => lt_ (fun (v18 : Int32) => lt_ (pI S16 6 ((gI S16 6) ||| v18)) (fun (S19 : QS) => lt_ (pI S19 4 (v1 + (1 : Int32))) (fun (S20 : QS) => some ((4 : Int32), S20)))) (fun (j17 : Int32 → Option (Int32 × QS)) => (if q2 = (5 : Int32) then j17 ((1 : Int32) <<< (v1 &&& 31)) else j17 (0 : Int32)))) else some ((3 : Int32), S13))) else some ((2 : Int32), S13))))))))))))) else some ((1 : Int32), σ))))))))
def rm_X1_readSitter_4_2 : Room := { frames := 4, cells := 0, slots := 0, locals := 89 }
set_option maxRecDepth 100000 in
set_option maxHeartbeats 4000000 in
theorem kX1_readSitter_4_2 (l : Launch) (E : QE) (σ τ : QS) (x2 : Int32) (x3 : Int32) (q : Int32 × QS) (hf : fX1_readSitter_4_2 x2 x3 σ = some q) : KQ l yX1_readSitter cX1_readSitter 7 (some .int) rm_X1_readSitter_4_2 E [.ref (qAd E 4), .ref (qAd E 2), .int x2, .int x3] σ τ (PI E q.1 q.2 τ) := by
  unfold fX1_readSitter_4_2 at hf
  refine y_met rfl (Nat.le_of_ble_eq_true rfl) rfl (fun p e s m below meth c C => ?_)
  refine y_aload_n C dX1_readSitter_0 rfl 0 rfl ?_
  refine g4_sitterCount C fl_X1_31 dX1_readSitter_1 ?_
  obtain ⟨v1, e_v1, hf⟩ := lt_e hf
  refine y_istore C dX1_readSitter_4 (Nat.le_of_ble_eq_true rfl) e_v1 (lv' := [(4, .int v1), (0, .ref (qAd E 4)), (1, .ref (qAd E 2)), (2, .int x2), (3, .int x3)]) rfl ?_
  refine y_aload_n C dX1_readSitter_6 rfl 2 rfl ?_
  refine y_iload_n C dX1_readSitter_7 rfl 3 rfl ?_
  refine y_iload_n C dX1_readSitter_8 rfl 4 rfl ?_
  obtain ⟨q2, h_q2, hf⟩ := bd_e hf
  refine y_cSi C (kX1_kindAt_2 l E σ τ x2 x3 _ h_q2) si_X1_kindAt ml_X1_66 rfl ⟨rfl, rfl, Nat.le_of_ble_eq_true rfl, Nat.le_of_ble_eq_true rfl⟩ dX1_readSitter_9 rfl (Nat.le_of_ble_eq_true rfl) ?_
  refine y_istore C dX1_readSitter_12 (Nat.le_of_ble_eq_true rfl) rfl (lv' := [(5, .int q2), (4, .int v1), (0, .ref (qAd E 4)), (1, .ref (qAd E 2)), (2, .int x2), (3, .int x3)]) rfl ?_
  refine y_iload C dX1_readSitter_14 1 rfl ?_
  refine y_bipush C (v := 6) dX1_readSitter_16 (by decide) ?_
  refine y_icmp_ge C 28 dX1_readSitter_18 (by decide) hf (fun hf => ?_) (fun hf => ?_)
  · refine y_iconst C (v := 0) dX1_readSitter_28 (by decide) ?_
    exact y_iret C (rs1 hf) (rs2 hf) rfl dX1_readSitter_29
  · refine y_iload C dX1_readSitter_21 0 rfl ?_
    refine y_bipush C (v := -9) dX1_readSitter_23 (by decide) ?_
    refine y_icmp_ne C 30 dX1_readSitter_25 (by decide) hf (fun hf => ?_) (fun hf => ?_)
    · refine y_aload_n C dX1_readSitter_30 rfl 3 rfl ?_
      refine y_iload_n C dX1_readSitter_31 rfl 4 rfl ?_
      refine y_iload_n C dX1_readSitter_32 rfl 5 rfl ?_
      refine y_iconst C (v := 1) dX1_readSitter_33 (by decide) ?_
      refine y_iadd C dX1_readSitter_34 ?_
      obtain ⟨q3, h_q3, hf⟩ := bd_e hf
      refine y_cSi C (kX1_figureAt_2 l E σ τ x2 (x3 + (1 : Int32)) _ h_q3) si_X1_figureAt ml_X1_50 rfl ⟨rfl, rfl, Nat.le_of_ble_eq_true rfl, Nat.le_of_ble_eq_true rfl⟩ dX1_readSitter_35 rfl (Nat.le_of_ble_eq_true rfl) ?_
      refine y_istore C dX1_readSitter_38 (Nat.le_of_ble_eq_true rfl) rfl (lv' := [(6, .int q3), (5, .int q2), (4, .int v1), (0, .ref (qAd E 4)), (1, .ref (qAd E 2)), (2, .int x2), (3, .int x3)]) rfl ?_
      refine y_iload C dX1_readSitter_40 0 rfl ?_
      refine y_if_lt C 57 dX1_readSitter_42 (by decide) hf (fun hf => ?_) (fun hf => ?_)
      · refine y_iconst C (v := 1) dX1_readSitter_57 (by decide) ?_
        exact y_iret C (rs1 hf) (rs2 hf) rfl dX1_readSitter_58
      · refine y_aload_n C dX1_readSitter_45 rfl 3 rfl ?_
        refine g4_takenSeats C fl_X1_34 dX1_readSitter_46 ?_
        refine y_iload C dX1_readSitter_49 0 rfl ?_
        refine y_cNi C (kX4_isIn l E σ τ (gI σ 5) q3 _ rfl) si_X4_isIn mn_X1_69 rfl ⟨rfl, rfl, Nat.le_of_ble_eq_true rfl, Nat.le_of_ble_eq_true rfl⟩ dX1_readSitter_51 rfl (Nat.le_of_ble_eq_true rfl) ?_
        refine y_if_eq C 59 dX1_readSitter_54 (by decide) hf (fun hf => ?_) (fun hf => ?_)
        · refine y_aload_n C dX1_readSitter_59 rfl 3 rfl ?_
          refine g4_kind C fl_X1_15 dX1_readSitter_60 ?_
          refine y_iload C dX1_readSitter_63 2 rfl ?_
          refine y_iload C dX1_readSitter_65 1 rfl ?_
          obtain ⟨hi4, hf⟩ := ck_e hf
          obtain ⟨S5, e_S5, hf⟩ := lt_e hf
          refine y_iastC C a16 (j := v1.toNatClampNeg) rfl hi4 e_S5 dX1_readSitter_67 ?_
          refine y_aload_n C dX1_readSitter_68 rfl 3 rfl ?_
          refine g4_seat C fl_X1_18 dX1_readSitter_69 ?_
          refine y_iload C dX1_readSitter_72 2 rfl ?_
          refine y_iload C dX1_readSitter_74 0 rfl ?_
          obtain ⟨hi6, hf⟩ := ck_e hf
          obtain ⟨S7, e_S7, hf⟩ := lt_e hf
          refine y_iastC C a17 (j := v1.toNatClampNeg) rfl hi6 e_S7 dX1_readSitter_76 ?_
          refine y_aload_n C dX1_readSitter_77 rfl 3 rfl ?_
          refine g4_memory C fl_X1_21 dX1_readSitter_78 ?_
          refine y_iload C dX1_readSitter_81 2 rfl ?_
          refine y_aload_n C dX1_readSitter_83 rfl 4 rfl ?_
          refine y_iload_n C dX1_readSitter_84 rfl 5 rfl ?_
          refine y_iload_n C dX1_readSitter_85 rfl 6 rfl ?_
          refine y_iconst C (v := 2) dX1_readSitter_86 (by decide) ?_
          refine y_iadd C dX1_readSitter_87 ?_
          obtain ⟨q8, h_q8, hf⟩ := bd_e hf
          refine y_cSi C (kX1_figureAt_2 l E S7 τ x2 (x3 + (2 : Int32)) _ h_q8) si_X1_figureAt ml_X1_50 rfl ⟨rfl, rfl, Nat.le_of_ble_eq_true rfl, Nat.le_of_ble_eq_true rfl⟩ dX1_readSitter_88 rfl (Nat.le_of_ble_eq_true rfl) ?_
          obtain ⟨hi9, hf⟩ := ck_e hf
          obtain ⟨S10, e_S10, hf⟩ := lt_e hf
          refine y_iastC C a18 (j := v1.toNatClampNeg) rfl hi9 e_S10 dX1_readSitter_91 ?_
          refine y_aload_n C dX1_readSitter_92 rfl 3 rfl ?_
          refine g4_fright C fl_X1_24 dX1_readSitter_93 ?_
          refine y_iload C dX1_readSitter_96 2 rfl ?_
          refine y_aload_n C dX1_readSitter_98 rfl 4 rfl ?_
          refine y_iload_n C dX1_readSitter_99 rfl 5 rfl ?_
          refine y_iload_n C dX1_readSitter_100 rfl 6 rfl ?_
          refine y_iconst C (v := 3) dX1_readSitter_101 (by decide) ?_
          refine y_iadd C dX1_readSitter_102 ?_
          obtain ⟨q11, h_q11, hf⟩ := bd_e hf
          refine y_cSi C (kX1_figureAt_2 l E S10 τ x2 (x3 + (3 : Int32)) _ h_q11) si_X1_figureAt ml_X1_50 rfl ⟨rfl, rfl, Nat.le_of_ble_eq_true rfl, Nat.le_of_ble_eq_true rfl⟩ dX1_readSitter_103 rfl (Nat.le_of_ble_eq_true rfl) ?_
          obtain ⟨hi12, hf⟩ := ck_e hf
          obtain ⟨S13, e_S13, hf⟩ := lt_e hf
          refine y_iastC C a19 (j := v1.toNatClampNeg) rfl hi12 e_S13 dX1_readSitter_106 ?_
          refine y_aload_n C dX1_readSitter_107 rfl 3 rfl ?_
          refine g4_memory C fl_X1_21 dX1_readSitter_108 ?_
          refine y_iload C dX1_readSitter_111 2 rfl ?_
          obtain ⟨hi14, hf⟩ := ck_e hf
          refine y_ialdC C a18 (j := v1.toNatClampNeg) rfl hi14 dX1_readSitter_113 ?_
          refine y_if_ge C 119 dX1_readSitter_114 (by decide) hf (fun hf => ?_) (fun hf => ?_)
          · refine y_aload_n C dX1_readSitter_119 rfl 3 rfl ?_
            refine g4_fright C fl_X1_24 dX1_readSitter_120 ?_
            refine y_iload C dX1_readSitter_123 2 rfl ?_
            obtain ⟨hi15, hf⟩ := ck_e hf
            refine y_ialdC C a19 (j := v1.toNatClampNeg) rfl hi15 dX1_readSitter_125 ?_
            refine y_if_ge C 131 dX1_readSitter_126 (by decide) hf (fun hf => ?_) (fun hf => ?_)
            · refine y_aload_n C dX1_readSitter_131 rfl 3 rfl ?_
              refine y_dup C dX1_readSitter_132 rfl ?_
              refine g4_takenSeats C fl_X1_34 dX1_readSitter_133 ?_
              refine y_iconst C (v := 1) dX1_readSitter_136 (by decide) ?_
              refine y_iload C dX1_readSitter_137 0 rfl ?_
              refine y_ishl C dX1_readSitter_139 ?_
              refine y_ior C dX1_readSitter_140 ?_
              obtain ⟨S16, e_S16, hf⟩ := lt_e hf
              refine p4_takenSeats C fl_X1_34 e_S16 dX1_readSitter_141 ?_
              refine y_aload_n C dX1_readSitter_144 rfl 3 rfl ?_
              refine y_dup C dX1_readSitter_145 rfl ?_
              refine g4_claqueBits C fl_X1_37 dX1_readSitter_146 ?_
              refine y_iload C dX1_readSitter_149 1 rfl ?_
              refine y_iconst C (v := 5) dX1_readSitter_151 (by decide) ?_
              obtain ⟨j17, ek_j17, hf⟩ := lt_e hf
              have h_j17 : ∀ (v18 : Int32), j17 v18 = some q → Y E p l e rm_X1_readSitter_4_2 s m ([.ref (qAd E 4), .ref (qAd E 2), .int x2, .int x3] : List Value).toArray below meth c 7 (MQ below (PI E q.1 q.2 τ) ([.ref (qAd E 4), .ref (qAd E 2), .int x2, .int x3] : List Value).toArray s 0 0 (qA E)) S16 τ 163 [(0, .ref (qAd E 4)), (4, .int v1)] [.int v18, .int (gI S16 6), .ref (qAd E 4)] := by
                intro v18 hf
                replace hf := (congrFun (ek_j17) v18).symm.trans hf
                refine y_ior C dX1_readSitter_163 ?_
                obtain ⟨S19, e_S19, hf⟩ := lt_e hf
                refine p4_claqueBits C fl_X1_37 e_S19 dX1_readSitter_164 ?_
                refine y_aload_n C dX1_readSitter_167 rfl 0 rfl ?_
                refine y_iload C dX1_readSitter_168 1 rfl ?_
                refine y_iconst C (v := 1) dX1_readSitter_170 (by decide) ?_
                refine y_iadd C dX1_readSitter_171 ?_
                obtain ⟨S20, e_S20, hf⟩ := lt_e hf
                refine p4_sitterCount C fl_X1_31 e_S20 dX1_readSitter_172 ?_
                refine y_iconst C (v := 4) dX1_readSitter_175 (by decide) ?_
                exact y_iret C (rs1 hf) (rs2 hf) rfl dX1_readSitter_176
              refine y_icmp_ne C 162 dX1_readSitter_152 (by decide) hf (fun hf => ?_) (fun hf => ?_)
              · refine y_iconst C (v := 0) dX1_readSitter_162 (by decide) ?_
                refine y_sub [3, 2] rfl ?_
                exact h_j17 (0 : Int32) hf
              · refine y_iconst C (v := 1) dX1_readSitter_155 (by decide) ?_
                refine y_iload C dX1_readSitter_156 2 rfl ?_
                refine y_ishl C dX1_readSitter_158 ?_
                refine y_goto C 163 dX1_readSitter_159 (by decide) ?_
                refine y_sub [3, 2] rfl ?_
                exact h_j17 ((1 : Int32) <<< (v1 &&& 31)) hf
            · refine y_iconst C (v := 3) dX1_readSitter_129 (by decide) ?_
              exact y_iret C (rs1 hf) (rs2 hf) rfl dX1_readSitter_130
          · refine y_iconst C (v := 2) dX1_readSitter_117 (by decide) ?_
            exact y_iret C (rs1 hf) (rs2 hf) rfl dX1_readSitter_118
        · refine y_iconst C (v := 1) dX1_readSitter_57 (by decide) ?_
          exact y_iret C (rs1 hf) (rs2 hf) rfl dX1_readSitter_58
    · refine y_iconst C (v := 0) dX1_readSitter_28 (by decide) ?_
      exact y_iret C (rs1 hf) (rs2 hf) rfl dX1_readSitter_29
