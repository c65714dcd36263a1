noncomputable def fX5_tear_50 (x1 : Int32) (τ : QS) : Option (Int32 × QS) :=
    (if (fX5_isRow x1) = 0 then some ((-1 : Int32), τ) else ck_ (inb x1 6) ((if 0 ≤ (gM τ 56 x1.toNatClampNeg) then ck_ (inb x1 6) (lt_ (pM τ 56 (upd (gM τ 56) x1.toNatClampNeg (-1 : Int32))) (fun (S3 : QS) => some ((1 : Int32), S3))) else Option.bind (fX5_find_50 (1 : Int32) τ) (fun (q4 : Int32 × QS) => some (q4.1, q4.2)))))
def rm_X5_tear_50 : Room := { frames := 2, cells := 0, slots := 0, locals := 45 }
set_option maxRecDepth 100000 in
set_option maxHeartbeats 4000000 in
theorem kX5_tear_50 (l : Launch) (E : QE) (σ τ : QS) (x1 : Int32) (q : Int32 × QS) (hf : fX5_tear_50 x1 τ = some q) : KQ l yX5_tear cX5_tear 2 (some .int) rm_X5_tear_50 E [.ref (qAd E 50), .int x1] σ τ (PI E q.1 σ q.2) := by
  unfold fX5_tear_50 at hf
  refine y_met rfl (Nat.le_of_ble_eq_true rfl) rfl (fun p e s m below meth c C => ?_)
  refine y_iload_n C dX5_tear_0 rfl 1 rfl ?_
  refine y_cSi C (kX5_isRow l E σ τ x1 _ rfl) si_X5_isRow ml_X5_83 rfl ⟨rfl, rfl, Nat.le_of_ble_eq_true rfl, Nat.le_of_ble_eq_true rfl⟩ dX5_tear_1 rfl (Nat.le_of_ble_eq_true rfl) ?_
  refine y_if_ne C 9 dX5_tear_4 (by decide) hf (fun hf => ?_) (fun hf => ?_)
  · refine y_aload_n C dX5_tear_9 rfl 0 rfl ?_
    refine g50_sizes C fl_X5_25 dX5_tear_10 ?_
    refine y_iload_n C dX5_tear_13 rfl 1 rfl ?_
    obtain ⟨hi1, hf⟩ := ck_e hf
    refine y_ialdR C a56 (j := x1.toNatClampNeg) rfl hi1 dX5_tear_14 ?_
    refine y_if_ge C 24 dX5_tear_15 (by decide) hf (fun hf => ?_) (fun hf => ?_)
    · refine y_aload_n C dX5_tear_24 rfl 0 rfl ?_
      refine g50_sizes C fl_X5_25 dX5_tear_25 ?_
      refine y_iload_n C dX5_tear_28 rfl 1 rfl ?_
      refine y_iconst C (v := -1) dX5_tear_29 (by decide) ?_
      obtain ⟨hi2, hf⟩ := ck_e hf
      obtain ⟨S3, e_S3, hf⟩ := lt_e hf
      refine y_iastR C a56 (j := x1.toNatClampNeg) rfl hi2 e_S3 dX5_tear_30 ?_
      refine y_iconst C (v := 1) dX5_tear_31 (by decide) ?_
      exact y_iret C (rs1 hf) rfl (rs2 hf) dX5_tear_32
    · refine y_aload_n C dX5_tear_18 rfl 0 rfl ?_
      refine y_iconst C (v := 1) dX5_tear_19 (by decide) ?_
      obtain ⟨q4, h_q4, hf⟩ := bd_e hf
      refine y_cVi C (kX5_find_50 l E σ τ (1 : Int32) _ h_q4) vi_X5_find ml_X5_87 ⟨5, _, o50, rfl, rfl⟩ rfl ⟨rfl, rfl, Nat.le_of_ble_eq_true rfl, Nat.le_of_ble_eq_true rfl⟩ dX5_tear_20 rfl (Nat.le_of_ble_eq_true rfl) ?_
      exact y_iret C (rs1 hf) rfl (rs2 hf) dX5_tear_23
  · refine y_iconst C (v := -1) dX5_tear_7 (by decide) ?_
    exact y_iret C (rs1 hf) rfl (rs2 hf) dX5_tear_8
noncomputable def fX3_holdsPart_1 (x1 : Int32) (x2 : Int32) (x3 : Int32) (σ : QS) : Option (Int32) :=
    (if x2 < 0 then some (0 : Int32) else (if x3 < 0 then some (0 : Int32) else Option.bind (fX3_size_1 x1 σ) (fun (q1 : Int32) => (if (q1 - x3) < x2 then some (0 : Int32) else some (1 : Int32)))))
def rm_X3_holdsPart_1 : Room := { frames := 2, cells := 0, slots := 0, locals := 42 }
set_option maxRecDepth 100000 in
set_option maxHeartbeats 4000000 in
theorem kX3_holdsPart_1 (l : Launch) (E : QE) (σ τ : QS) (x1 : Int32) (x2 : Int32) (x3 : Int32) (q : Int32) (hf : fX3_holdsPart_1 x1 x2 x3 σ = some q) : KQ l yX3_holdsPart cX3_holdsPart 4 (some .boolean) rm_X3_holdsPart_1 E [.ref (qAd E 1), .int x1, .int x2, .int x3] σ τ (PI E q σ τ) := by
  unfold fX3_holdsPart_1 at hf
  refine y_met rfl (Nat.le_of_ble_eq_true rfl) rfl (fun p e s m below meth c C => ?_)
  refine y_iload_n C dX3_holdsPart_0 rfl 2 rfl ?_
  refine y_if_lt C 23 dX3_holdsPart_1 (by decide) hf (fun hf => ?_) (fun hf => ?_)
  · refine y_iconst C (v := 0) dX3_holdsPart_23 (by decide) ?_
    exact y_zret C zOk0 (Option.some.inj hf) rfl rfl dX3_holdsPart_24
  · refine y_iload_n C dX3_holdsPart_4 rfl 3 rfl ?_
    refine y_if_lt C 23 dX3_holdsPart_5 (by decide) hf (fun hf => ?_) (fun hf => ?_)
    · refine y_iconst C (v := 0) dX3_holdsPart_23 (by decide) ?_
      exact y_zret C zOk0 (Option.some.inj hf) rfl rfl dX3_holdsPart_24
    · refine y_iload_n C dX3_holdsPart_8 rfl 2 rfl ?_
      refine y_aload_n C dX3_holdsPart_9 rfl 0 rfl ?_
      refine y_iload_n C dX3_holdsPart_10 rfl 1 rfl ?_
      obtain ⟨q1, h_q1, hf⟩ := bd_e hf
      refine y_cVi C (kX3_size_1 l E σ τ x1 _ h_q1) vi_X3_size ml_X3_24 ⟨3, _, o1, rfl, rfl⟩ rfl ⟨rfl, rfl, Nat.le_of_ble_eq_true rfl, Nat.le_of_ble_eq_true rfl⟩ dX3_holdsPart_11 rfl (Nat.le_of_ble_eq_true rfl) ?_
      refine y_iload_n C dX3_holdsPart_14 rfl 3 rfl ?_
      refine y_isub C dX3_holdsPart_15 ?_
      refine y_icmp_gt C 23 dX3_holdsPart_16 (by decide) hf (fun hf => ?_) (fun hf => ?_)
      · refine y_iconst C (v := 0) dX3_holdsPart_23 (by decide) ?_
        exact y_zret C zOk0 (Option.some.inj hf) rfl rfl dX3_holdsPart_24
      · refine y_iconst C (v := 1) dX3_holdsPart_19 (by decide) ?_
        refine y_goto C 24 dX3_holdsPart_20 (by decide) ?_
        exact y_zret C zOk1 (Option.some.inj hf) rfl rfl dX3_holdsPart_24
noncomputable def fX3_copyPart_1 (x1 : Int32) (x2 : Int32) (x3 : Int32) (x4 : Int32) (x5 : Int32) (σ : QS) : Option (QS) :=
    Option.bind (fX3_holdsPart_1 x1 x2 x5 σ) (fun (q1 : Int32) => (if q1 = 0 then some σ else Option.bind (fX3_holdsPart_1 x3 x4 x5 σ) (fun (q2 : Int32) => (if q2 = 0 then some σ else ck_ (inb x1 6) (ck_ (inb x3 6) (ck_ (cpOk x2 x4 x5 40 40) (lt_ (pM σ (30 + x3.toNatClampNeg) (va_cpy (gM σ (30 + x1.toNatClampNeg)) (gM σ (30 + x3.toNatClampNeg)) x2.toNatClampNeg x4.toNatClampNeg x5.toNatClampNeg)) (fun (S6 : QS) => some S6))))))))
def rm_X3_copyPart_1 : Room := { frames := 3, cells := 0, slots := 0, locals := 65 }
set_option maxRecDepth 100000 in
set_option maxHeartbeats 4000000 in
theorem kX3_copyPart_1 (l : Launch) (E : QE) (σ τ : QS) (x1 : Int32) (x2 : Int32) (x3 : Int32) (x4 : Int32) (x5 : Int32) (q : QS) (hf : fX3_copyPart_1 x1 x2 x3 x4 x5 σ = some q) : KQ l yX3_copyPart cX3_copyPart 6 none rm_X3_copyPart_1 E [.ref (qAd E 1), .int x1, .int x2, .int x3, .int x4, .int x5] σ τ (PV E q τ) := by
  unfold fX3_copyPart_1 at hf
  refine y_met rfl (Nat.le_of_ble_eq_true rfl) rfl (fun p e s m below meth c C => ?_)
  refine y_aload_n C dX3_copyPart_0 rfl 0 rfl ?_
  refine y_iload_n C dX3_copyPart_1 rfl 1 rfl ?_
  refine y_iload_n C dX3_copyPart_2 rfl 2 rfl ?_
  refine y_iload C dX3_copyPart_3 5 rfl ?_
  obtain ⟨q1, h_q1, hf⟩ := bd_e hf
  refine y_cVi C (kX3_holdsPart_1 l E σ τ x1 x2 x5 _ h_q1) vi_X3_holdsPart ml_X3_36 ⟨3, _, o1, rfl, rfl⟩ rfl ⟨rfl, rfl, Nat.le_of_ble_eq_true rfl, Nat.le_of_ble_eq_true rfl⟩ dX3_copyPart_5 rfl (Nat.le_of_ble_eq_true rfl) ?_
  refine y_if_eq C 43 dX3_copyPart_8 (by decide) hf (fun hf => ?_) (fun hf => ?_)
  · exact y_vret C (Option.some.inj hf) rfl dX3_copyPart_43
  · refine y_aload_n C dX3_copyPart_11 rfl 0 rfl ?_
    refine y_iload_n C dX3_copyPart_12 rfl 3 rfl ?_
    refine y_iload C dX3_copyPart_13 4 rfl ?_
    refine y_iload C dX3_copyPart_15 5 rfl ?_
    obtain ⟨q2, h_q2, hf⟩ := bd_e hf
    refine y_cVi C (kX3_holdsPart_1 l E σ τ x3 x4 x5 _ h_q2) vi_X3_holdsPart ml_X3_36 ⟨3, _, o1, rfl, rfl⟩ rfl ⟨rfl, rfl, Nat.le_of_ble_eq_true rfl, Nat.le_of_ble_eq_true rfl⟩ dX3_copyPart_17 rfl (Nat.le_of_ble_eq_true rfl) ?_
    refine y_if_eq C 43 dX3_copyPart_20 (by decide) hf (fun hf => ?_) (fun hf => ?_)
    · exact y_vret C (Option.some.inj hf) rfl dX3_copyPart_43
    · refine y_aload_n C dX3_copyPart_23 rfl 0 rfl ?_
      refine g1_items C fl_X3_9 dX3_copyPart_24 ?_
      refine y_iload_n C dX3_copyPart_27 rfl 1 rfl ?_
      obtain ⟨hi3, hf⟩ := ck_e hf
      refine y_aald C q9 hi3 dX3_copyPart_28 ?_
      refine y_iload_n C dX3_copyPart_29 rfl 2 rfl ?_
      refine y_aload_n C dX3_copyPart_30 rfl 0 rfl ?_
      refine g1_items C fl_X3_9 dX3_copyPart_31 ?_
      refine y_iload_n C dX3_copyPart_34 rfl 3 rfl ?_
      obtain ⟨hi4, hf⟩ := ck_e hf
      refine y_aald C q9 hi4 dX3_copyPart_35 ?_
      refine y_iload C dX3_copyPart_36 4 rfl ?_
      refine y_iload C dX3_copyPart_38 5 rfl ?_
      obtain ⟨ho5, hf⟩ := ck_e hf
      obtain ⟨S6, e_S6, hf⟩ := lt_e hf
      refine y_copy C (in9 (inb_e hi3)) (in9 (inb_e hi4)) ho5 mc_X3_40 ac_nat ac_stat ac_ini (Nat.le_of_ble_eq_true rfl) (by decide) e_S6 dX3_copyPart_40 ?_
      exact y_vret C (Option.some.inj hf) rfl dX3_copyPart_43
noncomputable def fX4_copy_0 (x1 : Int32) (x2 : Int32) (x3 : Int32) (x4 : Int32) (x5 : Int32) (σ : QS) : Option (Int32 × QS) :=
    (if (fX3_isPlace_1 x1 σ) = 0 then some ((-1 : Int32), σ) else (if (fX3_isPlace_1 x3 σ) = 0 then some ((-1 : Int32), σ) else (if 0 ≤ x5 then Option.bind (fX3_has_1 x1 σ) (fun (q1 : Int32) => lt_ (fun (_ : Unit) => Option.bind (fX4_refuse_0 (1 : Int32) σ) (fun (q3 : Int32 × QS) => some (q3.1, q3.2))) (fun (j2 : Unit → Option (Int32 × QS)) => (if q1 = 0 then j2 () else Option.bind (fX3_has_1 x3 σ) (fun (q4 : Int32) => (if q4 = 0 then j2 () else Option.bind (fX3_holdsPart_1 x1 x2 x5 σ) (fun (q5 : Int32) => lt_ (fun (_ : Unit) => Option.bind (fX4_refuse_0 (2 : Int32) σ) (fun (q7 : Int32 × QS) => some (q7.1, q7.2))) (fun (j6 : Unit → Option (Int32 × QS)) => (if q5 = 0 then j6 () else Option.bind (fX3_holdsPart_1 x3 x4 x5 σ) (fun (q8 : Int32) => (if q8 = 0 then j6 () else Option.bind (fX3_copyPart_1 x1 x2 x3 x4 x5 σ) (fun (q9 : QS) => some ((1 : Int32), q9)))))))))))) else Option.bind (fX4_refuse_0 (5 : Int32) σ) (fun (q10 : Int32 × QS) => some (q10.1, q10.2)))))
def rm_X4_copy_0 : Room := { frames := 4, cells := 0, slots := 0, locals := 90 }
set_option maxRecDepth 100000 in
set_option maxHeartbeats 4000000 in
theorem kX4_copy_0 (l : Launch) (E : QE) (σ τ : QS) (x1 : Int32) (x2 : Int32) (x3 : Int32) (x4 : Int32) (x5 : Int32) (q : Int32 × QS) (hf : fX4_copy_0 x1 x2 x3 x4 x5 σ = some q) : KQ l yX4_copy cX4_copy 6 (some .int) rm_X4_copy_0 E [.ref (qAd E 0), .int x1, .int x2, .int x3, .int x4, .int x5] σ τ (PI E q.1 q.2 τ) := by
  unfold fX4_copy_0 at hf
  refine y_met rfl (Nat.le_of_ble_eq_true rfl) rfl (fun p e s m below meth c C => ?_)
  refine y_aload_n C dX4_copy_0 rfl 0 rfl ?_
  refine g0_rowShelf C fl_X4_14 dX4_copy_1 ?_
  refine y_iload_n C dX4_copy_4 rfl 1 rfl ?_
  refine y_cVi C (kX3_isPlace_1 l E σ τ x1 _ rfl) vi_X3_isPlace ml_X4_60 ⟨3, _, o1, rfl, rfl⟩ rfl ⟨rfl, rfl, Nat.le_of_ble_eq_true rfl, Nat.le_of_ble_eq_true rfl⟩ dX4_copy_5 rfl (Nat.le_of_ble_eq_true rfl) ?_
  refine y_if_eq C 22 dX4_copy_8 (by decide) hf (fun hf => ?_) (fun hf => ?_)
  · refine y_iconst C (v := -1) dX4_copy_22 (by decide) ?_
    exact y_iret C (rs1 hf) (rs2 hf) rfl dX4_copy_23
  · refine y_aload_n C dX4_copy_11 rfl 0 rfl ?_
    refine g0_rowShelf C fl_X4_14 dX4_copy_12 ?_
    refine y_iload_n C dX4_copy_15 rfl 3 rfl ?_
    refine y_cVi C (kX3_isPlace_1 l E σ τ x3 _ rfl) vi_X3_isPlace ml_X4_60 ⟨3, _, o1, rfl, rfl⟩ rfl ⟨rfl, rfl, Nat.le_of_ble_eq_true rfl, Nat.le_of_ble_eq_true rfl⟩ dX4_copy_16 rfl (Nat.le_of_ble_eq_true rfl) ?_
    refine y_if_ne C 24 dX4_copy_19 (by decide) hf (fun hf => ?_) (fun hf => ?_)
    · refine y_iload C dX4_copy_24 5 rfl ?_
      refine y_if_ge C 35 dX4_copy_26 (by decide) hf (fun hf => ?_) (fun hf => ?_)
      · refine y_aload_n C dX4_copy_35 rfl 0 rfl ?_
        refine g0_rowShelf C fl_X4_14 dX4_copy_36 ?_
        refine y_iload_n C dX4_copy_39 rfl 1 rfl ?_
        obtain ⟨q1, h_q1, hf⟩ := bd_e hf
        refine y_cVi C (kX3_has_1 l E σ τ x1 _ h_q1) vi_X3_has ml_X4_94 ⟨3, _, o1, rfl, rfl⟩ rfl ⟨rfl, rfl, Nat.le_of_ble_eq_true rfl, Nat.le_of_ble_eq_true rfl⟩ dX4_copy_40 rfl (Nat.le_of_ble_eq_true rfl) ?_
        obtain ⟨j2, ek_j2, hf⟩ := lt_e hf
        have h_j2 : ∀ (_ : Unit), j2 () = some q → Y E p l e rm_X4_copy_0 s m ([.ref (qAd E 0), .int x1, .int x2, .int x3, .int x4, .int x5] : List Value).toArray below meth c 6 (MQ below (PI E q.1 q.2 τ) ([.ref (qAd E 0), .int x1, .int x2, .int x3, .int x4, .int x5] : List Value).toArray s 0 0 (qA E)) σ τ 57 [(0, .ref (qAd E 0))] [] := by
          intro _ hf
          replace hf := (congrFun (ek_j2) ()).symm.trans hf
          refine y_aload_n C dX4_copy_57 rfl 0 rfl ?_
          refine y_iconst C (v := 1) dX4_copy_58 (by decide) ?_
          obtain ⟨q3, h_q3, hf⟩ := bd_e hf
          refine y_cVi C (kX4_refuse_0 l E σ τ (1 : Int32) _ h_q3) vi_X4_refuse ml_X4_64 ⟨4, _, o0, rfl, rfl⟩ rfl ⟨rfl, rfl, Nat.le_of_ble_eq_true rfl, Nat.le_of_ble_eq_true rfl⟩ dX4_copy_59 rfl (Nat.le_of_ble_eq_true rfl) ?_
          exact y_iret C (rs1 hf) (rs2 hf) rfl dX4_copy_62
        refine y_if_eq C 57 dX4_copy_43 (by decide) hf (fun hf => ?_) (fun hf => ?_)
        · refine y_sub [0] rfl ?_
          exact h_j2 () hf
        · refine y_aload_n C dX4_copy_46 rfl 0 rfl ?_
          refine g0_rowShelf C fl_X4_14 dX4_copy_47 ?_
          refine y_iload_n C dX4_copy_50 rfl 3 rfl ?_
          obtain ⟨q4, h_q4, hf⟩ := bd_e hf
          refine y_cVi C (kX3_has_1 l E σ τ x3 _ h_q4) vi_X3_has ml_X4_94 ⟨3, _, o1, rfl, rfl⟩ rfl ⟨rfl, rfl, Nat.le_of_ble_eq_true rfl, Nat.le_of_ble_eq_true rfl⟩ dX4_copy_51 rfl (Nat.le_of_ble_eq_true rfl) ?_
          refine y_if_ne C 63 dX4_copy_54 (by decide) hf (fun hf => ?_) (fun hf => ?_)
          · refine y_aload_n C dX4_copy_63 rfl 0 rfl ?_
            refine g0_rowShelf C fl_X4_14 dX4_copy_64 ?_
            refine y_iload_n C dX4_copy_67 rfl 1 rfl ?_
            refine y_iload_n C dX4_copy_68 rfl 2 rfl ?_
            refine y_iload C dX4_copy_69 5 rfl ?_
            obtain ⟨q5, h_q5, hf⟩ := bd_e hf
            refine y_cVi C (kX3_holdsPart_1 l E σ τ x1 x2 x5 _ h_q5) vi_X3_holdsPart ml_X4_97 ⟨3, _, o1, rfl, rfl⟩ rfl ⟨rfl, rfl, Nat.le_of_ble_eq_true rfl, Nat.le_of_ble_eq_true rfl⟩ dX4_copy_71 rfl (Nat.le_of_ble_eq_true rfl) ?_
            obtain ⟨j6, ek_j6, hf⟩ := lt_e hf
            have h_j6 : ∀ (_ : Unit), j6 () = some q → Y E p l e rm_X4_copy_0 s m ([.ref (qAd E 0), .int x1, .int x2, .int x3, .int x4, .int x5] : List Value).toArray below meth c 6 (MQ below (PI E q.1 q.2 τ) ([.ref (qAd E 0), .int x1, .int x2, .int x3, .int x4, .int x5] : List Value).toArray s 0 0 (qA E)) σ τ 92 [(0, .ref (qAd E 0))] [] := by
              intro _ hf
              replace hf := (congrFun (ek_j6) ()).symm.trans hf
              refine y_aload_n C dX4_copy_92 rfl 0 rfl ?_
              refine y_iconst C (v := 2) dX4_copy_93 (by decide) ?_
              obtain ⟨q7, h_q7, hf⟩ := bd_e hf
              refine y_cVi C (kX4_refuse_0 l E σ τ (2 : Int32) _ h_q7) vi_X4_refuse ml_X4_64 ⟨4, _, o0, rfl, rfl⟩ rfl ⟨rfl, rfl, Nat.le_of_ble_eq_true rfl, Nat.le_of_ble_eq_true rfl⟩ dX4_copy_94 rfl (Nat.le_of_ble_eq_true rfl) ?_
              exact y_iret C (rs1 hf) (rs2 hf) rfl dX4_copy_97
            refine y_if_eq C 92 dX4_copy_74 (by decide) hf (fun hf => ?_) (fun hf => ?_)
            · refine y_sub [0] rfl ?_
              exact h_j6 () hf
            · refine y_aload_n C dX4_copy_77 rfl 0 rfl ?_
              refine g0_rowShelf C fl_X4_14 dX4_copy_78 ?_
              refine y_iload_n C dX4_copy_81 rfl 3 rfl ?_
              refine y_iload C dX4_copy_82 4 rfl ?_
              refine y_iload C dX4_copy_84 5 rfl ?_
              obtain ⟨q8, h_q8, hf⟩ := bd_e hf
              refine y_cVi C (kX3_holdsPart_1 l E σ τ x3 x4 x5 _ h_q8) vi_X3_holdsPart ml_X4_97 ⟨3, _, o1, rfl, rfl⟩ rfl ⟨rfl, rfl, Nat.le_of_ble_eq_true rfl, Nat.le_of_ble_eq_true rfl⟩ dX4_copy_86 rfl (Nat.le_of_ble_eq_true rfl) ?_
              refine y_if_ne C 98 dX4_copy_89 (by decide) hf (fun hf => ?_) (fun hf => ?_)
              · refine y_aload_n C dX4_copy_98 rfl 0 rfl ?_
                refine g0_rowShelf C fl_X4_14 dX4_copy_99 ?_
                refine y_iload_n C dX4_copy_102 rfl 1 rfl ?_
                refine y_iload_n C dX4_copy_103 rfl 2 rfl ?_
                refine y_iload_n C dX4_copy_104 rfl 3 rfl ?_
                refine y_iload C dX4_copy_105 4 rfl ?_
                refine y_iload C dX4_copy_107 5 rfl ?_
                obtain ⟨q9, h_q9, hf⟩ := bd_e hf
                refine y_cVv C (kX3_copyPart_1 l E σ τ x1 x2 x3 x4 x5 _ h_q9) vi_X3_copyPart ml_X4_101 ⟨3, _, o1, rfl, rfl⟩ rfl ⟨rfl, rfl, Nat.le_of_ble_eq_true rfl, Nat.le_of_ble_eq_true rfl⟩ dX4_copy_109 rfl (Nat.le_of_ble_eq_true rfl) ?_
                refine y_iconst C (v := 1) dX4_copy_112 (by decide) ?_
                exact y_iret C (rs1 hf) (rs2 hf) rfl dX4_copy_113
              · refine y_sub [0] rfl ?_
                exact h_j6 () hf
          · refine y_sub [0] rfl ?_
            exact h_j2 () hf
      · refine y_aload_n C dX4_copy_29 rfl 0 rfl ?_
        refine y_iconst C (v := 5) dX4_copy_30 (by decide) ?_
        obtain ⟨q10, h_q10, hf⟩ := bd_e hf
        refine y_cVi C (kX4_refuse_0 l E σ τ (5 : Int32) _ h_q10) vi_X4_refuse ml_X4_64 ⟨4, _, o0, rfl, rfl⟩ rfl ⟨rfl, rfl, Nat.le_of_ble_eq_true rfl, Nat.le_of_ble_eq_true rfl⟩ dX4_copy_31 rfl (Nat.le_of_ble_eq_true rfl) ?_
        exact y_iret C (rs1 hf) (rs2 hf) rfl dX4_copy_34
    · refine y_iconst C (v := -1) dX4_copy_22 (by decide) ?_
      exact y_iret C (rs1 hf) (rs2 hf) rfl dX4_copy_23
noncomputable def fX5_isSpan_50 (x1 : Int32) (x2 : Int32) (x3 : Int32) (τ : QS) : Option (Int32) :=
    (if x2 < 0 then some (0 : Int32) else ck_ (inb x1 6) ((if 0 < (lg_cmp (x2.toInt64 + x3.toInt64) ((gM τ 56 x1.toNatClampNeg).toInt64)) then some (0 : Int32) else some (1 : Int32))))
def rm_X5_isSpan_50 : Room := { frames := 0, cells := 0, slots := 0, locals := 0 }
set_option maxRecDepth 100000 in
set_option maxHeartbeats 4000000 in
theorem kX5_isSpan_50 (l : Launch) (E : QE) (σ τ : QS) (x1 : Int32) (x2 : Int32) (x3 : Int32) (q : Int32) (hf : fX5_isSpan_50 x1 x2 x3 τ = some q) : KQ l yX5_isSpan cX5_isSpan 4 (some .boolean) rm_X5_isSpan_50 E [.ref (qAd E 50), .int x1, .int x2, .int x3] σ τ (PI E q σ τ) := by
  unfold fX5_isSpan_50 at hf
  refine y_met rfl (Nat.le_of_ble_eq_true rfl) rfl (fun p e s m below meth c C => ?_)
  refine y_iload_n C dX5_isSpan_0 rfl 2 rfl ?_
  refine y_if_lt C 24 dX5_isSpan_1 (by decide) hf (fun hf => ?_) (fun hf => ?_)
  · refine y_iconst C (v := 0) dX5_isSpan_24 (by decide) ?_
    exact y_zret C zOk0 (Option.some.inj hf) rfl rfl dX5_isSpan_25
  · refine y_iload_n C dX5_isSpan_4 rfl 2 rfl ?_
    refine y_i2l C dX5_isSpan_5 ?_
    refine y_iload_n C dX5_isSpan_6 rfl 3 rfl ?_
    refine y_i2l C dX5_isSpan_7 ?_
    refine y_ladd C dX5_isSpan_8 ?_
    refine y_aload_n C dX5_isSpan_9 rfl 0 rfl ?_
    refine g50_sizes C fl_X5_25 dX5_isSpan_10 ?_
    refine y_iload_n C dX5_isSpan_13 rfl 1 rfl ?_
    obtain ⟨hi1, hf⟩ := ck_e hf
    refine y_ialdR C a56 (j := x1.toNatClampNeg) rfl hi1 dX5_isSpan_14 ?_
    refine y_i2l C dX5_isSpan_15 ?_
    refine y_lcmp C dX5_isSpan_16 ?_
    refine y_if_gt C 24 dX5_isSpan_17 (by decide) hf (fun hf => ?_) (fun hf => ?_)
    · refine y_iconst C (v := 0) dX5_isSpan_24 (by decide) ?_
      exact y_zret C zOk0 (Option.some.inj hf) rfl rfl dX5_isSpan_25
    · refine y_iconst C (v := 1) dX5_isSpan_20 (by decide) ?_
      refine y_goto C 25 dX5_isSpan_21 (by decide) ?_
      exact y_zret C zOk1 (Option.some.inj hf) rfl rfl dX5_isSpan_25
noncomputable def fX5_copy_50 (x1 : Int32) (x2 : Int32) (x3 : Int32) (x4 : Int32) (x5 : Int32) (τ : QS) : Option (Int32 × QS) :=
    (if (fX5_isRow x1) = 0 then some ((-1 : Int32), τ) else (if (fX5_isRow x3) = 0 then some ((-1 : Int32), τ) else (if 0 ≤ x5 then ck_ (inb x1 6) (lt_ (fun (_ : Unit) => Option.bind (fX5_find_50 (1 : Int32) τ) (fun (q3 : Int32 × QS) => some (q3.1, q3.2))) (fun (j2 : Unit → Option (Int32 × QS)) => (if (gM τ 56 x1.toNatClampNeg) < 0 then j2 () else ck_ (inb x3 6) ((if 0 ≤ (gM τ 56 x3.toNatClampNeg) then Option.bind (fX5_isSpan_50 x1 x2 x5 τ) (fun (q5 : Int32) => lt_ (fun (_ : Unit) => Option.bind (fX5_find_50 (2 : Int32) τ) (fun (q7 : Int32 × QS) => some (q7.1, q7.2))) (fun (j6 : Unit → Option (Int32 × QS)) => (if q5 = 0 then j6 () else Option.bind (fX5_isSpan_50 x3 x4 x5 τ) (fun (q8 : Int32) => (if q8 = 0 then j6 () else (if x4 ≤ x2 then lp_ (fun (r10 : Int32 × QS → Option (Int32 × QS)) (a9 : Int32 × QS) => (if x5 ≤ a9.1 then some ((1 : Int32), a9.2) else lt_ (fun (v12 : Int32) => ck_ (inb ((((40 : Int32) * x1) + x2) + v12) 240) (ck_ (inb ((((40 : Int32) * x3) + x4) + v12) 240) (lt_ (pM a9.2 57 (upd (gM a9.2 57) (((((40 : Int32) * x3) + x4) + v12).toNatClampNeg) (gM a9.2 57 (((((40 : Int32) * x1) + x2) + v12).toNatClampNeg)))) (fun (S15 : QS) => r10 ((a9.1 + (1 : Int32)), S15))))) (fun (j11 : Int32 → Option (Int32 × QS)) => (if (0 : Int32) = 0 then j11 a9.1 else j11 ((x5 - (1 : Int32)) - a9.1))))) FV ((0 : Int32), τ) else lp_ (fun (r17 : Int32 × QS → Option (Int32 × QS)) (a16 : Int32 × QS) => (if x5 ≤ a16.1 then some ((1 : Int32), a16.2) else lt_ (fun (v19 : Int32) => ck_ (inb ((((40 : Int32) * x1) + x2) + v19) 240) (ck_ (inb ((((40 : Int32) * x3) + x4) + v19) 240) (lt_ (pM a16.2 57 (upd (gM a16.2 57) (((((40 : Int32) * x3) + x4) + v19).toNatClampNeg) (gM a16.2 57 (((((40 : Int32) * x1) + x2) + v19).toNatClampNeg)))) (fun (S22 : QS) => r17 ((a16.1 + (1 : Int32)), S22))))) (fun (j18 : Int32 → Option (Int32 × QS)) => (if (1 : Int32) = 0 then j18 a16.1 else j18 ((x5 - (1 : Int32)) - a16.1))))) FV ((0 : Int32), τ))))))) else j2 ()))))) else Option.bind (fX5_find_50 (5 : Int32) τ) (fun (q23 : Int32 × QS) => some (q23.1, q23.2)))))
def rm_X5_copy_50 : Room := { frames := 2, cells := 0, slots := 0, locals := 45 }
set_option maxRecDepth 100000 in
set_option maxHeartbeats 4000000 in
theorem kX5_copy_50 (l : Launch) (E : QE) (σ τ : QS) (x1 : Int32) (x2 : Int32) (x3 : Int32) (x4 : Int32) (x5 : Int32) (q : Int32 × QS) (hf : fX5_copy_50 x1 x2 x3 x4 x5 τ = some q) : KQ l yX5_copy cX5_copy 9 (some .int) rm_X5_copy_50 E [.ref (qAd E 50), .int x1, .int x2, .int x3, .int x4, .int x5] σ τ (PI E q.1 σ q.2) := by
  unfold fX5_copy_50 at hf
  refine y_met rfl (Nat.le_of_ble_eq_true rfl) rfl (fun p e s m below meth c C => ?_)
  refine y_iload_n C dX5_copy_0 rfl 1 rfl ?_
  refine y_cSi C (kX5_isRow l E σ τ x1 _ rfl) si_X5_isRow ml_X5_83 rfl ⟨rfl, rfl, Nat.le_of_ble_eq_true rfl, Nat.le_of_ble_eq_true rfl⟩ dX5_copy_1 rfl (Nat.le_of_ble_eq_true rfl) ?_
  refine y_if_eq C 14 dX5_copy_4 (by decide) hf (fun hf => ?_) (fun hf => ?_)
  · refine y_iconst C (v := -1) dX5_copy_14 (by decide) ?_
    exact y_iret C (rs1 hf) rfl (rs2 hf) dX5_copy_15
  · refine y_iload_n C dX5_copy_7 rfl 3 rfl ?_
    refine y_cSi C (kX5_isRow l E σ τ x3 _ rfl) si_X5_isRow ml_X5_83 rfl ⟨rfl, rfl, Nat.le_of_ble_eq_true rfl, Nat.le_of_ble_eq_true rfl⟩ dX5_copy_8 rfl (Nat.le_of_ble_eq_true rfl) ?_
    refine y_if_ne C 16 dX5_copy_11 (by decide) hf (fun hf => ?_) (fun hf => ?_)
    · refine y_iload C dX5_copy_16 5 rfl ?_
      refine y_if_ge C 27 dX5_copy_18 (by decide) hf (fun hf => ?_) (fun hf => ?_)
      · refine y_aload_n C dX5_copy_27 rfl 0 rfl ?_
        refine g50_sizes C fl_X5_25 dX5_copy_28 ?_
        refine y_iload_n C dX5_copy_31 rfl 1 rfl ?_
        obtain ⟨hi1, hf⟩ := ck_e hf
        refine y_ialdR C a56 (j := x1.toNatClampNeg) rfl hi1 dX5_copy_32 ?_
        obtain ⟨j2, ek_j2, hf⟩ := lt_e hf
        have h_j2 : ∀ (_ : Unit), j2 () = some q → Y E p l e rm_X5_copy_50 s m ([.ref (qAd E 50), .int x1, .int x2, .int x3, .int x4, .int x5] : List Value).toArray below meth c 9 (MQ below (PI E q.1 σ q.2) ([.ref (qAd E 50), .int x1, .int x2, .int x3, .int x4, .int x5] : List Value).toArray s 0 0 (qA E)) σ τ 45 [(0, .ref (qAd E 50))] [] := by
          intro _ hf
          replace hf := (congrFun (ek_j2) ()).symm.trans hf
          refine y_aload_n C dX5_copy_45 rfl 0 rfl ?_
          refine y_iconst C (v := 1) dX5_copy_46 (by decide) ?_
          obtain ⟨q3, h_q3, hf⟩ := bd_e hf
          refine y_cVi C (kX5_find_50 l E σ τ (1 : Int32) _ h_q3) vi_X5_find ml_X5_87 ⟨5, _, o50, rfl, rfl⟩ rfl ⟨rfl, rfl, Nat.le_of_ble_eq_true rfl, Nat.le_of_ble_eq_true rfl⟩ dX5_copy_47 rfl (Nat.le_of_ble_eq_true rfl) ?_
          exact y_iret C (rs1 hf) rfl (rs2 hf) dX5_copy_50
        refine y_if_lt C 45 dX5_copy_33 (by decide) hf (fun hf => ?_) (fun hf => ?_)
        · refine y_sub [0] rfl ?_
          exact h_j2 () hf
        · refine y_aload_n C dX5_copy_36 rfl 0 rfl ?_
          refine g50_sizes C fl_X5_25 dX5_copy_37 ?_
          refine y_iload_n C dX5_copy_40 rfl 3 rfl ?_
          obtain ⟨hi4, hf⟩ := ck_e hf
          refine y_ialdR C a56 (j := x3.toNatClampNeg) rfl hi4 dX5_copy_41 ?_
          refine y_if_ge C 51 dX5_copy_42 (by decide) hf (fun hf => ?_) (fun hf => ?_)
          · refine y_aload_n C dX5_copy_51 rfl 0 rfl ?_
            refine y_iload_n C dX5_copy_52 rfl 1 rfl ?_
            refine y_iload_n C dX5_copy_53 rfl 2 rfl ?_
            refine y_iload C dX5_copy_54 5 rfl ?_
            obtain ⟨q5, h_q5, hf⟩ := bd_e hf
            refine y_cVi C (kX5_isSpan_50 l E σ τ x1 x2 x5 _ h_q5) vi_X5_isSpan ml_X5_102 ⟨5, _, o50, rfl, rfl⟩ rfl ⟨rfl, rfl, Nat.le_of_ble_eq_true rfl, Nat.le_of_ble_eq_true rfl⟩ dX5_copy_56 rfl (Nat.le_of_ble_eq_true rfl) ?_
            obtain ⟨j6, ek_j6, hf⟩ := lt_e hf
            have h_j6 : ∀ (_ : Unit), j6 () = some q → Y E p l e rm_X5_copy_50 s m ([.ref (qAd E 50), .int x1, .int x2, .int x3, .int x4, .int x5] : List Value).toArray below meth c 9 (MQ below (PI E q.1 σ q.2) ([.ref (qAd E 50), .int x1, .int x2, .int x3, .int x4, .int x5] : List Value).toArray s 0 0 (qA E)) σ τ 74 [(0, .ref (qAd E 50))] [] := by
              intro _ hf
              replace hf := (congrFun (ek_j6) ()).symm.trans hf
              refine y_aload_n C dX5_copy_74 rfl 0 rfl ?_
              refine y_iconst C (v := 2) dX5_copy_75 (by decide) ?_
              obtain ⟨q7, h_q7, hf⟩ := bd_e hf
              refine y_cVi C (kX5_find_50 l E σ τ (2 : Int32) _ h_q7) vi_X5_find ml_X5_87 ⟨5, _, o50, rfl, rfl⟩ rfl ⟨rfl, rfl, Nat.le_of_ble_eq_true rfl, Nat.le_of_ble_eq_true rfl⟩ dX5_copy_76 rfl (Nat.le_of_ble_eq_true rfl) ?_
              exact y_iret C (rs1 hf) rfl (rs2 hf) dX5_copy_79
            refine y_if_eq C 74 dX5_copy_59 (by decide) hf (fun hf => ?_) (fun hf => ?_)
            · refine y_sub [0] rfl ?_
              exact h_j6 () hf
            · refine y_aload_n C dX5_copy_62 rfl 0 rfl ?_
              refine y_iload_n C dX5_copy_63 rfl 3 rfl ?_
              refine y_iload C dX5_copy_64 4 rfl ?_
              refine y_iload C dX5_copy_66 5 rfl ?_
              obtain ⟨q8, h_q8, hf⟩ := bd_e hf
              refine y_cVi C (kX5_isSpan_50 l E σ τ x3 x4 x5 _ h_q8) vi_X5_isSpan ml_X5_102 ⟨5, _, o50, rfl, rfl⟩ rfl ⟨rfl, rfl, Nat.le_of_ble_eq_true rfl, Nat.le_of_ble_eq_true rfl⟩ dX5_copy_68 rfl (Nat.le_of_ble_eq_true rfl) ?_
              refine y_if_ne C 80 dX5_copy_71 (by decide) hf (fun hf => ?_) (fun hf => ?_)
              · refine y_iload_n C dX5_copy_80 rfl 2 rfl ?_
                refine y_iload C dX5_copy_81 4 rfl ?_
                refine y_icmp_ge C 90 dX5_copy_83 (by decide) hf (fun hf => ?_) (fun hf => ?_)
                · refine y_iconst C (v := 0) dX5_copy_90 (by decide) ?_
                  refine y_istore C dX5_copy_91 (Nat.le_of_ble_eq_true rfl) rfl (lv' := [(6, .int (0 : Int32)), (0, .ref (qAd E 50)), (1, .int x1), (2, .int x2), (3, .int x3), (4, .int x4), (5, .int x5)]) rfl ?_
                  refine y_iconst C (v := 0) dX5_copy_93 (by decide) ?_
                  refine y_istore C dX5_copy_94 (Nat.le_of_ble_eq_true rfl) rfl (lv' := [(7, .int (0 : Int32)), (6, .int (0 : Int32)), (0, .ref (qAd E 50)), (1, .int x1), (2, .int x2), (3, .int x3), (4, .int x4), (5, .int x5)]) rfl ?_
                  refine y_sub [0, 1, 2, 3, 4, 5, 6, 7] rfl ?_
                  refine lp_ind (P := fun a9 : Int32 × QS => Y E p l e rm_X5_copy_50 s m ([.ref (qAd E 50), .int x1, .int x2, .int x3, .int x4, .int x5] : List Value).toArray below meth c 9 (MQ below (PI E q.1 σ q.2) ([.ref (qAd E 50), .int x1, .int x2, .int x3, .int x4, .int x5] : List Value).toArray s 0 0 (qA E)) σ a9.2 96 [(7, .int a9.1), (6, .int (0 : Int32)), (0, .ref (qAd E 50)), (1, .int x1), (2, .int x2), (3, .int x3), (4, .int x4), (5, .int x5)] []) (fun r10 a9 ih_r10 hf => ?_) _ _ hf
                  refine y_iload C dX5_copy_96 0 rfl ?_
                  refine y_iload C dX5_copy_98 7 rfl ?_
                  refine y_icmp_ge C 157 dX5_copy_100 (by decide) hf (fun hf => ?_) (fun hf => ?_)
                  · refine y_iconst C (v := 1) dX5_copy_157 (by decide) ?_
                    exact y_iret C (rs1 hf) rfl (rs2 hf) dX5_copy_158
                  · refine y_iload C dX5_copy_103 1 rfl ?_
                    obtain ⟨j11, ek_j11, hf⟩ := lt_e hf
                    have h_j11 : ∀ (v12 : Int32), j11 v12 = some q → Y E p l e rm_X5_copy_50 s m ([.ref (qAd E 50), .int x1, .int x2, .int x3, .int x4, .int x5] : List Value).toArray below meth c 9 (MQ below (PI E q.1 σ q.2) ([.ref (qAd E 50), .int x1, .int x2, .int x3, .int x4, .int x5] : List Value).toArray s 0 0 (qA E)) σ a9.2 120 [(0, .ref (qAd E 50)), (1, .int x1), (2, .int x2), (3, .int x3), (4, .int x4), (5, .int x5), (6, .int (0 : Int32)), (7, .int a9.1)] [.int v12] := by
                      intro v12 hf
                      replace hf := (congrFun (ek_j11) v12).symm.trans hf
                      refine y_istore C dX5_copy_120 (Nat.le_of_ble_eq_true rfl) rfl (lv' := [(8, .int v12), (0, .ref (qAd E 50)), (1, .int x1), (2, .int x2), (3, .int x3), (4, .int x4), (5, .int x5), (6, .int (0 : Int32)), (7, .int a9.1)]) rfl ?_
                      refine y_aload_n C dX5_copy_122 rfl 1 rfl ?_
                      refine g50_items C fl_X5_28 dX5_copy_123 ?_
                      refine y_bipush C (v := 40) dX5_copy_126 (by decide) ?_
                      refine y_iload_n C dX5_copy_128 rfl 4 rfl ?_
                      refine y_imul C dX5_copy_129 ?_
                      refine y_iload C dX5_copy_130 5 rfl ?_
                      refine y_iadd C dX5_copy_132 ?_
                      refine y_iload C dX5_copy_133 0 rfl ?_
                      refine y_iadd C dX5_copy_135 ?_
                      refine y_aload_n C dX5_copy_136 rfl 1 rfl ?_
                      refine g50_items C fl_X5_28 dX5_copy_137 ?_
                      refine y_bipush C (v := 40) dX5_copy_140 (by decide) ?_
                      refine y_iload_n C dX5_copy_142 rfl 2 rfl ?_
                      refine y_imul C dX5_copy_143 ?_
                      refine y_iload_n C dX5_copy_144 rfl 3 rfl ?_
                      refine y_iadd C dX5_copy_145 ?_
                      refine y_iload C dX5_copy_146 0 rfl ?_
                      refine y_iadd C dX5_copy_148 ?_
                      obtain ⟨hi13, hf⟩ := ck_e hf
                      refine y_ialdR C a57 (j := ((((40 : Int32) * x1) + x2) + v12).toNatClampNeg) rfl hi13 dX5_copy_149 ?_
                      obtain ⟨hi14, hf⟩ := ck_e hf
                      obtain ⟨S15, e_S15, hf⟩ := lt_e hf
                      refine y_iastR C a57 (j := ((((40 : Int32) * x3) + x4) + v12).toNatClampNeg) rfl hi14 e_S15 dX5_copy_150 ?_
                      refine y_iinc C dX5_copy_151 8 rfl (Nat.le_of_ble_eq_true rfl) (k2 := 1) (by decide) rfl (lv' := [(7, .int (a9.1 + (1 : Int32))), (8, .int v12), (0, .ref (qAd E 50)), (1, .int x1), (2, .int x2), (3, .int x3), (4, .int x4), (5, .int x5), (6, .int (0 : Int32))]) rfl ?_
                      refine y_goto C 96 dX5_copy_154 (by decide) ?_
                      refine y_sub [0, 8, 2, 3, 4, 5, 6, 7] rfl ?_
                      exact ih_r10 ((a9.1 + (1 : Int32)), S15) hf
                    refine y_if_eq C 118 dX5_copy_105 (by decide) hf (fun hf => ?_) (fun hf => ?_)
                    · refine y_iload C dX5_copy_118 0 rfl ?_
                      refine y_sub [2, 3, 4, 5, 6, 7, 1, 0] rfl ?_
                      exact h_j11 a9.1 hf
                    · refine y_iload C dX5_copy_108 7 rfl ?_
                      refine y_iconst C (v := 1) dX5_copy_110 (by decide) ?_
                      refine y_isub C dX5_copy_111 ?_
                      refine y_iload C dX5_copy_112 0 rfl ?_
                      refine y_isub C dX5_copy_114 ?_
                      refine y_goto C 120 dX5_copy_115 (by decide) ?_
                      refine y_sub [2, 3, 4, 5, 6, 7, 1, 0] rfl ?_
                      exact h_j11 ((x5 - (1 : Int32)) - a9.1) hf
                · refine y_iconst C (v := 1) dX5_copy_86 (by decide) ?_
                  refine y_goto C 91 dX5_copy_87 (by decide) ?_
                  refine y_istore C dX5_copy_91 (Nat.le_of_ble_eq_true rfl) rfl (lv' := [(6, .int (1 : Int32)), (0, .ref (qAd E 50)), (1, .int x1), (2, .int x2), (3, .int x3), (4, .int x4), (5, .int x5)]) rfl ?_
                  refine y_iconst C (v := 0) dX5_copy_93 (by decide) ?_
                  refine y_istore C dX5_copy_94 (Nat.le_of_ble_eq_true rfl) rfl (lv' := [(7, .int (0 : Int32)), (6, .int (1 : Int32)), (0, .ref (qAd E 50)), (1, .int x1), (2, .int x2), (3, .int x3), (4, .int x4), (5, .int x5)]) rfl ?_
                  refine y_sub [0, 1, 2, 3, 4, 5, 6, 7] rfl ?_
                  refine lp_ind (P := fun a16 : Int32 × QS => Y E p l e rm_X5_copy_50 s m ([.ref (qAd E 50), .int x1, .int x2, .int x3, .int x4, .int x5] : List Value).toArray below meth c 9 (MQ below (PI E q.1 σ q.2) ([.ref (qAd E 50), .int x1, .int x2, .int x3, .int x4, .int x5] : List Value).toArray s 0 0 (qA E)) σ a16.2 96 [(7, .int a16.1), (6, .int (1 : Int32)), (0, .ref (qAd E 50)), (1, .int x1), (2, .int x2), (3, .int x3), (4, .int x4), (5, .int x5)] []) (fun r17 a16 ih_r17 hf => ?_) _ _ hf
                  refine y_iload C dX5_copy_96 0 rfl ?_
                  refine y_iload C dX5_copy_98 7 rfl ?_
                  refine y_icmp_ge C 157 dX5_copy_100 (by decide) hf (fun hf => ?_) (fun hf => ?_)
                  · refine y_iconst C (v := 1) dX5_copy_157 (by decide) ?_
                    exact y_iret C (rs1 hf) rfl (rs2 hf) dX5_copy_158
                  · refine y_iload C dX5_copy_103 1 rfl ?_
                    obtain ⟨j18, ek_j18, hf⟩ := lt_e hf
                    have h_j18 : ∀ (v19 : Int32), j18 v19 = some q → Y E p l e rm_X5_copy_50 s m ([.ref (qAd E 50), .int x1, .int x2, .int x3, .int x4, .int x5] : List Value).toArray below meth c 9 (MQ below (PI E q.1 σ q.2) ([.ref (qAd E 50), .int x1, .int x2, .int x3, .int x4, .int x5] : List Value).toArray s 0 0 (qA E)) σ a16.2 120 [(0, .ref (qAd E 50)), (1, .int x1), (2, .int x2), (3, .int x3), (4, .int x4), (5, .int x5), (6, .int (1 : Int32)), (7, .int a16.1)] [.int v19] := by
                      intro v19 hf
                      replace hf := (congrFun (ek_j18) v19).symm.trans hf
                      refine y_istore C dX5_copy_120 (Nat.le_of_ble_eq_true rfl) rfl (lv' := [(8, .int v19), (0, .ref (qAd E 50)), (1, .int x1), (2, .int x2), (3, .int x3), (4, .int x4), (5, .int x5), (6, .int (1 : Int32)), (7, .int a16.1)]) rfl ?_
                      refine y_aload_n C dX5_copy_122 rfl 1 rfl ?_
                      refine g50_items C fl_X5_28 dX5_copy_123 ?_
                      refine y_bipush C (v := 40) dX5_copy_126 (by decide) ?_
                      refine y_iload_n C dX5_copy_128 rfl 4 rfl ?_
                      refine y_imul C dX5_copy_129 ?_
                      refine y_iload C dX5_copy_130 5 rfl ?_
                      refine y_iadd C dX5_copy_132 ?_
                      refine y_iload C dX5_copy_133 0 rfl ?_
                      refine y_iadd C dX5_copy_135 ?_
                      refine y_aload_n C dX5_copy_136 rfl 1 rfl ?_
                      refine g50_items C fl_X5_28 dX5_copy_137 ?_
                      refine y_bipush C (v := 40) dX5_copy_140 (by decide) ?_
                      refine y_iload_n C dX5_copy_142 rfl 2 rfl ?_
                      refine y_imul C dX5_copy_143 ?_
                      refine y_iload_n C dX5_copy_144 rfl 3 rfl ?_
                      refine y_iadd C dX5_copy_145 ?_
                      refine y_iload C dX5_copy_146 0 rfl ?_
                      refine y_iadd C dX5_copy_148 ?_
                      obtain ⟨hi20, hf⟩ := ck_e hf
                      refine y_ialdR C a57 (j := ((((40 : Int32) * x1) + x2) + v19).toNatClampNeg) rfl hi20 dX5_copy_149 ?_
                      obtain ⟨hi21, hf⟩ := ck_e hf
                      obtain ⟨S22, e_S22, hf⟩ := lt_e hf
                      refine y_iastR C a57 (j := ((((40 : Int32) * x3) + x4) + v19).toNatClampNeg) rfl hi21 e_S22 dX5_copy_150 ?_
                      refine y_iinc C dX5_copy_151 8 rfl (Nat.le_of_ble_eq_true rfl) (k2 := 1) (by decide) rfl (lv' := [(7, .int (a16.1 + (1 : Int32))), (8, .int v19), (0, .ref (qAd E 50)), (1, .int x1), (2, .int x2), (3, .int x3), (4, .int x4), (5, .int x5), (6, .int (1 : Int32))]) rfl ?_
                      refine y_goto C 96 dX5_copy_154 (by decide) ?_
                      refine y_sub [0, 8, 2, 3, 4, 5, 6, 7] rfl ?_
                      exact ih_r17 ((a16.1 + (1 : Int32)), S22) hf
                    refine y_if_eq C 118 dX5_copy_105 (by decide) hf (fun hf => ?_) (fun hf => ?_)
                    · refine y_iload C dX5_copy_118 0 rfl ?_
                      refine y_sub [2, 3, 4, 5, 6, 7, 1, 0] rfl ?_
                      exact h_j18 a16.1 hf
                    · refine y_iload C dX5_copy_108 7 rfl ?_
                      refine y_iconst C (v := 1) dX5_copy_110 (by decide) ?_
                      refine y_isub C dX5_copy_111 ?_
                      refine y_iload C dX5_copy_112 0 rfl ?_
                      refine y_isub C dX5_copy_114 ?_
                      refine y_goto C 120 dX5_copy_115 (by decide) ?_
                      refine y_sub [2, 3, 4, 5, 6, 7, 1, 0] rfl ?_
                      exact h_j18 ((x5 - (1 : Int32)) - a16.1) hf
              · refine y_sub [0] rfl ?_
                exact h_j6 () hf
          · refine y_sub [0] rfl ?_
            exact h_j2 () hf
      · refine y_aload_n C dX5_copy_21 rfl 0 rfl ?_
        refine y_iconst C (v := 5) dX5_copy_22 (by decide) ?_
        obtain ⟨q23, h_q23, hf⟩ := bd_e hf
        refine y_cVi C (kX5_find_50 l E σ τ (5 : Int32) _ h_q23) vi_X5_find ml_X5_87 ⟨5, _, o50, rfl, rfl⟩ rfl ⟨rfl, rfl, Nat.le_of_ble_eq_true rfl, Nat.le_of_ble_eq_true rfl⟩ dX5_copy_23 rfl (Nat.le_of_ble_eq_true rfl) ?_
        exact y_iret C (rs1 hf) rfl (rs2 hf) dX5_copy_26
    · refine y_iconst C (v := -1) dX5_copy_14 (by decide) ?_
      exact y_iret C (rs1 hf) rfl (rs2 hf) dX5_copy_15
noncomputable def fX4_mean_0 (x1 : Int32) (σ : QS) : Option (Int32 × QS) :=
    Option.bind (fX4_refusalOfPlace_0_1 x1 σ) (fun (q1 : Int32 × QS) => (if q1.1 = 0 then Option.bind (fX3_size_1 x1 q1.2) (fun (q2 : Int32) => (if 0 < q2 then lp_ (fun (r4 : Int64 × Int32 → Option (Int32 × QS)) (a3 : Int64 × Int32) => (if q2 ≤ a3.2 then ck_ (ne0L q2.toInt64) (lt_ (fX4_tell_0 ((a3.1 / q2.toInt64).toInt32) q1.2) (fun (q6 : Int32 × QS) => some (q6.1, q6.2))) else Option.bind (fX3_get_1 x1 a3.2 q1.2) (fun (q7 : Int32) => lt_ (a3.1 + q7.toInt64) (fun (v8 : Int64) => r4 (v8, (a3.2 + (1 : Int32))))))) FV ((0 : Int64), (0 : Int32)) else Option.bind (fX4_refuse_0 (4 : Int32) q1.2) (fun (q9 : Int32 × QS) => some (q9.1, q9.2)))) else some (q1.1, q1.2)))
def rm_X4_mean_0 : Room := { frames := 4, cells := 0, slots := 0, locals := 85 }
set_option maxRecDepth 100000 in
set_option maxHeartbeats 4000000 in
theorem kX4_mean_0 (l : Launch) (E : QE) (σ τ : QS) (x1 : Int32) (q : Int32 × QS) (hf : fX4_mean_0 x1 σ = some q) : KQ l yX4_mean cX4_mean 7 (some .int) rm_X4_mean_0 E [.ref (qAd E 0), .int x1] σ τ (PI E q.1 q.2 τ) := by
  unfold fX4_mean_0 at hf
  refine y_met rfl (Nat.le_of_ble_eq_true rfl) rfl (fun p e s m below meth c C => ?_)
  refine y_aload_n C dX4_mean_0 rfl 0 rfl ?_
  refine y_aload_n C dX4_mean_1 rfl 0 rfl ?_
  refine g0_rowShelf C fl_X4_14 dX4_mean_2 ?_
  refine y_iload_n C dX4_mean_5 rfl 1 rfl ?_
  obtain ⟨q1, h_q1, hf⟩ := bd_e hf
  refine y_cVi C (kX4_refusalOfPlace_0_1 l E σ τ x1 _ h_q1) vi_X4_refusalOfPlace ml_X4_86 ⟨4, _, o0, rfl, rfl⟩ rfl ⟨rfl, rfl, Nat.le_of_ble_eq_true rfl, Nat.le_of_ble_eq_true rfl⟩ dX4_mean_6 rfl (Nat.le_of_ble_eq_true rfl) ?_
  refine y_istore_n C dX4_mean_9 rfl (Nat.le_of_ble_eq_true rfl) rfl (lv' := [(2, .int q1.1), (0, .ref (qAd E 0)), (1, .int x1)]) rfl ?_
  refine y_iload_n C dX4_mean_10 rfl 0 rfl ?_
  refine y_if_eq C 16 dX4_mean_11 (by decide) hf (fun hf => ?_) (fun hf => ?_)
  · refine y_aload_n C dX4_mean_16 rfl 1 rfl ?_
    refine g0_rowShelf C fl_X4_14 dX4_mean_17 ?_
    refine y_iload_n C dX4_mean_20 rfl 2 rfl ?_
    obtain ⟨q2, h_q2, hf⟩ := bd_e hf
    refine y_cVi C (kX3_size_1 l E q1.2 τ x1 _ h_q2) vi_X3_size ml_X4_105 ⟨3, _, o1, rfl, rfl⟩ rfl ⟨rfl, rfl, Nat.le_of_ble_eq_true rfl, Nat.le_of_ble_eq_true rfl⟩ dX4_mean_21 rfl (Nat.le_of_ble_eq_true rfl) ?_
    refine y_istore_n C dX4_mean_24 rfl (Nat.le_of_ble_eq_true rfl) rfl (lv' := [(3, .int q2), (2, .int q1.1), (0, .ref (qAd E 0)), (1, .int x1)]) rfl ?_
    refine y_iload_n C dX4_mean_25 rfl 0 rfl ?_
    refine y_if_gt C 35 dX4_mean_26 (by decide) hf (fun hf => ?_) (fun hf => ?_)
    · refine y_lconst C (v := 0) dX4_mean_35 (by decide) ?_
      refine y_lstore C dX4_mean_36 (Nat.le_of_ble_eq_true rfl) rfl (lv' := [(4, .long (0 : Int64)), (3, .int q2), (2, .int q1.1), (0, .ref (qAd E 0)), (1, .int x1)]) rfl ?_
      refine y_iconst C (v := 0) dX4_mean_38 (by decide) ?_
      refine y_istore C dX4_mean_39 (Nat.le_of_ble_eq_true rfl) rfl (lv' := [(6, .int (0 : Int32)), (4, .long (0 : Int64)), (3, .int q2), (2, .int q1.1), (0, .ref (qAd E 0)), (1, .int x1)]) rfl ?_
      refine y_sub [0, 1, 2, 4, 5] rfl ?_
      refine lp_ind (P := fun a3 : Int64 × Int32 => Y E p l e rm_X4_mean_0 s m ([.ref (qAd E 0), .int x1] : List Value).toArray below meth c 7 (MQ below (PI E q.1 q.2 τ) ([.ref (qAd E 0), .int x1] : List Value).toArray s 0 0 (qA E)) q1.2 τ 41 [(6, .int a3.2), (4, .long a3.1), (3, .int q2), (0, .ref (qAd E 0)), (1, .int x1)] []) (fun r4 a3 ih_r4 hf => ?_) _ _ hf
      refine y_iload C dX4_mean_41 0 rfl ?_
      refine y_iload_n C dX4_mean_43 rfl 2 rfl ?_
      refine y_icmp_ge C 69 dX4_mean_44 (by decide) hf (fun hf => ?_) (fun hf => ?_)
      · refine y_aload_n C dX4_mean_69 rfl 3 rfl ?_
        refine y_lload C dX4_mean_70 1 rfl ?_
        refine y_iload_n C dX4_mean_72 rfl 2 rfl ?_
        refine y_i2l C dX4_mean_73 ?_
        obtain ⟨hz5, hf⟩ := ck_e hf
        refine y_ldiv C hz5 dX4_mean_74 ?_
        refine y_l2i C dX4_mean_75 ?_
        obtain ⟨q6, e_q6, hf⟩ := lt_e hf
        refine y_cVi C (kX4_tell_0 l E q1.2 τ ((a3.1 / q2.toInt64).toInt32) _ e_q6.symm) vi_X4_tell ml_X4_83 ⟨4, _, o0, rfl, rfl⟩ rfl ⟨rfl, rfl, Nat.le_of_ble_eq_true rfl, Nat.le_of_ble_eq_true rfl⟩ dX4_mean_76 rfl (Nat.le_of_ble_eq_true rfl) ?_
        exact y_iret C (rs1 hf) (rs2 hf) rfl dX4_mean_79
      · refine y_lload C dX4_mean_47 1 rfl ?_
        refine y_aload_n C dX4_mean_49 rfl 3 rfl ?_
        refine g0_rowShelf C fl_X4_14 dX4_mean_50 ?_
        refine y_iload_n C dX4_mean_53 rfl 4 rfl ?_
        refine y_iload C dX4_mean_54 0 rfl ?_
        obtain ⟨q7, h_q7, hf⟩ := bd_e hf
        refine y_cVi C (kX3_get_1 l E q1.2 τ x1 a3.2 _ h_q7) vi_X3_get ml_X4_76 ⟨3, _, o1, rfl, rfl⟩ rfl ⟨rfl, rfl, Nat.le_of_ble_eq_true rfl, Nat.le_of_ble_eq_true rfl⟩ dX4_mean_56 rfl (Nat.le_of_ble_eq_true rfl) ?_
        refine y_i2l C dX4_mean_59 ?_
        refine y_ladd C dX4_mean_60 ?_
        obtain ⟨v8, e_v8, hf⟩ := lt_e hf
        refine y_lstore C dX4_mean_61 (Nat.le_of_ble_eq_true rfl) e_v8 (lv' := [(4, .long v8), (6, .int a3.2), (3, .int q2), (0, .ref (qAd E 0)), (1, .int x1)]) rfl ?_
        refine y_iinc C dX4_mean_63 1 rfl (Nat.le_of_ble_eq_true rfl) (k2 := 1) (by decide) rfl (lv' := [(6, .int (a3.2 + (1 : Int32))), (4, .long v8), (3, .int q2), (0, .ref (qAd E 0)), (1, .int x1)]) rfl ?_
        refine y_goto C 41 dX4_mean_66 (by decide) ?_
        refine y_sub [0, 1, 2, 3, 4] rfl ?_
        exact ih_r4 (v8, (a3.2 + (1 : Int32))) hf
    · refine y_aload_n C dX4_mean_29 rfl 2 rfl ?_
      refine y_iconst C (v := 4) dX4_mean_30 (by decide) ?_
      obtain ⟨q9, h_q9, hf⟩ := bd_e hf
      refine y_cVi C (kX4_refuse_0 l E q1.2 τ (4 : Int32) _ h_q9) vi_X4_refuse ml_X4_64 ⟨4, _, o0, rfl, rfl⟩ rfl ⟨rfl, rfl, Nat.le_of_ble_eq_true rfl, Nat.le_of_ble_eq_true rfl⟩ dX4_mean_31 rfl (Nat.le_of_ble_eq_true rfl) ?_
      exact y_iret C (rs1 hf) (rs2 hf) rfl dX4_mean_34
  · refine y_iload_n C dX4_mean_14 rfl 0 rfl ?_
    exact y_iret C (rs1 hf) (rs2 hf) rfl dX4_mean_15
noncomputable def fX5_mean_50 (x1 : Int32) (τ : QS) : Option (Int32 × QS) :=
    (if (fX5_isRow x1) = 0 then some ((-1 : Int32), τ) else ck_ (inb x1 6) ((if 0 ≤ (gM τ 56 x1.toNatClampNeg) then ck_ (inb x1 6) ((if (gM τ 56 x1.toNatClampNeg) = 0 then Option.bind (fX5_find_50 (4 : Int32) τ) (fun (q11 : Int32 × QS) => some (q11.1, q11.2)) else lp_ (fun (r4 : Int64 × Int32 → Option (Int32 × QS)) (a3 : Int64 × Int32) => ck_ (inb x1 6) ((if (gM τ 56 x1.toNatClampNeg) ≤ a3.2 then ck_ (inb x1 6) (ck_ (ne0L ((gM τ 56 x1.toNatClampNeg).toInt64)) (lt_ (fX5_tell_50 ((a3.1 / (gM τ 56 x1.toNatClampNeg).toInt64).toInt32) τ) (fun (q8 : Int32 × QS) => some (q8.1, q8.2)))) else ck_ (inb (((40 : Int32) * x1) + a3.2) 240) (lt_ (a3.1 + (gM τ 57 ((((40 : Int32) * x1) + a3.2).toNatClampNeg)).toInt64) (fun (v10 : Int64) => r4 (v10, (a3.2 + (1 : Int32)))))))) FV ((0 : Int64), (0 : Int32)))) else Option.bind (fX5_find_50 (1 : Int32) τ) (fun (q12 : Int32 × QS) => some (q12.1, q12.2)))))
def rm_X5_mean_50 : Room := { frames := 2, cells := 0, slots := 0, locals := 45 }
set_option maxRecDepth 100000 in
set_option maxHeartbeats 4000000 in
theorem kX5_mean_50 (l : Launch) (E : QE) (σ τ : QS) (x1 : Int32) (q : Int32 × QS) (hf : fX5_mean_50 x1 τ = some q) : KQ l yX5_mean cX5_mean 5 (some .int) rm_X5_mean_50 E [.ref (qAd E 50), .int x1] σ τ (PI E q.1 σ q.2) := by
  unfold fX5_mean_50 at hf
  refine y_met rfl (Nat.le_of_ble_eq_true rfl) rfl (fun p e s m below meth c C => ?_)
  refine y_iload_n C dX5_mean_0 rfl 1 rfl ?_
  refine y_cSi C (kX5_isRow l E σ τ x1 _ rfl) si_X5_isRow ml_X5_83 rfl ⟨rfl, rfl, Nat.le_of_ble_eq_true rfl, Nat.le_of_ble_eq_true rfl⟩ dX5_mean_1 rfl (Nat.le_of_ble_eq_true rfl) ?_
  refine y_if_ne C 9 dX5_mean_4 (by decide) hf (fun hf => ?_) (fun hf => ?_)
  · refine y_aload_n C dX5_mean_9 rfl 0 rfl ?_
    refine g50_sizes C fl_X5_25 dX5_mean_10 ?_
    refine y_iload_n C dX5_mean_13 rfl 1 rfl ?_
    obtain ⟨hi1, hf⟩ := ck_e hf
    refine y_ialdR C a56 (j := x1.toNatClampNeg) rfl hi1 dX5_mean_14 ?_
    refine y_if_ge C 24 dX5_mean_15 (by decide) hf (fun hf => ?_) (fun hf => ?_)
    · refine y_aload_n C dX5_mean_24 rfl 0 rfl ?_
      refine g50_sizes C fl_X5_25 dX5_mean_25 ?_
      refine y_iload_n C dX5_mean_28 rfl 1 rfl ?_
      obtain ⟨hi2, hf⟩ := ck_e hf
      refine y_ialdR C a56 (j := x1.toNatClampNeg) rfl hi2 dX5_mean_29 ?_
      refine y_if_ne C 39 dX5_mean_30 (by decide) hf (fun hf => ?_) (fun hf => ?_)
      · refine y_lconst C (v := 0) dX5_mean_39 (by decide) ?_
        refine y_lstore_n C dX5_mean_40 rfl (Nat.le_of_ble_eq_true rfl) rfl (lv' := [(2, .long (0 : Int64)), (0, .ref (qAd E 50)), (1, .int x1)]) rfl ?_
        refine y_iconst C (v := 0) dX5_mean_41 (by decide) ?_
        refine y_istore C dX5_mean_42 (Nat.le_of_ble_eq_true rfl) rfl (lv' := [(4, .int (0 : Int32)), (2, .long (0 : Int64)), (0, .ref (qAd E 50)), (1, .int x1)]) rfl ?_
        refine y_sub [0, 1, 2, 3] rfl ?_
        refine lp_ind (P := fun a3 : Int64 × Int32 => Y E p l e rm_X5_mean_50 s m ([.ref (qAd E 50), .int x1] : List Value).toArray below meth c 5 (MQ below (PI E q.1 σ q.2) ([.ref (qAd E 50), .int x1] : List Value).toArray s 0 0 (qA E)) σ τ 44 [(4, .int a3.2), (2, .long a3.1), (0, .ref (qAd E 50)), (1, .int x1)] []) (fun r4 a3 ih_r4 hf => ?_) _ _ hf
        refine y_iload C dX5_mean_44 0 rfl ?_
        refine y_aload_n C dX5_mean_46 rfl 2 rfl ?_
        refine g50_sizes C fl_X5_25 dX5_mean_47 ?_
        refine y_iload_n C dX5_mean_50 rfl 3 rfl ?_
        obtain ⟨hi5, hf⟩ := ck_e hf
        refine y_ialdR C a56 (j := x1.toNatClampNeg) rfl hi5 dX5_mean_51 ?_
        refine y_icmp_ge C 77 dX5_mean_52 (by decide) hf (fun hf => ?_) (fun hf => ?_)
        · refine y_aload_n C dX5_mean_77 rfl 2 rfl ?_
          refine y_lload_n C dX5_mean_78 rfl 1 rfl ?_
          refine y_aload_n C dX5_mean_79 rfl 2 rfl ?_
          refine g50_sizes C fl_X5_25 dX5_mean_80 ?_
          refine y_iload_n C dX5_mean_83 rfl 3 rfl ?_
          obtain ⟨hi6, hf⟩ := ck_e hf
          refine y_ialdR C a56 (j := x1.toNatClampNeg) rfl hi6 dX5_mean_84 ?_
          refine y_i2l C dX5_mean_85 ?_
          obtain ⟨hz7, hf⟩ := ck_e hf
          refine y_ldiv C hz7 dX5_mean_86 ?_
          refine y_l2i C dX5_mean_87 ?_
          obtain ⟨q8, e_q8, hf⟩ := lt_e hf
          refine y_cVi C (kX5_tell_50 l E σ τ ((a3.1 / (gM τ 56 x1.toNatClampNeg).toInt64).toInt32) _ e_q8.symm) vi_X5_tell ml_X5_99 ⟨5, _, o50, rfl, rfl⟩ rfl ⟨rfl, rfl, Nat.le_of_ble_eq_true rfl, Nat.le_of_ble_eq_true rfl⟩ dX5_mean_88 rfl (Nat.le_of_ble_eq_true rfl) ?_
          exact y_iret C (rs1 hf) rfl (rs2 hf) dX5_mean_91
        · refine y_lload_n C dX5_mean_55 rfl 1 rfl ?_
          refine y_aload_n C dX5_mean_56 rfl 2 rfl ?_
          refine g50_items C fl_X5_28 dX5_mean_57 ?_
          refine y_bipush C (v := 40) dX5_mean_60 (by decide) ?_
          refine y_iload_n C dX5_mean_62 rfl 3 rfl ?_
          refine y_imul C dX5_mean_63 ?_
          refine y_iload C dX5_mean_64 0 rfl ?_
          refine y_iadd C dX5_mean_66 ?_
          obtain ⟨hi9, hf⟩ := ck_e hf
          refine y_ialdR C a57 (j := (((40 : Int32) * x1) + a3.2).toNatClampNeg) rfl hi9 dX5_mean_67 ?_
          refine y_i2l C dX5_mean_68 ?_
          refine y_ladd C dX5_mean_69 ?_
          obtain ⟨v10, e_v10, hf⟩ := lt_e hf
          refine y_lstore_n C dX5_mean_70 rfl (Nat.le_of_ble_eq_true rfl) e_v10 (lv' := [(2, .long v10), (4, .int a3.2), (0, .ref (qAd E 50)), (1, .int x1)]) rfl ?_
          refine y_iinc C dX5_mean_71 1 rfl (Nat.le_of_ble_eq_true rfl) (k2 := 1) (by decide) rfl (lv' := [(4, .int (a3.2 + (1 : Int32))), (2, .long v10), (0, .ref (qAd E 50)), (1, .int x1)]) rfl ?_
          refine y_goto C 44 dX5_mean_74 (by decide) ?_
          refine y_sub [0, 1, 2, 3] rfl ?_
          exact ih_r4 (v10, (a3.2 + (1 : Int32))) hf
      · refine y_aload_n C dX5_mean_33 rfl 0 rfl ?_
        refine y_iconst C (v := 4) dX5_mean_34 (by decide) ?_
        obtain ⟨q11, h_q11, hf⟩ := bd_e hf
        refine y_cVi C (kX5_find_50 l E σ τ (4 : Int32) _ h_q11) vi_X5_find ml_X5_87 ⟨5, _, o50, rfl, rfl⟩ rfl ⟨rfl, rfl, Nat.le_of_ble_eq_true rfl, Nat.le_of_ble_eq_true rfl⟩ dX5_mean_35 rfl (Nat.le_of_ble_eq_true rfl) ?_
        exact y_iret C (rs1 hf) rfl (rs2 hf) dX5_mean_38
    · refine y_aload_n C dX5_mean_18 rfl 0 rfl ?_
      refine y_iconst C (v := 1) dX5_mean_19 (by decide) ?_
      obtain ⟨q12, h_q12, hf⟩ := bd_e hf
      refine y_cVi C (kX5_find_50 l E σ τ (1 : Int32) _ h_q12) vi_X5_find ml_X5_87 ⟨5, _, o50, rfl, rfl⟩ rfl ⟨rfl, rfl, Nat.le_of_ble_eq_true rfl, Nat.le_of_ble_eq_true rfl⟩ dX5_mean_20 rfl (Nat.le_of_ble_eq_true rfl) ?_
      exact y_iret C (rs1 hf) rfl (rs2 hf) dX5_mean_23
  · refine y_iconst C (v := -1) dX5_mean_7 (by decide) ?_
    exact y_iret C (rs1 hf) rfl (rs2 hf) dX5_mean_8
noncomputable def fX3_isPlace_2 (x1 : Int32) (σ : QS) : Int32 :=
    (if x1 < 0 then (0 : Int32) else (if (4 : Int32) ≤ x1 then (0 : Int32) else (1 : Int32)))
def rm_X3_isPlace_2 : Room := { frames := 0, cells := 0, slots := 0, locals := 0 }
set_option maxRecDepth 100000 in
set_option maxHeartbeats 4000000 in
theorem kX3_isPlace_2 (l : Launch) (E : QE) (σ τ : QS) (x1 : Int32) (q : Int32) (hf : fX3_isPlace_2 x1 σ = q) : KQ l yX3_isPlace cX3_isPlace 2 (some .boolean) rm_X3_isPlace_2 E [.ref (qAd E 2), .int x1] σ τ (PI E q σ τ) := by
  unfold fX3_isPlace_2 at hf
  refine y_met rfl (Nat.le_of_ble_eq_true rfl) rfl (fun p e s m below meth c C => ?_)
  refine y_iload_n C dX3_isPlace_0 rfl 1 rfl ?_
  refine y_if_lt C 17 dX3_isPlace_1 (by decide) hf (fun hf => ?_) (fun hf => ?_)
  · refine y_iconst C (v := 0) dX3_isPlace_17 (by decide) ?_
    exact y_zret C zOk0 hf rfl rfl dX3_isPlace_18
  · refine y_iload_n C dX3_isPlace_4 rfl 1 rfl ?_
    refine y_aload_n C dX3_isPlace_5 rfl 0 rfl ?_
    refine g2_sizes C fl_X3_14 dX3_isPlace_6 ?_
    refine y_alenC C a12 (v := 4) (by decide) dX3_isPlace_9 ?_
    refine y_icmp_ge C 17 dX3_isPlace_10 (by decide) hf (fun hf => ?_) (fun hf => ?_)
    · refine y_iconst C (v := 0) dX3_isPlace_17 (by decide) ?_
      exact y_zret C zOk0 hf rfl rfl dX3_isPlace_18
    · refine y_iconst C (v := 1) dX3_isPlace_13 (by decide) ?_
      refine y_goto C 18 dX3_isPlace_14 (by decide) ?_
      exact y_zret C zOk1 hf rfl rfl dX3_isPlace_18
theorem zX3_isPlace_2 (x1 : Int32) (σ : QS) : zOk (fX3_isPlace_2 x1 σ) := by
  unfold fX3_isPlace_2
  try simp only [lt_]
  (repeat' split) <;> first | exact zOk0 | exact zOk1
noncomputable def fX3_make_2 (x1 : Int32) (x2 : Int32) (x3 : Int32) (σ : QS) : Option (QS) :=
    (if (fX3_isPlace_2 x1 σ) = 0 then some σ else (if x2 < 0 then some σ else ck_ (inb x1 4) ((if (60 : Int32) < x2 then some σ else ck_ (inb x1 4) (lt_ (pM σ 12 (upd (gM σ 12) x1.toNatClampNeg x2)) (fun (S3 : QS) => ck_ (inb x1 4) (Option.bind (fJ7_fill_53178_a (36 + x1.toNatClampNeg) 60 x3 S3) (fun (q5 : QS) => some q5))))))))
def rm_X3_make_2 : Room := { frames := 1, cells := 0, slots := 0, locals := 23 }
set_option maxRecDepth 100000 in
set_option maxHeartbeats 4000000 in
theorem kX3_make_2 (l : Launch) (E : QE) (σ τ : QS) (x1 : Int32) (x2 : Int32) (x3 : Int32) (q : QS) (hf : fX3_make_2 x1 x2 x3 σ = some q) : KQ l yX3_make cX3_make 4 none rm_X3_make_2 E [.ref (qAd E 2), .int x1, .int x2, .int x3] σ τ (PV E q τ) := by
  unfold fX3_make_2 at hf
  refine y_met rfl (Nat.le_of_ble_eq_true rfl) rfl (fun p e s m below meth c C => ?_)
  refine y_aload_n C dX3_make_0 rfl 0 rfl ?_
  refine y_iload_n C dX3_make_1 rfl 1 rfl ?_
  refine y_cVi C (kX3_isPlace_2 l E σ τ x1 _ rfl) vi_X3_isPlace ml_X3_28 ⟨3, _, o2, rfl, rfl⟩ rfl ⟨rfl, rfl, Nat.le_of_ble_eq_true rfl, Nat.le_of_ble_eq_true rfl⟩ dX3_make_2 rfl (Nat.le_of_ble_eq_true rfl) ?_
  refine y_if_eq C 40 dX3_make_5 (by decide) hf (fun hf => ?_) (fun hf => ?_)
  · exact y_vret C (Option.some.inj hf) rfl dX3_make_40
  · refine y_iload_n C dX3_make_8 rfl 2 rfl ?_
    refine y_if_lt C 40 dX3_make_9 (by decide) hf (fun hf => ?_) (fun hf => ?_)
    · exact y_vret C (Option.some.inj hf) rfl dX3_make_40
    · refine y_iload_n C dX3_make_12 rfl 2 rfl ?_
      refine y_aload_n C dX3_make_13 rfl 0 rfl ?_
      refine g2_items C fl_X3_9 dX3_make_14 ?_
      refine y_iload_n C dX3_make_17 rfl 1 rfl ?_
      obtain ⟨hi1, hf⟩ := ck_e hf
      refine y_aald C q11 hi1 dX3_make_18 ?_
      refine y_alenC C (in11 (inb_e hi1)) (v := 60) (by decide) dX3_make_19 ?_
      refine y_icmp_gt C 40 dX3_make_20 (by decide) hf (fun hf => ?_) (fun hf => ?_)
      · exact y_vret C (Option.some.inj hf) rfl dX3_make_40
      · refine y_aload_n C dX3_make_23 rfl 0 rfl ?_
        refine g2_sizes C fl_X3_14 dX3_make_24 ?_
        refine y_iload_n C dX3_make_27 rfl 1 rfl ?_
        refine y_iload_n C dX3_make_28 rfl 2 rfl ?_
        obtain ⟨hi2, hf⟩ := ck_e hf
        obtain ⟨S3, e_S3, hf⟩ := lt_e hf
        refine y_iastC C a12 (j := x1.toNatClampNeg) rfl hi2 e_S3 dX3_make_29 ?_
        refine y_aload_n C dX3_make_30 rfl 0 rfl ?_
        refine g2_items C fl_X3_9 dX3_make_31 ?_
        refine y_iload_n C dX3_make_34 rfl 1 rfl ?_
        obtain ⟨hi4, hf⟩ := ck_e hf
        refine y_aald C q11 hi4 dX3_make_35 ?_
        refine y_iload_n C dX3_make_36 rfl 3 rfl ?_
        obtain ⟨q5, h_q5, hf⟩ := bd_e hf
        refine y_cSv C (kJ7_fill_53178_a l E S3 τ (36 + x1.toNatClampNeg) 60 x3 _ (in11 (inb_e hi4)) h_q5) si_J7_fill_53178 ml_X3_18 rfl ⟨rfl, rfl, Nat.le_of_ble_eq_true rfl, Nat.le_of_ble_eq_true rfl⟩ dX3_make_37 rfl (Nat.le_of_ble_eq_true rfl) ?_
        exact y_vret C (Option.some.inj hf) rfl dX3_make_40
noncomputable def fX4_text_0 (x1 : Int32) (x2 : Int32) (σ : QS) : Option (Int32 × QS) :=
    (if (fX3_isPlace_2 x1 σ) = 0 then some ((-1 : Int32), σ) else (if x2 ≤ (60 : Int32) then (if 0 ≤ x2 then Option.bind (fX3_make_2 x1 x2 (32 : Int32) σ) (fun (q1 : QS) => some (x2, q1)) else Option.bind (fX4_refuse_0 (5 : Int32) σ) (fun (q2 : Int32 × QS) => some (q2.1, q2.2))) else some ((-1 : Int32), σ)))
def rm_X4_text_0 : Room := { frames := 2, cells := 0, slots := 0, locals := 46 }
set_option maxRecDepth 100000 in
set_option maxHeartbeats 4000000 in
theorem kX4_text_0 (l : Launch) (E : QE) (σ τ : QS) (x1 : Int32) (x2 : Int32) (q : Int32 × QS) (hf : fX4_text_0 x1 x2 σ = some q) : KQ l yX4_text cX4_text 3 (some .int) rm_X4_text_0 E [.ref (qAd E 0), .int x1, .int x2] σ τ (PI E q.1 q.2 τ) := by
  unfold fX4_text_0 at hf
  refine y_met rfl (Nat.le_of_ble_eq_true rfl) rfl (fun p e s m below meth c C => ?_)
  refine y_aload_n C dX4_text_0 rfl 0 rfl ?_
  refine g0_textShelf C fl_X4_18 dX4_text_1 ?_
  refine y_iload_n C dX4_text_4 rfl 1 rfl ?_
  refine y_cVi C (kX3_isPlace_2 l E σ τ x1 _ rfl) vi_X3_isPlace ml_X4_60 ⟨3, _, o2, rfl, rfl⟩ rfl ⟨rfl, rfl, Nat.le_of_ble_eq_true rfl, Nat.le_of_ble_eq_true rfl⟩ dX4_text_5 rfl (Nat.le_of_ble_eq_true rfl) ?_
  refine y_if_eq C 17 dX4_text_8 (by decide) hf (fun hf => ?_) (fun hf => ?_)
  · refine y_iconst C (v := -1) dX4_text_17 (by decide) ?_
    exact y_iret C (rs1 hf) (rs2 hf) rfl dX4_text_18
  · refine y_iload_n C dX4_text_11 rfl 2 rfl ?_
    refine y_bipush C (v := 60) dX4_text_12 (by decide) ?_
    refine y_icmp_le C 19 dX4_text_14 (by decide) hf (fun hf => ?_) (fun hf => ?_)
    · refine y_iload_n C dX4_text_19 rfl 2 rfl ?_
      refine y_if_ge C 29 dX4_text_20 (by decide) hf (fun hf => ?_) (fun hf => ?_)
      · refine y_aload_n C dX4_text_29 rfl 0 rfl ?_
        refine g0_textShelf C fl_X4_18 dX4_text_30 ?_
        refine y_iload_n C dX4_text_33 rfl 1 rfl ?_
        refine y_iload_n C dX4_text_34 rfl 2 rfl ?_
        refine y_bipush C (v := 32) dX4_text_35 (by decide) ?_
        obtain ⟨q1, h_q1, hf⟩ := bd_e hf
        refine y_cVv C (kX3_make_2 l E σ τ x1 x2 (32 : Int32) _ h_q1) vi_X3_make ml_X4_68 ⟨3, _, o2, rfl, rfl⟩ rfl ⟨rfl, rfl, Nat.le_of_ble_eq_true rfl, Nat.le_of_ble_eq_true rfl⟩ dX4_text_37 rfl (Nat.le_of_ble_eq_true rfl) ?_
        refine y_iload_n C dX4_text_40 rfl 2 rfl ?_
        exact y_iret C (rs1 hf) (rs2 hf) rfl dX4_text_41
      · refine y_aload_n C dX4_text_23 rfl 0 rfl ?_
        refine y_iconst C (v := 5) dX4_text_24 (by decide) ?_
        obtain ⟨q2, h_q2, hf⟩ := bd_e hf
        refine y_cVi C (kX4_refuse_0 l E σ τ (5 : Int32) _ h_q2) vi_X4_refuse ml_X4_64 ⟨4, _, o0, rfl, rfl⟩ rfl ⟨rfl, rfl, Nat.le_of_ble_eq_true rfl, Nat.le_of_ble_eq_true rfl⟩ dX4_text_25 rfl (Nat.le_of_ble_eq_true rfl) ?_
        exact y_iret C (rs1 hf) (rs2 hf) rfl dX4_text_28
    · refine y_iconst C (v := -1) dX4_text_17 (by decide) ?_
      exact y_iret C (rs1 hf) (rs2 hf) rfl dX4_text_18
noncomputable def fX5_isText (x0 : Int32) : Int32 :=
    (fX5_in x0.toInt64 (0 : Int64) (3 : Int64))
def rm_X5_isText : Room := { frames := 1, cells := 0, slots := 0, locals := 25 }
set_option maxRecDepth 100000 in
set_option maxHeartbeats 4000000 in
theorem kX5_isText (l : Launch) (E : QE) (σ τ : QS) (x0 : Int32) (q : Int32) (hf : fX5_isText x0 = q) : KQ l yX5_isText cX5_isText 1 (some .boolean) rm_X5_isText E [.int x0] σ τ (PI E q σ τ) := by
  unfold fX5_isText at hf
  refine y_met rfl (Nat.le_of_ble_eq_true rfl) rfl (fun p e s m below meth c C => ?_)
  refine y_iload_n C dX5_isText_0 rfl 0 rfl ?_
  refine y_i2l C dX5_isText_1 ?_
  refine y_lconst C (v := 0) dX5_isText_2 (by decide) ?_
  refine y_ldc2 C kl_X5_81 dX5_isText_3 ?_
  refine y_cSi C (kX5_in l E σ τ x0.toInt64 (0 : Int64) (3 : Int64) _ rfl) si_X5_in ml_X5_77 rfl ⟨rfl, rfl, Nat.le_of_ble_eq_true rfl, Nat.le_of_ble_eq_true rfl⟩ dX5_isText_6 rfl (Nat.le_of_ble_eq_true rfl) ?_
  exact y_zret C (zX5_in x0.toInt64 (0 : Int64) (3 : Int64)) hf rfl rfl dX5_isText_9
theorem zX5_isText (x0 : Int32) : zOk (fX5_isText x0) := by
  unfold fX5_isText
  try simp only [lt_]
  (repeat' split) <;> first | exact zOk0 | exact zOk1 | exact zX5_in ..
