noncomputable def fX5_apart_50  (τ : QS) : Option (Int32 × QS) :=
    (if (gI τ 1) = 0 then some ((-4 : Int32), τ) else lt_ (((1 : Int32) <<< ((gI τ 1) &&& 31)) - (1 : Int32)) (fun (v1 : Int32) => lp_ (fun (r3 : Int32 × Int32 × QS → Option (Int32 × QS)) (a2 : Int32 × Int32 × QS) => (if v1 < a2.2.1 then some (a2.1, a2.2.2) else Option.bind (fX5_seatsOf_50 (v1 &&& (a2.2.1 ^^^ (-1 : Int32))) a2.2.2) (fun (q4 : Int32) => lt_ (fun (v6 : Int32) => lt_ (fun (v8 : Int32) => lt_ (pI a2.2.2 2 v8) (fun (S9 : QS) => (if v6 = 0 then r3 (a2.1, (a2.2.1 + (1 : Int32)), S9) else Option.bind (fX5_bits a2.2.1) (fun (q10 : Int32) => r3 (q10, (a2.2.1 + (1 : Int32)), S9))))) (fun (j7 : Int32 → Option (Int32 × QS)) => (if v6 = 0 then j7 (gI a2.2.2 2) else j7 a2.2.1))) (fun (j5 : Int32 → Option (Int32 × QS)) => (if (q4 &&& (q4 >>> ((1 : Int32) &&& 31))) = 0 then Option.bind (fX5_bits a2.2.1) (fun (q11 : Int32) => (if a2.1 ≤ q11 then j5 (0 : Int32) else j5 (1 : Int32))) else j5 (0 : Int32)))))) FV ((999 : Int32), (0 : Int32), τ)))
def rm_X5_apart_50 : Room := { frames := 2, cells := 0, slots := 0, locals := 44 }
set_option maxRecDepth 100000 in
set_option maxHeartbeats 4000000 in
theorem kX5_apart_50 (l : Launch) (E : QE) (σ τ : QS)  (q : Int32 × QS) (hf : fX5_apart_50 τ = some q) : KQ l yX5_apart cX5_apart 6 (some .int) rm_X5_apart_50 E [.ref (qAd E 50)] σ τ (PI E q.1 σ q.2) := by
  unfold fX5_apart_50 at hf
  refine y_met rfl (Nat.le_of_ble_eq_true rfl) rfl (fun p e s m below meth c C => ?_)
  refine y_aload_n C dX5_apart_0 rfl 0 rfl ?_
  refine g50_sitters C fl_X5_163 dX5_apart_1 ?_
  refine y_if_ne C 10 dX5_apart_4 (by decide) hf (fun hf => ?_) (fun hf => ?_)
  · refine y_iconst C (v := 1) dX5_apart_10 (by decide) ?_
    refine y_aload_n C dX5_apart_11 rfl 0 rfl ?_
    refine g50_sitters C fl_X5_163 dX5_apart_12 ?_
    refine y_ishl C dX5_apart_15 ?_
    refine y_iconst C (v := 1) dX5_apart_16 (by decide) ?_
    refine y_isub C dX5_apart_17 ?_
    obtain ⟨v1, e_v1, hf⟩ := lt_e hf
    refine y_istore_n C dX5_apart_18 rfl (Nat.le_of_ble_eq_true rfl) e_v1 (lv' := [(1, .int v1), (0, .ref (qAd E 50))]) rfl ?_
    refine y_sipush C (v := 999) dX5_apart_19 (by decide) ?_
    refine y_istore_n C dX5_apart_22 rfl (Nat.le_of_ble_eq_true rfl) rfl (lv' := [(2, .int (999 : Int32)), (1, .int v1), (0, .ref (qAd E 50))]) rfl ?_
    refine y_iconst C (v := 0) dX5_apart_23 (by decide) ?_
    refine y_istore_n C dX5_apart_24 rfl (Nat.le_of_ble_eq_true rfl) rfl (lv' := [(3, .int (0 : Int32)), (2, .int (999 : Int32)), (1, .int v1), (0, .ref (qAd E 50))]) rfl ?_
    refine y_sub [0, 1, 2, 3] rfl ?_
    refine lp_ind (P := fun a2 : Int32 × Int32 × QS => Y E p l e rm_X5_apart_50 s m ([.ref (qAd E 50)] : List Value).toArray below meth c 6 (MQ below (PI E q.1 σ q.2) ([.ref (qAd E 50)] : List Value).toArray s 0 0 (qA E)) σ a2.2.2 25 [(3, .int a2.2.1), (2, .int a2.1), (1, .int v1), (0, .ref (qAd E 50))] []) (fun r3 a2 ih_r3 hf => ?_) _ _ hf
    refine y_iload_n C dX5_apart_25 rfl 0 rfl ?_
    refine y_iload_n C dX5_apart_26 rfl 2 rfl ?_
    refine y_icmp_gt C 103 dX5_apart_27 (by decide) hf (fun hf => ?_) (fun hf => ?_)
    · refine y_iload_n C dX5_apart_103 rfl 1 rfl ?_
      exact y_iret C (rs1 hf) rfl (rs2 hf) dX5_apart_104
    · refine y_aload_n C dX5_apart_30 rfl 3 rfl ?_
      refine y_iload_n C dX5_apart_31 rfl 2 rfl ?_
      refine y_iload_n C dX5_apart_32 rfl 0 rfl ?_
      refine y_iconst C (v := -1) dX5_apart_33 (by decide) ?_
      refine y_ixor C dX5_apart_34 ?_
      refine y_iand C dX5_apart_35 ?_
      obtain ⟨q4, h_q4, hf⟩ := bd_e hf
      refine y_cVi C (kX5_seatsOf_50 l E σ a2.2.2 (v1 &&& (a2.2.1 ^^^ (-1 : Int32))) _ h_q4) vi_X5_seatsOf ml_X5_276 ⟨5, _, o50, rfl, rfl⟩ rfl ⟨rfl, rfl, Nat.le_of_ble_eq_true rfl, Nat.le_of_ble_eq_true rfl⟩ dX5_apart_36 rfl (Nat.le_of_ble_eq_true rfl) ?_
      refine y_istore C dX5_apart_39 (Nat.le_of_ble_eq_true rfl) rfl (lv' := [(4, .int q4), (3, .int a2.2.1), (2, .int a2.1), (1, .int v1), (0, .ref (qAd E 50))]) rfl ?_
      refine y_iload C dX5_apart_41 0 rfl ?_
      refine y_iload C dX5_apart_43 0 rfl ?_
      refine y_iconst C (v := 1) dX5_apart_45 (by decide) ?_
      refine y_ishr C dX5_apart_46 ?_
      refine y_iand C dX5_apart_47 ?_
      obtain ⟨j5, ek_j5, hf⟩ := lt_e hf
      have h_j5 : ∀ (v6 : Int32), j5 v6 = some q → Y E p l e rm_X5_apart_50 s m ([.ref (qAd E 50)] : List Value).toArray below meth c 6 (MQ below (PI E q.1 σ q.2) ([.ref (qAd E 50)] : List Value).toArray s 0 0 (qA E)) σ a2.2.2 64 [(0, .ref (qAd E 50)), (1, .int v1), (2, .int a2.1), (3, .int a2.2.1)] [.int v6] := by
        intro v6 hf
        replace hf := (congrFun (ek_j5) v6).symm.trans hf
        refine y_istore C dX5_apart_64 (Nat.le_of_ble_eq_true rfl) rfl (lv' := [(5, .int v6), (0, .ref (qAd E 50)), (1, .int v1), (2, .int a2.1), (3, .int a2.2.1)]) rfl ?_
        refine y_aload_n C dX5_apart_66 rfl 1 rfl ?_
        refine y_iload C dX5_apart_67 0 rfl ?_
        obtain ⟨j7, ek_j7, hf⟩ := lt_e hf
        have h_j7 : ∀ (v8 : Int32), j7 v8 = some q → Y E p l e rm_X5_apart_50 s m ([.ref (qAd E 50)] : List Value).toArray below meth c 6 (MQ below (PI E q.1 σ q.2) ([.ref (qAd E 50)] : List Value).toArray s 0 0 (qA E)) σ a2.2.2 80 [(0, .ref (qAd E 50)), (1, .int v1), (2, .int a2.1), (3, .int a2.2.1), (5, .int v6)] [.int v8, .ref (qAd E 50)] := by
          intro v8 hf
          replace hf := (congrFun (ek_j7) v8).symm.trans hf
          obtain ⟨S9, e_S9, hf⟩ := lt_e hf
          refine p50_asked C fl_X5_72 e_S9 dX5_apart_80 ?_
          refine y_iload C dX5_apart_83 4 rfl ?_
          refine y_if_eq C 95 dX5_apart_85 (by decide) hf (fun hf => ?_) (fun hf => ?_)
          · refine y_iload_n C dX5_apart_95 rfl 2 rfl ?_
            refine y_istore_n C dX5_apart_96 rfl (Nat.le_of_ble_eq_true rfl) rfl (lv' := [(2, .int a2.1), (0, .ref (qAd E 50)), (1, .int v1), (3, .int a2.2.1), (5, .int v6)]) rfl ?_
            refine y_iinc C dX5_apart_97 3 rfl (Nat.le_of_ble_eq_true rfl) (k2 := 1) (by decide) rfl (lv' := [(3, .int (a2.2.1 + (1 : Int32))), (2, .int a2.1), (0, .ref (qAd E 50)), (1, .int v1), (5, .int v6)]) rfl ?_
            refine y_goto C 25 dX5_apart_100 (by decide) ?_
            refine y_sub [0, 1, 3, 2] rfl ?_
            exact ih_r3 (a2.1, (a2.2.1 + (1 : Int32)), S9) hf
          · refine y_iload_n C dX5_apart_88 rfl 3 rfl ?_
            obtain ⟨q10, h_q10, hf⟩ := bd_e hf
            refine y_cSi C (kX5_bits l E σ S9 a2.2.1 _ h_q10) si_X5_bits ml_X5_237 rfl ⟨rfl, rfl, Nat.le_of_ble_eq_true rfl, Nat.le_of_ble_eq_true rfl⟩ dX5_apart_89 rfl (Nat.le_of_ble_eq_true rfl) ?_
            refine y_goto C 96 dX5_apart_92 (by decide) ?_
            refine y_istore_n C dX5_apart_96 rfl (Nat.le_of_ble_eq_true rfl) rfl (lv' := [(2, .int q10), (0, .ref (qAd E 50)), (1, .int v1), (3, .int a2.2.1), (5, .int v6)]) rfl ?_
            refine y_iinc C dX5_apart_97 3 rfl (Nat.le_of_ble_eq_true rfl) (k2 := 1) (by decide) rfl (lv' := [(3, .int (a2.2.1 + (1 : Int32))), (2, .int q10), (0, .ref (qAd E 50)), (1, .int v1), (5, .int v6)]) rfl ?_
            refine y_goto C 25 dX5_apart_100 (by decide) ?_
            refine y_sub [0, 1, 3, 2] rfl ?_
            exact ih_r3 (q10, (a2.2.1 + (1 : Int32)), S9) hf
        refine y_if_eq C 76 dX5_apart_69 (by decide) hf (fun hf => ?_) (fun hf => ?_)
        · refine y_aload_n C dX5_apart_76 rfl 1 rfl ?_
          refine g50_asked C fl_X5_72 dX5_apart_77 ?_
          refine y_sub [1, 2, 3, 4, 0] rfl ?_
          exact h_j7 (gI a2.2.2 2) hf
        · refine y_iload_n C dX5_apart_72 rfl 4 rfl ?_
          refine y_goto C 80 dX5_apart_73 (by decide) ?_
          refine y_sub [1, 2, 3, 4, 0] rfl ?_
          exact h_j7 a2.2.1 hf
      refine y_if_ne C 63 dX5_apart_48 (by decide) hf (fun hf => ?_) (fun hf => ?_)
      · refine y_iconst C (v := 0) dX5_apart_63 (by decide) ?_
        refine y_sub [4, 3, 2, 1] rfl ?_
        exact h_j5 (0 : Int32) hf
      · refine y_iload_n C dX5_apart_51 rfl 1 rfl ?_
        obtain ⟨q11, h_q11, hf⟩ := bd_e hf
        refine y_cSi C (kX5_bits l E σ a2.2.2 a2.2.1 _ h_q11) si_X5_bits ml_X5_237 rfl ⟨rfl, rfl, Nat.le_of_ble_eq_true rfl, Nat.le_of_ble_eq_true rfl⟩ dX5_apart_52 rfl (Nat.le_of_ble_eq_true rfl) ?_
        refine y_iload_n C dX5_apart_55 rfl 2 rfl ?_
        refine y_icmp_ge C 63 dX5_apart_56 (by decide) hf (fun hf => ?_) (fun hf => ?_)
        · refine y_iconst C (v := 0) dX5_apart_63 (by decide) ?_
          refine y_sub [4, 3, 2, 1] rfl ?_
          exact h_j5 (0 : Int32) hf
        · refine y_iconst C (v := 1) dX5_apart_59 (by decide) ?_
          refine y_goto C 64 dX5_apart_60 (by decide) ?_
          refine y_sub [4, 3, 2, 1] rfl ?_
          exact h_j5 (1 : Int32) hf
  · refine y_bipush C (v := -4) dX5_apart_7 (by decide) ?_
    exact y_iret C (rs1 hf) rfl (rs2 hf) dX5_apart_9
noncomputable def fX4_areNotices_0 (x1 : Int32) (σ : QS) : Option (Int32) :=
    lp_ (fun (r2 : Int32 → Option (Int32)) (a1 : Int32) => Option.bind (fX3_size_1 x1 σ) (fun (q3 : Int32) => (if q3 ≤ (a1 + (2 : Int32)) then some (1 : Int32) else Option.bind (fX3_get_1 x1 a1 σ) (fun (q4 : Int32) => Option.bind (fX3_get_1 x1 (a1 + (1 : Int32)) σ) (fun (q5 : Int32) => Option.bind (fX3_get_1 x1 (a1 + (2 : Int32)) σ) (fun (q6 : Int32) => (if q4 < (1 : Int32) then some (0 : Int32) else (if (9 : Int32) < q4 then some (0 : Int32) else (if q5 < (-9 : Int32) then some (0 : Int32) else (if (20 : Int32) < q5 then some (0 : Int32) else (if q6 < 0 then some (0 : Int32) else (if q6 ≤ (1 : Int32) then r2 (a1 + (3 : Int32)) else some (0 : Int32))))))))))))) FV (0 : Int32)
def rm_X4_areNotices_0 : Room := { frames := 3, cells := 0, slots := 0, locals := 65 }
set_option maxRecDepth 100000 in
set_option maxHeartbeats 4000000 in
theorem kX4_areNotices_0 (l : Launch) (E : QE) (σ τ : QS) (x1 : Int32) (q : Int32) (hf : fX4_areNotices_0 x1 σ = some q) : KQ l yX4_areNotices cX4_areNotices 6 (some .boolean) rm_X4_areNotices_0 E [.ref (qAd E 0), .int x1] σ τ (PI E q σ τ) := by
  unfold fX4_areNotices_0 at hf
  refine y_met rfl (Nat.le_of_ble_eq_true rfl) rfl (fun p e s m below meth c C => ?_)
  refine y_iconst C (v := 0) dX4_areNotices_0 (by decide) ?_
  refine y_istore_n C dX4_areNotices_1 rfl (Nat.le_of_ble_eq_true rfl) rfl (lv' := [(2, .int (0 : Int32)), (0, .ref (qAd E 0)), (1, .int x1)]) rfl ?_
  refine y_sub [0, 1, 2] rfl ?_
  refine lp_ind (P := fun a1 : Int32 => Y E p l e rm_X4_areNotices_0 s m ([.ref (qAd E 0), .int x1] : List Value).toArray below meth c 6 (MQ below (PI E q σ τ) ([.ref (qAd E 0), .int x1] : List Value).toArray s 0 0 (qA E)) σ τ 2 [(2, .int a1), (0, .ref (qAd E 0)), (1, .int x1)] []) (fun r2 a1 ih_r2 hf => ?_) _ _ hf
  refine y_iload_n C dX4_areNotices_2 rfl 0 rfl ?_
  refine y_iconst C (v := 2) dX4_areNotices_3 (by decide) ?_
  refine y_iadd C dX4_areNotices_4 ?_
  refine y_aload_n C dX4_areNotices_5 rfl 1 rfl ?_
  refine g0_rowShelf C fl_X4_14 dX4_areNotices_6 ?_
  refine y_iload_n C dX4_areNotices_9 rfl 2 rfl ?_
  obtain ⟨q3, h_q3, hf⟩ := bd_e hf
  refine y_cVi C (kX3_size_1 l E σ τ x1 _ h_q3) vi_X3_size ml_X4_105 ⟨3, _, o1, rfl, rfl⟩ rfl ⟨rfl, rfl, Nat.le_of_ble_eq_true rfl, Nat.le_of_ble_eq_true rfl⟩ dX4_areNotices_10 rfl (Nat.le_of_ble_eq_true rfl) ?_
  refine y_icmp_ge C 96 dX4_areNotices_13 (by decide) hf (fun hf => ?_) (fun hf => ?_)
  · refine y_iconst C (v := 1) dX4_areNotices_96 (by decide) ?_
    exact y_zret C zOk1 (Option.some.inj hf) rfl rfl dX4_areNotices_97
  · refine y_aload_n C dX4_areNotices_16 rfl 1 rfl ?_
    refine g0_rowShelf C fl_X4_14 dX4_areNotices_17 ?_
    refine y_iload_n C dX4_areNotices_20 rfl 2 rfl ?_
    refine y_iload_n C dX4_areNotices_21 rfl 0 rfl ?_
    obtain ⟨q4, h_q4, hf⟩ := bd_e hf
    refine y_cVi C (kX3_get_1 l E σ τ x1 a1 _ h_q4) vi_X3_get ml_X4_76 ⟨3, _, o1, rfl, rfl⟩ rfl ⟨rfl, rfl, Nat.le_of_ble_eq_true rfl, Nat.le_of_ble_eq_true rfl⟩ dX4_areNotices_22 rfl (Nat.le_of_ble_eq_true rfl) ?_
    refine y_istore_n C dX4_areNotices_25 rfl (Nat.le_of_ble_eq_true rfl) rfl (lv' := [(3, .int q4), (2, .int a1), (0, .ref (qAd E 0)), (1, .int x1)]) rfl ?_
    refine y_aload_n C dX4_areNotices_26 rfl 2 rfl ?_
    refine g0_rowShelf C fl_X4_14 dX4_areNotices_27 ?_
    refine y_iload_n C dX4_areNotices_30 rfl 3 rfl ?_
    refine y_iload_n C dX4_areNotices_31 rfl 1 rfl ?_
    refine y_iconst C (v := 1) dX4_areNotices_32 (by decide) ?_
    refine y_iadd C dX4_areNotices_33 ?_
    obtain ⟨q5, h_q5, hf⟩ := bd_e hf
    refine y_cVi C (kX3_get_1 l E σ τ x1 (a1 + (1 : Int32)) _ h_q5) vi_X3_get ml_X4_76 ⟨3, _, o1, rfl, rfl⟩ rfl ⟨rfl, rfl, Nat.le_of_ble_eq_true rfl, Nat.le_of_ble_eq_true rfl⟩ dX4_areNotices_34 rfl (Nat.le_of_ble_eq_true rfl) ?_
    refine y_istore C dX4_areNotices_37 (Nat.le_of_ble_eq_true rfl) rfl (lv' := [(4, .int q5), (3, .int q4), (2, .int a1), (0, .ref (qAd E 0)), (1, .int x1)]) rfl ?_
    refine y_aload_n C dX4_areNotices_39 rfl 3 rfl ?_
    refine g0_rowShelf C fl_X4_14 dX4_areNotices_40 ?_
    refine y_iload_n C dX4_areNotices_43 rfl 4 rfl ?_
    refine y_iload_n C dX4_areNotices_44 rfl 2 rfl ?_
    refine y_iconst C (v := 2) dX4_areNotices_45 (by decide) ?_
    refine y_iadd C dX4_areNotices_46 ?_
    obtain ⟨q6, h_q6, hf⟩ := bd_e hf
    refine y_cVi C (kX3_get_1 l E σ τ x1 (a1 + (2 : Int32)) _ h_q6) vi_X3_get ml_X4_76 ⟨3, _, o1, rfl, rfl⟩ rfl ⟨rfl, rfl, Nat.le_of_ble_eq_true rfl, Nat.le_of_ble_eq_true rfl⟩ dX4_areNotices_47 rfl (Nat.le_of_ble_eq_true rfl) ?_
    refine y_istore C dX4_areNotices_50 (Nat.le_of_ble_eq_true rfl) rfl (lv' := [(5, .int q6), (4, .int q5), (3, .int q4), (2, .int a1), (0, .ref (qAd E 0)), (1, .int x1)]) rfl ?_
    refine y_iload_n C dX4_areNotices_52 rfl 2 rfl ?_
    refine y_iconst C (v := 1) dX4_areNotices_53 (by decide) ?_
    refine y_icmp_lt C 88 dX4_areNotices_54 (by decide) hf (fun hf => ?_) (fun hf => ?_)
    · refine y_iconst C (v := 0) dX4_areNotices_88 (by decide) ?_
      exact y_zret C zOk0 (Option.some.inj hf) rfl rfl dX4_areNotices_89
    · refine y_iload_n C dX4_areNotices_57 rfl 2 rfl ?_
      refine y_bipush C (v := 9) dX4_areNotices_58 (by decide) ?_
      refine y_icmp_gt C 88 dX4_areNotices_60 (by decide) hf (fun hf => ?_) (fun hf => ?_)
      · refine y_iconst C (v := 0) dX4_areNotices_88 (by decide) ?_
        exact y_zret C zOk0 (Option.some.inj hf) rfl rfl dX4_areNotices_89
      · refine y_iload C dX4_areNotices_63 1 rfl ?_
        refine y_bipush C (v := -9) dX4_areNotices_65 (by decide) ?_
        refine y_icmp_lt C 88 dX4_areNotices_67 (by decide) hf (fun hf => ?_) (fun hf => ?_)
        · refine y_iconst C (v := 0) dX4_areNotices_88 (by decide) ?_
          exact y_zret C zOk0 (Option.some.inj hf) rfl rfl dX4_areNotices_89
        · refine y_iload C dX4_areNotices_70 1 rfl ?_
          refine y_bipush C (v := 20) dX4_areNotices_72 (by decide) ?_
          refine y_icmp_gt C 88 dX4_areNotices_74 (by decide) hf (fun hf => ?_) (fun hf => ?_)
          · refine y_iconst C (v := 0) dX4_areNotices_88 (by decide) ?_
            exact y_zret C zOk0 (Option.some.inj hf) rfl rfl dX4_areNotices_89
          · refine y_iload C dX4_areNotices_77 0 rfl ?_
            refine y_if_lt C 88 dX4_areNotices_79 (by decide) hf (fun hf => ?_) (fun hf => ?_)
            · refine y_iconst C (v := 0) dX4_areNotices_88 (by decide) ?_
              exact y_zret C zOk0 (Option.some.inj hf) rfl rfl dX4_areNotices_89
            · refine y_iload C dX4_areNotices_82 0 rfl ?_
              refine y_iconst C (v := 1) dX4_areNotices_84 (by decide) ?_
              refine y_icmp_le C 90 dX4_areNotices_85 (by decide) hf (fun hf => ?_) (fun hf => ?_)
              · refine y_iinc C dX4_areNotices_90 3 rfl (Nat.le_of_ble_eq_true rfl) (k2 := 3) (by decide) rfl (lv' := [(2, .int (a1 + (3 : Int32))), (5, .int q6), (4, .int q5), (3, .int q4), (0, .ref (qAd E 0)), (1, .int x1)]) rfl ?_
                refine y_goto C 2 dX4_areNotices_93 (by decide) ?_
                refine y_sub [0, 4, 5] rfl ?_
                exact ih_r2 (a1 + (3 : Int32)) hf
              · refine y_iconst C (v := 0) dX4_areNotices_88 (by decide) ?_
                exact y_zret C zOk0 (Option.some.inj hf) rfl rfl dX4_areNotices_89
noncomputable def fX4_refusalOfNotices_0 (x1 : Int32) (x2 : Int32) (σ : QS) : Option (Int32 × QS) :=
    (if (fX1_isSitter_5 x1 σ) = 0 then some ((-1 : Int32), σ) else (if (fX3_isPlace_1 x2 σ) = 0 then some ((-1 : Int32), σ) else Option.bind (fX3_has_1 x2 σ) (fun (q1 : Int32) => (if q1 = 0 then Option.bind (fX4_refuse_0 (1 : Int32) σ) (fun (q6 : Int32 × QS) => some (q6.1, q6.2)) else Option.bind (fX3_size_1 x2 σ) (fun (q2 : Int32) => (if (q2 - q2 / (3 : Int32) * (3 : Int32)) = 0 then Option.bind (fX4_areNotices_0 x2 σ) (fun (q3 : Int32) => (if q3 = 0 then Option.bind (fX4_refuse_0 (3 : Int32) σ) (fun (q4 : Int32 × QS) => some (q4.1, q4.2)) else some ((0 : Int32), σ))) else Option.bind (fX4_refuse_0 (5 : Int32) σ) (fun (q5 : Int32 × QS) => some (q5.1, q5.2))))))))
def rm_X4_refusalOfNotices_0 : Room := { frames := 4, cells := 0, slots := 0, locals := 90 }
set_option maxRecDepth 100000 in
set_option maxHeartbeats 4000000 in
theorem kX4_refusalOfNotices_0 (l : Launch) (E : QE) (σ τ : QS) (x1 : Int32) (x2 : Int32) (q : Int32 × QS) (hf : fX4_refusalOfNotices_0 x1 x2 σ = some q) : KQ l yX4_refusalOfNotices cX4_refusalOfNotices 3 (some .int) rm_X4_refusalOfNotices_0 E [.ref (qAd E 0), .int x1, .int x2] σ τ (PI E q.1 q.2 τ) := by
  unfold fX4_refusalOfNotices_0 at hf
  refine y_met rfl (Nat.le_of_ble_eq_true rfl) rfl (fun p e s m below meth c C => ?_)
  refine y_aload_n C dX4_refusalOfNotices_0 rfl 0 rfl ?_
  refine g0_script C fl_X4_31 dX4_refusalOfNotices_1 ?_
  refine y_iload_n C dX4_refusalOfNotices_4 rfl 1 rfl ?_
  refine y_cVi C (kX1_isSitter_5 l E σ τ x1 _ rfl) vi_X1_isSitter ml_X4_118 ⟨1, _, o5, rfl, rfl⟩ rfl ⟨rfl, rfl, Nat.le_of_ble_eq_true rfl, Nat.le_of_ble_eq_true rfl⟩ dX4_refusalOfNotices_5 rfl (Nat.le_of_ble_eq_true rfl) ?_
  refine y_if_eq C 22 dX4_refusalOfNotices_8 (by decide) hf (fun hf => ?_) (fun hf => ?_)
  · refine y_iconst C (v := -1) dX4_refusalOfNotices_22 (by decide) ?_
    exact y_iret C (rs1 hf) (rs2 hf) rfl dX4_refusalOfNotices_23
  · refine y_aload_n C dX4_refusalOfNotices_11 rfl 0 rfl ?_
    refine g0_rowShelf C fl_X4_14 dX4_refusalOfNotices_12 ?_
    refine y_iload_n C dX4_refusalOfNotices_15 rfl 2 rfl ?_
    refine y_cVi C (kX3_isPlace_1 l E σ τ x2 _ rfl) vi_X3_isPlace ml_X4_60 ⟨3, _, o1, rfl, rfl⟩ rfl ⟨rfl, rfl, Nat.le_of_ble_eq_true rfl, Nat.le_of_ble_eq_true rfl⟩ dX4_refusalOfNotices_16 rfl (Nat.le_of_ble_eq_true rfl) ?_
    refine y_if_ne C 24 dX4_refusalOfNotices_19 (by decide) hf (fun hf => ?_) (fun hf => ?_)
    · refine y_aload_n C dX4_refusalOfNotices_24 rfl 0 rfl ?_
      refine g0_rowShelf C fl_X4_14 dX4_refusalOfNotices_25 ?_
      refine y_iload_n C dX4_refusalOfNotices_28 rfl 2 rfl ?_
      obtain ⟨q1, h_q1, hf⟩ := bd_e hf
      refine y_cVi C (kX3_has_1 l E σ τ x2 _ h_q1) vi_X3_has ml_X4_94 ⟨3, _, o1, rfl, rfl⟩ rfl ⟨rfl, rfl, Nat.le_of_ble_eq_true rfl, Nat.le_of_ble_eq_true rfl⟩ dX4_refusalOfNotices_29 rfl (Nat.le_of_ble_eq_true rfl) ?_
      refine y_if_ne C 41 dX4_refusalOfNotices_32 (by decide) hf (fun hf => ?_) (fun hf => ?_)
      · refine y_aload_n C dX4_refusalOfNotices_41 rfl 0 rfl ?_
        refine g0_rowShelf C fl_X4_14 dX4_refusalOfNotices_42 ?_
        refine y_iload_n C dX4_refusalOfNotices_45 rfl 2 rfl ?_
        obtain ⟨q2, h_q2, hf⟩ := bd_e hf
        refine y_cVi C (kX3_size_1 l E σ τ x2 _ h_q2) vi_X3_size ml_X4_105 ⟨3, _, o1, rfl, rfl⟩ rfl ⟨rfl, rfl, Nat.le_of_ble_eq_true rfl, Nat.le_of_ble_eq_true rfl⟩ dX4_refusalOfNotices_46 rfl (Nat.le_of_ble_eq_true rfl) ?_
        refine y_iconst C (v := 3) dX4_refusalOfNotices_49 (by decide) ?_
        refine y_irem C (by decide) dX4_refusalOfNotices_50 ?_
        refine y_if_eq C 60 dX4_refusalOfNotices_51 (by decide) hf (fun hf => ?_) (fun hf => ?_)
        · refine y_aload_n C dX4_refusalOfNotices_60 rfl 0 rfl ?_
          refine y_iload_n C dX4_refusalOfNotices_61 rfl 2 rfl ?_
          obtain ⟨q3, h_q3, hf⟩ := bd_e hf
          refine y_cVi C (kX4_areNotices_0 l E σ τ x2 _ h_q3) vi_X4_areNotices ml_X4_315 ⟨4, _, o0, rfl, rfl⟩ rfl ⟨rfl, rfl, Nat.le_of_ble_eq_true rfl, Nat.le_of_ble_eq_true rfl⟩ dX4_refusalOfNotices_62 rfl (Nat.le_of_ble_eq_true rfl) ?_
          refine y_if_eq C 72 dX4_refusalOfNotices_65 (by decide) hf (fun hf => ?_) (fun hf => ?_)
          · refine y_aload_n C dX4_refusalOfNotices_72 rfl 0 rfl ?_
            refine y_iconst C (v := 3) dX4_refusalOfNotices_73 (by decide) ?_
            obtain ⟨q4, h_q4, hf⟩ := bd_e hf
            refine y_cVi C (kX4_refuse_0 l E σ τ (3 : Int32) _ h_q4) vi_X4_refuse ml_X4_64 ⟨4, _, o0, rfl, rfl⟩ rfl ⟨rfl, rfl, Nat.le_of_ble_eq_true rfl, Nat.le_of_ble_eq_true rfl⟩ dX4_refusalOfNotices_74 rfl (Nat.le_of_ble_eq_true rfl) ?_
            exact y_iret C (rs1 hf) (rs2 hf) rfl dX4_refusalOfNotices_77
          · refine y_iconst C (v := 0) dX4_refusalOfNotices_68 (by decide) ?_
            refine y_goto C 77 dX4_refusalOfNotices_69 (by decide) ?_
            exact y_iret C (rs1 hf) (rs2 hf) rfl dX4_refusalOfNotices_77
        · refine y_aload_n C dX4_refusalOfNotices_54 rfl 0 rfl ?_
          refine y_iconst C (v := 5) dX4_refusalOfNotices_55 (by decide) ?_
          obtain ⟨q5, h_q5, hf⟩ := bd_e hf
          refine y_cVi C (kX4_refuse_0 l E σ τ (5 : Int32) _ h_q5) vi_X4_refuse ml_X4_64 ⟨4, _, o0, rfl, rfl⟩ rfl ⟨rfl, rfl, Nat.le_of_ble_eq_true rfl, Nat.le_of_ble_eq_true rfl⟩ dX4_refusalOfNotices_56 rfl (Nat.le_of_ble_eq_true rfl) ?_
          exact y_iret C (rs1 hf) (rs2 hf) rfl dX4_refusalOfNotices_59
      · refine y_aload_n C dX4_refusalOfNotices_35 rfl 0 rfl ?_
        refine y_iconst C (v := 1) dX4_refusalOfNotices_36 (by decide) ?_
        obtain ⟨q6, h_q6, hf⟩ := bd_e hf
        refine y_cVi C (kX4_refuse_0 l E σ τ (1 : Int32) _ h_q6) vi_X4_refuse ml_X4_64 ⟨4, _, o0, rfl, rfl⟩ rfl ⟨rfl, rfl, Nat.le_of_ble_eq_true rfl, Nat.le_of_ble_eq_true rfl⟩ dX4_refusalOfNotices_37 rfl (Nat.le_of_ble_eq_true rfl) ?_
        exact y_iret C (rs1 hf) (rs2 hf) rfl dX4_refusalOfNotices_40
    · refine y_iconst C (v := -1) dX4_refusalOfNotices_22 (by decide) ?_
      exact y_iret C (rs1 hf) (rs2 hf) rfl dX4_refusalOfNotices_23
noncomputable def fX4_fitsNotices_0 (x1 : Int32) (x2 : Int32) (x3 : Int32) (x4 : Int32) (x5 : Int32) (σ : QS) : Option (Int32) :=
    lp_ (fun (r2 : Int32 → Option (Int32)) (a1 : Int32) => Option.bind (fX3_size_1 x1 σ) (fun (q3 : Int32) => (if q3 ≤ (a1 + (2 : Int32)) then some (1 : Int32) else Option.bind (fX3_get_1 x1 (a1 + (1 : Int32)) σ) (fun (q4 : Int32) => lt_ (fX4_says x2 x3 x4 q4 x5) (fun (v5 : Int32) => Option.bind (fX3_get_1 x1 a1 σ) (fun (q6 : Int32) => lt_ (fun (v8 : Int32) => Option.bind (fX3_get_1 x1 (a1 + (2 : Int32)) σ) (fun (q9 : Int32) => lt_ (fun (v11 : Int32) => (if v8 = v11 then r2 (a1 + (3 : Int32)) else some (0 : Int32))) (fun (j10 : Int32 → Option (Int32)) => (if q9 = (1 : Int32) then j10 (1 : Int32) else j10 (0 : Int32))))) (fun (j7 : Int32 → Option (Int32)) => (if v5 < q6 then j7 (0 : Int32) else j7 (1 : Int32))))))))) FV (0 : Int32)
def rm_X4_fitsNotices_0 : Room := { frames := 3, cells := 0, slots := 0, locals := 69 }
set_option maxRecDepth 100000 in
set_option maxHeartbeats 4000000 in
theorem kX4_fitsNotices_0 (l : Launch) (E : QE) (σ τ : QS) (x1 : Int32) (x2 : Int32) (x3 : Int32) (x4 : Int32) (x5 : Int32) (q : Int32) (hf : fX4_fitsNotices_0 x1 x2 x3 x4 x5 σ = some q) : KQ l yX4_fitsNotices cX4_fitsNotices 9 (some .boolean) rm_X4_fitsNotices_0 E [.ref (qAd E 0), .int x1, .int x2, .int x3, .int x4, .int x5] σ τ (PI E q σ τ) := by
  unfold fX4_fitsNotices_0 at hf
  refine y_met rfl (Nat.le_of_ble_eq_true rfl) rfl (fun p e s m below meth c C => ?_)
  refine y_iconst C (v := 0) dX4_fitsNotices_0 (by decide) ?_
  refine y_istore C dX4_fitsNotices_1 (Nat.le_of_ble_eq_true rfl) rfl (lv' := [(6, .int (0 : Int32)), (0, .ref (qAd E 0)), (1, .int x1), (2, .int x2), (3, .int x3), (4, .int x4), (5, .int x5)]) rfl ?_
  refine y_sub [0, 1, 2, 3, 4, 5, 6] rfl ?_
  refine lp_ind (P := fun a1 : Int32 => Y E p l e rm_X4_fitsNotices_0 s m ([.ref (qAd E 0), .int x1, .int x2, .int x3, .int x4, .int x5] : List Value).toArray below meth c 9 (MQ below (PI E q σ τ) ([.ref (qAd E 0), .int x1, .int x2, .int x3, .int x4, .int x5] : List Value).toArray s 0 0 (qA E)) σ τ 3 [(6, .int a1), (0, .ref (qAd E 0)), (1, .int x1), (2, .int x2), (3, .int x3), (4, .int x4), (5, .int x5)] []) (fun r2 a1 ih_r2 hf => ?_) _ _ hf
  refine y_iload C dX4_fitsNotices_3 0 rfl ?_
  refine y_iconst C (v := 2) dX4_fitsNotices_5 (by decide) ?_
  refine y_iadd C dX4_fitsNotices_6 ?_
  refine y_aload_n C dX4_fitsNotices_7 rfl 1 rfl ?_
  refine g0_rowShelf C fl_X4_14 dX4_fitsNotices_8 ?_
  refine y_iload_n C dX4_fitsNotices_11 rfl 2 rfl ?_
  obtain ⟨q3, h_q3, hf⟩ := bd_e hf
  refine y_cVi C (kX3_size_1 l E σ τ x1 _ h_q3) vi_X3_size ml_X4_105 ⟨3, _, o1, rfl, rfl⟩ rfl ⟨rfl, rfl, Nat.le_of_ble_eq_true rfl, Nat.le_of_ble_eq_true rfl⟩ dX4_fitsNotices_12 rfl (Nat.le_of_ble_eq_true rfl) ?_
  refine y_icmp_ge C 97 dX4_fitsNotices_15 (by decide) hf (fun hf => ?_) (fun hf => ?_)
  · refine y_iconst C (v := 1) dX4_fitsNotices_97 (by decide) ?_
    exact y_zret C zOk1 (Option.some.inj hf) rfl rfl dX4_fitsNotices_98
  · refine y_iload_n C dX4_fitsNotices_18 rfl 3 rfl ?_
    refine y_iload_n C dX4_fitsNotices_19 rfl 4 rfl ?_
    refine y_iload C dX4_fitsNotices_20 5 rfl ?_
    refine y_aload_n C dX4_fitsNotices_22 rfl 1 rfl ?_
    refine g0_rowShelf C fl_X4_14 dX4_fitsNotices_23 ?_
    refine y_iload_n C dX4_fitsNotices_26 rfl 2 rfl ?_
    refine y_iload C dX4_fitsNotices_27 0 rfl ?_
    refine y_iconst C (v := 1) dX4_fitsNotices_29 (by decide) ?_
    refine y_iadd C dX4_fitsNotices_30 ?_
    obtain ⟨q4, h_q4, hf⟩ := bd_e hf
    refine y_cVi C (kX3_get_1 l E σ τ x1 (a1 + (1 : Int32)) _ h_q4) vi_X3_get ml_X4_76 ⟨3, _, o1, rfl, rfl⟩ rfl ⟨rfl, rfl, Nat.le_of_ble_eq_true rfl, Nat.le_of_ble_eq_true rfl⟩ dX4_fitsNotices_31 rfl (Nat.le_of_ble_eq_true rfl) ?_
    refine y_iload C dX4_fitsNotices_34 6 rfl ?_
    refine y_cSi C (kX4_says l E σ τ x2 x3 x4 q4 x5 _ rfl) si_X4_says ml_X4_330 rfl ⟨rfl, rfl, Nat.le_of_ble_eq_true rfl, Nat.le_of_ble_eq_true rfl⟩ dX4_fitsNotices_36 rfl (Nat.le_of_ble_eq_true rfl) ?_
    obtain ⟨v5, e_v5, hf⟩ := lt_e hf
    refine y_istore C dX4_fitsNotices_39 (Nat.le_of_ble_eq_true rfl) e_v5 (lv' := [(7, .int v5), (6, .int a1), (0, .ref (qAd E 0)), (1, .int x1), (2, .int x2), (3, .int x3), (4, .int x4), (5, .int x5)]) rfl ?_
    refine y_iload C dX4_fitsNotices_41 0 rfl ?_
    refine y_aload_n C dX4_fitsNotices_43 rfl 2 rfl ?_
    refine g0_rowShelf C fl_X4_14 dX4_fitsNotices_44 ?_
    refine y_iload_n C dX4_fitsNotices_47 rfl 3 rfl ?_
    refine y_iload C dX4_fitsNotices_48 1 rfl ?_
    obtain ⟨q6, h_q6, hf⟩ := bd_e hf
    refine y_cVi C (kX3_get_1 l E σ τ x1 a1 _ h_q6) vi_X3_get ml_X4_76 ⟨3, _, o1, rfl, rfl⟩ rfl ⟨rfl, rfl, Nat.le_of_ble_eq_true rfl, Nat.le_of_ble_eq_true rfl⟩ dX4_fitsNotices_50 rfl (Nat.le_of_ble_eq_true rfl) ?_
    obtain ⟨j7, ek_j7, hf⟩ := lt_e hf
    have h_j7 : ∀ (v8 : Int32), j7 v8 = some q → Y E p l e rm_X4_fitsNotices_0 s m ([.ref (qAd E 0), .int x1, .int x2, .int x3, .int x4, .int x5] : List Value).toArray below meth c 9 (MQ below (PI E q σ τ) ([.ref (qAd E 0), .int x1, .int x2, .int x3, .int x4, .int x5] : List Value).toArray s 0 0 (qA E)) σ τ 61 [(0, .ref (qAd E 0)), (1, .int x1), (2, .int x2), (3, .int x3), (4, .int x4), (5, .int x5), (6, .int a1)] [.int v8] := by
      intro v8 hf
      replace hf := (congrFun (ek_j7) v8).symm.trans hf
      refine y_istore C dX4_fitsNotices_61 (Nat.le_of_ble_eq_true rfl) rfl (lv' := [(8, .int v8), (0, .ref (qAd E 0)), (1, .int x1), (2, .int x2), (3, .int x3), (4, .int x4), (5, .int x5), (6, .int a1)]) rfl ?_
      refine y_iload C dX4_fitsNotices_63 0 rfl ?_
      refine y_aload_n C dX4_fitsNotices_65 rfl 1 rfl ?_
      refine g0_rowShelf C fl_X4_14 dX4_fitsNotices_66 ?_
      refine y_iload_n C dX4_fitsNotices_69 rfl 2 rfl ?_
      refine y_iload C dX4_fitsNotices_70 7 rfl ?_
      refine y_iconst C (v := 2) dX4_fitsNotices_72 (by decide) ?_
      refine y_iadd C dX4_fitsNotices_73 ?_
      obtain ⟨q9, h_q9, hf⟩ := bd_e hf
      refine y_cVi C (kX3_get_1 l E σ τ x1 (a1 + (2 : Int32)) _ h_q9) vi_X3_get ml_X4_76 ⟨3, _, o1, rfl, rfl⟩ rfl ⟨rfl, rfl, Nat.le_of_ble_eq_true rfl, Nat.le_of_ble_eq_true rfl⟩ dX4_fitsNotices_74 rfl (Nat.le_of_ble_eq_true rfl) ?_
      refine y_iconst C (v := 1) dX4_fitsNotices_77 (by decide) ?_
      obtain ⟨j10, ek_j10, hf⟩ := lt_e hf
      have h_j10 : ∀ (v11 : Int32), j10 v11 = some q → Y E p l e rm_X4_fitsNotices_0 s m ([.ref (qAd E 0), .int x1, .int x2, .int x3, .int x4, .int x5] : List Value).toArray below meth c 9 (MQ below (PI E q σ τ) ([.ref (qAd E 0), .int x1, .int x2, .int x3, .int x4, .int x5] : List Value).toArray s 0 0 (qA E)) σ τ 86 [(0, .ref (qAd E 0)), (1, .int x1), (2, .int x2), (3, .int x3), (4, .int x4), (5, .int x5), (6, .int a1)] [.int v11, .int v8] := by
        intro v11 hf
        replace hf := (congrFun (ek_j10) v11).symm.trans hf
        refine y_icmp_eq C 91 dX4_fitsNotices_86 (by decide) hf (fun hf => ?_) (fun hf => ?_)
        · refine y_iinc C dX4_fitsNotices_91 6 rfl (Nat.le_of_ble_eq_true rfl) (k2 := 3) (by decide) rfl (lv' := [(6, .int (a1 + (3 : Int32))), (0, .ref (qAd E 0)), (1, .int x1), (2, .int x2), (3, .int x3), (4, .int x4), (5, .int x5)]) rfl ?_
          refine y_goto C 3 dX4_fitsNotices_94 (by decide) ?_
          refine y_sub [0, 1, 2, 3, 4, 5, 6] rfl ?_
          exact ih_r2 (a1 + (3 : Int32)) hf
        · refine y_iconst C (v := 0) dX4_fitsNotices_89 (by decide) ?_
          exact y_zret C zOk0 (Option.some.inj hf) rfl rfl dX4_fitsNotices_90
      refine y_icmp_ne C 85 dX4_fitsNotices_78 (by decide) hf (fun hf => ?_) (fun hf => ?_)
      · refine y_iconst C (v := 0) dX4_fitsNotices_85 (by decide) ?_
        refine y_sub [1, 2, 3, 4, 5, 6, 7] rfl ?_
        exact h_j10 (0 : Int32) hf
      · refine y_iconst C (v := 1) dX4_fitsNotices_81 (by decide) ?_
        refine y_goto C 86 dX4_fitsNotices_82 (by decide) ?_
        refine y_sub [1, 2, 3, 4, 5, 6, 7] rfl ?_
        exact h_j10 (1 : Int32) hf
    refine y_icmp_lt C 60 dX4_fitsNotices_53 (by decide) hf (fun hf => ?_) (fun hf => ?_)
    · refine y_iconst C (v := 0) dX4_fitsNotices_60 (by decide) ?_
      refine y_sub [2, 3, 4, 5, 6, 7, 1] rfl ?_
      exact h_j7 (0 : Int32) hf
    · refine y_iconst C (v := 1) dX4_fitsNotices_56 (by decide) ?_
      refine y_goto C 61 dX4_fitsNotices_57 (by decide) ?_
      refine y_sub [2, 3, 4, 5, 6, 7, 1] rfl ?_
      exact h_j7 (1 : Int32) hf
noncomputable def fX4_frights_0 (x1 : Int32) (x2 : Int32) (σ : QS) : Option (Int32 × QS) :=
    Option.bind (fX4_refusalOfNotices_0 x1 x2 σ) (fun (q1 : Int32 × QS) => (if q1.1 = 0 then ck_ (inb x1 6) (lt_ (gM q1.2 21 x1.toNatClampNeg) (fun (v3 : Int32) => lt_ (fX1_otherClaques_5 x1 (gI q1.2 14) q1.2) (fun (v4 : Int32) => lp_ (fun (r6 : Int32 × Int32 × Int32 → Option (Int32 × QS)) (a5 : Int32 × Int32 × Int32) => (if (9 : Int32) < a5.2.2 then lt_ (fX4_tell_0 a5.2.1 q1.2) (fun (q7 : Int32 × QS) => some (a5.1, q7.2)) else ck_ (inb x1 6) (Option.bind (fX4_fitsNotices_0 x2 v3 (gM q1.2 23 x1.toNatClampNeg) a5.2.2 v4 q1.2) (fun (q9 : Int32) => lt_ (fun (v11 : Int32) => ck_ (inb x1 6) (Option.bind (fX4_fitsNotices_0 x2 v3 a5.2.2 (gM q1.2 24 x1.toNatClampNeg) v4 q1.2) (fun (q13 : Int32) => (if q13 = 0 then r6 (v11, a5.2.1, (a5.2.2 + (1 : Int32))) else lt_ (a5.2.1 ||| ((1 : Int32) <<< (a5.2.2 &&& 31))) (fun (v14 : Int32) => r6 (v11, v14, (a5.2.2 + (1 : Int32)))))))) (fun (j10 : Int32 → Option (Int32 × QS)) => (if q9 = 0 then j10 a5.1 else lt_ (a5.1 ||| ((1 : Int32) <<< (a5.2.2 &&& 31))) (fun (v15 : Int32) => j10 v15))))))) FV ((0 : Int32), (0 : Int32), (0 : Int32))))) else some (q1.1, q1.2)))
def rm_X4_frights_0 : Room := { frames := 5, cells := 0, slots := 0, locals := 112 }
set_option maxRecDepth 100000 in
set_option maxHeartbeats 4000000 in
theorem kX4_frights_0 (l : Launch) (E : QE) (σ τ : QS) (x1 : Int32) (x2 : Int32) (q : Int32 × QS) (hf : fX4_frights_0 x1 x2 σ = some q) : KQ l yX4_frights cX4_frights 9 (some .int) rm_X4_frights_0 E [.ref (qAd E 0), .int x1, .int x2] σ τ (PI E q.1 q.2 τ) := by
  unfold fX4_frights_0 at hf
  refine y_met rfl (Nat.le_of_ble_eq_true rfl) rfl (fun p e s m below meth c C => ?_)
  refine y_aload_n C dX4_frights_0 rfl 0 rfl ?_
  refine y_iload_n C dX4_frights_1 rfl 1 rfl ?_
  refine y_iload_n C dX4_frights_2 rfl 2 rfl ?_
  obtain ⟨q1, h_q1, hf⟩ := bd_e hf
  refine y_cVi C (kX4_refusalOfNotices_0 l E σ τ x1 x2 _ h_q1) vi_X4_refusalOfNotices ml_X4_233 ⟨4, _, o0, rfl, rfl⟩ rfl ⟨rfl, rfl, Nat.le_of_ble_eq_true rfl, Nat.le_of_ble_eq_true rfl⟩ dX4_frights_3 rfl (Nat.le_of_ble_eq_true rfl) ?_
  refine y_istore_n C dX4_frights_6 rfl (Nat.le_of_ble_eq_true rfl) rfl (lv' := [(3, .int q1.1), (0, .ref (qAd E 0)), (1, .int x1), (2, .int x2)]) rfl ?_
  refine y_iload_n C dX4_frights_7 rfl 0 rfl ?_
  refine y_if_eq C 13 dX4_frights_8 (by decide) hf (fun hf => ?_) (fun hf => ?_)
  · refine y_aload_n C dX4_frights_13 rfl 1 rfl ?_
    refine g0_script C fl_X4_31 dX4_frights_14 ?_
    refine gN5_kind C fn_X4_124 dX4_frights_17 ?_
    refine y_iload_n C dX4_frights_20 rfl 2 rfl ?_
    obtain ⟨hi2, hf⟩ := ck_e hf
    refine y_ialdC C a21 (j := x1.toNatClampNeg) rfl hi2 dX4_frights_21 ?_
    obtain ⟨v3, e_v3, hf⟩ := lt_e hf
    refine y_istore C dX4_frights_22 (Nat.le_of_ble_eq_true rfl) e_v3 (lv' := [(4, .int v3), (3, .int q1.1), (0, .ref (qAd E 0)), (1, .int x1), (2, .int x2)]) rfl ?_
    refine y_aload_n C dX4_frights_24 rfl 2 rfl ?_
    refine g0_script C fl_X4_31 dX4_frights_25 ?_
    refine y_iload_n C dX4_frights_28 rfl 3 rfl ?_
    refine y_aload_n C dX4_frights_29 rfl 2 rfl ?_
    refine g0_night C fl_X4_39 dX4_frights_30 ?_
    refine gN6_called C fn_X4_236 dX4_frights_33 ?_
    refine y_cVi C (kX1_otherClaques_5 l E q1.2 τ x1 (gI q1.2 14) _ rfl) vi_X1_otherClaques ml_X4_239 ⟨1, _, o5, rfl, rfl⟩ rfl ⟨rfl, rfl, Nat.le_of_ble_eq_true rfl, Nat.le_of_ble_eq_true rfl⟩ dX4_frights_36 rfl (Nat.le_of_ble_eq_true rfl) ?_
    obtain ⟨v4, e_v4, hf⟩ := lt_e hf
    refine y_istore C dX4_frights_39 (Nat.le_of_ble_eq_true rfl) e_v4 (lv' := [(5, .int v4), (4, .int v3), (3, .int q1.1), (0, .ref (qAd E 0)), (1, .int x1), (2, .int x2)]) rfl ?_
    refine y_iconst C (v := 0) dX4_frights_41 (by decide) ?_
    refine y_istore C dX4_frights_42 (Nat.le_of_ble_eq_true rfl) rfl (lv' := [(6, .int (0 : Int32)), (5, .int v4), (4, .int v3), (3, .int q1.1), (0, .ref (qAd E 0)), (1, .int x1), (2, .int x2)]) rfl ?_
    refine y_iconst C (v := 0) dX4_frights_44 (by decide) ?_
    refine y_istore C dX4_frights_45 (Nat.le_of_ble_eq_true rfl) rfl (lv' := [(7, .int (0 : Int32)), (6, .int (0 : Int32)), (5, .int v4), (4, .int v3), (3, .int q1.1), (0, .ref (qAd E 0)), (1, .int x1), (2, .int x2)]) rfl ?_
    refine y_iconst C (v := 0) dX4_frights_47 (by decide) ?_
    refine y_istore C dX4_frights_48 (Nat.le_of_ble_eq_true rfl) rfl (lv' := [(8, .int (0 : Int32)), (7, .int (0 : Int32)), (6, .int (0 : Int32)), (5, .int v4), (4, .int v3), (3, .int q1.1), (0, .ref (qAd E 0)), (1, .int x1), (2, .int x2)]) rfl ?_
    refine y_sub [0, 1, 2, 3, 4, 6, 7, 8] rfl ?_
    refine lp_ind (P := fun a5 : Int32 × Int32 × Int32 => Y E p l e rm_X4_frights_0 s m ([.ref (qAd E 0), .int x1, .int x2] : List Value).toArray below meth c 9 (MQ below (PI E q.1 q.2 τ) ([.ref (qAd E 0), .int x1, .int x2] : List Value).toArray s 0 0 (qA E)) q1.2 τ 50 [(8, .int a5.2.2), (7, .int a5.2.1), (6, .int a5.1), (5, .int v4), (4, .int v3), (0, .ref (qAd E 0)), (1, .int x1), (2, .int x2)] []) (fun r6 a5 ih_r6 hf => ?_) _ _ hf
    refine y_iload C dX4_frights_50 0 rfl ?_
    refine y_bipush C (v := 9) dX4_frights_52 (by decide) ?_
    refine y_icmp_gt C 127 dX4_frights_54 (by decide) hf (fun hf => ?_) (fun hf => ?_)
    · refine y_aload_n C dX4_frights_127 rfl 5 rfl ?_
      refine y_iload C dX4_frights_128 1 rfl ?_
      obtain ⟨q7, e_q7, hf⟩ := lt_e hf
      refine y_cVi C (kX4_tell_0 l E q1.2 τ a5.2.1 _ e_q7.symm) vi_X4_tell ml_X4_83 ⟨4, _, o0, rfl, rfl⟩ rfl ⟨rfl, rfl, Nat.le_of_ble_eq_true rfl, Nat.le_of_ble_eq_true rfl⟩ dX4_frights_130 rfl (Nat.le_of_ble_eq_true rfl) ?_
      refine y_pop C dX4_frights_133 rfl ?_
      refine y_iload C dX4_frights_134 2 rfl ?_
      exact y_iret C (rs1 hf) (rs2 hf) rfl dX4_frights_136
    · refine y_aload_n C dX4_frights_57 rfl 5 rfl ?_
      refine y_iload_n C dX4_frights_58 rfl 7 rfl ?_
      refine y_iload C dX4_frights_59 4 rfl ?_
      refine y_aload_n C dX4_frights_61 rfl 5 rfl ?_
      refine g0_script C fl_X4_31 dX4_frights_62 ?_
      refine gN5_memory C fn_X4_242 dX4_frights_65 ?_
      refine y_iload_n C dX4_frights_68 rfl 6 rfl ?_
      obtain ⟨hi8, hf⟩ := ck_e hf
      refine y_ialdC C a23 (j := x1.toNatClampNeg) rfl hi8 dX4_frights_69 ?_
      refine y_iload C dX4_frights_70 0 rfl ?_
      refine y_iload C dX4_frights_72 3 rfl ?_
      obtain ⟨q9, h_q9, hf⟩ := bd_e hf
      refine y_cVi C (kX4_fitsNotices_0 l E q1.2 τ x2 v3 (gM q1.2 23 x1.toNatClampNeg) a5.2.2 v4 _ h_q9) vi_X4_fitsNotices ml_X4_245 ⟨4, _, o0, rfl, rfl⟩ rfl ⟨rfl, rfl, Nat.le_of_ble_eq_true rfl, Nat.le_of_ble_eq_true rfl⟩ dX4_frights_74 rfl (Nat.le_of_ble_eq_true rfl) ?_
      obtain ⟨j10, ek_j10, hf⟩ := lt_e hf
      have h_j10 : ∀ (v11 : Int32), j10 v11 = some q → Y E p l e rm_X4_frights_0 s m ([.ref (qAd E 0), .int x1, .int x2] : List Value).toArray below meth c 9 (MQ below (PI E q.1 q.2 τ) ([.ref (qAd E 0), .int x1, .int x2] : List Value).toArray s 0 0 (qA E)) q1.2 τ 89 [(0, .ref (qAd E 0)), (1, .int x1), (2, .int x2), (4, .int v3), (5, .int v4), (6, .int v11), (7, .int a5.2.1), (8, .int a5.2.2)] [] := by
        intro v11 hf
        replace hf := (congrFun (ek_j10) v11).symm.trans hf
        refine y_aload_n C dX4_frights_89 rfl 0 rfl ?_
        refine y_iload_n C dX4_frights_90 rfl 2 rfl ?_
        refine y_iload C dX4_frights_91 3 rfl ?_
        refine y_iload C dX4_frights_93 7 rfl ?_
        refine y_aload_n C dX4_frights_95 rfl 0 rfl ?_
        refine g0_script C fl_X4_31 dX4_frights_96 ?_
        refine gN5_fright C fn_X4_249 dX4_frights_99 ?_
        refine y_iload_n C dX4_frights_102 rfl 1 rfl ?_
        obtain ⟨hi12, hf⟩ := ck_e hf
        refine y_ialdC C a24 (j := x1.toNatClampNeg) rfl hi12 dX4_frights_103 ?_
        refine y_iload C dX4_frights_104 4 rfl ?_
        obtain ⟨q13, h_q13, hf⟩ := bd_e hf
        refine y_cVi C (kX4_fitsNotices_0 l E q1.2 τ x2 v3 a5.2.2 (gM q1.2 24 x1.toNatClampNeg) v4 _ h_q13) vi_X4_fitsNotices ml_X4_245 ⟨4, _, o0, rfl, rfl⟩ rfl ⟨rfl, rfl, Nat.le_of_ble_eq_true rfl, Nat.le_of_ble_eq_true rfl⟩ dX4_frights_106 rfl (Nat.le_of_ble_eq_true rfl) ?_
        refine y_if_eq C 121 dX4_frights_109 (by decide) hf (fun hf => ?_) (fun hf => ?_)
        · refine y_iinc C dX4_frights_121 7 rfl (Nat.le_of_ble_eq_true rfl) (k2 := 1) (by decide) rfl (lv' := [(8, .int (a5.2.2 + (1 : Int32))), (0, .ref (qAd E 0)), (1, .int x1), (2, .int x2), (4, .int v3), (5, .int v4), (6, .int v11), (7, .int a5.2.1)]) rfl ?_
          refine y_goto C 50 dX4_frights_124 (by decide) ?_
          refine y_sub [0, 7, 6, 5, 4, 1, 2, 3] rfl ?_
          exact ih_r6 (v11, a5.2.1, (a5.2.2 + (1 : Int32))) hf
        · refine y_iload C dX4_frights_112 6 rfl ?_
          refine y_iconst C (v := 1) dX4_frights_114 (by decide) ?_
          refine y_iload C dX4_frights_115 7 rfl ?_
          refine y_ishl C dX4_frights_117 ?_
          refine y_ior C dX4_frights_118 ?_
          obtain ⟨v14, e_v14, hf⟩ := lt_e hf
          refine y_istore C dX4_frights_119 (Nat.le_of_ble_eq_true rfl) e_v14 (lv' := [(7, .int v14), (0, .ref (qAd E 0)), (1, .int x1), (2, .int x2), (4, .int v3), (5, .int v4), (6, .int v11), (8, .int a5.2.2)]) rfl ?_
          refine y_iinc C dX4_frights_121 7 rfl (Nat.le_of_ble_eq_true rfl) (k2 := 1) (by decide) rfl (lv' := [(8, .int (a5.2.2 + (1 : Int32))), (7, .int v14), (0, .ref (qAd E 0)), (1, .int x1), (2, .int x2), (4, .int v3), (5, .int v4), (6, .int v11)]) rfl ?_
          refine y_goto C 50 dX4_frights_124 (by decide) ?_
          refine y_sub [0, 1, 7, 6, 5, 2, 3, 4] rfl ?_
          exact ih_r6 (v11, v14, (a5.2.2 + (1 : Int32))) hf
      refine y_if_eq C 89 dX4_frights_77 (by decide) hf (fun hf => ?_) (fun hf => ?_)
      · refine y_sub [5, 6, 7, 4, 3, 2, 1, 0] rfl ?_
        exact h_j10 a5.1 hf
      · refine y_iload C dX4_frights_80 2 rfl ?_
        refine y_iconst C (v := 1) dX4_frights_82 (by decide) ?_
        refine y_iload C dX4_frights_83 0 rfl ?_
        refine y_ishl C dX4_frights_85 ?_
        refine y_ior C dX4_frights_86 ?_
        obtain ⟨v15, e_v15, hf⟩ := lt_e hf
        refine y_istore C dX4_frights_87 (Nat.le_of_ble_eq_true rfl) e_v15 (lv' := [(6, .int v15), (8, .int a5.2.2), (7, .int a5.2.1), (5, .int v4), (4, .int v3), (0, .ref (qAd E 0)), (1, .int x1), (2, .int x2)]) rfl ?_
        refine y_sub [5, 6, 7, 4, 3, 0, 2, 1] rfl ?_
        exact h_j10 v15 hf
  · refine y_iload_n C dX4_frights_11 rfl 0 rfl ?_
    exact y_iret C (rs1 hf) (rs2 hf) rfl dX4_frights_12
noncomputable def fX5_noNotices_50 (x1 : Int32) (τ : QS) : Option (Int32 × QS) :=
    ck_ (inb x1 6) ((if 0 ≤ (gM τ 56 x1.toNatClampNeg) then ck_ (inb x1 6) ((if ((gM τ 56 x1.toNatClampNeg) - (gM τ 56 x1.toNatClampNeg) / (3 : Int32) * (3 : Int32)) = 0 then lt_ ((40 : Int32) * x1) (fun (v3 : Int32) => lp_ (fun (r5 : Int32 × Int32 → Option (Int32 × QS)) (a4 : Int32 × Int32) => ck_ (inb x1 6) ((if (((40 : Int32) * x1) + (gM τ 56 x1.toNatClampNeg)) ≤ a4.2 then (if a4.1 = 0 then Option.bind (fX5_find_50 (3 : Int32) τ) (fun (q7 : Int32 × QS) => some (q7.1, q7.2)) else some ((0 : Int32), τ)) else (if a4.1 = 0 then r5 ((0 : Int32), (a4.2 + (3 : Int32))) else ck_ (inb a4.2 240) ((if (fX5_in ((gM τ 57 a4.2.toNatClampNeg).toInt64) (1 : Int64) (9 : Int64)) = 0 then r5 ((0 : Int32), (a4.2 + (3 : Int32))) else ck_ (inb (a4.2 + (1 : Int32)) 240) ((if (fX5_in ((gM τ 57 ((a4.2 + (1 : Int32)).toNatClampNeg)).toInt64) (-9 : Int64) (20 : Int64)) = 0 then r5 ((0 : Int32), (a4.2 + (3 : Int32))) else ck_ (inb (a4.2 + (2 : Int32)) 240) ((if (fX5_in ((gM τ 57 ((a4.2 + (2 : Int32)).toNatClampNeg)).toInt64) (0 : Int64) (1 : Int64)) = 0 then r5 ((0 : Int32), (a4.2 + (3 : Int32))) else r5 ((1 : Int32), (a4.2 + (3 : Int32))))))))))))) FV ((1 : Int32), v3)) else Option.bind (fX5_find_50 (5 : Int32) τ) (fun (q11 : Int32 × QS) => some (q11.1, q11.2)))) else Option.bind (fX5_find_50 (1 : Int32) τ) (fun (q12 : Int32 × QS) => some (q12.1, q12.2))))
def rm_X5_noNotices_50 : Room := { frames := 1, cells := 0, slots := 0, locals := 25 }
set_option maxRecDepth 100000 in
set_option maxHeartbeats 4000000 in
theorem kX5_noNotices_50 (l : Launch) (E : QE) (σ τ : QS) (x1 : Int32) (q : Int32 × QS) (hf : fX5_noNotices_50 x1 τ = some q) : KQ l yX5_noNotices cX5_noNotices 4 (some .int) rm_X5_noNotices_50 E [.ref (qAd E 50), .int x1] σ τ (PI E q.1 σ q.2) := by
  unfold fX5_noNotices_50 at hf
  refine y_met rfl (Nat.le_of_ble_eq_true rfl) rfl (fun p e s m below meth c C => ?_)
  refine y_aload_n C dX5_noNotices_0 rfl 0 rfl ?_
  refine g50_sizes C fl_X5_25 dX5_noNotices_1 ?_
  refine y_iload_n C dX5_noNotices_4 rfl 1 rfl ?_
  obtain ⟨hi1, hf⟩ := ck_e hf
  refine y_ialdR C a56 (j := x1.toNatClampNeg) rfl hi1 dX5_noNotices_5 ?_
  refine y_if_ge C 15 dX5_noNotices_6 (by decide) hf (fun hf => ?_) (fun hf => ?_)
  · refine y_aload_n C dX5_noNotices_15 rfl 0 rfl ?_
    refine g50_sizes C fl_X5_25 dX5_noNotices_16 ?_
    refine y_iload_n C dX5_noNotices_19 rfl 1 rfl ?_
    obtain ⟨hi2, hf⟩ := ck_e hf
    refine y_ialdR C a56 (j := x1.toNatClampNeg) rfl hi2 dX5_noNotices_20 ?_
    refine y_iconst C (v := 3) dX5_noNotices_21 (by decide) ?_
    refine y_irem C (by decide) dX5_noNotices_22 ?_
    refine y_if_eq C 32 dX5_noNotices_23 (by decide) hf (fun hf => ?_) (fun hf => ?_)
    · refine y_iconst C (v := 1) dX5_noNotices_32 (by decide) ?_
      refine y_istore_n C dX5_noNotices_33 rfl (Nat.le_of_ble_eq_true rfl) rfl (lv' := [(2, .int (1 : Int32)), (0, .ref (qAd E 50)), (1, .int x1)]) rfl ?_
      refine y_bipush C (v := 40) dX5_noNotices_34 (by decide) ?_
      refine y_iload_n C dX5_noNotices_36 rfl 2 rfl ?_
      refine y_imul C dX5_noNotices_37 ?_
      obtain ⟨v3, e_v3, hf⟩ := lt_e hf
      refine y_istore_n C dX5_noNotices_38 rfl (Nat.le_of_ble_eq_true rfl) e_v3 (lv' := [(3, .int v3), (2, .int (1 : Int32)), (0, .ref (qAd E 50)), (1, .int x1)]) rfl ?_
      refine y_sub [0, 1, 2, 3] rfl ?_
      refine lp_ind (P := fun a4 : Int32 × Int32 => Y E p l e rm_X5_noNotices_50 s m ([.ref (qAd E 50), .int x1] : List Value).toArray below meth c 4 (MQ below (PI E q.1 σ q.2) ([.ref (qAd E 50), .int x1] : List Value).toArray s 0 0 (qA E)) σ τ 39 [(3, .int a4.2), (2, .int a4.1), (0, .ref (qAd E 50)), (1, .int x1)] []) (fun r5 a4 ih_r5 hf => ?_) _ _ hf
      refine y_iload_n C dX5_noNotices_39 rfl 0 rfl ?_
      refine y_bipush C (v := 40) dX5_noNotices_40 (by decide) ?_
      refine y_iload_n C dX5_noNotices_42 rfl 3 rfl ?_
      refine y_imul C dX5_noNotices_43 ?_
      refine y_aload_n C dX5_noNotices_44 rfl 2 rfl ?_
      refine g50_sizes C fl_X5_25 dX5_noNotices_45 ?_
      refine y_iload_n C dX5_noNotices_48 rfl 3 rfl ?_
      obtain ⟨hi6, hf⟩ := ck_e hf
      refine y_ialdR C a56 (j := x1.toNatClampNeg) rfl hi6 dX5_noNotices_49 ?_
      refine y_iadd C dX5_noNotices_50 ?_
      refine y_icmp_ge C 125 dX5_noNotices_51 (by decide) hf (fun hf => ?_) (fun hf => ?_)
      · refine y_iload_n C dX5_noNotices_125 rfl 1 rfl ?_
        refine y_if_eq C 133 dX5_noNotices_126 (by decide) hf (fun hf => ?_) (fun hf => ?_)
        · refine y_aload_n C dX5_noNotices_133 rfl 2 rfl ?_
          refine y_iconst C (v := 3) dX5_noNotices_134 (by decide) ?_
          obtain ⟨q7, h_q7, hf⟩ := bd_e hf
          refine y_cVi C (kX5_find_50 l E σ τ (3 : Int32) _ h_q7) vi_X5_find ml_X5_87 ⟨5, _, o50, rfl, rfl⟩ rfl ⟨rfl, rfl, Nat.le_of_ble_eq_true rfl, Nat.le_of_ble_eq_true rfl⟩ dX5_noNotices_135 rfl (Nat.le_of_ble_eq_true rfl) ?_
          exact y_iret C (rs1 hf) rfl (rs2 hf) dX5_noNotices_138
        · refine y_iconst C (v := 0) dX5_noNotices_129 (by decide) ?_
          refine y_goto C 138 dX5_noNotices_130 (by decide) ?_
          exact y_iret C (rs1 hf) rfl (rs2 hf) dX5_noNotices_138
      · refine y_iload_n C dX5_noNotices_54 rfl 1 rfl ?_
        refine y_if_eq C 117 dX5_noNotices_55 (by decide) hf (fun hf => ?_) (fun hf => ?_)
        · refine y_iconst C (v := 0) dX5_noNotices_117 (by decide) ?_
          refine y_istore_n C dX5_noNotices_118 rfl (Nat.le_of_ble_eq_true rfl) rfl (lv' := [(2, .int (0 : Int32)), (3, .int a4.2), (0, .ref (qAd E 50)), (1, .int x1)]) rfl ?_
          refine y_iinc C dX5_noNotices_119 1 rfl (Nat.le_of_ble_eq_true rfl) (k2 := 3) (by decide) rfl (lv' := [(3, .int (a4.2 + (3 : Int32))), (2, .int (0 : Int32)), (0, .ref (qAd E 50)), (1, .int x1)]) rfl ?_
          refine y_goto C 39 dX5_noNotices_122 (by decide) ?_
          refine y_sub [0, 1, 2, 3] rfl ?_
          exact ih_r5 ((0 : Int32), (a4.2 + (3 : Int32))) hf
        · refine y_aload_n C dX5_noNotices_58 rfl 2 rfl ?_
          refine g50_items C fl_X5_28 dX5_noNotices_59 ?_
          refine y_iload_n C dX5_noNotices_62 rfl 0 rfl ?_
          obtain ⟨hi8, hf⟩ := ck_e hf
          refine y_ialdR C a57 (j := a4.2.toNatClampNeg) rfl hi8 dX5_noNotices_63 ?_
          refine y_i2l C dX5_noNotices_64 ?_
          refine y_lconst C (v := 1) dX5_noNotices_65 (by decide) ?_
          refine y_ldc2 C kl_X5_279 dX5_noNotices_66 ?_
          refine y_cSi C (kX5_in l E σ τ ((gM τ 57 a4.2.toNatClampNeg).toInt64) (1 : Int64) (9 : Int64) _ rfl) si_X5_in ml_X5_77 rfl ⟨rfl, rfl, Nat.le_of_ble_eq_true rfl, Nat.le_of_ble_eq_true rfl⟩ dX5_noNotices_69 rfl (Nat.le_of_ble_eq_true rfl) ?_
          refine y_if_eq C 117 dX5_noNotices_72 (by decide) hf (fun hf => ?_) (fun hf => ?_)
          · refine y_iconst C (v := 0) dX5_noNotices_117 (by decide) ?_
            refine y_istore_n C dX5_noNotices_118 rfl (Nat.le_of_ble_eq_true rfl) rfl (lv' := [(2, .int (0 : Int32)), (3, .int a4.2), (0, .ref (qAd E 50)), (1, .int x1)]) rfl ?_
            refine y_iinc C dX5_noNotices_119 1 rfl (Nat.le_of_ble_eq_true rfl) (k2 := 3) (by decide) rfl (lv' := [(3, .int (a4.2 + (3 : Int32))), (2, .int (0 : Int32)), (0, .ref (qAd E 50)), (1, .int x1)]) rfl ?_
            refine y_goto C 39 dX5_noNotices_122 (by decide) ?_
            refine y_sub [0, 1, 2, 3] rfl ?_
            exact ih_r5 ((0 : Int32), (a4.2 + (3 : Int32))) hf
          · refine y_aload_n C dX5_noNotices_75 rfl 2 rfl ?_
            refine g50_items C fl_X5_28 dX5_noNotices_76 ?_
            refine y_iload_n C dX5_noNotices_79 rfl 0 rfl ?_
            refine y_iconst C (v := 1) dX5_noNotices_80 (by decide) ?_
            refine y_iadd C dX5_noNotices_81 ?_
            obtain ⟨hi9, hf⟩ := ck_e hf
            refine y_ialdR C a57 (j := (a4.2 + (1 : Int32)).toNatClampNeg) rfl hi9 dX5_noNotices_82 ?_
            refine y_i2l C dX5_noNotices_83 ?_
            refine y_ldc2 C kl_X5_281 dX5_noNotices_84 ?_
            refine y_ldc2 C kl_X5_283 dX5_noNotices_87 ?_
            refine y_cSi C (kX5_in l E σ τ ((gM τ 57 ((a4.2 + (1 : Int32)).toNatClampNeg)).toInt64) (-9 : Int64) (20 : Int64) _ rfl) si_X5_in ml_X5_77 rfl ⟨rfl, rfl, Nat.le_of_ble_eq_true rfl, Nat.le_of_ble_eq_true rfl⟩ dX5_noNotices_90 rfl (Nat.le_of_ble_eq_true rfl) ?_
            refine y_if_eq C 117 dX5_noNotices_93 (by decide) hf (fun hf => ?_) (fun hf => ?_)
            · refine y_iconst C (v := 0) dX5_noNotices_117 (by decide) ?_
              refine y_istore_n C dX5_noNotices_118 rfl (Nat.le_of_ble_eq_true rfl) rfl (lv' := [(2, .int (0 : Int32)), (3, .int a4.2), (0, .ref (qAd E 50)), (1, .int x1)]) rfl ?_
              refine y_iinc C dX5_noNotices_119 1 rfl (Nat.le_of_ble_eq_true rfl) (k2 := 3) (by decide) rfl (lv' := [(3, .int (a4.2 + (3 : Int32))), (2, .int (0 : Int32)), (0, .ref (qAd E 50)), (1, .int x1)]) rfl ?_
              refine y_goto C 39 dX5_noNotices_122 (by decide) ?_
              refine y_sub [0, 1, 2, 3] rfl ?_
              exact ih_r5 ((0 : Int32), (a4.2 + (3 : Int32))) hf
            · refine y_aload_n C dX5_noNotices_96 rfl 2 rfl ?_
              refine g50_items C fl_X5_28 dX5_noNotices_97 ?_
              refine y_iload_n C dX5_noNotices_100 rfl 0 rfl ?_
              refine y_iconst C (v := 2) dX5_noNotices_101 (by decide) ?_
              refine y_iadd C dX5_noNotices_102 ?_
              obtain ⟨hi10, hf⟩ := ck_e hf
              refine y_ialdR C a57 (j := (a4.2 + (2 : Int32)).toNatClampNeg) rfl hi10 dX5_noNotices_103 ?_
              refine y_i2l C dX5_noNotices_104 ?_
              refine y_lconst C (v := 0) dX5_noNotices_105 (by decide) ?_
              refine y_lconst C (v := 1) dX5_noNotices_106 (by decide) ?_
              refine y_cSi C (kX5_in l E σ τ ((gM τ 57 ((a4.2 + (2 : Int32)).toNatClampNeg)).toInt64) (0 : Int64) (1 : Int64) _ rfl) si_X5_in ml_X5_77 rfl ⟨rfl, rfl, Nat.le_of_ble_eq_true rfl, Nat.le_of_ble_eq_true rfl⟩ dX5_noNotices_107 rfl (Nat.le_of_ble_eq_true rfl) ?_
              refine y_if_eq C 117 dX5_noNotices_110 (by decide) hf (fun hf => ?_) (fun hf => ?_)
              · refine y_iconst C (v := 0) dX5_noNotices_117 (by decide) ?_
                refine y_istore_n C dX5_noNotices_118 rfl (Nat.le_of_ble_eq_true rfl) rfl (lv' := [(2, .int (0 : Int32)), (3, .int a4.2), (0, .ref (qAd E 50)), (1, .int x1)]) rfl ?_
                refine y_iinc C dX5_noNotices_119 1 rfl (Nat.le_of_ble_eq_true rfl) (k2 := 3) (by decide) rfl (lv' := [(3, .int (a4.2 + (3 : Int32))), (2, .int (0 : Int32)), (0, .ref (qAd E 50)), (1, .int x1)]) rfl ?_
                refine y_goto C 39 dX5_noNotices_122 (by decide) ?_
                refine y_sub [0, 1, 2, 3] rfl ?_
                exact ih_r5 ((0 : Int32), (a4.2 + (3 : Int32))) hf
              · refine y_iconst C (v := 1) dX5_noNotices_113 (by decide) ?_
                refine y_goto C 118 dX5_noNotices_114 (by decide) ?_
                refine y_istore_n C dX5_noNotices_118 rfl (Nat.le_of_ble_eq_true rfl) rfl (lv' := [(2, .int (1 : Int32)), (3, .int a4.2), (0, .ref (qAd E 50)), (1, .int x1)]) rfl ?_
                refine y_iinc C dX5_noNotices_119 1 rfl (Nat.le_of_ble_eq_true rfl) (k2 := 3) (by decide) rfl (lv' := [(3, .int (a4.2 + (3 : Int32))), (2, .int (1 : Int32)), (0, .ref (qAd E 50)), (1, .int x1)]) rfl ?_
                refine y_goto C 39 dX5_noNotices_122 (by decide) ?_
                refine y_sub [0, 1, 2, 3] rfl ?_
                exact ih_r5 ((1 : Int32), (a4.2 + (3 : Int32))) hf
    · refine y_aload_n C dX5_noNotices_26 rfl 0 rfl ?_
      refine y_iconst C (v := 5) dX5_noNotices_27 (by decide) ?_
      obtain ⟨q11, h_q11, hf⟩ := bd_e hf
      refine y_cVi C (kX5_find_50 l E σ τ (5 : Int32) _ h_q11) vi_X5_find ml_X5_87 ⟨5, _, o50, rfl, rfl⟩ rfl ⟨rfl, rfl, Nat.le_of_ble_eq_true rfl, Nat.le_of_ble_eq_true rfl⟩ dX5_noNotices_28 rfl (Nat.le_of_ble_eq_true rfl) ?_
      exact y_iret C (rs1 hf) rfl (rs2 hf) dX5_noNotices_31
  · refine y_aload_n C dX5_noNotices_9 rfl 0 rfl ?_
    refine y_iconst C (v := 1) dX5_noNotices_10 (by decide) ?_
    obtain ⟨q12, h_q12, hf⟩ := bd_e hf
    refine y_cVi C (kX5_find_50 l E σ τ (1 : Int32) _ h_q12) vi_X5_find ml_X5_87 ⟨5, _, o50, rfl, rfl⟩ rfl ⟨rfl, rfl, Nat.le_of_ble_eq_true rfl, Nat.le_of_ble_eq_true rfl⟩ dX5_noNotices_11 rfl (Nat.le_of_ble_eq_true rfl) ?_
    exact y_iret C (rs1 hf) rfl (rs2 hf) dX5_noNotices_14
