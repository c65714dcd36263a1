noncomputable def fX4_lots_0 (x1 : Int32) (σ : QS) : Option (Int32 × QS) :=
    (if x1 < (1 : Int32) then some ((-1 : Int32), σ) else (if x1 < (2147483647 : Int32) then lt_ (fX0_scenesYet_6 σ) (fun (v1 : Int32) => (if v1 = 0 then some ((-4 : Int32), σ) else (if ((gI σ 12) + v1) ≤ (40 : Int32) then lt_ (gI σ 18) (fun (v2 : Int32) => lp_ (fun (r4 : Int64 × Int32 × QS → Option (Int32 × QS)) (a3 : Int64 × Int32 × QS) => (if v1 ≤ a3.2.1 then some (((gI a3.2.2 18) - v2), a3.2.2) else lt_ ((a3.1 * (48271 : Int64)) - (a3.1 * (48271 : Int64)) / (2147483647 : Int64) * (2147483647 : Int64)) (fun (v5 : Int64) => Option.bind (fX0_free_6 a3.2.2) (fun (q6 : Int32) => Option.bind (fX4_drawn q6 ((v5 / (8 : Int64)).toInt32)) (fun (q7 : Int32) => Option.bind (fX0_perform_6 q7 a3.2.2) (fun (q8 : QS) => r4 (v5, (a3.2.1 + (1 : Int32)), q8))))))) FV (x1.toInt64, (0 : Int32), σ)) else some ((-2 : Int32), σ)))) else some ((-1 : Int32), σ)))
def rm_X4_lots_0 : Room := { frames := 6, cells := 0, slots := 0, locals := 137 }
set_option maxRecDepth 100000 in
set_option maxHeartbeats 4000000 in
theorem kX4_lots_0 (l : Launch) (E : QE) (σ τ : QS) (x1 : Int32) (q : Int32 × QS) (hf : fX4_lots_0 x1 σ = some q) : KQ l yX4_lots cX4_lots 7 (some .int) rm_X4_lots_0 E [.ref (qAd E 0), .int x1] σ τ (PI E q.1 q.2 τ) := by
  unfold fX4_lots_0 at hf
  refine y_met rfl (Nat.le_of_ble_eq_true rfl) rfl (fun p e s m below meth c C => ?_)
  refine y_iload_n C dX4_lots_0 rfl 1 rfl ?_
  refine y_iconst C (v := 1) dX4_lots_1 (by decide) ?_
  refine y_icmp_lt C 12 dX4_lots_2 (by decide) hf (fun hf => ?_) (fun hf => ?_)
  · refine y_iconst C (v := -1) dX4_lots_12 (by decide) ?_
    exact y_iret C (rs1 hf) (rs2 hf) rfl dX4_lots_13
  · refine y_iload_n C dX4_lots_5 rfl 1 rfl ?_
    refine y_ldcw C kc_X4_270 dX4_lots_6 ?_
    refine y_icmp_lt C 14 dX4_lots_9 (by decide) hf (fun hf => ?_) (fun hf => ?_)
    · refine y_aload_n C dX4_lots_14 rfl 0 rfl ?_
      refine g0_night C fl_X4_39 dX4_lots_15 ?_
      refine y_cVi C (kX0_scenesYet_6 l E σ τ _ rfl) vi_X0_scenesYet ml_X4_140 ⟨0, _, o6, rfl, rfl⟩ rfl ⟨rfl, rfl, Nat.le_of_ble_eq_true rfl, Nat.le_of_ble_eq_true rfl⟩ dX4_lots_18 rfl (Nat.le_of_ble_eq_true rfl) ?_
      obtain ⟨v1, e_v1, hf⟩ := lt_e hf
      refine y_istore_n C dX4_lots_21 rfl (Nat.le_of_ble_eq_true rfl) e_v1 (lv' := [(2, .int v1), (0, .ref (qAd E 0)), (1, .int x1)]) rfl ?_
      refine y_iload_n C dX4_lots_22 rfl 0 rfl ?_
      refine y_if_ne C 29 dX4_lots_23 (by decide) hf (fun hf => ?_) (fun hf => ?_)
      · refine y_aload_n C dX4_lots_29 rfl 1 rfl ?_
        refine g0_night C fl_X4_39 dX4_lots_30 ?_
        refine gN6_deedCount C fn_X4_150 dX4_lots_33 ?_
        refine y_iload_n C dX4_lots_36 rfl 0 rfl ?_
        refine y_iadd C dX4_lots_37 ?_
        refine y_bipush C (v := 40) dX4_lots_38 (by decide) ?_
        refine y_icmp_le C 46 dX4_lots_40 (by decide) hf (fun hf => ?_) (fun hf => ?_)
        · refine y_aload_n C dX4_lots_46 rfl 1 rfl ?_
          refine g0_night C fl_X4_39 dX4_lots_47 ?_
          refine gN6_carriedCount C fn_X4_156 dX4_lots_50 ?_
          obtain ⟨v2, e_v2, hf⟩ := lt_e hf
          refine y_istore_n C dX4_lots_53 rfl (Nat.le_of_ble_eq_true rfl) e_v2 (lv' := [(3, .int v2), (2, .int v1), (0, .ref (qAd E 0)), (1, .int x1)]) rfl ?_
          refine y_iload_n C dX4_lots_54 rfl 3 rfl ?_
          refine y_i2l C dX4_lots_55 ?_
          refine y_lstore C dX4_lots_56 (Nat.le_of_ble_eq_true rfl) rfl (lv' := [(4, .long x1.toInt64), (3, .int v2), (2, .int v1), (0, .ref (qAd E 0)), (1, .int x1)]) rfl ?_
          refine y_iconst C (v := 0) dX4_lots_58 (by decide) ?_
          refine y_istore C dX4_lots_59 (Nat.le_of_ble_eq_true rfl) rfl (lv' := [(6, .int (0 : Int32)), (4, .long x1.toInt64), (3, .int v2), (2, .int v1), (0, .ref (qAd E 0)), (1, .int x1)]) rfl ?_
          refine y_sub [0, 1, 2, 3, 4] rfl ?_
          refine lp_ind (P := fun a3 : Int64 × Int32 × QS => Y E p l e rm_X4_lots_0 s m ([.ref (qAd E 0), .int x1] : List Value).toArray below meth c 7 (MQ below (PI E q.1 q.2 τ) ([.ref (qAd E 0), .int x1] : List Value).toArray s 0 0 (qA E)) a3.2.2 τ 61 [(6, .int a3.2.1), (4, .long a3.1), (3, .int v2), (2, .int v1), (0, .ref (qAd E 0))] []) (fun r4 a3 ih_r4 hf => ?_) _ _ hf
          refine y_iload C dX4_lots_61 0 rfl ?_
          refine y_iload_n C dX4_lots_63 rfl 3 rfl ?_
          refine y_icmp_ge C 109 dX4_lots_64 (by decide) hf (fun hf => ?_) (fun hf => ?_)
          · refine y_aload_n C dX4_lots_109 rfl 4 rfl ?_
            refine g0_night C fl_X4_39 dX4_lots_110 ?_
            refine gN6_carriedCount C fn_X4_156 dX4_lots_113 ?_
            refine y_iload_n C dX4_lots_116 rfl 2 rfl ?_
            refine y_isub C dX4_lots_117 ?_
            exact y_iret C (rs1 hf) (rs2 hf) rfl dX4_lots_118
          · refine y_lload C dX4_lots_67 1 rfl ?_
            refine y_ldc2 C kl_X4_271 dX4_lots_69 ?_
            refine y_lmul C dX4_lots_72 ?_
            refine y_ldc2 C kl_X4_273 dX4_lots_73 ?_
            refine y_lrem C (by decide) dX4_lots_76 ?_
            obtain ⟨v5, e_v5, hf⟩ := lt_e hf
            refine y_lstore C dX4_lots_77 (Nat.le_of_ble_eq_true rfl) e_v5 (lv' := [(4, .long v5), (6, .int a3.2.1), (3, .int v2), (2, .int v1), (0, .ref (qAd E 0))]) rfl ?_
            refine y_aload_n C dX4_lots_79 rfl 4 rfl ?_
            refine g0_night C fl_X4_39 dX4_lots_80 ?_
            refine y_aload_n C dX4_lots_83 rfl 4 rfl ?_
            refine g0_night C fl_X4_39 dX4_lots_84 ?_
            obtain ⟨q6, h_q6, hf⟩ := bd_e hf
            refine y_cVi C (kX0_free_6 l E a3.2.2 τ _ h_q6) vi_X0_free ml_X4_144 ⟨0, _, o6, rfl, rfl⟩ rfl ⟨rfl, rfl, Nat.le_of_ble_eq_true rfl, Nat.le_of_ble_eq_true rfl⟩ dX4_lots_87 rfl (Nat.le_of_ble_eq_true rfl) ?_
            refine y_lload C dX4_lots_90 0 rfl ?_
            refine y_ldc2 C kl_X4_275 dX4_lots_92 ?_
            refine y_ldiv C (by decide) dX4_lots_95 ?_
            refine y_l2i C dX4_lots_96 ?_
            obtain ⟨q7, h_q7, hf⟩ := bd_e hf
            refine y_cSi C (kX4_drawn l E a3.2.2 τ q6 ((v5 / (8 : Int64)).toInt32) _ h_q7) si_X4_drawn ml_X4_277 rfl ⟨rfl, rfl, Nat.le_of_ble_eq_true rfl, Nat.le_of_ble_eq_true rfl⟩ dX4_lots_97 rfl (Nat.le_of_ble_eq_true rfl) ?_
            obtain ⟨q8, h_q8, hf⟩ := bd_e hf
            refine y_cVv C (kX0_perform_6 l E a3.2.2 τ q7 _ h_q8) vi_X0_perform ml_X4_159 ⟨0, _, o6, rfl, rfl⟩ rfl ⟨rfl, rfl, Nat.le_of_ble_eq_true rfl, Nat.le_of_ble_eq_true rfl⟩ dX4_lots_100 rfl (Nat.le_of_ble_eq_true rfl) ?_
            refine y_iinc C dX4_lots_103 1 rfl (Nat.le_of_ble_eq_true rfl) (k2 := 1) (by decide) rfl (lv' := [(6, .int (a3.2.1 + (1 : Int32))), (4, .long v5), (3, .int v2), (2, .int v1), (0, .ref (qAd E 0))]) rfl ?_
            refine y_goto C 61 dX4_lots_106 (by decide) ?_
            refine y_sub [0, 1, 2, 3, 4] rfl ?_
            exact ih_r4 (v5, (a3.2.1 + (1 : Int32)), q8) hf
        · refine y_bipush C (v := -2) dX4_lots_43 (by decide) ?_
          exact y_iret C (rs1 hf) (rs2 hf) rfl dX4_lots_45
      · refine y_bipush C (v := -4) dX4_lots_26 (by decide) ?_
        exact y_iret C (rs1 hf) (rs2 hf) rfl dX4_lots_28
    · refine y_iconst C (v := -1) dX4_lots_12 (by decide) ?_
      exact y_iret C (rs1 hf) (rs2 hf) rfl dX4_lots_13
noncomputable def fX5_nth (x0 : Int32) (x1 : Int32) : Option (Int32) :=
    lp_ (fun (r2 : Int32 × Int32 → Option (Int32)) (a1 : Int32 × Int32) => lt_ (fun (_ : Unit) => (if (fX5_has x0 a1.2) = 0 then lt_ (a1.1 - (0 : Int32)) (fun (v4 : Int32) => r2 (v4, (a1.2 + (1 : Int32)))) else lt_ (a1.1 - (1 : Int32)) (fun (v5 : Int32) => r2 (v5, (a1.2 + (1 : Int32)))))) (fun (j3 : Unit → Option (Int32)) => (if (fX5_has x0 a1.2) = 0 then j3 () else (if a1.1 ≤ 0 then some a1.2 else j3 ())))) FV (x1, (0 : Int32))
def rm_X5_nth : Room := { frames := 1, cells := 0, slots := 0, locals := 21 }
set_option maxRecDepth 100000 in
set_option maxHeartbeats 4000000 in
theorem kX5_nth (l : Launch) (E : QE) (σ τ : QS) (x0 : Int32) (x1 : Int32) (q : Int32) (hf : fX5_nth x0 x1 = some q) : KQ l yX5_nth cX5_nth 4 (some .int) rm_X5_nth E [.int x0, .int x1] σ τ (PI E q σ τ) := by
  unfold fX5_nth at hf
  refine y_met rfl (Nat.le_of_ble_eq_true rfl) rfl (fun p e s m below meth c C => ?_)
  refine y_iload_n C dX5_nth_0 rfl 1 rfl ?_
  refine y_istore_n C dX5_nth_1 rfl (Nat.le_of_ble_eq_true rfl) rfl (lv' := [(2, .int x1), (0, .int x0), (1, .int x1)]) rfl ?_
  refine y_iconst C (v := 0) dX5_nth_2 (by decide) ?_
  refine y_istore_n C dX5_nth_3 rfl (Nat.le_of_ble_eq_true rfl) rfl (lv' := [(3, .int (0 : Int32)), (2, .int x1), (0, .int x0), (1, .int x1)]) rfl ?_
  refine y_sub [0, 1, 2] rfl ?_
  refine lp_ind (P := fun a1 : Int32 × Int32 => Y E p l e rm_X5_nth s m ([.int x0, .int x1] : List Value).toArray below meth c 4 (MQ below (PI E q σ τ) ([.int x0, .int x1] : List Value).toArray s 0 0 (qA E)) σ τ 4 [(3, .int a1.2), (2, .int a1.1), (0, .int x0)] []) (fun r2 a1 ih_r2 hf => ?_) _ _ hf
  refine y_iload_n C dX5_nth_4 rfl 2 rfl ?_
  refine y_iload_n C dX5_nth_5 rfl 0 rfl ?_
  refine y_cSi C (kX5_has l E σ τ x0 a1.2 _ rfl) si_X5_has ml_X5_147 rfl ⟨rfl, rfl, Nat.le_of_ble_eq_true rfl, Nat.le_of_ble_eq_true rfl⟩ dX5_nth_6 rfl (Nat.le_of_ble_eq_true rfl) ?_
  obtain ⟨j3, ek_j3, hf⟩ := lt_e hf
  have h_j3 : ∀ (_ : Unit), j3 () = some q → Y E p l e rm_X5_nth s m ([.int x0, .int x1] : List Value).toArray below meth c 4 (MQ below (PI E q σ τ) ([.int x0, .int x1] : List Value).toArray s 0 0 (qA E)) σ τ 16 [(0, .int x0), (2, .int a1.1), (3, .int a1.2)] [] := by
    intro _ hf
    replace hf := (congrFun (ek_j3) ()).symm.trans hf
    refine y_iload_n C dX5_nth_16 rfl 1 rfl ?_
    refine y_iload_n C dX5_nth_17 rfl 0 rfl ?_
    refine y_iload_n C dX5_nth_18 rfl 2 rfl ?_
    refine y_cSi C (kX5_has l E σ τ x0 a1.2 _ rfl) si_X5_has ml_X5_147 rfl ⟨rfl, rfl, Nat.le_of_ble_eq_true rfl, Nat.le_of_ble_eq_true rfl⟩ dX5_nth_19 rfl (Nat.le_of_ble_eq_true rfl) ?_
    refine y_if_eq C 29 dX5_nth_22 (by decide) hf (fun hf => ?_) (fun hf => ?_)
    · refine y_iconst C (v := 0) dX5_nth_29 (by decide) ?_
      refine y_isub C dX5_nth_30 ?_
      obtain ⟨v4, e_v4, hf⟩ := lt_e hf
      refine y_istore_n C dX5_nth_31 rfl (Nat.le_of_ble_eq_true rfl) e_v4 (lv' := [(2, .int v4), (0, .int x0), (3, .int a1.2)]) rfl ?_
      refine y_iinc C dX5_nth_32 2 rfl (Nat.le_of_ble_eq_true rfl) (k2 := 1) (by decide) rfl (lv' := [(3, .int (a1.2 + (1 : Int32))), (2, .int v4), (0, .int x0)]) rfl ?_
      refine y_goto C 4 dX5_nth_35 (by decide) ?_
      refine y_sub [0, 1, 2] rfl ?_
      exact ih_r2 (v4, (a1.2 + (1 : Int32))) hf
    · refine y_iconst C (v := 1) dX5_nth_25 (by decide) ?_
      refine y_goto C 30 dX5_nth_26 (by decide) ?_
      refine y_isub C dX5_nth_30 ?_
      obtain ⟨v5, e_v5, hf⟩ := lt_e hf
      refine y_istore_n C dX5_nth_31 rfl (Nat.le_of_ble_eq_true rfl) e_v5 (lv' := [(2, .int v5), (0, .int x0), (3, .int a1.2)]) rfl ?_
      refine y_iinc C dX5_nth_32 2 rfl (Nat.le_of_ble_eq_true rfl) (k2 := 1) (by decide) rfl (lv' := [(3, .int (a1.2 + (1 : Int32))), (2, .int v5), (0, .int x0)]) rfl ?_
      refine y_goto C 4 dX5_nth_35 (by decide) ?_
      refine y_sub [0, 1, 2] rfl ?_
      exact ih_r2 (v5, (a1.2 + (1 : Int32))) hf
  refine y_if_eq C 16 dX5_nth_9 (by decide) hf (fun hf => ?_) (fun hf => ?_)
  · refine y_sub [2, 1, 0] rfl ?_
    exact h_j3 () hf
  · refine y_iload_n C dX5_nth_12 rfl 1 rfl ?_
    refine y_if_le C 38 dX5_nth_13 (by decide) hf (fun hf => ?_) (fun hf => ?_)
    · refine y_iload_n C dX5_nth_38 rfl 0 rfl ?_
      exact y_iret C (Option.some.inj hf) rfl rfl dX5_nth_39
    · refine y_sub [2, 1, 0] rfl ?_
      exact h_j3 () hf
noncomputable def fX5_lots_50 (x1 : Int32) (τ : QS) : Option (Int32 × QS) :=
    (if (fX5_in x1.toInt64 (1 : Int64) (2147483646 : Int64)) = 0 then some ((-1 : Int32), τ) else (if (fX5_isOver_50 τ) = 0 then (if (((gM τ 51 0) + (gI τ 0)) - (gM τ 51 1)) ≤ (40 : Int32) then lp_ (fun (r2 : Int64 × Int32 × QS → Option (Int32 × QS)) (a1 : Int64 × Int32 × QS) => (if (fX5_isOver_50 a1.2.2) = 0 then lt_ ((a1.1 * (48271 : Int64)) - (a1.1 * (48271 : Int64)) / (2147483647 : Int64) * (2147483647 : Int64)) (fun (v3 : Int64) => Option.bind (fX5_canBits_50 (gM a1.2.2 51 6) a1.2.2) (fun (q4 : Int32) => (if q4 = 0 then Option.bind (fX5_doCut_50 a1.2.2) (fun (q10 : QS) => r2 (v3, a1.2.1, q10)) else Option.bind (fX5_bits q4) (fun (q5 : Int32) => ck_ (ne0L q5.toInt64) (Option.bind (fX5_nth q4 (((v3 / (8 : Int64)) - (v3 / (8 : Int64)) / q5.toInt64 * q5.toInt64).toInt32)) (fun (q7 : Int32) => Option.bind (fX5_doCall_50 q7 a1.2.2) (fun (q8 : Int32 × QS) => lt_ (a1.2.1 + q8.1) (fun (v9 : Int32) => r2 (v3, v9, q8.2))))))))) else some (a1.2.1, a1.2.2))) FV (x1.toInt64, (0 : Int32), τ) else some ((-2 : Int32), τ)) else some ((-4 : Int32), τ)))
def rm_X5_lots_50 : Room := { frames := 6, cells := 0, slots := 0, locals := 138 }
set_option maxRecDepth 100000 in
set_option maxHeartbeats 4000000 in
theorem kX5_lots_50 (l : Launch) (E : QE) (σ τ : QS) (x1 : Int32) (q : Int32 × QS) (hf : fX5_lots_50 x1 τ = some q) : KQ l yX5_lots cX5_lots 6 (some .int) rm_X5_lots_50 E [.ref (qAd E 50), .int x1] σ τ (PI E q.1 σ q.2) := by
  unfold fX5_lots_50 at hf
  refine y_met rfl (Nat.le_of_ble_eq_true rfl) rfl (fun p e s m below meth c C => ?_)
  refine y_iload_n C dX5_lots_0 rfl 1 rfl ?_
  refine y_i2l C dX5_lots_1 ?_
  refine y_lconst C (v := 1) dX5_lots_2 (by decide) ?_
  refine y_ldc2 C kl_X5_311 dX5_lots_3 ?_
  refine y_cSi C (kX5_in l E σ τ x1.toInt64 (1 : Int64) (2147483646 : Int64) _ rfl) si_X5_in ml_X5_77 rfl ⟨rfl, rfl, Nat.le_of_ble_eq_true rfl, Nat.le_of_ble_eq_true rfl⟩ dX5_lots_6 rfl (Nat.le_of_ble_eq_true rfl) ?_
  refine y_if_ne C 14 dX5_lots_9 (by decide) hf (fun hf => ?_) (fun hf => ?_)
  · refine y_aload_n C dX5_lots_14 rfl 0 rfl ?_
    refine y_cVi C (kX5_isOver_50 l E σ τ _ rfl) vi_X5_isOver ml_X5_222 ⟨5, _, o50, rfl, rfl⟩ rfl ⟨rfl, rfl, Nat.le_of_ble_eq_true rfl, Nat.le_of_ble_eq_true rfl⟩ dX5_lots_15 rfl (Nat.le_of_ble_eq_true rfl) ?_
    refine y_if_eq C 24 dX5_lots_18 (by decide) hf (fun hf => ?_) (fun hf => ?_)
    · refine y_aload_n C dX5_lots_24 rfl 0 rfl ?_
      refine g50_row C fl_X5_7 dX5_lots_25 ?_
      refine y_iconst C (v := 0) dX5_lots_28 (by decide) ?_
      refine y_ialdR C a51 (j := 0) (by decide) (by decide) dX5_lots_29 ?_
      refine y_aload_n C dX5_lots_30 rfl 0 rfl ?_
      refine g50_scenes C fl_X5_160 dX5_lots_31 ?_
      refine y_iadd C dX5_lots_34 ?_
      refine y_aload_n C dX5_lots_35 rfl 0 rfl ?_
      refine g50_row C fl_X5_7 dX5_lots_36 ?_
      refine y_iconst C (v := 1) dX5_lots_39 (by decide) ?_
      refine y_ialdR C a51 (j := 1) (by decide) (by decide) dX5_lots_40 ?_
      refine y_isub C dX5_lots_41 ?_
      refine y_bipush C (v := 40) dX5_lots_42 (by decide) ?_
      refine y_icmp_le C 50 dX5_lots_44 (by decide) hf (fun hf => ?_) (fun hf => ?_)
      · refine y_iload_n C dX5_lots_50 rfl 1 rfl ?_
        refine y_i2l C dX5_lots_51 ?_
        refine y_lstore_n C dX5_lots_52 rfl (Nat.le_of_ble_eq_true rfl) rfl (lv' := [(2, .long x1.toInt64), (0, .ref (qAd E 50)), (1, .int x1)]) rfl ?_
        refine y_iconst C (v := 0) dX5_lots_53 (by decide) ?_
        refine y_istore C dX5_lots_54 (Nat.le_of_ble_eq_true rfl) rfl (lv' := [(4, .int (0 : Int32)), (2, .long x1.toInt64), (0, .ref (qAd E 50)), (1, .int x1)]) rfl ?_
        refine y_sub [0, 1, 2] rfl ?_
        refine lp_ind (P := fun a1 : Int64 × Int32 × QS => Y E p l e rm_X5_lots_50 s m ([.ref (qAd E 50), .int x1] : List Value).toArray below meth c 6 (MQ below (PI E q.1 σ q.2) ([.ref (qAd E 50), .int x1] : List Value).toArray s 0 0 (qA E)) σ a1.2.2 56 [(4, .int a1.2.1), (2, .long a1.1), (0, .ref (qAd E 50))] []) (fun r2 a1 ih_r2 hf => ?_) _ _ hf
        refine y_aload_n C dX5_lots_56 rfl 2 rfl ?_
        refine y_cVi C (kX5_isOver_50 l E σ a1.2.2 _ rfl) vi_X5_isOver ml_X5_222 ⟨5, _, o50, rfl, rfl⟩ rfl ⟨rfl, rfl, Nat.le_of_ble_eq_true rfl, Nat.le_of_ble_eq_true rfl⟩ dX5_lots_57 rfl (Nat.le_of_ble_eq_true rfl) ?_
        refine y_if_ne C 128 dX5_lots_60 (by decide) hf (fun hf => ?_) (fun hf => ?_)
        · refine y_iload C dX5_lots_128 0 rfl ?_
          exact y_iret C (rs1 hf) rfl (rs2 hf) dX5_lots_130
        · refine y_lload_n C dX5_lots_63 rfl 1 rfl ?_
          refine y_ldc2 C kl_X5_313 dX5_lots_64 ?_
          refine y_lmul C dX5_lots_67 ?_
          refine y_ldc2 C kl_X5_315 dX5_lots_68 ?_
          refine y_lrem C (by decide) dX5_lots_71 ?_
          obtain ⟨v3, e_v3, hf⟩ := lt_e hf
          refine y_lstore_n C dX5_lots_72 rfl (Nat.le_of_ble_eq_true rfl) e_v3 (lv' := [(2, .long v3), (4, .int a1.2.1), (0, .ref (qAd E 50))]) rfl ?_
          refine y_aload_n C dX5_lots_73 rfl 2 rfl ?_
          refine y_aload_n C dX5_lots_74 rfl 2 rfl ?_
          refine g50_row C fl_X5_7 dX5_lots_75 ?_
          refine y_bipush C (v := 6) dX5_lots_78 (by decide) ?_
          refine y_ialdR C a51 (j := 6) (by decide) (by decide) dX5_lots_80 ?_
          obtain ⟨q4, h_q4, hf⟩ := bd_e hf
          refine y_cVi C (kX5_canBits_50 l E σ a1.2.2 (gM a1.2.2 51 6) _ h_q4) vi_X5_canBits ml_X5_234 ⟨5, _, o50, rfl, rfl⟩ rfl ⟨rfl, rfl, Nat.le_of_ble_eq_true rfl, Nat.le_of_ble_eq_true rfl⟩ dX5_lots_81 rfl (Nat.le_of_ble_eq_true rfl) ?_
          refine y_istore C dX5_lots_84 (Nat.le_of_ble_eq_true rfl) rfl (lv' := [(5, .int q4), (2, .long v3), (4, .int a1.2.1), (0, .ref (qAd E 50))]) rfl ?_
          refine y_iload C dX5_lots_86 0 rfl ?_
          refine y_if_ne C 98 dX5_lots_88 (by decide) hf (fun hf => ?_) (fun hf => ?_)
          · refine y_iload C dX5_lots_98 2 rfl ?_
            refine y_aload_n C dX5_lots_100 rfl 3 rfl ?_
            refine y_iload C dX5_lots_101 0 rfl ?_
            refine y_lload_n C dX5_lots_103 rfl 1 rfl ?_
            refine y_ldc2 C kl_X5_317 dX5_lots_104 ?_
            refine y_ldiv C (by decide) dX5_lots_107 ?_
            refine y_iload C dX5_lots_108 0 rfl ?_
            obtain ⟨q5, h_q5, hf⟩ := bd_e hf
            refine y_cSi C (kX5_bits l E σ a1.2.2 q4 _ h_q5) si_X5_bits ml_X5_237 rfl ⟨rfl, rfl, Nat.le_of_ble_eq_true rfl, Nat.le_of_ble_eq_true rfl⟩ dX5_lots_110 rfl (Nat.le_of_ble_eq_true rfl) ?_
            refine y_i2l C dX5_lots_113 ?_
            obtain ⟨hz6, hf⟩ := ck_e hf
            refine y_lrem C hz6 dX5_lots_114 ?_
            refine y_l2i C dX5_lots_115 ?_
            obtain ⟨q7, h_q7, hf⟩ := bd_e hf
            refine y_cSi C (kX5_nth l E σ a1.2.2 q4 (((v3 / (8 : Int64)) - (v3 / (8 : Int64)) / q5.toInt64 * q5.toInt64).toInt32) _ h_q7) si_X5_nth ml_X5_319 rfl ⟨rfl, rfl, Nat.le_of_ble_eq_true rfl, Nat.le_of_ble_eq_true rfl⟩ dX5_lots_116 rfl (Nat.le_of_ble_eq_true rfl) ?_
            obtain ⟨q8, h_q8, hf⟩ := bd_e hf
            refine y_cVi C (kX5_doCall_50 l E σ a1.2.2 q7 _ h_q8) vi_X5_doCall ml_X5_225 ⟨5, _, o50, rfl, rfl⟩ rfl ⟨rfl, rfl, Nat.le_of_ble_eq_true rfl, Nat.le_of_ble_eq_true rfl⟩ dX5_lots_119 rfl (Nat.le_of_ble_eq_true rfl) ?_
            refine y_iadd C dX5_lots_122 ?_
            obtain ⟨v9, e_v9, hf⟩ := lt_e hf
            refine y_istore C dX5_lots_123 (Nat.le_of_ble_eq_true rfl) e_v9 (lv' := [(4, .int v9), (5, .int q4), (2, .long v3), (0, .ref (qAd E 50))]) rfl ?_
            refine y_goto C 56 dX5_lots_125 (by decide) ?_
            refine y_sub [0, 2, 3] rfl ?_
            exact ih_r2 (v3, v9, q8.2) hf
          · refine y_aload_n C dX5_lots_91 rfl 3 rfl ?_
            obtain ⟨q10, h_q10, hf⟩ := bd_e hf
            refine y_cVv C (kX5_doCut_50 l E σ a1.2.2 _ h_q10) vi_X5_doCut ml_X5_228 ⟨5, _, o50, rfl, rfl⟩ rfl ⟨rfl, rfl, Nat.le_of_ble_eq_true rfl, Nat.le_of_ble_eq_true rfl⟩ dX5_lots_92 rfl (Nat.le_of_ble_eq_true rfl) ?_
            refine y_goto C 125 dX5_lots_95 (by decide) ?_
            refine y_goto C 56 dX5_lots_125 (by decide) ?_
            refine y_sub [2, 1, 3] rfl ?_
            exact ih_r2 (v3, a1.2.1, q10) hf
      · refine y_bipush C (v := -2) dX5_lots_47 (by decide) ?_
        exact y_iret C (rs1 hf) rfl (rs2 hf) dX5_lots_49
    · refine y_bipush C (v := -4) dX5_lots_21 (by decide) ?_
      exact y_iret C (rs1 hf) rfl (rs2 hf) dX5_lots_23
  · refine y_iconst C (v := -1) dX5_lots_12 (by decide) ?_
    exact y_iret C (rs1 hf) rfl (rs2 hf) dX5_lots_13
noncomputable def fX4_asked_0  (σ : QS) : Int32 :=
    (gI σ 1)
def rm_X4_asked_0 : Room := { frames := 0, cells := 0, slots := 0, locals := 0 }
set_option maxRecDepth 100000 in
set_option maxHeartbeats 4000000 in
theorem kX4_asked_0 (l : Launch) (E : QE) (σ τ : QS)  (q : Int32) (hf : fX4_asked_0 σ = q) : KQ l yX4_asked cX4_asked 1 (some .int) rm_X4_asked_0 E [.ref (qAd E 0)] σ τ (PI E q σ τ) := by
  unfold fX4_asked_0 at hf
  refine y_met rfl (Nat.le_of_ble_eq_true rfl) rfl (fun p e s m below meth c C => ?_)
  refine y_aload_n C dX4_asked_0 rfl 0 rfl ?_
  refine g0_lastTold C fl_X4_280 dX4_asked_1 ?_
  exact y_iret C hf rfl rfl dX4_asked_4
noncomputable def fX5_asked_50  (τ : QS) : Int32 :=
    (gI τ 2)
def rm_X5_asked_50 : Room := { frames := 0, cells := 0, slots := 0, locals := 0 }
set_option maxRecDepth 100000 in
set_option maxHeartbeats 4000000 in
theorem kX5_asked_50 (l : Launch) (E : QE) (σ τ : QS)  (q : Int32) (hf : fX5_asked_50 τ = q) : KQ l yX5_asked cX5_asked 1 (some .int) rm_X5_asked_50 E [.ref (qAd E 50)] σ τ (PI E q σ τ) := by
  unfold fX5_asked_50 at hf
  refine y_met rfl (Nat.le_of_ble_eq_true rfl) rfl (fun p e s m below meth c C => ?_)
  refine y_aload_n C dX5_asked_0 rfl 0 rfl ?_
  refine g50_asked C fl_X5_72 dX5_asked_1 ?_
  exact y_iret C hf rfl rfl dX5_asked_4
noncomputable def fX4_upper_0  (σ : QS) : Int64 :=
    (gJ σ 0)
def rm_X4_upper_0 : Room := { frames := 0, cells := 0, slots := 0, locals := 0 }
set_option maxRecDepth 100000 in
set_option maxHeartbeats 4000000 in
theorem kX4_upper_0 (l : Launch) (E : QE) (σ τ : QS)  (q : Int64) (hf : fX4_upper_0 σ = q) : KQ l yX4_upper cX4_upper 1 (some .long) rm_X4_upper_0 E [.ref (qAd E 0)] σ τ (PL E q σ τ) := by
  unfold fX4_upper_0 at hf
  refine y_met rfl (Nat.le_of_ble_eq_true rfl) rfl (fun p e s m below meth c C => ?_)
  refine y_aload_n C dX4_upper_0 rfl 0 rfl ?_
  refine g0_upperTold C fl_X4_283 dX4_upper_1 ?_
  exact y_lret C hf rfl rfl dX4_upper_4
noncomputable def fX5_upper_50  (τ : QS) : Int64 :=
    (gJ τ 0)
def rm_X5_upper_50 : Room := { frames := 0, cells := 0, slots := 0, locals := 0 }
set_option maxRecDepth 100000 in
set_option maxHeartbeats 4000000 in
theorem kX5_upper_50 (l : Launch) (E : QE) (σ τ : QS)  (q : Int64) (hf : fX5_upper_50 τ = q) : KQ l yX5_upper cX5_upper 1 (some .long) rm_X5_upper_50 E [.ref (qAd E 50)] σ τ (PL E q σ τ) := by
  unfold fX5_upper_50 at hf
  refine y_met rfl (Nat.le_of_ble_eq_true rfl) rfl (fun p e s m below meth c C => ?_)
  refine y_aload_n C dX5_upper_0 rfl 0 rfl ?_
  refine g50_upper C fl_X5_270 dX5_upper_1 ?_
  exact y_lret C hf rfl rfl dX5_upper_4
noncomputable def fX4_lower_0  (σ : QS) : Int64 :=
    (gJ σ 1)
def rm_X4_lower_0 : Room := { frames := 0, cells := 0, slots := 0, locals := 0 }
set_option maxRecDepth 100000 in
set_option maxHeartbeats 4000000 in
theorem kX4_lower_0 (l : Launch) (E : QE) (σ τ : QS)  (q : Int64) (hf : fX4_lower_0 σ = q) : KQ l yX4_lower cX4_lower 1 (some .long) rm_X4_lower_0 E [.ref (qAd E 0)] σ τ (PL E q σ τ) := by
  unfold fX4_lower_0 at hf
  refine y_met rfl (Nat.le_of_ble_eq_true rfl) rfl (fun p e s m below meth c C => ?_)
  refine y_aload_n C dX4_lower_0 rfl 0 rfl ?_
  refine g0_lowerTold C fl_X4_56 dX4_lower_1 ?_
  exact y_lret C hf rfl rfl dX4_lower_4
noncomputable def fX5_lower_50  (τ : QS) : Int64 :=
    (gJ τ 1)
def rm_X5_lower_50 : Room := { frames := 0, cells := 0, slots := 0, locals := 0 }
set_option maxRecDepth 100000 in
set_option maxHeartbeats 4000000 in
theorem kX5_lower_50 (l : Launch) (E : QE) (σ τ : QS)  (q : Int64) (hf : fX5_lower_50 τ = q) : KQ l yX5_lower cX5_lower 1 (some .long) rm_X5_lower_50 E [.ref (qAd E 50)] σ τ (PL E q σ τ) := by
  unfold fX5_lower_50 at hf
  refine y_met rfl (Nat.le_of_ble_eq_true rfl) rfl (fun p e s m below meth c C => ?_)
  refine y_aload_n C dX5_lower_0 rfl 0 rfl ?_
  refine g50_lower C fl_X5_37 dX5_lower_1 ?_
  exact y_lret C hf rfl rfl dX5_lower_4
noncomputable def fX1_clerkCount_5  (σ : QS) : Option (Int32) :=
    lp_ (fun (r2 : Int32 × Int32 → Option (Int32)) (a1 : Int32 × Int32) => (if (gI σ 9) ≤ a1.2 then some a1.1 else ck_ (inb a1.2 6) ((if (fX4_isOfKind (gM σ 21 a1.2.toNatClampNeg) (1 : Int32)) = 0 then lt_ (a1.1 + (0 : Int32)) (fun (v4 : Int32) => r2 (v4, (a1.2 + (1 : Int32)))) else lt_ (a1.1 + (1 : Int32)) (fun (v5 : Int32) => r2 (v5, (a1.2 + (1 : Int32)))))))) FV ((0 : Int32), (0 : Int32))
def rm_X1_clerkCount_5 : Room := { frames := 1, cells := 0, slots := 0, locals := 21 }
set_option maxRecDepth 100000 in
set_option maxHeartbeats 4000000 in
theorem kX1_clerkCount_5 (l : Launch) (E : QE) (σ τ : QS)  (q : Int32) (hf : fX1_clerkCount_5 σ = some q) : KQ l yX1_clerkCount cX1_clerkCount 3 (some .int) rm_X1_clerkCount_5 E [.ref (qAd E 5)] σ τ (PI E q σ τ) := by
  unfold fX1_clerkCount_5 at hf
  refine y_met rfl (Nat.le_of_ble_eq_true rfl) rfl (fun p e s m below meth c C => ?_)
  refine y_iconst C (v := 0) dX1_clerkCount_0 (by decide) ?_
  refine y_istore_n C dX1_clerkCount_1 rfl (Nat.le_of_ble_eq_true rfl) rfl (lv' := [(1, .int (0 : Int32)), (0, .ref (qAd E 5))]) rfl ?_
  refine y_iconst C (v := 0) dX1_clerkCount_2 (by decide) ?_
  refine y_istore_n C dX1_clerkCount_3 rfl (Nat.le_of_ble_eq_true rfl) rfl (lv' := [(2, .int (0 : Int32)), (1, .int (0 : Int32)), (0, .ref (qAd E 5))]) rfl ?_
  refine y_sub [0, 1, 2] rfl ?_
  refine lp_ind (P := fun a1 : Int32 × Int32 => Y E p l e rm_X1_clerkCount_5 s m ([.ref (qAd E 5)] : List Value).toArray below meth c 3 (MQ below (PI E q σ τ) ([.ref (qAd E 5)] : List Value).toArray s 0 0 (qA E)) σ τ 4 [(2, .int a1.2), (1, .int a1.1), (0, .ref (qAd E 5))] []) (fun r2 a1 ih_r2 hf => ?_) _ _ hf
  refine y_iload_n C dX1_clerkCount_4 rfl 0 rfl ?_
  refine y_aload_n C dX1_clerkCount_5 rfl 2 rfl ?_
  refine g5_sitterCount C fl_X1_31 dX1_clerkCount_6 ?_
  refine y_icmp_ge C 39 dX1_clerkCount_9 (by decide) hf (fun hf => ?_) (fun hf => ?_)
  · refine y_iload_n C dX1_clerkCount_39 rfl 1 rfl ?_
    exact y_iret C (Option.some.inj hf) rfl rfl dX1_clerkCount_40
  · refine y_iload_n C dX1_clerkCount_12 rfl 1 rfl ?_
    refine y_aload_n C dX1_clerkCount_13 rfl 2 rfl ?_
    refine g5_kind C fl_X1_15 dX1_clerkCount_14 ?_
    refine y_iload_n C dX1_clerkCount_17 rfl 0 rfl ?_
    obtain ⟨hi3, hf⟩ := ck_e hf
    refine y_ialdC C a21 (j := a1.2.toNatClampNeg) rfl hi3 dX1_clerkCount_18 ?_
    refine y_iconst C (v := 1) dX1_clerkCount_19 (by decide) ?_
    refine y_cNi C (kX4_isOfKind l E σ τ (gM σ 21 a1.2.toNatClampNeg) (1 : Int32) _ rfl) si_X4_isOfKind mn_X1_77 rfl ⟨rfl, rfl, Nat.le_of_ble_eq_true rfl, Nat.le_of_ble_eq_true rfl⟩ dX1_clerkCount_20 rfl (Nat.le_of_ble_eq_true rfl) ?_
    refine y_if_eq C 30 dX1_clerkCount_23 (by decide) hf (fun hf => ?_) (fun hf => ?_)
    · refine y_iconst C (v := 0) dX1_clerkCount_30 (by decide) ?_
      refine y_iadd C dX1_clerkCount_31 ?_
      obtain ⟨v4, e_v4, hf⟩ := lt_e hf
      refine y_istore_n C dX1_clerkCount_32 rfl (Nat.le_of_ble_eq_true rfl) e_v4 (lv' := [(1, .int v4), (2, .int a1.2), (0, .ref (qAd E 5))]) rfl ?_
      refine y_iinc C dX1_clerkCount_33 1 rfl (Nat.le_of_ble_eq_true rfl) (k2 := 1) (by decide) rfl (lv' := [(2, .int (a1.2 + (1 : Int32))), (1, .int v4), (0, .ref (qAd E 5))]) rfl ?_
      refine y_goto C 4 dX1_clerkCount_36 (by decide) ?_
      refine y_sub [0, 1, 2] rfl ?_
      exact ih_r2 (v4, (a1.2 + (1 : Int32))) hf
    · refine y_iconst C (v := 1) dX1_clerkCount_26 (by decide) ?_
      refine y_goto C 31 dX1_clerkCount_27 (by decide) ?_
      refine y_iadd C dX1_clerkCount_31 ?_
      obtain ⟨v5, e_v5, hf⟩ := lt_e hf
      refine y_istore_n C dX1_clerkCount_32 rfl (Nat.le_of_ble_eq_true rfl) e_v5 (lv' := [(1, .int v5), (2, .int a1.2), (0, .ref (qAd E 5))]) rfl ?_
      refine y_iinc C dX1_clerkCount_33 1 rfl (Nat.le_of_ble_eq_true rfl) (k2 := 1) (by decide) rfl (lv' := [(2, .int (a1.2 + (1 : Int32))), (1, .int v5), (0, .ref (qAd E 5))]) rfl ?_
      refine y_goto C 4 dX1_clerkCount_36 (by decide) ?_
      refine y_sub [0, 1, 2] rfl ?_
      exact ih_r2 (v5, (a1.2 + (1 : Int32))) hf
noncomputable def fX3_thereCount_1  (σ : QS) : Option (Int32) :=
    lp_ (fun (r2 : Int32 × Int32 → Option (Int32)) (a1 : Int32 × Int32) => (if (6 : Int32) ≤ a1.2 then some a1.1 else Option.bind (fX3_has_1 a1.2 σ) (fun (q3 : Int32) => (if q3 = 0 then lt_ (a1.1 + (0 : Int32)) (fun (v4 : Int32) => r2 (v4, (a1.2 + (1 : Int32)))) else lt_ (a1.1 + (1 : Int32)) (fun (v5 : Int32) => r2 (v5, (a1.2 + (1 : Int32)))))))) FV ((0 : Int32), (0 : Int32))
def rm_X3_thereCount_1 : Room := { frames := 3, cells := 0, slots := 0, locals := 63 }
set_option maxRecDepth 100000 in
set_option maxHeartbeats 4000000 in
theorem kX3_thereCount_1 (l : Launch) (E : QE) (σ τ : QS)  (q : Int32) (hf : fX3_thereCount_1 σ = some q) : KQ l yX3_thereCount cX3_thereCount 3 (some .int) rm_X3_thereCount_1 E [.ref (qAd E 1)] σ τ (PI E q σ τ) := by
  unfold fX3_thereCount_1 at hf
  refine y_met rfl (Nat.le_of_ble_eq_true rfl) rfl (fun p e s m below meth c C => ?_)
  refine y_iconst C (v := 0) dX3_thereCount_0 (by decide) ?_
  refine y_istore_n C dX3_thereCount_1 rfl (Nat.le_of_ble_eq_true rfl) rfl (lv' := [(1, .int (0 : Int32)), (0, .ref (qAd E 1))]) rfl ?_
  refine y_iconst C (v := 0) dX3_thereCount_2 (by decide) ?_
  refine y_istore_n C dX3_thereCount_3 rfl (Nat.le_of_ble_eq_true rfl) rfl (lv' := [(2, .int (0 : Int32)), (1, .int (0 : Int32)), (0, .ref (qAd E 1))]) rfl ?_
  refine y_sub [0, 1, 2] rfl ?_
  refine lp_ind (P := fun a1 : Int32 × Int32 => Y E p l e rm_X3_thereCount_1 s m ([.ref (qAd E 1)] : List Value).toArray below meth c 3 (MQ below (PI E q σ τ) ([.ref (qAd E 1)] : List Value).toArray s 0 0 (qA E)) σ τ 4 [(2, .int a1.2), (1, .int a1.1), (0, .ref (qAd E 1))] []) (fun r2 a1 ih_r2 hf => ?_) _ _ hf
  refine y_iload_n C dX3_thereCount_4 rfl 0 rfl ?_
  refine y_aload_n C dX3_thereCount_5 rfl 2 rfl ?_
  refine g1_sizes C fl_X3_14 dX3_thereCount_6 ?_
  refine y_alenC C a10 (v := 6) (by decide) dX3_thereCount_9 ?_
  refine y_icmp_ge C 35 dX3_thereCount_10 (by decide) hf (fun hf => ?_) (fun hf => ?_)
  · refine y_iload_n C dX3_thereCount_35 rfl 1 rfl ?_
    exact y_iret C (Option.some.inj hf) rfl rfl dX3_thereCount_36
  · refine y_iload_n C dX3_thereCount_13 rfl 1 rfl ?_
    refine y_aload_n C dX3_thereCount_14 rfl 2 rfl ?_
    refine y_iload_n C dX3_thereCount_15 rfl 0 rfl ?_
    obtain ⟨q3, h_q3, hf⟩ := bd_e hf
    refine y_cVi C (kX3_has_1 l E σ τ a1.2 _ h_q3) vi_X3_has ml_X3_46 ⟨3, _, o1, rfl, rfl⟩ rfl ⟨rfl, rfl, Nat.le_of_ble_eq_true rfl, Nat.le_of_ble_eq_true rfl⟩ dX3_thereCount_16 rfl (Nat.le_of_ble_eq_true rfl) ?_
    refine y_if_eq C 26 dX3_thereCount_19 (by decide) hf (fun hf => ?_) (fun hf => ?_)
    · refine y_iconst C (v := 0) dX3_thereCount_26 (by decide) ?_
      refine y_iadd C dX3_thereCount_27 ?_
      obtain ⟨v4, e_v4, hf⟩ := lt_e hf
      refine y_istore_n C dX3_thereCount_28 rfl (Nat.le_of_ble_eq_true rfl) e_v4 (lv' := [(1, .int v4), (2, .int a1.2), (0, .ref (qAd E 1))]) rfl ?_
      refine y_iinc C dX3_thereCount_29 1 rfl (Nat.le_of_ble_eq_true rfl) (k2 := 1) (by decide) rfl (lv' := [(2, .int (a1.2 + (1 : Int32))), (1, .int v4), (0, .ref (qAd E 1))]) rfl ?_
      refine y_goto C 4 dX3_thereCount_32 (by decide) ?_
      refine y_sub [0, 1, 2] rfl ?_
      exact ih_r2 (v4, (a1.2 + (1 : Int32))) hf
    · refine y_iconst C (v := 1) dX3_thereCount_22 (by decide) ?_
      refine y_goto C 27 dX3_thereCount_23 (by decide) ?_
      refine y_iadd C dX3_thereCount_27 ?_
      obtain ⟨v5, e_v5, hf⟩ := lt_e hf
      refine y_istore_n C dX3_thereCount_28 rfl (Nat.le_of_ble_eq_true rfl) e_v5 (lv' := [(1, .int v5), (2, .int a1.2), (0, .ref (qAd E 1))]) rfl ?_
      refine y_iinc C dX3_thereCount_29 1 rfl (Nat.le_of_ble_eq_true rfl) (k2 := 1) (by decide) rfl (lv' := [(2, .int (a1.2 + (1 : Int32))), (1, .int v5), (0, .ref (qAd E 1))]) rfl ?_
      refine y_goto C 4 dX3_thereCount_32 (by decide) ?_
      refine y_sub [0, 1, 2] rfl ?_
      exact ih_r2 (v5, (a1.2 + (1 : Int32))) hf
noncomputable def fX3_thereCount_2  (σ : QS) : Option (Int32) :=
    lp_ (fun (r2 : Int32 × Int32 → Option (Int32)) (a1 : Int32 × Int32) => (if (4 : Int32) ≤ a1.2 then some a1.1 else Option.bind (fX3_has_2 a1.2 σ) (fun (q3 : Int32) => (if q3 = 0 then lt_ (a1.1 + (0 : Int32)) (fun (v4 : Int32) => r2 (v4, (a1.2 + (1 : Int32)))) else lt_ (a1.1 + (1 : Int32)) (fun (v5 : Int32) => r2 (v5, (a1.2 + (1 : Int32)))))))) FV ((0 : Int32), (0 : Int32))
def rm_X3_thereCount_2 : Room := { frames := 3, cells := 0, slots := 0, locals := 63 }
set_option maxRecDepth 100000 in
set_option maxHeartbeats 4000000 in
theorem kX3_thereCount_2 (l : Launch) (E : QE) (σ τ : QS)  (q : Int32) (hf : fX3_thereCount_2 σ = some q) : KQ l yX3_thereCount cX3_thereCount 3 (some .int) rm_X3_thereCount_2 E [.ref (qAd E 2)] σ τ (PI E q σ τ) := by
  unfold fX3_thereCount_2 at hf
  refine y_met rfl (Nat.le_of_ble_eq_true rfl) rfl (fun p e s m below meth c C => ?_)
  refine y_iconst C (v := 0) dX3_thereCount_0 (by decide) ?_
  refine y_istore_n C dX3_thereCount_1 rfl (Nat.le_of_ble_eq_true rfl) rfl (lv' := [(1, .int (0 : Int32)), (0, .ref (qAd E 2))]) rfl ?_
  refine y_iconst C (v := 0) dX3_thereCount_2 (by decide) ?_
  refine y_istore_n C dX3_thereCount_3 rfl (Nat.le_of_ble_eq_true rfl) rfl (lv' := [(2, .int (0 : Int32)), (1, .int (0 : Int32)), (0, .ref (qAd E 2))]) rfl ?_
  refine y_sub [0, 1, 2] rfl ?_
  refine lp_ind (P := fun a1 : Int32 × Int32 => Y E p l e rm_X3_thereCount_2 s m ([.ref (qAd E 2)] : List Value).toArray below meth c 3 (MQ below (PI E q σ τ) ([.ref (qAd E 2)] : List Value).toArray s 0 0 (qA E)) σ τ 4 [(2, .int a1.2), (1, .int a1.1), (0, .ref (qAd E 2))] []) (fun r2 a1 ih_r2 hf => ?_) _ _ hf
  refine y_iload_n C dX3_thereCount_4 rfl 0 rfl ?_
  refine y_aload_n C dX3_thereCount_5 rfl 2 rfl ?_
  refine g2_sizes C fl_X3_14 dX3_thereCount_6 ?_
  refine y_alenC C a12 (v := 4) (by decide) dX3_thereCount_9 ?_
  refine y_icmp_ge C 35 dX3_thereCount_10 (by decide) hf (fun hf => ?_) (fun hf => ?_)
  · refine y_iload_n C dX3_thereCount_35 rfl 1 rfl ?_
    exact y_iret C (Option.some.inj hf) rfl rfl dX3_thereCount_36
  · refine y_iload_n C dX3_thereCount_13 rfl 1 rfl ?_
    refine y_aload_n C dX3_thereCount_14 rfl 2 rfl ?_
    refine y_iload_n C dX3_thereCount_15 rfl 0 rfl ?_
    obtain ⟨q3, h_q3, hf⟩ := bd_e hf
    refine y_cVi C (kX3_has_2 l E σ τ a1.2 _ h_q3) vi_X3_has ml_X3_46 ⟨3, _, o2, rfl, rfl⟩ rfl ⟨rfl, rfl, Nat.le_of_ble_eq_true rfl, Nat.le_of_ble_eq_true rfl⟩ dX3_thereCount_16 rfl (Nat.le_of_ble_eq_true rfl) ?_
    refine y_if_eq C 26 dX3_thereCount_19 (by decide) hf (fun hf => ?_) (fun hf => ?_)
    · refine y_iconst C (v := 0) dX3_thereCount_26 (by decide) ?_
      refine y_iadd C dX3_thereCount_27 ?_
      obtain ⟨v4, e_v4, hf⟩ := lt_e hf
      refine y_istore_n C dX3_thereCount_28 rfl (Nat.le_of_ble_eq_true rfl) e_v4 (lv' := [(1, .int v4), (2, .int a1.2), (0, .ref (qAd E 2))]) rfl ?_
      refine y_iinc C dX3_thereCount_29 1 rfl (Nat.le_of_ble_eq_true rfl) (k2 := 1) (by decide) rfl (lv' := [(2, .int (a1.2 + (1 : Int32))), (1, .int v4), (0, .ref (qAd E 2))]) rfl ?_
      refine y_goto C 4 dX3_thereCount_32 (by decide) ?_
      refine y_sub [0, 1, 2] rfl ?_
      exact ih_r2 (v4, (a1.2 + (1 : Int32))) hf
    · refine y_iconst C (v := 1) dX3_thereCount_22 (by decide) ?_
      refine y_goto C 27 dX3_thereCount_23 (by decide) ?_
      refine y_iadd C dX3_thereCount_27 ?_
      obtain ⟨v5, e_v5, hf⟩ := lt_e hf
      refine y_istore_n C dX3_thereCount_28 rfl (Nat.le_of_ble_eq_true rfl) e_v5 (lv' := [(1, .int v5), (2, .int a1.2), (0, .ref (qAd E 2))]) rfl ?_
      refine y_iinc C dX3_thereCount_29 1 rfl (Nat.le_of_ble_eq_true rfl) (k2 := 1) (by decide) rfl (lv' := [(2, .int (a1.2 + (1 : Int32))), (1, .int v5), (0, .ref (qAd E 2))]) rfl ?_
      refine y_goto C 4 dX3_thereCount_32 (by decide) ?_
      refine y_sub [0, 1, 2] rfl ?_
      exact ih_r2 (v5, (a1.2 + (1 : Int32))) hf
noncomputable def fX3_thereCount_3  (σ : QS) : Option (Int32) :=
    lp_ (fun (r2 : Int32 × Int32 → Option (Int32)) (a1 : Int32 × Int32) => (if (3 : Int32) ≤ a1.2 then some a1.1 else Option.bind (fX3_has_3 a1.2 σ) (fun (q3 : Int32) => (if q3 = 0 then lt_ (a1.1 + (0 : Int32)) (fun (v4 : Int32) => r2 (v4, (a1.2 + (1 : Int32)))) else lt_ (a1.1 + (1 : Int32)) (fun (v5 : Int32) => r2 (v5, (a1.2 + (1 : Int32)))))))) FV ((0 : Int32), (0 : Int32))
def rm_X3_thereCount_3 : Room := { frames := 3, cells := 0, slots := 0, locals := 63 }
set_option maxRecDepth 100000 in
set_option maxHeartbeats 4000000 in
theorem kX3_thereCount_3 (l : Launch) (E : QE) (σ τ : QS)  (q : Int32) (hf : fX3_thereCount_3 σ = some q) : KQ l yX3_thereCount cX3_thereCount 3 (some .int) rm_X3_thereCount_3 E [.ref (qAd E 3)] σ τ (PI E q σ τ) := by
  unfold fX3_thereCount_3 at hf
  refine y_met rfl (Nat.le_of_ble_eq_true rfl) rfl (fun p e s m below meth c C => ?_)
  refine y_iconst C (v := 0) dX3_thereCount_0 (by decide) ?_
  refine y_istore_n C dX3_thereCount_1 rfl (Nat.le_of_ble_eq_true rfl) rfl (lv' := [(1, .int (0 : Int32)), (0, .ref (qAd E 3))]) rfl ?_
  refine y_iconst C (v := 0) dX3_thereCount_2 (by decide) ?_
  refine y_istore_n C dX3_thereCount_3 rfl (Nat.le_of_ble_eq_true rfl) rfl (lv' := [(2, .int (0 : Int32)), (1, .int (0 : Int32)), (0, .ref (qAd E 3))]) rfl ?_
  refine y_sub [0, 1, 2] rfl ?_
  refine lp_ind (P := fun a1 : Int32 × Int32 => Y E p l e rm_X3_thereCount_3 s m ([.ref (qAd E 3)] : List Value).toArray below meth c 3 (MQ below (PI E q σ τ) ([.ref (qAd E 3)] : List Value).toArray s 0 0 (qA E)) σ τ 4 [(2, .int a1.2), (1, .int a1.1), (0, .ref (qAd E 3))] []) (fun r2 a1 ih_r2 hf => ?_) _ _ hf
  refine y_iload_n C dX3_thereCount_4 rfl 0 rfl ?_
  refine y_aload_n C dX3_thereCount_5 rfl 2 rfl ?_
  refine g3_sizes C fl_X3_14 dX3_thereCount_6 ?_
  refine y_alenC C a14 (v := 3) (by decide) dX3_thereCount_9 ?_
  refine y_icmp_ge C 35 dX3_thereCount_10 (by decide) hf (fun hf => ?_) (fun hf => ?_)
  · refine y_iload_n C dX3_thereCount_35 rfl 1 rfl ?_
    exact y_iret C (Option.some.inj hf) rfl rfl dX3_thereCount_36
  · refine y_iload_n C dX3_thereCount_13 rfl 1 rfl ?_
    refine y_aload_n C dX3_thereCount_14 rfl 2 rfl ?_
    refine y_iload_n C dX3_thereCount_15 rfl 0 rfl ?_
    obtain ⟨q3, h_q3, hf⟩ := bd_e hf
    refine y_cVi C (kX3_has_3 l E σ τ a1.2 _ h_q3) vi_X3_has ml_X3_46 ⟨3, _, o3, rfl, rfl⟩ rfl ⟨rfl, rfl, Nat.le_of_ble_eq_true rfl, Nat.le_of_ble_eq_true rfl⟩ dX3_thereCount_16 rfl (Nat.le_of_ble_eq_true rfl) ?_
    refine y_if_eq C 26 dX3_thereCount_19 (by decide) hf (fun hf => ?_) (fun hf => ?_)
    · refine y_iconst C (v := 0) dX3_thereCount_26 (by decide) ?_
      refine y_iadd C dX3_thereCount_27 ?_
      obtain ⟨v4, e_v4, hf⟩ := lt_e hf
      refine y_istore_n C dX3_thereCount_28 rfl (Nat.le_of_ble_eq_true rfl) e_v4 (lv' := [(1, .int v4), (2, .int a1.2), (0, .ref (qAd E 3))]) rfl ?_
      refine y_iinc C dX3_thereCount_29 1 rfl (Nat.le_of_ble_eq_true rfl) (k2 := 1) (by decide) rfl (lv' := [(2, .int (a1.2 + (1 : Int32))), (1, .int v4), (0, .ref (qAd E 3))]) rfl ?_
      refine y_goto C 4 dX3_thereCount_32 (by decide) ?_
      refine y_sub [0, 1, 2] rfl ?_
      exact ih_r2 (v4, (a1.2 + (1 : Int32))) hf
    · refine y_iconst C (v := 1) dX3_thereCount_22 (by decide) ?_
      refine y_goto C 27 dX3_thereCount_23 (by decide) ?_
      refine y_iadd C dX3_thereCount_27 ?_
      obtain ⟨v5, e_v5, hf⟩ := lt_e hf
      refine y_istore_n C dX3_thereCount_28 rfl (Nat.le_of_ble_eq_true rfl) e_v5 (lv' := [(1, .int v5), (2, .int a1.2), (0, .ref (qAd E 3))]) rfl ?_
      refine y_iinc C dX3_thereCount_29 1 rfl (Nat.le_of_ble_eq_true rfl) (k2 := 1) (by decide) rfl (lv' := [(2, .int (a1.2 + (1 : Int32))), (1, .int v5), (0, .ref (qAd E 3))]) rfl ?_
      refine y_goto C 4 dX3_thereCount_32 (by decide) ?_
      refine y_sub [0, 1, 2] rfl ?_
      exact ih_r2 (v5, (a1.2 + (1 : Int32))) hf
noncomputable def fX4_countOf_0 (x1 : Int32) (σ : QS) : Option (Int32) :=
    (if x1 = (0 : Int32) then some (gI σ 9) else (if x1 = (1 : Int32) then some (gI σ 8) else (if x1 = (2 : Int32) then some (gI σ 13) else (if x1 = (3 : Int32) then some (gI σ 12) else (if x1 = (4 : Int32) then some (gI σ 15) else (if x1 = (5 : Int32) then some (gI σ 16) else (if x1 = (6 : Int32) then some (gI σ 18) else (if x1 = (7 : Int32) then Option.bind (fX1_clerkCount_5 σ) (fun (q1 : Int32) => some q1) else (if x1 = (8 : Int32) then Option.bind (fX3_thereCount_1 σ) (fun (q2 : Int32) => some q2) else (if x1 = (9 : Int32) then Option.bind (fX3_thereCount_2 σ) (fun (q3 : Int32) => some q3) else (Option.bind (fX3_thereCount_3 σ) (fun (q4 : Int32) => some q4))))))))))))
def rm_X4_countOf_0 : Room := { frames := 4, cells := 0, slots := 0, locals := 85 }
set_option maxRecDepth 100000 in
set_option maxHeartbeats 4000000 in
theorem kX4_countOf_0 (l : Launch) (E : QE) (σ τ : QS) (x1 : Int32) (q : Int32) (hf : fX4_countOf_0 x1 σ = some q) : KQ l yX4_countOf cX4_countOf 2 (some .int) rm_X4_countOf_0 E [.ref (qAd E 0), .int x1] σ τ (PI E q σ τ) := by
  unfold fX4_countOf_0 at hf
  refine y_met rfl (Nat.le_of_ble_eq_true rfl) rfl (fun p e s m below meth c C => ?_)
  refine y_iload_n C dX4_countOf_0 rfl 1 rfl ?_
  rcases Decidable.em (x1 = (0 : Int32)) with hs0 | hs0
  · replace hf := (if_pos hs0).symm.trans hf
    refine y_tsw C (off := 55) 56 hs0 dX4_countOf_1 (by decide) (by decide) (by decide) (by decide) ?_
    refine y_aload_n C dX4_countOf_56 rfl 0 rfl ?_
    refine g0_script C fl_X4_31 dX4_countOf_57 ?_
    refine gN5_sitterCount C fn_X4_114 dX4_countOf_60 ?_
    exact y_iret C (Option.some.inj hf) rfl rfl dX4_countOf_63
  replace hf := (if_neg hs0).symm.trans hf
  rcases Decidable.em (x1 = (1 : Int32)) with hs1 | hs1
  · replace hf := (if_pos hs1).symm.trans hf
    refine y_tsw C (off := 63) 64 hs1 dX4_countOf_1 (by decide) (by decide) (by decide) (by decide) ?_
    refine y_aload_n C dX4_countOf_64 rfl 0 rfl ?_
    refine g0_script C fl_X4_31 dX4_countOf_65 ?_
    refine gN5_sceneCount C fn_X4_134 dX4_countOf_68 ?_
    exact y_iret C (Option.some.inj hf) rfl rfl dX4_countOf_71
  replace hf := (if_neg hs1).symm.trans hf
  rcases Decidable.em (x1 = (2 : Int32)) with hs2 | hs2
  · replace hf := (if_pos hs2).symm.trans hf
    refine y_tsw C (off := 71) 72 hs2 dX4_countOf_1 (by decide) (by decide) (by decide) (by decide) ?_
    refine y_aload_n C dX4_countOf_72 rfl 0 rfl ?_
    refine g0_night C fl_X4_39 dX4_countOf_73 ?_
    refine gN6_scene C fn_X4_162 dX4_countOf_76 ?_
    exact y_iret C (Option.some.inj hf) rfl rfl dX4_countOf_79
  replace hf := (if_neg hs2).symm.trans hf
  rcases Decidable.em (x1 = (3 : Int32)) with hs3 | hs3
  · replace hf := (if_pos hs3).symm.trans hf
    refine y_tsw C (off := 79) 80 hs3 dX4_countOf_1 (by decide) (by decide) (by decide) (by decide) ?_
    refine y_aload_n C dX4_countOf_80 rfl 0 rfl ?_
    refine g0_night C fl_X4_39 dX4_countOf_81 ?_
    refine gN6_deedCount C fn_X4_150 dX4_countOf_84 ?_
    exact y_iret C (Option.some.inj hf) rfl rfl dX4_countOf_87
  replace hf := (if_neg hs3).symm.trans hf
  rcases Decidable.em (x1 = (4 : Int32)) with hs4 | hs4
  · replace hf := (if_pos hs4).symm.trans hf
    refine y_tsw C (off := 87) 88 hs4 dX4_countOf_1 (by decide) (by decide) (by decide) (by decide) ?_
    refine y_aload_n C dX4_countOf_88 rfl 0 rfl ?_
    refine g0_night C fl_X4_39 dX4_countOf_89 ?_
    refine gN6_promptsLeft C fn_X4_318 dX4_countOf_92 ?_
    exact y_iret C (Option.some.inj hf) rfl rfl dX4_countOf_95
  replace hf := (if_neg hs4).symm.trans hf
  rcases Decidable.em (x1 = (5 : Int32)) with hs5 | hs5
  · replace hf := (if_pos hs5).symm.trans hf
    refine y_tsw C (off := 95) 96 hs5 dX4_countOf_1 (by decide) (by decide) (by decide) (by decide) ?_
    refine y_aload_n C dX4_countOf_96 rfl 0 rfl ?_
    refine g0_night C fl_X4_39 dX4_countOf_97 ?_
    refine gN6_shame C fn_X4_321 dX4_countOf_100 ?_
    exact y_iret C (Option.some.inj hf) rfl rfl dX4_countOf_103
  replace hf := (if_neg hs5).symm.trans hf
  rcases Decidable.em (x1 = (6 : Int32)) with hs6 | hs6
  · replace hf := (if_pos hs6).symm.trans hf
    refine y_tsw C (off := 103) 104 hs6 dX4_countOf_1 (by decide) (by decide) (by decide) (by decide) ?_
    refine y_aload_n C dX4_countOf_104 rfl 0 rfl ?_
    refine g0_night C fl_X4_39 dX4_countOf_105 ?_
    refine gN6_carriedCount C fn_X4_156 dX4_countOf_108 ?_
    exact y_iret C (Option.some.inj hf) rfl rfl dX4_countOf_111
  replace hf := (if_neg hs6).symm.trans hf
  rcases Decidable.em (x1 = (7 : Int32)) with hs7 | hs7
  · replace hf := (if_pos hs7).symm.trans hf
    refine y_tsw C (off := 111) 112 hs7 dX4_countOf_1 (by decide) (by decide) (by decide) (by decide) ?_
    refine y_aload_n C dX4_countOf_112 rfl 0 rfl ?_
    refine g0_script C fl_X4_31 dX4_countOf_113 ?_
    obtain ⟨q1, h_q1, hf⟩ := bd_e hf
    refine y_cVi C (kX1_clerkCount_5 l E σ τ _ h_q1) vi_X1_clerkCount ml_X4_324 ⟨1, _, o5, rfl, rfl⟩ rfl ⟨rfl, rfl, Nat.le_of_ble_eq_true rfl, Nat.le_of_ble_eq_true rfl⟩ dX4_countOf_116 rfl (Nat.le_of_ble_eq_true rfl) ?_
    exact y_iret C (Option.some.inj hf) rfl rfl dX4_countOf_119
  replace hf := (if_neg hs7).symm.trans hf
  rcases Decidable.em (x1 = (8 : Int32)) with hs8 | hs8
  · replace hf := (if_pos hs8).symm.trans hf
    refine y_tsw C (off := 119) 120 hs8 dX4_countOf_1 (by decide) (by decide) (by decide) (by decide) ?_
    refine y_aload_n C dX4_countOf_120 rfl 0 rfl ?_
    refine g0_rowShelf C fl_X4_14 dX4_countOf_121 ?_
    obtain ⟨q2, h_q2, hf⟩ := bd_e hf
    refine y_cVi C (kX3_thereCount_1 l E σ τ _ h_q2) vi_X3_thereCount ml_X4_327 ⟨3, _, o1, rfl, rfl⟩ rfl ⟨rfl, rfl, Nat.le_of_ble_eq_true rfl, Nat.le_of_ble_eq_true rfl⟩ dX4_countOf_124 rfl (Nat.le_of_ble_eq_true rfl) ?_
    exact y_iret C (Option.some.inj hf) rfl rfl dX4_countOf_127
  replace hf := (if_neg hs8).symm.trans hf
  rcases Decidable.em (x1 = (9 : Int32)) with hs9 | hs9
  · replace hf := (if_pos hs9).symm.trans hf
    refine y_tsw C (off := 127) 128 hs9 dX4_countOf_1 (by decide) (by decide) (by decide) (by decide) ?_
    refine y_aload_n C dX4_countOf_128 rfl 0 rfl ?_
    refine g0_textShelf C fl_X4_18 dX4_countOf_129 ?_
    obtain ⟨q3, h_q3, hf⟩ := bd_e hf
    refine y_cVi C (kX3_thereCount_2 l E σ τ _ h_q3) vi_X3_thereCount ml_X4_327 ⟨3, _, o2, rfl, rfl⟩ rfl ⟨rfl, rfl, Nat.le_of_ble_eq_true rfl, Nat.le_of_ble_eq_true rfl⟩ dX4_countOf_132 rfl (Nat.le_of_ble_eq_true rfl) ?_
    exact y_iret C (Option.some.inj hf) rfl rfl dX4_countOf_135
  replace hf := (if_neg hs9).symm.trans hf
  have hsn0 := lv_neT hs0 (a := 0) (by decide)
  have hsn1 := lv_neT hs1 (a := 1) (by decide)
  have hsn2 := lv_neT hs2 (a := 2) (by decide)
  have hsn3 := lv_neT hs3 (a := 3) (by decide)
  have hsn4 := lv_neT hs4 (a := 4) (by decide)
  have hsn5 := lv_neT hs5 (a := 5) (by decide)
  have hsn6 := lv_neT hs6 (a := 6) (by decide)
  have hsn7 := lv_neT hs7 (a := 7) (by decide)
  have hsn8 := lv_neT hs8 (a := 8) (by decide)
  have hsn9 := lv_neT hs9 (a := 9) (by decide)
  refine y_tswD C 136 dX4_countOf_1 (by omega) (by decide) ?_
  refine y_aload_n C dX4_countOf_136 rfl 0 rfl ?_
  refine g0_keptShelf C fl_X4_21 dX4_countOf_137 ?_
  obtain ⟨q4, h_q4, hf⟩ := bd_e hf
  refine y_cVi C (kX3_thereCount_3 l E σ τ _ h_q4) vi_X3_thereCount ml_X4_327 ⟨3, _, o3, rfl, rfl⟩ rfl ⟨rfl, rfl, Nat.le_of_ble_eq_true rfl, Nat.le_of_ble_eq_true rfl⟩ dX4_countOf_140 rfl (Nat.le_of_ble_eq_true rfl) ?_
  exact y_iret C (Option.some.inj hf) rfl rfl dX4_countOf_143
noncomputable def fX4_count_0 (x1 : Int32) (σ : QS) : Option (Int32) :=
    (if x1 < 0 then some (-1 : Int32) else (if x1 < (11 : Int32) then Option.bind (fX4_countOf_0 x1 σ) (fun (q1 : Int32) => some q1) else some (-1 : Int32)))
def rm_X4_count_0 : Room := { frames := 5, cells := 0, slots := 0, locals := 106 }
set_option maxRecDepth 100000 in
set_option maxHeartbeats 4000000 in
theorem kX4_count_0 (l : Launch) (E : QE) (σ τ : QS) (x1 : Int32) (q : Int32) (hf : fX4_count_0 x1 σ = some q) : KQ l yX4_count cX4_count 2 (some .int) rm_X4_count_0 E [.ref (qAd E 0), .int x1] σ τ (PI E q σ τ) := by
  unfold fX4_count_0 at hf
  refine y_met rfl (Nat.le_of_ble_eq_true rfl) rfl (fun p e s m below meth c C => ?_)
  refine y_iload_n C dX4_count_0 rfl 1 rfl ?_
  refine y_if_lt C 10 dX4_count_1 (by decide) hf (fun hf => ?_) (fun hf => ?_)
  · refine y_iconst C (v := -1) dX4_count_10 (by decide) ?_
    refine y_goto C 19 dX4_count_11 (by decide) ?_
    exact y_iret C (Option.some.inj hf) rfl rfl dX4_count_19
  · refine y_iload_n C dX4_count_4 rfl 1 rfl ?_
    refine y_bipush C (v := 11) dX4_count_5 (by decide) ?_
    refine y_icmp_lt C 14 dX4_count_7 (by decide) hf (fun hf => ?_) (fun hf => ?_)
    · refine y_aload_n C dX4_count_14 rfl 0 rfl ?_
      refine y_iload_n C dX4_count_15 rfl 1 rfl ?_
      obtain ⟨q1, h_q1, hf⟩ := bd_e hf
      refine y_cVi C (kX4_countOf_0 l E σ τ x1 _ h_q1) vi_X4_countOf ml_X4_286 ⟨4, _, o0, rfl, rfl⟩ rfl ⟨rfl, rfl, Nat.le_of_ble_eq_true rfl, Nat.le_of_ble_eq_true rfl⟩ dX4_count_16 rfl (Nat.le_of_ble_eq_true rfl) ?_
      exact y_iret C (Option.some.inj hf) rfl rfl dX4_count_19
    · refine y_iconst C (v := -1) dX4_count_10 (by decide) ?_
      refine y_goto C 19 dX4_count_11 (by decide) ?_
      exact y_iret C (Option.some.inj hf) rfl rfl dX4_count_19
noncomputable def fX5_clerks_50  (τ : QS) : Option (Int32) :=
    lp_ (fun (r2 : Int32 × Int32 → Option (Int32)) (a1 : Int32 × Int32) => (if (gI τ 1) ≤ a1.2 then some a1.1 else ck_ (inb a1.2 6) ((if (fX5_isClerk (gM τ 53 a1.2.toNatClampNeg)) = 0 then lt_ (a1.1 + (0 : Int32)) (fun (v4 : Int32) => r2 (v4, (a1.2 + (1 : Int32)))) else lt_ (a1.1 + (1 : Int32)) (fun (v5 : Int32) => r2 (v5, (a1.2 + (1 : Int32)))))))) FV ((0 : Int32), (0 : Int32))
def rm_X5_clerks_50 : Room := { frames := 2, cells := 0, slots := 0, locals := 40 }
set_option maxRecDepth 100000 in
set_option maxHeartbeats 4000000 in
theorem kX5_clerks_50 (l : Launch) (E : QE) (σ τ : QS)  (q : Int32) (hf : fX5_clerks_50 τ = some q) : KQ l yX5_clerks cX5_clerks 3 (some .int) rm_X5_clerks_50 E [.ref (qAd E 50)] σ τ (PI E q σ τ) := by
  unfold fX5_clerks_50 at hf
  refine y_met rfl (Nat.le_of_ble_eq_true rfl) rfl (fun p e s m below meth c C => ?_)
  refine y_iconst C (v := 0) dX5_clerks_0 (by decide) ?_
  refine y_istore_n C dX5_clerks_1 rfl (Nat.le_of_ble_eq_true rfl) rfl (lv' := [(1, .int (0 : Int32)), (0, .ref (qAd E 50))]) rfl ?_
  refine y_iconst C (v := 0) dX5_clerks_2 (by decide) ?_
  refine y_istore_n C dX5_clerks_3 rfl (Nat.le_of_ble_eq_true rfl) rfl (lv' := [(2, .int (0 : Int32)), (1, .int (0 : Int32)), (0, .ref (qAd E 50))]) rfl ?_
  refine y_sub [0, 1, 2] rfl ?_
  refine lp_ind (P := fun a1 : Int32 × Int32 => Y E p l e rm_X5_clerks_50 s m ([.ref (qAd E 50)] : List Value).toArray below meth c 3 (MQ below (PI E q σ τ) ([.ref (qAd E 50)] : List Value).toArray s 0 0 (qA E)) σ τ 4 [(2, .int a1.2), (1, .int a1.1), (0, .ref (qAd E 50))] []) (fun r2 a1 ih_r2 hf => ?_) _ _ hf
  refine y_iload_n C dX5_clerks_4 rfl 0 rfl ?_
  refine y_aload_n C dX5_clerks_5 rfl 2 rfl ?_
  refine g50_sitters C fl_X5_163 dX5_clerks_6 ?_
  refine y_icmp_ge C 38 dX5_clerks_9 (by decide) hf (fun hf => ?_) (fun hf => ?_)
  · refine y_iload_n C dX5_clerks_38 rfl 1 rfl ?_
    exact y_iret C (Option.some.inj hf) rfl rfl dX5_clerks_39
  · refine y_iload_n C dX5_clerks_12 rfl 1 rfl ?_
    refine y_aload_n C dX5_clerks_13 rfl 2 rfl ?_
    refine g50_kinds C fl_X5_16 dX5_clerks_14 ?_
    refine y_iload_n C dX5_clerks_17 rfl 0 rfl ?_
    obtain ⟨hi3, hf⟩ := ck_e hf
    refine y_ialdR C a53 (j := a1.2.toNatClampNeg) rfl hi3 dX5_clerks_18 ?_
    refine y_cSi C (kX5_isClerk l E σ τ (gM τ 53 a1.2.toNatClampNeg) _ rfl) si_X5_isClerk ml_X5_176 rfl ⟨rfl, rfl, Nat.le_of_ble_eq_true rfl, Nat.le_of_ble_eq_true rfl⟩ dX5_clerks_19 rfl (Nat.le_of_ble_eq_true rfl) ?_
    refine y_if_eq C 29 dX5_clerks_22 (by decide) hf (fun hf => ?_) (fun hf => ?_)
    · refine y_iconst C (v := 0) dX5_clerks_29 (by decide) ?_
      refine y_iadd C dX5_clerks_30 ?_
      obtain ⟨v4, e_v4, hf⟩ := lt_e hf
      refine y_istore_n C dX5_clerks_31 rfl (Nat.le_of_ble_eq_true rfl) e_v4 (lv' := [(1, .int v4), (2, .int a1.2), (0, .ref (qAd E 50))]) rfl ?_
      refine y_iinc C dX5_clerks_32 1 rfl (Nat.le_of_ble_eq_true rfl) (k2 := 1) (by decide) rfl (lv' := [(2, .int (a1.2 + (1 : Int32))), (1, .int v4), (0, .ref (qAd E 50))]) rfl ?_
      refine y_goto C 4 dX5_clerks_35 (by decide) ?_
      refine y_sub [0, 1, 2] rfl ?_
      exact ih_r2 (v4, (a1.2 + (1 : Int32))) hf
    · refine y_iconst C (v := 1) dX5_clerks_25 (by decide) ?_
      refine y_goto C 30 dX5_clerks_26 (by decide) ?_
      refine y_iadd C dX5_clerks_30 ?_
      obtain ⟨v5, e_v5, hf⟩ := lt_e hf
      refine y_istore_n C dX5_clerks_31 rfl (Nat.le_of_ble_eq_true rfl) e_v5 (lv' := [(1, .int v5), (2, .int a1.2), (0, .ref (qAd E 50))]) rfl ?_
      refine y_iinc C dX5_clerks_32 1 rfl (Nat.le_of_ble_eq_true rfl) (k2 := 1) (by decide) rfl (lv' := [(2, .int (a1.2 + (1 : Int32))), (1, .int v5), (0, .ref (qAd E 50))]) rfl ?_
      refine y_goto C 4 dX5_clerks_35 (by decide) ?_
      refine y_sub [0, 1, 2] rfl ?_
      exact ih_r2 (v5, (a1.2 + (1 : Int32))) hf
