noncomputable def fX5_isNoticed_50 (x1 : Int32) (x2 : Int32) (x3 : Int32) (x4 : Int32) (x5 : Int32) (τ : QS) : Option (Int32) :=
    lt_ ((40 : Int32) * x1) (fun (v1 : Int32) => lp_ (fun (r3 : Int32 × Int32 → Option (Int32)) (a2 : Int32 × Int32) => ck_ (inb x1 6) ((if (((40 : Int32) * x1) + (gM τ 56 x1.toNatClampNeg)) ≤ a2.2 then ck_ (zb a2.1) (some a2.1) else ck_ (inb (a2.2 + (1 : Int32)) 240) (ck_ (inb a2.2 240) (lt_ (fun (v9 : Int32) => (if a2.1 = 0 then r3 ((0 : Int32), (a2.2 + (3 : Int32))) else ck_ (inb (a2.2 + (2 : Int32)) 240) (lt_ (fun (v12 : Int32) => (if v9 = v12 then r3 ((1 : Int32), (a2.2 + (3 : Int32))) else r3 ((0 : Int32), (a2.2 + (3 : Int32))))) (fun (j11 : Int32 → Option (Int32)) => (if (gM τ 57 ((a2.2 + (2 : Int32)).toNatClampNeg)) = (1 : Int32) then j11 (1 : Int32) else j11 (0 : Int32)))))) (fun (j8 : Int32 → Option (Int32)) => (if (fX5_saysBy x2 x3 x4 (gM τ 57 ((a2.2 + (1 : Int32)).toNatClampNeg)) x5) < (gM τ 57 a2.2.toNatClampNeg) then j8 (0 : Int32) else j8 (1 : Int32)))))))) FV ((1 : Int32), v1))
def rm_X5_isNoticed_50 : Room := { frames := 3, cells := 0, slots := 0, locals := 68 }
set_option maxRecDepth 100000 in
set_option maxHeartbeats 4000000 in
theorem kX5_isNoticed_50 (l : Launch) (E : QE) (σ τ : QS) (x1 : Int32) (x2 : Int32) (x3 : Int32) (x4 : Int32) (x5 : Int32) (q : Int32) (hf : fX5_isNoticed_50 x1 x2 x3 x4 x5 τ = some q) : KQ l yX5_isNoticed cX5_isNoticed 9 (some .boolean) rm_X5_isNoticed_50 E [.ref (qAd E 50), .int x1, .int x2, .int x3, .int x4, .int x5] σ τ (PI E q σ τ) := by
  unfold fX5_isNoticed_50 at hf
  refine y_met rfl (Nat.le_of_ble_eq_true rfl) rfl (fun p e s m below meth c C => ?_)
  refine y_iconst C (v := 1) dX5_isNoticed_0 (by decide) ?_
  refine y_istore C dX5_isNoticed_1 (Nat.le_of_ble_eq_true rfl) rfl (lv' := [(6, .int (1 : Int32)), (0, .ref (qAd E 50)), (1, .int x1), (2, .int x2), (3, .int x3), (4, .int x4), (5, .int x5)]) rfl ?_
  refine y_bipush C (v := 40) dX5_isNoticed_3 (by decide) ?_
  refine y_iload_n C dX5_isNoticed_5 rfl 2 rfl ?_
  refine y_imul C dX5_isNoticed_6 ?_
  obtain ⟨v1, e_v1, hf⟩ := lt_e hf
  refine y_istore C dX5_isNoticed_7 (Nat.le_of_ble_eq_true rfl) e_v1 (lv' := [(7, .int v1), (6, .int (1 : Int32)), (0, .ref (qAd E 50)), (1, .int x1), (2, .int x2), (3, .int x3), (4, .int x4), (5, .int x5)]) rfl ?_
  refine y_sub [0, 1, 2, 3, 4, 5, 6, 7] rfl ?_
  refine lp_ind (P := fun a2 : Int32 × Int32 => Y E p l e rm_X5_isNoticed_50 s m ([.ref (qAd E 50), .int x1, .int x2, .int x3, .int x4, .int x5] : List Value).toArray below meth c 9 (MQ below (PI E q σ τ) ([.ref (qAd E 50), .int x1, .int x2, .int x3, .int x4, .int x5] : List Value).toArray s 0 0 (qA E)) σ τ 9 [(7, .int a2.2), (6, .int a2.1), (0, .ref (qAd E 50)), (1, .int x1), (2, .int x2), (3, .int x3), (4, .int x4), (5, .int x5)] []) (fun r3 a2 ih_r3 hf => ?_) _ _ hf
  refine y_iload C dX5_isNoticed_9 0 rfl ?_
  refine y_bipush C (v := 40) dX5_isNoticed_11 (by decide) ?_
  refine y_iload_n C dX5_isNoticed_13 rfl 3 rfl ?_
  refine y_imul C dX5_isNoticed_14 ?_
  refine y_aload_n C dX5_isNoticed_15 rfl 2 rfl ?_
  refine g50_sizes C fl_X5_25 dX5_isNoticed_16 ?_
  refine y_iload_n C dX5_isNoticed_19 rfl 3 rfl ?_
  obtain ⟨hi4, hf⟩ := ck_e hf
  refine y_ialdR C a56 (j := x1.toNatClampNeg) rfl hi4 dX5_isNoticed_20 ?_
  refine y_iadd C dX5_isNoticed_21 ?_
  refine y_icmp_ge C 101 dX5_isNoticed_22 (by decide) hf (fun hf => ?_) (fun hf => ?_)
  · refine y_iload C dX5_isNoticed_101 1 rfl ?_
    obtain ⟨hz5, hf⟩ := ck_e hf
    exact y_zret C (zb_e hz5) (Option.some.inj hf) rfl rfl dX5_isNoticed_103
  · refine y_iload_n C dX5_isNoticed_25 rfl 4 rfl ?_
    refine y_iload_n C dX5_isNoticed_26 rfl 5 rfl ?_
    refine y_iload C dX5_isNoticed_27 6 rfl ?_
    refine y_aload_n C dX5_isNoticed_29 rfl 2 rfl ?_
    refine g50_items C fl_X5_28 dX5_isNoticed_30 ?_
    refine y_iload C dX5_isNoticed_33 0 rfl ?_
    refine y_iconst C (v := 1) dX5_isNoticed_35 (by decide) ?_
    refine y_iadd C dX5_isNoticed_36 ?_
    obtain ⟨hi6, hf⟩ := ck_e hf
    refine y_ialdR C a57 (j := (a2.2 + (1 : Int32)).toNatClampNeg) rfl hi6 dX5_isNoticed_37 ?_
    refine y_iload C dX5_isNoticed_38 7 rfl ?_
    refine y_cSi C (kX5_saysBy l E σ τ x2 x3 x4 (gM τ 57 ((a2.2 + (1 : Int32)).toNatClampNeg)) x5 _ rfl) si_X5_saysBy ml_X5_182 rfl ⟨rfl, rfl, Nat.le_of_ble_eq_true rfl, Nat.le_of_ble_eq_true rfl⟩ dX5_isNoticed_40 rfl (Nat.le_of_ble_eq_true rfl) ?_
    refine y_aload_n C dX5_isNoticed_43 rfl 2 rfl ?_
    refine g50_items C fl_X5_28 dX5_isNoticed_44 ?_
    refine y_iload C dX5_isNoticed_47 0 rfl ?_
    obtain ⟨hi7, hf⟩ := ck_e hf
    refine y_ialdR C a57 (j := a2.2.toNatClampNeg) rfl hi7 dX5_isNoticed_49 ?_
    obtain ⟨j8, ek_j8, hf⟩ := lt_e hf
    have h_j8 : ∀ (v9 : Int32), j8 v9 = some q → Y E p l e rm_X5_isNoticed_50 s m ([.ref (qAd E 50), .int x1, .int x2, .int x3, .int x4, .int x5] : List Value).toArray below meth c 9 (MQ below (PI E q σ τ) ([.ref (qAd E 50), .int x1, .int x2, .int x3, .int x4, .int x5] : List Value).toArray s 0 0 (qA E)) σ τ 58 [(0, .ref (qAd E 50)), (1, .int x1), (2, .int x2), (3, .int x3), (4, .int x4), (5, .int x5), (6, .int a2.1), (7, .int a2.2)] [.int v9] := by
      intro v9 hf
      replace hf := (congrFun (ek_j8) v9).symm.trans hf
      refine y_istore C dX5_isNoticed_58 (Nat.le_of_ble_eq_true rfl) rfl (lv' := [(8, .int v9), (0, .ref (qAd E 50)), (1, .int x1), (2, .int x2), (3, .int x3), (4, .int x4), (5, .int x5), (6, .int a2.1), (7, .int a2.2)]) rfl ?_
      refine y_iload C dX5_isNoticed_60 7 rfl ?_
      refine y_if_eq C 92 dX5_isNoticed_62 (by decide) hf (fun hf => ?_) (fun hf => ?_)
      · refine y_iconst C (v := 0) dX5_isNoticed_92 (by decide) ?_
        refine y_istore C dX5_isNoticed_93 (Nat.le_of_ble_eq_true rfl) rfl (lv' := [(6, .int (0 : Int32)), (8, .int v9), (0, .ref (qAd E 50)), (1, .int x1), (2, .int x2), (3, .int x3), (4, .int x4), (5, .int x5), (7, .int a2.2)]) rfl ?_
        refine y_iinc C dX5_isNoticed_95 8 rfl (Nat.le_of_ble_eq_true rfl) (k2 := 3) (by decide) rfl (lv' := [(7, .int (a2.2 + (3 : Int32))), (6, .int (0 : Int32)), (8, .int v9), (0, .ref (qAd E 50)), (1, .int x1), (2, .int x2), (3, .int x3), (4, .int x4), (5, .int x5)]) rfl ?_
        refine y_goto C 9 dX5_isNoticed_98 (by decide) ?_
        refine y_sub [0, 1, 3, 4, 5, 6, 7, 8] rfl ?_
        exact ih_r3 ((0 : Int32), (a2.2 + (3 : Int32))) hf
      · refine y_iload C dX5_isNoticed_65 0 rfl ?_
        refine y_aload_n C dX5_isNoticed_67 rfl 1 rfl ?_
        refine g50_items C fl_X5_28 dX5_isNoticed_68 ?_
        refine y_iload C dX5_isNoticed_71 8 rfl ?_
        refine y_iconst C (v := 2) dX5_isNoticed_73 (by decide) ?_
        refine y_iadd C dX5_isNoticed_74 ?_
        obtain ⟨hi10, hf⟩ := ck_e hf
        refine y_ialdR C a57 (j := (a2.2 + (2 : Int32)).toNatClampNeg) rfl hi10 dX5_isNoticed_75 ?_
        refine y_iconst C (v := 1) dX5_isNoticed_76 (by decide) ?_
        obtain ⟨j11, ek_j11, hf⟩ := lt_e hf
        have h_j11 : ∀ (v12 : Int32), j11 v12 = some q → Y E p l e rm_X5_isNoticed_50 s m ([.ref (qAd E 50), .int x1, .int x2, .int x3, .int x4, .int x5] : List Value).toArray below meth c 9 (MQ below (PI E q σ τ) ([.ref (qAd E 50), .int x1, .int x2, .int x3, .int x4, .int x5] : List Value).toArray s 0 0 (qA E)) σ τ 85 [(0, .ref (qAd E 50)), (1, .int x1), (2, .int x2), (3, .int x3), (4, .int x4), (5, .int x5), (7, .int a2.2)] [.int v12, .int v9] := by
          intro v12 hf
          replace hf := (congrFun (ek_j11) v12).symm.trans hf
          refine y_icmp_ne C 92 dX5_isNoticed_85 (by decide) hf (fun hf => ?_) (fun hf => ?_)
          · refine y_iconst C (v := 0) dX5_isNoticed_92 (by decide) ?_
            refine y_istore C dX5_isNoticed_93 (Nat.le_of_ble_eq_true rfl) rfl (lv' := [(6, .int (0 : Int32)), (0, .ref (qAd E 50)), (1, .int x1), (2, .int x2), (3, .int x3), (4, .int x4), (5, .int x5), (7, .int a2.2)]) rfl ?_
            refine y_iinc C dX5_isNoticed_95 7 rfl (Nat.le_of_ble_eq_true rfl) (k2 := 3) (by decide) rfl (lv' := [(7, .int (a2.2 + (3 : Int32))), (6, .int (0 : Int32)), (0, .ref (qAd E 50)), (1, .int x1), (2, .int x2), (3, .int x3), (4, .int x4), (5, .int x5)]) rfl ?_
            refine y_goto C 9 dX5_isNoticed_98 (by decide) ?_
            refine y_sub [0, 1, 2, 3, 4, 5, 6, 7] rfl ?_
            exact ih_r3 ((0 : Int32), (a2.2 + (3 : Int32))) hf
          · refine y_iconst C (v := 1) dX5_isNoticed_88 (by decide) ?_
            refine y_goto C 93 dX5_isNoticed_89 (by decide) ?_
            refine y_istore C dX5_isNoticed_93 (Nat.le_of_ble_eq_true rfl) rfl (lv' := [(6, .int (1 : Int32)), (0, .ref (qAd E 50)), (1, .int x1), (2, .int x2), (3, .int x3), (4, .int x4), (5, .int x5), (7, .int a2.2)]) rfl ?_
            refine y_iinc C dX5_isNoticed_95 7 rfl (Nat.le_of_ble_eq_true rfl) (k2 := 3) (by decide) rfl (lv' := [(7, .int (a2.2 + (3 : Int32))), (6, .int (1 : Int32)), (0, .ref (qAd E 50)), (1, .int x1), (2, .int x2), (3, .int x3), (4, .int x4), (5, .int x5)]) rfl ?_
            refine y_goto C 9 dX5_isNoticed_98 (by decide) ?_
            refine y_sub [0, 1, 2, 3, 4, 5, 6, 7] rfl ?_
            exact ih_r3 ((1 : Int32), (a2.2 + (3 : Int32))) hf
        refine y_icmp_ne C 84 dX5_isNoticed_77 (by decide) hf (fun hf => ?_) (fun hf => ?_)
        · refine y_iconst C (v := 0) dX5_isNoticed_84 (by decide) ?_
          refine y_sub [1, 2, 3, 4, 5, 6, 8] rfl ?_
          exact h_j11 (0 : Int32) hf
        · refine y_iconst C (v := 1) dX5_isNoticed_80 (by decide) ?_
          refine y_goto C 85 dX5_isNoticed_81 (by decide) ?_
          refine y_sub [1, 2, 3, 4, 5, 6, 8] rfl ?_
          exact h_j11 (1 : Int32) hf
    refine y_icmp_lt C 57 dX5_isNoticed_50 (by decide) hf (fun hf => ?_) (fun hf => ?_)
    · refine y_iconst C (v := 0) dX5_isNoticed_57 (by decide) ?_
      refine y_sub [2, 3, 4, 5, 6, 7, 1, 0] rfl ?_
      exact h_j8 (0 : Int32) hf
    · refine y_iconst C (v := 1) dX5_isNoticed_53 (by decide) ?_
      refine y_goto C 58 dX5_isNoticed_54 (by decide) ?_
      refine y_sub [2, 3, 4, 5, 6, 7, 1, 0] rfl ?_
      exact h_j8 (1 : Int32) hf
noncomputable def fX5_frights_50 (x1 : Int32) (x2 : Int32) (τ : QS) : Option (Int32 × QS) :=
    (if (fX5_isSitter_50 x1 τ) = 0 then some ((-1 : Int32), τ) else (if (fX5_isRow x2) = 0 then some ((-1 : Int32), τ) else Option.bind (fX5_noNotices_50 x2 τ) (fun (q1 : Int32 × QS) => (if q1.1 = 0 then Option.bind (fX5_claques_50 x1 (gM q1.2 51 6) q1.2) (fun (q2 : Int32) => lt_ (pI q1.2 2 (0 : Int32)) (fun (S3 : QS) => lp_ (fun (r5 : Int32 × Int32 × QS → Option (Int32 × QS)) (a4 : Int32 × Int32 × QS) => (if (10 : Int32) ≤ a4.2.1 then some (a4.1, a4.2.2) else ck_ (inb x1 6) (ck_ (inb x1 6) (Option.bind (fX5_isNoticed_50 x2 (gM a4.2.2 53 x1.toNatClampNeg) (gM a4.2.2 54 x1.toNatClampNeg) a4.2.1 q2 a4.2.2) (fun (q8 : Int32) => lt_ (fun (v10 : Int32) => lt_ (a4.1 ||| v10) (fun (v11 : Int32) => ck_ (inb x1 6) (ck_ (inb x1 6) (Option.bind (fX5_isNoticed_50 x2 (gM a4.2.2 53 x1.toNatClampNeg) a4.2.1 (gM a4.2.2 55 x1.toNatClampNeg) q2 a4.2.2) (fun (q14 : Int32) => lt_ (fun (v16 : Int32) => lt_ (pI a4.2.2 2 ((gI a4.2.2 2) ||| v16)) (fun (S17 : QS) => r5 (v11, (a4.2.1 + (1 : Int32)), S17))) (fun (j15 : Int32 → Option (Int32 × QS)) => (if q14 = 0 then j15 (0 : Int32) else j15 ((1 : Int32) <<< (a4.2.1 &&& 31))))))))) (fun (j9 : Int32 → Option (Int32 × QS)) => (if q8 = 0 then j9 (0 : Int32) else j9 ((1 : Int32) <<< (a4.2.1 &&& 31))))))))) FV ((0 : Int32), (0 : Int32), S3))) else some (q1.1, q1.2)))))
def rm_X5_frights_50 : Room := { frames := 4, cells := 0, slots := 0, locals := 96 }
set_option maxRecDepth 100000 in
set_option maxHeartbeats 4000000 in
theorem kX5_frights_50 (l : Launch) (E : QE) (σ τ : QS) (x1 : Int32) (x2 : Int32) (q : Int32 × QS) (hf : fX5_frights_50 x1 x2 τ = some q) : KQ l yX5_frights cX5_frights 7 (some .int) rm_X5_frights_50 E [.ref (qAd E 50), .int x1, .int x2] σ τ (PI E q.1 σ q.2) := by
  unfold fX5_frights_50 at hf
  refine y_met rfl (Nat.le_of_ble_eq_true rfl) rfl (fun p e s m below meth c C => ?_)
  refine y_aload_n C dX5_frights_0 rfl 0 rfl ?_
  refine y_iload_n C dX5_frights_1 rfl 1 rfl ?_
  refine y_cVi C (kX5_isSitter_50 l E σ τ x1 _ rfl) vi_X5_isSitter ml_X5_198 ⟨5, _, o50, rfl, rfl⟩ rfl ⟨rfl, rfl, Nat.le_of_ble_eq_true rfl, Nat.le_of_ble_eq_true rfl⟩ dX5_frights_2 rfl (Nat.le_of_ble_eq_true rfl) ?_
  refine y_if_eq C 15 dX5_frights_5 (by decide) hf (fun hf => ?_) (fun hf => ?_)
  · refine y_iconst C (v := -1) dX5_frights_15 (by decide) ?_
    exact y_iret C (rs1 hf) rfl (rs2 hf) dX5_frights_16
  · refine y_iload_n C dX5_frights_8 rfl 2 rfl ?_
    refine y_cSi C (kX5_isRow l E σ τ x2 _ rfl) si_X5_isRow ml_X5_83 rfl ⟨rfl, rfl, Nat.le_of_ble_eq_true rfl, Nat.le_of_ble_eq_true rfl⟩ dX5_frights_9 rfl (Nat.le_of_ble_eq_true rfl) ?_
    refine y_if_ne C 17 dX5_frights_12 (by decide) hf (fun hf => ?_) (fun hf => ?_)
    · refine y_aload_n C dX5_frights_17 rfl 0 rfl ?_
      refine y_iload_n C dX5_frights_18 rfl 2 rfl ?_
      obtain ⟨q1, h_q1, hf⟩ := bd_e hf
      refine y_cVi C (kX5_noNotices_50 l E σ τ x2 _ h_q1) vi_X5_noNotices ml_X5_285 ⟨5, _, o50, rfl, rfl⟩ rfl ⟨rfl, rfl, Nat.le_of_ble_eq_true rfl, Nat.le_of_ble_eq_true rfl⟩ dX5_frights_19 rfl (Nat.le_of_ble_eq_true rfl) ?_
      refine y_istore_n C dX5_frights_22 rfl (Nat.le_of_ble_eq_true rfl) rfl (lv' := [(3, .int q1.1), (0, .ref (qAd E 50)), (1, .int x1), (2, .int x2)]) rfl ?_
      refine y_iload_n C dX5_frights_23 rfl 0 rfl ?_
      refine y_if_eq C 29 dX5_frights_24 (by decide) hf (fun hf => ?_) (fun hf => ?_)
      · refine y_aload_n C dX5_frights_29 rfl 1 rfl ?_
        refine y_iload_n C dX5_frights_30 rfl 2 rfl ?_
        refine y_aload_n C dX5_frights_31 rfl 1 rfl ?_
        refine g50_row C fl_X5_7 dX5_frights_32 ?_
        refine y_bipush C (v := 6) dX5_frights_35 (by decide) ?_
        refine y_ialdR C a51 (j := 6) (by decide) (by decide) dX5_frights_37 ?_
        obtain ⟨q2, h_q2, hf⟩ := bd_e hf
        refine y_cVi C (kX5_claques_50 l E σ q1.2 x1 (gM q1.2 51 6) _ h_q2) vi_X5_claques ml_X5_179 ⟨5, _, o50, rfl, rfl⟩ rfl ⟨rfl, rfl, Nat.le_of_ble_eq_true rfl, Nat.le_of_ble_eq_true rfl⟩ dX5_frights_38 rfl (Nat.le_of_ble_eq_true rfl) ?_
        refine y_istore C dX5_frights_41 (Nat.le_of_ble_eq_true rfl) rfl (lv' := [(4, .int q2), (3, .int q1.1), (0, .ref (qAd E 50)), (1, .int x1), (2, .int x2)]) rfl ?_
        refine y_iconst C (v := 0) dX5_frights_43 (by decide) ?_
        refine y_istore C dX5_frights_44 (Nat.le_of_ble_eq_true rfl) rfl (lv' := [(5, .int (0 : Int32)), (4, .int q2), (3, .int q1.1), (0, .ref (qAd E 50)), (1, .int x1), (2, .int x2)]) rfl ?_
        refine y_aload_n C dX5_frights_46 rfl 3 rfl ?_
        refine y_iconst C (v := 0) dX5_frights_47 (by decide) ?_
        obtain ⟨S3, e_S3, hf⟩ := lt_e hf
        refine p50_asked C fl_X5_72 e_S3 dX5_frights_48 ?_
        refine y_iconst C (v := 0) dX5_frights_51 (by decide) ?_
        refine y_istore C dX5_frights_52 (Nat.le_of_ble_eq_true rfl) rfl (lv' := [(6, .int (0 : Int32)), (5, .int (0 : Int32)), (4, .int q2), (3, .int q1.1), (0, .ref (qAd E 50)), (1, .int x1), (2, .int x2)]) rfl ?_
        refine y_sub [0, 1, 2, 4, 5, 6] rfl ?_
        refine lp_ind (P := fun a4 : Int32 × Int32 × QS => Y E p l e rm_X5_frights_50 s m ([.ref (qAd E 50), .int x1, .int x2] : List Value).toArray below meth c 7 (MQ below (PI E q.1 σ q.2) ([.ref (qAd E 50), .int x1, .int x2] : List Value).toArray s 0 0 (qA E)) σ a4.2.2 54 [(6, .int a4.2.1), (5, .int a4.1), (4, .int q2), (0, .ref (qAd E 50)), (1, .int x1), (2, .int x2)] []) (fun r5 a4 ih_r5 hf => ?_) _ _ hf
        refine y_iload C dX5_frights_54 0 rfl ?_
        refine y_bipush C (v := 10) dX5_frights_56 (by decide) ?_
        refine y_icmp_ge C 145 dX5_frights_58 (by decide) hf (fun hf => ?_) (fun hf => ?_)
        · refine y_iload C dX5_frights_145 1 rfl ?_
          exact y_iret C (rs1 hf) rfl (rs2 hf) dX5_frights_147
        · refine y_iload C dX5_frights_61 1 rfl ?_
          refine y_aload_n C dX5_frights_63 rfl 3 rfl ?_
          refine y_iload_n C dX5_frights_64 rfl 5 rfl ?_
          refine y_aload_n C dX5_frights_65 rfl 3 rfl ?_
          refine g50_kinds C fl_X5_16 dX5_frights_66 ?_
          refine y_iload_n C dX5_frights_69 rfl 4 rfl ?_
          obtain ⟨hi6, hf⟩ := ck_e hf
          refine y_ialdR C a53 (j := x1.toNatClampNeg) rfl hi6 dX5_frights_70 ?_
          refine y_aload_n C dX5_frights_71 rfl 3 rfl ?_
          refine g50_memories C fl_X5_19 dX5_frights_72 ?_
          refine y_iload_n C dX5_frights_75 rfl 4 rfl ?_
          obtain ⟨hi7, hf⟩ := ck_e hf
          refine y_ialdR C a54 (j := x1.toNatClampNeg) rfl hi7 dX5_frights_76 ?_
          refine y_iload C dX5_frights_77 0 rfl ?_
          refine y_iload C dX5_frights_79 2 rfl ?_
          obtain ⟨q8, h_q8, hf⟩ := bd_e hf
          refine y_cVi C (kX5_isNoticed_50 l E σ a4.2.2 x2 (gM a4.2.2 53 x1.toNatClampNeg) (gM a4.2.2 54 x1.toNatClampNeg) a4.2.1 q2 _ h_q8) vi_X5_isNoticed ml_X5_288 ⟨5, _, o50, rfl, rfl⟩ rfl ⟨rfl, rfl, Nat.le_of_ble_eq_true rfl, Nat.le_of_ble_eq_true rfl⟩ dX5_frights_81 rfl (Nat.le_of_ble_eq_true rfl) ?_
          obtain ⟨j9, ek_j9, hf⟩ := lt_e hf
          have h_j9 : ∀ (v10 : Int32), j9 v10 = some q → Y E p l e rm_X5_frights_50 s m ([.ref (qAd E 50), .int x1, .int x2] : List Value).toArray below meth c 7 (MQ below (PI E q.1 σ q.2) ([.ref (qAd E 50), .int x1, .int x2] : List Value).toArray s 0 0 (qA E)) σ a4.2.2 95 [(0, .ref (qAd E 50)), (1, .int x1), (2, .int x2), (4, .int q2), (6, .int a4.2.1)] [.int v10, .int a4.1] := by
            intro v10 hf
            replace hf := (congrFun (ek_j9) v10).symm.trans hf
            refine y_ior C dX5_frights_95 ?_
            obtain ⟨v11, e_v11, hf⟩ := lt_e hf
            refine y_istore C dX5_frights_96 (Nat.le_of_ble_eq_true rfl) e_v11 (lv' := [(5, .int v11), (0, .ref (qAd E 50)), (1, .int x1), (2, .int x2), (4, .int q2), (6, .int a4.2.1)]) rfl ?_
            refine y_aload_n C dX5_frights_98 rfl 1 rfl ?_
            refine y_dup C dX5_frights_99 rfl ?_
            refine g50_asked C fl_X5_72 dX5_frights_100 ?_
            refine y_aload_n C dX5_frights_103 rfl 1 rfl ?_
            refine y_iload_n C dX5_frights_104 rfl 3 rfl ?_
            refine y_aload_n C dX5_frights_105 rfl 1 rfl ?_
            refine g50_kinds C fl_X5_16 dX5_frights_106 ?_
            refine y_iload_n C dX5_frights_109 rfl 2 rfl ?_
            obtain ⟨hi12, hf⟩ := ck_e hf
            refine y_ialdR C a53 (j := x1.toNatClampNeg) rfl hi12 dX5_frights_110 ?_
            refine y_iload C dX5_frights_111 5 rfl ?_
            refine y_aload_n C dX5_frights_113 rfl 1 rfl ?_
            refine g50_frights C fl_X5_22 dX5_frights_114 ?_
            refine y_iload_n C dX5_frights_117 rfl 2 rfl ?_
            obtain ⟨hi13, hf⟩ := ck_e hf
            refine y_ialdR C a55 (j := x1.toNatClampNeg) rfl hi13 dX5_frights_118 ?_
            refine y_iload C dX5_frights_119 4 rfl ?_
            obtain ⟨q14, h_q14, hf⟩ := bd_e hf
            refine y_cVi C (kX5_isNoticed_50 l E σ a4.2.2 x2 (gM a4.2.2 53 x1.toNatClampNeg) a4.2.1 (gM a4.2.2 55 x1.toNatClampNeg) q2 _ h_q14) vi_X5_isNoticed ml_X5_288 ⟨5, _, o50, rfl, rfl⟩ rfl ⟨rfl, rfl, Nat.le_of_ble_eq_true rfl, Nat.le_of_ble_eq_true rfl⟩ dX5_frights_121 rfl (Nat.le_of_ble_eq_true rfl) ?_
            obtain ⟨j15, ek_j15, hf⟩ := lt_e hf
            have h_j15 : ∀ (v16 : Int32), j15 v16 = some q → Y E p l e rm_X5_frights_50 s m ([.ref (qAd E 50), .int x1, .int x2] : List Value).toArray below meth c 7 (MQ below (PI E q.1 σ q.2) ([.ref (qAd E 50), .int x1, .int x2] : List Value).toArray s 0 0 (qA E)) σ a4.2.2 135 [(0, .ref (qAd E 50)), (1, .int x1), (2, .int x2), (4, .int q2), (5, .int v11), (6, .int a4.2.1)] [.int v16, .int (gI a4.2.2 2), .ref (qAd E 50)] := by
              intro v16 hf
              replace hf := (congrFun (ek_j15) v16).symm.trans hf
              refine y_ior C dX5_frights_135 ?_
              obtain ⟨S17, e_S17, hf⟩ := lt_e hf
              refine p50_asked C fl_X5_72 e_S17 dX5_frights_136 ?_
              refine y_iinc C dX5_frights_139 5 rfl (Nat.le_of_ble_eq_true rfl) (k2 := 1) (by decide) rfl (lv' := [(6, .int (a4.2.1 + (1 : Int32))), (0, .ref (qAd E 50)), (1, .int x1), (2, .int x2), (4, .int q2), (5, .int v11)]) rfl ?_
              refine y_goto C 54 dX5_frights_142 (by decide) ?_
              refine y_sub [0, 5, 4, 1, 2, 3] rfl ?_
              exact ih_r5 (v11, (a4.2.1 + (1 : Int32)), S17) hf
            refine y_if_eq C 134 dX5_frights_124 (by decide) hf (fun hf => ?_) (fun hf => ?_)
            · refine y_iconst C (v := 0) dX5_frights_134 (by decide) ?_
              refine y_sub [1, 2, 3, 4, 0, 5] rfl ?_
              exact h_j15 (0 : Int32) hf
            · refine y_iconst C (v := 1) dX5_frights_127 (by decide) ?_
              refine y_iload C dX5_frights_128 5 rfl ?_
              refine y_ishl C dX5_frights_130 ?_
              refine y_goto C 135 dX5_frights_131 (by decide) ?_
              refine y_sub [1, 2, 3, 4, 0, 5] rfl ?_
              exact h_j15 ((1 : Int32) <<< (a4.2.1 &&& 31)) hf
          refine y_if_eq C 94 dX5_frights_84 (by decide) hf (fun hf => ?_) (fun hf => ?_)
          · refine y_iconst C (v := 0) dX5_frights_94 (by decide) ?_
            refine y_sub [3, 4, 5, 2, 0] rfl ?_
            exact h_j9 (0 : Int32) hf
          · refine y_iconst C (v := 1) dX5_frights_87 (by decide) ?_
            refine y_iload C dX5_frights_88 0 rfl ?_
            refine y_ishl C dX5_frights_90 ?_
            refine y_goto C 95 dX5_frights_91 (by decide) ?_
            refine y_sub [3, 4, 5, 2, 0] rfl ?_
            exact h_j9 ((1 : Int32) <<< (a4.2.1 &&& 31)) hf
      · refine y_iload_n C dX5_frights_27 rfl 0 rfl ?_
        exact y_iret C (rs1 hf) rfl (rs2 hf) dX5_frights_28
    · refine y_iconst C (v := -1) dX5_frights_15 (by decide) ?_
      exact y_iret C (rs1 hf) rfl (rs2 hf) dX5_frights_16
noncomputable def fX4_kinds_0 (x1 : Int32) (x2 : Int32) (σ : QS) : Option (Int32 × QS) :=
    Option.bind (fX4_refusalOfNotices_0 x1 x2 σ) (fun (q1 : Int32 × QS) => (if q1.1 = 0 then lt_ (fX1_otherClaques_5 x1 (gI q1.2 14) q1.2) (fun (v2 : Int32) => lp_ (fun (r4 : Int32 × Int32 → Option (Int32 × QS)) (a3 : Int32 × Int32) => (if (6 : Int32) ≤ a3.2 then some (a3.1, q1.2) else ck_ (inb x1 6) (ck_ (inb x1 6) (Option.bind (fX4_fitsNotices_0 x2 a3.2 (gM q1.2 23 x1.toNatClampNeg) (gM q1.2 24 x1.toNatClampNeg) v2 q1.2) (fun (q7 : Int32) => (if q7 = 0 then r4 (a3.1, (a3.2 + (1 : Int32))) else lt_ (a3.1 ||| ((1 : Int32) <<< (a3.2 &&& 31))) (fun (v8 : Int32) => r4 (v8, (a3.2 + (1 : Int32)))))))))) FV ((0 : Int32), (0 : Int32))) else some (q1.1, q1.2)))
def rm_X4_kinds_0 : Room := { frames := 5, cells := 0, slots := 0, locals := 112 }
set_option maxRecDepth 100000 in
set_option maxHeartbeats 4000000 in
theorem kX4_kinds_0 (l : Launch) (E : QE) (σ τ : QS) (x1 : Int32) (x2 : Int32) (q : Int32 × QS) (hf : fX4_kinds_0 x1 x2 σ = some q) : KQ l yX4_kinds cX4_kinds 7 (some .int) rm_X4_kinds_0 E [.ref (qAd E 0), .int x1, .int x2] σ τ (PI E q.1 q.2 τ) := by
  unfold fX4_kinds_0 at hf
  refine y_met rfl (Nat.le_of_ble_eq_true rfl) rfl (fun p e s m below meth c C => ?_)
  refine y_aload_n C dX4_kinds_0 rfl 0 rfl ?_
  refine y_iload_n C dX4_kinds_1 rfl 1 rfl ?_
  refine y_iload_n C dX4_kinds_2 rfl 2 rfl ?_
  obtain ⟨q1, h_q1, hf⟩ := bd_e hf
  refine y_cVi C (kX4_refusalOfNotices_0 l E σ τ x1 x2 _ h_q1) vi_X4_refusalOfNotices ml_X4_233 ⟨4, _, o0, rfl, rfl⟩ rfl ⟨rfl, rfl, Nat.le_of_ble_eq_true rfl, Nat.le_of_ble_eq_true rfl⟩ dX4_kinds_3 rfl (Nat.le_of_ble_eq_true rfl) ?_
  refine y_istore_n C dX4_kinds_6 rfl (Nat.le_of_ble_eq_true rfl) rfl (lv' := [(3, .int q1.1), (0, .ref (qAd E 0)), (1, .int x1), (2, .int x2)]) rfl ?_
  refine y_iload_n C dX4_kinds_7 rfl 0 rfl ?_
  refine y_if_eq C 13 dX4_kinds_8 (by decide) hf (fun hf => ?_) (fun hf => ?_)
  · refine y_aload_n C dX4_kinds_13 rfl 1 rfl ?_
    refine g0_script C fl_X4_31 dX4_kinds_14 ?_
    refine y_iload_n C dX4_kinds_17 rfl 2 rfl ?_
    refine y_aload_n C dX4_kinds_18 rfl 1 rfl ?_
    refine g0_night C fl_X4_39 dX4_kinds_19 ?_
    refine gN6_called C fn_X4_236 dX4_kinds_22 ?_
    refine y_cVi C (kX1_otherClaques_5 l E q1.2 τ x1 (gI q1.2 14) _ rfl) vi_X1_otherClaques ml_X4_239 ⟨1, _, o5, rfl, rfl⟩ rfl ⟨rfl, rfl, Nat.le_of_ble_eq_true rfl, Nat.le_of_ble_eq_true rfl⟩ dX4_kinds_25 rfl (Nat.le_of_ble_eq_true rfl) ?_
    obtain ⟨v2, e_v2, hf⟩ := lt_e hf
    refine y_istore C dX4_kinds_28 (Nat.le_of_ble_eq_true rfl) e_v2 (lv' := [(4, .int v2), (3, .int q1.1), (0, .ref (qAd E 0)), (1, .int x1), (2, .int x2)]) rfl ?_
    refine y_iconst C (v := 0) dX4_kinds_30 (by decide) ?_
    refine y_istore C dX4_kinds_31 (Nat.le_of_ble_eq_true rfl) rfl (lv' := [(5, .int (0 : Int32)), (4, .int v2), (3, .int q1.1), (0, .ref (qAd E 0)), (1, .int x1), (2, .int x2)]) rfl ?_
    refine y_iconst C (v := 0) dX4_kinds_33 (by decide) ?_
    refine y_istore C dX4_kinds_34 (Nat.le_of_ble_eq_true rfl) rfl (lv' := [(6, .int (0 : Int32)), (5, .int (0 : Int32)), (4, .int v2), (3, .int q1.1), (0, .ref (qAd E 0)), (1, .int x1), (2, .int x2)]) rfl ?_
    refine y_sub [0, 1, 2, 4, 5, 6] rfl ?_
    refine lp_ind (P := fun a3 : Int32 × Int32 => Y E p l e rm_X4_kinds_0 s m ([.ref (qAd E 0), .int x1, .int x2] : List Value).toArray below meth c 7 (MQ below (PI E q.1 q.2 τ) ([.ref (qAd E 0), .int x1, .int x2] : List Value).toArray s 0 0 (qA E)) q1.2 τ 36 [(6, .int a3.2), (5, .int a3.1), (4, .int v2), (0, .ref (qAd E 0)), (1, .int x1), (2, .int x2)] []) (fun r4 a3 ih_r4 hf => ?_) _ _ hf
    refine y_iload C dX4_kinds_36 0 rfl ?_
    refine y_bipush C (v := 6) dX4_kinds_38 (by decide) ?_
    refine y_icmp_ge C 88 dX4_kinds_40 (by decide) hf (fun hf => ?_) (fun hf => ?_)
    · refine y_iload C dX4_kinds_88 1 rfl ?_
      exact y_iret C (rs1 hf) (rs2 hf) rfl dX4_kinds_90
    · refine y_aload_n C dX4_kinds_43 rfl 3 rfl ?_
      refine y_iload_n C dX4_kinds_44 rfl 5 rfl ?_
      refine y_iload C dX4_kinds_45 0 rfl ?_
      refine y_aload_n C dX4_kinds_47 rfl 3 rfl ?_
      refine g0_script C fl_X4_31 dX4_kinds_48 ?_
      refine gN5_memory C fn_X4_242 dX4_kinds_51 ?_
      refine y_iload_n C dX4_kinds_54 rfl 4 rfl ?_
      obtain ⟨hi5, hf⟩ := ck_e hf
      refine y_ialdC C a23 (j := x1.toNatClampNeg) rfl hi5 dX4_kinds_55 ?_
      refine y_aload_n C dX4_kinds_56 rfl 3 rfl ?_
      refine g0_script C fl_X4_31 dX4_kinds_57 ?_
      refine gN5_fright C fn_X4_249 dX4_kinds_60 ?_
      refine y_iload_n C dX4_kinds_63 rfl 4 rfl ?_
      obtain ⟨hi6, hf⟩ := ck_e hf
      refine y_ialdC C a24 (j := x1.toNatClampNeg) rfl hi6 dX4_kinds_64 ?_
      refine y_iload C dX4_kinds_65 2 rfl ?_
      obtain ⟨q7, h_q7, hf⟩ := bd_e hf
      refine y_cVi C (kX4_fitsNotices_0 l E q1.2 τ x2 a3.2 (gM q1.2 23 x1.toNatClampNeg) (gM q1.2 24 x1.toNatClampNeg) v2 _ h_q7) vi_X4_fitsNotices ml_X4_245 ⟨4, _, o0, rfl, rfl⟩ rfl ⟨rfl, rfl, Nat.le_of_ble_eq_true rfl, Nat.le_of_ble_eq_true rfl⟩ dX4_kinds_67 rfl (Nat.le_of_ble_eq_true rfl) ?_
      refine y_if_eq C 82 dX4_kinds_70 (by decide) hf (fun hf => ?_) (fun hf => ?_)
      · refine y_iinc C dX4_kinds_82 0 rfl (Nat.le_of_ble_eq_true rfl) (k2 := 1) (by decide) rfl (lv' := [(6, .int (a3.2 + (1 : Int32))), (5, .int a3.1), (4, .int v2), (0, .ref (qAd E 0)), (1, .int x1), (2, .int x2)]) rfl ?_
        refine y_goto C 36 dX4_kinds_85 (by decide) ?_
        refine y_sub [0, 1, 2, 3, 4, 5] rfl ?_
        exact ih_r4 (a3.1, (a3.2 + (1 : Int32))) hf
      · refine y_iload C dX4_kinds_73 1 rfl ?_
        refine y_iconst C (v := 1) dX4_kinds_75 (by decide) ?_
        refine y_iload C dX4_kinds_76 0 rfl ?_
        refine y_ishl C dX4_kinds_78 ?_
        refine y_ior C dX4_kinds_79 ?_
        obtain ⟨v8, e_v8, hf⟩ := lt_e hf
        refine y_istore C dX4_kinds_80 (Nat.le_of_ble_eq_true rfl) e_v8 (lv' := [(5, .int v8), (6, .int a3.2), (4, .int v2), (0, .ref (qAd E 0)), (1, .int x1), (2, .int x2)]) rfl ?_
        refine y_iinc C dX4_kinds_82 1 rfl (Nat.le_of_ble_eq_true rfl) (k2 := 1) (by decide) rfl (lv' := [(6, .int (a3.2 + (1 : Int32))), (5, .int v8), (4, .int v2), (0, .ref (qAd E 0)), (1, .int x1), (2, .int x2)]) rfl ?_
        refine y_goto C 36 dX4_kinds_85 (by decide) ?_
        refine y_sub [0, 1, 2, 3, 4, 5] rfl ?_
        exact ih_r4 (v8, (a3.2 + (1 : Int32))) hf
  · refine y_iload_n C dX4_kinds_11 rfl 0 rfl ?_
    exact y_iret C (rs1 hf) (rs2 hf) rfl dX4_kinds_12
noncomputable def fX5_kinds_50 (x1 : Int32) (x2 : Int32) (τ : QS) : Option (Int32 × QS) :=
    (if (fX5_isSitter_50 x1 τ) = 0 then some ((-1 : Int32), τ) else (if (fX5_isRow x2) = 0 then some ((-1 : Int32), τ) else Option.bind (fX5_noNotices_50 x2 τ) (fun (q1 : Int32 × QS) => (if q1.1 = 0 then lp_ (fun (r3 : Int32 × Int32 → Option (Int32 × QS)) (a2 : Int32 × Int32) => (if (6 : Int32) ≤ a2.2 then some (a2.1, q1.2) else ck_ (inb x1 6) (ck_ (inb x1 6) (Option.bind (fX5_claques_50 x1 (gM q1.2 51 6) q1.2) (fun (q6 : Int32) => Option.bind (fX5_isNoticed_50 x2 a2.2 (gM q1.2 54 x1.toNatClampNeg) (gM q1.2 55 x1.toNatClampNeg) q6 q1.2) (fun (q7 : Int32) => (if q7 = 0 then lt_ (a2.1 ||| (0 : Int32)) (fun (v8 : Int32) => r3 (v8, (a2.2 + (1 : Int32)))) else lt_ (a2.1 ||| ((1 : Int32) <<< (a2.2 &&& 31))) (fun (v9 : Int32) => r3 (v9, (a2.2 + (1 : Int32))))))))))) FV ((0 : Int32), (0 : Int32)) else some (q1.1, q1.2)))))
def rm_X5_kinds_50 : Room := { frames := 4, cells := 0, slots := 0, locals := 96 }
set_option maxRecDepth 100000 in
set_option maxHeartbeats 4000000 in
theorem kX5_kinds_50 (l : Launch) (E : QE) (σ τ : QS) (x1 : Int32) (x2 : Int32) (q : Int32 × QS) (hf : fX5_kinds_50 x1 x2 τ = some q) : KQ l yX5_kinds cX5_kinds 6 (some .int) rm_X5_kinds_50 E [.ref (qAd E 50), .int x1, .int x2] σ τ (PI E q.1 σ q.2) := by
  unfold fX5_kinds_50 at hf
  refine y_met rfl (Nat.le_of_ble_eq_true rfl) rfl (fun p e s m below meth c C => ?_)
  refine y_aload_n C dX5_kinds_0 rfl 0 rfl ?_
  refine y_iload_n C dX5_kinds_1 rfl 1 rfl ?_
  refine y_cVi C (kX5_isSitter_50 l E σ τ x1 _ rfl) vi_X5_isSitter ml_X5_198 ⟨5, _, o50, rfl, rfl⟩ rfl ⟨rfl, rfl, Nat.le_of_ble_eq_true rfl, Nat.le_of_ble_eq_true rfl⟩ dX5_kinds_2 rfl (Nat.le_of_ble_eq_true rfl) ?_
  refine y_if_eq C 15 dX5_kinds_5 (by decide) hf (fun hf => ?_) (fun hf => ?_)
  · refine y_iconst C (v := -1) dX5_kinds_15 (by decide) ?_
    exact y_iret C (rs1 hf) rfl (rs2 hf) dX5_kinds_16
  · refine y_iload_n C dX5_kinds_8 rfl 2 rfl ?_
    refine y_cSi C (kX5_isRow l E σ τ x2 _ rfl) si_X5_isRow ml_X5_83 rfl ⟨rfl, rfl, Nat.le_of_ble_eq_true rfl, Nat.le_of_ble_eq_true rfl⟩ dX5_kinds_9 rfl (Nat.le_of_ble_eq_true rfl) ?_
    refine y_if_ne C 17 dX5_kinds_12 (by decide) hf (fun hf => ?_) (fun hf => ?_)
    · refine y_aload_n C dX5_kinds_17 rfl 0 rfl ?_
      refine y_iload_n C dX5_kinds_18 rfl 2 rfl ?_
      obtain ⟨q1, h_q1, hf⟩ := bd_e hf
      refine y_cVi C (kX5_noNotices_50 l E σ τ x2 _ h_q1) vi_X5_noNotices ml_X5_285 ⟨5, _, o50, rfl, rfl⟩ rfl ⟨rfl, rfl, Nat.le_of_ble_eq_true rfl, Nat.le_of_ble_eq_true rfl⟩ dX5_kinds_19 rfl (Nat.le_of_ble_eq_true rfl) ?_
      refine y_istore_n C dX5_kinds_22 rfl (Nat.le_of_ble_eq_true rfl) rfl (lv' := [(3, .int q1.1), (0, .ref (qAd E 50)), (1, .int x1), (2, .int x2)]) rfl ?_
      refine y_iload_n C dX5_kinds_23 rfl 0 rfl ?_
      refine y_if_eq C 29 dX5_kinds_24 (by decide) hf (fun hf => ?_) (fun hf => ?_)
      · refine y_iconst C (v := 0) dX5_kinds_29 (by decide) ?_
        refine y_istore C dX5_kinds_30 (Nat.le_of_ble_eq_true rfl) rfl (lv' := [(4, .int (0 : Int32)), (3, .int q1.1), (0, .ref (qAd E 50)), (1, .int x1), (2, .int x2)]) rfl ?_
        refine y_iconst C (v := 0) dX5_kinds_32 (by decide) ?_
        refine y_istore C dX5_kinds_33 (Nat.le_of_ble_eq_true rfl) rfl (lv' := [(5, .int (0 : Int32)), (4, .int (0 : Int32)), (3, .int q1.1), (0, .ref (qAd E 50)), (1, .int x1), (2, .int x2)]) rfl ?_
        refine y_sub [0, 1, 3, 4, 5] rfl ?_
        refine lp_ind (P := fun a2 : Int32 × Int32 => Y E p l e rm_X5_kinds_50 s m ([.ref (qAd E 50), .int x1, .int x2] : List Value).toArray below meth c 6 (MQ below (PI E q.1 σ q.2) ([.ref (qAd E 50), .int x1, .int x2] : List Value).toArray s 0 0 (qA E)) σ q1.2 35 [(5, .int a2.2), (4, .int a2.1), (0, .ref (qAd E 50)), (1, .int x1), (2, .int x2)] []) (fun r3 a2 ih_r3 hf => ?_) _ _ hf
        refine y_iload C dX5_kinds_35 0 rfl ?_
        refine y_bipush C (v := 6) dX5_kinds_37 (by decide) ?_
        refine y_icmp_ge C 95 dX5_kinds_39 (by decide) hf (fun hf => ?_) (fun hf => ?_)
        · refine y_iload C dX5_kinds_95 1 rfl ?_
          exact y_iret C (rs1 hf) rfl (rs2 hf) dX5_kinds_97
        · refine y_iload C dX5_kinds_42 1 rfl ?_
          refine y_aload_n C dX5_kinds_44 rfl 2 rfl ?_
          refine y_iload_n C dX5_kinds_45 rfl 4 rfl ?_
          refine y_iload C dX5_kinds_46 0 rfl ?_
          refine y_aload_n C dX5_kinds_48 rfl 2 rfl ?_
          refine g50_memories C fl_X5_19 dX5_kinds_49 ?_
          refine y_iload_n C dX5_kinds_52 rfl 3 rfl ?_
          obtain ⟨hi4, hf⟩ := ck_e hf
          refine y_ialdR C a54 (j := x1.toNatClampNeg) rfl hi4 dX5_kinds_53 ?_
          refine y_aload_n C dX5_kinds_54 rfl 2 rfl ?_
          refine g50_frights C fl_X5_22 dX5_kinds_55 ?_
          refine y_iload_n C dX5_kinds_58 rfl 3 rfl ?_
          obtain ⟨hi5, hf⟩ := ck_e hf
          refine y_ialdR C a55 (j := x1.toNatClampNeg) rfl hi5 dX5_kinds_59 ?_
          refine y_aload_n C dX5_kinds_60 rfl 2 rfl ?_
          refine y_iload_n C dX5_kinds_61 rfl 3 rfl ?_
          refine y_aload_n C dX5_kinds_62 rfl 2 rfl ?_
          refine g50_row C fl_X5_7 dX5_kinds_63 ?_
          refine y_bipush C (v := 6) dX5_kinds_66 (by decide) ?_
          refine y_ialdR C a51 (j := 6) (by decide) (by decide) dX5_kinds_68 ?_
          obtain ⟨q6, h_q6, hf⟩ := bd_e hf
          refine y_cVi C (kX5_claques_50 l E σ q1.2 x1 (gM q1.2 51 6) _ h_q6) vi_X5_claques ml_X5_179 ⟨5, _, o50, rfl, rfl⟩ rfl ⟨rfl, rfl, Nat.le_of_ble_eq_true rfl, Nat.le_of_ble_eq_true rfl⟩ dX5_kinds_69 rfl (Nat.le_of_ble_eq_true rfl) ?_
          obtain ⟨q7, h_q7, hf⟩ := bd_e hf
          refine y_cVi C (kX5_isNoticed_50 l E σ q1.2 x2 a2.2 (gM q1.2 54 x1.toNatClampNeg) (gM q1.2 55 x1.toNatClampNeg) q6 _ h_q7) vi_X5_isNoticed ml_X5_288 ⟨5, _, o50, rfl, rfl⟩ rfl ⟨rfl, rfl, Nat.le_of_ble_eq_true rfl, Nat.le_of_ble_eq_true rfl⟩ dX5_kinds_72 rfl (Nat.le_of_ble_eq_true rfl) ?_
          refine y_if_eq C 85 dX5_kinds_75 (by decide) hf (fun hf => ?_) (fun hf => ?_)
          · refine y_iconst C (v := 0) dX5_kinds_85 (by decide) ?_
            refine y_ior C dX5_kinds_86 ?_
            obtain ⟨v8, e_v8, hf⟩ := lt_e hf
            refine y_istore C dX5_kinds_87 (Nat.le_of_ble_eq_true rfl) e_v8 (lv' := [(4, .int v8), (5, .int a2.2), (0, .ref (qAd E 50)), (1, .int x1), (2, .int x2)]) rfl ?_
            refine y_iinc C dX5_kinds_89 1 rfl (Nat.le_of_ble_eq_true rfl) (k2 := 1) (by decide) rfl (lv' := [(5, .int (a2.2 + (1 : Int32))), (4, .int v8), (0, .ref (qAd E 50)), (1, .int x1), (2, .int x2)]) rfl ?_
            refine y_goto C 35 dX5_kinds_92 (by decide) ?_
            refine y_sub [0, 1, 2, 3, 4] rfl ?_
            exact ih_r3 (v8, (a2.2 + (1 : Int32))) hf
          · refine y_iconst C (v := 1) dX5_kinds_78 (by decide) ?_
            refine y_iload C dX5_kinds_79 0 rfl ?_
            refine y_ishl C dX5_kinds_81 ?_
            refine y_goto C 86 dX5_kinds_82 (by decide) ?_
            refine y_ior C dX5_kinds_86 ?_
            obtain ⟨v9, e_v9, hf⟩ := lt_e hf
            refine y_istore C dX5_kinds_87 (Nat.le_of_ble_eq_true rfl) e_v9 (lv' := [(4, .int v9), (5, .int a2.2), (0, .ref (qAd E 50)), (1, .int x1), (2, .int x2)]) rfl ?_
            refine y_iinc C dX5_kinds_89 1 rfl (Nat.le_of_ble_eq_true rfl) (k2 := 1) (by decide) rfl (lv' := [(5, .int (a2.2 + (1 : Int32))), (4, .int v9), (0, .ref (qAd E 50)), (1, .int x1), (2, .int x2)]) rfl ?_
            refine y_goto C 35 dX5_kinds_92 (by decide) ?_
            refine y_sub [0, 1, 2, 3, 4] rfl ?_
            exact ih_r3 (v9, (a2.2 + (1 : Int32))) hf
      · refine y_iload_n C dX5_kinds_27 rfl 0 rfl ?_
        exact y_iret C (rs1 hf) rfl (rs2 hf) dX5_kinds_28
    · refine y_iconst C (v := -1) dX5_kinds_15 (by decide) ?_
      exact y_iret C (rs1 hf) rfl (rs2 hf) dX5_kinds_16
noncomputable def fX4_whom_0 (x1 : Int32) (σ : QS) : Option (Int32 × QS) :=
    (if x1 < 0 then some ((-1 : Int32), σ) else (if x1 ≤ (9 : Int32) then (if (fX0_scenesYet_6 σ) = 0 then some ((-4 : Int32), σ) else Option.bind (fX0_free_6 σ) (fun (q1 : Int32) => lp_ (fun (r3 : Int32 × Int32 × Int32 → Option (Int32 × QS)) (a2 : Int32 × Int32 × Int32) => (if (gI σ 9) ≤ a2.2.2 then lt_ (fX4_tell_0 (fJ6_bitCount_0f7a4 a2.2.1) σ) (fun (q4 : Int32 × QS) => some (a2.1, q4.2)) else (if (fX4_isIn q1 a2.2.2) = 0 then r3 (a2.1, a2.2.1, (a2.2.2 + (1 : Int32))) else Option.bind (fX0_lackingNow_6 a2.2.2 σ) (fun (q5 : Int32) => lt_ (a2.2.1 ||| ((1 : Int32) <<< (q5 &&& 31))) (fun (v6 : Int32) => (if q5 = x1 then lt_ (a2.1 ||| ((1 : Int32) <<< (a2.2.2 &&& 31))) (fun (v8 : Int32) => r3 (v8, v6, (a2.2.2 + (1 : Int32)))) else lt_ (a2.1 ||| (0 : Int32)) (fun (v7 : Int32) => r3 (v7, v6, (a2.2.2 + (1 : Int32)))))))))) FV ((0 : Int32), (0 : Int32), (0 : Int32)))) else some ((-1 : Int32), σ)))
def rm_X4_whom_0 : Room := { frames := 5, cells := 0, slots := 0, locals := 115 }
set_option maxRecDepth 100000 in
set_option maxHeartbeats 4000000 in
theorem kX4_whom_0 (l : Launch) (E : QE) (σ τ : QS) (x1 : Int32) (q : Int32 × QS) (hf : fX4_whom_0 x1 σ = some q) : KQ l yX4_whom cX4_whom 7 (some .int) rm_X4_whom_0 E [.ref (qAd E 0), .int x1] σ τ (PI E q.1 q.2 τ) := by
  unfold fX4_whom_0 at hf
  refine y_met rfl (Nat.le_of_ble_eq_true rfl) rfl (fun p e s m below meth c C => ?_)
  refine y_iload_n C dX4_whom_0 rfl 1 rfl ?_
  refine y_if_lt C 10 dX4_whom_1 (by decide) hf (fun hf => ?_) (fun hf => ?_)
  · refine y_iconst C (v := -1) dX4_whom_10 (by decide) ?_
    exact y_iret C (rs1 hf) (rs2 hf) rfl dX4_whom_11
  · refine y_iload_n C dX4_whom_4 rfl 1 rfl ?_
    refine y_bipush C (v := 9) dX4_whom_5 (by decide) ?_
    refine y_icmp_le C 12 dX4_whom_7 (by decide) hf (fun hf => ?_) (fun hf => ?_)
    · refine y_aload_n C dX4_whom_12 rfl 0 rfl ?_
      refine g0_night C fl_X4_39 dX4_whom_13 ?_
      refine y_cVi C (kX0_scenesYet_6 l E σ τ _ rfl) vi_X0_scenesYet ml_X4_140 ⟨0, _, o6, rfl, rfl⟩ rfl ⟨rfl, rfl, Nat.le_of_ble_eq_true rfl, Nat.le_of_ble_eq_true rfl⟩ dX4_whom_16 rfl (Nat.le_of_ble_eq_true rfl) ?_
      refine y_if_ne C 25 dX4_whom_19 (by decide) hf (fun hf => ?_) (fun hf => ?_)
      · refine y_aload_n C dX4_whom_25 rfl 0 rfl ?_
        refine g0_night C fl_X4_39 dX4_whom_26 ?_
        obtain ⟨q1, h_q1, hf⟩ := bd_e hf
        refine y_cVi C (kX0_free_6 l E σ τ _ h_q1) vi_X0_free ml_X4_144 ⟨0, _, o6, rfl, rfl⟩ rfl ⟨rfl, rfl, Nat.le_of_ble_eq_true rfl, Nat.le_of_ble_eq_true rfl⟩ dX4_whom_29 rfl (Nat.le_of_ble_eq_true rfl) ?_
        refine y_istore_n C dX4_whom_32 rfl (Nat.le_of_ble_eq_true rfl) rfl (lv' := [(2, .int q1), (0, .ref (qAd E 0)), (1, .int x1)]) rfl ?_
        refine y_iconst C (v := 0) dX4_whom_33 (by decide) ?_
        refine y_istore_n C dX4_whom_34 rfl (Nat.le_of_ble_eq_true rfl) rfl (lv' := [(3, .int (0 : Int32)), (2, .int q1), (0, .ref (qAd E 0)), (1, .int x1)]) rfl ?_
        refine y_iconst C (v := 0) dX4_whom_35 (by decide) ?_
        refine y_istore C dX4_whom_36 (Nat.le_of_ble_eq_true rfl) rfl (lv' := [(4, .int (0 : Int32)), (3, .int (0 : Int32)), (2, .int q1), (0, .ref (qAd E 0)), (1, .int x1)]) rfl ?_
        refine y_iconst C (v := 0) dX4_whom_38 (by decide) ?_
        refine y_istore C dX4_whom_39 (Nat.le_of_ble_eq_true rfl) rfl (lv' := [(5, .int (0 : Int32)), (4, .int (0 : Int32)), (3, .int (0 : Int32)), (2, .int q1), (0, .ref (qAd E 0)), (1, .int x1)]) rfl ?_
        refine y_sub [0, 1, 2, 3, 4, 5] rfl ?_
        refine lp_ind (P := fun a2 : Int32 × Int32 × Int32 => Y E p l e rm_X4_whom_0 s m ([.ref (qAd E 0), .int x1] : List Value).toArray below meth c 7 (MQ below (PI E q.1 q.2 τ) ([.ref (qAd E 0), .int x1] : List Value).toArray s 0 0 (qA E)) σ τ 41 [(5, .int a2.2.2), (4, .int a2.2.1), (3, .int a2.1), (2, .int q1), (0, .ref (qAd E 0)), (1, .int x1)] []) (fun r3 a2 ih_r3 hf => ?_) _ _ hf
        refine y_iload C dX4_whom_41 0 rfl ?_
        refine y_aload_n C dX4_whom_43 rfl 4 rfl ?_
        refine g0_script C fl_X4_31 dX4_whom_44 ?_
        refine gN5_sitterCount C fn_X4_114 dX4_whom_47 ?_
        refine y_icmp_ge C 105 dX4_whom_50 (by decide) hf (fun hf => ?_) (fun hf => ?_)
        · refine y_aload_n C dX4_whom_105 rfl 4 rfl ?_
          refine y_iload C dX4_whom_106 1 rfl ?_
          refine y_cSi C (kJ6_bitCount_0f7a4 l E σ τ a2.2.1 _ rfl) si_J6_bitCount_0f7a4 ml_X4_168 rfl ⟨rfl, rfl, Nat.le_of_ble_eq_true rfl, Nat.le_of_ble_eq_true rfl⟩ dX4_whom_108 rfl (Nat.le_of_ble_eq_true rfl) ?_
          obtain ⟨q4, e_q4, hf⟩ := lt_e hf
          refine y_cVi C (kX4_tell_0 l E σ τ (fJ6_bitCount_0f7a4 a2.2.1) _ e_q4.symm) vi_X4_tell ml_X4_83 ⟨4, _, o0, rfl, rfl⟩ rfl ⟨rfl, rfl, Nat.le_of_ble_eq_true rfl, Nat.le_of_ble_eq_true rfl⟩ dX4_whom_111 rfl (Nat.le_of_ble_eq_true rfl) ?_
          refine y_pop C dX4_whom_114 rfl ?_
          refine y_iload_n C dX4_whom_115 rfl 2 rfl ?_
          exact y_iret C (rs1 hf) (rs2 hf) rfl dX4_whom_116
        · refine y_iload_n C dX4_whom_53 rfl 3 rfl ?_
          refine y_iload C dX4_whom_54 0 rfl ?_
          refine y_cSi C (kX4_isIn l E σ τ q1 a2.2.2 _ rfl) si_X4_isIn ml_X4_147 rfl ⟨rfl, rfl, Nat.le_of_ble_eq_true rfl, Nat.le_of_ble_eq_true rfl⟩ dX4_whom_56 rfl (Nat.le_of_ble_eq_true rfl) ?_
          refine y_if_eq C 99 dX4_whom_59 (by decide) hf (fun hf => ?_) (fun hf => ?_)
          · refine y_iinc C dX4_whom_99 0 rfl (Nat.le_of_ble_eq_true rfl) (k2 := 1) (by decide) rfl (lv' := [(5, .int (a2.2.2 + (1 : Int32))), (4, .int a2.2.1), (3, .int a2.1), (2, .int q1), (0, .ref (qAd E 0)), (1, .int x1)]) rfl ?_
            refine y_goto C 41 dX4_whom_102 (by decide) ?_
            refine y_sub [0, 1, 2, 3, 4, 5] rfl ?_
            exact ih_r3 (a2.1, a2.2.1, (a2.2.2 + (1 : Int32))) hf
          · refine y_aload_n C dX4_whom_62 rfl 4 rfl ?_
            refine g0_night C fl_X4_39 dX4_whom_63 ?_
            refine y_iload C dX4_whom_66 0 rfl ?_
            obtain ⟨q5, h_q5, hf⟩ := bd_e hf
            refine y_cVi C (kX0_lackingNow_6 l E σ τ a2.2.2 _ h_q5) vi_X0_lackingNow ml_X4_153 ⟨0, _, o6, rfl, rfl⟩ rfl ⟨rfl, rfl, Nat.le_of_ble_eq_true rfl, Nat.le_of_ble_eq_true rfl⟩ dX4_whom_68 rfl (Nat.le_of_ble_eq_true rfl) ?_
            refine y_istore C dX4_whom_71 (Nat.le_of_ble_eq_true rfl) rfl (lv' := [(6, .int q5), (5, .int a2.2.2), (4, .int a2.2.1), (3, .int a2.1), (2, .int q1), (0, .ref (qAd E 0)), (1, .int x1)]) rfl ?_
            refine y_iload C dX4_whom_73 2 rfl ?_
            refine y_iconst C (v := 1) dX4_whom_75 (by decide) ?_
            refine y_iload C dX4_whom_76 0 rfl ?_
            refine y_ishl C dX4_whom_78 ?_
            refine y_ior C dX4_whom_79 ?_
            obtain ⟨v6, e_v6, hf⟩ := lt_e hf
            refine y_istore C dX4_whom_80 (Nat.le_of_ble_eq_true rfl) e_v6 (lv' := [(4, .int v6), (6, .int q5), (5, .int a2.2.2), (3, .int a2.1), (2, .int q1), (0, .ref (qAd E 0)), (1, .int x1)]) rfl ?_
            refine y_iload_n C dX4_whom_82 rfl 3 rfl ?_
            refine y_iload C dX4_whom_83 1 rfl ?_
            refine y_iload_n C dX4_whom_85 rfl 6 rfl ?_
            refine y_icmp_ne C 96 dX4_whom_86 (by decide) hf (fun hf => ?_) (fun hf => ?_)
            · refine y_iconst C (v := 0) dX4_whom_96 (by decide) ?_
              refine y_ior C dX4_whom_97 ?_
              obtain ⟨v7, e_v7, hf⟩ := lt_e hf
              refine y_istore_n C dX4_whom_98 rfl (Nat.le_of_ble_eq_true rfl) e_v7 (lv' := [(3, .int v7), (4, .int v6), (6, .int q5), (5, .int a2.2.2), (2, .int q1), (0, .ref (qAd E 0)), (1, .int x1)]) rfl ?_
              refine y_iinc C dX4_whom_99 3 rfl (Nat.le_of_ble_eq_true rfl) (k2 := 1) (by decide) rfl (lv' := [(5, .int (a2.2.2 + (1 : Int32))), (3, .int v7), (4, .int v6), (6, .int q5), (2, .int q1), (0, .ref (qAd E 0)), (1, .int x1)]) rfl ?_
              refine y_goto C 41 dX4_whom_102 (by decide) ?_
              refine y_sub [0, 2, 1, 4, 5, 6] rfl ?_
              exact ih_r3 (v7, v6, (a2.2.2 + (1 : Int32))) hf
            · refine y_iconst C (v := 1) dX4_whom_89 (by decide) ?_
              refine y_iload C dX4_whom_90 2 rfl ?_
              refine y_ishl C dX4_whom_92 ?_
              refine y_goto C 97 dX4_whom_93 (by decide) ?_
              refine y_ior C dX4_whom_97 ?_
              obtain ⟨v8, e_v8, hf⟩ := lt_e hf
              refine y_istore_n C dX4_whom_98 rfl (Nat.le_of_ble_eq_true rfl) e_v8 (lv' := [(3, .int v8), (4, .int v6), (6, .int q5), (5, .int a2.2.2), (2, .int q1), (0, .ref (qAd E 0)), (1, .int x1)]) rfl ?_
              refine y_iinc C dX4_whom_99 3 rfl (Nat.le_of_ble_eq_true rfl) (k2 := 1) (by decide) rfl (lv' := [(5, .int (a2.2.2 + (1 : Int32))), (3, .int v8), (4, .int v6), (6, .int q5), (2, .int q1), (0, .ref (qAd E 0)), (1, .int x1)]) rfl ?_
              refine y_goto C 41 dX4_whom_102 (by decide) ?_
              refine y_sub [0, 2, 1, 4, 5, 6] rfl ?_
              exact ih_r3 (v8, v6, (a2.2.2 + (1 : Int32))) hf
      · refine y_bipush C (v := -4) dX4_whom_22 (by decide) ?_
        exact y_iret C (rs1 hf) (rs2 hf) rfl dX4_whom_24
    · refine y_iconst C (v := -1) dX4_whom_10 (by decide) ?_
      exact y_iret C (rs1 hf) (rs2 hf) rfl dX4_whom_11
noncomputable def fX5_whom_50 (x1 : Int32) (τ : QS) : Option (Int32 × QS) :=
    (if (fX5_in x1.toInt64 (0 : Int64) (9 : Int64)) = 0 then some ((-1 : Int32), τ) else (if (fX5_isOver_50 τ) = 0 then lp_ (fun (r2 : Int32 × Int32 × Int32 → Option (Int32 × QS)) (a1 : Int32 × Int32 × Int32) => (if (gI τ 1) ≤ a1.2.2 then Option.bind (fX5_bits a1.2.1) (fun (q3 : Int32) => lt_ (pI τ 2 q3) (fun (S4 : QS) => some (a1.1, S4))) else Option.bind (fX5_mayCall_50 a1.2.2 (gM τ 51 6) τ) (fun (q5 : Int32) => (if q5 = 0 then r2 (a1.1, a1.2.1, (a1.2.2 + (1 : Int32))) else Option.bind (fX5_lacking_50 a1.2.2 (gM τ 51 1) (gM τ 51 4) (gM τ 51 6) τ) (fun (q6 : Int32) => (if q6 = x1 then lt_ (a1.1 ||| ((1 : Int32) <<< (a1.2.2 &&& 31))) (fun (v9 : Int32) => lt_ (a1.2.1 ||| ((1 : Int32) <<< (q6 &&& 31))) (fun (v10 : Int32) => r2 (v9, v10, (a1.2.2 + (1 : Int32))))) else lt_ (a1.1 ||| (0 : Int32)) (fun (v7 : Int32) => lt_ (a1.2.1 ||| ((1 : Int32) <<< (q6 &&& 31))) (fun (v8 : Int32) => r2 (v7, v8, (a1.2.2 + (1 : Int32))))))))))) FV ((0 : Int32), (0 : Int32), (0 : Int32)) else some ((-4 : Int32), τ)))
def rm_X5_whom_50 : Room := { frames := 5, cells := 0, slots := 0, locals := 115 }
set_option maxRecDepth 100000 in
set_option maxHeartbeats 4000000 in
theorem kX5_whom_50 (l : Launch) (E : QE) (σ τ : QS) (x1 : Int32) (q : Int32 × QS) (hf : fX5_whom_50 x1 τ = some q) : KQ l yX5_whom cX5_whom 6 (some .int) rm_X5_whom_50 E [.ref (qAd E 50), .int x1] σ τ (PI E q.1 σ q.2) := by
  unfold fX5_whom_50 at hf
  refine y_met rfl (Nat.le_of_ble_eq_true rfl) rfl (fun p e s m below meth c C => ?_)
  refine y_iload_n C dX5_whom_0 rfl 1 rfl ?_
  refine y_i2l C dX5_whom_1 ?_
  refine y_lconst C (v := 0) dX5_whom_2 (by decide) ?_
  refine y_ldc2 C kl_X5_279 dX5_whom_3 ?_
  refine y_cSi C (kX5_in l E σ τ x1.toInt64 (0 : Int64) (9 : Int64) _ rfl) si_X5_in ml_X5_77 rfl ⟨rfl, rfl, Nat.le_of_ble_eq_true rfl, Nat.le_of_ble_eq_true rfl⟩ dX5_whom_6 rfl (Nat.le_of_ble_eq_true rfl) ?_
  refine y_if_ne C 14 dX5_whom_9 (by decide) hf (fun hf => ?_) (fun hf => ?_)
  · refine y_aload_n C dX5_whom_14 rfl 0 rfl ?_
    refine y_cVi C (kX5_isOver_50 l E σ τ _ rfl) vi_X5_isOver ml_X5_222 ⟨5, _, o50, rfl, rfl⟩ rfl ⟨rfl, rfl, Nat.le_of_ble_eq_true rfl, Nat.le_of_ble_eq_true rfl⟩ dX5_whom_15 rfl (Nat.le_of_ble_eq_true rfl) ?_
    refine y_if_eq C 24 dX5_whom_18 (by decide) hf (fun hf => ?_) (fun hf => ?_)
    · refine y_iconst C (v := 0) dX5_whom_24 (by decide) ?_
      refine y_istore_n C dX5_whom_25 rfl (Nat.le_of_ble_eq_true rfl) rfl (lv' := [(2, .int (0 : Int32)), (0, .ref (qAd E 50)), (1, .int x1)]) rfl ?_
      refine y_iconst C (v := 0) dX5_whom_26 (by decide) ?_
      refine y_istore_n C dX5_whom_27 rfl (Nat.le_of_ble_eq_true rfl) rfl (lv' := [(3, .int (0 : Int32)), (2, .int (0 : Int32)), (0, .ref (qAd E 50)), (1, .int x1)]) rfl ?_
      refine y_iconst C (v := 0) dX5_whom_28 (by decide) ?_
      refine y_istore C dX5_whom_29 (Nat.le_of_ble_eq_true rfl) rfl (lv' := [(4, .int (0 : Int32)), (3, .int (0 : Int32)), (2, .int (0 : Int32)), (0, .ref (qAd E 50)), (1, .int x1)]) rfl ?_
      refine y_sub [0, 1, 2, 3, 4] rfl ?_
      refine lp_ind (P := fun a1 : Int32 × Int32 × Int32 => Y E p l e rm_X5_whom_50 s m ([.ref (qAd E 50), .int x1] : List Value).toArray below meth c 6 (MQ below (PI E q.1 σ q.2) ([.ref (qAd E 50), .int x1] : List Value).toArray s 0 0 (qA E)) σ τ 31 [(4, .int a1.2.2), (3, .int a1.2.1), (2, .int a1.1), (0, .ref (qAd E 50)), (1, .int x1)] []) (fun r2 a1 ih_r2 hf => ?_) _ _ hf
      refine y_iload C dX5_whom_31 0 rfl ?_
      refine y_aload_n C dX5_whom_33 rfl 3 rfl ?_
      refine g50_sitters C fl_X5_163 dX5_whom_34 ?_
      refine y_icmp_ge C 113 dX5_whom_37 (by decide) hf (fun hf => ?_) (fun hf => ?_)
      · refine y_aload_n C dX5_whom_113 rfl 3 rfl ?_
        refine y_iload_n C dX5_whom_114 rfl 1 rfl ?_
        obtain ⟨q3, h_q3, hf⟩ := bd_e hf
        refine y_cSi C (kX5_bits l E σ τ a1.2.1 _ h_q3) si_X5_bits ml_X5_237 rfl ⟨rfl, rfl, Nat.le_of_ble_eq_true rfl, Nat.le_of_ble_eq_true rfl⟩ dX5_whom_115 rfl (Nat.le_of_ble_eq_true rfl) ?_
        obtain ⟨S4, e_S4, hf⟩ := lt_e hf
        refine p50_asked C fl_X5_72 e_S4 dX5_whom_118 ?_
        refine y_iload_n C dX5_whom_121 rfl 2 rfl ?_
        exact y_iret C (rs1 hf) rfl (rs2 hf) dX5_whom_122
      · refine y_aload_n C dX5_whom_40 rfl 3 rfl ?_
        refine y_iload C dX5_whom_41 0 rfl ?_
        refine y_aload_n C dX5_whom_43 rfl 3 rfl ?_
        refine g50_row C fl_X5_7 dX5_whom_44 ?_
        refine y_bipush C (v := 6) dX5_whom_47 (by decide) ?_
        refine y_ialdR C a51 (j := 6) (by decide) (by decide) dX5_whom_49 ?_
        obtain ⟨q5, h_q5, hf⟩ := bd_e hf
        refine y_cVi C (kX5_mayCall_50 l E σ τ a1.2.2 (gM τ 51 6) _ h_q5) vi_X5_mayCall ml_X5_195 ⟨5, _, o50, rfl, rfl⟩ rfl ⟨rfl, rfl, Nat.le_of_ble_eq_true rfl, Nat.le_of_ble_eq_true rfl⟩ dX5_whom_50 rfl (Nat.le_of_ble_eq_true rfl) ?_
        refine y_if_eq C 107 dX5_whom_53 (by decide) hf (fun hf => ?_) (fun hf => ?_)
        · refine y_iinc C dX5_whom_107 0 rfl (Nat.le_of_ble_eq_true rfl) (k2 := 1) (by decide) rfl (lv' := [(4, .int (a1.2.2 + (1 : Int32))), (3, .int a1.2.1), (2, .int a1.1), (0, .ref (qAd E 50)), (1, .int x1)]) rfl ?_
          refine y_goto C 31 dX5_whom_110 (by decide) ?_
          refine y_sub [0, 1, 2, 3, 4] rfl ?_
          exact ih_r2 (a1.1, a1.2.1, (a1.2.2 + (1 : Int32))) hf
        · refine y_aload_n C dX5_whom_56 rfl 3 rfl ?_
          refine y_iload C dX5_whom_57 0 rfl ?_
          refine y_aload_n C dX5_whom_59 rfl 3 rfl ?_
          refine g50_row C fl_X5_7 dX5_whom_60 ?_
          refine y_iconst C (v := 1) dX5_whom_63 (by decide) ?_
          refine y_ialdR C a51 (j := 1) (by decide) (by decide) dX5_whom_64 ?_
          refine y_aload_n C dX5_whom_65 rfl 3 rfl ?_
          refine g50_row C fl_X5_7 dX5_whom_66 ?_
          refine y_iconst C (v := 4) dX5_whom_69 (by decide) ?_
          refine y_ialdR C a51 (j := 4) (by decide) (by decide) dX5_whom_70 ?_
          refine y_aload_n C dX5_whom_71 rfl 3 rfl ?_
          refine g50_row C fl_X5_7 dX5_whom_72 ?_
          refine y_bipush C (v := 6) dX5_whom_75 (by decide) ?_
          refine y_ialdR C a51 (j := 6) (by decide) (by decide) dX5_whom_77 ?_
          obtain ⟨q6, h_q6, hf⟩ := bd_e hf
          refine y_cVi C (kX5_lacking_50 l E σ τ a1.2.2 (gM τ 51 1) (gM τ 51 4) (gM τ 51 6) _ h_q6) vi_X5_lacking ml_X5_218 ⟨5, _, o50, rfl, rfl⟩ rfl ⟨rfl, rfl, Nat.le_of_ble_eq_true rfl, Nat.le_of_ble_eq_true rfl⟩ dX5_whom_78 rfl (Nat.le_of_ble_eq_true rfl) ?_
          refine y_istore C dX5_whom_81 (Nat.le_of_ble_eq_true rfl) rfl (lv' := [(5, .int q6), (4, .int a1.2.2), (3, .int a1.2.1), (2, .int a1.1), (0, .ref (qAd E 50)), (1, .int x1)]) rfl ?_
          refine y_iload_n C dX5_whom_83 rfl 3 rfl ?_
          refine y_iload C dX5_whom_84 0 rfl ?_
          refine y_iload_n C dX5_whom_86 rfl 5 rfl ?_
          refine y_icmp_ne C 97 dX5_whom_87 (by decide) hf (fun hf => ?_) (fun hf => ?_)
          · refine y_iconst C (v := 0) dX5_whom_97 (by decide) ?_
            refine y_ior C dX5_whom_98 ?_
            obtain ⟨v7, e_v7, hf⟩ := lt_e hf
            refine y_istore_n C dX5_whom_99 rfl (Nat.le_of_ble_eq_true rfl) e_v7 (lv' := [(2, .int v7), (5, .int q6), (4, .int a1.2.2), (3, .int a1.2.1), (0, .ref (qAd E 50)), (1, .int x1)]) rfl ?_
            refine y_iload_n C dX5_whom_100 rfl 3 rfl ?_
            refine y_iconst C (v := 1) dX5_whom_101 (by decide) ?_
            refine y_iload C dX5_whom_102 1 rfl ?_
            refine y_ishl C dX5_whom_104 ?_
            refine y_ior C dX5_whom_105 ?_
            obtain ⟨v8, e_v8, hf⟩ := lt_e hf
            refine y_istore_n C dX5_whom_106 rfl (Nat.le_of_ble_eq_true rfl) e_v8 (lv' := [(3, .int v8), (2, .int v7), (5, .int q6), (4, .int a1.2.2), (0, .ref (qAd E 50)), (1, .int x1)]) rfl ?_
            refine y_iinc C dX5_whom_107 3 rfl (Nat.le_of_ble_eq_true rfl) (k2 := 1) (by decide) rfl (lv' := [(4, .int (a1.2.2 + (1 : Int32))), (3, .int v8), (2, .int v7), (5, .int q6), (0, .ref (qAd E 50)), (1, .int x1)]) rfl ?_
            refine y_goto C 31 dX5_whom_110 (by decide) ?_
            refine y_sub [0, 1, 2, 4, 5] rfl ?_
            exact ih_r2 (v7, v8, (a1.2.2 + (1 : Int32))) hf
          · refine y_iconst C (v := 1) dX5_whom_90 (by decide) ?_
            refine y_iload C dX5_whom_91 1 rfl ?_
            refine y_ishl C dX5_whom_93 ?_
            refine y_goto C 98 dX5_whom_94 (by decide) ?_
            refine y_ior C dX5_whom_98 ?_
            obtain ⟨v9, e_v9, hf⟩ := lt_e hf
            refine y_istore_n C dX5_whom_99 rfl (Nat.le_of_ble_eq_true rfl) e_v9 (lv' := [(2, .int v9), (5, .int q6), (4, .int a1.2.2), (3, .int a1.2.1), (0, .ref (qAd E 50)), (1, .int x1)]) rfl ?_
            refine y_iload_n C dX5_whom_100 rfl 3 rfl ?_
            refine y_iconst C (v := 1) dX5_whom_101 (by decide) ?_
            refine y_iload C dX5_whom_102 1 rfl ?_
            refine y_ishl C dX5_whom_104 ?_
            refine y_ior C dX5_whom_105 ?_
            obtain ⟨v10, e_v10, hf⟩ := lt_e hf
            refine y_istore_n C dX5_whom_106 rfl (Nat.le_of_ble_eq_true rfl) e_v10 (lv' := [(3, .int v10), (2, .int v9), (5, .int q6), (4, .int a1.2.2), (0, .ref (qAd E 50)), (1, .int x1)]) rfl ?_
            refine y_iinc C dX5_whom_107 3 rfl (Nat.le_of_ble_eq_true rfl) (k2 := 1) (by decide) rfl (lv' := [(4, .int (a1.2.2 + (1 : Int32))), (3, .int v10), (2, .int v9), (5, .int q6), (0, .ref (qAd E 50)), (1, .int x1)]) rfl ?_
            refine y_goto C 31 dX5_whom_110 (by decide) ?_
            refine y_sub [0, 1, 2, 4, 5] rfl ?_
            exact ih_r2 (v9, v10, (a1.2.2 + (1 : Int32))) hf
    · refine y_bipush C (v := -4) dX5_whom_21 (by decide) ?_
      exact y_iret C (rs1 hf) rfl (rs2 hf) dX5_whom_23
  · refine y_iconst C (v := -1) dX5_whom_12 (by decide) ?_
    exact y_iret C (rs1 hf) rfl (rs2 hf) dX5_whom_13
