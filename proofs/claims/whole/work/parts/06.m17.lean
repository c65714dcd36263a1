noncomputable def fX2_seekDraws_7 : Nat → Int32 → Int32 → Int32 → Int32 → Int32 → QS → Option (QS)
  | 0, _, _, _, _, _, _ => none
  | d + 1, x1, x2, x3, x4, x5, σ =>
    lt_ (fun (_ : Unit) => lt_ (pJ σ 3 ((gJ σ 3) + (1 : Int64))) (fun (S2 : QS) => lt_ (fun (v4 : Int64) => lt_ (pJ S2 4 ((gJ S2 4) + v4)) (fun (S5 : QS) => lt_ (pJ S5 5 ((gJ S5 5) + x3.toInt64)) (fun (S6 : QS) => some S6))) (fun (j3 : Int64 → Option (QS)) => (if x5 < (gI S2 24) then j3 (0 : Int64) else j3 (1 : Int64))))) (fun (j1 : Unit → Option (QS)) => (if (gI σ 8) ≤ x1 then j1 () else (if (fX2_freeCount_7 x2 σ) = 0 then j1 () else lp_ (fun (r8 : Int32 × QS → Option (QS)) (a7 : Int32 × QS) => (if (gI a7.2 9) ≤ a7.1 then some a7.2 else (if (fX2_isFree_7 a7.1 x2 a7.2) = 0 then r8 ((a7.1 + (1 : Int32)), a7.2) else Option.bind (fX1_lacking_5 a7.1 x1 x2 x3 a7.2) (fun (q9 : Int32) => lt_ (fun (v11 : Int32) => Option.bind (fX2_seekDraws_7 d (x1 + (1 : Int32)) (x2 ||| ((1 : Int32) <<< (a7.1 &&& 31))) (fX2_clappingBehind x3 q9 x4) (fX2_promptsBehind q9 x4) (x5 + v11) a7.2) (fun (q12 : QS) => r8 ((a7.1 + (1 : Int32)), q12))) (fun (j10 : Int32 → Option (QS)) => (if x4 < q9 then j10 (0 : Int32) else j10 (1 : Int32))))))) FV ((0 : Int32), σ))))
def rm_X2_seekDraws_7 (d : Nat) : Room := { frames := 4 + d, cells := 0, slots := 0, locals := 94 + d * 27 }
theorem rk_X2_seekDraws_7_self (d : Nat) : rmOk (rm_X2_seekDraws_7 d) (rm_X2_seekDraws_7 (d + 1)) 8 := by
  refine ⟨rfl, rfl, ?_, ?_⟩ <;> simp only [rm_X2_seekDraws_7] <;> omega
set_option maxRecDepth 100000 in
set_option maxHeartbeats 4000000 in
theorem kX2_seekDraws_7 (l : Launch) (E : QE) : ∀ (d : Nat) (σ τ : QS) (x1 : Int32) (x2 : Int32) (x3 : Int32) (x4 : Int32) (x5 : Int32) (q : QS) (hf : fX2_seekDraws_7 d x1 x2 x3 x4 x5 σ = some q), KQ l yX2_seekDraws cX2_seekDraws 8 none (rm_X2_seekDraws_7 d) E [.ref (qAd E 7), .int x1, .int x2, .int x3, .int x4, .int x5] σ τ (PV E q τ) := by
  intro d
  induction d with
  | zero =>
    intro σ τ x1 x2 x3 x4 x5 q hf
    cases hf
  | succ d ihd =>
    intro σ τ x1 x2 x3 x4 x5 q hf
    rw [fX2_seekDraws_7] at hf
    refine y_met rfl (Nat.le_of_ble_eq_true rfl) rfl (fun p e s m below meth c C => ?_)
    refine y_iload_n C dX2_seekDraws_0 rfl 1 rfl ?_
    refine y_aload_n C dX2_seekDraws_1 rfl 0 rfl ?_
    refine g7_script C fl_X2_33 dX2_seekDraws_2 ?_
    refine gN5_sceneCount C fn_X2_48 dX2_seekDraws_5 ?_
    obtain ⟨j1, ek_j1, hf⟩ := lt_e hf
    have h_j1 : ∀ (_ : Unit), j1 () = some q → Y E p l e (rm_X2_seekDraws_7 (d + 1)) s m ([.ref (qAd E 7), .int x1, .int x2, .int x3, .int x4, .int x5] : List Value).toArray below meth c 8 (MQ below (PV E q τ) ([.ref (qAd E 7), .int x1, .int x2, .int x3, .int x4, .int x5] : List Value).toArray s 0 0 (qA E)) σ τ 19 [(0, .ref (qAd E 7)), (3, .int x3), (5, .int x5)] [] := by
      intro _ hf
      replace hf := (congrFun (ek_j1) ()).symm.trans hf
      refine y_aload_n C dX2_seekDraws_19 rfl 0 rfl ?_
      refine y_dup C dX2_seekDraws_20 rfl ?_
      refine g7_draws C fl_X2_157 dX2_seekDraws_21 ?_
      refine y_lconst C (v := 1) dX2_seekDraws_24 (by decide) ?_
      refine y_ladd C dX2_seekDraws_25 ?_
      obtain ⟨S2, e_S2, hf⟩ := lt_e hf
      refine p7_draws C fl_X2_157 e_S2 dX2_seekDraws_26 ?_
      refine y_aload_n C dX2_seekDraws_29 rfl 0 rfl ?_
      refine y_dup C dX2_seekDraws_30 rfl ?_
      refine g7_drawsCarried C fl_X2_160 dX2_seekDraws_31 ?_
      refine y_iload C dX2_seekDraws_34 2 rfl ?_
      refine y_aload_n C dX2_seekDraws_36 rfl 0 rfl ?_
      refine g7_wanted C fl_X2_137 dX2_seekDraws_37 ?_
      obtain ⟨j3, ek_j3, hf⟩ := lt_e hf
      have h_j3 : ∀ (v4 : Int64), j3 v4 = some q → Y E p l e (rm_X2_seekDraws_7 (d + 1)) s m ([.ref (qAd E 7), .int x1, .int x2, .int x3, .int x4, .int x5] : List Value).toArray below meth c 8 (MQ below (PV E q τ) ([.ref (qAd E 7), .int x1, .int x2, .int x3, .int x4, .int x5] : List Value).toArray s 0 0 (qA E)) S2 τ 48 [(0, .ref (qAd E 7)), (3, .int x3)] [.long v4, .long (gJ S2 4), .ref (qAd E 7)] := by
        intro v4 hf
        replace hf := (congrFun (ek_j3) v4).symm.trans hf
        refine y_ladd C dX2_seekDraws_48 ?_
        obtain ⟨S5, e_S5, hf⟩ := lt_e hf
        refine p7_drawsCarried C fl_X2_160 e_S5 dX2_seekDraws_49 ?_
        refine y_aload_n C dX2_seekDraws_52 rfl 0 rfl ?_
        refine y_dup C dX2_seekDraws_53 rfl ?_
        refine g7_drawsApplause C fl_X2_163 dX2_seekDraws_54 ?_
        refine y_iload_n C dX2_seekDraws_57 rfl 1 rfl ?_
        refine y_i2l C dX2_seekDraws_58 ?_
        refine y_ladd C dX2_seekDraws_59 ?_
        obtain ⟨S6, e_S6, hf⟩ := lt_e hf
        refine p7_drawsApplause C fl_X2_163 e_S6 dX2_seekDraws_60 ?_
        exact y_vret C (Option.some.inj hf) rfl dX2_seekDraws_63
      refine y_icmp_lt C 47 dX2_seekDraws_40 (by decide) hf (fun hf => ?_) (fun hf => ?_)
      · refine y_lconst C (v := 0) dX2_seekDraws_47 (by decide) ?_
        refine y_sub [0, 1] rfl ?_
        exact h_j3 (0 : Int64) hf
      · refine y_lconst C (v := 1) dX2_seekDraws_43 (by decide) ?_
        refine y_goto C 48 dX2_seekDraws_44 (by decide) ?_
        refine y_sub [0, 1] rfl ?_
        exact h_j3 (1 : Int64) hf
    refine y_icmp_ge C 19 dX2_seekDraws_8 (by decide) hf (fun hf => ?_) (fun hf => ?_)
    · refine y_sub [0, 3, 5] rfl ?_
      exact h_j1 () hf
    · refine y_aload_n C dX2_seekDraws_11 rfl 0 rfl ?_
      refine y_iload_n C dX2_seekDraws_12 rfl 2 rfl ?_
      refine y_cVi C (kX2_freeCount_7 l E σ τ x2 _ rfl) vi_X2_freeCount ml_X2_53 ⟨2, _, o7, rfl, rfl⟩ rfl (by refine ⟨rfl, rfl, ?_, ?_⟩ <;> simp only [rm_X2_freeCount_7, rm_X2_seekDraws_7] <;> omega) dX2_seekDraws_13 rfl (Nat.le_of_ble_eq_true rfl) ?_
      refine y_if_ne C 64 dX2_seekDraws_16 (by decide) hf (fun hf => ?_) (fun hf => ?_)
      · refine y_iconst C (v := 0) dX2_seekDraws_64 (by decide) ?_
        refine y_istore C dX2_seekDraws_65 (Nat.le_of_ble_eq_true rfl) rfl (lv' := [(6, .int (0 : Int32)), (0, .ref (qAd E 7)), (1, .int x1), (2, .int x2), (3, .int x3), (4, .int x4), (5, .int x5)]) rfl ?_
        refine y_sub [0, 1, 2, 3, 4, 5, 6] rfl ?_
        refine lp_ind (P := fun a7 : Int32 × QS => Y E p l e (rm_X2_seekDraws_7 (d + 1)) s m ([.ref (qAd E 7), .int x1, .int x2, .int x3, .int x4, .int x5] : List Value).toArray below meth c 8 (MQ below (PV E q τ) ([.ref (qAd E 7), .int x1, .int x2, .int x3, .int x4, .int x5] : List Value).toArray s 0 0 (qA E)) a7.2 τ 67 [(6, .int a7.1), (0, .ref (qAd E 7)), (1, .int x1), (2, .int x2), (3, .int x3), (4, .int x4), (5, .int x5)] []) (fun r8 a7 ih_r8 hf => ?_) _ _ hf
        refine y_iload C dX2_seekDraws_67 0 rfl ?_
        refine y_aload_n C dX2_seekDraws_69 rfl 1 rfl ?_
        refine g7_script C fl_X2_33 dX2_seekDraws_70 ?_
        refine gN5_sitterCount C fn_X2_109 dX2_seekDraws_73 ?_
        refine y_icmp_ge C 152 dX2_seekDraws_76 (by decide) hf (fun hf => ?_) (fun hf => ?_)
        · exact y_vret C (Option.some.inj hf) rfl dX2_seekDraws_152
        · refine y_aload_n C dX2_seekDraws_79 rfl 1 rfl ?_
          refine y_iload C dX2_seekDraws_80 0 rfl ?_
          refine y_iload_n C dX2_seekDraws_82 rfl 3 rfl ?_
          refine y_cVi C (kX2_isFree_7 l E a7.2 τ a7.1 x2 _ rfl) vi_X2_isFree ml_X2_112 ⟨2, _, o7, rfl, rfl⟩ rfl (by refine ⟨rfl, rfl, ?_, ?_⟩ <;> simp only [rm_X2_isFree_7, rm_X2_seekDraws_7] <;> omega) dX2_seekDraws_83 rfl (Nat.le_of_ble_eq_true rfl) ?_
          refine y_if_eq C 146 dX2_seekDraws_86 (by decide) hf (fun hf => ?_) (fun hf => ?_)
          · refine y_iinc C dX2_seekDraws_146 0 rfl (Nat.le_of_ble_eq_true rfl) (k2 := 1) (by decide) rfl (lv' := [(6, .int (a7.1 + (1 : Int32))), (0, .ref (qAd E 7)), (1, .int x1), (2, .int x2), (3, .int x3), (4, .int x4), (5, .int x5)]) rfl ?_
            refine y_goto C 67 dX2_seekDraws_149 (by decide) ?_
            refine y_sub [0, 1, 2, 3, 4, 5, 6] rfl ?_
            exact ih_r8 ((a7.1 + (1 : Int32)), a7.2) hf
          · refine y_aload_n C dX2_seekDraws_89 rfl 1 rfl ?_
            refine g7_script C fl_X2_33 dX2_seekDraws_90 ?_
            refine y_iload C dX2_seekDraws_93 0 rfl ?_
            refine y_iload_n C dX2_seekDraws_95 rfl 2 rfl ?_
            refine y_iload_n C dX2_seekDraws_96 rfl 3 rfl ?_
            refine y_iload_n C dX2_seekDraws_97 rfl 4 rfl ?_
            obtain ⟨q9, h_q9, hf⟩ := bd_e hf
            refine y_cVi C (kX1_lacking_5 l E a7.2 τ a7.1 x1 x2 x3 _ h_q9) vi_X1_lacking ml_X2_85 ⟨1, _, o5, rfl, rfl⟩ rfl (by refine ⟨rfl, rfl, ?_, ?_⟩ <;> simp only [rm_X1_lacking_5, rm_X2_seekDraws_7] <;> omega) dX2_seekDraws_98 rfl (Nat.le_of_ble_eq_true rfl) ?_
            refine y_istore C dX2_seekDraws_101 (Nat.le_of_ble_eq_true rfl) rfl (lv' := [(7, .int q9), (6, .int a7.1), (0, .ref (qAd E 7)), (1, .int x1), (2, .int x2), (3, .int x3), (4, .int x4), (5, .int x5)]) rfl ?_
            refine y_aload_n C dX2_seekDraws_103 rfl 2 rfl ?_
            refine y_iload_n C dX2_seekDraws_104 rfl 3 rfl ?_
            refine y_iconst C (v := 1) dX2_seekDraws_105 (by decide) ?_
            refine y_iadd C dX2_seekDraws_106 ?_
            refine y_iload_n C dX2_seekDraws_107 rfl 4 rfl ?_
            refine y_iconst C (v := 1) dX2_seekDraws_108 (by decide) ?_
            refine y_iload C dX2_seekDraws_109 1 rfl ?_
            refine y_ishl C dX2_seekDraws_111 ?_
            refine y_ior C dX2_seekDraws_112 ?_
            refine y_iload_n C dX2_seekDraws_113 rfl 5 rfl ?_
            refine y_iload C dX2_seekDraws_114 0 rfl ?_
            refine y_iload C dX2_seekDraws_116 6 rfl ?_
            refine y_cSi C (kX2_clappingBehind l E a7.2 τ x3 q9 x4 _ rfl) si_X2_clappingBehind ml_X2_89 rfl (by refine ⟨rfl, rfl, ?_, ?_⟩ <;> simp only [rm_X2_clappingBehind, rm_X2_seekDraws_7] <;> omega) dX2_seekDraws_118 rfl (Nat.le_of_ble_eq_true rfl) ?_
            refine y_iload C dX2_seekDraws_121 0 rfl ?_
            refine y_iload C dX2_seekDraws_123 6 rfl ?_
            refine y_cSi C (kX2_promptsBehind l E a7.2 τ q9 x4 _ rfl) si_X2_promptsBehind ml_X2_93 rfl (by refine ⟨rfl, rfl, ?_, ?_⟩ <;> simp only [rm_X2_promptsBehind, rm_X2_seekDraws_7] <;> omega) dX2_seekDraws_125 rfl (Nat.le_of_ble_eq_true rfl) ?_
            refine y_iload C dX2_seekDraws_128 7 rfl ?_
            refine y_iload C dX2_seekDraws_130 0 rfl ?_
            refine y_iload C dX2_seekDraws_132 6 rfl ?_
            obtain ⟨j10, ek_j10, hf⟩ := lt_e hf
            have h_j10 : ∀ (v11 : Int32), j10 v11 = some q → Y E p l e (rm_X2_seekDraws_7 (d + 1)) s m ([.ref (qAd E 7), .int x1, .int x2, .int x3, .int x4, .int x5] : List Value).toArray below meth c 8 (MQ below (PV E q τ) ([.ref (qAd E 7), .int x1, .int x2, .int x3, .int x4, .int x5] : List Value).toArray s 0 0 (qA E)) a7.2 τ 142 [(0, .ref (qAd E 7)), (1, .int x1), (2, .int x2), (3, .int x3), (4, .int x4), (5, .int x5), (6, .int a7.1)] [.int v11, .int x5, .int (fX2_promptsBehind q9 x4), .int (fX2_clappingBehind x3 q9 x4), .int (x2 ||| ((1 : Int32) <<< (a7.1 &&& 31))), .int (x1 + (1 : Int32)), .ref (qAd E 7)] := by
              intro v11 hf
              replace hf := (congrFun (ek_j10) v11).symm.trans hf
              refine y_iadd C dX2_seekDraws_142 ?_
              obtain ⟨q12, h_q12, hf⟩ := bd_e hf
              refine y_cVv C (ihd a7.2 τ (x1 + (1 : Int32)) (x2 ||| ((1 : Int32) <<< (a7.1 &&& 31))) (fX2_clappingBehind x3 q9 x4) (fX2_promptsBehind q9 x4) (x5 + v11) _ h_q12) vi_X2_seekDraws ml_X2_166 ⟨2, _, o7, rfl, rfl⟩ rfl (rk_X2_seekDraws_7_self d) dX2_seekDraws_143 rfl (Nat.le_of_ble_eq_true rfl) ?_
              refine y_iinc C dX2_seekDraws_146 6 rfl (Nat.le_of_ble_eq_true rfl) (k2 := 1) (by decide) rfl (lv' := [(6, .int (a7.1 + (1 : Int32))), (0, .ref (qAd E 7)), (1, .int x1), (2, .int x2), (3, .int x3), (4, .int x4), (5, .int x5)]) rfl ?_
              refine y_goto C 67 dX2_seekDraws_149 (by decide) ?_
              refine y_sub [0, 1, 2, 3, 4, 5, 6] rfl ?_
              exact ih_r8 ((a7.1 + (1 : Int32)), q12) hf
            refine y_icmp_gt C 141 dX2_seekDraws_134 (by decide) hf (fun hf => ?_) (fun hf => ?_)
            · refine y_iconst C (v := 0) dX2_seekDraws_141 (by decide) ?_
              refine y_sub [2, 3, 4, 5, 6, 7, 1] rfl ?_
              exact h_j10 (0 : Int32) hf
            · refine y_iconst C (v := 1) dX2_seekDraws_137 (by decide) ?_
              refine y_goto C 142 dX2_seekDraws_138 (by decide) ?_
              refine y_sub [2, 3, 4, 5, 6, 7, 1] rfl ?_
              exact h_j10 (1 : Int32) hf
      · refine y_sub [0, 3, 5] rfl ?_
        exact h_j1 () hf
noncomputable def fX2_findDraws_7 (x1 : Int32) (σ : QS) : Option (QS) :=
    Option.bind (fX0_allowed_6 σ) (fun (q1 : Int32) => lt_ (pI σ 19 q1) (fun (S2 : QS) => lt_ (pI S2 24 x1) (fun (S3 : QS) => lt_ (pJ S3 3 (0 : Int64)) (fun (S4 : QS) => lt_ (pJ S4 4 (0 : Int64)) (fun (S5 : QS) => lt_ (pJ S5 5 (0 : Int64)) (fun (S6 : QS) => Option.bind (fX2_seekDraws_7 DP (gI S6 13) (gI S6 14) (gI S6 17) (gI S6 15) (0 : Int32) S6) (fun (q7 : QS) => some q7)))))))
def rm_X2_findDraws_7 : Room := { frames := 13, cells := 0, slots := 0, locals := 337 }
set_option maxRecDepth 100000 in
set_option maxHeartbeats 4000000 in
theorem kX2_findDraws_7 (l : Launch) (E : QE) (σ τ : QS) (x1 : Int32) (q : QS) (hf : fX2_findDraws_7 x1 σ = some q) : KQ l yX2_findDraws cX2_findDraws 2 none rm_X2_findDraws_7 E [.ref (qAd E 7), .int x1] σ τ (PV E q τ) := by
  unfold fX2_findDraws_7 at hf
  refine y_met rfl (Nat.le_of_ble_eq_true rfl) rfl (fun p e s m below meth c C => ?_)
  refine y_aload_n C dX2_findDraws_0 rfl 0 rfl ?_
  refine y_aload_n C dX2_findDraws_1 rfl 0 rfl ?_
  refine g7_night C fl_X2_23 dX2_findDraws_2 ?_
  obtain ⟨q1, h_q1, hf⟩ := bd_e hf
  refine y_cVi C (kX0_allowed_6 l E σ τ _ h_q1) vi_X0_allowed ml_X2_127 ⟨0, _, o6, rfl, rfl⟩ rfl ⟨rfl, rfl, Nat.le_of_ble_eq_true rfl, Nat.le_of_ble_eq_true rfl⟩ dX2_findDraws_5 rfl (Nat.le_of_ble_eq_true rfl) ?_
  obtain ⟨S2, e_S2, hf⟩ := lt_e hf
  refine p7_allowed C fl_X2_34 e_S2 dX2_findDraws_8 ?_
  refine y_aload_n C dX2_findDraws_11 rfl 0 rfl ?_
  refine y_iload_n C dX2_findDraws_12 rfl 1 rfl ?_
  obtain ⟨S3, e_S3, hf⟩ := lt_e hf
  refine p7_wanted C fl_X2_137 e_S3 dX2_findDraws_13 ?_
  refine y_aload_n C dX2_findDraws_16 rfl 0 rfl ?_
  refine y_lconst C (v := 0) dX2_findDraws_17 (by decide) ?_
  obtain ⟨S4, e_S4, hf⟩ := lt_e hf
  refine p7_draws C fl_X2_157 e_S4 dX2_findDraws_18 ?_
  refine y_aload_n C dX2_findDraws_21 rfl 0 rfl ?_
  refine y_lconst C (v := 0) dX2_findDraws_22 (by decide) ?_
  obtain ⟨S5, e_S5, hf⟩ := lt_e hf
  refine p7_drawsCarried C fl_X2_160 e_S5 dX2_findDraws_23 ?_
  refine y_aload_n C dX2_findDraws_26 rfl 0 rfl ?_
  refine y_lconst C (v := 0) dX2_findDraws_27 (by decide) ?_
  obtain ⟨S6, e_S6, hf⟩ := lt_e hf
  refine p7_drawsApplause C fl_X2_163 e_S6 dX2_findDraws_28 ?_
  refine y_aload_n C dX2_findDraws_31 rfl 0 rfl ?_
  refine y_aload_n C dX2_findDraws_32 rfl 0 rfl ?_
  refine g7_night C fl_X2_23 dX2_findDraws_33 ?_
  refine gN6_scene C fn_X2_82 dX2_findDraws_36 ?_
  refine y_aload_n C dX2_findDraws_39 rfl 0 rfl ?_
  refine g7_night C fl_X2_23 dX2_findDraws_40 ?_
  refine gN6_called C fn_X2_62 dX2_findDraws_43 ?_
  refine y_aload_n C dX2_findDraws_46 rfl 0 rfl ?_
  refine g7_night C fl_X2_23 dX2_findDraws_47 ?_
  refine gN6_clapping C fn_X2_68 dX2_findDraws_50 ?_
  refine y_aload_n C dX2_findDraws_53 rfl 0 rfl ?_
  refine g7_night C fl_X2_23 dX2_findDraws_54 ?_
  refine gN6_promptsLeft C fn_X2_65 dX2_findDraws_57 ?_
  refine y_iconst C (v := 0) dX2_findDraws_60 (by decide) ?_
  obtain ⟨q7, h_q7, hf⟩ := bd_e hf
  refine y_cVv C (kX2_seekDraws_7 l E DP S6 τ (gI S6 13) (gI S6 14) (gI S6 17) (gI S6 15) (0 : Int32) _ h_q7) vi_X2_seekDraws ml_X2_166 ⟨2, _, o7, rfl, rfl⟩ rfl ⟨rfl, rfl, Nat.le_of_ble_eq_true rfl, Nat.le_of_ble_eq_true rfl⟩ dX2_findDraws_61 rfl (Nat.le_of_ble_eq_true rfl) ?_
  exact y_vret C (Option.some.inj hf) rfl dX2_findDraws_64
noncomputable def fX4_odds_0 (x1 : Int32) (σ : QS) : Option (Int32 × QS) :=
    (if x1 < 0 then some ((-1 : Int32), σ) else (if x1 ≤ (6 : Int32) then (if (gI σ 9) = 0 then some ((-4 : Int32), σ) else Option.bind (fX2_findDraws_7 x1 σ) (fun (q1 : QS) => Option.bind (fX4_tellFraction_0 (gJ q1 4) (gJ q1 3) q1) (fun (q2 : QS) => some ((1 : Int32), q2)))) else some ((-1 : Int32), σ)))
def rm_X4_odds_0 : Room := { frames := 14, cells := 0, slots := 0, locals := 358 }
set_option maxRecDepth 100000 in
set_option maxHeartbeats 4000000 in
theorem kX4_odds_0 (l : Launch) (E : QE) (σ τ : QS) (x1 : Int32) (q : Int32 × QS) (hf : fX4_odds_0 x1 σ = some q) : KQ l yX4_odds cX4_odds 2 (some .int) rm_X4_odds_0 E [.ref (qAd E 0), .int x1] σ τ (PI E q.1 q.2 τ) := by
  unfold fX4_odds_0 at hf
  refine y_met rfl (Nat.le_of_ble_eq_true rfl) rfl (fun p e s m below meth c C => ?_)
  refine y_iload_n C dX4_odds_0 rfl 1 rfl ?_
  refine y_if_lt C 10 dX4_odds_1 (by decide) hf (fun hf => ?_) (fun hf => ?_)
  · refine y_iconst C (v := -1) dX4_odds_10 (by decide) ?_
    exact y_iret C (rs1 hf) (rs2 hf) rfl dX4_odds_11
  · refine y_iload_n C dX4_odds_4 rfl 1 rfl ?_
    refine y_bipush C (v := 6) dX4_odds_5 (by decide) ?_
    refine y_icmp_le C 12 dX4_odds_7 (by decide) hf (fun hf => ?_) (fun hf => ?_)
    · refine y_aload_n C dX4_odds_12 rfl 0 rfl ?_
      refine g0_script C fl_X4_31 dX4_odds_13 ?_
      refine gN5_sitterCount C fn_X4_114 dX4_odds_16 ?_
      refine y_if_ne C 25 dX4_odds_19 (by decide) hf (fun hf => ?_) (fun hf => ?_)
      · refine y_aload_n C dX4_odds_25 rfl 0 rfl ?_
        refine g0_search C fl_X4_48 dX4_odds_26 ?_
        refine y_iload_n C dX4_odds_29 rfl 1 rfl ?_
        obtain ⟨q1, h_q1, hf⟩ := bd_e hf
        refine y_cVv C (kX2_findDraws_7 l E σ τ x1 _ h_q1) vi_X2_findDraws ml_X4_258 ⟨2, _, o7, rfl, rfl⟩ rfl ⟨rfl, rfl, Nat.le_of_ble_eq_true rfl, Nat.le_of_ble_eq_true rfl⟩ dX4_odds_30 rfl (Nat.le_of_ble_eq_true rfl) ?_
        refine y_aload_n C dX4_odds_33 rfl 0 rfl ?_
        refine y_aload_n C dX4_odds_34 rfl 0 rfl ?_
        refine g0_search C fl_X4_48 dX4_odds_35 ?_
        refine gN7_drawsCarried C fn_X4_261 dX4_odds_38 ?_
        refine y_aload_n C dX4_odds_41 rfl 0 rfl ?_
        refine g0_search C fl_X4_48 dX4_odds_42 ?_
        refine gN7_draws C fn_X4_264 dX4_odds_45 ?_
        obtain ⟨q2, h_q2, hf⟩ := bd_e hf
        refine y_cVv C (kX4_tellFraction_0 l E q1 τ (gJ q1 4) (gJ q1 3) _ h_q2) vi_X4_tellFraction ml_X4_212 ⟨4, _, o0, rfl, rfl⟩ rfl ⟨rfl, rfl, Nat.le_of_ble_eq_true rfl, Nat.le_of_ble_eq_true rfl⟩ dX4_odds_48 rfl (Nat.le_of_ble_eq_true rfl) ?_
        refine y_iconst C (v := 1) dX4_odds_51 (by decide) ?_
        exact y_iret C (rs1 hf) (rs2 hf) rfl dX4_odds_52
      · refine y_bipush C (v := -4) dX4_odds_22 (by decide) ?_
        exact y_iret C (rs1 hf) (rs2 hf) rfl dX4_odds_24
    · refine y_iconst C (v := -1) dX4_odds_10 (by decide) ?_
      exact y_iret C (rs1 hf) (rs2 hf) rfl dX4_odds_11
noncomputable def fX5_divisor (x0 : Int64) (x1 : Int64) : Option (Int64) :=
    (if 0 ≤ (lg_cmp x0 (0 : Int64)) then lp_ (fun (r2 : Int64 × Int64 → Option (Int64)) (a1 : Int64 × Int64) => (if (lg_cmp a1.2 (0 : Int64)) = 0 then some a1.1 else ck_ (ne0L a1.2) (lt_ (a1.1 - a1.1 / a1.2 * a1.2) (fun (v4 : Int64) => r2 (a1.2, v4))))) FV (x0, x1) else lt_ (-x0) (fun (v5 : Int64) => lp_ (fun (r7 : Int64 × Int64 → Option (Int64)) (a6 : Int64 × Int64) => (if (lg_cmp a6.2 (0 : Int64)) = 0 then some a6.1 else ck_ (ne0L a6.2) (lt_ (a6.1 - a6.1 / a6.2 * a6.2) (fun (v9 : Int64) => r7 (a6.2, v9))))) FV (v5, x1)))
def rm_X5_divisor : Room := { frames := 0, cells := 0, slots := 0, locals := 0 }
set_option maxRecDepth 100000 in
set_option maxHeartbeats 4000000 in
theorem kX5_divisor (l : Launch) (E : QE) (σ τ : QS) (x0 : Int64) (x1 : Int64) (q : Int64) (hf : fX5_divisor x0 x1 = some q) : KQ l yX5_divisor cX5_divisor 10 (some .long) rm_X5_divisor E [.long x0, .long x1] σ τ (PL E q σ τ) := by
  unfold fX5_divisor at hf
  refine y_met rfl (Nat.le_of_ble_eq_true rfl) rfl (fun p e s m below meth c C => ?_)
  refine y_lload_n C dX5_divisor_0 rfl 0 rfl ?_
  refine y_lconst C (v := 0) dX5_divisor_1 (by decide) ?_
  refine y_lcmp C dX5_divisor_2 ?_
  refine y_if_ge C 11 dX5_divisor_3 (by decide) hf (fun hf => ?_) (fun hf => ?_)
  · refine y_lload_n C dX5_divisor_11 rfl 0 rfl ?_
    refine y_lstore C dX5_divisor_12 (Nat.le_of_ble_eq_true rfl) rfl (lv' := [(4, .long x0), (0, .long x0), (2, .long x1)]) rfl ?_
    refine y_lload_n C dX5_divisor_14 rfl 2 rfl ?_
    refine y_lstore C dX5_divisor_15 (Nat.le_of_ble_eq_true rfl) rfl (lv' := [(6, .long x1), (4, .long x0), (0, .long x0), (2, .long x1)]) rfl ?_
    refine y_sub [0, 1] rfl ?_
    refine lp_ind (P := fun a1 : Int64 × Int64 => Y E p l e rm_X5_divisor s m ([.long x0, .long x1] : List Value).toArray below meth c 10 (MQ below (PL E q σ τ) ([.long x0, .long x1] : List Value).toArray s 0 0 (qA E)) σ τ 17 [(6, .long a1.2), (4, .long a1.1)] []) (fun r2 a1 ih_r2 hf => ?_) _ _ hf
    refine y_lload C dX5_divisor_17 0 rfl ?_
    refine y_lconst C (v := 0) dX5_divisor_19 (by decide) ?_
    refine y_lcmp C dX5_divisor_20 ?_
    refine y_if_eq C 42 dX5_divisor_21 (by decide) hf (fun hf => ?_) (fun hf => ?_)
    · refine y_lload C dX5_divisor_42 1 rfl ?_
      exact y_lret C (Option.some.inj hf) rfl rfl dX5_divisor_44
    · refine y_lload C dX5_divisor_24 1 rfl ?_
      refine y_lload C dX5_divisor_26 0 rfl ?_
      obtain ⟨hz3, hf⟩ := ck_e hf
      refine y_lrem C hz3 dX5_divisor_28 ?_
      obtain ⟨v4, e_v4, hf⟩ := lt_e hf
      refine y_lstore C dX5_divisor_29 (Nat.le_of_ble_eq_true rfl) e_v4 (lv' := [(8, .long v4), (6, .long a1.2), (4, .long a1.1)]) rfl ?_
      refine y_lload C dX5_divisor_31 1 rfl ?_
      refine y_lstore C dX5_divisor_33 (Nat.le_of_ble_eq_true rfl) rfl (lv' := [(4, .long a1.2), (8, .long v4), (6, .long a1.2)]) rfl ?_
      refine y_lload C dX5_divisor_35 1 rfl ?_
      refine y_lstore C dX5_divisor_37 (Nat.le_of_ble_eq_true rfl) rfl (lv' := [(6, .long v4), (4, .long a1.2), (8, .long v4)]) rfl ?_
      refine y_goto C 17 dX5_divisor_39 (by decide) ?_
      refine y_sub [0, 1] rfl ?_
      exact ih_r2 (a1.2, v4) hf
  · refine y_lload_n C dX5_divisor_6 rfl 0 rfl ?_
    refine y_lneg C dX5_divisor_7 ?_
    refine y_goto C 12 dX5_divisor_8 (by decide) ?_
    obtain ⟨v5, e_v5, hf⟩ := lt_e hf
    refine y_lstore C dX5_divisor_12 (Nat.le_of_ble_eq_true rfl) e_v5 (lv' := [(4, .long v5), (0, .long x0), (2, .long x1)]) rfl ?_
    refine y_lload_n C dX5_divisor_14 rfl 2 rfl ?_
    refine y_lstore C dX5_divisor_15 (Nat.le_of_ble_eq_true rfl) rfl (lv' := [(6, .long x1), (4, .long v5), (0, .long x0), (2, .long x1)]) rfl ?_
    refine y_sub [0, 1] rfl ?_
    refine lp_ind (P := fun a6 : Int64 × Int64 => Y E p l e rm_X5_divisor s m ([.long x0, .long x1] : List Value).toArray below meth c 10 (MQ below (PL E q σ τ) ([.long x0, .long x1] : List Value).toArray s 0 0 (qA E)) σ τ 17 [(6, .long a6.2), (4, .long a6.1)] []) (fun r7 a6 ih_r7 hf => ?_) _ _ hf
    refine y_lload C dX5_divisor_17 0 rfl ?_
    refine y_lconst C (v := 0) dX5_divisor_19 (by decide) ?_
    refine y_lcmp C dX5_divisor_20 ?_
    refine y_if_eq C 42 dX5_divisor_21 (by decide) hf (fun hf => ?_) (fun hf => ?_)
    · refine y_lload C dX5_divisor_42 1 rfl ?_
      exact y_lret C (Option.some.inj hf) rfl rfl dX5_divisor_44
    · refine y_lload C dX5_divisor_24 1 rfl ?_
      refine y_lload C dX5_divisor_26 0 rfl ?_
      obtain ⟨hz8, hf⟩ := ck_e hf
      refine y_lrem C hz8 dX5_divisor_28 ?_
      obtain ⟨v9, e_v9, hf⟩ := lt_e hf
      refine y_lstore C dX5_divisor_29 (Nat.le_of_ble_eq_true rfl) e_v9 (lv' := [(8, .long v9), (6, .long a6.2), (4, .long a6.1)]) rfl ?_
      refine y_lload C dX5_divisor_31 1 rfl ?_
      refine y_lstore C dX5_divisor_33 (Nat.le_of_ble_eq_true rfl) rfl (lv' := [(4, .long a6.2), (8, .long v9), (6, .long a6.2)]) rfl ?_
      refine y_lload C dX5_divisor_35 1 rfl ?_
      refine y_lstore C dX5_divisor_37 (Nat.le_of_ble_eq_true rfl) rfl (lv' := [(6, .long v9), (4, .long a6.2), (8, .long v9)]) rfl ?_
      refine y_goto C 17 dX5_divisor_39 (by decide) ?_
      refine y_sub [0, 1] rfl ?_
      exact ih_r7 (a6.2, v9) hf
noncomputable def fX5_tellParts_50 (x1 : Int64) (x2 : Int64) (τ : QS) : Option (Int32 × QS) :=
    Option.bind (fX5_divisor x1 x2) (fun (q1 : Int64) => ck_ (ne0L q1) (lt_ (pJ τ 0 (x1 / q1)) (fun (S3 : QS) => ck_ (ne0L q1) (lt_ (pJ S3 1 (x2 / q1)) (fun (S5 : QS) => some ((1 : Int32), S5))))))
def rm_X5_tellParts_50 : Room := { frames := 1, cells := 0, slots := 0, locals := 29 }
set_option maxRecDepth 100000 in
set_option maxHeartbeats 4000000 in
theorem kX5_tellParts_50 (l : Launch) (E : QE) (σ τ : QS) (x1 : Int64) (x2 : Int64) (q : Int32 × QS) (hf : fX5_tellParts_50 x1 x2 τ = some q) : KQ l yX5_tellParts cX5_tellParts 7 (some .int) rm_X5_tellParts_50 E [.ref (qAd E 50), .long x1, .long x2] σ τ (PI E q.1 σ q.2) := by
  unfold fX5_tellParts_50 at hf
  refine y_met rfl (Nat.le_of_ble_eq_true rfl) rfl (fun p e s m below meth c C => ?_)
  refine y_lload_n C dX5_tellParts_0 rfl 1 rfl ?_
  refine y_lload_n C dX5_tellParts_1 rfl 2 rfl ?_
  obtain ⟨q1, h_q1, hf⟩ := bd_e hf
  refine y_cSl C (kX5_divisor l E σ τ x1 x2 _ h_q1) si_X5_divisor ml_X5_300 rfl ⟨rfl, rfl, Nat.le_of_ble_eq_true rfl, Nat.le_of_ble_eq_true rfl⟩ dX5_tellParts_2 rfl (Nat.le_of_ble_eq_true rfl) ?_
  refine y_lstore C dX5_tellParts_5 (Nat.le_of_ble_eq_true rfl) rfl (lv' := [(5, .long q1), (0, .ref (qAd E 50)), (1, .long x1), (3, .long x2)]) rfl ?_
  refine y_aload_n C dX5_tellParts_7 rfl 1 rfl ?_
  refine y_lload_n C dX5_tellParts_8 rfl 2 rfl ?_
  refine y_lload C dX5_tellParts_9 0 rfl ?_
  obtain ⟨hz2, hf⟩ := ck_e hf
  refine y_ldiv C hz2 dX5_tellParts_11 ?_
  obtain ⟨S3, e_S3, hf⟩ := lt_e hf
  refine p50_upper C fl_X5_270 e_S3 dX5_tellParts_12 ?_
  refine y_aload_n C dX5_tellParts_15 rfl 1 rfl ?_
  refine y_lload_n C dX5_tellParts_16 rfl 3 rfl ?_
  refine y_lload C dX5_tellParts_17 0 rfl ?_
  obtain ⟨hz4, hf⟩ := ck_e hf
  refine y_ldiv C hz4 dX5_tellParts_19 ?_
  obtain ⟨S5, e_S5, hf⟩ := lt_e hf
  refine p50_lower C fl_X5_37 e_S5 dX5_tellParts_20 ?_
  refine y_iconst C (v := 1) dX5_tellParts_23 (by decide) ?_
  exact y_iret C (rs1 hf) rfl (rs2 hf) dX5_tellParts_24
noncomputable def fX5_isDrawn_50  (τ : QS) : Option (Int32) :=
    lp_ (fun (r2 : Int32 × Int32 → Option (Int32)) (a1 : Int32 × Int32) => (if (gI τ 11) ≤ a1.2 then ck_ (zb a1.1) (some a1.1) else (if a1.1 = 0 then r2 ((0 : Int32), (a1.2 + (1 : Int32))) else ck_ (inb a1.2 7) ((if (gM τ 67 a1.2.toNatClampNeg) = 0 then ck_ (inb a1.2 7) (Option.bind (fX5_canBits_50 (gM τ 66 a1.2.toNatClampNeg) τ) (fun (q6 : Int32) => (if q6 = 0 then r2 ((1 : Int32), (a1.2 + (1 : Int32))) else r2 ((0 : Int32), (a1.2 + (1 : Int32)))))) else r2 ((1 : Int32), (a1.2 + (1 : Int32)))))))) FV ((1 : Int32), (0 : Int32))
def rm_X5_isDrawn_50 : Room := { frames := 3, cells := 0, slots := 0, locals := 67 }
set_option maxRecDepth 100000 in
set_option maxHeartbeats 4000000 in
theorem kX5_isDrawn_50 (l : Launch) (E : QE) (σ τ : QS)  (q : Int32) (hf : fX5_isDrawn_50 τ = some q) : KQ l yX5_isDrawn cX5_isDrawn 3 (some .boolean) rm_X5_isDrawn_50 E [.ref (qAd E 50)] σ τ (PI E q σ τ) := by
  unfold fX5_isDrawn_50 at hf
  refine y_met rfl (Nat.le_of_ble_eq_true rfl) rfl (fun p e s m below meth c C => ?_)
  refine y_iconst C (v := 1) dX5_isDrawn_0 (by decide) ?_
  refine y_istore_n C dX5_isDrawn_1 rfl (Nat.le_of_ble_eq_true rfl) rfl (lv' := [(1, .int (1 : Int32)), (0, .ref (qAd E 50))]) rfl ?_
  refine y_iconst C (v := 0) dX5_isDrawn_2 (by decide) ?_
  refine y_istore_n C dX5_isDrawn_3 rfl (Nat.le_of_ble_eq_true rfl) rfl (lv' := [(2, .int (0 : Int32)), (1, .int (1 : Int32)), (0, .ref (qAd E 50))]) rfl ?_
  refine y_sub [0, 1, 2] rfl ?_
  refine lp_ind (P := fun a1 : Int32 × Int32 => Y E p l e rm_X5_isDrawn_50 s m ([.ref (qAd E 50)] : List Value).toArray below meth c 3 (MQ below (PI E q σ τ) ([.ref (qAd E 50)] : List Value).toArray s 0 0 (qA E)) σ τ 4 [(2, .int a1.2), (1, .int a1.1), (0, .ref (qAd E 50))] []) (fun r2 a1 ih_r2 hf => ?_) _ _ hf
  refine y_iload_n C dX5_isDrawn_4 rfl 0 rfl ?_
  refine y_aload_n C dX5_isDrawn_5 rfl 2 rfl ?_
  refine g50_planMany C fl_X5_245 dX5_isDrawn_6 ?_
  refine y_icmp_ge C 50 dX5_isDrawn_9 (by decide) hf (fun hf => ?_) (fun hf => ?_)
  · refine y_iload_n C dX5_isDrawn_50 rfl 1 rfl ?_
    obtain ⟨hz3, hf⟩ := ck_e hf
    exact y_zret C (zb_e hz3) (Option.some.inj hf) rfl rfl dX5_isDrawn_51
  · refine y_iload_n C dX5_isDrawn_12 rfl 1 rfl ?_
    refine y_if_eq C 42 dX5_isDrawn_13 (by decide) hf (fun hf => ?_) (fun hf => ?_)
    · refine y_iconst C (v := 0) dX5_isDrawn_42 (by decide) ?_
      refine y_istore_n C dX5_isDrawn_43 rfl (Nat.le_of_ble_eq_true rfl) rfl (lv' := [(1, .int (0 : Int32)), (2, .int a1.2), (0, .ref (qAd E 50))]) rfl ?_
      refine y_iinc C dX5_isDrawn_44 1 rfl (Nat.le_of_ble_eq_true rfl) (k2 := 1) (by decide) rfl (lv' := [(2, .int (a1.2 + (1 : Int32))), (1, .int (0 : Int32)), (0, .ref (qAd E 50))]) rfl ?_
      refine y_goto C 4 dX5_isDrawn_47 (by decide) ?_
      refine y_sub [0, 1, 2] rfl ?_
      exact ih_r2 ((0 : Int32), (a1.2 + (1 : Int32))) hf
    · refine y_aload_n C dX5_isDrawn_16 rfl 2 rfl ?_
      refine g50_choices C fl_X5_62 dX5_isDrawn_17 ?_
      refine y_iload_n C dX5_isDrawn_20 rfl 0 rfl ?_
      obtain ⟨hi4, hf⟩ := ck_e hf
      refine y_ialdR C a67 (j := a1.2.toNatClampNeg) rfl hi4 dX5_isDrawn_21 ?_
      refine y_if_ne C 38 dX5_isDrawn_22 (by decide) hf (fun hf => ?_) (fun hf => ?_)
      · refine y_iconst C (v := 1) dX5_isDrawn_38 (by decide) ?_
        refine y_goto C 43 dX5_isDrawn_39 (by decide) ?_
        refine y_istore_n C dX5_isDrawn_43 rfl (Nat.le_of_ble_eq_true rfl) rfl (lv' := [(1, .int (1 : Int32)), (2, .int a1.2), (0, .ref (qAd E 50))]) rfl ?_
        refine y_iinc C dX5_isDrawn_44 1 rfl (Nat.le_of_ble_eq_true rfl) (k2 := 1) (by decide) rfl (lv' := [(2, .int (a1.2 + (1 : Int32))), (1, .int (1 : Int32)), (0, .ref (qAd E 50))]) rfl ?_
        refine y_goto C 4 dX5_isDrawn_47 (by decide) ?_
        refine y_sub [0, 1, 2] rfl ?_
        exact ih_r2 ((1 : Int32), (a1.2 + (1 : Int32))) hf
      · refine y_aload_n C dX5_isDrawn_25 rfl 2 rfl ?_
        refine y_aload_n C dX5_isDrawn_26 rfl 2 rfl ?_
        refine g50_planCalled C fl_X5_59 dX5_isDrawn_27 ?_
        refine y_iload_n C dX5_isDrawn_30 rfl 0 rfl ?_
        obtain ⟨hi5, hf⟩ := ck_e hf
        refine y_ialdR C a66 (j := a1.2.toNatClampNeg) rfl hi5 dX5_isDrawn_31 ?_
        obtain ⟨q6, h_q6, hf⟩ := bd_e hf
        refine y_cVi C (kX5_canBits_50 l E σ τ (gM τ 66 a1.2.toNatClampNeg) _ h_q6) vi_X5_canBits ml_X5_234 ⟨5, _, o50, rfl, rfl⟩ rfl ⟨rfl, rfl, Nat.le_of_ble_eq_true rfl, Nat.le_of_ble_eq_true rfl⟩ dX5_isDrawn_32 rfl (Nat.le_of_ble_eq_true rfl) ?_
        refine y_if_ne C 42 dX5_isDrawn_35 (by decide) hf (fun hf => ?_) (fun hf => ?_)
        · refine y_iconst C (v := 0) dX5_isDrawn_42 (by decide) ?_
          refine y_istore_n C dX5_isDrawn_43 rfl (Nat.le_of_ble_eq_true rfl) rfl (lv' := [(1, .int (0 : Int32)), (2, .int a1.2), (0, .ref (qAd E 50))]) rfl ?_
          refine y_iinc C dX5_isDrawn_44 1 rfl (Nat.le_of_ble_eq_true rfl) (k2 := 1) (by decide) rfl (lv' := [(2, .int (a1.2 + (1 : Int32))), (1, .int (0 : Int32)), (0, .ref (qAd E 50))]) rfl ?_
          refine y_goto C 4 dX5_isDrawn_47 (by decide) ?_
          refine y_sub [0, 1, 2] rfl ?_
          exact ih_r2 ((0 : Int32), (a1.2 + (1 : Int32))) hf
        · refine y_iconst C (v := 1) dX5_isDrawn_38 (by decide) ?_
          refine y_goto C 43 dX5_isDrawn_39 (by decide) ?_
          refine y_istore_n C dX5_isDrawn_43 rfl (Nat.le_of_ble_eq_true rfl) rfl (lv' := [(1, .int (1 : Int32)), (2, .int a1.2), (0, .ref (qAd E 50))]) rfl ?_
          refine y_iinc C dX5_isDrawn_44 1 rfl (Nat.le_of_ble_eq_true rfl) (k2 := 1) (by decide) rfl (lv' := [(2, .int (a1.2 + (1 : Int32))), (1, .int (1 : Int32)), (0, .ref (qAd E 50))]) rfl ?_
          refine y_goto C 4 dX5_isDrawn_47 (by decide) ?_
          refine y_sub [0, 1, 2] rfl ?_
          exact ih_r2 ((1 : Int32), (a1.2 + (1 : Int32))) hf
noncomputable def fX5_odds_50 (x1 : Int32) (τ : QS) : Option (Int32 × QS) :=
    (if (fX5_in x1.toInt64 (0 : Int64) (6 : Int64)) = 0 then some ((-1 : Int32), τ) else (if (gI τ 1) = 0 then some ((-4 : Int32), τ) else Option.bind (fX5_beginPlans_50 (gM τ 51 2) τ) (fun (q1 : QS) => lp_ (fun (r3 : Int64 × Int64 × QS → Option (Int32 × QS)) (a2 : Int64 × Int64 × QS) => Option.bind (fX5_nextPlan_50 a2.2.2) (fun (q4 : Int32 × QS) => (if q4.1 = 0 then Option.bind (fX5_tellParts_50 a2.1 a2.2.1 q4.2) (fun (q5 : Int32 × QS) => some (q5.1, q5.2)) else Option.bind (fX5_isDrawn_50 q4.2) (fun (q6 : Int32) => (if q6 = 0 then r3 (a2.1, a2.2.1, q4.2) else ck_ (inb (gI q4.2 11) 7) ((if (gM q4.2 65 ((gI q4.2 11).toNatClampNeg)) < x1 then lt_ (a2.1 + (0 : Int64)) (fun (v8 : Int64) => lt_ (a2.2.1 + (1 : Int64)) (fun (v9 : Int64) => r3 (v8, v9, q4.2))) else lt_ (a2.1 + (1 : Int64)) (fun (v10 : Int64) => lt_ (a2.2.1 + (1 : Int64)) (fun (v11 : Int64) => r3 (v10, v11, q4.2)))))))))) FV ((0 : Int64), (0 : Int64), q1))))
def rm_X5_odds_50 : Room := { frames := 7, cells := 0, slots := 0, locals := 162 }
set_option maxRecDepth 100000 in
set_option maxHeartbeats 4000000 in
theorem kX5_odds_50 (l : Launch) (E : QE) (σ τ : QS) (x1 : Int32) (q : Int32 × QS) (hf : fX5_odds_50 x1 τ = some q) : KQ l yX5_odds cX5_odds 6 (some .int) rm_X5_odds_50 E [.ref (qAd E 50), .int x1] σ τ (PI E q.1 σ q.2) := by
  unfold fX5_odds_50 at hf
  refine y_met rfl (Nat.le_of_ble_eq_true rfl) rfl (fun p e s m below meth c C => ?_)
  refine y_iload_n C dX5_odds_0 rfl 1 rfl ?_
  refine y_i2l C dX5_odds_1 ?_
  refine y_lconst C (v := 0) dX5_odds_2 (by decide) ?_
  refine y_ldc2 C kl_X5_268 dX5_odds_3 ?_
  refine y_cSi C (kX5_in l E σ τ x1.toInt64 (0 : Int64) (6 : Int64) _ rfl) si_X5_in ml_X5_77 rfl ⟨rfl, rfl, Nat.le_of_ble_eq_true rfl, Nat.le_of_ble_eq_true rfl⟩ dX5_odds_6 rfl (Nat.le_of_ble_eq_true rfl) ?_
  refine y_if_ne C 14 dX5_odds_9 (by decide) hf (fun hf => ?_) (fun hf => ?_)
  · refine y_aload_n C dX5_odds_14 rfl 0 rfl ?_
    refine g50_sitters C fl_X5_163 dX5_odds_15 ?_
    refine y_if_ne C 24 dX5_odds_18 (by decide) hf (fun hf => ?_) (fun hf => ?_)
    · refine y_lconst C (v := 0) dX5_odds_24 (by decide) ?_
      refine y_lstore_n C dX5_odds_25 rfl (Nat.le_of_ble_eq_true rfl) rfl (lv' := [(2, .long (0 : Int64)), (0, .ref (qAd E 50)), (1, .int x1)]) rfl ?_
      refine y_lconst C (v := 0) dX5_odds_26 (by decide) ?_
      refine y_lstore C dX5_odds_27 (Nat.le_of_ble_eq_true rfl) rfl (lv' := [(4, .long (0 : Int64)), (2, .long (0 : Int64)), (0, .ref (qAd E 50)), (1, .int x1)]) rfl ?_
      refine y_aload_n C dX5_odds_29 rfl 2 rfl ?_
      refine y_aload_n C dX5_odds_30 rfl 2 rfl ?_
      refine g50_row C fl_X5_7 dX5_odds_31 ?_
      refine y_iconst C (v := 2) dX5_odds_34 (by decide) ?_
      refine y_ialdR C a51 (j := 2) (by decide) (by decide) dX5_odds_35 ?_
      obtain ⟨q1, h_q1, hf⟩ := bd_e hf
      refine y_cVv C (kX5_beginPlans_50 l E σ τ (gM τ 51 2) _ h_q1) vi_X5_beginPlans ml_X5_258 ⟨5, _, o50, rfl, rfl⟩ rfl ⟨rfl, rfl, Nat.le_of_ble_eq_true rfl, Nat.le_of_ble_eq_true rfl⟩ dX5_odds_36 rfl (Nat.le_of_ble_eq_true rfl) ?_
      refine y_sub [0, 1, 2, 3] rfl ?_
      refine lp_ind (P := fun a2 : Int64 × Int64 × QS => Y E p l e rm_X5_odds_50 s m ([.ref (qAd E 50), .int x1] : List Value).toArray below meth c 6 (MQ below (PI E q.1 σ q.2) ([.ref (qAd E 50), .int x1] : List Value).toArray s 0 0 (qA E)) σ a2.2.2 39 [(4, .long a2.2.1), (2, .long a2.1), (0, .ref (qAd E 50)), (1, .int x1)] []) (fun r3 a2 ih_r3 hf => ?_) _ _ hf
      refine y_aload_n C dX5_odds_39 rfl 2 rfl ?_
      obtain ⟨q4, h_q4, hf⟩ := bd_e hf
      refine y_cVi C (kX5_nextPlan_50 l E σ a2.2.2 _ h_q4) vi_X5_nextPlan ml_X5_265 ⟨5, _, o50, rfl, rfl⟩ rfl ⟨rfl, rfl, Nat.le_of_ble_eq_true rfl, Nat.le_of_ble_eq_true rfl⟩ dX5_odds_40 rfl (Nat.le_of_ble_eq_true rfl) ?_
      refine y_if_eq C 83 dX5_odds_43 (by decide) hf (fun hf => ?_) (fun hf => ?_)
      · refine y_aload_n C dX5_odds_83 rfl 2 rfl ?_
        refine y_lload_n C dX5_odds_84 rfl 1 rfl ?_
        refine y_lload C dX5_odds_85 0 rfl ?_
        obtain ⟨q5, h_q5, hf⟩ := bd_e hf
        refine y_cVi C (kX5_tellParts_50 l E σ q4.2 a2.1 a2.2.1 _ h_q5) vi_X5_tellParts ml_X5_307 ⟨5, _, o50, rfl, rfl⟩ rfl ⟨rfl, rfl, Nat.le_of_ble_eq_true rfl, Nat.le_of_ble_eq_true rfl⟩ dX5_odds_87 rfl (Nat.le_of_ble_eq_true rfl) ?_
        exact y_iret C (rs1 hf) rfl (rs2 hf) dX5_odds_90
      · refine y_aload_n C dX5_odds_46 rfl 2 rfl ?_
        obtain ⟨q6, h_q6, hf⟩ := bd_e hf
        refine y_cVi C (kX5_isDrawn_50 l E σ q4.2 _ h_q6) vi_X5_isDrawn ml_X5_304 ⟨5, _, o50, rfl, rfl⟩ rfl ⟨rfl, rfl, Nat.le_of_ble_eq_true rfl, Nat.le_of_ble_eq_true rfl⟩ dX5_odds_47 rfl (Nat.le_of_ble_eq_true rfl) ?_
        refine y_if_eq C 39 dX5_odds_50 (by decide) hf (fun hf => ?_) (fun hf => ?_)
        · refine y_sub [0, 1, 2, 3] rfl ?_
          exact ih_r3 (a2.1, a2.2.1, q4.2) hf
        · refine y_lload_n C dX5_odds_53 rfl 1 rfl ?_
          refine y_aload_n C dX5_odds_54 rfl 2 rfl ?_
          refine g50_planCarried C fl_X5_56 dX5_odds_55 ?_
          refine y_aload_n C dX5_odds_58 rfl 2 rfl ?_
          refine g50_planMany C fl_X5_245 dX5_odds_59 ?_
          obtain ⟨hi7, hf⟩ := ck_e hf
          refine y_ialdR C a65 (j := (gI q4.2 11).toNatClampNeg) rfl hi7 dX5_odds_62 ?_
          refine y_iload_n C dX5_odds_63 rfl 3 rfl ?_
          refine y_icmp_lt C 71 dX5_odds_64 (by decide) hf (fun hf => ?_) (fun hf => ?_)
          · refine y_lconst C (v := 0) dX5_odds_71 (by decide) ?_
            refine y_ladd C dX5_odds_72 ?_
            obtain ⟨v8, e_v8, hf⟩ := lt_e hf
            refine y_lstore_n C dX5_odds_73 rfl (Nat.le_of_ble_eq_true rfl) e_v8 (lv' := [(2, .long v8), (4, .long a2.2.1), (0, .ref (qAd E 50)), (1, .int x1)]) rfl ?_
            refine y_lload C dX5_odds_74 1 rfl ?_
            refine y_lconst C (v := 1) dX5_odds_76 (by decide) ?_
            refine y_ladd C dX5_odds_77 ?_
            obtain ⟨v9, e_v9, hf⟩ := lt_e hf
            refine y_lstore C dX5_odds_78 (Nat.le_of_ble_eq_true rfl) e_v9 (lv' := [(4, .long v9), (2, .long v8), (0, .ref (qAd E 50)), (1, .int x1)]) rfl ?_
            refine y_goto C 39 dX5_odds_80 (by decide) ?_
            refine y_sub [0, 1, 2, 3] rfl ?_
            exact ih_r3 (v8, v9, q4.2) hf
          · refine y_lconst C (v := 1) dX5_odds_67 (by decide) ?_
            refine y_goto C 72 dX5_odds_68 (by decide) ?_
            refine y_ladd C dX5_odds_72 ?_
            obtain ⟨v10, e_v10, hf⟩ := lt_e hf
            refine y_lstore_n C dX5_odds_73 rfl (Nat.le_of_ble_eq_true rfl) e_v10 (lv' := [(2, .long v10), (4, .long a2.2.1), (0, .ref (qAd E 50)), (1, .int x1)]) rfl ?_
            refine y_lload C dX5_odds_74 1 rfl ?_
            refine y_lconst C (v := 1) dX5_odds_76 (by decide) ?_
            refine y_ladd C dX5_odds_77 ?_
            obtain ⟨v11, e_v11, hf⟩ := lt_e hf
            refine y_lstore C dX5_odds_78 (Nat.le_of_ble_eq_true rfl) e_v11 (lv' := [(4, .long v11), (2, .long v10), (0, .ref (qAd E 50)), (1, .int x1)]) rfl ?_
            refine y_goto C 39 dX5_odds_80 (by decide) ?_
            refine y_sub [0, 1, 2, 3] rfl ?_
            exact ih_r3 (v10, v11, q4.2) hf
    · refine y_bipush C (v := -4) dX5_odds_21 (by decide) ?_
      exact y_iret C (rs1 hf) rfl (rs2 hf) dX5_odds_23
  · refine y_iconst C (v := -1) dX5_odds_12 (by decide) ?_
    exact y_iret C (rs1 hf) rfl (rs2 hf) dX5_odds_13
noncomputable def fX4_mid_0  (σ : QS) : Option (Int32 × QS) :=
    (if (gI σ 9) = 0 then some ((-4 : Int32), σ) else Option.bind (fX2_findDraws_7 (0 : Int32) σ) (fun (q1 : QS) => Option.bind (fX4_tellFraction_0 (gJ q1 5) (gJ q1 3) q1) (fun (q2 : QS) => some ((1 : Int32), q2))))
def rm_X4_mid_0 : Room := { frames := 14, cells := 0, slots := 0, locals := 358 }
set_option maxRecDepth 100000 in
set_option maxHeartbeats 4000000 in
theorem kX4_mid_0 (l : Launch) (E : QE) (σ τ : QS)  (q : Int32 × QS) (hf : fX4_mid_0 σ = some q) : KQ l yX4_mid cX4_mid 1 (some .int) rm_X4_mid_0 E [.ref (qAd E 0)] σ τ (PI E q.1 q.2 τ) := by
  unfold fX4_mid_0 at hf
  refine y_met rfl (Nat.le_of_ble_eq_true rfl) rfl (fun p e s m below meth c C => ?_)
  refine y_aload_n C dX4_mid_0 rfl 0 rfl ?_
  refine g0_script C fl_X4_31 dX4_mid_1 ?_
  refine gN5_sitterCount C fn_X4_114 dX4_mid_4 ?_
  refine y_if_ne C 13 dX4_mid_7 (by decide) hf (fun hf => ?_) (fun hf => ?_)
  · refine y_aload_n C dX4_mid_13 rfl 0 rfl ?_
    refine g0_search C fl_X4_48 dX4_mid_14 ?_
    refine y_iconst C (v := 0) dX4_mid_17 (by decide) ?_
    obtain ⟨q1, h_q1, hf⟩ := bd_e hf
    refine y_cVv C (kX2_findDraws_7 l E σ τ (0 : Int32) _ h_q1) vi_X2_findDraws ml_X4_258 ⟨2, _, o7, rfl, rfl⟩ rfl ⟨rfl, rfl, Nat.le_of_ble_eq_true rfl, Nat.le_of_ble_eq_true rfl⟩ dX4_mid_18 rfl (Nat.le_of_ble_eq_true rfl) ?_
    refine y_aload_n C dX4_mid_21 rfl 0 rfl ?_
    refine y_aload_n C dX4_mid_22 rfl 0 rfl ?_
    refine g0_search C fl_X4_48 dX4_mid_23 ?_
    refine gN7_drawsApplause C fn_X4_267 dX4_mid_26 ?_
    refine y_aload_n C dX4_mid_29 rfl 0 rfl ?_
    refine g0_search C fl_X4_48 dX4_mid_30 ?_
    refine gN7_draws C fn_X4_264 dX4_mid_33 ?_
    obtain ⟨q2, h_q2, hf⟩ := bd_e hf
    refine y_cVv C (kX4_tellFraction_0 l E q1 τ (gJ q1 5) (gJ q1 3) _ h_q2) vi_X4_tellFraction ml_X4_212 ⟨4, _, o0, rfl, rfl⟩ rfl ⟨rfl, rfl, Nat.le_of_ble_eq_true rfl, Nat.le_of_ble_eq_true rfl⟩ dX4_mid_36 rfl (Nat.le_of_ble_eq_true rfl) ?_
    refine y_iconst C (v := 1) dX4_mid_39 (by decide) ?_
    exact y_iret C (rs1 hf) (rs2 hf) rfl dX4_mid_40
  · refine y_bipush C (v := -4) dX4_mid_10 (by decide) ?_
    exact y_iret C (rs1 hf) (rs2 hf) rfl dX4_mid_12
noncomputable def fX5_mid_50  (τ : QS) : Option (Int32 × QS) :=
    (if (gI τ 1) = 0 then some ((-4 : Int32), τ) else Option.bind (fX5_beginPlans_50 (gM τ 51 2) τ) (fun (q1 : QS) => lp_ (fun (r3 : Int64 × Int64 × QS → Option (Int32 × QS)) (a2 : Int64 × Int64 × QS) => Option.bind (fX5_nextPlan_50 a2.2.2) (fun (q4 : Int32 × QS) => (if q4.1 = 0 then Option.bind (fX5_tellParts_50 a2.1 a2.2.1 q4.2) (fun (q5 : Int32 × QS) => some (q5.1, q5.2)) else Option.bind (fX5_isDrawn_50 q4.2) (fun (q6 : Int32) => (if q6 = 0 then r3 (a2.1, a2.2.1, q4.2) else ck_ (inb (gI q4.2 11) 7) (lt_ (a2.1 + (gM q4.2 64 ((gI q4.2 11).toNatClampNeg)).toInt64) (fun (v8 : Int64) => lt_ (a2.2.1 + (1 : Int64)) (fun (v9 : Int64) => r3 (v8, v9, q4.2))))))))) FV ((0 : Int64), (0 : Int64), q1)))
def rm_X5_mid_50 : Room := { frames := 7, cells := 0, slots := 0, locals := 162 }
set_option maxRecDepth 100000 in
set_option maxHeartbeats 4000000 in
theorem kX5_mid_50 (l : Launch) (E : QE) (σ τ : QS)  (q : Int32 × QS) (hf : fX5_mid_50 τ = some q) : KQ l yX5_mid cX5_mid 5 (some .int) rm_X5_mid_50 E [.ref (qAd E 50)] σ τ (PI E q.1 σ q.2) := by
  unfold fX5_mid_50 at hf
  refine y_met rfl (Nat.le_of_ble_eq_true rfl) rfl (fun p e s m below meth c C => ?_)
  refine y_aload_n C dX5_mid_0 rfl 0 rfl ?_
  refine g50_sitters C fl_X5_163 dX5_mid_1 ?_
  refine y_if_ne C 10 dX5_mid_4 (by decide) hf (fun hf => ?_) (fun hf => ?_)
  · refine y_lconst C (v := 0) dX5_mid_10 (by decide) ?_
    refine y_lstore_n C dX5_mid_11 rfl (Nat.le_of_ble_eq_true rfl) rfl (lv' := [(1, .long (0 : Int64)), (0, .ref (qAd E 50))]) rfl ?_
    refine y_lconst C (v := 0) dX5_mid_12 (by decide) ?_
    refine y_lstore_n C dX5_mid_13 rfl (Nat.le_of_ble_eq_true rfl) rfl (lv' := [(3, .long (0 : Int64)), (1, .long (0 : Int64)), (0, .ref (qAd E 50))]) rfl ?_
    refine y_aload_n C dX5_mid_14 rfl 2 rfl ?_
    refine y_aload_n C dX5_mid_15 rfl 2 rfl ?_
    refine g50_row C fl_X5_7 dX5_mid_16 ?_
    refine y_iconst C (v := 2) dX5_mid_19 (by decide) ?_
    refine y_ialdR C a51 (j := 2) (by decide) (by decide) dX5_mid_20 ?_
    obtain ⟨q1, h_q1, hf⟩ := bd_e hf
    refine y_cVv C (kX5_beginPlans_50 l E σ τ (gM τ 51 2) _ h_q1) vi_X5_beginPlans ml_X5_258 ⟨5, _, o50, rfl, rfl⟩ rfl ⟨rfl, rfl, Nat.le_of_ble_eq_true rfl, Nat.le_of_ble_eq_true rfl⟩ dX5_mid_21 rfl (Nat.le_of_ble_eq_true rfl) ?_
    refine y_sub [0, 1, 2] rfl ?_
    refine lp_ind (P := fun a2 : Int64 × Int64 × QS => Y E p l e rm_X5_mid_50 s m ([.ref (qAd E 50)] : List Value).toArray below meth c 5 (MQ below (PI E q.1 σ q.2) ([.ref (qAd E 50)] : List Value).toArray s 0 0 (qA E)) σ a2.2.2 24 [(3, .long a2.2.1), (1, .long a2.1), (0, .ref (qAd E 50))] []) (fun r3 a2 ih_r3 hf => ?_) _ _ hf
    refine y_aload_n C dX5_mid_24 rfl 2 rfl ?_
    obtain ⟨q4, h_q4, hf⟩ := bd_e hf
    refine y_cVi C (kX5_nextPlan_50 l E σ a2.2.2 _ h_q4) vi_X5_nextPlan ml_X5_265 ⟨5, _, o50, rfl, rfl⟩ rfl ⟨rfl, rfl, Nat.le_of_ble_eq_true rfl, Nat.le_of_ble_eq_true rfl⟩ dX5_mid_25 rfl (Nat.le_of_ble_eq_true rfl) ?_
    refine y_if_eq C 58 dX5_mid_28 (by decide) hf (fun hf => ?_) (fun hf => ?_)
    · refine y_aload_n C dX5_mid_58 rfl 2 rfl ?_
      refine y_lload_n C dX5_mid_59 rfl 1 rfl ?_
      refine y_lload_n C dX5_mid_60 rfl 0 rfl ?_
      obtain ⟨q5, h_q5, hf⟩ := bd_e hf
      refine y_cVi C (kX5_tellParts_50 l E σ q4.2 a2.1 a2.2.1 _ h_q5) vi_X5_tellParts ml_X5_307 ⟨5, _, o50, rfl, rfl⟩ rfl ⟨rfl, rfl, Nat.le_of_ble_eq_true rfl, Nat.le_of_ble_eq_true rfl⟩ dX5_mid_61 rfl (Nat.le_of_ble_eq_true rfl) ?_
      exact y_iret C (rs1 hf) rfl (rs2 hf) dX5_mid_64
    · refine y_aload_n C dX5_mid_31 rfl 2 rfl ?_
      obtain ⟨q6, h_q6, hf⟩ := bd_e hf
      refine y_cVi C (kX5_isDrawn_50 l E σ q4.2 _ h_q6) vi_X5_isDrawn ml_X5_304 ⟨5, _, o50, rfl, rfl⟩ rfl ⟨rfl, rfl, Nat.le_of_ble_eq_true rfl, Nat.le_of_ble_eq_true rfl⟩ dX5_mid_32 rfl (Nat.le_of_ble_eq_true rfl) ?_
      refine y_if_eq C 24 dX5_mid_35 (by decide) hf (fun hf => ?_) (fun hf => ?_)
      · refine y_sub [0, 1, 2] rfl ?_
        exact ih_r3 (a2.1, a2.2.1, q4.2) hf
      · refine y_lload_n C dX5_mid_38 rfl 1 rfl ?_
        refine y_aload_n C dX5_mid_39 rfl 2 rfl ?_
        refine g50_planApplause C fl_X5_53 dX5_mid_40 ?_
        refine y_aload_n C dX5_mid_43 rfl 2 rfl ?_
        refine g50_planMany C fl_X5_245 dX5_mid_44 ?_
        obtain ⟨hi7, hf⟩ := ck_e hf
        refine y_ialdR C a64 (j := (gI q4.2 11).toNatClampNeg) rfl hi7 dX5_mid_47 ?_
        refine y_i2l C dX5_mid_48 ?_
        refine y_ladd C dX5_mid_49 ?_
        obtain ⟨v8, e_v8, hf⟩ := lt_e hf
        refine y_lstore_n C dX5_mid_50 rfl (Nat.le_of_ble_eq_true rfl) e_v8 (lv' := [(1, .long v8), (3, .long a2.2.1), (0, .ref (qAd E 50))]) rfl ?_
        refine y_lload_n C dX5_mid_51 rfl 1 rfl ?_
        refine y_lconst C (v := 1) dX5_mid_52 (by decide) ?_
        refine y_ladd C dX5_mid_53 ?_
        obtain ⟨v9, e_v9, hf⟩ := lt_e hf
        refine y_lstore_n C dX5_mid_54 rfl (Nat.le_of_ble_eq_true rfl) e_v9 (lv' := [(3, .long v9), (1, .long v8), (0, .ref (qAd E 50))]) rfl ?_
        refine y_goto C 24 dX5_mid_55 (by decide) ?_
        refine y_sub [0, 1, 2] rfl ?_
        exact ih_r3 (v8, v9, q4.2) hf
  · refine y_bipush C (v := -4) dX5_mid_7 (by decide) ?_
    exact y_iret C (rs1 hf) rfl (rs2 hf) dX5_mid_9
noncomputable def fJ9_floorMod_7cf53 (x0 : Int32) (x1 : Int32) : Option (Int32) :=
    ck_ (ne0 x1) (lt_ (x0 - x0 / x1 * x1) (fun (v2 : Int32) => (if 0 ≤ (x0 ^^^ x1) then some v2 else (if v2 = 0 then some v2 else some (v2 + x1)))))
def rm_J9_floorMod_7cf53 : Room := { frames := 0, cells := 0, slots := 0, locals := 0 }
set_option maxRecDepth 100000 in
set_option maxHeartbeats 4000000 in
theorem kJ9_floorMod_7cf53 (l : Launch) (E : QE) (σ τ : QS) (x0 : Int32) (x1 : Int32) (q : Int32) (hf : fJ9_floorMod_7cf53 x0 x1 = some q) : KQ l yJ9_floorMod_7cf53 cJ9_floorMod_7cf53 3 (some .int) rm_J9_floorMod_7cf53 E [.int x0, .int x1] σ τ (PI E q σ τ) := by
  unfold fJ9_floorMod_7cf53 at hf
  refine y_metF pl_J9_floorMod_7cf53 (Nat.le_of_ble_eq_true rfl) rfl (fun p e s m below meth c C => ?_)
  refine y_iload_n C dJ9_floorMod_7cf53_0 rfl 0 rfl ?_
  refine y_iload_n C dJ9_floorMod_7cf53_1 rfl 1 rfl ?_
  obtain ⟨hz1, hf⟩ := ck_e hf
  refine y_irem C hz1 dJ9_floorMod_7cf53_2 ?_
  obtain ⟨v2, e_v2, hf⟩ := lt_e hf
  refine y_istore_n C dJ9_floorMod_7cf53_3 rfl (Nat.le_of_ble_eq_true rfl) e_v2 (lv' := [(2, .int v2), (0, .int x0), (1, .int x1)]) rfl ?_
  refine y_iload_n C dJ9_floorMod_7cf53_4 rfl 1 rfl ?_
  refine y_iload_n C dJ9_floorMod_7cf53_5 rfl 2 rfl ?_
  refine y_ixor C dJ9_floorMod_7cf53_6 ?_
  refine y_if_ge C 18 dJ9_floorMod_7cf53_7 (by decide) hf (fun hf => ?_) (fun hf => ?_)
  · refine y_iload_n C dJ9_floorMod_7cf53_18 rfl 0 rfl ?_
    exact y_iret C (Option.some.inj hf) rfl rfl dJ9_floorMod_7cf53_19
  · refine y_iload_n C dJ9_floorMod_7cf53_10 rfl 0 rfl ?_
    refine y_if_eq C 18 dJ9_floorMod_7cf53_11 (by decide) hf (fun hf => ?_) (fun hf => ?_)
    · refine y_iload_n C dJ9_floorMod_7cf53_18 rfl 0 rfl ?_
      exact y_iret C (Option.some.inj hf) rfl rfl dJ9_floorMod_7cf53_19
    · refine y_iload_n C dJ9_floorMod_7cf53_14 rfl 0 rfl ?_
      refine y_iload_n C dJ9_floorMod_7cf53_15 rfl 2 rfl ?_
      refine y_iadd C dJ9_floorMod_7cf53_16 ?_
      exact y_iret C (Option.some.inj hf) rfl rfl dJ9_floorMod_7cf53_17
noncomputable def fX4_drawn (x0 : Int32) (x1 : Int32) : Option (Int32) :=
    lt_ (fJ6_bitCount_0f7a4 x0) (fun (v1 : Int32) => (if v1 = 0 then some (-9 : Int32) else Option.bind (fJ9_floorMod_7cf53 x1 v1) (fun (q2 : Int32) => lp_ (fun (r4 : Int32 × Int32 → Option (Int32)) (a3 : Int32 × Int32) => (if (6 : Int32) ≤ a3.2 then some (-9 : Int32) else (if (fX4_isIn x0 a3.2) = 0 then r4 (a3.1, (a3.2 + (1 : Int32))) else (if a3.1 = 0 then some a3.2 else r4 ((a3.1 + (-1 : Int32)), (a3.2 + (1 : Int32))))))) FV (q2, (0 : Int32)))))
def rm_X4_drawn : Room := { frames := 1, cells := 0, slots := 0, locals := 22 }
set_option maxRecDepth 100000 in
set_option maxHeartbeats 4000000 in
theorem kX4_drawn (l : Launch) (E : QE) (σ τ : QS) (x0 : Int32) (x1 : Int32) (q : Int32) (hf : fX4_drawn x0 x1 = some q) : KQ l yX4_drawn cX4_drawn 5 (some .int) rm_X4_drawn E [.int x0, .int x1] σ τ (PI E q σ τ) := by
  unfold fX4_drawn at hf
  refine y_met rfl (Nat.le_of_ble_eq_true rfl) rfl (fun p e s m below meth c C => ?_)
  refine y_iload_n C dX4_drawn_0 rfl 0 rfl ?_
  refine y_cSi C (kJ6_bitCount_0f7a4 l E σ τ x0 _ rfl) si_J6_bitCount_0f7a4 ml_X4_168 rfl ⟨rfl, rfl, Nat.le_of_ble_eq_true rfl, Nat.le_of_ble_eq_true rfl⟩ dX4_drawn_1 rfl (Nat.le_of_ble_eq_true rfl) ?_
  obtain ⟨v1, e_v1, hf⟩ := lt_e hf
  refine y_istore_n C dX4_drawn_4 rfl (Nat.le_of_ble_eq_true rfl) e_v1 (lv' := [(2, .int v1), (0, .int x0), (1, .int x1)]) rfl ?_
  refine y_iload_n C dX4_drawn_5 rfl 0 rfl ?_
  refine y_if_ne C 12 dX4_drawn_6 (by decide) hf (fun hf => ?_) (fun hf => ?_)
  · refine y_iload_n C dX4_drawn_12 rfl 2 rfl ?_
    refine y_iload_n C dX4_drawn_13 rfl 0 rfl ?_
    obtain ⟨q2, h_q2, hf⟩ := bd_e hf
    refine y_cSi C (kJ9_floorMod_7cf53 l E σ τ x1 v1 _ h_q2) si_J9_floorMod_7cf53 ml_X4_338 rfl ⟨rfl, rfl, Nat.le_of_ble_eq_true rfl, Nat.le_of_ble_eq_true rfl⟩ dX4_drawn_14 rfl (Nat.le_of_ble_eq_true rfl) ?_
    refine y_istore_n C dX4_drawn_17 rfl (Nat.le_of_ble_eq_true rfl) rfl (lv' := [(3, .int q2), (2, .int v1), (0, .int x0), (1, .int x1)]) rfl ?_
    refine y_iconst C (v := 0) dX4_drawn_18 (by decide) ?_
    refine y_istore C dX4_drawn_19 (Nat.le_of_ble_eq_true rfl) rfl (lv' := [(4, .int (0 : Int32)), (3, .int q2), (2, .int v1), (0, .int x0), (1, .int x1)]) rfl ?_
    refine y_sub [0, 1, 3] rfl ?_
    refine lp_ind (P := fun a3 : Int32 × Int32 => Y E p l e rm_X4_drawn s m ([.int x0, .int x1] : List Value).toArray below meth c 5 (MQ below (PI E q σ τ) ([.int x0, .int x1] : List Value).toArray s 0 0 (qA E)) σ τ 21 [(4, .int a3.2), (3, .int a3.1), (0, .int x0)] []) (fun r4 a3 ih_r4 hf => ?_) _ _ hf
    refine y_iload C dX4_drawn_21 0 rfl ?_
    refine y_bipush C (v := 6) dX4_drawn_23 (by decide) ?_
    refine y_icmp_ge C 53 dX4_drawn_25 (by decide) hf (fun hf => ?_) (fun hf => ?_)
    · refine y_bipush C (v := -9) dX4_drawn_53 (by decide) ?_
      exact y_iret C (Option.some.inj hf) rfl rfl dX4_drawn_55
    · refine y_iload_n C dX4_drawn_28 rfl 2 rfl ?_
      refine y_iload C dX4_drawn_29 0 rfl ?_
      refine y_cSi C (kX4_isIn l E σ τ x0 a3.2 _ rfl) si_X4_isIn ml_X4_147 rfl ⟨rfl, rfl, Nat.le_of_ble_eq_true rfl, Nat.le_of_ble_eq_true rfl⟩ dX4_drawn_31 rfl (Nat.le_of_ble_eq_true rfl) ?_
      refine y_if_eq C 47 dX4_drawn_34 (by decide) hf (fun hf => ?_) (fun hf => ?_)
      · refine y_iinc C dX4_drawn_47 0 rfl (Nat.le_of_ble_eq_true rfl) (k2 := 1) (by decide) rfl (lv' := [(4, .int (a3.2 + (1 : Int32))), (3, .int a3.1), (0, .int x0)]) rfl ?_
        refine y_goto C 21 dX4_drawn_50 (by decide) ?_
        refine y_sub [0, 1, 2] rfl ?_
        exact ih_r4 (a3.1, (a3.2 + (1 : Int32))) hf
      · refine y_iload_n C dX4_drawn_37 rfl 1 rfl ?_
        refine y_if_ne C 44 dX4_drawn_38 (by decide) hf (fun hf => ?_) (fun hf => ?_)
        · refine y_iinc C dX4_drawn_44 1 rfl (Nat.le_of_ble_eq_true rfl) (k2 := -1) (by decide) rfl (lv' := [(3, .int (a3.1 + (-1 : Int32))), (4, .int a3.2), (0, .int x0)]) rfl ?_
          refine y_iinc C dX4_drawn_47 1 rfl (Nat.le_of_ble_eq_true rfl) (k2 := 1) (by decide) rfl (lv' := [(4, .int (a3.2 + (1 : Int32))), (3, .int (a3.1 + (-1 : Int32))), (0, .int x0)]) rfl ?_
          refine y_goto C 21 dX4_drawn_50 (by decide) ?_
          refine y_sub [0, 1, 2] rfl ?_
          exact ih_r4 ((a3.1 + (-1 : Int32)), (a3.2 + (1 : Int32))) hf
        · refine y_iload C dX4_drawn_41 0 rfl ?_
          exact y_iret C (Option.some.inj hf) rfl rfl dX4_drawn_43
  · refine y_bipush C (v := -9) dX4_drawn_9 (by decide) ?_
    exact y_iret C (Option.some.inj hf) rfl rfl dX4_drawn_11
