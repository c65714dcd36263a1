noncomputable def fX5_choose_50 (x1 : Int32) (x2 : Int32) (τ : QS) : Option (QS) :=
    lt_ (x2 - (1 : Int32)) (fun (v1 : Int32) => lt_ (fun (v3 : Int32) => lt_ (fun (v5 : Int32) => ck_ (inb x1 7) (lt_ (pM τ 67 (upd (gM τ 67) x1.toNatClampNeg x2)) (fun (S7 : QS) => ck_ (inb x1 7) (lt_ (fun (v10 : Int32) => ck_ (inb (x1 + (1 : Int32)) 7) (lt_ (pM S7 63 (upd (gM S7 63) ((x1 + (1 : Int32)).toNatClampNeg) ((gM S7 63 x1.toNatClampNeg) - v10))) (fun (S12 : QS) => ck_ (inb x1 7) (lt_ (fun (v15 : Int32) => ck_ (inb (x1 + (1 : Int32)) 7) (lt_ (pM S12 64 (upd (gM S12 64) ((x1 + (1 : Int32)).toNatClampNeg) ((gM S12 64 x1.toNatClampNeg) + v15))) (fun (S17 : QS) => ck_ (inb x1 7) (lt_ (fun (v20 : Int32) => ck_ (inb (x1 + (1 : Int32)) 7) (lt_ (pM S17 65 (upd (gM S17 65) ((x1 + (1 : Int32)).toNatClampNeg) ((gM S17 65 x1.toNatClampNeg) + v20))) (fun (S22 : QS) => ck_ (inb x1 7) (lt_ (fun (v25 : Int32) => ck_ (inb (x1 + (1 : Int32)) 7) (lt_ (pM S22 66 (upd (gM S22 66) ((x1 + (1 : Int32)).toNatClampNeg) ((gM S22 66 x1.toNatClampNeg) ||| v25))) (fun (S27 : QS) => some S27))) (fun (j24 : Int32 → Option (QS)) => (if 0 ≤ v1 then j24 ((1 : Int32) <<< (v1 &&& 31)) else j24 (0 : Int32))))))) (fun (j19 : Int32 → Option (QS)) => (if v5 = 0 then j19 (0 : Int32) else j19 (1 : Int32))))))) (fun (j14 : Int32 → Option (QS)) => (if 0 ≤ v1 then (if v5 = 0 then j14 (-1 : Int32) else (if v3 = 0 then j14 (2 : Int32) else j14 (1 : Int32))) else j14 (0 : Int32))))))) (fun (j9 : Int32 → Option (QS)) => (if v5 = 0 then j9 (0 : Int32) else j9 v3)))))) (fun (j4 : Int32 → Option (QS)) => (if v1 < 0 then j4 (0 : Int32) else ck_ (inb x1 7) ((if (gM τ 63 x1.toNatClampNeg) < v3 then j4 (0 : Int32) else j4 (1 : Int32)))))) (fun (j2 : Int32 → Option (QS)) => (if 0 ≤ v1 then ck_ (inb x1 7) (ck_ (inb x1 7) (Option.bind (fX5_lacking_50 v1 ((gM τ 51 1) + x1) (gM τ 64 x1.toNatClampNeg) (gM τ 66 x1.toNatClampNeg) τ) (fun (q31 : Int32) => j2 q31))) else j2 (0 : Int32))))
def rm_X5_choose_50 : Room := { frames := 5, cells := 0, slots := 0, locals := 115 }
set_option maxRecDepth 100000 in
set_option maxHeartbeats 4000000 in
theorem kX5_choose_50 (l : Launch) (E : QE) (σ τ : QS) (x1 : Int32) (x2 : Int32) (q : QS) (hf : fX5_choose_50 x1 x2 τ = some q) : KQ l yX5_choose cX5_choose 6 none rm_X5_choose_50 E [.ref (qAd E 50), .int x1, .int x2] σ τ (PV E σ q) := by
  unfold fX5_choose_50 at hf
  refine y_met rfl (Nat.le_of_ble_eq_true rfl) rfl (fun p e s m below meth c C => ?_)
  refine y_iload_n C dX5_choose_0 rfl 2 rfl ?_
  refine y_iconst C (v := 1) dX5_choose_1 (by decide) ?_
  refine y_isub C dX5_choose_2 ?_
  obtain ⟨v1, e_v1, hf⟩ := lt_e hf
  refine y_istore_n C dX5_choose_3 rfl (Nat.le_of_ble_eq_true rfl) e_v1 (lv' := [(3, .int v1), (0, .ref (qAd E 50)), (1, .int x1), (2, .int x2)]) rfl ?_
  refine y_iload_n C dX5_choose_4 rfl 0 rfl ?_
  obtain ⟨j2, ek_j2, hf⟩ := lt_e hf
  have h_j2 : ∀ (v3 : Int32), j2 v3 = some q → Y E p l e rm_X5_choose_50 s m ([.ref (qAd E 50), .int x1, .int x2] : List Value).toArray below meth c 6 (MQ below (PV E σ q) ([.ref (qAd E 50), .int x1, .int x2] : List Value).toArray s 0 0 (qA E)) σ τ 37 [(0, .ref (qAd E 50)), (1, .int x1), (2, .int x2), (3, .int v1)] [.int v3] := by
    intro v3 hf
    replace hf := (congrFun (ek_j2) v3).symm.trans hf
    refine y_istore C dX5_choose_37 (Nat.le_of_ble_eq_true rfl) rfl (lv' := [(4, .int v3), (0, .ref (qAd E 50)), (1, .int x1), (2, .int x2), (3, .int v1)]) rfl ?_
    refine y_iload_n C dX5_choose_39 rfl 4 rfl ?_
    obtain ⟨j4, ek_j4, hf⟩ := lt_e hf
    have h_j4 : ∀ (v5 : Int32), j4 v5 = some q → Y E p l e rm_X5_choose_50 s m ([.ref (qAd E 50), .int x1, .int x2] : List Value).toArray below meth c 6 (MQ below (PV E σ q) ([.ref (qAd E 50), .int x1, .int x2] : List Value).toArray s 0 0 (qA E)) σ τ 59 [(0, .ref (qAd E 50)), (1, .int x1), (2, .int x2), (3, .int v1), (4, .int v3)] [.int v5] := by
      intro v5 hf
      replace hf := (congrFun (ek_j4) v5).symm.trans hf
      refine y_istore C dX5_choose_59 (Nat.le_of_ble_eq_true rfl) rfl (lv' := [(5, .int v5), (0, .ref (qAd E 50)), (1, .int x1), (2, .int x2), (3, .int v1), (4, .int v3)]) rfl ?_
      refine y_aload_n C dX5_choose_61 rfl 1 rfl ?_
      refine g50_choices C fl_X5_62 dX5_choose_62 ?_
      refine y_iload_n C dX5_choose_65 rfl 2 rfl ?_
      refine y_iload_n C dX5_choose_66 rfl 3 rfl ?_
      obtain ⟨hi6, hf⟩ := ck_e hf
      obtain ⟨S7, e_S7, hf⟩ := lt_e hf
      refine y_iastR C a67 (j := x1.toNatClampNeg) rfl hi6 e_S7 dX5_choose_67 ?_
      refine y_aload_n C dX5_choose_68 rfl 1 rfl ?_
      refine g50_planPrompts C fl_X5_50 dX5_choose_69 ?_
      refine y_iload_n C dX5_choose_72 rfl 2 rfl ?_
      refine y_iconst C (v := 1) dX5_choose_73 (by decide) ?_
      refine y_iadd C dX5_choose_74 ?_
      refine y_aload_n C dX5_choose_75 rfl 1 rfl ?_
      refine g50_planPrompts C fl_X5_50 dX5_choose_76 ?_
      refine y_iload_n C dX5_choose_79 rfl 2 rfl ?_
      obtain ⟨hi8, hf⟩ := ck_e hf
      refine y_ialdR C a63 (j := x1.toNatClampNeg) rfl hi8 dX5_choose_80 ?_
      refine y_iload C dX5_choose_81 0 rfl ?_
      obtain ⟨j9, ek_j9, hf⟩ := lt_e hf
      have h_j9 : ∀ (v10 : Int32), j9 v10 = some q → Y E p l e rm_X5_choose_50 s m ([.ref (qAd E 50), .int x1, .int x2] : List Value).toArray below meth c 6 (MQ below (PV E σ q) ([.ref (qAd E 50), .int x1, .int x2] : List Value).toArray s 0 0 (qA E)) σ S7 92 [(0, .ref (qAd E 50)), (1, .int x1), (3, .int v1), (4, .int v3), (5, .int v5)] [.int v10, .int (gM S7 63 x1.toNatClampNeg), .int (x1 + (1 : Int32)), .ref (qAd E 63)] := by
        intro v10 hf
        replace hf := (congrFun (ek_j9) v10).symm.trans hf
        refine y_isub C dX5_choose_92 ?_
        obtain ⟨hi11, hf⟩ := ck_e hf
        obtain ⟨S12, e_S12, hf⟩ := lt_e hf
        refine y_iastR C a63 (j := (x1 + (1 : Int32)).toNatClampNeg) rfl hi11 e_S12 dX5_choose_93 ?_
        refine y_aload_n C dX5_choose_94 rfl 0 rfl ?_
        refine g50_planApplause C fl_X5_53 dX5_choose_95 ?_
        refine y_iload_n C dX5_choose_98 rfl 1 rfl ?_
        refine y_iconst C (v := 1) dX5_choose_99 (by decide) ?_
        refine y_iadd C dX5_choose_100 ?_
        refine y_aload_n C dX5_choose_101 rfl 0 rfl ?_
        refine g50_planApplause C fl_X5_53 dX5_choose_102 ?_
        refine y_iload_n C dX5_choose_105 rfl 1 rfl ?_
        obtain ⟨hi13, hf⟩ := ck_e hf
        refine y_ialdR C a64 (j := x1.toNatClampNeg) rfl hi13 dX5_choose_106 ?_
        refine y_iload_n C dX5_choose_107 rfl 2 rfl ?_
        obtain ⟨j14, ek_j14, hf⟩ := lt_e hf
        have h_j14 : ∀ (v15 : Int32), j14 v15 = some q → Y E p l e rm_X5_choose_50 s m ([.ref (qAd E 50), .int x1, .int x2] : List Value).toArray below meth c 6 (MQ below (PV E σ q) ([.ref (qAd E 50), .int x1, .int x2] : List Value).toArray s 0 0 (qA E)) σ S12 134 [(0, .ref (qAd E 50)), (1, .int x1), (3, .int v1), (5, .int v5)] [.int v15, .int (gM S12 64 x1.toNatClampNeg), .int (x1 + (1 : Int32)), .ref (qAd E 64)] := by
          intro v15 hf
          replace hf := (congrFun (ek_j14) v15).symm.trans hf
          refine y_iadd C dX5_choose_134 ?_
          obtain ⟨hi16, hf⟩ := ck_e hf
          obtain ⟨S17, e_S17, hf⟩ := lt_e hf
          refine y_iastR C a64 (j := (x1 + (1 : Int32)).toNatClampNeg) rfl hi16 e_S17 dX5_choose_135 ?_
          refine y_aload_n C dX5_choose_136 rfl 0 rfl ?_
          refine g50_planCarried C fl_X5_56 dX5_choose_137 ?_
          refine y_iload_n C dX5_choose_140 rfl 1 rfl ?_
          refine y_iconst C (v := 1) dX5_choose_141 (by decide) ?_
          refine y_iadd C dX5_choose_142 ?_
          refine y_aload_n C dX5_choose_143 rfl 0 rfl ?_
          refine g50_planCarried C fl_X5_56 dX5_choose_144 ?_
          refine y_iload_n C dX5_choose_147 rfl 1 rfl ?_
          obtain ⟨hi18, hf⟩ := ck_e hf
          refine y_ialdR C a65 (j := x1.toNatClampNeg) rfl hi18 dX5_choose_148 ?_
          refine y_iload C dX5_choose_149 3 rfl ?_
          obtain ⟨j19, ek_j19, hf⟩ := lt_e hf
          have h_j19 : ∀ (v20 : Int32), j19 v20 = some q → Y E p l e rm_X5_choose_50 s m ([.ref (qAd E 50), .int x1, .int x2] : List Value).toArray below meth c 6 (MQ below (PV E σ q) ([.ref (qAd E 50), .int x1, .int x2] : List Value).toArray s 0 0 (qA E)) σ S17 159 [(0, .ref (qAd E 50)), (1, .int x1), (3, .int v1)] [.int v20, .int (gM S17 65 x1.toNatClampNeg), .int (x1 + (1 : Int32)), .ref (qAd E 65)] := by
            intro v20 hf
            replace hf := (congrFun (ek_j19) v20).symm.trans hf
            refine y_iadd C dX5_choose_159 ?_
            obtain ⟨hi21, hf⟩ := ck_e hf
            obtain ⟨S22, e_S22, hf⟩ := lt_e hf
            refine y_iastR C a65 (j := (x1 + (1 : Int32)).toNatClampNeg) rfl hi21 e_S22 dX5_choose_160 ?_
            refine y_aload_n C dX5_choose_161 rfl 0 rfl ?_
            refine g50_planCalled C fl_X5_59 dX5_choose_162 ?_
            refine y_iload_n C dX5_choose_165 rfl 1 rfl ?_
            refine y_iconst C (v := 1) dX5_choose_166 (by decide) ?_
            refine y_iadd C dX5_choose_167 ?_
            refine y_aload_n C dX5_choose_168 rfl 0 rfl ?_
            refine g50_planCalled C fl_X5_59 dX5_choose_169 ?_
            refine y_iload_n C dX5_choose_172 rfl 1 rfl ?_
            obtain ⟨hi23, hf⟩ := ck_e hf
            refine y_ialdR C a66 (j := x1.toNatClampNeg) rfl hi23 dX5_choose_173 ?_
            refine y_iload_n C dX5_choose_174 rfl 2 rfl ?_
            obtain ⟨j24, ek_j24, hf⟩ := lt_e hf
            have h_j24 : ∀ (v25 : Int32), j24 v25 = some q → Y E p l e rm_X5_choose_50 s m ([.ref (qAd E 50), .int x1, .int x2] : List Value).toArray below meth c 6 (MQ below (PV E σ q) ([.ref (qAd E 50), .int x1, .int x2] : List Value).toArray s 0 0 (qA E)) σ S22 185 [] [.int v25, .int (gM S22 66 x1.toNatClampNeg), .int (x1 + (1 : Int32)), .ref (qAd E 66)] := by
              intro v25 hf
              replace hf := (congrFun (ek_j24) v25).symm.trans hf
              refine y_ior C dX5_choose_185 ?_
              obtain ⟨hi26, hf⟩ := ck_e hf
              obtain ⟨S27, e_S27, hf⟩ := lt_e hf
              refine y_iastR C a66 (j := (x1 + (1 : Int32)).toNatClampNeg) rfl hi26 e_S27 dX5_choose_186 ?_
              exact y_vret C rfl (Option.some.inj hf) dX5_choose_187
            refine y_if_ge C 182 dX5_choose_175 (by decide) hf (fun hf => ?_) (fun hf => ?_)
            · refine y_iconst C (v := 1) dX5_choose_182 (by decide) ?_
              refine y_iload_n C dX5_choose_183 rfl 2 rfl ?_
              refine y_ishl C dX5_choose_184 ?_
              refine y_sub [] rfl ?_
              exact h_j24 ((1 : Int32) <<< (v1 &&& 31)) hf
            · refine y_iconst C (v := 0) dX5_choose_178 (by decide) ?_
              refine y_goto C 185 dX5_choose_179 (by decide) ?_
              refine y_sub [] rfl ?_
              exact h_j24 (0 : Int32) hf
          refine y_if_eq C 158 dX5_choose_151 (by decide) hf (fun hf => ?_) (fun hf => ?_)
          · refine y_iconst C (v := 0) dX5_choose_158 (by decide) ?_
            refine y_sub [0, 1, 2] rfl ?_
            exact h_j19 (0 : Int32) hf
          · refine y_iconst C (v := 1) dX5_choose_154 (by decide) ?_
            refine y_goto C 159 dX5_choose_155 (by decide) ?_
            refine y_sub [0, 1, 2] rfl ?_
            exact h_j19 (1 : Int32) hf
        refine y_if_ge C 115 dX5_choose_108 (by decide) hf (fun hf => ?_) (fun hf => ?_)
        · refine y_iload C dX5_choose_115 4 rfl ?_
          refine y_if_ne C 124 dX5_choose_117 (by decide) hf (fun hf => ?_) (fun hf => ?_)
          · refine y_iload C dX5_choose_124 3 rfl ?_
            refine y_if_ne C 133 dX5_choose_126 (by decide) hf (fun hf => ?_) (fun hf => ?_)
            · refine y_iconst C (v := 1) dX5_choose_133 (by decide) ?_
              refine y_sub [0, 1, 2, 4] rfl ?_
              exact h_j14 (1 : Int32) hf
            · refine y_iconst C (v := 2) dX5_choose_129 (by decide) ?_
              refine y_goto C 134 dX5_choose_130 (by decide) ?_
              refine y_sub [0, 1, 2, 4] rfl ?_
              exact h_j14 (2 : Int32) hf
          · refine y_iconst C (v := -1) dX5_choose_120 (by decide) ?_
            refine y_goto C 134 dX5_choose_121 (by decide) ?_
            refine y_sub [0, 1, 2, 4] rfl ?_
            exact h_j14 (-1 : Int32) hf
        · refine y_iconst C (v := 0) dX5_choose_111 (by decide) ?_
          refine y_goto C 134 dX5_choose_112 (by decide) ?_
          refine y_sub [0, 1, 2, 4] rfl ?_
          exact h_j14 (0 : Int32) hf
      refine y_if_eq C 91 dX5_choose_83 (by decide) hf (fun hf => ?_) (fun hf => ?_)
      · refine y_iconst C (v := 0) dX5_choose_91 (by decide) ?_
        refine y_sub [1, 2, 4, 5, 0] rfl ?_
        exact h_j9 (0 : Int32) hf
      · refine y_iload C dX5_choose_86 5 rfl ?_
        refine y_goto C 92 dX5_choose_88 (by decide) ?_
        refine y_sub [1, 2, 4, 5, 0] rfl ?_
        exact h_j9 v3 hf
    refine y_if_lt C 58 dX5_choose_40 (by decide) hf (fun hf => ?_) (fun hf => ?_)
    · refine y_iconst C (v := 0) dX5_choose_58 (by decide) ?_
      refine y_sub [1, 2, 3, 4, 0] rfl ?_
      exact h_j4 (0 : Int32) hf
    · refine y_iload C dX5_choose_43 0 rfl ?_
      refine y_aload_n C dX5_choose_45 rfl 1 rfl ?_
      refine g50_planPrompts C fl_X5_50 dX5_choose_46 ?_
      refine y_iload_n C dX5_choose_49 rfl 2 rfl ?_
      obtain ⟨hi28, hf⟩ := ck_e hf
      refine y_ialdR C a63 (j := x1.toNatClampNeg) rfl hi28 dX5_choose_50 ?_
      refine y_icmp_gt C 58 dX5_choose_51 (by decide) hf (fun hf => ?_) (fun hf => ?_)
      · refine y_iconst C (v := 0) dX5_choose_58 (by decide) ?_
        refine y_sub [1, 2, 3, 4, 0] rfl ?_
        exact h_j4 (0 : Int32) hf
      · refine y_iconst C (v := 1) dX5_choose_54 (by decide) ?_
        refine y_goto C 59 dX5_choose_55 (by decide) ?_
        refine y_sub [1, 2, 3, 4, 0] rfl ?_
        exact h_j4 (1 : Int32) hf
  refine y_if_ge C 12 dX5_choose_5 (by decide) hf (fun hf => ?_) (fun hf => ?_)
  · refine y_aload_n C dX5_choose_12 rfl 1 rfl ?_
    refine y_iload_n C dX5_choose_13 rfl 0 rfl ?_
    refine y_aload_n C dX5_choose_14 rfl 1 rfl ?_
    refine g50_row C fl_X5_7 dX5_choose_15 ?_
    refine y_iconst C (v := 1) dX5_choose_18 (by decide) ?_
    refine y_ialdR C a51 (j := 1) (by decide) (by decide) dX5_choose_19 ?_
    refine y_iload_n C dX5_choose_20 rfl 2 rfl ?_
    refine y_iadd C dX5_choose_21 ?_
    refine y_aload_n C dX5_choose_22 rfl 1 rfl ?_
    refine g50_planApplause C fl_X5_53 dX5_choose_23 ?_
    refine y_iload_n C dX5_choose_26 rfl 2 rfl ?_
    obtain ⟨hi29, hf⟩ := ck_e hf
    refine y_ialdR C a64 (j := x1.toNatClampNeg) rfl hi29 dX5_choose_27 ?_
    refine y_aload_n C dX5_choose_28 rfl 1 rfl ?_
    refine g50_planCalled C fl_X5_59 dX5_choose_29 ?_
    refine y_iload_n C dX5_choose_32 rfl 2 rfl ?_
    obtain ⟨hi30, hf⟩ := ck_e hf
    refine y_ialdR C a66 (j := x1.toNatClampNeg) rfl hi30 dX5_choose_33 ?_
    obtain ⟨q31, h_q31, hf⟩ := bd_e hf
    refine y_cVi C (kX5_lacking_50 l E σ τ v1 ((gM τ 51 1) + x1) (gM τ 64 x1.toNatClampNeg) (gM τ 66 x1.toNatClampNeg) _ h_q31) vi_X5_lacking ml_X5_218 ⟨5, _, o50, rfl, rfl⟩ rfl ⟨rfl, rfl, Nat.le_of_ble_eq_true rfl, Nat.le_of_ble_eq_true rfl⟩ dX5_choose_34 rfl (Nat.le_of_ble_eq_true rfl) ?_
    refine y_sub [1, 2, 3, 0] rfl ?_
    exact h_j2 q31 hf
  · refine y_iconst C (v := 0) dX5_choose_8 (by decide) ?_
    refine y_goto C 37 dX5_choose_9 (by decide) ?_
    refine y_sub [1, 2, 3, 0] rfl ?_
    exact h_j2 (0 : Int32) hf
noncomputable def fX5_noPlan_50 (x1 : Int32) (τ : QS) : Option (Int32 × QS) :=
    (if (gI τ 1) = 0 then some ((-4 : Int32), τ) else ck_ (inb x1 6) ((if 0 ≤ (gM τ 56 x1.toNatClampNeg) then ck_ (inb x1 6) ((if (gM τ 56 x1.toNatClampNeg) ≤ ((gI τ 0) - (gM τ 51 1)) then Option.bind (fX5_beginPlans_50 (gM τ 51 2) τ) (fun (q3 : QS) => lp_ (fun (r5 : Int32 × QS → Option (Int32 × QS)) (a4 : Int32 × QS) => ck_ (inb x1 6) ((if (gM a4.2 56 x1.toNatClampNeg) ≤ a4.1 then some ((0 : Int32), a4.2) else ck_ (inb (((40 : Int32) * x1) + a4.1) 240) (lt_ (gM a4.2 57 ((((40 : Int32) * x1) + a4.1).toNatClampNeg)) (fun (v8 : Int32) => lt_ (fun (_ : Unit) => lt_ (fun (v11 : Int32) => Option.bind (fX5_choose_50 a4.1 v11 a4.2) (fun (q12 : QS) => r5 ((a4.1 + (1 : Int32)), q12))) (fun (j10 : Int32 → Option (Int32 × QS)) => (if v8 = (-9 : Int32) then j10 (0 : Int32) else j10 (v8 + (1 : Int32))))) (fun (j9 : Unit → Option (Int32 × QS)) => (if v8 = (-9 : Int32) then j9 () else lt_ (fun (_ : Unit) => Option.bind (fX5_find_50 (3 : Int32) a4.2) (fun (q14 : Int32 × QS) => some (q14.1, q14.2))) (fun (j13 : Unit → Option (Int32 × QS)) => (if (fX5_isSitter_50 v8 a4.2) = 0 then j13 () else ck_ (inb a4.1 7) (Option.bind (fX5_mayCall_50 v8 (gM a4.2 66 a4.1.toNatClampNeg) a4.2) (fun (q16 : Int32) => (if q16 = 0 then j13 () else j9 ())))))))))))) FV ((0 : Int32), q3)) else Option.bind (fX5_find_50 (5 : Int32) τ) (fun (q17 : Int32 × QS) => some (q17.1, q17.2)))) else Option.bind (fX5_find_50 (1 : Int32) τ) (fun (q18 : Int32 × QS) => some (q18.1, q18.2)))))
def rm_X5_noPlan_50 : Room := { frames := 6, cells := 0, slots := 0, locals := 140 }
set_option maxRecDepth 100000 in
set_option maxHeartbeats 4000000 in
theorem kX5_noPlan_50 (l : Launch) (E : QE) (σ τ : QS) (x1 : Int32) (q : Int32 × QS) (hf : fX5_noPlan_50 x1 τ = some q) : KQ l yX5_noPlan cX5_noPlan 4 (some .int) rm_X5_noPlan_50 E [.ref (qAd E 50), .int x1] σ τ (PI E q.1 σ q.2) := by
  unfold fX5_noPlan_50 at hf
  refine y_met rfl (Nat.le_of_ble_eq_true rfl) rfl (fun p e s m below meth c C => ?_)
  refine y_aload_n C dX5_noPlan_0 rfl 0 rfl ?_
  refine g50_sitters C fl_X5_163 dX5_noPlan_1 ?_
  refine y_if_ne C 10 dX5_noPlan_4 (by decide) hf (fun hf => ?_) (fun hf => ?_)
  · refine y_aload_n C dX5_noPlan_10 rfl 0 rfl ?_
    refine g50_sizes C fl_X5_25 dX5_noPlan_11 ?_
    refine y_iload_n C dX5_noPlan_14 rfl 1 rfl ?_
    obtain ⟨hi1, hf⟩ := ck_e hf
    refine y_ialdR C a56 (j := x1.toNatClampNeg) rfl hi1 dX5_noPlan_15 ?_
    refine y_if_ge C 25 dX5_noPlan_16 (by decide) hf (fun hf => ?_) (fun hf => ?_)
    · refine y_aload_n C dX5_noPlan_25 rfl 0 rfl ?_
      refine g50_sizes C fl_X5_25 dX5_noPlan_26 ?_
      refine y_iload_n C dX5_noPlan_29 rfl 1 rfl ?_
      obtain ⟨hi2, hf⟩ := ck_e hf
      refine y_ialdR C a56 (j := x1.toNatClampNeg) rfl hi2 dX5_noPlan_30 ?_
      refine y_aload_n C dX5_noPlan_31 rfl 0 rfl ?_
      refine g50_scenes C fl_X5_160 dX5_noPlan_32 ?_
      refine y_aload_n C dX5_noPlan_35 rfl 0 rfl ?_
      refine g50_row C fl_X5_7 dX5_noPlan_36 ?_
      refine y_iconst C (v := 1) dX5_noPlan_39 (by decide) ?_
      refine y_ialdR C a51 (j := 1) (by decide) (by decide) dX5_noPlan_40 ?_
      refine y_isub C dX5_noPlan_41 ?_
      refine y_icmp_le C 51 dX5_noPlan_42 (by decide) hf (fun hf => ?_) (fun hf => ?_)
      · refine y_aload_n C dX5_noPlan_51 rfl 0 rfl ?_
        refine y_aload_n C dX5_noPlan_52 rfl 0 rfl ?_
        refine g50_row C fl_X5_7 dX5_noPlan_53 ?_
        refine y_iconst C (v := 2) dX5_noPlan_56 (by decide) ?_
        refine y_ialdR C a51 (j := 2) (by decide) (by decide) dX5_noPlan_57 ?_
        obtain ⟨q3, h_q3, hf⟩ := bd_e hf
        refine y_cVv C (kX5_beginPlans_50 l E σ τ (gM τ 51 2) _ h_q3) vi_X5_beginPlans ml_X5_258 ⟨5, _, o50, rfl, rfl⟩ rfl ⟨rfl, rfl, Nat.le_of_ble_eq_true rfl, Nat.le_of_ble_eq_true rfl⟩ dX5_noPlan_58 rfl (Nat.le_of_ble_eq_true rfl) ?_
        refine y_iconst C (v := 0) dX5_noPlan_61 (by decide) ?_
        refine y_istore_n C dX5_noPlan_62 rfl (Nat.le_of_ble_eq_true rfl) rfl (lv' := [(2, .int (0 : Int32)), (0, .ref (qAd E 50)), (1, .int x1)]) rfl ?_
        refine y_sub [0, 1, 2] rfl ?_
        refine lp_ind (P := fun a4 : Int32 × QS => Y E p l e rm_X5_noPlan_50 s m ([.ref (qAd E 50), .int x1] : List Value).toArray below meth c 4 (MQ below (PI E q.1 σ q.2) ([.ref (qAd E 50), .int x1] : List Value).toArray s 0 0 (qA E)) σ a4.2 63 [(2, .int a4.1), (0, .ref (qAd E 50)), (1, .int x1)] []) (fun r5 a4 ih_r5 hf => ?_) _ _ hf
        refine y_iload_n C dX5_noPlan_63 rfl 0 rfl ?_
        refine y_aload_n C dX5_noPlan_64 rfl 1 rfl ?_
        refine g50_sizes C fl_X5_25 dX5_noPlan_65 ?_
        refine y_iload_n C dX5_noPlan_68 rfl 2 rfl ?_
        obtain ⟨hi6, hf⟩ := ck_e hf
        refine y_ialdR C a56 (j := x1.toNatClampNeg) rfl hi6 dX5_noPlan_69 ?_
        refine y_icmp_ge C 143 dX5_noPlan_70 (by decide) hf (fun hf => ?_) (fun hf => ?_)
        · refine y_iconst C (v := 0) dX5_noPlan_143 (by decide) ?_
          exact y_iret C (rs1 hf) rfl (rs2 hf) dX5_noPlan_144
        · refine y_aload_n C dX5_noPlan_73 rfl 1 rfl ?_
          refine g50_items C fl_X5_28 dX5_noPlan_74 ?_
          refine y_bipush C (v := 40) dX5_noPlan_77 (by decide) ?_
          refine y_iload_n C dX5_noPlan_79 rfl 2 rfl ?_
          refine y_imul C dX5_noPlan_80 ?_
          refine y_iload_n C dX5_noPlan_81 rfl 0 rfl ?_
          refine y_iadd C dX5_noPlan_82 ?_
          obtain ⟨hi7, hf⟩ := ck_e hf
          refine y_ialdR C a57 (j := (((40 : Int32) * x1) + a4.1).toNatClampNeg) rfl hi7 dX5_noPlan_83 ?_
          obtain ⟨v8, e_v8, hf⟩ := lt_e hf
          refine y_istore_n C dX5_noPlan_84 rfl (Nat.le_of_ble_eq_true rfl) e_v8 (lv' := [(3, .int v8), (2, .int a4.1), (0, .ref (qAd E 50)), (1, .int x1)]) rfl ?_
          refine y_iload_n C dX5_noPlan_85 rfl 0 rfl ?_
          refine y_bipush C (v := -9) dX5_noPlan_86 (by decide) ?_
          obtain ⟨j9, ek_j9, hf⟩ := lt_e hf
          have h_j9 : ∀ (_ : Unit), j9 () = some q → Y E p l e rm_X5_noPlan_50 s m ([.ref (qAd E 50), .int x1] : List Value).toArray below meth c 4 (MQ below (PI E q.1 σ q.2) ([.ref (qAd E 50), .int x1] : List Value).toArray s 0 0 (qA E)) σ a4.2 119 [(0, .ref (qAd E 50)), (1, .int x1), (2, .int a4.1), (3, .int v8)] [] := by
            intro _ hf
            replace hf := (congrFun (ek_j9) ()).symm.trans hf
            refine y_aload_n C dX5_noPlan_119 rfl 0 rfl ?_
            refine y_iload_n C dX5_noPlan_120 rfl 2 rfl ?_
            refine y_iload_n C dX5_noPlan_121 rfl 3 rfl ?_
            refine y_bipush C (v := -9) dX5_noPlan_122 (by decide) ?_
            obtain ⟨j10, ek_j10, hf⟩ := lt_e hf
            have h_j10 : ∀ (v11 : Int32), j10 v11 = some q → Y E p l e rm_X5_noPlan_50 s m ([.ref (qAd E 50), .int x1] : List Value).toArray below meth c 4 (MQ below (PI E q.1 σ q.2) ([.ref (qAd E 50), .int x1] : List Value).toArray s 0 0 (qA E)) σ a4.2 134 [(0, .ref (qAd E 50)), (1, .int x1), (2, .int a4.1)] [.int v11, .int a4.1, .ref (qAd E 50)] := by
              intro v11 hf
              replace hf := (congrFun (ek_j10) v11).symm.trans hf
              obtain ⟨q12, h_q12, hf⟩ := bd_e hf
              refine y_cVv C (kX5_choose_50 l E σ a4.2 a4.1 v11 _ h_q12) vi_X5_choose ml_X5_255 ⟨5, _, o50, rfl, rfl⟩ rfl ⟨rfl, rfl, Nat.le_of_ble_eq_true rfl, Nat.le_of_ble_eq_true rfl⟩ dX5_noPlan_134 rfl (Nat.le_of_ble_eq_true rfl) ?_
              refine y_iinc C dX5_noPlan_137 2 rfl (Nat.le_of_ble_eq_true rfl) (k2 := 1) (by decide) rfl (lv' := [(2, .int (a4.1 + (1 : Int32))), (0, .ref (qAd E 50)), (1, .int x1)]) rfl ?_
              refine y_goto C 63 dX5_noPlan_140 (by decide) ?_
              refine y_sub [0, 1, 2] rfl ?_
              exact ih_r5 ((a4.1 + (1 : Int32)), q12) hf
            refine y_icmp_ne C 131 dX5_noPlan_124 (by decide) hf (fun hf => ?_) (fun hf => ?_)
            · refine y_iload_n C dX5_noPlan_131 rfl 3 rfl ?_
              refine y_iconst C (v := 1) dX5_noPlan_132 (by decide) ?_
              refine y_iadd C dX5_noPlan_133 ?_
              refine y_sub [0, 1, 2] rfl ?_
              exact h_j10 (v8 + (1 : Int32)) hf
            · refine y_iconst C (v := 0) dX5_noPlan_127 (by decide) ?_
              refine y_goto C 134 dX5_noPlan_128 (by decide) ?_
              refine y_sub [0, 1, 2] rfl ?_
              exact h_j10 (0 : Int32) hf
          refine y_icmp_eq C 119 dX5_noPlan_88 (by decide) hf (fun hf => ?_) (fun hf => ?_)
          · refine y_sub [2, 3, 1, 0] rfl ?_
            exact h_j9 () hf
          · refine y_aload_n C dX5_noPlan_91 rfl 2 rfl ?_
            refine y_iload_n C dX5_noPlan_92 rfl 0 rfl ?_
            refine y_cVi C (kX5_isSitter_50 l E σ a4.2 v8 _ rfl) vi_X5_isSitter ml_X5_198 ⟨5, _, o50, rfl, rfl⟩ rfl ⟨rfl, rfl, Nat.le_of_ble_eq_true rfl, Nat.le_of_ble_eq_true rfl⟩ dX5_noPlan_93 rfl (Nat.le_of_ble_eq_true rfl) ?_
            obtain ⟨j13, ek_j13, hf⟩ := lt_e hf
            have h_j13 : ∀ (_ : Unit), j13 () = some q → Y E p l e rm_X5_noPlan_50 s m ([.ref (qAd E 50), .int x1] : List Value).toArray below meth c 4 (MQ below (PI E q.1 σ q.2) ([.ref (qAd E 50), .int x1] : List Value).toArray s 0 0 (qA E)) σ a4.2 113 [(0, .ref (qAd E 50))] [] := by
              intro _ hf
              replace hf := (congrFun (ek_j13) ()).symm.trans hf
              refine y_aload_n C dX5_noPlan_113 rfl 0 rfl ?_
              refine y_iconst C (v := 3) dX5_noPlan_114 (by decide) ?_
              obtain ⟨q14, h_q14, hf⟩ := bd_e hf
              refine y_cVi C (kX5_find_50 l E σ a4.2 (3 : Int32) _ h_q14) vi_X5_find ml_X5_87 ⟨5, _, o50, rfl, rfl⟩ rfl ⟨rfl, rfl, Nat.le_of_ble_eq_true rfl, Nat.le_of_ble_eq_true rfl⟩ dX5_noPlan_115 rfl (Nat.le_of_ble_eq_true rfl) ?_
              exact y_iret C (rs1 hf) rfl (rs2 hf) dX5_noPlan_118
            refine y_if_eq C 113 dX5_noPlan_96 (by decide) hf (fun hf => ?_) (fun hf => ?_)
            · refine y_sub [2] rfl ?_
              exact h_j13 () hf
            · refine y_aload_n C dX5_noPlan_99 rfl 2 rfl ?_
              refine y_iload_n C dX5_noPlan_100 rfl 0 rfl ?_
              refine y_aload_n C dX5_noPlan_101 rfl 2 rfl ?_
              refine g50_planCalled C fl_X5_59 dX5_noPlan_102 ?_
              refine y_iload_n C dX5_noPlan_105 rfl 1 rfl ?_
              obtain ⟨hi15, hf⟩ := ck_e hf
              refine y_ialdR C a66 (j := a4.1.toNatClampNeg) rfl hi15 dX5_noPlan_106 ?_
              obtain ⟨q16, h_q16, hf⟩ := bd_e hf
              refine y_cVi C (kX5_mayCall_50 l E σ a4.2 v8 (gM a4.2 66 a4.1.toNatClampNeg) _ h_q16) vi_X5_mayCall ml_X5_195 ⟨5, _, o50, rfl, rfl⟩ rfl ⟨rfl, rfl, Nat.le_of_ble_eq_true rfl, Nat.le_of_ble_eq_true rfl⟩ dX5_noPlan_107 rfl (Nat.le_of_ble_eq_true rfl) ?_
              refine y_if_ne C 119 dX5_noPlan_110 (by decide) hf (fun hf => ?_) (fun hf => ?_)
              · refine y_sub [2, 3, 1, 0] rfl ?_
                exact h_j9 () hf
              · refine y_sub [2] rfl ?_
                exact h_j13 () hf
      · refine y_aload_n C dX5_noPlan_45 rfl 0 rfl ?_
        refine y_iconst C (v := 5) dX5_noPlan_46 (by decide) ?_
        obtain ⟨q17, h_q17, hf⟩ := bd_e hf
        refine y_cVi C (kX5_find_50 l E σ τ (5 : Int32) _ h_q17) vi_X5_find ml_X5_87 ⟨5, _, o50, rfl, rfl⟩ rfl ⟨rfl, rfl, Nat.le_of_ble_eq_true rfl, Nat.le_of_ble_eq_true rfl⟩ dX5_noPlan_47 rfl (Nat.le_of_ble_eq_true rfl) ?_
        exact y_iret C (rs1 hf) rfl (rs2 hf) dX5_noPlan_50
    · refine y_aload_n C dX5_noPlan_19 rfl 0 rfl ?_
      refine y_iconst C (v := 1) dX5_noPlan_20 (by decide) ?_
      obtain ⟨q18, h_q18, hf⟩ := bd_e hf
      refine y_cVi C (kX5_find_50 l E σ τ (1 : Int32) _ h_q18) vi_X5_find ml_X5_87 ⟨5, _, o50, rfl, rfl⟩ rfl ⟨rfl, rfl, Nat.le_of_ble_eq_true rfl, Nat.le_of_ble_eq_true rfl⟩ dX5_noPlan_21 rfl (Nat.le_of_ble_eq_true rfl) ?_
      exact y_iret C (rs1 hf) rfl (rs2 hf) dX5_noPlan_24
  · refine y_bipush C (v := -4) dX5_noPlan_7 (by decide) ?_
    exact y_iret C (rs1 hf) rfl (rs2 hf) dX5_noPlan_9
noncomputable def fX5_play_50 (x1 : Int32) (τ : QS) : Option (Int32 × QS) :=
    (if (fX5_isRow x1) = 0 then some ((-1 : Int32), τ) else Option.bind (fX5_noPlan_50 x1 τ) (fun (q1 : Int32 × QS) => (if q1.1 = 0 then ck_ (inb x1 6) (ck_ (inb (gM q1.2 56 x1.toNatClampNeg) 7) (lt_ (pI q1.2 2 (gM q1.2 64 ((gM q1.2 56 x1.toNatClampNeg).toNatClampNeg))) (fun (S4 : QS) => ck_ (inb x1 6) (ck_ (inb (gM S4 56 x1.toNatClampNeg) 7) (some ((gM S4 65 ((gM S4 56 x1.toNatClampNeg).toNatClampNeg)), S4)))))) else some (q1.1, q1.2))))
def rm_X5_play_50 : Room := { frames := 7, cells := 0, slots := 0, locals := 163 }
set_option maxRecDepth 100000 in
set_option maxHeartbeats 4000000 in
theorem kX5_play_50 (l : Launch) (E : QE) (σ τ : QS) (x1 : Int32) (q : Int32 × QS) (hf : fX5_play_50 x1 τ = some q) : KQ l yX5_play cX5_play 3 (some .int) rm_X5_play_50 E [.ref (qAd E 50), .int x1] σ τ (PI E q.1 σ q.2) := by
  unfold fX5_play_50 at hf
  refine y_met rfl (Nat.le_of_ble_eq_true rfl) rfl (fun p e s m below meth c C => ?_)
  refine y_iload_n C dX5_play_0 rfl 1 rfl ?_
  refine y_cSi C (kX5_isRow l E σ τ x1 _ rfl) si_X5_isRow ml_X5_83 rfl ⟨rfl, rfl, Nat.le_of_ble_eq_true rfl, Nat.le_of_ble_eq_true rfl⟩ dX5_play_1 rfl (Nat.le_of_ble_eq_true rfl) ?_
  refine y_if_ne C 9 dX5_play_4 (by decide) hf (fun hf => ?_) (fun hf => ?_)
  · refine y_aload_n C dX5_play_9 rfl 0 rfl ?_
    refine y_iload_n C dX5_play_10 rfl 1 rfl ?_
    obtain ⟨q1, h_q1, hf⟩ := bd_e hf
    refine y_cVi C (kX5_noPlan_50 l E σ τ x1 _ h_q1) vi_X5_noPlan ml_X5_262 ⟨5, _, o50, rfl, rfl⟩ rfl ⟨rfl, rfl, Nat.le_of_ble_eq_true rfl, Nat.le_of_ble_eq_true rfl⟩ dX5_play_11 rfl (Nat.le_of_ble_eq_true rfl) ?_
    refine y_istore_n C dX5_play_14 rfl (Nat.le_of_ble_eq_true rfl) rfl (lv' := [(2, .int q1.1), (0, .ref (qAd E 50)), (1, .int x1)]) rfl ?_
    refine y_iload_n C dX5_play_15 rfl 0 rfl ?_
    refine y_if_eq C 21 dX5_play_16 (by decide) hf (fun hf => ?_) (fun hf => ?_)
    · refine y_aload_n C dX5_play_21 rfl 1 rfl ?_
      refine y_aload_n C dX5_play_22 rfl 1 rfl ?_
      refine g50_planApplause C fl_X5_53 dX5_play_23 ?_
      refine y_aload_n C dX5_play_26 rfl 1 rfl ?_
      refine g50_sizes C fl_X5_25 dX5_play_27 ?_
      refine y_iload_n C dX5_play_30 rfl 2 rfl ?_
      obtain ⟨hi2, hf⟩ := ck_e hf
      refine y_ialdR C a56 (j := x1.toNatClampNeg) rfl hi2 dX5_play_31 ?_
      obtain ⟨hi3, hf⟩ := ck_e hf
      refine y_ialdR C a64 (j := (gM q1.2 56 x1.toNatClampNeg).toNatClampNeg) rfl hi3 dX5_play_32 ?_
      obtain ⟨S4, e_S4, hf⟩ := lt_e hf
      refine p50_asked C fl_X5_72 e_S4 dX5_play_33 ?_
      refine y_aload_n C dX5_play_36 rfl 1 rfl ?_
      refine g50_planCarried C fl_X5_56 dX5_play_37 ?_
      refine y_aload_n C dX5_play_40 rfl 1 rfl ?_
      refine g50_sizes C fl_X5_25 dX5_play_41 ?_
      refine y_iload_n C dX5_play_44 rfl 2 rfl ?_
      obtain ⟨hi5, hf⟩ := ck_e hf
      refine y_ialdR C a56 (j := x1.toNatClampNeg) rfl hi5 dX5_play_45 ?_
      obtain ⟨hi6, hf⟩ := ck_e hf
      refine y_ialdR C a65 (j := (gM S4 56 x1.toNatClampNeg).toNatClampNeg) rfl hi6 dX5_play_46 ?_
      exact y_iret C (rs1 hf) rfl (rs2 hf) dX5_play_47
    · refine y_iload_n C dX5_play_19 rfl 0 rfl ?_
      exact y_iret C (rs1 hf) rfl (rs2 hf) dX5_play_20
  · refine y_iconst C (v := -1) dX5_play_7 (by decide) ?_
    exact y_iret C (rs1 hf) rfl (rs2 hf) dX5_play_8
noncomputable def fX2_freeCount_7 (x1 : Int32) (σ : QS) : Int32 :=
    (fJ6_bitCount_0f7a4 ((gI σ 19) &&& (x1 ^^^ (-1 : Int32))))
def rm_X2_freeCount_7 : Room := { frames := 1, cells := 0, slots := 0, locals := 20 }
set_option maxRecDepth 100000 in
set_option maxHeartbeats 4000000 in
theorem kX2_freeCount_7 (l : Launch) (E : QE) (σ τ : QS) (x1 : Int32) (q : Int32) (hf : fX2_freeCount_7 x1 σ = q) : KQ l yX2_freeCount cX2_freeCount 2 (some .int) rm_X2_freeCount_7 E [.ref (qAd E 7), .int x1] σ τ (PI E q σ τ) := by
  unfold fX2_freeCount_7 at hf
  refine y_met rfl (Nat.le_of_ble_eq_true rfl) rfl (fun p e s m below meth c C => ?_)
  refine y_aload_n C dX2_freeCount_0 rfl 0 rfl ?_
  refine g7_allowed C fl_X2_34 dX2_freeCount_1 ?_
  refine y_iload_n C dX2_freeCount_4 rfl 1 rfl ?_
  refine y_iconst C (v := -1) dX2_freeCount_5 (by decide) ?_
  refine y_ixor C dX2_freeCount_6 ?_
  refine y_iand C dX2_freeCount_7 ?_
  refine y_cSi C (kJ6_bitCount_0f7a4 l E σ τ ((gI σ 19) &&& (x1 ^^^ (-1 : Int32))) _ rfl) si_J6_bitCount_0f7a4 ml_X2_42 rfl ⟨rfl, rfl, Nat.le_of_ble_eq_true rfl, Nat.le_of_ble_eq_true rfl⟩ dX2_freeCount_8 rfl (Nat.le_of_ble_eq_true rfl) ?_
  exact y_iret C hf rfl rfl dX2_freeCount_11
noncomputable def fJ9_min_7cf53 (x0 : Int32) (x1 : Int32) : Int32 :=
    (if x1 < x0 then x1 else x0)
def rm_J9_min_7cf53 : Room := { frames := 0, cells := 0, slots := 0, locals := 0 }
set_option maxRecDepth 100000 in
set_option maxHeartbeats 4000000 in
theorem kJ9_min_7cf53 (l : Launch) (E : QE) (σ τ : QS) (x0 : Int32) (x1 : Int32) (q : Int32) (hf : fJ9_min_7cf53 x0 x1 = q) : KQ l yJ9_min_7cf53 cJ9_min_7cf53 2 (some .int) rm_J9_min_7cf53 E [.int x0, .int x1] σ τ (PI E q σ τ) := by
  unfold fJ9_min_7cf53 at hf
  refine y_metF pl_J9_min_7cf53 (Nat.le_of_ble_eq_true rfl) rfl (fun p e s m below meth c C => ?_)
  refine y_iload_n C dJ9_min_7cf53_0 rfl 0 rfl ?_
  refine y_iload_n C dJ9_min_7cf53_1 rfl 1 rfl ?_
  refine y_icmp_gt C 9 dJ9_min_7cf53_2 (by decide) hf (fun hf => ?_) (fun hf => ?_)
  · refine y_iload_n C dJ9_min_7cf53_9 rfl 1 rfl ?_
    exact y_iret C hf rfl rfl dJ9_min_7cf53_10
  · refine y_iload_n C dJ9_min_7cf53_5 rfl 0 rfl ?_
    refine y_goto C 10 dJ9_min_7cf53_6 (by decide) ?_
    exact y_iret C hf rfl rfl dJ9_min_7cf53_10
noncomputable def fX2_hope_7 (x1 : Int32) (x2 : Int32) (σ : QS) : Int32 :=
    (fJ9_min_7cf53 ((gI σ 8) - x1) (fX2_freeCount_7 x2 σ))
def rm_X2_hope_7 : Room := { frames := 2, cells := 0, slots := 0, locals := 41 }
set_option maxRecDepth 100000 in
set_option maxHeartbeats 4000000 in
theorem kX2_hope_7 (l : Launch) (E : QE) (σ τ : QS) (x1 : Int32) (x2 : Int32) (q : Int32) (hf : fX2_hope_7 x1 x2 σ = q) : KQ l yX2_hope cX2_hope 3 (some .int) rm_X2_hope_7 E [.ref (qAd E 7), .int x1, .int x2] σ τ (PI E q σ τ) := by
  unfold fX2_hope_7 at hf
  refine y_met rfl (Nat.le_of_ble_eq_true rfl) rfl (fun p e s m below meth c C => ?_)
  refine y_aload_n C dX2_hope_0 rfl 0 rfl ?_
  refine g7_script C fl_X2_33 dX2_hope_1 ?_
  refine gN5_sceneCount C fn_X2_48 dX2_hope_4 ?_
  refine y_iload_n C dX2_hope_7 rfl 1 rfl ?_
  refine y_isub C dX2_hope_8 ?_
  refine y_aload_n C dX2_hope_9 rfl 0 rfl ?_
  refine y_iload_n C dX2_hope_10 rfl 2 rfl ?_
  refine y_cVi C (kX2_freeCount_7 l E σ τ x2 _ rfl) vi_X2_freeCount ml_X2_53 ⟨2, _, o7, rfl, rfl⟩ rfl ⟨rfl, rfl, Nat.le_of_ble_eq_true rfl, Nat.le_of_ble_eq_true rfl⟩ dX2_hope_11 rfl (Nat.le_of_ble_eq_true rfl) ?_
  refine y_cSi C (kJ9_min_7cf53 l E σ τ ((gI σ 8) - x1) (fX2_freeCount_7 x2 σ) _ rfl) si_J9_min_7cf53 ml_X2_56 rfl ⟨rfl, rfl, Nat.le_of_ble_eq_true rfl, Nat.le_of_ble_eq_true rfl⟩ dX2_hope_14 rfl (Nat.le_of_ble_eq_true rfl) ?_
  exact y_iret C hf rfl rfl dX2_hope_17
noncomputable def fX2_isFree_7 (x1 : Int32) (x2 : Int32) (σ : QS) : Int32 :=
    (fX4_isIn ((gI σ 19) &&& (x2 ^^^ (-1 : Int32))) x1)
def rm_X2_isFree_7 : Room := { frames := 1, cells := 0, slots := 0, locals := 21 }
set_option maxRecDepth 100000 in
set_option maxHeartbeats 4000000 in
theorem kX2_isFree_7 (l : Launch) (E : QE) (σ τ : QS) (x1 : Int32) (x2 : Int32) (q : Int32) (hf : fX2_isFree_7 x1 x2 σ = q) : KQ l yX2_isFree cX2_isFree 3 (some .boolean) rm_X2_isFree_7 E [.ref (qAd E 7), .int x1, .int x2] σ τ (PI E q σ τ) := by
  unfold fX2_isFree_7 at hf
  refine y_met rfl (Nat.le_of_ble_eq_true rfl) rfl (fun p e s m below meth c C => ?_)
  refine y_aload_n C dX2_isFree_0 rfl 0 rfl ?_
  refine g7_allowed C fl_X2_34 dX2_isFree_1 ?_
  refine y_iload_n C dX2_isFree_4 rfl 2 rfl ?_
  refine y_iconst C (v := -1) dX2_isFree_5 (by decide) ?_
  refine y_ixor C dX2_isFree_6 ?_
  refine y_iand C dX2_isFree_7 ?_
  refine y_iload_n C dX2_isFree_8 rfl 1 rfl ?_
  refine y_cNi C (kX4_isIn l E σ τ ((gI σ 19) &&& (x2 ^^^ (-1 : Int32))) x1 _ rfl) si_X4_isIn mn_X2_38 rfl ⟨rfl, rfl, Nat.le_of_ble_eq_true rfl, Nat.le_of_ble_eq_true rfl⟩ dX2_isFree_9 rfl (Nat.le_of_ble_eq_true rfl) ?_
  exact y_zret C (zX4_isIn ((gI σ 19) &&& (x2 ^^^ (-1 : Int32))) x1) hf rfl rfl dX2_isFree_12
theorem zX2_isFree_7 (x1 : Int32) (x2 : Int32) (σ : QS) : zOk (fX2_isFree_7 x1 x2 σ) := by
  unfold fX2_isFree_7
  try simp only [lt_]
  (repeat' split) <;> first | exact zOk0 | exact zOk1 | exact zX4_isIn ..
noncomputable def fX2_seekMost_7 : Nat → Int32 → Int32 → Int32 → Int32 → Int32 → QS → Option (QS)
  | 0, _, _, _, _, _, _ => none
  | d + 1, x1, x2, x3, x4, x5, σ =>
    lt_ (pI σ 20 (fJ9_max_7cf53 (gI σ 20) x5)) (fun (S1 : QS) => (if (gI S1 8) ≤ x1 then some S1 else (if (gI S1 20) < (x5 + (fX2_hope_7 x1 x2 S1)) then lp_ (fun (r3 : Int32 × QS → Option (QS)) (a2 : Int32 × QS) => (if (gI a2.2 9) ≤ a2.1 then Option.bind (fX2_seekMost_7 d (x1 + (1 : Int32)) x2 x3 x4 x5 a2.2) (fun (q4 : QS) => some q4) else lt_ (fun (v6 : Int32) => (if v6 < 0 then r3 ((a2.1 + (1 : Int32)), a2.2) else (if x4 < v6 then r3 ((a2.1 + (1 : Int32)), a2.2) else Option.bind (fX2_seekMost_7 d (x1 + (1 : Int32)) (x2 ||| ((1 : Int32) <<< (a2.1 &&& 31))) (fX2_clappingBehind x3 v6 x4) (x4 - v6) (x5 + (1 : Int32)) a2.2) (fun (q7 : QS) => r3 ((a2.1 + (1 : Int32)), q7))))) (fun (j5 : Int32 → Option (QS)) => (if (fX2_isFree_7 a2.1 x2 a2.2) = 0 then j5 (-9 : Int32) else Option.bind (fX1_lacking_5 a2.1 x1 x2 x3 a2.2) (fun (q8 : Int32) => j5 q8))))) FV ((0 : Int32), S1) else some S1)))
def rm_X2_seekMost_7 (d : Nat) : Room := { frames := 4 + d, cells := 0, slots := 0, locals := 94 + d * 27 }
theorem rk_X2_seekMost_7_self (d : Nat) : rmOk (rm_X2_seekMost_7 d) (rm_X2_seekMost_7 (d + 1)) 8 := by
  refine ⟨rfl, rfl, ?_, ?_⟩ <;> simp only [rm_X2_seekMost_7] <;> omega
set_option maxRecDepth 100000 in
set_option maxHeartbeats 4000000 in
theorem kX2_seekMost_7 (l : Launch) (E : QE) : ∀ (d : Nat) (σ τ : QS) (x1 : Int32) (x2 : Int32) (x3 : Int32) (x4 : Int32) (x5 : Int32) (q : QS) (hf : fX2_seekMost_7 d x1 x2 x3 x4 x5 σ = some q), KQ l yX2_seekMost cX2_seekMost 8 none (rm_X2_seekMost_7 d) E [.ref (qAd E 7), .int x1, .int x2, .int x3, .int x4, .int x5] σ τ (PV E q τ) := by
  intro d
  induction d with
  | zero =>
    intro σ τ x1 x2 x3 x4 x5 q hf
    cases hf
  | succ d ihd =>
    intro σ τ x1 x2 x3 x4 x5 q hf
    rw [fX2_seekMost_7] at hf
    refine y_met rfl (Nat.le_of_ble_eq_true rfl) rfl (fun p e s m below meth c C => ?_)
    refine y_aload_n C dX2_seekMost_0 rfl 0 rfl ?_
    refine y_aload_n C dX2_seekMost_1 rfl 0 rfl ?_
    refine g7_most C fl_X2_96 dX2_seekMost_2 ?_
    refine y_iload C dX2_seekMost_5 5 rfl ?_
    refine y_cSi C (kJ9_max_7cf53 l E σ τ (gI σ 20) x5 _ rfl) si_J9_max_7cf53 ml_X2_103 rfl (by refine ⟨rfl, rfl, ?_, ?_⟩ <;> simp only [rm_J9_max_7cf53, rm_X2_seekMost_7] <;> omega) dX2_seekMost_7 rfl (Nat.le_of_ble_eq_true rfl) ?_
    obtain ⟨S1, e_S1, hf⟩ := lt_e hf
    refine p7_most C fl_X2_96 e_S1 dX2_seekMost_10 ?_
    refine y_iload_n C dX2_seekMost_13 rfl 1 rfl ?_
    refine y_aload_n C dX2_seekMost_14 rfl 0 rfl ?_
    refine g7_script C fl_X2_33 dX2_seekMost_15 ?_
    refine gN5_sceneCount C fn_X2_48 dX2_seekMost_18 ?_
    refine y_icmp_ge C 40 dX2_seekMost_21 (by decide) hf (fun hf => ?_) (fun hf => ?_)
    · exact y_vret C (Option.some.inj hf) rfl dX2_seekMost_40
    · refine y_iload C dX2_seekMost_24 5 rfl ?_
      refine y_aload_n C dX2_seekMost_26 rfl 0 rfl ?_
      refine y_iload_n C dX2_seekMost_27 rfl 1 rfl ?_
      refine y_iload_n C dX2_seekMost_28 rfl 2 rfl ?_
      refine y_cVi C (kX2_hope_7 l E S1 τ x1 x2 _ rfl) vi_X2_hope ml_X2_106 ⟨2, _, o7, rfl, rfl⟩ rfl (by refine ⟨rfl, rfl, ?_, ?_⟩ <;> simp only [rm_X2_hope_7, rm_X2_seekMost_7] <;> omega) dX2_seekMost_29 rfl (Nat.le_of_ble_eq_true rfl) ?_
      refine y_iadd C dX2_seekMost_32 ?_
      refine y_aload_n C dX2_seekMost_33 rfl 0 rfl ?_
      refine g7_most C fl_X2_96 dX2_seekMost_34 ?_
      refine y_icmp_gt C 41 dX2_seekMost_37 (by decide) hf (fun hf => ?_) (fun hf => ?_)
      · refine y_iconst C (v := 0) dX2_seekMost_41 (by decide) ?_
        refine y_istore C dX2_seekMost_42 (Nat.le_of_ble_eq_true rfl) rfl (lv' := [(6, .int (0 : Int32)), (0, .ref (qAd E 7)), (1, .int x1), (2, .int x2), (3, .int x3), (4, .int x4), (5, .int x5)]) rfl ?_
        refine y_sub [0, 1, 2, 3, 4, 5, 6] rfl ?_
        refine lp_ind (P := fun a2 : Int32 × QS => Y E p l e (rm_X2_seekMost_7 (d + 1)) s m ([.ref (qAd E 7), .int x1, .int x2, .int x3, .int x4, .int x5] : List Value).toArray below meth c 8 (MQ below (PV E q τ) ([.ref (qAd E 7), .int x1, .int x2, .int x3, .int x4, .int x5] : List Value).toArray s 0 0 (qA E)) a2.2 τ 44 [(6, .int a2.1), (0, .ref (qAd E 7)), (1, .int x1), (2, .int x2), (3, .int x3), (4, .int x4), (5, .int x5)] []) (fun r3 a2 ih_r3 hf => ?_) _ _ hf
        refine y_iload C dX2_seekMost_44 0 rfl ?_
        refine y_aload_n C dX2_seekMost_46 rfl 1 rfl ?_
        refine g7_script C fl_X2_33 dX2_seekMost_47 ?_
        refine gN5_sitterCount C fn_X2_109 dX2_seekMost_50 ?_
        refine y_icmp_ge C 133 dX2_seekMost_53 (by decide) hf (fun hf => ?_) (fun hf => ?_)
        · refine y_aload_n C dX2_seekMost_133 rfl 1 rfl ?_
          refine y_iload_n C dX2_seekMost_134 rfl 2 rfl ?_
          refine y_iconst C (v := 1) dX2_seekMost_135 (by decide) ?_
          refine y_iadd C dX2_seekMost_136 ?_
          refine y_iload_n C dX2_seekMost_137 rfl 3 rfl ?_
          refine y_iload_n C dX2_seekMost_138 rfl 4 rfl ?_
          refine y_iload C dX2_seekMost_139 5 rfl ?_
          refine y_iload C dX2_seekMost_141 6 rfl ?_
          obtain ⟨q4, h_q4, hf⟩ := bd_e hf
          refine y_cVv C (ihd a2.2 τ (x1 + (1 : Int32)) x2 x3 x4 x5 _ h_q4) vi_X2_seekMost ml_X2_99 ⟨2, _, o7, rfl, rfl⟩ rfl (rk_X2_seekMost_7_self d) dX2_seekMost_143 rfl (Nat.le_of_ble_eq_true rfl) ?_
          exact y_vret C (Option.some.inj hf) rfl dX2_seekMost_146
        · refine y_aload_n C dX2_seekMost_56 rfl 1 rfl ?_
          refine y_iload C dX2_seekMost_57 0 rfl ?_
          refine y_iload_n C dX2_seekMost_59 rfl 3 rfl ?_
          refine y_cVi C (kX2_isFree_7 l E a2.2 τ a2.1 x2 _ rfl) vi_X2_isFree ml_X2_112 ⟨2, _, o7, rfl, rfl⟩ rfl (by refine ⟨rfl, rfl, ?_, ?_⟩ <;> simp only [rm_X2_isFree_7, rm_X2_seekMost_7] <;> omega) dX2_seekMost_60 rfl (Nat.le_of_ble_eq_true rfl) ?_
          obtain ⟨j5, ek_j5, hf⟩ := lt_e hf
          have h_j5 : ∀ (v6 : Int32), j5 v6 = some q → Y E p l e (rm_X2_seekMost_7 (d + 1)) s m ([.ref (qAd E 7), .int x1, .int x2, .int x3, .int x4, .int x5] : List Value).toArray below meth c 8 (MQ below (PV E q τ) ([.ref (qAd E 7), .int x1, .int x2, .int x3, .int x4, .int x5] : List Value).toArray s 0 0 (qA E)) a2.2 τ 83 [(0, .ref (qAd E 7)), (1, .int x1), (2, .int x2), (3, .int x3), (4, .int x4), (5, .int x5), (6, .int a2.1)] [.int v6] := by
            intro v6 hf
            replace hf := (congrFun (ek_j5) v6).symm.trans hf
            refine y_istore C dX2_seekMost_83 (Nat.le_of_ble_eq_true rfl) rfl (lv' := [(7, .int v6), (0, .ref (qAd E 7)), (1, .int x1), (2, .int x2), (3, .int x3), (4, .int x4), (5, .int x5), (6, .int a2.1)]) rfl ?_
            refine y_iload C dX2_seekMost_85 0 rfl ?_
            refine y_if_lt C 127 dX2_seekMost_87 (by decide) hf (fun hf => ?_) (fun hf => ?_)
            · refine y_iinc C dX2_seekMost_127 7 rfl (Nat.le_of_ble_eq_true rfl) (k2 := 1) (by decide) rfl (lv' := [(6, .int (a2.1 + (1 : Int32))), (7, .int v6), (0, .ref (qAd E 7)), (1, .int x1), (2, .int x2), (3, .int x3), (4, .int x4), (5, .int x5)]) rfl ?_
              refine y_goto C 44 dX2_seekMost_130 (by decide) ?_
              refine y_sub [0, 2, 3, 4, 5, 6, 7] rfl ?_
              exact ih_r3 ((a2.1 + (1 : Int32)), a2.2) hf
            · refine y_iload C dX2_seekMost_90 0 rfl ?_
              refine y_iload C dX2_seekMost_92 5 rfl ?_
              refine y_icmp_gt C 127 dX2_seekMost_94 (by decide) hf (fun hf => ?_) (fun hf => ?_)
              · refine y_iinc C dX2_seekMost_127 7 rfl (Nat.le_of_ble_eq_true rfl) (k2 := 1) (by decide) rfl (lv' := [(6, .int (a2.1 + (1 : Int32))), (7, .int v6), (0, .ref (qAd E 7)), (1, .int x1), (2, .int x2), (3, .int x3), (4, .int x4), (5, .int x5)]) rfl ?_
                refine y_goto C 44 dX2_seekMost_130 (by decide) ?_
                refine y_sub [0, 2, 3, 4, 5, 6, 7] rfl ?_
                exact ih_r3 ((a2.1 + (1 : Int32)), a2.2) hf
              · refine y_aload_n C dX2_seekMost_97 rfl 1 rfl ?_
                refine y_iload_n C dX2_seekMost_98 rfl 2 rfl ?_
                refine y_iconst C (v := 1) dX2_seekMost_99 (by decide) ?_
                refine y_iadd C dX2_seekMost_100 ?_
                refine y_iload_n C dX2_seekMost_101 rfl 3 rfl ?_
                refine y_iconst C (v := 1) dX2_seekMost_102 (by decide) ?_
                refine y_iload C dX2_seekMost_103 7 rfl ?_
                refine y_ishl C dX2_seekMost_105 ?_
                refine y_ior C dX2_seekMost_106 ?_
                refine y_iload_n C dX2_seekMost_107 rfl 4 rfl ?_
                refine y_iload C dX2_seekMost_108 0 rfl ?_
                refine y_iload C dX2_seekMost_110 5 rfl ?_
                refine y_cSi C (kX2_clappingBehind l E a2.2 τ x3 v6 x4 _ rfl) si_X2_clappingBehind ml_X2_89 rfl (by refine ⟨rfl, rfl, ?_, ?_⟩ <;> simp only [rm_X2_clappingBehind, rm_X2_seekMost_7] <;> omega) dX2_seekMost_112 rfl (Nat.le_of_ble_eq_true rfl) ?_
                refine y_iload C dX2_seekMost_115 5 rfl ?_
                refine y_iload C dX2_seekMost_117 0 rfl ?_
                refine y_isub C dX2_seekMost_119 ?_
                refine y_iload C dX2_seekMost_120 6 rfl ?_
                refine y_iconst C (v := 1) dX2_seekMost_122 (by decide) ?_
                refine y_iadd C dX2_seekMost_123 ?_
                obtain ⟨q7, h_q7, hf⟩ := bd_e hf
                refine y_cVv C (ihd a2.2 τ (x1 + (1 : Int32)) (x2 ||| ((1 : Int32) <<< (a2.1 &&& 31))) (fX2_clappingBehind x3 v6 x4) (x4 - v6) (x5 + (1 : Int32)) _ h_q7) vi_X2_seekMost ml_X2_99 ⟨2, _, o7, rfl, rfl⟩ rfl (rk_X2_seekMost_7_self d) dX2_seekMost_124 rfl (Nat.le_of_ble_eq_true rfl) ?_
                refine y_iinc C dX2_seekMost_127 7 rfl (Nat.le_of_ble_eq_true rfl) (k2 := 1) (by decide) rfl (lv' := [(6, .int (a2.1 + (1 : Int32))), (7, .int v6), (0, .ref (qAd E 7)), (1, .int x1), (2, .int x2), (3, .int x3), (4, .int x4), (5, .int x5)]) rfl ?_
                refine y_goto C 44 dX2_seekMost_130 (by decide) ?_
                refine y_sub [0, 2, 3, 4, 5, 6, 7] rfl ?_
                exact ih_r3 ((a2.1 + (1 : Int32)), q7) hf
          refine y_if_eq C 81 dX2_seekMost_63 (by decide) hf (fun hf => ?_) (fun hf => ?_)
          · refine y_bipush C (v := -9) dX2_seekMost_81 (by decide) ?_
            refine y_sub [1, 2, 3, 4, 5, 6, 0] rfl ?_
            exact h_j5 (-9 : Int32) hf
          · refine y_aload_n C dX2_seekMost_66 rfl 1 rfl ?_
            refine g7_script C fl_X2_33 dX2_seekMost_67 ?_
            refine y_iload C dX2_seekMost_70 0 rfl ?_
            refine y_iload_n C dX2_seekMost_72 rfl 2 rfl ?_
            refine y_iload_n C dX2_seekMost_73 rfl 3 rfl ?_
            refine y_iload_n C dX2_seekMost_74 rfl 4 rfl ?_
            obtain ⟨q8, h_q8, hf⟩ := bd_e hf
            refine y_cVi C (kX1_lacking_5 l E a2.2 τ a2.1 x1 x2 x3 _ h_q8) vi_X1_lacking ml_X2_85 ⟨1, _, o5, rfl, rfl⟩ rfl (by refine ⟨rfl, rfl, ?_, ?_⟩ <;> simp only [rm_X1_lacking_5, rm_X2_seekMost_7] <;> omega) dX2_seekMost_75 rfl (Nat.le_of_ble_eq_true rfl) ?_
            refine y_goto C 83 dX2_seekMost_78 (by decide) ?_
            refine y_sub [1, 2, 3, 4, 5, 6, 0] rfl ?_
            exact h_j5 q8 hf
      · exact y_vret C (Option.some.inj hf) rfl dX2_seekMost_40
noncomputable def fX2_findMost_7 (x1 : Int32) (x2 : Int32) (σ : QS) : Option (Int32 × QS) :=
    lt_ (pI σ 19 x1) (fun (S1 : QS) => lt_ (pI S1 20 x2) (fun (S2 : QS) => Option.bind (fX2_seekMost_7 DP (gI S2 13) (gI S2 14) (gI S2 17) (gI S2 15) (0 : Int32) S2) (fun (q3 : QS) => some ((gI q3 20), q3))))
def rm_X2_findMost_7 : Room := { frames := 13, cells := 0, slots := 0, locals := 337 }
set_option maxRecDepth 100000 in
set_option maxHeartbeats 4000000 in
theorem kX2_findMost_7 (l : Launch) (E : QE) (σ τ : QS) (x1 : Int32) (x2 : Int32) (q : Int32 × QS) (hf : fX2_findMost_7 x1 x2 σ = some q) : KQ l yX2_findMost cX2_findMost 3 (some .int) rm_X2_findMost_7 E [.ref (qAd E 7), .int x1, .int x2] σ τ (PI E q.1 q.2 τ) := by
  unfold fX2_findMost_7 at hf
  refine y_met rfl (Nat.le_of_ble_eq_true rfl) rfl (fun p e s m below meth c C => ?_)
  refine y_aload_n C dX2_findMost_0 rfl 0 rfl ?_
  refine y_iload_n C dX2_findMost_1 rfl 1 rfl ?_
  obtain ⟨S1, e_S1, hf⟩ := lt_e hf
  refine p7_allowed C fl_X2_34 e_S1 dX2_findMost_2 ?_
  refine y_aload_n C dX2_findMost_5 rfl 0 rfl ?_
  refine y_iload_n C dX2_findMost_6 rfl 2 rfl ?_
  obtain ⟨S2, e_S2, hf⟩ := lt_e hf
  refine p7_most C fl_X2_96 e_S2 dX2_findMost_7 ?_
  refine y_aload_n C dX2_findMost_10 rfl 0 rfl ?_
  refine y_aload_n C dX2_findMost_11 rfl 0 rfl ?_
  refine g7_night C fl_X2_23 dX2_findMost_12 ?_
  refine gN6_scene C fn_X2_82 dX2_findMost_15 ?_
  refine y_aload_n C dX2_findMost_18 rfl 0 rfl ?_
  refine g7_night C fl_X2_23 dX2_findMost_19 ?_
  refine gN6_called C fn_X2_62 dX2_findMost_22 ?_
  refine y_aload_n C dX2_findMost_25 rfl 0 rfl ?_
  refine g7_night C fl_X2_23 dX2_findMost_26 ?_
  refine gN6_clapping C fn_X2_68 dX2_findMost_29 ?_
  refine y_aload_n C dX2_findMost_32 rfl 0 rfl ?_
  refine g7_night C fl_X2_23 dX2_findMost_33 ?_
  refine gN6_promptsLeft C fn_X2_65 dX2_findMost_36 ?_
  refine y_iconst C (v := 0) dX2_findMost_39 (by decide) ?_
  obtain ⟨q3, h_q3, hf⟩ := bd_e hf
  refine y_cVv C (kX2_seekMost_7 l E DP S2 τ (gI S2 13) (gI S2 14) (gI S2 17) (gI S2 15) (0 : Int32) _ h_q3) vi_X2_seekMost ml_X2_99 ⟨2, _, o7, rfl, rfl⟩ rfl ⟨rfl, rfl, Nat.le_of_ble_eq_true rfl, Nat.le_of_ble_eq_true rfl⟩ dX2_findMost_40 rfl (Nat.le_of_ble_eq_true rfl) ?_
  refine y_aload_n C dX2_findMost_43 rfl 0 rfl ?_
  refine g7_most C fl_X2_96 dX2_findMost_44 ?_
  exact y_iret C (rs1 hf) (rs2 hf) rfl dX2_findMost_47
