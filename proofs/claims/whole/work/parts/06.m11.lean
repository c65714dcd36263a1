noncomputable def fX2_seekBest_7 : Nat → Int32 → Int32 → Int32 → Int32 → Int32 → QS → Option (QS)
  | 0, _, _, _, _, _, _ => none
  | d + 1, x1, x2, x3, x4, x5, σ =>
    lt_ ((gI σ 15) - x4) (fun (v1 : Int32) => (if (x5 + (fX2_hope_7 x1 x2 σ)) < (gI σ 20) then some σ else (if v1 < (gI σ 21) then (if x1 < (gI σ 8) then ck_ (inb x1 6) (lt_ (pM σ 27 (upd (gM σ 27) x1.toNatClampNeg (-9 : Int32))) (fun (S3 : QS) => Option.bind (fX2_seekBest_7 d (x1 + (1 : Int32)) x2 x3 x4 x5 S3) (fun (q4 : QS) => lp_ (fun (r6 : Int32 × QS → Option (QS)) (a5 : Int32 × QS) => (if (gI a5.2 9) ≤ a5.1 then some a5.2 else lt_ (fun (v8 : Int32) => (if v8 < 0 then r6 ((a5.1 + (1 : Int32)), a5.2) else (if x4 < v8 then r6 ((a5.1 + (1 : Int32)), a5.2) else ck_ (inb x1 6) (lt_ (pM a5.2 27 (upd (gM a5.2 27) x1.toNatClampNeg a5.1)) (fun (S10 : QS) => Option.bind (fX2_seekBest_7 d (x1 + (1 : Int32)) (x2 ||| ((1 : Int32) <<< (a5.1 &&& 31))) (fX2_clappingBehind x3 v8 x4) (x4 - v8) (x5 + (1 : Int32)) S10) (fun (q11 : QS) => r6 ((a5.1 + (1 : Int32)), q11))))))) (fun (j7 : Int32 → Option (QS)) => (if (fX2_isFree_7 a5.1 x2 a5.2) = 0 then j7 (-9 : Int32) else Option.bind (fX1_lacking_5 a5.1 x1 x2 x3 a5.2) (fun (q12 : Int32) => j7 q12))))) FV ((0 : Int32), q4)))) else lt_ (pI σ 21 v1) (fun (S13 : QS) => lt_ (pM S13 28 (va_cpy (gM S13 27) (gM S13 28) (0 : Int32).toNatClampNeg (0 : Int32).toNatClampNeg (6 : Int32).toNatClampNeg)) (fun (S14 : QS) => some S14))) else some σ)))
def rm_X2_seekBest_7 (d : Nat) : Room := { frames := 4 + d, cells := 0, slots := 0, locals := 94 + d * 28 }
theorem rk_X2_seekBest_7_self (d : Nat) : rmOk (rm_X2_seekBest_7 d) (rm_X2_seekBest_7 (d + 1)) 9 := by
  refine ⟨rfl, rfl, ?_, ?_⟩ <;> simp only [rm_X2_seekBest_7] <;> omega
set_option maxRecDepth 100000 in
set_option maxHeartbeats 4000000 in
theorem kX2_seekBest_7 (l : Launch) (E : QE) : ∀ (d : Nat) (σ τ : QS) (x1 : Int32) (x2 : Int32) (x3 : Int32) (x4 : Int32) (x5 : Int32) (q : QS) (hf : fX2_seekBest_7 d x1 x2 x3 x4 x5 σ = some q), KQ l yX2_seekBest cX2_seekBest 9 none (rm_X2_seekBest_7 d) E [.ref (qAd E 7), .int x1, .int x2, .int x3, .int x4, .int x5] σ τ (PV E q τ) := by
  intro d
  induction d with
  | zero =>
    intro σ τ x1 x2 x3 x4 x5 q hf
    cases hf
  | succ d ihd =>
    intro σ τ x1 x2 x3 x4 x5 q hf
    rw [fX2_seekBest_7] at hf
    refine y_met rfl (Nat.le_of_ble_eq_true rfl) rfl (fun p e s m below meth c C => ?_)
    refine y_aload_n C dX2_seekBest_0 rfl 0 rfl ?_
    refine g7_night C fl_X2_23 dX2_seekBest_1 ?_
    refine gN6_promptsLeft C fn_X2_65 dX2_seekBest_4 ?_
    refine y_iload C dX2_seekBest_7 4 rfl ?_
    refine y_isub C dX2_seekBest_9 ?_
    obtain ⟨v1, e_v1, hf⟩ := lt_e hf
    refine y_istore C dX2_seekBest_10 (Nat.le_of_ble_eq_true rfl) e_v1 (lv' := [(6, .int v1), (0, .ref (qAd E 7)), (1, .int x1), (2, .int x2), (3, .int x3), (4, .int x4), (5, .int x5)]) rfl ?_
    refine y_iload C dX2_seekBest_12 6 rfl ?_
    refine y_aload_n C dX2_seekBest_14 rfl 1 rfl ?_
    refine y_iload_n C dX2_seekBest_15 rfl 2 rfl ?_
    refine y_iload_n C dX2_seekBest_16 rfl 3 rfl ?_
    refine y_cVi C (kX2_hope_7 l E σ τ x1 x2 _ rfl) vi_X2_hope ml_X2_106 ⟨2, _, o7, rfl, rfl⟩ rfl (by refine ⟨rfl, rfl, ?_, ?_⟩ <;> simp only [rm_X2_hope_7, rm_X2_seekBest_7] <;> omega) dX2_seekBest_17 rfl (Nat.le_of_ble_eq_true rfl) ?_
    refine y_iadd C dX2_seekBest_20 ?_
    refine y_aload_n C dX2_seekBest_21 rfl 1 rfl ?_
    refine g7_most C fl_X2_96 dX2_seekBest_22 ?_
    refine y_icmp_lt C 37 dX2_seekBest_25 (by decide) hf (fun hf => ?_) (fun hf => ?_)
    · exact y_vret C (Option.some.inj hf) rfl dX2_seekBest_37
    · refine y_iload C dX2_seekBest_28 0 rfl ?_
      refine y_aload_n C dX2_seekBest_30 rfl 1 rfl ?_
      refine g7_fewestGone C fl_X2_115 dX2_seekBest_31 ?_
      refine y_icmp_lt C 38 dX2_seekBest_34 (by decide) hf (fun hf => ?_) (fun hf => ?_)
      · refine y_iload_n C dX2_seekBest_38 rfl 2 rfl ?_
        refine y_aload_n C dX2_seekBest_39 rfl 1 rfl ?_
        refine g7_script C fl_X2_33 dX2_seekBest_40 ?_
        refine gN5_sceneCount C fn_X2_48 dX2_seekBest_43 ?_
        refine y_icmp_lt C 71 dX2_seekBest_46 (by decide) hf (fun hf => ?_) (fun hf => ?_)
        · refine y_aload_n C dX2_seekBest_71 rfl 1 rfl ?_
          refine g7_path C fl_X2_9 dX2_seekBest_72 ?_
          refine y_iload_n C dX2_seekBest_75 rfl 2 rfl ?_
          refine y_bipush C (v := -9) dX2_seekBest_76 (by decide) ?_
          obtain ⟨hi2, hf⟩ := ck_e hf
          obtain ⟨S3, e_S3, hf⟩ := lt_e hf
          refine y_iastC C a27 (j := x1.toNatClampNeg) rfl hi2 e_S3 dX2_seekBest_78 ?_
          refine y_aload_n C dX2_seekBest_79 rfl 1 rfl ?_
          refine y_iload_n C dX2_seekBest_80 rfl 2 rfl ?_
          refine y_iconst C (v := 1) dX2_seekBest_81 (by decide) ?_
          refine y_iadd C dX2_seekBest_82 ?_
          refine y_iload_n C dX2_seekBest_83 rfl 3 rfl ?_
          refine y_iload_n C dX2_seekBest_84 rfl 4 rfl ?_
          refine y_iload C dX2_seekBest_85 5 rfl ?_
          refine y_iload C dX2_seekBest_87 6 rfl ?_
          obtain ⟨q4, h_q4, hf⟩ := bd_e hf
          refine y_cVv C (ihd S3 τ (x1 + (1 : Int32)) x2 x3 x4 x5 _ h_q4) vi_X2_seekBest ml_X2_118 ⟨2, _, o7, rfl, rfl⟩ rfl (rk_X2_seekBest_7_self d) dX2_seekBest_89 rfl (Nat.le_of_ble_eq_true rfl) ?_
          refine y_iconst C (v := 0) dX2_seekBest_92 (by decide) ?_
          refine y_istore C dX2_seekBest_93 (Nat.le_of_ble_eq_true rfl) rfl (lv' := [(7, .int (0 : Int32)), (6, .int v1), (0, .ref (qAd E 7)), (1, .int x1), (2, .int x2), (3, .int x3), (4, .int x4), (5, .int x5)]) rfl ?_
          refine y_sub [0, 2, 3, 4, 5, 6, 7] rfl ?_
          refine lp_ind (P := fun a5 : Int32 × QS => Y E p l e (rm_X2_seekBest_7 (d + 1)) s m ([.ref (qAd E 7), .int x1, .int x2, .int x3, .int x4, .int x5] : List Value).toArray below meth c 9 (MQ below (PV E q τ) ([.ref (qAd E 7), .int x1, .int x2, .int x3, .int x4, .int x5] : List Value).toArray s 0 0 (qA E)) a5.2 τ 95 [(7, .int a5.1), (0, .ref (qAd E 7)), (1, .int x1), (2, .int x2), (3, .int x3), (4, .int x4), (5, .int x5)] []) (fun r6 a5 ih_r6 hf => ?_) _ _ hf
          refine y_iload C dX2_seekBest_95 0 rfl ?_
          refine y_aload_n C dX2_seekBest_97 rfl 1 rfl ?_
          refine g7_script C fl_X2_33 dX2_seekBest_98 ?_
          refine gN5_sitterCount C fn_X2_109 dX2_seekBest_101 ?_
          refine y_icmp_ge C 192 dX2_seekBest_104 (by decide) hf (fun hf => ?_) (fun hf => ?_)
          · exact y_vret C (Option.some.inj hf) rfl dX2_seekBest_192
          · refine y_aload_n C dX2_seekBest_107 rfl 1 rfl ?_
            refine y_iload C dX2_seekBest_108 0 rfl ?_
            refine y_iload_n C dX2_seekBest_110 rfl 3 rfl ?_
            refine y_cVi C (kX2_isFree_7 l E a5.2 τ a5.1 x2 _ rfl) vi_X2_isFree ml_X2_112 ⟨2, _, o7, rfl, rfl⟩ rfl (by refine ⟨rfl, rfl, ?_, ?_⟩ <;> simp only [rm_X2_isFree_7, rm_X2_seekBest_7] <;> omega) dX2_seekBest_111 rfl (Nat.le_of_ble_eq_true rfl) ?_
            obtain ⟨j7, ek_j7, hf⟩ := lt_e hf
            have h_j7 : ∀ (v8 : Int32), j7 v8 = some q → Y E p l e (rm_X2_seekBest_7 (d + 1)) s m ([.ref (qAd E 7), .int x1, .int x2, .int x3, .int x4, .int x5] : List Value).toArray below meth c 9 (MQ below (PV E q τ) ([.ref (qAd E 7), .int x1, .int x2, .int x3, .int x4, .int x5] : List Value).toArray s 0 0 (qA E)) a5.2 τ 134 [(0, .ref (qAd E 7)), (1, .int x1), (2, .int x2), (3, .int x3), (4, .int x4), (5, .int x5), (7, .int a5.1)] [.int v8] := by
              intro v8 hf
              replace hf := (congrFun (ek_j7) v8).symm.trans hf
              refine y_istore C dX2_seekBest_134 (Nat.le_of_ble_eq_true rfl) rfl (lv' := [(8, .int v8), (0, .ref (qAd E 7)), (1, .int x1), (2, .int x2), (3, .int x3), (4, .int x4), (5, .int x5), (7, .int a5.1)]) rfl ?_
              refine y_iload C dX2_seekBest_136 0 rfl ?_
              refine y_if_lt C 186 dX2_seekBest_138 (by decide) hf (fun hf => ?_) (fun hf => ?_)
              · refine y_iinc C dX2_seekBest_186 7 rfl (Nat.le_of_ble_eq_true rfl) (k2 := 1) (by decide) rfl (lv' := [(7, .int (a5.1 + (1 : Int32))), (8, .int v8), (0, .ref (qAd E 7)), (1, .int x1), (2, .int x2), (3, .int x3), (4, .int x4), (5, .int x5)]) rfl ?_
                refine y_goto C 95 dX2_seekBest_189 (by decide) ?_
                refine y_sub [0, 2, 3, 4, 5, 6, 7] rfl ?_
                exact ih_r6 ((a5.1 + (1 : Int32)), a5.2) hf
              · refine y_iload C dX2_seekBest_141 0 rfl ?_
                refine y_iload C dX2_seekBest_143 5 rfl ?_
                refine y_icmp_gt C 186 dX2_seekBest_145 (by decide) hf (fun hf => ?_) (fun hf => ?_)
                · refine y_iinc C dX2_seekBest_186 7 rfl (Nat.le_of_ble_eq_true rfl) (k2 := 1) (by decide) rfl (lv' := [(7, .int (a5.1 + (1 : Int32))), (8, .int v8), (0, .ref (qAd E 7)), (1, .int x1), (2, .int x2), (3, .int x3), (4, .int x4), (5, .int x5)]) rfl ?_
                  refine y_goto C 95 dX2_seekBest_189 (by decide) ?_
                  refine y_sub [0, 2, 3, 4, 5, 6, 7] rfl ?_
                  exact ih_r6 ((a5.1 + (1 : Int32)), a5.2) hf
                · refine y_aload_n C dX2_seekBest_148 rfl 1 rfl ?_
                  refine g7_path C fl_X2_9 dX2_seekBest_149 ?_
                  refine y_iload_n C dX2_seekBest_152 rfl 2 rfl ?_
                  refine y_iload C dX2_seekBest_153 7 rfl ?_
                  obtain ⟨hi9, hf⟩ := ck_e hf
                  obtain ⟨S10, e_S10, hf⟩ := lt_e hf
                  refine y_iastC C a27 (j := x1.toNatClampNeg) rfl hi9 e_S10 dX2_seekBest_155 ?_
                  refine y_aload_n C dX2_seekBest_156 rfl 1 rfl ?_
                  refine y_iload_n C dX2_seekBest_157 rfl 2 rfl ?_
                  refine y_iconst C (v := 1) dX2_seekBest_158 (by decide) ?_
                  refine y_iadd C dX2_seekBest_159 ?_
                  refine y_iload_n C dX2_seekBest_160 rfl 3 rfl ?_
                  refine y_iconst C (v := 1) dX2_seekBest_161 (by decide) ?_
                  refine y_iload C dX2_seekBest_162 7 rfl ?_
                  refine y_ishl C dX2_seekBest_164 ?_
                  refine y_ior C dX2_seekBest_165 ?_
                  refine y_iload_n C dX2_seekBest_166 rfl 4 rfl ?_
                  refine y_iload C dX2_seekBest_167 0 rfl ?_
                  refine y_iload C dX2_seekBest_169 5 rfl ?_
                  refine y_cSi C (kX2_clappingBehind l E S10 τ x3 v8 x4 _ rfl) si_X2_clappingBehind ml_X2_89 rfl (by refine ⟨rfl, rfl, ?_, ?_⟩ <;> simp only [rm_X2_clappingBehind, rm_X2_seekBest_7] <;> omega) dX2_seekBest_171 rfl (Nat.le_of_ble_eq_true rfl) ?_
                  refine y_iload C dX2_seekBest_174 5 rfl ?_
                  refine y_iload C dX2_seekBest_176 0 rfl ?_
                  refine y_isub C dX2_seekBest_178 ?_
                  refine y_iload C dX2_seekBest_179 6 rfl ?_
                  refine y_iconst C (v := 1) dX2_seekBest_181 (by decide) ?_
                  refine y_iadd C dX2_seekBest_182 ?_
                  obtain ⟨q11, h_q11, hf⟩ := bd_e hf
                  refine y_cVv C (ihd S10 τ (x1 + (1 : Int32)) (x2 ||| ((1 : Int32) <<< (a5.1 &&& 31))) (fX2_clappingBehind x3 v8 x4) (x4 - v8) (x5 + (1 : Int32)) _ h_q11) vi_X2_seekBest ml_X2_118 ⟨2, _, o7, rfl, rfl⟩ rfl (rk_X2_seekBest_7_self d) dX2_seekBest_183 rfl (Nat.le_of_ble_eq_true rfl) ?_
                  refine y_iinc C dX2_seekBest_186 7 rfl (Nat.le_of_ble_eq_true rfl) (k2 := 1) (by decide) rfl (lv' := [(7, .int (a5.1 + (1 : Int32))), (8, .int v8), (0, .ref (qAd E 7)), (1, .int x1), (2, .int x2), (3, .int x3), (4, .int x4), (5, .int x5)]) rfl ?_
                  refine y_goto C 95 dX2_seekBest_189 (by decide) ?_
                  refine y_sub [0, 2, 3, 4, 5, 6, 7] rfl ?_
                  exact ih_r6 ((a5.1 + (1 : Int32)), q11) hf
            refine y_if_eq C 132 dX2_seekBest_114 (by decide) hf (fun hf => ?_) (fun hf => ?_)
            · refine y_bipush C (v := -9) dX2_seekBest_132 (by decide) ?_
              refine y_sub [1, 2, 3, 4, 5, 6, 0] rfl ?_
              exact h_j7 (-9 : Int32) hf
            · refine y_aload_n C dX2_seekBest_117 rfl 1 rfl ?_
              refine g7_script C fl_X2_33 dX2_seekBest_118 ?_
              refine y_iload C dX2_seekBest_121 0 rfl ?_
              refine y_iload_n C dX2_seekBest_123 rfl 2 rfl ?_
              refine y_iload_n C dX2_seekBest_124 rfl 3 rfl ?_
              refine y_iload_n C dX2_seekBest_125 rfl 4 rfl ?_
              obtain ⟨q12, h_q12, hf⟩ := bd_e hf
              refine y_cVi C (kX1_lacking_5 l E a5.2 τ a5.1 x1 x2 x3 _ h_q12) vi_X1_lacking ml_X2_85 ⟨1, _, o5, rfl, rfl⟩ rfl (by refine ⟨rfl, rfl, ?_, ?_⟩ <;> simp only [rm_X1_lacking_5, rm_X2_seekBest_7] <;> omega) dX2_seekBest_126 rfl (Nat.le_of_ble_eq_true rfl) ?_
              refine y_goto C 134 dX2_seekBest_129 (by decide) ?_
              refine y_sub [1, 2, 3, 4, 5, 6, 0] rfl ?_
              exact h_j7 q12 hf
        · refine y_aload_n C dX2_seekBest_49 rfl 1 rfl ?_
          refine y_iload C dX2_seekBest_50 0 rfl ?_
          obtain ⟨S13, e_S13, hf⟩ := lt_e hf
          refine p7_fewestGone C fl_X2_115 e_S13 dX2_seekBest_52 ?_
          refine y_aload_n C dX2_seekBest_55 rfl 1 rfl ?_
          refine g7_path C fl_X2_9 dX2_seekBest_56 ?_
          refine y_iconst C (v := 0) dX2_seekBest_59 (by decide) ?_
          refine y_aload_n C dX2_seekBest_60 rfl 1 rfl ?_
          refine g7_bestPlan C fl_X2_15 dX2_seekBest_61 ?_
          refine y_iconst C (v := 0) dX2_seekBest_64 (by decide) ?_
          refine y_bipush C (v := 6) dX2_seekBest_65 (by decide) ?_
          obtain ⟨S14, e_S14, hf⟩ := lt_e hf
          refine y_copy C a27 a28 (by decide) mc_X2_121 ac_nat ac_stat ac_ini (Nat.le_of_ble_eq_true rfl) (Nat.le_trans (show (List.map (fun v : Value => v.category) []).sum + (nativeFrameWords "java/lang/System" "arraycopy" 5 + 11) ≤ 64 by decide) (by simp only [rm_X2_seekBest_7]; omega)) e_S14 dX2_seekBest_67 ?_
          exact y_vret C (Option.some.inj hf) rfl dX2_seekBest_70
      · exact y_vret C (Option.some.inj hf) rfl dX2_seekBest_37
noncomputable def fX2_findFirstOfMost_7  (σ : QS) : Option (QS) :=
    lt_ (pI σ 21 ((gI σ 15) + (1 : Int32))) (fun (S1 : QS) => Option.bind (fX2_seekBest_7 DP (gI S1 13) (gI S1 14) (gI S1 17) (gI S1 15) (0 : Int32) S1) (fun (q2 : QS) => some q2))
def rm_X2_findFirstOfMost_7 : Room := { frames := 13, cells := 0, slots := 0, locals := 346 }
set_option maxRecDepth 100000 in
set_option maxHeartbeats 4000000 in
theorem kX2_findFirstOfMost_7 (l : Launch) (E : QE) (σ τ : QS)  (q : QS) (hf : fX2_findFirstOfMost_7 σ = some q) : KQ l yX2_findFirstOfMost cX2_findFirstOfMost 1 none rm_X2_findFirstOfMost_7 E [.ref (qAd E 7)] σ τ (PV E q τ) := by
  unfold fX2_findFirstOfMost_7 at hf
  refine y_met rfl (Nat.le_of_ble_eq_true rfl) rfl (fun p e s m below meth c C => ?_)
  refine y_aload_n C dX2_findFirstOfMost_0 rfl 0 rfl ?_
  refine y_aload_n C dX2_findFirstOfMost_1 rfl 0 rfl ?_
  refine g7_night C fl_X2_23 dX2_findFirstOfMost_2 ?_
  refine gN6_promptsLeft C fn_X2_65 dX2_findFirstOfMost_5 ?_
  refine y_iconst C (v := 1) dX2_findFirstOfMost_8 (by decide) ?_
  refine y_iadd C dX2_findFirstOfMost_9 ?_
  obtain ⟨S1, e_S1, hf⟩ := lt_e hf
  refine p7_fewestGone C fl_X2_115 e_S1 dX2_findFirstOfMost_10 ?_
  refine y_aload_n C dX2_findFirstOfMost_13 rfl 0 rfl ?_
  refine y_aload_n C dX2_findFirstOfMost_14 rfl 0 rfl ?_
  refine g7_night C fl_X2_23 dX2_findFirstOfMost_15 ?_
  refine gN6_scene C fn_X2_82 dX2_findFirstOfMost_18 ?_
  refine y_aload_n C dX2_findFirstOfMost_21 rfl 0 rfl ?_
  refine g7_night C fl_X2_23 dX2_findFirstOfMost_22 ?_
  refine gN6_called C fn_X2_62 dX2_findFirstOfMost_25 ?_
  refine y_aload_n C dX2_findFirstOfMost_28 rfl 0 rfl ?_
  refine g7_night C fl_X2_23 dX2_findFirstOfMost_29 ?_
  refine gN6_clapping C fn_X2_68 dX2_findFirstOfMost_32 ?_
  refine y_aload_n C dX2_findFirstOfMost_35 rfl 0 rfl ?_
  refine g7_night C fl_X2_23 dX2_findFirstOfMost_36 ?_
  refine gN6_promptsLeft C fn_X2_65 dX2_findFirstOfMost_39 ?_
  refine y_iconst C (v := 0) dX2_findFirstOfMost_42 (by decide) ?_
  obtain ⟨q2, h_q2, hf⟩ := bd_e hf
  refine y_cVv C (kX2_seekBest_7 l E DP S1 τ (gI S1 13) (gI S1 14) (gI S1 17) (gI S1 15) (0 : Int32) _ h_q2) vi_X2_seekBest ml_X2_118 ⟨2, _, o7, rfl, rfl⟩ rfl ⟨rfl, rfl, Nat.le_of_ble_eq_true rfl, Nat.le_of_ble_eq_true rfl⟩ dX2_findFirstOfMost_43 rfl (Nat.le_of_ble_eq_true rfl) ?_
  exact y_vret C (Option.some.inj hf) rfl dX2_findFirstOfMost_46
noncomputable def fX2_choiceFor_7 (x1 : Int32) (σ : QS) : Option (Int32) :=
    (if x1 < 0 then some (-9 : Int32) else (if (6 : Int32) ≤ x1 then some (-9 : Int32) else ck_ (inb x1 6) (some (gM σ 28 x1.toNatClampNeg))))
def rm_X2_choiceFor_7 : Room := { frames := 0, cells := 0, slots := 0, locals := 0 }
set_option maxRecDepth 100000 in
set_option maxHeartbeats 4000000 in
theorem kX2_choiceFor_7 (l : Launch) (E : QE) (σ τ : QS) (x1 : Int32) (q : Int32) (hf : fX2_choiceFor_7 x1 σ = some q) : KQ l yX2_choiceFor cX2_choiceFor 2 (some .int) rm_X2_choiceFor_7 E [.ref (qAd E 7), .int x1] σ τ (PI E q σ τ) := by
  unfold fX2_choiceFor_7 at hf
  refine y_met rfl (Nat.le_of_ble_eq_true rfl) rfl (fun p e s m below meth c C => ?_)
  refine y_iload_n C dX2_choiceFor_0 rfl 1 rfl ?_
  refine y_if_lt C 19 dX2_choiceFor_1 (by decide) hf (fun hf => ?_) (fun hf => ?_)
  · refine y_bipush C (v := -9) dX2_choiceFor_19 (by decide) ?_
    exact y_iret C (Option.some.inj hf) rfl rfl dX2_choiceFor_21
  · refine y_iload_n C dX2_choiceFor_4 rfl 1 rfl ?_
    refine y_bipush C (v := 6) dX2_choiceFor_5 (by decide) ?_
    refine y_icmp_ge C 19 dX2_choiceFor_7 (by decide) hf (fun hf => ?_) (fun hf => ?_)
    · refine y_bipush C (v := -9) dX2_choiceFor_19 (by decide) ?_
      exact y_iret C (Option.some.inj hf) rfl rfl dX2_choiceFor_21
    · refine y_aload_n C dX2_choiceFor_10 rfl 0 rfl ?_
      refine g7_bestPlan C fl_X2_15 dX2_choiceFor_11 ?_
      refine y_iload_n C dX2_choiceFor_14 rfl 1 rfl ?_
      obtain ⟨hi1, hf⟩ := ck_e hf
      refine y_ialdC C a28 (j := x1.toNatClampNeg) rfl hi1 dX2_choiceFor_15 ?_
      refine y_goto C 21 dX2_choiceFor_16 (by decide) ?_
      exact y_iret C (Option.some.inj hf) rfl rfl dX2_choiceFor_21
noncomputable def fX4_best_0 (x1 : Int32) (σ : QS) : Option (Int32 × QS) :=
    (if (fX3_isPlace_1 x1 σ) = 0 then some ((-1 : Int32), σ) else (if (gI σ 9) = 0 then some ((-4 : Int32), σ) else Option.bind (fX0_allowed_6 σ) (fun (q1 : Int32) => Option.bind (fX2_findMost_7 q1 (0 : Int32) σ) (fun (q2 : Int32 × QS) => Option.bind (fX2_findFirstOfMost_7 q2.2) (fun (q3 : QS) => lt_ (fX0_scenesYet_6 q3) (fun (v4 : Int32) => Option.bind (fX3_make_1 x1 v4 (-9 : Int32) q3) (fun (q5 : QS) => lp_ (fun (r7 : Int32 × QS → Option (Int32 × QS)) (a6 : Int32 × QS) => (if v4 ≤ a6.1 then lt_ (fX4_tell_0 (gI a6.2 21) a6.2) (fun (q8 : Int32 × QS) => some (q2.1, q8.2)) else Option.bind (fX2_choiceFor_7 ((gI a6.2 13) + a6.1) a6.2) (fun (q9 : Int32) => Option.bind (fX3_set_1 x1 a6.1 q9 a6.2) (fun (q10 : QS) => r7 ((a6.1 + (1 : Int32)), q10))))) FV ((0 : Int32), q5))))))))
def rm_X4_best_0 : Room := { frames := 14, cells := 0, slots := 0, locals := 366 }
set_option maxRecDepth 100000 in
set_option maxHeartbeats 4000000 in
theorem kX4_best_0 (l : Launch) (E : QE) (σ τ : QS) (x1 : Int32) (q : Int32 × QS) (hf : fX4_best_0 x1 σ = some q) : KQ l yX4_best cX4_best 5 (some .int) rm_X4_best_0 E [.ref (qAd E 0), .int x1] σ τ (PI E q.1 q.2 τ) := by
  unfold fX4_best_0 at hf
  refine y_met rfl (Nat.le_of_ble_eq_true rfl) rfl (fun p e s m below meth c C => ?_)
  refine y_aload_n C dX4_best_0 rfl 0 rfl ?_
  refine g0_rowShelf C fl_X4_14 dX4_best_1 ?_
  refine y_iload_n C dX4_best_4 rfl 1 rfl ?_
  refine y_cVi C (kX3_isPlace_1 l E σ τ x1 _ rfl) vi_X3_isPlace ml_X4_60 ⟨3, _, o1, rfl, rfl⟩ rfl ⟨rfl, rfl, Nat.le_of_ble_eq_true rfl, Nat.le_of_ble_eq_true rfl⟩ dX4_best_5 rfl (Nat.le_of_ble_eq_true rfl) ?_
  refine y_if_ne C 13 dX4_best_8 (by decide) hf (fun hf => ?_) (fun hf => ?_)
  · refine y_aload_n C dX4_best_13 rfl 0 rfl ?_
    refine g0_script C fl_X4_31 dX4_best_14 ?_
    refine gN5_sitterCount C fn_X4_114 dX4_best_17 ?_
    refine y_if_ne C 26 dX4_best_20 (by decide) hf (fun hf => ?_) (fun hf => ?_)
    · refine y_aload_n C dX4_best_26 rfl 0 rfl ?_
      refine g0_search C fl_X4_48 dX4_best_27 ?_
      refine y_aload_n C dX4_best_30 rfl 0 rfl ?_
      refine g0_night C fl_X4_39 dX4_best_31 ?_
      obtain ⟨q1, h_q1, hf⟩ := bd_e hf
      refine y_cVi C (kX0_allowed_6 l E σ τ _ h_q1) vi_X0_allowed ml_X4_185 ⟨0, _, o6, rfl, rfl⟩ rfl ⟨rfl, rfl, Nat.le_of_ble_eq_true rfl, Nat.le_of_ble_eq_true rfl⟩ dX4_best_34 rfl (Nat.le_of_ble_eq_true rfl) ?_
      refine y_iconst C (v := 0) dX4_best_37 (by decide) ?_
      obtain ⟨q2, h_q2, hf⟩ := bd_e hf
      refine y_cVi C (kX2_findMost_7 l E σ τ q1 (0 : Int32) _ h_q2) vi_X2_findMost ml_X4_188 ⟨2, _, o7, rfl, rfl⟩ rfl ⟨rfl, rfl, Nat.le_of_ble_eq_true rfl, Nat.le_of_ble_eq_true rfl⟩ dX4_best_38 rfl (Nat.le_of_ble_eq_true rfl) ?_
      refine y_istore_n C dX4_best_41 rfl (Nat.le_of_ble_eq_true rfl) rfl (lv' := [(2, .int q2.1), (0, .ref (qAd E 0)), (1, .int x1)]) rfl ?_
      refine y_aload_n C dX4_best_42 rfl 1 rfl ?_
      refine g0_search C fl_X4_48 dX4_best_43 ?_
      obtain ⟨q3, h_q3, hf⟩ := bd_e hf
      refine y_cVv C (kX2_findFirstOfMost_7 l E q2.2 τ _ h_q3) vi_X2_findFirstOfMost ml_X4_191 ⟨2, _, o7, rfl, rfl⟩ rfl ⟨rfl, rfl, Nat.le_of_ble_eq_true rfl, Nat.le_of_ble_eq_true rfl⟩ dX4_best_46 rfl (Nat.le_of_ble_eq_true rfl) ?_
      refine y_aload_n C dX4_best_49 rfl 1 rfl ?_
      refine g0_night C fl_X4_39 dX4_best_50 ?_
      refine y_cVi C (kX0_scenesYet_6 l E q3 τ _ rfl) vi_X0_scenesYet ml_X4_140 ⟨0, _, o6, rfl, rfl⟩ rfl ⟨rfl, rfl, Nat.le_of_ble_eq_true rfl, Nat.le_of_ble_eq_true rfl⟩ dX4_best_53 rfl (Nat.le_of_ble_eq_true rfl) ?_
      obtain ⟨v4, e_v4, hf⟩ := lt_e hf
      refine y_istore_n C dX4_best_56 rfl (Nat.le_of_ble_eq_true rfl) e_v4 (lv' := [(3, .int v4), (2, .int q2.1), (0, .ref (qAd E 0)), (1, .int x1)]) rfl ?_
      refine y_aload_n C dX4_best_57 rfl 2 rfl ?_
      refine g0_rowShelf C fl_X4_14 dX4_best_58 ?_
      refine y_iload_n C dX4_best_61 rfl 3 rfl ?_
      refine y_iload_n C dX4_best_62 rfl 0 rfl ?_
      refine y_bipush C (v := -9) dX4_best_63 (by decide) ?_
      obtain ⟨q5, h_q5, hf⟩ := bd_e hf
      refine y_cVv C (kX3_make_1 l E q3 τ x1 v4 (-9 : Int32) _ h_q5) vi_X3_make ml_X4_68 ⟨3, _, o1, rfl, rfl⟩ rfl ⟨rfl, rfl, Nat.le_of_ble_eq_true rfl, Nat.le_of_ble_eq_true rfl⟩ dX4_best_65 rfl (Nat.le_of_ble_eq_true rfl) ?_
      refine y_iconst C (v := 0) dX4_best_68 (by decide) ?_
      refine y_istore C dX4_best_69 (Nat.le_of_ble_eq_true rfl) rfl (lv' := [(4, .int (0 : Int32)), (3, .int v4), (2, .int q2.1), (0, .ref (qAd E 0)), (1, .int x1)]) rfl ?_
      refine y_sub [0, 1, 2, 3, 4] rfl ?_
      refine lp_ind (P := fun a6 : Int32 × QS => Y E p l e rm_X4_best_0 s m ([.ref (qAd E 0), .int x1] : List Value).toArray below meth c 5 (MQ below (PI E q.1 q.2 τ) ([.ref (qAd E 0), .int x1] : List Value).toArray s 0 0 (qA E)) a6.2 τ 71 [(4, .int a6.1), (3, .int v4), (2, .int q2.1), (0, .ref (qAd E 0)), (1, .int x1)] []) (fun r7 a6 ih_r7 hf => ?_) _ _ hf
      refine y_iload C dX4_best_71 0 rfl ?_
      refine y_iload_n C dX4_best_73 rfl 1 rfl ?_
      refine y_icmp_ge C 110 dX4_best_74 (by decide) hf (fun hf => ?_) (fun hf => ?_)
      · refine y_aload_n C dX4_best_110 rfl 3 rfl ?_
        refine y_aload_n C dX4_best_111 rfl 3 rfl ?_
        refine g0_search C fl_X4_48 dX4_best_112 ?_
        refine gN7_fewestGone C fn_X4_197 dX4_best_115 ?_
        obtain ⟨q8, e_q8, hf⟩ := lt_e hf
        refine y_cVi C (kX4_tell_0 l E a6.2 τ (gI a6.2 21) _ e_q8.symm) vi_X4_tell ml_X4_83 ⟨4, _, o0, rfl, rfl⟩ rfl ⟨rfl, rfl, Nat.le_of_ble_eq_true rfl, Nat.le_of_ble_eq_true rfl⟩ dX4_best_118 rfl (Nat.le_of_ble_eq_true rfl) ?_
        refine y_pop C dX4_best_121 rfl ?_
        refine y_iload_n C dX4_best_122 rfl 2 rfl ?_
        exact y_iret C (rs1 hf) (rs2 hf) rfl dX4_best_123
      · refine y_aload_n C dX4_best_77 rfl 3 rfl ?_
        refine g0_rowShelf C fl_X4_14 dX4_best_78 ?_
        refine y_iload_n C dX4_best_81 rfl 4 rfl ?_
        refine y_iload C dX4_best_82 0 rfl ?_
        refine y_aload_n C dX4_best_84 rfl 3 rfl ?_
        refine g0_search C fl_X4_48 dX4_best_85 ?_
        refine y_aload_n C dX4_best_88 rfl 3 rfl ?_
        refine g0_night C fl_X4_39 dX4_best_89 ?_
        refine gN6_scene C fn_X4_162 dX4_best_92 ?_
        refine y_iload C dX4_best_95 0 rfl ?_
        refine y_iadd C dX4_best_97 ?_
        obtain ⟨q9, h_q9, hf⟩ := bd_e hf
        refine y_cVi C (kX2_choiceFor_7 l E a6.2 τ ((gI a6.2 13) + a6.1) _ h_q9) vi_X2_choiceFor ml_X4_194 ⟨2, _, o7, rfl, rfl⟩ rfl ⟨rfl, rfl, Nat.le_of_ble_eq_true rfl, Nat.le_of_ble_eq_true rfl⟩ dX4_best_98 rfl (Nat.le_of_ble_eq_true rfl) ?_
        obtain ⟨q10, h_q10, hf⟩ := bd_e hf
        refine y_cVv C (kX3_set_1 l E a6.2 τ x1 a6.1 q9 _ h_q10) vi_X3_set ml_X4_80 ⟨3, _, o1, rfl, rfl⟩ rfl ⟨rfl, rfl, Nat.le_of_ble_eq_true rfl, Nat.le_of_ble_eq_true rfl⟩ dX4_best_101 rfl (Nat.le_of_ble_eq_true rfl) ?_
        refine y_iinc C dX4_best_104 0 rfl (Nat.le_of_ble_eq_true rfl) (k2 := 1) (by decide) rfl (lv' := [(4, .int (a6.1 + (1 : Int32))), (3, .int v4), (2, .int q2.1), (0, .ref (qAd E 0)), (1, .int x1)]) rfl ?_
        refine y_goto C 71 dX4_best_107 (by decide) ?_
        refine y_sub [0, 1, 2, 3, 4] rfl ?_
        exact ih_r7 ((a6.1 + (1 : Int32)), q10) hf
    · refine y_bipush C (v := -4) dX4_best_23 (by decide) ?_
      exact y_iret C (rs1 hf) (rs2 hf) rfl dX4_best_25
  · refine y_iconst C (v := -1) dX4_best_11 (by decide) ?_
    exact y_iret C (rs1 hf) (rs2 hf) rfl dX4_best_12
noncomputable def fX5_nextChoice_50 (x1 : Int32) (x2 : Int32) (τ : QS) : Option (Int32) :=
    lp_ (fun (r2 : Int32 → Option (Int32)) (a1 : Int32) => (if a1 ≤ 0 then some a1 else (if (gI τ 1) < a1 then some a1 else ck_ (inb x1 7) (Option.bind (fX5_mayCall_50 (a1 - (1 : Int32)) (gM τ 66 x1.toNatClampNeg) τ) (fun (q4 : Int32) => (if q4 = 0 then r2 (a1 + (1 : Int32)) else some a1)))))) FV x2
def rm_X5_nextChoice_50 : Room := { frames := 2, cells := 0, slots := 0, locals := 44 }
set_option maxRecDepth 100000 in
set_option maxHeartbeats 4000000 in
theorem kX5_nextChoice_50 (l : Launch) (E : QE) (σ τ : QS) (x1 : Int32) (x2 : Int32) (q : Int32) (hf : fX5_nextChoice_50 x1 x2 τ = some q) : KQ l yX5_nextChoice cX5_nextChoice 4 (some .int) rm_X5_nextChoice_50 E [.ref (qAd E 50), .int x1, .int x2] σ τ (PI E q σ τ) := by
  unfold fX5_nextChoice_50 at hf
  refine y_met rfl (Nat.le_of_ble_eq_true rfl) rfl (fun p e s m below meth c C => ?_)
  refine y_iload_n C dX5_nextChoice_0 rfl 2 rfl ?_
  refine y_istore_n C dX5_nextChoice_1 rfl (Nat.le_of_ble_eq_true rfl) rfl (lv' := [(3, .int x2), (0, .ref (qAd E 50)), (1, .int x1), (2, .int x2)]) rfl ?_
  refine y_sub [0, 1, 2] rfl ?_
  refine lp_ind (P := fun a1 : Int32 => Y E p l e rm_X5_nextChoice_50 s m ([.ref (qAd E 50), .int x1, .int x2] : List Value).toArray below meth c 4 (MQ below (PI E q σ τ) ([.ref (qAd E 50), .int x1, .int x2] : List Value).toArray s 0 0 (qA E)) σ τ 2 [(3, .int a1), (0, .ref (qAd E 50)), (1, .int x1)] []) (fun r2 a1 ih_r2 hf => ?_) _ _ hf
  refine y_iload_n C dX5_nextChoice_2 rfl 0 rfl ?_
  refine y_if_le C 36 dX5_nextChoice_3 (by decide) hf (fun hf => ?_) (fun hf => ?_)
  · refine y_iload_n C dX5_nextChoice_36 rfl 0 rfl ?_
    exact y_iret C (Option.some.inj hf) rfl rfl dX5_nextChoice_37
  · refine y_iload_n C dX5_nextChoice_6 rfl 0 rfl ?_
    refine y_aload_n C dX5_nextChoice_7 rfl 1 rfl ?_
    refine g50_sitters C fl_X5_163 dX5_nextChoice_8 ?_
    refine y_icmp_gt C 36 dX5_nextChoice_11 (by decide) hf (fun hf => ?_) (fun hf => ?_)
    · refine y_iload_n C dX5_nextChoice_36 rfl 0 rfl ?_
      exact y_iret C (Option.some.inj hf) rfl rfl dX5_nextChoice_37
    · refine y_aload_n C dX5_nextChoice_14 rfl 1 rfl ?_
      refine y_iload_n C dX5_nextChoice_15 rfl 0 rfl ?_
      refine y_iconst C (v := 1) dX5_nextChoice_16 (by decide) ?_
      refine y_isub C dX5_nextChoice_17 ?_
      refine y_aload_n C dX5_nextChoice_18 rfl 1 rfl ?_
      refine g50_planCalled C fl_X5_59 dX5_nextChoice_19 ?_
      refine y_iload_n C dX5_nextChoice_22 rfl 2 rfl ?_
      obtain ⟨hi3, hf⟩ := ck_e hf
      refine y_ialdR C a66 (j := x1.toNatClampNeg) rfl hi3 dX5_nextChoice_23 ?_
      obtain ⟨q4, h_q4, hf⟩ := bd_e hf
      refine y_cVi C (kX5_mayCall_50 l E σ τ (a1 - (1 : Int32)) (gM τ 66 x1.toNatClampNeg) _ h_q4) vi_X5_mayCall ml_X5_195 ⟨5, _, o50, rfl, rfl⟩ rfl ⟨rfl, rfl, Nat.le_of_ble_eq_true rfl, Nat.le_of_ble_eq_true rfl⟩ dX5_nextChoice_24 rfl (Nat.le_of_ble_eq_true rfl) ?_
      refine y_if_ne C 36 dX5_nextChoice_27 (by decide) hf (fun hf => ?_) (fun hf => ?_)
      · refine y_iload_n C dX5_nextChoice_36 rfl 0 rfl ?_
        exact y_iret C (Option.some.inj hf) rfl rfl dX5_nextChoice_37
      · refine y_iinc C dX5_nextChoice_30 0 rfl (Nat.le_of_ble_eq_true rfl) (k2 := 1) (by decide) rfl (lv' := [(3, .int (a1 + (1 : Int32))), (0, .ref (qAd E 50)), (1, .int x1)]) rfl ?_
        refine y_goto C 2 dX5_nextChoice_33 (by decide) ?_
        refine y_sub [0, 1, 2] rfl ?_
        exact ih_r2 (a1 + (1 : Int32)) hf
noncomputable def fX5_nextPlan_50  (τ : QS) : Option (Int32 × QS) :=
    lt_ (fun (v2 : Int32) => lt_ (fun (_ : Unit) => lt_ (pI τ 12 (1 : Int32)) (fun (S4 : QS) => lp_ (fun (r6 : Int32 × QS → Option (Int32 × QS)) (a5 : Int32 × QS) => (if a5.1 < 0 then some ((0 : Int32), a5.2) else ck_ (inb a5.1 7) (Option.bind (fX5_nextChoice_50 a5.1 ((gM a5.2 67 a5.1.toNatClampNeg) + (1 : Int32)) a5.2) (fun (q8 : Int32) => (if q8 ≤ (gI a5.2 1) then Option.bind (fX5_choose_50 a5.1 q8 a5.2) (fun (q9 : QS) => (if (a5.1 + (1 : Int32)) = (gI q9 11) then some ((1 : Int32), q9) else ck_ (inb (a5.1 + (1 : Int32)) 7) (lt_ (pM q9 67 (upd (gM q9 67) ((a5.1 + (1 : Int32)).toNatClampNeg) (-1 : Int32))) (fun (S11 : QS) => r6 ((a5.1 + (1 : Int32)), S11))))) else r6 ((a5.1 + (-1 : Int32)), a5.2)))))) FV (v2, S4))) (fun (j3 : Unit → Option (Int32 × QS)) => (if (gI τ 11) = 0 then (if (gI τ 12) = 0 then lt_ (pI τ 12 (1 : Int32)) (fun (S12 : QS) => some ((1 : Int32), S12)) else j3 ()) else j3 ()))) (fun (j1 : Int32 → Option (Int32 × QS)) => (if (gI τ 12) = 0 then j1 (0 : Int32) else j1 ((gI τ 11) - (1 : Int32))))
def rm_X5_nextPlan_50 : Room := { frames := 6, cells := 0, slots := 0, locals := 140 }
set_option maxRecDepth 100000 in
set_option maxHeartbeats 4000000 in
theorem kX5_nextPlan_50 (l : Launch) (E : QE) (σ τ : QS)  (q : Int32 × QS) (hf : fX5_nextPlan_50 τ = some q) : KQ l yX5_nextPlan cX5_nextPlan 3 (some .boolean) rm_X5_nextPlan_50 E [.ref (qAd E 50)] σ τ (PI E q.1 σ q.2) := by
  unfold fX5_nextPlan_50 at hf
  refine y_met rfl (Nat.le_of_ble_eq_true rfl) rfl (fun p e s m below meth c C => ?_)
  refine y_aload_n C dX5_nextPlan_0 rfl 0 rfl ?_
  refine g50_isBegun C fl_X5_248 dX5_nextPlan_1 ?_
  obtain ⟨j1, ek_j1, hf⟩ := lt_e hf
  have h_j1 : ∀ (v2 : Int32), j1 v2 = some q → Y E p l e rm_X5_nextPlan_50 s m ([.ref (qAd E 50)] : List Value).toArray below meth c 3 (MQ below (PI E q.1 σ q.2) ([.ref (qAd E 50)] : List Value).toArray s 0 0 (qA E)) σ τ 17 [(0, .ref (qAd E 50))] [.int v2] := by
    intro v2 hf
    replace hf := (congrFun (ek_j1) v2).symm.trans hf
    refine y_istore_n C dX5_nextPlan_17 rfl (Nat.le_of_ble_eq_true rfl) rfl (lv' := [(1, .int v2), (0, .ref (qAd E 50))]) rfl ?_
    refine y_aload_n C dX5_nextPlan_18 rfl 1 rfl ?_
    refine g50_planMany C fl_X5_245 dX5_nextPlan_19 ?_
    obtain ⟨j3, ek_j3, hf⟩ := lt_e hf
    have h_j3 : ∀ (_ : Unit), j3 () = some q → Y E p l e rm_X5_nextPlan_50 s m ([.ref (qAd E 50)] : List Value).toArray below meth c 3 (MQ below (PI E q.1 σ q.2) ([.ref (qAd E 50)] : List Value).toArray s 0 0 (qA E)) σ τ 39 [(0, .ref (qAd E 50)), (1, .int v2)] [] := by
      intro _ hf
      replace hf := (congrFun (ek_j3) ()).symm.trans hf
      refine y_aload_n C dX5_nextPlan_39 rfl 0 rfl ?_
      refine y_iconst C (v := 1) dX5_nextPlan_40 (by decide) ?_
      obtain ⟨S4, e_S4, hf⟩ := lt_e hf
      refine p50_isBegun C zOk1 fl_X5_248 e_S4 dX5_nextPlan_41 ?_
      refine y_sub [0, 1] rfl ?_
      refine lp_ind (P := fun a5 : Int32 × QS => Y E p l e rm_X5_nextPlan_50 s m ([.ref (qAd E 50)] : List Value).toArray below meth c 3 (MQ below (PI E q.1 σ q.2) ([.ref (qAd E 50)] : List Value).toArray s 0 0 (qA E)) σ a5.2 44 [(0, .ref (qAd E 50)), (1, .int a5.1)] []) (fun r6 a5 ih_r6 hf => ?_) _ _ hf
      refine y_iload_n C dX5_nextPlan_44 rfl 1 rfl ?_
      refine y_if_lt C 105 dX5_nextPlan_45 (by decide) hf (fun hf => ?_) (fun hf => ?_)
      · refine y_iconst C (v := 0) dX5_nextPlan_105 (by decide) ?_
        exact y_zret C zOk0 (rs1 hf) rfl (rs2 hf) dX5_nextPlan_106
      · refine y_aload_n C dX5_nextPlan_48 rfl 0 rfl ?_
        refine y_iload_n C dX5_nextPlan_49 rfl 1 rfl ?_
        refine y_aload_n C dX5_nextPlan_50 rfl 0 rfl ?_
        refine g50_choices C fl_X5_62 dX5_nextPlan_51 ?_
        refine y_iload_n C dX5_nextPlan_54 rfl 1 rfl ?_
        obtain ⟨hi7, hf⟩ := ck_e hf
        refine y_ialdR C a67 (j := a5.1.toNatClampNeg) rfl hi7 dX5_nextPlan_55 ?_
        refine y_iconst C (v := 1) dX5_nextPlan_56 (by decide) ?_
        refine y_iadd C dX5_nextPlan_57 ?_
        obtain ⟨q8, h_q8, hf⟩ := bd_e hf
        refine y_cVi C (kX5_nextChoice_50 l E σ a5.2 a5.1 ((gM a5.2 67 a5.1.toNatClampNeg) + (1 : Int32)) _ h_q8) vi_X5_nextChoice ml_X5_252 ⟨5, _, o50, rfl, rfl⟩ rfl ⟨rfl, rfl, Nat.le_of_ble_eq_true rfl, Nat.le_of_ble_eq_true rfl⟩ dX5_nextPlan_58 rfl (Nat.le_of_ble_eq_true rfl) ?_
        refine y_istore_n C dX5_nextPlan_61 rfl (Nat.le_of_ble_eq_true rfl) rfl (lv' := [(2, .int q8), (0, .ref (qAd E 50)), (1, .int a5.1)]) rfl ?_
        refine y_iload_n C dX5_nextPlan_62 rfl 0 rfl ?_
        refine y_aload_n C dX5_nextPlan_63 rfl 1 rfl ?_
        refine g50_sitters C fl_X5_163 dX5_nextPlan_64 ?_
        refine y_icmp_le C 76 dX5_nextPlan_67 (by decide) hf (fun hf => ?_) (fun hf => ?_)
        · refine y_aload_n C dX5_nextPlan_76 rfl 1 rfl ?_
          refine y_iload_n C dX5_nextPlan_77 rfl 2 rfl ?_
          refine y_iload_n C dX5_nextPlan_78 rfl 0 rfl ?_
          obtain ⟨q9, h_q9, hf⟩ := bd_e hf
          refine y_cVv C (kX5_choose_50 l E σ a5.2 a5.1 q8 _ h_q9) vi_X5_choose ml_X5_255 ⟨5, _, o50, rfl, rfl⟩ rfl ⟨rfl, rfl, Nat.le_of_ble_eq_true rfl, Nat.le_of_ble_eq_true rfl⟩ dX5_nextPlan_79 rfl (Nat.le_of_ble_eq_true rfl) ?_
          refine y_iinc C dX5_nextPlan_82 2 rfl (Nat.le_of_ble_eq_true rfl) (k2 := 1) (by decide) rfl (lv' := [(1, .int (a5.1 + (1 : Int32))), (2, .int q8), (0, .ref (qAd E 50))]) rfl ?_
          refine y_iload_n C dX5_nextPlan_85 rfl 0 rfl ?_
          refine y_aload_n C dX5_nextPlan_86 rfl 2 rfl ?_
          refine g50_planMany C fl_X5_245 dX5_nextPlan_87 ?_
          refine y_icmp_ne C 95 dX5_nextPlan_90 (by decide) hf (fun hf => ?_) (fun hf => ?_)
          · refine y_aload_n C dX5_nextPlan_95 rfl 2 rfl ?_
            refine g50_choices C fl_X5_62 dX5_nextPlan_96 ?_
            refine y_iload_n C dX5_nextPlan_99 rfl 0 rfl ?_
            refine y_iconst C (v := -1) dX5_nextPlan_100 (by decide) ?_
            obtain ⟨hi10, hf⟩ := ck_e hf
            obtain ⟨S11, e_S11, hf⟩ := lt_e hf
            refine y_iastR C a67 (j := (a5.1 + (1 : Int32)).toNatClampNeg) rfl hi10 e_S11 dX5_nextPlan_101 ?_
            refine y_goto C 44 dX5_nextPlan_102 (by decide) ?_
            refine y_sub [2, 0] rfl ?_
            exact ih_r6 ((a5.1 + (1 : Int32)), S11) hf
          · refine y_iconst C (v := 1) dX5_nextPlan_93 (by decide) ?_
            exact y_zret C zOk1 (rs1 hf) rfl (rs2 hf) dX5_nextPlan_94
        · refine y_iinc C dX5_nextPlan_70 2 rfl (Nat.le_of_ble_eq_true rfl) (k2 := -1) (by decide) rfl (lv' := [(1, .int (a5.1 + (-1 : Int32))), (2, .int q8), (0, .ref (qAd E 50))]) rfl ?_
          refine y_goto C 102 dX5_nextPlan_73 (by decide) ?_
          refine y_goto C 44 dX5_nextPlan_102 (by decide) ?_
          refine y_sub [2, 0] rfl ?_
          exact ih_r6 ((a5.1 + (-1 : Int32)), a5.2) hf
    refine y_if_ne C 39 dX5_nextPlan_22 (by decide) hf (fun hf => ?_) (fun hf => ?_)
    · refine y_sub [1, 0] rfl ?_
      exact h_j3 () hf
    · refine y_aload_n C dX5_nextPlan_25 rfl 1 rfl ?_
      refine g50_isBegun C fl_X5_248 dX5_nextPlan_26 ?_
      refine y_if_ne C 39 dX5_nextPlan_29 (by decide) hf (fun hf => ?_) (fun hf => ?_)
      · refine y_sub [1, 0] rfl ?_
        exact h_j3 () hf
      · refine y_aload_n C dX5_nextPlan_32 rfl 1 rfl ?_
        refine y_iconst C (v := 1) dX5_nextPlan_33 (by decide) ?_
        obtain ⟨S12, e_S12, hf⟩ := lt_e hf
        refine p50_isBegun C zOk1 fl_X5_248 e_S12 dX5_nextPlan_34 ?_
        refine y_iconst C (v := 1) dX5_nextPlan_37 (by decide) ?_
        exact y_zret C zOk1 (rs1 hf) rfl (rs2 hf) dX5_nextPlan_38
  refine y_if_eq C 16 dX5_nextPlan_4 (by decide) hf (fun hf => ?_) (fun hf => ?_)
  · refine y_iconst C (v := 0) dX5_nextPlan_16 (by decide) ?_
    refine y_sub [0] rfl ?_
    exact h_j1 (0 : Int32) hf
  · refine y_aload_n C dX5_nextPlan_7 rfl 0 rfl ?_
    refine g50_planMany C fl_X5_245 dX5_nextPlan_8 ?_
    refine y_iconst C (v := 1) dX5_nextPlan_11 (by decide) ?_
    refine y_isub C dX5_nextPlan_12 ?_
    refine y_goto C 17 dX5_nextPlan_13 (by decide) ?_
    refine y_sub [0] rfl ?_
    exact h_j1 ((gI τ 11) - (1 : Int32)) hf
noncomputable def fX5_best_50 (x1 : Int32) (τ : QS) : Option (Int32 × QS) :=
    (if (fX5_isRow x1) = 0 then some ((-1 : Int32), τ) else (if (gI τ 1) = 0 then some ((-4 : Int32), τ) else Option.bind (fX5_beginPlans_50 (gM τ 51 2) τ) (fun (q1 : QS) => lp_ (fun (r3 : Int32 × Int32 × QS → Option (Int32 × QS)) (a2 : Int32 × Int32 × QS) => Option.bind (fX5_nextPlan_50 a2.2.2) (fun (q4 : Int32 × QS) => (if q4.1 = 0 then lt_ (pI q4.2 2 a2.2.1) (fun (S5 : QS) => some (a2.1, S5)) else ck_ (inb (gI q4.2 11) 7) (lt_ (gM q4.2 65 ((gI q4.2 11).toNatClampNeg)) (fun (v7 : Int32) => ck_ (inb (gI q4.2 11) 7) (lt_ ((gM q4.2 51 2) - (gM q4.2 63 ((gI q4.2 11).toNatClampNeg))) (fun (v9 : Int32) => lt_ (fun (_ : Unit) => Option.bind (fX5_makeRow_50 x1 (gI q4.2 11) q4.2) (fun (q11 : QS) => lp_ (fun (r13 : Int32 × QS → Option (Int32 × QS)) (a12 : Int32 × QS) => (if (gI a12.2 11) ≤ a12.1 then r3 (v7, v9, a12.2) else ck_ (inb a12.1 7) (lt_ (fun (v16 : Int32) => ck_ (inb (((40 : Int32) * x1) + a12.1) 240) (lt_ (pM a12.2 57 (upd (gM a12.2 57) ((((40 : Int32) * x1) + a12.1).toNatClampNeg) v16)) (fun (S18 : QS) => r13 ((a12.1 + (1 : Int32)), S18)))) (fun (j15 : Int32 → Option (Int32 × QS)) => (if (gM a12.2 67 a12.1.toNatClampNeg) = 0 then j15 (-9 : Int32) else ck_ (inb a12.1 7) (j15 ((gM a12.2 67 a12.1.toNatClampNeg) - (1 : Int32)))))))) FV ((0 : Int32), q11))) (fun (j10 : Unit → Option (Int32 × QS)) => (if a2.1 < v7 then j10 () else (if v7 = a2.1 then (if a2.2.1 ≤ v9 then r3 (a2.1, a2.2.1, q4.2) else j10 ()) else r3 (a2.1, a2.2.1, q4.2))))))))))) FV ((-1 : Int32), (999 : Int32), q1))))
def rm_X5_best_50 : Room := { frames := 7, cells := 0, slots := 0, locals := 162 }
set_option maxRecDepth 100000 in
set_option maxHeartbeats 4000000 in
theorem kX5_best_50 (l : Launch) (E : QE) (σ τ : QS) (x1 : Int32) (q : Int32 × QS) (hf : fX5_best_50 x1 τ = some q) : KQ l yX5_best cX5_best 7 (some .int) rm_X5_best_50 E [.ref (qAd E 50), .int x1] σ τ (PI E q.1 σ q.2) := by
  unfold fX5_best_50 at hf
  refine y_met rfl (Nat.le_of_ble_eq_true rfl) rfl (fun p e s m below meth c C => ?_)
  refine y_iload_n C dX5_best_0 rfl 1 rfl ?_
  refine y_cSi C (kX5_isRow l E σ τ x1 _ rfl) si_X5_isRow ml_X5_83 rfl ⟨rfl, rfl, Nat.le_of_ble_eq_true rfl, Nat.le_of_ble_eq_true rfl⟩ dX5_best_1 rfl (Nat.le_of_ble_eq_true rfl) ?_
  refine y_if_ne C 9 dX5_best_4 (by decide) hf (fun hf => ?_) (fun hf => ?_)
  · refine y_aload_n C dX5_best_9 rfl 0 rfl ?_
    refine g50_sitters C fl_X5_163 dX5_best_10 ?_
    refine y_if_ne C 19 dX5_best_13 (by decide) hf (fun hf => ?_) (fun hf => ?_)
    · refine y_iconst C (v := -1) dX5_best_19 (by decide) ?_
      refine y_istore_n C dX5_best_20 rfl (Nat.le_of_ble_eq_true rfl) rfl (lv' := [(2, .int (-1 : Int32)), (0, .ref (qAd E 50)), (1, .int x1)]) rfl ?_
      refine y_sipush C (v := 999) dX5_best_21 (by decide) ?_
      refine y_istore_n C dX5_best_24 rfl (Nat.le_of_ble_eq_true rfl) rfl (lv' := [(3, .int (999 : Int32)), (2, .int (-1 : Int32)), (0, .ref (qAd E 50)), (1, .int x1)]) rfl ?_
      refine y_aload_n C dX5_best_25 rfl 2 rfl ?_
      refine y_aload_n C dX5_best_26 rfl 2 rfl ?_
      refine g50_row C fl_X5_7 dX5_best_27 ?_
      refine y_iconst C (v := 2) dX5_best_30 (by decide) ?_
      refine y_ialdR C a51 (j := 2) (by decide) (by decide) dX5_best_31 ?_
      obtain ⟨q1, h_q1, hf⟩ := bd_e hf
      refine y_cVv C (kX5_beginPlans_50 l E σ τ (gM τ 51 2) _ h_q1) vi_X5_beginPlans ml_X5_258 ⟨5, _, o50, rfl, rfl⟩ rfl ⟨rfl, rfl, Nat.le_of_ble_eq_true rfl, Nat.le_of_ble_eq_true rfl⟩ dX5_best_32 rfl (Nat.le_of_ble_eq_true rfl) ?_
      refine y_sub [0, 1, 2, 3] rfl ?_
      refine lp_ind (P := fun a2 : Int32 × Int32 × QS => Y E p l e rm_X5_best_50 s m ([.ref (qAd E 50), .int x1] : List Value).toArray below meth c 7 (MQ below (PI E q.1 σ q.2) ([.ref (qAd E 50), .int x1] : List Value).toArray s 0 0 (qA E)) σ a2.2.2 35 [(3, .int a2.2.1), (2, .int a2.1), (0, .ref (qAd E 50)), (1, .int x1)] []) (fun r3 a2 ih_r3 hf => ?_) _ _ hf
      refine y_aload_n C dX5_best_35 rfl 2 rfl ?_
      obtain ⟨q4, h_q4, hf⟩ := bd_e hf
      refine y_cVi C (kX5_nextPlan_50 l E σ a2.2.2 _ h_q4) vi_X5_nextPlan ml_X5_265 ⟨5, _, o50, rfl, rfl⟩ rfl ⟨rfl, rfl, Nat.le_of_ble_eq_true rfl, Nat.le_of_ble_eq_true rfl⟩ dX5_best_36 rfl (Nat.le_of_ble_eq_true rfl) ?_
      refine y_if_eq C 161 dX5_best_39 (by decide) hf (fun hf => ?_) (fun hf => ?_)
      · refine y_aload_n C dX5_best_161 rfl 2 rfl ?_
        refine y_iload_n C dX5_best_162 rfl 0 rfl ?_
        obtain ⟨S5, e_S5, hf⟩ := lt_e hf
        refine p50_asked C fl_X5_72 e_S5 dX5_best_163 ?_
        refine y_iload_n C dX5_best_166 rfl 1 rfl ?_
        exact y_iret C (rs1 hf) rfl (rs2 hf) dX5_best_167
      · refine y_aload_n C dX5_best_42 rfl 2 rfl ?_
        refine g50_planCarried C fl_X5_56 dX5_best_43 ?_
        refine y_aload_n C dX5_best_46 rfl 2 rfl ?_
        refine g50_planMany C fl_X5_245 dX5_best_47 ?_
        obtain ⟨hi6, hf⟩ := ck_e hf
        refine y_ialdR C a65 (j := (gI q4.2 11).toNatClampNeg) rfl hi6 dX5_best_50 ?_
        obtain ⟨v7, e_v7, hf⟩ := lt_e hf
        refine y_istore C dX5_best_51 (Nat.le_of_ble_eq_true rfl) e_v7 (lv' := [(4, .int v7), (3, .int a2.2.1), (2, .int a2.1), (0, .ref (qAd E 50)), (1, .int x1)]) rfl ?_
        refine y_aload_n C dX5_best_53 rfl 3 rfl ?_
        refine g50_row C fl_X5_7 dX5_best_54 ?_
        refine y_iconst C (v := 2) dX5_best_57 (by decide) ?_
        refine y_ialdR C a51 (j := 2) (by decide) (by decide) dX5_best_58 ?_
        refine y_aload_n C dX5_best_59 rfl 3 rfl ?_
        refine g50_planPrompts C fl_X5_50 dX5_best_60 ?_
        refine y_aload_n C dX5_best_63 rfl 3 rfl ?_
        refine g50_planMany C fl_X5_245 dX5_best_64 ?_
        obtain ⟨hi8, hf⟩ := ck_e hf
        refine y_ialdR C a63 (j := (gI q4.2 11).toNatClampNeg) rfl hi8 dX5_best_67 ?_
        refine y_isub C dX5_best_68 ?_
        obtain ⟨v9, e_v9, hf⟩ := lt_e hf
        refine y_istore C dX5_best_69 (Nat.le_of_ble_eq_true rfl) e_v9 (lv' := [(5, .int v9), (4, .int v7), (3, .int a2.2.1), (2, .int a2.1), (0, .ref (qAd E 50)), (1, .int x1)]) rfl ?_
        refine y_iload C dX5_best_71 1 rfl ?_
        refine y_iload_n C dX5_best_73 rfl 3 rfl ?_
        obtain ⟨j10, ek_j10, hf⟩ := lt_e hf
        have h_j10 : ∀ (_ : Unit), j10 () = some q → Y E p l e rm_X5_best_50 s m ([.ref (qAd E 50), .int x1] : List Value).toArray below meth c 7 (MQ below (PI E q.1 σ q.2) ([.ref (qAd E 50), .int x1] : List Value).toArray s 0 0 (qA E)) σ q4.2 89 [(0, .ref (qAd E 50)), (1, .int x1), (4, .int v7), (5, .int v9)] [] := by
          intro _ hf
          replace hf := (congrFun (ek_j10) ()).symm.trans hf
          refine y_iload C dX5_best_89 2 rfl ?_
          refine y_istore_n C dX5_best_91 rfl (Nat.le_of_ble_eq_true rfl) rfl (lv' := [(2, .int v7), (0, .ref (qAd E 50)), (1, .int x1), (4, .int v7), (5, .int v9)]) rfl ?_
          refine y_iload C dX5_best_92 4 rfl ?_
          refine y_istore_n C dX5_best_94 rfl (Nat.le_of_ble_eq_true rfl) rfl (lv' := [(3, .int v9), (2, .int v7), (0, .ref (qAd E 50)), (1, .int x1), (4, .int v7), (5, .int v9)]) rfl ?_
          refine y_aload_n C dX5_best_95 rfl 2 rfl ?_
          refine y_iload_n C dX5_best_96 rfl 3 rfl ?_
          refine y_aload_n C dX5_best_97 rfl 2 rfl ?_
          refine g50_planMany C fl_X5_245 dX5_best_98 ?_
          obtain ⟨q11, h_q11, hf⟩ := bd_e hf
          refine y_cVv C (kX5_makeRow_50 l E σ q4.2 x1 (gI q4.2 11) _ h_q11) vi_X5_makeRow ml_X5_91 ⟨5, _, o50, rfl, rfl⟩ rfl ⟨rfl, rfl, Nat.le_of_ble_eq_true rfl, Nat.le_of_ble_eq_true rfl⟩ dX5_best_101 rfl (Nat.le_of_ble_eq_true rfl) ?_
          refine y_iconst C (v := 0) dX5_best_104 (by decide) ?_
          refine y_istore C dX5_best_105 (Nat.le_of_ble_eq_true rfl) rfl (lv' := [(6, .int (0 : Int32)), (3, .int v9), (2, .int v7), (0, .ref (qAd E 50)), (1, .int x1), (4, .int v7), (5, .int v9)]) rfl ?_
          refine y_sub [0, 1, 2, 3, 4] rfl ?_
          refine lp_ind (P := fun a12 : Int32 × QS => Y E p l e rm_X5_best_50 s m ([.ref (qAd E 50), .int x1] : List Value).toArray below meth c 7 (MQ below (PI E q.1 σ q.2) ([.ref (qAd E 50), .int x1] : List Value).toArray s 0 0 (qA E)) σ a12.2 107 [(6, .int a12.1), (3, .int v9), (2, .int v7), (0, .ref (qAd E 50)), (1, .int x1)] []) (fun r13 a12 ih_r13 hf => ?_) _ _ hf
          refine y_iload C dX5_best_107 0 rfl ?_
          refine y_aload_n C dX5_best_109 rfl 3 rfl ?_
          refine g50_planMany C fl_X5_245 dX5_best_110 ?_
          refine y_icmp_ge C 158 dX5_best_113 (by decide) hf (fun hf => ?_) (fun hf => ?_)
          · refine y_goto C 35 dX5_best_158 (by decide) ?_
            refine y_sub [1, 2, 3, 4] rfl ?_
            exact ih_r3 (v7, v9, a12.2) hf
          · refine y_aload_n C dX5_best_116 rfl 3 rfl ?_
            refine g50_items C fl_X5_28 dX5_best_117 ?_
            refine y_bipush C (v := 40) dX5_best_120 (by decide) ?_
            refine y_iload_n C dX5_best_122 rfl 4 rfl ?_
            refine y_imul C dX5_best_123 ?_
            refine y_iload C dX5_best_124 0 rfl ?_
            refine y_iadd C dX5_best_126 ?_
            refine y_aload_n C dX5_best_127 rfl 3 rfl ?_
            refine g50_choices C fl_X5_62 dX5_best_128 ?_
            refine y_iload C dX5_best_131 0 rfl ?_
            obtain ⟨hi14, hf⟩ := ck_e hf
            refine y_ialdR C a67 (j := a12.1.toNatClampNeg) rfl hi14 dX5_best_133 ?_
            obtain ⟨j15, ek_j15, hf⟩ := lt_e hf
            have h_j15 : ∀ (v16 : Int32), j15 v16 = some q → Y E p l e rm_X5_best_50 s m ([.ref (qAd E 50), .int x1] : List Value).toArray below meth c 7 (MQ below (PI E q.1 σ q.2) ([.ref (qAd E 50), .int x1] : List Value).toArray s 0 0 (qA E)) σ a12.2 151 [(0, .ref (qAd E 50)), (1, .int x1), (2, .int v7), (3, .int v9), (6, .int a12.1)] [.int v16, .int (((40 : Int32) * x1) + a12.1), .ref (qAd E 57)] := by
              intro v16 hf
              replace hf := (congrFun (ek_j15) v16).symm.trans hf
              obtain ⟨hi17, hf⟩ := ck_e hf
              obtain ⟨S18, e_S18, hf⟩ := lt_e hf
              refine y_iastR C a57 (j := (((40 : Int32) * x1) + a12.1).toNatClampNeg) rfl hi17 e_S18 dX5_best_151 ?_
              refine y_iinc C dX5_best_152 4 rfl (Nat.le_of_ble_eq_true rfl) (k2 := 1) (by decide) rfl (lv' := [(6, .int (a12.1 + (1 : Int32))), (0, .ref (qAd E 50)), (1, .int x1), (2, .int v7), (3, .int v9)]) rfl ?_
              refine y_goto C 107 dX5_best_155 (by decide) ?_
              refine y_sub [0, 4, 3, 1, 2] rfl ?_
              exact ih_r13 ((a12.1 + (1 : Int32)), S18) hf
            refine y_if_ne C 142 dX5_best_134 (by decide) hf (fun hf => ?_) (fun hf => ?_)
            · refine y_aload_n C dX5_best_142 rfl 3 rfl ?_
              refine g50_choices C fl_X5_62 dX5_best_143 ?_
              refine y_iload C dX5_best_146 0 rfl ?_
              obtain ⟨hi19, hf⟩ := ck_e hf
              refine y_ialdR C a67 (j := a12.1.toNatClampNeg) rfl hi19 dX5_best_148 ?_
              refine y_iconst C (v := 1) dX5_best_149 (by decide) ?_
              refine y_isub C dX5_best_150 ?_
              refine y_sub [3, 4, 2, 1, 0] rfl ?_
              exact h_j15 ((gM a12.2 67 a12.1.toNatClampNeg) - (1 : Int32)) hf
            · refine y_bipush C (v := -9) dX5_best_137 (by decide) ?_
              refine y_goto C 151 dX5_best_139 (by decide) ?_
              refine y_sub [3, 4, 2, 1, 0] rfl ?_
              exact h_j15 (-9 : Int32) hf
        refine y_icmp_gt C 89 dX5_best_74 (by decide) hf (fun hf => ?_) (fun hf => ?_)
        · refine y_sub [4, 5, 1, 0] rfl ?_
          exact h_j10 () hf
        · refine y_iload C dX5_best_77 1 rfl ?_
          refine y_iload_n C dX5_best_79 rfl 3 rfl ?_
          refine y_icmp_ne C 158 dX5_best_80 (by decide) hf (fun hf => ?_) (fun hf => ?_)
          · refine y_goto C 35 dX5_best_158 (by decide) ?_
            refine y_sub [2, 3, 4, 5] rfl ?_
            exact ih_r3 (a2.1, a2.2.1, q4.2) hf
          · refine y_iload C dX5_best_83 0 rfl ?_
            refine y_iload_n C dX5_best_85 rfl 2 rfl ?_
            refine y_icmp_ge C 158 dX5_best_86 (by decide) hf (fun hf => ?_) (fun hf => ?_)
            · refine y_goto C 35 dX5_best_158 (by decide) ?_
              refine y_sub [2, 3, 4, 5] rfl ?_
              exact ih_r3 (a2.1, a2.2.1, q4.2) hf
            · refine y_sub [4, 5, 1, 0] rfl ?_
              exact h_j10 () hf
    · refine y_bipush C (v := -4) dX5_best_16 (by decide) ?_
      exact y_iret C (rs1 hf) rfl (rs2 hf) dX5_best_18
  · refine y_iconst C (v := -1) dX5_best_7 (by decide) ?_
    exact y_iret C (rs1 hf) rfl (rs2 hf) dX5_best_8
noncomputable def fX2_seekLeast_7 : Nat → Int32 → Int32 → Int32 → Int32 → QS → Option (QS)
  | 0, _, _, _, _, _ => none
  | d + 1, x1, x2, x3, x4, σ =>
    (if x4 < (gI σ 21) then (if x1 < (gI σ 8) then lp_ (fun (r2 : Int32 × QS → Option (QS)) (a1 : Int32 × QS) => (if (gI a1.2 9) ≤ a1.1 then some a1.2 else (if (fX2_isFree_7 a1.1 x2 a1.2) = 0 then r2 ((a1.1 + (1 : Int32)), a1.2) else Option.bind (fX1_lacking_5 a1.1 x1 x2 x3 a1.2) (fun (q3 : Int32) => ck_ (inb x1 6) (lt_ (pM a1.2 27 (upd (gM a1.2 27) x1.toNatClampNeg a1.1)) (fun (S5 : QS) => Option.bind (fX2_seekLeast_7 d (x1 + (1 : Int32)) (x2 ||| ((1 : Int32) <<< (a1.1 &&& 31))) (fX2_clappingBehind x3 q3 q3) (x4 + q3) S5) (fun (q6 : QS) => r2 ((a1.1 + (1 : Int32)), q6)))))))) FV ((0 : Int32), σ) else lt_ (pI σ 21 x4) (fun (S7 : QS) => lt_ (fun (v9 : Int32) => lt_ (pI S7 22 v9) (fun (S10 : QS) => some S10)) (fun (j8 : Int32 → Option (QS)) => (if x1 ≤ (gI S7 13) then j8 (-9 : Int32) else ck_ (inb (gI S7 13) 6) (j8 (gM S7 27 ((gI S7 13).toNatClampNeg))))))) else some σ)
def rm_X2_seekLeast_7 (d : Nat) : Room := { frames := 4 + d, cells := 0, slots := 0, locals := 94 + d * 26 }
theorem rk_X2_seekLeast_7_self (d : Nat) : rmOk (rm_X2_seekLeast_7 d) (rm_X2_seekLeast_7 (d + 1)) 7 := by
  refine ⟨rfl, rfl, ?_, ?_⟩ <;> simp only [rm_X2_seekLeast_7] <;> omega
set_option maxRecDepth 100000 in
set_option maxHeartbeats 4000000 in
theorem kX2_seekLeast_7 (l : Launch) (E : QE) : ∀ (d : Nat) (σ τ : QS) (x1 : Int32) (x2 : Int32) (x3 : Int32) (x4 : Int32) (q : QS) (hf : fX2_seekLeast_7 d x1 x2 x3 x4 σ = some q), KQ l yX2_seekLeast cX2_seekLeast 7 none (rm_X2_seekLeast_7 d) E [.ref (qAd E 7), .int x1, .int x2, .int x3, .int x4] σ τ (PV E q τ) := by
  intro d
  induction d with
  | zero =>
    intro σ τ x1 x2 x3 x4 q hf
    cases hf
  | succ d ihd =>
    intro σ τ x1 x2 x3 x4 q hf
    rw [fX2_seekLeast_7] at hf
    refine y_met rfl (Nat.le_of_ble_eq_true rfl) rfl (fun p e s m below meth c C => ?_)
    refine y_iload C dX2_seekLeast_0 4 rfl ?_
    refine y_aload_n C dX2_seekLeast_2 rfl 0 rfl ?_
    refine g7_fewestGone C fl_X2_115 dX2_seekLeast_3 ?_
    refine y_icmp_lt C 10 dX2_seekLeast_6 (by decide) hf (fun hf => ?_) (fun hf => ?_)
    · refine y_iload_n C dX2_seekLeast_10 rfl 1 rfl ?_
      refine y_aload_n C dX2_seekLeast_11 rfl 0 rfl ?_
      refine g7_script C fl_X2_33 dX2_seekLeast_12 ?_
      refine gN5_sceneCount C fn_X2_48 dX2_seekLeast_15 ?_
      refine y_icmp_lt C 60 dX2_seekLeast_18 (by decide) hf (fun hf => ?_) (fun hf => ?_)
      · refine y_iconst C (v := 0) dX2_seekLeast_60 (by decide) ?_
        refine y_istore C dX2_seekLeast_61 (Nat.le_of_ble_eq_true rfl) rfl (lv' := [(5, .int (0 : Int32)), (0, .ref (qAd E 7)), (1, .int x1), (2, .int x2), (3, .int x3), (4, .int x4)]) rfl ?_
        refine y_sub [0, 1, 2, 3, 4, 5] rfl ?_
        refine lp_ind (P := fun a1 : Int32 × QS => Y E p l e (rm_X2_seekLeast_7 (d + 1)) s m ([.ref (qAd E 7), .int x1, .int x2, .int x3, .int x4] : List Value).toArray below meth c 7 (MQ below (PV E q τ) ([.ref (qAd E 7), .int x1, .int x2, .int x3, .int x4] : List Value).toArray s 0 0 (qA E)) a1.2 τ 63 [(5, .int a1.1), (0, .ref (qAd E 7)), (1, .int x1), (2, .int x2), (3, .int x3), (4, .int x4)] []) (fun r2 a1 ih_r2 hf => ?_) _ _ hf
        refine y_iload C dX2_seekLeast_63 0 rfl ?_
        refine y_aload_n C dX2_seekLeast_65 rfl 1 rfl ?_
        refine g7_script C fl_X2_33 dX2_seekLeast_66 ?_
        refine gN5_sitterCount C fn_X2_109 dX2_seekLeast_69 ?_
        refine y_icmp_ge C 139 dX2_seekLeast_72 (by decide) hf (fun hf => ?_) (fun hf => ?_)
        · exact y_vret C (Option.some.inj hf) rfl dX2_seekLeast_139
        · refine y_aload_n C dX2_seekLeast_75 rfl 1 rfl ?_
          refine y_iload C dX2_seekLeast_76 0 rfl ?_
          refine y_iload_n C dX2_seekLeast_78 rfl 3 rfl ?_
          refine y_cVi C (kX2_isFree_7 l E a1.2 τ a1.1 x2 _ rfl) vi_X2_isFree ml_X2_112 ⟨2, _, o7, rfl, rfl⟩ rfl (by refine ⟨rfl, rfl, ?_, ?_⟩ <;> simp only [rm_X2_isFree_7, rm_X2_seekLeast_7] <;> omega) dX2_seekLeast_79 rfl (Nat.le_of_ble_eq_true rfl) ?_
          refine y_if_eq C 133 dX2_seekLeast_82 (by decide) hf (fun hf => ?_) (fun hf => ?_)
          · refine y_iinc C dX2_seekLeast_133 0 rfl (Nat.le_of_ble_eq_true rfl) (k2 := 1) (by decide) rfl (lv' := [(5, .int (a1.1 + (1 : Int32))), (0, .ref (qAd E 7)), (1, .int x1), (2, .int x2), (3, .int x3), (4, .int x4)]) rfl ?_
            refine y_goto C 63 dX2_seekLeast_136 (by decide) ?_
            refine y_sub [0, 1, 2, 3, 4, 5] rfl ?_
            exact ih_r2 ((a1.1 + (1 : Int32)), a1.2) hf
          · refine y_aload_n C dX2_seekLeast_85 rfl 1 rfl ?_
            refine g7_script C fl_X2_33 dX2_seekLeast_86 ?_
            refine y_iload C dX2_seekLeast_89 0 rfl ?_
            refine y_iload_n C dX2_seekLeast_91 rfl 2 rfl ?_
            refine y_iload_n C dX2_seekLeast_92 rfl 3 rfl ?_
            refine y_iload_n C dX2_seekLeast_93 rfl 4 rfl ?_
            obtain ⟨q3, h_q3, hf⟩ := bd_e hf
            refine y_cVi C (kX1_lacking_5 l E a1.2 τ a1.1 x1 x2 x3 _ h_q3) vi_X1_lacking ml_X2_85 ⟨1, _, o5, rfl, rfl⟩ rfl (by refine ⟨rfl, rfl, ?_, ?_⟩ <;> simp only [rm_X1_lacking_5, rm_X2_seekLeast_7] <;> omega) dX2_seekLeast_94 rfl (Nat.le_of_ble_eq_true rfl) ?_
            refine y_istore C dX2_seekLeast_97 (Nat.le_of_ble_eq_true rfl) rfl (lv' := [(6, .int q3), (5, .int a1.1), (0, .ref (qAd E 7)), (1, .int x1), (2, .int x2), (3, .int x3), (4, .int x4)]) rfl ?_
            refine y_aload_n C dX2_seekLeast_99 rfl 2 rfl ?_
            refine g7_path C fl_X2_9 dX2_seekLeast_100 ?_
            refine y_iload_n C dX2_seekLeast_103 rfl 3 rfl ?_
            refine y_iload C dX2_seekLeast_104 1 rfl ?_
            obtain ⟨hi4, hf⟩ := ck_e hf
            obtain ⟨S5, e_S5, hf⟩ := lt_e hf
            refine y_iastC C a27 (j := x1.toNatClampNeg) rfl hi4 e_S5 dX2_seekLeast_106 ?_
            refine y_aload_n C dX2_seekLeast_107 rfl 2 rfl ?_
            refine y_iload_n C dX2_seekLeast_108 rfl 3 rfl ?_
            refine y_iconst C (v := 1) dX2_seekLeast_109 (by decide) ?_
            refine y_iadd C dX2_seekLeast_110 ?_
            refine y_iload_n C dX2_seekLeast_111 rfl 4 rfl ?_
            refine y_iconst C (v := 1) dX2_seekLeast_112 (by decide) ?_
            refine y_iload C dX2_seekLeast_113 1 rfl ?_
            refine y_ishl C dX2_seekLeast_115 ?_
            refine y_ior C dX2_seekLeast_116 ?_
            refine y_iload_n C dX2_seekLeast_117 rfl 5 rfl ?_
            refine y_iload C dX2_seekLeast_118 0 rfl ?_
            refine y_iload C dX2_seekLeast_120 0 rfl ?_
            refine y_cSi C (kX2_clappingBehind l E S5 τ x3 q3 q3 _ rfl) si_X2_clappingBehind ml_X2_89 rfl (by refine ⟨rfl, rfl, ?_, ?_⟩ <;> simp only [rm_X2_clappingBehind, rm_X2_seekLeast_7] <;> omega) dX2_seekLeast_122 rfl (Nat.le_of_ble_eq_true rfl) ?_
            refine y_iload C dX2_seekLeast_125 6 rfl ?_
            refine y_iload C dX2_seekLeast_127 0 rfl ?_
            refine y_iadd C dX2_seekLeast_129 ?_
            obtain ⟨q6, h_q6, hf⟩ := bd_e hf
            refine y_cVv C (ihd S5 τ (x1 + (1 : Int32)) (x2 ||| ((1 : Int32) <<< (a1.1 &&& 31))) (fX2_clappingBehind x3 q3 q3) (x4 + q3) _ h_q6) vi_X2_seekLeast ml_X2_133 ⟨2, _, o7, rfl, rfl⟩ rfl (rk_X2_seekLeast_7_self d) dX2_seekLeast_130 rfl (Nat.le_of_ble_eq_true rfl) ?_
            refine y_iinc C dX2_seekLeast_133 1 rfl (Nat.le_of_ble_eq_true rfl) (k2 := 1) (by decide) rfl (lv' := [(5, .int (a1.1 + (1 : Int32))), (6, .int q3), (0, .ref (qAd E 7)), (1, .int x1), (2, .int x2), (3, .int x3), (4, .int x4)]) rfl ?_
            refine y_goto C 63 dX2_seekLeast_136 (by decide) ?_
            refine y_sub [0, 2, 3, 4, 5, 6] rfl ?_
            exact ih_r2 ((a1.1 + (1 : Int32)), q6) hf
      · refine y_aload_n C dX2_seekLeast_21 rfl 0 rfl ?_
        refine y_iload C dX2_seekLeast_22 4 rfl ?_
        obtain ⟨S7, e_S7, hf⟩ := lt_e hf
        refine p7_fewestGone C fl_X2_115 e_S7 dX2_seekLeast_24 ?_
        refine y_aload_n C dX2_seekLeast_27 rfl 0 rfl ?_
        refine y_iload_n C dX2_seekLeast_28 rfl 1 rfl ?_
        refine y_aload_n C dX2_seekLeast_29 rfl 0 rfl ?_
        refine g7_night C fl_X2_23 dX2_seekLeast_30 ?_
        refine gN6_scene C fn_X2_82 dX2_seekLeast_33 ?_
        obtain ⟨j8, ek_j8, hf⟩ := lt_e hf
        have h_j8 : ∀ (v9 : Int32), j8 v9 = some q → Y E p l e (rm_X2_seekLeast_7 (d + 1)) s m ([.ref (qAd E 7), .int x1, .int x2, .int x3, .int x4] : List Value).toArray below meth c 7 (MQ below (PV E q τ) ([.ref (qAd E 7), .int x1, .int x2, .int x3, .int x4] : List Value).toArray s 0 0 (qA E)) S7 τ 56 [] [.int v9, .ref (qAd E 7)] := by
          intro v9 hf
          replace hf := (congrFun (ek_j8) v9).symm.trans hf
          obtain ⟨S10, e_S10, hf⟩ := lt_e hf
          refine p7_firstCalled C fl_X2_130 e_S10 dX2_seekLeast_56 ?_
          exact y_vret C (Option.some.inj hf) rfl dX2_seekLeast_59
        refine y_icmp_le C 54 dX2_seekLeast_36 (by decide) hf (fun hf => ?_) (fun hf => ?_)
        · refine y_bipush C (v := -9) dX2_seekLeast_54 (by decide) ?_
          refine y_sub [] rfl ?_
          exact h_j8 (-9 : Int32) hf
        · refine y_aload_n C dX2_seekLeast_39 rfl 0 rfl ?_
          refine g7_path C fl_X2_9 dX2_seekLeast_40 ?_
          refine y_aload_n C dX2_seekLeast_43 rfl 0 rfl ?_
          refine g7_night C fl_X2_23 dX2_seekLeast_44 ?_
          refine gN6_scene C fn_X2_82 dX2_seekLeast_47 ?_
          obtain ⟨hi11, hf⟩ := ck_e hf
          refine y_ialdC C a27 (j := (gI S7 13).toNatClampNeg) rfl hi11 dX2_seekLeast_50 ?_
          refine y_goto C 56 dX2_seekLeast_51 (by decide) ?_
          refine y_sub [] rfl ?_
          exact h_j8 (gM S7 27 ((gI S7 13).toNatClampNeg)) hf
    · exact y_vret C (Option.some.inj hf) rfl dX2_seekLeast_9
