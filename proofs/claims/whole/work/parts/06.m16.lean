noncomputable def fX2_duelFrom_7 : Nat → Int32 → Int32 → Int32 → Int32 → Int32 → Int32 → QS → Option (Int32)
  | 0, _, _, _, _, _, _, _ => none
  | d + 1, x1, x2, x3, x4, x5, x6, σ =>
    (if x2 ≤ x1 then some (0 : Int32) else (if (gI σ 8) ≤ x1 then some (0 : Int32) else (if (fX2_freeCount_7 x3 σ) = 0 then some (0 : Int32) else (if x6 = 0 then lp_ (fun (r2 : Int32 × Int32 → Option (Int32)) (a1 : Int32 × Int32) => (if (gI σ 9) ≤ a1.2 then some a1.1 else (if (fX2_isFree_7 a1.2 x3 σ) = 0 then r2 (a1.1, (a1.2 + (1 : Int32))) else Option.bind (fX1_lacking_5 a1.2 x1 x3 x4 σ) (fun (q3 : Int32) => lt_ (fun (v5 : Int32) => lt_ (fun (v7 : Int32) => Option.bind (fX2_duelFrom_7 d (x1 + (1 : Int32)) x2 (x3 ||| ((1 : Int32) <<< (a1.2 &&& 31))) (fX2_clappingBehind x4 q3 x5) (fX2_promptsBehind q3 x5) v7 σ) (fun (q8 : Int32) => lt_ (v5 + q8) (fun (v9 : Int32) => (if x6 = 0 then lt_ (fJ9_min_7cf53 a1.1 v9) (fun (v10 : Int32) => r2 (v10, (a1.2 + (1 : Int32)))) else lt_ (fJ9_max_7cf53 a1.1 v9) (fun (v11 : Int32) => r2 (v11, (a1.2 + (1 : Int32)))))))) (fun (j6 : Int32 → Option (Int32)) => (if x6 = 0 then j6 (1 : Int32) else j6 (0 : Int32)))) (fun (j4 : Int32 → Option (Int32)) => (if x5 < q3 then j4 (0 : Int32) else j4 (1 : Int32))))))) FV ((7 : Int32), (0 : Int32)) else lp_ (fun (r13 : Int32 × Int32 → Option (Int32)) (a12 : Int32 × Int32) => (if (gI σ 9) ≤ a12.2 then some a12.1 else (if (fX2_isFree_7 a12.2 x3 σ) = 0 then r13 (a12.1, (a12.2 + (1 : Int32))) else Option.bind (fX1_lacking_5 a12.2 x1 x3 x4 σ) (fun (q14 : Int32) => lt_ (fun (v16 : Int32) => lt_ (fun (v18 : Int32) => Option.bind (fX2_duelFrom_7 d (x1 + (1 : Int32)) x2 (x3 ||| ((1 : Int32) <<< (a12.2 &&& 31))) (fX2_clappingBehind x4 q14 x5) (fX2_promptsBehind q14 x5) v18 σ) (fun (q19 : Int32) => lt_ (v16 + q19) (fun (v20 : Int32) => (if x6 = 0 then lt_ (fJ9_min_7cf53 a12.1 v20) (fun (v21 : Int32) => r13 (v21, (a12.2 + (1 : Int32)))) else lt_ (fJ9_max_7cf53 a12.1 v20) (fun (v22 : Int32) => r13 (v22, (a12.2 + (1 : Int32)))))))) (fun (j17 : Int32 → Option (Int32)) => (if x6 = 0 then j17 (1 : Int32) else j17 (0 : Int32)))) (fun (j15 : Int32 → Option (Int32)) => (if x5 < q14 then j15 (0 : Int32) else j15 (1 : Int32))))))) FV ((-1 : Int32), (0 : Int32))))))
def rm_X2_duelFrom_7 (d : Nat) : Room := { frames := 4 + d, cells := 0, slots := 0, locals := 94 + d * 30 }
theorem rk_X2_duelFrom_7_self (d : Nat) : rmOk (rm_X2_duelFrom_7 d) (rm_X2_duelFrom_7 (d + 1)) 11 := by
  refine ⟨rfl, rfl, ?_, ?_⟩ <;> simp only [rm_X2_duelFrom_7] <;> omega
set_option maxRecDepth 100000 in
set_option maxHeartbeats 4000000 in
theorem kX2_duelFrom_7 (l : Launch) (E : QE) : ∀ (d : Nat) (σ τ : QS) (x1 : Int32) (x2 : Int32) (x3 : Int32) (x4 : Int32) (x5 : Int32) (x6 : Int32) (q : Int32) (hf : fX2_duelFrom_7 d x1 x2 x3 x4 x5 x6 σ = some q), KQ l yX2_duelFrom cX2_duelFrom 11 (some .int) (rm_X2_duelFrom_7 d) E [.ref (qAd E 7), .int x1, .int x2, .int x3, .int x4, .int x5, .int x6] σ τ (PI E q σ τ) := by
  intro d
  induction d with
  | zero =>
    intro σ τ x1 x2 x3 x4 x5 x6 q hf
    cases hf
  | succ d ihd =>
    intro σ τ x1 x2 x3 x4 x5 x6 q hf
    rw [fX2_duelFrom_7] at hf
    refine y_met rfl (Nat.le_of_ble_eq_true rfl) rfl (fun p e s m below meth c C => ?_)
    refine y_iload_n C dX2_duelFrom_0 rfl 1 rfl ?_
    refine y_iload_n C dX2_duelFrom_1 rfl 2 rfl ?_
    refine y_icmp_ge C 24 dX2_duelFrom_2 (by decide) hf (fun hf => ?_) (fun hf => ?_)
    · refine y_iconst C (v := 0) dX2_duelFrom_24 (by decide) ?_
      exact y_iret C (Option.some.inj hf) rfl rfl dX2_duelFrom_25
    · refine y_iload_n C dX2_duelFrom_5 rfl 1 rfl ?_
      refine y_aload_n C dX2_duelFrom_6 rfl 0 rfl ?_
      refine g7_script C fl_X2_33 dX2_duelFrom_7 ?_
      refine gN5_sceneCount C fn_X2_48 dX2_duelFrom_10 ?_
      refine y_icmp_ge C 24 dX2_duelFrom_13 (by decide) hf (fun hf => ?_) (fun hf => ?_)
      · refine y_iconst C (v := 0) dX2_duelFrom_24 (by decide) ?_
        exact y_iret C (Option.some.inj hf) rfl rfl dX2_duelFrom_25
      · refine y_aload_n C dX2_duelFrom_16 rfl 0 rfl ?_
        refine y_iload_n C dX2_duelFrom_17 rfl 3 rfl ?_
        refine y_cVi C (kX2_freeCount_7 l E σ τ x3 _ rfl) vi_X2_freeCount ml_X2_53 ⟨2, _, o7, rfl, rfl⟩ rfl (by refine ⟨rfl, rfl, ?_, ?_⟩ <;> simp only [rm_X2_freeCount_7, rm_X2_duelFrom_7] <;> omega) dX2_duelFrom_18 rfl (Nat.le_of_ble_eq_true rfl) ?_
        refine y_if_ne C 26 dX2_duelFrom_21 (by decide) hf (fun hf => ?_) (fun hf => ?_)
        · refine y_iload C dX2_duelFrom_26 6 rfl ?_
          refine y_if_eq C 35 dX2_duelFrom_28 (by decide) hf (fun hf => ?_) (fun hf => ?_)
          · refine y_bipush C (v := 7) dX2_duelFrom_35 (by decide) ?_
            refine y_istore C dX2_duelFrom_37 (Nat.le_of_ble_eq_true rfl) rfl (lv' := [(7, .int (7 : Int32)), (0, .ref (qAd E 7)), (1, .int x1), (2, .int x2), (3, .int x3), (4, .int x4), (5, .int x5), (6, .int x6)]) rfl ?_
            refine y_iconst C (v := 0) dX2_duelFrom_39 (by decide) ?_
            refine y_istore C dX2_duelFrom_40 (Nat.le_of_ble_eq_true rfl) rfl (lv' := [(8, .int (0 : Int32)), (7, .int (7 : Int32)), (0, .ref (qAd E 7)), (1, .int x1), (2, .int x2), (3, .int x3), (4, .int x4), (5, .int x5), (6, .int x6)]) rfl ?_
            refine y_sub [0, 1, 2, 3, 4, 5, 6, 7, 8] rfl ?_
            refine lp_ind (P := fun a1 : Int32 × Int32 => Y E p l e (rm_X2_duelFrom_7 (d + 1)) s m ([.ref (qAd E 7), .int x1, .int x2, .int x3, .int x4, .int x5, .int x6] : List Value).toArray below meth c 11 (MQ below (PI E q σ τ) ([.ref (qAd E 7), .int x1, .int x2, .int x3, .int x4, .int x5, .int x6] : List Value).toArray s 0 0 (qA E)) σ τ 42 [(8, .int a1.2), (7, .int a1.1), (0, .ref (qAd E 7)), (1, .int x1), (2, .int x2), (3, .int x3), (4, .int x4), (5, .int x5), (6, .int x6)] []) (fun r2 a1 ih_r2 hf => ?_) _ _ hf
            refine y_iload C dX2_duelFrom_42 0 rfl ?_
            refine y_aload_n C dX2_duelFrom_44 rfl 2 rfl ?_
            refine g7_script C fl_X2_33 dX2_duelFrom_45 ?_
            refine gN5_sitterCount C fn_X2_109 dX2_duelFrom_48 ?_
            refine y_icmp_ge C 164 dX2_duelFrom_51 (by decide) hf (fun hf => ?_) (fun hf => ?_)
            · refine y_iload C dX2_duelFrom_164 1 rfl ?_
              exact y_iret C (Option.some.inj hf) rfl rfl dX2_duelFrom_166
            · refine y_aload_n C dX2_duelFrom_54 rfl 2 rfl ?_
              refine y_iload C dX2_duelFrom_55 0 rfl ?_
              refine y_iload_n C dX2_duelFrom_57 rfl 5 rfl ?_
              refine y_cVi C (kX2_isFree_7 l E σ τ a1.2 x3 _ rfl) vi_X2_isFree ml_X2_112 ⟨2, _, o7, rfl, rfl⟩ rfl (by refine ⟨rfl, rfl, ?_, ?_⟩ <;> simp only [rm_X2_isFree_7, rm_X2_duelFrom_7] <;> omega) dX2_duelFrom_58 rfl (Nat.le_of_ble_eq_true rfl) ?_
              refine y_if_eq C 158 dX2_duelFrom_61 (by decide) hf (fun hf => ?_) (fun hf => ?_)
              · refine y_iinc C dX2_duelFrom_158 0 rfl (Nat.le_of_ble_eq_true rfl) (k2 := 1) (by decide) rfl (lv' := [(8, .int (a1.2 + (1 : Int32))), (7, .int a1.1), (0, .ref (qAd E 7)), (1, .int x1), (2, .int x2), (3, .int x3), (4, .int x4), (5, .int x5), (6, .int x6)]) rfl ?_
                refine y_goto C 42 dX2_duelFrom_161 (by decide) ?_
                refine y_sub [0, 1, 2, 3, 4, 5, 6, 7, 8] rfl ?_
                exact ih_r2 (a1.1, (a1.2 + (1 : Int32))) hf
              · refine y_aload_n C dX2_duelFrom_64 rfl 2 rfl ?_
                refine g7_script C fl_X2_33 dX2_duelFrom_65 ?_
                refine y_iload C dX2_duelFrom_68 0 rfl ?_
                refine y_iload_n C dX2_duelFrom_70 rfl 3 rfl ?_
                refine y_iload_n C dX2_duelFrom_71 rfl 5 rfl ?_
                refine y_iload C dX2_duelFrom_72 6 rfl ?_
                obtain ⟨q3, h_q3, hf⟩ := bd_e hf
                refine y_cVi C (kX1_lacking_5 l E σ τ a1.2 x1 x3 x4 _ h_q3) vi_X1_lacking ml_X2_85 ⟨1, _, o5, rfl, rfl⟩ rfl (by refine ⟨rfl, rfl, ?_, ?_⟩ <;> simp only [rm_X1_lacking_5, rm_X2_duelFrom_7] <;> omega) dX2_duelFrom_74 rfl (Nat.le_of_ble_eq_true rfl) ?_
                refine y_istore C dX2_duelFrom_77 (Nat.le_of_ble_eq_true rfl) rfl (lv' := [(9, .int q3), (8, .int a1.2), (7, .int a1.1), (0, .ref (qAd E 7)), (1, .int x1), (2, .int x2), (3, .int x3), (4, .int x4), (5, .int x5), (6, .int x6)]) rfl ?_
                refine y_iload C dX2_duelFrom_79 0 rfl ?_
                refine y_iload C dX2_duelFrom_81 8 rfl ?_
                obtain ⟨j4, ek_j4, hf⟩ := lt_e hf
                have h_j4 : ∀ (v5 : Int32), j4 v5 = some q → Y E p l e (rm_X2_duelFrom_7 (d + 1)) s m ([.ref (qAd E 7), .int x1, .int x2, .int x3, .int x4, .int x5, .int x6] : List Value).toArray below meth c 11 (MQ below (PI E q σ τ) ([.ref (qAd E 7), .int x1, .int x2, .int x3, .int x4, .int x5, .int x6] : List Value).toArray s 0 0 (qA E)) σ τ 91 [(0, .ref (qAd E 7)), (1, .int x1), (2, .int x2), (3, .int x3), (4, .int x4), (5, .int x5), (6, .int x6), (7, .int a1.1), (8, .int a1.2), (9, .int q3)] [.int v5] := by
                  intro v5 hf
                  replace hf := (congrFun (ek_j4) v5).symm.trans hf
                  refine y_aload_n C dX2_duelFrom_91 rfl 0 rfl ?_
                  refine y_iload_n C dX2_duelFrom_92 rfl 1 rfl ?_
                  refine y_iconst C (v := 1) dX2_duelFrom_93 (by decide) ?_
                  refine y_iadd C dX2_duelFrom_94 ?_
                  refine y_iload_n C dX2_duelFrom_95 rfl 2 rfl ?_
                  refine y_iload_n C dX2_duelFrom_96 rfl 3 rfl ?_
                  refine y_iconst C (v := 1) dX2_duelFrom_97 (by decide) ?_
                  refine y_iload C dX2_duelFrom_98 8 rfl ?_
                  refine y_ishl C dX2_duelFrom_100 ?_
                  refine y_ior C dX2_duelFrom_101 ?_
                  refine y_iload C dX2_duelFrom_102 4 rfl ?_
                  refine y_iload C dX2_duelFrom_104 9 rfl ?_
                  refine y_iload C dX2_duelFrom_106 5 rfl ?_
                  refine y_cSi C (kX2_clappingBehind l E σ τ x4 q3 x5 _ rfl) si_X2_clappingBehind ml_X2_89 rfl (by refine ⟨rfl, rfl, ?_, ?_⟩ <;> simp only [rm_X2_clappingBehind, rm_X2_duelFrom_7] <;> omega) dX2_duelFrom_108 rfl (Nat.le_of_ble_eq_true rfl) ?_
                  refine y_iload C dX2_duelFrom_111 9 rfl ?_
                  refine y_iload C dX2_duelFrom_113 5 rfl ?_
                  refine y_cSi C (kX2_promptsBehind l E σ τ q3 x5 _ rfl) si_X2_promptsBehind ml_X2_93 rfl (by refine ⟨rfl, rfl, ?_, ?_⟩ <;> simp only [rm_X2_promptsBehind, rm_X2_duelFrom_7] <;> omega) dX2_duelFrom_115 rfl (Nat.le_of_ble_eq_true rfl) ?_
                  refine y_iload C dX2_duelFrom_118 6 rfl ?_
                  obtain ⟨j6, ek_j6, hf⟩ := lt_e hf
                  have h_j6 : ∀ (v7 : Int32), j6 v7 = some q → Y E p l e (rm_X2_duelFrom_7 (d + 1)) s m ([.ref (qAd E 7), .int x1, .int x2, .int x3, .int x4, .int x5, .int x6] : List Value).toArray below meth c 11 (MQ below (PI E q σ τ) ([.ref (qAd E 7), .int x1, .int x2, .int x3, .int x4, .int x5, .int x6] : List Value).toArray s 0 0 (qA E)) σ τ 128 [(0, .ref (qAd E 7)), (1, .int x1), (2, .int x2), (3, .int x3), (4, .int x4), (5, .int x5), (6, .int x6), (7, .int a1.1), (8, .int a1.2)] [.int v7, .int (fX2_promptsBehind q3 x5), .int (fX2_clappingBehind x4 q3 x5), .int (x3 ||| ((1 : Int32) <<< (a1.2 &&& 31))), .int x2, .int (x1 + (1 : Int32)), .ref (qAd E 7), .int v5] := by
                    intro v7 hf
                    replace hf := (congrFun (ek_j6) v7).symm.trans hf
                    obtain ⟨q8, h_q8, hf⟩ := bd_e hf
                    refine y_cVi C (ihd σ τ (x1 + (1 : Int32)) x2 (x3 ||| ((1 : Int32) <<< (a1.2 &&& 31))) (fX2_clappingBehind x4 q3 x5) (fX2_promptsBehind q3 x5) v7 _ h_q8) vi_X2_duelFrom ml_X2_153 ⟨2, _, o7, rfl, rfl⟩ rfl (rk_X2_duelFrom_7_self d) dX2_duelFrom_128 rfl (Nat.le_of_ble_eq_true rfl) ?_
                    refine y_iadd C dX2_duelFrom_131 ?_
                    obtain ⟨v9, e_v9, hf⟩ := lt_e hf
                    refine y_istore C dX2_duelFrom_132 (Nat.le_of_ble_eq_true rfl) e_v9 (lv' := [(10, .int v9), (0, .ref (qAd E 7)), (1, .int x1), (2, .int x2), (3, .int x3), (4, .int x4), (5, .int x5), (6, .int x6), (7, .int a1.1), (8, .int a1.2)]) rfl ?_
                    refine y_iload C dX2_duelFrom_134 7 rfl ?_
                    refine y_if_eq C 149 dX2_duelFrom_136 (by decide) hf (fun hf => ?_) (fun hf => ?_)
                    · refine y_iload C dX2_duelFrom_149 8 rfl ?_
                      refine y_iload C dX2_duelFrom_151 0 rfl ?_
                      refine y_cSi C (kJ9_min_7cf53 l E σ τ a1.1 v9 _ rfl) si_J9_min_7cf53 ml_X2_56 rfl (by refine ⟨rfl, rfl, ?_, ?_⟩ <;> simp only [rm_J9_min_7cf53, rm_X2_duelFrom_7] <;> omega) dX2_duelFrom_153 rfl (Nat.le_of_ble_eq_true rfl) ?_
                      obtain ⟨v10, e_v10, hf⟩ := lt_e hf
                      refine y_istore C dX2_duelFrom_156 (Nat.le_of_ble_eq_true rfl) e_v10 (lv' := [(7, .int v10), (10, .int v9), (0, .ref (qAd E 7)), (1, .int x1), (2, .int x2), (3, .int x3), (4, .int x4), (5, .int x5), (6, .int x6), (8, .int a1.2)]) rfl ?_
                      refine y_iinc C dX2_duelFrom_158 9 rfl (Nat.le_of_ble_eq_true rfl) (k2 := 1) (by decide) rfl (lv' := [(8, .int (a1.2 + (1 : Int32))), (7, .int v10), (10, .int v9), (0, .ref (qAd E 7)), (1, .int x1), (2, .int x2), (3, .int x3), (4, .int x4), (5, .int x5), (6, .int x6)]) rfl ?_
                      refine y_goto C 42 dX2_duelFrom_161 (by decide) ?_
                      refine y_sub [0, 1, 3, 4, 5, 6, 7, 8, 9] rfl ?_
                      exact ih_r2 (v10, (a1.2 + (1 : Int32))) hf
                    · refine y_iload C dX2_duelFrom_139 8 rfl ?_
                      refine y_iload C dX2_duelFrom_141 0 rfl ?_
                      refine y_cSi C (kJ9_max_7cf53 l E σ τ a1.1 v9 _ rfl) si_J9_max_7cf53 ml_X2_103 rfl (by refine ⟨rfl, rfl, ?_, ?_⟩ <;> simp only [rm_J9_max_7cf53, rm_X2_duelFrom_7] <;> omega) dX2_duelFrom_143 rfl (Nat.le_of_ble_eq_true rfl) ?_
                      refine y_goto C 156 dX2_duelFrom_146 (by decide) ?_
                      obtain ⟨v11, e_v11, hf⟩ := lt_e hf
                      refine y_istore C dX2_duelFrom_156 (Nat.le_of_ble_eq_true rfl) e_v11 (lv' := [(7, .int v11), (10, .int v9), (0, .ref (qAd E 7)), (1, .int x1), (2, .int x2), (3, .int x3), (4, .int x4), (5, .int x5), (6, .int x6), (8, .int a1.2)]) rfl ?_
                      refine y_iinc C dX2_duelFrom_158 9 rfl (Nat.le_of_ble_eq_true rfl) (k2 := 1) (by decide) rfl (lv' := [(8, .int (a1.2 + (1 : Int32))), (7, .int v11), (10, .int v9), (0, .ref (qAd E 7)), (1, .int x1), (2, .int x2), (3, .int x3), (4, .int x4), (5, .int x5), (6, .int x6)]) rfl ?_
                      refine y_goto C 42 dX2_duelFrom_161 (by decide) ?_
                      refine y_sub [0, 1, 3, 4, 5, 6, 7, 8, 9] rfl ?_
                      exact ih_r2 (v11, (a1.2 + (1 : Int32))) hf
                  refine y_if_ne C 127 dX2_duelFrom_120 (by decide) hf (fun hf => ?_) (fun hf => ?_)
                  · refine y_iconst C (v := 0) dX2_duelFrom_127 (by decide) ?_
                    refine y_sub [0, 1, 2, 3, 4, 5, 6, 7, 8] rfl ?_
                    exact h_j6 (0 : Int32) hf
                  · refine y_iconst C (v := 1) dX2_duelFrom_123 (by decide) ?_
                    refine y_goto C 128 dX2_duelFrom_124 (by decide) ?_
                    refine y_sub [0, 1, 2, 3, 4, 5, 6, 7, 8] rfl ?_
                    exact h_j6 (1 : Int32) hf
                refine y_icmp_gt C 90 dX2_duelFrom_83 (by decide) hf (fun hf => ?_) (fun hf => ?_)
                · refine y_iconst C (v := 0) dX2_duelFrom_90 (by decide) ?_
                  refine y_sub [3, 4, 5, 6, 7, 8, 9, 2, 1, 0] rfl ?_
                  exact h_j4 (0 : Int32) hf
                · refine y_iconst C (v := 1) dX2_duelFrom_86 (by decide) ?_
                  refine y_goto C 91 dX2_duelFrom_87 (by decide) ?_
                  refine y_sub [3, 4, 5, 6, 7, 8, 9, 2, 1, 0] rfl ?_
                  exact h_j4 (1 : Int32) hf
          · refine y_iconst C (v := -1) dX2_duelFrom_31 (by decide) ?_
            refine y_goto C 37 dX2_duelFrom_32 (by decide) ?_
            refine y_istore C dX2_duelFrom_37 (Nat.le_of_ble_eq_true rfl) rfl (lv' := [(7, .int (-1 : Int32)), (0, .ref (qAd E 7)), (1, .int x1), (2, .int x2), (3, .int x3), (4, .int x4), (5, .int x5), (6, .int x6)]) rfl ?_
            refine y_iconst C (v := 0) dX2_duelFrom_39 (by decide) ?_
            refine y_istore C dX2_duelFrom_40 (Nat.le_of_ble_eq_true rfl) rfl (lv' := [(8, .int (0 : Int32)), (7, .int (-1 : Int32)), (0, .ref (qAd E 7)), (1, .int x1), (2, .int x2), (3, .int x3), (4, .int x4), (5, .int x5), (6, .int x6)]) rfl ?_
            refine y_sub [0, 1, 2, 3, 4, 5, 6, 7, 8] rfl ?_
            refine lp_ind (P := fun a12 : Int32 × Int32 => Y E p l e (rm_X2_duelFrom_7 (d + 1)) s m ([.ref (qAd E 7), .int x1, .int x2, .int x3, .int x4, .int x5, .int x6] : List Value).toArray below meth c 11 (MQ below (PI E q σ τ) ([.ref (qAd E 7), .int x1, .int x2, .int x3, .int x4, .int x5, .int x6] : List Value).toArray s 0 0 (qA E)) σ τ 42 [(8, .int a12.2), (7, .int a12.1), (0, .ref (qAd E 7)), (1, .int x1), (2, .int x2), (3, .int x3), (4, .int x4), (5, .int x5), (6, .int x6)] []) (fun r13 a12 ih_r13 hf => ?_) _ _ hf
            refine y_iload C dX2_duelFrom_42 0 rfl ?_
            refine y_aload_n C dX2_duelFrom_44 rfl 2 rfl ?_
            refine g7_script C fl_X2_33 dX2_duelFrom_45 ?_
            refine gN5_sitterCount C fn_X2_109 dX2_duelFrom_48 ?_
            refine y_icmp_ge C 164 dX2_duelFrom_51 (by decide) hf (fun hf => ?_) (fun hf => ?_)
            · refine y_iload C dX2_duelFrom_164 1 rfl ?_
              exact y_iret C (Option.some.inj hf) rfl rfl dX2_duelFrom_166
            · refine y_aload_n C dX2_duelFrom_54 rfl 2 rfl ?_
              refine y_iload C dX2_duelFrom_55 0 rfl ?_
              refine y_iload_n C dX2_duelFrom_57 rfl 5 rfl ?_
              refine y_cVi C (kX2_isFree_7 l E σ τ a12.2 x3 _ rfl) vi_X2_isFree ml_X2_112 ⟨2, _, o7, rfl, rfl⟩ rfl (by refine ⟨rfl, rfl, ?_, ?_⟩ <;> simp only [rm_X2_isFree_7, rm_X2_duelFrom_7] <;> omega) dX2_duelFrom_58 rfl (Nat.le_of_ble_eq_true rfl) ?_
              refine y_if_eq C 158 dX2_duelFrom_61 (by decide) hf (fun hf => ?_) (fun hf => ?_)
              · refine y_iinc C dX2_duelFrom_158 0 rfl (Nat.le_of_ble_eq_true rfl) (k2 := 1) (by decide) rfl (lv' := [(8, .int (a12.2 + (1 : Int32))), (7, .int a12.1), (0, .ref (qAd E 7)), (1, .int x1), (2, .int x2), (3, .int x3), (4, .int x4), (5, .int x5), (6, .int x6)]) rfl ?_
                refine y_goto C 42 dX2_duelFrom_161 (by decide) ?_
                refine y_sub [0, 1, 2, 3, 4, 5, 6, 7, 8] rfl ?_
                exact ih_r13 (a12.1, (a12.2 + (1 : Int32))) hf
              · refine y_aload_n C dX2_duelFrom_64 rfl 2 rfl ?_
                refine g7_script C fl_X2_33 dX2_duelFrom_65 ?_
                refine y_iload C dX2_duelFrom_68 0 rfl ?_
                refine y_iload_n C dX2_duelFrom_70 rfl 3 rfl ?_
                refine y_iload_n C dX2_duelFrom_71 rfl 5 rfl ?_
                refine y_iload C dX2_duelFrom_72 6 rfl ?_
                obtain ⟨q14, h_q14, hf⟩ := bd_e hf
                refine y_cVi C (kX1_lacking_5 l E σ τ a12.2 x1 x3 x4 _ h_q14) vi_X1_lacking ml_X2_85 ⟨1, _, o5, rfl, rfl⟩ rfl (by refine ⟨rfl, rfl, ?_, ?_⟩ <;> simp only [rm_X1_lacking_5, rm_X2_duelFrom_7] <;> omega) dX2_duelFrom_74 rfl (Nat.le_of_ble_eq_true rfl) ?_
                refine y_istore C dX2_duelFrom_77 (Nat.le_of_ble_eq_true rfl) rfl (lv' := [(9, .int q14), (8, .int a12.2), (7, .int a12.1), (0, .ref (qAd E 7)), (1, .int x1), (2, .int x2), (3, .int x3), (4, .int x4), (5, .int x5), (6, .int x6)]) rfl ?_
                refine y_iload C dX2_duelFrom_79 0 rfl ?_
                refine y_iload C dX2_duelFrom_81 8 rfl ?_
                obtain ⟨j15, ek_j15, hf⟩ := lt_e hf
                have h_j15 : ∀ (v16 : Int32), j15 v16 = some q → Y E p l e (rm_X2_duelFrom_7 (d + 1)) s m ([.ref (qAd E 7), .int x1, .int x2, .int x3, .int x4, .int x5, .int x6] : List Value).toArray below meth c 11 (MQ below (PI E q σ τ) ([.ref (qAd E 7), .int x1, .int x2, .int x3, .int x4, .int x5, .int x6] : List Value).toArray s 0 0 (qA E)) σ τ 91 [(0, .ref (qAd E 7)), (1, .int x1), (2, .int x2), (3, .int x3), (4, .int x4), (5, .int x5), (6, .int x6), (7, .int a12.1), (8, .int a12.2), (9, .int q14)] [.int v16] := by
                  intro v16 hf
                  replace hf := (congrFun (ek_j15) v16).symm.trans hf
                  refine y_aload_n C dX2_duelFrom_91 rfl 0 rfl ?_
                  refine y_iload_n C dX2_duelFrom_92 rfl 1 rfl ?_
                  refine y_iconst C (v := 1) dX2_duelFrom_93 (by decide) ?_
                  refine y_iadd C dX2_duelFrom_94 ?_
                  refine y_iload_n C dX2_duelFrom_95 rfl 2 rfl ?_
                  refine y_iload_n C dX2_duelFrom_96 rfl 3 rfl ?_
                  refine y_iconst C (v := 1) dX2_duelFrom_97 (by decide) ?_
                  refine y_iload C dX2_duelFrom_98 8 rfl ?_
                  refine y_ishl C dX2_duelFrom_100 ?_
                  refine y_ior C dX2_duelFrom_101 ?_
                  refine y_iload C dX2_duelFrom_102 4 rfl ?_
                  refine y_iload C dX2_duelFrom_104 9 rfl ?_
                  refine y_iload C dX2_duelFrom_106 5 rfl ?_
                  refine y_cSi C (kX2_clappingBehind l E σ τ x4 q14 x5 _ rfl) si_X2_clappingBehind ml_X2_89 rfl (by refine ⟨rfl, rfl, ?_, ?_⟩ <;> simp only [rm_X2_clappingBehind, rm_X2_duelFrom_7] <;> omega) dX2_duelFrom_108 rfl (Nat.le_of_ble_eq_true rfl) ?_
                  refine y_iload C dX2_duelFrom_111 9 rfl ?_
                  refine y_iload C dX2_duelFrom_113 5 rfl ?_
                  refine y_cSi C (kX2_promptsBehind l E σ τ q14 x5 _ rfl) si_X2_promptsBehind ml_X2_93 rfl (by refine ⟨rfl, rfl, ?_, ?_⟩ <;> simp only [rm_X2_promptsBehind, rm_X2_duelFrom_7] <;> omega) dX2_duelFrom_115 rfl (Nat.le_of_ble_eq_true rfl) ?_
                  refine y_iload C dX2_duelFrom_118 6 rfl ?_
                  obtain ⟨j17, ek_j17, hf⟩ := lt_e hf
                  have h_j17 : ∀ (v18 : Int32), j17 v18 = some q → Y E p l e (rm_X2_duelFrom_7 (d + 1)) s m ([.ref (qAd E 7), .int x1, .int x2, .int x3, .int x4, .int x5, .int x6] : List Value).toArray below meth c 11 (MQ below (PI E q σ τ) ([.ref (qAd E 7), .int x1, .int x2, .int x3, .int x4, .int x5, .int x6] : List Value).toArray s 0 0 (qA E)) σ τ 128 [(0, .ref (qAd E 7)), (1, .int x1), (2, .int x2), (3, .int x3), (4, .int x4), (5, .int x5), (6, .int x6), (7, .int a12.1), (8, .int a12.2)] [.int v18, .int (fX2_promptsBehind q14 x5), .int (fX2_clappingBehind x4 q14 x5), .int (x3 ||| ((1 : Int32) <<< (a12.2 &&& 31))), .int x2, .int (x1 + (1 : Int32)), .ref (qAd E 7), .int v16] := by
                    intro v18 hf
                    replace hf := (congrFun (ek_j17) v18).symm.trans hf
                    obtain ⟨q19, h_q19, hf⟩ := bd_e hf
                    refine y_cVi C (ihd σ τ (x1 + (1 : Int32)) x2 (x3 ||| ((1 : Int32) <<< (a12.2 &&& 31))) (fX2_clappingBehind x4 q14 x5) (fX2_promptsBehind q14 x5) v18 _ h_q19) vi_X2_duelFrom ml_X2_153 ⟨2, _, o7, rfl, rfl⟩ rfl (rk_X2_duelFrom_7_self d) dX2_duelFrom_128 rfl (Nat.le_of_ble_eq_true rfl) ?_
                    refine y_iadd C dX2_duelFrom_131 ?_
                    obtain ⟨v20, e_v20, hf⟩ := lt_e hf
                    refine y_istore C dX2_duelFrom_132 (Nat.le_of_ble_eq_true rfl) e_v20 (lv' := [(10, .int v20), (0, .ref (qAd E 7)), (1, .int x1), (2, .int x2), (3, .int x3), (4, .int x4), (5, .int x5), (6, .int x6), (7, .int a12.1), (8, .int a12.2)]) rfl ?_
                    refine y_iload C dX2_duelFrom_134 7 rfl ?_
                    refine y_if_eq C 149 dX2_duelFrom_136 (by decide) hf (fun hf => ?_) (fun hf => ?_)
                    · refine y_iload C dX2_duelFrom_149 8 rfl ?_
                      refine y_iload C dX2_duelFrom_151 0 rfl ?_
                      refine y_cSi C (kJ9_min_7cf53 l E σ τ a12.1 v20 _ rfl) si_J9_min_7cf53 ml_X2_56 rfl (by refine ⟨rfl, rfl, ?_, ?_⟩ <;> simp only [rm_J9_min_7cf53, rm_X2_duelFrom_7] <;> omega) dX2_duelFrom_153 rfl (Nat.le_of_ble_eq_true rfl) ?_
                      obtain ⟨v21, e_v21, hf⟩ := lt_e hf
                      refine y_istore C dX2_duelFrom_156 (Nat.le_of_ble_eq_true rfl) e_v21 (lv' := [(7, .int v21), (10, .int v20), (0, .ref (qAd E 7)), (1, .int x1), (2, .int x2), (3, .int x3), (4, .int x4), (5, .int x5), (6, .int x6), (8, .int a12.2)]) rfl ?_
                      refine y_iinc C dX2_duelFrom_158 9 rfl (Nat.le_of_ble_eq_true rfl) (k2 := 1) (by decide) rfl (lv' := [(8, .int (a12.2 + (1 : Int32))), (7, .int v21), (10, .int v20), (0, .ref (qAd E 7)), (1, .int x1), (2, .int x2), (3, .int x3), (4, .int x4), (5, .int x5), (6, .int x6)]) rfl ?_
                      refine y_goto C 42 dX2_duelFrom_161 (by decide) ?_
                      refine y_sub [0, 1, 3, 4, 5, 6, 7, 8, 9] rfl ?_
                      exact ih_r13 (v21, (a12.2 + (1 : Int32))) hf
                    · refine y_iload C dX2_duelFrom_139 8 rfl ?_
                      refine y_iload C dX2_duelFrom_141 0 rfl ?_
                      refine y_cSi C (kJ9_max_7cf53 l E σ τ a12.1 v20 _ rfl) si_J9_max_7cf53 ml_X2_103 rfl (by refine ⟨rfl, rfl, ?_, ?_⟩ <;> simp only [rm_J9_max_7cf53, rm_X2_duelFrom_7] <;> omega) dX2_duelFrom_143 rfl (Nat.le_of_ble_eq_true rfl) ?_
                      refine y_goto C 156 dX2_duelFrom_146 (by decide) ?_
                      obtain ⟨v22, e_v22, hf⟩ := lt_e hf
                      refine y_istore C dX2_duelFrom_156 (Nat.le_of_ble_eq_true rfl) e_v22 (lv' := [(7, .int v22), (10, .int v20), (0, .ref (qAd E 7)), (1, .int x1), (2, .int x2), (3, .int x3), (4, .int x4), (5, .int x5), (6, .int x6), (8, .int a12.2)]) rfl ?_
                      refine y_iinc C dX2_duelFrom_158 9 rfl (Nat.le_of_ble_eq_true rfl) (k2 := 1) (by decide) rfl (lv' := [(8, .int (a12.2 + (1 : Int32))), (7, .int v22), (10, .int v20), (0, .ref (qAd E 7)), (1, .int x1), (2, .int x2), (3, .int x3), (4, .int x4), (5, .int x5), (6, .int x6)]) rfl ?_
                      refine y_goto C 42 dX2_duelFrom_161 (by decide) ?_
                      refine y_sub [0, 1, 3, 4, 5, 6, 7, 8, 9] rfl ?_
                      exact ih_r13 (v22, (a12.2 + (1 : Int32))) hf
                  refine y_if_ne C 127 dX2_duelFrom_120 (by decide) hf (fun hf => ?_) (fun hf => ?_)
                  · refine y_iconst C (v := 0) dX2_duelFrom_127 (by decide) ?_
                    refine y_sub [0, 1, 2, 3, 4, 5, 6, 7, 8] rfl ?_
                    exact h_j17 (0 : Int32) hf
                  · refine y_iconst C (v := 1) dX2_duelFrom_123 (by decide) ?_
                    refine y_goto C 128 dX2_duelFrom_124 (by decide) ?_
                    refine y_sub [0, 1, 2, 3, 4, 5, 6, 7, 8] rfl ?_
                    exact h_j17 (1 : Int32) hf
                refine y_icmp_gt C 90 dX2_duelFrom_83 (by decide) hf (fun hf => ?_) (fun hf => ?_)
                · refine y_iconst C (v := 0) dX2_duelFrom_90 (by decide) ?_
                  refine y_sub [3, 4, 5, 6, 7, 8, 9, 2, 1, 0] rfl ?_
                  exact h_j15 (0 : Int32) hf
                · refine y_iconst C (v := 1) dX2_duelFrom_86 (by decide) ?_
                  refine y_goto C 91 dX2_duelFrom_87 (by decide) ?_
                  refine y_sub [3, 4, 5, 6, 7, 8, 9, 2, 1, 0] rfl ?_
                  exact h_j15 (1 : Int32) hf
        · refine y_iconst C (v := 0) dX2_duelFrom_24 (by decide) ?_
          exact y_iret C (Option.some.inj hf) rfl rfl dX2_duelFrom_25
noncomputable def fX2_findDuel_7 (x1 : Int32) (σ : QS) : Option (Int32 × QS) :=
    Option.bind (fX0_allowed_6 σ) (fun (q1 : Int32) => lt_ (pI σ 19 q1) (fun (S2 : QS) => Option.bind (fX2_duelFrom_7 DP (gI S2 13) ((gI S2 13) + x1) (gI S2 14) (gI S2 17) (gI S2 15) (1 : Int32) S2) (fun (q3 : Int32) => some (q3, S2))))
def rm_X2_findDuel_7 : Room := { frames := 13, cells := 0, slots := 0, locals := 364 }
set_option maxRecDepth 100000 in
set_option maxHeartbeats 4000000 in
theorem kX2_findDuel_7 (l : Launch) (E : QE) (σ τ : QS) (x1 : Int32) (q : Int32 × QS) (hf : fX2_findDuel_7 x1 σ = some q) : KQ l yX2_findDuel cX2_findDuel 2 (some .int) rm_X2_findDuel_7 E [.ref (qAd E 7), .int x1] σ τ (PI E q.1 q.2 τ) := by
  unfold fX2_findDuel_7 at hf
  refine y_met rfl (Nat.le_of_ble_eq_true rfl) rfl (fun p e s m below meth c C => ?_)
  refine y_aload_n C dX2_findDuel_0 rfl 0 rfl ?_
  refine y_aload_n C dX2_findDuel_1 rfl 0 rfl ?_
  refine g7_night C fl_X2_23 dX2_findDuel_2 ?_
  obtain ⟨q1, h_q1, hf⟩ := bd_e hf
  refine y_cVi C (kX0_allowed_6 l E σ τ _ h_q1) vi_X0_allowed ml_X2_127 ⟨0, _, o6, rfl, rfl⟩ rfl ⟨rfl, rfl, Nat.le_of_ble_eq_true rfl, Nat.le_of_ble_eq_true rfl⟩ dX2_findDuel_5 rfl (Nat.le_of_ble_eq_true rfl) ?_
  obtain ⟨S2, e_S2, hf⟩ := lt_e hf
  refine p7_allowed C fl_X2_34 e_S2 dX2_findDuel_8 ?_
  refine y_aload_n C dX2_findDuel_11 rfl 0 rfl ?_
  refine y_aload_n C dX2_findDuel_12 rfl 0 rfl ?_
  refine g7_night C fl_X2_23 dX2_findDuel_13 ?_
  refine gN6_scene C fn_X2_82 dX2_findDuel_16 ?_
  refine y_aload_n C dX2_findDuel_19 rfl 0 rfl ?_
  refine g7_night C fl_X2_23 dX2_findDuel_20 ?_
  refine gN6_scene C fn_X2_82 dX2_findDuel_23 ?_
  refine y_iload_n C dX2_findDuel_26 rfl 1 rfl ?_
  refine y_iadd C dX2_findDuel_27 ?_
  refine y_aload_n C dX2_findDuel_28 rfl 0 rfl ?_
  refine g7_night C fl_X2_23 dX2_findDuel_29 ?_
  refine gN6_called C fn_X2_62 dX2_findDuel_32 ?_
  refine y_aload_n C dX2_findDuel_35 rfl 0 rfl ?_
  refine g7_night C fl_X2_23 dX2_findDuel_36 ?_
  refine gN6_clapping C fn_X2_68 dX2_findDuel_39 ?_
  refine y_aload_n C dX2_findDuel_42 rfl 0 rfl ?_
  refine g7_night C fl_X2_23 dX2_findDuel_43 ?_
  refine gN6_promptsLeft C fn_X2_65 dX2_findDuel_46 ?_
  refine y_iconst C (v := 1) dX2_findDuel_49 (by decide) ?_
  obtain ⟨q3, h_q3, hf⟩ := bd_e hf
  refine y_cVi C (kX2_duelFrom_7 l E DP S2 τ (gI S2 13) ((gI S2 13) + x1) (gI S2 14) (gI S2 17) (gI S2 15) (1 : Int32) _ h_q3) vi_X2_duelFrom ml_X2_153 ⟨2, _, o7, rfl, rfl⟩ rfl ⟨rfl, rfl, Nat.le_of_ble_eq_true rfl, Nat.le_of_ble_eq_true rfl⟩ dX2_findDuel_50 rfl (Nat.le_of_ble_eq_true rfl) ?_
  exact y_iret C (rs1 hf) (rs2 hf) rfl dX2_findDuel_53
noncomputable def fX4_duel_0 (x1 : Int32) (σ : QS) : Option (Int32 × QS) :=
    (if x1 < 0 then some ((-1 : Int32), σ) else (if x1 ≤ (4 : Int32) then (if (gI σ 9) = 0 then some ((-4 : Int32), σ) else Option.bind (fX2_findDuel_7 (fJ9_min_7cf53 x1 (fX0_scenesYet_6 σ)) σ) (fun (q1 : Int32 × QS) => some (q1.1, q1.2))) else some ((-1 : Int32), σ)))
def rm_X4_duel_0 : Room := { frames := 14, cells := 0, slots := 0, locals := 385 }
set_option maxRecDepth 100000 in
set_option maxHeartbeats 4000000 in
theorem kX4_duel_0 (l : Launch) (E : QE) (σ τ : QS) (x1 : Int32) (q : Int32 × QS) (hf : fX4_duel_0 x1 σ = some q) : KQ l yX4_duel cX4_duel 2 (some .int) rm_X4_duel_0 E [.ref (qAd E 0), .int x1] σ τ (PI E q.1 q.2 τ) := by
  unfold fX4_duel_0 at hf
  refine y_met rfl (Nat.le_of_ble_eq_true rfl) rfl (fun p e s m below meth c C => ?_)
  refine y_iload_n C dX4_duel_0 rfl 1 rfl ?_
  refine y_if_lt C 9 dX4_duel_1 (by decide) hf (fun hf => ?_) (fun hf => ?_)
  · refine y_iconst C (v := -1) dX4_duel_9 (by decide) ?_
    exact y_iret C (rs1 hf) (rs2 hf) rfl dX4_duel_10
  · refine y_iload_n C dX4_duel_4 rfl 1 rfl ?_
    refine y_iconst C (v := 4) dX4_duel_5 (by decide) ?_
    refine y_icmp_le C 11 dX4_duel_6 (by decide) hf (fun hf => ?_) (fun hf => ?_)
    · refine y_aload_n C dX4_duel_11 rfl 0 rfl ?_
      refine g0_script C fl_X4_31 dX4_duel_12 ?_
      refine gN5_sitterCount C fn_X4_114 dX4_duel_15 ?_
      refine y_if_ne C 26 dX4_duel_18 (by decide) hf (fun hf => ?_) (fun hf => ?_)
      · refine y_aload_n C dX4_duel_26 rfl 0 rfl ?_
        refine g0_search C fl_X4_48 dX4_duel_27 ?_
        refine y_iload_n C dX4_duel_30 rfl 1 rfl ?_
        refine y_aload_n C dX4_duel_31 rfl 0 rfl ?_
        refine g0_night C fl_X4_39 dX4_duel_32 ?_
        refine y_cVi C (kX0_scenesYet_6 l E σ τ _ rfl) vi_X0_scenesYet ml_X4_140 ⟨0, _, o6, rfl, rfl⟩ rfl ⟨rfl, rfl, Nat.le_of_ble_eq_true rfl, Nat.le_of_ble_eq_true rfl⟩ dX4_duel_35 rfl (Nat.le_of_ble_eq_true rfl) ?_
        refine y_cSi C (kJ9_min_7cf53 l E σ τ x1 (fX0_scenesYet_6 σ) _ rfl) si_J9_min_7cf53 ml_X4_252 rfl ⟨rfl, rfl, Nat.le_of_ble_eq_true rfl, Nat.le_of_ble_eq_true rfl⟩ dX4_duel_38 rfl (Nat.le_of_ble_eq_true rfl) ?_
        obtain ⟨q1, h_q1, hf⟩ := bd_e hf
        refine y_cVi C (kX2_findDuel_7 l E σ τ (fJ9_min_7cf53 x1 (fX0_scenesYet_6 σ)) _ h_q1) vi_X2_findDuel ml_X4_255 ⟨2, _, o7, rfl, rfl⟩ rfl ⟨rfl, rfl, Nat.le_of_ble_eq_true rfl, Nat.le_of_ble_eq_true rfl⟩ dX4_duel_41 rfl (Nat.le_of_ble_eq_true rfl) ?_
        exact y_iret C (rs1 hf) (rs2 hf) rfl dX4_duel_44
      · refine y_bipush C (v := -4) dX4_duel_21 (by decide) ?_
        refine y_goto C 44 dX4_duel_23 (by decide) ?_
        exact y_iret C (rs1 hf) (rs2 hf) rfl dX4_duel_44
    · refine y_iconst C (v := -1) dX4_duel_9 (by decide) ?_
      exact y_iret C (rs1 hf) (rs2 hf) rfl dX4_duel_10
noncomputable def fX5_beginTurn_50 (x1 : Int32) (τ : QS) : Option (QS) :=
    ck_ (inb x1 7) (lt_ (pM τ 67 (upd (gM τ 67) x1.toNatClampNeg (0 : Int32))) (fun (S2 : QS) => ck_ (inb x1 7) (lt_ (pM S2 68 (upd (gM S2 68) x1.toNatClampNeg (-9 : Int32))) (fun (S4 : QS) => some S4))))
def rm_X5_beginTurn_50 : Room := { frames := 0, cells := 0, slots := 0, locals := 0 }
set_option maxRecDepth 100000 in
set_option maxHeartbeats 4000000 in
theorem kX5_beginTurn_50 (l : Launch) (E : QE) (σ τ : QS) (x1 : Int32) (q : QS) (hf : fX5_beginTurn_50 x1 τ = some q) : KQ l yX5_beginTurn cX5_beginTurn 2 none rm_X5_beginTurn_50 E [.ref (qAd E 50), .int x1] σ τ (PV E σ q) := by
  unfold fX5_beginTurn_50 at hf
  refine y_met rfl (Nat.le_of_ble_eq_true rfl) rfl (fun p e s m below meth c C => ?_)
  refine y_aload_n C dX5_beginTurn_0 rfl 0 rfl ?_
  refine g50_choices C fl_X5_62 dX5_beginTurn_1 ?_
  refine y_iload_n C dX5_beginTurn_4 rfl 1 rfl ?_
  refine y_iconst C (v := 0) dX5_beginTurn_5 (by decide) ?_
  obtain ⟨hi1, hf⟩ := ck_e hf
  obtain ⟨S2, e_S2, hf⟩ := lt_e hf
  refine y_iastR C a67 (j := x1.toNatClampNeg) rfl hi1 e_S2 dX5_beginTurn_6 ?_
  refine y_aload_n C dX5_beginTurn_7 rfl 0 rfl ?_
  refine g50_bests C fl_X5_65 dX5_beginTurn_8 ?_
  refine y_iload_n C dX5_beginTurn_11 rfl 1 rfl ?_
  refine y_bipush C (v := -9) dX5_beginTurn_12 (by decide) ?_
  obtain ⟨hi3, hf⟩ := ck_e hf
  obtain ⟨S4, e_S4, hf⟩ := lt_e hf
  refine y_iastR C a68 (j := x1.toNatClampNeg) rfl hi3 e_S4 dX5_beginTurn_14 ?_
  exact y_vret C rfl (Option.some.inj hf) dX5_beginTurn_15
noncomputable def fX5_take_50 (x1 : Int32) (x2 : Int32) (τ : QS) : Option (QS) :=
    ck_ (inb x1 7) (lt_ (fun (v3 : Int32) => lt_ (fun (v5 : Int32) => ck_ (inb x1 7) (lt_ (pM τ 68 (upd (gM τ 68) x1.toNatClampNeg v5)) (fun (S7 : QS) => some S7))) (fun (j4 : Int32 → Option (QS)) => (if v3 = 0 then ck_ (inb x1 7) (j4 (gM τ 68 x1.toNatClampNeg)) else j4 x2))) (fun (j2 : Int32 → Option (QS)) => (if (gM τ 68 x1.toNatClampNeg) = (-9 : Int32) then j2 (1 : Int32) else (if (x1 - x1 / (2 : Int32) * (2 : Int32)) = 0 then ck_ (inb x1 7) ((if x2 ≤ (gM τ 68 x1.toNatClampNeg) then j2 (0 : Int32) else j2 (1 : Int32))) else ck_ (inb x1 7) ((if (gM τ 68 x1.toNatClampNeg) ≤ x2 then j2 (0 : Int32) else j2 (1 : Int32)))))))
def rm_X5_take_50 : Room := { frames := 0, cells := 0, slots := 0, locals := 0 }
set_option maxRecDepth 100000 in
set_option maxHeartbeats 4000000 in
theorem kX5_take_50 (l : Launch) (E : QE) (σ τ : QS) (x1 : Int32) (x2 : Int32) (q : QS) (hf : fX5_take_50 x1 x2 τ = some q) : KQ l yX5_take cX5_take 4 none rm_X5_take_50 E [.ref (qAd E 50), .int x1, .int x2] σ τ (PV E σ q) := by
  unfold fX5_take_50 at hf
  refine y_met rfl (Nat.le_of_ble_eq_true rfl) rfl (fun p e s m below meth c C => ?_)
  refine y_aload_n C dX5_take_0 rfl 0 rfl ?_
  refine g50_bests C fl_X5_65 dX5_take_1 ?_
  refine y_iload_n C dX5_take_4 rfl 1 rfl ?_
  obtain ⟨hi1, hf⟩ := ck_e hf
  refine y_ialdR C a68 (j := x1.toNatClampNeg) rfl hi1 dX5_take_5 ?_
  refine y_bipush C (v := -9) dX5_take_6 (by decide) ?_
  obtain ⟨j2, ek_j2, hf⟩ := lt_e hf
  have h_j2 : ∀ (v3 : Int32), j2 v3 = some q → Y E p l e rm_X5_take_50 s m ([.ref (qAd E 50), .int x1, .int x2] : List Value).toArray below meth c 4 (MQ below (PV E σ q) ([.ref (qAd E 50), .int x1, .int x2] : List Value).toArray s 0 0 (qA E)) σ τ 45 [(0, .ref (qAd E 50)), (1, .int x1), (2, .int x2)] [.int v3] := by
    intro v3 hf
    replace hf := (congrFun (ek_j2) v3).symm.trans hf
    refine y_istore_n C dX5_take_45 rfl (Nat.le_of_ble_eq_true rfl) rfl (lv' := [(3, .int v3), (0, .ref (qAd E 50)), (1, .int x1), (2, .int x2)]) rfl ?_
    refine y_aload_n C dX5_take_46 rfl 1 rfl ?_
    refine g50_bests C fl_X5_65 dX5_take_47 ?_
    refine y_iload_n C dX5_take_50 rfl 2 rfl ?_
    refine y_iload_n C dX5_take_51 rfl 0 rfl ?_
    obtain ⟨j4, ek_j4, hf⟩ := lt_e hf
    have h_j4 : ∀ (v5 : Int32), j4 v5 = some q → Y E p l e rm_X5_take_50 s m ([.ref (qAd E 50), .int x1, .int x2] : List Value).toArray below meth c 4 (MQ below (PV E σ q) ([.ref (qAd E 50), .int x1, .int x2] : List Value).toArray s 0 0 (qA E)) σ τ 65 [] [.int v5, .int x1, .ref (qAd E 68)] := by
      intro v5 hf
      replace hf := (congrFun (ek_j4) v5).symm.trans hf
      obtain ⟨hi6, hf⟩ := ck_e hf
      obtain ⟨S7, e_S7, hf⟩ := lt_e hf
      refine y_iastR C a68 (j := x1.toNatClampNeg) rfl hi6 e_S7 dX5_take_65 ?_
      exact y_vret C rfl (Option.some.inj hf) dX5_take_66
    refine y_if_eq C 59 dX5_take_52 (by decide) hf (fun hf => ?_) (fun hf => ?_)
    · refine y_aload_n C dX5_take_59 rfl 1 rfl ?_
      refine g50_bests C fl_X5_65 dX5_take_60 ?_
      refine y_iload_n C dX5_take_63 rfl 2 rfl ?_
      obtain ⟨hi8, hf⟩ := ck_e hf
      refine y_ialdR C a68 (j := x1.toNatClampNeg) rfl hi8 dX5_take_64 ?_
      refine y_sub [] rfl ?_
      exact h_j4 (gM τ 68 x1.toNatClampNeg) hf
    · refine y_iload_n C dX5_take_55 rfl 3 rfl ?_
      refine y_goto C 65 dX5_take_56 (by decide) ?_
      refine y_sub [] rfl ?_
      exact h_j4 x2 hf
  refine y_icmp_eq C 40 dX5_take_8 (by decide) hf (fun hf => ?_) (fun hf => ?_)
  · refine y_iconst C (v := 1) dX5_take_40 (by decide) ?_
    refine y_goto C 45 dX5_take_41 (by decide) ?_
    refine y_sub [0, 1, 2] rfl ?_
    exact h_j2 (1 : Int32) hf
  · refine y_iload_n C dX5_take_11 rfl 1 rfl ?_
    refine y_iconst C (v := 2) dX5_take_12 (by decide) ?_
    refine y_irem C (by decide) dX5_take_13 ?_
    refine y_if_ne C 30 dX5_take_14 (by decide) hf (fun hf => ?_) (fun hf => ?_)
    · refine y_iload_n C dX5_take_30 rfl 2 rfl ?_
      refine y_aload_n C dX5_take_31 rfl 0 rfl ?_
      refine g50_bests C fl_X5_65 dX5_take_32 ?_
      refine y_iload_n C dX5_take_35 rfl 1 rfl ?_
      obtain ⟨hi9, hf⟩ := ck_e hf
      refine y_ialdR C a68 (j := x1.toNatClampNeg) rfl hi9 dX5_take_36 ?_
      refine y_icmp_ge C 44 dX5_take_37 (by decide) hf (fun hf => ?_) (fun hf => ?_)
      · refine y_iconst C (v := 0) dX5_take_44 (by decide) ?_
        refine y_sub [0, 1, 2] rfl ?_
        exact h_j2 (0 : Int32) hf
      · refine y_iconst C (v := 1) dX5_take_40 (by decide) ?_
        refine y_goto C 45 dX5_take_41 (by decide) ?_
        refine y_sub [0, 1, 2] rfl ?_
        exact h_j2 (1 : Int32) hf
    · refine y_iload_n C dX5_take_17 rfl 2 rfl ?_
      refine y_aload_n C dX5_take_18 rfl 0 rfl ?_
      refine g50_bests C fl_X5_65 dX5_take_19 ?_
      refine y_iload_n C dX5_take_22 rfl 1 rfl ?_
      obtain ⟨hi10, hf⟩ := ck_e hf
      refine y_ialdR C a68 (j := x1.toNatClampNeg) rfl hi10 dX5_take_23 ?_
      refine y_icmp_le C 44 dX5_take_24 (by decide) hf (fun hf => ?_) (fun hf => ?_)
      · refine y_iconst C (v := 0) dX5_take_44 (by decide) ?_
        refine y_sub [0, 1, 2] rfl ?_
        exact h_j2 (0 : Int32) hf
      · refine y_goto C 40 dX5_take_27 (by decide) ?_
        refine y_iconst C (v := 1) dX5_take_40 (by decide) ?_
        refine y_goto C 45 dX5_take_41 (by decide) ?_
        refine y_sub [0, 1, 2] rfl ?_
        exact h_j2 (1 : Int32) hf
noncomputable def fX5_duel_50 (x1 : Int32) (τ : QS) : Option (Int32 × QS) :=
    (if (fX5_in x1.toInt64 (0 : Int64) (4 : Int64)) = 0 then some ((-1 : Int32), τ) else (if (gI τ 1) = 0 then some ((-4 : Int32), τ) else Option.bind (fX5_beginPlans_50 (gM τ 51 2) τ) (fun (q1 : QS) => lt_ (fun (v3 : Int32) => Option.bind (fX5_beginTurn_50 (0 : Int32) q1) (fun (q4 : QS) => lp_ (fun (r6 : Int32 × QS → Option (Int32 × QS)) (a5 : Int32 × QS) => (if a5.1 < 0 then some ((gM a5.2 68 0), a5.2) else lt_ (fun (v8 : Int32) => lt_ (fun (_ : Unit) => (if v8 ≤ (gI a5.2 1) then Option.bind (fX5_choose_50 a5.1 v8 a5.2) (fun (q10 : QS) => Option.bind (fX5_beginTurn_50 (a5.1 + (1 : Int32)) q10) (fun (q11 : QS) => r6 ((a5.1 + (1 : Int32)), q11))) else lt_ (fun (v13 : Int32) => ck_ (inb a5.1 7) (lt_ (pM a5.2 68 (upd (gM a5.2 68) a5.1.toNatClampNeg v13)) (fun (S15 : QS) => (if (a5.1 + (-1 : Int32)) < 0 then r6 ((a5.1 + (-1 : Int32)), S15) else Option.bind (fX5_take_50 (a5.1 + (-1 : Int32)) v13 S15) (fun (q16 : QS) => r6 ((a5.1 + (-1 : Int32)), q16)))))) (fun (j12 : Int32 → Option (Int32 × QS)) => (if a5.1 = v3 then ck_ (inb a5.1 7) (j12 (gM a5.2 65 a5.1.toNatClampNeg)) else ck_ (inb a5.1 7) (j12 (gM a5.2 68 a5.1.toNatClampNeg)))))) (fun (j9 : Unit → Option (Int32 × QS)) => (if v8 ≤ (gI a5.2 1) then j9 () else ck_ (inb a5.1 7) ((if (gM a5.2 68 a5.1.toNatClampNeg) = (-9 : Int32) then (if v3 ≤ a5.1 then j9 () else Option.bind (fX5_choose_50 a5.1 (0 : Int32) a5.2) (fun (q20 : QS) => ck_ (inb a5.1 7) (lt_ (pM q20 67 (upd (gM q20 67) a5.1.toNatClampNeg (gI q20 1))) (fun (S22 : QS) => Option.bind (fX5_beginTurn_50 (a5.1 + (1 : Int32)) S22) (fun (q23 : QS) => r6 ((a5.1 + (1 : Int32)), q23)))))) else j9 ()))))) (fun (j7 : Int32 → Option (Int32 × QS)) => (if a5.1 = v3 then j7 ((gI a5.2 1) + (1 : Int32)) else ck_ (inb a5.1 7) (Option.bind (fX5_nextChoice_50 a5.1 ((gM a5.2 67 a5.1.toNatClampNeg) + (1 : Int32)) a5.2) (fun (q25 : Int32) => j7 q25)))))) FV ((0 : Int32), q4))) (fun (j2 : Int32 → Option (Int32 × QS)) => (if (gI q1 11) ≤ x1 then j2 (gI q1 11) else j2 x1)))))
def rm_X5_duel_50 : Room := { frames := 6, cells := 0, slots := 0, locals := 140 }
set_option maxRecDepth 100000 in
set_option maxHeartbeats 4000000 in
theorem kX5_duel_50 (l : Launch) (E : QE) (σ τ : QS) (x1 : Int32) (q : Int32 × QS) (hf : fX5_duel_50 x1 τ = some q) : KQ l yX5_duel cX5_duel 6 (some .int) rm_X5_duel_50 E [.ref (qAd E 50), .int x1] σ τ (PI E q.1 σ q.2) := by
  unfold fX5_duel_50 at hf
  refine y_met rfl (Nat.le_of_ble_eq_true rfl) rfl (fun p e s m below meth c C => ?_)
  refine y_iload_n C dX5_duel_0 rfl 1 rfl ?_
  refine y_i2l C dX5_duel_1 ?_
  refine y_lconst C (v := 0) dX5_duel_2 (by decide) ?_
  refine y_ldc2 C kl_X5_292 dX5_duel_3 ?_
  refine y_cSi C (kX5_in l E σ τ x1.toInt64 (0 : Int64) (4 : Int64) _ rfl) si_X5_in ml_X5_77 rfl ⟨rfl, rfl, Nat.le_of_ble_eq_true rfl, Nat.le_of_ble_eq_true rfl⟩ dX5_duel_6 rfl (Nat.le_of_ble_eq_true rfl) ?_
  refine y_if_ne C 14 dX5_duel_9 (by decide) hf (fun hf => ?_) (fun hf => ?_)
  · refine y_aload_n C dX5_duel_14 rfl 0 rfl ?_
    refine g50_sitters C fl_X5_163 dX5_duel_15 ?_
    refine y_if_ne C 24 dX5_duel_18 (by decide) hf (fun hf => ?_) (fun hf => ?_)
    · refine y_aload_n C dX5_duel_24 rfl 0 rfl ?_
      refine y_aload_n C dX5_duel_25 rfl 0 rfl ?_
      refine g50_row C fl_X5_7 dX5_duel_26 ?_
      refine y_iconst C (v := 2) dX5_duel_29 (by decide) ?_
      refine y_ialdR C a51 (j := 2) (by decide) (by decide) dX5_duel_30 ?_
      obtain ⟨q1, h_q1, hf⟩ := bd_e hf
      refine y_cVv C (kX5_beginPlans_50 l E σ τ (gM τ 51 2) _ h_q1) vi_X5_beginPlans ml_X5_258 ⟨5, _, o50, rfl, rfl⟩ rfl ⟨rfl, rfl, Nat.le_of_ble_eq_true rfl, Nat.le_of_ble_eq_true rfl⟩ dX5_duel_31 rfl (Nat.le_of_ble_eq_true rfl) ?_
      refine y_iload_n C dX5_duel_34 rfl 1 rfl ?_
      refine y_aload_n C dX5_duel_35 rfl 0 rfl ?_
      refine g50_planMany C fl_X5_245 dX5_duel_36 ?_
      obtain ⟨j2, ek_j2, hf⟩ := lt_e hf
      have h_j2 : ∀ (v3 : Int32), j2 v3 = some q → Y E p l e rm_X5_duel_50 s m ([.ref (qAd E 50), .int x1] : List Value).toArray below meth c 6 (MQ below (PI E q.1 σ q.2) ([.ref (qAd E 50), .int x1] : List Value).toArray s 0 0 (qA E)) σ q1 50 [(0, .ref (qAd E 50))] [.int v3] := by
        intro v3 hf
        replace hf := (congrFun (ek_j2) v3).symm.trans hf
        refine y_istore_n C dX5_duel_50 rfl (Nat.le_of_ble_eq_true rfl) rfl (lv' := [(2, .int v3), (0, .ref (qAd E 50))]) rfl ?_
        refine y_iconst C (v := 0) dX5_duel_51 (by decide) ?_
        refine y_istore_n C dX5_duel_52 rfl (Nat.le_of_ble_eq_true rfl) rfl (lv' := [(3, .int (0 : Int32)), (2, .int v3), (0, .ref (qAd E 50))]) rfl ?_
        refine y_aload_n C dX5_duel_53 rfl 2 rfl ?_
        refine y_iconst C (v := 0) dX5_duel_54 (by decide) ?_
        obtain ⟨q4, h_q4, hf⟩ := bd_e hf
        refine y_cVv C (kX5_beginTurn_50 l E σ q1 (0 : Int32) _ h_q4) vi_X5_beginTurn ml_X5_294 ⟨5, _, o50, rfl, rfl⟩ rfl ⟨rfl, rfl, Nat.le_of_ble_eq_true rfl, Nat.le_of_ble_eq_true rfl⟩ dX5_duel_55 rfl (Nat.le_of_ble_eq_true rfl) ?_
        refine y_sub [0, 1, 2] rfl ?_
        refine lp_ind (P := fun a5 : Int32 × QS => Y E p l e rm_X5_duel_50 s m ([.ref (qAd E 50), .int x1] : List Value).toArray below meth c 6 (MQ below (PI E q.1 σ q.2) ([.ref (qAd E 50), .int x1] : List Value).toArray s 0 0 (qA E)) σ a5.2 58 [(3, .int a5.1), (2, .int v3), (0, .ref (qAd E 50))] []) (fun r6 a5 ih_r6 hf => ?_) _ _ hf
        refine y_iload_n C dX5_duel_58 rfl 0 rfl ?_
        refine y_if_lt C 217 dX5_duel_59 (by decide) hf (fun hf => ?_) (fun hf => ?_)
        · refine y_aload_n C dX5_duel_217 rfl 2 rfl ?_
          refine g50_bests C fl_X5_65 dX5_duel_218 ?_
          refine y_iconst C (v := 0) dX5_duel_221 (by decide) ?_
          refine y_ialdR C a68 (j := 0) (by decide) (by decide) dX5_duel_222 ?_
          exact y_iret C (rs1 hf) rfl (rs2 hf) dX5_duel_223
        · refine y_iload_n C dX5_duel_62 rfl 0 rfl ?_
          refine y_iload_n C dX5_duel_63 rfl 1 rfl ?_
          obtain ⟨j7, ek_j7, hf⟩ := lt_e hf
          have h_j7 : ∀ (v8 : Int32), j7 v8 = some q → Y E p l e rm_X5_duel_50 s m ([.ref (qAd E 50), .int x1] : List Value).toArray below meth c 6 (MQ below (PI E q.1 σ q.2) ([.ref (qAd E 50), .int x1] : List Value).toArray s 0 0 (qA E)) σ a5.2 89 [(0, .ref (qAd E 50)), (2, .int v3), (3, .int a5.1)] [.int v8] := by
            intro v8 hf
            replace hf := (congrFun (ek_j7) v8).symm.trans hf
            refine y_istore C dX5_duel_89 (Nat.le_of_ble_eq_true rfl) rfl (lv' := [(4, .int v8), (0, .ref (qAd E 50)), (2, .int v3), (3, .int a5.1)]) rfl ?_
            refine y_iload C dX5_duel_91 0 rfl ?_
            refine y_aload_n C dX5_duel_93 rfl 1 rfl ?_
            refine g50_sitters C fl_X5_163 dX5_duel_94 ?_
            obtain ⟨j9, ek_j9, hf⟩ := lt_e hf
            have h_j9 : ∀ (_ : Unit), j9 () = some q → Y E p l e rm_X5_duel_50 s m ([.ref (qAd E 50), .int x1] : List Value).toArray below meth c 6 (MQ below (PI E q.1 σ q.2) ([.ref (qAd E 50), .int x1] : List Value).toArray s 0 0 (qA E)) σ a5.2 143 [(0, .ref (qAd E 50)), (2, .int v3), (3, .int a5.1), (4, .int v8)] [] := by
              intro _ hf
              replace hf := (congrFun (ek_j9) ()).symm.trans hf
              refine y_iload C dX5_duel_143 3 rfl ?_
              refine y_aload_n C dX5_duel_145 rfl 0 rfl ?_
              refine g50_sitters C fl_X5_163 dX5_duel_146 ?_
              refine y_icmp_le C 199 dX5_duel_149 (by decide) hf (fun hf => ?_) (fun hf => ?_)
              · refine y_aload_n C dX5_duel_199 rfl 0 rfl ?_
                refine y_iload_n C dX5_duel_200 rfl 2 rfl ?_
                refine y_iload C dX5_duel_201 3 rfl ?_
                obtain ⟨q10, h_q10, hf⟩ := bd_e hf
                refine y_cVv C (kX5_choose_50 l E σ a5.2 a5.1 v8 _ h_q10) vi_X5_choose ml_X5_255 ⟨5, _, o50, rfl, rfl⟩ rfl ⟨rfl, rfl, Nat.le_of_ble_eq_true rfl, Nat.le_of_ble_eq_true rfl⟩ dX5_duel_203 rfl (Nat.le_of_ble_eq_true rfl) ?_
                refine y_iinc C dX5_duel_206 2 rfl (Nat.le_of_ble_eq_true rfl) (k2 := 1) (by decide) rfl (lv' := [(3, .int (a5.1 + (1 : Int32))), (0, .ref (qAd E 50)), (2, .int v3), (4, .int v8)]) rfl ?_
                refine y_aload_n C dX5_duel_209 rfl 1 rfl ?_
                refine y_iload_n C dX5_duel_210 rfl 0 rfl ?_
                obtain ⟨q11, h_q11, hf⟩ := bd_e hf
                refine y_cVv C (kX5_beginTurn_50 l E σ q10 (a5.1 + (1 : Int32)) _ h_q11) vi_X5_beginTurn ml_X5_294 ⟨5, _, o50, rfl, rfl⟩ rfl ⟨rfl, rfl, Nat.le_of_ble_eq_true rfl, Nat.le_of_ble_eq_true rfl⟩ dX5_duel_211 rfl (Nat.le_of_ble_eq_true rfl) ?_
                refine y_goto C 58 dX5_duel_214 (by decide) ?_
                refine y_sub [0, 2, 1] rfl ?_
                exact ih_r6 ((a5.1 + (1 : Int32)), q11) hf
              · refine y_iload_n C dX5_duel_152 rfl 2 rfl ?_
                refine y_iload_n C dX5_duel_153 rfl 1 rfl ?_
                obtain ⟨j12, ek_j12, hf⟩ := lt_e hf
                have h_j12 : ∀ (v13 : Int32), j12 v13 = some q → Y E p l e rm_X5_duel_50 s m ([.ref (qAd E 50), .int x1] : List Value).toArray below meth c 6 (MQ below (PI E q.1 σ q.2) ([.ref (qAd E 50), .int x1] : List Value).toArray s 0 0 (qA E)) σ a5.2 172 [(0, .ref (qAd E 50)), (2, .int v3), (3, .int a5.1)] [.int v13] := by
                  intro v13 hf
                  replace hf := (congrFun (ek_j12) v13).symm.trans hf
                  refine y_istore C dX5_duel_172 (Nat.le_of_ble_eq_true rfl) rfl (lv' := [(5, .int v13), (0, .ref (qAd E 50)), (2, .int v3), (3, .int a5.1)]) rfl ?_
                  refine y_aload_n C dX5_duel_174 rfl 1 rfl ?_
                  refine g50_bests C fl_X5_65 dX5_duel_175 ?_
                  refine y_iload_n C dX5_duel_178 rfl 3 rfl ?_
                  refine y_iload C dX5_duel_179 0 rfl ?_
                  obtain ⟨hi14, hf⟩ := ck_e hf
                  obtain ⟨S15, e_S15, hf⟩ := lt_e hf
                  refine y_iastR C a68 (j := a5.1.toNatClampNeg) rfl hi14 e_S15 dX5_duel_181 ?_
                  refine y_iinc C dX5_duel_182 3 rfl (Nat.le_of_ble_eq_true rfl) (k2 := -1) (by decide) rfl (lv' := [(3, .int (a5.1 + (-1 : Int32))), (5, .int v13), (0, .ref (qAd E 50)), (2, .int v3)]) rfl ?_
                  refine y_iload_n C dX5_duel_185 rfl 0 rfl ?_
                  refine y_if_lt C 196 dX5_duel_186 (by decide) hf (fun hf => ?_) (fun hf => ?_)
                  · refine y_goto C 214 dX5_duel_196 (by decide) ?_
                    refine y_goto C 58 dX5_duel_214 (by decide) ?_
                    refine y_sub [0, 3, 2] rfl ?_
                    exact ih_r6 ((a5.1 + (-1 : Int32)), S15) hf
                  · refine y_aload_n C dX5_duel_189 rfl 2 rfl ?_
                    refine y_iload_n C dX5_duel_190 rfl 0 rfl ?_
                    refine y_iload C dX5_duel_191 1 rfl ?_
                    obtain ⟨q16, h_q16, hf⟩ := bd_e hf
                    refine y_cVv C (kX5_take_50 l E σ S15 (a5.1 + (-1 : Int32)) v13 _ h_q16) vi_X5_take ml_X5_297 ⟨5, _, o50, rfl, rfl⟩ rfl ⟨rfl, rfl, Nat.le_of_ble_eq_true rfl, Nat.le_of_ble_eq_true rfl⟩ dX5_duel_193 rfl (Nat.le_of_ble_eq_true rfl) ?_
                    refine y_goto C 214 dX5_duel_196 (by decide) ?_
                    refine y_goto C 58 dX5_duel_214 (by decide) ?_
                    refine y_sub [0, 3, 2] rfl ?_
                    exact ih_r6 ((a5.1 + (-1 : Int32)), q16) hf
                refine y_icmp_ne C 166 dX5_duel_154 (by decide) hf (fun hf => ?_) (fun hf => ?_)
                · refine y_aload_n C dX5_duel_166 rfl 0 rfl ?_
                  refine g50_bests C fl_X5_65 dX5_duel_167 ?_
                  refine y_iload_n C dX5_duel_170 rfl 2 rfl ?_
                  obtain ⟨hi17, hf⟩ := ck_e hf
                  refine y_ialdR C a68 (j := a5.1.toNatClampNeg) rfl hi17 dX5_duel_171 ?_
                  refine y_sub [0, 1, 2] rfl ?_
                  exact h_j12 (gM a5.2 68 a5.1.toNatClampNeg) hf
                · refine y_aload_n C dX5_duel_157 rfl 0 rfl ?_
                  refine g50_planCarried C fl_X5_56 dX5_duel_158 ?_
                  refine y_iload_n C dX5_duel_161 rfl 2 rfl ?_
                  obtain ⟨hi18, hf⟩ := ck_e hf
                  refine y_ialdR C a65 (j := a5.1.toNatClampNeg) rfl hi18 dX5_duel_162 ?_
                  refine y_goto C 172 dX5_duel_163 (by decide) ?_
                  refine y_sub [0, 1, 2] rfl ?_
                  exact h_j12 (gM a5.2 65 a5.1.toNatClampNeg) hf
            refine y_icmp_le C 143 dX5_duel_97 (by decide) hf (fun hf => ?_) (fun hf => ?_)
            · refine y_sub [1, 2, 3, 0] rfl ?_
              exact h_j9 () hf
            · refine y_aload_n C dX5_duel_100 rfl 1 rfl ?_
              refine g50_bests C fl_X5_65 dX5_duel_101 ?_
              refine y_iload_n C dX5_duel_104 rfl 3 rfl ?_
              obtain ⟨hi19, hf⟩ := ck_e hf
              refine y_ialdR C a68 (j := a5.1.toNatClampNeg) rfl hi19 dX5_duel_105 ?_
              refine y_bipush C (v := -9) dX5_duel_106 (by decide) ?_
              refine y_icmp_ne C 143 dX5_duel_108 (by decide) hf (fun hf => ?_) (fun hf => ?_)
              · refine y_sub [1, 2, 3, 0] rfl ?_
                exact h_j9 () hf
              · refine y_iload_n C dX5_duel_111 rfl 3 rfl ?_
                refine y_iload_n C dX5_duel_112 rfl 2 rfl ?_
                refine y_icmp_ge C 143 dX5_duel_113 (by decide) hf (fun hf => ?_) (fun hf => ?_)
                · refine y_sub [1, 2, 3, 0] rfl ?_
                  exact h_j9 () hf
                · refine y_aload_n C dX5_duel_116 rfl 1 rfl ?_
                  refine y_iload_n C dX5_duel_117 rfl 3 rfl ?_
                  refine y_iconst C (v := 0) dX5_duel_118 (by decide) ?_
                  obtain ⟨q20, h_q20, hf⟩ := bd_e hf
                  refine y_cVv C (kX5_choose_50 l E σ a5.2 a5.1 (0 : Int32) _ h_q20) vi_X5_choose ml_X5_255 ⟨5, _, o50, rfl, rfl⟩ rfl ⟨rfl, rfl, Nat.le_of_ble_eq_true rfl, Nat.le_of_ble_eq_true rfl⟩ dX5_duel_119 rfl (Nat.le_of_ble_eq_true rfl) ?_
                  refine y_aload_n C dX5_duel_122 rfl 1 rfl ?_
                  refine g50_choices C fl_X5_62 dX5_duel_123 ?_
                  refine y_iload_n C dX5_duel_126 rfl 3 rfl ?_
                  refine y_aload_n C dX5_duel_127 rfl 1 rfl ?_
                  refine g50_sitters C fl_X5_163 dX5_duel_128 ?_
                  obtain ⟨hi21, hf⟩ := ck_e hf
                  obtain ⟨S22, e_S22, hf⟩ := lt_e hf
                  refine y_iastR C a67 (j := a5.1.toNatClampNeg) rfl hi21 e_S22 dX5_duel_131 ?_
                  refine y_iinc C dX5_duel_132 3 rfl (Nat.le_of_ble_eq_true rfl) (k2 := 1) (by decide) rfl (lv' := [(3, .int (a5.1 + (1 : Int32))), (4, .int v8), (0, .ref (qAd E 50)), (2, .int v3)]) rfl ?_
                  refine y_aload_n C dX5_duel_135 rfl 2 rfl ?_
                  refine y_iload_n C dX5_duel_136 rfl 0 rfl ?_
                  obtain ⟨q23, h_q23, hf⟩ := bd_e hf
                  refine y_cVv C (kX5_beginTurn_50 l E σ S22 (a5.1 + (1 : Int32)) _ h_q23) vi_X5_beginTurn ml_X5_294 ⟨5, _, o50, rfl, rfl⟩ rfl ⟨rfl, rfl, Nat.le_of_ble_eq_true rfl, Nat.le_of_ble_eq_true rfl⟩ dX5_duel_137 rfl (Nat.le_of_ble_eq_true rfl) ?_
                  refine y_goto C 214 dX5_duel_140 (by decide) ?_
                  refine y_goto C 58 dX5_duel_214 (by decide) ?_
                  refine y_sub [0, 3, 2] rfl ?_
                  exact ih_r6 ((a5.1 + (1 : Int32)), q23) hf
          refine y_icmp_ne C 76 dX5_duel_64 (by decide) hf (fun hf => ?_) (fun hf => ?_)
          · refine y_aload_n C dX5_duel_76 rfl 2 rfl ?_
            refine y_iload_n C dX5_duel_77 rfl 0 rfl ?_
            refine y_aload_n C dX5_duel_78 rfl 2 rfl ?_
            refine g50_choices C fl_X5_62 dX5_duel_79 ?_
            refine y_iload_n C dX5_duel_82 rfl 0 rfl ?_
            obtain ⟨hi24, hf⟩ := ck_e hf
            refine y_ialdR C a67 (j := a5.1.toNatClampNeg) rfl hi24 dX5_duel_83 ?_
            refine y_iconst C (v := 1) dX5_duel_84 (by decide) ?_
            refine y_iadd C dX5_duel_85 ?_
            obtain ⟨q25, h_q25, hf⟩ := bd_e hf
            refine y_cVi C (kX5_nextChoice_50 l E σ a5.2 a5.1 ((gM a5.2 67 a5.1.toNatClampNeg) + (1 : Int32)) _ h_q25) vi_X5_nextChoice ml_X5_252 ⟨5, _, o50, rfl, rfl⟩ rfl ⟨rfl, rfl, Nat.le_of_ble_eq_true rfl, Nat.le_of_ble_eq_true rfl⟩ dX5_duel_86 rfl (Nat.le_of_ble_eq_true rfl) ?_
            refine y_sub [2, 1, 0] rfl ?_
            exact h_j7 q25 hf
          · refine y_aload_n C dX5_duel_67 rfl 2 rfl ?_
            refine g50_sitters C fl_X5_163 dX5_duel_68 ?_
            refine y_iconst C (v := 1) dX5_duel_71 (by decide) ?_
            refine y_iadd C dX5_duel_72 ?_
            refine y_goto C 89 dX5_duel_73 (by decide) ?_
            refine y_sub [2, 1, 0] rfl ?_
            exact h_j7 ((gI a5.2 1) + (1 : Int32)) hf
      refine y_icmp_ge C 46 dX5_duel_39 (by decide) hf (fun hf => ?_) (fun hf => ?_)
      · refine y_aload_n C dX5_duel_46 rfl 0 rfl ?_
        refine g50_planMany C fl_X5_245 dX5_duel_47 ?_
        refine y_sub [0] rfl ?_
        exact h_j2 (gI q1 11) hf
      · refine y_iload_n C dX5_duel_42 rfl 1 rfl ?_
        refine y_goto C 50 dX5_duel_43 (by decide) ?_
        refine y_sub [0] rfl ?_
        exact h_j2 x1 hf
    · refine y_bipush C (v := -4) dX5_duel_21 (by decide) ?_
      exact y_iret C (rs1 hf) rfl (rs2 hf) dX5_duel_23
  · refine y_iconst C (v := -1) dX5_duel_12 (by decide) ?_
    exact y_iret C (rs1 hf) rfl (rs2 hf) dX5_duel_13
