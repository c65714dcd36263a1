/-! ===== Search(Night): the table of how many plans there are ===== -/
theorem nI_mul (a b : Nat) : nI a * nI b = nI (a * b) := (Int32.ofNat_mul a b).symm
theorem pcnt_1 (n : Nat) : pcnt n 0 = 1 := by cases n <;> rfl
theorem inZ_at {E : QE} {N M : Nat} {r : Nat → Nat} {T : Nat → Nat → Int32} {i : Nat} (h : i < N) : (inZ E N M r T)[i]? = some (r i, .inl (qI E, M, .inl (T i))) := by
  unfold inZ
  rw [List.getElem?_map, List.getElem?_range h]
  rfl
theorem inZ_set {E : QE} {N M : Nat} {r : Nat → Nat} {T : Nat → Nat → Int32} {i : Nat} (h : i < N) (g : Nat → Int32) : (inZ E N M r T).set i (r i, .inl (qI E, M, .inl g)) = inZ E N M r (fun a => if a = i then g else T a) := by
  apply List.ext_getElem?
  intro j
  by_cases hj : j = i
  · subst hj
    rw [wA_get (inZ_at h), inZ_at h, if_pos rfl]
  · rw [List.getElem?_set_ne (Ne.symm hj)]
    by_cases hN : j < N
    · rw [inZ_at hN, inZ_at hN, if_neg hj]
    · rw [List.getElem?_eq_none (by rw [inZ_len]; omega), List.getElem?_eq_none (by rw [inZ_len]; omega)]
def tbW (E : QE) (h0 hN hS q1 q2 q3 : Nat) (r : Nat → Nat) (T : Nat → Nat → Int32) : va_W := (h0, .inr (2, [.ref hN, .ref hS, .ref q1, .ref q2, .ref q3, .int 0, .int 0, .int 0, .int 0, .int 0, .int 0, .long 0, .int 0, .long 0, .long 0, .long 0])) :: ivZ E q1 6 (fun _ => 0) :: ivZ E q2 6 (fun _ => 0) :: ouZ E q3 7 r :: inZ E 7 7 r T
theorem tb_at {E : QE} {h0 hN hS q1 q2 q3 : Nat} {r : Nat → Nat} {T : Nat → Nat → Int32} {i : Nat} (h : i < 7) : (tbW E h0 hN hS q1 q2 q3 r T)[i + 4]? = some (r i, .inl (qI E, 7, .inl (T i))) := inZ_at h
theorem tb_set {E : QE} {h0 hN hS q1 q2 q3 : Nat} {r : Nat → Nat} {T : Nat → Nat → Int32} {i : Nat} (h : i < 7) (g : Nat → Int32) : (tbW E h0 hN hS q1 q2 q3 r T).set (i + 4) (r i, .inl (qI E, 7, .inl g)) = tbW E h0 hN hS q1 q2 q3 r (fun a => if a = i then g else T a) := by
  unfold tbW
  rw [← inZ_set h g]
  rfl
theorem ou_some {r : Nat → Nat} {i : Nat} (h : i < 7) : (fun i => if i < 7 then some (r i) else none) (nI i).toNatClampNeg = some (r i) := by
  show (if (nI i).toNatClampNeg < 7 then some (r (nI i).toNatClampNeg) else none) = some (r i)
  rw [nI_c (show i < 1000000 by omega), if_pos h]
def rmS : Room := { frames := 1, cells := 10, slots := 68, locals := 40 }
set_option maxRecDepth 100000 in
set_option maxHeartbeats 4000000 in
theorem se_l1 {E : QE} {p : Program} {l : Launch} {e : Env} {s : State} {m : MethodId} {below : List Frame} {meth : Method} {c : Code} {Q : State → Prop} {w : va_W} {ce sl h0 hN hS q1 q2 q3 : Nat} {r : Nat → Nat} (C : Cx E p s m ([.ref h0, .ref hN] : List Value).toArray meth c cX2_init 4 none yX2_init.cls) (kk : ∀ T : Nat → Nat → Int32, (∀ j, j < 7 → T 0 j = 1) → Z E p l e rmS s m ([.ref h0, .ref hN] : List Value).toArray below meth c 4 Q (w ++ tbW E h0 hN hS q1 q2 q3 r T) ce sl 68 [(2, .int (nI 7)), (0, .ref h0), (1, .ref hN)] []) : ∀ (mm k : Nat) (T : Nat → Nat → Int32), k + mm = 7 → (∀ j, j < k → T 0 j = 1) → Z E p l e rmS s m ([.ref h0, .ref hN] : List Value).toArray below meth c 4 Q (w ++ tbW E h0 hN hS q1 q2 q3 r T) ce sl 47 [(2, .int (nI k)), (0, .ref h0), (1, .ref hN)] [] := by
  intro mm
  induction mm with
  | zero =>
    intro k T hk hT
    have hk : k = 7 := by omega
    subst hk
    refine z_iload_n C dX2_init_47 rfl 0 rfl ?_
    refine z_bipush C (v := 6) dX2_init_48 (by decide) ?_
    exact z_icmp_gt C 68 dX2_init_50 (by decide) (fun _ => kk T hT) (fun h => absurd (show (6 : Int32) < nI 7 by decide) h)
  | succ mm ih =>
    intro k T hk hT
    refine z_iload_n C dX2_init_47 rfl 0 rfl ?_
    refine z_bipush C (v := 6) dX2_init_48 (by decide) ?_
    refine z_icmp_gt C 68 dX2_init_50 (by decide) (fun h => absurd ((nI_l2 (a := 6) (b := k) (by decide) (by omega)).mp h) (by omega)) (fun _ => ?_)
    refine z_aload_n C dX2_init_53 rfl 1 rfl ?_
    refine z_get C (wA_at (j := 0) rfl) (ci := 2) (Cn := RX2) (Tt := TX2) (N := 16) rfl inT2 (k := 4) (by decide) rfl fl_X2_20 dX2_init_54 ?_
    refine z_iconst C (v := nI 0) dX2_init_57 (by decide) ?_
    refine z_aald C (wA_at (j := 3) rfl) (ou_some (by decide)) (nI_in (by decide) (by decide)) dX2_init_58 ?_
    refine z_iload_n C dX2_init_59 rfl 0 rfl ?_
    refine z_iconst C (v := 1) dX2_init_60 (by decide) ?_
    refine z_iast C (tb_at (i := 0) (by decide)) (nI_in (show k < 7 by omega) (by decide)) (tb_set (i := 0) (by decide) _) dX2_init_61 ?_
    refine z_iinc C dX2_init_62 0 rfl (Nat.le_of_ble_eq_true rfl) (k2 := 1) (by decide) rfl (lv' := [(2, .int (nI k + (1 : Int32))), (0, .ref h0), (1, .ref hN)]) rfl ?_
    refine z_goto C 47 dX2_init_65 (by decide) ?_
    rw [nI_1]
    refine ih (k + 1) _ (by omega) (fun j hj => ?_)
    show upd (T 0) (nI k).toNatClampNeg 1 j = 1
    rw [nI_c (show k < 1000000 by omega)]
    by_cases e1 : j = k
    · subst e1; exact upd_same _ _ _
    · rw [upd_ne e1]; exact hT j (by omega)
set_option maxRecDepth 100000 in
set_option maxHeartbeats 4000000 in
theorem se_l3 {E : QE} {p : Program} {l : Launch} {e : Env} {s : State} {m : MethodId} {below : List Frame} {meth : Method} {c : Code} {Q : State → Prop} {w : va_W} {ce sl h0 hN hS q1 q2 q3 : Nat} {r : Nat → Nat} (C : Cx E p s m ([.ref h0, .ref hN] : List Value).toArray meth c cX2_init 4 none yX2_init.cls) {n : Nat} (hn : n < 6) (kk : ∀ T : Nat → Nat → Int32, (∀ i, i < n + 2 → ∀ j, j < 7 → T i j = nI (pcnt i j)) → Z E p l e rmS s m ([.ref h0, .ref hN] : List Value).toArray below meth c 4 Q (w ++ tbW E h0 hN hS q1 q2 q3 r T) ce sl 132 [(3, .int (nI 7)), (2, .int (nI (n + 1))), (0, .ref h0), (1, .ref hN)] []) : ∀ (mm k : Nat) (T : Nat → Nat → Int32), k + mm = 6 → (∀ i, i < n + 1 → ∀ j, j < 7 → T i j = nI (pcnt i j)) → (∀ j, j < k + 1 → T (n + 1) j = nI (pcnt (n + 1) j)) → Z E p l e rmS s m ([.ref h0, .ref hN] : List Value).toArray below meth c 4 Q (w ++ tbW E h0 hN hS q1 q2 q3 r T) ce sl 87 [(3, .int (nI (k + 1))), (2, .int (nI (n + 1))), (0, .ref h0), (1, .ref hN)] [] := by
  intro mm
  induction mm with
  | zero =>
    intro k T hk hT hU
    have hk : k = 6 := by omega
    subst hk
    refine z_iload_n C dX2_init_87 rfl 0 rfl ?_
    refine z_bipush C (v := 6) dX2_init_88 (by decide) ?_
    refine z_icmp_gt C 132 dX2_init_90 (by decide) (fun _ => kk T (fun i hi j hj => ?_)) (fun h => absurd (show (6 : Int32) < nI 7 by decide) h)
    by_cases e1 : i = n + 1
    · subst e1; exact hU j hj
    · exact hT i (by omega) j hj
  | succ mm ih =>
    intro k T hk hT hU
    refine z_iload_n C dX2_init_87 rfl 0 rfl ?_
    refine z_bipush C (v := 6) dX2_init_88 (by decide) ?_
    refine z_icmp_gt C 132 dX2_init_90 (by decide) (fun h => absurd ((nI_l2 (a := 6) (b := k + 1) (by decide) (by omega)).mp h) (by omega)) (fun _ => ?_)
    refine z_aload_n C dX2_init_93 rfl 2 rfl ?_
    refine z_get C (wA_at (j := 0) rfl) (ci := 2) (Cn := RX2) (Tt := TX2) (N := 16) rfl inT2 (k := 4) (by decide) rfl fl_X2_20 dX2_init_94 ?_
    refine z_iload_n C dX2_init_97 rfl 1 rfl ?_
    refine z_aald C (wA_at (j := 3) rfl) (ou_some (i := n + 1) (by omega)) (nI_in (show n + 1 < 7 by omega) (by decide)) dX2_init_98 ?_
    refine z_iload_n C dX2_init_99 rfl 0 rfl ?_
    refine z_aload_n C dX2_init_100 rfl 2 rfl ?_
    refine z_get C (wA_at (j := 0) rfl) (ci := 2) (Cn := RX2) (Tt := TX2) (N := 16) rfl inT2 (k := 4) (by decide) rfl fl_X2_20 dX2_init_101 ?_
    refine z_iload_n C dX2_init_104 rfl 1 rfl ?_
    refine z_iconst C (v := 1) dX2_init_105 (by decide) ?_
    refine z_isub C dX2_init_106 ?_
    rw [nI_pred]
    refine z_aald C (wA_at (j := 3) rfl) (ou_some (i := n) (by omega)) (nI_in (show n < 7 by omega) (by decide)) dX2_init_107 ?_
    refine z_iload_n C dX2_init_108 rfl 0 rfl ?_
    refine z_iald C (wA_at (tb_at (i := n) (by omega))) (v := nI (pcnt n (k + 1))) (by rw [nI_c (show k + 1 < 1000000 by omega)]; exact hT n (by omega) (k + 1) (by omega)) (nI_in (show k + 1 < 7 by omega) (by decide)) dX2_init_109 ?_
    refine z_iload_n C dX2_init_110 rfl 0 rfl ?_
    refine z_aload_n C dX2_init_111 rfl 2 rfl ?_
    refine z_get C (wA_at (j := 0) rfl) (ci := 2) (Cn := RX2) (Tt := TX2) (N := 16) rfl inT2 (k := 4) (by decide) rfl fl_X2_20 dX2_init_112 ?_
    refine z_iload_n C dX2_init_115 rfl 1 rfl ?_
    refine z_iconst C (v := 1) dX2_init_116 (by decide) ?_
    refine z_isub C dX2_init_117 ?_
    rw [nI_pred]
    refine z_aald C (wA_at (j := 3) rfl) (ou_some (i := n) (by omega)) (nI_in (show n < 7 by omega) (by decide)) dX2_init_118 ?_
    refine z_iload_n C dX2_init_119 rfl 0 rfl ?_
    refine z_iconst C (v := 1) dX2_init_120 (by decide) ?_
    refine z_isub C dX2_init_121 ?_
    rw [nI_pred]
    refine z_iald C (wA_at (tb_at (i := n) (by omega))) (v := nI (pcnt n k)) (by rw [nI_c (show k < 1000000 by omega)]; exact hT n (by omega) k (by omega)) (nI_in (show k < 7 by omega) (by decide)) dX2_init_122 ?_
    refine z_imul C dX2_init_123 ?_
    refine z_iadd C dX2_init_124 ?_
    rw [nI_mul, nI_add]
    refine z_iast C (tb_at (i := n + 1) (by omega)) (nI_in (show k + 1 < 7 by omega) (by decide)) (tb_set (i := n + 1) (by omega) _) dX2_init_125 ?_
    refine z_iinc C dX2_init_126 0 rfl (Nat.le_of_ble_eq_true rfl) (k2 := 1) (by decide) rfl (lv' := [(3, .int (nI (k + 1) + (1 : Int32))), (2, .int (nI (n + 1))), (0, .ref h0), (1, .ref hN)]) rfl ?_
    refine z_goto C 87 dX2_init_129 (by decide) ?_
    rw [nI_1]
    refine ih (k + 1) _ (by omega) (fun i hi j hj => ?_) (fun j hj => ?_)
    · show (if i = n + 1 then _ else T i) j = _
      rw [if_neg (show ¬ i = n + 1 by omega)]
      exact hT i hi j hj
    · show (if n + 1 = n + 1 then upd (T (n + 1)) (nI (k + 1)).toNatClampNeg (nI (pcnt n (k + 1) + (k + 1) * pcnt n k)) else T (n + 1)) j = _
      rw [if_pos rfl, nI_c (show k + 1 < 1000000 by omega)]
      by_cases e1 : j = k + 1
      · subst e1; exact upd_same _ _ _
      · rw [upd_ne e1]; exact hU j (by omega)
set_option maxRecDepth 100000 in
set_option maxHeartbeats 4000000 in
theorem se_l2 {E : QE} {p : Program} {l : Launch} {e : Env} {s : State} {m : MethodId} {below : List Frame} {meth : Method} {c : Code} {Q : State → Prop} {w : va_W} {ce sl h0 hN hS q1 q2 q3 : Nat} {r : Nat → Nat} (C : Cx E p s m ([.ref h0, .ref hN] : List Value).toArray meth c cX2_init 4 none yX2_init.cls) (kk : ∀ T : Nat → Nat → Int32, (∀ i, i < 7 → ∀ j, j < 7 → T i j = nI (pcnt i j)) → Z E p l e rmS s m ([.ref h0, .ref hN] : List Value).toArray below meth c 4 Q (w ++ tbW E h0 hN hS q1 q2 q3 r T) ce sl 138 [(2, .int (nI 7)), (0, .ref h0), (1, .ref hN)] []) : ∀ (mm n : Nat) (T : Nat → Nat → Int32), n + mm = 6 → (∀ i, i < n + 1 → ∀ j, j < 7 → T i j = nI (pcnt i j)) → Z E p l e rmS s m ([.ref h0, .ref hN] : List Value).toArray below meth c 4 Q (w ++ tbW E h0 hN hS q1 q2 q3 r T) ce sl 70 [(2, .int (nI (n + 1))), (0, .ref h0), (1, .ref hN)] [] := by
  intro mm
  induction mm with
  | zero =>
    intro n T hk hT
    have hk : n = 6 := by omega
    subst hk
    refine z_iload_n C dX2_init_70 rfl 0 rfl ?_
    refine z_bipush C (v := 6) dX2_init_71 (by decide) ?_
    exact z_icmp_gt C 138 dX2_init_73 (by decide) (fun _ => kk T hT) (fun h => absurd (show (6 : Int32) < nI 7 by decide) h)
  | succ mm ih =>
    intro n T hk hT
    refine z_iload_n C dX2_init_70 rfl 0 rfl ?_
    refine z_bipush C (v := 6) dX2_init_71 (by decide) ?_
    refine z_icmp_gt C 138 dX2_init_73 (by decide) (fun h => absurd ((nI_l2 (a := 6) (b := n + 1) (by decide) (by omega)).mp h) (by omega)) (fun _ => ?_)
    refine z_aload_n C dX2_init_76 rfl 1 rfl ?_
    refine z_get C (wA_at (j := 0) rfl) (ci := 2) (Cn := RX2) (Tt := TX2) (N := 16) rfl inT2 (k := 4) (by decide) rfl fl_X2_20 dX2_init_77 ?_
    refine z_iload_n C dX2_init_80 rfl 0 rfl ?_
    refine z_aald C (wA_at (j := 3) rfl) (ou_some (i := n + 1) (by omega)) (nI_in (show n + 1 < 7 by omega) (by decide)) dX2_init_81 ?_
    refine z_iconst C (v := nI 0) dX2_init_82 (by decide) ?_
    refine z_iconst C (v := 1) dX2_init_83 (by decide) ?_
    refine z_iast C (tb_at (i := n + 1) (by omega)) (nI_in (show 0 < 7 by decide) (by decide)) (tb_set (i := n + 1) (by omega) _) dX2_init_84 ?_
    refine z_iconst C (v := nI (0 + 1)) dX2_init_85 (by decide) ?_
    refine z_istore_n C dX2_init_86 rfl (Nat.le_of_ble_eq_true rfl) rfl (lv' := [(3, .int (nI (0 + 1))), (2, .int (nI (n + 1))), (0, .ref h0), (1, .ref hN)]) rfl ?_
    refine se_l3 C (n := n) (by omega) (fun T2 hT2 => ?_) 6 0 _ (by omega) (fun i hi j hj => ?_) (fun j hj => ?_)
    · refine z_iinc C dX2_init_132 1 rfl (Nat.le_of_ble_eq_true rfl) (k2 := 1) (by decide) rfl (lv' := [(2, .int (nI (n + 1) + (1 : Int32))), (3, .int (nI 7)), (0, .ref h0), (1, .ref hN)]) rfl ?_
      refine z_goto C 70 dX2_init_135 (by decide) ?_
      rw [nI_1]
      refine z_sub [0, 2, 3] rfl ?_
      exact ih (n + 1) T2 (by omega) hT2
    · show (if i = n + 1 then _ else T i) j = _
      rw [if_neg (show ¬ i = n + 1 by omega)]
      exact hT i hi j hj
    · have hj : j = 0 := by omega
      subst hj
      show (if n + 1 = n + 1 then upd (T (n + 1)) (nI 0).toNatClampNeg 1 else T (n + 1)) 0 = _
      rw [if_pos rfl, nI_c (show 0 < 1000000 by decide), upd_same, pcnt_1]
      rfl
def seW (E : QE) (h0 hN hS : Nat) (x : Nat × Nat × Nat × (Nat → Nat)) : va_W := tbW E h0 hN hS x.1 x.2.1 x.2.2.1 x.2.2.2 (fun i j => nI (pcnt i j))
set_option maxRecDepth 100000 in
set_option maxHeartbeats 4000000 in
theorem kz_search (l : Launch) (E : QE) (N0 : Nat) (hNA : ∀ q, N0 ≤ q → qA E q) (w : va_W) (h0 hN hS kn : Nat) (fs : List Value) (hw : w[kn]? = some (hN, .inr (0, fs))) (hv : fs[0]? = some (.ref hS)) : KZ l N0 yX2_init cX2_init 4 rmS E [.ref h0, .ref hN] (w ++ [(h0, .inr (2, [.null, .null, .null, .null, .null, .int 0, .int 0, .int 0, .int 0, .int 0, .int 0, .long 0, .int 0, .long 0, .long 0, .long 0]))]) (fun x : Nat × Nat × Nat × (Nat → Nat) => w ++ seW E h0 hN hS x) 10 68 := by
  refine z_met rfl (Nat.le_of_ble_eq_true rfl) rfl (fun p e s m below meth c C hm hO hn0 => ?_)
  have hA : ∀ q, s.heap.size ≤ q → qA E q := fun q h => hNA q (Nat.le_trans hn0 h)
  refine z_aload_n C dX2_init_0 rfl 0 rfl ?_
  refine z_obj C ol_X2 oi_inst oi_code (Nat.le_of_ble_eq_true rfl) (Nat.le_of_ble_eq_true rfl) dX2_init_1 ?_
  refine z_aload_n C dX2_init_4 rfl 0 rfl ?_
  refine z_bipush C (v := 6) dX2_init_5 (by decide) ?_
  refine z_newa C hA ac_int (N := 6) (by decide) (by decide) (Nat.le_of_ble_eq_true rfl) (Nat.le_of_ble_eq_true rfl) (Nat.le_of_ble_eq_true rfl) dX2_init_7 (fun q1 => ?_)
  refine z_putF C hm (j := 0) (ci := 2) (Cn := RX2) (Tt := TX2) (N := 16) (k := 2) (A1 := [(h0, .inr (2, [.null, .null, .ref q1, .null, .null, .int 0, .int 0, .int 0, .int 0, .int 0, .int 0, .long 0, .int 0, .long 0, .long 0, .long 0])), ivZ E q1 6 (fun _ => 0)]) rfl rfl inT2 tyX2 tyX2_ok nmX2 (by decide) rfl rfl (ty := .array .int) (by decide +kernel) rfl rfl (Nat.le_of_ble_eq_true rfl) rfl fl_X2_9 dX2_init_9 ?_
  refine z_aload_n C dX2_init_12 rfl 0 rfl ?_
  refine z_bipush C (v := 6) dX2_init_13 (by decide) ?_
  refine z_newa C hA ac_int (N := 6) (by decide) (by decide) (Nat.le_of_ble_eq_true rfl) (Nat.le_of_ble_eq_true rfl) (Nat.le_of_ble_eq_true rfl) dX2_init_15 (fun q2 => ?_)
  refine z_putF C hm (j := 0) (ci := 2) (Cn := RX2) (Tt := TX2) (N := 16) (k := 3) (A1 := [(h0, .inr (2, [.null, .null, .ref q1, .ref q2, .null, .int 0, .int 0, .int 0, .int 0, .int 0, .int 0, .long 0, .int 0, .long 0, .long 0, .long 0])), ivZ E q1 6 (fun _ => 0), ivZ E q2 6 (fun _ => 0)]) rfl rfl inT2 tyX2 tyX2_ok nmX2 (by decide) rfl rfl (ty := .array .int) (by decide +kernel) rfl rfl (Nat.le_of_ble_eq_true rfl) rfl fl_X2_15 dX2_init_17 ?_
  refine z_aload_n C dX2_init_20 rfl 0 rfl ?_
  refine z_bipush C (v := 7) dX2_init_21 (by decide) ?_
  refine z_bipush C (v := 7) dX2_init_23 (by decide) ?_
  refine z_mna C hA hO cl_X2_18 ac_int (N := 7) (M := 7) (by decide) (by decide) (by decide) (by decide) (Nat.le_of_ble_eq_true rfl) (Nat.le_of_ble_eq_true rfl) (Nat.le_of_ble_eq_true rfl) (Nat.le_of_ble_eq_true rfl) dX2_init_25 (fun q3 r => ?_)
  refine z_putF C hm (j := 0) (ci := 2) (Cn := RX2) (Tt := TX2) (N := 16) (k := 4) (A1 := (h0, .inr (2, [.null, .null, .ref q1, .ref q2, .ref q3, .int 0, .int 0, .int 0, .int 0, .int 0, .int 0, .long 0, .int 0, .long 0, .long 0, .long 0])) :: ivZ E q1 6 (fun _ => 0) :: ivZ E q2 6 (fun _ => 0) :: ouZ E q3 7 r :: inZ E 7 7 r (fun _ _ => 0)) rfl rfl inT2 tyX2 tyX2_ok nmX2 (by decide) rfl rfl (ty := .array (.array .int)) (by decide +kernel) rfl rfl (Nat.le_of_ble_eq_true rfl) rfl fl_X2_20 dX2_init_29 ?_
  refine z_aload_n C dX2_init_32 rfl 0 rfl ?_
  refine z_aload_n C dX2_init_33 rfl 1 rfl ?_
  refine z_putF C hm (j := 0) (ci := 2) (Cn := RX2) (Tt := TX2) (N := 16) (k := 0) (A1 := (h0, .inr (2, [.ref hN, .null, .ref q1, .ref q2, .ref q3, .int 0, .int 0, .int 0, .int 0, .int 0, .int 0, .long 0, .int 0, .long 0, .long 0, .long 0])) :: ivZ E q1 6 (fun _ => 0) :: ivZ E q2 6 (fun _ => 0) :: ouZ E q3 7 r :: inZ E 7 7 r (fun _ _ => 0)) rfl rfl inT2 tyX2 tyX2_ok nmX2 (by decide) rfl rfl (ty := .object "CalledStalls$Night") (by decide +kernel) rfl rfl (Nat.le_of_ble_eq_true rfl) rfl fl_X2_23 dX2_init_34 ?_
  refine z_aload_n C dX2_init_37 rfl 0 rfl ?_
  refine z_aload_n C dX2_init_38 rfl 1 rfl ?_
  refine z_getN C (wA_left hw) (ci := 0) (Cn := RX0) (Tt := TX0) (N := 10) rfl inT0 (k := 0) (by decide) hv fn_X2_27 dX2_init_39 ?_
  refine z_putF C hm (j := 0) (ci := 2) (Cn := RX2) (Tt := TX2) (N := 16) (k := 1) (A1 := tbW E h0 hN hS q1 q2 q3 r (fun _ _ => 0)) rfl rfl inT2 tyX2 tyX2_ok nmX2 (by decide) rfl rfl (ty := .object "CalledStalls$Script") (by decide +kernel) rfl rfl (Nat.le_of_ble_eq_true rfl) rfl fl_X2_33 dX2_init_42 ?_
  refine z_iconst C (v := nI 0) dX2_init_45 (by decide) ?_
  refine z_istore_n C dX2_init_46 rfl (Nat.le_of_ble_eq_true rfl) rfl (lv' := [(2, .int (nI 0)), (0, .ref h0), (1, .ref hN)]) rfl ?_
  refine se_l1 C (fun T hT => ?_) 7 0 _ (by decide) (fun j hj => absurd hj (Nat.not_lt_zero j))
  refine z_iconst C (v := nI (0 + 1)) dX2_init_68 (by decide) ?_
  refine z_istore_n C dX2_init_69 rfl (Nat.le_of_ble_eq_true rfl) rfl (lv' := [(2, .int (nI (0 + 1))), (0, .ref h0), (1, .ref hN)]) rfl ?_
  refine se_l2 C (fun T hT => ?_) 6 0 T (by decide) (fun i hi j hj => ?_)
  · refine z_sub [1, 2] (lv' := [(0, .ref h0), (1, .ref hN)]) rfl ?_
    refine z_ext (A1 := tbW E h0 hN hS q1 q2 q3 r (fun a => if a = 0 then (fun j => nI (pcnt 0 j)) else T a)) (fun j => nI (pcnt 0 j)) (tb_at (i := 0) (by decide)) (fun j hj => hT 0 (by decide) j hj) (tb_set (i := 0) (by decide) _) ?_
    refine z_ext (A1 := tbW E h0 hN hS q1 q2 q3 r (fun a => if a = 1 then (fun j => nI (pcnt 1 j)) else (fun a => if a = 0 then (fun j => nI (pcnt 0 j)) else T a) a)) (fun j => nI (pcnt 1 j)) (tb_at (i := 1) (by decide)) (fun j hj => hT 1 (by decide) j hj) (tb_set (i := 1) (by decide) _) ?_
    refine z_ext (A1 := tbW E h0 hN hS q1 q2 q3 r (fun a => if a = 2 then (fun j => nI (pcnt 2 j)) else (fun a => if a = 1 then (fun j => nI (pcnt 1 j)) else (fun a => if a = 0 then (fun j => nI (pcnt 0 j)) else T a) a) a)) (fun j => nI (pcnt 2 j)) (tb_at (i := 2) (by decide)) (fun j hj => hT 2 (by decide) j hj) (tb_set (i := 2) (by decide) _) ?_
    refine z_ext (A1 := tbW E h0 hN hS q1 q2 q3 r (fun a => if a = 3 then (fun j => nI (pcnt 3 j)) else (fun a => if a = 2 then (fun j => nI (pcnt 2 j)) else (fun a => if a = 1 then (fun j => nI (pcnt 1 j)) else (fun a => if a = 0 then (fun j => nI (pcnt 0 j)) else T a) a) a) a)) (fun j => nI (pcnt 3 j)) (tb_at (i := 3) (by decide)) (fun j hj => hT 3 (by decide) j hj) (tb_set (i := 3) (by decide) _) ?_
    refine z_ext (A1 := tbW E h0 hN hS q1 q2 q3 r (fun a => if a = 4 then (fun j => nI (pcnt 4 j)) else (fun a => if a = 3 then (fun j => nI (pcnt 3 j)) else (fun a => if a = 2 then (fun j => nI (pcnt 2 j)) else (fun a => if a = 1 then (fun j => nI (pcnt 1 j)) else (fun a => if a = 0 then (fun j => nI (pcnt 0 j)) else T a) a) a) a) a)) (fun j => nI (pcnt 4 j)) (tb_at (i := 4) (by decide)) (fun j hj => hT 4 (by decide) j hj) (tb_set (i := 4) (by decide) _) ?_
    refine z_ext (A1 := tbW E h0 hN hS q1 q2 q3 r (fun a => if a = 5 then (fun j => nI (pcnt 5 j)) else (fun a => if a = 4 then (fun j => nI (pcnt 4 j)) else (fun a => if a = 3 then (fun j => nI (pcnt 3 j)) else (fun a => if a = 2 then (fun j => nI (pcnt 2 j)) else (fun a => if a = 1 then (fun j => nI (pcnt 1 j)) else (fun a => if a = 0 then (fun j => nI (pcnt 0 j)) else T a) a) a) a) a) a)) (fun j => nI (pcnt 5 j)) (tb_at (i := 5) (by decide)) (fun j hj => hT 5 (by decide) j hj) (tb_set (i := 5) (by decide) _) ?_
    refine z_ext (A1 := tbW E h0 hN hS q1 q2 q3 r (fun a => if a = 6 then (fun j => nI (pcnt 6 j)) else (fun a => if a = 5 then (fun j => nI (pcnt 5 j)) else (fun a => if a = 4 then (fun j => nI (pcnt 4 j)) else (fun a => if a = 3 then (fun j => nI (pcnt 3 j)) else (fun a => if a = 2 then (fun j => nI (pcnt 2 j)) else (fun a => if a = 1 then (fun j => nI (pcnt 1 j)) else (fun a => if a = 0 then (fun j => nI (pcnt 0 j)) else T a) a) a) a) a) a) a)) (fun j => nI (pcnt 6 j)) (tb_at (i := 6) (by decide)) (fun j hj => hT 6 (by decide) j hj) (tb_set (i := 6) (by decide) _) ?_
    exact z_vret C (q1, q2, q3, r) rfl dX2_init_138
  · have hi : i = 0 := by omega
    subst hi
    rw [hT j hj]
    rfl
