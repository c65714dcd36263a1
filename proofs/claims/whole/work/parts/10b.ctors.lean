/-! ===== constructors: their words; Arrays.fill; Shelf, Script, Night ===== -/
theorem oi_inst : Cond.instanceMethod objectInit ∈ TB := tb_in (i := 90) (by decide +kernel) rfl
theorem oi_code : Cond.code objectInit ⟨#[0xb1]⟩ 1 none ∈ TB := tb_in (i := 91) (by decide +kernel) rfl
theorem ac_int : Cond.arrayClass .int ∈ TB := tb_in (i := 110) (by decide +kernel) rfl
theorem ol_X3 : Cond.methodLink "CalledStalls$Shelf" 1 objectInit ∈ TB := tb_in (i := 97) (by decide +kernel) rfl
theorem ol_X1 : Cond.methodLink "CalledStalls$Script" 3 objectInit ∈ TB := tb_in (i := 116) (by decide +kernel) rfl
theorem ol_X0 : Cond.methodLink "CalledStalls$Night" 3 objectInit ∈ TB := tb_in (i := 168) (by decide +kernel) rfl
theorem ol_X2 : Cond.methodLink "CalledStalls$Search" 3 objectInit ∈ TB := tb_in (i := 218) (by decide +kernel) rfl
theorem ol_X4 : Cond.methodLink "CalledStalls" 1 objectInit ∈ TB := tb_in (i := 89) (by decide +kernel) rfl
theorem ol_X5 : Cond.methodLink "CalledStallsModel" 1 objectInit ∈ TB := tb_in (i := 842) (by decide +kernel) rfl
theorem cl_X4_7 : Cond.classLink "CalledStalls" 7 "CalledStalls$Shelf" ∈ TB := tb_in (i := 92) (by decide +kernel) rfl
theorem cl_X4_24 : Cond.classLink "CalledStalls" 24 "CalledStalls$Script" ∈ TB := tb_in (i := 111) (by decide +kernel) rfl
theorem cl_X4_34 : Cond.classLink "CalledStalls" 34 "CalledStalls$Night" ∈ TB := tb_in (i := 163) (by decide +kernel) rfl
theorem cl_X4_43 : Cond.classLink "CalledStalls" 43 "CalledStalls$Search" ∈ TB := tb_in (i := 213) (by decide +kernel) rfl
theorem cl_L_7 : Cond.classLink "CalledStallsLaw" 7 "CalledStalls" ∈ TB := tb_in (i := 84) (by decide +kernel) rfl
theorem cl_L_10 : Cond.classLink "CalledStallsLaw" 10 "CalledStallsModel" ∈ TB := tb_in (i := 837) (by decide +kernel) rfl
theorem cl_X3_7 : Cond.classLink "CalledStalls$Shelf" 7 "[[I" ∈ TB := tb_in (i := 98) (by decide +kernel) rfl
theorem cl_X2_18 : Cond.classLink "CalledStalls$Search" 18 "[[I" ∈ TB := tb_in (i := 219) (by decide +kernel) rfl
theorem in_X4 : Cond.instantiable "CalledStalls" 12 ∈ TB := tb_in (i := 85) (by decide +kernel) rfl
theorem in_X3 : Cond.instantiable "CalledStalls$Shelf" 2 ∈ TB := tb_in (i := 93) (by decide +kernel) rfl
theorem in_X1 : Cond.instantiable "CalledStalls$Script" 10 ∈ TB := tb_in (i := 112) (by decide +kernel) rfl
theorem in_X0 : Cond.instantiable "CalledStalls$Night" 10 ∈ TB := tb_in (i := 164) (by decide +kernel) rfl
theorem in_X2 : Cond.instantiable "CalledStalls$Search" 16 ∈ TB := tb_in (i := 214) (by decide +kernel) rfl
theorem in_X5 : Cond.instantiable "CalledStallsModel" 33 ∈ TB := tb_in (i := 838) (by decide +kernel) rfl
theorem ci_X4 : II yX4_init cX4_init 1 0 := ⟨tb_in (i := 87) (by decide +kernel) rfl, ii_X4, tb_in (i := 88) (by decide +kernel) rfl, by decide +kernel, by decide +kernel, by decide +kernel⟩
theorem ci_X3 : II yX3_init cX3_init 3 2 := ⟨tb_in (i := 95) (by decide +kernel) rfl, ii_X3, tb_in (i := 96) (by decide +kernel) rfl, by decide +kernel, by decide +kernel, by decide +kernel⟩
theorem ci_X1 : II yX1_init cX1_init 1 0 := ⟨tb_in (i := 114) (by decide +kernel) rfl, ii_X1, tb_in (i := 115) (by decide +kernel) rfl, by decide +kernel, by decide +kernel, by decide +kernel⟩
theorem ci_X0 : II yX0_init cX0_init 2 1 := ⟨tb_in (i := 166) (by decide +kernel) rfl, ii_X0, tb_in (i := 167) (by decide +kernel) rfl, by decide +kernel, by decide +kernel, by decide +kernel⟩
theorem ci_X2 : II yX2_init cX2_init 4 1 := ⟨tb_in (i := 216) (by decide +kernel) rfl, ii_X2, tb_in (i := 217) (by decide +kernel) rfl, by decide +kernel, by decide +kernel, by decide +kernel⟩
theorem ci_X5 : II yX5_init cX5_init 2 0 := ⟨tb_in (i := 840) (by decide +kernel) rfl, ii_X5, tb_in (i := 841) (by decide +kernel) rfl, by decide +kernel, by decide +kernel, by decide +kernel⟩
theorem wA_self {A : va_W} {j : Nat} {x : Nat × va_E} (h : A[j]? = some x) : A.set j x = A := by
  apply List.ext_getElem?
  intro i
  by_cases hi : i = j
  · subst hi
    rw [List.getElem?_set_self (List.getElem?_eq_some_iff.mp h).1, h]
  · rw [List.getElem?_set_ne (Ne.symm hi)]
theorem wA_left {w A : va_W} {k : Nat} {x : Nat × va_E} (h : w[k]? = some x) : (w ++ A)[k]? = some x := by
  rw [List.getElem?_append_left (List.getElem?_eq_some_iff.mp h).1]
  exact h
theorem wA_get {A : va_W} {j : Nat} {x y : Nat × va_E} (h : A[j]? = some x) : (A.set j y)[j]? = some y := List.getElem?_set_self (List.getElem?_eq_some_iff.mp h).1
def rmF : Room := { frames := 0, cells := 0, slots := 0, locals := 0 }
set_option maxHeartbeats 4000000 in
theorem kz_fill (l : Launch) (E : QE) (N0 : Nat) (w A A1 : va_W) (j a n : Nat) (f : Nat → Int32) (v : Int32) (he : A[j]? = some (a, .inl (qI E, n, .inl f))) (hn : n < 1000000) (hA1 : A.set j (a, .inl (qI E, n, .inl (fun _ => v))) = A1) : KZ l N0 yJ7_fill_53178 cJ7_fill_53178 4 rmF E [.ref a, .int v] (w ++ A) (fun _ : Unit => w ++ A1) 0 0 := by
  refine z_met rfl (Nat.le_of_ble_eq_true rfl) rfl (fun p e s m below meth c C _ _ _ => ?_)
  refine z_iconst C (v := 0) dJ7_fill_53178_0 (by decide) ?_
  refine z_istore_n C dJ7_fill_53178_1 rfl (Nat.le_of_ble_eq_true rfl) rfl (lv' := [(2, .int (0 : Int32)), (0, .ref a), (1, .int v)]) rfl ?_
  refine z_aload_n C dJ7_fill_53178_2 rfl 1 rfl ?_
  refine z_alen C (wA_at he) (v := nI n) rfl dJ7_fill_53178_3 ?_
  refine z_istore_n C dJ7_fill_53178_4 rfl (Nat.le_of_ble_eq_true rfl) rfl (lv' := [(3, .int (nI n)), (2, .int (0 : Int32)), (0, .ref a), (1, .int v)]) rfl ?_
  have key : ∀ (mm k : Nat) (g : Nat → Int32), k + mm = n → (∀ i, i < k → g i = v) → Z E p l e rmF s m ([.ref a, .int v] : List Value).toArray below meth c 4 (MQ below (QZ E (fun _ : Unit => w ++ A1)) ([.ref a, .int v] : List Value).toArray s 0 0 (qA E)) (w ++ A.set j (a, .inl (qI E, n, .inl g))) 0 0 5 [(3, .int (nI n)), (2, .int (nI k)), (0, .ref a), (1, .int v)] [] := by
    intro mm
    induction mm with
    | zero =>
      intro k g hk hg
      have hk : k = n := by omega
      subst hk
      refine z_iload_n C dJ7_fill_53178_5 rfl 1 rfl ?_
      refine z_iload_n C dJ7_fill_53178_6 rfl 0 rfl ?_
      refine z_icmp_ge C 20 dJ7_fill_53178_7 (by decide) (fun _ => ?_) (fun h => absurd ((nI_L hn hn).mpr (Nat.le_refl _)) h)
      refine z_ext (A1 := A1) (fun _ => v) (wA_get he) hg (by rw [List.set_set]; exact hA1) ?_
      exact z_vret C () rfl dJ7_fill_53178_20
    | succ mm ih =>
      intro k g hk hg
      have hkn : k < n := by omega
      refine z_iload_n C dJ7_fill_53178_5 rfl 1 rfl ?_
      refine z_iload_n C dJ7_fill_53178_6 rfl 0 rfl ?_
      refine z_icmp_ge C 20 dJ7_fill_53178_7 (by decide) (fun h => absurd ((nI_L hn (by omega)).mp h) (by omega)) (fun _ => ?_)
      refine z_aload_n C dJ7_fill_53178_10 rfl 2 rfl ?_
      refine z_iload_n C dJ7_fill_53178_11 rfl 1 rfl ?_
      refine z_iload_n C dJ7_fill_53178_12 rfl 3 rfl ?_
      refine z_iast C (A1 := A.set j (a, .inl (qI E, n, .inl (upd g k v)))) (wA_get he) (nI_in hkn (by omega)) (by rw [List.set_set, nI_c (show k < 1000000 by omega)]) dJ7_fill_53178_13 ?_
      refine z_iinc C dJ7_fill_53178_14 1 rfl (Nat.le_of_ble_eq_true rfl) (k2 := 1) (by decide) rfl (lv' := [(2, .int (nI k + (1 : Int32))), (3, .int (nI n)), (0, .ref a), (1, .int v)]) rfl ?_
      refine z_goto C 5 dJ7_fill_53178_17 (by decide) ?_
      rw [nI_1]
      refine z_sub [1, 0, 2, 3] rfl ?_
      refine ih (k + 1) (upd g k v) (by omega) (fun i hi => ?_)
      by_cases e1 : i = k
      · subst e1; exact upd_same _ _ _
      · rw [upd_ne e1]; exact hg i (by omega)
  refine z_ws (ws1 := w ++ A.set j (a, .inl (qI E, n, .inl f))) (by rw [wA_self he]) ?_
  exact key n 0 f (by omega) (fun i hi => absurd hi (Nat.not_lt_zero i))
/-- an array of arrays, and its rows -/
def ouZ (E : QE) (q N : Nat) (r : Nat → Nat) : Nat × va_E := (q, .inl (qII E, N, .inr (.inr (.inr (.inr (fun i => if i < N then some (r i) else none))))))
def inZ (E : QE) (N M : Nat) (r : Nat → Nat) (T : Nat → Nat → Int32) : va_W := (List.range N).map (fun i => (r i, .inl (qI E, M, .inl (T i))))
def ivZ (E : QE) (q n : Nat) (f : Nat → Int32) : Nat × va_E := (q, .inl (qI E, n, .inl f))
theorem inZ_len (E : QE) (N M : Nat) (r : Nat → Nat) (T : Nat → Nat → Int32) : (inZ E N M r T).length = N := by
  unfold inZ
  rw [List.length_map, List.length_range]
theorem mid_at {B : va_W} {x y z : Nat × va_E} {N : Nat} (h : B.length = N) : (x :: y :: (B ++ [z]))[N + 2]? = some z := by
  subst h
  show (B ++ [z])[B.length]? = some z
  rw [List.getElem?_append_right (Nat.le_refl _), Nat.sub_self]
  rfl
theorem mid_set {B : va_W} {x y z z' : Nat × va_E} {N : Nat} (h : B.length = N) : (x :: y :: (B ++ [z])).set (N + 2) z' = x :: y :: (B ++ [z']) := by
  subst h
  show x :: y :: (B ++ [z]).set B.length z' = _
  rw [List.set_append_right _ _ (Nat.le_refl _), Nat.sub_self]
  rfl
def rmH (N M : Nat) : Room := { frames := 2, cells := 0 + 1 + N + 1, slots := 0 + N + N * M + N, locals := 60 }
def shW (E : QE) (h0 N M : Nat) (x : Nat × (Nat → Nat) × Nat) : va_W := (h0, .inr (3, [.ref x.1, .ref x.2.2])) :: ouZ E x.1 N x.2.1 :: (inZ E N M x.2.1 (fun _ _ => 0) ++ [ivZ E x.2.2 N (fun _ => -1)])
set_option maxRecDepth 100000 in
set_option maxHeartbeats 4000000 in
theorem kz_shelf (l : Launch) (E : QE) (N0 : Nat) (hNA : ∀ q, N0 ≤ q → qA E q) (w : va_W) (h0 : Nat) (n k : Int32) (N M : Nat) (hn : ¬ n < 0) (hk : ¬ k < 0) (hN : n.toNatClampNeg = N) (hM : k.toNatClampNeg = M) (hN9 : N ≤ 100) (hM9 : M ≤ 100) : KZ l N0 yX3_init cX3_init 3 (rmH N M) E [.ref h0, .int n, .int k] (w ++ [(h0, .inr (3, [.null, .null]))]) (fun x : Nat × (Nat → Nat) × Nat => w ++ shW E h0 N M x) (0 + 1 + N + 1) (0 + N + N * M + N) := by
  refine z_met rfl (Nat.le_of_ble_eq_true rfl) rfl (fun p e s m below meth c C hm hO hn0 => ?_)
  have hA : ∀ q, s.heap.size ≤ q → qA E q := fun q h => hNA q (Nat.le_trans hn0 h)
  refine z_aload_n C dX3_init_0 rfl 0 rfl ?_
  refine z_obj C ol_X3 oi_inst oi_code (Nat.le_of_ble_eq_true rfl) (Nat.le_of_ble_eq_true rfl) dX3_init_1 ?_
  refine z_aload_n C dX3_init_4 rfl 0 rfl ?_
  refine z_iload_n C dX3_init_5 rfl 1 rfl ?_
  refine z_iload_n C dX3_init_6 rfl 2 rfl ?_
  refine z_mna C hA hO cl_X3_7 ac_int hn hk hN hM (by omega) (by omega) (by show 0 + (1 + N) ≤ 0 + 1 + N + 1; omega) (by show 0 + (N + N * M) ≤ 0 + N + N * M + N; omega) dX3_init_7 (fun q r => ?_)
  refine z_putF C hm (j := 0) (ci := 3) (Cn := RX3) (Tt := TX3) (N := 2) (k := 0) (A1 := (h0, .inr (3, [.ref q, .null])) :: ouZ E q N r :: inZ E N M r (fun _ _ => 0)) rfl rfl inT3 tyX3 tyX3_ok nmX3 (by decide) rfl rfl (ty := .array (.array .int)) (by decide +kernel) rfl rfl (Nat.le_of_ble_eq_true rfl) rfl fl_X3_9 dX3_init_11 ?_
  refine z_aload_n C dX3_init_14 rfl 0 rfl ?_
  refine z_iload_n C dX3_init_15 rfl 1 rfl ?_
  refine z_newa C hA ac_int hn hN (by omega) (by show 0 + 1 + N + 1 ≤ 0 + 1 + N + 1; omega) (by show 0 + N + N * M + N ≤ 0 + N + N * M + N; omega) dX3_init_16 (fun q2 => ?_)
  refine z_putF C hm (j := 0) (ci := 3) (Cn := RX3) (Tt := TX3) (N := 2) (k := 1) (A1 := (h0, .inr (3, [.ref q, .ref q2])) :: ouZ E q N r :: (inZ E N M r (fun _ _ => 0) ++ [ivZ E q2 N (fun _ => 0)])) rfl rfl inT3 tyX3 tyX3_ok nmX3 (by decide) rfl rfl (ty := .array .int) (by decide +kernel) rfl rfl (Nat.le_of_ble_eq_true rfl) rfl fl_X3_14 dX3_init_18 ?_
  refine z_aload_n C dX3_init_21 rfl 0 rfl ?_
  refine z_get C (wA_at (j := 0) rfl) (ci := 3) (Cn := RX3) (Tt := TX3) (N := 2) rfl inT3 (k := 1) (by decide) rfl fl_X3_14 dX3_init_22 ?_
  refine z_iconst C (v := -1) dX3_init_25 (by decide) ?_
  refine z_cS C hO hn0 (kz_fill l E N0 w _ (shW E h0 N M (q, r, q2)) (N + 2) q2 N _ (-1) (mid_at (inZ_len E N M r _)) (by omega) (mid_set (inZ_len E N M r _))) si_J7_fill_53178 ml_X3_18 rfl ⟨rfl, rfl, Nat.le_of_ble_eq_true rfl, Nat.le_of_ble_eq_true rfl⟩ dX3_init_26 rfl (Nat.le_of_ble_eq_true rfl) (Nat.le_refl _) (Nat.le_refl _) (fun _ => ?_)
  exact z_vret C (q, r, q2) rfl dX3_init_29
abbrev N5 : Type := Nat × Nat × Nat × Nat × Nat
def scW (E : QE) (h0 : Nat) (x : N5) : va_W := [(h0, .inr (1, [.int 0, .int 0, .int 0, .ref x.1, .ref x.2.1, .ref x.2.2.1, .ref x.2.2.2.1, .ref x.2.2.2.2, .int 0, .int 0])), ivZ E x.1 6 (fun _ => 0), ivZ E x.2.1 6 (fun _ => 0), ivZ E x.2.2.1 6 (fun _ => 0), ivZ E x.2.2.2.1 6 (fun _ => 0), ivZ E x.2.2.2.2 6 (fun _ => 0)]
def rmC : Room := { frames := 1, cells := 5, slots := 30, locals := 40 }
set_option maxRecDepth 100000 in
set_option maxHeartbeats 4000000 in
theorem kz_script (l : Launch) (E : QE) (N0 : Nat) (hNA : ∀ q, N0 ≤ q → qA E q) (w : va_W) (h0 : Nat) : KZ l N0 yX1_init cX1_init 1 rmC E [.ref h0] (w ++ [(h0, .inr (1, [.int 0, .int 0, .int 0, .null, .null, .null, .null, .null, .int 0, .int 0]))]) (fun x : N5 => w ++ scW E h0 x) 5 30 := by
  refine z_met rfl (Nat.le_of_ble_eq_true rfl) rfl (fun p e s m below meth c C hm hO hn0 => ?_)
  have hA : ∀ q, s.heap.size ≤ q → qA E q := fun q h => hNA q (Nat.le_trans hn0 h)
  refine z_aload_n C dX1_init_0 rfl 0 rfl ?_
  refine z_obj C ol_X1 oi_inst oi_code (Nat.le_of_ble_eq_true rfl) (Nat.le_of_ble_eq_true rfl) dX1_init_1 ?_
  refine z_aload_n C dX1_init_4 rfl 0 rfl ?_
  refine z_bipush C (v := 6) dX1_init_5 (by decide) ?_
  refine z_newa C hA ac_int (N := 6) (by decide) (by decide) (Nat.le_of_ble_eq_true rfl) (Nat.le_of_ble_eq_true rfl) (Nat.le_of_ble_eq_true rfl) dX1_init_7 (fun q0 => ?_)
  refine z_putF C hm (j := 0) (ci := 1) (Cn := RX1) (Tt := TX1) (N := 10) (k := 3) (A1 := ((h0, .inr (1, [.int 0, .int 0, .int 0, .ref q0, .null, .null, .null, .null, .int 0, .int 0])) :: [ivZ E q0 6 (fun _ => 0)])) rfl rfl inT1 tyX1 tyX1_ok nmX1 (by decide) rfl rfl (ty := .array .int) (by decide +kernel) rfl rfl (Nat.le_of_ble_eq_true rfl) rfl fl_X1_9 dX1_init_9 ?_
  refine z_aload_n C dX1_init_12 rfl 0 rfl ?_
  refine z_bipush C (v := 6) dX1_init_13 (by decide) ?_
  refine z_newa C hA ac_int (N := 6) (by decide) (by decide) (Nat.le_of_ble_eq_true rfl) (Nat.le_of_ble_eq_true rfl) (Nat.le_of_ble_eq_true rfl) dX1_init_15 (fun q1 => ?_)
  refine z_putF C hm (j := 0) (ci := 1) (Cn := RX1) (Tt := TX1) (N := 10) (k := 4) (A1 := ((h0, .inr (1, [.int 0, .int 0, .int 0, .ref q0, .ref q1, .null, .null, .null, .int 0, .int 0])) :: [ivZ E q0 6 (fun _ => 0), ivZ E q1 6 (fun _ => 0)])) rfl rfl inT1 tyX1 tyX1_ok nmX1 (by decide) rfl rfl (ty := .array .int) (by decide +kernel) rfl rfl (Nat.le_of_ble_eq_true rfl) rfl fl_X1_15 dX1_init_17 ?_
  refine z_aload_n C dX1_init_20 rfl 0 rfl ?_
  refine z_bipush C (v := 6) dX1_init_21 (by decide) ?_
  refine z_newa C hA ac_int (N := 6) (by decide) (by decide) (Nat.le_of_ble_eq_true rfl) (Nat.le_of_ble_eq_true rfl) (Nat.le_of_ble_eq_true rfl) dX1_init_23 (fun q2 => ?_)
  refine z_putF C hm (j := 0) (ci := 1) (Cn := RX1) (Tt := TX1) (N := 10) (k := 5) (A1 := ((h0, .inr (1, [.int 0, .int 0, .int 0, .ref q0, .ref q1, .ref q2, .null, .null, .int 0, .int 0])) :: [ivZ E q0 6 (fun _ => 0), ivZ E q1 6 (fun _ => 0), ivZ E q2 6 (fun _ => 0)])) rfl rfl inT1 tyX1 tyX1_ok nmX1 (by decide) rfl rfl (ty := .array .int) (by decide +kernel) rfl rfl (Nat.le_of_ble_eq_true rfl) rfl fl_X1_18 dX1_init_25 ?_
  refine z_aload_n C dX1_init_28 rfl 0 rfl ?_
  refine z_bipush C (v := 6) dX1_init_29 (by decide) ?_
  refine z_newa C hA ac_int (N := 6) (by decide) (by decide) (Nat.le_of_ble_eq_true rfl) (Nat.le_of_ble_eq_true rfl) (Nat.le_of_ble_eq_true rfl) dX1_init_31 (fun q3 => ?_)
  refine z_putF C hm (j := 0) (ci := 1) (Cn := RX1) (Tt := TX1) (N := 10) (k := 6) (A1 := ((h0, .inr (1, [.int 0, .int 0, .int 0, .ref q0, .ref q1, .ref q2, .ref q3, .null, .int 0, .int 0])) :: [ivZ E q0 6 (fun _ => 0), ivZ E q1 6 (fun _ => 0), ivZ E q2 6 (fun _ => 0), ivZ E q3 6 (fun _ => 0)])) rfl rfl inT1 tyX1 tyX1_ok nmX1 (by decide) rfl rfl (ty := .array .int) (by decide +kernel) rfl rfl (Nat.le_of_ble_eq_true rfl) rfl fl_X1_21 dX1_init_33 ?_
  refine z_aload_n C dX1_init_36 rfl 0 rfl ?_
  refine z_bipush C (v := 6) dX1_init_37 (by decide) ?_
  refine z_newa C hA ac_int (N := 6) (by decide) (by decide) (Nat.le_of_ble_eq_true rfl) (Nat.le_of_ble_eq_true rfl) (Nat.le_of_ble_eq_true rfl) dX1_init_39 (fun q4 => ?_)
  refine z_putF C hm (j := 0) (ci := 1) (Cn := RX1) (Tt := TX1) (N := 10) (k := 7) (A1 := ((h0, .inr (1, [.int 0, .int 0, .int 0, .ref q0, .ref q1, .ref q2, .ref q3, .ref q4, .int 0, .int 0])) :: [ivZ E q0 6 (fun _ => 0), ivZ E q1 6 (fun _ => 0), ivZ E q2 6 (fun _ => 0), ivZ E q3 6 (fun _ => 0), ivZ E q4 6 (fun _ => 0)])) rfl rfl inT1 tyX1 tyX1_ok nmX1 (by decide) rfl rfl (ty := .array .int) (by decide +kernel) rfl rfl (Nat.le_of_ble_eq_true rfl) rfl fl_X1_24 dX1_init_41 ?_
  exact z_vret C (q0, q1, q2, q3, q4) rfl dX1_init_44
def niW (E : QE) (h0 hs : Nat) (x : Nat × Nat) : va_W := [(h0, .inr (0, [.ref hs, .ref x.1, .ref x.2, .int 0, .int 0, .int 0, .int 0, .int 0, .int 0, .int 0])), ivZ E x.1 6 (fun _ => 0), ivZ E x.2 40 (fun _ => 0)]
def rmN : Room := { frames := 1, cells := 2, slots := 46, locals := 40 }
set_option maxRecDepth 100000 in
set_option maxHeartbeats 4000000 in
theorem kz_night (l : Launch) (E : QE) (N0 : Nat) (hNA : ∀ q, N0 ≤ q → qA E q) (w : va_W) (h0 hs : Nat) : KZ l N0 yX0_init cX0_init 2 rmN E [.ref h0, .ref hs] (w ++ [(h0, .inr (0, [.null, .null, .null, .int 0, .int 0, .int 0, .int 0, .int 0, .int 0, .int 0]))]) (fun x : Nat × Nat => w ++ niW E h0 hs x) 2 46 := by
  refine z_met rfl (Nat.le_of_ble_eq_true rfl) rfl (fun p e s m below meth c C hm hO hn0 => ?_)
  have hA : ∀ q, s.heap.size ≤ q → qA E q := fun q h => hNA q (Nat.le_trans hn0 h)
  refine z_aload_n C dX0_init_0 rfl 0 rfl ?_
  refine z_obj C ol_X0 oi_inst oi_code (Nat.le_of_ble_eq_true rfl) (Nat.le_of_ble_eq_true rfl) dX0_init_1 ?_
  refine z_aload_n C dX0_init_4 rfl 0 rfl ?_
  refine z_bipush C (v := 6) dX0_init_5 (by decide) ?_
  refine z_newa C hA ac_int (N := 6) (by decide) (by decide) (Nat.le_of_ble_eq_true rfl) (Nat.le_of_ble_eq_true rfl) (Nat.le_of_ble_eq_true rfl) dX0_init_7 (fun q0 => ?_)
  refine z_putF C hm (j := 0) (ci := 0) (Cn := RX0) (Tt := TX0) (N := 10) (k := 1) (A1 := ((h0, .inr (0, [.null, .ref q0, .null, .int 0, .int 0, .int 0, .int 0, .int 0, .int 0, .int 0])) :: [ivZ E q0 6 (fun _ => 0)])) rfl rfl inT0 tyX0 tyX0_ok nmX0 (by decide) rfl rfl (ty := .array .int) (by decide +kernel) rfl rfl (Nat.le_of_ble_eq_true rfl) rfl fl_X0_9 dX0_init_9 ?_
  refine z_aload_n C dX0_init_12 rfl 0 rfl ?_
  refine z_bipush C (v := 40) dX0_init_13 (by decide) ?_
  refine z_newa C hA ac_int (N := 40) (by decide) (by decide) (Nat.le_of_ble_eq_true rfl) (Nat.le_of_ble_eq_true rfl) (Nat.le_of_ble_eq_true rfl) dX0_init_15 (fun q1 => ?_)
  refine z_putF C hm (j := 0) (ci := 0) (Cn := RX0) (Tt := TX0) (N := 10) (k := 2) (A1 := ((h0, .inr (0, [.null, .ref q0, .ref q1, .int 0, .int 0, .int 0, .int 0, .int 0, .int 0, .int 0])) :: [ivZ E q0 6 (fun _ => 0), ivZ E q1 40 (fun _ => 0)])) rfl rfl inT0 tyX0 tyX0_ok nmX0 (by decide) rfl rfl (ty := .array .int) (by decide +kernel) rfl rfl (Nat.le_of_ble_eq_true rfl) rfl fl_X0_15 dX0_init_17 ?_
  refine z_aload_n C dX0_init_20 rfl 0 rfl ?_
  refine z_aload_n C dX0_init_21 rfl 1 rfl ?_
  refine z_putF C hm (j := 0) (ci := 0) (Cn := RX0) (Tt := TX0) (N := 10) (k := 0) (A1 := ((h0, .inr (0, [.ref hs, .ref q0, .ref q1, .int 0, .int 0, .int 0, .int 0, .int 0, .int 0, .int 0])) :: [ivZ E q0 6 (fun _ => 0), ivZ E q1 40 (fun _ => 0)])) rfl rfl inT0 tyX0 tyX0_ok nmX0 (by decide) rfl rfl (ty := .object "CalledStalls$Script") (by decide +kernel) rfl rfl (Nat.le_of_ble_eq_true rfl) rfl fl_X0_18 dX0_init_22 ?_
  exact z_vret C (q0, q1) rfl dX0_init_25
