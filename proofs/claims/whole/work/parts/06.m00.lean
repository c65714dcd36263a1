noncomputable def fX3_isPlace_1 (x1 : Int32) (σ : QS) : Int32 :=
    (if x1 < 0 then (0 : Int32) else (if (6 : Int32) ≤ x1 then (0 : Int32) else (1 : Int32)))
def rm_X3_isPlace_1 : Room := { frames := 0, cells := 0, slots := 0, locals := 0 }
set_option maxRecDepth 100000 in
set_option maxHeartbeats 4000000 in
theorem kX3_isPlace_1 (l : Launch) (E : QE) (σ τ : QS) (x1 : Int32) (q : Int32) (hf : fX3_isPlace_1 x1 σ = q) : KQ l yX3_isPlace cX3_isPlace 2 (some .boolean) rm_X3_isPlace_1 E [.ref (qAd E 1), .int x1] σ τ (PI E q σ τ) := by
  unfold fX3_isPlace_1 at hf
  refine y_met rfl (Nat.le_of_ble_eq_true rfl) rfl (fun p e s m below meth c C => ?_)
  refine y_iload_n C dX3_isPlace_0 rfl 1 rfl ?_
  refine y_if_lt C 17 dX3_isPlace_1 (by decide) hf (fun hf => ?_) (fun hf => ?_)
  · refine y_iconst C (v := 0) dX3_isPlace_17 (by decide) ?_
    exact y_zret C zOk0 hf rfl rfl dX3_isPlace_18
  · refine y_iload_n C dX3_isPlace_4 rfl 1 rfl ?_
    refine y_aload_n C dX3_isPlace_5 rfl 0 rfl ?_
    refine g1_sizes C fl_X3_14 dX3_isPlace_6 ?_
    refine y_alenC C a10 (v := 6) (by decide) dX3_isPlace_9 ?_
    refine y_icmp_ge C 17 dX3_isPlace_10 (by decide) hf (fun hf => ?_) (fun hf => ?_)
    · refine y_iconst C (v := 0) dX3_isPlace_17 (by decide) ?_
      exact y_zret C zOk0 hf rfl rfl dX3_isPlace_18
    · refine y_iconst C (v := 1) dX3_isPlace_13 (by decide) ?_
      refine y_goto C 18 dX3_isPlace_14 (by decide) ?_
      exact y_zret C zOk1 hf rfl rfl dX3_isPlace_18
theorem zX3_isPlace_1 (x1 : Int32) (σ : QS) : zOk (fX3_isPlace_1 x1 σ) := by
  unfold fX3_isPlace_1
  try simp only [lt_]
  (repeat' split) <;> first | exact zOk0 | exact zOk1
noncomputable def fJ7_fill_53178_a (k0 : Nat) (n0 : Nat) (x1 : Int32) (σ : QS) : Option (QS) :=
    lt_ (Int32.ofNat n0) (fun (v1 : Int32) => lp_ (fun (r3 : Int32 × QS → Option (QS)) (a2 : Int32 × QS) => (if v1 ≤ a2.1 then some a2.2 else ck_ (inb a2.1 n0) (lt_ (pM a2.2 k0 (upd (gM a2.2 k0) a2.1.toNatClampNeg x1)) (fun (S5 : QS) => r3 ((a2.1 + (1 : Int32)), S5))))) FV ((0 : Int32), σ))
def rm_J7_fill_53178_a : Room := { frames := 0, cells := 0, slots := 0, locals := 0 }
set_option maxRecDepth 100000 in
set_option maxHeartbeats 4000000 in
theorem kJ7_fill_53178_a (l : Launch) (E : QE) (σ τ : QS) (k0 : Nat) (n0 : Nat) (x1 : Int32) (q : QS) (hk0 : aC k0 n0) (hf : fJ7_fill_53178_a k0 n0 x1 σ = some q) : KQ l yJ7_fill_53178 cJ7_fill_53178 4 none rm_J7_fill_53178_a E [.ref (qAd E k0), .int x1] σ τ (PV E q τ) := by
  unfold fJ7_fill_53178_a at hf
  refine y_met rfl (Nat.le_of_ble_eq_true rfl) rfl (fun p e s m below meth c C => ?_)
  refine y_iconst C (v := 0) dJ7_fill_53178_0 (by decide) ?_
  refine y_istore_n C dJ7_fill_53178_1 rfl (Nat.le_of_ble_eq_true rfl) rfl (lv' := [(2, .int (0 : Int32)), (0, .ref (qAd E k0)), (1, .int x1)]) rfl ?_
  refine y_aload_n C dJ7_fill_53178_2 rfl 1 rfl ?_
  refine y_alenC C hk0 rfl dJ7_fill_53178_3 ?_
  obtain ⟨v1, e_v1, hf⟩ := lt_e hf
  refine y_istore_n C dJ7_fill_53178_4 rfl (Nat.le_of_ble_eq_true rfl) e_v1 (lv' := [(3, .int v1), (2, .int (0 : Int32)), (0, .ref (qAd E k0)), (1, .int x1)]) rfl ?_
  refine y_sub [0, 1, 2, 3] rfl ?_
  refine lp_ind (P := fun a2 : Int32 × QS => Y E p l e rm_J7_fill_53178_a s m ([.ref (qAd E k0), .int x1] : List Value).toArray below meth c 4 (MQ below (PV E q τ) ([.ref (qAd E k0), .int x1] : List Value).toArray s 0 0 (qA E)) a2.2 τ 5 [(3, .int v1), (2, .int a2.1), (0, .ref (qAd E k0)), (1, .int x1)] []) (fun r3 a2 ih_r3 hf => ?_) _ _ hf
  refine y_iload_n C dJ7_fill_53178_5 rfl 1 rfl ?_
  refine y_iload_n C dJ7_fill_53178_6 rfl 0 rfl ?_
  refine y_icmp_ge C 20 dJ7_fill_53178_7 (by decide) hf (fun hf => ?_) (fun hf => ?_)
  · exact y_vret C (Option.some.inj hf) rfl dJ7_fill_53178_20
  · refine y_aload_n C dJ7_fill_53178_10 rfl 2 rfl ?_
    refine y_iload_n C dJ7_fill_53178_11 rfl 1 rfl ?_
    refine y_iload_n C dJ7_fill_53178_12 rfl 3 rfl ?_
    obtain ⟨hi4, hf⟩ := ck_e hf
    obtain ⟨S5, e_S5, hf⟩ := lt_e hf
    refine y_iastC C hk0 (j := a2.1.toNatClampNeg) rfl hi4 e_S5 dJ7_fill_53178_13 ?_
    refine y_iinc C dJ7_fill_53178_14 1 rfl (Nat.le_of_ble_eq_true rfl) (k2 := 1) (by decide) rfl (lv' := [(2, .int (a2.1 + (1 : Int32))), (3, .int v1), (0, .ref (qAd E k0)), (1, .int x1)]) rfl ?_
    refine y_goto C 5 dJ7_fill_53178_17 (by decide) ?_
    refine y_sub [1, 0, 2, 3] rfl ?_
    exact ih_r3 ((a2.1 + (1 : Int32)), S5) hf
noncomputable def fX3_make_1 (x1 : Int32) (x2 : Int32) (x3 : Int32) (σ : QS) : Option (QS) :=
    (if (fX3_isPlace_1 x1 σ) = 0 then some σ else (if x2 < 0 then some σ else ck_ (inb x1 6) ((if (40 : Int32) < x2 then some σ else ck_ (inb x1 6) (lt_ (pM σ 10 (upd (gM σ 10) x1.toNatClampNeg x2)) (fun (S3 : QS) => ck_ (inb x1 6) (Option.bind (fJ7_fill_53178_a (30 + x1.toNatClampNeg) 40 x3 S3) (fun (q5 : QS) => some q5))))))))
def rm_X3_make_1 : Room := { frames := 1, cells := 0, slots := 0, locals := 23 }
set_option maxRecDepth 100000 in
set_option maxHeartbeats 4000000 in
theorem kX3_make_1 (l : Launch) (E : QE) (σ τ : QS) (x1 : Int32) (x2 : Int32) (x3 : Int32) (q : QS) (hf : fX3_make_1 x1 x2 x3 σ = some q) : KQ l yX3_make cX3_make 4 none rm_X3_make_1 E [.ref (qAd E 1), .int x1, .int x2, .int x3] σ τ (PV E q τ) := by
  unfold fX3_make_1 at hf
  refine y_met rfl (Nat.le_of_ble_eq_true rfl) rfl (fun p e s m below meth c C => ?_)
  refine y_aload_n C dX3_make_0 rfl 0 rfl ?_
  refine y_iload_n C dX3_make_1 rfl 1 rfl ?_
  refine y_cVi C (kX3_isPlace_1 l E σ τ x1 _ rfl) vi_X3_isPlace ml_X3_28 ⟨3, _, o1, rfl, rfl⟩ rfl ⟨rfl, rfl, Nat.le_of_ble_eq_true rfl, Nat.le_of_ble_eq_true rfl⟩ dX3_make_2 rfl (Nat.le_of_ble_eq_true rfl) ?_
  refine y_if_eq C 40 dX3_make_5 (by decide) hf (fun hf => ?_) (fun hf => ?_)
  · exact y_vret C (Option.some.inj hf) rfl dX3_make_40
  · refine y_iload_n C dX3_make_8 rfl 2 rfl ?_
    refine y_if_lt C 40 dX3_make_9 (by decide) hf (fun hf => ?_) (fun hf => ?_)
    · exact y_vret C (Option.some.inj hf) rfl dX3_make_40
    · refine y_iload_n C dX3_make_12 rfl 2 rfl ?_
      refine y_aload_n C dX3_make_13 rfl 0 rfl ?_
      refine g1_items C fl_X3_9 dX3_make_14 ?_
      refine y_iload_n C dX3_make_17 rfl 1 rfl ?_
      obtain ⟨hi1, hf⟩ := ck_e hf
      refine y_aald C q9 hi1 dX3_make_18 ?_
      refine y_alenC C (in9 (inb_e hi1)) (v := 40) (by decide) dX3_make_19 ?_
      refine y_icmp_gt C 40 dX3_make_20 (by decide) hf (fun hf => ?_) (fun hf => ?_)
      · exact y_vret C (Option.some.inj hf) rfl dX3_make_40
      · refine y_aload_n C dX3_make_23 rfl 0 rfl ?_
        refine g1_sizes C fl_X3_14 dX3_make_24 ?_
        refine y_iload_n C dX3_make_27 rfl 1 rfl ?_
        refine y_iload_n C dX3_make_28 rfl 2 rfl ?_
        obtain ⟨hi2, hf⟩ := ck_e hf
        obtain ⟨S3, e_S3, hf⟩ := lt_e hf
        refine y_iastC C a10 (j := x1.toNatClampNeg) rfl hi2 e_S3 dX3_make_29 ?_
        refine y_aload_n C dX3_make_30 rfl 0 rfl ?_
        refine g1_items C fl_X3_9 dX3_make_31 ?_
        refine y_iload_n C dX3_make_34 rfl 1 rfl ?_
        obtain ⟨hi4, hf⟩ := ck_e hf
        refine y_aald C q9 hi4 dX3_make_35 ?_
        refine y_iload_n C dX3_make_36 rfl 3 rfl ?_
        obtain ⟨q5, h_q5, hf⟩ := bd_e hf
        refine y_cSv C (kJ7_fill_53178_a l E S3 τ (30 + x1.toNatClampNeg) 40 x3 _ (in9 (inb_e hi4)) h_q5) si_J7_fill_53178 ml_X3_18 rfl ⟨rfl, rfl, Nat.le_of_ble_eq_true rfl, Nat.le_of_ble_eq_true rfl⟩ dX3_make_37 rfl (Nat.le_of_ble_eq_true rfl) ?_
        exact y_vret C (Option.some.inj hf) rfl dX3_make_40
noncomputable def fX4_refuse_0 (x1 : Int32) (σ : QS) : Option (Int32 × QS) :=
    lt_ (pI σ 0 x1) (fun (S1 : QS) => (if x1 < 0 then some ((-3 : Int32), S1) else (if (6 : Int32) ≤ x1 then some ((-3 : Int32), S1) else ck_ (inb x1 6) (ck_ (inb x1 6) (lt_ (pM S1 8 (upd (gM S1 8) x1.toNatClampNeg ((gM S1 8 x1.toNatClampNeg) + (1 : Int32)))) (fun (S4 : QS) => some ((-3 : Int32), S4)))))))
def rm_X4_refuse_0 : Room := { frames := 0, cells := 0, slots := 0, locals := 0 }
set_option maxRecDepth 100000 in
set_option maxHeartbeats 4000000 in
theorem kX4_refuse_0 (l : Launch) (E : QE) (σ τ : QS) (x1 : Int32) (q : Int32 × QS) (hf : fX4_refuse_0 x1 σ = some q) : KQ l yX4_refuse cX4_refuse 2 (some .int) rm_X4_refuse_0 E [.ref (qAd E 0), .int x1] σ τ (PI E q.1 q.2 τ) := by
  unfold fX4_refuse_0 at hf
  refine y_met rfl (Nat.le_of_ble_eq_true rfl) rfl (fun p e s m below meth c C => ?_)
  refine y_aload_n C dX4_refuse_0 rfl 0 rfl ?_
  refine y_iload_n C dX4_refuse_1 rfl 1 rfl ?_
  obtain ⟨S1, e_S1, hf⟩ := lt_e hf
  refine p0_lastFinding C fl_X4_292 e_S1 dX4_refuse_2 ?_
  refine y_iload_n C dX4_refuse_5 rfl 1 rfl ?_
  refine y_if_lt C 28 dX4_refuse_6 (by decide) hf (fun hf => ?_) (fun hf => ?_)
  · refine y_bipush C (v := -3) dX4_refuse_28 (by decide) ?_
    exact y_iret C (rs1 hf) (rs2 hf) rfl dX4_refuse_30
  · refine y_iload_n C dX4_refuse_9 rfl 1 rfl ?_
    refine y_aload_n C dX4_refuse_10 rfl 0 rfl ?_
    refine g0_foundTimes C fl_X4_52 dX4_refuse_11 ?_
    refine y_alenC C a8 (v := 6) (by decide) dX4_refuse_14 ?_
    refine y_icmp_ge C 28 dX4_refuse_15 (by decide) hf (fun hf => ?_) (fun hf => ?_)
    · refine y_bipush C (v := -3) dX4_refuse_28 (by decide) ?_
      exact y_iret C (rs1 hf) (rs2 hf) rfl dX4_refuse_30
    · refine y_aload_n C dX4_refuse_18 rfl 0 rfl ?_
      refine g0_foundTimes C fl_X4_52 dX4_refuse_19 ?_
      refine y_iload_n C dX4_refuse_22 rfl 1 rfl ?_
      refine y_dup2 C dX4_refuse_23 rfl rfl ?_
      obtain ⟨hi2, hf⟩ := ck_e hf
      refine y_ialdC C a8 (j := x1.toNatClampNeg) rfl hi2 dX4_refuse_24 ?_
      refine y_iconst C (v := 1) dX4_refuse_25 (by decide) ?_
      refine y_iadd C dX4_refuse_26 ?_
      obtain ⟨hi3, hf⟩ := ck_e hf
      obtain ⟨S4, e_S4, hf⟩ := lt_e hf
      refine y_iastC C a8 (j := x1.toNatClampNeg) rfl hi3 e_S4 dX4_refuse_27 ?_
      refine y_bipush C (v := -3) dX4_refuse_28 (by decide) ?_
      exact y_iret C (rs1 hf) (rs2 hf) rfl dX4_refuse_30
noncomputable def fX4_row_0 (x1 : Int32) (x2 : Int32) (σ : QS) : Option (Int32 × QS) :=
    (if (fX3_isPlace_1 x1 σ) = 0 then some ((-1 : Int32), σ) else (if x2 ≤ (40 : Int32) then (if 0 ≤ x2 then Option.bind (fX3_make_1 x1 x2 (0 : Int32) σ) (fun (q1 : QS) => some (x2, q1)) else Option.bind (fX4_refuse_0 (5 : Int32) σ) (fun (q2 : Int32 × QS) => some (q2.1, q2.2))) else some ((-1 : Int32), σ)))
def rm_X4_row_0 : Room := { frames := 2, cells := 0, slots := 0, locals := 46 }
set_option maxRecDepth 100000 in
set_option maxHeartbeats 4000000 in
theorem kX4_row_0 (l : Launch) (E : QE) (σ τ : QS) (x1 : Int32) (x2 : Int32) (q : Int32 × QS) (hf : fX4_row_0 x1 x2 σ = some q) : KQ l yX4_row cX4_row 3 (some .int) rm_X4_row_0 E [.ref (qAd E 0), .int x1, .int x2] σ τ (PI E q.1 q.2 τ) := by
  unfold fX4_row_0 at hf
  refine y_met rfl (Nat.le_of_ble_eq_true rfl) rfl (fun p e s m below meth c C => ?_)
  refine y_aload_n C dX4_row_0 rfl 0 rfl ?_
  refine g0_rowShelf C fl_X4_14 dX4_row_1 ?_
  refine y_iload_n C dX4_row_4 rfl 1 rfl ?_
  refine y_cVi C (kX3_isPlace_1 l E σ τ x1 _ rfl) vi_X3_isPlace ml_X4_60 ⟨3, _, o1, rfl, rfl⟩ rfl ⟨rfl, rfl, Nat.le_of_ble_eq_true rfl, Nat.le_of_ble_eq_true rfl⟩ dX4_row_5 rfl (Nat.le_of_ble_eq_true rfl) ?_
  refine y_if_eq C 17 dX4_row_8 (by decide) hf (fun hf => ?_) (fun hf => ?_)
  · refine y_iconst C (v := -1) dX4_row_17 (by decide) ?_
    exact y_iret C (rs1 hf) (rs2 hf) rfl dX4_row_18
  · refine y_iload_n C dX4_row_11 rfl 2 rfl ?_
    refine y_bipush C (v := 40) dX4_row_12 (by decide) ?_
    refine y_icmp_le C 19 dX4_row_14 (by decide) hf (fun hf => ?_) (fun hf => ?_)
    · refine y_iload_n C dX4_row_19 rfl 2 rfl ?_
      refine y_if_ge C 29 dX4_row_20 (by decide) hf (fun hf => ?_) (fun hf => ?_)
      · refine y_aload_n C dX4_row_29 rfl 0 rfl ?_
        refine g0_rowShelf C fl_X4_14 dX4_row_30 ?_
        refine y_iload_n C dX4_row_33 rfl 1 rfl ?_
        refine y_iload_n C dX4_row_34 rfl 2 rfl ?_
        refine y_iconst C (v := 0) dX4_row_35 (by decide) ?_
        obtain ⟨q1, h_q1, hf⟩ := bd_e hf
        refine y_cVv C (kX3_make_1 l E σ τ x1 x2 (0 : Int32) _ h_q1) vi_X3_make ml_X4_68 ⟨3, _, o1, rfl, rfl⟩ rfl ⟨rfl, rfl, Nat.le_of_ble_eq_true rfl, Nat.le_of_ble_eq_true rfl⟩ dX4_row_36 rfl (Nat.le_of_ble_eq_true rfl) ?_
        refine y_iload_n C dX4_row_39 rfl 2 rfl ?_
        exact y_iret C (rs1 hf) (rs2 hf) rfl dX4_row_40
      · refine y_aload_n C dX4_row_23 rfl 0 rfl ?_
        refine y_iconst C (v := 5) dX4_row_24 (by decide) ?_
        obtain ⟨q2, h_q2, hf⟩ := bd_e hf
        refine y_cVi C (kX4_refuse_0 l E σ τ (5 : Int32) _ h_q2) vi_X4_refuse ml_X4_64 ⟨4, _, o0, rfl, rfl⟩ rfl ⟨rfl, rfl, Nat.le_of_ble_eq_true rfl, Nat.le_of_ble_eq_true rfl⟩ dX4_row_25 rfl (Nat.le_of_ble_eq_true rfl) ?_
        exact y_iret C (rs1 hf) (rs2 hf) rfl dX4_row_28
    · refine y_iconst C (v := -1) dX4_row_17 (by decide) ?_
      exact y_iret C (rs1 hf) (rs2 hf) rfl dX4_row_18
noncomputable def fX5_in (x0 : Int64) (x1 : Int64) (x2 : Int64) : Int32 :=
    (if (lg_cmp x0 x1) < 0 then (0 : Int32) else (if 0 < (lg_cmp x0 x2) then (0 : Int32) else (1 : Int32)))
def rm_X5_in : Room := { frames := 0, cells := 0, slots := 0, locals := 0 }
set_option maxRecDepth 100000 in
set_option maxHeartbeats 4000000 in
theorem kX5_in (l : Launch) (E : QE) (σ τ : QS) (x0 : Int64) (x1 : Int64) (x2 : Int64) (q : Int32) (hf : fX5_in x0 x1 x2 = q) : KQ l yX5_in cX5_in 6 (some .boolean) rm_X5_in E [.long x0, .long x1, .long x2] σ τ (PI E q σ τ) := by
  unfold fX5_in at hf
  refine y_met rfl (Nat.le_of_ble_eq_true rfl) rfl (fun p e s m below meth c C => ?_)
  refine y_lload_n C dX5_in_0 rfl 0 rfl ?_
  refine y_lload_n C dX5_in_1 rfl 1 rfl ?_
  refine y_lcmp C dX5_in_2 ?_
  refine y_if_lt C 17 dX5_in_3 (by decide) hf (fun hf => ?_) (fun hf => ?_)
  · refine y_iconst C (v := 0) dX5_in_17 (by decide) ?_
    exact y_zret C zOk0 hf rfl rfl dX5_in_18
  · refine y_lload_n C dX5_in_6 rfl 0 rfl ?_
    refine y_lload C dX5_in_7 2 rfl ?_
    refine y_lcmp C dX5_in_9 ?_
    refine y_if_gt C 17 dX5_in_10 (by decide) hf (fun hf => ?_) (fun hf => ?_)
    · refine y_iconst C (v := 0) dX5_in_17 (by decide) ?_
      exact y_zret C zOk0 hf rfl rfl dX5_in_18
    · refine y_iconst C (v := 1) dX5_in_13 (by decide) ?_
      refine y_goto C 18 dX5_in_14 (by decide) ?_
      exact y_zret C zOk1 hf rfl rfl dX5_in_18
theorem zX5_in (x0 : Int64) (x1 : Int64) (x2 : Int64) : zOk (fX5_in x0 x1 x2) := by
  unfold fX5_in
  try simp only [lt_]
  (repeat' split) <;> first | exact zOk0 | exact zOk1
noncomputable def fX5_isRow (x0 : Int32) : Int32 :=
    (fX5_in x0.toInt64 (0 : Int64) (5 : Int64))
def rm_X5_isRow : Room := { frames := 1, cells := 0, slots := 0, locals := 25 }
set_option maxRecDepth 100000 in
set_option maxHeartbeats 4000000 in
theorem kX5_isRow (l : Launch) (E : QE) (σ τ : QS) (x0 : Int32) (q : Int32) (hf : fX5_isRow x0 = q) : KQ l yX5_isRow cX5_isRow 1 (some .boolean) rm_X5_isRow E [.int x0] σ τ (PI E q σ τ) := by
  unfold fX5_isRow at hf
  refine y_met rfl (Nat.le_of_ble_eq_true rfl) rfl (fun p e s m below meth c C => ?_)
  refine y_iload_n C dX5_isRow_0 rfl 0 rfl ?_
  refine y_i2l C dX5_isRow_1 ?_
  refine y_lconst C (v := 0) dX5_isRow_2 (by decide) ?_
  refine y_ldc2 C kl_X5_75 dX5_isRow_3 ?_
  refine y_cSi C (kX5_in l E σ τ x0.toInt64 (0 : Int64) (5 : Int64) _ rfl) si_X5_in ml_X5_77 rfl ⟨rfl, rfl, Nat.le_of_ble_eq_true rfl, Nat.le_of_ble_eq_true rfl⟩ dX5_isRow_6 rfl (Nat.le_of_ble_eq_true rfl) ?_
  exact y_zret C (zX5_in x0.toInt64 (0 : Int64) (5 : Int64)) hf rfl rfl dX5_isRow_9
theorem zX5_isRow (x0 : Int32) : zOk (fX5_isRow x0) := by
  unfold fX5_isRow
  try simp only [lt_]
  (repeat' split) <;> first | exact zOk0 | exact zOk1 | exact zX5_in ..
noncomputable def fX5_makeRow_50 (x1 : Int32) (x2 : Int32) (τ : QS) : Option (QS) :=
    ck_ (inb x1 6) (lt_ (pM τ 56 (upd (gM τ 56) x1.toNatClampNeg x2)) (fun (S2 : QS) => lp_ (fun (r4 : Int32 × QS → Option (QS)) (a3 : Int32 × QS) => (if (40 : Int32) ≤ a3.1 then some a3.2 else ck_ (inb (((40 : Int32) * x1) + a3.1) 240) (lt_ (pM a3.2 57 (upd (gM a3.2 57) ((((40 : Int32) * x1) + a3.1).toNatClampNeg) (0 : Int32))) (fun (S6 : QS) => r4 ((a3.1 + (1 : Int32)), S6))))) FV ((0 : Int32), S2)))
def rm_X5_makeRow_50 : Room := { frames := 0, cells := 0, slots := 0, locals := 0 }
set_option maxRecDepth 100000 in
set_option maxHeartbeats 4000000 in
theorem kX5_makeRow_50 (l : Launch) (E : QE) (σ τ : QS) (x1 : Int32) (x2 : Int32) (q : QS) (hf : fX5_makeRow_50 x1 x2 τ = some q) : KQ l yX5_makeRow cX5_makeRow 4 none rm_X5_makeRow_50 E [.ref (qAd E 50), .int x1, .int x2] σ τ (PV E σ q) := by
  unfold fX5_makeRow_50 at hf
  refine y_met rfl (Nat.le_of_ble_eq_true rfl) rfl (fun p e s m below meth c C => ?_)
  refine y_aload_n C dX5_makeRow_0 rfl 0 rfl ?_
  refine g50_sizes C fl_X5_25 dX5_makeRow_1 ?_
  refine y_iload_n C dX5_makeRow_4 rfl 1 rfl ?_
  refine y_iload_n C dX5_makeRow_5 rfl 2 rfl ?_
  obtain ⟨hi1, hf⟩ := ck_e hf
  obtain ⟨S2, e_S2, hf⟩ := lt_e hf
  refine y_iastR C a56 (j := x1.toNatClampNeg) rfl hi1 e_S2 dX5_makeRow_6 ?_
  refine y_iconst C (v := 0) dX5_makeRow_7 (by decide) ?_
  refine y_istore_n C dX5_makeRow_8 rfl (Nat.le_of_ble_eq_true rfl) rfl (lv' := [(3, .int (0 : Int32)), (0, .ref (qAd E 50)), (1, .int x1), (2, .int x2)]) rfl ?_
  refine y_sub [0, 1, 2] rfl ?_
  refine lp_ind (P := fun a3 : Int32 × QS => Y E p l e rm_X5_makeRow_50 s m ([.ref (qAd E 50), .int x1, .int x2] : List Value).toArray below meth c 4 (MQ below (PV E σ q) ([.ref (qAd E 50), .int x1, .int x2] : List Value).toArray s 0 0 (qA E)) σ a3.2 9 [(3, .int a3.1), (0, .ref (qAd E 50)), (1, .int x1)] []) (fun r4 a3 ih_r4 hf => ?_) _ _ hf
  refine y_iload_n C dX5_makeRow_9 rfl 0 rfl ?_
  refine y_bipush C (v := 40) dX5_makeRow_10 (by decide) ?_
  refine y_icmp_ge C 33 dX5_makeRow_12 (by decide) hf (fun hf => ?_) (fun hf => ?_)
  · exact y_vret C rfl (Option.some.inj hf) dX5_makeRow_33
  · refine y_aload_n C dX5_makeRow_15 rfl 1 rfl ?_
    refine g50_items C fl_X5_28 dX5_makeRow_16 ?_
    refine y_bipush C (v := 40) dX5_makeRow_19 (by decide) ?_
    refine y_iload_n C dX5_makeRow_21 rfl 2 rfl ?_
    refine y_imul C dX5_makeRow_22 ?_
    refine y_iload_n C dX5_makeRow_23 rfl 0 rfl ?_
    refine y_iadd C dX5_makeRow_24 ?_
    refine y_iconst C (v := 0) dX5_makeRow_25 (by decide) ?_
    obtain ⟨hi5, hf⟩ := ck_e hf
    obtain ⟨S6, e_S6, hf⟩ := lt_e hf
    refine y_iastR C a57 (j := (((40 : Int32) * x1) + a3.1).toNatClampNeg) rfl hi5 e_S6 dX5_makeRow_26 ?_
    refine y_iinc C dX5_makeRow_27 0 rfl (Nat.le_of_ble_eq_true rfl) (k2 := 1) (by decide) rfl (lv' := [(3, .int (a3.1 + (1 : Int32))), (0, .ref (qAd E 50)), (1, .int x1)]) rfl ?_
    refine y_goto C 9 dX5_makeRow_30 (by decide) ?_
    refine y_sub [0, 1, 2] rfl ?_
    exact ih_r4 ((a3.1 + (1 : Int32)), S6) hf
noncomputable def fX5_find_50 (x1 : Int32) (τ : QS) : Option (Int32 × QS) :=
    lt_ (pI τ 3 x1) (fun (S1 : QS) => ck_ (inb x1 6) (ck_ (inb x1 6) (lt_ (pM S1 60 (upd (gM S1 60) x1.toNatClampNeg ((gM S1 60 x1.toNatClampNeg) + (1 : Int32)))) (fun (S4 : QS) => some ((-3 : Int32), S4)))))
def rm_X5_find_50 : Room := { frames := 0, cells := 0, slots := 0, locals := 0 }
set_option maxRecDepth 100000 in
set_option maxHeartbeats 4000000 in
theorem kX5_find_50 (l : Launch) (E : QE) (σ τ : QS) (x1 : Int32) (q : Int32 × QS) (hf : fX5_find_50 x1 τ = some q) : KQ l yX5_find cX5_find 2 (some .int) rm_X5_find_50 E [.ref (qAd E 50), .int x1] σ τ (PI E q.1 σ q.2) := by
  unfold fX5_find_50 at hf
  refine y_met rfl (Nat.le_of_ble_eq_true rfl) rfl (fun p e s m below meth c C => ?_)
  refine y_aload_n C dX5_find_0 rfl 0 rfl ?_
  refine y_iload_n C dX5_find_1 rfl 1 rfl ?_
  obtain ⟨S1, e_S1, hf⟩ := lt_e hf
  refine p50_finding C fl_X5_68 e_S1 dX5_find_2 ?_
  refine y_aload_n C dX5_find_5 rfl 0 rfl ?_
  refine g50_findings C fl_X5_41 dX5_find_6 ?_
  refine y_iload_n C dX5_find_9 rfl 1 rfl ?_
  refine y_dup2 C dX5_find_10 rfl rfl ?_
  obtain ⟨hi2, hf⟩ := ck_e hf
  refine y_ialdR C a60 (j := x1.toNatClampNeg) rfl hi2 dX5_find_11 ?_
  refine y_iconst C (v := 1) dX5_find_12 (by decide) ?_
  refine y_iadd C dX5_find_13 ?_
  obtain ⟨hi3, hf⟩ := ck_e hf
  obtain ⟨S4, e_S4, hf⟩ := lt_e hf
  refine y_iastR C a60 (j := x1.toNatClampNeg) rfl hi3 e_S4 dX5_find_14 ?_
  refine y_bipush C (v := -3) dX5_find_15 (by decide) ?_
  exact y_iret C (rs1 hf) rfl (rs2 hf) dX5_find_17
noncomputable def fX5_row_50 (x1 : Int32) (x2 : Int32) (τ : QS) : Option (Int32 × QS) :=
    (if (fX5_isRow x1) = 0 then some ((-1 : Int32), τ) else (if x2 ≤ (40 : Int32) then (if 0 ≤ x2 then Option.bind (fX5_makeRow_50 x1 x2 τ) (fun (q1 : QS) => some (x2, q1)) else Option.bind (fX5_find_50 (5 : Int32) τ) (fun (q2 : Int32 × QS) => some (q2.1, q2.2))) else some ((-1 : Int32), τ)))
def rm_X5_row_50 : Room := { frames := 2, cells := 0, slots := 0, locals := 45 }
set_option maxRecDepth 100000 in
set_option maxHeartbeats 4000000 in
theorem kX5_row_50 (l : Launch) (E : QE) (σ τ : QS) (x1 : Int32) (x2 : Int32) (q : Int32 × QS) (hf : fX5_row_50 x1 x2 τ = some q) : KQ l yX5_row cX5_row 3 (some .int) rm_X5_row_50 E [.ref (qAd E 50), .int x1, .int x2] σ τ (PI E q.1 σ q.2) := by
  unfold fX5_row_50 at hf
  refine y_met rfl (Nat.le_of_ble_eq_true rfl) rfl (fun p e s m below meth c C => ?_)
  refine y_iload_n C dX5_row_0 rfl 1 rfl ?_
  refine y_cSi C (kX5_isRow l E σ τ x1 _ rfl) si_X5_isRow ml_X5_83 rfl ⟨rfl, rfl, Nat.le_of_ble_eq_true rfl, Nat.le_of_ble_eq_true rfl⟩ dX5_row_1 rfl (Nat.le_of_ble_eq_true rfl) ?_
  refine y_if_eq C 13 dX5_row_4 (by decide) hf (fun hf => ?_) (fun hf => ?_)
  · refine y_iconst C (v := -1) dX5_row_13 (by decide) ?_
    exact y_iret C (rs1 hf) rfl (rs2 hf) dX5_row_14
  · refine y_iload_n C dX5_row_7 rfl 2 rfl ?_
    refine y_bipush C (v := 40) dX5_row_8 (by decide) ?_
    refine y_icmp_le C 15 dX5_row_10 (by decide) hf (fun hf => ?_) (fun hf => ?_)
    · refine y_iload_n C dX5_row_15 rfl 2 rfl ?_
      refine y_if_ge C 25 dX5_row_16 (by decide) hf (fun hf => ?_) (fun hf => ?_)
      · refine y_aload_n C dX5_row_25 rfl 0 rfl ?_
        refine y_iload_n C dX5_row_26 rfl 1 rfl ?_
        refine y_iload_n C dX5_row_27 rfl 2 rfl ?_
        obtain ⟨q1, h_q1, hf⟩ := bd_e hf
        refine y_cVv C (kX5_makeRow_50 l E σ τ x1 x2 _ h_q1) vi_X5_makeRow ml_X5_91 ⟨5, _, o50, rfl, rfl⟩ rfl ⟨rfl, rfl, Nat.le_of_ble_eq_true rfl, Nat.le_of_ble_eq_true rfl⟩ dX5_row_28 rfl (Nat.le_of_ble_eq_true rfl) ?_
        refine y_iload_n C dX5_row_31 rfl 2 rfl ?_
        exact y_iret C (rs1 hf) rfl (rs2 hf) dX5_row_32
      · refine y_aload_n C dX5_row_19 rfl 0 rfl ?_
        refine y_iconst C (v := 5) dX5_row_20 (by decide) ?_
        obtain ⟨q2, h_q2, hf⟩ := bd_e hf
        refine y_cVi C (kX5_find_50 l E σ τ (5 : Int32) _ h_q2) vi_X5_find ml_X5_87 ⟨5, _, o50, rfl, rfl⟩ rfl ⟨rfl, rfl, Nat.le_of_ble_eq_true rfl, Nat.le_of_ble_eq_true rfl⟩ dX5_row_21 rfl (Nat.le_of_ble_eq_true rfl) ?_
        exact y_iret C (rs1 hf) rfl (rs2 hf) dX5_row_24
    · refine y_iconst C (v := -1) dX5_row_13 (by decide) ?_
      exact y_iret C (rs1 hf) rfl (rs2 hf) dX5_row_14
noncomputable def fX3_size_1 (x1 : Int32) (σ : QS) : Option (Int32) :=
    (if (fX3_isPlace_1 x1 σ) = 0 then some (-1 : Int32) else ck_ (inb x1 6) (some (gM σ 10 x1.toNatClampNeg)))
def rm_X3_size_1 : Room := { frames := 1, cells := 0, slots := 0, locals := 21 }
set_option maxRecDepth 100000 in
set_option maxHeartbeats 4000000 in
theorem kX3_size_1 (l : Launch) (E : QE) (σ τ : QS) (x1 : Int32) (q : Int32) (hf : fX3_size_1 x1 σ = some q) : KQ l yX3_size cX3_size 2 (some .int) rm_X3_size_1 E [.ref (qAd E 1), .int x1] σ τ (PI E q σ τ) := by
  unfold fX3_size_1 at hf
  refine y_met rfl (Nat.le_of_ble_eq_true rfl) rfl (fun p e s m below meth c C => ?_)
  refine y_aload_n C dX3_size_0 rfl 0 rfl ?_
  refine y_iload_n C dX3_size_1 rfl 1 rfl ?_
  refine y_cVi C (kX3_isPlace_1 l E σ τ x1 _ rfl) vi_X3_isPlace ml_X3_28 ⟨3, _, o1, rfl, rfl⟩ rfl ⟨rfl, rfl, Nat.le_of_ble_eq_true rfl, Nat.le_of_ble_eq_true rfl⟩ dX3_size_2 rfl (Nat.le_of_ble_eq_true rfl) ?_
  refine y_if_eq C 17 dX3_size_5 (by decide) hf (fun hf => ?_) (fun hf => ?_)
  · refine y_iconst C (v := -1) dX3_size_17 (by decide) ?_
    exact y_iret C (Option.some.inj hf) rfl rfl dX3_size_18
  · refine y_aload_n C dX3_size_8 rfl 0 rfl ?_
    refine g1_sizes C fl_X3_14 dX3_size_9 ?_
    refine y_iload_n C dX3_size_12 rfl 1 rfl ?_
    obtain ⟨hi1, hf⟩ := ck_e hf
    refine y_ialdC C a10 (j := x1.toNatClampNeg) rfl hi1 dX3_size_13 ?_
    refine y_goto C 18 dX3_size_14 (by decide) ?_
    exact y_iret C (Option.some.inj hf) rfl rfl dX3_size_18
noncomputable def fX3_has_1 (x1 : Int32) (σ : QS) : Option (Int32) :=
    Option.bind (fX3_size_1 x1 σ) (fun (q1 : Int32) => (if q1 = (-1 : Int32) then some (0 : Int32) else some (1 : Int32)))
def rm_X3_has_1 : Room := { frames := 2, cells := 0, slots := 0, locals := 42 }
set_option maxRecDepth 100000 in
set_option maxHeartbeats 4000000 in
theorem kX3_has_1 (l : Launch) (E : QE) (σ τ : QS) (x1 : Int32) (q : Int32) (hf : fX3_has_1 x1 σ = some q) : KQ l yX3_has cX3_has 2 (some .boolean) rm_X3_has_1 E [.ref (qAd E 1), .int x1] σ τ (PI E q σ τ) := by
  unfold fX3_has_1 at hf
  refine y_met rfl (Nat.le_of_ble_eq_true rfl) rfl (fun p e s m below meth c C => ?_)
  refine y_aload_n C dX3_has_0 rfl 0 rfl ?_
  refine y_iload_n C dX3_has_1 rfl 1 rfl ?_
  obtain ⟨q1, h_q1, hf⟩ := bd_e hf
  refine y_cVi C (kX3_size_1 l E σ τ x1 _ h_q1) vi_X3_size ml_X3_24 ⟨3, _, o1, rfl, rfl⟩ rfl ⟨rfl, rfl, Nat.le_of_ble_eq_true rfl, Nat.le_of_ble_eq_true rfl⟩ dX3_has_2 rfl (Nat.le_of_ble_eq_true rfl) ?_
  refine y_iconst C (v := -1) dX3_has_5 (by decide) ?_
  refine y_icmp_eq C 13 dX3_has_6 (by decide) hf (fun hf => ?_) (fun hf => ?_)
  · refine y_iconst C (v := 0) dX3_has_13 (by decide) ?_
    exact y_zret C zOk0 (Option.some.inj hf) rfl rfl dX3_has_14
  · refine y_iconst C (v := 1) dX3_has_9 (by decide) ?_
    refine y_goto C 14 dX3_has_10 (by decide) ?_
    exact y_zret C zOk1 (Option.some.inj hf) rfl rfl dX3_has_14
noncomputable def fX4_refusalOfPlace_0_1 (x2 : Int32) (σ : QS) : Option (Int32 × QS) :=
    (if (fX3_isPlace_1 x2 σ) = 0 then some ((-1 : Int32), σ) else Option.bind (fX3_has_1 x2 σ) (fun (q1 : Int32) => (if q1 = 0 then Option.bind (fX4_refuse_0 (1 : Int32) σ) (fun (q2 : Int32 × QS) => some (q2.1, q2.2)) else some ((0 : Int32), σ))))
def rm_X4_refusalOfPlace_0_1 : Room := { frames := 3, cells := 0, slots := 0, locals := 63 }
set_option maxRecDepth 100000 in
set_option maxHeartbeats 4000000 in
theorem kX4_refusalOfPlace_0_1 (l : Launch) (E : QE) (σ τ : QS) (x2 : Int32) (q : Int32 × QS) (hf : fX4_refusalOfPlace_0_1 x2 σ = some q) : KQ l yX4_refusalOfPlace cX4_refusalOfPlace 3 (some .int) rm_X4_refusalOfPlace_0_1 E [.ref (qAd E 0), .ref (qAd E 1), .int x2] σ τ (PI E q.1 q.2 τ) := by
  unfold fX4_refusalOfPlace_0_1 at hf
  refine y_met rfl (Nat.le_of_ble_eq_true rfl) rfl (fun p e s m below meth c C => ?_)
  refine y_aload_n C dX4_refusalOfPlace_0 rfl 1 rfl ?_
  refine y_iload_n C dX4_refusalOfPlace_1 rfl 2 rfl ?_
  refine y_cVi C (kX3_isPlace_1 l E σ τ x2 _ rfl) vi_X3_isPlace ml_X4_60 ⟨3, _, o1, rfl, rfl⟩ rfl ⟨rfl, rfl, Nat.le_of_ble_eq_true rfl, Nat.le_of_ble_eq_true rfl⟩ dX4_refusalOfPlace_2 rfl (Nat.le_of_ble_eq_true rfl) ?_
  refine y_if_ne C 10 dX4_refusalOfPlace_5 (by decide) hf (fun hf => ?_) (fun hf => ?_)
  · refine y_aload_n C dX4_refusalOfPlace_10 rfl 1 rfl ?_
    refine y_iload_n C dX4_refusalOfPlace_11 rfl 2 rfl ?_
    obtain ⟨q1, h_q1, hf⟩ := bd_e hf
    refine y_cVi C (kX3_has_1 l E σ τ x2 _ h_q1) vi_X3_has ml_X4_94 ⟨3, _, o1, rfl, rfl⟩ rfl ⟨rfl, rfl, Nat.le_of_ble_eq_true rfl, Nat.le_of_ble_eq_true rfl⟩ dX4_refusalOfPlace_12 rfl (Nat.le_of_ble_eq_true rfl) ?_
    refine y_if_eq C 22 dX4_refusalOfPlace_15 (by decide) hf (fun hf => ?_) (fun hf => ?_)
    · refine y_aload_n C dX4_refusalOfPlace_22 rfl 0 rfl ?_
      refine y_iconst C (v := 1) dX4_refusalOfPlace_23 (by decide) ?_
      obtain ⟨q2, h_q2, hf⟩ := bd_e hf
      refine y_cVi C (kX4_refuse_0 l E σ τ (1 : Int32) _ h_q2) vi_X4_refuse ml_X4_64 ⟨4, _, o0, rfl, rfl⟩ rfl ⟨rfl, rfl, Nat.le_of_ble_eq_true rfl, Nat.le_of_ble_eq_true rfl⟩ dX4_refusalOfPlace_24 rfl (Nat.le_of_ble_eq_true rfl) ?_
      exact y_iret C (rs1 hf) (rs2 hf) rfl dX4_refusalOfPlace_27
    · refine y_iconst C (v := 0) dX4_refusalOfPlace_18 (by decide) ?_
      refine y_goto C 27 dX4_refusalOfPlace_19 (by decide) ?_
      exact y_iret C (rs1 hf) (rs2 hf) rfl dX4_refusalOfPlace_27
  · refine y_iconst C (v := -1) dX4_refusalOfPlace_8 (by decide) ?_
    exact y_iret C (rs1 hf) (rs2 hf) rfl dX4_refusalOfPlace_9
noncomputable def fX3_holds_1 (x1 : Int32) (x2 : Int32) (σ : QS) : Option (Int32) :=
    (if (fX3_isPlace_1 x1 σ) = 0 then some (0 : Int32) else (if x2 < 0 then some (0 : Int32) else ck_ (inb x1 6) ((if (gM σ 10 x1.toNatClampNeg) ≤ x2 then some (0 : Int32) else some (1 : Int32)))))
def rm_X3_holds_1 : Room := { frames := 1, cells := 0, slots := 0, locals := 21 }
set_option maxRecDepth 100000 in
set_option maxHeartbeats 4000000 in
theorem kX3_holds_1 (l : Launch) (E : QE) (σ τ : QS) (x1 : Int32) (x2 : Int32) (q : Int32) (hf : fX3_holds_1 x1 x2 σ = some q) : KQ l yX3_holds cX3_holds 3 (some .boolean) rm_X3_holds_1 E [.ref (qAd E 1), .int x1, .int x2] σ τ (PI E q σ τ) := by
  unfold fX3_holds_1 at hf
  refine y_met rfl (Nat.le_of_ble_eq_true rfl) rfl (fun p e s m below meth c C => ?_)
  refine y_aload_n C dX3_holds_0 rfl 0 rfl ?_
  refine y_iload_n C dX3_holds_1 rfl 1 rfl ?_
  refine y_cVi C (kX3_isPlace_1 l E σ τ x1 _ rfl) vi_X3_isPlace ml_X3_28 ⟨3, _, o1, rfl, rfl⟩ rfl ⟨rfl, rfl, Nat.le_of_ble_eq_true rfl, Nat.le_of_ble_eq_true rfl⟩ dX3_holds_2 rfl (Nat.le_of_ble_eq_true rfl) ?_
  refine y_if_eq C 26 dX3_holds_5 (by decide) hf (fun hf => ?_) (fun hf => ?_)
  · refine y_iconst C (v := 0) dX3_holds_26 (by decide) ?_
    exact y_zret C zOk0 (Option.some.inj hf) rfl rfl dX3_holds_27
  · refine y_iload_n C dX3_holds_8 rfl 2 rfl ?_
    refine y_if_lt C 26 dX3_holds_9 (by decide) hf (fun hf => ?_) (fun hf => ?_)
    · refine y_iconst C (v := 0) dX3_holds_26 (by decide) ?_
      exact y_zret C zOk0 (Option.some.inj hf) rfl rfl dX3_holds_27
    · refine y_iload_n C dX3_holds_12 rfl 2 rfl ?_
      refine y_aload_n C dX3_holds_13 rfl 0 rfl ?_
      refine g1_sizes C fl_X3_14 dX3_holds_14 ?_
      refine y_iload_n C dX3_holds_17 rfl 1 rfl ?_
      obtain ⟨hi1, hf⟩ := ck_e hf
      refine y_ialdC C a10 (j := x1.toNatClampNeg) rfl hi1 dX3_holds_18 ?_
      refine y_icmp_ge C 26 dX3_holds_19 (by decide) hf (fun hf => ?_) (fun hf => ?_)
      · refine y_iconst C (v := 0) dX3_holds_26 (by decide) ?_
        exact y_zret C zOk0 (Option.some.inj hf) rfl rfl dX3_holds_27
      · refine y_iconst C (v := 1) dX3_holds_22 (by decide) ?_
        refine y_goto C 27 dX3_holds_23 (by decide) ?_
        exact y_zret C zOk1 (Option.some.inj hf) rfl rfl dX3_holds_27
noncomputable def fX4_refusalOfItem_0_1 (x2 : Int32) (x3 : Int32) (σ : QS) : Option (Int32 × QS) :=
    Option.bind (fX4_refusalOfPlace_0_1 x2 σ) (fun (q1 : Int32 × QS) => (if q1.1 = 0 then Option.bind (fX3_holds_1 x2 x3 q1.2) (fun (q2 : Int32) => (if q2 = 0 then Option.bind (fX4_refuse_0 (2 : Int32) q1.2) (fun (q3 : Int32 × QS) => some (q3.1, q3.2)) else some ((0 : Int32), q1.2))) else some (q1.1, q1.2)))
def rm_X4_refusalOfItem_0_1 : Room := { frames := 4, cells := 0, slots := 0, locals := 85 }
set_option maxRecDepth 100000 in
set_option maxHeartbeats 4000000 in
theorem kX4_refusalOfItem_0_1 (l : Launch) (E : QE) (σ τ : QS) (x2 : Int32) (x3 : Int32) (q : Int32 × QS) (hf : fX4_refusalOfItem_0_1 x2 x3 σ = some q) : KQ l yX4_refusalOfItem cX4_refusalOfItem 5 (some .int) rm_X4_refusalOfItem_0_1 E [.ref (qAd E 0), .ref (qAd E 1), .int x2, .int x3] σ τ (PI E q.1 q.2 τ) := by
  unfold fX4_refusalOfItem_0_1 at hf
  refine y_met rfl (Nat.le_of_ble_eq_true rfl) rfl (fun p e s m below meth c C => ?_)
  refine y_aload_n C dX4_refusalOfItem_0 rfl 0 rfl ?_
  refine y_aload_n C dX4_refusalOfItem_1 rfl 1 rfl ?_
  refine y_iload_n C dX4_refusalOfItem_2 rfl 2 rfl ?_
  obtain ⟨q1, h_q1, hf⟩ := bd_e hf
  refine y_cVi C (kX4_refusalOfPlace_0_1 l E σ τ x2 _ h_q1) vi_X4_refusalOfPlace ml_X4_86 ⟨4, _, o0, rfl, rfl⟩ rfl ⟨rfl, rfl, Nat.le_of_ble_eq_true rfl, Nat.le_of_ble_eq_true rfl⟩ dX4_refusalOfItem_3 rfl (Nat.le_of_ble_eq_true rfl) ?_
  refine y_istore C dX4_refusalOfItem_6 (Nat.le_of_ble_eq_true rfl) rfl (lv' := [(4, .int q1.1), (0, .ref (qAd E 0)), (1, .ref (qAd E 1)), (2, .int x2), (3, .int x3)]) rfl ?_
  refine y_iload C dX4_refusalOfItem_8 0 rfl ?_
  refine y_if_eq C 16 dX4_refusalOfItem_10 (by decide) hf (fun hf => ?_) (fun hf => ?_)
  · refine y_aload_n C dX4_refusalOfItem_16 rfl 2 rfl ?_
    refine y_iload_n C dX4_refusalOfItem_17 rfl 3 rfl ?_
    refine y_iload_n C dX4_refusalOfItem_18 rfl 4 rfl ?_
    obtain ⟨q2, h_q2, hf⟩ := bd_e hf
    refine y_cVi C (kX3_holds_1 l E q1.2 τ x2 x3 _ h_q2) vi_X3_holds ml_X4_312 ⟨3, _, o1, rfl, rfl⟩ rfl ⟨rfl, rfl, Nat.le_of_ble_eq_true rfl, Nat.le_of_ble_eq_true rfl⟩ dX4_refusalOfItem_19 rfl (Nat.le_of_ble_eq_true rfl) ?_
    refine y_if_eq C 29 dX4_refusalOfItem_22 (by decide) hf (fun hf => ?_) (fun hf => ?_)
    · refine y_aload_n C dX4_refusalOfItem_29 rfl 1 rfl ?_
      refine y_iconst C (v := 2) dX4_refusalOfItem_30 (by decide) ?_
      obtain ⟨q3, h_q3, hf⟩ := bd_e hf
      refine y_cVi C (kX4_refuse_0 l E q1.2 τ (2 : Int32) _ h_q3) vi_X4_refuse ml_X4_64 ⟨4, _, o0, rfl, rfl⟩ rfl ⟨rfl, rfl, Nat.le_of_ble_eq_true rfl, Nat.le_of_ble_eq_true rfl⟩ dX4_refusalOfItem_31 rfl (Nat.le_of_ble_eq_true rfl) ?_
      exact y_iret C (rs1 hf) (rs2 hf) rfl dX4_refusalOfItem_34
    · refine y_iconst C (v := 0) dX4_refusalOfItem_25 (by decide) ?_
      refine y_goto C 34 dX4_refusalOfItem_26 (by decide) ?_
      exact y_iret C (rs1 hf) (rs2 hf) rfl dX4_refusalOfItem_34
  · refine y_iload C dX4_refusalOfItem_13 0 rfl ?_
    exact y_iret C (rs1 hf) (rs2 hf) rfl dX4_refusalOfItem_15
noncomputable def fX3_get_1 (x1 : Int32) (x2 : Int32) (σ : QS) : Option (Int32) :=
    Option.bind (fX3_holds_1 x1 x2 σ) (fun (q1 : Int32) => (if q1 = 0 then some (0 : Int32) else ck_ (inb x1 6) (ck_ (inb x2 40) (some (gM σ (30 + x1.toNatClampNeg) x2.toNatClampNeg)))))
def rm_X3_get_1 : Room := { frames := 2, cells := 0, slots := 0, locals := 43 }
set_option maxRecDepth 100000 in
set_option maxHeartbeats 4000000 in
theorem kX3_get_1 (l : Launch) (E : QE) (σ τ : QS) (x1 : Int32) (x2 : Int32) (q : Int32) (hf : fX3_get_1 x1 x2 σ = some q) : KQ l yX3_get cX3_get 3 (some .int) rm_X3_get_1 E [.ref (qAd E 1), .int x1, .int x2] σ τ (PI E q σ τ) := by
  unfold fX3_get_1 at hf
  refine y_met rfl (Nat.le_of_ble_eq_true rfl) rfl (fun p e s m below meth c C => ?_)
  refine y_aload_n C dX3_get_0 rfl 0 rfl ?_
  refine y_iload_n C dX3_get_1 rfl 1 rfl ?_
  refine y_iload_n C dX3_get_2 rfl 2 rfl ?_
  obtain ⟨q1, h_q1, hf⟩ := bd_e hf
  refine y_cVi C (kX3_holds_1 l E σ τ x1 x2 _ h_q1) vi_X3_holds ml_X3_32 ⟨3, _, o1, rfl, rfl⟩ rfl ⟨rfl, rfl, Nat.le_of_ble_eq_true rfl, Nat.le_of_ble_eq_true rfl⟩ dX3_get_3 rfl (Nat.le_of_ble_eq_true rfl) ?_
  refine y_if_eq C 20 dX3_get_6 (by decide) hf (fun hf => ?_) (fun hf => ?_)
  · refine y_iconst C (v := 0) dX3_get_20 (by decide) ?_
    exact y_iret C (Option.some.inj hf) rfl rfl dX3_get_21
  · refine y_aload_n C dX3_get_9 rfl 0 rfl ?_
    refine g1_items C fl_X3_9 dX3_get_10 ?_
    refine y_iload_n C dX3_get_13 rfl 1 rfl ?_
    obtain ⟨hi2, hf⟩ := ck_e hf
    refine y_aald C q9 hi2 dX3_get_14 ?_
    refine y_iload_n C dX3_get_15 rfl 2 rfl ?_
    obtain ⟨hi3, hf⟩ := ck_e hf
    refine y_ialdC C (in9 (inb_e hi2)) (j := x2.toNatClampNeg) rfl hi3 dX3_get_16 ?_
    refine y_goto C 21 dX3_get_17 (by decide) ?_
    exact y_iret C (Option.some.inj hf) rfl rfl dX3_get_21
noncomputable def fX3_set_1 (x1 : Int32) (x2 : Int32) (x3 : Int32) (σ : QS) : Option (QS) :=
    Option.bind (fX3_holds_1 x1 x2 σ) (fun (q1 : Int32) => (if q1 = 0 then some σ else ck_ (inb x1 6) (ck_ (inb x2 40) (lt_ (pM σ (30 + x1.toNatClampNeg) (upd (gM σ (30 + x1.toNatClampNeg)) x2.toNatClampNeg x3)) (fun (S4 : QS) => some S4)))))
def rm_X3_set_1 : Room := { frames := 2, cells := 0, slots := 0, locals := 43 }
set_option maxRecDepth 100000 in
set_option maxHeartbeats 4000000 in
theorem kX3_set_1 (l : Launch) (E : QE) (σ τ : QS) (x1 : Int32) (x2 : Int32) (x3 : Int32) (q : QS) (hf : fX3_set_1 x1 x2 x3 σ = some q) : KQ l yX3_set cX3_set 4 none rm_X3_set_1 E [.ref (qAd E 1), .int x1, .int x2, .int x3] σ τ (PV E q τ) := by
  unfold fX3_set_1 at hf
  refine y_met rfl (Nat.le_of_ble_eq_true rfl) rfl (fun p e s m below meth c C => ?_)
  refine y_aload_n C dX3_set_0 rfl 0 rfl ?_
  refine y_iload_n C dX3_set_1 rfl 1 rfl ?_
  refine y_iload_n C dX3_set_2 rfl 2 rfl ?_
  obtain ⟨q1, h_q1, hf⟩ := bd_e hf
  refine y_cVi C (kX3_holds_1 l E σ τ x1 x2 _ h_q1) vi_X3_holds ml_X3_32 ⟨3, _, o1, rfl, rfl⟩ rfl ⟨rfl, rfl, Nat.le_of_ble_eq_true rfl, Nat.le_of_ble_eq_true rfl⟩ dX3_set_3 rfl (Nat.le_of_ble_eq_true rfl) ?_
  refine y_if_eq C 18 dX3_set_6 (by decide) hf (fun hf => ?_) (fun hf => ?_)
  · exact y_vret C (Option.some.inj hf) rfl dX3_set_18
  · refine y_aload_n C dX3_set_9 rfl 0 rfl ?_
    refine g1_items C fl_X3_9 dX3_set_10 ?_
    refine y_iload_n C dX3_set_13 rfl 1 rfl ?_
    obtain ⟨hi2, hf⟩ := ck_e hf
    refine y_aald C q9 hi2 dX3_set_14 ?_
    refine y_iload_n C dX3_set_15 rfl 2 rfl ?_
    refine y_iload_n C dX3_set_16 rfl 3 rfl ?_
    obtain ⟨hi3, hf⟩ := ck_e hf
    obtain ⟨S4, e_S4, hf⟩ := lt_e hf
    refine y_iastC C (in9 (inb_e hi2)) (j := x2.toNatClampNeg) rfl hi3 e_S4 dX3_set_17 ?_
    exact y_vret C (Option.some.inj hf) rfl dX3_set_18
noncomputable def fX4_tell_0 (x1 : Int32) (σ : QS) : Int32 × QS :=
    lt_ (pI σ 1 x1) (fun (S1 : QS) => ((1 : Int32), S1))
def rm_X4_tell_0 : Room := { frames := 0, cells := 0, slots := 0, locals := 0 }
set_option maxRecDepth 100000 in
set_option maxHeartbeats 4000000 in
theorem kX4_tell_0 (l : Launch) (E : QE) (σ τ : QS) (x1 : Int32) (q : Int32 × QS) (hf : fX4_tell_0 x1 σ = q) : KQ l yX4_tell cX4_tell 2 (some .int) rm_X4_tell_0 E [.ref (qAd E 0), .int x1] σ τ (PI E q.1 q.2 τ) := by
  unfold fX4_tell_0 at hf
  refine y_met rfl (Nat.le_of_ble_eq_true rfl) rfl (fun p e s m below meth c C => ?_)
  refine y_aload_n C dX4_tell_0 rfl 0 rfl ?_
  refine y_iload_n C dX4_tell_1 rfl 1 rfl ?_
  obtain ⟨S1, e_S1, hf⟩ := lt_e hf
  refine p0_lastTold C fl_X4_280 e_S1 dX4_tell_2 ?_
  refine y_iconst C (v := 1) dX4_tell_5 (by decide) ?_
  exact y_iret C (rt1 hf) (rt2 hf) rfl dX4_tell_6
noncomputable def fX4_lay_0 (x1 : Int32) (x2 : Int32) (x3 : Int32) (σ : QS) : Option (Int32 × QS) :=
    Option.bind (fX4_refusalOfItem_0_1 x1 x2 σ) (fun (q1 : Int32 × QS) => (if q1.1 = 0 then Option.bind (fX3_get_1 x1 x2 q1.2) (fun (q2 : Int32) => Option.bind (fX3_set_1 x1 x2 x3 q1.2) (fun (q3 : QS) => lt_ (fX4_tell_0 q2 q3) (fun (q4 : Int32 × QS) => some (q4.1, q4.2)))) else some (q1.1, q1.2)))
def rm_X4_lay_0 : Room := { frames := 5, cells := 0, slots := 0, locals := 109 }
set_option maxRecDepth 100000 in
set_option maxHeartbeats 4000000 in
theorem kX4_lay_0 (l : Launch) (E : QE) (σ τ : QS) (x1 : Int32) (x2 : Int32) (x3 : Int32) (q : Int32 × QS) (hf : fX4_lay_0 x1 x2 x3 σ = some q) : KQ l yX4_lay cX4_lay 6 (some .int) rm_X4_lay_0 E [.ref (qAd E 0), .int x1, .int x2, .int x3] σ τ (PI E q.1 q.2 τ) := by
  unfold fX4_lay_0 at hf
  refine y_met rfl (Nat.le_of_ble_eq_true rfl) rfl (fun p e s m below meth c C => ?_)
  refine y_aload_n C dX4_lay_0 rfl 0 rfl ?_
  refine y_aload_n C dX4_lay_1 rfl 0 rfl ?_
  refine g0_rowShelf C fl_X4_14 dX4_lay_2 ?_
  refine y_iload_n C dX4_lay_5 rfl 1 rfl ?_
  refine y_iload_n C dX4_lay_6 rfl 2 rfl ?_
  obtain ⟨q1, h_q1, hf⟩ := bd_e hf
  refine y_cVi C (kX4_refusalOfItem_0_1 l E σ τ x1 x2 _ h_q1) vi_X4_refusalOfItem ml_X4_72 ⟨4, _, o0, rfl, rfl⟩ rfl ⟨rfl, rfl, Nat.le_of_ble_eq_true rfl, Nat.le_of_ble_eq_true rfl⟩ dX4_lay_7 rfl (Nat.le_of_ble_eq_true rfl) ?_
  refine y_istore C dX4_lay_10 (Nat.le_of_ble_eq_true rfl) rfl (lv' := [(4, .int q1.1), (0, .ref (qAd E 0)), (1, .int x1), (2, .int x2), (3, .int x3)]) rfl ?_
  refine y_iload C dX4_lay_12 0 rfl ?_
  refine y_if_eq C 20 dX4_lay_14 (by decide) hf (fun hf => ?_) (fun hf => ?_)
  · refine y_aload_n C dX4_lay_20 rfl 1 rfl ?_
    refine g0_rowShelf C fl_X4_14 dX4_lay_21 ?_
    refine y_iload_n C dX4_lay_24 rfl 2 rfl ?_
    refine y_iload_n C dX4_lay_25 rfl 3 rfl ?_
    obtain ⟨q2, h_q2, hf⟩ := bd_e hf
    refine y_cVi C (kX3_get_1 l E q1.2 τ x1 x2 _ h_q2) vi_X3_get ml_X4_76 ⟨3, _, o1, rfl, rfl⟩ rfl ⟨rfl, rfl, Nat.le_of_ble_eq_true rfl, Nat.le_of_ble_eq_true rfl⟩ dX4_lay_26 rfl (Nat.le_of_ble_eq_true rfl) ?_
    refine y_istore C dX4_lay_29 (Nat.le_of_ble_eq_true rfl) rfl (lv' := [(5, .int q2), (4, .int q1.1), (0, .ref (qAd E 0)), (1, .int x1), (2, .int x2), (3, .int x3)]) rfl ?_
    refine y_aload_n C dX4_lay_31 rfl 2 rfl ?_
    refine g0_rowShelf C fl_X4_14 dX4_lay_32 ?_
    refine y_iload_n C dX4_lay_35 rfl 3 rfl ?_
    refine y_iload_n C dX4_lay_36 rfl 4 rfl ?_
    refine y_iload_n C dX4_lay_37 rfl 5 rfl ?_
    obtain ⟨q3, h_q3, hf⟩ := bd_e hf
    refine y_cVv C (kX3_set_1 l E q1.2 τ x1 x2 x3 _ h_q3) vi_X3_set ml_X4_80 ⟨3, _, o1, rfl, rfl⟩ rfl ⟨rfl, rfl, Nat.le_of_ble_eq_true rfl, Nat.le_of_ble_eq_true rfl⟩ dX4_lay_38 rfl (Nat.le_of_ble_eq_true rfl) ?_
    refine y_aload_n C dX4_lay_41 rfl 2 rfl ?_
    refine y_iload C dX4_lay_42 0 rfl ?_
    obtain ⟨q4, e_q4, hf⟩ := lt_e hf
    refine y_cVi C (kX4_tell_0 l E q3 τ q2 _ e_q4.symm) vi_X4_tell ml_X4_83 ⟨4, _, o0, rfl, rfl⟩ rfl ⟨rfl, rfl, Nat.le_of_ble_eq_true rfl, Nat.le_of_ble_eq_true rfl⟩ dX4_lay_44 rfl (Nat.le_of_ble_eq_true rfl) ?_
    exact y_iret C (rs1 hf) (rs2 hf) rfl dX4_lay_47
  · refine y_iload C dX4_lay_17 0 rfl ?_
    exact y_iret C (rs1 hf) (rs2 hf) rfl dX4_lay_19
noncomputable def fX5_refused_50 (x1 : Int32) (x2 : Int32) (τ : QS) : Option (Int32 × QS) :=
    (if (fX5_isRow x1) = 0 then some ((-1 : Int32), τ) else ck_ (inb x1 6) ((if 0 ≤ (gM τ 56 x1.toNatClampNeg) then ck_ (inb x1 6) ((if (fX5_in x2.toInt64 (0 : Int64) (((gM τ 56 x1.toNatClampNeg) - (1 : Int32)).toInt64)) = 0 then Option.bind (fX5_find_50 (2 : Int32) τ) (fun (q3 : Int32 × QS) => some (q3.1, q3.2)) else some ((0 : Int32), τ))) else Option.bind (fX5_find_50 (1 : Int32) τ) (fun (q4 : Int32 × QS) => some (q4.1, q4.2)))))
def rm_X5_refused_50 : Room := { frames := 2, cells := 0, slots := 0, locals := 45 }
set_option maxRecDepth 100000 in
set_option maxHeartbeats 4000000 in
theorem kX5_refused_50 (l : Launch) (E : QE) (σ τ : QS) (x1 : Int32) (x2 : Int32) (q : Int32 × QS) (hf : fX5_refused_50 x1 x2 τ = some q) : KQ l yX5_refused cX5_refused 3 (some .int) rm_X5_refused_50 E [.ref (qAd E 50), .int x1, .int x2] σ τ (PI E q.1 σ q.2) := by
  unfold fX5_refused_50 at hf
  refine y_met rfl (Nat.le_of_ble_eq_true rfl) rfl (fun p e s m below meth c C => ?_)
  refine y_iload_n C dX5_refused_0 rfl 1 rfl ?_
  refine y_cSi C (kX5_isRow l E σ τ x1 _ rfl) si_X5_isRow ml_X5_83 rfl ⟨rfl, rfl, Nat.le_of_ble_eq_true rfl, Nat.le_of_ble_eq_true rfl⟩ dX5_refused_1 rfl (Nat.le_of_ble_eq_true rfl) ?_
  refine y_if_ne C 11 dX5_refused_4 (by decide) hf (fun hf => ?_) (fun hf => ?_)
  · refine y_aload_n C dX5_refused_11 rfl 0 rfl ?_
    refine g50_sizes C fl_X5_25 dX5_refused_12 ?_
    refine y_iload_n C dX5_refused_15 rfl 1 rfl ?_
    obtain ⟨hi1, hf⟩ := ck_e hf
    refine y_ialdR C a56 (j := x1.toNatClampNeg) rfl hi1 dX5_refused_16 ?_
    refine y_if_ge C 28 dX5_refused_17 (by decide) hf (fun hf => ?_) (fun hf => ?_)
    · refine y_iload_n C dX5_refused_28 rfl 2 rfl ?_
      refine y_i2l C dX5_refused_29 ?_
      refine y_lconst C (v := 0) dX5_refused_30 (by decide) ?_
      refine y_aload_n C dX5_refused_31 rfl 0 rfl ?_
      refine g50_sizes C fl_X5_25 dX5_refused_32 ?_
      refine y_iload_n C dX5_refused_35 rfl 1 rfl ?_
      obtain ⟨hi2, hf⟩ := ck_e hf
      refine y_ialdR C a56 (j := x1.toNatClampNeg) rfl hi2 dX5_refused_36 ?_
      refine y_iconst C (v := 1) dX5_refused_37 (by decide) ?_
      refine y_isub C dX5_refused_38 ?_
      refine y_i2l C dX5_refused_39 ?_
      refine y_cSi C (kX5_in l E σ τ x2.toInt64 (0 : Int64) (((gM τ 56 x1.toNatClampNeg) - (1 : Int32)).toInt64) _ rfl) si_X5_in ml_X5_77 rfl ⟨rfl, rfl, Nat.le_of_ble_eq_true rfl, Nat.le_of_ble_eq_true rfl⟩ dX5_refused_40 rfl (Nat.le_of_ble_eq_true rfl) ?_
      refine y_if_eq C 50 dX5_refused_43 (by decide) hf (fun hf => ?_) (fun hf => ?_)
      · refine y_aload_n C dX5_refused_50 rfl 0 rfl ?_
        refine y_iconst C (v := 2) dX5_refused_51 (by decide) ?_
        obtain ⟨q3, h_q3, hf⟩ := bd_e hf
        refine y_cVi C (kX5_find_50 l E σ τ (2 : Int32) _ h_q3) vi_X5_find ml_X5_87 ⟨5, _, o50, rfl, rfl⟩ rfl ⟨rfl, rfl, Nat.le_of_ble_eq_true rfl, Nat.le_of_ble_eq_true rfl⟩ dX5_refused_52 rfl (Nat.le_of_ble_eq_true rfl) ?_
        exact y_iret C (rs1 hf) rfl (rs2 hf) dX5_refused_55
      · refine y_iconst C (v := 0) dX5_refused_46 (by decide) ?_
        refine y_goto C 55 dX5_refused_47 (by decide) ?_
        exact y_iret C (rs1 hf) rfl (rs2 hf) dX5_refused_55
    · refine y_aload_n C dX5_refused_20 rfl 0 rfl ?_
      refine y_iconst C (v := 1) dX5_refused_21 (by decide) ?_
      obtain ⟨q4, h_q4, hf⟩ := bd_e hf
      refine y_cVi C (kX5_find_50 l E σ τ (1 : Int32) _ h_q4) vi_X5_find ml_X5_87 ⟨5, _, o50, rfl, rfl⟩ rfl ⟨rfl, rfl, Nat.le_of_ble_eq_true rfl, Nat.le_of_ble_eq_true rfl⟩ dX5_refused_22 rfl (Nat.le_of_ble_eq_true rfl) ?_
      refine y_goto C 55 dX5_refused_25 (by decide) ?_
      exact y_iret C (rs1 hf) rfl (rs2 hf) dX5_refused_55
  · refine y_iconst C (v := -1) dX5_refused_7 (by decide) ?_
    refine y_goto C 55 dX5_refused_8 (by decide) ?_
    exact y_iret C (rs1 hf) rfl (rs2 hf) dX5_refused_55
noncomputable def fX5_tell_50 (x1 : Int32) (τ : QS) : Int32 × QS :=
    lt_ (pI τ 2 x1) (fun (S1 : QS) => ((1 : Int32), S1))
def rm_X5_tell_50 : Room := { frames := 0, cells := 0, slots := 0, locals := 0 }
set_option maxRecDepth 100000 in
set_option maxHeartbeats 4000000 in
theorem kX5_tell_50 (l : Launch) (E : QE) (σ τ : QS) (x1 : Int32) (q : Int32 × QS) (hf : fX5_tell_50 x1 τ = q) : KQ l yX5_tell cX5_tell 2 (some .int) rm_X5_tell_50 E [.ref (qAd E 50), .int x1] σ τ (PI E q.1 σ q.2) := by
  unfold fX5_tell_50 at hf
  refine y_met rfl (Nat.le_of_ble_eq_true rfl) rfl (fun p e s m below meth c C => ?_)
  refine y_aload_n C dX5_tell_0 rfl 0 rfl ?_
  refine y_iload_n C dX5_tell_1 rfl 1 rfl ?_
  obtain ⟨S1, e_S1, hf⟩ := lt_e hf
  refine p50_asked C fl_X5_72 e_S1 dX5_tell_2 ?_
  refine y_iconst C (v := 1) dX5_tell_5 (by decide) ?_
  exact y_iret C (rt1 hf) rfl (rt2 hf) dX5_tell_6
noncomputable def fX5_lay_50 (x1 : Int32) (x2 : Int32) (x3 : Int32) (τ : QS) : Option (Int32 × QS) :=
    Option.bind (fX5_refused_50 x1 x2 τ) (fun (q1 : Int32 × QS) => (if q1.1 = 0 then ck_ (inb (((40 : Int32) * x1) + x2) 240) (lt_ (gM q1.2 57 ((((40 : Int32) * x1) + x2).toNatClampNeg)) (fun (v3 : Int32) => ck_ (inb (((40 : Int32) * x1) + x2) 240) (lt_ (pM q1.2 57 (upd (gM q1.2 57) ((((40 : Int32) * x1) + x2).toNatClampNeg) x3)) (fun (S5 : QS) => lt_ (fX5_tell_50 v3 S5) (fun (q6 : Int32 × QS) => some (q6.1, q6.2)))))) else some (q1.1, q1.2)))
def rm_X5_lay_50 : Room := { frames := 3, cells := 0, slots := 0, locals := 67 }
set_option maxRecDepth 100000 in
set_option maxHeartbeats 4000000 in
theorem kX5_lay_50 (l : Launch) (E : QE) (σ τ : QS) (x1 : Int32) (x2 : Int32) (x3 : Int32) (q : Int32 × QS) (hf : fX5_lay_50 x1 x2 x3 τ = some q) : KQ l yX5_lay cX5_lay 6 (some .int) rm_X5_lay_50 E [.ref (qAd E 50), .int x1, .int x2, .int x3] σ τ (PI E q.1 σ q.2) := by
  unfold fX5_lay_50 at hf
  refine y_met rfl (Nat.le_of_ble_eq_true rfl) rfl (fun p e s m below meth c C => ?_)
  refine y_aload_n C dX5_lay_0 rfl 0 rfl ?_
  refine y_iload_n C dX5_lay_1 rfl 1 rfl ?_
  refine y_iload_n C dX5_lay_2 rfl 2 rfl ?_
  obtain ⟨q1, h_q1, hf⟩ := bd_e hf
  refine y_cVi C (kX5_refused_50 l E σ τ x1 x2 _ h_q1) vi_X5_refused ml_X5_95 ⟨5, _, o50, rfl, rfl⟩ rfl ⟨rfl, rfl, Nat.le_of_ble_eq_true rfl, Nat.le_of_ble_eq_true rfl⟩ dX5_lay_3 rfl (Nat.le_of_ble_eq_true rfl) ?_
  refine y_istore C dX5_lay_6 (Nat.le_of_ble_eq_true rfl) rfl (lv' := [(4, .int q1.1), (0, .ref (qAd E 50)), (1, .int x1), (2, .int x2), (3, .int x3)]) rfl ?_
  refine y_iload C dX5_lay_8 0 rfl ?_
  refine y_if_eq C 16 dX5_lay_10 (by decide) hf (fun hf => ?_) (fun hf => ?_)
  · refine y_aload_n C dX5_lay_16 rfl 1 rfl ?_
    refine g50_items C fl_X5_28 dX5_lay_17 ?_
    refine y_bipush C (v := 40) dX5_lay_20 (by decide) ?_
    refine y_iload_n C dX5_lay_22 rfl 2 rfl ?_
    refine y_imul C dX5_lay_23 ?_
    refine y_iload_n C dX5_lay_24 rfl 3 rfl ?_
    refine y_iadd C dX5_lay_25 ?_
    obtain ⟨hi2, hf⟩ := ck_e hf
    refine y_ialdR C a57 (j := (((40 : Int32) * x1) + x2).toNatClampNeg) rfl hi2 dX5_lay_26 ?_
    obtain ⟨v3, e_v3, hf⟩ := lt_e hf
    refine y_istore C dX5_lay_27 (Nat.le_of_ble_eq_true rfl) e_v3 (lv' := [(5, .int v3), (4, .int q1.1), (0, .ref (qAd E 50)), (1, .int x1), (2, .int x2), (3, .int x3)]) rfl ?_
    refine y_aload_n C dX5_lay_29 rfl 2 rfl ?_
    refine g50_items C fl_X5_28 dX5_lay_30 ?_
    refine y_bipush C (v := 40) dX5_lay_33 (by decide) ?_
    refine y_iload_n C dX5_lay_35 rfl 3 rfl ?_
    refine y_imul C dX5_lay_36 ?_
    refine y_iload_n C dX5_lay_37 rfl 4 rfl ?_
    refine y_iadd C dX5_lay_38 ?_
    refine y_iload_n C dX5_lay_39 rfl 5 rfl ?_
    obtain ⟨hi4, hf⟩ := ck_e hf
    obtain ⟨S5, e_S5, hf⟩ := lt_e hf
    refine y_iastR C a57 (j := (((40 : Int32) * x1) + x2).toNatClampNeg) rfl hi4 e_S5 dX5_lay_40 ?_
    refine y_aload_n C dX5_lay_41 rfl 2 rfl ?_
    refine y_iload C dX5_lay_42 0 rfl ?_
    obtain ⟨q6, e_q6, hf⟩ := lt_e hf
    refine y_cVi C (kX5_tell_50 l E σ S5 v3 _ e_q6.symm) vi_X5_tell ml_X5_99 ⟨5, _, o50, rfl, rfl⟩ rfl ⟨rfl, rfl, Nat.le_of_ble_eq_true rfl, Nat.le_of_ble_eq_true rfl⟩ dX5_lay_44 rfl (Nat.le_of_ble_eq_true rfl) ?_
    exact y_iret C (rs1 hf) rfl (rs2 hf) dX5_lay_47
  · refine y_iload C dX5_lay_13 0 rfl ?_
    exact y_iret C (rs1 hf) rfl (rs2 hf) dX5_lay_15
noncomputable def fX4_at_0 (x1 : Int32) (x2 : Int32) (σ : QS) : Option (Int32 × QS) :=
    Option.bind (fX4_refusalOfItem_0_1 x1 x2 σ) (fun (q1 : Int32 × QS) => (if q1.1 = 0 then Option.bind (fX3_get_1 x1 x2 q1.2) (fun (q2 : Int32) => lt_ (fX4_tell_0 q2 q1.2) (fun (q3 : Int32 × QS) => some (q3.1, q3.2))) else some (q1.1, q1.2)))
def rm_X4_at_0 : Room := { frames := 5, cells := 0, slots := 0, locals := 109 }
set_option maxRecDepth 100000 in
set_option maxHeartbeats 4000000 in
theorem kX4_at_0 (l : Launch) (E : QE) (σ τ : QS) (x1 : Int32) (x2 : Int32) (q : Int32 × QS) (hf : fX4_at_0 x1 x2 σ = some q) : KQ l yX4_at cX4_at 4 (some .int) rm_X4_at_0 E [.ref (qAd E 0), .int x1, .int x2] σ τ (PI E q.1 q.2 τ) := by
  unfold fX4_at_0 at hf
  refine y_met rfl (Nat.le_of_ble_eq_true rfl) rfl (fun p e s m below meth c C => ?_)
  refine y_aload_n C dX4_at_0 rfl 0 rfl ?_
  refine y_aload_n C dX4_at_1 rfl 0 rfl ?_
  refine g0_rowShelf C fl_X4_14 dX4_at_2 ?_
  refine y_iload_n C dX4_at_5 rfl 1 rfl ?_
  refine y_iload_n C dX4_at_6 rfl 2 rfl ?_
  obtain ⟨q1, h_q1, hf⟩ := bd_e hf
  refine y_cVi C (kX4_refusalOfItem_0_1 l E σ τ x1 x2 _ h_q1) vi_X4_refusalOfItem ml_X4_72 ⟨4, _, o0, rfl, rfl⟩ rfl ⟨rfl, rfl, Nat.le_of_ble_eq_true rfl, Nat.le_of_ble_eq_true rfl⟩ dX4_at_7 rfl (Nat.le_of_ble_eq_true rfl) ?_
  refine y_istore_n C dX4_at_10 rfl (Nat.le_of_ble_eq_true rfl) rfl (lv' := [(3, .int q1.1), (0, .ref (qAd E 0)), (1, .int x1), (2, .int x2)]) rfl ?_
  refine y_iload_n C dX4_at_11 rfl 0 rfl ?_
  refine y_if_eq C 19 dX4_at_12 (by decide) hf (fun hf => ?_) (fun hf => ?_)
  · refine y_aload_n C dX4_at_19 rfl 1 rfl ?_
    refine y_aload_n C dX4_at_20 rfl 1 rfl ?_
    refine g0_rowShelf C fl_X4_14 dX4_at_21 ?_
    refine y_iload_n C dX4_at_24 rfl 2 rfl ?_
    refine y_iload_n C dX4_at_25 rfl 3 rfl ?_
    obtain ⟨q2, h_q2, hf⟩ := bd_e hf
    refine y_cVi C (kX3_get_1 l E q1.2 τ x1 x2 _ h_q2) vi_X3_get ml_X4_76 ⟨3, _, o1, rfl, rfl⟩ rfl ⟨rfl, rfl, Nat.le_of_ble_eq_true rfl, Nat.le_of_ble_eq_true rfl⟩ dX4_at_26 rfl (Nat.le_of_ble_eq_true rfl) ?_
    obtain ⟨q3, e_q3, hf⟩ := lt_e hf
    refine y_cVi C (kX4_tell_0 l E q1.2 τ q2 _ e_q3.symm) vi_X4_tell ml_X4_83 ⟨4, _, o0, rfl, rfl⟩ rfl ⟨rfl, rfl, Nat.le_of_ble_eq_true rfl, Nat.le_of_ble_eq_true rfl⟩ dX4_at_29 rfl (Nat.le_of_ble_eq_true rfl) ?_
    exact y_iret C (rs1 hf) (rs2 hf) rfl dX4_at_32
  · refine y_iload_n C dX4_at_15 rfl 0 rfl ?_
    refine y_goto C 32 dX4_at_16 (by decide) ?_
    exact y_iret C (rs1 hf) (rs2 hf) rfl dX4_at_32
noncomputable def fX5_at_50 (x1 : Int32) (x2 : Int32) (τ : QS) : Option (Int32 × QS) :=
    Option.bind (fX5_refused_50 x1 x2 τ) (fun (q1 : Int32 × QS) => (if q1.1 = 0 then ck_ (inb (((40 : Int32) * x1) + x2) 240) (lt_ (fX5_tell_50 (gM q1.2 57 ((((40 : Int32) * x1) + x2).toNatClampNeg)) q1.2) (fun (q3 : Int32 × QS) => some (q3.1, q3.2))) else some (q1.1, q1.2)))
def rm_X5_at_50 : Room := { frames := 3, cells := 0, slots := 0, locals := 67 }
set_option maxRecDepth 100000 in
set_option maxHeartbeats 4000000 in
theorem kX5_at_50 (l : Launch) (E : QE) (σ τ : QS) (x1 : Int32) (x2 : Int32) (q : Int32 × QS) (hf : fX5_at_50 x1 x2 τ = some q) : KQ l yX5_at cX5_at 4 (some .int) rm_X5_at_50 E [.ref (qAd E 50), .int x1, .int x2] σ τ (PI E q.1 σ q.2) := by
  unfold fX5_at_50 at hf
  refine y_met rfl (Nat.le_of_ble_eq_true rfl) rfl (fun p e s m below meth c C => ?_)
  refine y_aload_n C dX5_at_0 rfl 0 rfl ?_
  refine y_iload_n C dX5_at_1 rfl 1 rfl ?_
  refine y_iload_n C dX5_at_2 rfl 2 rfl ?_
  obtain ⟨q1, h_q1, hf⟩ := bd_e hf
  refine y_cVi C (kX5_refused_50 l E σ τ x1 x2 _ h_q1) vi_X5_refused ml_X5_95 ⟨5, _, o50, rfl, rfl⟩ rfl ⟨rfl, rfl, Nat.le_of_ble_eq_true rfl, Nat.le_of_ble_eq_true rfl⟩ dX5_at_3 rfl (Nat.le_of_ble_eq_true rfl) ?_
  refine y_istore_n C dX5_at_6 rfl (Nat.le_of_ble_eq_true rfl) rfl (lv' := [(3, .int q1.1), (0, .ref (qAd E 50)), (1, .int x1), (2, .int x2)]) rfl ?_
  refine y_iload_n C dX5_at_7 rfl 0 rfl ?_
  refine y_if_eq C 15 dX5_at_8 (by decide) hf (fun hf => ?_) (fun hf => ?_)
  · refine y_aload_n C dX5_at_15 rfl 1 rfl ?_
    refine y_aload_n C dX5_at_16 rfl 1 rfl ?_
    refine g50_items C fl_X5_28 dX5_at_17 ?_
    refine y_bipush C (v := 40) dX5_at_20 (by decide) ?_
    refine y_iload_n C dX5_at_22 rfl 2 rfl ?_
    refine y_imul C dX5_at_23 ?_
    refine y_iload_n C dX5_at_24 rfl 3 rfl ?_
    refine y_iadd C dX5_at_25 ?_
    obtain ⟨hi2, hf⟩ := ck_e hf
    refine y_ialdR C a57 (j := (((40 : Int32) * x1) + x2).toNatClampNeg) rfl hi2 dX5_at_26 ?_
    obtain ⟨q3, e_q3, hf⟩ := lt_e hf
    refine y_cVi C (kX5_tell_50 l E σ q1.2 (gM q1.2 57 ((((40 : Int32) * x1) + x2).toNatClampNeg)) _ e_q3.symm) vi_X5_tell ml_X5_99 ⟨5, _, o50, rfl, rfl⟩ rfl ⟨rfl, rfl, Nat.le_of_ble_eq_true rfl, Nat.le_of_ble_eq_true rfl⟩ dX5_at_27 rfl (Nat.le_of_ble_eq_true rfl) ?_
    exact y_iret C (rs1 hf) rfl (rs2 hf) dX5_at_30
  · refine y_iload_n C dX5_at_11 rfl 0 rfl ?_
    refine y_goto C 30 dX5_at_12 (by decide) ?_
    exact y_iret C (rs1 hf) rfl (rs2 hf) dX5_at_30
noncomputable def fX3_drop_1 (x1 : Int32) (σ : QS) : Option (QS) :=
    (if (fX3_isPlace_1 x1 σ) = 0 then some σ else ck_ (inb x1 6) (lt_ (pM σ 10 (upd (gM σ 10) x1.toNatClampNeg (-1 : Int32))) (fun (S2 : QS) => some S2)))
def rm_X3_drop_1 : Room := { frames := 1, cells := 0, slots := 0, locals := 21 }
set_option maxRecDepth 100000 in
set_option maxHeartbeats 4000000 in
theorem kX3_drop_1 (l : Launch) (E : QE) (σ τ : QS) (x1 : Int32) (q : QS) (hf : fX3_drop_1 x1 σ = some q) : KQ l yX3_drop cX3_drop 2 none rm_X3_drop_1 E [.ref (qAd E 1), .int x1] σ τ (PV E q τ) := by
  unfold fX3_drop_1 at hf
  refine y_met rfl (Nat.le_of_ble_eq_true rfl) rfl (fun p e s m below meth c C => ?_)
  refine y_aload_n C dX3_drop_0 rfl 0 rfl ?_
  refine y_iload_n C dX3_drop_1 rfl 1 rfl ?_
  refine y_cVi C (kX3_isPlace_1 l E σ τ x1 _ rfl) vi_X3_isPlace ml_X3_28 ⟨3, _, o1, rfl, rfl⟩ rfl ⟨rfl, rfl, Nat.le_of_ble_eq_true rfl, Nat.le_of_ble_eq_true rfl⟩ dX3_drop_2 rfl (Nat.le_of_ble_eq_true rfl) ?_
  refine y_if_eq C 15 dX3_drop_5 (by decide) hf (fun hf => ?_) (fun hf => ?_)
  · exact y_vret C (Option.some.inj hf) rfl dX3_drop_15
  · refine y_aload_n C dX3_drop_8 rfl 0 rfl ?_
    refine g1_sizes C fl_X3_14 dX3_drop_9 ?_
    refine y_iload_n C dX3_drop_12 rfl 1 rfl ?_
    refine y_iconst C (v := -1) dX3_drop_13 (by decide) ?_
    obtain ⟨hi1, hf⟩ := ck_e hf
    obtain ⟨S2, e_S2, hf⟩ := lt_e hf
    refine y_iastC C a10 (j := x1.toNatClampNeg) rfl hi1 e_S2 dX3_drop_14 ?_
    exact y_vret C (Option.some.inj hf) rfl dX3_drop_15
noncomputable def fX4_tear_0 (x1 : Int32) (σ : QS) : Option (Int32 × QS) :=
    Option.bind (fX4_refusalOfPlace_0_1 x1 σ) (fun (q1 : Int32 × QS) => (if q1.1 = 0 then Option.bind (fX3_drop_1 x1 q1.2) (fun (q2 : QS) => some ((1 : Int32), q2)) else some (q1.1, q1.2)))
def rm_X4_tear_0 : Room := { frames := 4, cells := 0, slots := 0, locals := 85 }
set_option maxRecDepth 100000 in
set_option maxHeartbeats 4000000 in
theorem kX4_tear_0 (l : Launch) (E : QE) (σ τ : QS) (x1 : Int32) (q : Int32 × QS) (hf : fX4_tear_0 x1 σ = some q) : KQ l yX4_tear cX4_tear 3 (some .int) rm_X4_tear_0 E [.ref (qAd E 0), .int x1] σ τ (PI E q.1 q.2 τ) := by
  unfold fX4_tear_0 at hf
  refine y_met rfl (Nat.le_of_ble_eq_true rfl) rfl (fun p e s m below meth c C => ?_)
  refine y_aload_n C dX4_tear_0 rfl 0 rfl ?_
  refine y_aload_n C dX4_tear_1 rfl 0 rfl ?_
  refine g0_rowShelf C fl_X4_14 dX4_tear_2 ?_
  refine y_iload_n C dX4_tear_5 rfl 1 rfl ?_
  obtain ⟨q1, h_q1, hf⟩ := bd_e hf
  refine y_cVi C (kX4_refusalOfPlace_0_1 l E σ τ x1 _ h_q1) vi_X4_refusalOfPlace ml_X4_86 ⟨4, _, o0, rfl, rfl⟩ rfl ⟨rfl, rfl, Nat.le_of_ble_eq_true rfl, Nat.le_of_ble_eq_true rfl⟩ dX4_tear_6 rfl (Nat.le_of_ble_eq_true rfl) ?_
  refine y_istore_n C dX4_tear_9 rfl (Nat.le_of_ble_eq_true rfl) rfl (lv' := [(2, .int q1.1), (0, .ref (qAd E 0)), (1, .int x1)]) rfl ?_
  refine y_iload_n C dX4_tear_10 rfl 0 rfl ?_
  refine y_if_eq C 16 dX4_tear_11 (by decide) hf (fun hf => ?_) (fun hf => ?_)
  · refine y_aload_n C dX4_tear_16 rfl 1 rfl ?_
    refine g0_rowShelf C fl_X4_14 dX4_tear_17 ?_
    refine y_iload_n C dX4_tear_20 rfl 2 rfl ?_
    obtain ⟨q2, h_q2, hf⟩ := bd_e hf
    refine y_cVv C (kX3_drop_1 l E q1.2 τ x1 _ h_q2) vi_X3_drop ml_X4_90 ⟨3, _, o1, rfl, rfl⟩ rfl ⟨rfl, rfl, Nat.le_of_ble_eq_true rfl, Nat.le_of_ble_eq_true rfl⟩ dX4_tear_21 rfl (Nat.le_of_ble_eq_true rfl) ?_
    refine y_iconst C (v := 1) dX4_tear_24 (by decide) ?_
    exact y_iret C (rs1 hf) (rs2 hf) rfl dX4_tear_25
  · refine y_iload_n C dX4_tear_14 rfl 0 rfl ?_
    exact y_iret C (rs1 hf) (rs2 hf) rfl dX4_tear_15
