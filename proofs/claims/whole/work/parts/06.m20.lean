noncomputable def fX5_digest_50  (τ : QS) : Option (Int64) :=
    lp_ (fun (r2 : Int64 × Int32 → Option (Int64)) (a1 : Int64 × Int32) => (if (11 : Int32) ≤ a1.2 then lt_ (((31 : Int64) * a1.1) + (fX5_applause_50 τ).toInt64) (fun (v3 : Int64) => lp_ (fun (r5 : Int64 × Int32 → Option (Int64)) (a4 : Int64 × Int32) => (if (gI τ 0) ≤ a4.2 then lp_ (fun (r7 : Int64 × Int32 → Option (Int64)) (a6 : Int64 × Int32) => (if ((8 : Int32) * (gI τ 1)) ≤ a6.2 then lp_ (fun (r9 : Int64 × Int32 → Option (Int64)) (a8 : Int64 × Int32) => (if (4 : Int32) ≤ a8.2 then lp_ (fun (r11 : Int64 × Int32 → Option (Int64)) (a10 : Int64 × Int32) => (if (6 : Int32) ≤ a10.2 then lp_ (fun (r13 : Int64 × Int32 → Option (Int64)) (a12 : Int64 × Int32) => (if (4 : Int32) ≤ a12.2 then some a12.1 else ck_ (inb a12.2 4) (lt_ (((31 : Int64) * a12.1) + (gM τ 58 a12.2.toNatClampNeg).toInt64) (fun (v15 : Int64) => lp_ (fun (r17 : Int64 × Int32 → Option (Int64)) (a16 : Int64 × Int32) => ck_ (inb a12.2 4) ((if (gM τ 58 a12.2.toNatClampNeg) ≤ a16.2 then r13 (a16.1, (a12.2 + (1 : Int32))) else ck_ (inb (((60 : Int32) * a12.2) + a16.2) 240) (lt_ (((31 : Int64) * a16.1) + (gM τ 59 ((((60 : Int32) * a12.2) + a16.2).toNatClampNeg)).toInt64) (fun (v20 : Int64) => r17 (v20, (a16.2 + (1 : Int32)))))))) FV (v15, (0 : Int32)))))) FV (a10.1, (0 : Int32)) else ck_ (inb a10.2 6) (lt_ (((31 : Int64) * a10.1) + (gM τ 56 a10.2.toNatClampNeg).toInt64) (fun (v22 : Int64) => lp_ (fun (r24 : Int64 × Int32 → Option (Int64)) (a23 : Int64 × Int32) => ck_ (inb a10.2 6) ((if (gM τ 56 a10.2.toNatClampNeg) ≤ a23.2 then r11 (a23.1, (a10.2 + (1 : Int32))) else ck_ (inb (((40 : Int32) * a10.2) + a23.2) 240) (lt_ (((31 : Int64) * a23.1) + (gM τ 57 ((((40 : Int32) * a10.2) + a23.2).toNatClampNeg)).toInt64) (fun (v27 : Int64) => r24 (v27, (a23.2 + (1 : Int32)))))))) FV (v22, (0 : Int32)))))) FV (a8.1, (0 : Int32)) else ck_ (inb (((493 : Int32) * a8.2) + (0 : Int32)) 1972) (lt_ (((31 : Int64) * a8.1) + (gM τ 51 ((((493 : Int32) * a8.2) + (0 : Int32)).toNatClampNeg)).toInt64) (fun (v29 : Int64) => r9 (v29, (a8.2 + (1 : Int32))))))) FV (a6.1, (1 : Int32)) else Option.bind (fX5_toldOf_50 (a6.2 / (8 : Int32)) (a6.2 - a6.2 / (8 : Int32) * (8 : Int32)) τ) (fun (q30 : Int32) => lt_ (((31 : Int64) * a6.1) + q30.toInt64) (fun (v31 : Int64) => r7 (v31, (a6.2 + (1 : Int32))))))) FV (a4.1, (0 : Int32)) else ck_ (inb a4.2 6) (lt_ (((31 : Int64) * a4.1) + (gM τ 52 a4.2.toNatClampNeg).toInt64) (fun (v33 : Int64) => r5 (v33, (a4.2 + (1 : Int32))))))) FV (v3, (0 : Int32))) else Option.bind (fX5_countOf_50 a1.2 τ) (fun (q34 : Int32) => lt_ (((31 : Int64) * a1.1) + q34.toInt64) (fun (v35 : Int64) => r2 (v35, (a1.2 + (1 : Int32))))))) FV ((17 : Int64), (0 : Int32))
def rm_X5_digest_50 : Room := { frames := 6, cells := 0, slots := 0, locals := 134 }
set_option maxRecDepth 100000 in
set_option maxHeartbeats 4000000 in
theorem kX5_digest_50 (l : Launch) (E : QE) (σ τ : QS)  (q : Int64) (hf : fX5_digest_50 τ = some q) : KQ l yX5_digest cX5_digest 5 (some .long) rm_X5_digest_50 E [.ref (qAd E 50)] σ τ (PL E q σ τ) := by
  unfold fX5_digest_50 at hf
  refine y_met rfl (Nat.le_of_ble_eq_true rfl) rfl (fun p e s m below meth c C => ?_)
  refine y_ldc2 C kl_X5_333 dX5_digest_0 ?_
  refine y_lstore_n C dX5_digest_3 rfl (Nat.le_of_ble_eq_true rfl) rfl (lv' := [(1, .long (17 : Int64)), (0, .ref (qAd E 50))]) rfl ?_
  refine y_iconst C (v := 0) dX5_digest_4 (by decide) ?_
  refine y_istore_n C dX5_digest_5 rfl (Nat.le_of_ble_eq_true rfl) rfl (lv' := [(3, .int (0 : Int32)), (1, .long (17 : Int64)), (0, .ref (qAd E 50))]) rfl ?_
  refine y_sub [0, 1, 2] rfl ?_
  refine lp_ind (P := fun a1 : Int64 × Int32 => Y E p l e rm_X5_digest_50 s m ([.ref (qAd E 50)] : List Value).toArray below meth c 5 (MQ below (PL E q σ τ) ([.ref (qAd E 50)] : List Value).toArray s 0 0 (qA E)) σ τ 6 [(3, .int a1.2), (1, .long a1.1), (0, .ref (qAd E 50))] []) (fun r2 a1 ih_r2 hf => ?_) _ _ hf
  refine y_iload_n C dX5_digest_6 rfl 0 rfl ?_
  refine y_bipush C (v := 11) dX5_digest_7 (by decide) ?_
  refine y_icmp_ge C 31 dX5_digest_9 (by decide) hf (fun hf => ?_) (fun hf => ?_)
  · refine y_ldc2 C kl_X5_335 dX5_digest_31 ?_
    refine y_lload_n C dX5_digest_34 rfl 1 rfl ?_
    refine y_lmul C dX5_digest_35 ?_
    refine y_aload_n C dX5_digest_36 rfl 2 rfl ?_
    refine y_cVi C (kX5_applause_50 l E σ τ _ rfl) vi_X5_applause ml_X5_337 ⟨5, _, o50, rfl, rfl⟩ rfl ⟨rfl, rfl, Nat.le_of_ble_eq_true rfl, Nat.le_of_ble_eq_true rfl⟩ dX5_digest_37 rfl (Nat.le_of_ble_eq_true rfl) ?_
    refine y_i2l C dX5_digest_40 ?_
    refine y_ladd C dX5_digest_41 ?_
    obtain ⟨v3, e_v3, hf⟩ := lt_e hf
    refine y_lstore_n C dX5_digest_42 rfl (Nat.le_of_ble_eq_true rfl) e_v3 (lv' := [(1, .long v3), (3, .int a1.2), (0, .ref (qAd E 50))]) rfl ?_
    refine y_iconst C (v := 0) dX5_digest_43 (by decide) ?_
    refine y_istore_n C dX5_digest_44 rfl (Nat.le_of_ble_eq_true rfl) rfl (lv' := [(3, .int (0 : Int32)), (1, .long v3), (0, .ref (qAd E 50))]) rfl ?_
    refine y_sub [0, 1, 2] rfl ?_
    refine lp_ind (P := fun a4 : Int64 × Int32 => Y E p l e rm_X5_digest_50 s m ([.ref (qAd E 50)] : List Value).toArray below meth c 5 (MQ below (PL E q σ τ) ([.ref (qAd E 50)] : List Value).toArray s 0 0 (qA E)) σ τ 45 [(3, .int a4.2), (1, .long a4.1), (0, .ref (qAd E 50))] []) (fun r5 a4 ih_r5 hf => ?_) _ _ hf
    refine y_iload_n C dX5_digest_45 rfl 0 rfl ?_
    refine y_aload_n C dX5_digest_46 rfl 2 rfl ?_
    refine g50_scenes C fl_X5_160 dX5_digest_47 ?_
    refine y_icmp_ge C 73 dX5_digest_50 (by decide) hf (fun hf => ?_) (fun hf => ?_)
    · refine y_iconst C (v := 0) dX5_digest_73 (by decide) ?_
      refine y_istore_n C dX5_digest_74 rfl (Nat.le_of_ble_eq_true rfl) rfl (lv' := [(3, .int (0 : Int32)), (1, .long a4.1), (0, .ref (qAd E 50))]) rfl ?_
      refine y_sub [0, 1, 2] rfl ?_
      refine lp_ind (P := fun a6 : Int64 × Int32 => Y E p l e rm_X5_digest_50 s m ([.ref (qAd E 50)] : List Value).toArray below meth c 5 (MQ below (PL E q σ τ) ([.ref (qAd E 50)] : List Value).toArray s 0 0 (qA E)) σ τ 75 [(3, .int a6.2), (1, .long a6.1), (0, .ref (qAd E 50))] []) (fun r7 a6 ih_r7 hf => ?_) _ _ hf
      refine y_iload_n C dX5_digest_75 rfl 0 rfl ?_
      refine y_bipush C (v := 8) dX5_digest_76 (by decide) ?_
      refine y_aload_n C dX5_digest_78 rfl 2 rfl ?_
      refine g50_sitters C fl_X5_163 dX5_digest_79 ?_
      refine y_imul C dX5_digest_82 ?_
      refine y_icmp_ge C 112 dX5_digest_83 (by decide) hf (fun hf => ?_) (fun hf => ?_)
      · refine y_iconst C (v := 1) dX5_digest_112 (by decide) ?_
        refine y_istore_n C dX5_digest_113 rfl (Nat.le_of_ble_eq_true rfl) rfl (lv' := [(3, .int (1 : Int32)), (1, .long a6.1), (0, .ref (qAd E 50))]) rfl ?_
        refine y_sub [0, 1, 2] rfl ?_
        refine lp_ind (P := fun a8 : Int64 × Int32 => Y E p l e rm_X5_digest_50 s m ([.ref (qAd E 50)] : List Value).toArray below meth c 5 (MQ below (PL E q σ τ) ([.ref (qAd E 50)] : List Value).toArray s 0 0 (qA E)) σ τ 114 [(3, .int a8.2), (1, .long a8.1), (0, .ref (qAd E 50))] []) (fun r9 a8 ih_r9 hf => ?_) _ _ hf
        refine y_iload_n C dX5_digest_114 rfl 0 rfl ?_
        refine y_iconst C (v := 4) dX5_digest_115 (by decide) ?_
        refine y_icmp_ge C 145 dX5_digest_116 (by decide) hf (fun hf => ?_) (fun hf => ?_)
        · refine y_iconst C (v := 0) dX5_digest_145 (by decide) ?_
          refine y_istore_n C dX5_digest_146 rfl (Nat.le_of_ble_eq_true rfl) rfl (lv' := [(3, .int (0 : Int32)), (1, .long a8.1), (0, .ref (qAd E 50))]) rfl ?_
          refine y_sub [0, 1, 2] rfl ?_
          refine lp_ind (P := fun a10 : Int64 × Int32 => Y E p l e rm_X5_digest_50 s m ([.ref (qAd E 50)] : List Value).toArray below meth c 5 (MQ below (PL E q σ τ) ([.ref (qAd E 50)] : List Value).toArray s 0 0 (qA E)) σ τ 147 [(3, .int a10.2), (1, .long a10.1), (0, .ref (qAd E 50))] []) (fun r11 a10 ih_r11 hf => ?_) _ _ hf
          refine y_iload_n C dX5_digest_147 rfl 0 rfl ?_
          refine y_bipush C (v := 6) dX5_digest_148 (by decide) ?_
          refine y_icmp_ge C 213 dX5_digest_150 (by decide) hf (fun hf => ?_) (fun hf => ?_)
          · refine y_iconst C (v := 0) dX5_digest_213 (by decide) ?_
            refine y_istore_n C dX5_digest_214 rfl (Nat.le_of_ble_eq_true rfl) rfl (lv' := [(3, .int (0 : Int32)), (1, .long a10.1), (0, .ref (qAd E 50))]) rfl ?_
            refine y_sub [0, 1, 2] rfl ?_
            refine lp_ind (P := fun a12 : Int64 × Int32 => Y E p l e rm_X5_digest_50 s m ([.ref (qAd E 50)] : List Value).toArray below meth c 5 (MQ below (PL E q σ τ) ([.ref (qAd E 50)] : List Value).toArray s 0 0 (qA E)) σ τ 215 [(3, .int a12.2), (1, .long a12.1), (0, .ref (qAd E 50))] []) (fun r13 a12 ih_r13 hf => ?_) _ _ hf
            refine y_iload_n C dX5_digest_215 rfl 0 rfl ?_
            refine y_iconst C (v := 4) dX5_digest_216 (by decide) ?_
            refine y_icmp_ge C 280 dX5_digest_217 (by decide) hf (fun hf => ?_) (fun hf => ?_)
            · refine y_lload_n C dX5_digest_280 rfl 1 rfl ?_
              exact y_lret C (Option.some.inj hf) rfl rfl dX5_digest_281
            · refine y_ldc2 C kl_X5_335 dX5_digest_220 ?_
              refine y_lload_n C dX5_digest_223 rfl 1 rfl ?_
              refine y_lmul C dX5_digest_224 ?_
              refine y_aload_n C dX5_digest_225 rfl 2 rfl ?_
              refine g50_lengths C fl_X5_31 dX5_digest_226 ?_
              refine y_iload_n C dX5_digest_229 rfl 0 rfl ?_
              obtain ⟨hi14, hf⟩ := ck_e hf
              refine y_ialdR C a58 (j := a12.2.toNatClampNeg) rfl hi14 dX5_digest_230 ?_
              refine y_i2l C dX5_digest_231 ?_
              refine y_ladd C dX5_digest_232 ?_
              obtain ⟨v15, e_v15, hf⟩ := lt_e hf
              refine y_lstore_n C dX5_digest_233 rfl (Nat.le_of_ble_eq_true rfl) e_v15 (lv' := [(1, .long v15), (3, .int a12.2), (0, .ref (qAd E 50))]) rfl ?_
              refine y_iconst C (v := 0) dX5_digest_234 (by decide) ?_
              refine y_istore C dX5_digest_235 (Nat.le_of_ble_eq_true rfl) rfl (lv' := [(4, .int (0 : Int32)), (1, .long v15), (3, .int a12.2), (0, .ref (qAd E 50))]) rfl ?_
              refine y_sub [0, 1, 2, 3] rfl ?_
              refine lp_ind (P := fun a16 : Int64 × Int32 => Y E p l e rm_X5_digest_50 s m ([.ref (qAd E 50)] : List Value).toArray below meth c 5 (MQ below (PL E q σ τ) ([.ref (qAd E 50)] : List Value).toArray s 0 0 (qA E)) σ τ 237 [(4, .int a16.2), (1, .long a16.1), (3, .int a12.2), (0, .ref (qAd E 50))] []) (fun r17 a16 ih_r17 hf => ?_) _ _ hf
              refine y_iload C dX5_digest_237 0 rfl ?_
              refine y_aload_n C dX5_digest_239 rfl 3 rfl ?_
              refine g50_lengths C fl_X5_31 dX5_digest_240 ?_
              refine y_iload_n C dX5_digest_243 rfl 2 rfl ?_
              obtain ⟨hi18, hf⟩ := ck_e hf
              refine y_ialdR C a58 (j := a12.2.toNatClampNeg) rfl hi18 dX5_digest_244 ?_
              refine y_icmp_ge C 274 dX5_digest_245 (by decide) hf (fun hf => ?_) (fun hf => ?_)
              · refine y_iinc C dX5_digest_274 2 rfl (Nat.le_of_ble_eq_true rfl) (k2 := 1) (by decide) rfl (lv' := [(3, .int (a12.2 + (1 : Int32))), (4, .int a16.2), (1, .long a16.1), (0, .ref (qAd E 50))]) rfl ?_
                refine y_goto C 215 dX5_digest_277 (by decide) ?_
                refine y_sub [0, 2, 3] rfl ?_
                exact ih_r13 (a16.1, (a12.2 + (1 : Int32))) hf
              · refine y_ldc2 C kl_X5_335 dX5_digest_248 ?_
                refine y_lload_n C dX5_digest_251 rfl 1 rfl ?_
                refine y_lmul C dX5_digest_252 ?_
                refine y_aload_n C dX5_digest_253 rfl 3 rfl ?_
                refine g50_bytes C fl_X5_34 dX5_digest_254 ?_
                refine y_bipush C (v := 60) dX5_digest_257 (by decide) ?_
                refine y_iload_n C dX5_digest_259 rfl 2 rfl ?_
                refine y_imul C dX5_digest_260 ?_
                refine y_iload C dX5_digest_261 0 rfl ?_
                refine y_iadd C dX5_digest_263 ?_
                obtain ⟨hi19, hf⟩ := ck_e hf
                refine y_ialdR C a59 (j := (((60 : Int32) * a12.2) + a16.2).toNatClampNeg) rfl hi19 dX5_digest_264 ?_
                refine y_i2l C dX5_digest_265 ?_
                refine y_ladd C dX5_digest_266 ?_
                obtain ⟨v20, e_v20, hf⟩ := lt_e hf
                refine y_lstore_n C dX5_digest_267 rfl (Nat.le_of_ble_eq_true rfl) e_v20 (lv' := [(1, .long v20), (4, .int a16.2), (3, .int a12.2), (0, .ref (qAd E 50))]) rfl ?_
                refine y_iinc C dX5_digest_268 1 rfl (Nat.le_of_ble_eq_true rfl) (k2 := 1) (by decide) rfl (lv' := [(4, .int (a16.2 + (1 : Int32))), (1, .long v20), (3, .int a12.2), (0, .ref (qAd E 50))]) rfl ?_
                refine y_goto C 237 dX5_digest_271 (by decide) ?_
                refine y_sub [0, 1, 2, 3] rfl ?_
                exact ih_r17 (v20, (a16.2 + (1 : Int32))) hf
          · refine y_ldc2 C kl_X5_335 dX5_digest_153 ?_
            refine y_lload_n C dX5_digest_156 rfl 1 rfl ?_
            refine y_lmul C dX5_digest_157 ?_
            refine y_aload_n C dX5_digest_158 rfl 2 rfl ?_
            refine g50_sizes C fl_X5_25 dX5_digest_159 ?_
            refine y_iload_n C dX5_digest_162 rfl 0 rfl ?_
            obtain ⟨hi21, hf⟩ := ck_e hf
            refine y_ialdR C a56 (j := a10.2.toNatClampNeg) rfl hi21 dX5_digest_163 ?_
            refine y_i2l C dX5_digest_164 ?_
            refine y_ladd C dX5_digest_165 ?_
            obtain ⟨v22, e_v22, hf⟩ := lt_e hf
            refine y_lstore_n C dX5_digest_166 rfl (Nat.le_of_ble_eq_true rfl) e_v22 (lv' := [(1, .long v22), (3, .int a10.2), (0, .ref (qAd E 50))]) rfl ?_
            refine y_iconst C (v := 0) dX5_digest_167 (by decide) ?_
            refine y_istore C dX5_digest_168 (Nat.le_of_ble_eq_true rfl) rfl (lv' := [(4, .int (0 : Int32)), (1, .long v22), (3, .int a10.2), (0, .ref (qAd E 50))]) rfl ?_
            refine y_sub [0, 1, 2, 3] rfl ?_
            refine lp_ind (P := fun a23 : Int64 × Int32 => Y E p l e rm_X5_digest_50 s m ([.ref (qAd E 50)] : List Value).toArray below meth c 5 (MQ below (PL E q σ τ) ([.ref (qAd E 50)] : List Value).toArray s 0 0 (qA E)) σ τ 170 [(4, .int a23.2), (1, .long a23.1), (3, .int a10.2), (0, .ref (qAd E 50))] []) (fun r24 a23 ih_r24 hf => ?_) _ _ hf
            refine y_iload C dX5_digest_170 0 rfl ?_
            refine y_aload_n C dX5_digest_172 rfl 3 rfl ?_
            refine g50_sizes C fl_X5_25 dX5_digest_173 ?_
            refine y_iload_n C dX5_digest_176 rfl 2 rfl ?_
            obtain ⟨hi25, hf⟩ := ck_e hf
            refine y_ialdR C a56 (j := a10.2.toNatClampNeg) rfl hi25 dX5_digest_177 ?_
            refine y_icmp_ge C 207 dX5_digest_178 (by decide) hf (fun hf => ?_) (fun hf => ?_)
            · refine y_iinc C dX5_digest_207 2 rfl (Nat.le_of_ble_eq_true rfl) (k2 := 1) (by decide) rfl (lv' := [(3, .int (a10.2 + (1 : Int32))), (4, .int a23.2), (1, .long a23.1), (0, .ref (qAd E 50))]) rfl ?_
              refine y_goto C 147 dX5_digest_210 (by decide) ?_
              refine y_sub [0, 2, 3] rfl ?_
              exact ih_r11 (a23.1, (a10.2 + (1 : Int32))) hf
            · refine y_ldc2 C kl_X5_335 dX5_digest_181 ?_
              refine y_lload_n C dX5_digest_184 rfl 1 rfl ?_
              refine y_lmul C dX5_digest_185 ?_
              refine y_aload_n C dX5_digest_186 rfl 3 rfl ?_
              refine g50_items C fl_X5_28 dX5_digest_187 ?_
              refine y_bipush C (v := 40) dX5_digest_190 (by decide) ?_
              refine y_iload_n C dX5_digest_192 rfl 2 rfl ?_
              refine y_imul C dX5_digest_193 ?_
              refine y_iload C dX5_digest_194 0 rfl ?_
              refine y_iadd C dX5_digest_196 ?_
              obtain ⟨hi26, hf⟩ := ck_e hf
              refine y_ialdR C a57 (j := (((40 : Int32) * a10.2) + a23.2).toNatClampNeg) rfl hi26 dX5_digest_197 ?_
              refine y_i2l C dX5_digest_198 ?_
              refine y_ladd C dX5_digest_199 ?_
              obtain ⟨v27, e_v27, hf⟩ := lt_e hf
              refine y_lstore_n C dX5_digest_200 rfl (Nat.le_of_ble_eq_true rfl) e_v27 (lv' := [(1, .long v27), (4, .int a23.2), (3, .int a10.2), (0, .ref (qAd E 50))]) rfl ?_
              refine y_iinc C dX5_digest_201 1 rfl (Nat.le_of_ble_eq_true rfl) (k2 := 1) (by decide) rfl (lv' := [(4, .int (a23.2 + (1 : Int32))), (1, .long v27), (3, .int a10.2), (0, .ref (qAd E 50))]) rfl ?_
              refine y_goto C 170 dX5_digest_204 (by decide) ?_
              refine y_sub [0, 1, 2, 3] rfl ?_
              exact ih_r24 (v27, (a23.2 + (1 : Int32))) hf
        · refine y_ldc2 C kl_X5_335 dX5_digest_119 ?_
          refine y_lload_n C dX5_digest_122 rfl 1 rfl ?_
          refine y_lmul C dX5_digest_123 ?_
          refine y_aload_n C dX5_digest_124 rfl 2 rfl ?_
          refine g50_row C fl_X5_7 dX5_digest_125 ?_
          refine y_sipush C (v := 493) dX5_digest_128 (by decide) ?_
          refine y_iload_n C dX5_digest_131 rfl 0 rfl ?_
          refine y_imul C dX5_digest_132 ?_
          refine y_iconst C (v := 0) dX5_digest_133 (by decide) ?_
          refine y_iadd C dX5_digest_134 ?_
          obtain ⟨hi28, hf⟩ := ck_e hf
          refine y_ialdR C a51 (j := (((493 : Int32) * a8.2) + (0 : Int32)).toNatClampNeg) rfl hi28 dX5_digest_135 ?_
          refine y_i2l C dX5_digest_136 ?_
          refine y_ladd C dX5_digest_137 ?_
          obtain ⟨v29, e_v29, hf⟩ := lt_e hf
          refine y_lstore_n C dX5_digest_138 rfl (Nat.le_of_ble_eq_true rfl) e_v29 (lv' := [(1, .long v29), (3, .int a8.2), (0, .ref (qAd E 50))]) rfl ?_
          refine y_iinc C dX5_digest_139 1 rfl (Nat.le_of_ble_eq_true rfl) (k2 := 1) (by decide) rfl (lv' := [(3, .int (a8.2 + (1 : Int32))), (1, .long v29), (0, .ref (qAd E 50))]) rfl ?_
          refine y_goto C 114 dX5_digest_142 (by decide) ?_
          refine y_sub [0, 1, 2] rfl ?_
          exact ih_r9 (v29, (a8.2 + (1 : Int32))) hf
      · refine y_ldc2 C kl_X5_335 dX5_digest_86 ?_
        refine y_lload_n C dX5_digest_89 rfl 1 rfl ?_
        refine y_lmul C dX5_digest_90 ?_
        refine y_aload_n C dX5_digest_91 rfl 2 rfl ?_
        refine y_iload_n C dX5_digest_92 rfl 0 rfl ?_
        refine y_bipush C (v := 8) dX5_digest_93 (by decide) ?_
        refine y_idiv C (by decide) dX5_digest_95 ?_
        refine y_iload_n C dX5_digest_96 rfl 0 rfl ?_
        refine y_bipush C (v := 8) dX5_digest_97 (by decide) ?_
        refine y_irem C (by decide) dX5_digest_99 ?_
        obtain ⟨q30, h_q30, hf⟩ := bd_e hf
        refine y_cVi C (kX5_toldOf_50 l E σ τ (a6.2 / (8 : Int32)) (a6.2 - a6.2 / (8 : Int32) * (8 : Int32)) _ h_q30) vi_X5_toldOf ml_X5_203 ⟨5, _, o50, rfl, rfl⟩ rfl ⟨rfl, rfl, Nat.le_of_ble_eq_true rfl, Nat.le_of_ble_eq_true rfl⟩ dX5_digest_100 rfl (Nat.le_of_ble_eq_true rfl) ?_
        refine y_i2l C dX5_digest_103 ?_
        refine y_ladd C dX5_digest_104 ?_
        obtain ⟨v31, e_v31, hf⟩ := lt_e hf
        refine y_lstore_n C dX5_digest_105 rfl (Nat.le_of_ble_eq_true rfl) e_v31 (lv' := [(1, .long v31), (3, .int a6.2), (0, .ref (qAd E 50))]) rfl ?_
        refine y_iinc C dX5_digest_106 1 rfl (Nat.le_of_ble_eq_true rfl) (k2 := 1) (by decide) rfl (lv' := [(3, .int (a6.2 + (1 : Int32))), (1, .long v31), (0, .ref (qAd E 50))]) rfl ?_
        refine y_goto C 75 dX5_digest_109 (by decide) ?_
        refine y_sub [0, 1, 2] rfl ?_
        exact ih_r7 (v31, (a6.2 + (1 : Int32))) hf
    · refine y_ldc2 C kl_X5_335 dX5_digest_53 ?_
      refine y_lload_n C dX5_digest_56 rfl 1 rfl ?_
      refine y_lmul C dX5_digest_57 ?_
      refine y_aload_n C dX5_digest_58 rfl 2 rfl ?_
      refine g50_lines C fl_X5_13 dX5_digest_59 ?_
      refine y_iload_n C dX5_digest_62 rfl 0 rfl ?_
      obtain ⟨hi32, hf⟩ := ck_e hf
      refine y_ialdR C a52 (j := a4.2.toNatClampNeg) rfl hi32 dX5_digest_63 ?_
      refine y_i2l C dX5_digest_64 ?_
      refine y_ladd C dX5_digest_65 ?_
      obtain ⟨v33, e_v33, hf⟩ := lt_e hf
      refine y_lstore_n C dX5_digest_66 rfl (Nat.le_of_ble_eq_true rfl) e_v33 (lv' := [(1, .long v33), (3, .int a4.2), (0, .ref (qAd E 50))]) rfl ?_
      refine y_iinc C dX5_digest_67 1 rfl (Nat.le_of_ble_eq_true rfl) (k2 := 1) (by decide) rfl (lv' := [(3, .int (a4.2 + (1 : Int32))), (1, .long v33), (0, .ref (qAd E 50))]) rfl ?_
      refine y_goto C 45 dX5_digest_70 (by decide) ?_
      refine y_sub [0, 1, 2] rfl ?_
      exact ih_r5 (v33, (a4.2 + (1 : Int32))) hf
  · refine y_ldc2 C kl_X5_335 dX5_digest_12 ?_
    refine y_lload_n C dX5_digest_15 rfl 1 rfl ?_
    refine y_lmul C dX5_digest_16 ?_
    refine y_aload_n C dX5_digest_17 rfl 2 rfl ?_
    refine y_iload_n C dX5_digest_18 rfl 0 rfl ?_
    obtain ⟨q34, h_q34, hf⟩ := bd_e hf
    refine y_cVi C (kX5_countOf_50 l E σ τ a1.2 _ h_q34) vi_X5_countOf ml_X5_330 ⟨5, _, o50, rfl, rfl⟩ rfl ⟨rfl, rfl, Nat.le_of_ble_eq_true rfl, Nat.le_of_ble_eq_true rfl⟩ dX5_digest_19 rfl (Nat.le_of_ble_eq_true rfl) ?_
    refine y_i2l C dX5_digest_22 ?_
    refine y_ladd C dX5_digest_23 ?_
    obtain ⟨v35, e_v35, hf⟩ := lt_e hf
    refine y_lstore_n C dX5_digest_24 rfl (Nat.le_of_ble_eq_true rfl) e_v35 (lv' := [(1, .long v35), (3, .int a1.2), (0, .ref (qAd E 50))]) rfl ?_
    refine y_iinc C dX5_digest_25 1 rfl (Nat.le_of_ble_eq_true rfl) (k2 := 1) (by decide) rfl (lv' := [(3, .int (a1.2 + (1 : Int32))), (1, .long v35), (0, .ref (qAd E 50))]) rfl ?_
    refine y_goto C 6 dX5_digest_28 (by decide) ?_
    refine y_sub [0, 1, 2] rfl ?_
    exact ih_r2 (v35, (a1.2 + (1 : Int32))) hf
