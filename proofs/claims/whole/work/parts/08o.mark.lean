/-! ===== mark, whom ===== -/
theorem mark_core {σ τ : QS} (h : Inv σ τ) {ns nc : Nat} (hh : HouseOk σ τ ns nc) {i : Nat} (hi : i < ns) {k : Nat} (h1 : 1 ≤ k) (h5 : k ≤ 5) (hk : ¬ fX4_isOfKind (gM τ 53 i) (nI k) = 0) : ∃ r, fX0_markOf_6 (nI i) (nI k) σ = some r ∧ (if nI k = (1 : Int32) then Option.bind (fX5_easyScenes_50 (nI i) τ) (fun (q2 : Int32) => some (q2, τ)) else (if nI k = (2 : Int32) then Option.bind (fX5_evenOthers_50 (nI i) τ) (fun (q3 : Int32) => some (q3, τ)) else (if nI k = (3 : Int32) then ck_ (inb (nI i) 6) (Option.bind (fX5_toldOf_50 (nI i) (4 : Int32) τ) (fun (q5 : Int32) => some (((fX5_atLeast ((gM τ 55 (nI i).toNatClampNeg) - (gM τ 51 4))) - q5), τ))) else (if nI k = (4 : Int32) then ck_ (inb ((7 : Int32) + nI i) 1972) (some ((fX5_atLeast ((7 : Int32) - (gM τ 51 (((7 : Int32) + nI i).toNatClampNeg)))), τ)) else (Option.bind (fX5_claques_50 (nI i) (gM τ 51 6) τ) (fun (q7 : Int32) => some (q7, τ))))))) = some (r, τ) := by
  obtain ⟨ns', nc', pr, n, v, h2, hh', hn, h12, hv, hvo, hpr, hN, r0, rv⟩ := h.see
  have hns := hh.1
  have hnc := hh.2.1
  have hns' := hh'.1
  have hnc' := hh'.2.1
  have en : ns' = ns := by have a := hh.2.2.2.1; rw [hh'.2.2.2.1, nI_e (by omega) (by omega)] at a; exact a
  have ec : nc' = nc := by have a := hh.2.2.2.2.2.1; rw [hh'.2.2.2.2.2.1, nI_e (by omega) (by omega)] at a; exact a
  subst en ec
  obtain ⟨⟨s, s1, s2, s3, s4, k9, k91, k92⟩, -, ⟨c, c1, c2⟩, -⟩ := hvo
  have hc6 := pow_le64 hns c1
  have e13 : gI σ 13 = nI s := by rw [hN.1, s2]
  have e1 : gM τ 51 1 = nI s := by rw [← s2, ← rv 0 (by omega)]
  have e14 : gI σ 14 = nI c := by rw [hN.2.2.2.2.2.1, c2]
  have e6 : gM τ 51 6 = nI c := by rw [← c2, ← rv 5 (by omega)]
  have e17 : gI σ 17 = gM τ 51 4 := by rw [hN.2.2.2.1, ← rv 3 (by omega)]
  have es : ∀ i, i < ns' → gM τ 51 (7 + i) = gM σ 25 i := fun i hi => by
    rw [hN.2.2.2.2.2.2 i hi, ← rv (6 + i) (by omega)]
    congr 1
    omega
  obtain ⟨k1, k2, k3, -, ⟨m, m1, m2⟩, -⟩ := hh.2.2.2.2.2.2.2.2.1 i hi
  unfold fX0_markOf_6
  rw [sitC_e hh, inr_good hi (by omega), if_neg one_ne]
  have cases5 : k = 1 ∨ k = 2 ∨ k = 3 ∨ k = 4 ∨ k = 5 := by omega
  rcases cases5 with rfl | rfl | rfl | rfl | rfl
  · rw [if_pos (show nI 1 = (1 : Int32) from rfl), if_pos (show nI 1 = (1 : Int32) from rfl), swp_e hh hi s1 hc6 e13 e14, easy_e hh hi s1 hc6 e1 e6]
    refine ⟨_, rfl, ?_⟩
    rw [Option.bind_some]
    congr 3
    refine cntF_cong _ (fun j hj => ?_)
    obtain ⟨l1, lv, lv1, lv2, lv3⟩ := hh.2.2.2.2.2.2.2.1 (s + j) (by omega)
    have el : hL (hOf τ ns') (s + j) = nI lv := by show gM τ 52 (s + j) = _; rw [← l1]; exact lv3
    obtain ⟨S, S1, S2⟩ := says_n (h := hOf τ ns') (i := i) (a := gM τ 51 4) (c := c) hh.1 m1 (by show gM τ 54 i = _; rw [← k2]; exact m2)
    have q := lacks0 (h := hOf τ ns') (i := i) (s := s + j) (a := gM τ 51 4) (c := c) (by rw [el, nI_toInt (by omega)]; omega) (by rw [el, nI_toInt (by omega)]; omega) (by rw [S2, nI_toInt (by omega)]; omega)
    rw [e17]
    by_cases z : sayP (hOf τ ns') i (gM τ 51 4) c < gM τ 52 (s + j)
    · have : ¬ lackP (hOf τ ns') i (s + j) (gM τ 51 4) c = 0 := fun w => (q.mp w) z
      simp [z, this]
    · have : lackP (hOf τ ns') i (s + j) (gM τ 51 4) c = 0 := q.mpr z
      simp [z, this]
  · rw [if_neg (show ¬ nI 2 = (1 : Int32) by decide), if_pos (show nI 2 = (2 : Int32) from rfl), if_neg (show ¬ nI 2 = (1 : Int32) by decide), if_pos (show nI 2 = (2 : Int32) from rfl), evenC_e hh hi, evenR_e hh hi]
    refine ⟨_, rfl, ?_⟩
    rw [Option.bind_some]
    congr 3
    refine cntF_cong _ (fun j hj => ?_)
    rw [es (0 + j) (by omega)]
  · rw [if_neg (show ¬ nI 3 = (1 : Int32) by decide), if_neg (show ¬ nI 3 = (2 : Int32) by decide), if_pos (show nI 3 = (3 : Int32) from rfl), if_neg (show ¬ nI 3 = (1 : Int32) by decide), if_neg (show ¬ nI 3 = (2 : Int32) by decide), if_pos (show nI 3 = (3 : Int32) from rfl), ck_t (inb_n (by omega) (by omega)), ck_t (inb_n (by omega) (by omega)), ck_t (inb_n (by omega) (by omega)), nI_c (by omega)]
    unfold fX5_toldOf_50
    rw [if_neg (show ¬ (4 : Int32) = 0 by decide), if_neg (show ¬ (4 : Int32) = 1 by decide), if_neg (show ¬ (4 : Int32) = 2 by decide), if_neg (show ¬ (4 : Int32) = 3 by decide), if_pos rfl, ck_t (inb_n (by omega) (by omega)), ck_t (inb_n (by omega) (by omega)), nI_c (by omega), Option.bind_some]
    refine ⟨_, rfl, ?_⟩
    rw [fears_e, fears_e, k3, e17]
    have hu : ¬ fX5_isUncle (gM τ 53 i) = 0 := by rw [← uncle_e]; exact hk
    unfold fX5_fearsBy
    simp only [lt_]
    rw [if_neg hu, if_pos (show fX5_isUncle 0 = 0 by decide), if_neg (show ¬ fX5_isUncle 3 = 0 by decide)]
  · rw [if_neg (show ¬ nI 4 = (1 : Int32) by decide), if_neg (show ¬ nI 4 = (2 : Int32) by decide), if_neg (show ¬ nI 4 = (3 : Int32) by decide), if_pos (show nI 4 = (4 : Int32) from rfl), if_neg (show ¬ nI 4 = (1 : Int32) by decide), if_neg (show ¬ nI 4 = (2 : Int32) by decide), if_neg (show ¬ nI 4 = (3 : Int32) by decide), if_pos (show nI 4 = (4 : Int32) from rfl), ck_t (inb_n (by omega) (by omega)), idx7, ck_t (inb_n (by omega) (by omega)), nI_c (by omega), nI_c (by omega)]
    exact ⟨_, rfl, by rw [max0_e, es i hi]⟩
  · rw [if_neg (show ¬ nI 5 = (1 : Int32) by decide), if_neg (show ¬ nI 5 = (2 : Int32) by decide), if_neg (show ¬ nI 5 = (3 : Int32) by decide), if_neg (show ¬ nI 5 = (4 : Int32) by decide), if_neg (show ¬ nI 5 = (1 : Int32) by decide), if_neg (show ¬ nI 5 = (2 : Int32) by decide), if_neg (show ¬ nI 5 = (3 : Int32) by decide), if_neg (show ¬ nI 5 = (4 : Int32) by decide), e14, e6, clqC_e hh (by omega) hc6, clqR_e hh (by omega) hc6]
    exact ⟨_, rfl, rfl⟩
theorem mark_same {σ τ : QS} (h : Inv σ τ) (x k : Int32) : Same (fX4_mark_0 x k σ) (fX5_mark_50 x k τ) := by
  obtain ⟨ns, nc, pr, n, v, h2, hh, -⟩ := h.see
  have hns := hh.1
  unfold fX4_mark_0 fX5_mark_50
  have e : fX5_in k.toInt64 (1 : Int64) (5 : Int64) = if k < 1 then 0 else if 5 < k then 0 else 1 := in_int k 1 5
  rw [sitC_e hh, sitR_e hh, e]
  rcases pk_ix x (n := ns) (by omega) with hx | hx | ⟨i, hi, rfl⟩
  · rw [inr_bad (Or.inl hx), if_pos rfl, if_pos rfl]
    exact Same.mk rfl rfl h
  · rw [inr_bad (Or.inr hx), if_pos rfl, if_pos rfl]
    exact Same.mk rfl rfl h
  · rw [inr_good hi (by omega), if_neg one_ne, if_neg one_ne]
    have h0 : (0 : Int32).toInt = 0 := by decide
    have h1 : (1 : Int32).toInt = 1 := by decide
    have h5 : (5 : Int32).toInt = 5 := by decide
    have h6 : (6 : Int32).toInt = 6 := by decide
    by_cases c0 : k ≤ 0
    · rw [if_pos c0, if_pos (show k < 1 from by rw [fa_lt]; rw [fa_le] at c0; omega), if_pos rfl]
      exact Same.mk rfl rfl h
    · rw [if_neg c0, if_neg (show ¬ k < 1 from by rw [fa_lt]; rw [fa_le] at c0; omega)]
      by_cases c1 : k < 6
      · obtain ⟨m, hm, rfl⟩ := in_b (n := 6) (by omega) (show ¬ k < 0 from by rw [fa_lt]; rw [fa_le] at c0; omega) c1
        have hm1 : 1 ≤ m := by
          rcases Nat.eq_zero_or_pos m with z | z
          · subst z; exact absurd (by decide) c0
          · exact z
        rw [if_pos c1, if_neg (show ¬ (5 : Int32) < nI m from by show ¬ nI 5 < nI m; rw [nI_l2 (by omega) (by omega)]; omega), if_neg one_ne, ck_t (inb_n (by omega) (by omega)), nI_c (by omega), isOf_e (by omega) hm1 (by omega), Option.bind_some, (hh.2.2.2.2.2.2.2.2.1 i hi).1]
        by_cases z : fX4_isOfKind (gM τ 53 i) (nI m) = 0
        · rw [if_pos z, if_pos z]
          exact Same.ref h (f := 3) rfl (by omega) (by omega) rfl rfl
        · rw [if_neg z, if_neg z]
          obtain ⟨r, q1, q2⟩ := mark_core h hh hi hm1 (by omega) z
          rw [nI_c (show i < 1000000 by omega)] at q2
          rw [q1, Option.bind_some]
          exact Same.mk rfl q2 h
      · rw [if_neg c1, if_pos (show (5 : Int32) < k from by rw [fa_lt]; rw [fa_lt] at c1; omega), if_pos rfl]
        exact Same.mk rfl rfl h
/-- who it can be, if x is lacking; and the set of what would be lacking -/
def whS (can : Nat → Bool) (l : Nat → Nat) (x : Int32) : Nat → Nat × Nat
  | 0 => (0, 0)
  | k + 1 => if can k then ((whS can l x k).1 ||| (if nI (l k) = x then 2 ^ k else 0), (whS can l x k).2 ||| 2 ^ l k) else whS can l x k
theorem whS_lt {can : Nat → Bool} {l : Nat → Nat} {x : Int32} (h : ∀ k, l k ≤ 9) : ∀ k, (whS can l x k).2 < 1024
  | 0 => by show 0 < 1024; decide
  | k + 1 => by
    have ih := whS_lt (can := can) (x := x) h k
    show (if can k then ((whS can l x k).1 ||| _, (whS can l x k).2 ||| 2 ^ l k) else whS can l x k).2 < 1024
    split
    · exact Nat.or_lt_two_pow (n := 10) ih (Nat.pow_lt_pow_right (by omega) (by have := h k; omega))
    · exact ih
theorem whom_same {σ τ : QS} (h : Inv σ τ) (x : Int32) : Same (fX4_whom_0 x σ) (fX5_whom_50 x τ) := by
  obtain ⟨ns, nc, pr, n, v, h2, hh, hn, h12, hv, hvo, hpr, hN, r0, rv⟩ := h.see
  have hns := hh.1
  have hnc := hh.2.1
  obtain ⟨⟨s, s1, s2, s3, s4, k9, k91, k92⟩, -, ⟨c, c1, c2⟩, -⟩ := hvo
  have hc6 := pow_le64 hns c1
  have e13 : gI σ 13 = nI s := by rw [hN.1, s2]
  have e1 : gM τ 51 1 = nI s := by rw [← s2, ← rv 0 (by omega)]
  have e14 : gI σ 14 = nI c := by rw [hN.2.2.2.2.2.1, c2]
  have e6 : gM τ 51 6 = nI c := by rw [← c2, ← rv 5 (by omega)]
  have e17 : gI σ 17 = v 3 := hN.2.2.2.1
  have e4r : gM τ 51 4 = v 3 := by rw [← rv 3 (by omega)]
  have es : ∀ i, i < ns → gM τ 51 (7 + i) = gM σ 25 i := fun i hi => by
    rw [hN.2.2.2.2.2.2 i hi, ← rv (6 + i) (by omega)]
    congr 1
    omega
  unfold fX4_whom_0 fX5_whom_50
  have e : fX5_in x.toInt64 (0 : Int64) (9 : Int64) = if x < 0 then 0 else if 9 < x then 0 else 1 := in_int x 0 9
  rw [e, over_c hh e13 s1, over_r hh e1 s1]
  by_cases c0 : x < 0
  · rw [if_pos c0, if_pos c0, if_pos rfl]
    exact Same.mk rfl rfl h
  · rw [if_neg c0, if_neg c0]
    by_cases c9 : x ≤ 9
    · rw [if_pos c9, if_neg (show ¬ (9 : Int32) < x from by rw [fa_lt]; rw [fa_le] at c9; omega), if_neg one_ne]
      by_cases eo : s = nc
      · rw [if_pos ((nI0_e (by omega)).mpr (by omega)), if_pos eo, if_neg one_ne]
        exact Same.mk rfl rfl h
      · rw [if_neg (by rw [nI0_e (by omega)]; omega), if_neg eo, if_pos rfl, freeC_e hh e14, Option.bind_some]
        let l : Nat → Nat := fun i => if i < ns then (lackP (hOf τ ns) i s (v 3) c).toNatClampNeg else 0
        have hl : ∀ i, i < ns → lackP (hOf τ ns) i s (v 3) c = nI (l i) ∧ l i ≤ 9 := fun i hi => by
          obtain ⟨L, L1, L2⟩ := lack_le hh (i := i) (s := s) (c := c) (a := v 3) hi (by omega)
          have : l i = L := by
            show (if i < ns then _ else _) = L
            rw [if_pos hi, L2, nI_c (by omega)]
          rw [this]
          exact ⟨L2, L1⟩
        have hl9 : ∀ i, l i ≤ 9 := fun i => by
          by_cases q : i < ns
          · exact (hl i q).2
          · show (if i < ns then _ else 0) ≤ 9
            rw [if_neg q]; omega
        let cn : Nat → Bool := fun i => canP (hOf τ ns) v i
        let U : Nat → Nat × Nat := whS cn l x
        have hU : ∀ k, U (k + 1) = if cn k then ((U k).1 ||| (if nI (l k) = x then 2 ^ k else 0), (U k).2 ||| 2 ^ l k) else U k := fun k => rfl
        have hb : ∀ k, (U k).2 < 1024 := whS_lt hl9
        have hfr := fr_lt (kd := gM τ 53) (st := gM σ 25) (c := c) hns
        have Lc : lp_ (fun (r3 : Int32 × Int32 × Int32 → Option (Int32 × QS)) (a2 : Int32 × Int32 × Int32) => (if (gI σ 9) ≤ a2.2.2 then lt_ (fX4_tell_0 (fJ6_bitCount_0f7a4 a2.2.1) σ) (fun (q4 : Int32 × QS) => some (a2.1, q4.2)) else (if (fX4_isIn (nI (frS (gM τ 53) (gM σ 25) c ns)) a2.2.2) = 0 then r3 (a2.1, a2.2.1, (a2.2.2 + (1 : Int32))) else Option.bind (fX0_lackingNow_6 a2.2.2 σ) (fun (q5 : Int32) => lt_ (a2.2.1 ||| ((1 : Int32) <<< (q5 &&& 31))) (fun (v6 : Int32) => (if q5 = x then lt_ (a2.1 ||| ((1 : Int32) <<< (a2.2.2 &&& 31))) (fun (v8 : Int32) => r3 (v8, v6, (a2.2.2 + (1 : Int32)))) else lt_ (a2.1 ||| (0 : Int32)) (fun (v7 : Int32) => r3 (v7, v6, (a2.2.2 + (1 : Int32)))))))))) FV ((0 : Int32), (0 : Int32), (0 : Int32)) = some (nI (U ns).1, pI σ 1 (nI (pop (U ns).2 10))) := by
          refine for_fu (fun k => (nI (U k).1, nI (U k).2, nI k)) ns rfl (by omega) ?_ ?_
          · intro r k hk
            simp only [lt_]
            rw [hh.2.2.2.1, if_neg (by rw [nI_L (by omega) (by omega)]; omega), isIn_e (by omega) (by omega), can_bit hN c2 hc6 hk, nI_1 k, hU k]
            unfold fX0_lackingNow_6
            rw [e13, e14, e17, lackC_e hh hk (by omega) hc6, Option.bind_some, Option.bind_some, (hl k hk).1, shl_e (show l k < 31 by have := hl9 k; omega), shl_e (show k < 31 by omega), fa_or, fa_or]
            rw [show canP (hOf τ ns) v k = cn k from rfl]
            cases cn k
            · rw [if0, if_pos rfl]; rfl
            · rw [if1, if_neg one_ne]
              by_cases z : nI (l k) = x
              · simp only [z, if_true]
              · simp only [z, if_false, if_true]
                have : nI (U k).1 ||| (0 : Int32) = nI ((U k).1 ||| 0) := by show _ ||| nI 0 = _; rw [fa_or]
                rw [this]
          · intro r
            simp only [lt_]
            rw [hh.2.2.2.1, if_pos (by rw [nI_L (by omega) (by omega)]; omega), bitCount_e (by have := hb ns; omega), pop_ge (n := 10) (by have := hb ns; omega) 11 (by omega)]
            rfl
        have Lr : lp_ (fun (r2 : Int32 × Int32 × Int32 → Option (Int32 × QS)) (a1 : Int32 × Int32 × Int32) => (if (gI τ 1) ≤ a1.2.2 then Option.bind (fX5_bits a1.2.1) (fun (q3 : Int32) => lt_ (pI τ 2 q3) (fun (S4 : QS) => some (a1.1, S4))) else Option.bind (fX5_mayCall_50 a1.2.2 (gM τ 51 6) τ) (fun (q5 : Int32) => (if q5 = 0 then r2 (a1.1, a1.2.1, (a1.2.2 + (1 : Int32))) else Option.bind (fX5_lacking_50 a1.2.2 (gM τ 51 1) (gM τ 51 4) (gM τ 51 6) τ) (fun (q6 : Int32) => (if q6 = x then lt_ (a1.1 ||| ((1 : Int32) <<< (a1.2.2 &&& 31))) (fun (v9 : Int32) => lt_ (a1.2.1 ||| ((1 : Int32) <<< (q6 &&& 31))) (fun (v10 : Int32) => r2 (v9, v10, (a1.2.2 + (1 : Int32))))) else lt_ (a1.1 ||| (0 : Int32)) (fun (v7 : Int32) => lt_ (a1.2.1 ||| ((1 : Int32) <<< (q6 &&& 31))) (fun (v8 : Int32) => r2 (v7, v8, (a1.2.2 + (1 : Int32))))))))))) FV ((0 : Int32), (0 : Int32), (0 : Int32)) = some (nI (U ns).1, pI τ 2 (nI (pop (U ns).2 10))) := by
          refine for_fu (fun k => (nI (U k).1, nI (U k).2, nI k)) ns rfl (by omega) ?_ ?_
          · intro r k hk
            simp only [lt_]
            have ecan : (!(c.testBit k) && sitP (gM τ 53 k) (gM τ 51 (7 + k))) = cn k := by
              show _ = canP (hOf τ ns) v k
              unfold canP
              rw [cOf_e c2 (by omega), es k hk, hN.2.2.2.2.2.2 k hk]
            rw [hh.2.2.2.2.1, if_neg (by rw [nI_L (by omega) (by omega)]; omega), e6, may_e (by omega) hc6, ecan, Option.bind_some, nI_1 k, hU k, e1, e4r, lackR_e hh (by omega) (by omega) hc6, Option.bind_some, (hl k hk).1, shl_e (show l k < 31 by have := hl9 k; omega), shl_e (show k < 31 by omega), fa_or, fa_or]
            cases cn k
            · rw [if0, if_pos rfl]; rfl
            · rw [if1, if_neg one_ne]
              by_cases z : nI (l k) = x
              · simp only [z, if_true]
              · simp only [z, if_false, if_true]
                have : nI (U k).1 ||| (0 : Int32) = nI ((U k).1 ||| 0) := by show _ ||| nI 0 = _; rw [fa_or]
                rw [this]
          · intro r
            simp only [lt_]
            rw [hh.2.2.2.2.1, if_pos (by rw [nI_L (by omega) (by omega)]; omega), bitsR_e (by have := hb ns; omega), Option.bind_some]
        rw [Lc, Lr]
        exact Same.mk rfl rfl (told_ok h _)
    · rw [if_neg c9, if_pos (show (9 : Int32) < x from by rw [fa_lt]; rw [fa_le] at c9; omega), if_pos rfl]
      exact Same.mk rfl rfl h
