/-! ===== a deed done by the class; by the reference ===== -/
def Perf (σ σ' : QS) (n : Nat) (d : Int32) (ns : Nat) (v' : NV) : Prop := gI σ' 12 = nI (n + 1) ∧ gM σ' 26 = upd (gM σ 26) n d ∧ NightOk σ' ns v' ∧ (∀ k, (k < 12 ∨ 19 ≤ k) → gI σ' k = gI σ k) ∧ (∀ k, gJ σ' k = gJ σ k) ∧ ∀ k, k ≠ 25 → k ≠ 26 → gM σ' k = gM σ k
theorem gI_ne {σ : QS} {k : Nat} {v : Int32} {j : Nat} (h : j ≠ k) : gI (pI σ k v) j = gI σ j := if_neg h
theorem gI_same (σ : QS) (k : Nat) (v : Int32) : gI (pI σ k v) k = v := if_pos rfl
theorem HouseOk.keep {σ τ σ' : QS} {ns nc : Nat} (h : HouseOk σ τ ns nc) (hi : ∀ k, (k < 12 ∨ 19 ≤ k) → gI σ' k = gI σ k) (hm : ∀ k, k ≠ 25 → k ≠ 26 → gM σ' k = gM σ k) : HouseOk σ' τ ns nc := by
  unfold HouseOk
  rw [hi 9 (by omega), hi 8 (by omega), hi 11 (by omega), hm 20 (by omega) (by omega), hm 21 (by omega) (by omega), hm 23 (by omega) (by omega), hm 24 (by omega) (by omega)]
  exact h
theorem perform_ok {σ τ : QS} {ns nc pr n : Nat} {v : NV} {d : Int32} (hh : HouseOk σ τ ns nc) (hv : nvOk ns nc pr v) (hN : NightOk σ ns v) (hn : gI σ 12 = nI n) (hn4 : n < 40) (hd : okP (hOf τ ns) nc v d) : ∃ σ', fX0_perform_6 d σ = some σ' ∧ Perf σ σ' n d ns (doP (hOf τ ns) d v) := by
  have h1 := hh.1
  have h2 := hh.2.1
  have hlt : gI σ 12 < 40 := by rw [hn]; show nI n < nI 40; rw [nI_l2 (by omega) (by omega)]; exact hn4
  have hin : inb (gI σ 12) 40 = true := by rw [hn]; exact inb_n hn4 (by omega)
  have hcl : (gI σ 12).toNatClampNeg = n := by rw [hn, nI_c (by omega)]
  have hone : gI (pM σ 26 (upd (gM σ 26) n d)) 12 + 1 = nI (n + 1) := by show gI σ 12 + 1 = _; rw [hn, nI_1]
  obtain ⟨⟨s, s1, s2, s3, s4, k, k1, k2⟩, ⟨p, q, p1, p2, p3⟩, ⟨c, c1, c2⟩, hs⟩ := hv
  have es := sOf_e s2 (by omega)
  have hc64 := pow_le64 h1 c1
  have ec := cOf_e c2 (by omega)
  obtain ⟨n0, n1, n2, n3, n4, n5, n6⟩ := hN
  unfold fX0_perform_6
  rw [if_pos hlt, ck_t hin]
  simp only [lt_]
  rw [hcl, hone]
  rcases hd with ⟨rfl, hd⟩ | ⟨i, hi, rfl, hd, hcan⟩ | ⟨i, j, hi, hj, hij, rfl⟩
  · rw [if_pos (by decide), if_pos rfl, doP_cut]
    refine ⟨_, rfl, ?_, ?_, ⟨?_, n1, n2, n3, n4, n5, fun i' hi' => ?_⟩, fun k hk => ?_, fun k => rfl, fun k h1 h2 => ?_⟩
    · rfl
    · rfl
    · show gI σ 13 + 1 = v 0 + 1
      rw [n0]
    · unfold doCutP
      rw [if_neg (by omega)]
      exact n6 i' hi'
    · rw [gI_ne (by omega), gI_ne (by omega)]; rfl
    · exact gM_ne h2
  · have hi' : i < ns := hi
    rw [if_pos (show nI i < 10 from by show nI i < nI 10; rw [nI_l2 (by omega) (by omega)]; omega), if_neg (nI_neg9 (by omega)), doP_call _ (by omega)]
    rw [es] at hd
    have hh' : HouseOk (pI (pM σ 26 (upd (gM σ 26) n (nI i))) 12 (nI (n + 1))) τ ns nc := hh.keep (fun k hk => by rw [gI_ne (by omega)]; rfl) (fun k h1 h2 => gM_ne h2)
    unfold fX0_playScene_6
    have e13 : gI (pI (pM σ 26 (upd (gM σ 26) n (nI i))) 12 (nI (n + 1))) 13 = nI s := by show gI σ 13 = _; rw [n0, s2]
    have e14 : gI (pI (pM σ 26 (upd (gM σ 26) n (nI i))) 12 (nI (n + 1))) 14 = nI c := by show gI σ 14 = _; rw [n5, c2]
    have e17 : gI (pI (pM σ 26 (upd (gM σ 26) n (nI i))) 12 (nI (n + 1))) 17 = v 3 := by show gI σ 17 = _; rw [n3]
    rw [e13, e14, e17, lackC_e hh' hi' hd hc64, Option.bind_some]
    simp only [lt_]
    have el : lackP (hOf τ ns) i s (v 3) c = lackP (hOf τ ns) i (sOf v) (v 3) (cOf v) := by rw [es, ec]
    rw [el, shl_e (by omega)]
    generalize hl : lackP (hOf τ ns) i (sOf v) (v 3) (cOf v) = L
    have e15 : gI (pI (pM σ 26 (upd (gM σ 26) n (nI i))) 12 (nI (n + 1))) 15 = v 1 := by show gI σ 15 = _; rw [n1]
    rw [e15]
    have seats : ∀ i', i' < ns → gM σ 25 i' = doCallP (hOf τ ns) i v (6 + i') := fun i' hi' => by
      unfold doCallP
      rw [if_neg (by omega), if_neg (by omega), if_neg (by omega), if_neg (by omega), if_neg (by omega), if_neg (by omega)]
      exact n6 i' hi'
    have d0 : doCallP (hOf τ ns) i v 0 = v 0 + 1 := rfl
    have d1 : doCallP (hOf τ ns) i v 1 = (if v 1 < L then v 1 else v 1 - L) := by rw [← hl]; rfl
    have d2 : doCallP (hOf τ ns) i v 2 = (if v 1 < L then v 2 else v 2 + L) := by rw [← hl]; rfl
    have d3 : doCallP (hOf τ ns) i v 3 = (if v 1 < L then v 3 - 1 else if L = 0 then v 3 + 2 else v 3 + 1) := by rw [← hl]; rfl
    have d4 : doCallP (hOf τ ns) i v 4 = (if v 1 < L then v 4 else v 4 + 1) := by rw [← hl]; rfl
    have d5 : doCallP (hOf τ ns) i v 5 = v 5 ||| nI (2 ^ i) := rfl
    unfold Perf NightOk
    rw [d0, d1, d2, d3, d4, d5]
    by_cases e : v 1 < L
    · rw [if_pos e, if_pos e, if_pos e, if_pos e, if_pos e]
      refine ⟨_, rfl, rfl, rfl, ⟨?_, n1, n2, ?_, n4, ?_, fun i' hi' => ?_⟩, fun k hk => ?_, fun k => rfl, fun k h1 h2 => ?_⟩
      · show gI σ 13 + 1 = v 0 + 1
        rw [n0]
      · show v 3 - 1 = v 3 - 1
        rfl
      · show gI σ 14 ||| nI (2 ^ i) = v 5 ||| nI (2 ^ i)
        rw [n5]
      · exact seats i' hi'
      · rw [gI_ne (by omega), gI_ne (by omega), gI_ne (by omega), gI_ne (by omega)]; rfl
      · exact gM_ne h2
    · rw [if_neg e, if_neg e, if_neg e, if_neg e, if_neg e]
      by_cases z : L = 0
      · rw [if_pos z, if_pos z]
        refine ⟨_, rfl, rfl, rfl, ⟨?_, ?_, ?_, ?_, ?_, ?_, fun i' hi' => ?_⟩, fun k hk => ?_, fun k => rfl, fun k h1 h2 => ?_⟩
        · show gI σ 13 + 1 = v 0 + 1
          rw [n0]
        · rfl
        · show gI σ 16 + L = v 2 + L
          rw [n2]
        · show gI σ 17 + 2 = v 3 + 2
          rw [n3]
        · show gI σ 18 + 1 = v 4 + 1
          rw [n4]
        · show gI σ 14 ||| nI (2 ^ i) = v 5 ||| nI (2 ^ i)
          rw [n5]
        · exact seats i' hi'
        · rw [gI_ne (by omega), gI_ne (by omega), gI_ne (by omega), gI_ne (by omega), gI_ne (by omega), gI_ne (by omega), gI_ne (by omega)]; rfl
        · exact gM_ne h2
      · rw [if_neg z, if_neg z]
        refine ⟨_, rfl, rfl, rfl, ⟨?_, ?_, ?_, ?_, ?_, ?_, fun i' hi' => ?_⟩, fun k hk => ?_, fun k => rfl, fun k h1 h2 => ?_⟩
        · show gI σ 13 + 1 = v 0 + 1
          rw [n0]
        · rfl
        · show gI σ 16 + L = v 2 + L
          rw [n2]
        · show gI σ 17 + 1 = v 3 + 1
          rw [n3]
        · show gI σ 18 + 1 = v 4 + 1
          rw [n4]
        · show gI σ 14 ||| nI (2 ^ i) = v 5 ||| nI (2 ^ i)
          rw [n5]
        · exact seats i' hi'
        · rw [gI_ne (by omega), gI_ne (by omega), gI_ne (by omega), gI_ne (by omega), gI_ne (by omega), gI_ne (by omega), gI_ne (by omega)]; rfl
        · exact gM_ne h2
  · have hi' : i < ns := hi
    have hj' : j < ns := hj
    have e10 : nI (10 + 6 * i + j) - 10 = nI (6 * i + j) := by
      show nI (10 + 6 * i + j) - nI 10 = _
      rw [pk_sub (by omega)]
      congr 1
      omega
    have ediv : nI (6 * i + j) / 6 = nI i := by
      show nI (6 * i + j) / nI 6 = _
      rw [pk_div (by omega) (by omega) (by omega)]
      congr 1
      omega
    have erem : nI (6 * i + j) - nI i * 6 = nI j := by
      show nI (6 * i + j) - nI i * nI 6 = _
      rw [pk_mul, pk_sub (by omega)]
      congr 1
      omega
    rw [if_neg (show ¬ nI (10 + 6 * i + j) < 10 from by show ¬ nI _ < nI 10; rw [nI_l2 (by omega) (by omega)]; omega), e10, ediv, erem, doP_swap _ (by omega) (by omega)]
    have hh' : HouseOk (pI (pM σ 26 (upd (gM σ 26) n (nI (10 + 6 * i + j)))) 12 (nI (n + 1))) τ ns nc := hh.keep (fun k hk => by rw [gI_ne (by omega)]; rfl) (fun k h1 h2 => gM_ne h2)
    unfold fX0_exchange_6
    rw [sitC_e hh', sitC_e hh', inr_good hi' (by omega), inr_good hj' (by omega), if_neg one_ne, if_neg one_ne]
    simp only [lt_]
    rw [ck_t (inb_n (by omega) (by omega)), ck_t (inb_n (by omega) (by omega)), ck_t (inb_n (by omega) (by omega)), ck_t (inb_n (by omega) (by omega)), nI_c (by omega), nI_c (by omega)]
    have g : ∀ m, m < 6 → doSwapP i j v m = v m := fun m hm => by
      unfold doSwapP
      rw [if_neg (by omega), if_neg (by omega)]
    refine ⟨_, rfl, rfl, rfl, ⟨?_, ?_, ?_, ?_, ?_, ?_, fun i' hi' => ?_⟩, fun k hk => ?_, fun k => rfl, fun k h1 h2 => ?_⟩
    · rw [g 0 (by omega)]; exact n0
    · rw [g 1 (by omega)]; exact n1
    · rw [g 2 (by omega)]; exact n2
    · rw [g 3 (by omega)]; exact n3
    · rw [g 4 (by omega)]; exact n4
    · rw [g 5 (by omega)]; exact n5
    · show upd (upd (gM σ 25) i (gM σ 25 j)) j (gM σ 25 i) i' = doSwapP i j v (6 + i')
      unfold doSwapP
      by_cases e1 : i' = i
      · rw [if_pos (by omega), e1, upd_ne hij, upd_same, n6 j hj']
      · rw [if_neg (by omega)]
        by_cases e2 : i' = j
        · rw [if_pos (by omega), e2, upd_same, n6 i (by assumption)]
        · rw [if_neg (by omega), upd_ne e2, upd_ne e1, n6 i' (by assumption)]
    · show gI (pI (pM σ 26 _) 12 (nI (n + 1))) k = gI σ k
      rw [gI_ne (by omega)]; rfl
    · rw [gM_ne h1, gM_ne h1]; exact gM_ne h2
theorem idx13 (n k : Nat) : (13 : Int32) + (12 : Int32) * nI n + nI k = nI (13 + 12 * n + k) := by
  show nI 13 + nI 12 * nI n + nI k = _
  rw [pk_mul, nI_add, nI_add]
theorem idx1 (k : Nat) : (1 : Int32) + nI k = nI (1 + k) := by
  show nI 1 + nI k = _
  rw [nI_add]
def kpR (row : Nat → Int32) (n : Nat) : Nat → Int32 := fun q => if q = 0 then nI (n + 1) else if 13 + 12 * n ≤ q ∧ q < 25 + 12 * n then row (q - (12 + 12 * n)) else row q
theorem keepPast_e {τ : QS} {n : Nat} (hn : gM τ 51 0 = nI n) (h : n < 40) : fX5_keepPast_50 τ = some (pM τ 51 (kpR (gM τ 51) n)) := by
  unfold fX5_keepPast_50
  refine for_fu (fun k => (nI k, pM τ 51 (fun q => if 13 + 12 * n ≤ q ∧ q < 13 + 12 * n + k then gM τ 51 (q - (12 + 12 * n)) else gM τ 51 q))) 12 ?_ (by omega) ?_ ?_
  · have : (fun q => if 13 + 12 * n ≤ q ∧ q < 13 + 12 * n + 0 then gM τ 51 (q - (12 + 12 * n)) else gM τ 51 q) = gM τ 51 := by
      funext q
      rw [if_neg (by omega)]
    show _ = (nI 0, pM τ 51 (fun q => if 13 + 12 * n ≤ q ∧ q < 13 + 12 * n + 0 then gM τ 51 (q - (12 + 12 * n)) else gM τ 51 q))
    rw [this, pM_self]
    rfl
  · intro r k hk
    simp only [lt_]
    rw [gM_same, if_neg (show ¬ (12 : Int32) ≤ nI k from by show ¬ nI 12 ≤ nI k; rw [nI_L (by omega) (by omega)]; omega), if_neg (show ¬ (13 + 12 * n ≤ 0 ∧ 0 < 13 + 12 * n + k) by omega), hn, idx13, idx1, ck_t (inb_n (by omega) (by omega)), ck_t (inb_n (by omega) (by omega)), nI_c (by omega), nI_c (by omega), nI_1, pM_pM]
    have : upd (fun q => if 13 + 12 * n ≤ q ∧ q < 13 + 12 * n + k then gM τ 51 (q - (12 + 12 * n)) else gM τ 51 q) (13 + 12 * n + k) (if 13 + 12 * n ≤ 1 + k ∧ 1 + k < 13 + 12 * n + k then gM τ 51 (1 + k - (12 + 12 * n)) else gM τ 51 (1 + k)) = fun q => if 13 + 12 * n ≤ q ∧ q < 13 + 12 * n + (k + 1) then gM τ 51 (q - (12 + 12 * n)) else gM τ 51 q := by
      funext q
      by_cases e1 : q = 13 + 12 * n + k
      · rw [e1, upd_same, if_neg (by omega), if_pos (by omega)]
        congr 1
        omega
      · rw [upd_ne e1]
        by_cases e2 : 13 + 12 * n ≤ q ∧ q < 13 + 12 * n + k
        · rw [if_pos e2, if_pos (by omega)]
        · rw [if_neg e2, if_neg (by omega)]
    rw [this]
  · intro r
    simp only [lt_]
    rw [if_pos (show (12 : Int32) ≤ nI 12 from by show nI 12 ≤ nI 12; rw [nI_L (by omega) (by omega)]; omega), gM_same, pM_pM, if_neg (show ¬ (13 + 12 * n ≤ 0 ∧ 0 < 13 + 12 * n + 12) by omega), hn, nI_1]
    congr 2
    funext q
    unfold kpR
    by_cases e : q = 0
    · rw [e, upd_same, if_pos rfl]
    · rw [upd_ne e, if_neg e, show 25 + 12 * n = 13 + 12 * n + 12 by omega]
theorem doCut_e {τ : QS} {n : Nat} {v : NV} (hn : gM τ 51 0 = nI n) (h : n < 40) (hv : ∀ j, j < 12 → gM τ 51 (0 + 1 + j) = v j) : fX5_doCut_50 τ = some (pM τ 51 (rowN (gM τ 51) n (doCutP v))) := by
  unfold fX5_doCut_50
  rw [keepPast_e hn h, Option.bind_some]
  simp only [lt_]
  rw [gM_same, pM_pM]
  congr 2
  funext q
  unfold rowN doCutP
  have k1 : kpR (gM τ 51) n 1 = v 0 := by unfold kpR; rw [if_neg (by omega), if_neg (by omega)]; exact hv 0 (by omega)
  by_cases e1 : q = 1
  · rw [e1, upd_same, k1]; rfl
  · rw [upd_ne e1]
    unfold kpR
    by_cases e0 : q = 0
    · rw [if_pos e0, if_pos e0]
    · rw [if_neg e0, if_neg e0]
      by_cases e2 : q ≤ 12
      · rw [if_pos e2, if_neg (by omega), if_neg (by omega), ← hv (q - 1) (by omega)]
        congr 1
        omega
      · rw [if_neg e2]
theorem doCall_e {σ τ : QS} {ns nc pr n : Nat} {v : NV} (hh : HouseOk σ τ ns nc) (hvo : nvOk ns nc pr v) (hn : gM τ 51 0 = nI n) (h : n < 40) (hv : ∀ j, j < 12 → gM τ 51 (0 + 1 + j) = v j) {i : Nat} (hi : i < ns) (hs : sOf v < nc) : fX5_doCall_50 (nI i) τ = some (if v 1 < lackP (hOf τ ns) i (sOf v) (v 3) (cOf v) then 0 else 1, pM τ 51 (rowN (gM τ 51) n (doCallP (hOf τ ns) i v))) := by
  have h1 := hh.1
  have h2 := hh.2.1
  obtain ⟨⟨s, s1, s2, s3, s4, k, k1, k2⟩, ⟨p, q, p1, p2, p3⟩, ⟨c, c1, c2⟩, hs'⟩ := hvo
  have es := sOf_e s2 (by omega)
  have hc64 := pow_le64 h1 c1
  have ec := cOf_e c2 (by omega)
  have K : ∀ j, j < 12 → kpR (gM τ 51) n (j + 1) = v j := fun j hj => by
    unfold kpR
    rw [if_neg (by omega), if_neg (by omega), ← hv j hj]
    congr 1
    omega
  unfold fX5_doCall_50
  rw [keepPast_e hn h, Option.bind_some, gM_same, K 0 (by omega), K 3 (by omega), K 5 (by omega), s2, c2]
  have hh' : HouseOk σ (pM τ 51 (kpR (gM τ 51) n)) ns nc := hh
  rw [lackR_e hh' (by omega) (by omega) hc64, Option.bind_some]
  have el : lackP (hOf (pM τ 51 (kpR (gM τ 51) n)) ns) i s (v 3) c = lackP (hOf τ ns) i (sOf v) (v 3) (cOf v) := by rw [es, ec]; rfl
  rw [el]
  rw [K 1 (by omega), shl_e (by omega)]
  generalize hl : lackP (hOf τ ns) i (sOf v) (v 3) (cOf v) = L
  have D : ∀ m, 6 ≤ m → doCallP (hOf τ ns) i v m = v m := fun m hm => by
    unfold doCallP
    rw [if_neg (by omega), if_neg (by omega), if_neg (by omega), if_neg (by omega), if_neg (by omega), if_neg (by omega)]
  have d1 : doCallP (hOf τ ns) i v 1 = (if v 1 < L then v 1 else v 1 - L) := by rw [← hl]; rfl
  have d2 : doCallP (hOf τ ns) i v 2 = (if v 1 < L then v 2 else v 2 + L) := by rw [← hl]; rfl
  have d3 : doCallP (hOf τ ns) i v 3 = (if v 1 < L then v 3 - 1 else if L = 0 then v 3 + 2 else v 3 + 1) := by rw [← hl]; rfl
  have d4 : doCallP (hOf τ ns) i v 4 = (if v 1 < L then v 4 else v 4 + 1) := by rw [← hl]; rfl
  have key : ∀ (x2 x3 x4 x5 : Int32), v 1 - x2 = doCallP (hOf τ ns) i v 1 → v 2 + x3 = doCallP (hOf τ ns) i v 2 → v 3 + x4 = doCallP (hOf τ ns) i v 3 → v 4 + x5 = doCallP (hOf τ ns) i v 4 → ∀ (f : Nat → Int32), (∀ q, f q = if q = 1 then kpR (gM τ 51) n 1 + 1 else if q = 6 then kpR (gM τ 51) n 6 ||| nI (2 ^ i) else if q = 5 then kpR (gM τ 51) n 5 + x5 else if q = 4 then kpR (gM τ 51) n 4 + x4 else if q = 3 then kpR (gM τ 51) n 3 + x3 else if q = 2 then v 1 - x2 else kpR (gM τ 51) n q) → f = rowN (gM τ 51) n (doCallP (hOf τ ns) i v) := by
    intro x2 x3 x4 x5 y2 y3 y4 y5 f hf
    funext q
    rw [hf q, K 0 (by omega), K 5 (by omega), K 4 (by omega), K 3 (by omega), K 2 (by omega)]
    unfold rowN
    by_cases e1 : q = 1
    · rw [if_pos e1, e1]; rfl
    · rw [if_neg e1]
      by_cases e6 : q = 6
      · rw [if_pos e6, e6]; rfl
      · rw [if_neg e6]
        by_cases e5 : q = 5
        · rw [if_pos e5, e5, y5]; rfl
        · rw [if_neg e5]
          by_cases e4 : q = 4
          · rw [if_pos e4, e4, y4]; rfl
          · rw [if_neg e4]
            by_cases e3 : q = 3
            · rw [if_pos e3, e3, y3]; rfl
            · rw [if_neg e3]
              by_cases e2 : q = 2
              · rw [if_pos e2, e2, y2]; rfl
              · rw [if_neg e2]
                by_cases e0 : q = 0
                · unfold kpR; rw [if_pos e0, if_pos e0]
                · rw [if_neg e0]
                  by_cases e12 : q ≤ 12
                  · rw [if_pos e12, D (q - 1) (by omega), ← K (q - 1) (by omega)]
                    congr 1
                    omega
                  · rw [if_neg e12]; unfold kpR; rw [if_neg e0]
  have R23 : ∀ (g : Nat → Int32) (x : Int32), upd g 2 x 3 = g 3 := fun _ _ => rfl
  have R34 : ∀ (g : Nat → Int32) (x : Int32), upd g 3 x 4 = g 4 := fun _ _ => rfl
  have R24 : ∀ (g : Nat → Int32) (x : Int32), upd g 2 x 4 = g 4 := fun _ _ => rfl
  have R45 : ∀ (g : Nat → Int32) (x : Int32), upd g 4 x 5 = g 5 := fun _ _ => rfl
  have R35 : ∀ (g : Nat → Int32) (x : Int32), upd g 3 x 5 = g 5 := fun _ _ => rfl
  have R25 : ∀ (g : Nat → Int32) (x : Int32), upd g 2 x 5 = g 5 := fun _ _ => rfl
  have R56 : ∀ (g : Nat → Int32) (x : Int32), upd g 5 x 6 = g 6 := fun _ _ => rfl
  have R46 : ∀ (g : Nat → Int32) (x : Int32), upd g 4 x 6 = g 6 := fun _ _ => rfl
  have R36 : ∀ (g : Nat → Int32) (x : Int32), upd g 3 x 6 = g 6 := fun _ _ => rfl
  have R26 : ∀ (g : Nat → Int32) (x : Int32), upd g 2 x 6 = g 6 := fun _ _ => rfl
  have R61 : ∀ (g : Nat → Int32) (x : Int32), upd g 6 x 1 = g 1 := fun _ _ => rfl
  have R51 : ∀ (g : Nat → Int32) (x : Int32), upd g 5 x 1 = g 1 := fun _ _ => rfl
  have R41 : ∀ (g : Nat → Int32) (x : Int32), upd g 4 x 1 = g 1 := fun _ _ => rfl
  have R31 : ∀ (g : Nat → Int32) (x : Int32), upd g 3 x 1 = g 1 := fun _ _ => rfl
  have R21 : ∀ (g : Nat → Int32) (x : Int32), upd g 2 x 1 = g 1 := fun _ _ => rfl
  by_cases e : v 1 < L
  · simp only [lt_, eq_true e, ↓reduceIte, gM_same, pM_pM, R23, R34, R24, R45, R35, R25, R56, R46, R36, R26, R61, R51, R41, R31, R21]
    refine congrArg (fun f => some ((0 : Int32), pM τ 51 f)) (key 0 0 (-1) 0 (by rw [d1, if_pos e, Int32.sub_zero]) (by rw [d2, if_pos e, Int32.add_zero]) (by rw [d3, if_pos e]; exact (Int32.sub_eq_add_neg _ _).symm) (by rw [d4, if_pos e, Int32.add_zero]) _ (fun q => rfl))
  · by_cases z : L = 0
    · simp only [lt_, eq_false e, eq_true z, one_ne, ↓reduceIte, gM_same, pM_pM, R23, R34, R24, R45, R35, R25, R56, R46, R36, R26, R61, R51, R41, R31, R21]
      refine congrArg (fun f => some ((1 : Int32), pM τ 51 f)) (key L L 2 1 (by rw [d1, if_neg e]) (by rw [d2, if_neg e]) (by rw [d3, if_neg e, if_pos z]) (by rw [d4, if_neg e]) _ (fun q => rfl))
    · simp only [lt_, eq_false e, eq_false z, one_ne, ↓reduceIte, gM_same, pM_pM, R23, R34, R24, R45, R35, R25, R56, R46, R36, R26, R61, R51, R41, R31, R21]
      refine congrArg (fun f => some ((1 : Int32), pM τ 51 f)) (key L L 1 1 (by rw [d1, if_neg e]) (by rw [d2, if_neg e]) (by rw [d3, if_neg e, if_neg z]) (by rw [d4, if_neg e]) _ (fun q => rfl))
