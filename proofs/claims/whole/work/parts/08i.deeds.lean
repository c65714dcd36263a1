/-! ===== deeds: what they do to a night, on both sides ===== -/
theorem lack_n (h : HH) (i s : Nat) (a : Int32) (c : Nat) : ∃ L, L < 2 ^ 31 ∧ lackP h i s a c = nI L := by
  refine nI_of ?_
  unfold lackP fX5_atLeast
  split
  · rename_i q; rw [fa_lt]; rw [fa_le] at q; omega
  · decide
theorem repP_cong {h : HH} {v0 : NV} {D D' : Nat → Int32} : ∀ n, (∀ k, k < n → D k = D' k) → repP h v0 D n = repP h v0 D' n
  | 0, _ => rfl
  | n + 1, q => by
    show doP h (D n) (repP h v0 D n) = doP h (D' n) (repP h v0 D' n)
    rw [repP_cong n (fun k hk => q k (by omega)), q n (by omega)]
theorem repP_upd {h : HH} {v0 : NV} {D : Nat → Int32} {n : Nat} {d : Int32} {k : Nat} (hk : k ≤ n) : repP h v0 (upd D n d) k = repP h v0 D k :=
  repP_cong k (fun j hj => upd_ne (by omega))
theorem nI_neg9 {k : Nat} (h : k < 1000000) : ¬ nI k = -9 := by
  intro e
  have := nneg h
  rw [e] at this
  exact this (by decide)
theorem doP_cut (h : HH) (v : NV) : doP h (-9) v = doCutP v := by
  unfold doP
  rw [if_pos rfl]
theorem doP_call (h : HH) {i : Nat} (hi : i < 6) (v : NV) : doP h (nI i) v = doCallP h i v := by
  unfold doP
  rw [if_neg (nI_neg9 (by omega)), if_pos (show nI i < 10 from by show nI i < nI 10; rw [nI_l2 (by omega) (by omega)]; omega), nI_c (by omega)]
theorem doP_swap (h : HH) {i j : Nat} (hi : i < 6) (hj : j < 6) (v : NV) : doP h (nI (10 + 6 * i + j)) v = doSwapP i j v := by
  unfold doP
  rw [if_neg (nI_neg9 (by omega)), if_neg (show ¬ nI (10 + 6 * i + j) < 10 from by show ¬ nI _ < nI 10; rw [nI_l2 (by omega) (by omega)]; omega), nI_c (by omega), show (10 + 6 * i + j - 10) / 6 = i by omega, show (10 + 6 * i + j - 10) % 6 = j by omega]
theorem sOf_e {v : NV} {s : Nat} (h : v 0 = nI s) (hs : s < 1000000) : sOf v = s := by unfold sOf; rw [h, nI_c hs]
theorem cOf_e {v : NV} {c : Nat} (h : v 5 = nI c) (hc : c < 1000000) : cOf v = c := by unfold cOf; rw [h, nI_c hc]
theorem nv_do {h : HH} {nc pr : Nat} (hn : hN h ≤ 6) (hc : nc ≤ 6) {v : NV} {d : Int32} (hv : nvOk (hN h) nc pr v) (hd : okP h nc v d) : nvOk (hN h) nc pr (doP h d v) := by
  obtain ⟨⟨s, s1, s2, s3, s4, k, k1, k2⟩, ⟨p, q, p1, p2, p3⟩, ⟨c, c1, c2⟩, hs⟩ := hv
  have es := sOf_e s2 (by omega)
  rcases hd with ⟨rfl, hd⟩ | ⟨i, hi, rfl, hd, hcan⟩ | ⟨i, j, hi, hj, hij, rfl⟩
  · rw [doP_cut]
    rw [es] at hd
    refine ⟨⟨s + 1, by omega, ?_, ?_, ?_, k, by omega, ?_⟩, ⟨p, q, p1, ?_, ?_⟩, ⟨c, c1, ?_⟩, fun i hi => ?_⟩
    · show v 0 + 1 = _
      rw [s2, nI_1]
    · show _ ≤ (v 3).toInt; omega
    · show (v 3).toInt ≤ _; omega
    · exact k2
    · exact p2
    · exact p3
    · exact c2
    · obtain ⟨t, t1, t2⟩ := hs i hi
      refine ⟨t, t1, ?_⟩
      show (if 6 + i = 0 then _ else v (6 + i)) = _
      rw [if_neg (by omega)]
      exact t2
  · rw [doP_call h (by omega)]
    rw [es] at hd
    obtain ⟨L, l1, l2⟩ := lack_n h i (sOf v) (v 3) (cOf v)
    have b3 := fb_rng (v 3)
    have one : (1 : Int32).toInt = 1 := by decide
    have two : (2 : Int32).toInt = 2 := by decide
    refine ⟨⟨s + 1, by omega, ?_, ?_, ?_, ?_⟩, ?_, ⟨c ||| 2 ^ i, ?_, ?_⟩, fun i' hi' => ?_⟩
    · show v 0 + 1 = _
      rw [s2, nI_1]
    · show _ ≤ (if v 1 < lackP h i (sOf v) (v 3) (cOf v) then v 3 - 1 else if lackP h i (sOf v) (v 3) (cOf v) = 0 then v 3 + 2 else v 3 + 1).toInt
      split
      · rw [fb_subI (by rw [one]; omega) (by rw [one]; omega), one]; omega
      · split
        · rw [fb_addI (by rw [two]; omega) (by rw [two]; omega), two]; omega
        · rw [fb_addI (by rw [one]; omega) (by rw [one]; omega), one]; omega
    · show (if v 1 < lackP h i (sOf v) (v 3) (cOf v) then v 3 - 1 else if lackP h i (sOf v) (v 3) (cOf v) = 0 then v 3 + 2 else v 3 + 1).toInt ≤ _
      split
      · rw [fb_subI (by rw [one]; omega) (by rw [one]; omega), one]; omega
      · split
        · rw [fb_addI (by rw [two]; omega) (by rw [two]; omega), two]; omega
        · rw [fb_addI (by rw [one]; omega) (by rw [one]; omega), one]; omega
    · show ∃ k, k ≤ s + 1 ∧ (if v 1 < lackP h i (sOf v) (v 3) (cOf v) then v 4 else v 4 + 1) = nI k
      split
      · exact ⟨k, by omega, k2⟩
      · exact ⟨k + 1, by omega, by rw [k2, nI_1]⟩
    · show ∃ p q, p + q = pr ∧ (if v 1 < lackP h i (sOf v) (v 3) (cOf v) then v 1 else v 1 - lackP h i (sOf v) (v 3) (cOf v)) = nI p ∧ (if v 1 < lackP h i (sOf v) (v 3) (cOf v) then v 2 else v 2 + lackP h i (sOf v) (v 3) (cOf v)) = nI q
      by_cases e : v 1 < lackP h i (sOf v) (v 3) (cOf v)
      · rw [if_pos e, if_pos e]
        exact ⟨p, q, p1, p2, p3⟩
      · rw [if_neg e, if_neg e, l2, p2, p3]
        rw [l2, p2] at e
        by_cases pb : p < 2 ^ 31
        · have : L ≤ p := by
            rcases Nat.lt_or_ge p L with z | z
            · exact absurd (nI_lt z l1) e
            · exact z
          exact ⟨p - L, q + L, by omega, by rw [pk_sub this], by rw [nI_add]⟩
        · refine ⟨p - L, q + L, by omega, by rw [pk_sub (by omega)], by rw [nI_add]⟩
    · exact Nat.or_lt_two_pow c1 (Nat.pow_lt_pow_right (by omega) hi)
    · show v 5 ||| nI (2 ^ i) = _
      rw [c2, fa_or]
    · obtain ⟨t, t1, t2⟩ := hs i' hi'
      refine ⟨t, t1, ?_⟩
      unfold doCallP
      rw [if_neg (by omega), if_neg (by omega), if_neg (by omega), if_neg (by omega), if_neg (by omega), if_neg (by omega)]
      exact t2
  · rw [doP_swap h (by omega) (by omega)]
    have g : ∀ m, m < 6 → doSwapP i j v m = v m := fun m hm => by
      unfold doSwapP
      rw [if_neg (by omega), if_neg (by omega)]
    refine ⟨⟨s, s1, by rw [g 0 (by omega)]; exact s2, by rw [g 3 (by omega)]; exact s3, by rw [g 3 (by omega)]; exact s4, k, k1, by rw [g 4 (by omega)]; exact k2⟩, ⟨p, q, p1, by rw [g 1 (by omega)]; exact p2, by rw [g 2 (by omega)]; exact p3⟩, ⟨c, c1, by rw [g 5 (by omega)]; exact c2⟩, fun i' hi' => ?_⟩
    unfold doSwapP
    by_cases e1 : 6 + i' = 6 + i
    · rw [if_pos e1]; exact hs j hj
    · rw [if_neg e1]
      by_cases e2 : 6 + i' = 6 + j
      · rw [if_pos e2]; exact hs i hi
      · rw [if_neg e2]; exact hs i' hi'
theorem nv_beg {σ : QS} {ns nc pr : Nat} (hb : BegOk σ ns pr) : nvOk ns nc pr (v0Of σ ns) := by
  obtain ⟨b1, b2, b3⟩ := hb
  refine ⟨⟨0, by omega, rfl, by show -((0 : Nat) : Int) ≤ (0 : Int32).toInt; decide, by show (0 : Int32).toInt ≤ 2 * ((0 : Nat) : Int); decide, 0, by omega, rfl⟩, ⟨pr, 0, by omega, b2, rfl⟩, ⟨0, Nat.pos_of_ne_zero (by simp), rfl⟩, fun i hi => ?_⟩
  obtain ⟨t, t1, t2⟩ := b3 i hi
  refine ⟨t, t1, ?_⟩
  unfold v0Of
  rw [if_neg (by omega), if_pos (by omega), show 6 + i - 6 = i by omega]
  exact t2
theorem nv_rep {h : HH} {nc pr : Nat} (hn : hN h ≤ 6) (hc : nc ≤ 6) {v0 : NV} {D : Nat → Int32} (h0 : nvOk (hN h) nc pr v0) : ∀ n, (∀ k, k < n → okP h nc (repP h v0 D k) (D k)) → nvOk (hN h) nc pr (repP h v0 D n)
  | 0, _ => h0
  | n + 1, q => nv_do hn hc (nv_rep hn hc h0 n (fun k hk => q k (by omega))) (q n (by omega))
/-- what is in the reference's row behind one more deed -/
def rowN (row : Nat → Int32) (n : Nat) (v : NV) : Nat → Int32 := fun q =>
  if q = 0 then nI (n + 1) else if q ≤ 12 then v (q - 1) else if 13 + 12 * n ≤ q ∧ q < 25 + 12 * n then row (q - (12 + 12 * n)) else row q
theorem hist_do {τ : QS} {h : HH} {nc : Nat} {v0 : NV} {D : Nat → Int32} {n : Nat} {d : Int32} (hh : HistOk τ 0 h nc v0 D n) (hn : n < 40) (hd : okP h nc (repP h v0 D n) d) : HistOk (pM τ 51 (rowN (gM τ 51) n (doP h d (repP h v0 D n)))) 0 h nc v0 (upd D n d) (n + 1) := by
  obtain ⟨a1, a2, a3, a4, a5⟩ := hh
  have e1 : repP h v0 (upd D n d) (n + 1) = doP h d (repP h v0 D n) := by
    show doP h (upd D n d n) (repP h v0 (upd D n d) n) = _
    rw [upd_same, repP_upd (Nat.le_refl n)]
  refine ⟨by omega, ?_, ?_, ?_, ?_⟩
  · rw [gM_same]; rfl
  · intro j hj
    rw [gM_same, e1]
    unfold rowN
    rw [if_neg (by omega), if_pos (by omega)]
    congr 1
    omega
  · intro k hk j hj
    rw [gM_same, repP_upd (by omega)]
    unfold rowN
    rw [if_neg (by omega), if_neg (by omega)]
    by_cases e : k = n
    · subst e
      rw [if_pos (by omega), ← a3 j hj]
      congr 1
      omega
    · rw [if_neg (by omega), a4 k (by omega) j hj]
  · intro k hk
    rw [repP_upd (by omega)]
    by_cases e : k = n
    · subst e
      rw [upd_same]
      exact hd
    · rw [upd_ne e]
      exact a5 k (by omega)
theorem hist_far {τ : QS} {b : Nat} {h : HH} {nc : Nat} {v0 : NV} {D : Nat → Int32} {n : Nat} {f : Nat → Int32} (hh : HistOk τ b h nc v0 D n) (hf : ∀ q, b ≤ q → q < b + 493 → f q = gM τ 51 q) : HistOk (pM τ 51 f) b h nc v0 D n := by
  obtain ⟨a1, a2, a3, a4, a5⟩ := hh
  refine ⟨a1, ?_, ?_, ?_, a5⟩
  · rw [gM_same, hf b (by omega) (by omega)]; exact a2
  · intro j hj; rw [gM_same, hf _ (by omega) (by omega)]; exact a3 j hj
  · intro k hk j hj; rw [gM_same, hf _ (by omega) (by omega)]; exact a4 k hk j hj
/-- one more deed, done by both -/
theorem deed_inv {σ τ σ' : QS} (h : Inv σ τ) {ns nc pr : Nat} (h2 : Inv2 σ τ ns nc pr) {n : Nat} (hn : gI σ 12 = nI n) (hn4 : n < 40) {d : Int32} (hd : okP (hOf τ ns) nc (repP (hOf τ ns) (v0Of σ ns) (gM σ 26) n) d) (i12 : gI σ' 12 = nI (n + 1)) (m26 : gM σ' 26 = upd (gM σ 26) n d) (hN : NightOk σ' ns (doP (hOf τ ns) d (repP (hOf τ ns) (v0Of σ ns) (gM σ 26) n))) (hi : ∀ k, (k < 12 ∨ 19 ≤ k) → gI σ' k = gI σ k) (hj : ∀ k, gJ σ' k = gJ σ k) (hm : ∀ k, k ≠ 25 → k ≠ 26 → gM σ' k = gM σ k) : Inv σ' (pM τ 51 (rowN (gM τ 51) n (doP (hOf τ ns) d (repP (hOf τ ns) (v0Of σ ns) (gM σ 26) n)))) := by
  obtain ⟨a1, a2, a3, a4, a5, a6, -⟩ := h
  obtain ⟨b1, b2, b3, b4⟩ := h2
  have ev : v0Of σ' ns = v0Of σ ns := by unfold v0Of; rw [hi 7 (by omega), hm 22 (by omega) (by omega)]
  obtain ⟨n', c1, c2, c3⟩ := b3
  have hb : n' ≤ 40 := c2.1
  have : n' = n := by rw [hn, nI_e (by omega) (by omega)] at c1; exact c1.symm
  subst this
  refine ⟨a1.keep (hm _ (by omega) (by omega)) (fun r _ => hm _ (by omega) (by omega)) rfl rfl, a2.keep (hm _ (by omega) (by omega)) (fun r _ => hm _ (by omega) (by omega)) rfl rfl, a3.keep (hi _ (by omega)) (hm _ (by omega) (by omega)) rfl rfl, ?_, ?_, a6.keep (fun m _ => hm _ (by omega) (by omega)), ns, nc, pr, ?_, ?_, ?_, ?_⟩
  · unfold ToldOk; rw [hi 1 (by omega)]; exact a4
  · unfold FracOk; rw [hj, hj]; exact a5
  · unfold HouseOk
    rw [hi 9 (by omega), hi 8 (by omega), hi 11 (by omega), hm 20 (by omega) (by omega), hm 21 (by omega) (by omega), hm 23 (by omega) (by omega), hm 24 (by omega) (by omega)]
    exact b1
  · unfold BegOk
    rw [hi 7 (by omega), hm 22 (by omega) (by omega)]
    exact b2
  · refine ⟨n' + 1, i12, ?_, ?_⟩
    · rw [ev, m26]
      exact hist_do c2 hn4 hd
    · rw [ev, m26]
      have e1 : repP (hOf τ ns) (v0Of σ ns) (upd (gM σ 26) n' d) (n' + 1) = doP (hOf τ ns) d (repP (hOf τ ns) (v0Of σ ns) (gM σ 26) n') := by
        show doP _ (upd (gM σ 26) n' d n') (repP _ _ (upd (gM σ 26) n' d) n') = _
        rw [upd_same, repP_upd (Nat.le_refl n')]
      show NightOk σ' ns (repP (hOf τ ns) (v0Of σ ns) (upd (gM σ 26) n' d) (n' + 1))
      rw [e1]
      exact hN
  · intro k hk
    rw [hm 14 (by omega) (by omega), hm (40 + k) (by omega) (by omega), ev, gM_same]
    have far : ∀ q, 493 ≤ q → rowN (gM τ 51) n' (doP (hOf τ ns) d (repP (hOf τ ns) (v0Of σ ns) (gM σ 26) n')) q = gM τ 51 q := fun q hq => by
      unfold rowN
      rw [if_neg (by omega), if_neg (by omega), if_neg (by omega)]
    rcases b4 k hk with ⟨x1, x2⟩ | ⟨m, x1, x2⟩
    · refine Or.inl ⟨x1, ?_⟩
      rw [far _ (by omega)]; exact x2
    · exact Or.inr ⟨m, x1, hist_far x2 (fun q h1 _ => far q (by omega))⟩
