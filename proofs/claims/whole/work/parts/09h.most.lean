/-! ===== the most that a plan carries; whom to change seats ===== -/
noncomputable def smB (d : Nat) (x1 x2 x3 x4 x5 : Int32) : (Int32 × QS → Option (QS)) → Int32 × QS → Option (QS) := (fun (r3 : Int32 × QS → Option (QS)) (a2 : Int32 × QS) => (if (gI a2.2 9) ≤ a2.1 then Option.bind (fX2_seekMost_7 d (x1 + (1 : Int32)) x2 x3 x4 x5 a2.2) (fun (q4 : QS) => some q4) else lt_ (fun (v6 : Int32) => (if v6 < 0 then r3 ((a2.1 + (1 : Int32)), a2.2) else (if x4 < v6 then r3 ((a2.1 + (1 : Int32)), a2.2) else Option.bind (fX2_seekMost_7 d (x1 + (1 : Int32)) (x2 ||| ((1 : Int32) <<< (a2.1 &&& 31))) (fX2_clappingBehind x3 v6 x4) (x4 - v6) (x5 + (1 : Int32)) a2.2) (fun (q7 : QS) => r3 ((a2.1 + (1 : Int32)), q7))))) (fun (j5 : Int32 → Option (QS)) => (if (fX2_isFree_7 a2.1 x2 a2.2) = 0 then j5 (-9 : Int32) else Option.bind (fX1_lacking_5 a2.1 x1 x2 x3 a2.2) (fun (q8 : Int32) => j5 q8)))))
theorem seekMost_s (d : Nat) (x1 x2 x3 x4 x5 : Int32) (σ : QS) : fX2_seekMost_7 (d + 1) x1 x2 x3 x4 x5 σ = (if (gI (pI σ 20 (fJ9_max_7cf53 (gI σ 20) x5)) 8) ≤ x1 then some (pI σ 20 (fJ9_max_7cf53 (gI σ 20) x5)) else (if (gI (pI σ 20 (fJ9_max_7cf53 (gI σ 20) x5)) 20) < (x5 + (fX2_hope_7 x1 x2 (pI σ 20 (fJ9_max_7cf53 (gI σ 20) x5)))) then lp_ (smB d x1 x2 x3 x4 x5) FV ((0 : Int32), (pI σ 20 (fJ9_max_7cf53 (gI σ 20) x5))) else some (pI σ 20 (fJ9_max_7cf53 (gI σ 20) x5)))) := rfl
theorem max_e {a b : Nat} (ha : a < 1000000) (hb : b < 1000000) : fJ9_max_7cf53 (nI a) (nI b) = nI (max a b) := by
  unfold fJ9_max_7cf53
  by_cases q : a < b
  · rw [if_pos ((nI_l2 ha hb).mpr q), show max a b = b by omega]
  · rw [if_neg (fun w => q ((nI_l2 ha hb).mp w)), show max a b = a by omega]
theorem min_e {a b : Nat} (ha : a < 1000000) (hb : b < 1000000) : fJ9_min_7cf53 (nI a) (nI b) = nI (min a b) := by
  unfold fJ9_min_7cf53
  by_cases q : b < a
  · rw [if_pos ((nI_l2 hb ha).mpr q), show min a b = b by omega]
  · rw [if_neg (fun w => q ((nI_l2 hb ha).mp w)), show min a b = a by omega]
theorem hope_e {σ : QS} {A ns nc s : Nat} {al : Nat → Bool} (hA : alB A ns al) (hns : ns ≤ 6) (hnc : nc ≤ 6) (h19 : gI σ 19 = nI A) (h8 : gI σ 8 = nI nc) (hs : s ≤ nc) (c : Nat) : fX2_hope_7 (nI s) (nI c) σ = nI (min (nc - s) (fcN al c ns)) := by
  have := fcN_le al c ns
  unfold fX2_hope_7
  rw [freeCount_e hA hns h19, h8, pk_sub hs, min_e (by omega) (by omega)]
theorem smB_step {σ τ : QS} {ns nc A : Nat} {al : Nat → Bool} (hh : HouseOk σ τ ns nc) (hA : alB A ns al) (h19 : gI σ 19 = nI A) {D s t k : Nat} {d : ND} {x5 : Int32} (hs : s < nc) (ht : t ≤ 6) (hd : nbP 999 ns t d) (hk : k < ns) (r : Int32 × QS → Option (QS)) : smB D (nI s) (nI d.2.2.2) (PZ d.2.1) (nI d.1) x5 r (nI k, σ) = if chB al d.2.2.2 (k + 1) = true ∧ ¬ d.1 < lkZ (hOf τ ns) k s d.2.1 d.2.2.2 then Option.bind (fX2_seekMost_7 D (nI (s + 1)) (nI (stN (hOf τ ns) s (k + 1) d).2.2.2) (PZ (stN (hOf τ ns) s (k + 1) d).2.1) (nI (stN (hOf τ ns) s (k + 1) d).1) (x5 + (1 : Int32)) σ) (fun q => r (nI (k + 1), q)) else r (nI (k + 1), σ) := by
  have hns := hh.1
  have hnc := hh.2.1
  obtain ⟨b1, b2, b3, b4, b5⟩ := hd
  have c6 := pow_le64 hns b5
  have l9 := lkZ_le (hbd_of hh) (i := k) hs d.2.1 d.2.2.2
  unfold smB
  simp only [lt_q]
  rw [hh.2.2.2.1, if_neg (by rw [nI_L (by omega) (by omega)]; omega), isFree_e hA hns h19 hk, lackC_z hh hk hs c6 (by omega) (by omega), Option.bind_some, nI_1, nI_1, if_neg (show ¬ nI (lkZ (hOf τ ns) k s d.2.1 d.2.2.2) < 0 from nneg (by omega)), if_pos (show (-9 : Int32) < 0 by decide)]
  by_cases e : chB al d.2.2.2 (k + 1) = true
  · rw [if_pos e, if_neg one_ne]
    by_cases q : d.1 < lkZ (hOf τ ns) k s d.2.1 d.2.2.2
    · rw [if_pos (by rw [nI_l2 (by omega) (by omega)]; exact q), if_neg (fun w => w.2 q)]
    · rw [if_neg (by rw [nI_l2 (by omega) (by omega)]; exact q), if_pos ⟨e, q⟩, stN_yes q, clap_e (by omega) (by omega), if_neg q, pk_sub (by omega), shl_e (show k < 31 by omega), fa_or]
  · rw [if_neg e, if_pos rfl, if_neg (fun w => e w.1)]
theorem smB_end {σ : QS} {ns : Nat} (h9 : gI σ 9 = nI ns) (hns : ns ≤ 6) {D : Nat} {x1 x2 x3 x4 x5 : Int32} (r : Int32 × QS → Option (QS)) : smB D x1 x2 x3 x4 x5 r (nI ns, σ) = Option.bind (fX2_seekMost_7 D (x1 + (1 : Int32)) x2 x3 x4 x5 σ) (fun q => some q) := by
  unfold smB
  simp only [lt_q]
  rw [h9, if_pos (by rw [nI_L (by omega) (by omega)]; omega)]
theorem seekMost_e {σ0 τ : QS} {ns nc A : Nat} {al : Nat → Bool} (hh : HouseOk σ0 τ ns nc) (hA : alB A ns al) : ∀ (m D s t : Nat) (d : ND) (σ : QS) (q : Nat), s + m = nc → t + m ≤ 6 → m < D → srC σ0 σ → gI σ 19 = nI A → gI σ 20 = nI q → q ≤ 100 → nbP 999 ns t d → ∃ σ', fX2_seekMost_7 D (nI s) (nI d.2.2.2) (PZ d.2.1) (nI d.1) (nI d.2.2.1) σ = some σ' ∧ srC σ0 σ' ∧ gI σ' 19 = nI A ∧ gI σ' 20 = nI (max q (mxN (hOf τ ns) al lvR m s d)) := by
  have hns := hh.1
  have hnc := hh.2.1
  intro m
  induction m with
  | zero =>
    intro D s t d σ q hs ht hD hsr h19 h20 hq hd
    obtain ⟨D', rfl⟩ : ∃ D', D = D' + 1 := ⟨D - 1, by omega⟩
    obtain ⟨b1, b2, b3, b4, b5⟩ := hd
    have hh' := hsr.house hh
    rw [seekMost_s, h20, max_e (by omega) (by omega)]
    refine ⟨pI σ 20 (nI (max q d.2.2.1)), ?_, hsr.i (by omega) _, by rw [gI_ne (by omega)]; exact h19, gI_same _ _ _⟩
    rw [gI_ne (by omega), hh'.2.2.2.2.2.1, if_pos (by rw [nI_L (by omega) (by omega)]; omega)]
  | succ m ih =>
    intro D s t d σ q hs ht hD hsr h19 h20 hq hd
    obtain ⟨D', rfl⟩ : ∃ D', D = D' + 1 := ⟨D - 1, by omega⟩
    have hd' := hd
    obtain ⟨b1, b2, b3, b4, b5⟩ := hd'
    have hh' := hsr.house hh
    have vm := mxR_m (h := hOf τ ns) (al := al) (m + 1) s d
    have vf := mxR_f (h := hOf τ ns) (al := al) (m + 1) s d
    have vg := mxR_ge (h := hOf τ ns) (al := al) (m + 1) s d
    have fl := fcN_le al d.2.2.2 ns
    have vf2 : mxN (hOf τ ns) al lvR (m + 1) s d ≤ d.2.2.1 + fcN al d.2.2.2 ns := vf
    have hsr1 : srC σ0 (pI σ 20 (nI (max q d.2.2.1))) := hsr.i (by omega) _
    have hh1 := hsr1.house hh
    have g19 : gI (pI σ 20 (nI (max q d.2.2.1))) 19 = nI A := by rw [gI_ne (by omega)]; exact h19
    have g20 : gI (pI σ 20 (nI (max q d.2.2.1))) 20 = nI (max q d.2.2.1) := gI_same _ _ _
    rw [seekMost_s, h20, max_e (by omega) (by omega), hh1.2.2.2.2.2.1, if_neg (by rw [nI_L (by omega) (by omega)]; omega), hope_e hA hns hnc g19 hh1.2.2.2.2.2.1 (by omega), nI_add, g20]
    by_cases c1 : max q d.2.2.1 < d.2.2.1 + min (nc - s) (fcN al d.2.2.2 ns)
    · rw [if_pos (by rw [nI_l2 (by omega) (by omega)]; exact c1)]
      generalize hV : mxN (hOf τ ns) al lvR (m + 1) s d = V at *
      refine for_inv (Q := fun k (a : Int32 × QS) => a.1 = nI k ∧ srC σ0 a.2 ∧ gI a.2 19 = nI A ∧ ∃ qk, gI a.2 20 = nI qk ∧ max q d.2.2.1 ≤ qk ∧ (∀ i, i < k → chB al d.2.2.2 (i + 1) = true → ¬ d.1 < lkZ (hOf τ ns) i s d.2.1 d.2.2.2 → mxN (hOf τ ns) al lvR m (s + 1) (stN (hOf τ ns) s (i + 1) d) ≤ qk) ∧ qk ≤ max q V) ns (fun o => ∃ σ', o = some σ' ∧ srC σ0 σ' ∧ gI σ' 19 = nI A ∧ gI σ' 20 = nI (max q V)) (by omega) ?_ ?_ ?_
      · exact ⟨rfl, hsr1, g19, _, g20, Nat.le_refl _, fun i hi => absurd hi (Nat.not_lt_zero i), by omega⟩
      · rintro k ⟨a1, σk⟩ hk ⟨e1, e2, e3, qk, e4, e5, e6, e7⟩
        have e1' : a1 = nI k := e1
        subst e1'
        have e2' : srC σ0 σk := e2
        have e3' : gI σk 19 = nI A := e3
        have e4' : gI σk 20 = nI qk := e4
        have hhk := e2'.house hh
        by_cases e : chB al d.2.2.2 (k + 1) = true ∧ ¬ d.1 < lkZ (hOf τ ns) k s d.2.1 d.2.2.2
        · have hr : (stN (hOf τ ns) s (k + 1) d).2.2.1 = d.2.2.1 + 1 := by rw [stN_yes e.2]
          obtain ⟨σ2, f1, f2, f3, f4⟩ := ih D' (s + 1) (t + 1) (stN (hOf τ ns) s (k + 1) d) σk qk (by omega) (by omega) (by omega) e2' e3' e4' (by omega) (nb_st (h := hOf τ ns) (by show k + 1 ≤ ns; omega) hd)
          rw [hr] at f1
          refine ⟨(nI (k + 1), σ2), ⟨rfl, f2, f3, _, f4, by omega, fun i hi h1 h2 => ?_, ?_⟩, fun r => ?_⟩
          · by_cases ei : i = k
            · subst ei; omega
            · have := e6 i (by omega) h1 h2; omega
          · have : mxN (hOf τ ns) al lvR m (s + 1) (stN (hOf τ ns) s (k + 1) d) ≤ V := by rw [← hV]; exact mxN_ge (h := hOf τ ns) (by show k + 1 ≤ ns; omega) e.1
            omega
          · rw [smB_step hhk hA e3' (by omega) (by omega) hd hk r, if_pos e, nI_1, f1, Option.bind_some]
        · refine ⟨(nI (k + 1), σk), ⟨rfl, e2, e3, qk, e4, e5, fun i hi h1 h2 => ?_, e7⟩, fun r => ?_⟩
          · by_cases ei : i = k
            · subst ei; exact absurd ⟨h1, h2⟩ e
            · exact e6 i (by omega) h1 h2
          · rw [smB_step hhk hA e3' (by omega) (by omega) hd hk r, if_neg e]
      · rintro ⟨a1, σk⟩ ⟨e1, e2, e3, qk, e4, e5, e6, e7⟩ r
        have e1' : a1 = nI ns := e1
        subst e1'
        have e2' : srC σ0 σk := e2
        have hhk := e2'.house hh
        have e4' : gI σk 20 = nI qk := e4
        obtain ⟨σ2, f1, f2, f3, f4⟩ := ih D' (s + 1) (t + 1) d σk qk (by omega) (by omega) (by omega) e2' e3 e4' (by omega) ⟨b1, by omega, by omega, by omega, b5⟩
        rw [smB_end hhk.2.2.2.1 hns, nI_1, f1, Option.bind_some]
        refine ⟨σ2, rfl, f2, f3, ?_⟩
        rw [f4]
        congr 1
        have cut : mxN (hOf τ ns) al lvR m (s + 1) d ≤ V := by rw [← hV]; exact mxN_ge (h := hOf τ ns) (k := 0) (Nat.zero_le _) rfl
        have up : V ≤ max qk (mxN (hOf τ ns) al lvR m (s + 1) d) := by
          rw [← hV]
          refine mxN_le.mpr (fun k hk e => ?_)
          cases k with
          | zero => rw [stN_0]; omega
          | succ i =>
            by_cases w : d.1 < lkZ (hOf τ ns) i s d.2.1 d.2.2.2
            · have := mxN_mono (h := hOf τ ns) (al := al) (al' := al) (lv := lvR) (fun d d' q => q.2.2.1) (fun _ h => h) m (s + 1) _ _ (dmN_no (h := hOf τ ns) (s := s) (i := i) (dmN_rf d) w)
              omega
            · have := e6 i (by have : i + 1 ≤ ns := hk
                               omega) e w
              omega
        omega
    · rw [if_neg (by rw [nI_l2 (by omega) (by omega)]; exact c1)]
      refine ⟨_, rfl, hsr1, g19, ?_⟩
      rw [g20]
      congr 1
      omega
theorem findMost_e {σ τ : QS} {ns nc s p c A q : Nat} {a : Int} {al : Nat → Bool} (hn : nowP σ τ ns nc s p a c) (hA : alB A ns al) (hq : q ≤ 100) : ∃ σ', fX2_findMost_7 (nI A) (nI q) σ = some (nI (max q (mxN (hOf τ ns) al lvR (nc - s) s (p, a, 0, c))), σ') ∧ srC σ σ' ∧ gI σ' 19 = nI A ∧ gI σ' 20 = nI (max q (mxN (hOf τ ns) al lvR (nc - s) s (p, a, 0, c))) := by
  obtain ⟨hh, hs, hp, ⟨a1, a2⟩, hc, ⟨e13, -⟩, ⟨e15, -⟩, ⟨e17, -⟩, ⟨e14, -⟩, -⟩ := hn
  have hnc := hh.2.1
  have hsr : srC σ (pI (pI σ 19 (nI A)) 20 (nI q)) := ((srC.rf σ).i (by omega) _).i (by omega) _
  obtain ⟨σ', f1, f2, f3, f4⟩ := seekMost_e hh hA (nc - s) DP s 0 (p, a, 0, c) (pI (pI σ 19 (nI A)) 20 (nI q)) q (by omega) (by omega) (by show nc - s < 8; omega) hsr (by rw [gI_ne (by omega), gI_same]) (gI_same _ _ _) hq ⟨by show p ≤ 999; omega, by show _ ≤ a; omega, by show a ≤ _; omega, Nat.zero_le _, hc⟩
  refine ⟨σ', ?_, f2, f3, f4⟩
  unfold fX2_findMost_7
  simp only [lt_q]
  rw [gI_ne (by omega), gI_ne (by omega), gI_ne (by omega), gI_ne (by omega), gI_ne (by omega), gI_ne (by omega), gI_ne (by omega), gI_ne (by omega), e13, e14, e15, e17]
  have f1' : fX2_seekMost_7 DP (nI s) (nI c) (PZ a) (nI p) (0 : Int32) (pI (pI σ 19 (nI A)) 20 (nI q)) = some σ' := f1
  rw [f1', Option.bind_some, f4]
noncomputable def mcB : (Int32 × QS → Option (Int32 × QS)) → Int32 × QS → Option (Int32 × QS) := (fun (r3 : Int32 × QS → Option (Int32 × QS)) (a2 : Int32 × QS) => Option.bind (fX5_nextPlan_50 a2.2) (fun (q4 : Int32 × QS) => (if q4.1 = 0 then some (a2.1, q4.2) else ck_ (inb (gI q4.2 11) 7) ((if (gM q4.2 65 ((gI q4.2 11).toNatClampNeg)) ≤ a2.1 then r3 (a2.1, q4.2) else ck_ (inb (gI q4.2 11) 7) (lt_ (gM q4.2 65 ((gI q4.2 11).toNatClampNeg)) (fun (v7 : Int32) => r3 (v7, q4.2))))))))
theorem mostR_e {σ τ : QS} {ns nc s p c : Nat} {a : Int} (hh : HouseOk σ τ ns nc) (hs : s ≤ nc) (hp : p ≤ 9) (h1 : -20 ≤ a) (h2 : a ≤ 20) (hc : c < 2 ^ ns) (e1 : gM τ 51 1 = nI s) (e2 : gM τ 51 2 = nI p) (e4 : gM τ 51 4 = PZ a) (e6 : gM τ 51 6 = nI c) : ∃ τ', fX5_mostCarried_50 τ = some (nI (mxN (hOf τ ns) (alR τ) lvR (nc - s) s (p, a, 0, c)), τ') ∧ rfT τ τ' := by
  have hns := hh.1
  have hnc := hh.2.1
  have I : itP (X := Nat) (S := Int32 × QS) (β := Int32 × QS) 9 σ ns nc (hOf τ ns) (alR τ) s (nc - s) (fun x τ => (nI x, τ)) (fun r x τ => ck_ (inb (gI τ 11) 7) ((if (gM τ 65 ((gI τ 11).toNatClampNeg)) ≤ nI x then r (nI x, τ) else ck_ (inb (gI τ 11) 7) (lt_ (gM τ 65 ((gI τ 11).toNatClampNeg)) (fun (v7 : Int32) => r (v7, τ)))))) (fun x τ => some (nI x, τ)) mcB (fun P x => max x (lvR (P.2 (nc - s)))) (fun x τ' => x ≤ 6 ∧ jbP σ τ ns nc (hOf τ ns) (alR τ) s (nc - s) τ') := by
    refine ⟨fun x τ1 τ2 hJ hb => ⟨hJ.1, jb_sb hJ.2 hb⟩, fun x τ1 hJ => hJ.2.1, fun x τ1 P hJ ha ho => ?_, fun r x τ1 => rfl⟩
    have B := hJ.2.1
    have e65 := (ha.2 (nc - s) (Nat.le_refl _)).2.2.1
    have br := (ho.1 (nc - s) (Nat.le_refl _)).2.2.2.1
    refine ⟨τ1, fun r => ?_, ⟨?_, hJ.2⟩, fun j _ _ => rfl⟩
    · have x6 := hJ.1
      have c1 : (nI (nc - s)).toNatClampNeg = nc - s := nI_c (by omega)
      simp only [lt_q]
      rw [B.2.2.2.2.1, ck_t (inb_n (by omega) (by omega)), c1, e65]
      by_cases q : (P.2 (nc - s)).2.2.1 ≤ x
      · rw [if_pos (by rw [nI_L (by omega) (by omega)]; exact q), show max x (lvR (P.2 (nc - s))) = x from by unfold lvR; omega]
      · rw [if_neg (by rw [nI_L (by omega) (by omega)]; exact q), ck_t (inb_n (by omega) (by omega)), show max x (lvR (P.2 (nc - s))) = (P.2 (nc - s)).2.2.1 from by unfold lvR; omega]
    · have x6 := hJ.1
      show max x (P.2 (nc - s)).2.2.1 ≤ 6
      omega
  obtain ⟨τ', g1, g2⟩ := plan_loop (by omega) I rfl hns (by omega) (x := 0) (τ := bpT τ (nI p)) (P := P0 p a c) ⟨by omega, jb_0 hh e1 hs _⟩ (bp_12 _ _) (bp_at e4 e6) (ok_0 hp h1 h2 hc) (bp_67 _ _)
  refine ⟨τ', ?_, g1.2.2⟩
  have ev := tfP_max (h := hOf τ ns) (al := alR τ) (s0 := s) (M := nc - s) (lv := lvR) (nc - s) 0 (P0 p a c) 0 (by omega)
  rw [ev, Nat.add_zero, Nat.zero_max] at g2
  unfold fX5_mostCarried_50
  rw [e2, begin_e, Option.bind_some]
  exact g2
