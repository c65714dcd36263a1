/-! ===== by turns: the reference ===== -/
def bsI (y : Option Nat) : Int32 := match y with
  | none => -9
  | some b => nI b
theorem take_e {τ : QS} {n v : Nat} (hn : n < 7) {y : Option Nat} (hb : gM τ 68 n = bsI y) (hy : ∀ b, y = some b → b ≤ 100) (hv : v ≤ 100) : fX5_take_50 (nI n) (nI v) τ = some (pM τ 68 (upd (gM τ 68) n (bsI (tkO n y v)))) := by
  have i1 : inb (nI n) 7 = true := inb_n hn (by omega)
  have c1 : (nI n).toNatClampNeg = n := nI_c (by omega)
  have e2 : nI n - nI n / (2 : Int32) * (2 : Int32) = nI (n % 2) := by show nI n - nI n / nI 2 * nI 2 = _; rw [pk_rem (by omega) (by omega) (by omega)]
  unfold fX5_take_50
  simp only [lt_q, ck_t i1]
  rw [c1, e2, hb]
  cases y with
  | none => rfl
  | some b =>
    have b9 := hy b rfl
    have eb : bsI (some b) = nI b := rfl
    have et : tkO n (some b) v = if n % 2 = 0 then (if b < v then some v else some b) else (if v < b then some v else some b) := rfl
    rw [eb, if_neg (nI_neg9 (by omega)), et]
    by_cases p : n % 2 = 0
    · rw [if_pos (by rw [p]; rfl), if_pos p]
      by_cases q : b < v
      · rw [if_neg (show ¬ nI v ≤ nI b from by rw [nI_L (by omega) (by omega)]; omega), if_pos q, if_neg one_ne]
        rfl
      · rw [if_pos (show nI v ≤ nI b from by rw [nI_L (by omega) (by omega)]; omega), if_neg q, if_pos trivial]
        rfl
    · rw [if_neg (by rw [nI0_e (by omega)]; exact p), if_neg p]
      by_cases q : v < b
      · rw [if_neg (show ¬ nI b ≤ nI v from by rw [nI_L (by omega) (by omega)]; omega), if_pos q, if_neg one_ne]
        rfl
      · rw [if_pos (show nI b ≤ nI v from by rw [nI_L (by omega) (by omega)]; omega), if_neg q, if_pos trivial]
        rfl
noncomputable def bgT (τ : QS) (n : Nat) : QS := pM (pM τ 67 (upd (gM τ 67) n 0)) 68 (upd (gM τ 68) n (-9))
theorem beginTurn_e {τ : QS} {n : Nat} (hn : n < 7) : fX5_beginTurn_50 (nI n) τ = some (bgT τ n) := by
  unfold fX5_beginTurn_50
  simp only [lt_q]
  rw [ck_t (inb_n hn (by omega)), ck_t (inb_n hn (by omega)), nI_c (by omega)]
  rfl
theorem bgT_at {τ : QS} {n : Nat} {P : PS} (a : atP τ n P) : atP (bgT τ n) n P := at_m1 a 0
theorem bgT_rf (τ : QS) (n : Nat) : rfT τ (bgT τ n) := ⟨fun j hj => by unfold bgT; rw [gM_ne (by omega), gM_ne (by omega)], fun _ _ => rfl, fun _ => rfl⟩
theorem bgT_67 (τ : QS) (n : Nat) : gM (bgT τ n) 67 n = 0 := by
  unfold bgT
  rw [gM_ne (by omega), gM_same, upd_same]
theorem bgT_68 (τ : QS) (n : Nat) : gM (bgT τ n) 68 n = -9 := by
  unfold bgT
  rw [gM_same, upd_same]
theorem bgT_68o {τ : QS} {n k : Nat} (h : k ≠ n) : gM (bgT τ n) 68 k = gM τ 68 k := by
  unfold bgT
  rw [gM_same, upd_ne h]
noncomputable def duB (v3 : Int32) : (Int32 × QS → Option (Int32 × QS)) → Int32 × QS → Option (Int32 × QS) := (fun (r6 : Int32 × QS → Option (Int32 × QS)) (a5 : Int32 × QS) => (if a5.1 < 0 then some ((gM a5.2 68 0), a5.2) else lt_ (fun (v8 : Int32) => lt_ (fun (_ : Unit) => (if v8 ≤ (gI a5.2 1) then Option.bind (fX5_choose_50 a5.1 v8 a5.2) (fun (q10 : QS) => Option.bind (fX5_beginTurn_50 (a5.1 + (1 : Int32)) q10) (fun (q11 : QS) => r6 ((a5.1 + (1 : Int32)), q11))) else lt_ (fun (v13 : Int32) => ck_ (inb a5.1 7) (lt_ (pM a5.2 68 (upd (gM a5.2 68) a5.1.toNatClampNeg v13)) (fun (S15 : QS) => (if (a5.1 + (-1 : Int32)) < 0 then r6 ((a5.1 + (-1 : Int32)), S15) else Option.bind (fX5_take_50 (a5.1 + (-1 : Int32)) v13 S15) (fun (q16 : QS) => r6 ((a5.1 + (-1 : Int32)), q16)))))) (fun (j12 : Int32 → Option (Int32 × QS)) => (if a5.1 = v3 then ck_ (inb a5.1 7) (j12 (gM a5.2 65 a5.1.toNatClampNeg)) else ck_ (inb a5.1 7) (j12 (gM a5.2 68 a5.1.toNatClampNeg)))))) (fun (j9 : Unit → Option (Int32 × QS)) => (if v8 ≤ (gI a5.2 1) then j9 () else ck_ (inb a5.1 7) ((if (gM a5.2 68 a5.1.toNatClampNeg) = (-9 : Int32) then (if v3 ≤ a5.1 then j9 () else Option.bind (fX5_choose_50 a5.1 (0 : Int32) a5.2) (fun (q20 : QS) => ck_ (inb a5.1 7) (lt_ (pM q20 67 (upd (gM q20 67) a5.1.toNatClampNeg (gI q20 1))) (fun (S22 : QS) => Option.bind (fX5_beginTurn_50 (a5.1 + (1 : Int32)) S22) (fun (q23 : QS) => r6 ((a5.1 + (1 : Int32)), q23)))))) else j9 ()))))) (fun (j7 : Int32 → Option (Int32 × QS)) => (if a5.1 = v3 then j7 ((gI a5.2 1) + (1 : Int32)) else ck_ (inb a5.1 7) (Option.bind (fX5_nextChoice_50 a5.1 ((gM a5.2 67 a5.1.toNatClampNeg) + (1 : Int32)) a5.2) (fun (q25 : Int32) => j7 q25))))))
noncomputable def cnD (r : Int32 × QS → Option (Int32 × QS)) (g : Nat) (τ : QS) (v : Nat) : Option (Int32 × QS) := if g = 0 then r (nI 0 + (-1 : Int32), τ) else Option.bind (fX5_take_50 (nI g + (-1 : Int32)) (nI v) τ) (fun q => r (nI g + (-1 : Int32), q))
theorem cn_e {r : Int32 × QS → Option (Int32 × QS)} {g : Nat} (hg : g < 7) {τ : QS} {v : Nat} : (if (nI g + (-1 : Int32)) < 0 then r (nI g + (-1 : Int32), τ) else Option.bind (fX5_take_50 (nI g + (-1 : Int32)) (nI v) τ) (fun q => r (nI g + (-1 : Int32), q))) = cnD r g τ v := by
  unfold cnD
  cases g with
  | zero =>
    rw [if_pos (by decide), if_pos rfl]
  | succ g =>
    rw [if_neg (show ¬ nI (g + 1) + (-1 : Int32) < 0 from by rw [pk_m1]; exact nneg (by omega)), if_neg (show ¬ g + 1 = 0 from by omega)]
theorem du_leaf {σ τ : QS} {ns nc g T v : Nat} (hh : HouseOk σ τ ns nc) (hg : g < 7) (hT : g = T) (h65 : gM τ 65 g = nI v) (r : Int32 × QS → Option (Int32 × QS)) : duB (nI T) r (nI g, τ) = cnD r g (pM τ 68 (upd (gM τ 68) g (nI v))) v := by
  have hns := hh.1
  have i1 : inb (nI g) 7 = true := inb_n hg (by omega)
  have c1 : (nI g).toNatClampNeg = g := nI_c (by omega)
  have eT : nI g = nI T := by rw [hT]
  have le : nI T ≤ nI g := by rw [nI_L (by omega) (by omega)]; omega
  have nle : ¬ nI (ns + 1) ≤ gI τ 1 := by rw [hh.2.2.2.2.1, nI_L (by omega) (by omega)]; omega
  have A : ∀ K : Int32 → Option (Int32 × QS), lt_ K (fun (j7 : Int32 → Option (Int32 × QS)) => (if (nI g) = (nI T) then j7 ((gI τ 1) + (1 : Int32)) else ck_ (inb (nI g) 7) (Option.bind (fX5_nextChoice_50 (nI g) ((gM τ 67 (nI g).toNatClampNeg) + (1 : Int32)) τ) (fun (q25 : Int32) => j7 q25)))) = K (nI (ns + 1)) := fun K => by
    rw [lt_q, if_pos eT, hh.2.2.2.2.1, nI_1]
  have B : ∀ K : Unit → Option (Int32 × QS), lt_ K (fun (j9 : Unit → Option (Int32 × QS)) => (if (nI (ns + 1)) ≤ (gI τ 1) then j9 () else ck_ (inb (nI g) 7) ((if (gM τ 68 (nI g).toNatClampNeg) = (-9 : Int32) then (if (nI T) ≤ (nI g) then j9 () else Option.bind (fX5_choose_50 (nI g) (0 : Int32) τ) (fun (q20 : QS) => ck_ (inb (nI g) 7) (lt_ (pM q20 67 (upd (gM q20 67) (nI g).toNatClampNeg (gI q20 1))) (fun (S22 : QS) => Option.bind (fX5_beginTurn_50 ((nI g) + (1 : Int32)) S22) (fun (q23 : QS) => r (((nI g) + (1 : Int32)), q23)))))) else j9 ())))) = K () := fun K => by
    rw [lt_q, if_neg nle, ck_t i1]
    by_cases q : gM τ 68 (nI g).toNatClampNeg = -9
    · rw [if_pos q, if_pos le]
    · rw [if_neg q]
  have C : ∀ K : Int32 → Option (Int32 × QS), lt_ K (fun (j12 : Int32 → Option (Int32 × QS)) => (if (nI g) = (nI T) then ck_ (inb (nI g) 7) (j12 (gM τ 65 (nI g).toNatClampNeg)) else ck_ (inb (nI g) 7) (j12 (gM τ 68 (nI g).toNatClampNeg)))) = K (nI v) := fun K => by
    rw [lt_q, if_pos eT, ck_t i1, c1, h65]
  unfold duB
  refine (if_neg (show ¬ nI g < 0 from nneg (by omega))).trans ?_
  refine (A _).trans ?_
  refine (B _).trans ?_
  refine (if_neg nle).trans ?_
  refine (C _).trans ?_
  refine (ck_t i1).trans ?_
  refine (lt_q _ _).trans ?_
  rw [c1]
  exact cn_e hg
theorem du_fin {σ τ : QS} {ns nc g T v : Nat} (hh : HouseOk σ τ ns nc) (hg : g < T) (hT : T < 7) (hc : fX5_nextChoice_50 (nI g) (gM τ 67 g + (1 : Int32)) τ = some (nI (ns + 1))) (h68 : gM τ 68 g = nI v) (hv : v ≤ 100) (r : Int32 × QS → Option (Int32 × QS)) : duB (nI T) r (nI g, τ) = cnD r g (pM τ 68 (upd (gM τ 68) g (nI v))) v := by
  have hns := hh.1
  have i1 : inb (nI g) 7 = true := inb_n (by omega) (by omega)
  have c1 : (nI g).toNatClampNeg = g := nI_c (by omega)
  have nT : ¬ nI g = nI T := by rw [nI_e (by omega) (by omega)]; omega
  have nle : ¬ nI (ns + 1) ≤ gI τ 1 := by rw [hh.2.2.2.2.1, nI_L (by omega) (by omega)]; omega
  have A : ∀ K : Int32 → Option (Int32 × QS), lt_ K (fun (j7 : Int32 → Option (Int32 × QS)) => (if (nI g) = (nI T) then j7 ((gI τ 1) + (1 : Int32)) else ck_ (inb (nI g) 7) (Option.bind (fX5_nextChoice_50 (nI g) ((gM τ 67 (nI g).toNatClampNeg) + (1 : Int32)) τ) (fun (q25 : Int32) => j7 q25)))) = K (nI (ns + 1)) := fun K => by
    rw [lt_q, if_neg nT, ck_t i1, c1, hc, Option.bind_some]
  have B : ∀ K : Unit → Option (Int32 × QS), lt_ K (fun (j9 : Unit → Option (Int32 × QS)) => (if (nI (ns + 1)) ≤ (gI τ 1) then j9 () else ck_ (inb (nI g) 7) ((if (gM τ 68 (nI g).toNatClampNeg) = (-9 : Int32) then (if (nI T) ≤ (nI g) then j9 () else Option.bind (fX5_choose_50 (nI g) (0 : Int32) τ) (fun (q20 : QS) => ck_ (inb (nI g) 7) (lt_ (pM q20 67 (upd (gM q20 67) (nI g).toNatClampNeg (gI q20 1))) (fun (S22 : QS) => Option.bind (fX5_beginTurn_50 ((nI g) + (1 : Int32)) S22) (fun (q23 : QS) => r (((nI g) + (1 : Int32)), q23)))))) else j9 ())))) = K () := fun K => by
    rw [lt_q, if_neg nle, ck_t i1, c1, h68, if_neg (nI_neg9 (by omega))]
  have C : ∀ K : Int32 → Option (Int32 × QS), lt_ K (fun (j12 : Int32 → Option (Int32 × QS)) => (if (nI g) = (nI T) then ck_ (inb (nI g) 7) (j12 (gM τ 65 (nI g).toNatClampNeg)) else ck_ (inb (nI g) 7) (j12 (gM τ 68 (nI g).toNatClampNeg)))) = K (nI v) := fun K => by
    rw [lt_q, if_neg nT, ck_t i1, c1, h68]
  unfold duB
  refine (if_neg (show ¬ nI g < 0 from nneg (by omega))).trans ?_
  refine (A _).trans ?_
  refine (B _).trans ?_
  refine (if_neg nle).trans ?_
  refine (C _).trans ?_
  refine (ck_t i1).trans ?_
  refine (lt_q _ _).trans ?_
  rw [c1]
  exact cn_e (by omega)
theorem du_cut {σ τ : QS} {ns nc g T s : Nat} {P : PS} (hh : HouseOk σ τ ns nc) (e1 : gM τ 51 1 = nI s) (hsT : s + T ≤ nc) (hg : g < T) (hc : fX5_nextChoice_50 (nI g) (gM τ 67 g + (1 : Int32)) τ = some (nI (ns + 1))) (h68 : gM τ 68 g = -9) (ha : atP τ g P) (ho : okS 9 ns g P) (r : Int32 × QS → Option (Int32 × QS)) : duB (nI T) r (nI g, τ) = r (nI (g + 1), bgT (pM (chT τ g 0 (stN (hOf τ ns) (s + g) 0 (P.2 g))) 67 (upd (gM (chT τ g 0 (stN (hOf τ ns) (s + g) 0 (P.2 g))) 67) g (nI ns))) (g + 1)) := by
  have hns := hh.1
  have hnc := hh.2.1
  have i1 : inb (nI g) 7 = true := inb_n (by omega) (by omega)
  have c1 : (nI g).toNatClampNeg = g := nI_c (by omega)
  have nT : ¬ nI g = nI T := by rw [nI_e (by omega) (by omega)]; omega
  have nle : ¬ nI (ns + 1) ≤ gI τ 1 := by rw [hh.2.2.2.2.1, nI_L (by omega) (by omega)]; omega
  have nTg : ¬ nI T ≤ nI g := by rw [nI_L (by omega) (by omega)]; omega
  obtain ⟨a63, a64, a65, a66⟩ := ha.2 g (Nat.le_refl _)
  obtain ⟨b1, b2, b3, b4, b5⟩ := ho.1 g (Nat.le_refl _)
  have ch : fX5_choose_50 (nI g) (0 : Int32) τ = some (chT τ g 0 (stN (hOf τ ns) (s + g) 0 (P.2 g))) := choose_e hh (s0 := s) (n := g) (k := 0) (d := P.2 g) e1 (by omega) (by omega) (by omega) a63 a64 a65 a66 (by omega) (by omega) (by omega) (pow_le64 hns b5)
  have A : ∀ K : Int32 → Option (Int32 × QS), lt_ K (fun (j7 : Int32 → Option (Int32 × QS)) => (if (nI g) = (nI T) then j7 ((gI τ 1) + (1 : Int32)) else ck_ (inb (nI g) 7) (Option.bind (fX5_nextChoice_50 (nI g) ((gM τ 67 (nI g).toNatClampNeg) + (1 : Int32)) τ) (fun (q25 : Int32) => j7 q25)))) = K (nI (ns + 1)) := fun K => by
    rw [lt_q, if_neg nT, ck_t i1, c1, hc, Option.bind_some]
  have B : ∀ K : Unit → Option (Int32 × QS), lt_ K (fun (j9 : Unit → Option (Int32 × QS)) => (if (nI (ns + 1)) ≤ (gI τ 1) then j9 () else ck_ (inb (nI g) 7) ((if (gM τ 68 (nI g).toNatClampNeg) = (-9 : Int32) then (if (nI T) ≤ (nI g) then j9 () else Option.bind (fX5_choose_50 (nI g) (0 : Int32) τ) (fun (q20 : QS) => ck_ (inb (nI g) 7) (lt_ (pM q20 67 (upd (gM q20 67) (nI g).toNatClampNeg (gI q20 1))) (fun (S22 : QS) => Option.bind (fX5_beginTurn_50 ((nI g) + (1 : Int32)) S22) (fun (q23 : QS) => r (((nI g) + (1 : Int32)), q23)))))) else j9 ())))) = r (nI (g + 1), bgT (pM (chT τ g 0 (stN (hOf τ ns) (s + g) 0 (P.2 g))) 67 (upd (gM (chT τ g 0 (stN (hOf τ ns) (s + g) 0 (P.2 g))) 67) g (nI ns))) (g + 1)) := fun K => by
    rw [lt_q, if_neg nle, ck_t i1, c1, h68, if_pos rfl, if_neg nTg, ch, Option.bind_some, ck_t i1, lt_q, chT_i, hh.2.2.2.2.1, nI_1, beginTurn_e (by omega), Option.bind_some]
  unfold duB
  refine (if_neg (show ¬ nI g < 0 from nneg (by omega))).trans ?_
  refine (A _).trans ?_
  exact B _
theorem du_ch {σ τ : QS} {ns nc g T s k : Nat} {P : PS} (hh : HouseOk σ τ ns nc) (e1 : gM τ 51 1 = nI s) (hsT : s + T ≤ nc) (hg : g < T) (hk : k ≤ ns) (hc : fX5_nextChoice_50 (nI g) (gM τ 67 g + (1 : Int32)) τ = some (nI k)) (ha : atP τ g P) (ho : okS 9 ns g P) (r : Int32 × QS → Option (Int32 × QS)) : duB (nI T) r (nI g, τ) = r (nI (g + 1), bgT (chT τ g k (stN (hOf τ ns) (s + g) k (P.2 g))) (g + 1)) := by
  have hns := hh.1
  have hnc := hh.2.1
  have i1 : inb (nI g) 7 = true := inb_n (by omega) (by omega)
  have c1 : (nI g).toNatClampNeg = g := nI_c (by omega)
  have nT : ¬ nI g = nI T := by rw [nI_e (by omega) (by omega)]; omega
  have le : nI k ≤ gI τ 1 := by rw [hh.2.2.2.2.1, nI_L (by omega) (by omega)]; omega
  obtain ⟨a63, a64, a65, a66⟩ := ha.2 g (Nat.le_refl _)
  obtain ⟨b1, b2, b3, b4, b5⟩ := ho.1 g (Nat.le_refl _)
  have ch := choose_e hh (s0 := s) (n := g) (k := k) (d := P.2 g) e1 (by omega) (by omega) (by omega) a63 a64 a65 a66 (by omega) (by omega) (by omega) (pow_le64 hns b5)
  have A : ∀ K : Int32 → Option (Int32 × QS), lt_ K (fun (j7 : Int32 → Option (Int32 × QS)) => (if (nI g) = (nI T) then j7 ((gI τ 1) + (1 : Int32)) else ck_ (inb (nI g) 7) (Option.bind (fX5_nextChoice_50 (nI g) ((gM τ 67 (nI g).toNatClampNeg) + (1 : Int32)) τ) (fun (q25 : Int32) => j7 q25)))) = K (nI k) := fun K => by
    rw [lt_q, if_neg nT, ck_t i1, c1, hc, Option.bind_some]
  have B : ∀ K : Unit → Option (Int32 × QS), lt_ K (fun (j9 : Unit → Option (Int32 × QS)) => (if (nI k) ≤ (gI τ 1) then j9 () else ck_ (inb (nI g) 7) ((if (gM τ 68 (nI g).toNatClampNeg) = (-9 : Int32) then (if (nI T) ≤ (nI g) then j9 () else Option.bind (fX5_choose_50 (nI g) (0 : Int32) τ) (fun (q20 : QS) => ck_ (inb (nI g) 7) (lt_ (pM q20 67 (upd (gM q20 67) (nI g).toNatClampNeg (gI q20 1))) (fun (S22 : QS) => Option.bind (fX5_beginTurn_50 ((nI g) + (1 : Int32)) S22) (fun (q23 : QS) => r (((nI g) + (1 : Int32)), q23)))))) else j9 ())))) = K () := fun K => by
    rw [lt_q, if_pos le]
  unfold duB
  refine (if_neg (show ¬ nI g < 0 from nneg (by omega))).trans ?_
  refine (A _).trans ?_
  refine (B _).trans ?_
  refine (if_pos le).trans ?_
  rw [ch, Option.bind_some, nI_1, beginTurn_e (by omega), Option.bind_some]
def cdP : Nat → Nat
  | 0 => 1
  | m + 1 => 7 * (cdP m + 1) + 2
theorem nxC_all {p : Nat → Bool} : ∀ (d j : Nat), (∀ k, j ≤ k → k < j + d → p k = false) → nxC p d j = j + d
  | 0, _, _ => rfl
  | d + 1, j, h => by
    show (if p j = true then j else nxC p d (j + 1)) = _
    rw [h j (Nat.le_refl j) (by omega), if_neg (by decide), nxC_all d (j + 1) (fun k h1 h2 => h k (by omega) (by omega))]
    omega
theorem duel_go {σ τ0 : QS} {ns nc s T : Nat} (hh : HouseOk σ τ0 ns nc) (e1 : gM τ0 51 1 = nI s) (hsT : s + T ≤ nc) (hT4 : T ≤ 4) {R : Option (Int32 × QS) → Prop} : ∀ (m g : Nat) (P : PS) (τ : QS) (K : Nat), g + m = T → rfT τ0 τ → atP τ g P → okS 9 ns g P → gM τ 67 g = 0 → gM τ 68 g = -9 → (∀ τ', rfT τ0 τ' → atP τ' g P → (∀ k, k < g → gM τ' 68 k = gM τ 68 k) → gM τ' 68 g = nI (duV (hOf τ0 ns) (alR τ0) m g (s + g) (P.2 g)) → ∀ f, K ≤ f → R (cnD (lp_ (duB (nI T)) f) g τ' (duV (hOf τ0 ns) (alR τ0) m g (s + g) (P.2 g)))) → ∀ f, K + cdP m ≤ f → R (lp_ (duB (nI T)) f (nI g, τ)) := by
  have hns := hh.1
  have hnc := hh.2.1
  intro m
  induction m with
  | zero =>
    intro g P τ K hg hr ha ho h67 h68 hk f hf
    have cd : cdP 0 = 1 := rfl
    obtain ⟨f', rfl⟩ : ∃ f', f = f' + 1 := ⟨f - 1, by omega⟩
    have hh' := hr.house hh
    have a65 := (ha.2 g (Nat.le_refl _)).2.2.1
    have ed : duV (hOf τ0 ns) (alR τ0) 0 g (s + g) (P.2 g) = (P.2 g).2.2.1 := rfl
    show R (duB (nI T) (lp_ (duB (nI T)) f') (nI g, τ))
    rw [du_leaf hh' (by omega) (by omega) a65, ← ed]
    refine hk _ (hr.tr ⟨fun j hj => gM_ne (by omega), fun _ _ => rfl, fun _ => rfl⟩) (atP_same ha (fun j _ _ => gM_ne (by omega))) (fun k hk' => ?_) (by rw [gM_same, upd_same]) f' (by omega)
    rw [gM_same, upd_ne (by omega)]
  | succ m ih =>
    intro g P τ K hg hr ha ho h67 h68 hk f hf
    have cd : cdP (m + 1) = 7 * (cdP m + 1) + 2 := rfl
    have hb := ho.1 g (Nat.le_refl _)
    have c64 := pow_le64 hns hb.2.2.2.2
    have bd := duV_bd (h := hOf τ0 ns) (al := alR τ0) (m + 1) g (s + g) (P.2 g)
    have b4 := hb.2.2.2.1
    -- the last step at this level
    have last : ∀ (τ1 : QS) (K' : Nat), rfT τ0 τ1 → atP τ1 g P → (∀ k, k < g → gM τ1 68 k = gM τ 68 k) → fX5_nextChoice_50 (nI g) (gM τ1 67 g + (1 : Int32)) τ1 = some (nI (ns + 1)) → gM τ1 68 g = nI (duV (hOf τ0 ns) (alR τ0) (m + 1) g (s + g) (P.2 g)) → ∀ f, K + 1 ≤ f → R (lp_ (duB (nI T)) f (nI g, τ1)) := by
      intro τ1 K' q1 q2 q3 q4 q5 f hf
      obtain ⟨f', rfl⟩ : ∃ f', f = f' + 1 := ⟨f - 1, by omega⟩
      show R (duB (nI T) (lp_ (duB (nI T)) f') (nI g, τ1))
      rw [du_fin (q1.house hh) (by omega) (by omega) q4 q5 (by omega)]
      refine hk _ (q1.tr ⟨fun j hj => gM_ne (by omega), fun _ _ => rfl, fun _ => rfl⟩) (atP_same q2 (fun j _ _ => gM_ne (by omega))) (fun k hk' => ?_) (by rw [gM_same, upd_same]) f' (by omega)
      rw [gM_same, upd_ne (by omega)]
      exact q3 k hk'
    by_cases f0 : fcN (alR τ0) (P.2 g).2.2.2 ns = 0
    · -- nobody to call: a cut
      have all : ∀ k, 1 ≤ k → k < 1 + ns → chB (alR τ0) (P.2 g).2.2.2 k = false := fun k h1 h2 => by
        cases k with
        | zero => omega
        | succ i => exact fcN_0.mp f0 i (by omega)
      have hc1 : fX5_nextChoice_50 (nI g) (gM τ 67 g + (1 : Int32)) τ = some (nI (ns + 1)) := by
        have := nextCh_e (hr.house hh) (n := g) (c := (P.2 g).2.2.2) (by omega) (ha.2 g (Nat.le_refl _)).2.2.2 c64 (j := 1) (d := ns) (by omega)
        rw [hr.al, nxC_all ns 1 all] at this
        rw [h67, show (0 : Int32) + 1 = nI 1 from by decide, this, Nat.add_comm 1 ns]
      have ed : duV (hOf τ0 ns) (alR τ0) (m + 1) g (s + g) (P.2 g) = duV (hOf τ0 ns) (alR τ0) m (g + 1) (s + g + 1) (P.2 g) := by
        rw [duV_s, if_pos (show fcN (alR τ0) (P.2 g).2.2.2 (hN (hOf τ0 ns)) = 0 from f0)]
      obtain ⟨f', rfl⟩ : ∃ f', f = f' + 1 := ⟨f - 1, by omega⟩
      show R (duB (nI T) (lp_ (duB (nI T)) f') (nI g, τ))
      have hh' := hr.house hh
      rw [du_cut hh' (by rw [hr.1 51 (by omega)]; exact e1) hsT (by omega) hc1 h68 ha ho]
      generalize hτ1 : chT τ g 0 (stN (hOf τ ns) (s + g) 0 (P.2 g)) = τ1
      let P' : PS := (fun j => if j = g then ns else P.1 j, fun j => if j = g + 1 then P.2 g else P.2 j)
      have ac := at_ch (h := hOf τ ns) (s := s + g) (k := 0) ha
      rw [hτ1] at ac
      have at' : atP (pM τ1 67 (upd (gM τ1 67) g (nI ns))) (g + 1) P' := by
        refine ⟨fun k hk' => ?_, fun k hk' => ?_⟩
        · rw [gM_same]
          show upd (gM τ1 67) g (nI ns) k = nI (if k = g then ns else P.1 k)
          by_cases e : k = g
          · rw [e, upd_same, if_pos rfl]
          · rw [upd_ne e, if_neg e, ac.1 k (by omega), chP_1o e]
        · have := ac.2 k hk'
          have e2 : (chP (hOf τ ns) (s + g) g 0 P).2 k = P'.2 k := by
            show (if k = g + 1 then stN (hOf τ ns) (s + g) 0 (P.2 g) else P.2 k) = (if k = g + 1 then P.2 g else P.2 k)
            rw [stN_0]
          rw [e2] at this
          exact this
      have ok' : okS 9 ns (g + 1) P' := by
        refine ⟨fun k hk' => ?_, fun k hk' => ?_⟩
        · show nbP 9 ns k (if k = g + 1 then P.2 g else P.2 k)
          by_cases e : k = g + 1
          · rw [if_pos e, e]
            obtain ⟨w1, w2, w3, w4, w5⟩ := hb
            exact ⟨w1, by omega, by omega, by omega, w5⟩
          · rw [if_neg e]
            exact ho.1 k (by omega)
        · show (if k = g then ns else P.1 k) ≤ ns
          by_cases e : k = g
          · rw [if_pos e]; exact Nat.le_refl _
          · rw [if_neg e]; exact ho.2 k (by omega)
      have rf1 : rfT τ0 τ1 := by
        rw [← hτ1]
        exact hr.tr ⟨fun i hi => chT_o (Or.inl hi), fun _ _ => rfl, fun _ => rfl⟩
      have rf2 : rfT τ0 (bgT (pM τ1 67 (upd (gM τ1 67) g (nI ns))) (g + 1)) := (rf1.tr ⟨fun j hj => gM_ne (by omega), fun _ _ => rfl, fun _ => rfl⟩).tr (bgT_rf _ _)
      have e68 : gM τ1 68 = gM τ 68 := by rw [← hτ1]; exact chT_o (Or.inr (by omega))
      have ep : P'.2 (g + 1) = P.2 g := if_pos rfl
      refine ih (g + 1) P' _ (K + 1) (by omega) rf2 (bgT_at at') ok' (bgT_67 _ _) (bgT_68 _ _) (fun τ' w1 w2 w3 w4 f2 hf2 => ?_) f' (by omega)
      have w68 : gM τ' 68 g = -9 := by
        rw [w3 g (by omega), bgT_68o (by omega), gM_ne (by omega), e68]
        exact h68
      have bd2 := duV_bd (h := hOf τ0 ns) (al := alR τ0) m (g + 1) (s + (g + 1)) (P.2 g)
      unfold cnD
      rw [if_neg (by omega), pk_m1, ep, take_e (by omega) (y := none) w68 (fun b hb => by cases hb) (by omega), Option.bind_some]
      obtain ⟨q1, q2⟩ := (⟨⟨fun j hj => by
          have := w2.1 j (by omega)
          have e : P'.1 j = P.1 j := if_neg (by omega)
          rw [e] at this
          exact this, fun j hj => by
          have := w2.2 j (by omega)
          have e : P'.2 j = P.2 j := if_neg (by omega)
          rw [e] at this
          exact this⟩, by
          have := w2.1 g (by omega)
          have e : P'.1 g = ns := if_pos rfl
          rw [e] at this
          exact this⟩ : atP τ' g P ∧ gM τ' 67 g = nI ns)
      have rf3 : rfT τ0 (pM τ' 68 (upd (gM τ' 68) g (bsI (tkO g none (duV (hOf τ0 ns) (alR τ0) m (g + 1) (s + (g + 1)) (P.2 g)))))) := w1.tr ⟨fun j hj => gM_ne (by omega), fun _ _ => rfl, fun _ => rfl⟩
      have at3 : atP (pM τ' 68 (upd (gM τ' 68) g (bsI (tkO g none (duV (hOf τ0 ns) (alR τ0) m (g + 1) (s + (g + 1)) (P.2 g)))))) g P := atP_same q1 (fun j _ _ => gM_ne (by omega))
      refine last _ 0 rf3 at3 (fun k hk' => ?_) ?_ ?_ f2 hf2
      · rw [gM_same, upd_ne (by omega), w3 k (by omega), bgT_68o (by omega), gM_ne (by omega), e68]
      · rw [gM_ne (by omega), q2, nI_1]
        have := nextCh_e (rf3.house hh) (n := g) (c := (P.2 g).2.2.2) (by omega) (at3.2 g (Nat.le_refl _)).2.2.2 c64 (j := ns + 1) (d := 0) (by omega)
        exact this
      · rw [gM_same, upd_same, ed]
        rfl
    · -- those who can be called, one after another
      have ed : duV (hOf τ0 ns) (alR τ0) (m + 1) g (s + g) (P.2 g) = (fdr (duF (hOf τ0 ns) (alR τ0) m g (s + g) (P.2 g)) ns 1 none).getD 0 := by
        rw [duV_s, if_neg (show ¬ fcN (alR τ0) (P.2 g).2.2.2 (hN (hOf τ0 ns)) = 0 from f0)]
      have nn : fdr (duF (hOf τ0 ns) (alR τ0) m g (s + g) (P.2 g)) ns 1 none ≠ none := duF_none (h := hOf τ0 ns) f0
      have kidsD : ∀ (d j : Nat) (y : Option Nat) (τ1 : QS), j + d = ns + 1 → bdO (P.2 g).2.2.1 ((P.2 g).2.2.1 + (m + 1)) y → fdr (duF (hOf τ0 ns) (alR τ0) m g (s + g) (P.2 g)) d j y = fdr (duF (hOf τ0 ns) (alR τ0) m g (s + g) (P.2 g)) ns 1 none → rfT τ0 τ1 → atP τ1 g P → (∀ k, k < g → gM τ1 68 k = gM τ 68 k) → fX5_nextChoice_50 (nI g) (gM τ1 67 g + (1 : Int32)) τ1 = some (nI (nxC (chB (alR τ0) (P.2 g).2.2.2) d j)) → gM τ1 68 g = bsI y → ∀ f, K + 1 + d * (cdP m + 1) ≤ f → R (lp_ (duB (nI T)) f (nI g, τ1)) := by
        intro d
        induction d with
        | zero =>
          intro j y τ1 hj hy hfd q1 q2 q3 q4 q5 f hf
          have hj' : j = ns + 1 := by omega
          have hfd' : y = fdr (duF (hOf τ0 ns) (alR τ0) m g (s + g) (P.2 g)) ns 1 none := hfd
          have q4' : fX5_nextChoice_50 (nI g) (gM τ1 67 g + (1 : Int32)) τ1 = some (nI (ns + 1)) := by rw [q4, hj']; rfl
          refine last τ1 0 q1 q2 q3 q4' ?_ f (by omega)
          rw [q5, ed, ← hfd']
          cases y with
          | none => exact absurd hfd'.symm nn
          | some b => rfl
        | succ d ihd =>
          intro j y τ1 hj hy hfd q1 q2 q3 q4 q5 f hf
          have hmul : (d + 1) * (cdP m + 1) = d * (cdP m + 1) + (cdP m + 1) := by rw [Nat.succ_mul]
          have estep : fdr (duF (hOf τ0 ns) (alR τ0) m g (s + g) (P.2 g)) (d + 1) j y = fdr (duF (hOf τ0 ns) (alR τ0) m g (s + g) (P.2 g)) d (j + 1) (duF (hOf τ0 ns) (alR τ0) m g (s + g) (P.2 g) j y) := rfl
          by_cases e : chB (alR τ0) (P.2 g).2.2.2 j = true
          · have ef : nxC (chB (alR τ0) (P.2 g).2.2.2) (d + 1) j = j := if_pos e
            rw [ef] at q4
            have eF : duF (hOf τ0 ns) (alR τ0) m g (s + g) (P.2 g) j y = tkO g y (duV (hOf τ0 ns) (alR τ0) m (g + 1) (s + g + 1) (stN (hOf τ0 ns) (s + g) j (P.2 g))) := if_pos e
            obtain ⟨f', rfl⟩ : ∃ f', f = f' + 1 := ⟨f - 1, by omega⟩
            show R (duB (nI T) (lp_ (duB (nI T)) f') (nI g, τ1))
            rw [du_ch (q1.house hh) (by rw [q1.1 51 (by omega)]; exact e1) hsT (by omega) (by omega) q4 q2 ho, q1.hof]
            have ac := at_ch (h := hOf τ0 ns) (s := s + g) (k := j) q2
            have oc : okS 9 ns (g + 1) (chP (hOf τ0 ns) (s + g) g j P) := ok_ch (h := hOf τ0 ns) (by show j ≤ ns; omega) ho
            have rf2 : rfT τ0 (bgT (chT τ1 g j (stN (hOf τ0 ns) (s + g) j (P.2 g))) (g + 1)) := (q1.tr ⟨fun i hi => chT_o (Or.inl hi), fun _ _ => rfl, fun _ => rfl⟩).tr (bgT_rf _ _)
            have e68 : ∀ k, k ≠ g + 1 → gM (bgT (chT τ1 g j (stN (hOf τ0 ns) (s + g) j (P.2 g))) (g + 1)) 68 k = gM τ1 68 k := fun k hk' => by
              rw [bgT_68o hk', chT_o (Or.inr (by omega))]
            refine ih (g + 1) (chP (hOf τ0 ns) (s + g) g j P) _ (K + 1 + d * (cdP m + 1)) (by omega) rf2 (bgT_at ac) oc (bgT_67 _ _) (bgT_68 _ _) (fun τ' w1 w2 w3 w4 f2 hf2 => ?_) f' (by omega)
            obtain ⟨p1, p2⟩ := at_back w2
            have bd2 := duV_bd (h := hOf τ0 ns) (al := alR τ0) m (g + 1) (s + g + 1) (stN (hOf τ0 ns) (s + g) j (P.2 g))
            have sr := stN_r (hOf τ0 ns) (s + g) j (P.2 g)
            have w68 : gM τ' 68 g = bsI y := by
              rw [w3 g (by omega), e68 g (by omega)]
              exact q5
            have ey : ∀ b, y = some b → b ≤ 100 := fun b hb => by have := hy b hb; omega
            unfold cnD
            rw [if_neg (by omega), pk_m1, chP_2]
            have tk := take_e (τ := τ') (n := g) (v := duV (hOf τ0 ns) (alR τ0) m (g + 1) (s + (g + 1)) (stN (hOf τ0 ns) (s + g) j (P.2 g))) (by omega) w68 ey (by
              have : duV (hOf τ0 ns) (alR τ0) m (g + 1) (s + (g + 1)) (stN (hOf τ0 ns) (s + g) j (P.2 g)) = duV (hOf τ0 ns) (alR τ0) m (g + 1) (s + g + 1) (stN (hOf τ0 ns) (s + g) j (P.2 g)) := rfl
              omega)
            rw [tk, Option.bind_some]
            have rf3 : rfT τ0 (pM τ' 68 (upd (gM τ' 68) g (bsI (tkO g y (duV (hOf τ0 ns) (alR τ0) m (g + 1) (s + (g + 1)) (stN (hOf τ0 ns) (s + g) j (P.2 g))))))) := w1.tr ⟨fun j hj => gM_ne (by omega), fun _ _ => rfl, fun _ => rfl⟩
            have at3 : atP (pM τ' 68 (upd (gM τ' 68) g (bsI (tkO g y (duV (hOf τ0 ns) (alR τ0) m (g + 1) (s + (g + 1)) (stN (hOf τ0 ns) (s + g) j (P.2 g))))))) g P := atP_same p1 (fun j _ _ => gM_ne (by omega))
            refine ihd (j + 1) (tkO g y (duV (hOf τ0 ns) (alR τ0) m (g + 1) (s + g + 1) (stN (hOf τ0 ns) (s + g) j (P.2 g)))) _ (by omega) ?_ ?_ rf3 at3 (fun k hk' => ?_) ?_ ?_ f2 (by omega)
            · exact (tkO_bd hy (by omega) (by omega)).1
            · rw [← hfd, estep, eF]
            · rw [gM_same, upd_ne (by omega), w3 k (by omega), e68 k (by omega)]
              exact q3 k hk'
            · rw [gM_ne (by omega), p2, nI_1]
              have := nextCh_e (rf3.house hh) (n := g) (c := (P.2 g).2.2.2) (by omega) (at3.2 g (Nat.le_refl _)).2.2.2 c64 (j := j + 1) (d := d) (by omega)
              rw [rf3.al] at this
              exact this
            · rw [gM_same, upd_same]
              rfl
          · have ef : nxC (chB (alR τ0) (P.2 g).2.2.2) (d + 1) j = nxC (chB (alR τ0) (P.2 g).2.2.2) d (j + 1) := if_neg e
            rw [ef] at q4
            have eF : duF (hOf τ0 ns) (alR τ0) m g (s + g) (P.2 g) j y = y := if_neg e
            exact ihd (j + 1) y τ1 (by omega) hy (by rw [← hfd, estep, eF]) q1 q2 q3 q4 q5 f (by omega)
      have hc1 : fX5_nextChoice_50 (nI g) (gM τ 67 g + (1 : Int32)) τ = some (nI (nxC (chB (alR τ0) (P.2 g).2.2.2) ns 1)) := by
        have := nextCh_e (hr.house hh) (n := g) (c := (P.2 g).2.2.2) (by omega) (ha.2 g (Nat.le_refl _)).2.2.2 c64 (j := 1) (d := ns) (by omega)
        rw [hr.al] at this
        rw [h67, show (0 : Int32) + 1 = nI 1 from by decide]
        exact this
      have lm : ns * (cdP m + 1) ≤ 6 * (cdP m + 1) := Nat.mul_le_mul_right _ hns
      refine kidsD ns 1 none τ (by omega) (fun b hb => by cases hb) rfl hr ha (fun k _ => rfl) hc1 h68 f (by omega)
theorem duel_same {σ τ : QS} (h : Inv σ τ) (x : Int32) : Same (fX4_duel_0 x σ) (fX5_duel_50 x τ) := by
  obtain ⟨ns, nc, s, p, a, c, hn⟩ := h.now
  have hn' := hn
  obtain ⟨hh, hs, hp, ⟨a1, a2⟩, hc, ⟨e13, e1⟩, ⟨e15, e2⟩, ⟨e17, e4⟩, ⟨e14, e6⟩, es⟩ := hn'
  have hns := hh.1
  have hnc := hh.2.1
  have e : fX5_in x.toInt64 (0 : Int64) (4 : Int64) = if x < 0 then 0 else if 4 < x then 0 else 1 := in_int x 0 4
  unfold fX4_duel_0 fX5_duel_50
  rw [e]
  by_cases c0 : x < 0
  · rw [if_pos c0, if_pos c0, if_pos rfl]
    exact Same.mk rfl rfl h
  by_cases c6 : x ≤ 4
  · obtain ⟨wt, hw, rfl⟩ := nI_of2 (M := 4) (n := 4) (by decide) c0 c6
    rw [if_neg c0, if_neg c0, if_pos c6, if_neg (show ¬ (4 : Int32) < nI wt from by rw [fa_lt]; rw [fa_le] at c6; omega), if_neg one_ne, hh.2.2.2.1, hh.2.2.2.2.1]
    by_cases h0 : ns = 0
    · rw [if_pos (by rw [h0]; rfl), if_pos (by rw [h0]; rfl)]
      exact Same.mk rfl rfl h
    rw [if_neg (by rw [nI0_e (by omega)]; exact h0), if_neg (by rw [nI0_e (by omega)]; exact h0), over_c hh e13 hs, min_e (by omega) (by omega), e2, begin_e, Option.bind_some]
    have hA : alB (alS (gM τ 53) (gM σ 25) ns) ns (alR τ) := al_al (fun k hk => by rw [es k hk]; rfl)
    have e11 : gI (bpT τ (nI p)) 11 = nI (nc - s) := bp_11 hh.2.2.2.2.2.2.1 e1 hs
    have tu : ∀ K : Int32 → Option (Int32 × QS), lt_ K (fun (j2 : Int32 → Option (Int32 × QS)) => (if (gI (bpT τ (nI p)) 11) ≤ nI wt then j2 (gI (bpT τ (nI p)) 11) else j2 (nI wt))) = K (nI (min wt (nc - s))) := fun K => by
      rw [lt_q, e11]
      by_cases q : nc - s ≤ wt
      · rw [if_pos (by rw [nI_L (by omega) (by omega)]; exact q), show min wt (nc - s) = nc - s by omega]
      · rw [if_neg (by rw [nI_L (by omega) (by omega)]; exact q), show min wt (nc - s) = wt by omega]
    have R : ∃ τ', rfT τ τ' ∧ Option.bind (fX5_beginTurn_50 (0 : Int32) (bpT τ (nI p))) (fun (q4 : QS) => lp_ (duB (nI (min wt (nc - s)))) FV ((0 : Int32), q4)) = some (nI (duV (hOf τ ns) (alR τ) (min wt (nc - s)) 0 s (p, a, 0, c)), τ') := by
      have bt : fX5_beginTurn_50 (0 : Int32) (bpT τ (nI p)) = some (bgT (bpT τ (nI p)) 0) := beginTurn_e (n := 0) (by omega)
      rw [bt, Option.bind_some]
      have cd4 : cdP (min wt (nc - s)) ≤ 10000 := by
        have : min wt (nc - s) = 0 ∨ min wt (nc - s) = 1 ∨ min wt (nc - s) = 2 ∨ min wt (nc - s) = 3 ∨ min wt (nc - s) = 4 := by omega
        rcases this with w | w | w | w | w <;> rw [w] <;> decide
      have rf0 := (bp_rf (nI p) τ).tr (bgT_rf (bpT τ (nI p)) 0)
      obtain ⟨τ', g1, g2⟩ := duel_go hh e1 (by omega) (by omega) (R := fun o => ∃ τ', rfT τ τ' ∧ o = some (nI (duV (hOf τ ns) (alR τ) (min wt (nc - s)) 0 s (p, a, 0, c)), τ')) (T := min wt (nc - s)) (min wt (nc - s)) 0 (P0 p a c) (bgT (bpT τ (nI p)) 0) 1 (by omega) rf0 (bgT_at (bp_at e4 e6)) (ok_0 hp a1 a2 hc) (bgT_67 _ _) (bgT_68 _ _) (fun τ' w1 _ _ w4 f hf => ⟨τ', w1, by
        obtain ⟨f', rfl⟩ : ∃ f', f = f' + 1 := ⟨f - 1, by omega⟩
        unfold cnD
        rw [if_pos rfl]
        show duB _ (lp_ (duB _) f') (nI 0 + (-1 : Int32), τ') = _
        unfold duB
        simp only []
        rw [if_pos (show nI 0 + (-1 : Int32) < 0 by decide), w4]
        rfl⟩) FV (Nat.le_trans (by omega) FV_ge)
      exact ⟨τ', g1, g2⟩
    obtain ⟨τ', g1, g2⟩ := R
    have hd := duelFrom_e (σ := pI σ 19 (nI (alS (gM τ 53) (gM σ 25) ns))) (τ := τ) hh hA (gI_same _ _ _) (min wt (nc - s)) DP 0 s 0 (p, a, 0, c) (by omega) (by omega) (by show min wt (nc - s) < 8; omega) ⟨by show p ≤ 999; omega, by show _ ≤ a; omega, by show a ≤ _; omega, Nat.zero_le _, hc⟩
    have CL : fX2_findDuel_7 (nI (min wt (nc - s))) σ = some (nI (duV (hOf τ ns) (alR τ) (min wt (nc - s)) 0 s (p, a, 0, c)), pI σ 19 (nI (alS (gM τ 53) (gM σ 25) ns))) := by
      have hd' : fX2_duelFrom_7 DP (gI (pI σ 19 (nI (alS (gM τ 53) (gM σ 25) ns))) 13) (gI (pI σ 19 (nI (alS (gM τ 53) (gM σ 25) ns))) 13 + nI (min wt (nc - s))) (gI (pI σ 19 (nI (alS (gM τ 53) (gM σ 25) ns))) 14) (gI (pI σ 19 (nI (alS (gM τ 53) (gM σ 25) ns))) 17) (gI (pI σ 19 (nI (alS (gM τ 53) (gM σ 25) ns))) 15) (1 : Int32) (pI σ 19 (nI (alS (gM τ 53) (gM σ 25) ns))) = some (nI (duV (hOf τ ns) (alR τ) (min wt (nc - s)) 0 s (p, a, 0, c) - 0)) := by
        rw [gI_ne (by omega), gI_ne (by omega), gI_ne (by omega), gI_ne (by omega), e13, e14, e15, e17, nI_add]
        exact hd
      unfold fX2_findDuel_7
      rw [alC_e hh, Option.bind_some, lt_q, hd', Option.bind_some, Nat.sub_zero]
    rw [CL, Option.bind_some]
    refine Same.mk rfl ?_ (inv_srch h ((srC.rf σ).i (by omega) _) g1)
    refine (tu _).trans ?_
    exact g2
  · rw [if_neg c0, if_neg c0, if_neg c6, if_pos (show (4 : Int32) < x from by rw [fa_lt]; rw [fa_le] at c6; omega), if_pos rfl]
    exact Same.mk rfl rfl h
