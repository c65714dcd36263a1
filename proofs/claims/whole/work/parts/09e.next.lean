/-! ===== the reference's plans: one choice, the next choice, the next plan ===== -/
abbrev PZ (z : Int) : Int32 := Int32.ofInt z
theorem PZ_t {z : Int} (h1 : -1000000 ≤ z) (h2 : z ≤ 1000000) : (PZ z).toInt = z := fb_ofI (by omega) (by omega)
theorem PZ_add (a b : Int) : PZ a + PZ b = PZ (a + b) := (Int32.ofInt_add a b).symm
theorem PZ_2 (a : Int) : PZ a + (2 : Int32) = PZ (a + 2) := PZ_add a 2
theorem PZ_1 (a : Int) : PZ a + (1 : Int32) = PZ (a + 1) := PZ_add a 1
theorem PZ_m1 (a : Int) : PZ a + (-1 : Int32) = PZ (a - 1) := by
  have e : (-1 : Int32) = PZ (-1) := by decide
  rw [e, PZ_add]
  rfl
theorem stN_0 (h : HH) (s : Nat) (d : ND) : stN h s 0 d = d := rfl
theorem PZ_0 (a : Int) : PZ a + (0 : Int32) = PZ a := Int32.add_zero _
theorem lt_q {α β : Type} (e : α) (k : α → β) : lt_ e k = k e := rfl
theorem ck_q {β : Type} (k : Option β) : ck_ true k = k := rfl
noncomputable def chT (τ : QS) (n k : Nat) (d : ND) : QS := pM (pM (pM (pM (pM τ 67 (upd (gM τ 67) n (nI k))) 63 (upd (gM τ 63) (n + 1) (nI d.1))) 64 (upd (gM τ 64) (n + 1) (PZ d.2.1))) 65 (upd (gM τ 65) (n + 1) (nI d.2.2.1))) 66 (upd (gM τ 66) (n + 1) (nI d.2.2.2))
theorem chT_67 (τ : QS) (n k : Nat) (d : ND) : gM (chT τ n k d) 67 = upd (gM τ 67) n (nI k) := rfl
theorem chT_63 (τ : QS) (n k : Nat) (d : ND) : gM (chT τ n k d) 63 = upd (gM τ 63) (n + 1) (nI d.1) := rfl
theorem chT_64 (τ : QS) (n k : Nat) (d : ND) : gM (chT τ n k d) 64 = upd (gM τ 64) (n + 1) (PZ d.2.1) := rfl
theorem chT_65 (τ : QS) (n k : Nat) (d : ND) : gM (chT τ n k d) 65 = upd (gM τ 65) (n + 1) (nI d.2.2.1) := rfl
theorem chT_66 (τ : QS) (n k : Nat) (d : ND) : gM (chT τ n k d) 66 = upd (gM τ 66) (n + 1) (nI d.2.2.2) := rfl
theorem chT_o {τ : QS} {n k : Nat} {d : ND} {j : Nat} (h : j < 63 ∨ 67 < j) : gM (chT τ n k d) j = gM τ j := by
  unfold chT
  rw [gM_ne (by omega), gM_ne (by omega), gM_ne (by omega), gM_ne (by omega), gM_ne (by omega)]
theorem chT_i (τ : QS) (n k : Nat) (d : ND) (j : Nat) : gI (chT τ n k d) j = gI τ j := rfl
theorem chT_j (τ : QS) (n k : Nat) (d : ND) (j : Nat) : gJ (chT τ n k d) j = gJ τ j := rfl
theorem choose_gen {τ : QS} {n : Nat} (hn : n < 6) {x v1 v3 v5 v10 v15 v20 v25 : Int32} (e1 : x - (1 : Int32) = v1)
    (A : ∀ K : Int32 → Option QS, lt_ K (fun (j2 : Int32 → Option (QS)) => (if 0 ≤ v1 then ck_ (inb (nI n) 7) (ck_ (inb (nI n) 7) (Option.bind (fX5_lacking_50 v1 ((gM τ 51 1) + nI n) (gM τ 64 (nI n).toNatClampNeg) (gM τ 66 (nI n).toNatClampNeg) τ) (fun (q31 : Int32) => j2 q31))) else j2 (0 : Int32))) = K v3)
    (B : ∀ K : Int32 → Option QS, lt_ K (fun (j4 : Int32 → Option (QS)) => (if v1 < 0 then j4 (0 : Int32) else ck_ (inb (nI n) 7) ((if (gM τ 63 (nI n).toNatClampNeg) < v3 then j4 (0 : Int32) else j4 (1 : Int32))))) = K v5)
    (C : ∀ K : Int32 → Option QS, lt_ K (fun (j9 : Int32 → Option (QS)) => (if v5 = 0 then j9 (0 : Int32) else j9 v3)) = K v10)
    (D : ∀ K : Int32 → Option QS, lt_ K (fun (j14 : Int32 → Option (QS)) => (if 0 ≤ v1 then (if v5 = 0 then j14 (-1 : Int32) else (if v3 = 0 then j14 (2 : Int32) else j14 (1 : Int32))) else j14 (0 : Int32))) = K v15)
    (E : ∀ K : Int32 → Option QS, lt_ K (fun (j19 : Int32 → Option (QS)) => (if v5 = 0 then j19 (0 : Int32) else j19 (1 : Int32))) = K v20)
    (F : ∀ K : Int32 → Option QS, lt_ K (fun (j24 : Int32 → Option (QS)) => (if 0 ≤ v1 then j24 ((1 : Int32) <<< (v1 &&& 31)) else j24 (0 : Int32))) = K v25) :
    fX5_choose_50 (nI n) x τ = some (pM (pM (pM (pM (pM τ 67 (upd (gM τ 67) n x)) 63 (upd (gM τ 63) (n + 1) (gM τ 63 n - v10))) 64 (upd (gM τ 64) (n + 1) (gM τ 64 n + v15))) 65 (upd (gM τ 65) (n + 1) (gM τ 65 n + v20))) 66 (upd (gM τ 66) (n + 1) (gM τ 66 n ||| v25))) := by
  have i1 : inb (nI n) 7 = true := inb_n (by omega) (by omega)
  have i2 : inb (nI n + (1 : Int32)) 7 = true := by rw [nI_1]; exact inb_n (by omega) (by omega)
  have c1 : (nI n).toNatClampNeg = n := nI_c (by omega)
  have c2 : (nI n + (1 : Int32)).toNatClampNeg = n + 1 := by rw [nI_1]; exact nI_c (by omega)
  unfold fX5_choose_50
  refine (lt_q _ _).trans ?_
  rw [e1]
  refine (A _).trans ?_
  refine (B _).trans ?_
  refine (ck_t i1).trans ?_
  refine (lt_q _ _).trans ?_
  refine (ck_t i1).trans ?_
  refine (C _).trans ?_
  refine (ck_t i2).trans ?_
  refine (lt_q _ _).trans ?_
  refine (ck_t i1).trans ?_
  refine (D _).trans ?_
  refine (ck_t i2).trans ?_
  refine (lt_q _ _).trans ?_
  refine (ck_t i1).trans ?_
  refine (E _).trans ?_
  refine (ck_t i2).trans ?_
  refine (lt_q _ _).trans ?_
  refine (ck_t i1).trans ?_
  refine (F _).trans ?_
  refine (ck_t i2).trans ?_
  refine (lt_q _ _).trans ?_
  rw [c1, c2]
  rfl
theorem choose_e {σ τ : QS} {ns nc : Nat} (hh : HouseOk σ τ ns nc) {s0 n k : Nat} {d : ND} (h1 : gM τ 51 1 = nI s0) (hs : s0 + n < nc) (hn : n < 6) (hk : k ≤ ns) (hp : gM τ 63 n = nI d.1) (ha : gM τ 64 n = PZ d.2.1) (hr : gM τ 65 n = nI d.2.2.1) (hc : gM τ 66 n = nI d.2.2.2) (b1 : d.1 ≤ 999) (b2 : -500 ≤ d.2.1) (b3 : d.2.1 ≤ 500) (b4 : d.2.2.2 < 64) : fX5_choose_50 (nI n) (nI k) τ = some (chT τ n k (stN (hOf τ ns) (s0 + n) k d)) := by
  have hns := hh.1
  have hnc := hh.2.1
  have i1 : inb (nI n) 7 = true := inb_n (by omega) (by omega)
  have c1 : (nI n).toNatClampNeg = n := nI_c (by omega)
  unfold chT
  cases k with
  | zero =>
    have v1 : nI 0 - (1 : Int32) = -1 := by decide
    have t1 : ¬ 0 ≤ (-1 : Int32) := by decide
    have t2 : (-1 : Int32) < 0 := by decide
    rw [choose_gen hn v1 (v3 := 0) (v5 := 0) (v10 := 0) (v15 := 0) (v20 := 0) (v25 := 0) (fun K => by rw [lt_q, if_neg t1]) (fun K => by rw [lt_q, if_pos t2]) (fun K => by rw [lt_q, if_pos rfl]) (fun K => by rw [lt_q, if_neg t1]) (fun K => by rw [lt_q, if_pos rfl]) (fun K => by rw [lt_q, if_neg t1]), stN_0, hp, ha, hr, hc, Int32.sub_zero, Int32.add_zero, Int32.add_zero, Int32.or_zero]
  | succ i =>
    have hi : i < ns := by omega
    have v1 : nI (i + 1) - (1 : Int32) = nI i := by show nI (i + 1) - nI 1 = _; rw [pk_sub (by omega)]; rfl
    have t1 : 0 ≤ nI i := nI_pos' (by omega)
    have t2 : ¬ nI i < 0 := nneg (by omega)
    have lk : fX5_lacking_50 (nI i) (nI s0 + nI n) (PZ d.2.1) (nI d.2.2.2) τ = some (nI (lkZ (hOf τ ns) i (s0 + n) d.2.1 d.2.2.2)) := by
      rw [nI_add, lackR_e hh (by omega) (by omega) b4, lack_z (hbd_of hh) hi hs (by rw [PZ_t (by omega) (by omega)]; omega) (by rw [PZ_t (by omega) (by omega)]; omega), PZ_t (by omega) (by omega)]
    have l9 := lkZ_le (hbd_of hh) (i := i) hs d.2.1 d.2.2.2
    have A : ∀ K : Int32 → Option QS, lt_ K (fun (j2 : Int32 → Option (QS)) => (if 0 ≤ nI i then ck_ (inb (nI n) 7) (ck_ (inb (nI n) 7) (Option.bind (fX5_lacking_50 (nI i) ((gM τ 51 1) + nI n) (gM τ 64 (nI n).toNatClampNeg) (gM τ 66 (nI n).toNatClampNeg) τ) (fun (q31 : Int32) => j2 q31))) else j2 (0 : Int32))) = K (nI (lkZ (hOf τ ns) i (s0 + n) d.2.1 d.2.2.2)) := fun K => by
      rw [lt_q, if_pos t1, ck_t i1, ck_t i1, c1, h1, ha, hc, lk, Option.bind_some]
    have F : ∀ K : Int32 → Option QS, lt_ K (fun (j24 : Int32 → Option (QS)) => (if 0 ≤ nI i then j24 ((1 : Int32) <<< (nI i &&& 31)) else j24 (0 : Int32))) = K (nI (2 ^ i)) := fun K => by
      rw [lt_q, if_pos t1, shl_e (show i < 31 by omega)]
    by_cases q : d.1 < lkZ (hOf τ ns) i (s0 + n) d.2.1 d.2.2.2
    · have t3 : nI d.1 < nI (lkZ (hOf τ ns) i (s0 + n) d.2.1 d.2.2.2) := (nI_l2 (by omega) (by omega)).mpr q
      rw [choose_gen hn v1 (v5 := 0) (v10 := 0) (v15 := -1) (v20 := 0) A (fun K => by rw [lt_q, if_neg t2, ck_t i1, c1, hp, if_pos t3]) (fun K => by rw [lt_q, if_pos rfl]) (fun K => by rw [lt_q, if_pos t1, if_pos rfl]) (fun K => by rw [lt_q, if_pos rfl]) F, stN_no q, hp, ha, hr, hc, Int32.sub_zero, Int32.add_zero, PZ_m1, fa_or]
    · have t3 : ¬ nI d.1 < nI (lkZ (hOf τ ns) i (s0 + n) d.2.1 d.2.2.2) := fun w => q ((nI_l2 (by omega) (by omega)).mp w)
      have sb : nI d.1 - nI (lkZ (hOf τ ns) i (s0 + n) d.2.1 d.2.2.2) = nI (d.1 - lkZ (hOf τ ns) i (s0 + n) d.2.1 d.2.2.2) := pk_sub (by omega)
      by_cases z : lkZ (hOf τ ns) i (s0 + n) d.2.1 d.2.2.2 = 0
      · have t5 : nI (lkZ (hOf τ ns) i (s0 + n) d.2.1 d.2.2.2) = 0 := (nI0_e (by omega)).mpr z
        rw [choose_gen hn v1 (v5 := 1) (v10 := nI (lkZ (hOf τ ns) i (s0 + n) d.2.1 d.2.2.2)) (v15 := 2) (v20 := 1) A (fun K => by rw [lt_q, if_neg t2, ck_t i1, c1, hp, if_neg t3]) (fun K => by rw [lt_q, if_neg one_ne]) (fun K => by rw [lt_q, if_pos t1, if_neg one_ne, if_pos t5]) (fun K => by rw [lt_q, if_neg one_ne]) F, stN_yes q, if_pos z, hp, ha, hr, hc, sb, PZ_2, nI_1, fa_or]
      · have t5 : ¬ nI (lkZ (hOf τ ns) i (s0 + n) d.2.1 d.2.2.2) = 0 := fun w => z ((nI0_e (by omega)).mp w)
        rw [choose_gen hn v1 (v5 := 1) (v10 := nI (lkZ (hOf τ ns) i (s0 + n) d.2.1 d.2.2.2)) (v15 := 1) (v20 := 1) A (fun K => by rw [lt_q, if_neg t2, ck_t i1, c1, hp, if_neg t3]) (fun K => by rw [lt_q, if_neg one_ne]) (fun K => by rw [lt_q, if_pos t1, if_neg one_ne, if_neg t5]) (fun K => by rw [lt_q, if_neg one_ne]) F, stN_yes q, if_neg z, hp, ha, hr, hc, sb, PZ_1, nI_1, fa_or]
def nxC (p : Nat → Bool) : Nat → Nat → Nat
  | 0, j => j
  | d + 1, j => if p j = true then j else nxC p d (j + 1)
noncomputable def alR (τ : QS) : Nat → Bool := fun i => sitP (gM τ 53 i) (gM τ 51 (7 + i))
theorem nextCh_e {σ τ : QS} {ns nc : Nat} (hh : HouseOk σ τ ns nc) {n c : Nat} (hn : n < 7) (hc : gM τ 66 n = nI c) (c6 : c < 64) {j d : Nat} (hj : j + d = ns + 1) : fX5_nextChoice_50 (nI n) (nI j) τ = some (nI (nxC (chB (alR τ) c) d j)) := by
  have hns := hh.1
  have i1 : inb (nI n) 7 = true := inb_n hn (by omega)
  have c1 : (nI n).toNatClampNeg = n := nI_c (by omega)
  unfold fX5_nextChoice_50
  have key : ∀ d j, j + d = ns + 1 → ∀ f, d < f → lp_ (fun (r2 : Int32 → Option (Int32)) (a1 : Int32) => (if a1 ≤ 0 then some a1 else (if (gI τ 1) < a1 then some a1 else ck_ (inb (nI n) 7) (Option.bind (fX5_mayCall_50 (a1 - (1 : Int32)) (gM τ 66 (nI n).toNatClampNeg) τ) (fun (q4 : Int32) => (if q4 = 0 then r2 (a1 + (1 : Int32)) else some a1)))))) f (nI j) = some (nI (nxC (chB (alR τ) c) d j)) := by
    intro d
    induction d with
    | zero =>
      intro j hj f hf
      obtain ⟨f', rfl⟩ : ∃ f', f = f' + 1 := ⟨f - 1, by omega⟩
      show (if nI j ≤ 0 then _ else (if (gI τ 1) < nI j then some (nI j) else _)) = some (nI j)
      rw [if_neg (show ¬ nI j ≤ 0 from by show ¬ nI j ≤ nI 0; rw [nI_L (by omega) (by omega)]; omega), hh.2.2.2.2.1, if_pos (by rw [nI_l2 (by omega) (by omega)]; omega)]
    | succ d ih =>
      intro j hj f hf
      obtain ⟨f', rfl⟩ : ∃ f', f = f' + 1 := ⟨f - 1, by omega⟩
      cases j with
      | zero => rfl
      | succ i =>
        have v1 : nI (i + 1) - (1 : Int32) = nI i := by show nI (i + 1) - nI 1 = _; rw [pk_sub (by omega)]; rfl
        show (if nI (i + 1) ≤ 0 then some (nI (i + 1)) else (if (gI τ 1) < nI (i + 1) then some (nI (i + 1)) else ck_ (inb (nI n) 7) (Option.bind (fX5_mayCall_50 (nI (i + 1) - (1 : Int32)) (gM τ 66 (nI n).toNatClampNeg) τ) (fun (q4 : Int32) => (if q4 = 0 then lp_ _ f' (nI (i + 1) + (1 : Int32)) else some (nI (i + 1))))))) = some (nI (if chB (alR τ) c (i + 1) = true then i + 1 else nxC (chB (alR τ) c) d (i + 1 + 1)))
        rw [if_neg (show ¬ nI (i + 1) ≤ 0 from by show ¬ nI (i + 1) ≤ nI 0; rw [nI_L (by omega) (by omega)]; omega), hh.2.2.2.2.1, if_neg (by rw [nI_l2 (by omega) (by omega)]; omega), ck_t i1, v1, c1, hc, may_e (by omega) c6, Option.bind_some, nI_1]
        have ea : (!(c.testBit i) && sitP (gM τ 53 i) (gM τ 51 (7 + i))) = chB (alR τ) c (i + 1) := rfl
        rw [ea]
        cases e : chB (alR τ) c (i + 1)
        · rw [if_neg (show ¬ false = true by decide), if_pos rfl, if_neg (show ¬ false = true by decide)]
          have ih' := ih (i + 1 + 1) (by omega) f' (by omega)
          rw [hh.2.2.2.2.1, c1, hc] at ih'
          exact ih'
        · rw [if_pos rfl, if_neg one_ne, if_pos rfl]
  exact key d j hj FV (Nat.lt_of_lt_of_le (by omega) FV_ge)
noncomputable def npB : (Int32 × QS → Option (Int32 × QS)) → Int32 × QS → Option (Int32 × QS) := (fun (r6 : Int32 × QS → Option (Int32 × QS)) (a5 : Int32 × QS) => (if a5.1 < 0 then some ((0 : Int32), a5.2) else ck_ (inb a5.1 7) (Option.bind (fX5_nextChoice_50 a5.1 ((gM a5.2 67 a5.1.toNatClampNeg) + (1 : Int32)) a5.2) (fun (q8 : Int32) => (if q8 ≤ (gI a5.2 1) then Option.bind (fX5_choose_50 a5.1 q8 a5.2) (fun (q9 : QS) => (if (a5.1 + (1 : Int32)) = (gI q9 11) then some ((1 : Int32), q9) else ck_ (inb (a5.1 + (1 : Int32)) 7) (lt_ (pM q9 67 (upd (gM q9 67) ((a5.1 + (1 : Int32)).toNatClampNeg) (-1 : Int32))) (fun (S11 : QS) => r6 ((a5.1 + (1 : Int32)), S11))))) else r6 ((a5.1 + (-1 : Int32)), a5.2))))))
theorem nextPlan_e {τ : QS} (h : gI τ 12 = 1) : fX5_nextPlan_50 τ = lp_ npB FV (gI τ 11 - 1, τ) := by
  have t1 : (gI τ 12 = 0) = False := by rw [h]; exact eq_false one_ne
  have e : pI τ 12 1 = τ := by rw [← h, pI_self]
  unfold fX5_nextPlan_50
  simp only [↓lt_q, ↓reduceIte, t1, e, ite_self]
  rfl
theorem nextPlan_0 {τ : QS} (h : gI τ 12 = 0) (hM : ¬ gI τ 11 = 0) : fX5_nextPlan_50 τ = lp_ npB FV (0, pI τ 12 1) := by
  have t1 : (gI τ 12 = 0) = True := eq_true h
  have t2 : (gI τ 11 = 0) = False := eq_false hM
  unfold fX5_nextPlan_50
  simp only [↓lt_q, ↓reduceIte, t1, t2]
  rfl
theorem nextPlan_00 {τ : QS} (h : gI τ 12 = 0) (hM : gI τ 11 = 0) : fX5_nextPlan_50 τ = some (1, pI τ 12 1) := by
  have t1 : (gI τ 12 = 0) = True := eq_true h
  have t2 : (gI τ 11 = 0) = True := eq_true hM
  unfold fX5_nextPlan_50
  simp only [↓lt_q, ↓reduceIte, t1, t2]
