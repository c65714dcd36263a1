/-! ===== what holds between the class's state σ and the reference's τ ===== -/
/-- how many other claques below n were not called -/
def clq (kd : Nat → Int32) (but c : Nat) : Nat → Nat
  | 0 => 0
  | j + 1 => clq kd but c j + (if j ≠ but ∧ kd j = 5 ∧ c.testBit j = false then 1 else 0)
/-- a house: sitters, lines, kinds, memories, frights -/
abbrev HH : Type := Nat × (Nat → Int32) × (Nat → Int32) × (Nat → Int32) × (Nat → Int32)
abbrev hN (h : HH) : Nat := h.1
abbrev hL (h : HH) : Nat → Int32 := h.2.1
abbrev hK (h : HH) : Nat → Int32 := h.2.2.1
abbrev hM (h : HH) : Nat → Int32 := h.2.2.2.1
abbrev hF (h : HH) : Nat → Int32 := h.2.2.2.2
noncomputable def sayP (h : HH) (i : Nat) (a : Int32) (c : Nat) : Int32 := fX5_saysBy (hK h i) (hM h i) (hF h i) a (nI (clq (hK h) i c (hN h)))
noncomputable def lackP (h : HH) (i s : Nat) (a : Int32) (c : Nat) : Int32 := fX5_atLeast (hL h s - sayP h i a c)
/-- may be called from that seat -/
noncomputable def sitP (k s : Int32) : Bool := decide (fX4_isCallableFrom k s = 1)
/-- a night as the reference keeps it: scene, prompts, shame, applause, carried, called, seats -/
abbrev NV : Type := Nat → Int32
def cOf (v : NV) : Nat := (v 5).toNatClampNeg
def sOf (v : NV) : Nat := (v 0).toNatClampNeg
noncomputable def canP (h : HH) (v : NV) (i : Nat) : Bool := !((cOf v).testBit i) && sitP (hK h i) (v (6 + i))
noncomputable def doCallP (h : HH) (i : Nat) (v : NV) : NV := fun k =>
  if k = 0 then v 0 + 1
  else if k = 1 then (if v 1 < lackP h i (sOf v) (v 3) (cOf v) then v 1 else v 1 - lackP h i (sOf v) (v 3) (cOf v))
  else if k = 2 then (if v 1 < lackP h i (sOf v) (v 3) (cOf v) then v 2 else v 2 + lackP h i (sOf v) (v 3) (cOf v))
  else if k = 3 then (if v 1 < lackP h i (sOf v) (v 3) (cOf v) then v 3 - 1 else if lackP h i (sOf v) (v 3) (cOf v) = 0 then v 3 + 2 else v 3 + 1)
  else if k = 4 then (if v 1 < lackP h i (sOf v) (v 3) (cOf v) then v 4 else v 4 + 1)
  else if k = 5 then v 5 ||| nI (2 ^ i)
  else v k
def doCutP (v : NV) : NV := fun k => if k = 0 then v 0 + 1 else v k
def doSwapP (i j : Nat) (v : NV) : NV := fun k => if k = 6 + i then v (6 + j) else if k = 6 + j then v (6 + i) else v k
noncomputable def doP (h : HH) (d : Int32) (v : NV) : NV :=
  if d = -9 then doCutP v else if d < 10 then doCallP h d.toNatClampNeg v else doSwapP ((d.toNatClampNeg - 10) / 6) ((d.toNatClampNeg - 10) % 6) v
def okP (h : HH) (nc : Nat) (v : NV) (d : Int32) : Prop :=
  (d = -9 ∧ sOf v < nc) ∨ (∃ i, i < hN h ∧ d = nI i ∧ sOf v < nc ∧ canP h v i = true) ∨ (∃ i j, i < hN h ∧ j < hN h ∧ i ≠ j ∧ d = nI (10 + 6 * i + j))
noncomputable def repP (h : HH) (v0 : NV) (D : Nat → Int32) : Nat → NV
  | 0 => v0
  | n + 1 => doP h (D n) (repP h v0 D n)
/-- what a night's numbers are -/
def nvOk (ns nc pr : Nat) (v : NV) : Prop :=
  (∃ s, s ≤ nc ∧ v 0 = nI s ∧ -(s : Int) ≤ (v 3).toInt ∧ (v 3).toInt ≤ 2 * s ∧ ∃ k, k ≤ s ∧ v 4 = nI k) ∧ (∃ p q, p + q = pr ∧ v 1 = nI p ∧ v 2 = nI q) ∧ (∃ c, c < 2 ^ ns ∧ v 5 = nI c) ∧ ∀ i, i < ns → ∃ t, t < 10 ∧ v (6 + i) = nI t
def RowsOk (σ τ : QS) : Prop := ∀ r, r < 6 → gM σ 10 r = gM τ 56 r ∧ (gM σ 10 r = -1 ∨ ∃ n, n ≤ 40 ∧ gM σ 10 r = nI n ∧ ∀ k, k < n → gM σ (30 + r) k = gM τ 57 (40 * r + k))
def TextsOk (σ τ : QS) : Prop := ∀ t, t < 4 → gM σ 12 t = gM τ 58 t ∧ (gM σ 12 t = -1 ∨ ∃ n, n ≤ 60 ∧ gM σ 12 t = nI n ∧ ∀ k, k < n → gM σ (36 + t) k = gM τ 59 (60 * t + k))
def FindOk (σ τ : QS) : Prop := gI σ 0 = gI τ 3 ∧ ∀ f, f < 6 → gM σ 8 f = gM τ 60 f
def ToldOk (σ τ : QS) : Prop := gI σ 1 = gI τ 2
def FracOk (σ τ : QS) : Prop := gJ σ 0 = gJ τ 0 ∧ gJ σ 1 = gJ τ 1
/-- the table of how many plans there are -/
def pcnt : Nat → Nat → Nat
  | 0, _ => 1
  | _ + 1, 0 => 1
  | n + 1, k + 1 => pcnt n (k + 1) + (k + 1) * pcnt n k
def TabOk (σ : QS) : Prop := ∀ n, n < 7 → ∀ k, k < 7 → gM σ (43 + n) k = nI (pcnt n k)
def HouseOk (σ τ : QS) (ns nc : Nat) : Prop :=
  ns ≤ 6 ∧ nc ≤ 6 ∧ (ns = 0 ↔ nc = 0) ∧ gI σ 9 = nI ns ∧ gI τ 1 = nI ns ∧ gI σ 8 = nI nc ∧ gI τ 0 = nI nc ∧
  (∀ k, k < nc → gM σ 20 k = gM τ 52 k ∧ ∃ v, 1 ≤ v ∧ v ≤ 9 ∧ gM σ 20 k = nI v) ∧
  (∀ i, i < ns → gM σ 21 i = gM τ 53 i ∧ gM σ 23 i = gM τ 54 i ∧ gM σ 24 i = gM τ 55 i ∧ (∃ v, v < 6 ∧ gM σ 21 i = nI v) ∧ (∃ v, v < 10 ∧ gM σ 23 i = nI v) ∧ (∃ v, v < 10 ∧ gM σ 24 i = nI v)) ∧
  ∃ cb, cb < 2 ^ ns ∧ gI σ 11 = nI cb ∧ ∀ i, i < ns → cb.testBit i = decide (gM σ 21 i = 5)
abbrev hOf (τ : QS) (ns : Nat) : HH := (ns, gM τ 52, gM τ 53, gM τ 54, gM τ 55)
/-- how the night begins, by the script that the class holds -/
def v0Of (σ : QS) (ns : Nat) : NV := fun k => if k = 1 then gI σ 7 else if 6 ≤ k ∧ k < 6 + ns then gM σ 22 (k - 6) else 0
def BegOk (σ : QS) (ns pr : Nat) : Prop := pr ≤ 9 ∧ gI σ 7 = nI pr ∧ ∀ i, i < ns → ∃ t, t < 10 ∧ gM σ 22 i = nI t
/-- a history in the reference's row, from place b on -/
def HistOk (τ : QS) (b : Nat) (h : HH) (nc : Nat) (v0 : NV) (D : Nat → Int32) (n : Nat) : Prop :=
  n ≤ 40 ∧ gM τ 51 b = nI n ∧ (∀ j, j < 12 → gM τ 51 (b + 1 + j) = repP h v0 D n j) ∧ (∀ k, k < n → ∀ j, j < 12 → gM τ 51 (b + 13 + 12 * k + j) = repP h v0 D k j) ∧ ∀ k, k < n → okP h nc (repP h v0 D k) (D k)
/-- the class's night -/
def NightOk (σ : QS) (ns : Nat) (v : NV) : Prop := gI σ 13 = v 0 ∧ gI σ 15 = v 1 ∧ gI σ 16 = v 2 ∧ gI σ 17 = v 3 ∧ gI σ 18 = v 4 ∧ gI σ 14 = v 5 ∧ ∀ i, i < ns → gM σ 25 i = v (6 + i)
def CurOk (σ τ : QS) (ns nc : Nat) : Prop := ∃ n, gI σ 12 = nI n ∧ HistOk τ 0 (hOf τ ns) nc (v0Of σ ns) (gM σ 26) n ∧ NightOk σ ns (repP (hOf τ ns) (v0Of σ ns) (gM σ 26) n)
def KeptOk (σ τ : QS) (ns nc : Nat) : Prop := ∀ k, k < 3 → (gM σ 14 k = -1 ∧ gM τ 51 (493 * (k + 1)) = -1) ∨ ∃ n, gM σ 14 k = nI n ∧ HistOk τ (493 * (k + 1)) (hOf τ ns) nc (v0Of σ ns) (gM σ (40 + k)) n
def Inv2 (σ τ : QS) (ns nc pr : Nat) : Prop := HouseOk σ τ ns nc ∧ BegOk σ ns pr ∧ CurOk σ τ ns nc ∧ KeptOk σ τ ns nc
def Inv (σ τ : QS) : Prop := RowsOk σ τ ∧ TextsOk σ τ ∧ FindOk σ τ ∧ ToldOk σ τ ∧ FracOk σ τ ∧ TabOk σ ∧ ∃ ns nc pr, Inv2 σ τ ns nc pr
/-- the parts that a change elsewhere leaves -/
theorem RowsOk.keep {σ τ σ' τ' : QS} (h : RowsOk σ τ) (h1 : gM σ' 10 = gM σ 10) (h2 : ∀ r, r < 6 → gM σ' (30 + r) = gM σ (30 + r)) (h3 : gM τ' 56 = gM τ 56) (h4 : gM τ' 57 = gM τ 57) : RowsOk σ' τ' := by
  intro r hr
  rw [h1, h2 r hr, h3, h4]
  exact h r hr
theorem TextsOk.keep {σ τ σ' τ' : QS} (h : TextsOk σ τ) (h1 : gM σ' 12 = gM σ 12) (h2 : ∀ r, r < 4 → gM σ' (36 + r) = gM σ (36 + r)) (h3 : gM τ' 58 = gM τ 58) (h4 : gM τ' 59 = gM τ 59) : TextsOk σ' τ' := by
  intro r hr
  rw [h1, h2 r hr, h3, h4]
  exact h r hr
theorem FindOk.keep {σ τ σ' τ' : QS} (h : FindOk σ τ) (h1 : gI σ' 0 = gI σ 0) (h2 : gM σ' 8 = gM σ 8) (h3 : gI τ' 3 = gI τ 3) (h4 : gM τ' 60 = gM τ 60) : FindOk σ' τ' := by
  unfold FindOk
  rw [h1, h2, h3, h4]
  exact h
theorem TabOk.keep {σ σ' : QS} (h : TabOk σ) (h1 : ∀ n, n < 7 → gM σ' (43 + n) = gM σ (43 + n)) : TabOk σ' := by
  intro n hn
  rw [h1 n hn]
  exact h n hn
/-- σ' and σ hold the same house and night; τ' and τ -/
def sameH (σ σ' τ τ' : QS) : Prop := (∀ k, 7 ≤ k → k ≤ 18 → gI σ' k = gI σ k) ∧ gM σ' 14 = gM σ 14 ∧ (∀ k, 20 ≤ k → k ≤ 26 → gM σ' k = gM σ k) ∧ (∀ k, k < 3 → gM σ' (40 + k) = gM σ (40 + k)) ∧ gI τ' 0 = gI τ 0 ∧ gI τ' 1 = gI τ 1 ∧ gM τ' 51 = gM τ 51 ∧ gM τ' 52 = gM τ 52 ∧ gM τ' 53 = gM τ 53 ∧ gM τ' 54 = gM τ 54 ∧ gM τ' 55 = gM τ 55
theorem Inv2.keep {σ τ σ' τ' : QS} {ns nc pr : Nat} (h : Inv2 σ τ ns nc pr) (hs : sameH σ σ' τ τ') : Inv2 σ' τ' ns nc pr := by
  obtain ⟨h1, h2, h3, h4, t0, t1, t51, t52, t53, t54, t55⟩ := hs
  have i7 := h1 7 (by omega) (by omega)
  have i8 := h1 8 (by omega) (by omega)
  have i9 := h1 9 (by omega) (by omega)
  have i11 := h1 11 (by omega) (by omega)
  have i12 := h1 12 (by omega) (by omega)
  have i13 := h1 13 (by omega) (by omega)
  have i14 := h1 14 (by omega) (by omega)
  have i15 := h1 15 (by omega) (by omega)
  have i16 := h1 16 (by omega) (by omega)
  have i17 := h1 17 (by omega) (by omega)
  have i18 := h1 18 (by omega) (by omega)
  have m20 := h3 20 (by omega) (by omega)
  have m21 := h3 21 (by omega) (by omega)
  have m22 := h3 22 (by omega) (by omega)
  have m23 := h3 23 (by omega) (by omega)
  have m24 := h3 24 (by omega) (by omega)
  have m25 := h3 25 (by omega) (by omega)
  have m26 := h3 26 (by omega) (by omega)
  have ev : v0Of σ' ns = v0Of σ ns := by unfold v0Of; rw [i7, m22]
  have eh : hOf τ' ns = hOf τ ns := by unfold hOf; rw [t52, t53, t54, t55]
  obtain ⟨a1, a2, a3, a4⟩ := h
  refine ⟨?_, ?_, ?_, ?_⟩
  · unfold HouseOk
    rw [i9, t1, i8, t0, m20, m21, m23, m24, t52, t53, t54, t55, i11]
    exact a1
  · unfold BegOk
    rw [i7, m22]
    exact a2
  · unfold CurOk NightOk HistOk
    rw [i12, ev, eh, m26, i13, i14, i15, i16, i17, i18, m25, t51]
    exact a3
  · intro k hk
    unfold HistOk
    rw [h2, t51, ev, eh, h4 k hk]
    exact a4 k hk
/-- a change of what the class keeps for itself alone (what was read for a fault, searches), and the reference likewise -/
theorem Inv.keep {σ τ σ' τ' : QS} (h : Inv σ τ) (hs : sameH σ σ' τ τ') (i0 : gI σ' 0 = gI σ 0) (i1 : gI σ' 1 = gI σ 1) (j0 : gJ σ' 0 = gJ σ 0) (j1 : gJ σ' 1 = gJ σ 1) (m8 : gM σ' 8 = gM σ 8) (m10 : gM σ' 10 = gM σ 10) (m12 : gM σ' 12 = gM σ 12) (mr : ∀ k, 30 ≤ k → k < 50 → gM σ' k = gM σ k) (t2 : gI τ' 2 = gI τ 2) (t3 : gI τ' 3 = gI τ 3) (u0 : gJ τ' 0 = gJ τ 0) (u1 : gJ τ' 1 = gJ τ 1) (tm : ∀ k, 56 ≤ k → k ≤ 60 → gM τ' k = gM τ k) : Inv σ' τ' := by
  obtain ⟨a1, a2, a3, a4, a5, a6, ns, nc, pr, a7⟩ := h
  refine ⟨a1.keep m10 (fun r hr => mr _ (by omega) (by omega)) (tm 56 (by omega) (by omega)) (tm 57 (by omega) (by omega)), a2.keep m12 (fun r hr => mr _ (by omega) (by omega)) (tm 58 (by omega) (by omega)) (tm 59 (by omega) (by omega)), a3.keep i0 m8 t3 (tm 60 (by omega) (by omega)), ?_, ?_, a6.keep (fun n hn => mr _ (by omega) (by omega)), ns, nc, pr, a7.keep hs⟩
  · unfold ToldOk; rw [i1, t2]; exact a4
  · unfold FracOk; rw [j0, j1, u0, u1]; exact a5
