def TB : List Cond := lw_tbl.filter goodWord
def isNest : Cond → Bool
  | .fieldLinkNest .. => true
  | .methodLinkNest .. => true
  | _ => false
def NS : List Cond := lw_tbl.filter isNest
theorem tb_in {i : Nat} {w : Cond} (h : lw_tbl[i]? = some w) (g : goodWord w = true) : w ∈ TB := List.mem_filter.mpr ⟨List.mem_of_getElem? h, g⟩
theorem ns_in {i : Nat} {w : Cond} (h : lw_tbl[i]? = some w) (g : isNest w = true) : w ∈ NS := List.mem_filter.mpr ⟨List.mem_of_getElem? h, g⟩
theorem tb_good {w : Cond} (h : w ∈ TB) : (w.onTables && w.keeps) = true ∨ ∃ ty, w = .arrayClass ty := good_of_word (List.mem_filter.mp h).2
theorem tb_sub {w : Cond} (h : w ∈ TB) : w ∈ lw_tbl := (List.mem_filter.mp h).1
def wsM (y : MethodName) (b : ByteArray) (n : Nat) (r : Option FieldType) : List Cond := .code y b n r :: TB
theorem tb_M {y : MethodName} {b : ByteArray} {n : Nat} {r : Option FieldType} (h : Cond.code y b n r ∈ TB) : GoodIn TB (wsM y b n r) := fun w hw => by
  rcases List.mem_cons.mp hw with rfl | hw
  · exact ⟨h, tb_good h⟩
  · exact ⟨hw, tb_good hw⟩
theorem tb_V {own C : String} {idx : Nat} {y : MethodName} {b : ByteArray} {n : Nat} {r : Option FieldType} (h1 : Cond.methodLink own idx y ∈ TB) (h2 : Cond.instanceMethod y ∈ TB) (h3 : Cond.selects C y y ∈ TB) (h4 : Cond.initialized C ∈ TB) (h : Cond.code y b n r ∈ TB) : GoodIn TB (wsV own idx C y (wsM y b n r)) := by
  intro w hw
  rcases List.mem_append.mp (show w ∈ ([.methodLink own idx y, .instanceMethod y, .selects C y y, .initialized C] : List Cond) ++ wsM y b n r from hw) with h9 | h9
  · simp only [List.mem_cons, List.not_mem_nil, or_false] at h9
    rcases h9 with rfl | rfl | rfl | rfl
    · exact ⟨h1, tb_good h1⟩
    · exact ⟨h2, tb_good h2⟩
    · exact ⟨h3, tb_good h3⟩
    · exact ⟨h4, tb_good h4⟩
  · exact tb_M h w h9
theorem tb_S {own : String} {idx : Nat} {y : MethodName} {b : ByteArray} {n : Nat} {r : Option FieldType} (h1 : Cond.methodLink own idx y ∈ TB) (h2 : Cond.static y ∈ TB) (h4 : Cond.initialized y.cls ∈ TB) (h : Cond.code y b n r ∈ TB) : GoodIn TB (va_wsS own idx y (wsM y b n r)) := by
  intro w hw
  rcases List.mem_append.mp (show w ∈ ([.methodLink own idx y, .static y, .initialized y.cls] : List Cond) ++ wsM y b n r from hw) with h9 | h9
  · simp only [List.mem_cons, List.not_mem_nil, or_false] at h9
    rcases h9 with rfl | rfl | rfl
    · exact ⟨h1, tb_good h1⟩
    · exact ⟨h2, tb_good h2⟩
    · exact ⟨h4, tb_good h4⟩
  · exact tb_M h w h9
def NW (U : State) : Prop := ∀ w ∈ NS, va_Nw w U
theorem NW.warm {s U : State} (hW : s.WarmedH U.vm) (h : NW s) : NW U := fun w hw => by
  have h1 := (List.mem_filter.mp hw).2
  have h2 := h w hw
  cases w <;> first | exact va_Nw.warmF hW h2 | exact va_Nw.warmM hW h2 | exact absurd h1 (by simp [isNest])
theorem NW.same {u U : State} (hv : u.vm = U.vm) (h : NW u) : NW U := fun w hw => by
  have h1 := (List.mem_filter.mp hw).2
  have h2 := h w hw
  cases w <;> first | exact va_Nw.same rfl hv h2 | exact absurd h1 (by simp [isNest])
abbrev QE : Type := (Nat → Nat) × va_G × ClassId × ClassId × (Nat → Prop) × Nat
abbrev qAd (E : QE) : Nat → Nat := E.1
abbrev qD (E : QE) : va_G := E.2.1
abbrev qI (E : QE) : ClassId := E.2.2.1
abbrev qII (E : QE) : ClassId := E.2.2.2.1
abbrev qA (E : QE) : Nat → Prop := E.2.2.2.2.1
abbrev qT (E : QE) : Nat := E.2.2.2.2.2
abbrev QS : Type := (Nat → Int32) × (Nat → Int64) × (Nat → Nat → Int32)
def gI (σ : QS) (k : Nat) : Int32 := σ.1 k
def gJ (σ : QS) (k : Nat) : Int64 := σ.2.1 k
def gM (σ : QS) (k : Nat) : Nat → Int32 := σ.2.2 k
def pI (σ : QS) (k : Nat) (v : Int32) : QS := (va_up σ.1 k v, σ.2)
def pJ (σ : QS) (k : Nat) (v : Int64) : QS := (σ.1, va_up σ.2.1 k v, σ.2.2)
def pM (σ : QS) (k : Nat) (f : Nat → Int32) : QS := (σ.1, σ.2.1, va_up σ.2.2 k f)
def ltr (j : Nat) : Int32 := match j with
  | 0 => 115
  | 1 => 99
  | 2 => 107
  | 3 => 117
  | 4 => 119
  | _ => 113
/-- names a value (or a state) -/
def lt_ {α : Type} {β : Type} (e : α) (k : α → β) : β := k e
theorem lt_e {α β : Type} {e : α} {k : α → β} {z : β} (h : lt_ e k = z) : ∃ y, y = e ∧ k y = z := ⟨e, rfl, h⟩
/-- a test without which nothing goes on -/
def ck_ {β : Type} (b : Bool) (k : Option β) : Option β := if b then k else none
theorem ck_e {β : Type} {b : Bool} {k : Option β} {z : β} (h : ck_ b k = some z) : b = true ∧ k = some z := by
  cases b
  · cases h
  · exact ⟨rfl, h⟩
theorem bd_e {α β : Type} {o : Option α} {k : α → Option β} {z : β} (h : o.bind k = some z) : ∃ y, o = some y ∧ k y = some z := Option.bind_eq_some_iff.mp h
def inb (i : Int32) (n : Nat) : Bool := !(decide (i < 0) || decide (n ≤ i.toNatClampNeg))
theorem inb_e {i : Int32} {n : Nat} (h : inb i n = true) : vp_in i n := by
  intro q
  rcases q with q | q
  · simp [inb, q] at h
  · simp [inb, q] at h
def ne0 (y : Int32) : Bool := !(decide (y = 0))
theorem ne0_e {y : Int32} (h : ne0 y = true) : ¬ y = 0 := by
  intro q
  simp [ne0, q] at h
def ne0L (y : Int64) : Bool := !(decide (y = 0))
theorem ne0L_e {y : Int64} (h : ne0L y = true) : ¬ y = 0 := by
  intro q
  simp [ne0L, q] at h
def zOk (x : Int32) : Prop := narrow .boolean (.int x) = .int x ∧ fits .boolean (.int x) = true

def wl (E : QE) (σ τ : QS) : va_W := [
  (qAd E 0, .inr (4, [.ref (qAd E 1), .ref (qAd E 2), .ref (qAd E 3), .ref (qAd E 4), .ref (qAd E 5), .ref (qAd E 6), .ref (qAd E 7), .ref (qAd E 8), .int (gI σ 0), .int (gI σ 1), .long (gJ σ 0), .long (gJ σ 1)])),
  (qAd E 1, .inr (3, [.ref (qAd E 9), .ref (qAd E 10)])),
  (qAd E 2, .inr (3, [.ref (qAd E 11), .ref (qAd E 12)])),
  (qAd E 3, .inr (3, [.ref (qAd E 13), .ref (qAd E 14)])),
  (qAd E 4, .inr (1, [.int (gI σ 2), .int (gI σ 3), .int (gI σ 4), .ref (qAd E 15), .ref (qAd E 16), .ref (qAd E 17), .ref (qAd E 18), .ref (qAd E 19), .int (gI σ 5), .int (gI σ 6)])),
  (qAd E 5, .inr (1, [.int (gI σ 7), .int (gI σ 8), .int (gI σ 9), .ref (qAd E 20), .ref (qAd E 21), .ref (qAd E 22), .ref (qAd E 23), .ref (qAd E 24), .int (gI σ 10), .int (gI σ 11)])),
  (qAd E 6, .inr (0, [.ref (qAd E 5), .ref (qAd E 25), .ref (qAd E 26), .int (gI σ 12), .int (gI σ 13), .int (gI σ 14), .int (gI σ 15), .int (gI σ 16), .int (gI σ 17), .int (gI σ 18)])),
  (qAd E 7, .inr (2, [.ref (qAd E 6), .ref (qAd E 5), .ref (qAd E 27), .ref (qAd E 28), .ref (qAd E 29), .int (gI σ 19), .int (gI σ 20), .int (gI σ 21), .int (gI σ 22), .int (gI σ 23), .int (gI σ 24), .long (gJ σ 2), .int (gI σ 25), .long (gJ σ 3), .long (gJ σ 4), .long (gJ σ 5)])),
  (qAd E 8, .inl (qI E, 6, .inl (gM σ 8))),
  (qAd E 9, .inl (qII E, 6, .inr (.inr (.inr (.inr (fun i => if i < 6 then some (qAd E (30 + i)) else none)))))),
  (qAd E 10, .inl (qI E, 6, .inl (gM σ 10))),
  (qAd E 11, .inl (qII E, 4, .inr (.inr (.inr (.inr (fun i => if i < 4 then some (qAd E (36 + i)) else none)))))),
  (qAd E 12, .inl (qI E, 4, .inl (gM σ 12))),
  (qAd E 13, .inl (qII E, 3, .inr (.inr (.inr (.inr (fun i => if i < 3 then some (qAd E (40 + i)) else none)))))),
  (qAd E 14, .inl (qI E, 3, .inl (gM σ 14))),
  (qAd E 15, .inl (qI E, 6, .inl (gM σ 15))),
  (qAd E 16, .inl (qI E, 6, .inl (gM σ 16))),
  (qAd E 17, .inl (qI E, 6, .inl (gM σ 17))),
  (qAd E 18, .inl (qI E, 6, .inl (gM σ 18))),
  (qAd E 19, .inl (qI E, 6, .inl (gM σ 19))),
  (qAd E 20, .inl (qI E, 6, .inl (gM σ 20))),
  (qAd E 21, .inl (qI E, 6, .inl (gM σ 21))),
  (qAd E 22, .inl (qI E, 6, .inl (gM σ 22))),
  (qAd E 23, .inl (qI E, 6, .inl (gM σ 23))),
  (qAd E 24, .inl (qI E, 6, .inl (gM σ 24))),
  (qAd E 25, .inl (qI E, 6, .inl (gM σ 25))),
  (qAd E 26, .inl (qI E, 40, .inl (gM σ 26))),
  (qAd E 27, .inl (qI E, 6, .inl (gM σ 27))),
  (qAd E 28, .inl (qI E, 6, .inl (gM σ 28))),
  (qAd E 29, .inl (qII E, 7, .inr (.inr (.inr (.inr (fun i => if i < 7 then some (qAd E (43 + i)) else none)))))),
  (qAd E 30, .inl (qI E, 40, .inl (gM σ 30))),
  (qAd E 31, .inl (qI E, 40, .inl (gM σ 31))),
  (qAd E 32, .inl (qI E, 40, .inl (gM σ 32))),
  (qAd E 33, .inl (qI E, 40, .inl (gM σ 33))),
  (qAd E 34, .inl (qI E, 40, .inl (gM σ 34))),
  (qAd E 35, .inl (qI E, 40, .inl (gM σ 35))),
  (qAd E 36, .inl (qI E, 60, .inl (gM σ 36))),
  (qAd E 37, .inl (qI E, 60, .inl (gM σ 37))),
  (qAd E 38, .inl (qI E, 60, .inl (gM σ 38))),
  (qAd E 39, .inl (qI E, 60, .inl (gM σ 39))),
  (qAd E 40, .inl (qI E, 40, .inl (gM σ 40))),
  (qAd E 41, .inl (qI E, 40, .inl (gM σ 41))),
  (qAd E 42, .inl (qI E, 40, .inl (gM σ 42))),
  (qAd E 43, .inl (qI E, 7, .inl (gM σ 43))),
  (qAd E 44, .inl (qI E, 7, .inl (gM σ 44))),
  (qAd E 45, .inl (qI E, 7, .inl (gM σ 45))),
  (qAd E 46, .inl (qI E, 7, .inl (gM σ 46))),
  (qAd E 47, .inl (qI E, 7, .inl (gM σ 47))),
  (qAd E 48, .inl (qI E, 7, .inl (gM σ 48))),
  (qAd E 49, .inl (qI E, 7, .inl (gM σ 49))),
  (qAd E 50, .inr (5, [.ref (qAd E 51), .int (gI τ 0), .ref (qAd E 52), .int (gI τ 1), .ref (qAd E 53), .ref (qAd E 54), .ref (qAd E 55), .ref (qAd E 56), .ref (qAd E 57), .ref (qAd E 58), .ref (qAd E 59), .int (gI τ 2), .long (gJ τ 0), .long (gJ τ 1), .int (gI τ 3), .ref (qAd E 60), .int (gI τ 4), .int (gI τ 5), .int (gI τ 6), .int (gI τ 7), .ref (qAd E 61), .int (gI τ 8), .ref (qAd E 62), .int (gI τ 9), .int (gI τ 10), .ref (qAd E 63), .ref (qAd E 64), .ref (qAd E 65), .ref (qAd E 66), .ref (qAd E 67), .int (gI τ 11), .int (gI τ 12), .ref (qAd E 68)])),
  (qAd E 51, .inl (qI E, 1972, .inl (gM τ 51))),
  (qAd E 52, .inl (qI E, 6, .inl (gM τ 52))),
  (qAd E 53, .inl (qI E, 6, .inl (gM τ 53))),
  (qAd E 54, .inl (qI E, 6, .inl (gM τ 54))),
  (qAd E 55, .inl (qI E, 6, .inl (gM τ 55))),
  (qAd E 56, .inl (qI E, 6, .inl (gM τ 56))),
  (qAd E 57, .inl (qI E, 240, .inl (gM τ 57))),
  (qAd E 58, .inl (qI E, 4, .inl (gM τ 58))),
  (qAd E 59, .inl (qI E, 240, .inl (gM τ 59))),
  (qAd E 60, .inl (qI E, 6, .inl (gM τ 60))),
  (qAd E 61, .inl (qI E, 6, .inl (gM τ 61))),
  (qAd E 62, .inl (qI E, 24, .inl (gM τ 62))),
  (qAd E 63, .inl (qI E, 7, .inl (gM τ 63))),
  (qAd E 64, .inl (qI E, 7, .inl (gM τ 64))),
  (qAd E 65, .inl (qI E, 7, .inl (gM τ 65))),
  (qAd E 66, .inl (qI E, 7, .inl (gM τ 66))),
  (qAd E 67, .inl (qI E, 7, .inl (gM τ 67))),
  (qAd E 68, .inl (qI E, 7, .inl (gM τ 68)))]
abbrev tysQ (E : QE) : List (ClassId × FieldType) := [(qI E, .int), (qII E, .array .int)]
def KK (E : QE) (U : State) : Prop := va_K (qD E) vwCl (tysQ E) U
def LT (E : QE) (U : State) (H : Heap) : Prop := va_Z "CalledStalls$Script" "LETTERS" "[C" (.ref (qT E)) (qA E) U H ∧ va_T .char (qT E) 6 (fun j => .int (ltr j)) (qA E) U H
def Fix (E : QE) (U : State) : Prop := KK E U ∧ LT E U U.heap ∧ NW U
def G (E : QE) (σ τ : QS) (H : Heap) : Prop := va_P (qD E) vwCl (wl E σ τ) H ∧ va_D (qA E) (wl E σ τ)
def Pre (E : QE) (σ τ : QS) : State → Prop := fun U => G E σ τ U.heap ∧ Fix E U
def Cx (E : QE) (p : Program) (s : State) (m : MethodId) (args : Array Value) (meth : Method) (c : Code) (cc : ByteArray) (nL : Nat) (ret : Option FieldType) (own : String) : Prop :=
  p.tables.exec = Jvm.exec ∧ c.code = cc ∧ c.maxLocals = nL ∧ s.vm.findClass own = some m.cls ∧ (∀ w ∈ TB, w.before args s = true) ∧ meth.sig.returnType = ret ∧ meth.locks = false ∧ Fix E s
def Y (E : QE) (p : Program) (l : Launch) (e : Env) (R : Room) (s : State) (m : MethodId) (args : Array Value) (below : List Frame) (meth : Method) (c : Code) (nL : Nat) (Q : State → Prop) (σ τ : QS) (pc : Nat) (lv : List (Nat × Value)) (st : List Value) : Prop :=
  ∀ (H : Heap) (locs : List Loc) (ls : Array Slot), G E σ τ H → va_S (qA E) s.heap H locs → lv_has ls nL lv → W p l e R s m args below meth c H locs 0 0 Q (F0 m pc ls st)
abbrev PI (E : QE) (v : Int32) (σ τ : QS) : Array Value → State → Outcome → State → Prop := va_Qi (fun r2 (_ : Unit) => r2 = v) (fun _ t => G E σ τ t.heap) (qA E)
abbrev PL (E : QE) (v : Int64) (σ τ : QS) : Array Value → State → Outcome → State → Prop := va_Ql (fun r2 (_ : Unit) => r2 = v) (fun _ t => G E σ τ t.heap) (qA E)
abbrev PV (E : QE) (σ τ : QS) : Array Value → State → Outcome → State → Prop := va_Qv (fun (_ : Unit) => True) (fun _ t => G E σ τ t.heap) (qA E)
abbrev KQ (l : Launch) (y : MethodName) (b : ByteArray) (n : Nat) (r : Option FieldType) (rm : Room) (E : QE) (As : List Value) (σ τ : QS) (Qc : Array Value → State → Outcome → State → Prop) : Prop := Met l y (wsM y b n r) rm (va_Pc As (Pre E σ τ)) Qc 0 0 (qA E)
theorem LT.moved {E : QE} {u U : State} {H : Heap} (hvm : u.vm.Alike U.vm) (h : LT E u H) : LT E U H := ⟨va_Z.moved hvm h.1, va_T.moved hvm h.2⟩
theorem LT.kept {E : QE} {U : State} {H H1 : Heap} (h : LT E U H) (hq : ∀ a : Nat, a < H.size → ¬ qA E a → H1[a]? = H[a]?) : LT E U H1 := ⟨va_Z.kept h.1 hq, va_T.kept h.2 hq⟩
theorem Pre.blind {E : QE} {σ τ : QS} {As : List Value} : FrameBlind (va_Pc As (Pre E σ τ)) := fun a U g mk q => by
  obtain ⟨q0, hG, hK, hL, hN⟩ := q
  exact ⟨q0, hG, va_K.moved (u := U) (U := U.calling g mk a) (Vm.Alike.refl U.vm) hK, LT.moved (u := U) (U := U.calling g mk a) (Vm.Alike.refl U.vm) hL, NW.same (u := U) (U := U.calling g mk a) rfl hN⟩
theorem Pre.at {E : QE} {σ τ : QS} {s U : State} {H : Heap} {locs : List Loc} (hF : Fix E s) (hG : G E σ τ H) (hS : va_S (qA E) s.heap H locs) (hU : U.heap = H) (hW : s.WarmedH U.vm) : Pre E σ τ U :=
  ⟨by rw [hU]; exact hG, va_K.moved hW.alike hF.1, by rw [hU]; exact (LT.moved hW.alike hF.2.1).kept (fun a h1 h2 => hS.2.1 a h1 h2), NW.warm hW hF.2.2⟩
/-- array number k of the class's part has n places; of the reference's -/
def aC (k n : Nat) : Prop := ∀ (E : QE) (σ τ : QS), (wl E σ τ)[k]? = some (qAd E k, .inl (qI E, n, .inl (gM σ k))) ∧ ∀ f : Nat → Int32, (wl E σ τ).set k (qAd E k, .inl (qI E, n, .inl f)) = wl E (pM σ k f) τ
def aR (k n : Nat) : Prop := ∀ (E : QE) (σ τ : QS), (wl E σ τ)[k]? = some (qAd E k, .inl (qI E, n, .inl (gM τ k))) ∧ ∀ f : Nat → Int32, (wl E σ τ).set k (qAd E k, .inl (qI E, n, .inl f)) = wl E σ (pM τ k f)
def qC (k n f : Nat) : Prop := ∀ (E : QE) (σ τ : QS), (wl E σ τ)[k]? = some (qAd E k, .inl (qII E, n, .inr (.inr (.inr (.inr (fun i => if i < n then some (qAd E (f + i)) else none))))))
def isO (o ci : Nat) : Prop := ∀ (E : QE) (σ τ : QS), ∃ fs, (wl E σ τ)[o]? = some (qAd E o, .inr (ci, fs))
theorem inT0 : ∀ w ∈ u_ws RX0 TX0 10, w ∈ TB := by decide +kernel
theorem inT1 : ∀ w ∈ u_ws RX1 TX1 10, w ∈ TB := by decide +kernel
theorem inT2 : ∀ w ∈ u_ws RX2 TX2 16, w ∈ TB := by decide +kernel
theorem inT3 : ∀ w ∈ u_ws RX3 TX3 2, w ∈ TB := by decide +kernel
theorem inT4 : ∀ w ∈ u_ws RX4 TX4 12, w ∈ TB := by decide +kernel
theorem inT5 : ∀ w ∈ u_ws RX5 TX5 33, w ∈ TB := by decide +kernel
section RowsY
variable {E : QE} {p : Program} {l : Launch} {e : Env} {R : Room} {s : State} {m : MethodId} {args : Array Value} {below : List Frame} {meth : Method} {c : Code} {Q : State → Prop} {nL : Nat} {σ τ σ1 τ1 : QS} {pc : Nat} {lv lv' : List (Nat × Value)} {st st0 : List Value} {cc : ByteArray} {ret : Option FieldType} {own : String} {index : Nat}
theorem y_get (C : Cx E p s m args meth c cc nL ret own) {o ci k N : Nat} {Cn : String} {Tt : u_T} {fs : List Value} {v : Value} (he : (wl E σ τ)[o]? = some (qAd E o, .inr (ci, fs))) (hc : vwCl[ci]? = some (Cn, Tt, N)) (hin : ∀ w ∈ u_ws Cn Tt N, w ∈ TB) (hk : k < N) (hv : fs[k]? = some v) (hl : Cond.fieldLink own index (Tt k).1 (Tt k).2.1 (Tt k).2.2.1 ∈ TB) (d : decode cc pc = .ok (.getfield index, 3)) (kk : Y E p l e R s m args below meth c nL Q σ τ (pc + 3) lv (v :: st)) : Y E p l e R s m args below meth c nL Q σ τ pc lv (.ref (qAd E o) :: st) := by
  obtain ⟨hx, hb, hml, hown, hts, hr, hlk, hF⟩ := C
  intro H locs ls hG hS hl2
  exact va_get (D := qD E) hx hb hts hin hown hF.1 hG.1 o he hc k hk (hts _ hl) (fun _ h9 => h9) hv d (kk H locs ls hG hS hl2)
theorem y_getN (C : Cx E p s m args meth c cc nL ret own) {o ci k N : Nat} {Cn host : String} {Tt : u_T} {fs : List Value} {v : Value} (he : (wl E σ τ)[o]? = some (qAd E o, .inr (ci, fs))) (hc : vwCl[ci]? = some (Cn, Tt, N)) (hin : ∀ w ∈ u_ws Cn Tt N, w ∈ TB) (hk : k < N) (hv : fs[k]? = some v) (hl : Cond.fieldLinkNest own index (Tt k).1 (Tt k).2.1 (Tt k).2.2.1 host ∈ NS) (d : decode cc pc = .ok (.getfield index, 3)) (kk : Y E p l e R s m args below meth c nL Q σ τ (pc + 3) lv (v :: st)) : Y E p l e R s m args below meth c nL Q σ τ pc lv (.ref (qAd E o) :: st) := by
  obtain ⟨hx, hb, hml, hown, hts, hr, hlk, hF⟩ := C
  intro H locs ls hG hS hl2
  exact va_getN (D := qD E) hx hb hts hin hown hF.1 hG.1 o he hc k hk (va_Nw.use rfl (hF.2.2 _ hl)) (fun _ h9 => h9) hv d (kk H locs ls hG hS hl2)
theorem y_put (C : Cx E p s m args meth c cc nL ret own) {o ci k N : Nat} {Cn : String} {Tt : u_T} {fs : List Value} {v : Value} {ty : FieldType} (he : (wl E σ τ)[o]? = some (qAd E o, .inr (ci, fs))) (hc : vwCl[ci]? = some (Cn, Tt, N)) (hin : ∀ w ∈ u_ws Cn Tt N, w ∈ TB) (ty0 : Nat → FieldType) (hty : ∀ k, k < N → parseFieldDescriptor (Tt k).2.2.1 = some (ty0 k)) (hnm : ∀ a, a < N → ∀ b, b < N → a ≠ b → (Tt a).2.1 ≠ (Tt b).2.1) (hk : k < N) (hfin : (Tt k).2.2.2 = false) (hd : parseFieldDescriptor (Tt k).2.2.1 = some ty) (hn : narrow ty v = v) (hfit : fits ty v = true) (hlen : k < fs.length) (hset : (wl E σ τ).set o (qAd E o, .inr (ci, fs.set k v)) = wl E σ1 τ1) (hl : Cond.fieldLink own index (Tt k).1 (Tt k).2.1 (Tt k).2.2.1 ∈ TB) (d : decode cc pc = .ok (.putfield index, 3)) (kk : Y E p l e R s m args below meth c nL Q σ1 τ1 (pc + 3) lv st) : Y E p l e R s m args below meth c nL Q σ τ pc lv (v :: .ref (qAd E o) :: st) := by
  obtain ⟨hx, hb, hml, hown, hts, hr, hlk, hF⟩ := C
  intro H locs ls hG hS hl2
  exact va_put (D := qD E) hx hb hts hin ty0 hty hnm hown hF.1 hG.1 hG.2 hS o he hc k hk (hts _ hl) (fun _ h9 => h9) hfin hd hn hfit hlen d (fun H1 locs1 hP hD hS1 => kk H1 locs1 ls ⟨by rw [← hset]; exact hP, by rw [← hset]; exact hD⟩ hS1 hl2)
theorem y_putN (C : Cx E p s m args meth c cc nL ret own) {o ci k N : Nat} {Cn host : String} {Tt : u_T} {fs : List Value} {v : Value} {ty : FieldType} (he : (wl E σ τ)[o]? = some (qAd E o, .inr (ci, fs))) (hc : vwCl[ci]? = some (Cn, Tt, N)) (hin : ∀ w ∈ u_ws Cn Tt N, w ∈ TB) (ty0 : Nat → FieldType) (hty : ∀ k, k < N → parseFieldDescriptor (Tt k).2.2.1 = some (ty0 k)) (hnm : ∀ a, a < N → ∀ b, b < N → a ≠ b → (Tt a).2.1 ≠ (Tt b).2.1) (hk : k < N) (hfin : (Tt k).2.2.2 = false) (hd : parseFieldDescriptor (Tt k).2.2.1 = some ty) (hn : narrow ty v = v) (hfit : fits ty v = true) (hlen : k < fs.length) (hset : (wl E σ τ).set o (qAd E o, .inr (ci, fs.set k v)) = wl E σ1 τ1) (hl : Cond.fieldLinkNest own index (Tt k).1 (Tt k).2.1 (Tt k).2.2.1 host ∈ NS) (d : decode cc pc = .ok (.putfield index, 3)) (kk : Y E p l e R s m args below meth c nL Q σ1 τ1 (pc + 3) lv st) : Y E p l e R s m args below meth c nL Q σ τ pc lv (v :: .ref (qAd E o) :: st) := by
  obtain ⟨hx, hb, hml, hown, hts, hr, hlk, hF⟩ := C
  intro H locs ls hG hS hl2
  exact va_putN (D := qD E) hx hb hts hin ty0 hty hnm hown hF.1 hG.1 hG.2 hS o he hc k hk (va_Nw.use rfl (hF.2.2 _ hl)) (fun _ h9 => h9) hfin hd hn hfit hlen d (fun H1 locs1 hP hD hS1 => kk H1 locs1 ls ⟨by rw [← hset]; exact hP, by rw [← hset]; exact hD⟩ hS1 hl2)
theorem y_ialdC (C : Cx E p s m args meth c cc nL ret own) {k n : Nat} {i : Int32} (h : aC k n) {j : Nat} (hj : i.toNatClampNeg = j) (hin : inb i n = true) (d : decode cc pc = .ok (.iaload, 1)) (kk : Y E p l e R s m args below meth c nL Q σ τ (pc + 1) lv (.int (gM σ k j) :: st)) : Y E p l e R s m args below meth c nL Q σ τ pc lv (.int i :: .ref (qAd E k) :: st) := by
  subst hj
  obtain ⟨hx, hb, hml, hown, hts, hr, hlk, hF⟩ := C
  intro H locs ls hG hS hl2
  exact va_iald (D := qD E) hx hb hF.1 hG.1 k 0 (h E σ τ).1 rfl (inb_e hin) d (kk H locs ls hG hS hl2)
theorem y_ialdR (C : Cx E p s m args meth c cc nL ret own) {k n : Nat} {i : Int32} (h : aR k n) {j : Nat} (hj : i.toNatClampNeg = j) (hin : inb i n = true) (d : decode cc pc = .ok (.iaload, 1)) (kk : Y E p l e R s m args below meth c nL Q σ τ (pc + 1) lv (.int (gM τ k j) :: st)) : Y E p l e R s m args below meth c nL Q σ τ pc lv (.int i :: .ref (qAd E k) :: st) := by
  subst hj
  obtain ⟨hx, hb, hml, hown, hts, hr, hlk, hF⟩ := C
  intro H locs ls hG hS hl2
  exact va_iald (D := qD E) hx hb hF.1 hG.1 k 0 (h E σ τ).1 rfl (inb_e hin) d (kk H locs ls hG hS hl2)
theorem y_iastC (C : Cx E p s m args meth c cc nL ret own) {k n : Nat} {i x : Int32} (h : aC k n) {j : Nat} (hj : i.toNatClampNeg = j) (hin : inb i n = true) (es : σ1 = pM σ k (upd (gM σ k) j x)) (d : decode cc pc = .ok (.iastore, 1)) (kk : Y E p l e R s m args below meth c nL Q σ1 τ (pc + 1) lv st) : Y E p l e R s m args below meth c nL Q σ τ pc lv (.int x :: .int i :: .ref (qAd E k) :: st) := by
  subst es hj
  obtain ⟨hx, hb, hml, hown, hts, hr, hlk, hF⟩ := C
  intro H locs ls hG hS hl2
  exact va_iast (D := qD E) hx hb hF.1 hG.1 hG.2 hS k 0 (h E σ τ).1 rfl (inb_e hin) d (fun H1 locs1 hP hD hS1 => kk H1 locs1 ls ⟨by rw [← (h E σ τ).2]; exact hP, by rw [← (h E σ τ).2]; exact hD⟩ hS1 hl2)
theorem y_iastR (C : Cx E p s m args meth c cc nL ret own) {k n : Nat} {i x : Int32} (h : aR k n) {j : Nat} (hj : i.toNatClampNeg = j) (hin : inb i n = true) (es : τ1 = pM τ k (upd (gM τ k) j x)) (d : decode cc pc = .ok (.iastore, 1)) (kk : Y E p l e R s m args below meth c nL Q σ τ1 (pc + 1) lv st) : Y E p l e R s m args below meth c nL Q σ τ pc lv (.int x :: .int i :: .ref (qAd E k) :: st) := by
  subst es hj
  obtain ⟨hx, hb, hml, hown, hts, hr, hlk, hF⟩ := C
  intro H locs ls hG hS hl2
  exact va_iast (D := qD E) hx hb hF.1 hG.1 hG.2 hS k 0 (h E σ τ).1 rfl (inb_e hin) d (fun H1 locs1 hP hD hS1 => kk H1 locs1 ls ⟨by rw [← (h E σ τ).2]; exact hP, by rw [← (h E σ τ).2]; exact hD⟩ hS1 hl2)
theorem y_aald (C : Cx E p s m args meth c cc nL ret own) {k n f : Nat} {i : Int32} (h : qC k n f) (hin : inb i n = true) (d : decode cc pc = .ok (.aaload, 1)) (kk : Y E p l e R s m args below meth c nL Q σ τ (pc + 1) lv (.ref (qAd E (f + i.toNatClampNeg)) :: st)) : Y E p l e R s m args below meth c nL Q σ τ pc lv (.int i :: .ref (qAd E k) :: st) := by
  obtain ⟨hx, hb, hml, hown, hts, hr, hlk, hF⟩ := C
  intro H locs ls hG hS hl2
  have hi := inb_e hin
  have hlt : i.toNatClampNeg < n := Nat.not_le.mp fun q => hi (Or.inr q)
  have hk := kk H locs ls hG hS hl2
  have e1 : (Value.ref (qAd E (f + i.toNatClampNeg))) = va_rf ((fun i => if i < n then some (qAd E (f + i)) else none) i.toNatClampNeg) := by simp [hlt, va_rf]
  rw [e1] at hk
  exact W.aald (v := va_rf ((fun i => if i < n then some (qAd E (f + i)) else none) i.toNatClampNeg)) (ty := .array .int) hx hb (hG.1 k _ (h E σ τ)) ((hF.1.2 1 _ rfl).1 n (fun j => va_rf ((fun i => if i < n then some (qAd E (f + i)) else none) j))) rfl (fun q => by cases q) (by show ¬ (i < 0 ∨ (arrV _ _ _).slots.size ≤ _); rw [arrV_size]; exact hi) (by show (arrV _ _ _).slots[_]? = _; rw [arrV_read _ _ hlt]) rfl rfl d hk
theorem y_alenC (C : Cx E p s m args meth c cc nL ret own) {k n : Nat} {v : Int32} (h : aC k n) (hv : Int32.ofNat n = v) (d : decode cc pc = .ok (.arraylength, 1)) (kk : Y E p l e R s m args below meth c nL Q σ τ (pc + 1) lv (.int v :: st)) : Y E p l e R s m args below meth c nL Q σ τ pc lv (.ref (qAd E k) :: st) := by
  obtain ⟨hx, hb, hml, hown, hts, hr, hlk, hF⟩ := C
  intro H locs ls hG hS hl2
  exact va_alen (D := qD E) hx hb hF.1 hG.1 k 0 (h E σ τ).1 rfl hv d (kk H locs ls hG hS hl2)
theorem y_alenR (C : Cx E p s m args meth c cc nL ret own) {k n : Nat} {v : Int32} (h : aR k n) (hv : Int32.ofNat n = v) (d : decode cc pc = .ok (.arraylength, 1)) (kk : Y E p l e R s m args below meth c nL Q σ τ (pc + 1) lv (.int v :: st)) : Y E p l e R s m args below meth c nL Q σ τ pc lv (.ref (qAd E k) :: st) := by
  obtain ⟨hx, hb, hml, hown, hts, hr, hlk, hF⟩ := C
  intro H locs ls hG hS hl2
  exact va_alen (D := qD E) hx hb hF.1 hG.1 k 0 (h E σ τ).1 rfl hv d (kk H locs ls hG hS hl2)
theorem y_ltrs (C : Cx E p s m args meth c cc nL ret own) (hl : Cond.fieldLink own index "CalledStalls$Script" "LETTERS" "[C" ∈ TB) (d : decode cc pc = .ok (.getstatic index, 3)) (kk : Y E p l e R s m args below meth c nL Q σ τ (pc + 3) lv (.ref (qT E) :: st)) : Y E p l e R s m args below meth c nL Q σ τ pc lv st := by
  obtain ⟨hx, hb, hml, hown, hts, hr, hlk, hF⟩ := C
  intro H locs ls hG hS hl2
  exact va_gets hx hb hF.2.1.1 hS hown (hts _ hl) (fun _ h9 => h9) d (kk H locs ls hG hS hl2)
theorem y_cald (C : Cx E p s m args meth c cc nL ret own) {i : Int32} (hin : inb i 6 = true) (d : decode cc pc = .ok (.caload, 1)) (kk : Y E p l e R s m args below meth c nL Q σ τ (pc + 1) lv (.int (ltr i.toNatClampNeg) :: st)) : Y E p l e R s m args below meth c nL Q σ τ pc lv (.int i :: .ref (qT E) :: st) := by
  obtain ⟨hx, hb, hml, hown, hts, hr, hlk, hF⟩ := C
  intro H locs ls hG hS hl2
  exact va_tc hx hb hF.2.1.2 hS (inb_e hin) rfl d (kk H locs ls hG hS hl2)
theorem y_calen (C : Cx E p s m args meth c cc nL ret own) (d : decode cc pc = .ok (.arraylength, 1)) (kk : Y E p l e R s m args below meth c nL Q σ τ (pc + 1) lv (.int 6 :: st)) : Y E p l e R s m args below meth c nL Q σ τ pc lv (.ref (qT E) :: st) := by
  obtain ⟨hx, hb, hml, hown, hts, hr, hlk, hF⟩ := C
  intro H locs ls hG hS hl2
  obtain ⟨cell, h1, h2, h3, h4, h5, h6, h7⟩ := hF.2.1.2
  exact W.alen (n := 6) hx hb (by rw [hS.2.1 _ (Array.getElem?_eq_some_iff.mp h1).1 h7]; exact h1) h2 h5 rfl rfl d (kk H locs ls hG hS hl2)
theorem y_iconst (C : Cx E p s m args meth c cc nL ret own) {n : Int} {v : Int32} (d : decode cc pc = .ok (.iconst n, 1)) (hv : Int32.ofInt n = v) (kk : Y E p l e R s m args below meth c nL Q σ τ (pc + 1) lv (.int v :: st)) : Y E p l e R s m args below meth c nL Q σ τ pc lv st := fun H locs ls hG hS hl => lv_iconst C.1 C.2.1 d hv (kk H locs ls hG hS hl)
theorem y_bipush (C : Cx E p s m args meth c cc nL ret own) {n : Int} {v : Int32} (d : decode cc pc = .ok (.bipush n, 2)) (hv : (Int8.ofInt n).toInt32 = v) (kk : Y E p l e R s m args below meth c nL Q σ τ (pc + 2) lv (.int v :: st)) : Y E p l e R s m args below meth c nL Q σ τ pc lv st := fun H locs ls hG hS hl => lv_bipush C.1 C.2.1 d hv (kk H locs ls hG hS hl)
theorem y_sipush (C : Cx E p s m args meth c cc nL ret own) {n : Int} {v : Int32} (d : decode cc pc = .ok (.sipush n, 3)) (hv : (Int16.ofInt n).toInt32 = v) (kk : Y E p l e R s m args below meth c nL Q σ τ (pc + 3) lv (.int v :: st)) : Y E p l e R s m args below meth c nL Q σ τ pc lv st := fun H locs ls hG hS hl => lv_sipush C.1 C.2.1 d hv (kk H locs ls hG hS hl)
theorem y_lconst (C : Cx E p s m args meth c cc nL ret own) {n : Fin 2} {v : Int64} (d : decode cc pc = .ok (.lconst n, 1)) (hv : Int64.ofNat (n : Nat) = v) (kk : Y E p l e R s m args below meth c nL Q σ τ (pc + 1) lv (.long v :: st)) : Y E p l e R s m args below meth c nL Q σ τ pc lv st := fun H locs ls hG hS hl => lv_lconst C.1 C.2.1 d hv (kk H locs ls hG hS hl)
theorem y_ldcw (C : Cx E p s m args meth c cc nL ret own) {v : Int32} (hl : Jvm.Cond.constant own index v ∈ TB) (d : decode cc pc = .ok (.ldc_w index, 3)) (kk : Y E p l e R s m args below meth c nL Q σ τ (pc + 3) lv (.int v :: st)) : Y E p l e R s m args below meth c nL Q σ τ pc lv st := fun H locs ls hG hS h2 => lv_ldcw C.1 C.2.1 C.2.2.2.1 (C.2.2.2.2.1 _ hl) d (kk H locs ls hG hS h2)
theorem y_ldc2 (C : Cx E p s m args meth c cc nL ret own) {v : Int64} (hl : Jvm.Cond.constantLong own index v ∈ TB) (d : decode cc pc = .ok (.ldc2_w index, 3)) (kk : Y E p l e R s m args below meth c nL Q σ τ (pc + 3) lv (.long v :: st)) : Y E p l e R s m args below meth c nL Q σ τ pc lv st := fun H locs ls hG hS h2 => lv_ldc2 C.1 C.2.1 C.2.2.2.1 (C.2.2.2.2.1 _ hl) d (kk H locs ls hG hS h2)
theorem y_iload_n (C : Cx E p s m args meth c cc nL ret own) {q : Fin 4} {i : Nat} {x : Int32} (d : decode cc pc = .ok (.iload_n q, 1)) (hi : (q : Nat) = i) (k : Nat) (hk : lv[k]? = some (i, .int x)) (kk : Y E p l e R s m args below meth c nL Q σ τ (pc + 1) lv (.int x :: st)) : Y E p l e R s m args below meth c nL Q σ τ pc lv st := fun H locs ls hG hS hl => lv_iload_n C.1 C.2.1 d hi (lv_at hl k hk) (kk H locs ls hG hS hl)
theorem y_iload (C : Cx E p s m args meth c cc nL ret own) {i : Nat} {x : Int32} (d : decode cc pc = .ok (.iload i, 2)) (k : Nat) (hk : lv[k]? = some (i, .int x)) (kk : Y E p l e R s m args below meth c nL Q σ τ (pc + 2) lv (.int x :: st)) : Y E p l e R s m args below meth c nL Q σ τ pc lv st := fun H locs ls hG hS hl => lv_iload C.1 C.2.1 d (lv_at hl k hk) (kk H locs ls hG hS hl)
theorem y_lload_n (C : Cx E p s m args meth c cc nL ret own) {q : Fin 4} {i : Nat} {x : Int64} (d : decode cc pc = .ok (.lload_n q, 1)) (hi : (q : Nat) = i) (k : Nat) (hk : lv[k]? = some (i, .long x)) (kk : Y E p l e R s m args below meth c nL Q σ τ (pc + 1) lv (.long x :: st)) : Y E p l e R s m args below meth c nL Q σ τ pc lv st := fun H locs ls hG hS hl => lv_lload_n C.1 C.2.1 d hi (lv_at hl k hk) (kk H locs ls hG hS hl)
theorem y_lload (C : Cx E p s m args meth c cc nL ret own) {i : Nat} {x : Int64} (d : decode cc pc = .ok (.lload i, 2)) (k : Nat) (hk : lv[k]? = some (i, .long x)) (kk : Y E p l e R s m args below meth c nL Q σ τ (pc + 2) lv (.long x :: st)) : Y E p l e R s m args below meth c nL Q σ τ pc lv st := fun H locs ls hG hS hl => lv_lload C.1 C.2.1 d (lv_at hl k hk) (kk H locs ls hG hS hl)
theorem y_aload_n (C : Cx E p s m args meth c cc nL ret own) {q : Fin 4} {i : Nat} {x : Nat} (d : decode cc pc = .ok (.aload_n q, 1)) (hi : (q : Nat) = i) (k : Nat) (hk : lv[k]? = some (i, .ref x)) (kk : Y E p l e R s m args below meth c nL Q σ τ (pc + 1) lv (.ref x :: st)) : Y E p l e R s m args below meth c nL Q σ τ pc lv st := fun H locs ls hG hS hl => lv_aload_n C.1 C.2.1 d hi (lv_at hl k hk) (kk H locs ls hG hS hl)
theorem y_istore_n (C : Cx E p s m args meth c cc nL ret own) {q : Fin 4} {i : Nat} {x y : Int32} (d : decode cc pc = .ok (.istore_n q, 1)) (hi : (q : Nat) = i) (hn : i < nL) (ey : y = x) (hl : (i, Value.int y) :: lv.filter (fun q => !(q.1 == i) && !(q.1 + 1 == i && q.2.category == 2)) = lv') (kk : Y E p l e R s m args below meth c nL Q σ τ (pc + 1) lv' st) : Y E p l e R s m args below meth c nL Q σ τ pc lv (.int x :: st) := fun H locs ls hG hS h => lv_istore_n C.1 C.2.1 d hi h hn (by rw [← ey]; exact hl) (fun ls h => kk H locs ls hG hS h)
theorem y_istore (C : Cx E p s m args meth c cc nL ret own) {i : Nat} {x y : Int32} (d : decode cc pc = .ok (.istore i, 2)) (hn : i < nL) (ey : y = x) (hl : (i, Value.int y) :: lv.filter (fun q => !(q.1 == i) && !(q.1 + 1 == i && q.2.category == 2)) = lv') (kk : Y E p l e R s m args below meth c nL Q σ τ (pc + 2) lv' st) : Y E p l e R s m args below meth c nL Q σ τ pc lv (.int x :: st) := fun H locs ls hG hS h => lv_istore C.1 C.2.1 d h hn (by rw [← ey]; exact hl) (fun ls h => kk H locs ls hG hS h)
theorem y_lstore_n (C : Cx E p s m args meth c cc nL ret own) {q : Fin 4} {i : Nat} {x y : Int64} (d : decode cc pc = .ok (.lstore_n q, 1)) (hi : (q : Nat) = i) (hn : i + 1 < nL) (ey : y = x) (hl : (i, Value.long y) :: lv.filter (fun q => !(q.1 == i) && (!(q.1 == i + 1) && !(q.1 + 1 == i && q.2.category == 2))) = lv') (kk : Y E p l e R s m args below meth c nL Q σ τ (pc + 1) lv' st) : Y E p l e R s m args below meth c nL Q σ τ pc lv (.long x :: st) := fun H locs ls hG hS h => lv_lstore_n C.1 C.2.1 d hi h hn (by rw [← ey]; exact hl) (fun ls h => kk H locs ls hG hS h)
theorem y_lstore (C : Cx E p s m args meth c cc nL ret own) {i : Nat} {x y : Int64} (d : decode cc pc = .ok (.lstore i, 2)) (hn : i + 1 < nL) (ey : y = x) (hl : (i, Value.long y) :: lv.filter (fun q => !(q.1 == i) && (!(q.1 == i + 1) && !(q.1 + 1 == i && q.2.category == 2))) = lv') (kk : Y E p l e R s m args below meth c nL Q σ τ (pc + 2) lv' st) : Y E p l e R s m args below meth c nL Q σ τ pc lv (.long x :: st) := fun H locs ls hG hS h => lv_lstore C.1 C.2.1 d h hn (by rw [← ey]; exact hl) (fun ls h => kk H locs ls hG hS h)
theorem y_iinc (C : Cx E p s m args meth c cc nL ret own) {i : Nat} {n : Int} {x y : Int32} (d : decode cc pc = .ok (.iinc i n, 3)) (k : Nat) (hk : lv[k]? = some (i, .int x)) (hn : i < nL) {k2 : Int32} (hk2 : Int32.ofInt n = k2) (ey : y = x + k2) (hl : (i, Value.int y) :: lv.filter (fun q => !(q.1 == i) && !(q.1 + 1 == i && q.2.category == 2)) = lv') (kk : Y E p l e R s m args below meth c nL Q σ τ (pc + 3) lv' st) : Y E p l e R s m args below meth c nL Q σ τ pc lv st := fun H locs ls hG hS h => lv_iinc C.1 C.2.1 d h hk (by rw [hk2]; exact ey.symm) hn hl (fun ls h => kk H locs ls hG hS h)
theorem y_iadd (C : Cx E p s m args meth c cc nL ret own) {x y : Int32} (d : decode cc pc = .ok (.iadd, 1)) (kk : Y E p l e R s m args below meth c nL Q σ τ (pc + 1) lv (.int (x + y) :: st)) : Y E p l e R s m args below meth c nL Q σ τ pc lv (.int y :: .int x :: st) := fun H locs ls hG hS hl => lv_iadd C.1 C.2.1 d (kk H locs ls hG hS hl)
theorem y_isub (C : Cx E p s m args meth c cc nL ret own) {x y : Int32} (d : decode cc pc = .ok (.isub, 1)) (kk : Y E p l e R s m args below meth c nL Q σ τ (pc + 1) lv (.int (x - y) :: st)) : Y E p l e R s m args below meth c nL Q σ τ pc lv (.int y :: .int x :: st) := fun H locs ls hG hS hl => lv_isub C.1 C.2.1 d (kk H locs ls hG hS hl)
theorem y_imul (C : Cx E p s m args meth c cc nL ret own) {x y : Int32} (d : decode cc pc = .ok (.imul, 1)) (kk : Y E p l e R s m args below meth c nL Q σ τ (pc + 1) lv (.int (x * y) :: st)) : Y E p l e R s m args below meth c nL Q σ τ pc lv (.int y :: .int x :: st) := fun H locs ls hG hS hl => lv_imul C.1 C.2.1 d (kk H locs ls hG hS hl)
theorem y_iand (C : Cx E p s m args meth c cc nL ret own) {x y : Int32} (d : decode cc pc = .ok (.iand, 1)) (kk : Y E p l e R s m args below meth c nL Q σ τ (pc + 1) lv (.int (x &&& y) :: st)) : Y E p l e R s m args below meth c nL Q σ τ pc lv (.int y :: .int x :: st) := fun H locs ls hG hS hl => lv_iand C.1 C.2.1 d (kk H locs ls hG hS hl)
theorem y_ior (C : Cx E p s m args meth c cc nL ret own) {x y : Int32} (d : decode cc pc = .ok (.ior, 1)) (kk : Y E p l e R s m args below meth c nL Q σ τ (pc + 1) lv (.int (x ||| y) :: st)) : Y E p l e R s m args below meth c nL Q σ τ pc lv (.int y :: .int x :: st) := fun H locs ls hG hS hl => lv_ior C.1 C.2.1 d (kk H locs ls hG hS hl)
theorem y_ixor (C : Cx E p s m args meth c cc nL ret own) {x y : Int32} (d : decode cc pc = .ok (.ixor, 1)) (kk : Y E p l e R s m args below meth c nL Q σ τ (pc + 1) lv (.int (x ^^^ y) :: st)) : Y E p l e R s m args below meth c nL Q σ τ pc lv (.int y :: .int x :: st) := fun H locs ls hG hS hl => lv_ixor C.1 C.2.1 d (kk H locs ls hG hS hl)
theorem y_ishl (C : Cx E p s m args meth c cc nL ret own) {x y : Int32} (d : decode cc pc = .ok (.ishl, 1)) (kk : Y E p l e R s m args below meth c nL Q σ τ (pc + 1) lv (.int (x <<< (y &&& 31)) :: st)) : Y E p l e R s m args below meth c nL Q σ τ pc lv (.int y :: .int x :: st) := fun H locs ls hG hS hl => lv_ishl C.1 C.2.1 d (kk H locs ls hG hS hl)
theorem y_ishr (C : Cx E p s m args meth c cc nL ret own) {x y : Int32} (d : decode cc pc = .ok (.ishr, 1)) (kk : Y E p l e R s m args below meth c nL Q σ τ (pc + 1) lv (.int (x >>> (y &&& 31)) :: st)) : Y E p l e R s m args below meth c nL Q σ τ pc lv (.int y :: .int x :: st) := fun H locs ls hG hS hl => lv_ishr C.1 C.2.1 d (kk H locs ls hG hS hl)
theorem y_iushr (C : Cx E p s m args meth c cc nL ret own) {x y : Int32} (d : decode cc pc = .ok (.iushr, 1)) (kk : Y E p l e R s m args below meth c nL Q σ τ (pc + 1) lv (.int (x.toUInt32 >>> (y.toUInt32 &&& Int32.toUInt32 31)).toInt32 :: st)) : Y E p l e R s m args below meth c nL Q σ τ pc lv (.int y :: .int x :: st) := fun H locs ls hG hS hl => lv_iushr C.1 C.2.1 d rfl (kk H locs ls hG hS hl)
theorem y_idiv (C : Cx E p s m args meth c cc nL ret own) {x y : Int32} (hz : ne0 y = true) (d : decode cc pc = .ok (.idiv, 1)) (kk : Y E p l e R s m args below meth c nL Q σ τ (pc + 1) lv (.int (x / y) :: st)) : Y E p l e R s m args below meth c nL Q σ τ pc lv (.int y :: .int x :: st) := fun H locs ls hG hS hl => lv_idiv C.1 C.2.1 d (ne0_e hz) (kk H locs ls hG hS hl)
theorem y_irem (C : Cx E p s m args meth c cc nL ret own) {x y : Int32} (hz : ne0 y = true) (d : decode cc pc = .ok (.irem, 1)) (kk : Y E p l e R s m args below meth c nL Q σ τ (pc + 1) lv (.int (x - x / y * y) :: st)) : Y E p l e R s m args below meth c nL Q σ τ pc lv (.int y :: .int x :: st) := fun H locs ls hG hS hl => lv_irem C.1 C.2.1 d (ne0_e hz) (kk H locs ls hG hS hl)
theorem y_ladd (C : Cx E p s m args meth c cc nL ret own) {x y : Int64} (d : decode cc pc = .ok (.ladd, 1)) (kk : Y E p l e R s m args below meth c nL Q σ τ (pc + 1) lv (.long (x + y) :: st)) : Y E p l e R s m args below meth c nL Q σ τ pc lv (.long y :: .long x :: st) := fun H locs ls hG hS hl => lv_ladd C.1 C.2.1 d (kk H locs ls hG hS hl)
theorem y_lmul (C : Cx E p s m args meth c cc nL ret own) {x y : Int64} (d : decode cc pc = .ok (.lmul, 1)) (kk : Y E p l e R s m args below meth c nL Q σ τ (pc + 1) lv (.long (x * y) :: st)) : Y E p l e R s m args below meth c nL Q σ τ pc lv (.long y :: .long x :: st) := fun H locs ls hG hS hl => lv_lmul C.1 C.2.1 d (kk H locs ls hG hS hl)
theorem y_ldiv (C : Cx E p s m args meth c cc nL ret own) {x y : Int64} (hz : ne0L y = true) (d : decode cc pc = .ok (.ldiv, 1)) (kk : Y E p l e R s m args below meth c nL Q σ τ (pc + 1) lv (.long (x / y) :: st)) : Y E p l e R s m args below meth c nL Q σ τ pc lv (.long y :: .long x :: st) := fun H locs ls hG hS hl => lv_ldiv C.1 C.2.1 d (ne0L_e hz) (kk H locs ls hG hS hl)
theorem y_lrem (C : Cx E p s m args meth c cc nL ret own) {x y : Int64} (hz : ne0L y = true) (d : decode cc pc = .ok (.lrem, 1)) (kk : Y E p l e R s m args below meth c nL Q σ τ (pc + 1) lv (.long (x - x / y * y) :: st)) : Y E p l e R s m args below meth c nL Q σ τ pc lv (.long y :: .long x :: st) := fun H locs ls hG hS hl => lv_lrem C.1 C.2.1 d (ne0L_e hz) (kk H locs ls hG hS hl)
theorem y_lneg (C : Cx E p s m args meth c cc nL ret own) {x : Int64} (d : decode cc pc = .ok (.lneg, 1)) (kk : Y E p l e R s m args below meth c nL Q σ τ (pc + 1) lv (.long (-x) :: st)) : Y E p l e R s m args below meth c nL Q σ τ pc lv (.long x :: st) := fun H locs ls hG hS hl => lv_lneg C.1 C.2.1 d (kk H locs ls hG hS hl)
theorem y_i2l (C : Cx E p s m args meth c cc nL ret own) {x : Int32} (d : decode cc pc = .ok (.i2l, 1)) (kk : Y E p l e R s m args below meth c nL Q σ τ (pc + 1) lv (.long x.toInt64 :: st)) : Y E p l e R s m args below meth c nL Q σ τ pc lv (.int x :: st) := fun H locs ls hG hS hl => lv_i2l C.1 C.2.1 d rfl (kk H locs ls hG hS hl)
theorem y_l2i (C : Cx E p s m args meth c cc nL ret own) {x : Int64} (d : decode cc pc = .ok (.l2i, 1)) (kk : Y E p l e R s m args below meth c nL Q σ τ (pc + 1) lv (.int x.toInt32 :: st)) : Y E p l e R s m args below meth c nL Q σ τ pc lv (.long x :: st) := fun H locs ls hG hS hl => lv_l2i C.1 C.2.1 d rfl (kk H locs ls hG hS hl)
theorem y_i2b (C : Cx E p s m args meth c cc nL ret own) {x : Int32} (d : decode cc pc = .ok (.i2b, 1)) (kk : Y E p l e R s m args below meth c nL Q σ τ (pc + 1) lv (.int x.toInt8.toInt32 :: st)) : Y E p l e R s m args below meth c nL Q σ τ pc lv (.int x :: st) := fun H locs ls hG hS hl => lv_i2b C.1 C.2.1 d rfl (kk H locs ls hG hS hl)
theorem y_lcmp (C : Cx E p s m args meth c cc nL ret own) {x y : Int64} (d : decode cc pc = .ok (.lcmp, 1)) (kk : Y E p l e R s m args below meth c nL Q σ τ (pc + 1) lv (.int (lg_cmp x y) :: st)) : Y E p l e R s m args below meth c nL Q σ τ pc lv (.long y :: .long x :: st) := fun H locs ls hG hS hl => W.lcmp C.1 C.2.1 d (kk H locs ls hG hS hl)
theorem y_dup (C : Cx E p s m args meth c cc nL ret own) {v : Value} (d : decode cc pc = .ok (.dup, 1)) (hv : v.category = 1) (kk : Y E p l e R s m args below meth c nL Q σ τ (pc + 1) lv (v :: v :: st)) : Y E p l e R s m args below meth c nL Q σ τ pc lv (v :: st) := fun H locs ls hG hS hl => lv_dup C.1 C.2.1 d hv (kk H locs ls hG hS hl)
theorem y_dup2 (C : Cx E p s m args meth c cc nL ret own) {v w : Value} (d : decode cc pc = .ok (.dup2, 1)) (hv : v.category = 1) (hw : w.category = 1) (kk : Y E p l e R s m args below meth c nL Q σ τ (pc + 1) lv (v :: w :: v :: w :: st)) : Y E p l e R s m args below meth c nL Q σ τ pc lv (v :: w :: st) := fun H locs ls hG hS hl => lv_dup2_11 C.1 C.2.1 d hv hw (kk H locs ls hG hS hl)
theorem y_pop (C : Cx E p s m args meth c cc nL ret own) {v : Value} (d : decode cc pc = .ok (.pop, 1)) (hv : v.category = 1) (kk : Y E p l e R s m args below meth c nL Q σ τ (pc + 1) lv st) : Y E p l e R s m args below meth c nL Q σ τ pc lv (v :: st) := fun H locs ls hG hS hl => lv_pop C.1 C.2.1 d hv (kk H locs ls hG hS hl)
theorem y_goto (C : Cx E p s m args meth c cc nL ret own) {off : Int} (tgt : Nat) (d : decode cc pc = .ok (.goto off, 3)) (ht : (pc : Int) + off = (tgt : Int)) (kk : Y E p l e R s m args below meth c nL Q σ τ tgt lv st) : Y E p l e R s m args below meth c nL Q σ τ pc lv st := fun H locs ls hG hS hl => lv_goto C.1 C.2.1 d ht (kk H locs ls hG hS hl)
theorem y_sub (ks : List Nat) (h : lv_pick lv ks = lv') (kk : Y E p l e R s m args below meth c nL Q σ τ pc lv' st) : Y E p l e R s m args below meth c nL Q σ τ pc lv st := fun H locs ls hG hS hl => kk H locs ls hG hS (lv_sub hl ks h)
theorem y_if_eq (C : Cx E p s m args meth c cc nL ret own) {β : Type} {A B z : β} {x : Int32} {off : Int} (tgt : Nat) (d : decode cc pc = .ok (.ifCond .eq off, 3)) (ht : (pc : Int) + off = (tgt : Int)) (hf : (if x = 0 then A else B) = z) (kt : A = z → Y E p l e R s m args below meth c nL Q σ τ tgt lv st) (kf : B = z → Y E p l e R s m args below meth c nL Q σ τ (pc + 3) lv st) : Y E p l e R s m args below meth c nL Q σ τ pc lv (.int x :: st) := fun H locs ls hG hS hl => lv_if_eq C.1 C.2.1 d ht (fun h => kt ((if_pos h).symm.trans hf) H locs ls hG hS hl) (fun h => kf ((if_neg h).symm.trans hf) H locs ls hG hS hl)
theorem y_icmp_eq (C : Cx E p s m args meth c cc nL ret own) {β : Type} {A B z : β} {x y : Int32} {off : Int} (tgt : Nat) (d : decode cc pc = .ok (.if_icmp .eq off, 3)) (ht : (pc : Int) + off = (tgt : Int)) (hf : (if x = y then A else B) = z) (kt : A = z → Y E p l e R s m args below meth c nL Q σ τ tgt lv st) (kf : B = z → Y E p l e R s m args below meth c nL Q σ τ (pc + 3) lv st) : Y E p l e R s m args below meth c nL Q σ τ pc lv (.int y :: .int x :: st) := fun H locs ls hG hS hl => lv_icmp_eq C.1 C.2.1 d ht (fun h => kt ((if_pos h).symm.trans hf) H locs ls hG hS hl) (fun h => kf ((if_neg h).symm.trans hf) H locs ls hG hS hl)
theorem y_if_ne (C : Cx E p s m args meth c cc nL ret own) {β : Type} {A B z : β} {x : Int32} {off : Int} (tgt : Nat) (d : decode cc pc = .ok (.ifCond .ne off, 3)) (ht : (pc : Int) + off = (tgt : Int)) (hf : (if x = 0 then B else A) = z) (kt : A = z → Y E p l e R s m args below meth c nL Q σ τ tgt lv st) (kf : B = z → Y E p l e R s m args below meth c nL Q σ τ (pc + 3) lv st) : Y E p l e R s m args below meth c nL Q σ τ pc lv (.int x :: st) := fun H locs ls hG hS hl => lv_if_ne C.1 C.2.1 d ht (fun h => kt ((if_neg h).symm.trans hf) H locs ls hG hS hl) (fun h => kf ((if_pos h).symm.trans hf) H locs ls hG hS hl)
theorem y_icmp_ne (C : Cx E p s m args meth c cc nL ret own) {β : Type} {A B z : β} {x y : Int32} {off : Int} (tgt : Nat) (d : decode cc pc = .ok (.if_icmp .ne off, 3)) (ht : (pc : Int) + off = (tgt : Int)) (hf : (if x = y then B else A) = z) (kt : A = z → Y E p l e R s m args below meth c nL Q σ τ tgt lv st) (kf : B = z → Y E p l e R s m args below meth c nL Q σ τ (pc + 3) lv st) : Y E p l e R s m args below meth c nL Q σ τ pc lv (.int y :: .int x :: st) := fun H locs ls hG hS hl => lv_icmp_ne C.1 C.2.1 d ht (fun h => kt ((if_neg h).symm.trans hf) H locs ls hG hS hl) (fun h => kf ((if_pos h).symm.trans hf) H locs ls hG hS hl)
theorem y_if_lt (C : Cx E p s m args meth c cc nL ret own) {β : Type} {A B z : β} {x : Int32} {off : Int} (tgt : Nat) (d : decode cc pc = .ok (.ifCond .lt off, 3)) (ht : (pc : Int) + off = (tgt : Int)) (hf : (if x < 0 then A else B) = z) (kt : A = z → Y E p l e R s m args below meth c nL Q σ τ tgt lv st) (kf : B = z → Y E p l e R s m args below meth c nL Q σ τ (pc + 3) lv st) : Y E p l e R s m args below meth c nL Q σ τ pc lv (.int x :: st) := fun H locs ls hG hS hl => lv_if_lt C.1 C.2.1 d ht (fun h => kt ((if_pos h).symm.trans hf) H locs ls hG hS hl) (fun h => kf ((if_neg h).symm.trans hf) H locs ls hG hS hl)
theorem y_icmp_lt (C : Cx E p s m args meth c cc nL ret own) {β : Type} {A B z : β} {x y : Int32} {off : Int} (tgt : Nat) (d : decode cc pc = .ok (.if_icmp .lt off, 3)) (ht : (pc : Int) + off = (tgt : Int)) (hf : (if x < y then A else B) = z) (kt : A = z → Y E p l e R s m args below meth c nL Q σ τ tgt lv st) (kf : B = z → Y E p l e R s m args below meth c nL Q σ τ (pc + 3) lv st) : Y E p l e R s m args below meth c nL Q σ τ pc lv (.int y :: .int x :: st) := fun H locs ls hG hS hl => lv_icmp_lt C.1 C.2.1 d ht (fun h => kt ((if_pos h).symm.trans hf) H locs ls hG hS hl) (fun h => kf ((if_neg h).symm.trans hf) H locs ls hG hS hl)
theorem y_if_ge (C : Cx E p s m args meth c cc nL ret own) {β : Type} {A B z : β} {x : Int32} {off : Int} (tgt : Nat) (d : decode cc pc = .ok (.ifCond .ge off, 3)) (ht : (pc : Int) + off = (tgt : Int)) (hf : (if 0 ≤ x then A else B) = z) (kt : A = z → Y E p l e R s m args below meth c nL Q σ τ tgt lv st) (kf : B = z → Y E p l e R s m args below meth c nL Q σ τ (pc + 3) lv st) : Y E p l e R s m args below meth c nL Q σ τ pc lv (.int x :: st) := fun H locs ls hG hS hl => lv_if_ge C.1 C.2.1 d ht (fun h => kt ((if_pos h).symm.trans hf) H locs ls hG hS hl) (fun h => kf ((if_neg h).symm.trans hf) H locs ls hG hS hl)
theorem y_icmp_ge (C : Cx E p s m args meth c cc nL ret own) {β : Type} {A B z : β} {x y : Int32} {off : Int} (tgt : Nat) (d : decode cc pc = .ok (.if_icmp .ge off, 3)) (ht : (pc : Int) + off = (tgt : Int)) (hf : (if y ≤ x then A else B) = z) (kt : A = z → Y E p l e R s m args below meth c nL Q σ τ tgt lv st) (kf : B = z → Y E p l e R s m args below meth c nL Q σ τ (pc + 3) lv st) : Y E p l e R s m args below meth c nL Q σ τ pc lv (.int y :: .int x :: st) := fun H locs ls hG hS hl => lv_icmp_ge C.1 C.2.1 d ht (fun h => kt ((if_pos h).symm.trans hf) H locs ls hG hS hl) (fun h => kf ((if_neg h).symm.trans hf) H locs ls hG hS hl)
theorem y_if_gt (C : Cx E p s m args meth c cc nL ret own) {β : Type} {A B z : β} {x : Int32} {off : Int} (tgt : Nat) (d : decode cc pc = .ok (.ifCond .gt off, 3)) (ht : (pc : Int) + off = (tgt : Int)) (hf : (if 0 < x then A else B) = z) (kt : A = z → Y E p l e R s m args below meth c nL Q σ τ tgt lv st) (kf : B = z → Y E p l e R s m args below meth c nL Q σ τ (pc + 3) lv st) : Y E p l e R s m args below meth c nL Q σ τ pc lv (.int x :: st) := fun H locs ls hG hS hl => lv_if_gt C.1 C.2.1 d ht (fun h => kt ((if_pos h).symm.trans hf) H locs ls hG hS hl) (fun h => kf ((if_neg h).symm.trans hf) H locs ls hG hS hl)
theorem y_icmp_gt (C : Cx E p s m args meth c cc nL ret own) {β : Type} {A B z : β} {x y : Int32} {off : Int} (tgt : Nat) (d : decode cc pc = .ok (.if_icmp .gt off, 3)) (ht : (pc : Int) + off = (tgt : Int)) (hf : (if y < x then A else B) = z) (kt : A = z → Y E p l e R s m args below meth c nL Q σ τ tgt lv st) (kf : B = z → Y E p l e R s m args below meth c nL Q σ τ (pc + 3) lv st) : Y E p l e R s m args below meth c nL Q σ τ pc lv (.int y :: .int x :: st) := fun H locs ls hG hS hl => lv_icmp_gt C.1 C.2.1 d ht (fun h => kt ((if_pos h).symm.trans hf) H locs ls hG hS hl) (fun h => kf ((if_neg h).symm.trans hf) H locs ls hG hS hl)
theorem y_if_le (C : Cx E p s m args meth c cc nL ret own) {β : Type} {A B z : β} {x : Int32} {off : Int} (tgt : Nat) (d : decode cc pc = .ok (.ifCond .le off, 3)) (ht : (pc : Int) + off = (tgt : Int)) (hf : (if x ≤ 0 then A else B) = z) (kt : A = z → Y E p l e R s m args below meth c nL Q σ τ tgt lv st) (kf : B = z → Y E p l e R s m args below meth c nL Q σ τ (pc + 3) lv st) : Y E p l e R s m args below meth c nL Q σ τ pc lv (.int x :: st) := fun H locs ls hG hS hl => lv_if_le C.1 C.2.1 d ht (fun h => kt ((if_pos h).symm.trans hf) H locs ls hG hS hl) (fun h => kf ((if_neg h).symm.trans hf) H locs ls hG hS hl)
theorem y_icmp_le (C : Cx E p s m args meth c cc nL ret own) {β : Type} {A B z : β} {x y : Int32} {off : Int} (tgt : Nat) (d : decode cc pc = .ok (.if_icmp .le off, 3)) (ht : (pc : Int) + off = (tgt : Int)) (hf : (if x ≤ y then A else B) = z) (kt : A = z → Y E p l e R s m args below meth c nL Q σ τ tgt lv st) (kf : B = z → Y E p l e R s m args below meth c nL Q σ τ (pc + 3) lv st) : Y E p l e R s m args below meth c nL Q σ τ pc lv (.int y :: .int x :: st) := fun H locs ls hG hS hl => lv_icmp_le C.1 C.2.1 d ht (fun h => kt ((if_pos h).symm.trans hf) H locs ls hG hS hl) (fun h => kf ((if_neg h).symm.trans hf) H locs ls hG hS hl)
theorem y_tsw (C : Cx E p s m args meth c cc nL ret own) {dflt lo hi : Int} {offs : Array Int} {len : Nat} {x k : Int32} {off : Int} (tgt : Nat) (hk : x = k) (d : decode cc pc = .ok (.tableswitch dflt lo hi offs, len)) (h1 : ¬ k.toInt < lo) (h2 : ¬ hi < k.toInt) (ho : offs[(k.toInt - lo).toNat]? = some off) (ht : (pc : Int) + off = (tgt : Int)) (kk : Y E p l e R s m args below meth c nL Q σ τ tgt lv st) : Y E p l e R s m args below meth c nL Q σ τ pc lv (.int x :: st) := by
  subst hk
  exact fun H locs ls hG hS hl => lv_tableIn C.1 C.2.1 d h1 h2 ho ht (kk H locs ls hG hS hl)
theorem y_tswD (C : Cx E p s m args meth c cc nL ret own) {dflt lo hi : Int} {offs : Array Int} {len : Nat} {x : Int32} (tgt : Nat) (d : decode cc pc = .ok (.tableswitch dflt lo hi offs, len)) (h : x.toInt < lo ∨ hi < x.toInt) (ht : (pc : Int) + dflt = (tgt : Int)) (kk : Y E p l e R s m args below meth c nL Q σ τ tgt lv st) : Y E p l e R s m args below meth c nL Q σ τ pc lv (.int x :: st) := fun H locs ls hG hS hl => lv_tableOut C.1 C.2.1 d h ht (kk H locs ls hG hS hl)
theorem y_lsw (C : Cx E p s m args meth c cc nL ret own) {dflt : Int} {ps : Array (Int × Int)} {len : Nat} {x : Int32} {off : Int} (tgt : Nat) (d : decode cc pc = .ok (.lookupswitch dflt ps, len)) (hp : (ps.toList.zip (ps.toList.drop 1)).all (fun (a, next) => a.1 < next.1) = true) (ho : Op.lookupswitch.offset ps.toList dflt x.toInt = off) (ht : (pc : Int) + off = (tgt : Int)) (kk : Y E p l e R s m args below meth c nL Q σ τ tgt lv st) : Y E p l e R s m args below meth c nL Q σ τ pc lv (.int x :: st) := fun H locs ls hG hS hl => lv_lookup C.1 C.2.1 d hp ho ht (kk H locs ls hG hS hl)
end RowsY
section CallsY
variable {E : QE} {p : Program} {l : Launch} {e : Env} {R : Room} {s : State} {m : MethodId} {args : Array Value} {below : List Frame} {meth : Method} {c : Code} {Q : State → Prop} {nL : Nat} {σ τ σ1 τ1 : QS} {pc : Nat} {lv lv' : List (Nat × Value)} {st st0 : List Value} {cc : ByteArray} {ret : Option FieldType} {own : String} {index : Nat}
variable {y : MethodName} {b : ByteArray} {n na o : Nat} {r : Option FieldType} {rm : Room} {As : List Value}
/-- an instance method's words; a static one's -/
def VI (y : MethodName) (b : ByteArray) (n : Nat) (r : Option FieldType) (na : Nat) : Prop := Cond.instanceMethod y ∈ TB ∧ Cond.selects y.cls y y ∈ TB ∧ Cond.initialized y.cls ∈ TB ∧ Cond.code y b n r ∈ TB ∧ y.cls ≠ "java/lang/invoke/MethodHandle" ∧ y.cls ≠ "java/lang/invoke/VarHandle" ∧ (parseMethodDescriptor y.desc).map (fun d => d.parameters.length) = some na
def SI (y : MethodName) (b : ByteArray) (n : Nat) (r : Option FieldType) (na : Nat) : Prop := Cond.static y ∈ TB ∧ Cond.initialized y.cls ∈ TB ∧ Cond.code y b n r ∈ TB ∧ y.cls ≠ "java/lang/invoke/MethodHandle" ∧ y.cls ≠ "java/lang/invoke/VarHandle" ∧ (parseMethodDescriptor y.desc).map (fun d => d.parameters.length) = some na
def rmOk (rm R : Room) (n : Nat) : Prop := rm.cells = 0 ∧ rm.slots = 0 ∧ rm.frames + 1 ≤ R.frames ∧ 8 + (n + 11) + rm.locals ≤ R.locals
/-- the receiver: an object of the world, of the method's class -/
def rcv (o : Nat) (y : MethodName) : Prop := ∃ ci q, isO o ci ∧ vwCl[ci]? = some q ∧ q.1 = y.cls
theorem run_V (C : Cx E p s m args meth c cc nL ret own) {Qc : Array Value → State → Outcome → State → Prop} (hM : KQ l y b n r rm E (.ref (qAd E o) :: As) σ τ Qc) (hv : VI y b n r na) (hlk : Cond.methodLink own index y ∈ TB) (ho : rcv o y) (hAs : As.length = na) (hR : rmOk rm R n) (d : decode cc pc = .ok (.invokevirtual index, 3)) (hst : st0 = As.reverse ++ .ref (qAd E o) :: st) (hcat : (st.map fun v => v.category).sum ≤ 8) {H : Heap} {locs : List Loc} {ls : Array Slot} (hG : G E σ τ H) (hS : va_S (qA E) s.heap H locs) (hl : lv_has ls nL lv) : va_Run p l e R s m args below meth c H locs 0 0 0 0 (F0 m pc ls st0) st (Qc (.ref (qAd E o) :: As).toArray) (qA E) := by
  obtain ⟨hx, hb, hml, hown, hts, hr, hlk2, hF⟩ := C
  obtain ⟨ci, q, hO, hc, hq⟩ := ho
  obtain ⟨fs, he⟩ := hO E σ τ
  obtain ⟨v1, v2, v3, v4, v5, v6, v7⟩ := hv
  have hrec := va_recv hF.1 hG.1 hc he
  rw [hq] at hrec
  exact va_runV (As := As) (rest := st) (cc := cc) (nL := nL) (Ts := TB) (own := own) (C := y.cls) (index := index) (bytes := b) (maxL := n) (ret := r) (n := na) ⟨hx, hb, hml, hown, hts⟩ hM (cwV na hts (tb_V hlk v1 v2 v3 v4) rfl hR.1 hR.2.1 ⟨rfl, v5, v6, v7⟩ ⟨hR.2.2.1, hR.2.2.2⟩) ⟨Pre.blind, hrec, fun U hU hW => ⟨rfl, Pre.at hF hG hS hU hW⟩⟩ rfl hAs hl.1 hst (lv_room hcat) d ⟨Nat.zero_le _, Nat.zero_le _⟩
theorem run_S (C : Cx E p s m args meth c cc nL ret own) {Qc : Array Value → State → Outcome → State → Prop} (hM : KQ l y b n r rm E As σ τ Qc) (hv : SI y b n r na) (hlk : Cond.methodLink own index y ∈ TB) (hAs : As.length = na) (hR : rmOk rm R n) (d : decode cc pc = .ok (.invokestatic index, 3)) (hst : st0 = As.reverse ++ st) (hcat : (st.map fun v => v.category).sum ≤ 8) {H : Heap} {locs : List Loc} {ls : Array Slot} (hG : G E σ τ H) (hS : va_S (qA E) s.heap H locs) (hl : lv_has ls nL lv) : va_Run p l e R s m args below meth c H locs 0 0 0 0 (F0 m pc ls st0) st (Qc As.toArray) (qA E) := by
  obtain ⟨hx, hb, hml, hown, hts, hr, hlk2, hF⟩ := C
  obtain ⟨v1, v3, v4, v5, v6, v7⟩ := hv
  exact va_runS (As := As) (rest := st) (cc := cc) (nL := nL) (Ts := TB) (own := own) (index := index) (bytes := b) (maxL := n) (ret := r) (n := na) ⟨hx, hb, hml, hown, hts⟩ hM (va_cwS na hts (tb_S hlk v1 v3 v4) rfl hR.1 hR.2.1 ⟨v5, v6, v7⟩ ⟨hR.2.2.1, hR.2.2.2⟩) ⟨Pre.blind, fun U hU hW => ⟨rfl, Pre.at hF hG hS hU hW⟩⟩ rfl hAs hl.1 hst (lv_room hcat) d ⟨Nat.zero_le _, Nat.zero_le _⟩
theorem run_N (C : Cx E p s m args meth c cc nL ret own) {Qc : Array Value → State → Outcome → State → Prop} {host : String} (hM : KQ l y b n r rm E As σ τ Qc) (hv : SI y b n r na) (hlk : Cond.methodLinkNest own index y host ∈ NS) (hAs : As.length = na) (hR : rmOk rm R n) (d : decode cc pc = .ok (.invokestatic index, 3)) (hst : st0 = As.reverse ++ st) (hcat : (st.map fun v => v.category).sum ≤ 8) {H : Heap} {locs : List Loc} {ls : Array Slot} (hG : G E σ τ H) (hS : va_S (qA E) s.heap H locs) (hl : lv_has ls nL lv) : va_Run p l e R s m args below meth c H locs 0 0 0 0 (F0 m pc ls st0) st (Qc As.toArray) (qA E) := by
  obtain ⟨hx, hb, hml, hown, hts, hr, hlk2, hF⟩ := C
  obtain ⟨v1, v3, v4, v5, v6, v7⟩ := hv
  exact va_runSN (As := As) (rest := st) (cc := cc) (nL := nL) (Ts := TB) (own := own) (index := index) (bytes := b) (maxL := n) (ret := r) (n := na) ⟨hx, hb, hml, hown, hts⟩ hM ⟨va_cnB na hts (tb_M v4) rfl hR.1 hR.2.1 (hF.2.2 _ hlk) (hts _ v3) ⟨v5, v6, v7⟩ ⟨hR.2.2.1, hR.2.2.2⟩, hts _ v1, trivial⟩ ⟨Pre.blind, fun U hU hW => ⟨rfl, Pre.at hF hG hS hU hW⟩⟩ rfl hAs hl.1 hst (lv_room hcat) d ⟨Nat.zero_le _, Nat.zero_le _⟩
theorem y_cVi (C : Cx E p s m args meth c cc nL ret own) {w : Int32} (hM : KQ l y b n r rm E (.ref (qAd E o) :: As) σ τ (PI E w σ1 τ1)) (hv : VI y b n r na) (hlk : Cond.methodLink own index y ∈ TB) (ho : rcv o y) (hAs : As.length = na) (hR : rmOk rm R n) (d : decode cc pc = .ok (.invokevirtual index, 3)) (hst : st0 = As.reverse ++ .ref (qAd E o) :: st) (hcat : (st.map fun v => v.category).sum ≤ 8) (kk : Y E p l e R s m args below meth c nL Q σ1 τ1 (pc + 3) lv (.int w :: st)) : Y E p l e R s m args below meth c nL Q σ τ pc lv st0 := by
  intro H locs ls hG hS hl
  exact va_calli (run_V C hM hv hlk ho hAs hR d hst hcat hG hS hl) hS (fun q _ h => h) (fun q h => h) (fun r9 u t H1 locs1 ht _ hp hB _ _ hS1 => by
    have hp : r9 = w := hp
    subst hp
    exact kk H1 locs1 ls (by rw [← ht]; exact hB) hS1 hl)
theorem y_cVl (C : Cx E p s m args meth c cc nL ret own) {w : Int64} (hM : KQ l y b n r rm E (.ref (qAd E o) :: As) σ τ (PL E w σ1 τ1)) (hv : VI y b n r na) (hlk : Cond.methodLink own index y ∈ TB) (ho : rcv o y) (hAs : As.length = na) (hR : rmOk rm R n) (d : decode cc pc = .ok (.invokevirtual index, 3)) (hst : st0 = As.reverse ++ .ref (qAd E o) :: st) (hcat : (st.map fun v => v.category).sum ≤ 8) (kk : Y E p l e R s m args below meth c nL Q σ1 τ1 (pc + 3) lv (.long w :: st)) : Y E p l e R s m args below meth c nL Q σ τ pc lv st0 := by
  intro H locs ls hG hS hl
  exact va_calll (run_V C hM hv hlk ho hAs hR d hst hcat hG hS hl) hS (fun q _ h => h) (fun q h => h) (fun r9 u t H1 locs1 ht _ hp hB _ _ hS1 => by
    have hp : r9 = w := hp
    subst hp
    exact kk H1 locs1 ls (by rw [← ht]; exact hB) hS1 hl)
theorem y_cVv (C : Cx E p s m args meth c cc nL ret own)  (hM : KQ l y b n r rm E (.ref (qAd E o) :: As) σ τ (PV E σ1 τ1)) (hv : VI y b n r na) (hlk : Cond.methodLink own index y ∈ TB) (ho : rcv o y) (hAs : As.length = na) (hR : rmOk rm R n) (d : decode cc pc = .ok (.invokevirtual index, 3)) (hst : st0 = As.reverse ++ .ref (qAd E o) :: st) (hcat : (st.map fun v => v.category).sum ≤ 8) (kk : Y E p l e R s m args below meth c nL Q σ1 τ1 (pc + 3) lv (st)) : Y E p l e R s m args below meth c nL Q σ τ pc lv st0 := by
  intro H locs ls hG hS hl
  exact va_callv (run_V C hM hv hlk ho hAs hR d hst hcat hG hS hl) hS (fun q _ h => h) (fun q h => h) (fun u t H1 locs1 ht _ _ hB _ _ hS1 => kk H1 locs1 ls (by rw [← ht]; exact hB) hS1 hl)
theorem y_cSi (C : Cx E p s m args meth c cc nL ret own) {w : Int32} (hM : KQ l y b n r rm E As σ τ (PI E w σ1 τ1)) (hv : SI y b n r na) (hlk : Cond.methodLink own index y ∈ TB) (hAs : As.length = na) (hR : rmOk rm R n) (d : decode cc pc = .ok (.invokestatic index, 3)) (hst : st0 = As.reverse ++ st) (hcat : (st.map fun v => v.category).sum ≤ 8) (kk : Y E p l e R s m args below meth c nL Q σ1 τ1 (pc + 3) lv (.int w :: st)) : Y E p l e R s m args below meth c nL Q σ τ pc lv st0 := by
  intro H locs ls hG hS hl
  exact va_calli (run_S C hM hv hlk hAs hR d hst hcat hG hS hl) hS (fun q _ h => h) (fun q h => h) (fun r9 u t H1 locs1 ht _ hp hB _ _ hS1 => by
    have hp : r9 = w := hp
    subst hp
    exact kk H1 locs1 ls (by rw [← ht]; exact hB) hS1 hl)
theorem y_cSl (C : Cx E p s m args meth c cc nL ret own) {w : Int64} (hM : KQ l y b n r rm E As σ τ (PL E w σ1 τ1)) (hv : SI y b n r na) (hlk : Cond.methodLink own index y ∈ TB) (hAs : As.length = na) (hR : rmOk rm R n) (d : decode cc pc = .ok (.invokestatic index, 3)) (hst : st0 = As.reverse ++ st) (hcat : (st.map fun v => v.category).sum ≤ 8) (kk : Y E p l e R s m args below meth c nL Q σ1 τ1 (pc + 3) lv (.long w :: st)) : Y E p l e R s m args below meth c nL Q σ τ pc lv st0 := by
  intro H locs ls hG hS hl
  exact va_calll (run_S C hM hv hlk hAs hR d hst hcat hG hS hl) hS (fun q _ h => h) (fun q h => h) (fun r9 u t H1 locs1 ht _ hp hB _ _ hS1 => by
    have hp : r9 = w := hp
    subst hp
    exact kk H1 locs1 ls (by rw [← ht]; exact hB) hS1 hl)
theorem y_cSv (C : Cx E p s m args meth c cc nL ret own)  (hM : KQ l y b n r rm E As σ τ (PV E σ1 τ1)) (hv : SI y b n r na) (hlk : Cond.methodLink own index y ∈ TB) (hAs : As.length = na) (hR : rmOk rm R n) (d : decode cc pc = .ok (.invokestatic index, 3)) (hst : st0 = As.reverse ++ st) (hcat : (st.map fun v => v.category).sum ≤ 8) (kk : Y E p l e R s m args below meth c nL Q σ1 τ1 (pc + 3) lv (st)) : Y E p l e R s m args below meth c nL Q σ τ pc lv st0 := by
  intro H locs ls hG hS hl
  exact va_callv (run_S C hM hv hlk hAs hR d hst hcat hG hS hl) hS (fun q _ h => h) (fun q h => h) (fun u t H1 locs1 ht _ _ hB _ _ hS1 => kk H1 locs1 ls (by rw [← ht]; exact hB) hS1 hl)
theorem y_cNi (C : Cx E p s m args meth c cc nL ret own) {w : Int32} (hM : KQ l y b n r rm E As σ τ (PI E w σ1 τ1)) {host : String} (hv : SI y b n r na) (hlk : Cond.methodLinkNest own index y host ∈ NS) (hAs : As.length = na) (hR : rmOk rm R n) (d : decode cc pc = .ok (.invokestatic index, 3)) (hst : st0 = As.reverse ++ st) (hcat : (st.map fun v => v.category).sum ≤ 8) (kk : Y E p l e R s m args below meth c nL Q σ1 τ1 (pc + 3) lv (.int w :: st)) : Y E p l e R s m args below meth c nL Q σ τ pc lv st0 := by
  intro H locs ls hG hS hl
  exact va_calli (run_N C hM hv hlk hAs hR d hst hcat hG hS hl) hS (fun q _ h => h) (fun q h => h) (fun r9 u t H1 locs1 ht _ hp hB _ _ hS1 => by
    have hp : r9 = w := hp
    subst hp
    exact kk H1 locs1 ls (by rw [← ht]; exact hB) hS1 hl)
theorem y_cNl (C : Cx E p s m args meth c cc nL ret own) {w : Int64} (hM : KQ l y b n r rm E As σ τ (PL E w σ1 τ1)) {host : String} (hv : SI y b n r na) (hlk : Cond.methodLinkNest own index y host ∈ NS) (hAs : As.length = na) (hR : rmOk rm R n) (d : decode cc pc = .ok (.invokestatic index, 3)) (hst : st0 = As.reverse ++ st) (hcat : (st.map fun v => v.category).sum ≤ 8) (kk : Y E p l e R s m args below meth c nL Q σ1 τ1 (pc + 3) lv (.long w :: st)) : Y E p l e R s m args below meth c nL Q σ τ pc lv st0 := by
  intro H locs ls hG hS hl
  exact va_calll (run_N C hM hv hlk hAs hR d hst hcat hG hS hl) hS (fun q _ h => h) (fun q h => h) (fun r9 u t H1 locs1 ht _ hp hB _ _ hS1 => by
    have hp : r9 = w := hp
    subst hp
    exact kk H1 locs1 ls (by rw [← ht]; exact hB) hS1 hl)
theorem y_cNv (C : Cx E p s m args meth c cc nL ret own)  (hM : KQ l y b n r rm E As σ τ (PV E σ1 τ1)) {host : String} (hv : SI y b n r na) (hlk : Cond.methodLinkNest own index y host ∈ NS) (hAs : As.length = na) (hR : rmOk rm R n) (d : decode cc pc = .ok (.invokestatic index, 3)) (hst : st0 = As.reverse ++ st) (hcat : (st.map fun v => v.category).sum ≤ 8) (kk : Y E p l e R s m args below meth c nL Q σ1 τ1 (pc + 3) lv (st)) : Y E p l e R s m args below meth c nL Q σ τ pc lv st0 := by
  intro H locs ls hG hS hl
  exact va_callv (run_N C hM hv hlk hAs hR d hst hcat hG hS hl) hS (fun q _ h => h) (fun q h => h) (fun u t H1 locs1 ht _ _ hB _ _ hS1 => kk H1 locs1 ls (by rw [← ht]; exact hB) hS1 hl)
theorem y_mmax (C : Cx E p s m args meth c cc nL ret own) (hlk : Cond.methodLink own index Lib.Math.max.name ∈ TB) (h1 : Cond.static Lib.Math.max.name ∈ TB) (h2 : Cond.initialized "java/lang/Math" ∈ TB) (h3 : Cond.code Lib.Math.max.name Lib.Math.max.code 2 (some .int) ∈ TB) (hf : 1 ≤ R.frames) (hlo : (st.map fun v => v.category).sum + 13 ≤ R.locals) {x y : Int32} (d : decode cc pc = .ok (.invokestatic index, 3)) (kk : Y E p l e R s m args below meth c nL Q σ τ (pc + 3) lv (.int (if x < y then y else x) :: st)) : Y E p l e R s m args below meth c nL Q σ τ pc lv (.int y :: .int x :: st) := by
  obtain ⟨hx, hb, hml, hown, hts, hr, hlk2, hF⟩ := C
  intro H locs ls hG hS hl
  exact va_mmax hx hb (hml.trans hl.1.symm) hown (hts _ hlk) (hts _ h1) (hts _ h2) (hts _ h3) hf hlo (Nat.zero_le _) (Nat.zero_le _) d (kk H locs ls hG hS hl)
theorem y_mmin (C : Cx E p s m args meth c cc nL ret own) (hlk : Cond.methodLink own index Lib.Math.min.name ∈ TB) (h1 : Cond.static Lib.Math.min.name ∈ TB) (h2 : Cond.initialized "java/lang/Math" ∈ TB) (h3 : Cond.code Lib.Math.min.name Lib.Math.min.code 2 (some .int) ∈ TB) (hf : 1 ≤ R.frames) (hlo : (st.map fun v => v.category).sum + 13 ≤ R.locals) {x y : Int32} (d : decode cc pc = .ok (.invokestatic index, 3)) (kk : Y E p l e R s m args below meth c nL Q σ τ (pc + 3) lv (.int (if y < x then y else x) :: st)) : Y E p l e R s m args below meth c nL Q σ τ pc lv (.int y :: .int x :: st) := by
  obtain ⟨hx, hb, hml, hown, hts, hr, hlk2, hF⟩ := C
  intro H locs ls hG hS hl
  exact va_mmin hx hb (hml.trans hl.1.symm) hown (hts _ hlk) (hts _ h1) (hts _ h2) (hts _ h3) hf hlo (Nat.zero_le _) (Nat.zero_le _) d (kk H locs ls hG hS hl)
theorem y_mabsL (C : Cx E p s m args meth c cc nL ret own) (hlk : Cond.methodLink own index Lib.MathLoose.abs_long.x ∈ TB) (h1 : Cond.static Lib.MathLoose.abs_long.x ∈ TB) (h2 : Cond.initialized "java/lang/Math" ∈ TB) (h3 : Cond.code Lib.MathLoose.abs_long.x Lib.MathLoose.abs_long.code 2 (some .long) ∈ TB) (hf : 1 ≤ R.frames) (hlo : (st.map fun v => v.category).sum + 13 ≤ R.locals) {x : Int64} (d : decode cc pc = .ok (.invokestatic index, 3)) (kk : Y E p l e R s m args below meth c nL Q σ τ (pc + 3) lv (.long (if 0 < x then x else -x) :: st)) : Y E p l e R s m args below meth c nL Q σ τ pc lv (.long x :: st) := by
  obtain ⟨hx, hb, hml, hown, hts, hr, hlk2, hF⟩ := C
  intro H locs ls hG hS hl
  exact va_mabs_long hx hb (hml.trans hl.1.symm) hown (hts _ hlk) (hts _ h1) (hts _ h2) (hts _ h3) hf hlo (Nat.zero_le _) (Nat.zero_le _) d (kk H locs ls hG hS hl)
/-- System.arraycopy between arrays of the class's part -/
def cpOk (sp dp n : Int32) (n0 n1 : Nat) : Bool := !decide (sp < 0) && (!decide (dp < 0) && (!decide (n < 0) && (decide (sp.toNatClampNeg + n.toNatClampNeg ≤ n0) && decide (dp.toNatClampNeg + n.toNatClampNeg ≤ n1))))
theorem cpOk_e {sp dp n : Int32} {n0 n1 : Nat} (h : cpOk sp dp n n0 n1 = true) : ¬ sp < 0 ∧ ¬ dp < 0 ∧ ¬ n < 0 ∧ sp.toNatClampNeg + n.toNatClampNeg ≤ n0 ∧ dp.toNatClampNeg + n.toNatClampNeg ≤ n1 := by
  simpa [cpOk, Bool.and_eq_true] using h
theorem y_copy (C : Cx E p s m args meth c cc nL ret own) {k0 k1 n0 n1 : Nat} {sp dp cn : Int32} (h0 : aC k0 n0) (h1 : aC k1 n1) (hok : cpOk sp dp cn n0 n1 = true) (hlk : Cond.methodLink own index arraycopyName ∈ TB) (h2 : Cond.native arraycopyName ∈ TB) (h3 : Cond.static arraycopyName ∈ TB) (h4 : Cond.initialized "java/lang/System" ∈ TB) (hf : 1 ≤ R.frames) (hlo : (st.map fun v => v.category).sum + (nativeFrameWords "java/lang/System" "arraycopy" 5 + 11) ≤ R.locals) (es : σ1 = pM σ k1 (va_cpy (gM σ k0) (gM σ k1) sp.toNatClampNeg dp.toNatClampNeg cn.toNatClampNeg)) (d : decode cc pc = .ok (.invokestatic index, 3)) (kk : Y E p l e R s m args below meth c nL Q σ1 τ (pc + 3) lv st) : Y E p l e R s m args below meth c nL Q σ τ pc lv (.int cn :: .int dp :: .ref (qAd E k1) :: .int sp :: .ref (qAd E k0) :: st) := by
  subst es
  obtain ⟨hx, hb, hml, hown, hts, hr, hlk2, hF⟩ := C
  intro H locs ls hG hS hl
  obtain ⟨c1, c2, c3, c4, c5⟩ := cpOk_e hok
  exact va_copyi (D := qD E) hx hb (hml.trans hl.1.symm) hown (hts _ hlk) (hts _ h2) (hts _ h3) (hts _ h4) hF.1 hG.1 hG.2 hS k0 k1 0 0 (h0 E σ τ).1 (h1 E σ τ).1 rfl rfl rfl c1 c2 c3 c4 c5 (fun _ _ => rfl) hf hlo d (fun H1 locs1 hP hD hS1 => kk H1 locs1 ls ⟨by rw [← (h1 E σ τ).2]; exact hP, by rw [← (h1 E σ τ).2]; exact hD⟩ hS1 hl)
theorem y_iret (C : Cx E p s m args meth c cc nL (some .int) own) {v w : Int32} (h1 : v = w) (h2 : σ = σ1) (h3 : τ = τ1) (d : decode cc pc = .ok (.ireturn, 1)) : Y E p l e R s m args below meth c nL (MQ below (PI E w σ1 τ1) args s 0 0 (qA E)) σ τ pc lv [.int v] := by
  subst h1 h2 h3
  obtain ⟨hx, hb, hml, hown, hts, hr, hlk2, hF⟩ := C
  intro H locs ls hG hS hl
  exact W.iret hx hb hr (fun t ht hW => ⟨⟨v, (), rfl, rfl, by show G E σ τ t.heap; rw [ht]; exact hG⟩, hS.F ht⟩) hS.2.2 d hlk2
theorem y_zret (C : Cx E p s m args meth c cc nL (some .boolean) own) {v w : Int32} (hz : zOk v) (h1 : v = w) (h2 : σ = σ1) (h3 : τ = τ1) (d : decode cc pc = .ok (.ireturn, 1)) : Y E p l e R s m args below meth c nL (MQ below (PI E w σ1 τ1) args s 0 0 (qA E)) σ τ pc lv [.int v] := by
  subst h1 h2 h3
  obtain ⟨hx, hb, hml, hown, hts, hr, hlk2, hF⟩ := C
  intro H locs ls hG hS hl
  exact W.zret hx hb hr hz.1 (fun t ht hW => ⟨⟨v, (), rfl, rfl, by show G E σ τ t.heap; rw [ht]; exact hG⟩, hS.F ht⟩) hS.2.2 d hlk2
theorem y_lret (C : Cx E p s m args meth c cc nL (some .long) own) {v w : Int64} (h1 : v = w) (h2 : σ = σ1) (h3 : τ = τ1) (d : decode cc pc = .ok (.lreturn, 1)) : Y E p l e R s m args below meth c nL (MQ below (PL E w σ1 τ1) args s 0 0 (qA E)) σ τ pc lv [.long v] := by
  subst h1 h2 h3
  obtain ⟨hx, hb, hml, hown, hts, hr, hlk2, hF⟩ := C
  intro H locs ls hG hS hl
  exact W.lret hx hb hr (fun t ht hW => ⟨⟨v, (), rfl, rfl, by show G E σ τ t.heap; rw [ht]; exact hG⟩, hS.F ht⟩) hS.2.2 d hlk2
theorem y_vret (C : Cx E p s m args meth c cc nL none own) (h2 : σ = σ1) (h3 : τ = τ1) (d : decode cc pc = .ok (.return_, 1)) : Y E p l e R s m args below meth c nL (MQ below (PV E σ1 τ1) args s 0 0 (qA E)) σ τ pc lv [] := by
  subst h2 h3
  obtain ⟨hx, hb, hml, hown, hts, hr, hlk2, hF⟩ := C
  intro H locs ls hG hS hl
  exact W.vret hx hb hr (fun t ht hW => ⟨⟨(), rfl, trivial, by show G E σ τ t.heap; rw [ht]; exact hG⟩, hS.F ht⟩) hS.2.2 d hlk2
theorem y_met {Qc : Array Value → State → Outcome → State → Prop} (hy : plainName y.cls = true) (hlen : (lg_sl As).length ≤ n) (hlv : lv_args 0 As = lv) (body : ∀ (p : Program) (e : Env) (s : State) (m : MethodId) (below : List Frame) (meth : Method) (c : Code), Cx E p s m As.toArray meth c b n r y.cls → Y E p l e rm s m As.toArray below meth c n (MQ below Qc As.toArray s 0 0 (qA E)) σ τ 0 lv []) : KQ l y b n r rm E As σ τ Qc := by
  refine Met.ofW (cc := b) (maxL := n) (ret := r) hy rfl ?_
  intro p e s m args below meth c s₁ B hml hv
  obtain ⟨rfl, hG, hF⟩ := hv
  have hts := atoms_spec (ws := wsM y b n r) B.pre
  have hown : s.vm.findClass y.cls = some m.cls := findClass_of_methodNamed B.named
  rw [lg_entry_eq]
  have hl := lv_entry As (n := n) hlen
  rw [hlv] at hl
  exact body p e s m below meth c ⟨B.exec, B.bytes, hml, hown, fun w hw => hts w (List.mem_cons_of_mem _ hw), B.returns, B.notSynchronized, hF⟩ s.heap [] _ hG va_S.rf hl
end CallsY
def FU : Nat := 1000000
def DP : Nat := 8
/-- a loop: at most n times round -/
def lp_ {α β : Type} (B : (α → Option β) → α → Option β) : Nat → α → Option β
  | 0, _ => none
  | n + 1, a => B (lp_ B n) a
theorem lp_ind {α β : Type} {B : (α → Option β) → α → Option β} {z : β} {P : α → Prop} (hs : ∀ (r : α → Option β) (a : α), (∀ a', r a' = some z → P a') → B r a = some z → P a) : ∀ (n : Nat) (a : α), lp_ B n a = some z → P a
  | 0, _, h => by cases h
  | n + 1, a, h => hs (lp_ B n) a (fun a' h' => lp_ind hs n a' h') h
theorem zOk0 : zOk 0 := ⟨rfl, rfl⟩
theorem zOk1 : zOk 1 := ⟨rfl, rfl⟩
def zb (x : Int32) : Bool := decide (x = 0) || decide (x = 1)
theorem zb_e {x : Int32} (h : zb x = true) : zOk x := by
  simp only [zb, Bool.or_eq_true, decide_eq_true_eq] at h
  rcases h with rfl | rfl
  · exact zOk0
  · exact zOk1

theorem o0 : isO 0 4 := fun _ _ _ => ⟨_, rfl⟩
theorem o1 : isO 1 3 := fun _ _ _ => ⟨_, rfl⟩
theorem o2 : isO 2 3 := fun _ _ _ => ⟨_, rfl⟩
theorem o3 : isO 3 3 := fun _ _ _ => ⟨_, rfl⟩
theorem o4 : isO 4 1 := fun _ _ _ => ⟨_, rfl⟩
theorem o5 : isO 5 1 := fun _ _ _ => ⟨_, rfl⟩
theorem o6 : isO 6 0 := fun _ _ _ => ⟨_, rfl⟩
theorem o7 : isO 7 2 := fun _ _ _ => ⟨_, rfl⟩
theorem a8 : aC 8 6 := fun _ _ _ => ⟨rfl, fun _ => rfl⟩
theorem a10 : aC 10 6 := fun _ _ _ => ⟨rfl, fun _ => rfl⟩
theorem a12 : aC 12 4 := fun _ _ _ => ⟨rfl, fun _ => rfl⟩
theorem a14 : aC 14 3 := fun _ _ _ => ⟨rfl, fun _ => rfl⟩
theorem a15 : aC 15 6 := fun _ _ _ => ⟨rfl, fun _ => rfl⟩
theorem a16 : aC 16 6 := fun _ _ _ => ⟨rfl, fun _ => rfl⟩
theorem a17 : aC 17 6 := fun _ _ _ => ⟨rfl, fun _ => rfl⟩
theorem a18 : aC 18 6 := fun _ _ _ => ⟨rfl, fun _ => rfl⟩
theorem a19 : aC 19 6 := fun _ _ _ => ⟨rfl, fun _ => rfl⟩
theorem a20 : aC 20 6 := fun _ _ _ => ⟨rfl, fun _ => rfl⟩
theorem a21 : aC 21 6 := fun _ _ _ => ⟨rfl, fun _ => rfl⟩
theorem a22 : aC 22 6 := fun _ _ _ => ⟨rfl, fun _ => rfl⟩
theorem a23 : aC 23 6 := fun _ _ _ => ⟨rfl, fun _ => rfl⟩
theorem a24 : aC 24 6 := fun _ _ _ => ⟨rfl, fun _ => rfl⟩
theorem a25 : aC 25 6 := fun _ _ _ => ⟨rfl, fun _ => rfl⟩
theorem a26 : aC 26 40 := fun _ _ _ => ⟨rfl, fun _ => rfl⟩
theorem a27 : aC 27 6 := fun _ _ _ => ⟨rfl, fun _ => rfl⟩
theorem a28 : aC 28 6 := fun _ _ _ => ⟨rfl, fun _ => rfl⟩
theorem a30 : aC 30 40 := fun _ _ _ => ⟨rfl, fun _ => rfl⟩
theorem a31 : aC 31 40 := fun _ _ _ => ⟨rfl, fun _ => rfl⟩
theorem a32 : aC 32 40 := fun _ _ _ => ⟨rfl, fun _ => rfl⟩
theorem a33 : aC 33 40 := fun _ _ _ => ⟨rfl, fun _ => rfl⟩
theorem a34 : aC 34 40 := fun _ _ _ => ⟨rfl, fun _ => rfl⟩
theorem a35 : aC 35 40 := fun _ _ _ => ⟨rfl, fun _ => rfl⟩
theorem a36 : aC 36 60 := fun _ _ _ => ⟨rfl, fun _ => rfl⟩
theorem a37 : aC 37 60 := fun _ _ _ => ⟨rfl, fun _ => rfl⟩
theorem a38 : aC 38 60 := fun _ _ _ => ⟨rfl, fun _ => rfl⟩
theorem a39 : aC 39 60 := fun _ _ _ => ⟨rfl, fun _ => rfl⟩
theorem a40 : aC 40 40 := fun _ _ _ => ⟨rfl, fun _ => rfl⟩
theorem a41 : aC 41 40 := fun _ _ _ => ⟨rfl, fun _ => rfl⟩
theorem a42 : aC 42 40 := fun _ _ _ => ⟨rfl, fun _ => rfl⟩
theorem a43 : aC 43 7 := fun _ _ _ => ⟨rfl, fun _ => rfl⟩
theorem a44 : aC 44 7 := fun _ _ _ => ⟨rfl, fun _ => rfl⟩
theorem a45 : aC 45 7 := fun _ _ _ => ⟨rfl, fun _ => rfl⟩
theorem a46 : aC 46 7 := fun _ _ _ => ⟨rfl, fun _ => rfl⟩
theorem a47 : aC 47 7 := fun _ _ _ => ⟨rfl, fun _ => rfl⟩
theorem a48 : aC 48 7 := fun _ _ _ => ⟨rfl, fun _ => rfl⟩
theorem a49 : aC 49 7 := fun _ _ _ => ⟨rfl, fun _ => rfl⟩
theorem o50 : isO 50 5 := fun _ _ _ => ⟨_, rfl⟩
theorem a51 : aR 51 1972 := fun _ _ _ => ⟨rfl, fun _ => rfl⟩
theorem a52 : aR 52 6 := fun _ _ _ => ⟨rfl, fun _ => rfl⟩
theorem a53 : aR 53 6 := fun _ _ _ => ⟨rfl, fun _ => rfl⟩
theorem a54 : aR 54 6 := fun _ _ _ => ⟨rfl, fun _ => rfl⟩
theorem a55 : aR 55 6 := fun _ _ _ => ⟨rfl, fun _ => rfl⟩
theorem a56 : aR 56 6 := fun _ _ _ => ⟨rfl, fun _ => rfl⟩
theorem a57 : aR 57 240 := fun _ _ _ => ⟨rfl, fun _ => rfl⟩
theorem a58 : aR 58 4 := fun _ _ _ => ⟨rfl, fun _ => rfl⟩
theorem a59 : aR 59 240 := fun _ _ _ => ⟨rfl, fun _ => rfl⟩
theorem a60 : aR 60 6 := fun _ _ _ => ⟨rfl, fun _ => rfl⟩
theorem a61 : aR 61 6 := fun _ _ _ => ⟨rfl, fun _ => rfl⟩
theorem a62 : aR 62 24 := fun _ _ _ => ⟨rfl, fun _ => rfl⟩
theorem a63 : aR 63 7 := fun _ _ _ => ⟨rfl, fun _ => rfl⟩
theorem a64 : aR 64 7 := fun _ _ _ => ⟨rfl, fun _ => rfl⟩
theorem a65 : aR 65 7 := fun _ _ _ => ⟨rfl, fun _ => rfl⟩
theorem a66 : aR 66 7 := fun _ _ _ => ⟨rfl, fun _ => rfl⟩
theorem a67 : aR 67 7 := fun _ _ _ => ⟨rfl, fun _ => rfl⟩
theorem a68 : aR 68 7 := fun _ _ _ => ⟨rfl, fun _ => rfl⟩
theorem q9 : qC 9 6 30 := fun _ _ _ => rfl
theorem in9 {i : Int32} (h : vp_in i 6) : aC (30 + i.toNatClampNeg) 40 := by
  have hj : i.toNatClampNeg < 6 := Nat.not_le.mp fun q => h (Or.inr q)
  generalize i.toNatClampNeg = j at hj
  match j, hj with
  | 0, _ => exact a30
  | 1, _ => exact a31
  | 2, _ => exact a32
  | 3, _ => exact a33
  | 4, _ => exact a34
  | 5, _ => exact a35
  | n + 6, hj => exact absurd hj (by omega)
theorem q11 : qC 11 4 36 := fun _ _ _ => rfl
theorem in11 {i : Int32} (h : vp_in i 4) : aC (36 + i.toNatClampNeg) 60 := by
  have hj : i.toNatClampNeg < 4 := Nat.not_le.mp fun q => h (Or.inr q)
  generalize i.toNatClampNeg = j at hj
  match j, hj with
  | 0, _ => exact a36
  | 1, _ => exact a37
  | 2, _ => exact a38
  | 3, _ => exact a39
  | n + 4, hj => exact absurd hj (by omega)
theorem q13 : qC 13 3 40 := fun _ _ _ => rfl
theorem in13 {i : Int32} (h : vp_in i 3) : aC (40 + i.toNatClampNeg) 40 := by
  have hj : i.toNatClampNeg < 3 := Nat.not_le.mp fun q => h (Or.inr q)
  generalize i.toNatClampNeg = j at hj
  match j, hj with
  | 0, _ => exact a40
  | 1, _ => exact a41
  | 2, _ => exact a42
  | n + 3, hj => exact absurd hj (by omega)
theorem q29 : qC 29 7 43 := fun _ _ _ => rfl
theorem in29 {i : Int32} (h : vp_in i 7) : aC (43 + i.toNatClampNeg) 7 := by
  have hj : i.toNatClampNeg < 7 := Nat.not_le.mp fun q => h (Or.inr q)
  generalize i.toNatClampNeg = j at hj
  match j, hj with
  | 0, _ => exact a43
  | 1, _ => exact a44
  | 2, _ => exact a45
  | 3, _ => exact a46
  | 4, _ => exact a47
  | 5, _ => exact a48
  | 6, _ => exact a49
  | n + 7, hj => exact absurd hj (by omega)
