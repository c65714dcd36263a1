/-! THE CLAIM OUT OF ONE WALK OF THE LAW'S BODY. Your part is whole_start (and what it stands on); all else here is the same for every law, but numbers. -/
def R_law : String := "CalledStallsLaw"
def lw_P (b : Addr) (xs : List Int32) (args : Array Value) (s : State) : Prop := args = #[.ref b] ∧ s.IntsAt b xs ∧ xs.length ≤ 384 ∧ (Jvm.Cond.and given_1 narrow_1).before args s = true
def lw_Q (_ : Array Value) (s : State) (o : Outcome) (t : State) : Prop := o = .returned (some (.int 1)) ∧ Framed s o t [] 600000 7302250
def lw_Z (below : List Frame) (a : Array Value) (s : State) : State → Prop := fun t => ∃ o, t.status = .running ∧ Ended t below o ∧ lw_Q a s o t
/-- the law's own end, with 1 on the stack, nothing written that was there before, its room as the claim has it -/
theorem lw_ret {p : Program} {l : Launch} {e : Env} {s : State} {m : MethodId} {below : List Frame} {meth : Method} {c : Code} {b : Nat} (hx : p.tables.exec = Jvm.exec) (hb : c.code = code) (hr : meth.sig.returnType = ret) (hlocks : meth.locks = false) {pc : Nat} {H : Heap} {ls : Array Slot} (hdg : decode code pc = .ok (.ireturn, 1)) : W p l e room_1 s m #[Value.ref b] below meth c H [] 600000 7302250 (lw_Z below #[Value.ref b] s) (F0 m pc ls [.int 1]) := by
  intro T hT X
  obtain ⟨fs, hret, hrun, hended, hW, hframe⟩ := X.leave (v := some (.int 1)) (hlocks := hlocks) (fun h => by rw [hr] at h; cases h)
  have hmeth' : T.vm.method? m = some meth := X.method'
  refine ⟨T.setFrames fs, ?_, .returned (some (.int 1)), hrun, hended, rfl, ⟨_, rfl⟩, hW, hframe⟩
  jvm_step X.here [X.here.top, hx, hb, hdg, hmeth', hr, ret, narrow_b1]
  (try refine ⟨rfl, ?_⟩); (try refine ⟨rfl, ?_⟩)
  first | (intro acts; rw [hret _ acts rfl rfl rfl]) | rw [hret _ _ rfl rfl rfl]
  exact Steps.refl _
/-- what holds at the law's entry: the machine, the code, the tables' words (any of lw_tbl by 'hts w (by decide +kernel)'), the script of L ints xs at the cell b, what the Statement gives of the start (any of its parts by flat_of_before) -/
def lw_At (p : Program) (s : State) (m : MethodId) (meth : Method) (c : Code) (b L : Nat) (xs : Nat → Int32) : Prop :=
  p.tables.exec = Jvm.exec ∧ c.code = code ∧ meth.sig.returnType = ret ∧ c.maxLocals = 4 ∧ s.vm.findClass R_law = some m.cls ∧ (∀ w ∈ lw_tbl, w.before #[Value.ref b] s = true) ∧ va_X b L xs s s.heap ∧ b < s.heap.size ∧ meth.locks = false ∧ (Jvm.Cond.and given_1 narrow_1).before #[Value.ref b] s = true
/-! ===== the law's rows ===== -/
section LawZ
variable {E : QE} {p : Program} {l : Launch} {e : Env} {R : Room} {s : State} {m : MethodId} {args : Array Value} {below : List Frame} {meth : Method} {c : Code} {Q : State → Prop} {nL : Nat} {σ τ σ1 τ1 : QS} {ws : va_W} {ce sl : Nat} {pc : Nat} {lv lv' : List (Nat × Value)} {st st0 : List Value} {cc : ByteArray} {ret : Option FieldType} {own : String} {index : Nat}
variable {y : MethodName} {b : ByteArray} {n na o : Nat} {r : Option FieldType} {rm : Room} {As : List Value}
theorem run_Vz (C : Cx E p s m args meth c cc nL ret own) {Qc : Array Value → State → Outcome → State → Prop} (hM : KQ l y b n r rm E (.ref (qAd E o) :: As) σ τ Qc) (hv : VI y b n r na) (hlk : Cond.methodLink own index y ∈ TB) (ho : rcv o y) (hAs : As.length = na) (hR : rmOk rm R n) (hce : ce ≤ R.cells) (hsl : sl ≤ R.slots) (d : decode cc pc = .ok (.invokevirtual index, 3)) (hst : st0 = As.reverse ++ .ref (qAd E o) :: st) (hcat : (st.map fun v => v.category).sum ≤ 8) {H : Heap} {locs : List Loc} {ls : Array Slot} (hG : G E σ τ H) (hS : va_S (qA E) s.heap H locs) (hl : lv_has ls nL lv) : va_Run p l e R s m args below meth c H locs ce sl 0 0 (F0 m pc ls st0) st (Qc (.ref (qAd E o) :: As).toArray) (qA E) := by
  obtain ⟨hx, hb, hml, hown, hts, hr, hlk2, hF⟩ := C
  obtain ⟨ci, q, hO, hc, hq⟩ := ho
  obtain ⟨fs, he⟩ := hO E σ τ
  obtain ⟨v1, v2, v3, v4, v5, v6, v7⟩ := hv
  have hrec := va_recv hF.1 hG.1 hc he
  rw [hq] at hrec
  exact va_runV (As := As) (rest := st) (cc := cc) (nL := nL) (Ts := TB) (own := own) (C := y.cls) (index := index) (bytes := b) (maxL := n) (ret := r) (n := na) ⟨hx, hb, hml, hown, hts⟩ hM (cwV na hts (tb_V hlk v1 v2 v3 v4) rfl hR.1 hR.2.1 ⟨rfl, v5, v6, v7⟩ ⟨hR.2.2.1, hR.2.2.2⟩) ⟨Pre.blind, hrec, fun U hU hW => ⟨rfl, Pre.at hF hG hS hU hW⟩⟩ rfl hAs hl.1 hst (lv_room hcat) d ⟨hce, hsl⟩
theorem z_cVi (C : Cx E p s m args meth c cc nL ret own) {w : Int32} (hM : KQ l y b n r rm E (.ref (qAd E o) :: As) σ τ (PI E w σ1 τ1)) (hv : VI y b n r na) (hlk : Cond.methodLink own index y ∈ TB) (ho : rcv o y) (hAs : As.length = na) (hR : rmOk rm R n) (hce : ce ≤ R.cells) (hsl : sl ≤ R.slots) (d : decode cc pc = .ok (.invokevirtual index, 3)) (hst : st0 = As.reverse ++ .ref (qAd E o) :: st) (hcat : (st.map fun v => v.category).sum ≤ 8) (kk : Z E p l e R s m args below meth c nL Q (wl E σ1 τ1) ce sl (pc + 3) lv (.int w :: st)) : Z E p l e R s m args below meth c nL Q (wl E σ τ) ce sl pc lv st0 := by
  intro H locs ls hG hS hl
  exact va_calli (run_Vz C hM hv hlk ho hAs hR hce hsl d hst hcat hG hS hl) hS (fun q _ h => h) (fun q h => h) (fun r9 u t H1 locs1 ht _ hp hB _ _ hS1 => by
    have hp : r9 = w := hp
    subst hp
    exact kk H1 locs1 ls (by rw [← ht]; exact hB) hS1 hl)
theorem z_cVl (C : Cx E p s m args meth c cc nL ret own) {w : Int64} (hM : KQ l y b n r rm E (.ref (qAd E o) :: As) σ τ (PL E w σ1 τ1)) (hv : VI y b n r na) (hlk : Cond.methodLink own index y ∈ TB) (ho : rcv o y) (hAs : As.length = na) (hR : rmOk rm R n) (hce : ce ≤ R.cells) (hsl : sl ≤ R.slots) (d : decode cc pc = .ok (.invokevirtual index, 3)) (hst : st0 = As.reverse ++ .ref (qAd E o) :: st) (hcat : (st.map fun v => v.category).sum ≤ 8) (kk : Z E p l e R s m args below meth c nL Q (wl E σ1 τ1) ce sl (pc + 3) lv (.long w :: st)) : Z E p l e R s m args below meth c nL Q (wl E σ τ) ce sl pc lv st0 := by
  intro H locs ls hG hS hl
  exact va_calll (run_Vz C hM hv hlk ho hAs hR hce hsl d hst hcat hG hS hl) hS (fun q _ h => h) (fun q h => h) (fun r9 u t H1 locs1 ht _ hp hB _ _ hS1 => by
    have hp : r9 = w := hp
    subst hp
    exact kk H1 locs1 ls (by rw [← ht]; exact hB) hS1 hl)
theorem z_sld (C : Cx E p s m args meth c cc nL ret own) {a L : Nat} {xs : Nat → Int32} (hX : va_X a L xs s s.heap) (hbl : a < s.heap.size) (hbA : ¬ qA E a) {i v : Int32} (hin : vp_in i L) (hv : xs i.toNatClampNeg = v) (d : decode cc pc = .ok (.iaload, 1)) (kk : Z E p l e R s m args below meth c nL Q ws ce sl (pc + 1) lv (.int v :: st)) : Z E p l e R s m args below meth c nL Q ws ce sl pc lv (.int i :: .ref a :: st) := by
  subst hv
  exact fun H locs ls hG hS hl => va_sld C.1 C.2.1 hX hbl hbA hS hin d (kk H locs ls hG hS hl)
theorem z_slen (C : Cx E p s m args meth c cc nL ret own) {a L : Nat} {xs : Nat → Int32} (hX : va_X a L xs s s.heap) (hbl : a < s.heap.size) (hbA : ¬ qA E a) (d : decode cc pc = .ok (.arraylength, 1)) (kk : Z E p l e R s m args below meth c nL Q ws ce sl (pc + 1) lv (.int (nI L) :: st)) : Z E p l e R s m args below meth c nL Q ws ce sl pc lv (.ref a :: st) := fun H locs ls hG hS hl => va_slen C.1 C.2.1 hX hbl hbA hS d (kk H locs ls hG hS hl)
/-- a number of the script, j places on -/
theorem z_arg (C : Cx E p s m args meth c cc nL ret own) {a L : Nat} {xs : Nat → Int32} (hX : va_X a L xs s s.heap) (hbl : a < s.heap.size) (hbA : ¬ qA E a) (hL : L ≤ 384) {k j : Nat} (hk : k + 6 ≤ L) (hj : j < 6) (h0 : lv[1]? = some (0, .ref a)) (h3 : lv[0]? = some (3, .int (nI k))) {nj : Int} (hnj : Int32.ofInt nj = nI j) (d1 : decode cc pc = .ok (.aload_n 0, 1)) (d2 : decode cc (pc + 1) = .ok (.iload_n 3, 1)) (d3 : decode cc (pc + 2) = .ok (.iconst nj, 1)) (d4 : decode cc (pc + 3) = .ok (.iadd, 1)) (d5 : decode cc (pc + 4) = .ok (.iaload, 1)) (kk : Z E p l e R s m args below meth c nL Q ws ce sl (pc + 5) lv (.int (xs (k + j)) :: st)) : Z E p l e R s m args below meth c nL Q ws ce sl pc lv st := by
  refine z_aload_n C d1 rfl 1 h0 ?_
  refine z_iload_n C d2 rfl 0 h3 ?_
  refine z_iconst C d3 hnj ?_
  refine z_iadd C d4 ?_
  rw [nI_add]
  exact z_sld C hX hbl hbA (nI_in (show k + j < L by omega) (by omega)) (by rw [nI_c (show k + j < 1000000 by omega)]) d5 kk
end LawZ
/-- the law's end: nothing that was there before has changed -/
theorem z_lawEnd {E : QE} {p : Program} {l : Launch} {e : Env} {s : State} {m : MethodId} {below : List Frame} {meth : Method} {c : Code} {b : Nat} {ws : va_W} {lv : List (Nat × Value)} {pc : Nat} (C : Cx E p s m #[Value.ref b] meth c cL_law 4 (some .boolean) "CalledStallsLaw") (hA : ∀ q, qA E q → s.heap.size ≤ q) (d : decode cL_law pc = .ok (.ireturn, 1)) : Z E p l e room_1 s m #[Value.ref b] below meth c 4 (lw_Z below #[Value.ref b] s) ws 600000 7302250 pc lv [.int 1] := by
  intro H locs ls hG hS hl
  exact va_forget (fun q hq => hA _ (hS.2.2 q hq)) (lw_ret C.1 C.2.1 C.2.2.2.2.2.1 C.2.2.2.2.2.2.1 d)
abbrev ZL (E : QE) (p : Program) (l : Launch) (e : Env) (s : State) (m : MethodId) (below : List Frame) (meth : Method) (c : Code) (b : Nat) (σ τ : QS) (pc k : Nat) (st : List Value) : Prop := Z E p l e room_1 s m #[Value.ref b] below meth c 4 (lw_Z below #[Value.ref b] s) (wl E σ τ) 600000 7302250 pc [(3, .int (nI k)), (0, .ref b), (1, .ref (qAd E 0)), (2, .ref (qAd E 50))] st
/-! ===== the numbers at the start ===== -/
def gS0 : Nat → Nat → Int32 := fun k => match k with
  | 10 => fun _ => -1
  | 12 => fun _ => -1
  | 14 => fun _ => -1
  | 43 => fun j => nI (pcnt 0 j)
  | 44 => fun j => nI (pcnt 1 j)
  | 45 => fun j => nI (pcnt 2 j)
  | 46 => fun j => nI (pcnt 3 j)
  | 47 => fun j => nI (pcnt 4 j)
  | 48 => fun j => nI (pcnt 5 j)
  | 49 => fun j => nI (pcnt 6 j)
  | _ => fun _ => 0
def gT0 : Nat → Nat → Int32 := fun k => match k with
  | 51 => rowF
  | 56 => fun _ => -1
  | 58 => fun _ => -1
  | _ => fun _ => 0
def gJ0 : Nat → Int64 := fun k => match k with
  | 1 => 1
  | _ => 0
def sig0 : QS := (fun _ => 0, gJ0, gS0)
def tau0 : QS := (fun _ => 0, gJ0, gT0)
theorem rowF_0 {j : Nat} (h : j < 20) : rowF j = 0 := by
  unfold rowF
  rw [upd_ne (show j ≠ 493 * 3 + 0 by omega), upd_ne (show j ≠ 493 * 2 + 0 by omega), upd_ne (show j ≠ 493 * 1 + 0 by omega)]
theorem rowF_k {k : Nat} (h : k < 3) : rowF (493 * (k + 1)) = -1 := by
  rcases (show k = 0 ∨ k = 1 ∨ k = 2 by omega) with rfl | rfl | rfl <;> decide +kernel
theorem inv0 : Inv sig0 tau0 := by
  refine ⟨fun r hr => ⟨rfl, Or.inl rfl⟩, fun t ht => ⟨rfl, Or.inl rfl⟩, ⟨rfl, fun f hf => ?_⟩, rfl, ⟨rfl, rfl⟩, fun n hn k hk => ?_, 0, 0, 0, ?_, ?_, ?_, ?_⟩
  · rfl
  · rcases (show n = 0 ∨ n = 1 ∨ n = 2 ∨ n = 3 ∨ n = 4 ∨ n = 5 ∨ n = 6 by omega) with rfl | rfl | rfl | rfl | rfl | rfl | rfl <;> rfl
  · exact ⟨by decide, by decide, Iff.intro (fun _ => rfl) (fun _ => rfl), rfl, rfl, rfl, rfl, fun k hk => absurd hk (Nat.not_lt_zero k), fun k hk => absurd hk (Nat.not_lt_zero k), 0, by decide, rfl, fun k hk => absurd hk (Nat.not_lt_zero k)⟩
  · exact ⟨by decide, rfl, fun k hk => absurd hk (Nat.not_lt_zero k)⟩
  · have v0 : ∀ j, v0Of sig0 0 j = 0 := by
      intro j
      unfold v0Of
      by_cases h1 : j = 1
      · rw [if_pos h1]; rfl
      · rw [if_neg h1, if_neg (by omega)]
    refine ⟨0, rfl, ⟨by decide, ?_, fun j hj => ?_, fun k hk => absurd hk (Nat.not_lt_zero k), fun k hk => absurd hk (Nat.not_lt_zero k)⟩, ?_⟩
    · show rowF 0 = nI 0
      rw [rowF_0 (by decide)]
      rfl
    · show rowF (0 + 1 + j) = v0Of sig0 0 j
      rw [v0, rowF_0 (by omega)]
    · exact ⟨(v0 0).symm, (v0 1).symm, (v0 2).symm, (v0 3).symm, (v0 4).symm, (v0 5).symm, fun k hk => absurd hk (Nat.not_lt_zero k)⟩
  · intro k hk
    have h := rowF_k hk
    refine Or.inl ?_
    generalize 493 * (k + 1) = z at h ⊢
    exact ⟨rfl, h⟩
