theorem rs1 {α β : Type} {v : α} {S : β} {q : α × β} (h : some (v, S) = some q) : v = q.1 := by
  cases h
  rfl
theorem rs2 {α β : Type} {v : α} {S : β} {q : α × β} (h : some (v, S) = some q) : S = q.2 := by
  cases h
  rfl
theorem rt1 {α β : Type} {v : α} {S : β} {q : α × β} (h : (v, S) = q) : v = q.1 := by
  cases h
  rfl
theorem rt2 {α β : Type} {v : α} {S : β} {q : α × β} (h : (v, S) = q) : S = q.2 := by
  cases h
  rfl
theorem met_ofWF {l : Launch} {y : MethodName} {ws ws' : List Cond} {rm : Room} {Pc : Array Value → State → Prop} {Qc : Array Value → State → Outcome → State → Prop} {mc ms : Nat} {free : Addr → Prop} {cc : ByteArray} {maxL : Nat} {ret : Option FieldType}
    (hy : plainFor y = true) (hw : ws = Cond.code y cc maxL ret :: ws')
    (body : ∀ p e s m args below meth c s₁, BodyLoose p l y (headSpec ws rm) cc maxL ret e s m args below meth c s₁ → c.maxLocals = maxL → Pc args s →
      W p l e (headSpec ws rm).room s m args below meth c s.heap [] 0 0 (MQ below Qc args s mc ms free) (entryFrame m args maxL)) : Met l y ws rm Pc Qc mc ms free := by
  refine MetFree.of_bodySF (code := cc) (maxLocals := maxL) (ret := ret) hy ?_ ?_
  · intro args s m h hn
    obtain ⟨meth, c, h1, h2, h3, h4, h5, h6, -, -⟩ := Cond.code_spec hn (atoms_spec (ws := ws) h _ (by rw [hw]; exact List.mem_cons_self))
    exact ⟨meth, c, h1, h2, h3, h4, h5, h6⟩
  · intro p e s m args below meth c s₁ B hml hP _
    have hh0 : s₁.heap = s.heap := by rw [B.state]; rfl
    obtain ⟨t, a1, o, b1, b2, b3⟩ := body p e s m args below meth c s₁ B hml hP s₁ hh0 (Stand.of_body B)
    exact ⟨t, o, a1, b1, b2, ⟨b3.1, b3.2⟩⟩
theorem y_metF {E : QE} {l : Launch} {σ τ : QS} {lv : List (Nat × Value)} {y : MethodName} {b : ByteArray} {n : Nat} {r : Option FieldType} {rm : Room} {As : List Value} {Qc : Array Value → State → Outcome → State → Prop} (hy : plainFor y = true) (hlen : (lg_sl As).length ≤ n) (hlv : lv_args 0 As = lv) (body : ∀ (p : Program) (e : Env) (s : State) (m : MethodId) (below : List Frame) (meth : Method) (c : Code), Cx E p s m As.toArray meth c b n r y.cls → Y E p l e rm s m As.toArray below meth c n (MQ below Qc As.toArray s 0 0 (qA E)) σ τ 0 lv []) : KQ l y b n r rm E As σ τ Qc := by
  refine met_ofWF (cc := b) (maxL := n) (ret := r) hy rfl ?_
  intro p e s m args below meth c s₁ B hml hv
  obtain ⟨rfl, hG, hF⟩ := hv
  have hts := atoms_spec (ws := wsM y b n r) B.pre
  have hown : s.vm.findClass y.cls = some m.cls := findClass_of_methodNamed B.named
  rw [lg_entry_eq]
  have hl := lv_entry As (n := n) hlen
  rw [hlv] at hl
  exact body p e s m below meth c ⟨B.exec, B.bytes, hml, hown, fun w hw => hts w (List.mem_cons_of_mem _ hw), B.returns, B.notSynchronized, hF⟩ s.heap [] _ hG va_S.rf hl
theorem pl_J9_floorMod_7cf53 : plainFor yJ9_floorMod_7cf53 = true := by decide +kernel
theorem pl_J9_abs_067f4 : plainFor yJ9_abs_067f4 = true := by decide +kernel
theorem pl_J9_max_7cf53 : plainFor yJ9_max_7cf53 = true := by decide +kernel
theorem pl_J9_min_7cf53 : plainFor yJ9_min_7cf53 = true := by decide +kernel
/-- how often a loop may go round: enough for all, a number that nothing computes with -/
theorem FV_ex : ∃ n : Nat, 1000000 ≤ n := ⟨1000000, Nat.le_refl _⟩
noncomputable def FV : Nat := Classical.choose FV_ex
theorem FV_ge : 1000000 ≤ FV := Classical.choose_spec FV_ex
