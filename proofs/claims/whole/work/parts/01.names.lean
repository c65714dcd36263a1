def va_AOA (ty : FieldType) (U : State) : Prop := (Cond.arrayOver (.array ty)).before #[] U = true
theorem va_AOA.use {ty : FieldType} {A : Array Value} {U : State} (h : va_AOA ty U) : (Cond.arrayOver (.array ty)).before A U = true := h
/-! ===== BEGIN words of one list among another's, by their places ===== -/
theorem goodIn_r {big : List Cond} (ws : List Cond) (ps : List Nat) (hp : ws = ps.filterMap (fun i => big[i]?)) (h : ws.all goodWord = true) : GoodIn big ws := by
  intro w hw
  have h1 := List.all_eq_true.mp h w hw
  rw [hp] at hw
  obtain ⟨i, -, hi⟩ := List.mem_filterMap.mp hw
  have hm : w ∈ big := by first | exact List.mem_of_getElem? hi | exact List.getElem?_mem hi
  exact ⟨hm, good_of_word h1⟩
theorem goodIn_app {big a b : List Cond} (ha : GoodIn big a) (hb : GoodIn big b) : GoodIn big (a ++ b) := fun w h => (List.mem_append.mp h).elim (ha w) (hb w)
theorem goodIn_ca {big a b : List Cond} {c : Cond} (ha : GoodIn big (c :: a)) (hb : GoodIn big b) : GoodIn big (c :: (a ++ b)) := fun w h => (List.mem_cons.mp h).elim (fun e => ha w (List.mem_cons.mpr (Or.inl e))) (fun h => (List.mem_append.mp h).elim (fun h => ha w (List.mem_cons.mpr (Or.inr h))) (hb w))
theorem goodIn_sub {big ws : List Cond} (hm : ∀ w ∈ ws, w ∈ big) (h : ws.all goodWord = true) : GoodIn big ws := fun w hw => ⟨hm w hw, good_of_word (List.all_eq_true.mp h w hw)⟩
/-! ===== END ===== -/

/-! ===== BEGIN new T[n][m]: the outer array a place, the inner ones among the pooled ===== -/
/-- f, but v at every address of l -/
def vr_up {α : Type} (f : Nat → α) (l : List Nat) (v : α) : Nat → α := fun a => if a ∈ l then v else f a
theorem vr_up_in {α : Type} {f : Nat → α} {l : List Nat} {v : α} {a : Nat} (h : a ∈ l) : vr_up f l v a = v := if_pos h
theorem vr_up_ne {α : Type} {f : Nat → α} {l : List Nat} {v : α} {a : Nat} (h : a ∉ l) : vr_up f l v a = f a := if_neg h
theorem vr_rows {L l : List Nat} {f : Nat → va_E} {e : va_E} (h : ∀ a, a ∈ l → a ∉ L) : va_pl L f ++ l.map (fun a => (a, e)) = va_pl (L ++ l) (vr_up f l e) := by
  unfold va_pl
  rw [List.map_append]
  congr 1
  · apply List.map_congr_left
    intro a ha
    rw [vr_up_ne (fun q => h a q ha)]
  · apply List.map_congr_left
    intro a ha
    rw [vr_up_in ha]
theorem vr_lay {X rows : va_W} {x : Nat × va_E} {pl : va_W} {D : va_G} {cl : List vw_C} {H : Heap} (hP : va_P D cl (((X ++ pl) ++ [x]) ++ rows) H) : va_P D cl ((X ++ [x]) ++ (pl ++ rows)) H := by
  rw [List.append_assoc (X ++ pl)] at hP
  have h := va_P.swap hP
  rw [← List.append_assoc X] at h
  have h2 := va_P.swap h
  rw [List.append_assoc (X ++ [x])] at h2
  exact h2
theorem vr_layD {X rows : va_W} {x : Nat × va_E} {pl : va_W} {A : Nat → Prop} (hD : va_D A (((X ++ pl) ++ [x]) ++ rows)) : va_D A ((X ++ [x]) ++ (pl ++ rows)) := by
  rw [List.append_assoc (X ++ pl)] at hD
  have h := va_D.swap hD
  rw [← List.append_assoc X] at h
  have h2 := va_D.swap h
  rw [List.append_assoc (X ++ [x])] at h2
  exact h2
theorem vr_outer (c : ClassId) (N h0 : Nat) : ∀ i : Nat, Jvm.Free.Multi.outerC c N h0 i = arrV c N (fun j => va_rf (if j < i then some (h0 + 1 + j) else none))
  | 0 => by
    show ({ cls := c, slots := Array.replicate N .null, vm := .none } : Cell) = _
    rw [arrV_new]
    refine congrArg (arrV c N) (funext fun j => ?_)
    simp [va_rf]
  | i + 1 => by
    show (Jvm.Free.Multi.outerC c N h0 i).setSlot i (.ref (h0 + 1 + i)) = _
    rw [vr_outer c N h0 i, arrV_store]
    refine congrArg (arrV c N) (funext fun j => ?_)
    by_cases e : j = i
    · subst e
      simp [updV, va_rf]
    · by_cases h : j < i
      · simp [updV, e, h, Nat.lt_succ_of_lt h]
      · simp [updV, e, h, show ¬ j < i + 1 by omega]
section VGM
variable {p : Program} {l : Launch} {e : Env} {R : Room} {s : State} {m : MethodId} {args : Array Value} {below : List Frame} {meth : Method} {c : Code} {H : Heap} {locs : List Loc} {cells slots : Nat} {Q : State → Prop}
variable {cc : ByteArray} {pc : Nat} {ls : Array Slot} {rest : List Value} {D : va_G} {cl : List vw_C} {A : Nat → Prop} {a : Nat} {tys : List (ClassId × FieldType)} {ws : va_W} {H0 : Heap}
theorem va_mna {X : va_W} {L : List Nat} {f : Nat → va_E} {cc : ByteArray} (hexec : p.tables.exec = Jvm.exec) (hb : c.code = cc) {own : String} {index : Nat} {ty : FieldType} {cy : ClassId} (hown : s.vm.findClass own = some m.cls) (hclink : (Cond.classLink own index ("[" ++ (FieldType.array ty).toString)).before args s = true) (hover : va_AOA ty s) (harr : (Cond.arrayClass ty).before args s = true) (hcy : s.vm.findClass (FieldType.array ty).toString = some cy)
    (hK : va_K D cl tys s) (hP : va_P D cl (X ++ va_pl L f) H) (hD : va_D A (X ++ va_pl L f)) (hS : va_S A H0 H locs) (hA : ∀ q, H0.size ≤ q → A q) {n k : Int32} {N' K' : Nat} {z : vp_A} (hn : ¬ n < 0) (hk : ¬ k < 0) (hN : n.toNatClampNeg = N') (hM : k.toNatClampNeg = K')
    (hb1 : N' * 4 ≤ 536870912) (hb2 : K' * componentBytes ty ≤ 536870912) (hb3 : K' ≤ 536870912) (hdf : fits ty (defaultValue ty) = true) (hdd : (defaultValue ty).isDefault = true) (hcells : cells + (1 + N') ≤ R.cells) (hslots : slots + (N' + N' * K') ≤ R.slots) (hz : ∀ c : ClassId, Jvm.Free.Multi.innerC c K' (defaultValue ty) = vp_cell c z) (hdg : decode cc pc = .ok (.multianewarray index 2, 4))
    (kk : ∀ (q : Nat) (r : Nat → Nat) (cA : ClassId) (H1 : Heap), (∀ i j : Nat, i < N' → j < N' → r i = r j → i = j) → (∀ i : Nat, i < N' → r i ∉ L) → va_K D cl (tys ++ [(cA, .array ty)]) s →
      va_P D cl ((X ++ [(q, .inl (cA, N', .inr (.inr (.inr (.inr (fun i => if i < N' then some (r i) else none))))))]) ++ va_pl (L ++ (List.range N').map r) (vr_up f ((List.range N').map r) (.inl (cy, z)))) H1 → va_D A ((X ++ [(q, .inl (cA, N', .inr (.inr (.inr (.inr (fun i => if i < N' then some (r i) else none))))))]) ++ va_pl (L ++ (List.range N').map r) (vr_up f ((List.range N').map r) (.inl (cy, z)))) → va_S A H0 H1 locs →
      W p l e R s m args below meth c H1 locs (cells + 1 + N') (slots + N' + N' * K') Q (F0 m (pc + 4) ls (.ref q :: rest))) : W p l e R s m args below meth c H locs cells slots Q (F0 m pc ls (.int k :: .int n :: rest)) := by
  subst hN
  subst hM
  intro T hT Xs
  obtain ⟨vm₁, cA, comp, -, fA, fC, hO, -, X', step⟩ := Xs.multianewarray2F hexec hown hclink (va_AOA.use hover) harr (g := F0 m pc ls (.int k :: .int n :: rest)) rfl (by rw [hb]; exact hdg) rfl hn hk hb1 hb2 hb3 hdf hdd hcells hslots
  have ec : some cy = some comp := hcy.symm.trans fC
  cases ec
  generalize hF : Jvm.Free.Multi.fill (T.setVm vm₁) cA cy n.toNatClampNeg k.toNatClampNeg (defaultValue ty) n.toNatClampNeg = F at X' step
  have hTh : (T.setVm vm₁).heap = H := hT
  obtain ⟨f1, f2, -, -⟩ := Jvm.Free.Multi.fill_facts (T.setVm vm₁) cA cy n.toNatClampNeg k.toNatClampNeg (defaultValue ty) n.toNatClampNeg
  rw [hF, hTh] at f1 f2
  have hold : ∀ x : Nat, x < H.size → F.heap[x]? = H[x]? := fun x hx => by
    have := Jvm.Free.Multi.fill_old (T.setVm vm₁) cA cy n.toNatClampNeg k.toNatClampNeg (defaultValue ty) (a := x) (by rw [hTh]; exact hx) n.toNatClampNeg
    rw [hF, hTh] at this
    exact this
  have hrow : ∀ j : Nat, j < n.toNatClampNeg → F.heap[H.size + 1 + j]? = some (vp_cell cy z) := fun j hj => by
    have := Jvm.Free.Multi.fill_inner (T.setVm vm₁) cA cy n.toNatClampNeg k.toNatClampNeg (defaultValue ty) n.toNatClampNeg j hj
    rw [hF, hTh, hz] at this
    exact this
  have hout : Jvm.Free.Multi.outerC cA n.toNatClampNeg H.size n.toNatClampNeg = vp_cell cA (n.toNatClampNeg, .inr (.inr (.inr (.inr (fun i => if i < n.toNatClampNeg then some (H.size + 1 + i) else none))))) := by
    rw [vp_cell_q]
    exact vr_outer cA n.toNatClampNeg H.size n.toNatClampNeg
  rw [hout] at f2
  have hlt : ∀ a, a ∈ L → a < H.size := fun a ha => by
    obtain ⟨k9, hk9⟩ := va_pl_get (X := X) (f := f) ha
    exact (hP k9 _ hk9).lt
  have hnl : ∀ i : Nat, i < n.toNatClampNeg → H.size + 1 + i ∉ L := fun i _ h => by
    have := hlt _ h
    omega
  have hnm : ∀ a, a ∈ (List.range n.toNatClampNeg).map (fun i => H.size + 1 + i) → a ∉ L := fun a ha h => by
    obtain ⟨i, -, rfl⟩ := List.mem_map.mp ha
    have := hlt _ h
    omega
  have hP0 : va_P D cl (X ++ va_pl L f) F.heap := hP.kept (fun k9 x hx => hold x.1 ((hP k9 x hx).lt))
  have hP1 : va_P D cl ((X ++ va_pl L f) ++ [(H.size, .inl (cA, n.toNatClampNeg, .inr (.inr (.inr (.inr (fun i => if i < n.toNatClampNeg then some (H.size + 1 + i) else none))))))]) F.heap := hP0.app (fun k9 x hx => by
    have h0 : k9 < 1 := (List.getElem?_eq_some_iff.mp hx).1
    rw [show k9 = 0 by omega] at hx
    cases hx
    exact f2)
  have hP2 : va_P D cl (((X ++ va_pl L f) ++ [(H.size, .inl (cA, n.toNatClampNeg, .inr (.inr (.inr (.inr (fun i => if i < n.toNatClampNeg then some (H.size + 1 + i) else none))))))]) ++ ((List.range n.toNatClampNeg).map (fun i => H.size + 1 + i)).map (fun a => (a, .inl (cy, z)))) F.heap := hP1.app (fun k9 x hx => by
    obtain ⟨a, ha, rfl⟩ := List.mem_map.mp (List.mem_of_getElem? hx)
    obtain ⟨i, hi, rfl⟩ := List.mem_map.mp ha
    exact hrow i (List.mem_range.mp hi))
  have hD2 : va_D A (((X ++ va_pl L f) ++ [(H.size, .inl (cA, n.toNatClampNeg, .inr (.inr (.inr (.inr (fun i => if i < n.toNatClampNeg then some (H.size + 1 + i) else none))))))]) ++ ((List.range n.toNatClampNeg).map (fun i => H.size + 1 + i)).map (fun a => (a, .inl (cy, z)))) := by
    have hD1 := hD.push (e := .inl (cA, n.toNatClampNeg, .inr (.inr (.inr (.inr (fun i => if i < n.toNatClampNeg then some (H.size + 1 + i) else none)))))) hP rfl (hA _ hS.1)
    generalize hW1 : (X ++ va_pl L f) ++ [(H.size, .inl (cA, n.toNatClampNeg, .inr (.inr (.inr (.inr (fun i => if i < n.toNatClampNeg then some (H.size + 1 + i) else none))))))] = W1 at hD1 hP1 ⊢
    have hle : ∀ (k9 : Nat) (x : Nat × va_E), W1[k9]? = some x → x.1 ≤ H.size := fun k9 x hx => by
      rw [← hW1] at hx
      by_cases hl : k9 < (X ++ va_pl L f).length
      · rw [List.getElem?_append_left hl] at hx
        exact Nat.le_of_lt ((hP k9 x hx).lt)
      · rw [List.getElem?_append_right (by omega)] at hx
        have h0 : k9 - (X ++ va_pl L f).length < 1 := (List.getElem?_eq_some_iff.mp hx).1
        rw [show k9 - (X ++ va_pl L f).length = 0 by omega] at hx
        cases hx
        exact Nat.le_refl _
    have hr : ∀ (k9 : Nat) (x : Nat × va_E), (((List.range n.toNatClampNeg).map (fun i => H.size + 1 + i)).map (fun a => ((a, .inl (cy, z)) : Nat × va_E)))[k9]? = some x → x.1 = H.size + 1 + k9 := fun k9 x hx => by
      rw [List.getElem?_map, List.getElem?_map] at hx
      by_cases h9 : k9 < n.toNatClampNeg
      · rw [List.getElem?_range h9] at hx
        cases hx
        rfl
      · have hn0 : (List.range n.toNatClampNeg)[k9]? = none := List.getElem?_eq_none (by rw [List.length_range]; omega)
        rw [hn0] at hx
        cases hx
    refine ⟨fun i j x y hi hj hxy => ?_, fun k9 x hx => ?_⟩
    · by_cases h1 : i < W1.length <;> by_cases h2 : j < W1.length
      · rw [List.getElem?_append_left h1] at hi
        rw [List.getElem?_append_left h2] at hj
        exact hD1.1 i j x y hi hj hxy
      · rw [List.getElem?_append_left h1] at hi
        rw [List.getElem?_append_right (by omega)] at hj
        have := hle _ _ hi
        have := hr _ _ hj
        omega
      · rw [List.getElem?_append_right (by omega)] at hi
        rw [List.getElem?_append_left h2] at hj
        have := hle _ _ hj
        have := hr _ _ hi
        omega
      · rw [List.getElem?_append_right (by omega)] at hi hj
        have := hr _ _ hi
        have := hr _ _ hj
        omega
    · by_cases h1 : k9 < W1.length
      · rw [List.getElem?_append_left h1] at hx
        exact hD1.2 k9 x hx
      · rw [List.getElem?_append_right (by omega)] at hx
        have := hr _ _ hx
        exact hA _ (by have := hS.1; omega)
  have hAr : ArrOfT s cA (.array ty) := fun N9 z9 => by
    obtain ⟨-, k9, hk9, cm9, hkk9⟩ := (hO 0 0 0).1
    exact ⟨(fun q hq => by cases hq), k9, hk9, cm9, hkk9⟩
  have hK2 : va_K D cl (tys ++ [(cA, .array ty)]) s := ⟨hK.1, fun k9 x hx => by
    by_cases hl : k9 < tys.length
    · rw [List.getElem?_append_left hl] at hx
      exact hK.2 k9 x hx
    · rw [List.getElem?_append_right (by omega)] at hx
      have h0 : k9 - tys.length < 1 := (List.getElem?_eq_some_iff.mp hx).1
      rw [show k9 - tys.length = 0 by omega] at hx
      cases hx
      exact ⟨hAr, fA⟩⟩
  obtain ⟨t, a1, b1⟩ := kk H.size (fun i => H.size + 1 + i) cA F.heap (fun i j _ _ h => by have h9 : H.size + 1 + i = H.size + 1 + j := h; omega) hnl hK2 (by rw [← vr_rows hnm]; exact vr_lay hP2) (by rw [← vr_rows hnm]; exact vr_layD hD2) ⟨by rw [f1]; have := hS.1; omega, fun x h1 h2 => (hold x (Nat.lt_of_lt_of_le h1 hS.1)).trans (hS.2.1 x h1 h2), hS.2.2⟩ F rfl X'
  refine ⟨t, step t ?_, b1⟩
  have e : T.heap.size = H.size := by rw [hT]
  rw [e]
  exact a1
end VGM
/-! ===== END ===== -/

/-! ===== BEGIN printed: names, fields, word lists, decode rows ===== -/
def RX0 : String := "CalledStalls$Night"
def TX0 : u_T := fun k => match k with
  | 0 => ("CalledStalls$Night", "script", "LCalledStalls$Script;", true)
  | 1 => ("CalledStalls$Night", "seat", "[I", true)
  | 2 => ("CalledStalls$Night", "deeds", "[I", true)
  | 3 => ("CalledStalls$Night", "deedCount", "I", false)
  | 4 => ("CalledStalls$Night", "scene", "I", false)
  | 5 => ("CalledStalls$Night", "called", "I", false)
  | 6 => ("CalledStalls$Night", "promptsLeft", "I", false)
  | 7 => ("CalledStalls$Night", "shame", "I", false)
  | 8 => ("CalledStalls$Night", "clapping", "I", false)
  | _ => ("CalledStalls$Night", "carriedCount", "I", false)
def tyX0 : Nat → FieldType := fun k => match k with
  | 0 => .object "CalledStalls$Script"
  | 1 => .array .int
  | 2 => .array .int
  | 3 => .int
  | 4 => .int
  | 5 => .int
  | 6 => .int
  | 7 => .int
  | 8 => .int
  | _ => .int
abbrev wsX00 : List Cond := u_ws RX0 TX0 10
theorem nmX0 : ∀ a, a < 10 → ∀ b, b < 10 → a ≠ b → (TX0 a).2.1 ≠ (TX0 b).2.1 := by decide +kernel
theorem tyX0_ok : ∀ k, k < 10 → parseFieldDescriptor (TX0 k).2.2.1 = some (tyX0 k) := by decide +kernel
abbrev cX0_init : ByteArray := prog_2_method_1_code
def yX0_init : MethodName := ⟨RX0, "<init>", "(LCalledStalls$Script;)V"⟩
abbrev cX0_begin : ByteArray := prog_2_method_2_code
def yX0_begin : MethodName := ⟨RX0, "begin", "()V"⟩
abbrev cX0_deedOfChange : ByteArray := prog_2_method_3_code
def yX0_deedOfChange : MethodName := ⟨RX0, "deedOfChange", "(II)I"⟩
abbrev cX0_perform : ByteArray := prog_2_method_4_code
def yX0_perform : MethodName := ⟨RX0, "perform", "(I)V"⟩
abbrev cX0_playScene : ByteArray := prog_2_method_5_code
def yX0_playScene : MethodName := ⟨RX0, "playScene", "(I)V"⟩
abbrev cX0_exchange : ByteArray := prog_2_method_6_code
def yX0_exchange : MethodName := ⟨RX0, "exchange", "(II)V"⟩
abbrev cX0_scenesYet : ByteArray := prog_2_method_7_code
def yX0_scenesYet : MethodName := ⟨RX0, "scenesYet", "()I"⟩
abbrev cX0_lackingNow : ByteArray := prog_2_method_8_code
def yX0_lackingNow : MethodName := ⟨RX0, "lackingNow", "(I)I"⟩
abbrev cX0_allowed : ByteArray := prog_2_method_9_code
def yX0_allowed : MethodName := ⟨RX0, "allowed", "()I"⟩
abbrev cX0_allowedIfChanged : ByteArray := prog_2_method_10_code
def yX0_allowedIfChanged : MethodName := ⟨RX0, "allowedIfChanged", "(II)I"⟩
abbrev cX0_free : ByteArray := prog_2_method_11_code
def yX0_free : MethodName := ⟨RX0, "free", "()I"⟩
abbrev cX0_takenSeats : ByteArray := prog_2_method_12_code
def yX0_takenSeats : MethodName := ⟨RX0, "takenSeats", "()I"⟩
abbrev cX0_takenSeatsWithout : ByteArray := prog_2_method_13_code
def yX0_takenSeatsWithout : MethodName := ⟨RX0, "takenSeatsWithout", "(I)I"⟩
abbrev cX0_whatOfSitter : ByteArray := prog_2_method_14_code
def yX0_whatOfSitter : MethodName := ⟨RX0, "whatOfSitter", "(II)I"⟩
abbrev cX0_saysNow : ByteArray := prog_2_method_15_code
def yX0_saysNow : MethodName := ⟨RX0, "saysNow", "(I)I"⟩
abbrev cX0_markOf : ByteArray := prog_2_method_16_code
def yX0_markOf : MethodName := ⟨RX0, "markOf", "(II)I"⟩
abbrev cX0_scenesWithoutPrompt : ByteArray := prog_2_method_17_code
def yX0_scenesWithoutPrompt : MethodName := ⟨RX0, "scenesWithoutPrompt", "(I)I"⟩
abbrev cX0_othersInEvenSeats : ByteArray := prog_2_method_18_code
def yX0_othersInEvenSeats : MethodName := ⟨RX0, "othersInEvenSeats", "(I)I"⟩
def RX1 : String := "CalledStalls$Script"
def TX1 : u_T := fun k => match k with
  | 0 => ("CalledStalls$Script", "promptCount", "I", false)
  | 1 => ("CalledStalls$Script", "sceneCount", "I", false)
  | 2 => ("CalledStalls$Script", "sitterCount", "I", false)
  | 3 => ("CalledStalls$Script", "lineCount", "[I", true)
  | 4 => ("CalledStalls$Script", "kind", "[I", true)
  | 5 => ("CalledStalls$Script", "seat", "[I", true)
  | 6 => ("CalledStalls$Script", "memory", "[I", true)
  | 7 => ("CalledStalls$Script", "fright", "[I", true)
  | 8 => ("CalledStalls$Script", "takenSeats", "I", false)
  | _ => ("CalledStalls$Script", "claqueBits", "I", false)
def tyX1 : Nat → FieldType := fun k => match k with
  | 0 => .int
  | 1 => .int
  | 2 => .int
  | 3 => .array .int
  | 4 => .array .int
  | 5 => .array .int
  | 6 => .array .int
  | 7 => .array .int
  | 8 => .int
  | _ => .int
abbrev wsX10 : List Cond := u_ws RX1 TX1 10
theorem nmX1 : ∀ a, a < 10 → ∀ b, b < 10 → a ≠ b → (TX1 a).2.1 ≠ (TX1 b).2.1 := by decide +kernel
theorem tyX1_ok : ∀ k, k < 10 → parseFieldDescriptor (TX1 k).2.2.1 = some (tyX1 k) := by decide +kernel
abbrev cX1_init : ByteArray := prog_3_method_1_code
def yX1_init : MethodName := ⟨RX1, "<init>", "()V"⟩
abbrev cX1_read : ByteArray := prog_3_method_2_code
def yX1_read : MethodName := ⟨RX1, "read", "(LCalledStalls$Shelf;I)I"⟩
abbrev cX1_readLines : ByteArray := prog_3_method_3_code
def yX1_readLines : MethodName := ⟨RX1, "readLines", "(LCalledStalls$Shelf;II)I"⟩
abbrev cX1_readSitter : ByteArray := prog_3_method_4_code
def yX1_readSitter : MethodName := ⟨RX1, "readSitter", "(LCalledStalls$Shelf;II)I"⟩
abbrev cX1_figureAt : ByteArray := prog_3_method_5_code
def yX1_figureAt : MethodName := ⟨RX1, "figureAt", "(LCalledStalls$Shelf;II)I"⟩
abbrev cX1_kindAt : ByteArray := prog_3_method_6_code
def yX1_kindAt : MethodName := ⟨RX1, "kindAt", "(LCalledStalls$Shelf;II)I"⟩
abbrev cX1_pastBlanks : ByteArray := prog_3_method_7_code
def yX1_pastBlanks : MethodName := ⟨RX1, "pastBlanks", "(LCalledStalls$Shelf;II)I"⟩
abbrev cX1_isSitter : ByteArray := prog_3_method_8_code
def yX1_isSitter : MethodName := ⟨RX1, "isSitter", "(I)Z"⟩
abbrev cX1_clerkCount : ByteArray := prog_3_method_9_code
def yX1_clerkCount : MethodName := ⟨RX1, "clerkCount", "()I"⟩
abbrev cX1_otherClaques : ByteArray := prog_3_method_10_code
def yX1_otherClaques : MethodName := ⟨RX1, "otherClaques", "(II)I"⟩
abbrev cX1_lacking : ByteArray := prog_3_method_11_code
def yX1_lacking : MethodName := ⟨RX1, "lacking", "(IIII)I"⟩
def RX2 : String := "CalledStalls$Search"
def TX2 : u_T := fun k => match k with
  | 0 => ("CalledStalls$Search", "night", "LCalledStalls$Night;", true)
  | 1 => ("CalledStalls$Search", "script", "LCalledStalls$Script;", true)
  | 2 => ("CalledStalls$Search", "path", "[I", true)
  | 3 => ("CalledStalls$Search", "bestPlan", "[I", true)
  | 4 => ("CalledStalls$Search", "planCount", "[[I", true)
  | 5 => ("CalledStalls$Search", "allowed", "I", false)
  | 6 => ("CalledStalls$Search", "most", "I", false)
  | 7 => ("CalledStalls$Search", "fewestGone", "I", false)
  | 8 => ("CalledStalls$Search", "firstCalled", "I", false)
  | 9 => ("CalledStalls$Search", "applauseBehind", "I", false)
  | 10 => ("CalledStalls$Search", "wanted", "I", false)
  | 11 => ("CalledStalls$Search", "wayCount", "J", false)
  | 12 => ("CalledStalls$Search", "calledInAll", "I", false)
  | 13 => ("CalledStalls$Search", "draws", "J", false)
  | 14 => ("CalledStalls$Search", "drawsCarried", "J", false)
  | _ => ("CalledStalls$Search", "drawsApplause", "J", false)
def tyX2 : Nat → FieldType := fun k => match k with
  | 0 => .object "CalledStalls$Night"
  | 1 => .object "CalledStalls$Script"
  | 2 => .array .int
  | 3 => .array .int
  | 4 => .array (.array .int)
  | 5 => .int
  | 6 => .int
  | 7 => .int
  | 8 => .int
  | 9 => .int
  | 10 => .int
  | 11 => .long
  | 12 => .int
  | 13 => .long
  | 14 => .long
  | _ => .long
abbrev wsX20 : List Cond := u_ws RX2 TX2 16
theorem nmX2 : ∀ a, a < 16 → ∀ b, b < 16 → a ≠ b → (TX2 a).2.1 ≠ (TX2 b).2.1 := by decide +kernel
theorem tyX2_ok : ∀ k, k < 16 → parseFieldDescriptor (TX2 k).2.2.1 = some (tyX2 k) := by decide +kernel
abbrev cX2_init : ByteArray := prog_4_method_1_code
def yX2_init : MethodName := ⟨RX2, "<init>", "(LCalledStalls$Night;)V"⟩
abbrev cX2_isFree : ByteArray := prog_4_method_2_code
def yX2_isFree : MethodName := ⟨RX2, "isFree", "(II)Z"⟩
abbrev cX2_freeCount : ByteArray := prog_4_method_3_code
def yX2_freeCount : MethodName := ⟨RX2, "freeCount", "(I)I"⟩
abbrev cX2_hope : ByteArray := prog_4_method_4_code
def yX2_hope : MethodName := ⟨RX2, "hope", "(II)I"⟩
abbrev cX2_clappingBehind : ByteArray := prog_4_method_5_code
def yX2_clappingBehind : MethodName := ⟨RX2, "clappingBehind", "(III)I"⟩
abbrev cX2_promptsBehind : ByteArray := prog_4_method_6_code
def yX2_promptsBehind : MethodName := ⟨RX2, "promptsBehind", "(II)I"⟩
abbrev cX2_playPlan : ByteArray := prog_4_method_7_code
def yX2_playPlan : MethodName := ⟨RX2, "playPlan", "(LCalledStalls$Shelf;I)I"⟩
abbrev cX2_findMost : ByteArray := prog_4_method_8_code
def yX2_findMost : MethodName := ⟨RX2, "findMost", "(II)I"⟩
abbrev cX2_seekMost : ByteArray := prog_4_method_9_code
def yX2_seekMost : MethodName := ⟨RX2, "seekMost", "(IIIII)V"⟩
abbrev cX2_findFirstOfMost : ByteArray := prog_4_method_10_code
def yX2_findFirstOfMost : MethodName := ⟨RX2, "findFirstOfMost", "()V"⟩
abbrev cX2_choiceFor : ByteArray := prog_4_method_11_code
def yX2_choiceFor : MethodName := ⟨RX2, "choiceFor", "(I)I"⟩
abbrev cX2_seekBest : ByteArray := prog_4_method_12_code
def yX2_seekBest : MethodName := ⟨RX2, "seekBest", "(IIIII)V"⟩
abbrev cX2_findLeast : ByteArray := prog_4_method_13_code
def yX2_findLeast : MethodName := ⟨RX2, "findLeast", "()I"⟩
abbrev cX2_seekLeast : ByteArray := prog_4_method_14_code
def yX2_seekLeast : MethodName := ⟨RX2, "seekLeast", "(IIII)V"⟩
abbrev cX2_findWays : ByteArray := prog_4_method_15_code
def yX2_findWays : MethodName := ⟨RX2, "findWays", "(I)V"⟩
abbrev cX2_seekWays : ByteArray := prog_4_method_16_code
def yX2_seekWays : MethodName := ⟨RX2, "seekWays", "(IIIII)V"⟩
abbrev cX2_plansFor : ByteArray := prog_4_method_17_code
def yX2_plansFor : MethodName := ⟨RX2, "plansFor", "(II)I"⟩
abbrev cX2_findDuel : ByteArray := prog_4_method_18_code
def yX2_findDuel : MethodName := ⟨RX2, "findDuel", "(I)I"⟩
abbrev cX2_duelFrom : ByteArray := prog_4_method_19_code
def yX2_duelFrom : MethodName := ⟨RX2, "duelFrom", "(IIIIIZ)I"⟩
abbrev cX2_findDraws : ByteArray := prog_4_method_20_code
def yX2_findDraws : MethodName := ⟨RX2, "findDraws", "(I)V"⟩
abbrev cX2_seekDraws : ByteArray := prog_4_method_21_code
def yX2_seekDraws : MethodName := ⟨RX2, "seekDraws", "(IIIII)V"⟩
def RX3 : String := "CalledStalls$Shelf"
def TX3 : u_T := fun k => match k with
  | 0 => ("CalledStalls$Shelf", "items", "[[I", true)
  | _ => ("CalledStalls$Shelf", "sizes", "[I", true)
def tyX3 : Nat → FieldType := fun k => match k with
  | 0 => .array (.array .int)
  | _ => .array .int
abbrev wsX30 : List Cond := u_ws RX3 TX3 2
theorem nmX3 : ∀ a, a < 2 → ∀ b, b < 2 → a ≠ b → (TX3 a).2.1 ≠ (TX3 b).2.1 := by decide +kernel
theorem tyX3_ok : ∀ k, k < 2 → parseFieldDescriptor (TX3 k).2.2.1 = some (tyX3 k) := by decide +kernel
abbrev cX3_init : ByteArray := prog_5_method_1_code
def yX3_init : MethodName := ⟨RX3, "<init>", "(II)V"⟩
abbrev cX3_isPlace : ByteArray := prog_5_method_2_code
def yX3_isPlace : MethodName := ⟨RX3, "isPlace", "(I)Z"⟩
abbrev cX3_has : ByteArray := prog_5_method_3_code
def yX3_has : MethodName := ⟨RX3, "has", "(I)Z"⟩
abbrev cX3_size : ByteArray := prog_5_method_4_code
def yX3_size : MethodName := ⟨RX3, "size", "(I)I"⟩
abbrev cX3_holds : ByteArray := prog_5_method_5_code
def yX3_holds : MethodName := ⟨RX3, "holds", "(II)Z"⟩
abbrev cX3_holdsPart : ByteArray := prog_5_method_6_code
def yX3_holdsPart : MethodName := ⟨RX3, "holdsPart", "(III)Z"⟩
abbrev cX3_get : ByteArray := prog_5_method_7_code
def yX3_get : MethodName := ⟨RX3, "get", "(II)I"⟩
abbrev cX3_set : ByteArray := prog_5_method_8_code
def yX3_set : MethodName := ⟨RX3, "set", "(III)V"⟩
abbrev cX3_make : ByteArray := prog_5_method_9_code
def yX3_make : MethodName := ⟨RX3, "make", "(III)V"⟩
abbrev cX3_drop : ByteArray := prog_5_method_10_code
def yX3_drop : MethodName := ⟨RX3, "drop", "(I)V"⟩
abbrev cX3_copyPart : ByteArray := prog_5_method_11_code
def yX3_copyPart : MethodName := ⟨RX3, "copyPart", "(IIIII)V"⟩
abbrev cX3_thereCount : ByteArray := prog_5_method_12_code
def yX3_thereCount : MethodName := ⟨RX3, "thereCount", "()I"⟩
abbrev cX3_digestFrom : ByteArray := prog_5_method_13_code
def yX3_digestFrom : MethodName := ⟨RX3, "digestFrom", "(J)J"⟩
def RX4 : String := "CalledStalls"
def TX4 : u_T := fun k => match k with
  | 0 => ("CalledStalls", "rowShelf", "LCalledStalls$Shelf;", true)
  | 1 => ("CalledStalls", "textShelf", "LCalledStalls$Shelf;", true)
  | 2 => ("CalledStalls", "keptShelf", "LCalledStalls$Shelf;", true)
  | 3 => ("CalledStalls", "draft", "LCalledStalls$Script;", true)
  | 4 => ("CalledStalls", "script", "LCalledStalls$Script;", true)
  | 5 => ("CalledStalls", "night", "LCalledStalls$Night;", true)
  | 6 => ("CalledStalls", "search", "LCalledStalls$Search;", true)
  | 7 => ("CalledStalls", "foundTimes", "[I", true)
  | 8 => ("CalledStalls", "lastFinding", "I", false)
  | 9 => ("CalledStalls", "lastTold", "I", false)
  | 10 => ("CalledStalls", "upperTold", "J", false)
  | _ => ("CalledStalls", "lowerTold", "J", false)
def tyX4 : Nat → FieldType := fun k => match k with
  | 0 => .object "CalledStalls$Shelf"
  | 1 => .object "CalledStalls$Shelf"
  | 2 => .object "CalledStalls$Shelf"
  | 3 => .object "CalledStalls$Script"
  | 4 => .object "CalledStalls$Script"
  | 5 => .object "CalledStalls$Night"
  | 6 => .object "CalledStalls$Search"
  | 7 => .array .int
  | 8 => .int
  | 9 => .int
  | 10 => .long
  | _ => .long
abbrev wsX40 : List Cond := u_ws RX4 TX4 12
theorem nmX4 : ∀ a, a < 12 → ∀ b, b < 12 → a ≠ b → (TX4 a).2.1 ≠ (TX4 b).2.1 := by decide +kernel
theorem tyX4_ok : ∀ k, k < 12 → parseFieldDescriptor (TX4 k).2.2.1 = some (tyX4 k) := by decide +kernel
abbrev cX4_init : ByteArray := prog_1_method_1_code
def yX4_init : MethodName := ⟨RX4, "<init>", "()V"⟩
abbrev cX4_row : ByteArray := prog_1_method_2_code
def yX4_row : MethodName := ⟨RX4, "row", "(II)I"⟩
abbrev cX4_lay : ByteArray := prog_1_method_3_code
def yX4_lay : MethodName := ⟨RX4, "lay", "(III)I"⟩
abbrev cX4_at : ByteArray := prog_1_method_4_code
def yX4_at : MethodName := ⟨RX4, "at", "(II)I"⟩
abbrev cX4_tear : ByteArray := prog_1_method_5_code
def yX4_tear : MethodName := ⟨RX4, "tear", "(I)I"⟩
abbrev cX4_copy : ByteArray := prog_1_method_6_code
def yX4_copy : MethodName := ⟨RX4, "copy", "(IIIII)I"⟩
abbrev cX4_mean : ByteArray := prog_1_method_7_code
def yX4_mean : MethodName := ⟨RX4, "mean", "(I)I"⟩
abbrev cX4_text : ByteArray := prog_1_method_8_code
def yX4_text : MethodName := ⟨RX4, "text", "(II)I"⟩
abbrev cX4_put : ByteArray := prog_1_method_9_code
def yX4_put : MethodName := ⟨RX4, "put", "(III)I"⟩
abbrev cX4_fault : ByteArray := prog_1_method_10_code
def yX4_fault : MethodName := ⟨RX4, "fault", "(I)I"⟩
abbrev cX4_house : ByteArray := prog_1_method_11_code
def yX4_house : MethodName := ⟨RX4, "house", "(I)I"⟩
abbrev cX4_sitter : ByteArray := prog_1_method_12_code
def yX4_sitter : MethodName := ⟨RX4, "sitter", "(II)I"⟩
abbrev cX4_mark : ByteArray := prog_1_method_13_code
def yX4_mark : MethodName := ⟨RX4, "mark", "(II)I"⟩
abbrev cX4_lines : ByteArray := prog_1_method_14_code
def yX4_lines : MethodName := ⟨RX4, "lines", "(I)I"⟩
abbrev cX4_call : ByteArray := prog_1_method_15_code
def yX4_call : MethodName := ⟨RX4, "call", "(I)I"⟩
abbrev cX4_cut : ByteArray := prog_1_method_16_code
def yX4_cut : MethodName := ⟨RX4, "cut", "()I"⟩
abbrev cX4_change : ByteArray := prog_1_method_17_code
def yX4_change : MethodName := ⟨RX4, "change", "(II)I"⟩
abbrev cX4_undo : ByteArray := prog_1_method_18_code
def yX4_undo : MethodName := ⟨RX4, "undo", "(I)I"⟩
abbrev cX4_keep : ByteArray := prog_1_method_19_code
def yX4_keep : MethodName := ⟨RX4, "keep", "(I)I"⟩
abbrev cX4_on : ByteArray := prog_1_method_20_code
def yX4_on : MethodName := ⟨RX4, "on", "(I)I"⟩
abbrev cX4_can : ByteArray := prog_1_method_21_code
def yX4_can : MethodName := ⟨RX4, "can", "()I"⟩
abbrev cX4_play : ByteArray := prog_1_method_22_code
def yX4_play : MethodName := ⟨RX4, "play", "(I)I"⟩
abbrev cX4_best : ByteArray := prog_1_method_23_code
def yX4_best : MethodName := ⟨RX4, "best", "(I)I"⟩
abbrev cX4_least : ByteArray := prog_1_method_24_code
def yX4_least : MethodName := ⟨RX4, "least", "()I"⟩
abbrev cX4_ways : ByteArray := prog_1_method_25_code
def yX4_ways : MethodName := ⟨RX4, "ways", "(I)I"⟩
abbrev cX4_seats : ByteArray := prog_1_method_26_code
def yX4_seats : MethodName := ⟨RX4, "seats", "()I"⟩
abbrev cX4_beside : ByteArray := prog_1_method_27_code
def yX4_beside : MethodName := ⟨RX4, "beside", "()I"⟩
abbrev cX4_apart : ByteArray := prog_1_method_28_code
def yX4_apart : MethodName := ⟨RX4, "apart", "()I"⟩
abbrev cX4_frights : ByteArray := prog_1_method_29_code
def yX4_frights : MethodName := ⟨RX4, "frights", "(II)I"⟩
abbrev cX4_kinds : ByteArray := prog_1_method_30_code
def yX4_kinds : MethodName := ⟨RX4, "kinds", "(II)I"⟩
abbrev cX4_whom : ByteArray := prog_1_method_31_code
def yX4_whom : MethodName := ⟨RX4, "whom", "(I)I"⟩
abbrev cX4_duel : ByteArray := prog_1_method_32_code
def yX4_duel : MethodName := ⟨RX4, "duel", "(I)I"⟩
abbrev cX4_odds : ByteArray := prog_1_method_33_code
def yX4_odds : MethodName := ⟨RX4, "odds", "(I)I"⟩
abbrev cX4_mid : ByteArray := prog_1_method_34_code
def yX4_mid : MethodName := ⟨RX4, "mid", "()I"⟩
abbrev cX4_lots : ByteArray := prog_1_method_35_code
def yX4_lots : MethodName := ⟨RX4, "lots", "(I)I"⟩
abbrev cX4_asked : ByteArray := prog_1_method_36_code
def yX4_asked : MethodName := ⟨RX4, "asked", "()I"⟩
abbrev cX4_upper : ByteArray := prog_1_method_37_code
def yX4_upper : MethodName := ⟨RX4, "upper", "()J"⟩
abbrev cX4_lower : ByteArray := prog_1_method_38_code
def yX4_lower : MethodName := ⟨RX4, "lower", "()J"⟩
abbrev cX4_count : ByteArray := prog_1_method_39_code
def yX4_count : MethodName := ⟨RX4, "count", "(I)I"⟩
abbrev cX4_applause : ByteArray := prog_1_method_40_code
def yX4_applause : MethodName := ⟨RX4, "applause", "()I"⟩
abbrev cX4_finding : ByteArray := prog_1_method_41_code
def yX4_finding : MethodName := ⟨RX4, "finding", "()I"⟩
abbrev cX4_findings : ByteArray := prog_1_method_42_code
def yX4_findings : MethodName := ⟨RX4, "findings", "(I)I"⟩
abbrev cX4_digest : ByteArray := prog_1_method_43_code
def yX4_digest : MethodName := ⟨RX4, "digest", "()J"⟩
abbrev cX4_tell : ByteArray := prog_1_method_44_code
def yX4_tell : MethodName := ⟨RX4, "tell", "(I)I"⟩
abbrev cX4_tellFraction : ByteArray := prog_1_method_45_code
def yX4_tellFraction : MethodName := ⟨RX4, "tellFraction", "(JJ)V"⟩
abbrev cX4_greatestDivisor : ByteArray := prog_1_method_46_code
def yX4_greatestDivisor : MethodName := ⟨RX4, "greatestDivisor", "(JJ)J"⟩
abbrev cX4_refuse : ByteArray := prog_1_method_47_code
def yX4_refuse : MethodName := ⟨RX4, "refuse", "(I)I"⟩
abbrev cX4_refusalOfPlace : ByteArray := prog_1_method_48_code
def yX4_refusalOfPlace : MethodName := ⟨RX4, "refusalOfPlace", "(LCalledStalls$Shelf;I)I"⟩
abbrev cX4_refusalOfItem : ByteArray := prog_1_method_49_code
def yX4_refusalOfItem : MethodName := ⟨RX4, "refusalOfItem", "(LCalledStalls$Shelf;II)I"⟩
abbrev cX4_refusalOfNotices : ByteArray := prog_1_method_50_code
def yX4_refusalOfNotices : MethodName := ⟨RX4, "refusalOfNotices", "(II)I"⟩
abbrev cX4_countOf : ByteArray := prog_1_method_51_code
def yX4_countOf : MethodName := ⟨RX4, "countOf", "(I)I"⟩
abbrev cX4_isPlan : ByteArray := prog_1_method_52_code
def yX4_isPlan : MethodName := ⟨RX4, "isPlan", "(I)Z"⟩
abbrev cX4_areNotices : ByteArray := prog_1_method_53_code
def yX4_areNotices : MethodName := ⟨RX4, "areNotices", "(I)Z"⟩
abbrev cX4_fitsNotices : ByteArray := prog_1_method_54_code
def yX4_fitsNotices : MethodName := ⟨RX4, "fitsNotices", "(IIIII)Z"⟩
abbrev cX4_isIn : ByteArray := prog_1_method_55_code
def yX4_isIn : MethodName := ⟨RX4, "isIn", "(II)Z"⟩
abbrev cX4_isOfKind : ByteArray := prog_1_method_56_code
def yX4_isOfKind : MethodName := ⟨RX4, "isOfKind", "(II)Z"⟩
abbrev cX4_isCallableFrom : ByteArray := prog_1_method_57_code
def yX4_isCallableFrom : MethodName := ⟨RX4, "isCallableFrom", "(II)Z"⟩
abbrev cX4_fears : ByteArray := prog_1_method_58_code
def yX4_fears : MethodName := ⟨RX4, "fears", "(III)I"⟩
abbrev cX4_says : ByteArray := prog_1_method_59_code
def yX4_says : MethodName := ⟨RX4, "says", "(IIIII)I"⟩
abbrev cX4_drawn : ByteArray := prog_1_method_60_code
def yX4_drawn : MethodName := ⟨RX4, "drawn", "(II)I"⟩
def RX5 : String := "CalledStallsModel"
def TX5 : u_T := fun k => match k with
  | 0 => ("CalledStallsModel", "row", "[I", true)
  | 1 => ("CalledStallsModel", "scenes", "I", false)
  | 2 => ("CalledStallsModel", "lines", "[I", true)
  | 3 => ("CalledStallsModel", "sitters", "I", false)
  | 4 => ("CalledStallsModel", "kinds", "[I", true)
  | 5 => ("CalledStallsModel", "memories", "[I", true)
  | 6 => ("CalledStallsModel", "frights", "[I", true)
  | 7 => ("CalledStallsModel", "sizes", "[I", true)
  | 8 => ("CalledStallsModel", "items", "[I", true)
  | 9 => ("CalledStallsModel", "lengths", "[I", true)
  | 10 => ("CalledStallsModel", "bytes", "[I", true)
  | 11 => ("CalledStallsModel", "asked", "I", false)
  | 12 => ("CalledStallsModel", "upper", "J", false)
  | 13 => ("CalledStallsModel", "lower", "J", false)
  | 14 => ("CalledStallsModel", "finding", "I", false)
  | 15 => ("CalledStallsModel", "findings", "[I", true)
  | 16 => ("CalledStallsModel", "from", "I", false)
  | 17 => ("CalledStallsModel", "place", "I", false)
  | 18 => ("CalledStallsModel", "end", "I", false)
  | 19 => ("CalledStallsModel", "readPrompts", "I", false)
  | 20 => ("CalledStallsModel", "readLines", "[I", true)
  | 21 => ("CalledStallsModel", "readScenes", "I", false)
  | 22 => ("CalledStallsModel", "readSitters", "[I", true)
  | 23 => ("CalledStallsModel", "readMany", "I", false)
  | 24 => ("CalledStallsModel", "readSeats", "I", false)
  | 25 => ("CalledStallsModel", "planPrompts", "[I", true)
  | 26 => ("CalledStallsModel", "planApplause", "[I", true)
  | 27 => ("CalledStallsModel", "planCarried", "[I", true)
  | 28 => ("CalledStallsModel", "planCalled", "[I", true)
  | 29 => ("CalledStallsModel", "choices", "[I", true)
  | 30 => ("CalledStallsModel", "planMany", "I", false)
  | 31 => ("CalledStallsModel", "isBegun", "Z", false)
  | _ => ("CalledStallsModel", "bests", "[I", true)
def tyX5 : Nat → FieldType := fun k => match k with
  | 0 => .array .int
  | 1 => .int
  | 2 => .array .int
  | 3 => .int
  | 4 => .array .int
  | 5 => .array .int
  | 6 => .array .int
  | 7 => .array .int
  | 8 => .array .int
  | 9 => .array .int
  | 10 => .array .int
  | 11 => .int
  | 12 => .long
  | 13 => .long
  | 14 => .int
  | 15 => .array .int
  | 16 => .int
  | 17 => .int
  | 18 => .int
  | 19 => .int
  | 20 => .array .int
  | 21 => .int
  | 22 => .array .int
  | 23 => .int
  | 24 => .int
  | 25 => .array .int
  | 26 => .array .int
  | 27 => .array .int
  | 28 => .array .int
  | 29 => .array .int
  | 30 => .int
  | 31 => .boolean
  | _ => .array .int
abbrev wsX50 : List Cond := u_ws RX5 TX5 33
theorem nmX5 : ∀ a, a < 33 → ∀ b, b < 33 → a ≠ b → (TX5 a).2.1 ≠ (TX5 b).2.1 := by decide +kernel
theorem tyX5_ok : ∀ k, k < 33 → parseFieldDescriptor (TX5 k).2.2.1 = some (tyX5 k) := by decide +kernel
abbrev cX5_init : ByteArray := prog_7_method_1_code
def yX5_init : MethodName := ⟨RX5, "<init>", "()V"⟩
abbrev cX5_bits : ByteArray := prog_7_method_2_code
def yX5_bits : MethodName := ⟨RX5, "bits", "(I)I"⟩
abbrev cX5_atLeast : ByteArray := prog_7_method_3_code
def yX5_atLeast : MethodName := ⟨RX5, "atLeast", "(I)I"⟩
abbrev cX5_in : ByteArray := prog_7_method_4_code
def yX5_in : MethodName := ⟨RX5, "in", "(JJJ)Z"⟩
abbrev cX5_has : ByteArray := prog_7_method_5_code
def yX5_has : MethodName := ⟨RX5, "has", "(II)Z"⟩
abbrev cX5_find : ByteArray := prog_7_method_6_code
def yX5_find : MethodName := ⟨RX5, "find", "(I)I"⟩
abbrev cX5_tell : ByteArray := prog_7_method_7_code
def yX5_tell : MethodName := ⟨RX5, "tell", "(I)I"⟩
abbrev cX5_isRow : ByteArray := prog_7_method_8_code
def yX5_isRow : MethodName := ⟨RX5, "isRow", "(I)Z"⟩
abbrev cX5_isText : ByteArray := prog_7_method_9_code
def yX5_isText : MethodName := ⟨RX5, "isText", "(I)Z"⟩
abbrev cX5_row : ByteArray := prog_7_method_10_code
def yX5_row : MethodName := ⟨RX5, "row", "(II)I"⟩
abbrev cX5_makeRow : ByteArray := prog_7_method_11_code
def yX5_makeRow : MethodName := ⟨RX5, "makeRow", "(II)V"⟩
abbrev cX5_refused : ByteArray := prog_7_method_12_code
def yX5_refused : MethodName := ⟨RX5, "refused", "(II)I"⟩
abbrev cX5_lay : ByteArray := prog_7_method_13_code
def yX5_lay : MethodName := ⟨RX5, "lay", "(III)I"⟩
abbrev cX5_at : ByteArray := prog_7_method_14_code
def yX5_at : MethodName := ⟨RX5, "at", "(II)I"⟩
abbrev cX5_tear : ByteArray := prog_7_method_15_code
def yX5_tear : MethodName := ⟨RX5, "tear", "(I)I"⟩
abbrev cX5_isSpan : ByteArray := prog_7_method_16_code
def yX5_isSpan : MethodName := ⟨RX5, "isSpan", "(III)Z"⟩
abbrev cX5_copy : ByteArray := prog_7_method_17_code
def yX5_copy : MethodName := ⟨RX5, "copy", "(IIIII)I"⟩
abbrev cX5_mean : ByteArray := prog_7_method_18_code
def yX5_mean : MethodName := ⟨RX5, "mean", "(I)I"⟩
abbrev cX5_text : ByteArray := prog_7_method_19_code
def yX5_text : MethodName := ⟨RX5, "text", "(II)I"⟩
abbrev cX5_put : ByteArray := prog_7_method_20_code
def yX5_put : MethodName := ⟨RX5, "put", "(III)I"⟩
abbrev cX5_here : ByteArray := prog_7_method_21_code
def yX5_here : MethodName := ⟨RX5, "here", "()I"⟩
abbrev cX5_skip : ByteArray := prog_7_method_22_code
def yX5_skip : MethodName := ⟨RX5, "skip", "()V"⟩
abbrev cX5_isFigure : ByteArray := prog_7_method_23_code
def yX5_isFigure : MethodName := ⟨RX5, "isFigure", "(II)Z"⟩
abbrev cX5_figure : ByteArray := prog_7_method_24_code
def yX5_figure : MethodName := ⟨RX5, "figure", "(II)I"⟩
abbrev cX5_readsPlay : ByteArray := prog_7_method_25_code
def yX5_readsPlay : MethodName := ⟨RX5, "readsPlay", "()Z"⟩
abbrev cX5_kindOfLetter : ByteArray := prog_7_method_26_code
def yX5_kindOfLetter : MethodName := ⟨RX5, "kindOfLetter", "(I)I"⟩
abbrev cX5_readsSitter : ByteArray := prog_7_method_27_code
def yX5_readsSitter : MethodName := ⟨RX5, "readsSitter", "()Z"⟩
abbrev cX5_faultOf : ByteArray := prog_7_method_28_code
def yX5_faultOf : MethodName := ⟨RX5, "faultOf", "(I)I"⟩
abbrev cX5_fault : ByteArray := prog_7_method_29_code
def yX5_fault : MethodName := ⟨RX5, "fault", "(I)I"⟩
abbrev cX5_house : ByteArray := prog_7_method_30_code
def yX5_house : MethodName := ⟨RX5, "house", "(I)I"⟩
abbrev cX5_isSitter : ByteArray := prog_7_method_31_code
def yX5_isSitter : MethodName := ⟨RX5, "isSitter", "(I)Z"⟩
abbrev cX5_isUncle : ByteArray := prog_7_method_32_code
def yX5_isUncle : MethodName := ⟨RX5, "isUncle", "(I)Z"⟩
abbrev cX5_isClerk : ByteArray := prog_7_method_33_code
def yX5_isClerk : MethodName := ⟨RX5, "isClerk", "(I)Z"⟩
abbrev cX5_claques : ByteArray := prog_7_method_34_code
def yX5_claques : MethodName := ⟨RX5, "claques", "(II)I"⟩
abbrev cX5_fearsBy : ByteArray := prog_7_method_35_code
def yX5_fearsBy : MethodName := ⟨RX5, "fearsBy", "(III)I"⟩
abbrev cX5_saysBy : ByteArray := prog_7_method_36_code
def yX5_saysBy : MethodName := ⟨RX5, "saysBy", "(IIIII)I"⟩
abbrev cX5_saysOf : ByteArray := prog_7_method_37_code
def yX5_saysOf : MethodName := ⟨RX5, "saysOf", "(III)I"⟩
abbrev cX5_canSit : ByteArray := prog_7_method_38_code
def yX5_canSit : MethodName := ⟨RX5, "canSit", "(I)Z"⟩
abbrev cX5_mayCall : ByteArray := prog_7_method_39_code
def yX5_mayCall : MethodName := ⟨RX5, "mayCall", "(II)Z"⟩
abbrev cX5_saysNow : ByteArray := prog_7_method_40_code
def yX5_saysNow : MethodName := ⟨RX5, "saysNow", "(I)I"⟩
abbrev cX5_toldOf : ByteArray := prog_7_method_41_code
def yX5_toldOf : MethodName := ⟨RX5, "toldOf", "(II)I"⟩
abbrev cX5_sitter : ByteArray := prog_7_method_42_code
def yX5_sitter : MethodName := ⟨RX5, "sitter", "(II)I"⟩
abbrev cX5_isOf : ByteArray := prog_7_method_43_code
def yX5_isOf : MethodName := ⟨RX5, "isOf", "(II)Z"⟩
abbrev cX5_easyScenes : ByteArray := prog_7_method_44_code
def yX5_easyScenes : MethodName := ⟨RX5, "easyScenes", "(I)I"⟩
abbrev cX5_evenOthers : ByteArray := prog_7_method_45_code
def yX5_evenOthers : MethodName := ⟨RX5, "evenOthers", "(I)I"⟩
abbrev cX5_mark : ByteArray := prog_7_method_46_code
def yX5_mark : MethodName := ⟨RX5, "mark", "(II)I"⟩
abbrev cX5_lines : ByteArray := prog_7_method_47_code
def yX5_lines : MethodName := ⟨RX5, "lines", "(I)I"⟩
abbrev cX5_keepPast : ByteArray := prog_7_method_48_code
def yX5_keepPast : MethodName := ⟨RX5, "keepPast", "()V"⟩
abbrev cX5_lacking : ByteArray := prog_7_method_49_code
def yX5_lacking : MethodName := ⟨RX5, "lacking", "(IIII)I"⟩
abbrev cX5_doCall : ByteArray := prog_7_method_50_code
def yX5_doCall : MethodName := ⟨RX5, "doCall", "(I)I"⟩
abbrev cX5_isOver : ByteArray := prog_7_method_51_code
def yX5_isOver : MethodName := ⟨RX5, "isOver", "()Z"⟩
abbrev cX5_call : ByteArray := prog_7_method_52_code
def yX5_call : MethodName := ⟨RX5, "call", "(I)I"⟩
abbrev cX5_doCut : ByteArray := prog_7_method_53_code
def yX5_doCut : MethodName := ⟨RX5, "doCut", "()V"⟩
abbrev cX5_cut : ByteArray := prog_7_method_54_code
def yX5_cut : MethodName := ⟨RX5, "cut", "()I"⟩
abbrev cX5_swapSeats : ByteArray := prog_7_method_55_code
def yX5_swapSeats : MethodName := ⟨RX5, "swapSeats", "(II)V"⟩
abbrev cX5_canBits : ByteArray := prog_7_method_56_code
def yX5_canBits : MethodName := ⟨RX5, "canBits", "(I)I"⟩
abbrev cX5_change : ByteArray := prog_7_method_57_code
def yX5_change : MethodName := ⟨RX5, "change", "(II)I"⟩
abbrev cX5_undo : ByteArray := prog_7_method_58_code
def yX5_undo : MethodName := ⟨RX5, "undo", "(I)I"⟩
abbrev cX5_copyHouse : ByteArray := prog_7_method_59_code
def yX5_copyHouse : MethodName := ⟨RX5, "copyHouse", "(II)V"⟩
abbrev cX5_keep : ByteArray := prog_7_method_60_code
def yX5_keep : MethodName := ⟨RX5, "keep", "(I)I"⟩
abbrev cX5_on : ByteArray := prog_7_method_61_code
def yX5_on : MethodName := ⟨RX5, "on", "(I)I"⟩
abbrev cX5_beginPlans : ByteArray := prog_7_method_62_code
def yX5_beginPlans : MethodName := ⟨RX5, "beginPlans", "(I)V"⟩
abbrev cX5_choose : ByteArray := prog_7_method_63_code
def yX5_choose : MethodName := ⟨RX5, "choose", "(II)V"⟩
abbrev cX5_nextChoice : ByteArray := prog_7_method_64_code
def yX5_nextChoice : MethodName := ⟨RX5, "nextChoice", "(II)I"⟩
abbrev cX5_nextPlan : ByteArray := prog_7_method_65_code
def yX5_nextPlan : MethodName := ⟨RX5, "nextPlan", "()Z"⟩
abbrev cX5_can : ByteArray := prog_7_method_66_code
def yX5_can : MethodName := ⟨RX5, "can", "()I"⟩
abbrev cX5_noPlan : ByteArray := prog_7_method_67_code
def yX5_noPlan : MethodName := ⟨RX5, "noPlan", "(I)I"⟩
abbrev cX5_play : ByteArray := prog_7_method_68_code
def yX5_play : MethodName := ⟨RX5, "play", "(I)I"⟩
abbrev cX5_best : ByteArray := prog_7_method_69_code
def yX5_best : MethodName := ⟨RX5, "best", "(I)I"⟩
abbrev cX5_least : ByteArray := prog_7_method_70_code
def yX5_least : MethodName := ⟨RX5, "least", "()I"⟩
abbrev cX5_ways : ByteArray := prog_7_method_71_code
def yX5_ways : MethodName := ⟨RX5, "ways", "(I)I"⟩
abbrev cX5_mostCarried : ByteArray := prog_7_method_72_code
def yX5_mostCarried : MethodName := ⟨RX5, "mostCarried", "()I"⟩
abbrev cX5_seats : ByteArray := prog_7_method_73_code
def yX5_seats : MethodName := ⟨RX5, "seats", "()I"⟩
abbrev cX5_seatsOf : ByteArray := prog_7_method_74_code
def yX5_seatsOf : MethodName := ⟨RX5, "seatsOf", "(I)I"⟩
abbrev cX5_beside : ByteArray := prog_7_method_75_code
def yX5_beside : MethodName := ⟨RX5, "beside", "()I"⟩
abbrev cX5_apart : ByteArray := prog_7_method_76_code
def yX5_apart : MethodName := ⟨RX5, "apart", "()I"⟩
abbrev cX5_noNotices : ByteArray := prog_7_method_77_code
def yX5_noNotices : MethodName := ⟨RX5, "noNotices", "(I)I"⟩
abbrev cX5_isNoticed : ByteArray := prog_7_method_78_code
def yX5_isNoticed : MethodName := ⟨RX5, "isNoticed", "(IIIII)Z"⟩
abbrev cX5_frights : ByteArray := prog_7_method_79_code
def yX5_frights : MethodName := ⟨RX5, "frights", "(II)I"⟩
abbrev cX5_kinds : ByteArray := prog_7_method_80_code
def yX5_kinds : MethodName := ⟨RX5, "kinds", "(II)I"⟩
abbrev cX5_whom : ByteArray := prog_7_method_81_code
def yX5_whom : MethodName := ⟨RX5, "whom", "(I)I"⟩
abbrev cX5_beginTurn : ByteArray := prog_7_method_82_code
def yX5_beginTurn : MethodName := ⟨RX5, "beginTurn", "(I)V"⟩
abbrev cX5_take : ByteArray := prog_7_method_83_code
def yX5_take : MethodName := ⟨RX5, "take", "(II)V"⟩
abbrev cX5_duel : ByteArray := prog_7_method_84_code
def yX5_duel : MethodName := ⟨RX5, "duel", "(I)I"⟩
abbrev cX5_divisor : ByteArray := prog_7_method_85_code
def yX5_divisor : MethodName := ⟨RX5, "divisor", "(JJ)J"⟩
abbrev cX5_tellParts : ByteArray := prog_7_method_86_code
def yX5_tellParts : MethodName := ⟨RX5, "tellParts", "(JJ)I"⟩
abbrev cX5_isDrawn : ByteArray := prog_7_method_87_code
def yX5_isDrawn : MethodName := ⟨RX5, "isDrawn", "()Z"⟩
abbrev cX5_odds : ByteArray := prog_7_method_88_code
def yX5_odds : MethodName := ⟨RX5, "odds", "(I)I"⟩
abbrev cX5_mid : ByteArray := prog_7_method_89_code
def yX5_mid : MethodName := ⟨RX5, "mid", "()I"⟩
abbrev cX5_nth : ByteArray := prog_7_method_90_code
def yX5_nth : MethodName := ⟨RX5, "nth", "(II)I"⟩
abbrev cX5_lots : ByteArray := prog_7_method_91_code
def yX5_lots : MethodName := ⟨RX5, "lots", "(I)I"⟩
abbrev cX5_asked : ByteArray := prog_7_method_92_code
def yX5_asked : MethodName := ⟨RX5, "asked", "()I"⟩
abbrev cX5_upper : ByteArray := prog_7_method_93_code
def yX5_upper : MethodName := ⟨RX5, "upper", "()J"⟩
abbrev cX5_lower : ByteArray := prog_7_method_94_code
def yX5_lower : MethodName := ⟨RX5, "lower", "()J"⟩
abbrev cX5_clerks : ByteArray := prog_7_method_95_code
def yX5_clerks : MethodName := ⟨RX5, "clerks", "()I"⟩
abbrev cX5_thereOf : ByteArray := prog_7_method_96_code
def yX5_thereOf : MethodName := ⟨RX5, "thereOf", "(I)I"⟩
abbrev cX5_countOf : ByteArray := prog_7_method_97_code
def yX5_countOf : MethodName := ⟨RX5, "countOf", "(I)I"⟩
abbrev cX5_count : ByteArray := prog_7_method_98_code
def yX5_count : MethodName := ⟨RX5, "count", "(I)I"⟩
abbrev cX5_applause : ByteArray := prog_7_method_99_code
def yX5_applause : MethodName := ⟨RX5, "applause", "()I"⟩
abbrev cX5_finding : ByteArray := prog_7_method_100_code
def yX5_finding : MethodName := ⟨RX5, "finding", "()I"⟩
abbrev cX5_findings : ByteArray := prog_7_method_101_code
def yX5_findings : MethodName := ⟨RX5, "findings", "(I)I"⟩
abbrev cX5_digest : ByteArray := prog_7_method_102_code
def yX5_digest : MethodName := ⟨RX5, "digest", "()J"⟩
def RJ6 : String := "java/lang/Integer"
def TJ6 : u_T := fun k => match k with
  | _ => ("", "", "", false)
def tyJ6 : Nat → FieldType := fun k => match k with
  | _ => .int
abbrev wsJ60 : List Cond := u_ws RJ6 TJ6 0
theorem nmJ6 : ∀ a, a < 0 → ∀ b, b < 0 → a ≠ b → (TJ6 a).2.1 ≠ (TJ6 b).2.1 := by decide +kernel
theorem tyJ6_ok : ∀ k, k < 0 → parseFieldDescriptor (TJ6 k).2.2.1 = some (tyJ6 k) := by decide +kernel
abbrev cJ6_bitCount_0f7a4 : ByteArray := prog_8_method_49_code
def yJ6_bitCount_0f7a4 : MethodName := ⟨RJ6, "bitCount", "(I)I"⟩
def RJ9 : String := "java/lang/Math"
def TJ9 : u_T := fun k => match k with
  | _ => ("", "", "", false)
def tyJ9 : Nat → FieldType := fun k => match k with
  | _ => .int
abbrev wsJ90 : List Cond := u_ws RJ9 TJ9 0
theorem nmJ9 : ∀ a, a < 0 → ∀ b, b < 0 → a ≠ b → (TJ9 a).2.1 ≠ (TJ9 b).2.1 := by decide +kernel
theorem tyJ9_ok : ∀ k, k < 0 → parseFieldDescriptor (TJ9 k).2.2.1 = some (tyJ9 k) := by decide +kernel
abbrev cJ9_floorMod_7cf53 : ByteArray := prog_9_method_50_code
def yJ9_floorMod_7cf53 : MethodName := ⟨RJ9, "floorMod", "(II)I"⟩
abbrev cJ9_abs_067f4 : ByteArray := prog_9_method_61_code
def yJ9_abs_067f4 : MethodName := ⟨RJ9, "abs", "(J)J"⟩
abbrev cJ9_max_7cf53 : ByteArray := prog_9_method_65_code
def yJ9_max_7cf53 : MethodName := ⟨RJ9, "max", "(II)I"⟩
abbrev cJ9_min_7cf53 : ByteArray := prog_9_method_69_code
def yJ9_min_7cf53 : MethodName := ⟨RJ9, "min", "(II)I"⟩
def RJ10 : String := "java/lang/System"
def TJ10 : u_T := fun k => match k with
  | _ => ("", "", "", false)
def tyJ10 : Nat → FieldType := fun k => match k with
  | _ => .int
abbrev wsJ100 : List Cond := u_ws RJ10 TJ10 0
theorem nmJ10 : ∀ a, a < 0 → ∀ b, b < 0 → a ≠ b → (TJ10 a).2.1 ≠ (TJ10 b).2.1 := by decide +kernel
theorem tyJ10_ok : ∀ k, k < 0 → parseFieldDescriptor (TJ10 k).2.2.1 = some (tyJ10 k) := by decide +kernel
def RJ7 : String := "java/util/Arrays"
def TJ7 : u_T := fun k => match k with
  | _ => ("", "", "", false)
def tyJ7 : Nat → FieldType := fun k => match k with
  | _ => .int
abbrev wsJ70 : List Cond := u_ws RJ7 TJ7 0
theorem nmJ7 : ∀ a, a < 0 → ∀ b, b < 0 → a ≠ b → (TJ7 a).2.1 ≠ (TJ7 b).2.1 := by decide +kernel
theorem tyJ7_ok : ∀ k, k < 0 → parseFieldDescriptor (TJ7 k).2.2.1 = some (tyJ7 k) := by decide +kernel
abbrev cJ7_fill_53178 : ByteArray := prog_11_method_103_code
def yJ7_fill_53178 : MethodName := ⟨RJ7, "fill", "([II)V"⟩
def RL : String := "CalledStallsLaw"
abbrev cL_law : ByteArray := code
def yL_law : MethodName := ⟨RL, "law", "([I)Z"⟩
theorem inJ6 : ∀ w ∈ wsJ60, w ∈ lw_tbl := by decide +kernel
theorem inJ9 : ∀ w ∈ wsJ90, w ∈ lw_tbl := by decide +kernel
theorem inJ10 : ∀ w ∈ wsJ100, w ∈ lw_tbl := by decide +kernel
theorem inJ7 : ∀ w ∈ wsJ70, w ∈ lw_tbl := by decide +kernel
abbrev vwCl : List vw_C := [(RX0, TX0, 10), (RX1, TX1, 10), (RX2, TX2, 16), (RX3, TX3, 2), (RX4, TX4, 12), (RX5, TX5, 33)]

