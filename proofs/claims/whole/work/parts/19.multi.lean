/-! new int[5][4], from the model's own text: one cell of five references, then five cells of four ints, each told to the first as it is made -/
def dm_in (cC : ClassId) : Cell := { cls := cC, slots := Array.replicate 4 (.int 0), vm := .none }
def dm_out (cA : ClassId) (h i : Nat) : Cell := arrV cA 5 (fun j => va_rf (if j < i then some (h + 1 + j) else none))
theorem dm_out0 (cA : ClassId) (h : Nat) : ({ cls := cA, slots := Array.replicate 5 .null, vm := .none } : Cell) = dm_out cA h 0 := by
  rw [arrV_new]
  exact congrArg (arrV cA 5) (funext fun j => by simp [va_rf])
theorem dm_outS (cA : ClassId) (h i : Nat) : (dm_out cA h i).setSlot i (.ref (h + 1 + i)) = dm_out cA h (i + 1) := by
  unfold dm_out
  rw [arrV_store]
  refine congrArg (arrV cA 5) (funext fun j => ?_)
  rcases Nat.lt_trichotomy j i with h1 | h1 | h1
  · simp [updV, h1, Nat.ne_of_lt h1, Nat.lt_succ_of_lt h1]
  · subst h1
    simp [updV, va_rf]
  · have h2 : ¬ j < i := by omega
    have h3 : ¬ j < i + 1 := by omega
    have h4 : j ≠ i := by omega
    simp [updV, h2, h3, h4]
/-- the state with i rows made -/
def dm_st (cA cC : ClassId) (T : State) : Nat → State
  | 0 => T.pushCell (dm_out cA T.heap.size 0)
  | i + 1 => ((dm_st cA cC T i).pushCell (dm_in cC)).setCell T.heap.size (dm_out cA T.heap.size (i + 1))
theorem dm_sz (cA cC : ClassId) (T : State) : ∀ i, (dm_st cA cC T i).heap.size = T.heap.size + 1 + i
  | 0 => by show (T.heap.push _).size = _; rw [Array.size_push]
  | i + 1 => by
    show (((dm_st cA cC T i).heap.push _).setIfInBounds _ _).size = _
    rw [Array.size_setIfInBounds, Array.size_push, dm_sz cA cC T i]
    omega
theorem dm_vm (cA cC : ClassId) (T : State) : ∀ i, (dm_st cA cC T i).vm = T.vm
  | 0 => rfl
  | i + 1 => dm_vm cA cC T i
theorem dm_tj (cA cC : ClassId) (T : State) : ∀ i, (dm_st cA cC T i).topJava? = T.topJava?
  | 0 => rfl
  | i + 1 => dm_tj cA cC T i
theorem dm_used (cA cC : ClassId) (T : State) : ∀ i, (dm_st cA cC T i).slotsUsed = T.slotsUsed + 5 + 4 * i
  | 0 => by show T.slotsUsed + (dm_out cA T.heap.size 0).slots.size = _; rw [dm_out, arrV_size]
  | i + 1 => by
    show (dm_st cA cC T i).slotsUsed + (dm_in cC).slots.size = _
    rw [dm_used cA cC T i, show (dm_in cC).slots.size = 4 from by simp [dm_in]]
    omega
theorem dm_top (cA cC : ClassId) (T : State) (f : JFrame) : ∀ i, dm_st cA cC (T.setTop f) i = (dm_st cA cC T i).setTop f
  | 0 => rfl
  | i + 1 => by
    show ((dm_st cA cC (T.setTop f) i).pushCell _).setCell _ _ = _
    rw [dm_top cA cC T f i]
    rfl
theorem dm_self (cA cC : ClassId) (T : State) : ∀ i, (dm_st cA cC T i).heap[T.heap.size]? = some (dm_out cA T.heap.size i)
  | 0 => by show (T.heap.push _)[T.heap.size]? = _; rw [Array.getElem?_push_size]
  | i + 1 => heapAt_setCell_self _ (by show _ < ((dm_st cA cC T i).heap.push _).size; rw [Array.size_push, dm_sz]; omega)
theorem dm_old (cA cC : ClassId) (T : State) {x : Nat} (hx : x < T.heap.size) : ∀ i, (dm_st cA cC T i).heap[x]? = T.heap[x]?
  | 0 => by show (T.heap.push _)[x]? = _; rw [Array.getElem?_push, if_neg (Nat.ne_of_lt hx)]
  | i + 1 => by
    show (((dm_st cA cC T i).heap.push _).setIfInBounds _ _)[x]? = _
    rw [Array.getElem?_setIfInBounds_ne (by omega), Array.getElem?_push, if_neg (by rw [dm_sz]; omega)]
    exact dm_old cA cC T hx i
theorem dm_new (cA cC : ClassId) (T : State) {j : Nat} : ∀ i, j < i → (dm_st cA cC T i).heap[T.heap.size + 1 + j]? = some (dm_in cC)
  | 0, h => absurd h (Nat.not_lt_zero _)
  | i + 1, h => by
    show (((dm_st cA cC T i).heap.push _).setIfInBounds _ _)[T.heap.size + 1 + j]? = _
    rw [Array.getElem?_setIfInBounds_ne (by omega), Array.getElem?_push, dm_sz]
    by_cases hj : j = i
    · subst hj
      rw [if_pos rfl]
    · rw [if_neg (by omega)]
      exact dm_new cA cC T i (by omega)
section DMW
variable {E : CtlPost} {e : Env} {d : Bool} {acts : List Action} {s : State} {cA cC cc : ClassId} {kA kC : Class}
theorem dm_make1 {Q : Addr → Pre} (hk : s.vm.classes[cC]? = some kC) (hkind : kC.kind = .array cc .int) (hl : 5 ≤ e.platform.arrayLengthLimit) (hh : 20 ≤ e.platform.maxHeapBytes) (hcells : s.heap.size < e.platform.maxCells) (hslots : s.slotsUsed + 4 ≤ e.platform.maxSlots) (hq : ∀ acts', Q s.heap.size d acts' (s.pushCell (dm_in cC))) : wp (multianewarray.make cC [4]) Q E e d acts s := by
  have e4 : (4 : Int32).toNatClampNeg = 4 := by decide
  simp only [multianewarray.make, wp_bind', W.ite, show ¬ ((4 : Int32) < 0) by decide, if_false, wp_pure', W.theClass, hk, Option.some.injEq, exists_eq_left', hkind, e4]
  exact W.newArray_of hk hkind (by omega) (by show ¬ 4 * 4 > _; omega) hcells hslots rfl hq
theorem dm_loop {Q : PUnit → Pre} (hkA : s.vm.classes[cA]? = some kA) (hkindA : kA.kind = .array cC (.array .int)) (hkC : s.vm.classes[cC]? = some kC) (hkindC : kC.kind = .array cc .int) (hl : 5 ≤ e.platform.arrayLengthLimit) (hh : 20 ≤ e.platform.maxHeapBytes) (hcells : s.heap.size + 6 ≤ e.platform.maxCells) (hslots : s.slotsUsed + 25 ≤ e.platform.maxSlots)
    {f : Nat → PUnit → Sem (ForInStep PUnit)} (hf : ∀ i r, f i r = (do let x ← multianewarray.make cC [4]; Jvm.writeLoc s.heap.size i (.ref x); Pure.pure (.yield ⟨⟩)))
    (hq : ∀ d' acts', Q ⟨⟩ d' acts' (dm_st cA cC s 5)) : ∀ (n i : Nat), i + n = 5 → ∀ d acts, wp (forIn (List.range' i n) ⟨⟩ f) Q E e d acts (dm_st cA cC s i)
  | 0, i, h, d, acts => by
    obtain rfl : i = 5 := by omega
    simp only [List.range'_zero, List.forIn_nil, wp_pure']
    exact hq d acts
  | n + 1, i, h, d, acts => by
    simp only [List.range'_succ, List.forIn_cons, wp_bind', hf]
    refine dm_make1 (by rw [dm_vm]; exact hkC) hkindC hl hh (by rw [dm_sz]; omega) (by rw [dm_used]; omega) (fun acts' => ?_)
    simp only [wp_bind', wp_pure', W.writeLoc]
    refine ⟨dm_out cA s.heap.size i, ?_, ?_, ?_, ?_, ?_⟩
    · show ((dm_st cA cC s i).heap.push _)[s.heap.size]? = _
      rw [Array.getElem?_push, if_neg (by rw [dm_sz]; omega)]
      exact dm_self cA cC s i
    · intro h9
      cases h9
    · rw [dm_out, arrV_size]
      omega
    · show State.fitsSlot (dm_st cA cC s i) cA .none i (.ref _) = true
      have hv : (dm_st cA cC s i).vm.classes[cA]? = some kA := by rw [dm_vm]; exact hkA
      simp [State.fitsSlot, State.slotType?, hv, hkindA, fits]
    · rw [dm_sz, dm_outS]
      exact dm_loop hkA hkindA hkC hkindC hl hh hcells hslots hf hq n (i + 1) (by omega) _ _
theorem dm_make2 {Q : Addr → Pre} (hkA : s.vm.classes[cA]? = some kA) (hkindA : kA.kind = .array cC (.array .int)) (hkC : s.vm.classes[cC]? = some kC) (hkindC : kC.kind = .array cc .int) (hl : 5 ≤ e.platform.arrayLengthLimit) (hh : 20 ≤ e.platform.maxHeapBytes) (hcells : s.heap.size + 6 ≤ e.platform.maxCells) (hslots : s.slotsUsed + 25 ≤ e.platform.maxSlots)
    (hq : ∀ d' acts', Q s.heap.size d' acts' (dm_st cA cC s 5)) : wp (multianewarray.make cA [5, 4]) Q E e d acts s := by
  have e5 : (5 : Int32).toNatClampNeg = 5 := by decide
  rw [multianewarray.make]
  simp only [wp_bind', W.ite, show ¬ ((5 : Int32) < 0) by decide, if_false, wp_pure', W.theClass, hkA, Option.some.injEq, exists_eq_left', hkindA, e5]
  refine W.newArray_of hkA hkindA (by omega) (by show ¬ 5 * 4 > _; omega) (by omega) (by omega) rfl (fun acts' => ?_)
  rw [dm_out0 cA s.heap.size]
  simp only [show ((5 : Int32) == 0) = false by decide, Bool.false_eq_true, if_false, wp_bind', wp_pure', Std.Legacy.Range.forIn_eq_forIn_range']
  exact dm_loop hkA hkindA hkC hkindC hl hh hcells hslots (fun i r => rfl) (Q := fun _ => Q s.heap.size) hq 5 0 rfl _ _
theorem dm_sem {f : JFrame} {index : Nat} {rest : List Value} {Q : Unit → Pre} (hs : s.topJava?.isSome) (hr : s.vm.classReady f.method.cls index cA) (hkA : s.vm.classes[cA]? = some kA) (hkindA : kA.kind = .array cC (.array .int)) (hkC : s.vm.classes[cC]? = some kC) (hkindC : kC.kind = .array cc .int) (hl : 5 ≤ e.platform.arrayLengthLimit) (hh : 20 ≤ e.platform.maxHeapBytes) (hcells : s.heap.size + 6 ≤ e.platform.maxCells) (hslots : s.slotsUsed + 25 ≤ e.platform.maxSlots) (hstack : f.stack = .int 4 :: .int 5 :: rest)
    (hq : ∀ d' acts', Q () d' acts' ((dm_st cA cC s 5).setTop { f with stack := .ref s.heap.size :: rest })) : wp (multianewarray.sem index 2) Q E e d acts (s.setTop f) := by
  simp only [multianewarray.sem, wp_bind', W.resolveClassAt_ready (State.method?_setTop f hs) hr]
  refine (popN_top (args := [.int 5, .int 4]) (rest := rest) hs (by rw [hstack]; rfl)).mpr ?_
  simp only [List.mapM_cons, List.mapM_nil, wp_bind', wp_pure']
  refine dm_make2 (s := s.setTop { f with stack := rest }) hkA hkindA hkC hkindC hl hh hcells hslots (fun d' acts' => ?_)
  rw [dm_top]
  simp only [wp_bind', W.mark, W.pushRef, State.heap_setTop]
  refine ⟨{ f with stack := rest }, State.topJava?_setTop' _ (by rw [dm_tj]; exact hs), ?_⟩
  · rw [State.setTop_setTop]
    exact hq true acts'
end DMW
/-- what the tables say of int[][]: its class, and its rows' -/
def dm_K (U : State) : Prop := ∃ (cA cC cc : ClassId) (kA kC : Class), U.vm.findClass "[[I" = some cA ∧ U.vm.classes[cA]? = some kA ∧ kA.kind = .array cC (.array .int) ∧ U.vm.findClass "[I" = some cC ∧ U.vm.classes[cC]? = some kC ∧ kC.kind = .array cc .int
theorem dm_K.moved {u U : State} (h : u.vm.Alike U.vm) (hK : dm_K u) : dm_K U := by
  obtain ⟨cA, cC, cc, kA, kC, h1, h2, h3, h4, h5, h6⟩ := hK
  obtain ⟨kA', a1, a2⟩ := h.2.2 _ _ h2
  obtain ⟨kC', b1, b2⟩ := h.2.2 _ _ h5
  exact ⟨cA, cC, cc, kA', kC', by rw [h.findClass]; exact h1, a1, by rw [a2]; exact h3, by rw [h.findClass]; exact h4, b1, by rw [b2]; exact h6⟩
theorem dm_K.of {U : State} {A B : Array Value} (ho : (Cond.arrayOver (.array .int)).before A U = true) (ha : (Cond.arrayClass .int).before B U = true) : dm_K U := by
  obtain ⟨cC, kC, cc, c1, c2, c3⟩ := Cond.arrayClass_spec ha
  have c1' : U.vm.findClass (FieldType.array .int).toString = some cC := c1
  simp only [Cond.before, Cond.holds, Cond.value, c1', Option.bind_some, beq_iff_eq] at ho
  obtain ⟨cA, hi, h⟩ := Option.bind_eq_some_iff.mp ho
  obtain ⟨kA, hk, hb⟩ := Option.map_eq_some_iff.mp h
  obtain ⟨hlt, hp, -⟩ := Array.findIdx?_eq_some_iff_getElem.mp hi
  rw [(Array.getElem?_eq_some_iff.mp hk).2] at hp
  cases hkk : kA.kind with
  | array comp ty =>
    rw [hkk] at hp hb
    simp only [beq_iff_eq] at hp
    simp only [Bool.and_eq_true, decide_eq_true_eq] at hb
    exact ⟨cA, cC, cc, kA, kC, hb.2, hk, by rw [hkk, hp, hb.1], c1, c2, c3⟩
  | _ => rw [hkk] at hb; exact absurd hb Bool.false_ne_true
section DML
variable {p : Program} {l : Launch} {e : Env} {R : Room} {s : State} {m : MethodId} {args : Array Value} {below : List Frame} {meth : Method} {c : Code} {T : State} {locs : List Loc} {cells slots : Nat}
theorem dm_stand (X : Stand p l e R s m args below meth c T locs cells slots) (cA cC : ClassId) : ∀ i, Stand p l e R s m args below meth c (dm_st cA cC T i) locs (cells + 1 + i) (slots + 5 + 4 * i)
  | 0 => by
    have h := X.pushed (dm_out cA T.heap.size 0)
    rw [show (dm_out cA T.heap.size 0).slots.size = 5 from arrV_size _ _ _] at h
    exact h
  | i + 1 => by
    have h := (dm_stand X cA cC i).pushed (dm_in cC)
    rw [show (dm_in cC).slots.size = 4 from by simp [dm_in]] at h
    have hc : ((dm_st cA cC T i).pushCell (dm_in cC)).heap[T.heap.size]? = some (dm_out cA T.heap.size i) := by
      show ((dm_st cA cC T i).heap.push _)[T.heap.size]? = _
      rw [Array.getElem?_push, if_neg (by rw [dm_sz]; omega)]
      exact dm_self cA cC T i
    have h2 := h.stored hc i (.ref (T.heap.size + 1 + i))
    rw [dm_outS] at h2
    have hge : s.heap.size ≤ T.heap.size := X.same.2.1
    exact h2.forget (fun y hy => by
      obtain rfl := List.mem_singleton.mp hy
      exact hge)
theorem dm_law (X : Stand p l e R s m args below meth c T locs cells slots) (hexec : p.tables.exec = Jvm.exec) {own : String} {index : Nat} (hown : s.vm.findClass own = some m.cls) (hclink : (Cond.classLink own index "[[I").before args s = true) (hK : dm_K s)
    {g : JFrame} (hg : g.method = m) (hdg : decode c.code g.pc = .ok (.multianewarray index 2, 4)) {rest : List Value} (hstack : g.stack = .int 4 :: .int 5 :: rest) (hcells : cells + 6 ≤ R.cells) (hslots : slots + 25 ≤ R.slots) :
    ∃ (vm₁ : Vm) (cA cC : ClassId), s.vm.findClass "[[I" = some cA ∧ s.vm.findClass "[I" = some cC ∧ Stand p l e R s m args below meth c (dm_st cA cC (T.setVm vm₁) 5) locs (cells + 1 + 5) (slots + 5 + 4 * 5) ∧
      ∀ target, Steps p.tables e below ((dm_st cA cC (T.setVm vm₁) 5).setTop { g with pc := g.pc + 4, stack := .ref T.heap.size :: rest }) target → Steps p.tables e below (T.setTop g) target := by
  subst hg
  have hpl : e.platform.magicAccessors = ({} : Platform).magicAccessors := by rw [X.admits.platform]
  obtain ⟨c0, hc0, hcl⟩ := Cond.classLink_spec hown hclink e.platform hpl
  obtain ⟨hg₁, hwarm₁, hready₁⟩ := State.classEntry (e := e) X.warmed hcl
  generalize T.vm.noted g.method.cls index (.cls c0) = vm₁ at hg₁ hwarm₁ hready₁
  have hal : s.vm.Alike vm₁ := hwarm₁.alike
  obtain ⟨cA, cC, cc, kA, kC, h1, h2, h3, h4, h5, h6⟩ := hK
  obtain rfl : c0 = cA := Option.some.inj (hc0.symm.trans h1)
  obtain ⟨kA', a1, a2⟩ := hal.2.2 _ _ h2
  obtain ⟨kC', b1, b2⟩ := hal.2.2 _ _ h5
  have hl : 5 ≤ e.platform.arrayLengthLimit := by rw [Launch.admits_arrayLengthLimit X.admits]; omega
  have hh : 20 ≤ e.platform.maxHeapBytes := by rw [Launch.admits_maxHeapBytes X.admits]; omega
  obtain ⟨hr1, hr2⟩ := X.roomAbove hcells hslots
  refine ⟨vm₁, c0, cC, h1, h4, dm_stand (X.noted hwarm₁) c0 cC 5, fun target hrest => ?_⟩
  refine Steps.instr (c := c) (by simpa using X.here) ?_
  rw [hdg, hexec]
  show wp (multianewarray.sem index 2) _ _ e false [] (T.setTop g)
  simp only [multianewarray.sem, wp_bind']
  refine (W.resolveClassAt_transfer (s := T.setTop g) (State.method?_setTop g X.here.top) hg₁ hready₁).mpr ?_
  have hsem := dm_sem (E := fun x acts s₁ => ∀ acts, Steps p.tables e below (afterInstr e 4 (.ctl x s₁ acts)).1 target) (d := false) (acts := []) (s := T.setVm vm₁) (f := g) (index := index) (Q := fun _ _ _ s₁ => ∀ acts, Steps p.tables e below (afterInstr e 4 (.ok () s₁ acts)).1 target) X.here.top hready₁ a1 (by rw [a2]; exact h3) b1 (by rw [b2]; exact h6) hl hh hr1 hr2 hstack (fun d' acts' acts => by
    rw [afterInstr_ok]
    exact hrest)
  simp only [multianewarray.sem, wp_bind'] at hsem
  exact hsem
end DML
