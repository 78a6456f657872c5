/-! CONSTRUCTORS: cells one behind another, from the heap's end on -/
abbrev y_n (G : zG) : Nat := G.2.2.2.1.size
def y_W (G : zG) (es : List va_E) (H : Heap) (locs : List Loc) : Prop := (∀ (i : Nat) (x : va_E), es[i]? = some x → va_at G.2.1 vwCl (y_n G + i, x) H) ∧ va_S (z_A G) G.2.2.2.1 H locs ∧ H.size = y_n G + es.length
def y_ws (G : zG) (es : List va_E) : va_W := es.mapIdx (fun i x => (y_n G + i, x))
theorem y_at {G : zG} {es : List va_E} {i : Nat} {x : va_E} (h : es[i]? = some x) : (y_ws G es)[i]? = some (y_n G + i, x) := by
  unfold y_ws
  rw [List.getElem?_mapIdx, h]
  rfl
theorem y_back {G : zG} {es : List va_E} {i : Nat} {q : Nat × va_E} (h : (y_ws G es)[i]? = some q) : q.1 = y_n G + i ∧ es[i]? = some q.2 := by
  unfold y_ws at h
  rw [List.getElem?_mapIdx] at h
  cases hx : es[i]? with
  | none => rw [hx] at h; cases h
  | some x => rw [hx] at h; cases h; exact ⟨rfl, rfl⟩
theorem y_P {G : zG} {es : List va_E} {H : Heap} {locs : List Loc} (hw : y_W G es H locs) : va_P G.2.1 vwCl (y_ws G es) H := fun k q h => by
  obtain ⟨h1, h2⟩ := y_back h
  have h3 := hw.1 k q.2 h2
  rw [← h1] at h3
  exact h3
theorem y_D (G : zG) (es : List va_E) : va_D (z_A G) (y_ws G es) := ⟨fun i j a b hi hj hab => by
  have h1 := (y_back hi).1
  have h2 := (y_back hj).1
  omega, fun k q h => by
  have h1 := (y_back h).1
  show y_n G ≤ q.1
  omega⟩
theorem y_ofP {G : zG} {es : List va_E} {H : Heap} {locs : List Loc} {i : Nat} {x : va_E} (hi : i < es.length) (hP : va_P G.2.1 vwCl ((y_ws G es).set i (y_n G + i, x)) H) (hS : va_S (z_A G) G.2.2.2.1 H locs) (hz : H.size = y_n G + es.length) : y_W G (es.set i x) H locs := by
  refine ⟨fun j z h => ?_, hS, by rw [List.length_set]; exact hz⟩
  by_cases e : i = j
  · subst e
    rw [List.getElem?_set_self hi] at h
    cases h
    exact hP i _ (List.getElem?_set_self (by unfold y_ws; rw [List.length_mapIdx]; exact hi))
  · rw [List.getElem?_set_ne e] at h
    exact hP j (y_n G + j, z) (by rw [List.getElem?_set_ne e]; exact y_at h)
/-- what anewarray and multianewarray ask -/
def y_K (U : State) : Prop := va_AO "DrinkingRoofs$House" U ∧ va_AO "DrinkingRoofs$Storm" U ∧ dm_K U
theorem y_K.moved {u U : State} (h : u.vm.Alike U.vm) (k : y_K u) : y_K U := ⟨va_AO.moved h k.1, va_AO.moved h k.2.1, dm_K.moved h k.2.2⟩
def y_rm (n mc ms : Nat) : Room := { frames := n + 1, cells := mc, slots := ms, locals := 40 * (n + 1) }
/-- THE WORLD IN A CONSTRUCTOR: of what was there a alone may change; then what is new -/
def y_x (es : List va_E) (a : Nat) (x : va_E) (ns : List va_E) : List va_E := es.set a x ++ ns
theorem y_xl {es : List va_E} {a : Nat} {x : va_E} {ns : List va_E} : (y_x es a x ns).length = es.length + ns.length := by unfold y_x; rw [List.length_append, List.length_set]
theorem y_x0 {es : List va_E} {a : Nat} {x : va_E} (h : es[a]? = some x) : y_x es a x [] = es := by
  unfold y_x
  rw [List.append_nil]
  apply List.ext_getElem?
  intro i
  by_cases e : a = i
  · subst e
    rw [List.getElem?_set_self (List.getElem?_eq_some_iff.mp h).1, h]
  · rw [List.getElem?_set_ne e]
theorem y_xa {es : List va_E} {a : Nat} {x : va_E} {ns : List va_E} (ha : a < es.length) : (y_x es a x ns)[a]? = some x := by
  unfold y_x
  rw [List.getElem?_append_left (by rw [List.length_set]; exact ha), List.getElem?_set_self ha]
theorem y_xn {es : List va_E} {a : Nat} {x : va_E} {ns : List va_E} (j : Nat) : (y_x es a x ns)[es.length + j]? = ns[j]? := by
  unfold y_x
  rw [List.getElem?_append_right (by rw [List.length_set]; omega), List.length_set]
  congr 1
  omega
theorem y_xsa {es : List va_E} {a : Nat} {x z : va_E} {ns : List va_E} (ha : a < es.length) : (y_x es a x ns).set a z = y_x es a z ns := by
  unfold y_x
  rw [List.set_append_left _ _ (by rw [List.length_set]; exact ha), List.set_set]
theorem y_xsn {es : List va_E} {a : Nat} {x z : va_E} {ns : List va_E} (j : Nat) : (y_x es a x ns).set (es.length + j) z = y_x es a x (ns.set j z) := by
  unfold y_x
  rw [List.set_append_right _ _ (by rw [List.length_set]; omega), List.length_set, show es.length + j - es.length = j by omega]
theorem y_xap {es : List va_E} {a : Nat} {x : va_E} {ns zs : List va_E} : y_x es a x ns ++ zs = y_x es a x (ns ++ zs) := by unfold y_x; rw [List.append_assoc]
/-- a constructor's contract -/
def y_T (l : Launch) (G : zG) (n : Nat) (y : MethodName) (c0 : Cond) (es : List va_E) (a : Nat) (x' : va_E) (ns : List va_E) (mc ms : Nat) : Prop :=
  Met l y (c0 :: z_om) (y_rm n mc ms) (fun v U => v = #[Value.ref (y_n G + a)] ∧ (z_K G U ∧ y_K U) ∧ y_W G es U.heap []) (fun _ _ oc t => oc = .returned none ∧ y_W G (y_x es a x' ns) t.heap []) mc ms (z_A G)
section YR
variable {G : zG} {p : Program} {l : Launch} {e : Env} {R : Room} {s : State} {m : MethodId} {args : Array Value} {below : List Frame} {meth : Method} {c : Code} {H : Heap} {locs : List Loc} {cells slots : Nat} {Q : State → Prop}
variable {cc : ByteArray} {nL : Nat} {own : String} {rt : Option FieldType} {pc : Nat} {ls : Array Slot} {rest : List Value} {es ns : List va_E} {a : Nat} {x : va_E}
theorem y_new0 (X : z_C G p s m args meth c cc nL own rt) (hw : y_W G es H locs) {ci N : Nat} {C : String} {T : u_T} (hc : vwCl[ci]? = some (C, T, N)) (hin : ∀ w ∈ u_ws C T N, w ∈ z_om) (ty : Nat → FieldType) (hty : ∀ k, k < N → parseFieldDescriptor (T k).2.2.1 = some (ty k)) {index : Nat} (hcl : Cond.classLink own index C ∈ z_om) (hinst : Cond.instantiable C N ∈ z_om) (hini : Cond.initialized C ∈ z_om) {fs : List Value} (hfs : ∀ j, j < N → defaultValue (ty j) = vp_V fs j) (hcells : cells + 1 ≤ R.cells) (hslots : slots + N ≤ R.slots) (hdg : decode cc pc = .ok (.new index, 3))
    (kk : ∀ H1 : Heap, y_W G (es ++ [.inr (ci, fs)]) H1 locs → W p l e R s m args below meth c H1 locs (cells + 1) (slots + N) Q (F0 m (pc + 3) ls (.ref (y_n G + es.length) :: rest))) : W p l e R s m args below meth c H locs cells slots Q (F0 m pc ls rest) := by
  obtain ⟨hx, hb, -, hown, hts, -, -, hK⟩ := X
  have hKn := hK.1.1 ci _ hc
  refine W.newcK hx hb hown (hts _ hcl) (hts _ hinst) (hts _ hini) rfl hdg hcells hslots hKn.2.1 hw.2.2 fun H1 kC hkC e1 z1 o1 => ?_
  refine kk H1 ⟨fun i z h => ?_, ⟨by have hg : G.2.2.2.1.size = y_n G := rfl; have := hw.2.1.1; omega, fun q h1 h2 => (o1 q (by have hg : G.2.2.2.1.size = y_n G := rfl; have := hw.2.2; have := hw.2.1.1; omega)).trans (hw.2.1.2.1 q h1 h2), hw.2.1.2.2⟩, by rw [List.length_append]; show H1.size = y_n G + (es.length + 1); omega⟩
  by_cases hi : i < es.length
  · rw [List.getElem?_append_left hi] at h
    exact (hw.1 i z h).kept (o1 _ (by omega))
  · rw [List.getElem?_append_right (by omega)] at h
    have hz : i - es.length < 1 := (List.getElem?_eq_some_iff.mp h).1
    rw [show i - es.length = 0 by omega] at h
    cases h
    have : i = es.length := by omega
    subst this
    exact ⟨_, hc, (u_born ty hts hin hKn hkC e1 hty).to hfs⟩
theorem y_newa0 (X : z_C G p s m args meth c cc nL own rt) (hw : y_W G es H locs) {atype : ArrayType} {ty : FieldType} (hty : newarray.typeOf atype = ty) (harr : Cond.arrayClass ty ∈ z_om) {k : Nat} (hk : va_RA s (G.2.2.1 k) ty) {n : Int32} {N : Nat} {a0 : vp_A} (ha : ∀ cA : ClassId, vp_cell cA a0 = arrV cA N (fun _ => defaultValue ty)) (hn : ¬ n < 0) (hN : n.toNatClampNeg = N) (hbytes : N * componentBytes ty ≤ 536870912) (hcells : cells + 1 ≤ R.cells) (hslots : slots + N ≤ R.slots) (hdg : decode cc pc = .ok (.newarray atype, 2)) (hre : va_RA s (G.2.2.1 k) ty → s.vm.findClass ("[" ++ ty.toString) = some (G.2.2.1 k))
    (kk : ∀ H1 : Heap, y_W G (es ++ [.inl (G.2.2.1 k, a0)]) H1 locs → W p l e R s m args below meth c H1 locs (cells + 1) (slots + N) Q (F0 m (pc + 2) ls (.ref (y_n G + es.length) :: rest))) : W p l e R s m args below meth c H locs cells slots Q (F0 m pc ls (.int n :: rest)) := by
  subst hty
  refine va_newaK X.1 X.2.1 (X.2.2.2.2.1 _ harr) rfl hdg rfl hn hN hbytes hcells hslots hw.2.2 fun H1 cA e1 z1 o1 hAr hNm => ?_
  have hcA : cA = G.2.2.1 k := Option.some.inj (hNm.symm.trans (hre hk))
  subst hcA
  refine kk H1 ⟨fun i z h => ?_, ⟨by have hg : G.2.2.2.1.size = y_n G := rfl; have := hw.2.1.1; omega, fun q h1 h2 => (o1 q (by have hg : G.2.2.2.1.size = y_n G := rfl; have := hw.2.2; have := hw.2.1.1; omega)).trans (hw.2.1.2.1 q h1 h2), hw.2.1.2.2⟩, by rw [List.length_append]; show H1.size = y_n G + (es.length + 1); omega⟩
  by_cases hi : i < es.length
  · rw [List.getElem?_append_left hi] at h
    exact (hw.1 i z h).kept (o1 _ (by omega))
  · rw [List.getElem?_append_right (by omega)] at h
    have hz : i - es.length < 1 := (List.getElem?_eq_some_iff.mp h).1
    rw [show i - es.length = 0 by omega] at h
    cases h
    have : i = es.length := by omega
    subst this
    show H1[y_n G + es.length]? = some (vp_cell _ _)
    rw [ha]
    exact e1
theorem y_newq0 (X : z_C G p s m args meth c cc nL own rt) (hw : y_W G es H locs) {C : String} {index k : Nat} (hcl : Cond.classLink own index C ∈ z_om) (hover : va_AO C s) (hk : va_RA s (G.2.2.1 k) (.object C)) {n : Int32} {N : Nat} (hn : ¬ n < 0) (hN : n.toNatClampNeg = N) (hbytes : N * 4 ≤ 536870912) (hcells : cells + 1 ≤ R.cells) (hslots : slots + N ≤ R.slots) (hdg : decode cc pc = .ok (.anewarray index, 3))
    (kk : ∀ H1 : Heap, y_W G (es ++ [.inl (G.2.2.1 k, N, .inr (.inr (.inr (.inr (fun _ => none)))))]) H1 locs → W p l e R s m args below meth c H1 locs (cells + 1) (slots + N) Q (F0 m (pc + 3) ls (.ref (y_n G + es.length) :: rest))) : W p l e R s m args below meth c H locs cells slots Q (F0 m pc ls (.int n :: rest)) := by
  subst hN
  refine W.anew X.1 X.2.1 X.2.2.2.1 (X.2.2.2.2.1 _ hcl) (va_AO.use hover) rfl hdg rfl hn hbytes hcells hslots fun cA kA comp f1 f2 f3 f4 => ?_
  obtain ⟨kA', comp', g1, g2, g3, g4⟩ := hk
  have hcA : cA = G.2.2.1 k := Option.some.inj (f1.symm.trans g4)
  subst hcA
  generalize hH1 : H.push ({ cls := G.2.2.1 k, slots := Array.replicate n.toNatClampNeg .null, vm := .none } : Cell) = H1
  have z1 : H1.size = H.size + 1 := by rw [← hH1, Array.size_push]
  have e1 : H1[H.size]? = some (arrV (G.2.2.1 k) n.toNatClampNeg (fun _ => .null)) := by rw [← hH1, Array.getElem?_push_size, ← arrV_new]
  have o1 : ∀ q : Nat, q < H.size → H1[q]? = H[q]? := fun q hq => by rw [← hH1, Array.getElem?_push, if_neg (Nat.ne_of_lt hq)]
  rw [show H.size = y_n G + es.length from hw.2.2]
  refine kk H1 ⟨fun i z h => ?_, ⟨by have hg : G.2.2.2.1.size = y_n G := rfl; have := hw.2.1.1; omega, fun q h1 h2 => (o1 q (by have hg : G.2.2.2.1.size = y_n G := rfl; have := hw.2.2; have := hw.2.1.1; omega)).trans (hw.2.1.2.1 q h1 h2), hw.2.1.2.2⟩, by have := hw.2.2; rw [List.length_append]; show H1.size = y_n G + (es.length + 1); omega⟩
  by_cases hi : i < es.length
  · rw [List.getElem?_append_left hi] at h
    exact (hw.1 i z h).kept (o1 _ (by have hg : G.2.2.2.1.size = y_n G := rfl; have := hw.2.2; have := hw.2.1.1; omega))
  · rw [List.getElem?_append_right (by omega)] at h
    have hz : i - es.length < 1 := (List.getElem?_eq_some_iff.mp h).1
    rw [show i - es.length = 0 by omega] at h
    cases h
    have : i = es.length := by omega
    subst this
    show H1[y_n G + es.length]? = some (vp_cell _ _)
    rw [vp_cell_q, ← hw.2.2]
    exact e1
theorem y_mna0 (X : z_C G p s m args meth c cc nL own rt) (hw : y_W G es H locs) {index : Nat} (hcl : Cond.classLink own index "[[I" ∈ z_om) (hover : dm_K s) (hk : va_RA s (G.2.2.1 18) (.array .int)) (hk2 : va_RA s (G.2.2.1 13) .int) (hcells : cells + (1 + 5) ≤ R.cells) (hslots : slots + (5 + 5 * 4) ≤ R.slots) (hdg : decode cc pc = .ok (.multianewarray index 2, 4))
    (kk : ∀ H1 : Heap, y_W G (es ++ (.inl (G.2.2.1 18, 5, .inr (.inr (.inr (.inr (fun i => if i < 5 then some (y_n G + es.length + 1 + i) else none))))) :: List.replicate 5 (.inl (G.2.2.1 13, 4, .inl (fun _ => 0))))) H1 locs → W p l e R s m args below meth c H1 locs (cells + 1 + 5) (slots + 5 + 5 * 4) Q (F0 m (pc + 4) ls (.ref (y_n G + es.length) :: rest))) : W p l e R s m args below meth c H locs cells slots Q (F0 m pc ls (.int 4 :: .int 5 :: rest)) := by
  intro T hT Xs
  obtain ⟨vm₁, cA, cC, fA, fC, X', step⟩ := dm_law Xs X.1 X.2.2.2.1 (X.2.2.2.2.1 _ hcl) hover (g := F0 m pc ls (.int 4 :: .int 5 :: rest)) rfl (by rw [X.2.1]; exact hdg) rfl (by omega) (by omega)
  have hcA : cA = G.2.2.1 18 := Option.some.inj (fA.symm.trans hk)
  have hco : cC = G.2.2.1 13 := Option.some.inj (fC.symm.trans hk2)
  subst hcA
  subst hco
  have hTh : (T.setVm vm₁).heap = H := hT
  have f1 := dm_sz (G.2.2.1 18) (G.2.2.1 13) (T.setVm vm₁) 5
  have f2 := dm_self (G.2.2.1 18) (G.2.2.1 13) (T.setVm vm₁) 5
  have hold : ∀ x : Nat, x < H.size → (dm_st (G.2.2.1 18) (G.2.2.1 13) (T.setVm vm₁) 5).heap[x]? = H[x]? := fun x hx => by
    rw [dm_old (G.2.2.1 18) (G.2.2.1 13) (T.setVm vm₁) (by rw [hTh]; exact hx) 5, hTh]
  have hrow : ∀ j : Nat, j < 5 → (dm_st (G.2.2.1 18) (G.2.2.1 13) (T.setVm vm₁) 5).heap[H.size + 1 + j]? = some (vp_cell (G.2.2.1 13) (4, .inl (fun _ => 0))) := fun j hj => by
    have h9 := dm_new (G.2.2.1 18) (G.2.2.1 13) (T.setVm vm₁) (j := j) 5 hj
    rw [hTh] at h9
    rw [h9]
    show some (dm_in _) = some (arrV _ 4 (fun _ => .int 0))
    rw [← arrV_new]
    rfl
  rw [hTh] at f1 f2
  generalize dm_st (G.2.2.1 18) (G.2.2.1 13) (T.setVm vm₁) 5 = F at X' step f1 f2 hold hrow
  have hsz := hw.2.2
  have f1' : F.heap.size = H.size + 1 + 5 := by rw [f1]
  obtain ⟨t, a1, b1⟩ := kk F.heap ⟨fun i z h => by
      by_cases hi : i < es.length
      · rw [List.getElem?_append_left hi] at h
        exact (hw.1 i z h).kept (hold _ (by omega))
      · rw [List.getElem?_append_right (by omega)] at h
        have hz : i - es.length < 6 := by have := (List.getElem?_eq_some_iff.mp h).1; simpa using this
        rcases Nat.eq_or_lt_of_le (Nat.not_lt.mp hi) with e0 | hgt
        · subst e0
          rw [Nat.sub_self] at h
          cases h
          show F.heap[y_n G + es.length]? = some (vp_cell _ _)
          rw [← hsz]
          exact f2
        · obtain ⟨j, hj⟩ : ∃ j, i - es.length = j + 1 := ⟨i - es.length - 1, by omega⟩
          rw [hj, List.getElem?_cons_succ, List.getElem?_replicate] at h
          by_cases h5 : j < 5
          · rw [if_pos h5] at h
            cases h
            show F.heap[y_n G + i]? = some (vp_cell _ _)
            rw [show y_n G + i = H.size + 1 + j by omega]
            exact hrow j h5
          · omega, ⟨by have hg : G.2.2.2.1.size = y_n G := rfl; have := hw.2.1.1; omega, fun q h1 h2 => (hold q (by have hg : G.2.2.2.1.size = y_n G := rfl; omega)).trans (hw.2.1.2.1 q h1 h2), hw.2.1.2.2⟩, by rw [f1', List.length_append]; show H.size + 1 + 5 = y_n G + (es.length + 6); omega⟩ F rfl X'
  refine ⟨t, step t ?_, b1⟩
  have e : T.heap.size = y_n G + es.length := by rw [hT]; exact hsz
  rw [e]
  exact a1

/-- the same in a constructor's own world -/
theorem y_new (X : z_C G p s m args meth c cc nL own rt) (hw : y_W G (y_x es a x ns) H locs) {q k : Nat} (hq : q = y_n G + es.length) (hkn : ns.length = k) {ci N : Nat} {C : String} {T : u_T} (hc : vwCl[ci]? = some (C, T, N)) (hin : ∀ w ∈ u_ws C T N, w ∈ z_om) (ty : Nat → FieldType) (hty : ∀ k, k < N → parseFieldDescriptor (T k).2.2.1 = some (ty k)) {index : Nat} (hcl : Cond.classLink own index C ∈ z_om) (hinst : Cond.instantiable C N ∈ z_om) (hini : Cond.initialized C ∈ z_om) {fs : List Value} (hfs : ∀ j, j < N → defaultValue (ty j) = vp_V fs j) (hcells : cells + 1 ≤ R.cells) (hslots : slots + N ≤ R.slots) (hdg : decode cc pc = .ok (.new index, 3))
    (kk : ∀ H1 : Heap, y_W G (y_x es a x (ns ++ [.inr (ci, fs)])) H1 locs → W p l e R s m args below meth c H1 locs (cells + 1) (slots + N) Q (F0 m (pc + 3) ls (.ref (q + k) :: rest))) : W p l e R s m args below meth c H locs cells slots Q (F0 m pc ls rest) := by
  refine y_new0 X hw hc hin ty hty hcl hinst hini hfs hcells hslots hdg (fun H1 h1 => ?_)
  rw [y_xap] at h1
  have e : y_n G + (y_x es a x ns).length = q + k := by rw [y_xl]; omega
  rw [e]
  exact kk H1 h1
theorem y_newi (X : z_C G p s m args meth c cc nL own rt) (hw : y_W G (y_x es a x ns) H locs) {q k : Nat} (hq : q = y_n G + es.length) (hkn : ns.length = k) (harr : Cond.arrayClass .int ∈ z_om) {n : Int32} (N : Nat) (hn : ¬ n < 0) (hN : n.toNatClampNeg = N) (hbytes : N * 4 ≤ 536870912) (hcells : cells + 1 ≤ R.cells) (hslots : slots + N ≤ R.slots) (hdg : decode cc pc = .ok (.newarray .int, 2))
    (kk : ∀ H1 : Heap, y_W G (y_x es a x (ns ++ [.inl (G.2.2.1 13, N, .inl (fun _ => 0))])) H1 locs → W p l e R s m args below meth c H1 locs (cells + 1) (slots + N) Q (F0 m (pc + 2) ls (.ref (q + k) :: rest))) : W p l e R s m args below meth c H locs cells slots Q (F0 m pc ls (.int n :: rest)) := by
  refine y_newa0 (a0 := (N, .inl (fun _ => 0))) X hw (ty := .int) rfl harr (X.2.2.2.2.2.2.2.1.2 1 _ rfl).2 (fun _ => rfl) hn hN hbytes hcells hslots hdg (fun h => h) (fun H1 h1 => ?_)
  rw [y_xap] at h1
  have e : y_n G + (y_x es a x ns).length = q + k := by rw [y_xl]; omega
  rw [e]
  exact kk H1 h1
theorem y_newb (X : z_C G p s m args meth c cc nL own rt) (hw : y_W G (y_x es a x ns) H locs) {q k : Nat} (hq : q = y_n G + es.length) (hkn : ns.length = k) (harr : Cond.arrayClass .byte ∈ z_om) {n : Int32} (N : Nat) (hn : ¬ n < 0) (hN : n.toNatClampNeg = N) (hbytes : N * 1 ≤ 536870912) (hcells : cells + 1 ≤ R.cells) (hslots : slots + N ≤ R.slots) (hdg : decode cc pc = .ok (.newarray .byte, 2))
    (kk : ∀ H1 : Heap, y_W G (y_x es a x (ns ++ [.inl (G.2.2.1 12, N, .inl (fun _ => 0))])) H1 locs → W p l e R s m args below meth c H1 locs (cells + 1) (slots + N) Q (F0 m (pc + 2) ls (.ref (q + k) :: rest))) : W p l e R s m args below meth c H locs cells slots Q (F0 m pc ls (.int n :: rest)) := by
  refine y_newa0 (a0 := (N, .inl (fun _ => 0))) X hw (ty := .byte) rfl harr (X.2.2.2.2.2.2.2.1.2 0 _ rfl).2 (fun _ => rfl) hn hN hbytes hcells hslots hdg (fun h => h) (fun H1 h1 => ?_)
  rw [y_xap] at h1
  have e : y_n G + (y_x es a x ns).length = q + k := by rw [y_xl]; omega
  rw [e]
  exact kk H1 h1
theorem y_newz (X : z_C G p s m args meth c cc nL own rt) (hw : y_W G (y_x es a x ns) H locs) {q k : Nat} (hq : q = y_n G + es.length) (hkn : ns.length = k) (harr : Cond.arrayClass .boolean ∈ z_om) {n : Int32} (N : Nat) (hn : ¬ n < 0) (hN : n.toNatClampNeg = N) (hbytes : N * 1 ≤ 536870912) (hcells : cells + 1 ≤ R.cells) (hslots : slots + N ≤ R.slots) (hdg : decode cc pc = .ok (.newarray .boolean, 2))
    (kk : ∀ H1 : Heap, y_W G (y_x es a x (ns ++ [.inl (G.2.2.1 15, N, .inl (fun _ => 0))])) H1 locs → W p l e R s m args below meth c H1 locs (cells + 1) (slots + N) Q (F0 m (pc + 2) ls (.ref (q + k) :: rest))) : W p l e R s m args below meth c H locs cells slots Q (F0 m pc ls (.int n :: rest)) := by
  refine y_newa0 (a0 := (N, .inl (fun _ => 0))) X hw (ty := .boolean) rfl harr (X.2.2.2.2.2.2.2.1.2 3 _ rfl).2 (fun _ => rfl) hn hN hbytes hcells hslots hdg (fun h => h) (fun H1 h1 => ?_)
  rw [y_xap] at h1
  have e : y_n G + (y_x es a x ns).length = q + k := by rw [y_xl]; omega
  rw [e]
  exact kk H1 h1
theorem y_newl (X : z_C G p s m args meth c cc nL own rt) (hw : y_W G (y_x es a x ns) H locs) {q k : Nat} (hq : q = y_n G + es.length) (hkn : ns.length = k) (harr : Cond.arrayClass .long ∈ z_om) {n : Int32} (N : Nat) (hn : ¬ n < 0) (hN : n.toNatClampNeg = N) (hbytes : N * 8 ≤ 536870912) (hcells : cells + 1 ≤ R.cells) (hslots : slots + N ≤ R.slots) (hdg : decode cc pc = .ok (.newarray .long, 2))
    (kk : ∀ H1 : Heap, y_W G (y_x es a x (ns ++ [.inl (G.2.2.1 14, N, .inr (.inl (fun _ => 0)))])) H1 locs → W p l e R s m args below meth c H1 locs (cells + 1) (slots + N) Q (F0 m (pc + 2) ls (.ref (q + k) :: rest))) : W p l e R s m args below meth c H locs cells slots Q (F0 m pc ls (.int n :: rest)) := by
  refine y_newa0 (a0 := (N, .inr (.inl (fun _ => 0)))) X hw (ty := .long) rfl harr (X.2.2.2.2.2.2.2.1.2 2 _ rfl).2 (fun _ => rfl) hn hN hbytes hcells hslots hdg (fun h => h) (fun H1 h1 => ?_)
  rw [y_xap] at h1
  have e : y_n G + (y_x es a x ns).length = q + k := by rw [y_xl]; omega
  rw [e]
  exact kk H1 h1
theorem y_newH (X : z_C G p s m args meth c cc nL own rt) (hy : y_K s) (hw : y_W G (y_x es a x ns) H locs) {q k index : Nat} (hq : q = y_n G + es.length) (hkn : ns.length = k) (hcl : Cond.classLink own index "DrinkingRoofs$House" ∈ z_om) {n : Int32} (N : Nat) (hn : ¬ n < 0) (hN : n.toNatClampNeg = N) (hbytes : N * 4 ≤ 536870912) (hcells : cells + 1 ≤ R.cells) (hslots : slots + N ≤ R.slots) (hdg : decode cc pc = .ok (.anewarray index, 3))
    (kk : ∀ H1 : Heap, y_W G (y_x es a x (ns ++ [.inl (G.2.2.1 16, N, .inr (.inr (.inr (.inr (fun _ => none)))))])) H1 locs → W p l e R s m args below meth c H1 locs (cells + 1) (slots + N) Q (F0 m (pc + 3) ls (.ref (q + k) :: rest))) : W p l e R s m args below meth c H locs cells slots Q (F0 m pc ls (.int n :: rest)) := by
  refine y_newq0 X hw hcl hy.1 (X.2.2.2.2.2.2.2.1.2 4 _ rfl).2 hn hN hbytes hcells hslots hdg (fun H1 h1 => ?_)
  rw [y_xap] at h1
  have e : y_n G + (y_x es a x ns).length = q + k := by rw [y_xl]; omega
  rw [e]
  exact kk H1 h1
theorem y_newS (X : z_C G p s m args meth c cc nL own rt) (hy : y_K s) (hw : y_W G (y_x es a x ns) H locs) {q k index : Nat} (hq : q = y_n G + es.length) (hkn : ns.length = k) (hcl : Cond.classLink own index "DrinkingRoofs$Storm" ∈ z_om) {n : Int32} (N : Nat) (hn : ¬ n < 0) (hN : n.toNatClampNeg = N) (hbytes : N * 4 ≤ 536870912) (hcells : cells + 1 ≤ R.cells) (hslots : slots + N ≤ R.slots) (hdg : decode cc pc = .ok (.anewarray index, 3))
    (kk : ∀ H1 : Heap, y_W G (y_x es a x (ns ++ [.inl (G.2.2.1 17, N, .inr (.inr (.inr (.inr (fun _ => none)))))])) H1 locs → W p l e R s m args below meth c H1 locs (cells + 1) (slots + N) Q (F0 m (pc + 3) ls (.ref (q + k) :: rest))) : W p l e R s m args below meth c H locs cells slots Q (F0 m pc ls (.int n :: rest)) := by
  refine y_newq0 X hw hcl hy.2.1 (X.2.2.2.2.2.2.2.1.2 5 _ rfl).2 hn hN hbytes hcells hslots hdg (fun H1 h1 => ?_)
  rw [y_xap] at h1
  have e : y_n G + (y_x es a x ns).length = q + k := by rw [y_xl]; omega
  rw [e]
  exact kk H1 h1
theorem y_mna (X : z_C G p s m args meth c cc nL own rt) (hy : y_K s) (hw : y_W G (y_x es a x ns) H locs) {q k index : Nat} (hq : q = y_n G + es.length) (hkn : ns.length = k) (hcl : Cond.classLink own index "[[I" ∈ z_om) (harr : Cond.arrayClass .int ∈ z_om) (hcells : cells + (1 + 5) ≤ R.cells) (hslots : slots + (5 + 5 * 4) ≤ R.slots) (hdg : decode cc pc = .ok (.multianewarray index 2, 4))
    (kk : ∀ H1 : Heap, y_W G (y_x es a x (ns ++ (.inl (G.2.2.1 18, 5, .inr (.inr (.inr (.inr (fun i => if i < 5 then some (q + k + 1 + i) else none))))) :: List.replicate 5 (.inl (G.2.2.1 13, 4, .inl (fun _ => 0)))))) H1 locs → W p l e R s m args below meth c H1 locs (cells + 1 + 5) (slots + 5 + 5 * 4) Q (F0 m (pc + 4) ls (.ref (q + k) :: rest))) : W p l e R s m args below meth c H locs cells slots Q (F0 m pc ls (.int 4 :: .int 5 :: rest)) := by
  refine y_mna0 X hw hcl hy.2.2 (X.2.2.2.2.2.2.2.1.2 6 _ rfl).2 (X.2.2.2.2.2.2.2.1.2 1 _ rfl).2 hcells hslots hdg (fun H1 h1 => ?_)
  have e : y_n G + (y_x es a x ns).length = q + k := by rw [y_xl]; omega
  rw [y_xap, e] at h1
  rw [e]
  exact kk H1 h1
theorem y_put (X : z_C G p s m args meth c cc nL own rt) (hin2 : meth.name = "<init>") (hw : y_W G (y_x es a x ns) H locs) (ha : a < es.length) {ci N j index : Nat} {C : String} {T : u_T} (hc : vwCl[ci]? = some (C, T, N)) (hin : ∀ w ∈ u_ws C T N, w ∈ z_om) (ty0 : Nat → FieldType) (hty : ∀ k, k < N → parseFieldDescriptor (T k).2.2.1 = some (ty0 k)) (hnm : ∀ a, a < N → ∀ b, b < N → a ≠ b → (T a).2.1 ≠ (T b).2.1) {fs : List Value} (hxe : x = .inr (ci, fs)) (hj : j < N) (hl : Cond.fieldLink own index (T j).1 (T j).2.1 (T j).2.2.1 ∈ z_om) (hdecl : (T j).1 = own) {ty : FieldType} {v : Value} (hd : parseFieldDescriptor (T j).2.2.1 = some ty) (hn : narrow ty v = v) (hfit : fits ty v = true) (hlen : j < fs.length) (hdg : decode cc pc = .ok (.putfield index, 3))
    (kk : ∀ (H1 : Heap) (locs1 : List Loc), y_W G (y_x es a (.inr (ci, fs.set j v)) ns) H1 locs1 → W p l e R s m args below meth c H1 locs1 cells slots Q (F0 m (pc + 3) ls rest)) : W p l e R s m args below meth c H locs cells slots Q (F0 m pc ls (v :: .ref (y_n G + a) :: rest)) := by
  subst hxe
  obtain ⟨hx, hb, -, hown, hts, -, -, hK⟩ := X
  have hla : a < (y_x es a (.inr (ci, fs)) ns).length := by rw [y_xl]; omega
  have fin : ∀ (H1 : Heap) (locs1 : List Loc), H1.size = H.size → va_P G.2.1 vwCl ((y_ws G (y_x es a (.inr (ci, fs)) ns)).set a (y_n G + a, .inr (ci, fs.set j v))) H1 → va_S (z_A G) G.2.2.2.1 H1 locs1 → W p l e R s m args below meth c H1 locs1 cells slots Q (F0 m (pc + 3) ls rest) := fun H1 locs1 hz h1 h3 => by
    have h4 := y_ofP hla h1 h3 (by rw [hz]; exact hw.2.2)
    rw [y_xsa ha] at h4
    exact kk H1 locs1 h4
  have hP := y_P hw
  have hD := y_D G (y_x es a (.inr (ci, fs)) ns)
  have he := y_at (G := G) (y_xa (x := .inr (ci, fs)) (ns := ns) ha)
  have hap := va_apart (own := own) hts hin ty0 hty hnm hK.1 hc
  obtain ⟨r, h1, cell, q1, q2, q3, q4⟩ := hP a _ he
  have hr : r = (C, T, N) := Option.some.inj (h1.symm.trans hc)
  subst hr
  obtain ⟨hS, hfc, kC, hkC, hkind⟩ := hK.1.1 ci _ hc
  obtain ⟨cf, kf, fi, f, hi, hsl⟩ := hS j hj
  have hlay := hts _ (hin _ (u_in_lay hj))
  have hst := (u_facts hfc hkC (u_lays hts hin hj) hi).1
  unfold u_lay at hlay
  by_cases hfin : (T j).2.2.2 = true
  · rw [if_pos hfin] at hlay
    have hcf : m.cls = cf := by
      obtain ⟨_, _, c', _, _, _, -, -, hf', -, -, -, hown2, -⟩ := Cond.laysFinal_spec hlay
      have e1 : c' = cf := by have := hi.symm.trans hf'; simp at this; exact this.1.symm
      rw [hdecl] at hown2
      rw [← e1]; exact Option.some.inj (hown.symm.trans hown2)
    have h6 := u_fits hfc hkC hkind (Or.inr hlay) hi hd hn hfit
    refine W.putFinK hx hb hown (hts _ hl) hi hst hcf hin2 (by rw [q2]; exact h6) q1 q3 (by rw [hsl]; exact k2_hasslot (q4 j hj)) rfl rfl hdg fun H' e1 e2 e3 => ?_
    rw [hsl] at e1 ⊢
    exact fin H' _ e2 (hP.set hD he ⟨_, hc, t_OB.to (V := updV (vp_V fs) j v) ⟨_, e1, q2, q3, t_set q4 hap hj v⟩ (fun i _ => vp_updV_set hlen v i)⟩ e3) (hw.2.1.put e2 e3 (hD.2 a _ he))
  · rw [if_neg hfin] at hlay
    have h6 := u_store hfc hkC hkind hlay hi hd hn hfit
    refine W.putK hx hb (f := f) ⟨hown, hts _ hl, ⟨_, _, _, hi⟩, hst⟩ (by rw [q2]; exact h6) q1 q3 (by rw [hsl]; exact k2_hasslot (q4 j hj)) rfl rfl hdg fun H' e1 e2 e3 => ?_
    rw [hsl] at e1 ⊢
    exact fin H' _ e2 (hP.set hD he ⟨_, hc, t_OB.to (V := updV (vp_V fs) j v) ⟨_, e1, q2, q3, t_set q4 hap hj v⟩ (fun i _ => vp_updV_set hlen v i)⟩ e3) (hw.2.1.put e2 e3 (hD.2 a _ he))
theorem y_get (X : z_C G p s m args meth c cc nL own rt) (hw : y_W G (y_x es a x ns) H locs) (ha : a < es.length) {ci N j index : Nat} {C : String} {T : u_T} (hc : vwCl[ci]? = some (C, T, N)) (hin : ∀ w ∈ u_ws C T N, w ∈ z_om) {fs : List Value} (hxe : x = .inr (ci, fs)) (hj : j < N) (hl : Cond.fieldLink own index (T j).1 (T j).2.1 (T j).2.2.1 ∈ z_om) {v : Value} (hv : fs[j]? = some v) (hdg : decode cc pc = .ok (.getfield index, 3))
    (kk : W p l e R s m args below meth c H locs cells slots Q (F0 m (pc + 3) ls (v :: rest))) : W p l e R s m args below meth c H locs cells slots Q (F0 m pc ls (.ref (y_n G + a) :: rest)) := by
  subst hxe
  obtain ⟨hx, hb, -, hown, hts, -, -, hK⟩ := X
  exact va_get hx hb hts hin hown hK.1 (y_P hw) a (y_at (y_xa ha)) hc j hj (hts _ hl) (fun _ h => h) hv hdg kk
/-- a row of references gets one: aastore -/
theorem y_aast (X : z_C G p s m args meth c cc nL own rt) (hw : y_W G (y_x es a x ns) H locs) {q k kv n t0 ci : Nat} {cA : ClassId} {r : vw_C} {vs : List Value} {f : Nat → Option Nat} (hq : q = y_n G + es.length) (hk : ns[k]? = some (.inl (cA, n, .inr (.inr (.inr (.inr f)))))) (ht : (z_tys G)[t0]? = some (cA, .object r.1)) (hv : ns[kv]? = some (.inr (ci, vs))) (hc : vwCl[ci]? = some r) {i : Int32} (hi : vp_in i n) (hdg : decode cc pc = .ok (.aastore, 1))
    (kk : ∀ (H1 : Heap) (locs1 : List Loc), y_W G (y_x es a x (ns.set k (.inl (cA, n, .inr (.inr (.inr (.inr (va_up f i.toNatClampNeg (some (q + kv)))))))))) H1 locs1 → W p l e R s m args below meth c H1 locs1 cells slots Q (F0 m (pc + 1) ls rest)) : W p l e R s m args below meth c H locs cells slots Q (F0 m pc ls (.ref (q + kv) :: .int i :: .ref (q + k) :: rest)) := by
  subst hq
  have e1 : y_n G + es.length + k = y_n G + (es.length + k) := Nat.add_assoc _ _ _
  have e2 : y_n G + es.length + kv = y_n G + (es.length + kv) := Nat.add_assoc _ _ _
  rw [e1, e2]
  have hlk : k < ns.length := (List.getElem?_eq_some_iff.mp hk).1
  have hP := y_P hw
  have hD := y_D G (y_x es a x ns)
  have ha0 := y_at (G := G) (show (y_x es a x ns)[es.length + k]? = _ from (y_xn k).trans hk)
  have hv0 := y_at (G := G) (show (y_x es a x ns)[es.length + kv]? = _ from (y_xn kv).trans hv)
  have hlt : i.toNatClampNeg < n := Nat.not_le.mp fun q => hi (Or.inr q)
  have h0 : ¬ i < 0 := fun q => hi (Or.inl q)
  obtain ⟨r', hr', cellV, g1, g2, g3, -⟩ := hP _ _ hv0
  have hcls := (X.2.2.2.2.2.2.2.1.1 ci r hc).2
  obtain ⟨kA, comp, k1, k2, k3, -⟩ := (X.2.2.2.2.2.2.2.1.2 t0 _ ht).2
  have hcomp : comp = G.2.1.1 ci := Option.some.inj (k3.symm.trans hcls.1)
  subst hcomp
  obtain ⟨kC, hkC, -⟩ := hcls.2
  refine W.aast X.1 X.2.1 (hP _ _ ha0) (fun q h => by cases h) (fun h => by cases h) k1 k2 rfl hkC ⟨h0, by show _ < (arrV _ _ _).slots.size; rw [arrV_size]; exact hlt⟩ g1 (fun q h => by rw [g3] at h; cases h) (by rw [g2]; exact hkC) (by rw [g2]; exact va_assign hcls) rfl rfl hdg fun H1 e z oq => ?_
  have h4 := y_ofP (x := .inl (cA, n, .inr (.inr (.inr (.inr (va_up f i.toNatClampNeg (some (y_n G + (es.length + kv))))))))) (i := es.length + k) (by rw [y_xl]; omega) (hP.set hD ha0 (e := .inl (cA, n, .inr (.inr (.inr (.inr (va_up f i.toNatClampNeg (some (y_n G + (es.length + kv))))))))) (by
    show H1[y_n G + (es.length + k)]? = some (vp_cell _ _)
    rw [e, vp_cell_q, vp_cell_q, arrV_store]
    congr 2
    funext q
    by_cases hq : q = i.toNatClampNeg
    · subst hq
      simp [updV, va_up, va_rf]
    · simp [updV, va_up, hq]) oq) (va_S.put (k := i.toNatClampNeg) hw.2.1 z oq (hD.2 _ _ ha0)) (by rw [z]; exact hw.2.2)
  rw [y_xsn, ← e2] at h4
  exact kk H1 _ h4
theorem y_iast (X : z_C G p s m args meth c cc nL own rt) (hw : y_W G (y_x es a x ns) H locs) {q k n : Nat} {f : Nat → Int32} (hq : q = y_n G + es.length) (hk : ns[k]? = some (.inl (G.2.2.1 13, n, .inl f))) {i v : Int32} (hi : vp_in i n) (hdg : decode cc pc = .ok (.iastore, 1))
    (kk : ∀ (H1 : Heap) (locs1 : List Loc), y_W G (y_x es a x (ns.set k (.inl (G.2.2.1 13, n, .inl (upd f i.toNatClampNeg v))))) H1 locs1 → W p l e R s m args below meth c H1 locs1 cells slots Q (F0 m (pc + 1) ls rest)) : W p l e R s m args below meth c H locs cells slots Q (F0 m pc ls (.int v :: .int i :: .ref (q + k) :: rest)) := by
  subst hq
  have e1 : y_n G + es.length + k = y_n G + (es.length + k) := Nat.add_assoc _ _ _
  rw [e1]
  have hlk : k < ns.length := (List.getElem?_eq_some_iff.mp hk).1
  have hP := y_P hw
  have hD := y_D G (y_x es a x ns)
  have ha0 := y_at (G := G) (show (y_x es a x ns)[es.length + k]? = _ from (y_xn k).trans hk)
  refine W.iast X.1 X.2.1 (hP _ _ ha0) ((X.2.2.2.2.2.2.2.1.2 1 _ rfl).1 n (fun j => .int (f j))) (fun q => by cases q) (by show ¬ (i < 0 ∨ (arrV _ _ _).slots.size ≤ _); rw [arrV_size]; exact hi) rfl rfl hdg fun H1 e z oq => ?_
  have h4 := y_ofP (x := .inl (G.2.2.1 13, n, .inl (upd f i.toNatClampNeg v))) (i := es.length + k) (by rw [y_xl]; omega) (hP.set hD ha0 (e := .inl (G.2.2.1 13, n, .inl (upd f i.toNatClampNeg v))) (by
    show H1[y_n G + (es.length + k)]? = some (vp_cell _ _)
    rw [e, vp_cell_i, vp_cell_i, arrV_store]
    congr 2
    funext q
    by_cases hq : q = i.toNatClampNeg
    · subst hq
      simp [updV, upd]
    · simp [updV, upd, hq]) oq) (va_S.put (k := i.toNatClampNeg) hw.2.1 z oq (hD.2 _ _ ha0)) (by rw [z]; exact hw.2.2)
  rw [y_xsn] at h4
  exact kk H1 _ h4
/-- Object() -/
theorem y_obj {index n mc ms : Nat} (X : z_C G p s m args meth c cc nL own rt) (hl : Cond.methodLink own index Lib.objectInit ∈ z_om) (h2 : Cond.instanceMethod Lib.objectInit ∈ z_om) (h3 : Cond.code Lib.objectInit ⟨#[0xb1]⟩ 1 none ∈ z_om) (hls : ls.size = nL) {b : Nat} (hdg : decode cc pc = .ok (.invokespecial index, 3))
    (kk : W p l e (y_rm n mc ms) s m args below meth c H locs cells slots Q (F0 m (pc + 3) ls [])) : W p l e (y_rm n mc ms) s m args below meth c H locs cells slots Q (F0 m pc ls [.ref b]) :=
  W.objInit X.1 X.2.1 X.2.2.2.1 (X.2.2.2.2.1 _ hl) (X.2.2.2.2.1 _ h2) (X.2.2.2.2.1 _ h3) rfl (hls.trans X.2.2.1.symm) rfl hdg (Nat.le_add_left 1 n) (by show 2 * 0 + 0 + 12 ≤ 40 * (n + 1); omega) kk
theorem y_blind {b : Nat} : FrameBlind (fun v U => v = #[Value.ref b] ∧ (z_K G U ∧ y_K U) ∧ y_W G es U.heap []) := by
  intro v U g mk h
  exact ⟨h.1, ⟨z_K.same (u := U) (U := U.calling g mk v) rfl h.2.1.1, y_K.moved (u := U) (U := U.calling g mk v) (Vm.Alike.refl U.vm) h.2.1.2⟩, h.2.2⟩
theorem y_on {mc ms : Nat} {st0 : List Value} {es' : List va_E} (hS : va_S (z_A G) G.2.2.2.1 H locs) (hr : va_Run p l e R s m args below meth c H locs cells slots mc ms (F0 m pc ls st0) rest (fun (_ : State) (oc : Outcome) (t : State) => oc = .returned none ∧ y_W G es' t.heap []) (z_A G))
    (kk : ∀ (H1 : Heap) (locs1 : List Loc), y_W G es' H1 locs1 → W p l e R s m args below meth c H1 locs1 (cells + mc) (slots + ms) Q (F0 m (pc + 3) ls rest)) : W p l e R s m args below meth c H locs cells slots Q (F0 m pc ls st0) := by
  intro T hT X
  obtain ⟨v, st₀, t, T', L, h0, X', hL, e1, e2, ⟨hv, hB⟩, st⟩ := hr T hT X
  cases hv
  obtain ⟨t2, a1, b1⟩ := kk T'.heap (locs ++ L) ⟨by rw [e1]; exact hB.1, ⟨by rw [e1]; exact hB.2.1.1, fun q h1 h2 => by rw [e1]; exact hB.2.1.2.1 q h1 h2, fun q hq => by
      rcases List.mem_append.mp hq with h | h
      · exact hS.2.2 q h
      · exact hL q h⟩, by rw [e1]; exact hB.2.2⟩ T' rfl X'
  exact ⟨t2, st t2 a1, b1⟩
theorem y_W.nil {locs : List Loc} (h : y_W G es H locs) : y_W G es H [] := ⟨h.1, ⟨h.2.1.1, h.2.1.2.1, fun _ q => by cases q⟩, h.2.2⟩
theorem y_pre {b : Nat} (hK : z_K G s) (hy : y_K s) (hw : y_W G es H locs) : ∀ U : State, U.heap = H → s.WarmedH U.vm → (#[Value.ref b] = #[Value.ref b] ∧ (z_K G U ∧ y_K U) ∧ y_W G es U.heap []) := fun U hU hW => ⟨rfl, ⟨hK.warm hW, hy.moved hW.alike⟩, by rw [hU]; exact hw.nil⟩
/-- invokespecial of a constructor without arguments, on any cells -/
theorem y_ci0 {n maxL index mc ms b : Nat} {y : MethodName} {bytes : ByteArray} {x' : va_E} {ns' : List va_E} (X : z_C G p s m args meth c cc nL own rt) (hy : y_K s) (hw : y_W G es H locs)
    (hC : y_T l G n y (.code y bytes maxL none) es b x' ns' mc ms) (h1 : Cond.methodLink own index y ∈ z_om) (h2 : Cond.instanceMethod y ∈ z_om) (h4 : Cond.initialized y.cls ∈ z_om) (h5 : Cond.code y bytes maxL none ∈ z_om) (hy1 : y.name = "<init>")
    (hd : y.cls ≠ "java/lang/invoke/MethodHandle" ∧ y.cls ≠ "java/lang/invoke/VarHandle" ∧ (parseMethodDescriptor y.desc).map (fun d => d.parameters.length) = some 0) (hR : (y_rm n mc ms).frames + 1 ≤ R.frames ∧ 8 + (maxL + 11) + (y_rm n mc ms).locals ≤ R.locals) (hls : ls.size = nL) (hrm : (rest.map fun v => v.category).sum ≤ 8) (hdg : decode cc pc = .ok (.invokespecial index, 3)) (hf : cells + mc ≤ R.cells ∧ slots + ms ≤ R.slots)
    (kk : ∀ (H1 : Heap) (locs1 : List Loc), y_W G (y_x es b x' ns') H1 locs1 → W p l e R s m args below meth c H1 locs1 (cells + mc) (slots + ms) Q (F0 m (pc + 3) ls rest)) : W p l e R s m args below meth c H locs cells slots Q (F0 m pc ls (.ref (y_n G + b) :: rest)) := by
  have hts := X.2.2.2.2.1
  exact y_on hw.2.1 (va_runI (As := []) (rest := rest) ⟨X.1, X.2.1, X.2.2.1, X.2.2.2.1, hts⟩ hC (cwI 0 hts (z_goodc h5) rfl rfl rfl (hts _ h4) (hts _ h1) (hts _ h2) hy1 hd hR) ⟨y_blind, y_pre X.2.2.2.2.2.2.2 hy hw⟩ rfl rfl hls rfl (lv_room hrm) hdg hf) kk
theorem y_cin0 {n maxL index mc ms b : Nat} {host : String} {y : MethodName} {bytes : ByteArray} {x' : va_E} {ns' : List va_E} (X : z_C G p s m args meth c cc nL own rt) (hy : y_K s) (hw : y_W G es H locs)
    (hC : y_T l G n y (.code y bytes maxL none) es b x' ns' mc ms) (h1 : Cond.methodLinkNest own index y host ∈ z_nest) (h2 : Cond.instanceMethod y ∈ z_om) (h4 : Cond.initialized y.cls ∈ z_om) (h5 : Cond.code y bytes maxL none ∈ z_om) (hy1 : y.name = "<init>")
    (hd : y.cls ≠ "java/lang/invoke/MethodHandle" ∧ y.cls ≠ "java/lang/invoke/VarHandle" ∧ (parseMethodDescriptor y.desc).map (fun d => d.parameters.length) = some 0) (hR : (y_rm n mc ms).frames + 1 ≤ R.frames ∧ 8 + (maxL + 11) + (y_rm n mc ms).locals ≤ R.locals) (hls : ls.size = nL) (hrm : (rest.map fun v => v.category).sum ≤ 8) (hdg : decode cc pc = .ok (.invokespecial index, 3)) (hf : cells + mc ≤ R.cells ∧ slots + ms ≤ R.slots)
    (kk : ∀ (H1 : Heap) (locs1 : List Loc), y_W G (y_x es b x' ns') H1 locs1 → W p l e R s m args below meth c H1 locs1 (cells + mc) (slots + ms) Q (F0 m (pc + 3) ls rest)) : W p l e R s m args below meth c H locs cells slots Q (F0 m pc ls (.ref (y_n G + b) :: rest)) := by
  have hts := X.2.2.2.2.1
  exact y_on hw.2.1 (va_runIN (As := []) (rest := rest) ⟨X.1, X.2.1, X.2.2.1, X.2.2.2.1, hts⟩ hC ⟨va_cnB 0 hts (z_goodc h5) rfl rfl rfl (X.2.2.2.2.2.2.2.2.1 _ h1) (hts _ h4) hd hR, hy1, hts _ h2⟩ ⟨y_blind, y_pre X.2.2.2.2.2.2.2 hy hw⟩ rfl rfl hls rfl (lv_room hrm) hdg hf) kk
theorem y_xx {j : Nat} {x' : va_E} {ns' : List va_E} : y_x (y_x es a x ns) (es.length + j) x' ns' = y_x es a x (ns.set j x' ++ ns') := by
  rw [show y_x (y_x es a x ns) (es.length + j) x' ns' = (y_x es a x ns).set (es.length + j) x' ++ ns' from rfl, y_xsn, y_xap]
/-- the same of the cell at place j of what is new -/
theorem y_ci {n maxL index mc ms j q : Nat} {y : MethodName} {bytes : ByteArray} {x' : va_E} {ns' : List va_E} (X : z_C G p s m args meth c cc nL own rt) (hy : y_K s) (hw : y_W G (y_x es a x ns) H locs) (hq : q = y_n G + es.length)
    (hC : y_T l G n y (.code y bytes maxL none) (y_x es a x ns) (es.length + j) x' ns' mc ms) (h1 : Cond.methodLink own index y ∈ z_om) (h2 : Cond.instanceMethod y ∈ z_om) (h4 : Cond.initialized y.cls ∈ z_om) (h5 : Cond.code y bytes maxL none ∈ z_om) (hy1 : y.name = "<init>")
    (hd : y.cls ≠ "java/lang/invoke/MethodHandle" ∧ y.cls ≠ "java/lang/invoke/VarHandle" ∧ (parseMethodDescriptor y.desc).map (fun d => d.parameters.length) = some 0) (hR : (y_rm n mc ms).frames + 1 ≤ R.frames ∧ 8 + (maxL + 11) + (y_rm n mc ms).locals ≤ R.locals) (hls : ls.size = nL) (hrm : (rest.map fun v => v.category).sum ≤ 8) (hdg : decode cc pc = .ok (.invokespecial index, 3)) (hf : cells + mc ≤ R.cells ∧ slots + ms ≤ R.slots)
    (kk : ∀ (H1 : Heap) (locs1 : List Loc), y_W G (y_x es a x (ns.set j x' ++ ns')) H1 locs1 → W p l e R s m args below meth c H1 locs1 (cells + mc) (slots + ms) Q (F0 m (pc + 3) ls rest)) : W p l e R s m args below meth c H locs cells slots Q (F0 m pc ls (.ref (q + j) :: rest)) := by
  subst hq
  rw [Nat.add_assoc]
  refine y_ci0 X hy hw hC h1 h2 h4 h5 hy1 hd hR hls hrm hdg hf (fun H1 l1 h => ?_)
  rw [y_xx] at h
  exact kk H1 l1 h
theorem y_cin {n maxL index mc ms j q : Nat} {host : String} {y : MethodName} {bytes : ByteArray} {x' : va_E} {ns' : List va_E} (X : z_C G p s m args meth c cc nL own rt) (hy : y_K s) (hw : y_W G (y_x es a x ns) H locs) (hq : q = y_n G + es.length)
    (hC : y_T l G n y (.code y bytes maxL none) (y_x es a x ns) (es.length + j) x' ns' mc ms) (h1 : Cond.methodLinkNest own index y host ∈ z_nest) (h2 : Cond.instanceMethod y ∈ z_om) (h4 : Cond.initialized y.cls ∈ z_om) (h5 : Cond.code y bytes maxL none ∈ z_om) (hy1 : y.name = "<init>")
    (hd : y.cls ≠ "java/lang/invoke/MethodHandle" ∧ y.cls ≠ "java/lang/invoke/VarHandle" ∧ (parseMethodDescriptor y.desc).map (fun d => d.parameters.length) = some 0) (hR : (y_rm n mc ms).frames + 1 ≤ R.frames ∧ 8 + (maxL + 11) + (y_rm n mc ms).locals ≤ R.locals) (hls : ls.size = nL) (hrm : (rest.map fun v => v.category).sum ≤ 8) (hdg : decode cc pc = .ok (.invokespecial index, 3)) (hf : cells + mc ≤ R.cells ∧ slots + ms ≤ R.slots)
    (kk : ∀ (H1 : Heap) (locs1 : List Loc), y_W G (y_x es a x (ns.set j x' ++ ns')) H1 locs1 → W p l e R s m args below meth c H1 locs1 (cells + mc) (slots + ms) Q (F0 m (pc + 3) ls rest)) : W p l e R s m args below meth c H locs cells slots Q (F0 m pc ls (.ref (q + j) :: rest)) := by
  subst hq
  rw [Nat.add_assoc]
  refine y_cin0 X hy hw hC h1 h2 h4 h5 hy1 hd hR hls hrm hdg hf (fun H1 l1 h => ?_)
  rw [y_xx] at h
  exact kk H1 l1 h
/-- a constructor's end, and a contract out of its walk -/
theorem y_ret {es' : List va_E} (X : z_C G p s m args meth c cc nL own none) (hw : y_W G es' H locs) (hdg : decode cc pc = .ok (.return_, 1)) : W p l e R s m args below meth c H locs cells slots (MQ below (fun _ _ oc t => oc = .returned none ∧ y_W G es' t.heap []) args s cells slots (z_A G)) (F0 m pc ls []) :=
  W.vret X.1 X.2.1 X.2.2.2.2.2.1 (fun t ht _ => ⟨rfl, by rw [ht]; exact hw.nil⟩) (fun q hq => hw.2.1.2.2 q hq) hdg X.2.2.2.2.2.2.1
theorem y_of {n maxL mc ms : Nat} {y : MethodName} {bytes : ByteArray} {x0 x' : va_E} {ns' : List va_E} (hy : plainName y.cls = true) (hnm : y.name = "<init>") (h0 : es[a]? = some x0)
    (body : ∀ (p : Program) (e : Env) (s : State) (m : MethodId) (below : List Frame) (meth : Method) (c : Code), z_C G p s m #[Value.ref (y_n G + a)] meth c bytes maxL y.cls none → y_K s → meth.name = "<init>" → a < es.length → y_W G (y_x es a x0 []) s.heap [] → W p l e (y_rm n mc ms) s m #[Value.ref (y_n G + a)] below meth c s.heap [] 0 0 (MQ below (fun _ _ oc t => oc = .returned none ∧ y_W G (y_x es a x' ns') t.heap []) #[Value.ref (y_n G + a)] s mc ms (z_A G)) (entryFrame m ([Value.ref (y_n G + a)] : List Value).toArray maxL)) : y_T l G n y (.code y bytes maxL none) es a x' ns' mc ms := by
  refine Met.ofW (cc := bytes) (maxL := maxL) (ret := none) hy rfl ?_
  intro p e s m args below meth c s₁ B hml hv
  obtain ⟨rfl, hK, hw⟩ := hv
  have hts := atoms_spec (ws := Cond.code y bytes maxL none :: z_om) B.pre
  refine body p e s m below meth c ⟨B.exec, B.bytes, hml, findClass_of_methodNamed B.named, fun w h => hts w (List.mem_cons_of_mem _ h), B.returns, B.notSynchronized, hK.1⟩ hK.2 ((name_of_methodNamed B.named B.method).1.trans hnm) (List.getElem?_eq_some_iff.mp h0).1 ?_
  rw [y_x0 h0]
  exact hw
end YR

