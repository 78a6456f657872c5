section ZC
variable {G : zG} {p : Program} {l : Launch} {e : Env} {R : Room} {s : State} {m : MethodId} {args : Array Value} {below : List Frame} {meth : Method} {c : Code} {H : Heap} {locs : List Loc} {cells slots : Nat} {Q : State → Prop}
variable {cc : ByteArray} {nL : Nat} {own : String} {rt : Option FieldType} {pc : Nat} {ls : Array Slot} {rest : List Value} {M M' : zM}
theorem z_blind {av : List Value} : FrameBlind (fun v U => v = av.toArray ∧ z_K G U ∧ z_W G M U.heap []) := by
  intro a U g mk h
  exact ⟨h.1, z_K.same (u := U) (U := U.calling g mk a) rfl h.2.1, h.2.2⟩
theorem z_W.nil {locs : List Loc} (h : z_W G M H locs) : z_W G M H [] := ⟨h.1, h.2.1, h.2.2.1, h.2.2.2.1, fun _ q => by cases q⟩
theorem z_pre {av : List Value} (hK : z_K G s) (hw : z_W G M H locs) : ∀ U : State, U.heap = H → s.WarmedH U.vm → (av.toArray = av.toArray ∧ z_K G U ∧ z_W G M U.heap []) := fun U hU hW => ⟨rfl, hK.warm hW, by rw [hU]; exact hw.nil⟩
theorem z_goodc {c0 : Cond} (h : c0 ∈ z_om) : GoodIn z_om (c0 :: z_om) := by
  intro w hw
  rcases List.mem_cons.mp hw with rfl | hw
  · exact ⟨h, z_good _ h⟩
  · exact ⟨hw, z_good _ hw⟩
theorem z_good2 {ws a : List Cond} (ha : ∀ w ∈ a, w ∈ z_om) (h : GoodIn z_om ws) : GoodIn z_om (a ++ ws) := by
  intro w hw
  rcases List.mem_append.mp hw with hw | hw
  · exact ⟨ha w hw, z_good _ (ha w hw)⟩
  · exact h w hw
/-- what a run of a call gives: on, with the answer on the stack -/
theorem z_on {ov : Option Value} {st0 : List Value} (hw : z_W G M H locs) (hr : va_Run p l e R s m args below meth c H locs cells slots 0 0 (F0 m pc ls st0) rest (fun (_ : State) (oc : Outcome) (t : State) => oc = .returned ov ∧ z_W G M' t.heap []) (z_A G))
    (kk : ∀ (H1 : Heap) (locs1 : List Loc), z_W G M' H1 locs1 → W p l e R s m args below meth c H1 locs1 cells slots Q (F0 m (pc + 3) ls (ov.toList ++ rest))) : W p l e R s m args below meth c H locs cells slots Q (F0 m pc ls st0) := by
  intro T hT X
  obtain ⟨v, st₀, t, T', L, h0, X', hL, e1, e2, ⟨hv, hB⟩, st⟩ := hr T hT X
  cases hv
  obtain ⟨t2, a1, b1⟩ := kk T'.heap (locs ++ L) ⟨by rw [e1]; exact hB.1, hB.2.1, by rw [e1]; exact hB.2.2.1, fun q h1 h2 => by rw [e1]; exact hB.2.2.2.1 q h1 h2, fun q hq => by
      rcases List.mem_append.mp hq with h | h
      · exact hw.2.2.2.2 q h
      · exact hL q h⟩ T' rfl X'
  exact ⟨t2, st t2 a1, b1⟩
/-- invokevirtual of a method of the object k -/
theorem z_cv {n nA maxL index ci N k : Nat} {C : String} {T : u_T} {y : MethodName} {bytes : ByteArray} {ret : Option FieldType} {ov : Option Value} {As st0 : List Value} (X : z_C G p s m args meth c cc nL own rt) (hw : z_W G M H locs)
    (hC : z_T l G n y (.code y bytes maxL ret) (.ref (G.1 k) :: As) M ov M') {fs : List Value} (hk : k < 291) (he : z_E G M k = .inr (ci, fs)) (hc : vwCl[ci]? = some (C, T, N))
    (h1 : Cond.methodLink own index y ∈ z_om) (h2 : Cond.instanceMethod y ∈ z_om) (h3 : Cond.selects C y y ∈ z_om) (h4 : Cond.initialized C ∈ z_om) (h5 : Cond.code y bytes maxL ret ∈ z_om)
    (hd : y.cls = C ∧ y.cls ≠ "java/lang/invoke/MethodHandle" ∧ y.cls ≠ "java/lang/invoke/VarHandle" ∧ (parseMethodDescriptor y.desc).map (fun d => d.parameters.length) = some nA) (hR : (z_rm n).frames + 1 ≤ R.frames ∧ 8 + (maxL + 11) + (z_rm n).locals ≤ R.locals) (hA : As.length = nA) (hls : ls.size = nL) (hst : st0 = As.reverse ++ .ref (G.1 k) :: rest) (hrm : (rest.map fun v => v.category).sum ≤ 8) (hdg : decode cc pc = .ok (.invokevirtual index, 3)) (hf : cells ≤ R.cells ∧ slots ≤ R.slots)
    (kk : ∀ (H1 : Heap) (locs1 : List Loc), z_W G M' H1 locs1 → W p l e R s m args below meth c H1 locs1 cells slots Q (F0 m (pc + 3) ls (ov.toList ++ rest))) : W p l e R s m args below meth c H locs cells slots Q (F0 m pc ls st0) := by
  subst hst
  have hts := X.2.2.2.2.1
  have hG : GoodIn z_om (wsV own index C y (.code y bytes maxL ret :: z_om)) := z_good2 (fun w h => by
    simp only [List.mem_cons, List.not_mem_nil, or_false] at h
    rcases h with rfl | rfl | rfl | rfl <;> assumption) (z_goodc h5)
  exact z_on hw (va_runV (As := As) (rest := rest) ⟨X.1, X.2.1, X.2.2.1, X.2.2.2.1, hts⟩ hC (cwV nA hts hG rfl rfl rfl hd hR) ⟨z_blind, va_recv X.2.2.2.2.2.2.2.1 hw.1 hc (by rw [z_at G M hk, he]), z_pre X.2.2.2.2.2.2.2 hw⟩ rfl hA hls rfl (lv_room hrm) hdg hf) kk
/-- invokestatic -/
theorem z_cs {n nA maxL index : Nat} {y : MethodName} {bytes : ByteArray} {ret : Option FieldType} {ov : Option Value} {As st0 : List Value} (X : z_C G p s m args meth c cc nL own rt) (hw : z_W G M H locs)
    (hC : z_T l G n y (.code y bytes maxL ret) As M ov M')
    (h1 : Cond.methodLink own index y ∈ z_om) (h2 : Cond.static y ∈ z_om) (h4 : Cond.initialized y.cls ∈ z_om) (h5 : Cond.code y bytes maxL ret ∈ z_om)
    (hd : y.cls ≠ "java/lang/invoke/MethodHandle" ∧ y.cls ≠ "java/lang/invoke/VarHandle" ∧ (parseMethodDescriptor y.desc).map (fun d => d.parameters.length) = some nA) (hR : (z_rm n).frames + 1 ≤ R.frames ∧ 8 + (maxL + 11) + (z_rm n).locals ≤ R.locals) (hA : As.length = nA) (hls : ls.size = nL) (hst : st0 = As.reverse ++ rest) (hrm : (rest.map fun v => v.category).sum ≤ 8) (hdg : decode cc pc = .ok (.invokestatic index, 3)) (hf : cells ≤ R.cells ∧ slots ≤ R.slots)
    (kk : ∀ (H1 : Heap) (locs1 : List Loc), z_W G M' H1 locs1 → W p l e R s m args below meth c H1 locs1 cells slots Q (F0 m (pc + 3) ls (ov.toList ++ rest))) : W p l e R s m args below meth c H locs cells slots Q (F0 m pc ls st0) := by
  subst hst
  have hts := X.2.2.2.2.1
  have hG : GoodIn z_om (va_wsS own index y (.code y bytes maxL ret :: z_om)) := z_good2 (fun w h => by
    simp only [List.mem_cons, List.not_mem_nil, or_false] at h
    rcases h with rfl | rfl | rfl <;> assumption) (z_goodc h5)
  exact z_on hw (va_runS (As := As) (rest := rest) ⟨X.1, X.2.1, X.2.2.1, X.2.2.2.1, hts⟩ hC (va_cwS nA hts hG rfl rfl rfl hd hR) ⟨z_blind, z_pre X.2.2.2.2.2.2.2 hw⟩ rfl hA hls rfl (lv_room hrm) hdg hf) kk
/-- invokestatic of a nest mate's private method -/
theorem z_csn {n nA maxL index : Nat} {host : String} {y : MethodName} {bytes : ByteArray} {ret : Option FieldType} {ov : Option Value} {As st0 : List Value} (X : z_C G p s m args meth c cc nL own rt) (hw : z_W G M H locs)
    (hC : z_T l G n y (.code y bytes maxL ret) As M ov M')
    (h1 : Cond.methodLinkNest own index y host ∈ z_nest) (h2 : Cond.static y ∈ z_om) (h4 : Cond.initialized y.cls ∈ z_om) (h5 : Cond.code y bytes maxL ret ∈ z_om)
    (hd : y.cls ≠ "java/lang/invoke/MethodHandle" ∧ y.cls ≠ "java/lang/invoke/VarHandle" ∧ (parseMethodDescriptor y.desc).map (fun d => d.parameters.length) = some nA) (hR : (z_rm n).frames + 1 ≤ R.frames ∧ 8 + (maxL + 11) + (z_rm n).locals ≤ R.locals) (hA : As.length = nA) (hls : ls.size = nL) (hst : st0 = As.reverse ++ rest) (hrm : (rest.map fun v => v.category).sum ≤ 8) (hdg : decode cc pc = .ok (.invokestatic index, 3)) (hf : cells ≤ R.cells ∧ slots ≤ R.slots)
    (kk : ∀ (H1 : Heap) (locs1 : List Loc), z_W G M' H1 locs1 → W p l e R s m args below meth c H1 locs1 cells slots Q (F0 m (pc + 3) ls (ov.toList ++ rest))) : W p l e R s m args below meth c H locs cells slots Q (F0 m pc ls st0) := by
  subst hst
  have hts := X.2.2.2.2.1
  exact z_on hw (va_runSN (As := As) (rest := rest) ⟨X.1, X.2.1, X.2.2.1, X.2.2.2.1, hts⟩ hC ⟨va_cnB nA hts (z_goodc h5) rfl rfl rfl (X.2.2.2.2.2.2.2.2.1 _ h1) (hts _ h4) hd hR, hts _ h2, trivial⟩ ⟨z_blind, z_pre X.2.2.2.2.2.2.2 hw⟩ rfl hA hls rfl (lv_room hrm) hdg hf) kk

/-- ends -/
abbrev z_Q (G : zG) (below : List Frame) (args : Array Value) (s : State) (ov : Option Value) (M : zM) : State → Prop := MQ below (fun _ _ oc t => oc = .returned ov ∧ z_W G M t.heap []) args s 0 0 (z_A G)
theorem z_ri (X : z_C G p s m args meth c cc nL own (some .int)) (hw : z_W G M H locs) {v : Int32} (hdg : decode cc pc = .ok (.ireturn, 1)) : W p l e R s m args below meth c H locs 0 0 (z_Q G below args s (some (.int v)) M) (F0 m pc ls [.int v]) :=
  W.iret X.1 X.2.1 X.2.2.2.2.2.1 (fun t ht _ => ⟨rfl, by rw [ht]; exact hw.nil⟩) (fun q hq => hw.2.2.2.2 q hq) hdg X.2.2.2.2.2.2.1
theorem z_rz {ty : FieldType} (X : z_C G p s m args meth c cc nL own (some ty)) (hw : z_W G M H locs) {v : Int32} (hn : narrow ty (.int v) = .int v) (hdg : decode cc pc = .ok (.ireturn, 1)) : W p l e R s m args below meth c H locs 0 0 (z_Q G below args s (some (.int v)) M) (F0 m pc ls [.int v]) :=
  W.zret X.1 X.2.1 X.2.2.2.2.2.1 hn (fun t ht _ => ⟨rfl, by rw [ht]; exact hw.nil⟩) (fun q hq => hw.2.2.2.2 q hq) hdg X.2.2.2.2.2.2.1
theorem z_rj (X : z_C G p s m args meth c cc nL own (some .long)) (hw : z_W G M H locs) {v : Int64} (hdg : decode cc pc = .ok (.lreturn, 1)) : W p l e R s m args below meth c H locs 0 0 (z_Q G below args s (some (.long v)) M) (F0 m pc ls [.long v]) :=
  W.lret X.1 X.2.1 X.2.2.2.2.2.1 (fun t ht _ => ⟨rfl, by rw [ht]; exact hw.nil⟩) (fun q hq => hw.2.2.2.2 q hq) hdg X.2.2.2.2.2.2.1
theorem z_rv (X : z_C G p s m args meth c cc nL own none) (hw : z_W G M H locs) (hdg : decode cc pc = .ok (.return_, 1)) : W p l e R s m args below meth c H locs 0 0 (z_Q G below args s none M) (F0 m pc ls []) :=
  W.vret X.1 X.2.1 X.2.2.2.2.2.1 (fun t ht _ => ⟨rfl, by rw [ht]; exact hw.nil⟩) (fun q hq => hw.2.2.2.2 q hq) hdg X.2.2.2.2.2.2.1
/-- a contract out of the walk of its body -/
theorem z_of {n maxL : Nat} {y : MethodName} {bytes : ByteArray} {ret : Option FieldType} {av : List Value} {ov : Option Value} (hy : plainName y.cls = true)
    (body : ∀ (p : Program) (e : Env) (s : State) (m : MethodId) (below : List Frame) (meth : Method) (c : Code), z_C G p s m av.toArray meth c bytes maxL y.cls ret → z_W G M s.heap [] → W p l e (z_rm n) s m av.toArray below meth c s.heap [] 0 0 (z_Q G below av.toArray s ov M') (entryFrame m av.toArray maxL)) : z_T l G n y (.code y bytes maxL ret) av M ov M' := by
  refine Met.ofW (cc := bytes) (maxL := maxL) (ret := ret) hy rfl ?_
  intro p e s m args below meth c s₁ B hml hv
  obtain ⟨rfl, hK, hw⟩ := hv
  have hts := atoms_spec (ws := Cond.code y bytes maxL ret :: z_om) B.pre
  exact body p e s m below meth c ⟨B.exec, B.bytes, hml, findClass_of_methodNamed B.named, fun w h => hts w (List.mem_cons_of_mem _ h), B.returns, B.notSynchronized, hK⟩ hw

theorem z_min {index : Nat} (X : z_C G p s m args meth c cc nL own rt) (hl : Cond.methodLink own index Lib.Math.min.name ∈ z_om) (h2 : Cond.static Lib.Math.min.name ∈ z_om) (h3 : Cond.initialized "java/lang/Math" ∈ z_om) (h4 : Cond.code Lib.Math.min.name Lib.Math.min.code 2 (some .int) ∈ z_om) (hls : ls.size = nL) (hf : cells ≤ R.cells ∧ slots ≤ R.slots) (hR : 1 ≤ R.frames ∧ (rest.map fun v => v.category).sum + 13 ≤ R.locals) {x y : Int32} (hdg : decode cc pc = .ok (.invokestatic index, 3))
    (kk : W p l e R s m args below meth c H locs cells slots Q (F0 m (pc + 3) ls (.int (if y < x then y else x) :: rest))) : W p l e R s m args below meth c H locs cells slots Q (F0 m pc ls (.int y :: .int x :: rest)) :=
  va_mmin X.1 X.2.1 (X.2.2.1.trans hls.symm) X.2.2.2.1 (X.2.2.2.2.1 _ hl) (X.2.2.2.2.1 _ h2) (X.2.2.2.2.1 _ h3) (X.2.2.2.2.1 _ h4) hR.1 hR.2 hf.1 hf.2 hdg kk
theorem z_max {index : Nat} (X : z_C G p s m args meth c cc nL own rt) (hl : Cond.methodLink own index Lib.Math.max.name ∈ z_om) (h2 : Cond.static Lib.Math.max.name ∈ z_om) (h3 : Cond.initialized "java/lang/Math" ∈ z_om) (h4 : Cond.code Lib.Math.max.name Lib.Math.max.code 2 (some .int) ∈ z_om) (hls : ls.size = nL) (hf : cells ≤ R.cells ∧ slots ≤ R.slots) (hR : 1 ≤ R.frames ∧ (rest.map fun v => v.category).sum + 13 ≤ R.locals) {x y : Int32} (hdg : decode cc pc = .ok (.invokestatic index, 3))
    (kk : W p l e R s m args below meth c H locs cells slots Q (F0 m (pc + 3) ls (.int (if x < y then y else x) :: rest))) : W p l e R s m args below meth c H locs cells slots Q (F0 m pc ls (.int y :: .int x :: rest)) :=
  va_mmax X.1 X.2.1 (X.2.2.1.trans hls.symm) X.2.2.2.1 (X.2.2.2.2.1 _ hl) (X.2.2.2.2.1 _ h2) (X.2.2.2.2.1 _ h3) (X.2.2.2.2.1 _ h4) hR.1 hR.2 hf.1 hf.2 hdg kk
theorem z_copy {index a b n0 n1 : Nat} (X : z_C G p s m args meth c cc nL own rt) (hw : z_W G M H locs) (hl : Cond.methodLink own index arraycopyName ∈ z_om) (h2 : Cond.native arraycopyName ∈ z_om) (h3 : Cond.static arraycopyName ∈ z_om) (h4 : Cond.initialized "java/lang/System" ∈ z_om) (hls : ls.size = nL) (ha : z_kd a = 13) (hna : z_ln a = n0) (hb : z_kd b = 13) (hnb : z_ln b = n1) {sp dp n : Int32} (g : (¬ sp < 0 ∧ ¬ dp < 0 ∧ ¬ n < 0) ∧ sp.toNatClampNeg + n.toNatClampNeg ≤ n0 ∧ dp.toNatClampNeg + n.toNatClampNeg ≤ n1) (hR : 1 ≤ R.frames ∧ (rest.map fun v => v.category).sum + (nativeFrameWords "java/lang/System" "arraycopy" 5 + 11) ≤ R.locals) (hdg : decode cc pc = .ok (.invokestatic index, 3))
    (kk : ∀ (H1 : Heap) (locs1 : List Loc), z_W G (z_cp M a sp.toNatClampNeg b dp.toNatClampNeg n.toNatClampNeg) H1 locs1 → W p l e R s m args below meth c H1 locs1 cells slots Q (F0 m (pc + 3) ls rest)) : W p l e R s m args below meth c H locs cells slots Q (F0 m pc ls (.int n :: .int dp :: .ref (G.1 b) :: .int sp :: .ref (G.1 a) :: rest)) := by
  subst hna
  subst hnb
  have hlb := z_lt hb (by decide)
  refine va_copyi X.1 X.2.1 (X.2.2.1.trans hls.symm) X.2.2.2.1 (X.2.2.2.2.1 _ hl) (X.2.2.2.2.1 _ h2) (X.2.2.2.2.1 _ h3) (X.2.2.2.2.1 _ h4) X.2.2.2.2.2.2.2.1 hw.1 hw.2.1 hw.2.2 a b 1 1 (by rw [z_at G M (z_lt ha (by decide)), z_E, z_E13 ha]) (by rw [z_at G M hlb, z_E, z_E13 hb]) rfl rfl rfl g.1.1 g.1.2.1 g.1.2.2 g.2.1 g.2.2 (fun _ _ => rfl) hR.1 hR.2 hdg (fun H1 locs1 h1 h2 h3 => ?_)
  have e := z_set (G := G) (M := M) (M' := z_cp M a sp.toNatClampNeg b dp.toNatClampNeg n.toNatClampNeg) hlb (by rw [z_E, z_E13 hb, z_cp_self]) (z_cp_ne G)
  rw [e] at h1 h2
  exact kk H1 locs1 ⟨h1, h2, h3⟩
theorem z_cvI {r : Int32} {n nA maxL index ci N k : Nat} {C : String} {T : u_T} {y : MethodName} {bytes : ByteArray} {ret : Option FieldType} {As st0 : List Value} (X : z_C G p s m args meth c cc nL own rt) (hw : z_W G M H locs)
    (hC : z_T l G n y (.code y bytes maxL ret) (.ref (G.1 k) :: As) M (some (.int r)) M') {fs : List Value} (hk : k < 291) (he : z_E G M k = .inr (ci, fs)) (hc : vwCl[ci]? = some (C, T, N))
    (h1 : Cond.methodLink own index y ∈ z_om) (h2 : Cond.instanceMethod y ∈ z_om) (h3 : Cond.selects C y y ∈ z_om) (h4 : Cond.initialized C ∈ z_om) (h5 : Cond.code y bytes maxL ret ∈ z_om)
    (hd : y.cls = C ∧ y.cls ≠ "java/lang/invoke/MethodHandle" ∧ y.cls ≠ "java/lang/invoke/VarHandle" ∧ (parseMethodDescriptor y.desc).map (fun d => d.parameters.length) = some nA) (hR : (z_rm n).frames + 1 ≤ R.frames ∧ 8 + (maxL + 11) + (z_rm n).locals ≤ R.locals) (hA : As.length = nA) (hls : ls.size = nL) (hst : st0 = As.reverse ++ .ref (G.1 k) :: rest) (hrm : (rest.map fun v => v.category).sum ≤ 8) (hdg : decode cc pc = .ok (.invokevirtual index, 3)) (hf : cells ≤ R.cells ∧ slots ≤ R.slots)
    (kk : ∀ (H1 : Heap) (locs1 : List Loc), z_W G M' H1 locs1 → W p l e R s m args below meth c H1 locs1 cells slots Q (F0 m (pc + 3) ls (.int r :: rest))) : W p l e R s m args below meth c H locs cells slots Q (F0 m pc ls st0) := z_cv X hw hC hk he hc h1 h2 h3 h4 h5 hd hR hA hls hst hrm hdg hf kk
theorem z_cvJ {r : Int64} {n nA maxL index ci N k : Nat} {C : String} {T : u_T} {y : MethodName} {bytes : ByteArray} {ret : Option FieldType} {As st0 : List Value} (X : z_C G p s m args meth c cc nL own rt) (hw : z_W G M H locs)
    (hC : z_T l G n y (.code y bytes maxL ret) (.ref (G.1 k) :: As) M (some (.long r)) M') {fs : List Value} (hk : k < 291) (he : z_E G M k = .inr (ci, fs)) (hc : vwCl[ci]? = some (C, T, N))
    (h1 : Cond.methodLink own index y ∈ z_om) (h2 : Cond.instanceMethod y ∈ z_om) (h3 : Cond.selects C y y ∈ z_om) (h4 : Cond.initialized C ∈ z_om) (h5 : Cond.code y bytes maxL ret ∈ z_om)
    (hd : y.cls = C ∧ y.cls ≠ "java/lang/invoke/MethodHandle" ∧ y.cls ≠ "java/lang/invoke/VarHandle" ∧ (parseMethodDescriptor y.desc).map (fun d => d.parameters.length) = some nA) (hR : (z_rm n).frames + 1 ≤ R.frames ∧ 8 + (maxL + 11) + (z_rm n).locals ≤ R.locals) (hA : As.length = nA) (hls : ls.size = nL) (hst : st0 = As.reverse ++ .ref (G.1 k) :: rest) (hrm : (rest.map fun v => v.category).sum ≤ 8) (hdg : decode cc pc = .ok (.invokevirtual index, 3)) (hf : cells ≤ R.cells ∧ slots ≤ R.slots)
    (kk : ∀ (H1 : Heap) (locs1 : List Loc), z_W G M' H1 locs1 → W p l e R s m args below meth c H1 locs1 cells slots Q (F0 m (pc + 3) ls (.long r :: rest))) : W p l e R s m args below meth c H locs cells slots Q (F0 m pc ls st0) := z_cv X hw hC hk he hc h1 h2 h3 h4 h5 hd hR hA hls hst hrm hdg hf kk
theorem z_cvV {n nA maxL index ci N k : Nat} {C : String} {T : u_T} {y : MethodName} {bytes : ByteArray} {ret : Option FieldType} {As st0 : List Value} (X : z_C G p s m args meth c cc nL own rt) (hw : z_W G M H locs)
    (hC : z_T l G n y (.code y bytes maxL ret) (.ref (G.1 k) :: As) M (none) M') {fs : List Value} (hk : k < 291) (he : z_E G M k = .inr (ci, fs)) (hc : vwCl[ci]? = some (C, T, N))
    (h1 : Cond.methodLink own index y ∈ z_om) (h2 : Cond.instanceMethod y ∈ z_om) (h3 : Cond.selects C y y ∈ z_om) (h4 : Cond.initialized C ∈ z_om) (h5 : Cond.code y bytes maxL ret ∈ z_om)
    (hd : y.cls = C ∧ y.cls ≠ "java/lang/invoke/MethodHandle" ∧ y.cls ≠ "java/lang/invoke/VarHandle" ∧ (parseMethodDescriptor y.desc).map (fun d => d.parameters.length) = some nA) (hR : (z_rm n).frames + 1 ≤ R.frames ∧ 8 + (maxL + 11) + (z_rm n).locals ≤ R.locals) (hA : As.length = nA) (hls : ls.size = nL) (hst : st0 = As.reverse ++ .ref (G.1 k) :: rest) (hrm : (rest.map fun v => v.category).sum ≤ 8) (hdg : decode cc pc = .ok (.invokevirtual index, 3)) (hf : cells ≤ R.cells ∧ slots ≤ R.slots)
    (kk : ∀ (H1 : Heap) (locs1 : List Loc), z_W G M' H1 locs1 → W p l e R s m args below meth c H1 locs1 cells slots Q (F0 m (pc + 3) ls (rest))) : W p l e R s m args below meth c H locs cells slots Q (F0 m pc ls st0) := z_cv X hw hC hk he hc h1 h2 h3 h4 h5 hd hR hA hls hst hrm hdg hf kk
theorem z_csI {r : Int32} {n nA maxL index : Nat} {y : MethodName} {bytes : ByteArray} {ret : Option FieldType} {As st0 : List Value} (X : z_C G p s m args meth c cc nL own rt) (hw : z_W G M H locs)
    (hC : z_T l G n y (.code y bytes maxL ret) As M (some (.int r)) M')
    (h1 : Cond.methodLink own index y ∈ z_om) (h2 : Cond.static y ∈ z_om) (h4 : Cond.initialized y.cls ∈ z_om) (h5 : Cond.code y bytes maxL ret ∈ z_om)
    (hd : y.cls ≠ "java/lang/invoke/MethodHandle" ∧ y.cls ≠ "java/lang/invoke/VarHandle" ∧ (parseMethodDescriptor y.desc).map (fun d => d.parameters.length) = some nA) (hR : (z_rm n).frames + 1 ≤ R.frames ∧ 8 + (maxL + 11) + (z_rm n).locals ≤ R.locals) (hA : As.length = nA) (hls : ls.size = nL) (hst : st0 = As.reverse ++ rest) (hrm : (rest.map fun v => v.category).sum ≤ 8) (hdg : decode cc pc = .ok (.invokestatic index, 3)) (hf : cells ≤ R.cells ∧ slots ≤ R.slots)
    (kk : ∀ (H1 : Heap) (locs1 : List Loc), z_W G M' H1 locs1 → W p l e R s m args below meth c H1 locs1 cells slots Q (F0 m (pc + 3) ls (.int r :: rest))) : W p l e R s m args below meth c H locs cells slots Q (F0 m pc ls st0) := z_cs X hw hC h1 h2 h4 h5 hd hR hA hls hst hrm hdg hf kk
theorem z_csJ {r : Int64} {n nA maxL index : Nat} {y : MethodName} {bytes : ByteArray} {ret : Option FieldType} {As st0 : List Value} (X : z_C G p s m args meth c cc nL own rt) (hw : z_W G M H locs)
    (hC : z_T l G n y (.code y bytes maxL ret) As M (some (.long r)) M')
    (h1 : Cond.methodLink own index y ∈ z_om) (h2 : Cond.static y ∈ z_om) (h4 : Cond.initialized y.cls ∈ z_om) (h5 : Cond.code y bytes maxL ret ∈ z_om)
    (hd : y.cls ≠ "java/lang/invoke/MethodHandle" ∧ y.cls ≠ "java/lang/invoke/VarHandle" ∧ (parseMethodDescriptor y.desc).map (fun d => d.parameters.length) = some nA) (hR : (z_rm n).frames + 1 ≤ R.frames ∧ 8 + (maxL + 11) + (z_rm n).locals ≤ R.locals) (hA : As.length = nA) (hls : ls.size = nL) (hst : st0 = As.reverse ++ rest) (hrm : (rest.map fun v => v.category).sum ≤ 8) (hdg : decode cc pc = .ok (.invokestatic index, 3)) (hf : cells ≤ R.cells ∧ slots ≤ R.slots)
    (kk : ∀ (H1 : Heap) (locs1 : List Loc), z_W G M' H1 locs1 → W p l e R s m args below meth c H1 locs1 cells slots Q (F0 m (pc + 3) ls (.long r :: rest))) : W p l e R s m args below meth c H locs cells slots Q (F0 m pc ls st0) := z_cs X hw hC h1 h2 h4 h5 hd hR hA hls hst hrm hdg hf kk
theorem z_csV {n nA maxL index : Nat} {y : MethodName} {bytes : ByteArray} {ret : Option FieldType} {As st0 : List Value} (X : z_C G p s m args meth c cc nL own rt) (hw : z_W G M H locs)
    (hC : z_T l G n y (.code y bytes maxL ret) As M (none) M')
    (h1 : Cond.methodLink own index y ∈ z_om) (h2 : Cond.static y ∈ z_om) (h4 : Cond.initialized y.cls ∈ z_om) (h5 : Cond.code y bytes maxL ret ∈ z_om)
    (hd : y.cls ≠ "java/lang/invoke/MethodHandle" ∧ y.cls ≠ "java/lang/invoke/VarHandle" ∧ (parseMethodDescriptor y.desc).map (fun d => d.parameters.length) = some nA) (hR : (z_rm n).frames + 1 ≤ R.frames ∧ 8 + (maxL + 11) + (z_rm n).locals ≤ R.locals) (hA : As.length = nA) (hls : ls.size = nL) (hst : st0 = As.reverse ++ rest) (hrm : (rest.map fun v => v.category).sum ≤ 8) (hdg : decode cc pc = .ok (.invokestatic index, 3)) (hf : cells ≤ R.cells ∧ slots ≤ R.slots)
    (kk : ∀ (H1 : Heap) (locs1 : List Loc), z_W G M' H1 locs1 → W p l e R s m args below meth c H1 locs1 cells slots Q (F0 m (pc + 3) ls (rest))) : W p l e R s m args below meth c H locs cells slots Q (F0 m pc ls st0) := z_cs X hw hC h1 h2 h4 h5 hd hR hA hls hst hrm hdg hf kk
theorem z_csnI {r : Int32} {n nA maxL index : Nat} {host : String} {y : MethodName} {bytes : ByteArray} {ret : Option FieldType} {As st0 : List Value} (X : z_C G p s m args meth c cc nL own rt) (hw : z_W G M H locs)
    (hC : z_T l G n y (.code y bytes maxL ret) As M (some (.int r)) M')
    (h1 : Cond.methodLinkNest own index y host ∈ z_nest) (h2 : Cond.static y ∈ z_om) (h4 : Cond.initialized y.cls ∈ z_om) (h5 : Cond.code y bytes maxL ret ∈ z_om)
    (hd : y.cls ≠ "java/lang/invoke/MethodHandle" ∧ y.cls ≠ "java/lang/invoke/VarHandle" ∧ (parseMethodDescriptor y.desc).map (fun d => d.parameters.length) = some nA) (hR : (z_rm n).frames + 1 ≤ R.frames ∧ 8 + (maxL + 11) + (z_rm n).locals ≤ R.locals) (hA : As.length = nA) (hls : ls.size = nL) (hst : st0 = As.reverse ++ rest) (hrm : (rest.map fun v => v.category).sum ≤ 8) (hdg : decode cc pc = .ok (.invokestatic index, 3)) (hf : cells ≤ R.cells ∧ slots ≤ R.slots)
    (kk : ∀ (H1 : Heap) (locs1 : List Loc), z_W G M' H1 locs1 → W p l e R s m args below meth c H1 locs1 cells slots Q (F0 m (pc + 3) ls (.int r :: rest))) : W p l e R s m args below meth c H locs cells slots Q (F0 m pc ls st0) := z_csn X hw hC h1 h2 h4 h5 hd hR hA hls hst hrm hdg hf kk
theorem z_csnJ {r : Int64} {n nA maxL index : Nat} {host : String} {y : MethodName} {bytes : ByteArray} {ret : Option FieldType} {As st0 : List Value} (X : z_C G p s m args meth c cc nL own rt) (hw : z_W G M H locs)
    (hC : z_T l G n y (.code y bytes maxL ret) As M (some (.long r)) M')
    (h1 : Cond.methodLinkNest own index y host ∈ z_nest) (h2 : Cond.static y ∈ z_om) (h4 : Cond.initialized y.cls ∈ z_om) (h5 : Cond.code y bytes maxL ret ∈ z_om)
    (hd : y.cls ≠ "java/lang/invoke/MethodHandle" ∧ y.cls ≠ "java/lang/invoke/VarHandle" ∧ (parseMethodDescriptor y.desc).map (fun d => d.parameters.length) = some nA) (hR : (z_rm n).frames + 1 ≤ R.frames ∧ 8 + (maxL + 11) + (z_rm n).locals ≤ R.locals) (hA : As.length = nA) (hls : ls.size = nL) (hst : st0 = As.reverse ++ rest) (hrm : (rest.map fun v => v.category).sum ≤ 8) (hdg : decode cc pc = .ok (.invokestatic index, 3)) (hf : cells ≤ R.cells ∧ slots ≤ R.slots)
    (kk : ∀ (H1 : Heap) (locs1 : List Loc), z_W G M' H1 locs1 → W p l e R s m args below meth c H1 locs1 cells slots Q (F0 m (pc + 3) ls (.long r :: rest))) : W p l e R s m args below meth c H locs cells slots Q (F0 m pc ls st0) := z_csn X hw hC h1 h2 h4 h5 hd hR hA hls hst hrm hdg hf kk
theorem z_csnV {n nA maxL index : Nat} {host : String} {y : MethodName} {bytes : ByteArray} {ret : Option FieldType} {As st0 : List Value} (X : z_C G p s m args meth c cc nL own rt) (hw : z_W G M H locs)
    (hC : z_T l G n y (.code y bytes maxL ret) As M (none) M')
    (h1 : Cond.methodLinkNest own index y host ∈ z_nest) (h2 : Cond.static y ∈ z_om) (h4 : Cond.initialized y.cls ∈ z_om) (h5 : Cond.code y bytes maxL ret ∈ z_om)
    (hd : y.cls ≠ "java/lang/invoke/MethodHandle" ∧ y.cls ≠ "java/lang/invoke/VarHandle" ∧ (parseMethodDescriptor y.desc).map (fun d => d.parameters.length) = some nA) (hR : (z_rm n).frames + 1 ≤ R.frames ∧ 8 + (maxL + 11) + (z_rm n).locals ≤ R.locals) (hA : As.length = nA) (hls : ls.size = nL) (hst : st0 = As.reverse ++ rest) (hrm : (rest.map fun v => v.category).sum ≤ 8) (hdg : decode cc pc = .ok (.invokestatic index, 3)) (hf : cells ≤ R.cells ∧ slots ≤ R.slots)
    (kk : ∀ (H1 : Heap) (locs1 : List Loc), z_W G M' H1 locs1 → W p l e R s m args below meth c H1 locs1 cells slots Q (F0 m (pc + 3) ls (rest))) : W p l e R s m args below meth c H locs cells slots Q (F0 m pc ls st0) := z_csn X hw hC h1 h2 h4 h5 hd hR hA hls hst hrm hdg hf kk
end ZC

