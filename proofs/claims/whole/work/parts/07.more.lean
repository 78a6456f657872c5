theorem z_lv {a b maxL : Nat} (h : a < b) (hm : maxL ≤ 21) : (z_rm a).frames + 1 ≤ (z_rm b).frames ∧ 8 + (maxL + 11) + (z_rm a).locals ≤ (z_rm b).locals := by
  unfold z_rm
  constructor
  · show a + 1 + 1 ≤ b + 1
    omega
  · show 8 + (maxL + 11) + 40 * (a + 1) ≤ 40 * (b + 1)
    omega
theorem z_lm {n k : Nat} (h : k ≤ 8) : 1 ≤ (z_rm n).frames ∧ k + 13 ≤ (z_rm n).locals := by
  unfold z_rm
  constructor
  · show 1 ≤ n + 1
    omega
  · show k + 13 ≤ 40 * (n + 1)
    omega
theorem z_lm5 {n k : Nat} (h : k ≤ 8) : 1 ≤ (z_rm n).frames ∧ k + 15 ≤ (z_rm n).locals := by
  unfold z_rm
  constructor
  · show 1 ≤ n + 1
    omega
  · show k + 15 ≤ 40 * (n + 1)
    omega
theorem z_l1 {n : Nat} : 1 ≤ (z_rm n).frames := Nat.le_add_left 1 n
theorem z_l2 {n : Nat} : (([] : List Value).map fun v => v.category).sum + (nativeFrameWords "java/lang/System" "arraycopy" 5 + 11) ≤ (z_rm n).locals := by
  have h : nativeFrameWords "java/lang/System" "arraycopy" 5 ≤ 29 := by decide +kernel
  show 0 + (nativeFrameWords "java/lang/System" "arraycopy" 5 + 11) ≤ 40 * (n + 1)
  omega
section ZM
variable {G : zG} {p : Program} {l : Launch} {e : Env} {R : Room} {s : State} {m : MethodId} {args : Array Value} {below : List Frame} {meth : Method} {c : Code} {H : Heap} {locs : List Loc} {cells slots : Nat} {Q : State → Prop}
variable {cc : ByteArray} {nL : Nat} {own : String} {rt : Option FieldType} {pc : Nat} {ls : Array Slot} {rest : List Value} {M M' : zM}
theorem z_abs {n index : Nat} (X : z_C G p s m args meth c cc nL own rt) (hl : Cond.methodLink own index Lib.Math.abs.name ∈ z_om) (h2 : Cond.static Lib.Math.abs.name ∈ z_om) (h3 : Cond.initialized "java/lang/Math" ∈ z_om) (h4 : Cond.code Lib.Math.abs.name Lib.Math.abs.code 1 (some .int) ∈ z_om) (hls : ls.size = nL) (hf : cells ≤ (z_rm n).cells ∧ slots ≤ (z_rm n).slots) (hR : 1 ≤ (z_rm n).frames ∧ (rest.map fun v => v.category).sum + 13 ≤ (z_rm n).locals) {x : Int32} (hdg : decode cc pc = .ok (.invokestatic index, 3))
    (kk : W p l e (z_rm n) s m args below meth c H locs cells slots Q (F0 m (pc + 3) ls (.int (if 0 ≤ x then x else 0 - x) :: rest))) : W p l e (z_rm n) s m args below meth c H locs cells slots Q (F0 m pc ls (.int x :: rest)) :=
  va_mabs X.1 X.2.1 (X.2.2.1.trans hls.symm) X.2.2.2.1 (X.2.2.2.2.1 _ hl) (X.2.2.2.2.1 _ h2) (X.2.2.2.2.1 _ h3) (X.2.2.2.2.1 _ h4) hR.1 hR.2 hf.1 hf.2 hdg kk
theorem z_absl {n index : Nat} (X : z_C G p s m args meth c cc nL own rt) (hl : Cond.methodLink own index Lib.MathLoose.abs_long.x ∈ z_om) (h2 : Cond.static Lib.MathLoose.abs_long.x ∈ z_om) (h3 : Cond.initialized "java/lang/Math" ∈ z_om) (h4 : Cond.code Lib.MathLoose.abs_long.x Lib.MathLoose.abs_long.code 2 (some .long) ∈ z_om) (hls : ls.size = nL) (hf : cells ≤ (z_rm n).cells ∧ slots ≤ (z_rm n).slots) (hR : 1 ≤ (z_rm n).frames ∧ (rest.map fun v => v.category).sum + 13 ≤ (z_rm n).locals) {x : Int64} (hdg : decode cc pc = .ok (.invokestatic index, 3))
    (kk : W p l e (z_rm n) s m args below meth c H locs cells slots Q (F0 m (pc + 3) ls (.long (if 0 < x then x else -x) :: rest))) : W p l e (z_rm n) s m args below meth c H locs cells slots Q (F0 m pc ls (.long x :: rest)) :=
  va_mabs_long X.1 X.2.1 (X.2.2.1.trans hls.symm) X.2.2.2.1 (X.2.2.2.2.1 _ hl) (X.2.2.2.2.1 _ h2) (X.2.2.2.2.1 _ h3) (X.2.2.2.2.1 _ h4) hR.1 hR.2 hf.1 hf.2 hdg kk
theorem z_maxl {n index : Nat} (X : z_C G p s m args meth c cc nL own rt) (hl : Cond.methodLink own index Lib.MathLoose.max_long.x ∈ z_om) (h2 : Cond.static Lib.MathLoose.max_long.x ∈ z_om) (h3 : Cond.initialized "java/lang/Math" ∈ z_om) (h4 : Cond.code Lib.MathLoose.max_long.x Lib.MathLoose.max_long.code 4 (some .long) ∈ z_om) (hls : ls.size = nL) (hf : cells ≤ (z_rm n).cells ∧ slots ≤ (z_rm n).slots) (hR : 1 ≤ (z_rm n).frames ∧ (rest.map fun v => v.category).sum + 13 ≤ (z_rm n).locals) {x y : Int64} (hm : (rest.map fun v => v.category).sum ≤ 8) (hdg : decode cc pc = .ok (.invokestatic index, 3))
    (kk : W p l e (z_rm n) s m args below meth c H locs cells slots Q (F0 m (pc + 3) ls (.long (if y < x then x else y) :: rest))) : W p l e (z_rm n) s m args below meth c H locs cells slots Q (F0 m pc ls (.long y :: .long x :: rest)) :=
  va_mmax_long X.1 X.2.1 (X.2.2.1.trans hls.symm) X.2.2.2.1 (X.2.2.2.2.1 _ hl) (X.2.2.2.2.1 _ h2) (X.2.2.2.2.1 _ h3) (X.2.2.2.2.1 _ h4) hR.1 (by have h1 : 40 * (n + 1) = (z_rm n).locals := rfl; have h2 := hR.2; have h3 := hm; omega) hf.1 hf.2 hdg kk
/-- a static array of old -/
theorem z_gT0 {index : Nat} (X : z_C G p s m args meth c cc nL own rt) (hw : z_W G M H locs) (hl : Cond.fieldLinkNest own index "DrinkingRoofs" "STRENGTH" "[I" "DrinkingRoofs" ∈ z_nest) (hdg : decode cc pc = .ok (.getstatic index, 3))
    (kk : W p l e R s m args below meth c H locs cells slots Q (F0 m (pc + 3) ls (.ref (z_sa G 0) :: rest))) : W p l e R s m args below meth c H locs cells slots Q (F0 m pc ls rest) := by
  obtain ⟨cf, kf, fi, f, a, cell, h1, h2, h3, h4, h5, h6, h7, h8⟩ := X.2.2.2.2.2.2.2.2.2.1
  exact va_WgetsN X.1 X.2.1 X.2.2.2.1 (va_Nw.use rfl (X.2.2.2.2.2.2.2.2.1 _ hl)) h1 h2 h3 h4 (by rw [hw.2.2.2.1 a (Array.getElem?_eq_some_iff.mp h5).1 h8]; exact h5) (fun e => by rw [e] at h6; cases h6) h7 rfl hdg kk
theorem z_gT1 {index : Nat} (X : z_C G p s m args meth c cc nL own rt) (hw : z_W G M H locs) (hl : Cond.fieldLinkNest own index "DrinkingRoofs" "ORDERS" "[I" "DrinkingRoofs" ∈ z_nest) (hdg : decode cc pc = .ok (.getstatic index, 3))
    (kk : W p l e R s m args below meth c H locs cells slots Q (F0 m (pc + 3) ls (.ref (z_sa G 1) :: rest))) : W p l e R s m args below meth c H locs cells slots Q (F0 m pc ls rest) := by
  obtain ⟨cf, kf, fi, f, a, cell, h1, h2, h3, h4, h5, h6, h7, h8⟩ := X.2.2.2.2.2.2.2.2.2.2.2.1
  exact va_WgetsN X.1 X.2.1 X.2.2.2.1 (va_Nw.use rfl (X.2.2.2.2.2.2.2.2.1 _ hl)) h1 h2 h3 h4 (by rw [hw.2.2.2.1 a (Array.getElem?_eq_some_iff.mp h5).1 h8]; exact h5) (fun e => by rw [e] at h6; cases h6) h7 rfl hdg kk
theorem z_gCS {index : Nat} (X : z_C G p s m args meth c cc nL own rt) (hw : z_W G M H locs) (hl : Cond.fieldLink own index "java/lang/String" "COMPACT_STRINGS" "Z" ∈ z_om) (hdg : decode cc pc = .ok (.getstatic index, 3))
    (kk : W p l e R s m args below meth c H locs cells slots Q (F0 m (pc + 3) ls (.int 1 :: rest))) : W p l e R s m args below meth c H locs cells slots Q (F0 m pc ls rest) := by
  obtain ⟨cf, kf, fi, f, a, cell, h1, h2, h3, h4, h5, h6, h7, h8⟩ := X.2.2.2.2.2.2.2.2.2.2.2.2.2.1
  exact W.gets X.1 X.2.1 X.2.2.2.1 (X.2.2.2.2.1 _ hl) h1 h2 h3 h4 (by rw [hw.2.2.2.1 a (Array.getElem?_eq_some_iff.mp h5).1 h8]; exact h5) (fun e => by rw [e] at h6; cases h6) h7 rfl hdg kk
theorem z_ti {t N : Nat} {f : Nat → Value} (hx : p.tables.exec = Jvm.exec) (hb : c.code = cc) (hT : va_T .int t N f (z_A G) s G.2.2.2.1) (hw : z_W G M H locs) {i : Int32} (hin : vp_in i N) {v : Value} (hv : f i.toNatClampNeg = v) (hdg : decode cc pc = .ok (.iaload, 1))
    (kk : W p l e R s m args below meth c H locs cells slots Q (F0 m (pc + 1) ls (v :: rest))) : W p l e R s m args below meth c H locs cells slots Q (F0 m pc ls (.int i :: .ref t :: rest)) := by
  obtain ⟨cell, h1, h2, h3, h4, h5, h6, h7⟩ := hT
  have hlt : i.toNatClampNeg < N := Nat.not_le.mp fun q => hin (Or.inr q)
  have hin' : ¬ (i < 0 ∨ cell.slots.size ≤ i.toNatClampNeg) := by
    intro q
    rcases q with q | q
    · exact hin (Or.inl q)
    · omega
  exact W.iald (v := v) hx hb (by rw [hw.2.2.2.1 t (Array.getElem?_eq_some_iff.mp h1).1 h7]; exact h1) h2 h3 hin' (by rw [h6 _ hlt, hv]) rfl rfl hdg kk
theorem z_iaT0 (X : z_C G p s m args meth c cc nL own rt) (hw : z_W G M H locs) {i : Int32} (hin : vp_in i 26) (hdg : decode cc pc = .ok (.iaload, 1))
    (kk : W p l e R s m args below meth c H locs cells slots Q (F0 m (pc + 1) ls (.int (z_stL.getD i.toNatClampNeg 0) :: rest))) : W p l e R s m args below meth c H locs cells slots Q (F0 m pc ls (.int i :: .ref (z_sa G 0) :: rest)) := z_ti X.1 X.2.1 X.2.2.2.2.2.2.2.2.2.2.1 hw hin rfl hdg kk
theorem z_iaT1 (X : z_C G p s m args meth c cc nL own rt) (hw : z_W G M H locs) {i : Int32} (hin : vp_in i 8) (hdg : decode cc pc = .ok (.iaload, 1))
    (kk : W p l e R s m args below meth c H locs cells slots Q (F0 m (pc + 1) ls (.int (z_orL.getD i.toNatClampNeg 0) :: rest))) : W p l e R s m args below meth c H locs cells slots Q (F0 m pc ls (.int i :: .ref (z_sa G 1) :: rest)) := z_ti X.1 X.2.1 X.2.2.2.2.2.2.2.2.2.2.2.2.1 hw hin rfl hdg kk
/-- texts of old -/
theorem z_txt (X : z_C G p s m args meth c cc nL own rt) : vk_S 15 z_len z_byt (z_ka G) (z_va G) (z_A G) s G.2.2.2.1 := X.2.2.2.2.2.2.2.2.2.2.2.2.2.2.1
theorem z_ldcS (X : z_C G p s m args meth c cc nL own rt) (i : Nat) (hi : i < 15) {index : Nat} (hz : (z_sn i).1 = own ∧ (z_sn i).2.1 = index) (hdg : decode cc pc = .ok (.ldc index, 2))
    (kk : W p l e R s m args below meth c H locs cells slots Q (F0 m (pc + 2) ls (.ref (z_ka G i) :: rest))) : W p l e R s m args below meth c H locs cells slots Q (F0 m pc ls rest) := by
  have h := X.2.2.2.2.2.2.2.2.2.2.2.2.2.2.2.1 i hi
  rw [hz.1, hz.2] at h
  exact va_ldcS X.1 X.2.1 X.2.2.2.1 h hdg kk
theorem z_gS_value (X : z_C G p s m args meth c cc nL own rt) (hw : z_W G M H locs) {i index : Nat} (hi : i < 15) (hl : Cond.fieldLink own index "java/lang/String" "value" "[B" ∈ z_om) (hdg : decode cc pc = .ok (.getfield index, 3))
    (kk : W p l e R s m args below meth c H locs cells slots Q (F0 m (pc + 3) ls (.ref (z_va G i) :: rest))) : W p l e R s m args below meth c H locs cells slots Q (F0 m pc ls (.ref (z_ka G i) :: rest)) := by
  obtain ⟨cf, k, fi, f, cell, h1, h2, h3, h4, h5, h6⟩ := ((z_txt X).1 i hi).2.2.1.kept hw.2.2.2.1
  exact W.getf X.1 X.2.1 X.2.2.2.1 (X.2.2.2.2.1 _ hl) h1 h2 h3 h4 (v := .ref (z_va G i)) h5 rfl rfl hdg kk
theorem z_gS_coder (X : z_C G p s m args meth c cc nL own rt) (hw : z_W G M H locs) {i index : Nat} (hi : i < 15) (hl : Cond.fieldLink own index "java/lang/String" "coder" "B" ∈ z_om) (hdg : decode cc pc = .ok (.getfield index, 3))
    (kk : W p l e R s m args below meth c H locs cells slots Q (F0 m (pc + 3) ls (.int 0 :: rest))) : W p l e R s m args below meth c H locs cells slots Q (F0 m pc ls (.ref (z_ka G i) :: rest)) := by
  obtain ⟨cf, k, fi, f, cell, h1, h2, h3, h4, h5, h6⟩ := ((z_txt X).1 i hi).2.1.kept hw.2.2.2.1
  exact W.getf X.1 X.2.1 X.2.2.2.1 (X.2.2.2.2.1 _ hl) h1 h2 h3 h4 (v := .int 0) h5 rfl rfl hdg kk
theorem z_baldS (X : z_C G p s m args meth c cc nL own rt) (hw : z_W G M H locs) {t : Nat} (ht : t < 15) {i : Int32} (hin : vp_in i (z_len.getD t 0)) (hdg : decode cc pc = .ok (.baload, 1))
    (kk : W p l e R s m args below meth c H locs cells slots Q (F0 m (pc + 1) ls (.int ((z_byt.getD t []).getD i.toNatClampNeg 0) :: rest))) : W p l e R s m args below meth c H locs cells slots Q (F0 m pc ls (.int i :: .ref (z_va G t) :: rest)) := by
  obtain ⟨cell, h1, h2, h3, h4, h5, h6, h7⟩ := ((z_txt X).1 t ht).2.2.2
  have hlt : i.toNatClampNeg < z_len.getD t 0 := Nat.not_le.mp fun q => hin (Or.inr q)
  have hin' : ¬ (i < 0 ∨ cell.slots.size ≤ i.toNatClampNeg) := by
    intro q
    rcases q with q | q
    · exact hin (Or.inl q)
    · omega
  exact W.bald (v := .int ((z_byt.getD t []).getD i.toNatClampNeg 0)) X.1 X.2.1 (by rw [hw.2.2.2.1 _ (Array.getElem?_eq_some_iff.mp h1).1 h7]; exact h1) h2 h3 hin' (h6 _ hlt) rfl rfl hdg kk
theorem z_lenS (X : z_C G p s m args meth c cc nL own rt) (hw : z_W G M H locs) {t : Nat} (ht : t < 15) (hdg : decode cc pc = .ok (.arraylength, 1))
    (kk : W p l e R s m args below meth c H locs cells slots Q (F0 m (pc + 1) ls (.int (Int32.ofNat (z_len.getD t 0)) :: rest))) : W p l e R s m args below meth c H locs cells slots Q (F0 m pc ls (.ref (z_va G t) :: rest)) := by
  obtain ⟨cell, h1, h2, h3, h4, h5, h6, h7⟩ := ((z_txt X).1 t ht).2.2.2
  exact W.alen (n := Int32.ofNat (z_len.getD t 0)) X.1 X.2.1 (by rw [hw.2.2.2.1 _ (Array.getElem?_eq_some_iff.mp h1).1 h7]; exact h1) h2 h5 rfl rfl hdg kk
/-- invokevirtual of a text's method -/
theorem z_cvS {n nA maxL index i : Nat} {y : MethodName} {bytes : ByteArray} {ret : Option FieldType} {ov : Option Value} {As st0 : List Value} (X : z_C G p s m args meth c cc nL own rt) (hw : z_W G M H locs)
    (hC : z_T l G n y (.code y bytes maxL ret) (.ref (z_ka G i) :: As) M ov M') (hi : i < 15)
    (h1 : Cond.methodLink own index y ∈ z_om) (h2 : Cond.instanceMethod y ∈ z_om) (h3 : Cond.selects "java/lang/String" y y ∈ z_om) (h4 : Cond.initialized "java/lang/String" ∈ z_om) (h5 : Cond.code y bytes maxL ret ∈ z_om)
    (hd : y.cls = "java/lang/String" ∧ y.cls ≠ "java/lang/invoke/MethodHandle" ∧ y.cls ≠ "java/lang/invoke/VarHandle" ∧ (parseMethodDescriptor y.desc).map (fun d => d.parameters.length) = some nA) (hR : (z_rm n).frames + 1 ≤ R.frames ∧ 8 + (maxL + 11) + (z_rm n).locals ≤ R.locals) (hA : As.length = nA) (hls : ls.size = nL) (hst : st0 = As.reverse ++ .ref (z_ka G i) :: rest) (hrm : (rest.map fun v => v.category).sum ≤ 8) (hdg : decode cc pc = .ok (.invokevirtual index, 3)) (hf : cells ≤ R.cells ∧ slots ≤ R.slots)
    (kk : ∀ (H1 : Heap) (locs1 : List Loc), z_W G M' H1 locs1 → W p l e R s m args below meth c H1 locs1 cells slots Q (F0 m (pc + 3) ls (ov.toList ++ rest))) : W p l e R s m args below meth c H locs cells slots Q (F0 m pc ls st0) := by
  subst hst
  have hts := X.2.2.2.2.1
  have hG : GoodIn z_om (wsV own index "java/lang/String" y (.code y bytes maxL ret :: z_om)) := z_good2 (fun w h => by
    simp only [List.mem_cons, List.not_mem_nil, or_false] at h
    rcases h with rfl | rfl | rfl | rfl <;> assumption) (z_goodc h5)
  have hcell : ∃ cell : Cell, H[z_ka G i]? = some cell ∧ cell.vm.isStatics = false ∧ s.vm.findClass "java/lang/String" = some cell.cls := by
    obtain ⟨cell, q1, q2, q3, -⟩ := ((z_txt X).1 i hi).1.kept hw.2.2.2.1
    exact ⟨cell, q1, q2, q3⟩
  exact z_on hw (va_runV (As := As) (rest := rest) ⟨X.1, X.2.1, X.2.2.1, X.2.2.2.1, hts⟩ hC (cwV nA hts hG rfl rfl rfl hd hR) ⟨z_blind, hcell, z_pre X.2.2.2.2.2.2.2 hw⟩ rfl hA hls rfl (lv_room hrm) hdg hf) kk

theorem z_cvSI {r : Int32} {n nA maxL index i : Nat} {y : MethodName} {bytes : ByteArray} {ret : Option FieldType} {As st0 : List Value} (X : z_C G p s m args meth c cc nL own rt) (hw : z_W G M H locs)
    (hC : z_T l G n y (.code y bytes maxL ret) (.ref (z_ka G i) :: As) M (some (.int r)) M') (hi : i < 15)
    (h1 : Cond.methodLink own index y ∈ z_om) (h2 : Cond.instanceMethod y ∈ z_om) (h3 : Cond.selects "java/lang/String" y y ∈ z_om) (h4 : Cond.initialized "java/lang/String" ∈ z_om) (h5 : Cond.code y bytes maxL ret ∈ z_om)
    (hd : y.cls = "java/lang/String" ∧ y.cls ≠ "java/lang/invoke/MethodHandle" ∧ y.cls ≠ "java/lang/invoke/VarHandle" ∧ (parseMethodDescriptor y.desc).map (fun d => d.parameters.length) = some nA) (hR : (z_rm n).frames + 1 ≤ R.frames ∧ 8 + (maxL + 11) + (z_rm n).locals ≤ R.locals) (hA : As.length = nA) (hls : ls.size = nL) (hst : st0 = As.reverse ++ .ref (z_ka G i) :: rest) (hrm : (rest.map fun v => v.category).sum ≤ 8) (hdg : decode cc pc = .ok (.invokevirtual index, 3)) (hf : cells ≤ R.cells ∧ slots ≤ R.slots)
    (kk : ∀ (H1 : Heap) (locs1 : List Loc), z_W G M' H1 locs1 → W p l e R s m args below meth c H1 locs1 cells slots Q (F0 m (pc + 3) ls (.int r :: rest))) : W p l e R s m args below meth c H locs cells slots Q (F0 m pc ls st0) := z_cvS X hw hC hi h1 h2 h3 h4 h5 hd hR hA hls hst hrm hdg hf kk
theorem z_cvSV {n nA maxL index i : Nat} {y : MethodName} {bytes : ByteArray} {ret : Option FieldType} {As st0 : List Value} (X : z_C G p s m args meth c cc nL own rt) (hw : z_W G M H locs)
    (hC : z_T l G n y (.code y bytes maxL ret) (.ref (z_ka G i) :: As) M (none) M') (hi : i < 15)
    (h1 : Cond.methodLink own index y ∈ z_om) (h2 : Cond.instanceMethod y ∈ z_om) (h3 : Cond.selects "java/lang/String" y y ∈ z_om) (h4 : Cond.initialized "java/lang/String" ∈ z_om) (h5 : Cond.code y bytes maxL ret ∈ z_om)
    (hd : y.cls = "java/lang/String" ∧ y.cls ≠ "java/lang/invoke/MethodHandle" ∧ y.cls ≠ "java/lang/invoke/VarHandle" ∧ (parseMethodDescriptor y.desc).map (fun d => d.parameters.length) = some nA) (hR : (z_rm n).frames + 1 ≤ R.frames ∧ 8 + (maxL + 11) + (z_rm n).locals ≤ R.locals) (hA : As.length = nA) (hls : ls.size = nL) (hst : st0 = As.reverse ++ .ref (z_ka G i) :: rest) (hrm : (rest.map fun v => v.category).sum ≤ 8) (hdg : decode cc pc = .ok (.invokevirtual index, 3)) (hf : cells ≤ R.cells ∧ slots ≤ R.slots)
    (kk : ∀ (H1 : Heap) (locs1 : List Loc), z_W G M' H1 locs1 → W p l e R s m args below meth c H1 locs1 cells slots Q (F0 m (pc + 3) ls (rest))) : W p l e R s m args below meth c H locs cells slots Q (F0 m pc ls st0) := z_cvS X hw hC hi h1 h2 h3 h4 h5 hd hR hA hls hst hrm hdg hf kk
end ZM
