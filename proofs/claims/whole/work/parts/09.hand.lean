theorem hzw_ml_3_95 : Cond.methodLink RJ0 1059 yJ3_checkIndex_8e157 ∈ z_om := z_in3 95 rfl rfl
theorem hzw_fl_3_93 : Cond.fieldLink RJ0 1053 "jdk/internal/util/Preconditions" "SIOOBE_FORMATTER" "Ljava/util/function/BiFunction;" ∈ z_om := z_in3 93 rfl rfl
theorem hzw_st_3_96 : Cond.static yJ3_checkIndex_8e157 ∈ z_om := z_in3 96 rfl rfl
theorem hzw_in_1_15 : Cond.initialized RJ3 ∈ z_om := z_in1 15 rfl rfl
theorem hzw_co_3_97 : Cond.code yJ3_checkIndex_8e157 cJ3_checkIndex_8e157 3 (some .int) ∈ z_om := z_in3 97 rfl rfl
theorem hzd_J3_checkIndex_8e157 : yJ3_checkIndex_8e157.cls ≠ "java/lang/invoke/MethodHandle" ∧ yJ3_checkIndex_8e157.cls ≠ "java/lang/invoke/VarHandle" ∧ (parseMethodDescriptor yJ3_checkIndex_8e157.desc).map (fun d => d.parameters.length) = some 3 := by decide +kernel
set_option maxHeartbeats 4000000 in
theorem m_J3_checkIndex_8e157_n {l : Launch} {G : zG} {i0 i1 : Int32} {M : zM} (c1 : ¬ i0 < 0) (c2 : i0 < i1) : z_T l G 0 yJ3_checkIndex_8e157 (.code yJ3_checkIndex_8e157 cJ3_checkIndex_8e157 3 (some .int)) [.int i0, .int i1, .null] M (some (.int i0)) M := by
  refine z_of rfl ?_
  intro p e s m below meth c X hw
  have hl := lv_entry [.int i0, .int i1, .null] (n := 3) (Nat.le_of_ble_eq_true rfl)
  rw [lg_entry_eq]
  generalize (lg_sl [.int i0, .int i1, .null] ++ List.replicate (3 - (lg_sl [.int i0, .int i1, .null]).length) Slot.unset).toArray = ls at hl ⊢
  have hl : lv_has ls 3 [(0, .int i0), (1, .int i1)] := lv_sub hl [0, 1] rfl
  generalize ([.int i0, .int i1, .null] : List Value).toArray = args at X ⊢
  have X : z_C G p s m args meth c cJ3_checkIndex_8e157 3 RJ3 (some .int) := X
  have hx := X.1
  have hb := X.2.1
  refine lv_iload_n (pc := 0) hx hb dJ3_checkIndex_8e157_0 rfl (lv_at hl 0 rfl) ?_
  refine lv_if_lt (pc := 1) (tgt := 9) hx hb dJ3_checkIndex_8e157_1 (by decide) (fun c => absurd c c1) (fun c => ?_)
  refine lv_iload_n (pc := 4) hx hb dJ3_checkIndex_8e157_4 rfl (lv_at hl 0 rfl) ?_
  refine lv_iload_n (pc := 5) hx hb dJ3_checkIndex_8e157_5 rfl (lv_at hl 1 rfl) ?_
  refine lv_icmp_lt (pc := 6) (tgt := 16) hx hb dJ3_checkIndex_8e157_6 (by decide) (fun c => ?_) (fun c => absurd c2 c)
  refine lv_iload_n (pc := 16) hx hb dJ3_checkIndex_8e157_16 rfl (lv_at hl 0 rfl) ?_
  exact z_ri (pc := 17) X hw dJ3_checkIndex_8e157_17
set_option maxHeartbeats 4000000 in
theorem m_J3_checkIndex_8e157_r {l : Launch} {G : zG} {i0 i1 : Int32} {t : Nat} {M : zM} (c1 : ¬ i0 < 0) (c2 : i0 < i1) : z_T l G 0 yJ3_checkIndex_8e157 (.code yJ3_checkIndex_8e157 cJ3_checkIndex_8e157 3 (some .int)) [.int i0, .int i1, .ref t] M (some (.int i0)) M := by
  refine z_of rfl ?_
  intro p e s m below meth c X hw
  have hl := lv_entry [.int i0, .int i1, .ref t] (n := 3) (Nat.le_of_ble_eq_true rfl)
  rw [lg_entry_eq]
  generalize (lg_sl [.int i0, .int i1, .ref t] ++ List.replicate (3 - (lg_sl [.int i0, .int i1, .ref t]).length) Slot.unset).toArray = ls at hl ⊢
  have hl : lv_has ls 3 [(0, .int i0), (1, .int i1)] := lv_sub hl [0, 1] rfl
  generalize ([.int i0, .int i1, .ref t] : List Value).toArray = args at X ⊢
  have X : z_C G p s m args meth c cJ3_checkIndex_8e157 3 RJ3 (some .int) := X
  have hx := X.1
  have hb := X.2.1
  refine lv_iload_n (pc := 0) hx hb dJ3_checkIndex_8e157_0 rfl (lv_at hl 0 rfl) ?_
  refine lv_if_lt (pc := 1) (tgt := 9) hx hb dJ3_checkIndex_8e157_1 (by decide) (fun c => absurd c c1) (fun c => ?_)
  refine lv_iload_n (pc := 4) hx hb dJ3_checkIndex_8e157_4 rfl (lv_at hl 0 rfl) ?_
  refine lv_iload_n (pc := 5) hx hb dJ3_checkIndex_8e157_5 rfl (lv_at hl 1 rfl) ?_
  refine lv_icmp_lt (pc := 6) (tgt := 16) hx hb dJ3_checkIndex_8e157_6 (by decide) (fun c => ?_) (fun c => absurd c2 c)
  refine lv_iload_n (pc := 16) hx hb dJ3_checkIndex_8e157_16 rfl (lv_at hl 0 rfl) ?_
  exact z_ri (pc := 17) X hw dJ3_checkIndex_8e157_17
def f_J0_checkIndex_df160 (i0 i1 : Int32) (M : zM) : Option zM := if i0 < 0 then none else if i0 < i1 then some M else none
theorem z_gZ {G : zG} {p : Program} {l : Launch} {e : Env} {R : Room} {s : State} {m : MethodId} {args : Array Value} {below : List Frame} {meth : Method} {c : Code} {H : Heap} {locs : List Loc} {cells slots : Nat} {Q : State → Prop} {cc : ByteArray} {nL : Nat} {own : String} {rt : Option FieldType} {pc : Nat} {ls : Array Slot} {rest : List Value} {M : zM} {index : Nat} {C n d : String} {v : Value} (X : z_C G p s m args meth c cc nL own rt) (hw : z_W G M H locs) (hZ : va_Z C n d v (z_A G) s G.2.2.2.1) (hl : Cond.fieldLink own index C n d ∈ z_om) (hdg : decode cc pc = .ok (.getstatic index, 3))
    (kk : W p l e R s m args below meth c H locs cells slots Q (F0 m (pc + 3) ls (v :: rest))) : W p l e R s m args below meth c H locs cells slots Q (F0 m pc ls rest) := by
  obtain ⟨cf, kf, fi, f, a, cell, h1, h2, h3, h4, h5, h6, h7, h8⟩ := hZ
  exact W.gets X.1 X.2.1 X.2.2.2.1 (X.2.2.2.2.1 _ hl) h1 h2 h3 h4 (by rw [hw.2.2.2.1 a (Array.getElem?_eq_some_iff.mp h5).1 h8]; exact h5) (fun e => by rw [e] at h6; cases h6) h7 rfl hdg kk
set_option maxHeartbeats 4000000 in
theorem m_J0_checkIndex_df160 {l : Launch} {G : zG} {i0 i1 : Int32} {M r : zM} (h : f_J0_checkIndex_df160 i0 i1 M = some r) : z_T l G 1 yJ0_checkIndex_df160 (.code yJ0_checkIndex_df160 cJ0_checkIndex_df160 2 none) [.int i0, .int i1] M none r := by
  unfold f_J0_checkIndex_df160 at h
  by_cases c1 : i0 < 0
  · rw [if_pos c1] at h; cases h
  rw [if_neg c1] at h
  by_cases c2 : ¬ i0 < i1
  · rw [if_neg c2] at h; cases h
  have c2 : i0 < i1 := Decidable.not_not.mp c2
  rw [if_pos c2] at h
  obtain rfl := Option.some.inj h
  refine z_of rfl ?_
  intro p e s m below meth c X hw
  have hl := lv_entry [.int i0, .int i1] (n := 2) (Nat.le_of_ble_eq_true rfl)
  rw [lg_entry_eq]
  generalize (lg_sl [.int i0, .int i1] ++ List.replicate (2 - (lg_sl [.int i0, .int i1]).length) Slot.unset).toArray = ls at hl ⊢
  have hl : lv_has ls 2 [(0, .int i0), (1, .int i1)] := hl
  generalize ([.int i0, .int i1] : List Value).toArray = args at X ⊢
  have X : z_C G p s m args meth c cJ0_checkIndex_df160 2 RJ0 none := X
  have hx := X.1
  have hb := X.2.1
  refine lv_iload_n (pc := 0) hx hb dJ0_checkIndex_df160_0 rfl (lv_at hl 0 rfl) ?_
  refine lv_iload_n (pc := 1) hx hb dJ0_checkIndex_df160_1 rfl (lv_at hl 1 rfl) ?_
  rcases X.2.2.2.2.2.2.2.2.2.2.2.2.2.2.2.2 with hZ | ⟨t, hZ⟩
  · refine z_gZ (pc := 2) X hw hZ hzw_fl_3_93 dJ0_checkIndex_df160_2 ?_
    refine z_csI (pc := 5) (rest := []) X hw (m_J3_checkIndex_8e157_n c1 c2) hzw_ml_3_95 hzw_st_3_96 hzw_in_1_15 hzw_co_3_97 hzd_J3_checkIndex_8e157 (by decide) rfl hl.1 rfl (Nat.le_of_ble_eq_true rfl) dJ0_checkIndex_df160_5 ⟨Nat.zero_le _, Nat.zero_le _⟩ (fun H1 l1 w1 => ?_)
    refine lv_pop (pc := 8) hx hb dJ0_checkIndex_df160_8 rfl ?_
    exact z_rv (pc := 9) X w1 dJ0_checkIndex_df160_9
  · refine z_gZ (pc := 2) X hw hZ hzw_fl_3_93 dJ0_checkIndex_df160_2 ?_
    refine z_csI (pc := 5) (rest := []) X hw (m_J3_checkIndex_8e157_r c1 c2) hzw_ml_3_95 hzw_st_3_96 hzw_in_1_15 hzw_co_3_97 hzd_J3_checkIndex_8e157 (by decide) rfl hl.1 rfl (Nat.le_of_ble_eq_true rfl) dJ0_checkIndex_df160_5 ⟨Nat.zero_le _, Nat.zero_le _⟩ (fun H1 l1 w1 => ?_)
    refine lv_pop (pc := 8) hx hb dJ0_checkIndex_df160_8 rfl ?_
    exact z_rv (pc := 9) X w1 dJ0_checkIndex_df160_9
