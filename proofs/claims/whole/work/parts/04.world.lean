/-! THE FIXED HEAP: ids of cells, their kinds, memory as a function of id and slot -/
abbrev zM : Type := (Nat → Nat → Int32) × (Nat → Nat → Int64)
def z_w (M : zM) (k i : Nat) (v : Int32) : zM := (fun a b => if a = k ∧ b = i then v else M.1 a b, M.2)
def z_wl (M : zM) (k i : Nat) (v : Int64) : zM := (M.1, fun a b => if a = k ∧ b = i then v else M.2 a b)
/-- n elements of the row a from sp on come into the row b from dp on -/
def z_cp (M : zM) (a sp b dp n : Nat) : zM := (fun x j => if x = b then va_cpy (M.1 a) (M.1 b) sp dp n j else M.1 x j, M.2)
/-- addresses by id; class numbers; array classes by kind; the heap ahead of it all; addresses of statics and texts -/
abbrev zG : Type := (Nat → Nat) × va_G × (Nat → ClassId) × Heap × (Nat → Nat)
abbrev z_A (G : zG) : Nat → Prop := fun q => G.2.2.2.1.size ≤ q
def z_kdT : List Nat := [10, 8, 8, 5, 5, 5, 16, 16, 16, 17, 17, 13, 13, 3, 3, 3, 13, 13, 13, 13, 13, 13, 13, 13, 13, 13, 13, 13, 9, 12, 4, 13, 0, 13, 13, 1, 13, 13, 13, 6, 11, 13, 13, 13, 13, 13, 13, 13, 13, 13, 13, 13, 13, 13, 13, 13, 13, 13, 14, 13, 13, 13, 13, 18, 18, 18, 13, 13, 13, 13, 13, 13, 13, 13, 13, 13, 13, 13, 13, 13, 13]
def z_lnT : List Nat := [0, 0, 0, 0, 0, 0, 10, 10, 10, 10, 10, 16, 16, 0, 0, 0, 400, 400, 400, 17, 17, 17, 17, 17, 17, 40, 40, 40, 0, 400, 0, 40, 0, 7, 128, 0, 4, 4, 16, 0, 0, 1700, 1700, 48, 820, 400, 420, 9, 11, 11, 11, 11, 11, 11, 11, 11, 11, 11, 1024, 4, 4, 4, 10, 5, 5, 5, 4, 4, 4, 4, 4, 4, 4, 4, 4, 4, 4, 4, 4, 4, 4]
def z_kd (k : Nat) : Nat := if k < 81 then z_kdT.getD k 99 else if k < 231 then (if (k - 81) % 5 = 0 then 2 else 13) else if k < 291 then (if (k - 231) % 3 = 0 then 7 else if (k - 231) % 3 = 1 then 13 else 15) else 99
def z_ln (k : Nat) : Nat := if k < 81 then z_lnT.getD k 0 else 12
/-- what lies at place i of the row of references k -/
def z_ra (k i : Nat) : Nat := if k < 9 then 81 + 50 * (k - 6) + 5 * i else if k < 11 then 231 + 30 * (k - 9) + 3 * i else 66 + 5 * (k - 63) + i
/-- what lies at id k, of its own row of numbers -/
def z_Er (G : zG) (k : Nat) (r : Nat → Int32) (r2 : Nat → Int64) : va_E := match z_kd k with
  | 0 => .inr (0, [.long (r2 0), .long (r2 1), .int (r 2), .ref (G.1 33), .ref (G.1 34)])
  | 1 => .inr (1, [.int (r 0), .int (r 1), .ref (G.1 36), .ref (G.1 37), .ref (G.1 38)])
  | 2 => .inr (2, [.int (r 0), .int (r 1), .int (r 2), .int (r 3), .int (r 4), .int (r 5), .int (r 6), .int (r 7), .int (r 8), .int (r 9), .int (r 10), .int (r 11), .int (r 12), .int (r 13), .int (r 14), .ref (G.1 (k + 1)), .ref (G.1 (k + 2)), .ref (G.1 (k + 3)), .ref (G.1 (k + 4))])
  | 3 => .inr (3, [.int (r 0), .int (r 1), .ref (G.1 (k + 3)), .ref (G.1 (k + 6)), .ref (G.1 (k + 9)), .ref (G.1 (k + 12))])
  | 4 => .inr (4, [.int (r 0), .int (r 1), .int (r 2), .int (r 3), .int (r 4), .int (r 5), .int (r 6), .ref (G.1 31), .int (r 8), .int (r 9), .ref (G.1 15)])
  | 5 => .inr (5, [.int (r 0), .int (r 1), .ref (G.1 (k + 3))])
  | 6 => .inr (6, [.int (r 0), .int (r 1), .int (r 2), .int (r 3), .int (r 4), .int (r 5)])
  | 7 => .inr (7, [.int (r 0), .ref (G.1 (k + 1)), .ref (G.1 (k + 2))])
  | 8 => .inr (8, [.ref (G.1 (k + 2)), .int (r 1), .ref (G.1 (k + 8)), .ref (G.1 (k + 12)), .int (r 4), .int (r 5), .int (r 6), .int (r 7), .int (r 8), .int (r 9), .int (r 10), .ref (G.1 (k + 10))])
  | 9 => .inr (9, [.int (r 0), .ref (G.1 29), .int (r 2), .int (r 3), .int (r 4), .int (r 5)])
  | 10 => .inr (10, [.ref (G.1 1), .ref (G.1 2), .ref (G.1 5), .ref (G.1 28), .ref (G.1 30), .ref (G.1 32), .ref (G.1 35), .ref (G.1 39), .int (r 8)])
  | 11 => .inr (11, [.ref (G.1 41), .ref (G.1 42), .int (r 2), .ref (G.1 43), .ref (G.1 44), .ref (G.1 45), .ref (G.1 46), .ref (G.1 47), .int (r 8), .int (r 9), .int (r 10), .int (r 11), .int (r 12), .int (r 13), .int (r 14), .int (r 15), .int (r 16), .int (r 17), .int (r 18), .int (r 19), .ref (G.1 48), .ref (G.1 49), .ref (G.1 50), .ref (G.1 51), .ref (G.1 52), .ref (G.1 53), .ref (G.1 54), .ref (G.1 55), .ref (G.1 56), .ref (G.1 57), .int (r 30), .int (r 31), .int (r 32), .int (r 33), .ref (G.1 58), .ref (G.1 59), .ref (G.1 60), .ref (G.1 61), .ref (G.1 63), .ref (G.1 64), .ref (G.1 65), .int (r 41), .int (r 42), .ref (G.1 62)])
  | 12 => .inl (G.2.2.1 12, z_ln k, .inl r)
  | 13 => .inl (G.2.2.1 13, z_ln k, .inl r)
  | 15 => .inl (G.2.2.1 15, z_ln k, .inl r)
  | 14 => .inl (G.2.2.1 14, z_ln k, .inr (.inl r2))
  | 16 => .inl (G.2.2.1 16, z_ln k, .inr (.inr (.inr (.inr (fun i => some (G.1 (z_ra k i)))))))
  | 17 => .inl (G.2.2.1 17, z_ln k, .inr (.inr (.inr (.inr (fun i => some (G.1 (z_ra k i)))))))
  | 18 => .inl (G.2.2.1 18, z_ln k, .inr (.inr (.inr (.inr (fun i => some (G.1 (z_ra k i)))))))
  | _ => .inl (G.2.2.1 13, 0, .inl r)
def z_E (G : zG) (M : zM) (k : Nat) : va_E := z_Er G k (M.1 k) (M.2 k)
theorem z_E0 {G : zG} {k : Nat} {r : Nat → Int32} {r2 : Nat → Int64} (h : z_kd k = 0) : z_Er G k r r2 = .inr (0, [.long (r2 0), .long (r2 1), .int (r 2), .ref (G.1 33), .ref (G.1 34)]) := by unfold z_Er; rw [h]; rfl
theorem z_E1 {G : zG} {k : Nat} {r : Nat → Int32} {r2 : Nat → Int64} (h : z_kd k = 1) : z_Er G k r r2 = .inr (1, [.int (r 0), .int (r 1), .ref (G.1 36), .ref (G.1 37), .ref (G.1 38)]) := by unfold z_Er; rw [h]; rfl
theorem z_E2 {G : zG} {k : Nat} {r : Nat → Int32} {r2 : Nat → Int64} (h : z_kd k = 2) : z_Er G k r r2 = .inr (2, [.int (r 0), .int (r 1), .int (r 2), .int (r 3), .int (r 4), .int (r 5), .int (r 6), .int (r 7), .int (r 8), .int (r 9), .int (r 10), .int (r 11), .int (r 12), .int (r 13), .int (r 14), .ref (G.1 (k + 1)), .ref (G.1 (k + 2)), .ref (G.1 (k + 3)), .ref (G.1 (k + 4))]) := by unfold z_Er; rw [h]; rfl
theorem z_E3 {G : zG} {k : Nat} {r : Nat → Int32} {r2 : Nat → Int64} (h : z_kd k = 3) : z_Er G k r r2 = .inr (3, [.int (r 0), .int (r 1), .ref (G.1 (k + 3)), .ref (G.1 (k + 6)), .ref (G.1 (k + 9)), .ref (G.1 (k + 12))]) := by unfold z_Er; rw [h]; rfl
theorem z_E4 {G : zG} {k : Nat} {r : Nat → Int32} {r2 : Nat → Int64} (h : z_kd k = 4) : z_Er G k r r2 = .inr (4, [.int (r 0), .int (r 1), .int (r 2), .int (r 3), .int (r 4), .int (r 5), .int (r 6), .ref (G.1 31), .int (r 8), .int (r 9), .ref (G.1 15)]) := by unfold z_Er; rw [h]; rfl
theorem z_E5 {G : zG} {k : Nat} {r : Nat → Int32} {r2 : Nat → Int64} (h : z_kd k = 5) : z_Er G k r r2 = .inr (5, [.int (r 0), .int (r 1), .ref (G.1 (k + 3))]) := by unfold z_Er; rw [h]; rfl
theorem z_E6 {G : zG} {k : Nat} {r : Nat → Int32} {r2 : Nat → Int64} (h : z_kd k = 6) : z_Er G k r r2 = .inr (6, [.int (r 0), .int (r 1), .int (r 2), .int (r 3), .int (r 4), .int (r 5)]) := by unfold z_Er; rw [h]; rfl
theorem z_E7 {G : zG} {k : Nat} {r : Nat → Int32} {r2 : Nat → Int64} (h : z_kd k = 7) : z_Er G k r r2 = .inr (7, [.int (r 0), .ref (G.1 (k + 1)), .ref (G.1 (k + 2))]) := by unfold z_Er; rw [h]; rfl
theorem z_E8 {G : zG} {k : Nat} {r : Nat → Int32} {r2 : Nat → Int64} (h : z_kd k = 8) : z_Er G k r r2 = .inr (8, [.ref (G.1 (k + 2)), .int (r 1), .ref (G.1 (k + 8)), .ref (G.1 (k + 12)), .int (r 4), .int (r 5), .int (r 6), .int (r 7), .int (r 8), .int (r 9), .int (r 10), .ref (G.1 (k + 10))]) := by unfold z_Er; rw [h]; rfl
theorem z_E9 {G : zG} {k : Nat} {r : Nat → Int32} {r2 : Nat → Int64} (h : z_kd k = 9) : z_Er G k r r2 = .inr (9, [.int (r 0), .ref (G.1 29), .int (r 2), .int (r 3), .int (r 4), .int (r 5)]) := by unfold z_Er; rw [h]; rfl
theorem z_E10 {G : zG} {k : Nat} {r : Nat → Int32} {r2 : Nat → Int64} (h : z_kd k = 10) : z_Er G k r r2 = .inr (10, [.ref (G.1 1), .ref (G.1 2), .ref (G.1 5), .ref (G.1 28), .ref (G.1 30), .ref (G.1 32), .ref (G.1 35), .ref (G.1 39), .int (r 8)]) := by unfold z_Er; rw [h]; rfl
theorem z_E11 {G : zG} {k : Nat} {r : Nat → Int32} {r2 : Nat → Int64} (h : z_kd k = 11) : z_Er G k r r2 = .inr (11, [.ref (G.1 41), .ref (G.1 42), .int (r 2), .ref (G.1 43), .ref (G.1 44), .ref (G.1 45), .ref (G.1 46), .ref (G.1 47), .int (r 8), .int (r 9), .int (r 10), .int (r 11), .int (r 12), .int (r 13), .int (r 14), .int (r 15), .int (r 16), .int (r 17), .int (r 18), .int (r 19), .ref (G.1 48), .ref (G.1 49), .ref (G.1 50), .ref (G.1 51), .ref (G.1 52), .ref (G.1 53), .ref (G.1 54), .ref (G.1 55), .ref (G.1 56), .ref (G.1 57), .int (r 30), .int (r 31), .int (r 32), .int (r 33), .ref (G.1 58), .ref (G.1 59), .ref (G.1 60), .ref (G.1 61), .ref (G.1 63), .ref (G.1 64), .ref (G.1 65), .int (r 41), .int (r 42), .ref (G.1 62)]) := by unfold z_Er; rw [h]; rfl
theorem z_E12 {G : zG} {k : Nat} {r : Nat → Int32} {r2 : Nat → Int64} (h : z_kd k = 12) : z_Er G k r r2 = .inl (G.2.2.1 12, z_ln k, .inl r) := by unfold z_Er; rw [h]; rfl
theorem z_E13 {G : zG} {k : Nat} {r : Nat → Int32} {r2 : Nat → Int64} (h : z_kd k = 13) : z_Er G k r r2 = .inl (G.2.2.1 13, z_ln k, .inl r) := by unfold z_Er; rw [h]; rfl
theorem z_E15 {G : zG} {k : Nat} {r : Nat → Int32} {r2 : Nat → Int64} (h : z_kd k = 15) : z_Er G k r r2 = .inl (G.2.2.1 15, z_ln k, .inl r) := by unfold z_Er; rw [h]; rfl
theorem z_E14 {G : zG} {k : Nat} {r : Nat → Int32} {r2 : Nat → Int64} (h : z_kd k = 14) : z_Er G k r r2 = .inl (G.2.2.1 14, z_ln k, .inr (.inl r2)) := by unfold z_Er; rw [h]; rfl
theorem z_E16 {G : zG} {k : Nat} {r : Nat → Int32} {r2 : Nat → Int64} (h : z_kd k = 16) : z_Er G k r r2 = .inl (G.2.2.1 16, z_ln k, .inr (.inr (.inr (.inr (fun i => some (G.1 (z_ra k i))))))) := by unfold z_Er; rw [h]; rfl
theorem z_E17 {G : zG} {k : Nat} {r : Nat → Int32} {r2 : Nat → Int64} (h : z_kd k = 17) : z_Er G k r r2 = .inl (G.2.2.1 17, z_ln k, .inr (.inr (.inr (.inr (fun i => some (G.1 (z_ra k i))))))) := by unfold z_Er; rw [h]; rfl
theorem z_E18 {G : zG} {k : Nat} {r : Nat → Int32} {r2 : Nat → Int64} (h : z_kd k = 18) : z_Er G k r r2 = .inl (G.2.2.1 18, z_ln k, .inr (.inr (.inr (.inr (fun i => some (G.1 (z_ra k i))))))) := by unfold z_Er; rw [h]; rfl
def z_ws (G : zG) (M : zM) : va_W := (List.range 291).map (fun k => (G.1 k, z_E G M k))
theorem z_at (G : zG) (M : zM) {k : Nat} (hk : k < 291) : (z_ws G M)[k]? = some (G.1 k, z_E G M k) := by
  unfold z_ws
  rw [List.getElem?_map, List.getElem?_range hk]
  rfl
theorem z_lt {k c : Nat} (h : z_kd k = c) (hc : c < 99) : k < 291 := by
  rcases Nat.lt_or_ge k 291 with q | q
  · exact q
  · unfold z_kd at h
    rw [if_neg (by omega), if_neg (by omega), if_neg (by omega)] at h
    omega
theorem z_set {G : zG} {M M' : zM} {k : Nat} {e : va_E} (hk : k < 291) (he : z_E G M' k = e) (hne : ∀ j, j ≠ k → z_E G M' j = z_E G M j) : (z_ws G M).set k (G.1 k, e) = z_ws G M' := by
  apply List.ext_getElem?
  intro i
  have hlen : ∀ M : zM, (z_ws G M).length = 291 := fun M => by unfold z_ws; simp
  by_cases hi : i < 291
  · by_cases e1 : k = i
    · subst e1
      rw [List.getElem?_set_self (by rw [hlen]; exact hk), z_at G M' hk, he]
    · rw [List.getElem?_set_ne e1, z_at G M hi, z_at G M' hi, hne i (fun q => e1 q.symm)]
  · rw [List.getElem?_eq_none (by rw [List.length_set, hlen]; omega), List.getElem?_eq_none (by rw [hlen]; omega)]
theorem z_w_ne {M : zM} {k i : Nat} {v : Int32} (G : zG) : ∀ j, j ≠ k → z_E G (z_w M k i v) j = z_E G M j := by
  intro j hj
  show z_Er G j (fun b => if j = k ∧ b = i then v else M.1 j b) (M.2 j) = z_Er G j (M.1 j) (M.2 j)
  congr 1
  funext b
  rw [if_neg (fun q => hj q.1)]
theorem z_wl_ne {M : zM} {k i : Nat} {v : Int64} (G : zG) : ∀ j, j ≠ k → z_E G (z_wl M k i v) j = z_E G M j := by
  intro j hj
  show z_Er G j (M.1 j) (fun b => if j = k ∧ b = i then v else M.2 j b) = z_Er G j (M.1 j) (M.2 j)
  congr 1
  funext b
  rw [if_neg (fun q => hj q.1)]
theorem z_cp_ne {M : zM} {a sp b dp n : Nat} (G : zG) : ∀ j, j ≠ b → z_E G (z_cp M a sp b dp n) j = z_E G M j := by
  intro j hj
  show z_Er G j (fun x => if j = b then va_cpy (M.1 a) (M.1 b) sp dp n x else M.1 j x) (M.2 j) = z_Er G j (M.1 j) (M.2 j)
  congr 1
  funext x
  rw [if_neg hj]
theorem z_w_self (M : zM) (k i : Nat) (v : Int32) : (z_w M k i v).1 k = upd (M.1 k) i v := by
  funext j
  show (if k = k ∧ j = i then v else M.1 k j) = if j = i then v else M.1 k j
  by_cases h : j = i
  · rw [if_pos ⟨rfl, h⟩, if_pos h]
  · rw [if_neg (fun q => h q.2), if_neg h]
theorem z_wl_self (M : zM) (k i : Nat) (v : Int64) : (z_wl M k i v).2 k = vp_updL (M.2 k) i v := by
  funext j
  show (if k = k ∧ j = i then v else M.2 k j) = if j = i then v else M.2 k j
  by_cases h : j = i
  · rw [if_pos ⟨rfl, h⟩, if_pos h]
  · rw [if_neg (fun q => h q.2), if_neg h]
theorem z_cp_self (M : zM) (a sp b dp n : Nat) : (z_cp M a sp b dp n).1 b = va_cpy (M.1 a) (M.1 b) sp dp n := by
  funext j
  exact if_pos rfl
/-- the words: those of the tables that stay when the machine warms -/
def z_om : List Cond := lw_tbl.filter goodWord
theorem z_in {w : Cond} (h : w ∈ lw_tbl) (g : goodWord w = true) : w ∈ z_om := List.mem_filter.mpr ⟨h, g⟩
theorem z_in1 {w : Cond} (i : Nat) (h : tables_1_1[i]? = some w) (g : goodWord w = true) : w ∈ z_om := z_in (List.mem_append_right _ (List.mem_append_left _ (List.mem_of_getElem? h))) g
theorem z_in2 {w : Cond} (i : Nat) (h : tables_1_2[i]? = some w) (g : goodWord w = true) : w ∈ z_om := z_in (List.mem_append_right _ (List.mem_append_right _ (List.mem_append_left _ (List.mem_of_getElem? h)))) g
theorem z_in3 {w : Cond} (i : Nat) (h : tables_1_3[i]? = some w) (g : goodWord w = true) : w ∈ z_om := z_in (List.mem_append_right _ (List.mem_append_right _ (List.mem_append_right _ (List.mem_append_left _ (List.mem_of_getElem? h))))) g
theorem z_in4 {w : Cond} (i : Nat) (h : tables_1_4[i]? = some w) (g : goodWord w = true) : w ∈ z_om := z_in (List.mem_append_right _ (List.mem_append_right _ (List.mem_append_right _ (List.mem_append_right _ (List.mem_append_left _ (List.mem_of_getElem? h)))))) g
theorem z_in5 {w : Cond} (i : Nat) (h : tables_1_5[i]? = some w) (g : goodWord w = true) : w ∈ z_om := z_in (List.mem_append_right _ (List.mem_append_right _ (List.mem_append_right _ (List.mem_append_right _ (List.mem_append_right _ (List.mem_append_left _ (List.mem_of_getElem? h))))))) g
theorem z_in6 {w : Cond} (i : Nat) (h : tables_1_6[i]? = some w) (g : goodWord w = true) : w ∈ z_om := z_in (List.mem_append_right _ (List.mem_append_right _ (List.mem_append_right _ (List.mem_append_right _ (List.mem_append_right _ (List.mem_append_right _ (List.mem_of_getElem? h))))))) g
theorem z_inS {w : Cond} (i : Nat) (h : (k2_sels lw_privs)[i]? = some w) (g : goodWord w = true) : w ∈ z_om := z_in (List.mem_append_left _ (List.mem_of_getElem? h)) g
theorem z_good : ∀ w ∈ z_om, (w.onTables && w.keeps) = true ∨ ∃ ty, w = .arrayClass ty := fun w h => good_of_word (List.mem_filter.mp h).2
theorem z_i0 : ∀ w ∈ wsX00, w ∈ z_om := fun w h => z_in (inX0 w h) (List.all_eq_true.mp (by decide +kernel : wsX00.all goodWord = true) w h)
theorem z_i1 : ∀ w ∈ wsX10, w ∈ z_om := fun w h => z_in (inX1 w h) (List.all_eq_true.mp (by decide +kernel : wsX10.all goodWord = true) w h)
theorem z_i2 : ∀ w ∈ wsX20, w ∈ z_om := fun w h => z_in (inX2 w h) (List.all_eq_true.mp (by decide +kernel : wsX20.all goodWord = true) w h)
theorem z_i3 : ∀ w ∈ wsX30, w ∈ z_om := fun w h => z_in (inX3 w h) (List.all_eq_true.mp (by decide +kernel : wsX30.all goodWord = true) w h)
theorem z_i4 : ∀ w ∈ wsX40, w ∈ z_om := fun w h => z_in (inX4 w h) (List.all_eq_true.mp (by decide +kernel : wsX40.all goodWord = true) w h)
theorem z_i5 : ∀ w ∈ wsX50, w ∈ z_om := fun w h => z_in (inX5 w h) (List.all_eq_true.mp (by decide +kernel : wsX50.all goodWord = true) w h)
theorem z_i6 : ∀ w ∈ wsX60, w ∈ z_om := fun w h => z_in (inX6 w h) (List.all_eq_true.mp (by decide +kernel : wsX60.all goodWord = true) w h)
theorem z_i7 : ∀ w ∈ wsX70, w ∈ z_om := fun w h => z_in (inX7 w h) (List.all_eq_true.mp (by decide +kernel : wsX70.all goodWord = true) w h)
theorem z_i8 : ∀ w ∈ wsX80, w ∈ z_om := fun w h => z_in (inX8 w h) (List.all_eq_true.mp (by decide +kernel : wsX80.all goodWord = true) w h)
theorem z_i9 : ∀ w ∈ wsX90, w ∈ z_om := fun w h => z_in (inX9 w h) (List.all_eq_true.mp (by decide +kernel : wsX90.all goodWord = true) w h)
theorem z_i10 : ∀ w ∈ wsX100, w ∈ z_om := fun w h => z_in (inX10 w h) (List.all_eq_true.mp (by decide +kernel : wsX100.all goodWord = true) w h)
theorem z_i11 : ∀ w ∈ wsX110, w ∈ z_om := fun w h => z_in (inX11 w h) (List.all_eq_true.mp (by decide +kernel : wsX110.all goodWord = true) w h)
def z_nest : List Cond := [(Jvm.Cond.methodLinkNest "DrinkingRoofs$Roofs" (21 : Nat) ({ cls := "DrinkingRoofs$House", name := "<init>", desc := "()V" } : Jvm.MethodName) "DrinkingRoofs"), (Jvm.Cond.methodLinkNest "DrinkingRoofs$Street" (26 : Nat) ({ cls := "DrinkingRoofs$Law", name := "<init>", desc := "()V" } : Jvm.MethodName) "DrinkingRoofs"), (Jvm.Cond.methodLinkNest "DrinkingRoofs$Street" (40 : Nat) ({ cls := "DrinkingRoofs$Storm", name := "<init>", desc := "()V" } : Jvm.MethodName) "DrinkingRoofs"), (Jvm.Cond.methodLinkNest "DrinkingRoofs" (28 : Nat) ({ cls := "DrinkingRoofs$Tape", name := "<init>", desc := "()V" } : Jvm.MethodName) "DrinkingRoofs"), (Jvm.Cond.methodLinkNest "DrinkingRoofs" (35 : Nat) ({ cls := "DrinkingRoofs$Reader", name := "<init>", desc := "()V" } : Jvm.MethodName) "DrinkingRoofs"), (Jvm.Cond.methodLinkNest "DrinkingRoofs$Reader" (21 : Nat) ({ cls := "DrinkingRoofs$Law", name := "<init>", desc := "()V" } : Jvm.MethodName) "DrinkingRoofs"), (Jvm.Cond.methodLinkNest "DrinkingRoofs" (42 : Nat) ({ cls := "DrinkingRoofs$Blame", name := "<init>", desc := "()V" } : Jvm.MethodName) "DrinkingRoofs"), (Jvm.Cond.methodLinkNest "DrinkingRoofs" (49 : Nat) ({ cls := "DrinkingRoofs$Cleaning", name := "<init>", desc := "()V" } : Jvm.MethodName) "DrinkingRoofs"), (Jvm.Cond.methodLinkNest "DrinkingRoofs" (56 : Nat) ({ cls := "DrinkingRoofs$Stains", name := "<init>", desc := "()V" } : Jvm.MethodName) "DrinkingRoofs"), (Jvm.Cond.methodLinkNest "DrinkingRoofs$House" (81 : Nat) ({ cls := "DrinkingRoofs", name := "within", desc := "(III)Z" } : Jvm.MethodName) "DrinkingRoofs"), (Jvm.Cond.methodLinkNest "DrinkingRoofs$Tape" (64 : Nat) ({ cls := "DrinkingRoofs", name := "within", desc := "(III)Z" } : Jvm.MethodName) "DrinkingRoofs"), (Jvm.Cond.methodLinkNest "DrinkingRoofs$Reader" (79 : Nat) ({ cls := "DrinkingRoofs", name := "within", desc := "(III)Z" } : Jvm.MethodName) "DrinkingRoofs"), (Jvm.Cond.fieldLinkNest "DrinkingRoofs$Reader" (120 : Nat) "DrinkingRoofs" "STRENGTH" "[I" "DrinkingRoofs"), (Jvm.Cond.methodLinkNest "DrinkingRoofs$Law" (50 : Nat) ({ cls := "DrinkingRoofs", name := "within", desc := "(III)Z" } : Jvm.MethodName) "DrinkingRoofs"), (Jvm.Cond.fieldLinkNest "DrinkingRoofs$Blame" (60 : Nat) "DrinkingRoofs" "ORDERS" "[I" "DrinkingRoofs"), (Jvm.Cond.methodLinkNest "DrinkingRoofs$Storm" (23 : Nat) ({ cls := "DrinkingRoofs", name := "within", desc := "(III)Z" } : Jvm.MethodName) "DrinkingRoofs")]
def z_stL : List Int32 := [0, 0, 0, 0, 0, 1, 2, 3, 0, 0, 0, 0, 0, 0, 0, 0, 0, 5, 5, 6, 6, 0, 0, 4, 4, 4]
def z_orL : List Int32 := [1, 1, 2, 6, 24, 120, 720, 5040]
def z_len : List Nat := [65, 10, 4, 2, 3, 3, 3, 3, 4, 3, 4, 3, 5, 4, 4]
def z_byt : List (List Int32) := [[112, 97, 121, 32, 32, 119, 104, 101, 110, 32, 111, 114, 32, 32, 32, 97, 110, 100, 32, 32, 110, 111, 116, 32, 32, 119, 101, 116, 32, 32, 99, 108, 111, 103, 32, 111, 119, 110, 32, 32, 110, 101, 97, 114, 32, 102, 97, 114, 32, 32, 97, 98, 111, 118, 101, 97, 114, 101, 97, 32, 104, 101, 108, 100, 32], [59, 43, 45, 42, 47, 40, 41, 60, 61, 62], [119, 104, 101, 110], [111, 114], [97, 110, 100], [110, 111, 116], [112, 97, 121], [119, 101, 116], [99, 108, 111, 103], [111, 119, 110], [110, 101, 97, 114], [102, 97, 114], [97, 98, 111, 118, 101], [97, 114, 101, 97], [104, 101, 108, 100]]
def z_sr : List (String × Nat × String) := [("DrinkingRoofs$Tape", 49, "pay  when or   and  not  wet  clog own  near far  abovearea held "), ("DrinkingRoofs$Tape", 41, ";+-*/()<=>"), ("DrinkingRoofsModel", 147, "when"), ("DrinkingRoofsModel", 149, "or"), ("DrinkingRoofsModel", 151, "and"), ("DrinkingRoofsModel", 153, "not"), ("DrinkingRoofsModel", 155, "pay"), ("DrinkingRoofsModel", 131, "wet"), ("DrinkingRoofsModel", 137, "clog"), ("DrinkingRoofsModel", 138, "own"), ("DrinkingRoofsModel", 140, "near"), ("DrinkingRoofsModel", 142, "far"), ("DrinkingRoofsModel", 144, "above"), ("DrinkingRoofsModel", 145, "area"), ("DrinkingRoofsModel", 146, "held")]
abbrev z_sa (G : zG) (i : Nat) : Nat := G.2.2.2.2 i
abbrev z_ka (G : zG) (i : Nat) : Nat := G.2.2.2.2 (2 + i)
abbrev z_va (G : zG) (i : Nat) : Nat := G.2.2.2.2 (20 + i)
abbrev z_sn (i : Nat) : String × Nat × String := z_sr.getD i ("", 0, "")
/-- what the launch has of old: links between nest mates, statics, texts -/
def z_S (G : zG) (U : State) : Prop := (∀ w ∈ z_nest, va_Nw w U) ∧ va_Z "DrinkingRoofs" "STRENGTH" "[I" (.ref (z_sa G 0)) (z_A G) U G.2.2.2.1 ∧ va_T .int (z_sa G 0) 26 (fun j => .int (z_stL.getD j 0)) (z_A G) U G.2.2.2.1 ∧ va_Z "DrinkingRoofs" "ORDERS" "[I" (.ref (z_sa G 1)) (z_A G) U G.2.2.2.1 ∧ va_T .int (z_sa G 1) 8 (fun j => .int (z_orL.getD j 0)) (z_A G) U G.2.2.2.1 ∧ va_Z "java/lang/String" "COMPACT_STRINGS" "Z" (.int 1) (z_A G) U G.2.2.2.1 ∧ vk_S 15 z_len z_byt (z_ka G) (z_va G) (z_A G) U G.2.2.2.1 ∧ (∀ i, i < 15 → vk_R (z_sn i).1 (z_sn i).2.1 (z_sn i).2.2 (z_ka G i) U) ∧ va_Zq "jdk/internal/util/Preconditions" "SIOOBE_FORMATTER" "Ljava/util/function/BiFunction;" (z_A G) U G.2.2.2.1
theorem z_nestW {s U : State} (hW : s.WarmedH U.vm) : ∀ w ∈ z_nest, va_Nw w s → va_Nw w U := by
  intro w hw h
  simp only [z_nest, List.mem_cons, List.not_mem_nil, or_false] at hw
  rcases hw with rfl | rfl | rfl | rfl | rfl | rfl | rfl | rfl | rfl | rfl | rfl | rfl | rfl | rfl | rfl | rfl <;> first | exact va_Nw.warmM hW h | exact va_Nw.warmF hW h
theorem z_S.same {G : zG} {u U : State} (hv : U.vm = u.vm) (h : z_S G u) : z_S G U := by
  have ha : u.vm.Alike U.vm := by rw [hv]; exact Vm.Alike.refl u.vm
  obtain ⟨h1, h2, h3, h4, h5, h6, h7, h8, h9⟩ := h
  refine ⟨fun w hw => ?_, va_Z.moved ha h2, va_T.moved ha h3, va_Z.moved ha h4, va_T.moved ha h5, va_Z.moved ha h6, vk_S.moved ha h7, fun i hi => vk_R.same hv (h8 i hi), va_Zq.moved ha h9⟩
  refine va_Nw.same ?_ hv.symm (h1 w hw)
  exact List.all_eq_true.mp (by decide +kernel : z_nest.all Cond.onTables = true) w hw
theorem z_S.warm {G : zG} {s U : State} (hW : s.WarmedH U.vm) (h : z_S G s) : z_S G U := by
  have ha := hW.alike
  obtain ⟨h1, h2, h3, h4, h5, h6, h7, h8, h9⟩ := h
  exact ⟨fun w hw => z_nestW hW w hw (h1 w hw), va_Z.moved ha h2, va_T.moved ha h3, va_Z.moved ha h4, va_T.moved ha h5, va_Z.moved ha h6, vk_S.moved ha h7, fun i hi => vk_R.warm hW (h8 i hi), va_Zq.moved ha h9⟩
abbrev z_tys (G : zG) : List (ClassId × FieldType) := [(G.2.2.1 12, .byte), (G.2.2.1 13, .int), (G.2.2.1 14, .long), (G.2.2.1 15, .boolean), (G.2.2.1 16, .object "DrinkingRoofs$House"), (G.2.2.1 17, .object "DrinkingRoofs$Storm"), (G.2.2.1 18, .array .int)]
def z_K (G : zG) (U : State) : Prop := va_K G.2.1 vwCl (z_tys G) U ∧ z_S G U
theorem z_K.same {G : zG} {u U : State} (hv : U.vm = u.vm) (h : z_K G u) : z_K G U := ⟨va_K.moved (by rw [hv]; exact Vm.Alike.refl u.vm) h.1, h.2.same hv⟩
theorem z_K.warm {G : zG} {s U : State} (hW : s.WarmedH U.vm) (h : z_K G s) : z_K G U := ⟨va_K.moved hW.alike h.1, h.2.warm hW⟩
def z_W (G : zG) (M : zM) (H : Heap) (locs : List Loc) : Prop := va_P G.2.1 vwCl (z_ws G M) H ∧ va_D (z_A G) (z_ws G M) ∧ va_S (z_A G) G.2.2.2.1 H locs
def z_rm (n : Nat) : Room := { frames := n + 1, cells := 0, slots := 0, locals := 40 * (n + 1) }
/-- A CONTRACT: the arguments av, memory M ahead, the answer ov and memory M' behind, at the level n of room -/
def z_T (l : Launch) (G : zG) (n : Nat) (y : MethodName) (c0 : Cond) (av : List Value) (M : zM) (ov : Option Value) (M' : zM) : Prop :=
  Met l y (c0 :: z_om) (z_rm n) (fun v U => v = av.toArray ∧ z_K G U ∧ z_W G M U.heap []) (fun _ _ oc t => oc = .returned ov ∧ z_W G M' t.heap []) 0 0 (z_A G)
/-- what holds in a method's body -/
def z_C (G : zG) (p : Program) (s : State) (m : MethodId) (args : Array Value) (meth : Method) (c : Code) (cc : ByteArray) (nL : Nat) (own : String) (rt : Option FieldType) : Prop :=
  p.tables.exec = Jvm.exec ∧ c.code = cc ∧ c.maxLocals = nL ∧ s.vm.findClass own = some m.cls ∧ (∀ w ∈ z_om, w.before args s = true) ∧ meth.sig.returnType = rt ∧ meth.locks = false ∧ z_K G s
section ZR
variable {G : zG} {p : Program} {l : Launch} {e : Env} {R : Room} {s : State} {m : MethodId} {args : Array Value} {below : List Frame} {meth : Method} {c : Code} {H : Heap} {locs : List Loc} {cells slots : Nat} {Q : State → Prop}
variable {cc : ByteArray} {nL : Nat} {own : String} {rt : Option FieldType} {pc : Nat} {ls : Array Slot} {rest : List Value} {M : zM}
theorem z_get (X : z_C G p s m args meth c cc nL own rt) (hw : z_W G M H locs) {ci N : Nat} {C : String} {T : u_T} (hc : vwCl[ci]? = some (C, T, N)) (hin : ∀ w ∈ u_ws C T N, w ∈ z_om) {k j index : Nat} (hk : k < 291) {fs : List Value} (he : z_E G M k = .inr (ci, fs)) (hj : j < N) (hl : Cond.fieldLink own index (T j).1 (T j).2.1 (T j).2.2.1 ∈ z_om) {v : Value} (hv : fs[j]? = some v) (hdg : decode cc pc = .ok (.getfield index, 3))
    (kk : W p l e R s m args below meth c H locs cells slots Q (F0 m (pc + 3) ls (v :: rest))) : W p l e R s m args below meth c H locs cells slots Q (F0 m pc ls (.ref (G.1 k) :: rest)) := by
  obtain ⟨hx, hb, -, hown, hts, -, -, hK⟩ := X
  exact va_get hx hb hts hin hown hK.1 hw.1 k (by rw [z_at G M hk, he]) hc j hj (hts _ hl) (fun _ h => h) hv hdg kk
theorem z_put (X : z_C G p s m args meth c cc nL own rt) (hw : z_W G M H locs) {ci N : Nat} {C : String} {T : u_T} (hc : vwCl[ci]? = some (C, T, N)) (hin : ∀ w ∈ u_ws C T N, w ∈ z_om) (ty0 : Nat → FieldType) (hty : ∀ k, k < N → parseFieldDescriptor (T k).2.2.1 = some (ty0 k)) (hnm : ∀ a, a < N → ∀ b, b < N → a ≠ b → (T a).2.1 ≠ (T b).2.1) {k j index : Nat} (hk : k < 291) {fs : List Value} {M' : zM} {v : Value} (he : z_E G M k = .inr (ci, fs)) (he' : z_E G M' k = .inr (ci, fs.set j v)) (hne : ∀ i, i ≠ k → z_E G M' i = z_E G M i) (hj : j < N) (hl : Cond.fieldLink own index (T j).1 (T j).2.1 (T j).2.2.1 ∈ z_om) (hfin : (T j).2.2.2 = false) {ty : FieldType} (hd : parseFieldDescriptor (T j).2.2.1 = some ty) (hn : narrow ty v = v) (hfit : fits ty v = true) (hlen : j < fs.length) (hdg : decode cc pc = .ok (.putfield index, 3))
    (kk : ∀ (H1 : Heap) (locs1 : List Loc), z_W G M' H1 locs1 → W p l e R s m args below meth c H1 locs1 cells slots Q (F0 m (pc + 3) ls rest)) : W p l e R s m args below meth c H locs cells slots Q (F0 m pc ls (v :: .ref (G.1 k) :: rest)) := by
  obtain ⟨hx, hb, -, hown, hts, -, -, hK⟩ := X
  refine va_put hx hb hts hin ty0 hty hnm hown hK.1 hw.1 hw.2.1 hw.2.2 k (by rw [z_at G M hk, he]) hc j hj (hts _ hl) (fun _ h => h) hfin hd hn hfit hlen hdg (fun H1 locs1 h1 h2 h3 => ?_)
  rw [z_set hk he' hne] at h1 h2
  exact kk H1 locs1 ⟨h1, h2, h3⟩
theorem z_iald (X : z_C G p s m args meth c cc nL own rt) (hw : z_W G M H locs) {k n : Nat} (hk : z_kd k = 13) (hn : z_ln k = n) {i : Int32} (hi : vp_in i n) (hdg : decode cc pc = .ok (.iaload, 1))
    (kk : W p l e R s m args below meth c H locs cells slots Q (F0 m (pc + 1) ls (.int (M.1 k i.toNatClampNeg) :: rest))) : W p l e R s m args below meth c H locs cells slots Q (F0 m pc ls (.int i :: .ref (G.1 k) :: rest)) := by
  subst hn
  exact va_iald X.1 X.2.1 X.2.2.2.2.2.2.2.1 hw.1 k 1 (by rw [z_at G M (z_lt hk (by decide)), z_E, z_E13 hk]) rfl hi hdg kk
theorem z_bald (X : z_C G p s m args meth c cc nL own rt) (hw : z_W G M H locs) {k n : Nat} (hk : z_kd k = 12) (hn : z_ln k = n) {i : Int32} (hi : vp_in i n) (hdg : decode cc pc = .ok (.baload, 1))
    (kk : W p l e R s m args below meth c H locs cells slots Q (F0 m (pc + 1) ls (.int (M.1 k i.toNatClampNeg) :: rest))) : W p l e R s m args below meth c H locs cells slots Q (F0 m pc ls (.int i :: .ref (G.1 k) :: rest)) := by
  subst hn
  exact va_bald X.1 X.2.1 X.2.2.2.2.2.2.2.1 hw.1 k 0 (by rw [z_at G M (z_lt hk (by decide)), z_E, z_E12 hk]) rfl hi hdg kk
theorem z_zald (X : z_C G p s m args meth c cc nL own rt) (hw : z_W G M H locs) {k n : Nat} (hk : z_kd k = 15) (hn : z_ln k = n) {i : Int32} (hi : vp_in i n) (hdg : decode cc pc = .ok (.baload, 1))
    (kk : W p l e R s m args below meth c H locs cells slots Q (F0 m (pc + 1) ls (.int (M.1 k i.toNatClampNeg) :: rest))) : W p l e R s m args below meth c H locs cells slots Q (F0 m pc ls (.int i :: .ref (G.1 k) :: rest)) := by
  subst hn
  exact va_zald X.1 X.2.1 X.2.2.2.2.2.2.2.1 hw.1 k 3 (by rw [z_at G M (z_lt hk (by decide)), z_E, z_E15 hk]) rfl hi hdg kk
theorem z_lald (X : z_C G p s m args meth c cc nL own rt) (hw : z_W G M H locs) {k n : Nat} (hk : z_kd k = 14) (hn : z_ln k = n) {i : Int32} (hi : vp_in i n) (hdg : decode cc pc = .ok (.laload, 1))
    (kk : W p l e R s m args below meth c H locs cells slots Q (F0 m (pc + 1) ls (.long (M.2 k i.toNatClampNeg) :: rest))) : W p l e R s m args below meth c H locs cells slots Q (F0 m pc ls (.int i :: .ref (G.1 k) :: rest)) := by
  subst hn
  exact va_lald X.1 X.2.1 X.2.2.2.2.2.2.2.1 hw.1 k 2 (by rw [z_at G M (z_lt hk (by decide)), z_E, z_E14 hk]) rfl hi hdg kk
theorem z_aald16 (X : z_C G p s m args meth c cc nL own rt) (hw : z_W G M H locs) {k n : Nat} (hk : z_kd k = 16) (hn : z_ln k = n) {i : Int32} (hi : vp_in i n) (hdg : decode cc pc = .ok (.aaload, 1))
    (kk : W p l e R s m args below meth c H locs cells slots Q (F0 m (pc + 1) ls (.ref (G.1 (z_ra k i.toNatClampNeg)) :: rest))) : W p l e R s m args below meth c H locs cells slots Q (F0 m pc ls (.int i :: .ref (G.1 k) :: rest)) := by
  subst hn
  exact va_aldq (f := fun i => some (G.1 (z_ra k i))) X.1 X.2.1 X.2.2.2.2.2.2.2.1 hw.1 k 4 (by rw [z_at G M (z_lt hk (by decide)), z_E, z_E16 hk]) rfl hi hdg kk
theorem z_aald17 (X : z_C G p s m args meth c cc nL own rt) (hw : z_W G M H locs) {k n : Nat} (hk : z_kd k = 17) (hn : z_ln k = n) {i : Int32} (hi : vp_in i n) (hdg : decode cc pc = .ok (.aaload, 1))
    (kk : W p l e R s m args below meth c H locs cells slots Q (F0 m (pc + 1) ls (.ref (G.1 (z_ra k i.toNatClampNeg)) :: rest))) : W p l e R s m args below meth c H locs cells slots Q (F0 m pc ls (.int i :: .ref (G.1 k) :: rest)) := by
  subst hn
  exact va_aldq (f := fun i => some (G.1 (z_ra k i))) X.1 X.2.1 X.2.2.2.2.2.2.2.1 hw.1 k 5 (by rw [z_at G M (z_lt hk (by decide)), z_E, z_E17 hk]) rfl hi hdg kk
theorem z_aald18 (X : z_C G p s m args meth c cc nL own rt) (hw : z_W G M H locs) {k n : Nat} (hk : z_kd k = 18) (hn : z_ln k = n) {i : Int32} (hi : vp_in i n) (hdg : decode cc pc = .ok (.aaload, 1))
    (kk : W p l e R s m args below meth c H locs cells slots Q (F0 m (pc + 1) ls (.ref (G.1 (z_ra k i.toNatClampNeg)) :: rest))) : W p l e R s m args below meth c H locs cells slots Q (F0 m pc ls (.int i :: .ref (G.1 k) :: rest)) := by
  subst hn
  have hlt : i.toNatClampNeg < z_ln k := Nat.not_le.mp fun q => hi (Or.inr q)
  have hcell := hw.1 k _ (z_at G M (z_lt hk (by decide)))
  rw [z_E, z_E18 hk] at hcell
  exact W.aald (v := .ref (G.1 (z_ra k i.toNatClampNeg))) X.1 X.2.1 hcell ((X.2.2.2.2.2.2.2.1.2 6 _ rfl).1 (z_ln k) (fun j => va_rf (some (G.1 (z_ra k j))))) rfl (fun q => by cases q) (by show ¬ (i < 0 ∨ (arrV _ _ _).slots.size ≤ _); rw [arrV_size]; exact hi) (by show (arrV _ _ _).slots[_]? = _; rw [arrV_read _ _ hlt]; rfl) rfl rfl hdg kk
theorem z_iast (X : z_C G p s m args meth c cc nL own rt) (hw : z_W G M H locs) {k n : Nat} (hk : z_kd k = 13) (hn : z_ln k = n) {i x : Int32} (hi : vp_in i n) (hdg : decode cc pc = .ok (.iastore, 1))
    (kk : ∀ (H1 : Heap) (locs1 : List Loc), z_W G (z_w M k i.toNatClampNeg x) H1 locs1 → W p l e R s m args below meth c H1 locs1 cells slots Q (F0 m (pc + 1) ls rest)) : W p l e R s m args below meth c H locs cells slots Q (F0 m pc ls (.int x :: .int i :: .ref (G.1 k) :: rest)) := by
  subst hn
  refine va_iast X.1 X.2.1 X.2.2.2.2.2.2.2.1 hw.1 hw.2.1 hw.2.2 k 1 (by rw [z_at G M (z_lt hk (by decide)), z_E, z_E13 hk]) rfl hi hdg (fun H1 locs1 h1 h2 h3 => ?_)
  have e := z_set (M' := z_w M k i.toNatClampNeg x) (z_lt hk (by decide)) (by rw [z_E, z_E13 hk, z_w_self]) (z_w_ne G)
  rw [e] at h1 h2
  exact kk H1 locs1 ⟨h1, h2, h3⟩
theorem z_bast (X : z_C G p s m args meth c cc nL own rt) (hw : z_W G M H locs) {k n : Nat} (hk : z_kd k = 12) (hn : z_ln k = n) {i x : Int32} (hi : vp_in i n) (hdg : decode cc pc = .ok (.bastore, 1))
    (kk : ∀ (H1 : Heap) (locs1 : List Loc), z_W G (z_w M k i.toNatClampNeg (vp_nar .byte x)) H1 locs1 → W p l e R s m args below meth c H1 locs1 cells slots Q (F0 m (pc + 1) ls rest)) : W p l e R s m args below meth c H locs cells slots Q (F0 m pc ls (.int x :: .int i :: .ref (G.1 k) :: rest)) := by
  subst hn
  refine va_bast X.1 X.2.1 X.2.2.2.2.2.2.2.1 hw.1 hw.2.1 hw.2.2 k 0 (by rw [z_at G M (z_lt hk (by decide)), z_E, z_E12 hk]) rfl hi hdg (fun H1 locs1 h1 h2 h3 => ?_)
  have e := z_set (M' := z_w M k i.toNatClampNeg (vp_nar .byte x)) (z_lt hk (by decide)) (by rw [z_E, z_E12 hk, z_w_self]) (z_w_ne G)
  rw [e] at h1 h2
  exact kk H1 locs1 ⟨h1, h2, h3⟩
theorem z_zast (X : z_C G p s m args meth c cc nL own rt) (hw : z_W G M H locs) {k n : Nat} (hk : z_kd k = 15) (hn : z_ln k = n) {i x : Int32} (hi : vp_in i n) (hdg : decode cc pc = .ok (.bastore, 1))
    (kk : ∀ (H1 : Heap) (locs1 : List Loc), z_W G (z_w M k i.toNatClampNeg (vp_nar .boolean x)) H1 locs1 → W p l e R s m args below meth c H1 locs1 cells slots Q (F0 m (pc + 1) ls rest)) : W p l e R s m args below meth c H locs cells slots Q (F0 m pc ls (.int x :: .int i :: .ref (G.1 k) :: rest)) := by
  subst hn
  refine va_zast X.1 X.2.1 X.2.2.2.2.2.2.2.1 hw.1 hw.2.1 hw.2.2 k 3 (by rw [z_at G M (z_lt hk (by decide)), z_E, z_E15 hk]) rfl hi hdg (fun H1 locs1 h1 h2 h3 => ?_)
  have e := z_set (M' := z_w M k i.toNatClampNeg (vp_nar .boolean x)) (z_lt hk (by decide)) (by rw [z_E, z_E15 hk, z_w_self]) (z_w_ne G)
  rw [e] at h1 h2
  exact kk H1 locs1 ⟨h1, h2, h3⟩
theorem z_last (X : z_C G p s m args meth c cc nL own rt) (hw : z_W G M H locs) {k n : Nat} (hk : z_kd k = 14) (hn : z_ln k = n) {i : Int32} {x : Int64} (hi : vp_in i n) (hdg : decode cc pc = .ok (.lastore, 1))
    (kk : ∀ (H1 : Heap) (locs1 : List Loc), z_W G (z_wl M k i.toNatClampNeg x) H1 locs1 → W p l e R s m args below meth c H1 locs1 cells slots Q (F0 m (pc + 1) ls rest)) : W p l e R s m args below meth c H locs cells slots Q (F0 m pc ls (.long x :: .int i :: .ref (G.1 k) :: rest)) := by
  subst hn
  refine va_last X.1 X.2.1 X.2.2.2.2.2.2.2.1 hw.1 hw.2.1 hw.2.2 k 2 (by rw [z_at G M (z_lt hk (by decide)), z_E, z_E14 hk]) rfl hi hdg (fun H1 locs1 h1 h2 h3 => ?_)
  have e := z_set (M' := z_wl M k i.toNatClampNeg x) (z_lt hk (by decide)) (by rw [z_E, z_E14 hk, z_wl_self]) (z_wl_ne G)
  rw [e] at h1 h2
  exact kk H1 locs1 ⟨h1, h2, h3⟩
end ZR
