def z_pos : List Nat := [0, 1, 91, 2, 92, 181, 3, 93, 182, 54, 144, 60, 150, 55, 145, 237, 56, 146, 238, 57, 147, 239, 58, 148, 240, 59, 149, 241, 233, 234, 235, 236, 242, 243, 244, 245, 246, 247, 248, 249, 250, 251, 252, 253, 254, 255, 256, 257, 258, 259, 260, 261, 262, 263, 264, 265, 266, 267, 268, 269, 270, 271, 290, 272, 278, 284, 273, 274, 275, 276, 277, 279, 280, 281, 282, 283, 285, 286, 287, 288, 289, 4, 5, 6, 7, 8, 9, 10, 11, 12, 13, 14, 15, 16, 17, 18, 19, 20, 21, 22, 23, 24, 25, 26, 27, 28, 29, 30, 31, 32, 33, 34, 35, 36, 37, 38, 39, 40, 41, 42, 43, 44, 45, 46, 47, 48, 49, 50, 51, 52, 53, 94, 95, 96, 97, 98, 99, 100, 101, 102, 103, 104, 105, 106, 107, 108, 109, 110, 111, 112, 113, 114, 115, 116, 117, 118, 119, 120, 121, 122, 123, 124, 125, 126, 127, 128, 129, 130, 131, 132, 133, 134, 135, 136, 137, 138, 139, 140, 141, 142, 143, 183, 184, 185, 186, 187, 188, 189, 190, 191, 192, 193, 194, 195, 196, 197, 198, 199, 200, 201, 202, 203, 204, 205, 206, 207, 208, 209, 210, 211, 212, 213, 214, 215, 216, 217, 218, 219, 220, 221, 222, 223, 224, 225, 226, 227, 228, 229, 230, 231, 232, 61, 62, 63, 64, 65, 66, 67, 68, 69, 70, 71, 72, 73, 74, 75, 76, 77, 78, 79, 80, 81, 82, 83, 84, 85, 86, 87, 88, 89, 90, 151, 152, 153, 154, 155, 156, 157, 158, 159, 160, 161, 162, 163, 164, 165, 166, 167, 168, 169, 170, 171, 172, 173, 174, 175, 176, 177, 178, 179, 180]
/-- memory behind the two constructors -/
def z_M0 : zM := (fun k => if k = 1 ∨ k = 2 then (fun i => if i = 4 then 999999 else 0) else if k = 3 ∨ k = 4 ∨ k = 5 then (fun i => if i = 1 then 1 else 0) else if k = 30 then (fun i => if i = 1 then -1 else 0) else if k = 40 then (fun i => if i = 19 then -1 else 0) else if k = 41 then (upd (upd (upd (fun _ => 0) (Int32.toNatClampNeg (3)) (999999)) (Int32.toNatClampNeg (6)) (1)) (Int32.toNatClampNeg (8)) (-1)) else (fun _ => 0), fun _ _ => 0)
abbrev z_G0 (D : va_G) (cy : Nat → ClassId) (HB : Heap) (sx : Nat → Nat) : zG := (fun k => HB.size + z_pos.getD k 0, D, cy, HB, sx)
theorem y_arrq {D : va_G} {cl : List vw_C} {a n : Nat} {c : ClassId} {f h : Nat → Option Nat} {H : Heap} (hfh : ∀ j, j < n → f j = h j) (hA : va_at D cl (a, .inl (c, n, .inr (.inr (.inr (.inr f))))) H) : va_at D cl (a, .inl (c, n, .inr (.inr (.inr (.inr h))))) H := by
  have e : vp_cell c (n, .inr (.inr (.inr (.inr f)))) = vp_cell c (n, .inr (.inr (.inr (.inr h)))) := by
    rw [vp_cell_q, vp_cell_q]
    unfold arrV
    congr 1
    apply Array.ext
    · simp
    · intro i h1 h2
      simp only [Array.getElem_ofFn]
      rw [hfh i (by simpa using h1)]
  show H[a]? = some (vp_cell _ _)
  rw [← e]
  exact hA
theorem y_lt10 {P : Nat → Prop} (h0 : P 0) (h1 : P 1) (h2 : P 2) (h3 : P 3) (h4 : P 4) (h5 : P 5) (h6 : P 6) (h7 : P 7) (h8 : P 8) (h9 : P 9) : ∀ j, j < 10 → P j := fun j hj => by
  rcases (show j = 0 ∨ j = 1 ∨ j = 2 ∨ j = 3 ∨ j = 4 ∨ j = 5 ∨ j = 6 ∨ j = 7 ∨ j = 8 ∨ j = 9 by omega) with rfl | rfl | rfl | rfl | rfl | rfl | rfl | rfl | rfl | rfl <;> assumption
theorem y_lt5 {P : Nat → Prop} (h0 : P 0) (h1 : P 1) (h2 : P 2) (h3 : P 3) (h4 : P 4) : ∀ j, j < 5 → P j := fun j hj => by
  rcases (show j = 0 ∨ j = 1 ∨ j = 2 ∨ j = 3 ∨ j = 4 by omega) with rfl | rfl | rfl | rfl | rfl <;> assumption
theorem y_step {P : Nat → Prop} {n : Nat} (h : ∀ k, k < n → P k) (hn : P n) : ∀ k, k < n + 1 → P k := fun k hk => by
  rcases Nat.lt_succ_iff_lt_or_eq.mp hk with q | rfl
  · exact h k q
  · exact hn
theorem y_xend {es : List va_E} {c x : va_E} {ns : List va_E} : y_x (es ++ [c]) es.length x ns = es ++ (x :: ns) := by
  unfold y_x
  rw [List.set_append_right _ _ (Nat.le_refl _), Nat.sub_self, List.append_assoc]
  rfl
abbrev z_es (G : zG) : List va_E := (e_X10_init G (y_n G + 1) :: n_X10_init G (y_n G + 1)) ++ (e_X11_init G (y_n G + 251) :: n_X11_init G (y_n G + 251))
section YP
variable {D : va_G} {cy : Nat → ClassId} {HB : Heap} {sx : Nat → Nat} {H : Heap} {locs : List Loc}
theorem y_fst (hw : y_W (z_G0 D cy HB sx) (z_es (z_G0 D cy HB sx)) H locs) {i : Nat} {x : va_E} (h : (e_X10_init (z_G0 D cy HB sx) (y_n (z_G0 D cy HB sx) + 1) :: n_X10_init (z_G0 D cy HB sx) (y_n (z_G0 D cy HB sx) + 1))[i]? = some x) : va_at D vwCl (HB.size + i, x) H := hw.1 i x (by rw [List.getElem?_append_left (List.getElem?_eq_some_iff.mp h).1]; exact h)
set_option maxRecDepth 20000 in
theorem y_len1 (G : zG) (q : Nat) : (e_X10_init G q :: n_X10_init G q).length = 250 := rfl
theorem y_snd (hw : y_W (z_G0 D cy HB sx) (z_es (z_G0 D cy HB sx)) H locs) {i : Nat} {x : va_E} (h : (e_X11_init (z_G0 D cy HB sx) (y_n (z_G0 D cy HB sx) + 251) :: n_X11_init (z_G0 D cy HB sx) (y_n (z_G0 D cy HB sx) + 251))[i]? = some x) : va_at D vwCl (HB.size + (250 + i), x) H := hw.1 (250 + i) x (by rw [List.getElem?_append_right (by rw [y_len1]; exact Nat.le_add_right 250 i), y_len1, Nat.add_sub_cancel_left]; exact h)
theorem ya_0 (hw : y_W (z_G0 D cy HB sx) (z_es (z_G0 D cy HB sx)) H locs) : va_at D vwCl ((z_G0 D cy HB sx).1 0, z_E (z_G0 D cy HB sx) z_M0 0) H := y_fst (i := 0) hw rfl
theorem ya_1 (hw : y_W (z_G0 D cy HB sx) (z_es (z_G0 D cy HB sx)) H locs) : va_at D vwCl ((z_G0 D cy HB sx).1 1, z_E (z_G0 D cy HB sx) z_M0 1) H := y_fst (i := 1) hw rfl
theorem ya_2 (hw : y_W (z_G0 D cy HB sx) (z_es (z_G0 D cy HB sx)) H locs) : va_at D vwCl ((z_G0 D cy HB sx).1 2, z_E (z_G0 D cy HB sx) z_M0 2) H := y_fst (i := 91) hw rfl
theorem ya_3 (hw : y_W (z_G0 D cy HB sx) (z_es (z_G0 D cy HB sx)) H locs) : va_at D vwCl ((z_G0 D cy HB sx).1 3, z_E (z_G0 D cy HB sx) z_M0 3) H := y_fst (i := 2) hw rfl
theorem ya_4 (hw : y_W (z_G0 D cy HB sx) (z_es (z_G0 D cy HB sx)) H locs) : va_at D vwCl ((z_G0 D cy HB sx).1 4, z_E (z_G0 D cy HB sx) z_M0 4) H := y_fst (i := 92) hw rfl
theorem ya_5 (hw : y_W (z_G0 D cy HB sx) (z_es (z_G0 D cy HB sx)) H locs) : va_at D vwCl ((z_G0 D cy HB sx).1 5, z_E (z_G0 D cy HB sx) z_M0 5) H := y_fst (i := 181) hw rfl
theorem ya_6 (hw : y_W (z_G0 D cy HB sx) (z_es (z_G0 D cy HB sx)) H locs) : va_at D vwCl ((z_G0 D cy HB sx).1 6, z_E (z_G0 D cy HB sx) z_M0 6) H := y_arrq (y_lt10 rfl rfl rfl rfl rfl rfl rfl rfl rfl rfl) (y_fst (i := 3) hw rfl)
theorem ya_7 (hw : y_W (z_G0 D cy HB sx) (z_es (z_G0 D cy HB sx)) H locs) : va_at D vwCl ((z_G0 D cy HB sx).1 7, z_E (z_G0 D cy HB sx) z_M0 7) H := y_arrq (y_lt10 rfl rfl rfl rfl rfl rfl rfl rfl rfl rfl) (y_fst (i := 93) hw rfl)
theorem ya_8 (hw : y_W (z_G0 D cy HB sx) (z_es (z_G0 D cy HB sx)) H locs) : va_at D vwCl ((z_G0 D cy HB sx).1 8, z_E (z_G0 D cy HB sx) z_M0 8) H := y_arrq (y_lt10 rfl rfl rfl rfl rfl rfl rfl rfl rfl rfl) (y_fst (i := 182) hw rfl)
theorem ya_9 (hw : y_W (z_G0 D cy HB sx) (z_es (z_G0 D cy HB sx)) H locs) : va_at D vwCl ((z_G0 D cy HB sx).1 9, z_E (z_G0 D cy HB sx) z_M0 9) H := y_arrq (y_lt10 rfl rfl rfl rfl rfl rfl rfl rfl rfl rfl) (y_fst (i := 54) hw rfl)
theorem ya_10 (hw : y_W (z_G0 D cy HB sx) (z_es (z_G0 D cy HB sx)) H locs) : va_at D vwCl ((z_G0 D cy HB sx).1 10, z_E (z_G0 D cy HB sx) z_M0 10) H := y_arrq (y_lt10 rfl rfl rfl rfl rfl rfl rfl rfl rfl rfl) (y_fst (i := 144) hw rfl)
theorem ya_11 (hw : y_W (z_G0 D cy HB sx) (z_es (z_G0 D cy HB sx)) H locs) : va_at D vwCl ((z_G0 D cy HB sx).1 11, z_E (z_G0 D cy HB sx) z_M0 11) H := y_fst (i := 60) hw rfl
theorem ya_12 (hw : y_W (z_G0 D cy HB sx) (z_es (z_G0 D cy HB sx)) H locs) : va_at D vwCl ((z_G0 D cy HB sx).1 12, z_E (z_G0 D cy HB sx) z_M0 12) H := y_fst (i := 150) hw rfl
theorem ya_13 (hw : y_W (z_G0 D cy HB sx) (z_es (z_G0 D cy HB sx)) H locs) : va_at D vwCl ((z_G0 D cy HB sx).1 13, z_E (z_G0 D cy HB sx) z_M0 13) H := y_fst (i := 55) hw rfl
theorem ya_14 (hw : y_W (z_G0 D cy HB sx) (z_es (z_G0 D cy HB sx)) H locs) : va_at D vwCl ((z_G0 D cy HB sx).1 14, z_E (z_G0 D cy HB sx) z_M0 14) H := y_fst (i := 145) hw rfl
theorem ya_15 (hw : y_W (z_G0 D cy HB sx) (z_es (z_G0 D cy HB sx)) H locs) : va_at D vwCl ((z_G0 D cy HB sx).1 15, z_E (z_G0 D cy HB sx) z_M0 15) H := y_fst (i := 237) hw rfl
theorem ya_16 (hw : y_W (z_G0 D cy HB sx) (z_es (z_G0 D cy HB sx)) H locs) : va_at D vwCl ((z_G0 D cy HB sx).1 16, z_E (z_G0 D cy HB sx) z_M0 16) H := y_fst (i := 56) hw rfl
theorem ya_17 (hw : y_W (z_G0 D cy HB sx) (z_es (z_G0 D cy HB sx)) H locs) : va_at D vwCl ((z_G0 D cy HB sx).1 17, z_E (z_G0 D cy HB sx) z_M0 17) H := y_fst (i := 146) hw rfl
theorem ya_18 (hw : y_W (z_G0 D cy HB sx) (z_es (z_G0 D cy HB sx)) H locs) : va_at D vwCl ((z_G0 D cy HB sx).1 18, z_E (z_G0 D cy HB sx) z_M0 18) H := y_fst (i := 238) hw rfl
theorem ya_19 (hw : y_W (z_G0 D cy HB sx) (z_es (z_G0 D cy HB sx)) H locs) : va_at D vwCl ((z_G0 D cy HB sx).1 19, z_E (z_G0 D cy HB sx) z_M0 19) H := y_fst (i := 57) hw rfl
theorem ya_20 (hw : y_W (z_G0 D cy HB sx) (z_es (z_G0 D cy HB sx)) H locs) : va_at D vwCl ((z_G0 D cy HB sx).1 20, z_E (z_G0 D cy HB sx) z_M0 20) H := y_fst (i := 147) hw rfl
theorem ya_21 (hw : y_W (z_G0 D cy HB sx) (z_es (z_G0 D cy HB sx)) H locs) : va_at D vwCl ((z_G0 D cy HB sx).1 21, z_E (z_G0 D cy HB sx) z_M0 21) H := y_fst (i := 239) hw rfl
theorem ya_22 (hw : y_W (z_G0 D cy HB sx) (z_es (z_G0 D cy HB sx)) H locs) : va_at D vwCl ((z_G0 D cy HB sx).1 22, z_E (z_G0 D cy HB sx) z_M0 22) H := y_fst (i := 58) hw rfl
theorem ya_23 (hw : y_W (z_G0 D cy HB sx) (z_es (z_G0 D cy HB sx)) H locs) : va_at D vwCl ((z_G0 D cy HB sx).1 23, z_E (z_G0 D cy HB sx) z_M0 23) H := y_fst (i := 148) hw rfl
theorem ya_24 (hw : y_W (z_G0 D cy HB sx) (z_es (z_G0 D cy HB sx)) H locs) : va_at D vwCl ((z_G0 D cy HB sx).1 24, z_E (z_G0 D cy HB sx) z_M0 24) H := y_fst (i := 240) hw rfl
theorem ya_25 (hw : y_W (z_G0 D cy HB sx) (z_es (z_G0 D cy HB sx)) H locs) : va_at D vwCl ((z_G0 D cy HB sx).1 25, z_E (z_G0 D cy HB sx) z_M0 25) H := y_fst (i := 59) hw rfl
theorem ya_26 (hw : y_W (z_G0 D cy HB sx) (z_es (z_G0 D cy HB sx)) H locs) : va_at D vwCl ((z_G0 D cy HB sx).1 26, z_E (z_G0 D cy HB sx) z_M0 26) H := y_fst (i := 149) hw rfl
theorem ya_27 (hw : y_W (z_G0 D cy HB sx) (z_es (z_G0 D cy HB sx)) H locs) : va_at D vwCl ((z_G0 D cy HB sx).1 27, z_E (z_G0 D cy HB sx) z_M0 27) H := y_fst (i := 241) hw rfl
theorem ya_28 (hw : y_W (z_G0 D cy HB sx) (z_es (z_G0 D cy HB sx)) H locs) : va_at D vwCl ((z_G0 D cy HB sx).1 28, z_E (z_G0 D cy HB sx) z_M0 28) H := y_fst (i := 233) hw rfl
theorem ya_29 (hw : y_W (z_G0 D cy HB sx) (z_es (z_G0 D cy HB sx)) H locs) : va_at D vwCl ((z_G0 D cy HB sx).1 29, z_E (z_G0 D cy HB sx) z_M0 29) H := y_fst (i := 234) hw rfl
theorem ya_30 (hw : y_W (z_G0 D cy HB sx) (z_es (z_G0 D cy HB sx)) H locs) : va_at D vwCl ((z_G0 D cy HB sx).1 30, z_E (z_G0 D cy HB sx) z_M0 30) H := y_fst (i := 235) hw rfl
theorem ya_31 (hw : y_W (z_G0 D cy HB sx) (z_es (z_G0 D cy HB sx)) H locs) : va_at D vwCl ((z_G0 D cy HB sx).1 31, z_E (z_G0 D cy HB sx) z_M0 31) H := y_fst (i := 236) hw rfl
theorem ya_32 (hw : y_W (z_G0 D cy HB sx) (z_es (z_G0 D cy HB sx)) H locs) : va_at D vwCl ((z_G0 D cy HB sx).1 32, z_E (z_G0 D cy HB sx) z_M0 32) H := y_fst (i := 242) hw rfl
theorem ya_33 (hw : y_W (z_G0 D cy HB sx) (z_es (z_G0 D cy HB sx)) H locs) : va_at D vwCl ((z_G0 D cy HB sx).1 33, z_E (z_G0 D cy HB sx) z_M0 33) H := y_fst (i := 243) hw rfl
theorem ya_34 (hw : y_W (z_G0 D cy HB sx) (z_es (z_G0 D cy HB sx)) H locs) : va_at D vwCl ((z_G0 D cy HB sx).1 34, z_E (z_G0 D cy HB sx) z_M0 34) H := y_fst (i := 244) hw rfl
theorem ya_35 (hw : y_W (z_G0 D cy HB sx) (z_es (z_G0 D cy HB sx)) H locs) : va_at D vwCl ((z_G0 D cy HB sx).1 35, z_E (z_G0 D cy HB sx) z_M0 35) H := y_fst (i := 245) hw rfl
theorem ya_36 (hw : y_W (z_G0 D cy HB sx) (z_es (z_G0 D cy HB sx)) H locs) : va_at D vwCl ((z_G0 D cy HB sx).1 36, z_E (z_G0 D cy HB sx) z_M0 36) H := y_fst (i := 246) hw rfl
theorem ya_37 (hw : y_W (z_G0 D cy HB sx) (z_es (z_G0 D cy HB sx)) H locs) : va_at D vwCl ((z_G0 D cy HB sx).1 37, z_E (z_G0 D cy HB sx) z_M0 37) H := y_fst (i := 247) hw rfl
theorem ya_38 (hw : y_W (z_G0 D cy HB sx) (z_es (z_G0 D cy HB sx)) H locs) : va_at D vwCl ((z_G0 D cy HB sx).1 38, z_E (z_G0 D cy HB sx) z_M0 38) H := y_fst (i := 248) hw rfl
theorem ya_39 (hw : y_W (z_G0 D cy HB sx) (z_es (z_G0 D cy HB sx)) H locs) : va_at D vwCl ((z_G0 D cy HB sx).1 39, z_E (z_G0 D cy HB sx) z_M0 39) H := y_fst (i := 249) hw rfl
theorem ya_40 (hw : y_W (z_G0 D cy HB sx) (z_es (z_G0 D cy HB sx)) H locs) : va_at D vwCl ((z_G0 D cy HB sx).1 40, z_E (z_G0 D cy HB sx) z_M0 40) H := y_snd (i := 0) hw rfl
theorem ya_41 (hw : y_W (z_G0 D cy HB sx) (z_es (z_G0 D cy HB sx)) H locs) : va_at D vwCl ((z_G0 D cy HB sx).1 41, z_E (z_G0 D cy HB sx) z_M0 41) H := y_snd (i := 1) hw rfl
theorem ya_42 (hw : y_W (z_G0 D cy HB sx) (z_es (z_G0 D cy HB sx)) H locs) : va_at D vwCl ((z_G0 D cy HB sx).1 42, z_E (z_G0 D cy HB sx) z_M0 42) H := y_snd (i := 2) hw rfl
theorem ya_43 (hw : y_W (z_G0 D cy HB sx) (z_es (z_G0 D cy HB sx)) H locs) : va_at D vwCl ((z_G0 D cy HB sx).1 43, z_E (z_G0 D cy HB sx) z_M0 43) H := y_snd (i := 3) hw rfl
theorem ya_44 (hw : y_W (z_G0 D cy HB sx) (z_es (z_G0 D cy HB sx)) H locs) : va_at D vwCl ((z_G0 D cy HB sx).1 44, z_E (z_G0 D cy HB sx) z_M0 44) H := y_snd (i := 4) hw rfl
theorem ya_45 (hw : y_W (z_G0 D cy HB sx) (z_es (z_G0 D cy HB sx)) H locs) : va_at D vwCl ((z_G0 D cy HB sx).1 45, z_E (z_G0 D cy HB sx) z_M0 45) H := y_snd (i := 5) hw rfl
theorem ya_46 (hw : y_W (z_G0 D cy HB sx) (z_es (z_G0 D cy HB sx)) H locs) : va_at D vwCl ((z_G0 D cy HB sx).1 46, z_E (z_G0 D cy HB sx) z_M0 46) H := y_snd (i := 6) hw rfl
theorem ya_47 (hw : y_W (z_G0 D cy HB sx) (z_es (z_G0 D cy HB sx)) H locs) : va_at D vwCl ((z_G0 D cy HB sx).1 47, z_E (z_G0 D cy HB sx) z_M0 47) H := y_snd (i := 7) hw rfl
theorem ya_48 (hw : y_W (z_G0 D cy HB sx) (z_es (z_G0 D cy HB sx)) H locs) : va_at D vwCl ((z_G0 D cy HB sx).1 48, z_E (z_G0 D cy HB sx) z_M0 48) H := y_snd (i := 8) hw rfl
theorem ya_49 (hw : y_W (z_G0 D cy HB sx) (z_es (z_G0 D cy HB sx)) H locs) : va_at D vwCl ((z_G0 D cy HB sx).1 49, z_E (z_G0 D cy HB sx) z_M0 49) H := y_snd (i := 9) hw rfl
theorem ya_50 (hw : y_W (z_G0 D cy HB sx) (z_es (z_G0 D cy HB sx)) H locs) : va_at D vwCl ((z_G0 D cy HB sx).1 50, z_E (z_G0 D cy HB sx) z_M0 50) H := y_snd (i := 10) hw rfl
theorem ya_51 (hw : y_W (z_G0 D cy HB sx) (z_es (z_G0 D cy HB sx)) H locs) : va_at D vwCl ((z_G0 D cy HB sx).1 51, z_E (z_G0 D cy HB sx) z_M0 51) H := y_snd (i := 11) hw rfl
theorem ya_52 (hw : y_W (z_G0 D cy HB sx) (z_es (z_G0 D cy HB sx)) H locs) : va_at D vwCl ((z_G0 D cy HB sx).1 52, z_E (z_G0 D cy HB sx) z_M0 52) H := y_snd (i := 12) hw rfl
theorem ya_53 (hw : y_W (z_G0 D cy HB sx) (z_es (z_G0 D cy HB sx)) H locs) : va_at D vwCl ((z_G0 D cy HB sx).1 53, z_E (z_G0 D cy HB sx) z_M0 53) H := y_snd (i := 13) hw rfl
theorem ya_54 (hw : y_W (z_G0 D cy HB sx) (z_es (z_G0 D cy HB sx)) H locs) : va_at D vwCl ((z_G0 D cy HB sx).1 54, z_E (z_G0 D cy HB sx) z_M0 54) H := y_snd (i := 14) hw rfl
theorem ya_55 (hw : y_W (z_G0 D cy HB sx) (z_es (z_G0 D cy HB sx)) H locs) : va_at D vwCl ((z_G0 D cy HB sx).1 55, z_E (z_G0 D cy HB sx) z_M0 55) H := y_snd (i := 15) hw rfl
theorem ya_56 (hw : y_W (z_G0 D cy HB sx) (z_es (z_G0 D cy HB sx)) H locs) : va_at D vwCl ((z_G0 D cy HB sx).1 56, z_E (z_G0 D cy HB sx) z_M0 56) H := y_snd (i := 16) hw rfl
theorem ya_57 (hw : y_W (z_G0 D cy HB sx) (z_es (z_G0 D cy HB sx)) H locs) : va_at D vwCl ((z_G0 D cy HB sx).1 57, z_E (z_G0 D cy HB sx) z_M0 57) H := y_snd (i := 17) hw rfl
theorem ya_58 (hw : y_W (z_G0 D cy HB sx) (z_es (z_G0 D cy HB sx)) H locs) : va_at D vwCl ((z_G0 D cy HB sx).1 58, z_E (z_G0 D cy HB sx) z_M0 58) H := y_snd (i := 18) hw rfl
theorem ya_59 (hw : y_W (z_G0 D cy HB sx) (z_es (z_G0 D cy HB sx)) H locs) : va_at D vwCl ((z_G0 D cy HB sx).1 59, z_E (z_G0 D cy HB sx) z_M0 59) H := y_snd (i := 19) hw rfl
theorem ya_60 (hw : y_W (z_G0 D cy HB sx) (z_es (z_G0 D cy HB sx)) H locs) : va_at D vwCl ((z_G0 D cy HB sx).1 60, z_E (z_G0 D cy HB sx) z_M0 60) H := y_snd (i := 20) hw rfl
theorem ya_61 (hw : y_W (z_G0 D cy HB sx) (z_es (z_G0 D cy HB sx)) H locs) : va_at D vwCl ((z_G0 D cy HB sx).1 61, z_E (z_G0 D cy HB sx) z_M0 61) H := y_snd (i := 21) hw rfl
theorem ya_62 (hw : y_W (z_G0 D cy HB sx) (z_es (z_G0 D cy HB sx)) H locs) : va_at D vwCl ((z_G0 D cy HB sx).1 62, z_E (z_G0 D cy HB sx) z_M0 62) H := y_snd (i := 40) hw rfl
theorem ya_63 (hw : y_W (z_G0 D cy HB sx) (z_es (z_G0 D cy HB sx)) H locs) : va_at D vwCl ((z_G0 D cy HB sx).1 63, z_E (z_G0 D cy HB sx) z_M0 63) H := y_arrq (y_lt5 rfl rfl rfl rfl rfl) (y_snd (i := 22) hw rfl)
theorem ya_64 (hw : y_W (z_G0 D cy HB sx) (z_es (z_G0 D cy HB sx)) H locs) : va_at D vwCl ((z_G0 D cy HB sx).1 64, z_E (z_G0 D cy HB sx) z_M0 64) H := y_arrq (y_lt5 rfl rfl rfl rfl rfl) (y_snd (i := 28) hw rfl)
theorem ya_65 (hw : y_W (z_G0 D cy HB sx) (z_es (z_G0 D cy HB sx)) H locs) : va_at D vwCl ((z_G0 D cy HB sx).1 65, z_E (z_G0 D cy HB sx) z_M0 65) H := y_arrq (y_lt5 rfl rfl rfl rfl rfl) (y_snd (i := 34) hw rfl)
theorem ya_66 (hw : y_W (z_G0 D cy HB sx) (z_es (z_G0 D cy HB sx)) H locs) : va_at D vwCl ((z_G0 D cy HB sx).1 66, z_E (z_G0 D cy HB sx) z_M0 66) H := y_snd (i := 23) hw rfl
theorem ya_67 (hw : y_W (z_G0 D cy HB sx) (z_es (z_G0 D cy HB sx)) H locs) : va_at D vwCl ((z_G0 D cy HB sx).1 67, z_E (z_G0 D cy HB sx) z_M0 67) H := y_snd (i := 24) hw rfl
theorem ya_68 (hw : y_W (z_G0 D cy HB sx) (z_es (z_G0 D cy HB sx)) H locs) : va_at D vwCl ((z_G0 D cy HB sx).1 68, z_E (z_G0 D cy HB sx) z_M0 68) H := y_snd (i := 25) hw rfl
theorem ya_69 (hw : y_W (z_G0 D cy HB sx) (z_es (z_G0 D cy HB sx)) H locs) : va_at D vwCl ((z_G0 D cy HB sx).1 69, z_E (z_G0 D cy HB sx) z_M0 69) H := y_snd (i := 26) hw rfl
theorem ya_70 (hw : y_W (z_G0 D cy HB sx) (z_es (z_G0 D cy HB sx)) H locs) : va_at D vwCl ((z_G0 D cy HB sx).1 70, z_E (z_G0 D cy HB sx) z_M0 70) H := y_snd (i := 27) hw rfl
theorem ya_71 (hw : y_W (z_G0 D cy HB sx) (z_es (z_G0 D cy HB sx)) H locs) : va_at D vwCl ((z_G0 D cy HB sx).1 71, z_E (z_G0 D cy HB sx) z_M0 71) H := y_snd (i := 29) hw rfl
theorem ya_72 (hw : y_W (z_G0 D cy HB sx) (z_es (z_G0 D cy HB sx)) H locs) : va_at D vwCl ((z_G0 D cy HB sx).1 72, z_E (z_G0 D cy HB sx) z_M0 72) H := y_snd (i := 30) hw rfl
theorem ya_73 (hw : y_W (z_G0 D cy HB sx) (z_es (z_G0 D cy HB sx)) H locs) : va_at D vwCl ((z_G0 D cy HB sx).1 73, z_E (z_G0 D cy HB sx) z_M0 73) H := y_snd (i := 31) hw rfl
theorem ya_74 (hw : y_W (z_G0 D cy HB sx) (z_es (z_G0 D cy HB sx)) H locs) : va_at D vwCl ((z_G0 D cy HB sx).1 74, z_E (z_G0 D cy HB sx) z_M0 74) H := y_snd (i := 32) hw rfl
theorem ya_75 (hw : y_W (z_G0 D cy HB sx) (z_es (z_G0 D cy HB sx)) H locs) : va_at D vwCl ((z_G0 D cy HB sx).1 75, z_E (z_G0 D cy HB sx) z_M0 75) H := y_snd (i := 33) hw rfl
theorem ya_76 (hw : y_W (z_G0 D cy HB sx) (z_es (z_G0 D cy HB sx)) H locs) : va_at D vwCl ((z_G0 D cy HB sx).1 76, z_E (z_G0 D cy HB sx) z_M0 76) H := y_snd (i := 35) hw rfl
theorem ya_77 (hw : y_W (z_G0 D cy HB sx) (z_es (z_G0 D cy HB sx)) H locs) : va_at D vwCl ((z_G0 D cy HB sx).1 77, z_E (z_G0 D cy HB sx) z_M0 77) H := y_snd (i := 36) hw rfl
theorem ya_78 (hw : y_W (z_G0 D cy HB sx) (z_es (z_G0 D cy HB sx)) H locs) : va_at D vwCl ((z_G0 D cy HB sx).1 78, z_E (z_G0 D cy HB sx) z_M0 78) H := y_snd (i := 37) hw rfl
theorem ya_79 (hw : y_W (z_G0 D cy HB sx) (z_es (z_G0 D cy HB sx)) H locs) : va_at D vwCl ((z_G0 D cy HB sx).1 79, z_E (z_G0 D cy HB sx) z_M0 79) H := y_snd (i := 38) hw rfl
theorem ya_80 (hw : y_W (z_G0 D cy HB sx) (z_es (z_G0 D cy HB sx)) H locs) : va_at D vwCl ((z_G0 D cy HB sx).1 80, z_E (z_G0 D cy HB sx) z_M0 80) H := y_snd (i := 39) hw rfl
theorem ya_81 (hw : y_W (z_G0 D cy HB sx) (z_es (z_G0 D cy HB sx)) H locs) : va_at D vwCl ((z_G0 D cy HB sx).1 81, z_E (z_G0 D cy HB sx) z_M0 81) H := y_fst (i := 4) hw rfl
theorem ya_82 (hw : y_W (z_G0 D cy HB sx) (z_es (z_G0 D cy HB sx)) H locs) : va_at D vwCl ((z_G0 D cy HB sx).1 82, z_E (z_G0 D cy HB sx) z_M0 82) H := y_fst (i := 5) hw rfl
theorem ya_83 (hw : y_W (z_G0 D cy HB sx) (z_es (z_G0 D cy HB sx)) H locs) : va_at D vwCl ((z_G0 D cy HB sx).1 83, z_E (z_G0 D cy HB sx) z_M0 83) H := y_fst (i := 6) hw rfl
theorem ya_84 (hw : y_W (z_G0 D cy HB sx) (z_es (z_G0 D cy HB sx)) H locs) : va_at D vwCl ((z_G0 D cy HB sx).1 84, z_E (z_G0 D cy HB sx) z_M0 84) H := y_fst (i := 7) hw rfl
theorem ya_85 (hw : y_W (z_G0 D cy HB sx) (z_es (z_G0 D cy HB sx)) H locs) : va_at D vwCl ((z_G0 D cy HB sx).1 85, z_E (z_G0 D cy HB sx) z_M0 85) H := y_fst (i := 8) hw rfl
theorem ya_86 (hw : y_W (z_G0 D cy HB sx) (z_es (z_G0 D cy HB sx)) H locs) : va_at D vwCl ((z_G0 D cy HB sx).1 86, z_E (z_G0 D cy HB sx) z_M0 86) H := y_fst (i := 9) hw rfl
theorem ya_87 (hw : y_W (z_G0 D cy HB sx) (z_es (z_G0 D cy HB sx)) H locs) : va_at D vwCl ((z_G0 D cy HB sx).1 87, z_E (z_G0 D cy HB sx) z_M0 87) H := y_fst (i := 10) hw rfl
theorem ya_88 (hw : y_W (z_G0 D cy HB sx) (z_es (z_G0 D cy HB sx)) H locs) : va_at D vwCl ((z_G0 D cy HB sx).1 88, z_E (z_G0 D cy HB sx) z_M0 88) H := y_fst (i := 11) hw rfl
theorem ya_89 (hw : y_W (z_G0 D cy HB sx) (z_es (z_G0 D cy HB sx)) H locs) : va_at D vwCl ((z_G0 D cy HB sx).1 89, z_E (z_G0 D cy HB sx) z_M0 89) H := y_fst (i := 12) hw rfl
theorem ya_90 (hw : y_W (z_G0 D cy HB sx) (z_es (z_G0 D cy HB sx)) H locs) : va_at D vwCl ((z_G0 D cy HB sx).1 90, z_E (z_G0 D cy HB sx) z_M0 90) H := y_fst (i := 13) hw rfl
theorem ya_91 (hw : y_W (z_G0 D cy HB sx) (z_es (z_G0 D cy HB sx)) H locs) : va_at D vwCl ((z_G0 D cy HB sx).1 91, z_E (z_G0 D cy HB sx) z_M0 91) H := y_fst (i := 14) hw rfl
theorem ya_92 (hw : y_W (z_G0 D cy HB sx) (z_es (z_G0 D cy HB sx)) H locs) : va_at D vwCl ((z_G0 D cy HB sx).1 92, z_E (z_G0 D cy HB sx) z_M0 92) H := y_fst (i := 15) hw rfl
theorem ya_93 (hw : y_W (z_G0 D cy HB sx) (z_es (z_G0 D cy HB sx)) H locs) : va_at D vwCl ((z_G0 D cy HB sx).1 93, z_E (z_G0 D cy HB sx) z_M0 93) H := y_fst (i := 16) hw rfl
theorem ya_94 (hw : y_W (z_G0 D cy HB sx) (z_es (z_G0 D cy HB sx)) H locs) : va_at D vwCl ((z_G0 D cy HB sx).1 94, z_E (z_G0 D cy HB sx) z_M0 94) H := y_fst (i := 17) hw rfl
theorem ya_95 (hw : y_W (z_G0 D cy HB sx) (z_es (z_G0 D cy HB sx)) H locs) : va_at D vwCl ((z_G0 D cy HB sx).1 95, z_E (z_G0 D cy HB sx) z_M0 95) H := y_fst (i := 18) hw rfl
theorem ya_96 (hw : y_W (z_G0 D cy HB sx) (z_es (z_G0 D cy HB sx)) H locs) : va_at D vwCl ((z_G0 D cy HB sx).1 96, z_E (z_G0 D cy HB sx) z_M0 96) H := y_fst (i := 19) hw rfl
theorem ya_97 (hw : y_W (z_G0 D cy HB sx) (z_es (z_G0 D cy HB sx)) H locs) : va_at D vwCl ((z_G0 D cy HB sx).1 97, z_E (z_G0 D cy HB sx) z_M0 97) H := y_fst (i := 20) hw rfl
theorem ya_98 (hw : y_W (z_G0 D cy HB sx) (z_es (z_G0 D cy HB sx)) H locs) : va_at D vwCl ((z_G0 D cy HB sx).1 98, z_E (z_G0 D cy HB sx) z_M0 98) H := y_fst (i := 21) hw rfl
theorem ya_99 (hw : y_W (z_G0 D cy HB sx) (z_es (z_G0 D cy HB sx)) H locs) : va_at D vwCl ((z_G0 D cy HB sx).1 99, z_E (z_G0 D cy HB sx) z_M0 99) H := y_fst (i := 22) hw rfl
theorem ya_100 (hw : y_W (z_G0 D cy HB sx) (z_es (z_G0 D cy HB sx)) H locs) : va_at D vwCl ((z_G0 D cy HB sx).1 100, z_E (z_G0 D cy HB sx) z_M0 100) H := y_fst (i := 23) hw rfl
theorem ya_101 (hw : y_W (z_G0 D cy HB sx) (z_es (z_G0 D cy HB sx)) H locs) : va_at D vwCl ((z_G0 D cy HB sx).1 101, z_E (z_G0 D cy HB sx) z_M0 101) H := y_fst (i := 24) hw rfl
theorem ya_102 (hw : y_W (z_G0 D cy HB sx) (z_es (z_G0 D cy HB sx)) H locs) : va_at D vwCl ((z_G0 D cy HB sx).1 102, z_E (z_G0 D cy HB sx) z_M0 102) H := y_fst (i := 25) hw rfl
theorem ya_103 (hw : y_W (z_G0 D cy HB sx) (z_es (z_G0 D cy HB sx)) H locs) : va_at D vwCl ((z_G0 D cy HB sx).1 103, z_E (z_G0 D cy HB sx) z_M0 103) H := y_fst (i := 26) hw rfl
theorem ya_104 (hw : y_W (z_G0 D cy HB sx) (z_es (z_G0 D cy HB sx)) H locs) : va_at D vwCl ((z_G0 D cy HB sx).1 104, z_E (z_G0 D cy HB sx) z_M0 104) H := y_fst (i := 27) hw rfl
theorem ya_105 (hw : y_W (z_G0 D cy HB sx) (z_es (z_G0 D cy HB sx)) H locs) : va_at D vwCl ((z_G0 D cy HB sx).1 105, z_E (z_G0 D cy HB sx) z_M0 105) H := y_fst (i := 28) hw rfl
theorem ya_106 (hw : y_W (z_G0 D cy HB sx) (z_es (z_G0 D cy HB sx)) H locs) : va_at D vwCl ((z_G0 D cy HB sx).1 106, z_E (z_G0 D cy HB sx) z_M0 106) H := y_fst (i := 29) hw rfl
theorem ya_107 (hw : y_W (z_G0 D cy HB sx) (z_es (z_G0 D cy HB sx)) H locs) : va_at D vwCl ((z_G0 D cy HB sx).1 107, z_E (z_G0 D cy HB sx) z_M0 107) H := y_fst (i := 30) hw rfl
theorem ya_108 (hw : y_W (z_G0 D cy HB sx) (z_es (z_G0 D cy HB sx)) H locs) : va_at D vwCl ((z_G0 D cy HB sx).1 108, z_E (z_G0 D cy HB sx) z_M0 108) H := y_fst (i := 31) hw rfl
theorem ya_109 (hw : y_W (z_G0 D cy HB sx) (z_es (z_G0 D cy HB sx)) H locs) : va_at D vwCl ((z_G0 D cy HB sx).1 109, z_E (z_G0 D cy HB sx) z_M0 109) H := y_fst (i := 32) hw rfl
theorem ya_110 (hw : y_W (z_G0 D cy HB sx) (z_es (z_G0 D cy HB sx)) H locs) : va_at D vwCl ((z_G0 D cy HB sx).1 110, z_E (z_G0 D cy HB sx) z_M0 110) H := y_fst (i := 33) hw rfl
theorem ya_111 (hw : y_W (z_G0 D cy HB sx) (z_es (z_G0 D cy HB sx)) H locs) : va_at D vwCl ((z_G0 D cy HB sx).1 111, z_E (z_G0 D cy HB sx) z_M0 111) H := y_fst (i := 34) hw rfl
theorem ya_112 (hw : y_W (z_G0 D cy HB sx) (z_es (z_G0 D cy HB sx)) H locs) : va_at D vwCl ((z_G0 D cy HB sx).1 112, z_E (z_G0 D cy HB sx) z_M0 112) H := y_fst (i := 35) hw rfl
theorem ya_113 (hw : y_W (z_G0 D cy HB sx) (z_es (z_G0 D cy HB sx)) H locs) : va_at D vwCl ((z_G0 D cy HB sx).1 113, z_E (z_G0 D cy HB sx) z_M0 113) H := y_fst (i := 36) hw rfl
theorem ya_114 (hw : y_W (z_G0 D cy HB sx) (z_es (z_G0 D cy HB sx)) H locs) : va_at D vwCl ((z_G0 D cy HB sx).1 114, z_E (z_G0 D cy HB sx) z_M0 114) H := y_fst (i := 37) hw rfl
theorem ya_115 (hw : y_W (z_G0 D cy HB sx) (z_es (z_G0 D cy HB sx)) H locs) : va_at D vwCl ((z_G0 D cy HB sx).1 115, z_E (z_G0 D cy HB sx) z_M0 115) H := y_fst (i := 38) hw rfl
theorem ya_116 (hw : y_W (z_G0 D cy HB sx) (z_es (z_G0 D cy HB sx)) H locs) : va_at D vwCl ((z_G0 D cy HB sx).1 116, z_E (z_G0 D cy HB sx) z_M0 116) H := y_fst (i := 39) hw rfl
theorem ya_117 (hw : y_W (z_G0 D cy HB sx) (z_es (z_G0 D cy HB sx)) H locs) : va_at D vwCl ((z_G0 D cy HB sx).1 117, z_E (z_G0 D cy HB sx) z_M0 117) H := y_fst (i := 40) hw rfl
theorem ya_118 (hw : y_W (z_G0 D cy HB sx) (z_es (z_G0 D cy HB sx)) H locs) : va_at D vwCl ((z_G0 D cy HB sx).1 118, z_E (z_G0 D cy HB sx) z_M0 118) H := y_fst (i := 41) hw rfl
theorem ya_119 (hw : y_W (z_G0 D cy HB sx) (z_es (z_G0 D cy HB sx)) H locs) : va_at D vwCl ((z_G0 D cy HB sx).1 119, z_E (z_G0 D cy HB sx) z_M0 119) H := y_fst (i := 42) hw rfl
theorem ya_120 (hw : y_W (z_G0 D cy HB sx) (z_es (z_G0 D cy HB sx)) H locs) : va_at D vwCl ((z_G0 D cy HB sx).1 120, z_E (z_G0 D cy HB sx) z_M0 120) H := y_fst (i := 43) hw rfl
theorem ya_121 (hw : y_W (z_G0 D cy HB sx) (z_es (z_G0 D cy HB sx)) H locs) : va_at D vwCl ((z_G0 D cy HB sx).1 121, z_E (z_G0 D cy HB sx) z_M0 121) H := y_fst (i := 44) hw rfl
theorem ya_122 (hw : y_W (z_G0 D cy HB sx) (z_es (z_G0 D cy HB sx)) H locs) : va_at D vwCl ((z_G0 D cy HB sx).1 122, z_E (z_G0 D cy HB sx) z_M0 122) H := y_fst (i := 45) hw rfl
theorem ya_123 (hw : y_W (z_G0 D cy HB sx) (z_es (z_G0 D cy HB sx)) H locs) : va_at D vwCl ((z_G0 D cy HB sx).1 123, z_E (z_G0 D cy HB sx) z_M0 123) H := y_fst (i := 46) hw rfl
theorem ya_124 (hw : y_W (z_G0 D cy HB sx) (z_es (z_G0 D cy HB sx)) H locs) : va_at D vwCl ((z_G0 D cy HB sx).1 124, z_E (z_G0 D cy HB sx) z_M0 124) H := y_fst (i := 47) hw rfl
theorem ya_125 (hw : y_W (z_G0 D cy HB sx) (z_es (z_G0 D cy HB sx)) H locs) : va_at D vwCl ((z_G0 D cy HB sx).1 125, z_E (z_G0 D cy HB sx) z_M0 125) H := y_fst (i := 48) hw rfl
theorem ya_126 (hw : y_W (z_G0 D cy HB sx) (z_es (z_G0 D cy HB sx)) H locs) : va_at D vwCl ((z_G0 D cy HB sx).1 126, z_E (z_G0 D cy HB sx) z_M0 126) H := y_fst (i := 49) hw rfl
theorem ya_127 (hw : y_W (z_G0 D cy HB sx) (z_es (z_G0 D cy HB sx)) H locs) : va_at D vwCl ((z_G0 D cy HB sx).1 127, z_E (z_G0 D cy HB sx) z_M0 127) H := y_fst (i := 50) hw rfl
theorem ya_128 (hw : y_W (z_G0 D cy HB sx) (z_es (z_G0 D cy HB sx)) H locs) : va_at D vwCl ((z_G0 D cy HB sx).1 128, z_E (z_G0 D cy HB sx) z_M0 128) H := y_fst (i := 51) hw rfl
theorem ya_129 (hw : y_W (z_G0 D cy HB sx) (z_es (z_G0 D cy HB sx)) H locs) : va_at D vwCl ((z_G0 D cy HB sx).1 129, z_E (z_G0 D cy HB sx) z_M0 129) H := y_fst (i := 52) hw rfl
theorem ya_130 (hw : y_W (z_G0 D cy HB sx) (z_es (z_G0 D cy HB sx)) H locs) : va_at D vwCl ((z_G0 D cy HB sx).1 130, z_E (z_G0 D cy HB sx) z_M0 130) H := y_fst (i := 53) hw rfl
theorem ya_131 (hw : y_W (z_G0 D cy HB sx) (z_es (z_G0 D cy HB sx)) H locs) : va_at D vwCl ((z_G0 D cy HB sx).1 131, z_E (z_G0 D cy HB sx) z_M0 131) H := y_fst (i := 94) hw rfl
theorem ya_132 (hw : y_W (z_G0 D cy HB sx) (z_es (z_G0 D cy HB sx)) H locs) : va_at D vwCl ((z_G0 D cy HB sx).1 132, z_E (z_G0 D cy HB sx) z_M0 132) H := y_fst (i := 95) hw rfl
theorem ya_133 (hw : y_W (z_G0 D cy HB sx) (z_es (z_G0 D cy HB sx)) H locs) : va_at D vwCl ((z_G0 D cy HB sx).1 133, z_E (z_G0 D cy HB sx) z_M0 133) H := y_fst (i := 96) hw rfl
theorem ya_134 (hw : y_W (z_G0 D cy HB sx) (z_es (z_G0 D cy HB sx)) H locs) : va_at D vwCl ((z_G0 D cy HB sx).1 134, z_E (z_G0 D cy HB sx) z_M0 134) H := y_fst (i := 97) hw rfl
theorem ya_135 (hw : y_W (z_G0 D cy HB sx) (z_es (z_G0 D cy HB sx)) H locs) : va_at D vwCl ((z_G0 D cy HB sx).1 135, z_E (z_G0 D cy HB sx) z_M0 135) H := y_fst (i := 98) hw rfl
theorem ya_136 (hw : y_W (z_G0 D cy HB sx) (z_es (z_G0 D cy HB sx)) H locs) : va_at D vwCl ((z_G0 D cy HB sx).1 136, z_E (z_G0 D cy HB sx) z_M0 136) H := y_fst (i := 99) hw rfl
theorem ya_137 (hw : y_W (z_G0 D cy HB sx) (z_es (z_G0 D cy HB sx)) H locs) : va_at D vwCl ((z_G0 D cy HB sx).1 137, z_E (z_G0 D cy HB sx) z_M0 137) H := y_fst (i := 100) hw rfl
theorem ya_138 (hw : y_W (z_G0 D cy HB sx) (z_es (z_G0 D cy HB sx)) H locs) : va_at D vwCl ((z_G0 D cy HB sx).1 138, z_E (z_G0 D cy HB sx) z_M0 138) H := y_fst (i := 101) hw rfl
theorem ya_139 (hw : y_W (z_G0 D cy HB sx) (z_es (z_G0 D cy HB sx)) H locs) : va_at D vwCl ((z_G0 D cy HB sx).1 139, z_E (z_G0 D cy HB sx) z_M0 139) H := y_fst (i := 102) hw rfl
theorem ya_140 (hw : y_W (z_G0 D cy HB sx) (z_es (z_G0 D cy HB sx)) H locs) : va_at D vwCl ((z_G0 D cy HB sx).1 140, z_E (z_G0 D cy HB sx) z_M0 140) H := y_fst (i := 103) hw rfl
theorem ya_141 (hw : y_W (z_G0 D cy HB sx) (z_es (z_G0 D cy HB sx)) H locs) : va_at D vwCl ((z_G0 D cy HB sx).1 141, z_E (z_G0 D cy HB sx) z_M0 141) H := y_fst (i := 104) hw rfl
theorem ya_142 (hw : y_W (z_G0 D cy HB sx) (z_es (z_G0 D cy HB sx)) H locs) : va_at D vwCl ((z_G0 D cy HB sx).1 142, z_E (z_G0 D cy HB sx) z_M0 142) H := y_fst (i := 105) hw rfl
theorem ya_143 (hw : y_W (z_G0 D cy HB sx) (z_es (z_G0 D cy HB sx)) H locs) : va_at D vwCl ((z_G0 D cy HB sx).1 143, z_E (z_G0 D cy HB sx) z_M0 143) H := y_fst (i := 106) hw rfl
theorem ya_144 (hw : y_W (z_G0 D cy HB sx) (z_es (z_G0 D cy HB sx)) H locs) : va_at D vwCl ((z_G0 D cy HB sx).1 144, z_E (z_G0 D cy HB sx) z_M0 144) H := y_fst (i := 107) hw rfl
theorem ya_145 (hw : y_W (z_G0 D cy HB sx) (z_es (z_G0 D cy HB sx)) H locs) : va_at D vwCl ((z_G0 D cy HB sx).1 145, z_E (z_G0 D cy HB sx) z_M0 145) H := y_fst (i := 108) hw rfl
theorem ya_146 (hw : y_W (z_G0 D cy HB sx) (z_es (z_G0 D cy HB sx)) H locs) : va_at D vwCl ((z_G0 D cy HB sx).1 146, z_E (z_G0 D cy HB sx) z_M0 146) H := y_fst (i := 109) hw rfl
theorem ya_147 (hw : y_W (z_G0 D cy HB sx) (z_es (z_G0 D cy HB sx)) H locs) : va_at D vwCl ((z_G0 D cy HB sx).1 147, z_E (z_G0 D cy HB sx) z_M0 147) H := y_fst (i := 110) hw rfl
theorem ya_148 (hw : y_W (z_G0 D cy HB sx) (z_es (z_G0 D cy HB sx)) H locs) : va_at D vwCl ((z_G0 D cy HB sx).1 148, z_E (z_G0 D cy HB sx) z_M0 148) H := y_fst (i := 111) hw rfl
theorem ya_149 (hw : y_W (z_G0 D cy HB sx) (z_es (z_G0 D cy HB sx)) H locs) : va_at D vwCl ((z_G0 D cy HB sx).1 149, z_E (z_G0 D cy HB sx) z_M0 149) H := y_fst (i := 112) hw rfl
theorem ya_150 (hw : y_W (z_G0 D cy HB sx) (z_es (z_G0 D cy HB sx)) H locs) : va_at D vwCl ((z_G0 D cy HB sx).1 150, z_E (z_G0 D cy HB sx) z_M0 150) H := y_fst (i := 113) hw rfl
theorem ya_151 (hw : y_W (z_G0 D cy HB sx) (z_es (z_G0 D cy HB sx)) H locs) : va_at D vwCl ((z_G0 D cy HB sx).1 151, z_E (z_G0 D cy HB sx) z_M0 151) H := y_fst (i := 114) hw rfl
theorem ya_152 (hw : y_W (z_G0 D cy HB sx) (z_es (z_G0 D cy HB sx)) H locs) : va_at D vwCl ((z_G0 D cy HB sx).1 152, z_E (z_G0 D cy HB sx) z_M0 152) H := y_fst (i := 115) hw rfl
theorem ya_153 (hw : y_W (z_G0 D cy HB sx) (z_es (z_G0 D cy HB sx)) H locs) : va_at D vwCl ((z_G0 D cy HB sx).1 153, z_E (z_G0 D cy HB sx) z_M0 153) H := y_fst (i := 116) hw rfl
theorem ya_154 (hw : y_W (z_G0 D cy HB sx) (z_es (z_G0 D cy HB sx)) H locs) : va_at D vwCl ((z_G0 D cy HB sx).1 154, z_E (z_G0 D cy HB sx) z_M0 154) H := y_fst (i := 117) hw rfl
theorem ya_155 (hw : y_W (z_G0 D cy HB sx) (z_es (z_G0 D cy HB sx)) H locs) : va_at D vwCl ((z_G0 D cy HB sx).1 155, z_E (z_G0 D cy HB sx) z_M0 155) H := y_fst (i := 118) hw rfl
theorem ya_156 (hw : y_W (z_G0 D cy HB sx) (z_es (z_G0 D cy HB sx)) H locs) : va_at D vwCl ((z_G0 D cy HB sx).1 156, z_E (z_G0 D cy HB sx) z_M0 156) H := y_fst (i := 119) hw rfl
theorem ya_157 (hw : y_W (z_G0 D cy HB sx) (z_es (z_G0 D cy HB sx)) H locs) : va_at D vwCl ((z_G0 D cy HB sx).1 157, z_E (z_G0 D cy HB sx) z_M0 157) H := y_fst (i := 120) hw rfl
theorem ya_158 (hw : y_W (z_G0 D cy HB sx) (z_es (z_G0 D cy HB sx)) H locs) : va_at D vwCl ((z_G0 D cy HB sx).1 158, z_E (z_G0 D cy HB sx) z_M0 158) H := y_fst (i := 121) hw rfl
theorem ya_159 (hw : y_W (z_G0 D cy HB sx) (z_es (z_G0 D cy HB sx)) H locs) : va_at D vwCl ((z_G0 D cy HB sx).1 159, z_E (z_G0 D cy HB sx) z_M0 159) H := y_fst (i := 122) hw rfl
theorem ya_160 (hw : y_W (z_G0 D cy HB sx) (z_es (z_G0 D cy HB sx)) H locs) : va_at D vwCl ((z_G0 D cy HB sx).1 160, z_E (z_G0 D cy HB sx) z_M0 160) H := y_fst (i := 123) hw rfl
theorem ya_161 (hw : y_W (z_G0 D cy HB sx) (z_es (z_G0 D cy HB sx)) H locs) : va_at D vwCl ((z_G0 D cy HB sx).1 161, z_E (z_G0 D cy HB sx) z_M0 161) H := y_fst (i := 124) hw rfl
theorem ya_162 (hw : y_W (z_G0 D cy HB sx) (z_es (z_G0 D cy HB sx)) H locs) : va_at D vwCl ((z_G0 D cy HB sx).1 162, z_E (z_G0 D cy HB sx) z_M0 162) H := y_fst (i := 125) hw rfl
theorem ya_163 (hw : y_W (z_G0 D cy HB sx) (z_es (z_G0 D cy HB sx)) H locs) : va_at D vwCl ((z_G0 D cy HB sx).1 163, z_E (z_G0 D cy HB sx) z_M0 163) H := y_fst (i := 126) hw rfl
theorem ya_164 (hw : y_W (z_G0 D cy HB sx) (z_es (z_G0 D cy HB sx)) H locs) : va_at D vwCl ((z_G0 D cy HB sx).1 164, z_E (z_G0 D cy HB sx) z_M0 164) H := y_fst (i := 127) hw rfl
theorem ya_165 (hw : y_W (z_G0 D cy HB sx) (z_es (z_G0 D cy HB sx)) H locs) : va_at D vwCl ((z_G0 D cy HB sx).1 165, z_E (z_G0 D cy HB sx) z_M0 165) H := y_fst (i := 128) hw rfl
theorem ya_166 (hw : y_W (z_G0 D cy HB sx) (z_es (z_G0 D cy HB sx)) H locs) : va_at D vwCl ((z_G0 D cy HB sx).1 166, z_E (z_G0 D cy HB sx) z_M0 166) H := y_fst (i := 129) hw rfl
theorem ya_167 (hw : y_W (z_G0 D cy HB sx) (z_es (z_G0 D cy HB sx)) H locs) : va_at D vwCl ((z_G0 D cy HB sx).1 167, z_E (z_G0 D cy HB sx) z_M0 167) H := y_fst (i := 130) hw rfl
theorem ya_168 (hw : y_W (z_G0 D cy HB sx) (z_es (z_G0 D cy HB sx)) H locs) : va_at D vwCl ((z_G0 D cy HB sx).1 168, z_E (z_G0 D cy HB sx) z_M0 168) H := y_fst (i := 131) hw rfl
theorem ya_169 (hw : y_W (z_G0 D cy HB sx) (z_es (z_G0 D cy HB sx)) H locs) : va_at D vwCl ((z_G0 D cy HB sx).1 169, z_E (z_G0 D cy HB sx) z_M0 169) H := y_fst (i := 132) hw rfl
theorem ya_170 (hw : y_W (z_G0 D cy HB sx) (z_es (z_G0 D cy HB sx)) H locs) : va_at D vwCl ((z_G0 D cy HB sx).1 170, z_E (z_G0 D cy HB sx) z_M0 170) H := y_fst (i := 133) hw rfl
theorem ya_171 (hw : y_W (z_G0 D cy HB sx) (z_es (z_G0 D cy HB sx)) H locs) : va_at D vwCl ((z_G0 D cy HB sx).1 171, z_E (z_G0 D cy HB sx) z_M0 171) H := y_fst (i := 134) hw rfl
theorem ya_172 (hw : y_W (z_G0 D cy HB sx) (z_es (z_G0 D cy HB sx)) H locs) : va_at D vwCl ((z_G0 D cy HB sx).1 172, z_E (z_G0 D cy HB sx) z_M0 172) H := y_fst (i := 135) hw rfl
theorem ya_173 (hw : y_W (z_G0 D cy HB sx) (z_es (z_G0 D cy HB sx)) H locs) : va_at D vwCl ((z_G0 D cy HB sx).1 173, z_E (z_G0 D cy HB sx) z_M0 173) H := y_fst (i := 136) hw rfl
theorem ya_174 (hw : y_W (z_G0 D cy HB sx) (z_es (z_G0 D cy HB sx)) H locs) : va_at D vwCl ((z_G0 D cy HB sx).1 174, z_E (z_G0 D cy HB sx) z_M0 174) H := y_fst (i := 137) hw rfl
theorem ya_175 (hw : y_W (z_G0 D cy HB sx) (z_es (z_G0 D cy HB sx)) H locs) : va_at D vwCl ((z_G0 D cy HB sx).1 175, z_E (z_G0 D cy HB sx) z_M0 175) H := y_fst (i := 138) hw rfl
theorem ya_176 (hw : y_W (z_G0 D cy HB sx) (z_es (z_G0 D cy HB sx)) H locs) : va_at D vwCl ((z_G0 D cy HB sx).1 176, z_E (z_G0 D cy HB sx) z_M0 176) H := y_fst (i := 139) hw rfl
theorem ya_177 (hw : y_W (z_G0 D cy HB sx) (z_es (z_G0 D cy HB sx)) H locs) : va_at D vwCl ((z_G0 D cy HB sx).1 177, z_E (z_G0 D cy HB sx) z_M0 177) H := y_fst (i := 140) hw rfl
theorem ya_178 (hw : y_W (z_G0 D cy HB sx) (z_es (z_G0 D cy HB sx)) H locs) : va_at D vwCl ((z_G0 D cy HB sx).1 178, z_E (z_G0 D cy HB sx) z_M0 178) H := y_fst (i := 141) hw rfl
theorem ya_179 (hw : y_W (z_G0 D cy HB sx) (z_es (z_G0 D cy HB sx)) H locs) : va_at D vwCl ((z_G0 D cy HB sx).1 179, z_E (z_G0 D cy HB sx) z_M0 179) H := y_fst (i := 142) hw rfl
theorem ya_180 (hw : y_W (z_G0 D cy HB sx) (z_es (z_G0 D cy HB sx)) H locs) : va_at D vwCl ((z_G0 D cy HB sx).1 180, z_E (z_G0 D cy HB sx) z_M0 180) H := y_fst (i := 143) hw rfl
theorem ya_181 (hw : y_W (z_G0 D cy HB sx) (z_es (z_G0 D cy HB sx)) H locs) : va_at D vwCl ((z_G0 D cy HB sx).1 181, z_E (z_G0 D cy HB sx) z_M0 181) H := y_fst (i := 183) hw rfl
theorem ya_182 (hw : y_W (z_G0 D cy HB sx) (z_es (z_G0 D cy HB sx)) H locs) : va_at D vwCl ((z_G0 D cy HB sx).1 182, z_E (z_G0 D cy HB sx) z_M0 182) H := y_fst (i := 184) hw rfl
theorem ya_183 (hw : y_W (z_G0 D cy HB sx) (z_es (z_G0 D cy HB sx)) H locs) : va_at D vwCl ((z_G0 D cy HB sx).1 183, z_E (z_G0 D cy HB sx) z_M0 183) H := y_fst (i := 185) hw rfl
theorem ya_184 (hw : y_W (z_G0 D cy HB sx) (z_es (z_G0 D cy HB sx)) H locs) : va_at D vwCl ((z_G0 D cy HB sx).1 184, z_E (z_G0 D cy HB sx) z_M0 184) H := y_fst (i := 186) hw rfl
theorem ya_185 (hw : y_W (z_G0 D cy HB sx) (z_es (z_G0 D cy HB sx)) H locs) : va_at D vwCl ((z_G0 D cy HB sx).1 185, z_E (z_G0 D cy HB sx) z_M0 185) H := y_fst (i := 187) hw rfl
theorem ya_186 (hw : y_W (z_G0 D cy HB sx) (z_es (z_G0 D cy HB sx)) H locs) : va_at D vwCl ((z_G0 D cy HB sx).1 186, z_E (z_G0 D cy HB sx) z_M0 186) H := y_fst (i := 188) hw rfl
theorem ya_187 (hw : y_W (z_G0 D cy HB sx) (z_es (z_G0 D cy HB sx)) H locs) : va_at D vwCl ((z_G0 D cy HB sx).1 187, z_E (z_G0 D cy HB sx) z_M0 187) H := y_fst (i := 189) hw rfl
theorem ya_188 (hw : y_W (z_G0 D cy HB sx) (z_es (z_G0 D cy HB sx)) H locs) : va_at D vwCl ((z_G0 D cy HB sx).1 188, z_E (z_G0 D cy HB sx) z_M0 188) H := y_fst (i := 190) hw rfl
theorem ya_189 (hw : y_W (z_G0 D cy HB sx) (z_es (z_G0 D cy HB sx)) H locs) : va_at D vwCl ((z_G0 D cy HB sx).1 189, z_E (z_G0 D cy HB sx) z_M0 189) H := y_fst (i := 191) hw rfl
theorem ya_190 (hw : y_W (z_G0 D cy HB sx) (z_es (z_G0 D cy HB sx)) H locs) : va_at D vwCl ((z_G0 D cy HB sx).1 190, z_E (z_G0 D cy HB sx) z_M0 190) H := y_fst (i := 192) hw rfl
theorem ya_191 (hw : y_W (z_G0 D cy HB sx) (z_es (z_G0 D cy HB sx)) H locs) : va_at D vwCl ((z_G0 D cy HB sx).1 191, z_E (z_G0 D cy HB sx) z_M0 191) H := y_fst (i := 193) hw rfl
theorem ya_192 (hw : y_W (z_G0 D cy HB sx) (z_es (z_G0 D cy HB sx)) H locs) : va_at D vwCl ((z_G0 D cy HB sx).1 192, z_E (z_G0 D cy HB sx) z_M0 192) H := y_fst (i := 194) hw rfl
theorem ya_193 (hw : y_W (z_G0 D cy HB sx) (z_es (z_G0 D cy HB sx)) H locs) : va_at D vwCl ((z_G0 D cy HB sx).1 193, z_E (z_G0 D cy HB sx) z_M0 193) H := y_fst (i := 195) hw rfl
theorem ya_194 (hw : y_W (z_G0 D cy HB sx) (z_es (z_G0 D cy HB sx)) H locs) : va_at D vwCl ((z_G0 D cy HB sx).1 194, z_E (z_G0 D cy HB sx) z_M0 194) H := y_fst (i := 196) hw rfl
theorem ya_195 (hw : y_W (z_G0 D cy HB sx) (z_es (z_G0 D cy HB sx)) H locs) : va_at D vwCl ((z_G0 D cy HB sx).1 195, z_E (z_G0 D cy HB sx) z_M0 195) H := y_fst (i := 197) hw rfl
theorem ya_196 (hw : y_W (z_G0 D cy HB sx) (z_es (z_G0 D cy HB sx)) H locs) : va_at D vwCl ((z_G0 D cy HB sx).1 196, z_E (z_G0 D cy HB sx) z_M0 196) H := y_fst (i := 198) hw rfl
theorem ya_197 (hw : y_W (z_G0 D cy HB sx) (z_es (z_G0 D cy HB sx)) H locs) : va_at D vwCl ((z_G0 D cy HB sx).1 197, z_E (z_G0 D cy HB sx) z_M0 197) H := y_fst (i := 199) hw rfl
theorem ya_198 (hw : y_W (z_G0 D cy HB sx) (z_es (z_G0 D cy HB sx)) H locs) : va_at D vwCl ((z_G0 D cy HB sx).1 198, z_E (z_G0 D cy HB sx) z_M0 198) H := y_fst (i := 200) hw rfl
theorem ya_199 (hw : y_W (z_G0 D cy HB sx) (z_es (z_G0 D cy HB sx)) H locs) : va_at D vwCl ((z_G0 D cy HB sx).1 199, z_E (z_G0 D cy HB sx) z_M0 199) H := y_fst (i := 201) hw rfl
theorem ya_200 (hw : y_W (z_G0 D cy HB sx) (z_es (z_G0 D cy HB sx)) H locs) : va_at D vwCl ((z_G0 D cy HB sx).1 200, z_E (z_G0 D cy HB sx) z_M0 200) H := y_fst (i := 202) hw rfl
theorem ya_201 (hw : y_W (z_G0 D cy HB sx) (z_es (z_G0 D cy HB sx)) H locs) : va_at D vwCl ((z_G0 D cy HB sx).1 201, z_E (z_G0 D cy HB sx) z_M0 201) H := y_fst (i := 203) hw rfl
theorem ya_202 (hw : y_W (z_G0 D cy HB sx) (z_es (z_G0 D cy HB sx)) H locs) : va_at D vwCl ((z_G0 D cy HB sx).1 202, z_E (z_G0 D cy HB sx) z_M0 202) H := y_fst (i := 204) hw rfl
theorem ya_203 (hw : y_W (z_G0 D cy HB sx) (z_es (z_G0 D cy HB sx)) H locs) : va_at D vwCl ((z_G0 D cy HB sx).1 203, z_E (z_G0 D cy HB sx) z_M0 203) H := y_fst (i := 205) hw rfl
theorem ya_204 (hw : y_W (z_G0 D cy HB sx) (z_es (z_G0 D cy HB sx)) H locs) : va_at D vwCl ((z_G0 D cy HB sx).1 204, z_E (z_G0 D cy HB sx) z_M0 204) H := y_fst (i := 206) hw rfl
theorem ya_205 (hw : y_W (z_G0 D cy HB sx) (z_es (z_G0 D cy HB sx)) H locs) : va_at D vwCl ((z_G0 D cy HB sx).1 205, z_E (z_G0 D cy HB sx) z_M0 205) H := y_fst (i := 207) hw rfl
theorem ya_206 (hw : y_W (z_G0 D cy HB sx) (z_es (z_G0 D cy HB sx)) H locs) : va_at D vwCl ((z_G0 D cy HB sx).1 206, z_E (z_G0 D cy HB sx) z_M0 206) H := y_fst (i := 208) hw rfl
theorem ya_207 (hw : y_W (z_G0 D cy HB sx) (z_es (z_G0 D cy HB sx)) H locs) : va_at D vwCl ((z_G0 D cy HB sx).1 207, z_E (z_G0 D cy HB sx) z_M0 207) H := y_fst (i := 209) hw rfl
theorem ya_208 (hw : y_W (z_G0 D cy HB sx) (z_es (z_G0 D cy HB sx)) H locs) : va_at D vwCl ((z_G0 D cy HB sx).1 208, z_E (z_G0 D cy HB sx) z_M0 208) H := y_fst (i := 210) hw rfl
theorem ya_209 (hw : y_W (z_G0 D cy HB sx) (z_es (z_G0 D cy HB sx)) H locs) : va_at D vwCl ((z_G0 D cy HB sx).1 209, z_E (z_G0 D cy HB sx) z_M0 209) H := y_fst (i := 211) hw rfl
theorem ya_210 (hw : y_W (z_G0 D cy HB sx) (z_es (z_G0 D cy HB sx)) H locs) : va_at D vwCl ((z_G0 D cy HB sx).1 210, z_E (z_G0 D cy HB sx) z_M0 210) H := y_fst (i := 212) hw rfl
theorem ya_211 (hw : y_W (z_G0 D cy HB sx) (z_es (z_G0 D cy HB sx)) H locs) : va_at D vwCl ((z_G0 D cy HB sx).1 211, z_E (z_G0 D cy HB sx) z_M0 211) H := y_fst (i := 213) hw rfl
theorem ya_212 (hw : y_W (z_G0 D cy HB sx) (z_es (z_G0 D cy HB sx)) H locs) : va_at D vwCl ((z_G0 D cy HB sx).1 212, z_E (z_G0 D cy HB sx) z_M0 212) H := y_fst (i := 214) hw rfl
theorem ya_213 (hw : y_W (z_G0 D cy HB sx) (z_es (z_G0 D cy HB sx)) H locs) : va_at D vwCl ((z_G0 D cy HB sx).1 213, z_E (z_G0 D cy HB sx) z_M0 213) H := y_fst (i := 215) hw rfl
theorem ya_214 (hw : y_W (z_G0 D cy HB sx) (z_es (z_G0 D cy HB sx)) H locs) : va_at D vwCl ((z_G0 D cy HB sx).1 214, z_E (z_G0 D cy HB sx) z_M0 214) H := y_fst (i := 216) hw rfl
theorem ya_215 (hw : y_W (z_G0 D cy HB sx) (z_es (z_G0 D cy HB sx)) H locs) : va_at D vwCl ((z_G0 D cy HB sx).1 215, z_E (z_G0 D cy HB sx) z_M0 215) H := y_fst (i := 217) hw rfl
theorem ya_216 (hw : y_W (z_G0 D cy HB sx) (z_es (z_G0 D cy HB sx)) H locs) : va_at D vwCl ((z_G0 D cy HB sx).1 216, z_E (z_G0 D cy HB sx) z_M0 216) H := y_fst (i := 218) hw rfl
theorem ya_217 (hw : y_W (z_G0 D cy HB sx) (z_es (z_G0 D cy HB sx)) H locs) : va_at D vwCl ((z_G0 D cy HB sx).1 217, z_E (z_G0 D cy HB sx) z_M0 217) H := y_fst (i := 219) hw rfl
theorem ya_218 (hw : y_W (z_G0 D cy HB sx) (z_es (z_G0 D cy HB sx)) H locs) : va_at D vwCl ((z_G0 D cy HB sx).1 218, z_E (z_G0 D cy HB sx) z_M0 218) H := y_fst (i := 220) hw rfl
theorem ya_219 (hw : y_W (z_G0 D cy HB sx) (z_es (z_G0 D cy HB sx)) H locs) : va_at D vwCl ((z_G0 D cy HB sx).1 219, z_E (z_G0 D cy HB sx) z_M0 219) H := y_fst (i := 221) hw rfl
theorem ya_220 (hw : y_W (z_G0 D cy HB sx) (z_es (z_G0 D cy HB sx)) H locs) : va_at D vwCl ((z_G0 D cy HB sx).1 220, z_E (z_G0 D cy HB sx) z_M0 220) H := y_fst (i := 222) hw rfl
theorem ya_221 (hw : y_W (z_G0 D cy HB sx) (z_es (z_G0 D cy HB sx)) H locs) : va_at D vwCl ((z_G0 D cy HB sx).1 221, z_E (z_G0 D cy HB sx) z_M0 221) H := y_fst (i := 223) hw rfl
theorem ya_222 (hw : y_W (z_G0 D cy HB sx) (z_es (z_G0 D cy HB sx)) H locs) : va_at D vwCl ((z_G0 D cy HB sx).1 222, z_E (z_G0 D cy HB sx) z_M0 222) H := y_fst (i := 224) hw rfl
theorem ya_223 (hw : y_W (z_G0 D cy HB sx) (z_es (z_G0 D cy HB sx)) H locs) : va_at D vwCl ((z_G0 D cy HB sx).1 223, z_E (z_G0 D cy HB sx) z_M0 223) H := y_fst (i := 225) hw rfl
theorem ya_224 (hw : y_W (z_G0 D cy HB sx) (z_es (z_G0 D cy HB sx)) H locs) : va_at D vwCl ((z_G0 D cy HB sx).1 224, z_E (z_G0 D cy HB sx) z_M0 224) H := y_fst (i := 226) hw rfl
theorem ya_225 (hw : y_W (z_G0 D cy HB sx) (z_es (z_G0 D cy HB sx)) H locs) : va_at D vwCl ((z_G0 D cy HB sx).1 225, z_E (z_G0 D cy HB sx) z_M0 225) H := y_fst (i := 227) hw rfl
theorem ya_226 (hw : y_W (z_G0 D cy HB sx) (z_es (z_G0 D cy HB sx)) H locs) : va_at D vwCl ((z_G0 D cy HB sx).1 226, z_E (z_G0 D cy HB sx) z_M0 226) H := y_fst (i := 228) hw rfl
theorem ya_227 (hw : y_W (z_G0 D cy HB sx) (z_es (z_G0 D cy HB sx)) H locs) : va_at D vwCl ((z_G0 D cy HB sx).1 227, z_E (z_G0 D cy HB sx) z_M0 227) H := y_fst (i := 229) hw rfl
theorem ya_228 (hw : y_W (z_G0 D cy HB sx) (z_es (z_G0 D cy HB sx)) H locs) : va_at D vwCl ((z_G0 D cy HB sx).1 228, z_E (z_G0 D cy HB sx) z_M0 228) H := y_fst (i := 230) hw rfl
theorem ya_229 (hw : y_W (z_G0 D cy HB sx) (z_es (z_G0 D cy HB sx)) H locs) : va_at D vwCl ((z_G0 D cy HB sx).1 229, z_E (z_G0 D cy HB sx) z_M0 229) H := y_fst (i := 231) hw rfl
theorem ya_230 (hw : y_W (z_G0 D cy HB sx) (z_es (z_G0 D cy HB sx)) H locs) : va_at D vwCl ((z_G0 D cy HB sx).1 230, z_E (z_G0 D cy HB sx) z_M0 230) H := y_fst (i := 232) hw rfl
theorem ya_231 (hw : y_W (z_G0 D cy HB sx) (z_es (z_G0 D cy HB sx)) H locs) : va_at D vwCl ((z_G0 D cy HB sx).1 231, z_E (z_G0 D cy HB sx) z_M0 231) H := y_fst (i := 61) hw rfl
theorem ya_232 (hw : y_W (z_G0 D cy HB sx) (z_es (z_G0 D cy HB sx)) H locs) : va_at D vwCl ((z_G0 D cy HB sx).1 232, z_E (z_G0 D cy HB sx) z_M0 232) H := y_fst (i := 62) hw rfl
theorem ya_233 (hw : y_W (z_G0 D cy HB sx) (z_es (z_G0 D cy HB sx)) H locs) : va_at D vwCl ((z_G0 D cy HB sx).1 233, z_E (z_G0 D cy HB sx) z_M0 233) H := y_fst (i := 63) hw rfl
theorem ya_234 (hw : y_W (z_G0 D cy HB sx) (z_es (z_G0 D cy HB sx)) H locs) : va_at D vwCl ((z_G0 D cy HB sx).1 234, z_E (z_G0 D cy HB sx) z_M0 234) H := y_fst (i := 64) hw rfl
theorem ya_235 (hw : y_W (z_G0 D cy HB sx) (z_es (z_G0 D cy HB sx)) H locs) : va_at D vwCl ((z_G0 D cy HB sx).1 235, z_E (z_G0 D cy HB sx) z_M0 235) H := y_fst (i := 65) hw rfl
theorem ya_236 (hw : y_W (z_G0 D cy HB sx) (z_es (z_G0 D cy HB sx)) H locs) : va_at D vwCl ((z_G0 D cy HB sx).1 236, z_E (z_G0 D cy HB sx) z_M0 236) H := y_fst (i := 66) hw rfl
theorem ya_237 (hw : y_W (z_G0 D cy HB sx) (z_es (z_G0 D cy HB sx)) H locs) : va_at D vwCl ((z_G0 D cy HB sx).1 237, z_E (z_G0 D cy HB sx) z_M0 237) H := y_fst (i := 67) hw rfl
theorem ya_238 (hw : y_W (z_G0 D cy HB sx) (z_es (z_G0 D cy HB sx)) H locs) : va_at D vwCl ((z_G0 D cy HB sx).1 238, z_E (z_G0 D cy HB sx) z_M0 238) H := y_fst (i := 68) hw rfl
theorem ya_239 (hw : y_W (z_G0 D cy HB sx) (z_es (z_G0 D cy HB sx)) H locs) : va_at D vwCl ((z_G0 D cy HB sx).1 239, z_E (z_G0 D cy HB sx) z_M0 239) H := y_fst (i := 69) hw rfl
theorem ya_240 (hw : y_W (z_G0 D cy HB sx) (z_es (z_G0 D cy HB sx)) H locs) : va_at D vwCl ((z_G0 D cy HB sx).1 240, z_E (z_G0 D cy HB sx) z_M0 240) H := y_fst (i := 70) hw rfl
theorem ya_241 (hw : y_W (z_G0 D cy HB sx) (z_es (z_G0 D cy HB sx)) H locs) : va_at D vwCl ((z_G0 D cy HB sx).1 241, z_E (z_G0 D cy HB sx) z_M0 241) H := y_fst (i := 71) hw rfl
theorem ya_242 (hw : y_W (z_G0 D cy HB sx) (z_es (z_G0 D cy HB sx)) H locs) : va_at D vwCl ((z_G0 D cy HB sx).1 242, z_E (z_G0 D cy HB sx) z_M0 242) H := y_fst (i := 72) hw rfl
theorem ya_243 (hw : y_W (z_G0 D cy HB sx) (z_es (z_G0 D cy HB sx)) H locs) : va_at D vwCl ((z_G0 D cy HB sx).1 243, z_E (z_G0 D cy HB sx) z_M0 243) H := y_fst (i := 73) hw rfl
theorem ya_244 (hw : y_W (z_G0 D cy HB sx) (z_es (z_G0 D cy HB sx)) H locs) : va_at D vwCl ((z_G0 D cy HB sx).1 244, z_E (z_G0 D cy HB sx) z_M0 244) H := y_fst (i := 74) hw rfl
theorem ya_245 (hw : y_W (z_G0 D cy HB sx) (z_es (z_G0 D cy HB sx)) H locs) : va_at D vwCl ((z_G0 D cy HB sx).1 245, z_E (z_G0 D cy HB sx) z_M0 245) H := y_fst (i := 75) hw rfl
theorem ya_246 (hw : y_W (z_G0 D cy HB sx) (z_es (z_G0 D cy HB sx)) H locs) : va_at D vwCl ((z_G0 D cy HB sx).1 246, z_E (z_G0 D cy HB sx) z_M0 246) H := y_fst (i := 76) hw rfl
theorem ya_247 (hw : y_W (z_G0 D cy HB sx) (z_es (z_G0 D cy HB sx)) H locs) : va_at D vwCl ((z_G0 D cy HB sx).1 247, z_E (z_G0 D cy HB sx) z_M0 247) H := y_fst (i := 77) hw rfl
theorem ya_248 (hw : y_W (z_G0 D cy HB sx) (z_es (z_G0 D cy HB sx)) H locs) : va_at D vwCl ((z_G0 D cy HB sx).1 248, z_E (z_G0 D cy HB sx) z_M0 248) H := y_fst (i := 78) hw rfl
theorem ya_249 (hw : y_W (z_G0 D cy HB sx) (z_es (z_G0 D cy HB sx)) H locs) : va_at D vwCl ((z_G0 D cy HB sx).1 249, z_E (z_G0 D cy HB sx) z_M0 249) H := y_fst (i := 79) hw rfl
theorem ya_250 (hw : y_W (z_G0 D cy HB sx) (z_es (z_G0 D cy HB sx)) H locs) : va_at D vwCl ((z_G0 D cy HB sx).1 250, z_E (z_G0 D cy HB sx) z_M0 250) H := y_fst (i := 80) hw rfl
theorem ya_251 (hw : y_W (z_G0 D cy HB sx) (z_es (z_G0 D cy HB sx)) H locs) : va_at D vwCl ((z_G0 D cy HB sx).1 251, z_E (z_G0 D cy HB sx) z_M0 251) H := y_fst (i := 81) hw rfl
theorem ya_252 (hw : y_W (z_G0 D cy HB sx) (z_es (z_G0 D cy HB sx)) H locs) : va_at D vwCl ((z_G0 D cy HB sx).1 252, z_E (z_G0 D cy HB sx) z_M0 252) H := y_fst (i := 82) hw rfl
theorem ya_253 (hw : y_W (z_G0 D cy HB sx) (z_es (z_G0 D cy HB sx)) H locs) : va_at D vwCl ((z_G0 D cy HB sx).1 253, z_E (z_G0 D cy HB sx) z_M0 253) H := y_fst (i := 83) hw rfl
theorem ya_254 (hw : y_W (z_G0 D cy HB sx) (z_es (z_G0 D cy HB sx)) H locs) : va_at D vwCl ((z_G0 D cy HB sx).1 254, z_E (z_G0 D cy HB sx) z_M0 254) H := y_fst (i := 84) hw rfl
theorem ya_255 (hw : y_W (z_G0 D cy HB sx) (z_es (z_G0 D cy HB sx)) H locs) : va_at D vwCl ((z_G0 D cy HB sx).1 255, z_E (z_G0 D cy HB sx) z_M0 255) H := y_fst (i := 85) hw rfl
theorem ya_256 (hw : y_W (z_G0 D cy HB sx) (z_es (z_G0 D cy HB sx)) H locs) : va_at D vwCl ((z_G0 D cy HB sx).1 256, z_E (z_G0 D cy HB sx) z_M0 256) H := y_fst (i := 86) hw rfl
theorem ya_257 (hw : y_W (z_G0 D cy HB sx) (z_es (z_G0 D cy HB sx)) H locs) : va_at D vwCl ((z_G0 D cy HB sx).1 257, z_E (z_G0 D cy HB sx) z_M0 257) H := y_fst (i := 87) hw rfl
theorem ya_258 (hw : y_W (z_G0 D cy HB sx) (z_es (z_G0 D cy HB sx)) H locs) : va_at D vwCl ((z_G0 D cy HB sx).1 258, z_E (z_G0 D cy HB sx) z_M0 258) H := y_fst (i := 88) hw rfl
theorem ya_259 (hw : y_W (z_G0 D cy HB sx) (z_es (z_G0 D cy HB sx)) H locs) : va_at D vwCl ((z_G0 D cy HB sx).1 259, z_E (z_G0 D cy HB sx) z_M0 259) H := y_fst (i := 89) hw rfl
theorem ya_260 (hw : y_W (z_G0 D cy HB sx) (z_es (z_G0 D cy HB sx)) H locs) : va_at D vwCl ((z_G0 D cy HB sx).1 260, z_E (z_G0 D cy HB sx) z_M0 260) H := y_fst (i := 90) hw rfl
theorem ya_261 (hw : y_W (z_G0 D cy HB sx) (z_es (z_G0 D cy HB sx)) H locs) : va_at D vwCl ((z_G0 D cy HB sx).1 261, z_E (z_G0 D cy HB sx) z_M0 261) H := y_fst (i := 151) hw rfl
theorem ya_262 (hw : y_W (z_G0 D cy HB sx) (z_es (z_G0 D cy HB sx)) H locs) : va_at D vwCl ((z_G0 D cy HB sx).1 262, z_E (z_G0 D cy HB sx) z_M0 262) H := y_fst (i := 152) hw rfl
theorem ya_263 (hw : y_W (z_G0 D cy HB sx) (z_es (z_G0 D cy HB sx)) H locs) : va_at D vwCl ((z_G0 D cy HB sx).1 263, z_E (z_G0 D cy HB sx) z_M0 263) H := y_fst (i := 153) hw rfl
theorem ya_264 (hw : y_W (z_G0 D cy HB sx) (z_es (z_G0 D cy HB sx)) H locs) : va_at D vwCl ((z_G0 D cy HB sx).1 264, z_E (z_G0 D cy HB sx) z_M0 264) H := y_fst (i := 154) hw rfl
theorem ya_265 (hw : y_W (z_G0 D cy HB sx) (z_es (z_G0 D cy HB sx)) H locs) : va_at D vwCl ((z_G0 D cy HB sx).1 265, z_E (z_G0 D cy HB sx) z_M0 265) H := y_fst (i := 155) hw rfl
theorem ya_266 (hw : y_W (z_G0 D cy HB sx) (z_es (z_G0 D cy HB sx)) H locs) : va_at D vwCl ((z_G0 D cy HB sx).1 266, z_E (z_G0 D cy HB sx) z_M0 266) H := y_fst (i := 156) hw rfl
theorem ya_267 (hw : y_W (z_G0 D cy HB sx) (z_es (z_G0 D cy HB sx)) H locs) : va_at D vwCl ((z_G0 D cy HB sx).1 267, z_E (z_G0 D cy HB sx) z_M0 267) H := y_fst (i := 157) hw rfl
theorem ya_268 (hw : y_W (z_G0 D cy HB sx) (z_es (z_G0 D cy HB sx)) H locs) : va_at D vwCl ((z_G0 D cy HB sx).1 268, z_E (z_G0 D cy HB sx) z_M0 268) H := y_fst (i := 158) hw rfl
theorem ya_269 (hw : y_W (z_G0 D cy HB sx) (z_es (z_G0 D cy HB sx)) H locs) : va_at D vwCl ((z_G0 D cy HB sx).1 269, z_E (z_G0 D cy HB sx) z_M0 269) H := y_fst (i := 159) hw rfl
theorem ya_270 (hw : y_W (z_G0 D cy HB sx) (z_es (z_G0 D cy HB sx)) H locs) : va_at D vwCl ((z_G0 D cy HB sx).1 270, z_E (z_G0 D cy HB sx) z_M0 270) H := y_fst (i := 160) hw rfl
theorem ya_271 (hw : y_W (z_G0 D cy HB sx) (z_es (z_G0 D cy HB sx)) H locs) : va_at D vwCl ((z_G0 D cy HB sx).1 271, z_E (z_G0 D cy HB sx) z_M0 271) H := y_fst (i := 161) hw rfl
theorem ya_272 (hw : y_W (z_G0 D cy HB sx) (z_es (z_G0 D cy HB sx)) H locs) : va_at D vwCl ((z_G0 D cy HB sx).1 272, z_E (z_G0 D cy HB sx) z_M0 272) H := y_fst (i := 162) hw rfl
theorem ya_273 (hw : y_W (z_G0 D cy HB sx) (z_es (z_G0 D cy HB sx)) H locs) : va_at D vwCl ((z_G0 D cy HB sx).1 273, z_E (z_G0 D cy HB sx) z_M0 273) H := y_fst (i := 163) hw rfl
theorem ya_274 (hw : y_W (z_G0 D cy HB sx) (z_es (z_G0 D cy HB sx)) H locs) : va_at D vwCl ((z_G0 D cy HB sx).1 274, z_E (z_G0 D cy HB sx) z_M0 274) H := y_fst (i := 164) hw rfl
theorem ya_275 (hw : y_W (z_G0 D cy HB sx) (z_es (z_G0 D cy HB sx)) H locs) : va_at D vwCl ((z_G0 D cy HB sx).1 275, z_E (z_G0 D cy HB sx) z_M0 275) H := y_fst (i := 165) hw rfl
theorem ya_276 (hw : y_W (z_G0 D cy HB sx) (z_es (z_G0 D cy HB sx)) H locs) : va_at D vwCl ((z_G0 D cy HB sx).1 276, z_E (z_G0 D cy HB sx) z_M0 276) H := y_fst (i := 166) hw rfl
theorem ya_277 (hw : y_W (z_G0 D cy HB sx) (z_es (z_G0 D cy HB sx)) H locs) : va_at D vwCl ((z_G0 D cy HB sx).1 277, z_E (z_G0 D cy HB sx) z_M0 277) H := y_fst (i := 167) hw rfl
theorem ya_278 (hw : y_W (z_G0 D cy HB sx) (z_es (z_G0 D cy HB sx)) H locs) : va_at D vwCl ((z_G0 D cy HB sx).1 278, z_E (z_G0 D cy HB sx) z_M0 278) H := y_fst (i := 168) hw rfl
theorem ya_279 (hw : y_W (z_G0 D cy HB sx) (z_es (z_G0 D cy HB sx)) H locs) : va_at D vwCl ((z_G0 D cy HB sx).1 279, z_E (z_G0 D cy HB sx) z_M0 279) H := y_fst (i := 169) hw rfl
theorem ya_280 (hw : y_W (z_G0 D cy HB sx) (z_es (z_G0 D cy HB sx)) H locs) : va_at D vwCl ((z_G0 D cy HB sx).1 280, z_E (z_G0 D cy HB sx) z_M0 280) H := y_fst (i := 170) hw rfl
theorem ya_281 (hw : y_W (z_G0 D cy HB sx) (z_es (z_G0 D cy HB sx)) H locs) : va_at D vwCl ((z_G0 D cy HB sx).1 281, z_E (z_G0 D cy HB sx) z_M0 281) H := y_fst (i := 171) hw rfl
theorem ya_282 (hw : y_W (z_G0 D cy HB sx) (z_es (z_G0 D cy HB sx)) H locs) : va_at D vwCl ((z_G0 D cy HB sx).1 282, z_E (z_G0 D cy HB sx) z_M0 282) H := y_fst (i := 172) hw rfl
theorem ya_283 (hw : y_W (z_G0 D cy HB sx) (z_es (z_G0 D cy HB sx)) H locs) : va_at D vwCl ((z_G0 D cy HB sx).1 283, z_E (z_G0 D cy HB sx) z_M0 283) H := y_fst (i := 173) hw rfl
theorem ya_284 (hw : y_W (z_G0 D cy HB sx) (z_es (z_G0 D cy HB sx)) H locs) : va_at D vwCl ((z_G0 D cy HB sx).1 284, z_E (z_G0 D cy HB sx) z_M0 284) H := y_fst (i := 174) hw rfl
theorem ya_285 (hw : y_W (z_G0 D cy HB sx) (z_es (z_G0 D cy HB sx)) H locs) : va_at D vwCl ((z_G0 D cy HB sx).1 285, z_E (z_G0 D cy HB sx) z_M0 285) H := y_fst (i := 175) hw rfl
theorem ya_286 (hw : y_W (z_G0 D cy HB sx) (z_es (z_G0 D cy HB sx)) H locs) : va_at D vwCl ((z_G0 D cy HB sx).1 286, z_E (z_G0 D cy HB sx) z_M0 286) H := y_fst (i := 176) hw rfl
theorem ya_287 (hw : y_W (z_G0 D cy HB sx) (z_es (z_G0 D cy HB sx)) H locs) : va_at D vwCl ((z_G0 D cy HB sx).1 287, z_E (z_G0 D cy HB sx) z_M0 287) H := y_fst (i := 177) hw rfl
theorem ya_288 (hw : y_W (z_G0 D cy HB sx) (z_es (z_G0 D cy HB sx)) H locs) : va_at D vwCl ((z_G0 D cy HB sx).1 288, z_E (z_G0 D cy HB sx) z_M0 288) H := y_fst (i := 178) hw rfl
theorem ya_289 (hw : y_W (z_G0 D cy HB sx) (z_es (z_G0 D cy HB sx)) H locs) : va_at D vwCl ((z_G0 D cy HB sx).1 289, z_E (z_G0 D cy HB sx) z_M0 289) H := y_fst (i := 179) hw rfl
theorem ya_290 (hw : y_W (z_G0 D cy HB sx) (z_es (z_G0 D cy HB sx)) H locs) : va_at D vwCl ((z_G0 D cy HB sx).1 290, z_E (z_G0 D cy HB sx) z_M0 290) H := y_fst (i := 180) hw rfl
set_option maxRecDepth 20000 in
theorem y_all (hw : y_W (z_G0 D cy HB sx) (z_es (z_G0 D cy HB sx)) H locs) : ∀ k, k < 291 → va_at D vwCl ((z_G0 D cy HB sx).1 k, z_E (z_G0 D cy HB sx) z_M0 k) H := by
  have h0 : ∀ k, k < 0 → va_at D vwCl ((z_G0 D cy HB sx).1 k, z_E (z_G0 D cy HB sx) z_M0 k) H := fun k hk => absurd hk (Nat.not_lt_zero k)
  have h1 := y_step (P := fun k => va_at D vwCl ((z_G0 D cy HB sx).1 k, z_E (z_G0 D cy HB sx) z_M0 k) H) h0 (ya_0 hw)
  replace h1 := y_step (P := fun k => va_at D vwCl ((z_G0 D cy HB sx).1 k, z_E (z_G0 D cy HB sx) z_M0 k) H) h1 (ya_1 hw)
  replace h1 := y_step (P := fun k => va_at D vwCl ((z_G0 D cy HB sx).1 k, z_E (z_G0 D cy HB sx) z_M0 k) H) h1 (ya_2 hw)
  replace h1 := y_step (P := fun k => va_at D vwCl ((z_G0 D cy HB sx).1 k, z_E (z_G0 D cy HB sx) z_M0 k) H) h1 (ya_3 hw)
  replace h1 := y_step (P := fun k => va_at D vwCl ((z_G0 D cy HB sx).1 k, z_E (z_G0 D cy HB sx) z_M0 k) H) h1 (ya_4 hw)
  replace h1 := y_step (P := fun k => va_at D vwCl ((z_G0 D cy HB sx).1 k, z_E (z_G0 D cy HB sx) z_M0 k) H) h1 (ya_5 hw)
  replace h1 := y_step (P := fun k => va_at D vwCl ((z_G0 D cy HB sx).1 k, z_E (z_G0 D cy HB sx) z_M0 k) H) h1 (ya_6 hw)
  replace h1 := y_step (P := fun k => va_at D vwCl ((z_G0 D cy HB sx).1 k, z_E (z_G0 D cy HB sx) z_M0 k) H) h1 (ya_7 hw)
  replace h1 := y_step (P := fun k => va_at D vwCl ((z_G0 D cy HB sx).1 k, z_E (z_G0 D cy HB sx) z_M0 k) H) h1 (ya_8 hw)
  replace h1 := y_step (P := fun k => va_at D vwCl ((z_G0 D cy HB sx).1 k, z_E (z_G0 D cy HB sx) z_M0 k) H) h1 (ya_9 hw)
  replace h1 := y_step (P := fun k => va_at D vwCl ((z_G0 D cy HB sx).1 k, z_E (z_G0 D cy HB sx) z_M0 k) H) h1 (ya_10 hw)
  replace h1 := y_step (P := fun k => va_at D vwCl ((z_G0 D cy HB sx).1 k, z_E (z_G0 D cy HB sx) z_M0 k) H) h1 (ya_11 hw)
  replace h1 := y_step (P := fun k => va_at D vwCl ((z_G0 D cy HB sx).1 k, z_E (z_G0 D cy HB sx) z_M0 k) H) h1 (ya_12 hw)
  replace h1 := y_step (P := fun k => va_at D vwCl ((z_G0 D cy HB sx).1 k, z_E (z_G0 D cy HB sx) z_M0 k) H) h1 (ya_13 hw)
  replace h1 := y_step (P := fun k => va_at D vwCl ((z_G0 D cy HB sx).1 k, z_E (z_G0 D cy HB sx) z_M0 k) H) h1 (ya_14 hw)
  replace h1 := y_step (P := fun k => va_at D vwCl ((z_G0 D cy HB sx).1 k, z_E (z_G0 D cy HB sx) z_M0 k) H) h1 (ya_15 hw)
  replace h1 := y_step (P := fun k => va_at D vwCl ((z_G0 D cy HB sx).1 k, z_E (z_G0 D cy HB sx) z_M0 k) H) h1 (ya_16 hw)
  replace h1 := y_step (P := fun k => va_at D vwCl ((z_G0 D cy HB sx).1 k, z_E (z_G0 D cy HB sx) z_M0 k) H) h1 (ya_17 hw)
  replace h1 := y_step (P := fun k => va_at D vwCl ((z_G0 D cy HB sx).1 k, z_E (z_G0 D cy HB sx) z_M0 k) H) h1 (ya_18 hw)
  replace h1 := y_step (P := fun k => va_at D vwCl ((z_G0 D cy HB sx).1 k, z_E (z_G0 D cy HB sx) z_M0 k) H) h1 (ya_19 hw)
  replace h1 := y_step (P := fun k => va_at D vwCl ((z_G0 D cy HB sx).1 k, z_E (z_G0 D cy HB sx) z_M0 k) H) h1 (ya_20 hw)
  replace h1 := y_step (P := fun k => va_at D vwCl ((z_G0 D cy HB sx).1 k, z_E (z_G0 D cy HB sx) z_M0 k) H) h1 (ya_21 hw)
  replace h1 := y_step (P := fun k => va_at D vwCl ((z_G0 D cy HB sx).1 k, z_E (z_G0 D cy HB sx) z_M0 k) H) h1 (ya_22 hw)
  replace h1 := y_step (P := fun k => va_at D vwCl ((z_G0 D cy HB sx).1 k, z_E (z_G0 D cy HB sx) z_M0 k) H) h1 (ya_23 hw)
  replace h1 := y_step (P := fun k => va_at D vwCl ((z_G0 D cy HB sx).1 k, z_E (z_G0 D cy HB sx) z_M0 k) H) h1 (ya_24 hw)
  replace h1 := y_step (P := fun k => va_at D vwCl ((z_G0 D cy HB sx).1 k, z_E (z_G0 D cy HB sx) z_M0 k) H) h1 (ya_25 hw)
  replace h1 := y_step (P := fun k => va_at D vwCl ((z_G0 D cy HB sx).1 k, z_E (z_G0 D cy HB sx) z_M0 k) H) h1 (ya_26 hw)
  replace h1 := y_step (P := fun k => va_at D vwCl ((z_G0 D cy HB sx).1 k, z_E (z_G0 D cy HB sx) z_M0 k) H) h1 (ya_27 hw)
  replace h1 := y_step (P := fun k => va_at D vwCl ((z_G0 D cy HB sx).1 k, z_E (z_G0 D cy HB sx) z_M0 k) H) h1 (ya_28 hw)
  replace h1 := y_step (P := fun k => va_at D vwCl ((z_G0 D cy HB sx).1 k, z_E (z_G0 D cy HB sx) z_M0 k) H) h1 (ya_29 hw)
  replace h1 := y_step (P := fun k => va_at D vwCl ((z_G0 D cy HB sx).1 k, z_E (z_G0 D cy HB sx) z_M0 k) H) h1 (ya_30 hw)
  replace h1 := y_step (P := fun k => va_at D vwCl ((z_G0 D cy HB sx).1 k, z_E (z_G0 D cy HB sx) z_M0 k) H) h1 (ya_31 hw)
  replace h1 := y_step (P := fun k => va_at D vwCl ((z_G0 D cy HB sx).1 k, z_E (z_G0 D cy HB sx) z_M0 k) H) h1 (ya_32 hw)
  replace h1 := y_step (P := fun k => va_at D vwCl ((z_G0 D cy HB sx).1 k, z_E (z_G0 D cy HB sx) z_M0 k) H) h1 (ya_33 hw)
  replace h1 := y_step (P := fun k => va_at D vwCl ((z_G0 D cy HB sx).1 k, z_E (z_G0 D cy HB sx) z_M0 k) H) h1 (ya_34 hw)
  replace h1 := y_step (P := fun k => va_at D vwCl ((z_G0 D cy HB sx).1 k, z_E (z_G0 D cy HB sx) z_M0 k) H) h1 (ya_35 hw)
  replace h1 := y_step (P := fun k => va_at D vwCl ((z_G0 D cy HB sx).1 k, z_E (z_G0 D cy HB sx) z_M0 k) H) h1 (ya_36 hw)
  replace h1 := y_step (P := fun k => va_at D vwCl ((z_G0 D cy HB sx).1 k, z_E (z_G0 D cy HB sx) z_M0 k) H) h1 (ya_37 hw)
  replace h1 := y_step (P := fun k => va_at D vwCl ((z_G0 D cy HB sx).1 k, z_E (z_G0 D cy HB sx) z_M0 k) H) h1 (ya_38 hw)
  replace h1 := y_step (P := fun k => va_at D vwCl ((z_G0 D cy HB sx).1 k, z_E (z_G0 D cy HB sx) z_M0 k) H) h1 (ya_39 hw)
  replace h1 := y_step (P := fun k => va_at D vwCl ((z_G0 D cy HB sx).1 k, z_E (z_G0 D cy HB sx) z_M0 k) H) h1 (ya_40 hw)
  replace h1 := y_step (P := fun k => va_at D vwCl ((z_G0 D cy HB sx).1 k, z_E (z_G0 D cy HB sx) z_M0 k) H) h1 (ya_41 hw)
  replace h1 := y_step (P := fun k => va_at D vwCl ((z_G0 D cy HB sx).1 k, z_E (z_G0 D cy HB sx) z_M0 k) H) h1 (ya_42 hw)
  replace h1 := y_step (P := fun k => va_at D vwCl ((z_G0 D cy HB sx).1 k, z_E (z_G0 D cy HB sx) z_M0 k) H) h1 (ya_43 hw)
  replace h1 := y_step (P := fun k => va_at D vwCl ((z_G0 D cy HB sx).1 k, z_E (z_G0 D cy HB sx) z_M0 k) H) h1 (ya_44 hw)
  replace h1 := y_step (P := fun k => va_at D vwCl ((z_G0 D cy HB sx).1 k, z_E (z_G0 D cy HB sx) z_M0 k) H) h1 (ya_45 hw)
  replace h1 := y_step (P := fun k => va_at D vwCl ((z_G0 D cy HB sx).1 k, z_E (z_G0 D cy HB sx) z_M0 k) H) h1 (ya_46 hw)
  replace h1 := y_step (P := fun k => va_at D vwCl ((z_G0 D cy HB sx).1 k, z_E (z_G0 D cy HB sx) z_M0 k) H) h1 (ya_47 hw)
  replace h1 := y_step (P := fun k => va_at D vwCl ((z_G0 D cy HB sx).1 k, z_E (z_G0 D cy HB sx) z_M0 k) H) h1 (ya_48 hw)
  replace h1 := y_step (P := fun k => va_at D vwCl ((z_G0 D cy HB sx).1 k, z_E (z_G0 D cy HB sx) z_M0 k) H) h1 (ya_49 hw)
  replace h1 := y_step (P := fun k => va_at D vwCl ((z_G0 D cy HB sx).1 k, z_E (z_G0 D cy HB sx) z_M0 k) H) h1 (ya_50 hw)
  replace h1 := y_step (P := fun k => va_at D vwCl ((z_G0 D cy HB sx).1 k, z_E (z_G0 D cy HB sx) z_M0 k) H) h1 (ya_51 hw)
  replace h1 := y_step (P := fun k => va_at D vwCl ((z_G0 D cy HB sx).1 k, z_E (z_G0 D cy HB sx) z_M0 k) H) h1 (ya_52 hw)
  replace h1 := y_step (P := fun k => va_at D vwCl ((z_G0 D cy HB sx).1 k, z_E (z_G0 D cy HB sx) z_M0 k) H) h1 (ya_53 hw)
  replace h1 := y_step (P := fun k => va_at D vwCl ((z_G0 D cy HB sx).1 k, z_E (z_G0 D cy HB sx) z_M0 k) H) h1 (ya_54 hw)
  replace h1 := y_step (P := fun k => va_at D vwCl ((z_G0 D cy HB sx).1 k, z_E (z_G0 D cy HB sx) z_M0 k) H) h1 (ya_55 hw)
  replace h1 := y_step (P := fun k => va_at D vwCl ((z_G0 D cy HB sx).1 k, z_E (z_G0 D cy HB sx) z_M0 k) H) h1 (ya_56 hw)
  replace h1 := y_step (P := fun k => va_at D vwCl ((z_G0 D cy HB sx).1 k, z_E (z_G0 D cy HB sx) z_M0 k) H) h1 (ya_57 hw)
  replace h1 := y_step (P := fun k => va_at D vwCl ((z_G0 D cy HB sx).1 k, z_E (z_G0 D cy HB sx) z_M0 k) H) h1 (ya_58 hw)
  replace h1 := y_step (P := fun k => va_at D vwCl ((z_G0 D cy HB sx).1 k, z_E (z_G0 D cy HB sx) z_M0 k) H) h1 (ya_59 hw)
  replace h1 := y_step (P := fun k => va_at D vwCl ((z_G0 D cy HB sx).1 k, z_E (z_G0 D cy HB sx) z_M0 k) H) h1 (ya_60 hw)
  replace h1 := y_step (P := fun k => va_at D vwCl ((z_G0 D cy HB sx).1 k, z_E (z_G0 D cy HB sx) z_M0 k) H) h1 (ya_61 hw)
  replace h1 := y_step (P := fun k => va_at D vwCl ((z_G0 D cy HB sx).1 k, z_E (z_G0 D cy HB sx) z_M0 k) H) h1 (ya_62 hw)
  replace h1 := y_step (P := fun k => va_at D vwCl ((z_G0 D cy HB sx).1 k, z_E (z_G0 D cy HB sx) z_M0 k) H) h1 (ya_63 hw)
  replace h1 := y_step (P := fun k => va_at D vwCl ((z_G0 D cy HB sx).1 k, z_E (z_G0 D cy HB sx) z_M0 k) H) h1 (ya_64 hw)
  replace h1 := y_step (P := fun k => va_at D vwCl ((z_G0 D cy HB sx).1 k, z_E (z_G0 D cy HB sx) z_M0 k) H) h1 (ya_65 hw)
  replace h1 := y_step (P := fun k => va_at D vwCl ((z_G0 D cy HB sx).1 k, z_E (z_G0 D cy HB sx) z_M0 k) H) h1 (ya_66 hw)
  replace h1 := y_step (P := fun k => va_at D vwCl ((z_G0 D cy HB sx).1 k, z_E (z_G0 D cy HB sx) z_M0 k) H) h1 (ya_67 hw)
  replace h1 := y_step (P := fun k => va_at D vwCl ((z_G0 D cy HB sx).1 k, z_E (z_G0 D cy HB sx) z_M0 k) H) h1 (ya_68 hw)
  replace h1 := y_step (P := fun k => va_at D vwCl ((z_G0 D cy HB sx).1 k, z_E (z_G0 D cy HB sx) z_M0 k) H) h1 (ya_69 hw)
  replace h1 := y_step (P := fun k => va_at D vwCl ((z_G0 D cy HB sx).1 k, z_E (z_G0 D cy HB sx) z_M0 k) H) h1 (ya_70 hw)
  replace h1 := y_step (P := fun k => va_at D vwCl ((z_G0 D cy HB sx).1 k, z_E (z_G0 D cy HB sx) z_M0 k) H) h1 (ya_71 hw)
  replace h1 := y_step (P := fun k => va_at D vwCl ((z_G0 D cy HB sx).1 k, z_E (z_G0 D cy HB sx) z_M0 k) H) h1 (ya_72 hw)
  replace h1 := y_step (P := fun k => va_at D vwCl ((z_G0 D cy HB sx).1 k, z_E (z_G0 D cy HB sx) z_M0 k) H) h1 (ya_73 hw)
  replace h1 := y_step (P := fun k => va_at D vwCl ((z_G0 D cy HB sx).1 k, z_E (z_G0 D cy HB sx) z_M0 k) H) h1 (ya_74 hw)
  replace h1 := y_step (P := fun k => va_at D vwCl ((z_G0 D cy HB sx).1 k, z_E (z_G0 D cy HB sx) z_M0 k) H) h1 (ya_75 hw)
  replace h1 := y_step (P := fun k => va_at D vwCl ((z_G0 D cy HB sx).1 k, z_E (z_G0 D cy HB sx) z_M0 k) H) h1 (ya_76 hw)
  replace h1 := y_step (P := fun k => va_at D vwCl ((z_G0 D cy HB sx).1 k, z_E (z_G0 D cy HB sx) z_M0 k) H) h1 (ya_77 hw)
  replace h1 := y_step (P := fun k => va_at D vwCl ((z_G0 D cy HB sx).1 k, z_E (z_G0 D cy HB sx) z_M0 k) H) h1 (ya_78 hw)
  replace h1 := y_step (P := fun k => va_at D vwCl ((z_G0 D cy HB sx).1 k, z_E (z_G0 D cy HB sx) z_M0 k) H) h1 (ya_79 hw)
  replace h1 := y_step (P := fun k => va_at D vwCl ((z_G0 D cy HB sx).1 k, z_E (z_G0 D cy HB sx) z_M0 k) H) h1 (ya_80 hw)
  replace h1 := y_step (P := fun k => va_at D vwCl ((z_G0 D cy HB sx).1 k, z_E (z_G0 D cy HB sx) z_M0 k) H) h1 (ya_81 hw)
  replace h1 := y_step (P := fun k => va_at D vwCl ((z_G0 D cy HB sx).1 k, z_E (z_G0 D cy HB sx) z_M0 k) H) h1 (ya_82 hw)
  replace h1 := y_step (P := fun k => va_at D vwCl ((z_G0 D cy HB sx).1 k, z_E (z_G0 D cy HB sx) z_M0 k) H) h1 (ya_83 hw)
  replace h1 := y_step (P := fun k => va_at D vwCl ((z_G0 D cy HB sx).1 k, z_E (z_G0 D cy HB sx) z_M0 k) H) h1 (ya_84 hw)
  replace h1 := y_step (P := fun k => va_at D vwCl ((z_G0 D cy HB sx).1 k, z_E (z_G0 D cy HB sx) z_M0 k) H) h1 (ya_85 hw)
  replace h1 := y_step (P := fun k => va_at D vwCl ((z_G0 D cy HB sx).1 k, z_E (z_G0 D cy HB sx) z_M0 k) H) h1 (ya_86 hw)
  replace h1 := y_step (P := fun k => va_at D vwCl ((z_G0 D cy HB sx).1 k, z_E (z_G0 D cy HB sx) z_M0 k) H) h1 (ya_87 hw)
  replace h1 := y_step (P := fun k => va_at D vwCl ((z_G0 D cy HB sx).1 k, z_E (z_G0 D cy HB sx) z_M0 k) H) h1 (ya_88 hw)
  replace h1 := y_step (P := fun k => va_at D vwCl ((z_G0 D cy HB sx).1 k, z_E (z_G0 D cy HB sx) z_M0 k) H) h1 (ya_89 hw)
  replace h1 := y_step (P := fun k => va_at D vwCl ((z_G0 D cy HB sx).1 k, z_E (z_G0 D cy HB sx) z_M0 k) H) h1 (ya_90 hw)
  replace h1 := y_step (P := fun k => va_at D vwCl ((z_G0 D cy HB sx).1 k, z_E (z_G0 D cy HB sx) z_M0 k) H) h1 (ya_91 hw)
  replace h1 := y_step (P := fun k => va_at D vwCl ((z_G0 D cy HB sx).1 k, z_E (z_G0 D cy HB sx) z_M0 k) H) h1 (ya_92 hw)
  replace h1 := y_step (P := fun k => va_at D vwCl ((z_G0 D cy HB sx).1 k, z_E (z_G0 D cy HB sx) z_M0 k) H) h1 (ya_93 hw)
  replace h1 := y_step (P := fun k => va_at D vwCl ((z_G0 D cy HB sx).1 k, z_E (z_G0 D cy HB sx) z_M0 k) H) h1 (ya_94 hw)
  replace h1 := y_step (P := fun k => va_at D vwCl ((z_G0 D cy HB sx).1 k, z_E (z_G0 D cy HB sx) z_M0 k) H) h1 (ya_95 hw)
  replace h1 := y_step (P := fun k => va_at D vwCl ((z_G0 D cy HB sx).1 k, z_E (z_G0 D cy HB sx) z_M0 k) H) h1 (ya_96 hw)
  replace h1 := y_step (P := fun k => va_at D vwCl ((z_G0 D cy HB sx).1 k, z_E (z_G0 D cy HB sx) z_M0 k) H) h1 (ya_97 hw)
  replace h1 := y_step (P := fun k => va_at D vwCl ((z_G0 D cy HB sx).1 k, z_E (z_G0 D cy HB sx) z_M0 k) H) h1 (ya_98 hw)
  replace h1 := y_step (P := fun k => va_at D vwCl ((z_G0 D cy HB sx).1 k, z_E (z_G0 D cy HB sx) z_M0 k) H) h1 (ya_99 hw)
  replace h1 := y_step (P := fun k => va_at D vwCl ((z_G0 D cy HB sx).1 k, z_E (z_G0 D cy HB sx) z_M0 k) H) h1 (ya_100 hw)
  replace h1 := y_step (P := fun k => va_at D vwCl ((z_G0 D cy HB sx).1 k, z_E (z_G0 D cy HB sx) z_M0 k) H) h1 (ya_101 hw)
  replace h1 := y_step (P := fun k => va_at D vwCl ((z_G0 D cy HB sx).1 k, z_E (z_G0 D cy HB sx) z_M0 k) H) h1 (ya_102 hw)
  replace h1 := y_step (P := fun k => va_at D vwCl ((z_G0 D cy HB sx).1 k, z_E (z_G0 D cy HB sx) z_M0 k) H) h1 (ya_103 hw)
  replace h1 := y_step (P := fun k => va_at D vwCl ((z_G0 D cy HB sx).1 k, z_E (z_G0 D cy HB sx) z_M0 k) H) h1 (ya_104 hw)
  replace h1 := y_step (P := fun k => va_at D vwCl ((z_G0 D cy HB sx).1 k, z_E (z_G0 D cy HB sx) z_M0 k) H) h1 (ya_105 hw)
  replace h1 := y_step (P := fun k => va_at D vwCl ((z_G0 D cy HB sx).1 k, z_E (z_G0 D cy HB sx) z_M0 k) H) h1 (ya_106 hw)
  replace h1 := y_step (P := fun k => va_at D vwCl ((z_G0 D cy HB sx).1 k, z_E (z_G0 D cy HB sx) z_M0 k) H) h1 (ya_107 hw)
  replace h1 := y_step (P := fun k => va_at D vwCl ((z_G0 D cy HB sx).1 k, z_E (z_G0 D cy HB sx) z_M0 k) H) h1 (ya_108 hw)
  replace h1 := y_step (P := fun k => va_at D vwCl ((z_G0 D cy HB sx).1 k, z_E (z_G0 D cy HB sx) z_M0 k) H) h1 (ya_109 hw)
  replace h1 := y_step (P := fun k => va_at D vwCl ((z_G0 D cy HB sx).1 k, z_E (z_G0 D cy HB sx) z_M0 k) H) h1 (ya_110 hw)
  replace h1 := y_step (P := fun k => va_at D vwCl ((z_G0 D cy HB sx).1 k, z_E (z_G0 D cy HB sx) z_M0 k) H) h1 (ya_111 hw)
  replace h1 := y_step (P := fun k => va_at D vwCl ((z_G0 D cy HB sx).1 k, z_E (z_G0 D cy HB sx) z_M0 k) H) h1 (ya_112 hw)
  replace h1 := y_step (P := fun k => va_at D vwCl ((z_G0 D cy HB sx).1 k, z_E (z_G0 D cy HB sx) z_M0 k) H) h1 (ya_113 hw)
  replace h1 := y_step (P := fun k => va_at D vwCl ((z_G0 D cy HB sx).1 k, z_E (z_G0 D cy HB sx) z_M0 k) H) h1 (ya_114 hw)
  replace h1 := y_step (P := fun k => va_at D vwCl ((z_G0 D cy HB sx).1 k, z_E (z_G0 D cy HB sx) z_M0 k) H) h1 (ya_115 hw)
  replace h1 := y_step (P := fun k => va_at D vwCl ((z_G0 D cy HB sx).1 k, z_E (z_G0 D cy HB sx) z_M0 k) H) h1 (ya_116 hw)
  replace h1 := y_step (P := fun k => va_at D vwCl ((z_G0 D cy HB sx).1 k, z_E (z_G0 D cy HB sx) z_M0 k) H) h1 (ya_117 hw)
  replace h1 := y_step (P := fun k => va_at D vwCl ((z_G0 D cy HB sx).1 k, z_E (z_G0 D cy HB sx) z_M0 k) H) h1 (ya_118 hw)
  replace h1 := y_step (P := fun k => va_at D vwCl ((z_G0 D cy HB sx).1 k, z_E (z_G0 D cy HB sx) z_M0 k) H) h1 (ya_119 hw)
  replace h1 := y_step (P := fun k => va_at D vwCl ((z_G0 D cy HB sx).1 k, z_E (z_G0 D cy HB sx) z_M0 k) H) h1 (ya_120 hw)
  replace h1 := y_step (P := fun k => va_at D vwCl ((z_G0 D cy HB sx).1 k, z_E (z_G0 D cy HB sx) z_M0 k) H) h1 (ya_121 hw)
  replace h1 := y_step (P := fun k => va_at D vwCl ((z_G0 D cy HB sx).1 k, z_E (z_G0 D cy HB sx) z_M0 k) H) h1 (ya_122 hw)
  replace h1 := y_step (P := fun k => va_at D vwCl ((z_G0 D cy HB sx).1 k, z_E (z_G0 D cy HB sx) z_M0 k) H) h1 (ya_123 hw)
  replace h1 := y_step (P := fun k => va_at D vwCl ((z_G0 D cy HB sx).1 k, z_E (z_G0 D cy HB sx) z_M0 k) H) h1 (ya_124 hw)
  replace h1 := y_step (P := fun k => va_at D vwCl ((z_G0 D cy HB sx).1 k, z_E (z_G0 D cy HB sx) z_M0 k) H) h1 (ya_125 hw)
  replace h1 := y_step (P := fun k => va_at D vwCl ((z_G0 D cy HB sx).1 k, z_E (z_G0 D cy HB sx) z_M0 k) H) h1 (ya_126 hw)
  replace h1 := y_step (P := fun k => va_at D vwCl ((z_G0 D cy HB sx).1 k, z_E (z_G0 D cy HB sx) z_M0 k) H) h1 (ya_127 hw)
  replace h1 := y_step (P := fun k => va_at D vwCl ((z_G0 D cy HB sx).1 k, z_E (z_G0 D cy HB sx) z_M0 k) H) h1 (ya_128 hw)
  replace h1 := y_step (P := fun k => va_at D vwCl ((z_G0 D cy HB sx).1 k, z_E (z_G0 D cy HB sx) z_M0 k) H) h1 (ya_129 hw)
  replace h1 := y_step (P := fun k => va_at D vwCl ((z_G0 D cy HB sx).1 k, z_E (z_G0 D cy HB sx) z_M0 k) H) h1 (ya_130 hw)
  replace h1 := y_step (P := fun k => va_at D vwCl ((z_G0 D cy HB sx).1 k, z_E (z_G0 D cy HB sx) z_M0 k) H) h1 (ya_131 hw)
  replace h1 := y_step (P := fun k => va_at D vwCl ((z_G0 D cy HB sx).1 k, z_E (z_G0 D cy HB sx) z_M0 k) H) h1 (ya_132 hw)
  replace h1 := y_step (P := fun k => va_at D vwCl ((z_G0 D cy HB sx).1 k, z_E (z_G0 D cy HB sx) z_M0 k) H) h1 (ya_133 hw)
  replace h1 := y_step (P := fun k => va_at D vwCl ((z_G0 D cy HB sx).1 k, z_E (z_G0 D cy HB sx) z_M0 k) H) h1 (ya_134 hw)
  replace h1 := y_step (P := fun k => va_at D vwCl ((z_G0 D cy HB sx).1 k, z_E (z_G0 D cy HB sx) z_M0 k) H) h1 (ya_135 hw)
  replace h1 := y_step (P := fun k => va_at D vwCl ((z_G0 D cy HB sx).1 k, z_E (z_G0 D cy HB sx) z_M0 k) H) h1 (ya_136 hw)
  replace h1 := y_step (P := fun k => va_at D vwCl ((z_G0 D cy HB sx).1 k, z_E (z_G0 D cy HB sx) z_M0 k) H) h1 (ya_137 hw)
  replace h1 := y_step (P := fun k => va_at D vwCl ((z_G0 D cy HB sx).1 k, z_E (z_G0 D cy HB sx) z_M0 k) H) h1 (ya_138 hw)
  replace h1 := y_step (P := fun k => va_at D vwCl ((z_G0 D cy HB sx).1 k, z_E (z_G0 D cy HB sx) z_M0 k) H) h1 (ya_139 hw)
  replace h1 := y_step (P := fun k => va_at D vwCl ((z_G0 D cy HB sx).1 k, z_E (z_G0 D cy HB sx) z_M0 k) H) h1 (ya_140 hw)
  replace h1 := y_step (P := fun k => va_at D vwCl ((z_G0 D cy HB sx).1 k, z_E (z_G0 D cy HB sx) z_M0 k) H) h1 (ya_141 hw)
  replace h1 := y_step (P := fun k => va_at D vwCl ((z_G0 D cy HB sx).1 k, z_E (z_G0 D cy HB sx) z_M0 k) H) h1 (ya_142 hw)
  replace h1 := y_step (P := fun k => va_at D vwCl ((z_G0 D cy HB sx).1 k, z_E (z_G0 D cy HB sx) z_M0 k) H) h1 (ya_143 hw)
  replace h1 := y_step (P := fun k => va_at D vwCl ((z_G0 D cy HB sx).1 k, z_E (z_G0 D cy HB sx) z_M0 k) H) h1 (ya_144 hw)
  replace h1 := y_step (P := fun k => va_at D vwCl ((z_G0 D cy HB sx).1 k, z_E (z_G0 D cy HB sx) z_M0 k) H) h1 (ya_145 hw)
  replace h1 := y_step (P := fun k => va_at D vwCl ((z_G0 D cy HB sx).1 k, z_E (z_G0 D cy HB sx) z_M0 k) H) h1 (ya_146 hw)
  replace h1 := y_step (P := fun k => va_at D vwCl ((z_G0 D cy HB sx).1 k, z_E (z_G0 D cy HB sx) z_M0 k) H) h1 (ya_147 hw)
  replace h1 := y_step (P := fun k => va_at D vwCl ((z_G0 D cy HB sx).1 k, z_E (z_G0 D cy HB sx) z_M0 k) H) h1 (ya_148 hw)
  replace h1 := y_step (P := fun k => va_at D vwCl ((z_G0 D cy HB sx).1 k, z_E (z_G0 D cy HB sx) z_M0 k) H) h1 (ya_149 hw)
  replace h1 := y_step (P := fun k => va_at D vwCl ((z_G0 D cy HB sx).1 k, z_E (z_G0 D cy HB sx) z_M0 k) H) h1 (ya_150 hw)
  replace h1 := y_step (P := fun k => va_at D vwCl ((z_G0 D cy HB sx).1 k, z_E (z_G0 D cy HB sx) z_M0 k) H) h1 (ya_151 hw)
  replace h1 := y_step (P := fun k => va_at D vwCl ((z_G0 D cy HB sx).1 k, z_E (z_G0 D cy HB sx) z_M0 k) H) h1 (ya_152 hw)
  replace h1 := y_step (P := fun k => va_at D vwCl ((z_G0 D cy HB sx).1 k, z_E (z_G0 D cy HB sx) z_M0 k) H) h1 (ya_153 hw)
  replace h1 := y_step (P := fun k => va_at D vwCl ((z_G0 D cy HB sx).1 k, z_E (z_G0 D cy HB sx) z_M0 k) H) h1 (ya_154 hw)
  replace h1 := y_step (P := fun k => va_at D vwCl ((z_G0 D cy HB sx).1 k, z_E (z_G0 D cy HB sx) z_M0 k) H) h1 (ya_155 hw)
  replace h1 := y_step (P := fun k => va_at D vwCl ((z_G0 D cy HB sx).1 k, z_E (z_G0 D cy HB sx) z_M0 k) H) h1 (ya_156 hw)
  replace h1 := y_step (P := fun k => va_at D vwCl ((z_G0 D cy HB sx).1 k, z_E (z_G0 D cy HB sx) z_M0 k) H) h1 (ya_157 hw)
  replace h1 := y_step (P := fun k => va_at D vwCl ((z_G0 D cy HB sx).1 k, z_E (z_G0 D cy HB sx) z_M0 k) H) h1 (ya_158 hw)
  replace h1 := y_step (P := fun k => va_at D vwCl ((z_G0 D cy HB sx).1 k, z_E (z_G0 D cy HB sx) z_M0 k) H) h1 (ya_159 hw)
  replace h1 := y_step (P := fun k => va_at D vwCl ((z_G0 D cy HB sx).1 k, z_E (z_G0 D cy HB sx) z_M0 k) H) h1 (ya_160 hw)
  replace h1 := y_step (P := fun k => va_at D vwCl ((z_G0 D cy HB sx).1 k, z_E (z_G0 D cy HB sx) z_M0 k) H) h1 (ya_161 hw)
  replace h1 := y_step (P := fun k => va_at D vwCl ((z_G0 D cy HB sx).1 k, z_E (z_G0 D cy HB sx) z_M0 k) H) h1 (ya_162 hw)
  replace h1 := y_step (P := fun k => va_at D vwCl ((z_G0 D cy HB sx).1 k, z_E (z_G0 D cy HB sx) z_M0 k) H) h1 (ya_163 hw)
  replace h1 := y_step (P := fun k => va_at D vwCl ((z_G0 D cy HB sx).1 k, z_E (z_G0 D cy HB sx) z_M0 k) H) h1 (ya_164 hw)
  replace h1 := y_step (P := fun k => va_at D vwCl ((z_G0 D cy HB sx).1 k, z_E (z_G0 D cy HB sx) z_M0 k) H) h1 (ya_165 hw)
  replace h1 := y_step (P := fun k => va_at D vwCl ((z_G0 D cy HB sx).1 k, z_E (z_G0 D cy HB sx) z_M0 k) H) h1 (ya_166 hw)
  replace h1 := y_step (P := fun k => va_at D vwCl ((z_G0 D cy HB sx).1 k, z_E (z_G0 D cy HB sx) z_M0 k) H) h1 (ya_167 hw)
  replace h1 := y_step (P := fun k => va_at D vwCl ((z_G0 D cy HB sx).1 k, z_E (z_G0 D cy HB sx) z_M0 k) H) h1 (ya_168 hw)
  replace h1 := y_step (P := fun k => va_at D vwCl ((z_G0 D cy HB sx).1 k, z_E (z_G0 D cy HB sx) z_M0 k) H) h1 (ya_169 hw)
  replace h1 := y_step (P := fun k => va_at D vwCl ((z_G0 D cy HB sx).1 k, z_E (z_G0 D cy HB sx) z_M0 k) H) h1 (ya_170 hw)
  replace h1 := y_step (P := fun k => va_at D vwCl ((z_G0 D cy HB sx).1 k, z_E (z_G0 D cy HB sx) z_M0 k) H) h1 (ya_171 hw)
  replace h1 := y_step (P := fun k => va_at D vwCl ((z_G0 D cy HB sx).1 k, z_E (z_G0 D cy HB sx) z_M0 k) H) h1 (ya_172 hw)
  replace h1 := y_step (P := fun k => va_at D vwCl ((z_G0 D cy HB sx).1 k, z_E (z_G0 D cy HB sx) z_M0 k) H) h1 (ya_173 hw)
  replace h1 := y_step (P := fun k => va_at D vwCl ((z_G0 D cy HB sx).1 k, z_E (z_G0 D cy HB sx) z_M0 k) H) h1 (ya_174 hw)
  replace h1 := y_step (P := fun k => va_at D vwCl ((z_G0 D cy HB sx).1 k, z_E (z_G0 D cy HB sx) z_M0 k) H) h1 (ya_175 hw)
  replace h1 := y_step (P := fun k => va_at D vwCl ((z_G0 D cy HB sx).1 k, z_E (z_G0 D cy HB sx) z_M0 k) H) h1 (ya_176 hw)
  replace h1 := y_step (P := fun k => va_at D vwCl ((z_G0 D cy HB sx).1 k, z_E (z_G0 D cy HB sx) z_M0 k) H) h1 (ya_177 hw)
  replace h1 := y_step (P := fun k => va_at D vwCl ((z_G0 D cy HB sx).1 k, z_E (z_G0 D cy HB sx) z_M0 k) H) h1 (ya_178 hw)
  replace h1 := y_step (P := fun k => va_at D vwCl ((z_G0 D cy HB sx).1 k, z_E (z_G0 D cy HB sx) z_M0 k) H) h1 (ya_179 hw)
  replace h1 := y_step (P := fun k => va_at D vwCl ((z_G0 D cy HB sx).1 k, z_E (z_G0 D cy HB sx) z_M0 k) H) h1 (ya_180 hw)
  replace h1 := y_step (P := fun k => va_at D vwCl ((z_G0 D cy HB sx).1 k, z_E (z_G0 D cy HB sx) z_M0 k) H) h1 (ya_181 hw)
  replace h1 := y_step (P := fun k => va_at D vwCl ((z_G0 D cy HB sx).1 k, z_E (z_G0 D cy HB sx) z_M0 k) H) h1 (ya_182 hw)
  replace h1 := y_step (P := fun k => va_at D vwCl ((z_G0 D cy HB sx).1 k, z_E (z_G0 D cy HB sx) z_M0 k) H) h1 (ya_183 hw)
  replace h1 := y_step (P := fun k => va_at D vwCl ((z_G0 D cy HB sx).1 k, z_E (z_G0 D cy HB sx) z_M0 k) H) h1 (ya_184 hw)
  replace h1 := y_step (P := fun k => va_at D vwCl ((z_G0 D cy HB sx).1 k, z_E (z_G0 D cy HB sx) z_M0 k) H) h1 (ya_185 hw)
  replace h1 := y_step (P := fun k => va_at D vwCl ((z_G0 D cy HB sx).1 k, z_E (z_G0 D cy HB sx) z_M0 k) H) h1 (ya_186 hw)
  replace h1 := y_step (P := fun k => va_at D vwCl ((z_G0 D cy HB sx).1 k, z_E (z_G0 D cy HB sx) z_M0 k) H) h1 (ya_187 hw)
  replace h1 := y_step (P := fun k => va_at D vwCl ((z_G0 D cy HB sx).1 k, z_E (z_G0 D cy HB sx) z_M0 k) H) h1 (ya_188 hw)
  replace h1 := y_step (P := fun k => va_at D vwCl ((z_G0 D cy HB sx).1 k, z_E (z_G0 D cy HB sx) z_M0 k) H) h1 (ya_189 hw)
  replace h1 := y_step (P := fun k => va_at D vwCl ((z_G0 D cy HB sx).1 k, z_E (z_G0 D cy HB sx) z_M0 k) H) h1 (ya_190 hw)
  replace h1 := y_step (P := fun k => va_at D vwCl ((z_G0 D cy HB sx).1 k, z_E (z_G0 D cy HB sx) z_M0 k) H) h1 (ya_191 hw)
  replace h1 := y_step (P := fun k => va_at D vwCl ((z_G0 D cy HB sx).1 k, z_E (z_G0 D cy HB sx) z_M0 k) H) h1 (ya_192 hw)
  replace h1 := y_step (P := fun k => va_at D vwCl ((z_G0 D cy HB sx).1 k, z_E (z_G0 D cy HB sx) z_M0 k) H) h1 (ya_193 hw)
  replace h1 := y_step (P := fun k => va_at D vwCl ((z_G0 D cy HB sx).1 k, z_E (z_G0 D cy HB sx) z_M0 k) H) h1 (ya_194 hw)
  replace h1 := y_step (P := fun k => va_at D vwCl ((z_G0 D cy HB sx).1 k, z_E (z_G0 D cy HB sx) z_M0 k) H) h1 (ya_195 hw)
  replace h1 := y_step (P := fun k => va_at D vwCl ((z_G0 D cy HB sx).1 k, z_E (z_G0 D cy HB sx) z_M0 k) H) h1 (ya_196 hw)
  replace h1 := y_step (P := fun k => va_at D vwCl ((z_G0 D cy HB sx).1 k, z_E (z_G0 D cy HB sx) z_M0 k) H) h1 (ya_197 hw)
  replace h1 := y_step (P := fun k => va_at D vwCl ((z_G0 D cy HB sx).1 k, z_E (z_G0 D cy HB sx) z_M0 k) H) h1 (ya_198 hw)
  replace h1 := y_step (P := fun k => va_at D vwCl ((z_G0 D cy HB sx).1 k, z_E (z_G0 D cy HB sx) z_M0 k) H) h1 (ya_199 hw)
  replace h1 := y_step (P := fun k => va_at D vwCl ((z_G0 D cy HB sx).1 k, z_E (z_G0 D cy HB sx) z_M0 k) H) h1 (ya_200 hw)
  replace h1 := y_step (P := fun k => va_at D vwCl ((z_G0 D cy HB sx).1 k, z_E (z_G0 D cy HB sx) z_M0 k) H) h1 (ya_201 hw)
  replace h1 := y_step (P := fun k => va_at D vwCl ((z_G0 D cy HB sx).1 k, z_E (z_G0 D cy HB sx) z_M0 k) H) h1 (ya_202 hw)
  replace h1 := y_step (P := fun k => va_at D vwCl ((z_G0 D cy HB sx).1 k, z_E (z_G0 D cy HB sx) z_M0 k) H) h1 (ya_203 hw)
  replace h1 := y_step (P := fun k => va_at D vwCl ((z_G0 D cy HB sx).1 k, z_E (z_G0 D cy HB sx) z_M0 k) H) h1 (ya_204 hw)
  replace h1 := y_step (P := fun k => va_at D vwCl ((z_G0 D cy HB sx).1 k, z_E (z_G0 D cy HB sx) z_M0 k) H) h1 (ya_205 hw)
  replace h1 := y_step (P := fun k => va_at D vwCl ((z_G0 D cy HB sx).1 k, z_E (z_G0 D cy HB sx) z_M0 k) H) h1 (ya_206 hw)
  replace h1 := y_step (P := fun k => va_at D vwCl ((z_G0 D cy HB sx).1 k, z_E (z_G0 D cy HB sx) z_M0 k) H) h1 (ya_207 hw)
  replace h1 := y_step (P := fun k => va_at D vwCl ((z_G0 D cy HB sx).1 k, z_E (z_G0 D cy HB sx) z_M0 k) H) h1 (ya_208 hw)
  replace h1 := y_step (P := fun k => va_at D vwCl ((z_G0 D cy HB sx).1 k, z_E (z_G0 D cy HB sx) z_M0 k) H) h1 (ya_209 hw)
  replace h1 := y_step (P := fun k => va_at D vwCl ((z_G0 D cy HB sx).1 k, z_E (z_G0 D cy HB sx) z_M0 k) H) h1 (ya_210 hw)
  replace h1 := y_step (P := fun k => va_at D vwCl ((z_G0 D cy HB sx).1 k, z_E (z_G0 D cy HB sx) z_M0 k) H) h1 (ya_211 hw)
  replace h1 := y_step (P := fun k => va_at D vwCl ((z_G0 D cy HB sx).1 k, z_E (z_G0 D cy HB sx) z_M0 k) H) h1 (ya_212 hw)
  replace h1 := y_step (P := fun k => va_at D vwCl ((z_G0 D cy HB sx).1 k, z_E (z_G0 D cy HB sx) z_M0 k) H) h1 (ya_213 hw)
  replace h1 := y_step (P := fun k => va_at D vwCl ((z_G0 D cy HB sx).1 k, z_E (z_G0 D cy HB sx) z_M0 k) H) h1 (ya_214 hw)
  replace h1 := y_step (P := fun k => va_at D vwCl ((z_G0 D cy HB sx).1 k, z_E (z_G0 D cy HB sx) z_M0 k) H) h1 (ya_215 hw)
  replace h1 := y_step (P := fun k => va_at D vwCl ((z_G0 D cy HB sx).1 k, z_E (z_G0 D cy HB sx) z_M0 k) H) h1 (ya_216 hw)
  replace h1 := y_step (P := fun k => va_at D vwCl ((z_G0 D cy HB sx).1 k, z_E (z_G0 D cy HB sx) z_M0 k) H) h1 (ya_217 hw)
  replace h1 := y_step (P := fun k => va_at D vwCl ((z_G0 D cy HB sx).1 k, z_E (z_G0 D cy HB sx) z_M0 k) H) h1 (ya_218 hw)
  replace h1 := y_step (P := fun k => va_at D vwCl ((z_G0 D cy HB sx).1 k, z_E (z_G0 D cy HB sx) z_M0 k) H) h1 (ya_219 hw)
  replace h1 := y_step (P := fun k => va_at D vwCl ((z_G0 D cy HB sx).1 k, z_E (z_G0 D cy HB sx) z_M0 k) H) h1 (ya_220 hw)
  replace h1 := y_step (P := fun k => va_at D vwCl ((z_G0 D cy HB sx).1 k, z_E (z_G0 D cy HB sx) z_M0 k) H) h1 (ya_221 hw)
  replace h1 := y_step (P := fun k => va_at D vwCl ((z_G0 D cy HB sx).1 k, z_E (z_G0 D cy HB sx) z_M0 k) H) h1 (ya_222 hw)
  replace h1 := y_step (P := fun k => va_at D vwCl ((z_G0 D cy HB sx).1 k, z_E (z_G0 D cy HB sx) z_M0 k) H) h1 (ya_223 hw)
  replace h1 := y_step (P := fun k => va_at D vwCl ((z_G0 D cy HB sx).1 k, z_E (z_G0 D cy HB sx) z_M0 k) H) h1 (ya_224 hw)
  replace h1 := y_step (P := fun k => va_at D vwCl ((z_G0 D cy HB sx).1 k, z_E (z_G0 D cy HB sx) z_M0 k) H) h1 (ya_225 hw)
  replace h1 := y_step (P := fun k => va_at D vwCl ((z_G0 D cy HB sx).1 k, z_E (z_G0 D cy HB sx) z_M0 k) H) h1 (ya_226 hw)
  replace h1 := y_step (P := fun k => va_at D vwCl ((z_G0 D cy HB sx).1 k, z_E (z_G0 D cy HB sx) z_M0 k) H) h1 (ya_227 hw)
  replace h1 := y_step (P := fun k => va_at D vwCl ((z_G0 D cy HB sx).1 k, z_E (z_G0 D cy HB sx) z_M0 k) H) h1 (ya_228 hw)
  replace h1 := y_step (P := fun k => va_at D vwCl ((z_G0 D cy HB sx).1 k, z_E (z_G0 D cy HB sx) z_M0 k) H) h1 (ya_229 hw)
  replace h1 := y_step (P := fun k => va_at D vwCl ((z_G0 D cy HB sx).1 k, z_E (z_G0 D cy HB sx) z_M0 k) H) h1 (ya_230 hw)
  replace h1 := y_step (P := fun k => va_at D vwCl ((z_G0 D cy HB sx).1 k, z_E (z_G0 D cy HB sx) z_M0 k) H) h1 (ya_231 hw)
  replace h1 := y_step (P := fun k => va_at D vwCl ((z_G0 D cy HB sx).1 k, z_E (z_G0 D cy HB sx) z_M0 k) H) h1 (ya_232 hw)
  replace h1 := y_step (P := fun k => va_at D vwCl ((z_G0 D cy HB sx).1 k, z_E (z_G0 D cy HB sx) z_M0 k) H) h1 (ya_233 hw)
  replace h1 := y_step (P := fun k => va_at D vwCl ((z_G0 D cy HB sx).1 k, z_E (z_G0 D cy HB sx) z_M0 k) H) h1 (ya_234 hw)
  replace h1 := y_step (P := fun k => va_at D vwCl ((z_G0 D cy HB sx).1 k, z_E (z_G0 D cy HB sx) z_M0 k) H) h1 (ya_235 hw)
  replace h1 := y_step (P := fun k => va_at D vwCl ((z_G0 D cy HB sx).1 k, z_E (z_G0 D cy HB sx) z_M0 k) H) h1 (ya_236 hw)
  replace h1 := y_step (P := fun k => va_at D vwCl ((z_G0 D cy HB sx).1 k, z_E (z_G0 D cy HB sx) z_M0 k) H) h1 (ya_237 hw)
  replace h1 := y_step (P := fun k => va_at D vwCl ((z_G0 D cy HB sx).1 k, z_E (z_G0 D cy HB sx) z_M0 k) H) h1 (ya_238 hw)
  replace h1 := y_step (P := fun k => va_at D vwCl ((z_G0 D cy HB sx).1 k, z_E (z_G0 D cy HB sx) z_M0 k) H) h1 (ya_239 hw)
  replace h1 := y_step (P := fun k => va_at D vwCl ((z_G0 D cy HB sx).1 k, z_E (z_G0 D cy HB sx) z_M0 k) H) h1 (ya_240 hw)
  replace h1 := y_step (P := fun k => va_at D vwCl ((z_G0 D cy HB sx).1 k, z_E (z_G0 D cy HB sx) z_M0 k) H) h1 (ya_241 hw)
  replace h1 := y_step (P := fun k => va_at D vwCl ((z_G0 D cy HB sx).1 k, z_E (z_G0 D cy HB sx) z_M0 k) H) h1 (ya_242 hw)
  replace h1 := y_step (P := fun k => va_at D vwCl ((z_G0 D cy HB sx).1 k, z_E (z_G0 D cy HB sx) z_M0 k) H) h1 (ya_243 hw)
  replace h1 := y_step (P := fun k => va_at D vwCl ((z_G0 D cy HB sx).1 k, z_E (z_G0 D cy HB sx) z_M0 k) H) h1 (ya_244 hw)
  replace h1 := y_step (P := fun k => va_at D vwCl ((z_G0 D cy HB sx).1 k, z_E (z_G0 D cy HB sx) z_M0 k) H) h1 (ya_245 hw)
  replace h1 := y_step (P := fun k => va_at D vwCl ((z_G0 D cy HB sx).1 k, z_E (z_G0 D cy HB sx) z_M0 k) H) h1 (ya_246 hw)
  replace h1 := y_step (P := fun k => va_at D vwCl ((z_G0 D cy HB sx).1 k, z_E (z_G0 D cy HB sx) z_M0 k) H) h1 (ya_247 hw)
  replace h1 := y_step (P := fun k => va_at D vwCl ((z_G0 D cy HB sx).1 k, z_E (z_G0 D cy HB sx) z_M0 k) H) h1 (ya_248 hw)
  replace h1 := y_step (P := fun k => va_at D vwCl ((z_G0 D cy HB sx).1 k, z_E (z_G0 D cy HB sx) z_M0 k) H) h1 (ya_249 hw)
  replace h1 := y_step (P := fun k => va_at D vwCl ((z_G0 D cy HB sx).1 k, z_E (z_G0 D cy HB sx) z_M0 k) H) h1 (ya_250 hw)
  replace h1 := y_step (P := fun k => va_at D vwCl ((z_G0 D cy HB sx).1 k, z_E (z_G0 D cy HB sx) z_M0 k) H) h1 (ya_251 hw)
  replace h1 := y_step (P := fun k => va_at D vwCl ((z_G0 D cy HB sx).1 k, z_E (z_G0 D cy HB sx) z_M0 k) H) h1 (ya_252 hw)
  replace h1 := y_step (P := fun k => va_at D vwCl ((z_G0 D cy HB sx).1 k, z_E (z_G0 D cy HB sx) z_M0 k) H) h1 (ya_253 hw)
  replace h1 := y_step (P := fun k => va_at D vwCl ((z_G0 D cy HB sx).1 k, z_E (z_G0 D cy HB sx) z_M0 k) H) h1 (ya_254 hw)
  replace h1 := y_step (P := fun k => va_at D vwCl ((z_G0 D cy HB sx).1 k, z_E (z_G0 D cy HB sx) z_M0 k) H) h1 (ya_255 hw)
  replace h1 := y_step (P := fun k => va_at D vwCl ((z_G0 D cy HB sx).1 k, z_E (z_G0 D cy HB sx) z_M0 k) H) h1 (ya_256 hw)
  replace h1 := y_step (P := fun k => va_at D vwCl ((z_G0 D cy HB sx).1 k, z_E (z_G0 D cy HB sx) z_M0 k) H) h1 (ya_257 hw)
  replace h1 := y_step (P := fun k => va_at D vwCl ((z_G0 D cy HB sx).1 k, z_E (z_G0 D cy HB sx) z_M0 k) H) h1 (ya_258 hw)
  replace h1 := y_step (P := fun k => va_at D vwCl ((z_G0 D cy HB sx).1 k, z_E (z_G0 D cy HB sx) z_M0 k) H) h1 (ya_259 hw)
  replace h1 := y_step (P := fun k => va_at D vwCl ((z_G0 D cy HB sx).1 k, z_E (z_G0 D cy HB sx) z_M0 k) H) h1 (ya_260 hw)
  replace h1 := y_step (P := fun k => va_at D vwCl ((z_G0 D cy HB sx).1 k, z_E (z_G0 D cy HB sx) z_M0 k) H) h1 (ya_261 hw)
  replace h1 := y_step (P := fun k => va_at D vwCl ((z_G0 D cy HB sx).1 k, z_E (z_G0 D cy HB sx) z_M0 k) H) h1 (ya_262 hw)
  replace h1 := y_step (P := fun k => va_at D vwCl ((z_G0 D cy HB sx).1 k, z_E (z_G0 D cy HB sx) z_M0 k) H) h1 (ya_263 hw)
  replace h1 := y_step (P := fun k => va_at D vwCl ((z_G0 D cy HB sx).1 k, z_E (z_G0 D cy HB sx) z_M0 k) H) h1 (ya_264 hw)
  replace h1 := y_step (P := fun k => va_at D vwCl ((z_G0 D cy HB sx).1 k, z_E (z_G0 D cy HB sx) z_M0 k) H) h1 (ya_265 hw)
  replace h1 := y_step (P := fun k => va_at D vwCl ((z_G0 D cy HB sx).1 k, z_E (z_G0 D cy HB sx) z_M0 k) H) h1 (ya_266 hw)
  replace h1 := y_step (P := fun k => va_at D vwCl ((z_G0 D cy HB sx).1 k, z_E (z_G0 D cy HB sx) z_M0 k) H) h1 (ya_267 hw)
  replace h1 := y_step (P := fun k => va_at D vwCl ((z_G0 D cy HB sx).1 k, z_E (z_G0 D cy HB sx) z_M0 k) H) h1 (ya_268 hw)
  replace h1 := y_step (P := fun k => va_at D vwCl ((z_G0 D cy HB sx).1 k, z_E (z_G0 D cy HB sx) z_M0 k) H) h1 (ya_269 hw)
  replace h1 := y_step (P := fun k => va_at D vwCl ((z_G0 D cy HB sx).1 k, z_E (z_G0 D cy HB sx) z_M0 k) H) h1 (ya_270 hw)
  replace h1 := y_step (P := fun k => va_at D vwCl ((z_G0 D cy HB sx).1 k, z_E (z_G0 D cy HB sx) z_M0 k) H) h1 (ya_271 hw)
  replace h1 := y_step (P := fun k => va_at D vwCl ((z_G0 D cy HB sx).1 k, z_E (z_G0 D cy HB sx) z_M0 k) H) h1 (ya_272 hw)
  replace h1 := y_step (P := fun k => va_at D vwCl ((z_G0 D cy HB sx).1 k, z_E (z_G0 D cy HB sx) z_M0 k) H) h1 (ya_273 hw)
  replace h1 := y_step (P := fun k => va_at D vwCl ((z_G0 D cy HB sx).1 k, z_E (z_G0 D cy HB sx) z_M0 k) H) h1 (ya_274 hw)
  replace h1 := y_step (P := fun k => va_at D vwCl ((z_G0 D cy HB sx).1 k, z_E (z_G0 D cy HB sx) z_M0 k) H) h1 (ya_275 hw)
  replace h1 := y_step (P := fun k => va_at D vwCl ((z_G0 D cy HB sx).1 k, z_E (z_G0 D cy HB sx) z_M0 k) H) h1 (ya_276 hw)
  replace h1 := y_step (P := fun k => va_at D vwCl ((z_G0 D cy HB sx).1 k, z_E (z_G0 D cy HB sx) z_M0 k) H) h1 (ya_277 hw)
  replace h1 := y_step (P := fun k => va_at D vwCl ((z_G0 D cy HB sx).1 k, z_E (z_G0 D cy HB sx) z_M0 k) H) h1 (ya_278 hw)
  replace h1 := y_step (P := fun k => va_at D vwCl ((z_G0 D cy HB sx).1 k, z_E (z_G0 D cy HB sx) z_M0 k) H) h1 (ya_279 hw)
  replace h1 := y_step (P := fun k => va_at D vwCl ((z_G0 D cy HB sx).1 k, z_E (z_G0 D cy HB sx) z_M0 k) H) h1 (ya_280 hw)
  replace h1 := y_step (P := fun k => va_at D vwCl ((z_G0 D cy HB sx).1 k, z_E (z_G0 D cy HB sx) z_M0 k) H) h1 (ya_281 hw)
  replace h1 := y_step (P := fun k => va_at D vwCl ((z_G0 D cy HB sx).1 k, z_E (z_G0 D cy HB sx) z_M0 k) H) h1 (ya_282 hw)
  replace h1 := y_step (P := fun k => va_at D vwCl ((z_G0 D cy HB sx).1 k, z_E (z_G0 D cy HB sx) z_M0 k) H) h1 (ya_283 hw)
  replace h1 := y_step (P := fun k => va_at D vwCl ((z_G0 D cy HB sx).1 k, z_E (z_G0 D cy HB sx) z_M0 k) H) h1 (ya_284 hw)
  replace h1 := y_step (P := fun k => va_at D vwCl ((z_G0 D cy HB sx).1 k, z_E (z_G0 D cy HB sx) z_M0 k) H) h1 (ya_285 hw)
  replace h1 := y_step (P := fun k => va_at D vwCl ((z_G0 D cy HB sx).1 k, z_E (z_G0 D cy HB sx) z_M0 k) H) h1 (ya_286 hw)
  replace h1 := y_step (P := fun k => va_at D vwCl ((z_G0 D cy HB sx).1 k, z_E (z_G0 D cy HB sx) z_M0 k) H) h1 (ya_287 hw)
  replace h1 := y_step (P := fun k => va_at D vwCl ((z_G0 D cy HB sx).1 k, z_E (z_G0 D cy HB sx) z_M0 k) H) h1 (ya_288 hw)
  replace h1 := y_step (P := fun k => va_at D vwCl ((z_G0 D cy HB sx).1 k, z_E (z_G0 D cy HB sx) z_M0 k) H) h1 (ya_289 hw)
  replace h1 := y_step (P := fun k => va_at D vwCl ((z_G0 D cy HB sx).1 k, z_E (z_G0 D cy HB sx) z_M0 k) H) h1 (ya_290 hw)
  exact h1
theorem z_back {G : zG} {M : zM} {i : Nat} {q : Nat × va_E} (h : (z_ws G M)[i]? = some q) : i < 291 ∧ q = (G.1 i, z_E G M i) := by
  have hl : i < 291 := by have := (List.getElem?_eq_some_iff.mp h).1; unfold z_ws at this; simpa using this
  rw [z_at G M hl] at h
  exact ⟨hl, (Option.some.inj h).symm⟩
theorem y_to (hw : y_W (z_G0 D cy HB sx) (z_es (z_G0 D cy HB sx)) H locs) : z_W (z_G0 D cy HB sx) z_M0 H locs := by
  refine ⟨fun k q h => ?_, ⟨fun i j a b hi hj hab => ?_, fun k q h => ?_⟩, hw.2.1⟩
  · obtain ⟨h1, rfl⟩ := z_back h
    exact y_all hw k h1
  · obtain ⟨h1, rfl⟩ := z_back hi
    obtain ⟨h2, rfl⟩ := z_back hj
    have h3 : HB.size + z_pos.getD i 0 = HB.size + z_pos.getD j 0 := hab
    have h4 : z_pos.getD i 0 = z_pos.getD j 0 := by omega
    exact (by decide +kernel : ∀ i, i < 291 → ∀ j, j < 291 → z_pos.getD i 0 = z_pos.getD j 0 → i = j) i h1 j h2 h4
  · obtain ⟨h1, rfl⟩ := z_back h
    show HB.size ≤ HB.size + _
    omega
end YP
