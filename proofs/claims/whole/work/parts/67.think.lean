/-! WHAT A STORM DOES depends on eight numbers of a house alone -/
section QC
variable {r r' : Nat → Int32} {thaw : Int32} {fl fl' sn sn' ab ab' : Nat → Int32} {T : Nat}
theorem q_hs_cg (hr : ∀ j, h_im j → r j = r' j) (hf : ∀ t, t < T → fl t = fl' t) (hs : ∀ t, t < T → sn t = sn' t) (ha : ∀ t, t < T → ab t = ab' t) : ∀ t, t ≤ T → q_hs r thaw fl sn ab t = q_hs r' thaw fl' sn' ab' t := by
  intro t
  induction t with
  | zero => intro _; unfold q_hs; rw [hr 8 (by unfold h_im; omega), hr 9 (by unfold h_im; omega)]
  | succ t ih =>
    intro h1
    unfold q_hs
    rw [ih (by omega), hf t (by omega), hs t (by omega), ha t (by omega), hr 6 (by unfold h_im; omega), hr 7 (by unfold h_im; omega), hr 0 (by unfold h_im; omega)]
theorem q_got_cg (hr : ∀ j, h_im j → r j = r' j) (hf : ∀ t, t < T → fl t = fl' t) (hs : ∀ t, t < T → sn t = sn' t) (ha : ∀ t, t < T → ab t = ab' t) {t : Nat} (ht : t < T) : q_got r thaw fl sn ab t = q_got r' thaw fl' sn' ab' t := by
  unfold q_got
  rw [q_hs_cg hr hf hs ha t (by omega), hf t (by omega), hs t (by omega), ha t (by omega), hr 6 (by unfold h_im; omega), hr 7 (by unfold h_im; omega), hr 0 (by unfold h_im; omega)]
theorem q_top_cg (hr : ∀ j, h_im j → r j = r' j) : q_top r = q_top r' := by unfold q_top; rw [hr 1 (by unfold h_im; omega), hr 5 (by unfold h_im; omega)]
theorem q_car_cg (hr : ∀ j, h_im j → r j = r' j) (hf : ∀ t, t < T → fl t = fl' t) (hs : ∀ t, t < T → sn t = sn' t) (ha : ∀ t, t < T → ab t = ab' t) {t : Nat} (ht : t < T) : q_car r thaw fl sn ab t = q_car r' thaw fl' sn' ab' t := by
  unfold q_car
  rw [q_got_cg hr hf hs ha ht, q_top_cg hr]
theorem q_spl_cg (hr : ∀ j, h_im j → r j = r' j) (hf : ∀ t, t < T → fl t = fl' t) (hs : ∀ t, t < T → sn t = sn' t) (ha : ∀ t, t < T → ab t = ab' t) {t : Nat} (ht : t < T) : q_spl r thaw fl sn ab t = q_spl r' thaw fl' sn' ab' t := by
  unfold q_spl
  rw [q_got_cg hr hf hs ha ht, q_car_cg hr hf hs ha ht]
theorem q_ov_cg (hr : ∀ j, h_im j → r j = r' j) (hf : ∀ t, t < T → fl t = fl' t) (hs : ∀ t, t < T → sn t = sn' t) (ha : ∀ t, t < T → ab t = ab' t) : ∀ t, t ≤ T → q_ov r thaw fl sn ab t = q_ov r' thaw fl' sn' ab' t := by
  intro t
  induction t with
  | zero => intro _; rfl
  | succ t ih =>
    intro h1
    unfold q_ov
    rw [ih (by omega), q_spl_cg hr hf hs ha (by omega)]
theorem q_mg_cg (hr : ∀ j, h_im j → r j = r' j) (hf : ∀ t, t < T → fl t = fl' t) (hs : ∀ t, t < T → sn t = sn' t) (ha : ∀ t, t < T → ab t = ab' t) : ∀ t, t ≤ T → q_mg r thaw fl sn ab t = q_mg r' thaw fl' sn' ab' t := by
  intro t
  induction t with
  | zero => intro _; rfl
  | succ t ih =>
    intro h1
    unfold q_mg
    rw [ih (by omega), q_got_cg hr hf hs ha (by omega)]
end QC
section QD
variable {r r' : Nat → Nat → Int32} {thaw : Int32} {fl fl' sn sn' : Nat → Int32} {T n : Nat}
theorem q_A_cg (hr : ∀ g, g < n → ∀ j, h_im j → r g j = r' g j) (hf : ∀ t, t < T → fl t = fl' t) (hs : ∀ t, t < T → sn t = sn' t) : ∀ k g, g < k → g < n → ∀ t, t < T → q_A r thaw fl sn g t = q_A r' thaw fl' sn' g t := by
  intro k
  induction k with
  | zero => intro g hg; omega
  | succ k ih =>
    intro g hg hgn t ht
    unfold q_A
    refine q_ab_congr g (fun i hi => hr i (by omega) 4 (by unfold h_im; omega)) (fun i hi => ?_)
    rw [q_C_eq, q_C_eq]
    exact q_car_cg (hr i (by omega)) hf hs (ih i (by omega) (by omega)) ht
theorem q_all_cg (hr : ∀ g, g < n → ∀ j, h_im j → r g j = r' g j) (hf : ∀ t, t < T → fl t = fl' t) (hs : ∀ t, t < T → sn t = sn' t) : ∀ m, m ≤ n → q_all r thaw fl sn T m = q_all r' thaw fl' sn' T m := by
  intro m
  induction m with
  | zero => intro _; rfl
  | succ m ih =>
    intro h
    unfold q_all
    rw [ih (by omega), q_ov_cg (hr m (by omega)) hf hs (q_A_cg hr hf hs (m + 1) m (by omega) (by omega)) T (Nat.le_refl T)]
end QD
/-! the same, of a row w of the reference: rows R, the storm s of T hours -/
abbrev e_f (w : Nat → Int32) (s t : Nat) : Int32 := w (181 + 26 * s + t)
abbrev e_s (w : Nat → Int32) (s t : Nat) : Int32 := w (193 + 26 * s + t)
abbrev e_A (R : Nat → Nat → Int32) (w : Nat → Int32) (s g : Nat) : Nat → Int32 := q_A R (w 6) (e_f w s) (e_s w s) g
abbrev e_hs (R : Nat → Nat → Int32) (w : Nat → Int32) (s T g : Nat) : Int32 × Int32 := q_hs (R g) (w 6) (e_f w s) (e_s w s) (e_A R w s g) T
abbrev e_ov (R : Nat → Nat → Int32) (w : Nat → Int32) (s T g : Nat) : Int32 := q_ov (R g) (w 6) (e_f w s) (e_s w s) (e_A R w s g) T
abbrev e_mg (R : Nat → Nat → Int32) (w : Nat → Int32) (s T g : Nat) : Int32 := q_mg (R g) (w 6) (e_f w s) (e_s w s) (e_A R w s g) T
abbrev e_got (R : Nat → Nat → Int32) (w : Nat → Int32) (s g t : Nat) : Int32 := q_got (R g) (w 6) (e_f w s) (e_s w s) (e_A R w s g) t
abbrev e_car (R : Nat → Nat → Int32) (w : Nat → Int32) (s g t : Nat) : Int32 := q_car (R g) (w 6) (e_f w s) (e_s w s) (e_A R w s g) t
abbrev e_spl (R : Nat → Nat → Int32) (w : Nat → Int32) (s g t : Nat) : Int32 := q_spl (R g) (w 6) (e_f w s) (e_s w s) (e_A R w s g) t
abbrev e_all (R : Nat → Nat → Int32) (w : Nat → Int32) (s T n : Nat) : Int32 := q_all R (w 6) (e_f w s) (e_s w s) T n
/-- the class's storm s, as w has it -/
def t_X (X : zM) (w : Nat → Int32) (s T : Nat) : Prop := X.1 (c_S 1 s) 0 = nI T ∧ T ≤ 12 ∧ s < 10 ∧ (∀ t, t < 12 → X.1 (c_S 1 s + 1) t = e_f w s t ∧ X.1 (c_S 1 s + 2) t = e_s w s t)
theorem c_pourT {k0 s T n la : Nat} {X : zM} {w : Nat → Int32} {R : Nat → Nat → Int32} (h1 : 3 ≤ k0) (h2 : k0 ≤ 5) (hX : t_X X w s T) (hn : X.1 k0 0 = nI n) (hn10 : n ≤ 10) (hla : la ≤ 10) (hth : X.1 k0 1 = w 6) (hR : ∀ g, g < n → ∀ j, h_im j → X.1 (c_H k0 g) j = R g j) :
    p_ok (f_X5_pour k0 (c_S 1 s) (nI la) X) (fun x => x.1 = e_all R w s T (min (la + 1) n) ∧ x.2.2 = X.2 ∧ (∀ a, (a < c_H k0 0 ∨ c_H k0 (min (la + 1) n) ≤ a) → x.2.1 a = X.1 a) ∧
      ∀ g, g < min (la + 1) n → (∀ j, x.2.1 (c_H k0 g) j = if j = 8 then (e_hs R w s T g).1 else if j = 9 then (e_hs R w s T g).2 else if j = 12 then e_ov R w s T g else if j = 14 then e_mg R w s T g else X.1 (c_H k0 g) j) ∧
        ∀ t, t < T → x.2.1 (c_H k0 g + 2) t = e_got R w s g t ∧ x.2.1 (c_H k0 g + 3) t = e_car R w s g t ∧ x.2.1 (c_H k0 g + 4) t = e_spl R w s g t) := by
  obtain ⟨t1, t2, t3, t4⟩ := hX
  have hf : ∀ t, t < T → X.1 (c_S 1 s + 1) t = e_f w s t := fun t ht => (t4 t (by omega)).1
  have hs : ∀ t, t < T → X.1 (c_S 1 s + 2) t = e_s w s t := fun t ht => (t4 t (by omega)).2
  refine p_w (c_pour h1 h2 (by unfold c_S; omega) t1 t2 hn hn10 hla) ?_
  rintro ⟨v, Y⟩ ⟨y1, y2, y3, y4⟩
  rw [hth] at y1 y4
  have hA : ∀ g, g < n → ∀ t, t < T → q_A (fun g => X.1 (c_H k0 g)) (w 6) (X.1 (c_S 1 s + 1)) (X.1 (c_S 1 s + 2)) g t = e_A R w s g t := fun g hg => q_A_cg hR hf hs (g + 1) g (by omega) hg
  refine ⟨y1.trans (q_all_cg hR hf hs _ (Nat.min_le_right _ _)), y2, fun a ha => y3 a (fun g hg => by unfold c_H at *; omega), fun g hg => ?_⟩
  have hgn : g < n := Nat.lt_of_lt_of_le hg (Nat.min_le_right _ _)
  obtain ⟨z1, z2⟩ := y4 g hg
  refine ⟨fun j => ?_, fun t ht => ?_⟩
  · rw [z1 j, q_hs_cg (hR g hgn) hf hs (hA g hgn) T (Nat.le_refl T), q_ov_cg (hR g hgn) hf hs (hA g hgn) T (Nat.le_refl T), q_mg_cg (hR g hgn) hf hs (hA g hgn) T (Nat.le_refl T)]
  · obtain ⟨u1, u2, u3⟩ := z2 t ht
    exact ⟨u1.trans (q_got_cg (hR g hgn) hf hs (hA g hgn) ht), u2.trans (q_car_cg (hR g hgn) hf hs (hA g hgn) ht), u3.trans (q_spl_cg (hR g hgn) hf hs (hA g hgn) ht)⟩
/-- the reference's houses as laid -/
theorem q_tot_cg {f g : Nat → Nat → Int32} {n T : Nat} (h : ∀ t, t < T → ∀ i, i < n → f t i = g t i) : q_tot f n T = q_tot g n T := by
  rw [q_tot_swap, q_tot_swap]
  exact q_ac_congr n (fun i hi => q_ac_congr T (fun t ht => h t ht i hi))
theorem m_runT {s T n : Nat} {N : zM} {w : Nat → Int32} {R : Nat → Nat → Int32} (hs : s < 10) (hn : N.1 40 30 = nI n) (hn10 : n ≤ 10) (hw : ∀ j, j < 440 → N.1 41 j = w j) (hT : w (180 + 26 * s) = nI T) (hT12 : T ≤ 12) (hsn : ∀ t, t < T → e_s w s t = 0 ∨ e_s w s t = 1) (hL : m_L (fun g => R g 4) n) (hR : ∀ g, g < n → ∀ j, h_im j → m_r N g j = R g j) :
    p_ok (f_X11_runs (nI s) N) (fun x => x.1 = e_all R w s T n ∧ x.2.2 = N.2 ∧ (∀ a, a ≠ 40 → a ≠ 41 → a ≠ 54 → a ≠ 55 → a ≠ 56 → a ≠ 57 → x.2.1 a = N.1 a) ∧ (∀ j, j ≠ 31 → j ≠ 32 → x.2.1 40 j = N.1 40 j) ∧
      x.2.1 40 31 = q_tot (fun t g => if R g 4 = -1 then e_car R w s g t else 0) n T ∧ x.2.1 40 32 = q_tot (fun t g => e_f w s t * R g 0) n T ∧
      (∀ j, (j < 440 ∨ 800 ≤ j) → x.2.1 41 j = N.1 41 j) ∧ (N.1 40 33 = 0 → x.2.1 41 = N.1 41) ∧
      (¬ N.1 40 33 = 0 → ∀ g t, g < n → t < T → x.2.1 41 (440 + 3 * (12 * g + t)) = e_got R w s g t ∧ x.2.1 41 (440 + 3 * (12 * g + t) + 1) = e_car R w s g t ∧ x.2.1 41 (440 + 3 * (12 * g + t) + 2) = e_spl R w s g t) ∧
      ∀ g, g < n → x.2.1 54 g = (e_hs R w s T g).1 ∧ x.2.1 55 g = (e_hs R w s T g).2 ∧ x.2.1 56 g = e_ov R w s T g) := by
  have hf : ∀ t, t < T → m_fl N s t = e_f w s t := fun t ht => hw _ (by omega)
  have hsn' : ∀ t, t < T → m_sn N s t = e_s w s t := fun t ht => hw _ (by omega)
  have h6 : N.1 41 6 = w 6 := hw 6 (by omega)
  have r4 : ∀ g, g < n → N.1 50 g = R g 4 := fun g hg => hR g hg 4 (by unfold h_im; omega)
  have r0 : ∀ g, g < n → N.1 48 g = R g 0 := fun g hg => hR g hg 0 (by unfold h_im; omega)
  refine p_w (m_runs hs hn10 hn (fun g hg => by rw [r4 g hg]; exact hL g hg) (by rw [hw _ (by omega)]; exact hT) hT12 (fun t ht => by rw [hsn' t ht]; exact hsn t ht)) ?_
  rintro ⟨v, Y⟩ ⟨y1, y2, y3, y4, y5, y6, y7, y8, y9, y10⟩
  have hA : ∀ g, g < n → ∀ t, t < T → m_A N s g t = e_A R w s g t := fun g hg => by
    unfold m_A
    rw [h6]
    exact q_A_cg hR hf hsn' (g + 1) g (by omega) hg
  have hcar : ∀ g, g < n → ∀ t, t < T → m_car N s g t = e_car R w s g t := fun g hg t ht => by
    unfold m_car
    rw [h6]
    exact q_car_cg (hR g hg) hf hsn' (hA g hg) ht
  have hgot : ∀ g, g < n → ∀ t, t < T → m_got N s g t = e_got R w s g t := fun g hg t ht => by
    unfold m_got
    rw [h6]
    exact q_got_cg (hR g hg) hf hsn' (hA g hg) ht
  have hspl : ∀ g, g < n → ∀ t, t < T → m_spl N s g t = e_spl R w s g t := fun g hg t ht => by
    unfold m_spl
    rw [h6]
    exact q_spl_cg (hR g hg) hf hsn' (hA g hg) ht
  dsimp only at y1 ⊢
  refine ⟨?_, y2, y3, y4, ?_, ?_, y7, y8, fun hz g t hg ht => ?_, fun g hg => ?_⟩
  · rw [y1]
    exact (q_tot_cg (fun t ht g hg => hspl g hg t ht)).trans (q_all_tot R (w 6) (e_f w s) (e_s w s) T n)
  · rw [y5]
    show q_tot (m_DR N s) n T = _
    exact q_tot_cg (fun t ht g hg => by
      show (if N.1 50 g = -1 then m_car N s g t else 0) = _
      rw [r4 g hg, hcar g hg t ht])
  · rw [y6]
    show q_tot (m_FE N s) n T = _
    exact q_tot_cg (fun t ht g hg => by
      show m_fl N s t * N.1 48 g = _
      rw [r0 g hg, hf t ht])
  · rw [← hgot g hg t ht, ← hcar g hg t ht, ← hspl g hg t ht]
    exact y9 hz g t hg (Or.inl ht)
  · have := y10 g hg
    rw [if_neg (Nat.not_lt_zero g)] at this
    unfold m_hs m_ov at this
    rw [h6, q_hs_cg (hR g hg) hf hsn' (hA g hg) T (Nat.le_refl T), q_ov_cg (hR g hg) hf hsn' (hA g hg) T (Nat.le_refl T)] at this
    exact this
