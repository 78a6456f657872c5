/-! STAINS: the class -/
def a_is (X : zM) (x : a_St) : Prop := X.1 39 1 = nI x.1 ∧ X.1 39 2 = x.2.1 ∧ X.1 39 3 = x.2.2.1 ∧ X.1 39 4 = x.2.2.2
theorem c_nt18 {s c : Nat} {si : Int32} {x : a_St} {X : zM} (hx : a_is X x) (h5 : X.1 39 5 = nI s) : p_ok (f_X6_note_18 (nI c) si X) (fun Y => (∀ a, a ≠ 39 → Y.1 a = X.1 a) ∧ Y.1 39 0 = X.1 39 0 ∧ Y.1 39 5 = X.1 39 5 ∧ Y.1 39 1 = nI (x.1 + 1) ∧ Y.1 39 4 = si ∧ Y.1 39 2 = (a_nt s x c).2.1 ∧ Y.1 39 3 = (a_nt s x c).2.2.1) := by
  obtain ⟨x1, x2, x3, x4⟩ := hx
  unfold f_X6_note_18
  refine p_lx (fun A eA => p_lx (fun B eB => ?_))
  have bb : ∀ j, j ≠ 1 → j ≠ 4 → B.1 39 j = X.1 39 j := fun j j1 j4 => by rw [eB, p_eq, if_neg j1, eA, p_eq, if_neg j4]
  have b1 : B.1 39 1 = nI (x.1 + 1) := by rw [eB, p_eq, if_pos rfl, eA, p_eq, if_neg (by decide), x1, p_s1]
  have b4 : B.1 39 4 = si := by rw [eB, p_eq, if_neg (by decide), eA, p_eq, if_pos rfl]
  have b2 : B.1 39 2 = x.2.1 := by rw [bb 2 (by decide) (by decide), x2]
  have b3 : B.1 39 3 = x.2.2.1 := by rw [bb 3 (by decide) (by decide), x3]
  have b5 : B.1 39 5 = nI s := by rw [bb 5 (by decide) (by decide), h5]
  have bo : ∀ a, a ≠ 39 → B.1 a = X.1 a := fun a ha => by rw [eB, p_nr ha, eA, p_nr ha]
  unfold a_nt
  dsimp only
  by_cases z : x.2.1 = -1
  · refine p_t (by rw [b2]; exact z) (p_lx (fun C eC => p_lx (fun D eD => p_some ?_)))
    rw [if_pos z, if_pos z]
    refine ⟨fun a ha => by rw [eD, p_nr ha, eC, p_nr ha, bo a ha], ?_, ?_, ?_, ?_, ?_, ?_⟩
    · rw [eD, p_eq, if_neg (by decide), eC, p_eq, if_neg (by decide), bb 0 (by decide) (by decide)]
    · rw [eD, p_eq, if_neg (by decide), eC, p_eq, if_neg (by decide), bb 5 (by decide) (by decide)]
    · rw [eD, p_eq, if_neg (by decide), eC, p_eq, if_neg (by decide), b1]
    · rw [eD, p_eq, if_neg (by decide), eC, p_eq, if_neg (by decide), b4]
    · rw [eD, p_eq, if_neg (by decide), eC, p_eq, if_pos rfl, b5]
    · rw [eD, p_eq, if_pos rfl]
  · refine p_f (by rw [b2]; exact z) ?_
    rw [if_neg z, if_neg z]
    by_cases y : x.2.1 = nI s
    · refine p_t (by rw [b2, b5]; exact y) (p_lx (fun C eC => p_some ?_))
      rw [if_pos y]
      refine ⟨fun a ha => by rw [eC, p_nr ha, bo a ha], ?_, ?_, ?_, ?_, ?_, ?_⟩
      · rw [eC, p_eq, if_neg (by decide), bb 0 (by decide) (by decide)]
      · rw [eC, p_eq, if_neg (by decide), bb 5 (by decide) (by decide)]
      · rw [eC, p_eq, if_neg (by decide), b1]
      · rw [eC, p_eq, if_neg (by decide), b4]
      · rw [eC, p_eq, if_neg (by decide), b2]
      · rw [eC, p_eq, if_pos rfl, b3]; rfl
    · refine p_f (by rw [b2, b5]; exact y) (p_some ?_)
      rw [if_neg y]
      exact ⟨bo, bb 0 (by decide) (by decide), bb 5 (by decide) (by decide), b1, b4, b2, b3⟩
theorem c_note {s c : Nat} {x : a_St} {X : zM} (hx : a_is X x) (hk : x.1 < 100000) (h5 : X.1 39 5 = nI s) : p_ok (f_X6_note (nI c) X) (fun Y => (∀ a, a ≠ 39 → Y.1 a = X.1 a) ∧ Y.1 39 0 = X.1 39 0 ∧ Y.1 39 5 = X.1 39 5 ∧ a_is Y (a_nt s x c)) := by
  unfold f_X6_note
  by_cases z : x.1 = 0
  · refine p_t (by rw [hx.1, z]; rfl) (p_w (c_nt18 hx h5) ?_)
    rintro Y ⟨y1, y2, y3, y4, y5, y6, y7⟩
    exact ⟨y1, y2, y3, y4, y6, y7, by rw [y5]; unfold a_nt; dsimp only; rw [if_pos z]⟩
  · refine p_f (by rw [hx.1, p_0]; exact fun q => z (n_inj (by omega) (by omega) q)) (p_w (c_nt18 hx h5) ?_)
    rintro Y ⟨y1, y2, y3, y4, y5, y6, y7⟩
    exact ⟨y1, y2, y3, y4, y6, y7, by rw [y5, hx.2.2.2]; unfold a_nt; dsimp only; rw [if_neg z]⟩
def st_j (j : Nat) : Prop := j = 0 ∨ j = 1 ∨ j = 4 ∨ j = 6 ∨ j = 7
/-- the thought roofs, with the set p of clogs at the first h houses, through -/
def st_J (M : zM) (w : Nat → Int32) (n s T q h p : Nat) (X : zM) : Prop := t_F M X ∧ (X.1 5 0 = nI n ∧ X.1 5 1 = w 6) ∧ (∀ g, g < n → ∀ j, st_j j → X.1 (c_H 5 g) j = w_r w g j) ∧ (∀ g, g < h → ∀ t, t < T → X.1 (c_H 5 g + 3) t = e_car (R_s w p) w s g t) ∧ X.1 39 0 = nI q ∧ X.1 39 5 = nI s
def st_good (w : Nat → Int32) (s T n q c : Nat) : Bool := decide (a_wet (e_ov (R_s w c) w s T) n = q)
section ST
variable {n s T q : Nat} {M : zM} {w : Nat → Int32}
theorem st_dn {h p p' r : Nat} {X : zM} (hp : p' = p + 2 ^ h * r) (hJ : st_J M w n s T q (h + 1) p' X) : st_J M w n s T q h p X := by
  obtain ⟨j1, j2, j3, j4, j5⟩ := hJ
  exact ⟨j1, j2, j3, fun g hg t ht => by rw [j4 g (by omega) t ht]; exact (e_cgR (R_s_cg hp) hg).2.1 t ht, j5⟩
theorem st_ro {h p p' r : Nat} {v : Int32} {X : zM} (hn8 : n ≤ 8) (hh : h < n) (hX : t_X M w s T) (hJ : st_J M w n s T q h p X) (hp : p' = p + 2 ^ h * r) (hv : v = if p'.testBit h then 10 else 0) :
    p_ok (f_X6_runsOver 5 (c_S 1 s) (nI h) v X) (fun x => x.1 = (if e_ov (R_s w p') w s T h ≤ 0 then 0 else 1) ∧ st_J M w n s T q (h + 1) p' x.2 ∧ (∀ a, a < c_H 5 h → x.2.1 a = X.1 a)) := by
  obtain ⟨j1, ⟨j2, j2'⟩, j3, j4, j5⟩ := hJ
  obtain ⟨t1, t2, t3, t4⟩ := t_X_fr hX j1
  unfold f_X6_runsOver
  refine p_g (p_ix (show h < 10 by omega) (by decide)) (p_l ?_)
  rw [p_cl (by omega), c_ra (k0 := 5) (by omega) (by omega)]
  refine p_lx (fun A eA => p_lx (fun B eB => p_lx (fun D eD => ?_)))
  have dK : ∀ j, D.1 (c_H 5 h) j = if j = 9 then 0 else if j = 8 then 0 else if j = 5 then v else X.1 (c_H 5 h) j := fun j => by rw [eD, p_eq, eB, p_eq, eA, p_eq]
  have dO : ∀ a, a ≠ c_H 5 h → D.1 a = X.1 a := fun a ha => by rw [eD, p_nr ha, eB, p_nr ha, eA, p_nr ha]
  have eS : ∀ o, o ≤ 2 → D.1 (c_S 1 s + o) = X.1 (c_S 1 s + o) := fun o ho => dO _ (by unfold c_S c_H; omega)
  refine p_bx (c_pass (k0 := 5) (i := h) (st := c_S 1 s) (T := T) (by omega) (by omega) (by omega) (by unfold c_S; omega) (by rw [show c_S 1 s = c_S 1 s + 0 from rfl, eS 0 (by omega)]; exact t1) t2) (fun Y hY => ?_)
  obtain ⟨y1, y2, y3, y4⟩ := hY
  have hf : ∀ t, t < T → D.1 (c_S 1 s + 1) t = e_f w s t := fun t ht => by rw [eS 1 (by omega)]; exact (t4 t (by omega)).1
  have hsn : ∀ t, t < T → D.1 (c_S 1 s + 2) t = e_s w s t := fun t ht => by rw [eS 2 (by omega)]; exact (t4 t (by omega)).2
  have hth : D.1 5 1 = w 6 := by rw [dO 5 (by unfold c_H; omega)]; exact j2'
  have hr : ∀ j, h_im j → D.1 (c_H 5 h) j = R_s w p' h j := fun j hj => by
    rw [dK]
    unfold R_s
    unfold h_im at hj
    by_cases z5 : j = 5
    · rw [if_neg (by omega), if_neg (by omega), if_pos z5, if_pos z5]; exact hv
    by_cases z8 : j = 8 ∨ j = 9
    · have e : (if j = 9 then (0 : Int32) else if j = 8 then 0 else if j = 5 then v else X.1 (c_H 5 h) j) = 0 := by
        rcases z8 with z8 | z8
        · rw [if_neg (by omega), if_pos z8]
        · rw [if_pos z8]
      rw [e, if_neg z5, if_pos z8]
    · rw [if_neg (by omega), if_neg (by omega), if_neg z5, if_neg z5, if_neg z8]
      exact j3 h hh j (by unfold st_j; omega)
  have hab : ∀ t, t < T → q_ab (fun g => D.1 (c_H 5 g) 4) (fun g t => D.1 (c_H 5 g + 3) t) h t h = e_A (R_s w p') w s h t := fun t ht => by
    unfold e_A q_A
    refine q_ab_congr h (fun g hg => ?_) (fun g hg => ?_)
    · rw [dO _ (by unfold c_H; omega), j3 g (by omega) 4 (by unfold st_j; omega)]
      unfold R_s
      rw [if_neg (by omega), if_neg (by omega)]
    · rw [dO _ (by unfold c_H; omega), j4 g hg t ht, q_C_eq]
      exact ((e_cgR (R_s_cg hp) hg).2.1 t ht).symm
  have hov : Y.1 (c_H 5 h) 12 = e_ov (R_s w p') w s T h := by
    rw [y3 12, if_neg (by decide), if_neg (by decide), if_pos rfl, hth]
    exact q_ov_cg hr hf hsn hab T (Nat.le_refl T)
  have hcar : ∀ t, t < T → Y.1 (c_H 5 h + 3) t = e_car (R_s w p') w s h t := fun t ht => by
    rw [(y4 t ht).2.1, hth]
    exact q_car_cg hr hf hsn hab ht
  have lo : ∀ a, (a < c_H 5 h ∨ c_H 5 h + 5 ≤ a) → Y.1 a = X.1 a := fun a ha => by
    rw [y2 a (by omega) (by omega) (by omega) (by omega) (by omega), dO a (by omega)]
  have hJ' : st_J M w n s T q (h + 1) p' Y := by
    refine ⟨fun a ha => by rw [lo a (by unfold c_H; omega)]; exact j1 a ha, ⟨by rw [lo 5 (by unfold c_H; omega)]; exact j2, by rw [lo 5 (by unfold c_H; omega)]; exact j2'⟩, fun g hg j hj => ?_, fun g hg t ht => ?_, by rw [lo 39 (by unfold c_H; omega)]; exact j5⟩
    · by_cases z : g = h
      · subst z
        unfold st_j at hj
        rw [y3 j, if_neg (by omega), if_neg (by omega), if_neg (by omega), if_neg (by omega), dK, if_neg (by omega), if_neg (by omega), if_neg (by omega)]
        exact j3 g hg j hj
      · rw [lo _ (by unfold c_H; omega)]; exact j3 g hg j hj
    · by_cases z : g = h
      · subst z; exact hcar t ht
      · rw [lo _ (by unfold c_H; omega), j4 g (by omega) t ht]
        exact ((e_cgR (R_s_cg hp) (show g < h by omega)).2.1 t ht).symm
  by_cases z : e_ov (R_s w p') w s T h ≤ 0
  · refine p_t (by rw [hov]; exact z) (p_some ⟨by rw [if_pos z], hJ', fun a ha => lo a (Or.inl ha)⟩)
  · refine p_f (by rw [hov]; exact z) (p_some ⟨by rw [if_neg z], hJ', fun a ha => lo a (Or.inl ha)⟩)
theorem st_no {h d p : Nat} (hn : h + 1 + d = n) (hq : q < 2 ^ n) (hp : p < 2 ^ (h + 1)) (hb : ¬ (¬ e_ov (R_s w p) w s T h ≤ 0 ↔ q.testBit h = true)) : ∀ c, c ∈ a_L d (h + 1) p → st_good w s T n q c = false := by
  intro c hc
  obtain ⟨r, hr⟩ := a_Lm _ _ _ _ hc
  unfold st_good
  apply decide_eq_false
  intro e
  apply hb
  have e1 : a_wet (e_ov (R_s w c) w s T) (h + 1 + d) = q % 2 ^ (h + 1 + d) := by rw [hn, Nat.mod_eq_of_lt hq]; exact e
  have e2 := (a_wet_s.mp (a_wet_dn d (h + 1) e1)).2
  rw [← (e_cgR (T := T) (s := s) (R_s_cg (w := w) hr) (Nat.lt_succ_self h)).1]
  exact e2
theorem st_tb0 {p h : Nat} (hp : p < 2 ^ h) : p.testBit h = false := Nat.testBit_lt_two_pow hp
theorem st_tb1 {p h : Nat} (hp : p < 2 ^ h) : (p + 2 ^ h).testBit h = true := by
  rw [Nat.add_comm, Nat.testBit_two_pow_add_eq, st_tb0 hp]; rfl
/-- what is known before the house h is tried -/
theorem st_try (hn8 : n ≤ 8) (hq : q < 2 ^ n) (hX : t_X M w s T) : ∀ d h p fuel (X : zM) (x : a_St), h + d = n → d < fuel → p < 2 ^ h → st_J M w n s T q h p X → a_is X x → x.1 + 2 ^ d ≤ 100000 → a_wet (e_ov (R_s w p) w s T) h = q % 2 ^ h →
    p_ok (f_X6_tryHouse fuel 5 (c_S 1 s) (nI h) (nI p) X) (fun Y => st_J M w n s T q h p Y ∧ (∀ a, a < c_H 5 h → a ≠ 39 → Y.1 a = X.1 a) ∧ a_is Y (a_fold s (st_good w s T n q) x (a_L d h p))) := by
  intro d
  induction d with
  | zero =>
    intro h p fuel X x hn hf hp hJ hx hb hwet
    obtain ⟨fuel, rfl⟩ : ∃ m, fuel = m + 1 := ⟨fuel - 1, by omega⟩
    have : h = n := by omega
    subst this
    obtain ⟨j1, ⟨j2, j2'⟩, j3, j4, j5, j6⟩ := id hJ
    rw [f_X6_tryHouse]
    unfold f_X6_tryHouse_b
    refine p_t (by rw [j2]; exact nI_le (Nat.le_refl _) (by omega)) (p_bx (c_note (c := p) hx (by omega) j6) (fun Y hY => p_some ?_))
    obtain ⟨y1, y2, y3, y4⟩ := hY
    refine ⟨⟨fun a ha => by rw [y1 a (by omega)]; exact j1 a ha, by rw [y1 5 (by omega)]; exact ⟨j2, j2'⟩, fun g hg j hj => by rw [y1 _ (by unfold c_H; omega)]; exact j3 g hg j hj, fun g hg t ht => by rw [y1 _ (by unfold c_H; omega)]; exact j4 g hg t ht, by rw [y2]; exact j5, by rw [y3]; exact j6⟩, fun a _ ha => y1 a ha, ?_⟩
    have hg : st_good w s T h q p = true := by
      unfold st_good
      apply decide_eq_true
      rw [hwet, Nat.mod_eq_of_lt hq]
    unfold a_fold
    rw [a_L, List.filter_cons_of_pos hg]
    exact y4
  | succ d ih =>
    intro h p fuel X x hn hf hp hJ hx hb hwet
    obtain ⟨fuel, rfl⟩ : ∃ m, fuel = m + 1 := ⟨fuel - 1, by omega⟩
    have e2 : 2 ^ (h + 1) = 2 ^ h + 2 ^ h := by rw [Nat.pow_succ]; omega
    have e2d : 2 ^ (d + 1) = 2 ^ d + 2 ^ d := by rw [Nat.pow_succ]; omega
    have hh8 : 2 ^ h ≤ 2 ^ 8 := Nat.pow_le_pow_right (n := 2) (by omega) (by omega)
    have hq8 : 2 ^ n ≤ 2 ^ 8 := Nat.pow_le_pow_right (n := 2) (by omega) (by omega)
    have hd0 : 0 < 2 ^ d := Nat.two_pow_pos d
    have ep : p = p + 2 ^ h * 0 := by omega
    have ep1 : p + 2 ^ h = p + 2 ^ h * 1 := by omega
    -- one of the two tries
    have key : ∀ (p' r : Nat) (A : zM) (y : a_St), p' = p + 2 ^ h * r → p' < 2 ^ (h + 1) → st_J M w n s T q h p A → a_is A y → y.1 + 2 ^ d ≤ 100000 → (∀ a, a < c_H 5 h → a ≠ 39 → A.1 a = X.1 a) →
        p_ok (f_X6_runsOver 5 (c_S 1 s) (nI h) (if p'.testBit h then 10 else 0) A) (fun z => z.1 = (if e_ov (R_s w p') w s T h ≤ 0 then 0 else 1) ∧ st_J M w n s T q (h + 1) p' z.2 ∧ a_is z.2 y ∧ (∀ a, a < c_H 5 h → a ≠ 39 → z.2.1 a = X.1 a)) := by
      intro p' r A y hp' hl hA hy hc ho
      refine p_w (st_ro hn8 (by omega) hX hA hp' rfl) ?_
      rintro z ⟨z1, z2, z3⟩
      have e39 : z.2.1 39 = A.1 39 := z3 39 (by unfold c_H; omega)
      exact ⟨z1, z2, by unfold a_is; rw [e39]; exact hy, fun a ha h39 => by rw [z3 a ha]; exact ho a ha h39⟩
    have tryS : ∀ (p' r : Nat) (A : zM) (y : a_St), p' = p + 2 ^ h * r → p' < 2 ^ (h + 1) → st_J M w n s T q (h + 1) p' A → a_is A y → y.1 + 2 ^ d ≤ 100000 → (∀ a, a < c_H 5 h → a ≠ 39 → A.1 a = X.1 a) → (¬ e_ov (R_s w p') w s T h ≤ 0 ↔ q.testBit h = true) →
        p_ok (f_X6_tryHouse fuel 5 (c_S 1 s) (nI h + 1) (nI p') A) (fun Y => st_J M w n s T q h p Y ∧ (∀ a, a < c_H 5 h → a ≠ 39 → Y.1 a = X.1 a) ∧ a_is Y (a_fold s (st_good w s T n q) y (a_L d (h + 1) p'))) := by
      intro p' r A y hp' hl hA hy hc ho hbit
      rw [p_s1]
      refine p_w (ih (h + 1) p' fuel A y (by omega) (by omega) hl hA hy hc (a_wet_s.mpr ⟨?_, hbit⟩)) ?_
      · rw [← hwet]
        exact a_wet_cg h (fun g hg => (e_cgR (R_s_cg hp') hg).1)
      · rintro Y ⟨y1, y2, y3⟩
        exact ⟨st_dn hp' y1, fun a ha h39 => by rw [y2 a (by unfold c_H at *; omega) h39]; exact ho a ha h39, y3⟩
    have bit : ∀ (p' : Nat), ((if e_ov (R_s w p') w s T h ≤ 0 then (0 : Int32) else 1) = (if q.testBit h then 1 else 0)) ↔ (¬ e_ov (R_s w p') w s T h ≤ 0 ↔ q.testBit h = true) := fun p' => by
      by_cases z1 : e_ov (R_s w p') w s T h ≤ 0
      · by_cases z2 : q.testBit h = true
        · simp [z1, z2]
        · simp [z1, z2]
      · by_cases z2 : q.testBit h = true
        · simp [z1, z2]
        · simp [z1, z2]
    have second : ∀ (A : zM) (y : a_St), st_J M w n s T q h p A → a_is A y → y.1 + 2 ^ d ≤ 100000 → (∀ a, a < c_H 5 h → a ≠ 39 → A.1 a = X.1 a) → p_ok (f_X6_tryHouse_62 (f_X6_tryHouse fuel) 5 (c_S 1 s) (nI h) (nI p) (if q.testBit h then 1 else 0) A) (fun Y => st_J M w n s T q h p Y ∧ (∀ a, a < c_H 5 h → a ≠ 39 → Y.1 a = X.1 a) ∧ a_is Y (a_fold s (st_good w s T n q) y (a_L d (h + 1) (p + 2 ^ h)))) := by
      intro A y hA hy hc ho
      unfold f_X6_tryHouse_62
      have k := key (p + 2 ^ h) 1 A y ep1 (by omega) hA hy hc ho
      rw [st_tb1 hp, if_pos rfl] at k
      refine p_bx k (fun z hz => ?_)
      obtain ⟨z1, z2, z3, z4⟩ := hz
      by_cases hbit : (¬ e_ov (R_s w (p + 2 ^ h)) w s T h ≤ 0 ↔ q.testBit h = true)
      · refine p_t (by rw [z1]; exact (bit _).mpr hbit) ?_
        rw [a_or (by omega) hp]
        refine p_bx (tryS (p + 2 ^ h) 1 z.2 y ep1 (by omega) z2 z3 hc z4 hbit) (fun Y hY => p_some hY)
      · refine p_f (by rw [z1]; exact fun e => hbit ((bit _).mp e)) (p_some ⟨st_dn ep1 z2, z4, ?_⟩)
        rw [a_fold_no (st_no (by omega) hq (by omega) hbit)]
        exact z3
    have first : p_ok (f_X6_tryHouse_37 (f_X6_tryHouse fuel) 5 (c_S 1 s) (nI h) (nI p) (if q.testBit h then 1 else 0) X) (fun Y => st_J M w n s T q h p Y ∧ (∀ a, a < c_H 5 h → a ≠ 39 → Y.1 a = X.1 a) ∧ a_is Y (a_fold s (st_good w s T n q) x (a_L (d + 1) h p))) := by
      unfold f_X6_tryHouse_37
      rw [a_L, a_fold_app]
      have k := key p 0 X x ep (by omega) hJ hx (by omega) (fun _ _ _ => rfl)
      rw [st_tb0 hp, if_neg (by decide)] at k
      refine p_bx k (fun z hz => ?_)
      obtain ⟨z1, z2, z3, z4⟩ := hz
      by_cases hbit : (¬ e_ov (R_s w p) w s T h ≤ 0 ↔ q.testBit h = true)
      · refine p_t (by rw [z1]; exact (bit _).mpr hbit) ?_
        refine p_bx (tryS p 0 z.2 x ep (by omega) z2 z3 (by omega) z4 hbit) (fun Y hY => ?_)
        obtain ⟨y1, y2, y3⟩ := hY
        have cnt := a_fold_cnt (s := s) (good := st_good w s T n q) (a_L d (h + 1) p) x
        rw [a_Ll] at cnt
        exact second Y _ y1 y3 (by omega) y2
      · refine p_f (by rw [z1]; exact fun e => hbit ((bit _).mp e)) ?_
        rw [a_fold_no (st_no (by omega) hq (by omega) hbit)]
        exact second z.2 x (st_dn ep z2) z3 (by omega) z4
    obtain ⟨j1, ⟨j2, j2'⟩, j3, j4, j5, j6⟩ := id hJ
    rw [f_X6_tryHouse]
    unfold f_X6_tryHouse_b
    refine p_f (by rw [j2]; exact nI_ge (by omega) (by omega)) (p_t (nI_lt (b := 8) (by omega) (by omega)) ?_)
    rw [j5, a_bit (by omega) (by omega)]
    by_cases z : q.testBit h = true
    · rw [if_pos z] at first ⊢
      exact p_f (by decide) first
    · rw [if_neg z] at first ⊢
      exact p_t rfl first
end ST
