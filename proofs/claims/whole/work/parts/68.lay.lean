/-! FRAMES: cells in which the class thinks, cells in which the reference thinks -/
def t_F (M X : zM) : Prop := ∀ a, (a < 5 ∨ (5 < a ∧ a < 32) ∨ (39 < a ∧ a < 181) ∨ 231 ≤ a) → X.1 a = M.1 a
def r_F (M N : zM) : Prop := (∀ a, (a < 40 ∨ (40 < a ∧ a < 48) ∨ 80 < a) → N.1 a = M.1 a) ∧ ∀ j, j ≠ 30 → j ≠ 31 → j ≠ 32 → j ≠ 41 → j ≠ 42 → N.1 40 j = M.1 40 j
theorem t_F_rfl (M : zM) : t_F M M := fun _ _ => rfl
theorem t_F_tr {A B C : zM} (h1 : t_F A B) (h2 : t_F B C) : t_F A C := fun a ha => (h2 a ha).trans (h1 a ha)
theorem r_F_rfl (M : zM) : r_F M M := ⟨fun _ _ => rfl, fun _ _ _ _ _ _ => rfl⟩
theorem r_F_tr {A B C : zM} (h1 : r_F A B) (h2 : r_F B C) : r_F A C := ⟨fun a ha => (h2.1 a ha).trans (h1.1 a ha), fun j j1 j2 j3 j4 j5 => (h2.2 j j1 j2 j3 j4 j5).trans (h1.2 j j1 j2 j3 j4 j5)⟩
theorem s_I_th {K : Nat} {M X N : zM} (h : s_I K M) (hX : t_F M X) (hN : r_F X N) : s_I (K + 1) N := by
  have ho : ∀ a, (a < 5 ∨ (5 < a ∧ a < 32) ∨ (40 < a ∧ a < 48) ∨ (80 < a ∧ a < 181) ∨ 231 ≤ a) → N.1 a = M.1 a := fun a ha => by rw [hN.1 a (by omega), hX a (by omega)]
  have h40 : ∀ j, j ≠ 30 → j ≠ 31 → j ≠ 32 → j ≠ 41 → j ≠ 42 → N.1 40 j = M.1 40 j := fun j j1 j2 j3 j4 j5 => by rw [hN.2 j j1 j2 j3 j4 j5, hX 40 (by omega)]
  refine s_I_fr h (fun a ha => ho a (by unfold s_own at ha; omega)) (fun a ha => ho a (by unfold s_own at ha; omega)) (ho 41 (by omega)) (ho 42 (by omega)) (by rw [ho 0 (by omega)]) ⟨h40 2 (by omega) (by omega) (by omega) (by omega) (by omega), h40 33 (by omega) (by omega) (by omega) (by omega) (by omega)⟩ ?_ ?_
  · obtain ⟨k, k1, k2, k3, k4⟩ := h.2.2.1
    exact ⟨k, k1, by rw [ho 28 (by omega)]; exact k2, by rw [h40 10 (by omega) (by omega) (by omega) (by omega) (by omega)]; exact k3, fun i hi => by rw [ho 45 (by omega), ho 29 (by omega)]; exact k4 i hi⟩
  · rw [ho 30 (by omega), h40 17 (by omega) (by omega) (by omega) (by omega) (by omega), h40 19 (by omega) (by omega) (by omega) (by omega) (by omega)]; exact h.2.2.2.1
/-- the houses as the reference's row w has them -/
abbrev w_r (w : Nat → Int32) (g j : Nat) : Int32 := w (20 + 16 * g + j)
theorem c_im18 {n : Nat} {M : zM} (hn : n ≤ 10) (hM : M.1 5 0 = nI n) : ∀ e i fuel (N : zM), i + e = n → e < fuel → (∀ a, (a < 181 ∨ 231 ≤ a) → N.1 a = M.1 a) → (∀ g, g < i → ∀ j, h_im j → N.1 (c_H 5 g) j = M.1 (c_H 3 g) j) →
    p_ok (f_X5_imagine_18 fuel 5 3 (nI i) N) (fun X => (∀ a, (a < 181 ∨ 231 ≤ a) → X.1 a = M.1 a) ∧ ∀ g, g < n → ∀ j, h_im j → X.1 (c_H 5 g) j = M.1 (c_H 3 g) j) := by
  intro e
  induction e with
  | zero =>
    intro i fuel N h1 h2 h3 h4
    obtain ⟨fuel, rfl⟩ : ∃ m, fuel = m + 1 := ⟨fuel - 1, by omega⟩
    have : i = n := by omega
    subst this
    rw [f_X5_imagine_18]
    refine p_t ?_ (p_some ⟨h3, h4⟩)
    rw [h3 5 (by omega), hM]
    exact nI_le (Nat.le_refl _) (by omega)
  | succ e ih =>
    intro i fuel N h1 h2 h3 h4
    obtain ⟨fuel, rfl⟩ : ∃ m, fuel = m + 1 := ⟨fuel - 1, by omega⟩
    rw [f_X5_imagine_18]
    refine p_f ?_ (p_g (p_ix (show i < 10 by omega) (by decide)) (p_g (p_ix (show i < 10 by omega) (by decide)) ?_))
    · rw [h3 5 (by omega), hM]
      exact nI_ge (by omega) (by omega)
    rw [p_cl (by omega), c_ra (by omega) (by omega), c_ra (by omega) (by omega)]
    refine p_bx (c_imag (by unfold c_H; omega)) (fun X hX => p_l ?_)
    obtain ⟨-, x1, x2, x3⟩ := hX
    rw [p_s1]
    refine ih (i + 1) fuel X (by omega) (by omega) (fun a ha => by rw [x1 a (by unfold c_H; omega)]; exact h3 a ha) (fun g hg j hj => ?_)
    by_cases z : g = i
    · subst z
      rw [x2 j hj, h3 _ (by unfold c_H; omega)]
    · rw [x1 _ (by unfold c_H; omega)]; exact h4 g (by omega) j hj
theorem c_imgn {n : Nat} {M : zM} (hn : n ≤ 10) (hM : M.1 3 0 = nI n) : p_ok (f_X5_imagine 5 3 M) (fun X => (∀ a, (a < 5 ∨ (5 < a ∧ a < 181) ∨ 231 ≤ a) → X.1 a = M.1 a) ∧ X.1 5 0 = nI n ∧ X.1 5 1 = M.1 3 1 ∧ ∀ g, g < n → ∀ j, h_im j → X.1 (c_H 5 g) j = M.1 (c_H 3 g) j) := by
  unfold f_X5_imagine
  refine p_lx (fun A hA => p_lx (fun B hB => ?_))
  rw [hA, p_ne (by decide)] at hB
  have b1 : ∀ a, a ≠ 5 → B.1 a = M.1 a := fun a ha => by rw [hB, p_nr ha, p_nr ha]
  have b2 : B.1 5 0 = nI n ∧ B.1 5 1 = M.1 3 1 := by rw [hB, p_eq, p_eq, p_eq]; exact ⟨hM, rfl⟩
  refine p_w (c_im18 (n := n) (M := B) hn b2.1 n 0 z_F B (by omega) (by unfold z_F; omega) (fun _ _ => rfl) (fun g hg => by omega)) ?_
  rintro X ⟨x1, x2⟩
  refine ⟨fun a ha => by rw [x1 a (by omega), b1 a (by omega)], by rw [x1 5 (by omega)]; exact b2.1, by rw [x1 5 (by omega)]; exact b2.2, fun g hg j hj => ?_⟩
  rw [x2 g hg j hj, b1 _ (by unfold c_H; omega)]
/-- the class imagines the street: its houses are those of w -/
theorem c_imgW {K n m : Nat} {M Q : zM} {w : Nat → Int32} (hW : s_W K w n m) (hC : s_C 1 M w n m) (hQ : t_F M Q) : p_ok (f_X5_imagine 5 3 Q) (fun X => t_F M X ∧ (∀ a, a ≠ 5 → (a < 181 ∨ 231 ≤ a) → X.1 a = Q.1 a) ∧ X.1 5 0 = nI n ∧ X.1 5 1 = w 6 ∧ ∀ g, g < n → ∀ j, h_im j → X.1 (c_H 5 g) j = w_r w g j) := by
  have e3 : Q.1 3 = M.1 3 := hQ 3 (by omega)
  refine p_w (c_imgn (n := n) hW.1.2.1 (by rw [e3]; exact (c_cnt hW hC).1)) ?_
  rintro X ⟨x1, x2, x3, x4⟩
  refine ⟨fun a ha => by rw [x1 a (by omega), hQ a ha], fun a a1 a2 => x1 a (by omega), x2, by rw [x3, e3]; exact hC.1.2.2.2.2.2.2.1, fun g hg j hj => ?_⟩
  rw [x4 g hg j hj, hQ (c_H 3 g) (by have := hW.1.2.1; unfold c_H; omega)]
  exact hC.2.2.1 g hg j (by unfold h_im at hj; omega)
theorem t_X_of {K n m s : Nat} {M X : zM} {w : Nat → Int32} (hW : s_W K w n m) (hC : s_C 1 M w n m) (hX : t_F M X) (hs : s < m) : ∃ T, 1 ≤ T ∧ T ≤ 12 ∧ w (180 + 26 * s) = nI T ∧ t_X X w s T ∧ ∀ t, t < T → e_s w s t = 0 ∨ e_s w s t = 1 := by
  obtain ⟨⟨T, T1, T2, T3⟩, t2⟩ := hW.2.2.2.2.2 s hs
  obtain ⟨s1, s2⟩ := hC.2.2.2.1 s hs
  have hm := hW.1.2.2.2
  refine ⟨T, T1, T2, T3, ⟨by rw [hX (c_S 1 s) (by unfold c_S; omega), s1, T3], T2, by omega, fun t ht => ?_⟩, fun t ht => (t2 t (by omega)).2⟩
  rw [hX (c_S 1 s + 1) (by unfold c_S; omega), hX (c_S 1 s + 2) (by unfold c_S; omega)]
  exact s2 t ht
theorem t_X_fr {s T : Nat} {X Y : zM} {w : Nat → Int32} (h : t_X X w s T) (hf : t_F X Y) : t_X Y w s T := by
  obtain ⟨t1, t2, t3, t4⟩ := h
  refine ⟨by rw [hf (c_S 1 s) (by unfold c_S; omega)]; exact t1, t2, t3, fun t ht => ?_⟩
  rw [hf (c_S 1 s + 1) (by unfold c_S; omega), hf (c_S 1 s + 2) (by unfold c_S; omega)]
  exact t4 t ht
/-- which array has the number j of a house -/
theorem m_l12 {n : Nat} {M : zM} (hn : n ≤ 10) (hM : M.1 40 30 = nI n) : ∀ e i fuel (N : zM), i + e = n → e < fuel → (∀ a, (a < 48 ∨ 55 < a) → N.1 a = M.1 a) → (∀ g, g < i → ∀ j, h_im j → m_r N g j = w_r (M.1 41) g j) →
    p_ok (f_X11_laysHouses_12 fuel (nI i) N) (fun X => (∀ a, (a < 48 ∨ 55 < a) → X.1 a = M.1 a) ∧ ∀ g, g < n → ∀ j, h_im j → m_r X g j = w_r (M.1 41) g j) := by
  intro e
  induction e with
  | zero =>
    intro i fuel N h1 h2 h3 h4
    obtain ⟨fuel, rfl⟩ : ∃ m, fuel = m + 1 := ⟨fuel - 1, by omega⟩
    have : i = n := by omega
    subst this
    rw [f_X11_laysHouses_12]
    refine p_t ?_ (p_some ⟨h3, h4⟩)
    rw [h3 40 (by omega), hM]
    exact nI_le (Nat.le_refl _) (by omega)
  | succ e ih =>
    intro i fuel N h1 h2 h3 h4
    obtain ⟨fuel, rfl⟩ : ∃ m, fuel = m + 1 := ⟨fuel - 1, by omega⟩
    rw [f_X11_laysHouses_12]
    have g11 := p_ix (show i < 11 by omega) (show 11 < 2 ^ 31 by decide)
    have ecl : Int32.toNatClampNeg (nI i) = i := p_cl (by omega)
    have e41 : N.1 41 = M.1 41 := h3 41 (by omega)
    refine p_f ?_ ?_
    · rw [h3 40 (by omega), hM]
      exact nI_ge (by omega) (by omega)
    rw [show f_X11_own (nI i) (0 : Int32) N = _ from m_own (f := 0) (by omega) (by omega), Option.bind_some]
    refine p_g g11 (p_lx (fun A0 q0 => ?_))
    rw [show f_X11_own (nI i) (1 : Int32) A0 = _ from m_own (f := 1) (by omega) (by omega), Option.bind_some]
    refine p_g g11 (p_lx (fun A1 q1 => ?_))
    rw [show f_X11_own (nI i) (4 : Int32) A1 = _ from m_own (f := 4) (by omega) (by omega), Option.bind_some]
    refine p_g g11 (p_lx (fun A4 q4 => ?_))
    rw [show f_X11_own (nI i) (5 : Int32) A4 = _ from m_own (f := 5) (by omega) (by omega), Option.bind_some]
    refine p_g g11 (p_lx (fun A5 q5 => ?_))
    rw [show f_X11_own (nI i) (6 : Int32) A5 = _ from m_own (f := 6) (by omega) (by omega), Option.bind_some]
    refine p_g g11 (p_lx (fun A6 q6 => ?_))
    rw [show f_X11_own (nI i) (7 : Int32) A6 = _ from m_own (f := 7) (by omega) (by omega), Option.bind_some]
    refine p_g g11 (p_lx (fun A7 q7 => ?_))
    rw [show f_X11_own (nI i) (8 : Int32) A7 = _ from m_own (f := 8) (by omega) (by omega), Option.bind_some]
    refine p_g g11 (p_lx (fun A8 q8 => ?_))
    rw [show f_X11_own (nI i) (9 : Int32) A8 = _ from m_own (f := 9) (by omega) (by omega), Option.bind_some]
    refine p_g g11 (p_lx (fun A9 q9 => p_l ?_))
    rw [p_s1]
    dsimp only at q0 q1 q4 q5 q6 q7 q8 q9
    rw [ecl] at q0 q1 q4 q5 q6 q7 q8 q9
    rw [e41] at q0
    rw [q0, p_ne (show (41 : Nat) ≠ 48 by decide), e41, ← q0] at q1
    have f1 : A1.1 41 = M.1 41 := by rw [q1, p_nr (by decide), q0, p_nr (by decide), e41]
    rw [f1] at q4
    have f4 : A4.1 41 = M.1 41 := by rw [q4, p_nr (by decide), f1]
    rw [f4] at q5
    have f5 : A5.1 41 = M.1 41 := by rw [q5, p_nr (by decide), f4]
    rw [f5] at q6
    have f6 : A6.1 41 = M.1 41 := by rw [q6, p_nr (by decide), f5]
    rw [f6] at q7
    have f7 : A7.1 41 = M.1 41 := by rw [q7, p_nr (by decide), f6]
    rw [f7] at q8
    have f8 : A8.1 41 = M.1 41 := by rw [q8, p_nr (by decide), f7]
    rw [f8] at q9
    refine ih (i + 1) fuel A9 (by omega) (by omega) (fun a ha => by rw [q9, p_nr (by omega), q8, p_nr (by omega), q7, p_nr (by omega), q6, p_nr (by omega), q5, p_nr (by omega), q4, p_nr (by omega), q1, p_nr (by omega), q0, p_nr (by omega)]; exact h3 a ha) (fun g hg j hj => ?_)
    have key : ∀ a, 48 ≤ a → a ≤ 55 → ∀ v : Int32, (g < i → N.1 a g = v) → (g = i → A9.1 a i = v) → A9.1 a g = v := fun a a1 a2 v u1 u2 => by
      by_cases z : g = i
      · subst z; exact u2 rfl
      · rw [q9, p_rd, if_neg (fun q => z q.2), q8, p_rd, if_neg (fun q => z q.2), q7, p_rd, if_neg (fun q => z q.2), q6, p_rd, if_neg (fun q => z q.2), q5, p_rd, if_neg (fun q => z q.2), q4, p_rd, if_neg (fun q => z q.2), q1, p_rd, if_neg (fun q => z q.2), q0, p_rd, if_neg (fun q => z q.2)]
        exact u1 (by omega)
    have hj' := hj
    unfold h_im at hj'
    rcases hj' with rfl | rfl | rfl | rfl | rfl | rfl | rfl | rfl
    · exact key 48 (by omega) (by omega) _ (fun q => h4 g q 0 hj) (fun q => by subst q; rw [q9, p_ne (by decide), q8, p_ne (by decide), q7, p_ne (by decide), q6, p_ne (by decide), q5, p_ne (by decide), q4, p_ne (by decide), q1, p_ne (by decide), q0, p_eq, if_pos rfl])
    · exact key 49 (by omega) (by omega) _ (fun q => h4 g q 1 hj) (fun q => by subst q; rw [q9, p_ne (by decide), q8, p_ne (by decide), q7, p_ne (by decide), q6, p_ne (by decide), q5, p_ne (by decide), q4, p_ne (by decide), q1, p_eq, if_pos rfl])
    · exact key 50 (by omega) (by omega) _ (fun q => h4 g q 4 hj) (fun q => by subst q; rw [q9, p_ne (by decide), q8, p_ne (by decide), q7, p_ne (by decide), q6, p_ne (by decide), q5, p_ne (by decide), q4, p_eq, if_pos rfl])
    · exact key 51 (by omega) (by omega) _ (fun q => h4 g q 5 hj) (fun q => by subst q; rw [q9, p_ne (by decide), q8, p_ne (by decide), q7, p_ne (by decide), q6, p_ne (by decide), q5, p_eq, if_pos rfl])
    · exact key 52 (by omega) (by omega) _ (fun q => h4 g q 6 hj) (fun q => by subst q; rw [q9, p_ne (by decide), q8, p_ne (by decide), q7, p_ne (by decide), q6, p_eq, if_pos rfl])
    · exact key 53 (by omega) (by omega) _ (fun q => h4 g q 7 hj) (fun q => by subst q; rw [q9, p_ne (by decide), q8, p_ne (by decide), q7, p_eq, if_pos rfl])
    · exact key 54 (by omega) (by omega) _ (fun q => h4 g q 8 hj) (fun q => by subst q; rw [q9, p_ne (by decide), q8, p_eq, if_pos rfl])
    · exact key 55 (by omega) (by omega) _ (fun q => h4 g q 9 hj) (fun q => by subst q; rw [q9, p_eq, if_pos rfl])
theorem m_lays {n : Nat} {M : zM} (hn : n ≤ 10) (hM : M.1 41 0 = nI n) : p_ok (f_X11_laysHouses M) (fun X => (∀ a, (a < 40 ∨ (40 < a ∧ a < 48) ∨ 55 < a) → X.1 a = M.1 a) ∧ (∀ j, j ≠ 30 → X.1 40 j = M.1 40 j) ∧ X.1 40 30 = nI n ∧ ∀ g, g < n → ∀ j, h_im j → m_r X g j = w_r (M.1 41) g j) := by
  unfold f_X11_laysHouses
  refine p_lx (fun A hA => ?_)
  rw [show Int32.toNatClampNeg (0 : Int32) = 0 from rfl, hM] at hA
  have a30 : A.1 40 30 = nI n := by rw [hA, p_eq, if_pos rfl]
  have a41 : A.1 41 = M.1 41 := by rw [hA, p_nr (by decide)]
  refine p_w (m_l12 (M := A) hn a30 n 0 z_F A (by omega) (by unfold z_F; omega) (fun _ _ => rfl) (fun g hg => by omega)) ?_
  rintro X ⟨x1, x2⟩
  rw [a41] at x2
  exact ⟨fun a ha => by rw [x1 a (by omega), hA, p_nr (by omega)], fun j hj => by rw [x1 40 (by omega), hA, p_eq, if_neg hj], by rw [x1 40 (by omega)]; exact a30, x2⟩
