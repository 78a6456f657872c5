def R_w (w : Nat → Int32) (g j : Nat) : Int32 := if j = 1 then 9999999 else if j = 5 then 0 else w_r w g j
def R_g (w : Nat → Int32) (g j : Nat) : Int32 := if j = 1 then 9999999 else if j = 5 ∨ j = 6 ∨ j = 8 ∨ j = 9 then 0 else w_r w g j
theorem c_widen {n : Nat} {M : zM} (hn : n ≤ 10) (hM : M.1 5 0 = nI n) : p_ok (f_X5_widen 5 M) (fun X => (∀ a, (a < 181 ∨ 231 ≤ a) → X.1 a = M.1 a) ∧ ∀ g, g < n → ∀ j, X.1 (c_H 5 g) j = if j = 1 then 9999999 else if j = 5 then 0 else M.1 (c_H 5 g) j) := by
  have loop : ∀ e i fuel (N : zM), i + e = n → e < fuel → (∀ a, (a < 181 ∨ 231 ≤ a) → N.1 a = M.1 a) → (∀ g, i ≤ g → g < n → N.1 (c_H 5 g) = M.1 (c_H 5 g)) → (∀ g, g < i → ∀ j, N.1 (c_H 5 g) j = if j = 1 then 9999999 else if j = 5 then 0 else M.1 (c_H 5 g) j) →
      p_ok (f_X5_widen_2 fuel 5 (nI i) N) (fun X => (∀ a, (a < 181 ∨ 231 ≤ a) → X.1 a = M.1 a) ∧ ∀ g, g < n → ∀ j, X.1 (c_H 5 g) j = if j = 1 then 9999999 else if j = 5 then 0 else M.1 (c_H 5 g) j) := by
    intro e
    induction e with
    | zero =>
      intro i fuel N h1 h2 h3 h4 h5
      obtain ⟨fuel, rfl⟩ : ∃ m, fuel = m + 1 := ⟨fuel - 1, by omega⟩
      have : i = n := by omega
      subst this
      rw [f_X5_widen_2]
      exact p_t (by rw [h3 5 (by omega), hM]; exact nI_le (Nat.le_refl _) (by omega)) (p_some ⟨h3, h5⟩)
    | succ e ih =>
      intro i fuel N h1 h2 h3 h4 h5
      obtain ⟨fuel, rfl⟩ : ∃ m, fuel = m + 1 := ⟨fuel - 1, by omega⟩
      rw [f_X5_widen_2]
      have g10 := p_ix (show i < 10 by omega) (show 10 < 2 ^ 31 by decide)
      refine p_f (by rw [h3 5 (by omega), hM]; exact nI_ge (by omega) (by omega)) (p_g g10 (p_l (p_g g10 (p_l (p_l ?_)))))
      rw [p_s1, p_cl (by omega), c_ra (k0 := 5) (by omega) (by omega)]
      refine ih (i + 1) fuel _ (by omega) (by omega) (fun a ha => by rw [p_nr (by unfold c_H; omega), p_nr (by unfold c_H; omega)]; exact h3 a ha) (fun g g1 g2 => by rw [p_nr (by unfold c_H; omega), p_nr (by unfold c_H; omega)]; exact h4 g (by omega) g2) (fun g hg j => ?_)
      by_cases z : g = i
      · subst z
        rw [p_eq, p_eq, h4 g (by omega) (by omega)]
        repeat' split
        all_goals first | rfl | omega
      · rw [p_ne (by unfold c_H; omega), p_ne (by unfold c_H; omega)]; exact h5 g (by omega) j
  exact loop n 0 z_F M (by omega) (by unfold z_F; omega) (fun _ _ => rfl) (fun _ _ _ => rfl) (fun g hg => by omega)
theorem c_strip {n : Nat} {M : zM} (hn : n ≤ 10) (hM : M.1 5 0 = nI n) : p_ok (f_X5_strip 5 M) (fun X => (∀ a, (a < 181 ∨ 231 ≤ a) → X.1 a = M.1 a) ∧ ∀ g, g < n → ∀ j, X.1 (c_H 5 g) j = if j = 6 ∨ j = 8 ∨ j = 9 then 0 else M.1 (c_H 5 g) j) := by
  have loop : ∀ e i fuel (N : zM), i + e = n → e < fuel → (∀ a, (a < 181 ∨ 231 ≤ a) → N.1 a = M.1 a) → (∀ g, i ≤ g → g < n → N.1 (c_H 5 g) = M.1 (c_H 5 g)) → (∀ g, g < i → ∀ j, N.1 (c_H 5 g) j = if j = 6 ∨ j = 8 ∨ j = 9 then 0 else M.1 (c_H 5 g) j) →
      p_ok (f_X5_strip_2 fuel 5 (nI i) N) (fun X => (∀ a, (a < 181 ∨ 231 ≤ a) → X.1 a = M.1 a) ∧ ∀ g, g < n → ∀ j, X.1 (c_H 5 g) j = if j = 6 ∨ j = 8 ∨ j = 9 then 0 else M.1 (c_H 5 g) j) := by
    intro e
    induction e with
    | zero =>
      intro i fuel N h1 h2 h3 h4 h5
      obtain ⟨fuel, rfl⟩ : ∃ m, fuel = m + 1 := ⟨fuel - 1, by omega⟩
      have : i = n := by omega
      subst this
      rw [f_X5_strip_2]
      exact p_t (by rw [h3 5 (by omega), hM]; exact nI_le (Nat.le_refl _) (by omega)) (p_some ⟨h3, h5⟩)
    | succ e ih =>
      intro i fuel N h1 h2 h3 h4 h5
      obtain ⟨fuel, rfl⟩ : ∃ m, fuel = m + 1 := ⟨fuel - 1, by omega⟩
      rw [f_X5_strip_2]
      have g10 := p_ix (show i < 10 by omega) (show 10 < 2 ^ 31 by decide)
      refine p_f (by rw [h3 5 (by omega), hM]; exact nI_ge (by omega) (by omega)) (p_g g10 (p_l (p_g g10 (p_l (p_g g10 (p_l (p_l ?_)))))))
      rw [p_s1, p_cl (by omega), c_ra (k0 := 5) (by omega) (by omega)]
      refine ih (i + 1) fuel _ (by omega) (by omega) (fun a ha => by rw [p_nr (by unfold c_H; omega), p_nr (by unfold c_H; omega), p_nr (by unfold c_H; omega)]; exact h3 a ha) (fun g g1 g2 => by rw [p_nr (by unfold c_H; omega), p_nr (by unfold c_H; omega), p_nr (by unfold c_H; omega)]; exact h4 g (by omega) g2) (fun g hg j => ?_)
      by_cases z : g = i
      · subst z
        rw [p_eq, p_eq, p_eq, h4 g (by omega) (by omega)]
        repeat' split
        all_goals first | rfl | omega
      · rw [p_ne (by unfold c_H; omega), p_ne (by unfold c_H; omega), p_ne (by unfold c_H; omega)]; exact h5 g (by omega) j
  exact loop n 0 z_F M (by omega) (by unfold z_F; omega) (fun _ _ => rfl) (fun _ _ _ => rfl) (fun g hg => by omega)
def g_pr (w : Nat → Int32) (s T : Nat) : Nat → Int32
  | 0 => 0
  | g + 1 => g_pr w s T g + w_r w g 3 * q_mx 0 (e_mg (R_g w) w s T g - w_r w g 1)
theorem c_gut {K n m s T : Nat} {M : zM} {b d : Int32} (hW : s_W K (M.1 41) n m) (hC : s_C 1 M (M.1 41) n m) (hs : s < 10) (hX : t_X M (M.1 41) s T) (hb : b = 0 ∨ ∃ j, j < n ∧ d = nI j) :
    p_ok (f_X10_gutters_27 (nI s) b d M) (fun x => x.1 = (if b = 0 then g_pr (M.1 41) s T n else e_mg (R_g (M.1 41)) (M.1 41) s T (Int32.toNatClampNeg d)) ∧ t_F M x.2) := by
  have hn10 := hW.1.2.1
  unfold f_X10_gutters_27
  refine p_bx (c_imgW hW hC (t_F_rfl M)) (fun A hA => ?_)
  obtain ⟨a1, -, a2, a3, a4⟩ := hA
  refine p_bx (c_widen hn10 a2) (fun B hB => ?_)
  obtain ⟨b1, b2⟩ := hB
  refine p_bx (c_strip (n := n) hn10 (by rw [b1 5 (by omega)]; exact a2)) (fun C hC' => p_g (p_ix hs (by decide)) ?_)
  obtain ⟨c1, c2⟩ := hC'
  rw [p_cl (by omega), c_ra9]
  have cF : t_F M C := fun a ha => by rw [c1 a (by omega), b1 a (by omega)]; exact a1 a ha
  refine p_bx (c_pourT (k0 := 5) (la := 10) (R := R_g (M.1 41)) (by omega) (by omega) (t_X_fr hX cF) (by rw [c1 5 (by omega), b1 5 (by omega)]; exact a2) hn10 (by omega) (by rw [c1 5 (by omega), b1 5 (by omega)]; exact a3) (fun g hg j hj => ?_)) (fun y hy => ?_)
  · rw [c2 g hg, b2 g hg, a4 g hg j hj]
    unfold R_g
    unfold h_im at hj
    repeat' split
    all_goals first | rfl | omega
  obtain ⟨y1, y2, y3, y4⟩ := hy
  rw [t_min hn10] at y3 y4
  have yF : t_F M y.2 := fun a ha => by rw [y3 a (by unfold c_H; omega)]; exact cF a ha
  have y14 : ∀ g, g < n → y.2.1 (c_H 5 g) 14 = e_mg (R_g (M.1 41)) (M.1 41) s T g := fun g hg => (y4 g hg).1 14
  by_cases z : b = 0
  · refine p_t z ?_
    rw [if_pos z]
    have loop : ∀ e i fuel, i + e = n → e < fuel → p_ok (f_X10_widerPrice_4 fuel (g_pr (M.1 41) s T i) (nI i) y.2) (fun x => x.1 = g_pr (M.1 41) s T n ∧ t_F M x.2) := by
      intro e
      induction e with
      | zero =>
        intro i fuel h1 h2
        obtain ⟨fuel, rfl⟩ : ∃ m, fuel = m + 1 := ⟨fuel - 1, by omega⟩
        have : i = n := by omega
        subst this
        rw [f_X10_widerPrice_4]
        exact p_t (by rw [yF 3 (by omega), (c_cnt hW hC).1]; exact nI_le (Nat.le_refl _) (by omega)) (p_some ⟨rfl, yF⟩)
      | succ e ih =>
        intro i fuel h1 h2
        obtain ⟨fuel, rfl⟩ : ∃ m, fuel = m + 1 := ⟨fuel - 1, by omega⟩
        rw [f_X10_widerPrice_4]
        have g10 := p_ix (show i < 10 by omega) (show 10 < 2 ^ 31 by decide)
        refine p_f (by rw [yF 3 (by omega), (c_cnt hW hC).1]; exact nI_ge (by omega) (by omega)) (p_g g10 (p_l (p_g g10 (p_l (p_l ?_)))))
        have := ih (i + 1) fuel (by omega) (by omega)
        rw [p_s1, p_cl (by omega), c_ra6, c_ra (k0 := 5) (by omega) (by omega), yF (c_H 3 i) (by unfold c_H; omega), hC.2.2.1 i (by omega) 3 (by omega), hC.2.2.1 i (by omega) 1 (by omega), y14 i (by omega)]
        exact this
    unfold f_X10_widerPrice
    exact p_bx (loop n 0 z_F (by omega) (by unfold z_F; omega)) (fun x hx => p_some hx)
  · obtain ⟨j, hj, rfl⟩ := hb.resolve_left z
    refine p_f z (p_g (p_ix (show j < 10 by omega) (by decide)) (p_some ⟨?_, yF⟩))
    dsimp only
    rw [if_neg z, p_cl (by omega), c_ra (k0 := 5) (by omega) (by omega)]
    exact y14 j hj
