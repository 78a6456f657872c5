section GV
variable {K n m s T : Nat} {w : Nat → Int32} {X : zM} {b : Int32}
theorem g_310 (hW : s_W K w n m) (hw : X.1 41 = w) {N : zM} (hF : r_F X N) (hmu : ∀ g, g < n → N.1 62 g = g_mg w s g T) : ∀ e i fuel, i + e = n → e < fuel → p_ok (f_X11_gutters_310 fuel (nI n) (g_pr w s T i) (nI i) N) (fun x => x.1 = g_pr w s T n ∧ r_F X x.2) := by
  have hn10 := hW.1.2.1
  intro e
  induction e with
  | zero =>
    intro i fuel h1 h2
    obtain ⟨fuel, rfl⟩ : ∃ m, fuel = m + 1 := ⟨fuel - 1, by omega⟩
    have : i = n := by omega
    subst this
    rw [f_X11_gutters_310]
    exact p_t (nI_le (Nat.le_refl _) (by omega)) (p_some ⟨rfl, hF⟩)
  | succ e ih =>
    intro i fuel h1 h2
    obtain ⟨fuel, rfl⟩ : ∃ m, fuel = m + 1 := ⟨fuel - 1, by omega⟩
    rw [f_X11_gutters_310]
    refine p_f (nI_ge (by omega) (by omega)) (p_g (p_ix (show i < 10 by omega) (by decide)) ?_)
    rw [show f_X11_own (nI i) (1 : Int32) N = _ from m_own (f := 1) (by omega) (by omega), Option.bind_some]
    dsimp only
    rw [m_most, Option.bind_some]
    dsimp only
    rw [show f_X11_own (nI i) (3 : Int32) N = _ from m_own (f := 3) (by omega) (by omega), Option.bind_some]
    refine p_l (p_l ?_)
    rw [p_s1, p_cl (by omega), hmu i (by omega), hF.1 41 (by omega), hw, Int32.mul_comm]
    exact ih (i + 1) fuel (by omega) (by omega)
/-- what gutters asks for, on both sides -/
def g_ans (w : Nat → Int32) (s T n : Nat) (b : Int32) : Int32 := if b = 0 then g_pr w s T n else e_mg (R_g w) w s T (Int32.toNatClampNeg (b - 10))
theorem g_73 (hW : s_W K w n m) (hw : X.1 41 = w) (hs : s < m) (hT3 : w (180 + 26 * s) = nI T) (hT : T ≤ 12) (hsn : ∀ t, t < T → e_s w s t = 0 ∨ e_s w s t = 1) (hb : b = 0 ∨ ∃ j, j < n ∧ b = nI (10 + j)) : ∀ e t fuel (N : zM), t + e = T → e < fuel → g_Q X w s n t 0 N → p_ok (f_X11_gutters_73 fuel (nI s) b (nI n) (nI t) N) (fun x => x.1 = g_ans w s T n b ∧ r_F X x.2) := by
  have hn10 := hW.1.2.1
  have hm10 := hW.1.2.2.2
  intro e
  induction e with
  | zero =>
    intro t fuel N h1 h2 hQ
    obtain ⟨fuel, rfl⟩ : ∃ m, fuel = m + 1 := ⟨fuel - 1, by omega⟩
    have : t = T := by omega
    subst this
    have n41 : N.1 41 = w := by rw [hQ.1.1 41 (by omega), hw]
    have hmu : ∀ g, g < n → N.1 62 g = g_mg w s g t := fun g hg => by
      have := (hQ.2 g hg).2
      rw [if_neg (by omega)] at this
      exact this
    rw [f_X11_gutters_73, m_hours (by omega), Option.bind_some, n41, hT3]
    refine p_t (nI_le (Nat.le_refl _) (by omega)) ?_
    unfold g_ans
    by_cases z : b = 0
    · refine p_t (by rw [z]; decide) ?_
      rw [if_pos z]
      exact g_310 hW hw hQ.1 hmu n 0 z_F (by omega) (by unfold z_F; omega)
    · obtain ⟨j, hj, rfl⟩ := hb.resolve_left z
      refine p_f (fun q => ?_) ?_
      · rw [Int32.le_iff_toInt_le, nI_toInt (by omega), i_z] at q
        omega
      rw [if_neg z, i_s10]
      refine p_g (p_ix (show j < 10 by omega) (by decide)) (p_some ⟨?_, hQ.1⟩)
      dsimp only
      rw [p_cl (by omega)]
      exact hmu j hj
  | succ e ih =>
    intro t fuel N h1 h2 hQ
    obtain ⟨fuel, rfl⟩ : ∃ m, fuel = m + 1 := ⟨fuel - 1, by omega⟩
    have n41 : N.1 41 = w := by rw [hQ.1.1 41 (by omega), hw]
    rw [f_X11_gutters_73, m_hours (by omega), Option.bind_some, n41, hT3]
    refine p_f (nI_ge (by omega) (by omega)) ?_
    dsimp only
    have loop : ∀ e i f2 (A : zM), i + e = n → e < f2 → g_Q X w s n t 0 A → (∀ g, g < i → A.1 57 g = 0) → p_ok (f_X11_gutters_86 (f_X11_gutters_73 fuel) f2 (nI s) b (nI n) (nI t) (nI i) A) (fun x => x.1 = g_ans w s T n b ∧ r_F X x.2) := by
      intro e
      induction e with
      | zero =>
        intro i f2 A k1 k2 aQ a0
        obtain ⟨f2, rfl⟩ : ∃ m, f2 = m + 1 := ⟨f2 - 1, by omega⟩
        have : i = n := by omega
        subst this
        rw [f_X11_gutters_86]
        refine p_t (nI_le (Nat.le_refl _) (by omega)) ?_
        exact g_109 hW hw hs hT hsn (by omega) (fun N' q => ih (t + 1) fuel N' (by omega) (by omega) q) i 0 z_F A (by omega) (by unfold z_F; omega) aQ (fun g _ hg => a0 g hg)
      | succ e ih2 =>
        intro i f2 A k1 k2 aQ a0
        obtain ⟨f2, rfl⟩ : ∃ m, f2 = m + 1 := ⟨f2 - 1, by omega⟩
        rw [f_X11_gutters_86]
        refine p_f (nI_ge (by omega) (by omega)) (p_g (p_ix (show i < 11 by omega) (by decide)) (p_l (p_l ?_)))
        rw [p_s1, p_cl (by omega)]
        refine ih2 (i + 1) f2 _ (by omega) (by omega) ⟨r_F_tr aQ.1 ⟨fun a ha => by rw [p_nr (by omega)], fun j _ _ _ _ _ => by rw [p_ne (by omega)]⟩, fun g hg => by rw [p_ne (by decide), p_ne (by decide)]; exact aQ.2 g hg⟩ (fun g hg => ?_)
        rw [p_eq]
        by_cases z : g = i
        · rw [if_pos z]
        · rw [if_neg z]; exact a0 g (by omega)
    exact loop n 0 z_F N (by omega) (by unfold z_F; omega) hQ (fun g hg => by omega)
theorem g_42 (hW : s_W K w n m) (hw : X.1 41 = w) (hs : s < m) (hT3 : w (180 + 26 * s) = nI T) (hT : T ≤ 12) (hsn : ∀ t, t < T → e_s w s t = 0 ∨ e_s w s t = 1) (hb : b = 0 ∨ ∃ j, j < n ∧ b = nI (10 + j)) : ∀ e i fuel (N : zM), i + e = n → e < fuel → r_F X N → (∀ g, g < i → N.1 55 g = 0 ∧ N.1 62 g = 0) → p_ok (f_X11_gutters_42 fuel (nI s) b (nI n) (nI i) N) (fun x => x.1 = g_ans w s T n b ∧ r_F X x.2) := by
  have hn10 := hW.1.2.1
  intro e
  induction e with
  | zero =>
    intro i fuel N h1 h2 hF h0
    obtain ⟨fuel, rfl⟩ : ∃ m, fuel = m + 1 := ⟨fuel - 1, by omega⟩
    have : i = n := by omega
    subst this
    rw [f_X11_gutters_42]
    refine p_t (nI_le (Nat.le_refl _) (by omega)) ?_
    exact g_73 hW hw hs hT3 hT hsn hb T 0 z_F N (by omega) (by unfold z_F; omega) ⟨hF, fun g hg => by rw [if_neg (by omega)]; exact h0 g hg⟩
  | succ e ih =>
    intro i fuel N h1 h2 hF h0
    obtain ⟨fuel, rfl⟩ : ∃ m, fuel = m + 1 := ⟨fuel - 1, by omega⟩
    rw [f_X11_gutters_42]
    refine p_f (nI_ge (by omega) (by omega)) (p_g (p_ix (show i < 10 by omega) (by decide)) (p_l (p_g (p_ix (show i < 11 by omega) (by decide)) (p_l (p_l ?_)))))
    rw [p_s1, p_cl (by omega)]
    refine ih (i + 1) fuel _ (by omega) (by omega) (r_F_tr hF ⟨fun a ha => by rw [p_nr (by omega), p_nr (by omega)], fun j _ _ _ _ _ => by rw [p_ne (by omega), p_ne (by omega)]⟩) (fun g hg => ?_)
    rw [p_eq, p_ne (by decide), p_ne (by decide), p_eq]
    by_cases z : g = i
    · rw [if_pos z, if_pos z]; exact ⟨rfl, rfl⟩
    · rw [if_neg z, if_neg z]; exact h0 g (by omega)
end GV
/-- gutters -/
theorem p_gutters {K : Nat} {M : zM} {a b : Int32} (h : s_I K M) : p_2 K (f_X10_gutters a b M) (f_X11_gutters a b) := by
  obtain ⟨n, m, hW, hC⟩ := h.1
  have hn10 := hW.1.2.1
  have hn := (c_cnt hW hC).1
  have hw0 := hW.1.1
  have z0 : Int32.toNatClampNeg (0 : Int32) = 0 := rfl
  rcases t_st (a := a) hW hC with ⟨c1, c2⟩ | ⟨s, hs, hs10, rfl, c1, c2⟩
  · refine p_same (v := -1) h ?_ ?_
    · unfold f_X10_gutters z_l; rw [c1]; rfl
    · unfold f_X11_gutters; rw [c2 M rfl]; rfl
  obtain ⟨T, T1, T2, T3, hX, hsn⟩ := t_X_of hW hC (t_F_rfl M) hs
  have main : (b = 0 ∨ ∃ j, j < n ∧ b = nI (10 + j)) → f_X10_gutters (nI s) b M = f_X10_gutters_27 (nI s) b (b - 10) M → (∀ N : zM, N.1 41 = M.1 41 → f_X11_gutters (nI s) b N = f_X11_gutters_42 z_F (nI s) b (nI n) (nI 0) N) → p_2 K (f_X10_gutters (nI s) b M) (f_X11_gutters (nI s) b) := fun hb e1 e2 => by
    rw [e1]
    refine p_w (c_gut hW hC hs10 hX (hb.imp id (fun ⟨j, hj, e⟩ => ⟨j, hj, by rw [e, i_s10]⟩))) ?_
    rintro ⟨v, Y⟩ ⟨y1, y2⟩
    dsimp only at y1 y2 ⊢
    have e41 : Y.1 41 = M.1 41 := y2 41 (by omega)
    rw [e2 Y e41]
    refine p_w (g_42 hW e41 hs T3 T2 hsn hb n 0 z_F Y (by omega) (by unfold z_F; omega) (r_F_rfl Y) (fun g hg => by omega)) ?_
    rintro x ⟨x1, x2⟩
    exact ⟨by rw [y1, x1]; rfl, s_I_th h y2 x2⟩
  by_cases zb : b = 0
  · refine main (Or.inl zb) ?_ (fun N e => ?_)
    · unfold f_X10_gutters z_l
      dsimp only
      rw [c1 M rfl, Option.bind_some, if_neg b_1z, if_pos zb]
    · unfold f_X11_gutters z_l
      rw [c2 N e, Option.bind_some, if_neg b_1z, if_pos zb]
      dsimp only
      rw [z0, e, hw0]; rfl
  · by_cases cb : ¬ (b - 10) < 0 ∧ ¬ (nI n - 1) < (b - 10)
    · obtain ⟨j, hj, ej⟩ := i_nat (by omega) cb.1 cb.2
      have eb : b = nI (10 + j) := by
        have : b = b - 10 + 10 := (Int32.sub_add_cancel b 10).symm
        rw [this, ej, show (10 : Int32) = nI 10 from rfl, n_ad, Nat.add_comm]
      refine main (Or.inr ⟨j, hj, eb⟩) ?_ (fun N e => ?_)
      · unfold f_X10_gutters z_l
        dsimp only
        rw [c1 M rfl, Option.bind_some, if_neg b_1z, if_neg zb]
        dsimp only
        rw [c_isH, hn, if_pos cb, Option.bind_some, if_neg b_1z]
      · unfold f_X11_gutters z_l
        rw [c2 N e, Option.bind_some, if_neg b_1z, if_neg zb]
        dsimp only
        rw [z0, e, hw0, show (9 : Int32) + nI n = nI (9 + n) from n_ad 9 n, eb, show (10 : Int32) = nI 10 from rfl, m_wi N (by decide) (by omega) (by omega), if_pos (by omega), Option.bind_some, if_neg b_1z]
        dsimp only
        rw [e, hw0]; rfl
    · refine p_same (v := -1) h ?_ ?_
      · unfold f_X10_gutters z_l
        dsimp only
        rw [c1 M rfl, Option.bind_some, if_neg b_1z, if_neg zb]
        dsimp only
        rw [c_isH, hn, if_neg cb]; rfl
      · unfold f_X11_gutters z_l
        rw [c2 M rfl, Option.bind_some, if_neg b_1z, if_neg zb]
        dsimp only
        rw [z0, hw0, show (9 : Int32) + nI n = nI (9 + n) from n_ad 9 n, m_w, if_neg]
        · rfl
        · intro q
          obtain ⟨j', hj', hj, ej⟩ := i_num (a := 10) (b := 9 + n) (by decide) (by omega) q
          obtain ⟨j, rfl⟩ : ∃ j, j' = 10 + j := ⟨j' - 10, by omega⟩
          refine cb ?_
          rw [ej, i_s10]
          exact i_rng (by omega) (by omega)
