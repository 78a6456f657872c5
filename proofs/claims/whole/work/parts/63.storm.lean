theorem s_sto {K : Nat} {M N : zM} {n m m' : Nat} (h : s_I K M) (hW : s_W K (M.1 41) n m) (hC : s_C 1 M (M.1 41) n m) (hm' : m' ≤ 10)
    (r : ∀ a, a ≠ 41 → a ≠ 1 → (a < 231 ∨ 261 ≤ a) → N.1 a = M.1 a) (r1 : ∀ j, j ≠ 1 → N.1 1 j = M.1 1 j) (r1' : N.1 1 1 = nI m')
    (w1 : N.1 41 1 = nI m') (lo : ∀ j, j ≠ 1 → (j < 180 ∨ 440 ≤ j) → N.1 41 j = M.1 41 j)
    (st : ∀ t, t < m' → (∃ T, 1 ≤ T ∧ T ≤ 12 ∧ N.1 41 (180 + 26 * t) = nI T) ∧ N.1 (c_S 1 t) 0 = N.1 41 (180 + 26 * t) ∧ ∀ j, j < 12 → i_in (N.1 41 (181 + 26 * t + j)) 0 99 ∧ (N.1 41 (193 + 26 * t + j) = 0 ∨ N.1 41 (193 + 26 * t + j) = 1) ∧ N.1 (c_S 1 t + 1) j = N.1 41 (181 + 26 * t + j) ∧ N.1 (c_S 1 t + 2) j = N.1 41 (193 + 26 * t + j)) : s_I (K + 1) N := by
  obtain ⟨⟨w0, w0', w1', w1''⟩, w2, ⟨ct, c1, c2, c3⟩, w4, w5, w6⟩ := s_W_mono hW
  obtain ⟨d1, ⟨lh, lt, l1, l2, l3, l4, l5, l6⟩, d3, d4, d5⟩ := hC
  refine s_I_now (n := n) (m := m') h ⟨⟨by rw [lo 0 (by omega) (by omega)]; exact w0, w0', w1, hm'⟩, by rw [lo 2 (by omega) (by omega), lo 3 (by omega) (by omega), lo 6 (by omega) (by omega)]; exact w2, ⟨ct, c1, by rw [lo 5 (by omega) (by omega)]; exact c2, fun g hg => ?_⟩, fun g hg => ?_, fun g hg => ?_, fun t ht => ?_⟩ ⟨?_, ⟨lh, lt, ?_, ?_, by omega, l4, ?_, fun g t hg ht => ?_⟩, fun g hg q hq => ?_, fun t ht => ?_, ?_⟩ (fun i hi => ?_) (fun j hj => ?_)
  · rw [lo _ (by omega) (by omega)]; exact c3 g hg
  · rw [lo _ (by omega) (by omega), lo _ (by omega) (by omega), lo _ (by omega) (by omega), lo _ (by omega) (by omega), lo _ (by omega) (by omega), lo _ (by omega) (by omega), lo _ (by omega) (by omega), lo _ (by omega) (by omega)]; exact w4 g hg
  · show N.1 41 (20 + 16 * g + 4) = -1 ∨ ∃ e, g < e ∧ e < n ∧ N.1 41 (20 + 16 * g + 4) = nI e
    rw [lo _ (by omega) (by omega)]; exact w5 g hg
  · exact ⟨(st t ht).1, fun j hj => ⟨((st t ht).2.2 j hj).1, ((st t ht).2.2 j hj).2.1⟩⟩
  · rw [lo 0 (by omega) (by omega), w1, lo 2 (by omega) (by omega), lo 3 (by omega) (by omega), lo 4 (by omega) (by omega), lo 5 (by omega) (by omega), lo 6 (by omega) (by omega), lo 7 (by omega) (by omega), r (1 + 2) (by omega) (by omega) (by omega), r1', r1 5 (by omega), r1 4 (by omega), r1 6 (by omega), r1 7 (by omega), r1 8 (by omega)]
    exact ⟨d1.1, rfl, d1.2.2⟩
  · rw [r1 9 (by omega)]; exact l1
  · rw [r1 10 (by omega)]; exact l2
  · rw [lo 8 (by omega) (by omega), lo 9 (by omega) (by omega)]; exact l5
  · rw [r (c_H (1 + 2) g + 2) (by unfold c_H; omega) (by unfold c_H; omega) (by unfold c_H; omega), r (c_H (1 + 2) g + 3) (by unfold c_H; omega) (by unfold c_H; omega) (by unfold c_H; omega), r (c_H (1 + 2) g + 4) (by unfold c_H; omega) (by unfold c_H; omega) (by unfold c_H; omega), lo _ (by omega) (by omega), lo _ (by omega) (by omega), lo _ (by omega) (by omega)]; exact l6 g t hg ht
  · rw [lo _ (by omega) (by omega), r _ (by unfold c_H; omega) (by unfold c_H; omega) (by unfold c_H; omega)]; exact d3 g hg q hq
  · exact ⟨(st t ht).2.1, fun j hj => ((st t ht).2.2 j hj).2.2⟩
  · obtain ⟨ln, k, st, ff, mm, tt, x1, x2, x3, x4, x5, x6, x7⟩ := d5
    rw [r (1 + 12) (by omega) (by omega) (by omega), r (1 + 15) (by omega) (by omega) (by omega), r (1 + 18) (by omega) (by omega) (by omega), r (1 + 21) (by omega) (by omega) (by omega)]
    exact ⟨ln, k, st, ff, mm, tt, x1, by rw [lo _ (by omega) (by omega)]; exact x2, x3, x4, x5, fun i hi => by rw [lo _ (by omega) (by omega), lo _ (by omega) (by omega)]; exact x6 i hi, fun i hi => by rw [lo _ (by omega) (by omega), lo _ (by omega) (by omega), lo _ (by omega) (by omega)]; exact x7 i hi⟩
  · have : i ≠ 41 ∧ i ≠ 1 ∧ (i < 231 ∨ 261 ≤ i) := by unfold s_own at hi; omega
    exact r i this.1 this.2.1 this.2.2
  · rw [r 40 (by omega) (by omega) (by omega)]
theorem c_brew7 {k : Nat} {M : zM} : ∀ e i fuel (N : zM), i + e = 12 → e < fuel → (∀ a, a ≠ k + 1 → a ≠ k + 2 → N.1 a = M.1 a) → (∀ j, j < i → N.1 (k + 1) j = 0 ∧ N.1 (k + 2) j = 0) →
    p_ok (f_X7_brew_7 fuel k (nI i) N) (fun X => (∀ a, a ≠ k + 1 → a ≠ k + 2 → X.1 a = M.1 a) ∧ ∀ j, j < 12 → X.1 (k + 1) j = 0 ∧ X.1 (k + 2) j = 0) := by
  intro e
  induction e with
  | zero =>
    intro i fuel N h1 h2 h3 h4
    obtain ⟨fuel, rfl⟩ : ∃ m, fuel = m + 1 := ⟨fuel - 1, by omega⟩
    have : i = 12 := by omega
    subst this
    rw [f_X7_brew_7]
    exact p_t (by decide) (p_some ⟨h3, h4⟩)
  | succ e ih =>
    intro i fuel N h1 h2 h3 h4
    obtain ⟨fuel, rfl⟩ : ∃ m, fuel = m + 1 := ⟨fuel - 1, by omega⟩
    rw [f_X7_brew_7]
    refine p_f (nI_ge (a := i) (b := 12) (by omega) (by omega)) ?_
    refine p_g (p_ix (show i < 12 by omega) (by decide)) (p_l (p_g (p_ix (show i < 12 by omega) (by decide)) (p_l (p_l ?_))))
    rw [p_s1, p_cl (by omega), b_n0]
    refine ih (i + 1) fuel _ (by omega) (by omega) (fun a a1 a2 => by rw [p_nr a2, p_nr a1]; exact h3 a a1 a2) (fun j hj => ?_)
    rw [p_ne (by omega), p_eq, p_eq, p_ne (by omega)]
    by_cases z : j = i
    · rw [if_pos z, if_pos z]; exact ⟨rfl, rfl⟩
    · rw [if_neg z, if_neg z]; exact h4 j (by omega)
theorem m_s39 {a : Int32} {m : Nat} {M : zM} (hm : m < 10) (hM : M.1 41 1 = nI m) : ∀ e i fuel (N : zM), i + e = 26 → e < fuel → (∀ k, k ≠ 41 → N.1 k = M.1 k) → (∀ j, N.1 41 j = if 180 + 26 * m ≤ j ∧ j < 180 + 26 * m + i then 0 else M.1 41 j) →
    p_ok (f_X11_storm_39 fuel a (nI (180 + 26 * m)) (nI i) N) (fun x => x.1 = nI m ∧ (∀ k, k ≠ 41 → x.2.1 k = M.1 k) ∧ ∀ j, x.2.1 41 j = if j = 1 then nI (m + 1) else if j = 180 + 26 * m then a else if 180 + 26 * m ≤ j ∧ j < 206 + 26 * m then 0 else M.1 41 j) := by
  intro e
  induction e with
  | zero =>
    intro i fuel N h1 h2 h3 h4
    obtain ⟨fuel, rfl⟩ : ∃ m, fuel = m + 1 := ⟨fuel - 1, by omega⟩
    have : i = 26 := by omega
    subst this
    rw [f_X11_storm_39]
    refine p_t (by decide) (p_g (p_ix (show 180 + 26 * m < 1700 by omega) (by decide)) (p_lx (fun A hA => p_lx (fun B hB => p_some ?_))))
    rw [p_cl (by omega)] at hA
    rw [show Int32.toNatClampNeg (1 : Int32) = 1 from rfl, hA, p_eq, if_neg (by omega), h4, if_neg (by omega), hM, p_s1] at hB
    dsimp only
    rw [show Int32.toNatClampNeg (1 : Int32) = 1 from rfl, hB, p_eq, if_pos rfl]
    refine ⟨nI_pred m, fun k hk => by rw [p_nr hk, p_nr hk]; exact h3 k hk, fun j => ?_⟩
    rw [p_eq, p_eq, h4]
    repeat' split
    all_goals first | rfl | omega
  | succ e ih =>
    intro i fuel N h1 h2 h3 h4
    obtain ⟨fuel, rfl⟩ : ∃ m, fuel = m + 1 := ⟨fuel - 1, by omega⟩
    rw [f_X11_storm_39]
    refine p_f (nI_ge (a := i) (b := 26) (by omega) (by omega)) ?_
    rw [n_ad]
    refine p_g (p_ix (show 180 + 26 * m + i < 1700 by omega) (by decide)) (p_l (p_l ?_))
    rw [p_s1, p_cl (by omega)]
    refine ih (i + 1) fuel _ (by omega) (by omega) (fun k hk => by rw [p_nr hk]; exact h3 k hk) (fun j => ?_)
    rw [p_eq, h4]
    repeat' split
    all_goals first | rfl | omega
/-- storm -/
theorem p_storm {K : Nat} {M : zM} {a : Int32} (h : s_I K M) : p_2 K (f_X10_storm a M) (f_X11_storm a) := by
  obtain ⟨n, m, hW, hC⟩ := h.1
  obtain ⟨hn, hm⟩ := c_cnt hW hC
  have hm10 := hW.1.2.2.2
  have hw1 := hW.1.2.2.1
  have z1 : Int32.toNatClampNeg (1 : Int32) = 1 := rfl
  by_cases ca : ¬ a < (1 : Int32) ∧ ¬ (12 : Int32) < a
  case neg =>
    refine p_same (v := -1) h ?_ ?_
    · unfold f_X10_storm
      rw [c_w, if_neg ca]
      split <;> rfl
    · unfold f_X11_storm
      rw [m_w, if_neg ca]; rfl
  have hmr : ∀ N : zM, N.1 41 1 = nI m → f_X11_storm a N = if m = 10 then some (-1, N) else f_X11_storm_39 z_F a (nI (180 + 26 * m)) (nI 0) N := fun N e => by
    unfold f_X11_storm
    rw [m_w, if_pos ca, Option.bind_some, if_neg b_1z]
    dsimp only
    by_cases z : m = 10
    · rw [if_pos z, if_pos (by rw [z1, e, z]; rfl)]
    · rw [if_neg z, if_neg (by rw [z1, e]; exact b_ne (by omega) (by decide) z), z1, e, show (26 : Int32) = nI 26 from rfl, n_mu, show (180 : Int32) = nI 180 from rfl, n_ad]; rfl
  unfold f_X10_storm
  rw [hm]
  by_cases z : m = 10
  · subst z
    rw [if_pos (by decide)]
    exact p_same h rfl (by rw [hmr M hw1, if_pos rfl])
  rw [if_neg (show ¬ (10 : Int32) ≤ nI m from nI_ge (b := 10) (by omega) (by omega)), c_w, if_pos ca, Option.bind_some, if_neg b_1z]
  dsimp only
  rw [hm]
  refine p_l (p_g (p_ix (show m < 10 by omega) (by decide)) ?_)
  rw [p_cl (by omega), c_ra9]
  unfold f_X7_brew z_l
  refine p_bx (c_brew7 (M := z_w M (c_S 1 m) 0 a) 12 0 z_F _ rfl (by unfold z_F; omega) (fun _ _ _ => rfl) (fun j hj => by omega)) (fun X hX => p_some ?_)
  dsimp only
  obtain ⟨x1, x2⟩ := hX
  have e41 : ∀ j, (z_w X 1 1 (nI m + 1)).1 41 j = M.1 41 j := fun j => by rw [p_ne (by decide), x1 41 (by unfold c_S; omega) (by unfold c_S; omega), p_ne (by unfold c_S; omega)]
  rw [hmr _ (by rw [e41]; exact hw1), if_neg z]
  refine p_w (m_s39 (M := z_w X 1 1 (nI m + 1)) (by omega) (by rw [e41]; exact hw1) 26 0 z_F _ rfl (by unfold z_F; omega) (fun _ _ => rfl) (fun j => by rw [if_neg (by omega)])) ?_
  rintro ⟨v, N⟩ ⟨n1, n2, n3⟩
  dsimp only at n1 n2 n3 ⊢
  refine ⟨n1.symm, ?_⟩
  rw [p_s1] at n2
  have y0 : ∀ i, i ≠ 41 → i ≠ 1 → i ≠ c_S 1 m + 1 → i ≠ c_S 1 m + 2 → i ≠ c_S 1 m → N.1 i = M.1 i := fun i i1 i2 i3 i4 i5 => by rw [n2 i i1, p_nr i2, x1 i i3 i4, p_nr i5]
  have y1 : ∀ j, N.1 1 j = if j = 1 then nI (m + 1) else M.1 1 j := fun j => by rw [n2 1 (by decide), p_eq, x1 1 (by unfold c_S; omega) (by unfold c_S; omega), p_ne (by unfold c_S; omega)]
  have ym : N.1 (c_S 1 m) 0 = a := by rw [n2 _ (by unfold c_S; omega), p_ne (by unfold c_S; omega), x1 _ (by omega) (by omega), p_eq, if_pos rfl]
  have y2 : ∀ j, j < 12 → N.1 (c_S 1 m + 1) j = 0 ∧ N.1 (c_S 1 m + 2) j = 0 := fun j hj => by
    rw [n2 _ (by unfold c_S; omega), p_ne (by unfold c_S; omega), n2 _ (by unfold c_S; omega), p_ne (by unfold c_S; omega)]; exact x2 j hj
  have lo : ∀ j, j ≠ 1 → (j < 180 + 26 * m ∨ 206 + 26 * m ≤ j) → N.1 41 j = M.1 41 j := fun j j0 hj => by rw [n3, if_neg j0, if_neg (by omega), if_neg (by omega), e41]
  refine s_sto (m' := m + 1) h hW hC (by omega) (fun i i1 i2 i3 => y0 i i1 i2 (by unfold c_S; omega) (by unfold c_S; omega) (by unfold c_S; omega)) (fun j hj => by rw [y1, if_neg hj]) (by rw [y1, if_pos rfl]) (by rw [n3, if_pos rfl]) (fun j j1 j2 => lo j j1 (by omega)) (fun t ht => ?_)
  by_cases y : t = m
  · subst y
    obtain ⟨T, T1, T2, rfl⟩ := i_num (a := 1) (b := 12) (by decide) (by decide) ca
    have e0 : N.1 41 (180 + 26 * t) = nI T := by rw [n3, if_neg (by omega), if_pos rfl]
    refine ⟨⟨T, T1, T2, e0⟩, by rw [e0, ym], fun j hj => ?_⟩
    have e1 : N.1 41 (181 + 26 * t + j) = 0 := by rw [n3, if_neg (by omega), if_neg (by omega), if_pos (by omega)]
    have e2 : N.1 41 (193 + 26 * t + j) = 0 := by rw [n3, if_neg (by omega), if_neg (by omega), if_pos (by omega)]
    rw [e1, e2]
    exact ⟨i_inn (j := 0) (by decide) (by omega) (by omega), Or.inl rfl, (y2 j hj).1, (y2 j hj).2⟩
  · obtain ⟨s1, s2⟩ := hC.2.2.2.1 t (by omega)
    obtain ⟨t1, t2⟩ := hW.2.2.2.2.2 t (by omega)
    rw [lo (180 + 26 * t) (by omega) (by omega), y0 (c_S 1 t) (by unfold c_S; omega) (by unfold c_S; omega) (by unfold c_S; omega) (by unfold c_S; omega) (by unfold c_S; omega), y0 (c_S 1 t + 1) (by unfold c_S; omega) (by unfold c_S; omega) (by unfold c_S; omega) (by unfold c_S; omega) (by unfold c_S; omega), y0 (c_S 1 t + 2) (by unfold c_S; omega) (by unfold c_S; omega) (by unfold c_S; omega) (by unfold c_S; omega) (by unfold c_S; omega)]
    refine ⟨t1, s1, fun j hj => ?_⟩
    rw [lo _ (by omega) (by omega), lo _ (by omega) (by omega)]
    exact ⟨(t2 j hj).1, (t2 j hj).2, (s2 j hj).1, (s2 j hj).2⟩
/-- fall -/
theorem p_fall {K : Nat} {M : zM} {a b c d : Int32} (h : s_I K M) (hd : d = 0 ∨ d = 1) : p_2 K (f_X10_fall a b c d M) (f_X11_fall a b c d) := by
  obtain ⟨n, m, hW, hC⟩ := h.1
  obtain ⟨hn, hm⟩ := c_cnt hW hC
  have hm10 := hW.1.2.2.2
  have hw1 := hW.1.2.2.1
  by_cases ca : ¬ a < 0 ∧ ¬ (nI m - 1) < a
  case neg =>
    refine p_same (v := 0) h ?_ ?_
    · unfold f_X10_fall
      rw [c_isS, hm, if_neg ca]; rfl
    · unfold f_X11_fall
      rw [m_isS, hw1, if_neg ca]; rfl
  obtain ⟨s, hs, rfl⟩ := i_nat (by omega) ca.1 ca.2
  obtain ⟨s1, s2⟩ := hC.2.2.2.1 s hs
  obtain ⟨⟨T, T1, T2, T3⟩, t2⟩ := hW.2.2.2.2.2 s hs
  by_cases cc : ¬ c < (0 : Int32) ∧ ¬ (99 : Int32) < c
  case neg =>
    refine p_same (v := 0) h ?_ ?_
    · unfold f_X10_fall
      rw [c_isS, hm, if_pos ca, Option.bind_some, if_neg b_1z]
      dsimp only
      rw [c_w, if_neg cc]; rfl
    · unfold f_X11_fall
      rw [m_isS, hw1, if_pos ca, Option.bind_some, if_neg b_1z]
      dsimp only
      rw [m_hours (by omega), Option.bind_some]
      dsimp only
      rw [m_w, Option.bind_some]
      dsimp only
      rw [m_w, if_neg cc]
      split <;> rfl
  by_cases cb : ¬ b < 0 ∧ ¬ (nI T - 1) < b
  case neg =>
    refine p_same (v := 0) h ?_ ?_
    · unfold f_X10_fall z_g z_l
      rw [c_isS, hm, if_pos ca, Option.bind_some, if_neg b_1z]
      dsimp only
      rw [c_w, if_pos cc, Option.bind_some, if_neg b_1z, if_pos (p_ix (show s < 10 by omega) (by decide)), p_cl (by omega), c_ra9]
      dsimp only
      rw [c_w, s1, T3, if_neg cb]; rfl
    · unfold f_X11_fall
      rw [m_isS, hw1, if_pos ca, Option.bind_some, if_neg b_1z]
      dsimp only
      rw [m_hours (by omega), Option.bind_some]
      dsimp only
      rw [m_w, T3, if_neg cb]; rfl
  obtain ⟨t, ht, rfl⟩ := i_nat (by omega) cb.1 cb.2
  unfold f_X10_fall
  rw [c_isS, hm, if_pos ca, Option.bind_some, if_neg b_1z]
  dsimp only
  rw [c_w, if_pos cc, Option.bind_some, if_neg b_1z]
  dsimp only
  refine p_g (p_ix (show s < 10 by omega) (by decide)) (p_l ?_)
  rw [p_cl (by omega), c_ra9, c_w, s1, T3, if_pos cb, Option.bind_some, if_neg b_1z]
  refine p_g (p_ix (show t < 12 by omega) (by decide)) (p_l (p_g (p_ix (show t < 12 by omega) (by decide)) (p_lx (fun Y hY => p_some ?_))))
  rw [p_cl (by omega), show vp_nar .boolean d = d by rcases hd with rfl | rfl <;> decide] at hY
  dsimp only at hY ⊢
  have y41 : Y.1 41 = M.1 41 := by rw [hY, p_nr (by unfold c_S; omega), p_nr (by unfold c_S; omega)]
  have hmr : p_ok (f_X11_fall (nI s) (nI t) c d Y) (fun x => x = (1, z_w (z_w Y 41 (181 + 26 * s + t) c) 41 (193 + 26 * s + t) d)) := by
    unfold f_X11_fall
    rw [m_isS, y41, hw1, if_pos ca, Option.bind_some, if_neg b_1z]
    dsimp only
    rw [m_hours (by omega), Option.bind_some]
    dsimp only
    rw [m_w, y41, T3, if_pos cb, Option.bind_some, if_neg b_1z]
    dsimp only
    rw [m_w, if_pos cc, Option.bind_some, if_neg b_1z]
    dsimp only
    rw [show (26 : Int32) = nI 26 from rfl, n_mu, show (180 : Int32) = nI 180 from rfl, n_ad, show nI (180 + 26 * s) + (1 : Int32) = nI (180 + 26 * s + 1) from n_ad _ 1, n_ad, show (13 : Int32) = nI 13 from rfl, n_ad, n_ad]
    refine p_g (p_ix (show 180 + 26 * s + 1 + t < 1700 by omega) (by decide)) (p_l ?_)
    rcases hd with rfl | rfl
    · refine p_t rfl (p_g (p_ix (show 180 + 26 * s + 13 + t < 1700 by omega) (by decide)) (p_l (p_some ?_)))
      rw [p_cl (t := 180 + 26 * s + 1 + t) (by omega), p_cl (t := 180 + 26 * s + 13 + t) (by omega), show 180 + 26 * s + 1 + t = 181 + 26 * s + t by omega, show 180 + 26 * s + 13 + t = 193 + 26 * s + t by omega]
    · refine p_f b_1z (p_g (p_ix (show 180 + 26 * s + 13 + t < 1700 by omega) (by decide)) (p_l (p_some ?_)))
      rw [p_cl (t := 180 + 26 * s + 1 + t) (by omega), p_cl (t := 180 + 26 * s + 13 + t) (by omega), show 180 + 26 * s + 1 + t = 181 + 26 * s + t by omega, show 180 + 26 * s + 13 + t = 193 + 26 * s + t by omega]
  obtain ⟨-, hmr, rfl⟩ := hmr
  refine ⟨_, hmr, rfl, ?_⟩
  have e41 : ∀ j, (z_w (z_w Y 41 (181 + 26 * s + t) c) 41 (193 + 26 * s + t) d).1 41 j = if j = 193 + 26 * s + t then d else if j = 181 + 26 * s + t then c else M.1 41 j := fun j => by rw [p_eq, p_eq, y41]
  have ro : ∀ i, i ≠ 41 → i ≠ c_S 1 s + 1 → i ≠ c_S 1 s + 2 → (z_w (z_w Y 41 (181 + 26 * s + t) c) 41 (193 + 26 * s + t) d).1 i = M.1 i := fun i i1 i2 i3 => by rw [p_nr i1, p_nr i1, hY, p_nr i3, p_nr i2]
  have f1 : ∀ j, (z_w (z_w Y 41 (181 + 26 * s + t) c) 41 (193 + 26 * s + t) d).1 (c_S 1 s + 1) j = if j = t then c else M.1 (c_S 1 s + 1) j := fun j => by rw [p_ne (by unfold c_S; omega), p_ne (by unfold c_S; omega), hY, p_ne (by omega), p_eq]
  have f2 : ∀ j, (z_w (z_w Y 41 (181 + 26 * s + t) c) 41 (193 + 26 * s + t) d).1 (c_S 1 s + 2) j = if j = t then d else M.1 (c_S 1 s + 2) j := fun j => by rw [p_ne (by unfold c_S; omega), p_ne (by unfold c_S; omega), hY, p_eq, p_ne (by omega)]
  refine s_sto (m' := m) h hW hC hm10 (fun i i1 i2 i3 => ro i i1 (by unfold c_S; omega) (by unfold c_S; omega)) (fun j hj => by rw [ro 1 (by decide) (by unfold c_S; omega) (by unfold c_S; omega)]) (by rw [ro 1 (by decide) (by unfold c_S; omega) (by unfold c_S; omega)]; exact hm) (by rw [e41, if_neg (by omega), if_neg (by omega)]; exact hw1) (fun j j1 j2 => by rw [e41, if_neg (by omega), if_neg (by omega)]) (fun q hq => ?_)
  obtain ⟨s1', s2'⟩ := hC.2.2.2.1 q hq
  obtain ⟨t1', t2'⟩ := hW.2.2.2.2.2 q hq
  rw [e41 (180 + 26 * q), if_neg (by omega), if_neg (by omega), ro (c_S 1 q) (by unfold c_S; omega) (by unfold c_S; omega) (by unfold c_S; omega)]
  refine ⟨t1', s1', fun j hj => ?_⟩
  rw [e41, e41, if_neg (show ¬ 181 + 26 * q + j = 193 + 26 * s + t by omega), if_neg (show ¬ 193 + 26 * q + j = 181 + 26 * s + t by omega)]
  by_cases y : q = s
  · subst y
    rw [f1, f2]
    by_cases x : j = t
    · subst x
      rw [if_pos rfl, if_pos rfl, if_pos rfl, if_pos rfl]
      exact ⟨i_win (a := 0) (b := 99) (by decide) (by decide) cc, hd, rfl, rfl⟩
    · rw [if_neg x, if_neg x, if_neg (by omega), if_neg (by omega)]
      exact ⟨(t2' j hj).1, (t2' j hj).2, (s2' j hj).1, (s2' j hj).2⟩
  · rw [if_neg (by omega), if_neg (by omega), ro (c_S 1 q + 1) (by unfold c_S; omega) (by unfold c_S; omega) (by unfold c_S; omega), ro (c_S 1 q + 2) (by unfold c_S; omega) (by unfold c_S; omega) (by unfold c_S; omega)]
    exact ⟨(t2' j hj).1, (t2' j hj).2, (s2' j hj).1, (s2' j hj).2⟩
