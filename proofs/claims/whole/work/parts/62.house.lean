theorem i_win {x : Int32} {a b : Nat} (ha : a < 2 ^ 31) (hb : b < 2 ^ 31) (h : ¬ x < nI a ∧ ¬ nI b < x) : i_in x a b := by
  rw [Int32.lt_iff_toInt_lt, Int32.lt_iff_toInt_lt, nI_toInt ha, nI_toInt hb] at h
  exact ⟨by omega, by omega⟩
def h_new (a b c d : Int32) (j : Nat) : Int32 := if j = 0 then a else if j = 1 then b else if j = 2 then c else if j = 3 then d else if j = 4 then -1 else 0
theorem c_build {k : Nat} {a b c d : Int32} {M : zM} : p_ok (f_X2_build k a b c d M) (fun X => (∀ i, i ≠ k → X.1 i = M.1 i) ∧ ∀ j, j < 14 → X.1 k j = h_new a b c d j) := by
  refine ⟨_, rfl, fun i hi => ?_, fun j hj => ?_⟩
  · iterate 14 (rw [p_nr hi])
  · have : j = 0 ∨ j = 1 ∨ j = 2 ∨ j = 3 ∨ j = 4 ∨ j = 5 ∨ j = 6 ∨ j = 7 ∨ j = 8 ∨ j = 9 ∨ j = 10 ∨ j = 11 ∨ j = 12 ∨ j = 13 := by omega
    rcases this with rfl | rfl | rfl | rfl | rfl | rfl | rfl | rfl | rfl | rfl | rfl | rfl | rfl | rfl <;> (simp only [p_eq]; rfl)
theorem m_h66 {n : Nat} {a b c d : Int32} {M : zM} (hn : n < 10) : ∀ e i fuel (N : zM), i + e = 16 → e < fuel → (∀ k, k ≠ 41 → N.1 k = M.1 k) → (∀ j, N.1 41 j = if 20 + 16 * n ≤ j ∧ j < 20 + 16 * n + i then 0 else M.1 41 j) →
    p_ok (f_X11_house_66 fuel a b c d (nI n) (nI i) N) (fun x => x.1 = nI n ∧ (∀ k, k ≠ 41 → x.2.1 k = M.1 k) ∧ ∀ j, x.2.1 41 j = if j = 0 then M.1 41 0 + 1 else if 20 + 16 * n ≤ j ∧ j < 36 + 16 * n then h_new a b c d (j - (20 + 16 * n)) else M.1 41 j) := by
  intro e
  induction e with
  | zero =>
    intro i fuel N h1 h2 h3 h4
    obtain ⟨fuel, rfl⟩ : ∃ m, fuel = m + 1 := ⟨fuel - 1, by omega⟩
    have : i = 16 := by omega
    subst this
    rw [f_X11_house_66]
    refine p_t (by decide) ?_
    rw [show (0 : Int32) = nI 0 from rfl, show (1 : Int32) = nI 1 from rfl, show (2 : Int32) = nI 2 from rfl, show (3 : Int32) = nI 3 from rfl, show (4 : Int32) = nI 4 from rfl]
    rw [m_gives (by omega) (by omega), Option.bind_some, m_gives (by omega) (by omega), Option.bind_some, m_gives (by omega) (by omega), Option.bind_some, m_gives (by omega) (by omega), Option.bind_some, m_gives (by omega) (by omega), Option.bind_some]
    refine ⟨_, rfl, rfl, fun k hk => ?_, fun j => ?_⟩
    · dsimp only
      iterate 6 (rw [p_nr hk])
      exact h3 k hk
    · dsimp only
      rw [show Int32.toNatClampNeg (nI 0) = 0 from rfl]
      simp only [p_eq]
      have e0 : N.1 41 0 = M.1 41 0 := by rw [h4, if_neg (by omega)]
      by_cases j0 : j = 0
      · rw [if_pos j0, if_pos j0]
        iterate 5 (rw [if_neg (by omega)])
        rw [e0]
      · rw [if_neg j0, if_neg j0, h4]
        unfold h_new
        repeat' split
        all_goals first | rfl | omega
  | succ e ih =>
    intro i fuel N h1 h2 h3 h4
    obtain ⟨fuel, rfl⟩ : ∃ m, fuel = m + 1 := ⟨fuel - 1, by omega⟩
    rw [f_X11_house_66]
    refine p_f (nI_ge (a := i) (b := 16) (by omega) (by omega)) ?_
    rw [m_gives (by omega) (by omega), Option.bind_some]
    refine p_l ?_
    rw [p_s1]
    refine ih (i + 1) fuel _ (by omega) (by omega) (fun k hk => by rw [p_nr hk]; exact h3 k hk) (fun j => ?_)
    rw [p_eq, h4]
    repeat' split
    all_goals first | rfl | omega
/-- house -/
theorem p_house {K : Nat} {M : zM} {a b c d : Int32} (h : s_I K M) : p_2 K (f_X10_house a b c d M) (f_X11_house a b c d) := by
  obtain ⟨n, m, hW, hC⟩ := h.1
  obtain ⟨hn, hm⟩ := c_cnt hW hC
  have hn10 := hW.1.2.1
  have hw0 := hW.1.1
  have z0 : Int32.toNatClampNeg (0 : Int32) = 0 := rfl
  by_cases ca : ¬ a < (1 : Int32) ∧ ¬ (99 : Int32) < a
  case neg =>
    refine p_same (v := -1) h ?_ ?_
    · unfold f_X10_house f_X10_canStand
      rw [c_w, if_neg ca]
      split <;> rfl
    · unfold f_X11_house
      rw [m_w, if_neg ca]; rfl
  by_cases cb : ¬ b < (0 : Int32) ∧ ¬ (9999 : Int32) < b
  case neg =>
    refine p_same (v := -1) h ?_ ?_
    · unfold f_X10_house f_X10_canStand
      rw [c_w, if_pos ca, Option.bind_some, if_neg b_1z]
      dsimp only
      rw [c_w, if_neg cb]
      split <;> rfl
    · unfold f_X11_house
      rw [m_w, if_pos ca, Option.bind_some, if_neg b_1z]
      dsimp only
      rw [m_w, if_neg cb]; rfl
  have hst : f_X10_canStand a b M = some (1, M) := by
    unfold f_X10_canStand
    rw [c_w, if_pos ca, Option.bind_some, if_neg b_1z]
    dsimp only
    rw [c_w, if_pos cb]; rfl
  by_cases cc : ¬ c < (0 : Int32) ∧ ¬ (10 : Int32) < c
  case neg =>
    refine p_same (v := -1) h ?_ ?_
    · unfold f_X10_house
      rw [hst, Option.bind_some, if_neg b_1z]
      dsimp only
      rw [c_w, if_neg cc]
      split <;> rfl
    · unfold f_X11_house
      rw [m_w, if_pos ca, Option.bind_some, if_neg b_1z]
      dsimp only
      rw [m_w, if_pos cb, Option.bind_some, if_neg b_1z]
      dsimp only
      rw [m_w, if_neg cc]; rfl
  by_cases cd : ¬ d < (0 : Int32) ∧ ¬ (99 : Int32) < d
  case neg =>
    refine p_same (v := -1) h ?_ ?_
    · unfold f_X10_house
      rw [hst, Option.bind_some, if_neg b_1z]
      dsimp only
      rw [c_w, if_pos cc, Option.bind_some, if_neg b_1z]
      dsimp only
      rw [c_w, if_neg cd]
      split <;> rfl
    · unfold f_X11_house
      rw [m_w, if_pos ca, Option.bind_some, if_neg b_1z]
      dsimp only
      rw [m_w, if_pos cb, Option.bind_some, if_neg b_1z]
      dsimp only
      rw [m_w, if_pos cc, Option.bind_some, if_neg b_1z]
      dsimp only
      rw [m_w, if_neg cd]; rfl
  have hmr : ∀ N : zM, N.1 41 0 = nI n → f_X11_house a b c d N = if n = 10 then some (-1, N) else f_X11_house_66 z_F a b c d (nI n) (nI 0) N := fun N e => by
    unfold f_X11_house
    rw [m_w, if_pos ca, Option.bind_some, if_neg b_1z]
    dsimp only
    rw [m_w, if_pos cb, Option.bind_some, if_neg b_1z]
    dsimp only
    rw [m_w, if_pos cc, Option.bind_some, if_neg b_1z]
    dsimp only
    rw [m_w, if_pos cd, Option.bind_some, if_neg b_1z]
    dsimp only
    by_cases z : n = 10
    · rw [if_pos z, if_pos (by rw [z0, e, z]; rfl)]
    · rw [if_neg z, if_neg (by rw [z0, e]; exact b_ne (by omega) (by decide) z), z0, e]; rfl
  unfold f_X10_house
  rw [hn]
  by_cases z : n = 10
  · subst z
    rw [if_pos (by decide)]
    exact p_same h rfl (by rw [hmr M hw0, if_pos rfl])
  rw [if_neg (show ¬ (10 : Int32) ≤ nI n from nI_ge (b := 10) (by omega) (by omega)), hst, Option.bind_some, if_neg b_1z]
  dsimp only
  rw [c_w, if_pos cc, Option.bind_some, if_neg b_1z]
  dsimp only
  rw [c_w, if_pos cd, Option.bind_some, if_neg b_1z]
  dsimp only
  rw [hn]
  refine p_l (p_g (p_ix (show n < 10 by omega) (by decide)) (p_bx c_build (fun X hX => p_lx (fun Y hY => p_some ?_))))
  rw [p_cl (by omega), c_ra6] at hX
  obtain ⟨x1, x2⟩ := hX
  rw [p_s1] at hY
  have y1 : ∀ i, i ≠ 3 → i ≠ c_H 3 n → Y.1 i = M.1 i := fun i i1 i2 => by rw [hY, p_nr i1, x1 i i2]
  have y3 : ∀ j, Y.1 3 j = if j = 0 then nI (n + 1) else M.1 3 j := fun j => by rw [hY, p_eq, x1 3 (by unfold c_H; omega)]
  have yn : ∀ j, j < 14 → Y.1 (c_H 3 n) j = h_new a b c d j := fun j hj => by rw [hY, p_ne (by unfold c_H; omega)]; exact x2 j hj
  clear x1 x2 hY X
  dsimp only
  have y41 : Y.1 41 = M.1 41 := y1 41 (by omega) (by unfold c_H; omega)
  rw [hmr Y (by rw [y41]; exact hw0), if_neg z]
  refine p_w (m_h66 (M := Y) (by omega) 16 0 z_F Y rfl (by unfold z_F; omega) (fun _ _ => rfl) (fun j => by rw [if_neg (by omega)])) ?_
  rintro ⟨v, N⟩ ⟨n1, n2, n3⟩
  dsimp only at n1 n2 n3 ⊢
  refine ⟨n1.symm, ?_⟩
  rw [y41] at n3
  have e0 : N.1 41 0 = nI (n + 1) := by rw [n3, if_pos rfl, hw0, p_s1]
  have lo : ∀ j, j ≠ 0 → (j < 20 + 16 * n ∨ 36 + 16 * n ≤ j) → N.1 41 j = M.1 41 j := fun j j0 hj => by rw [n3, if_neg j0, if_neg (by omega)]
  have hs : ∀ q, q < 16 → N.1 41 (20 + 16 * n + q) = h_new a b c d q := fun q hq => by rw [n3, if_neg (by omega), if_pos (by omega), Nat.add_sub_cancel_left]
  have ro : ∀ i, i ≠ 41 → i ≠ 3 → i ≠ c_H 3 n → N.1 i = M.1 i := fun i i1 i2 i3 => by rw [n2 i i1, y1 i i2 i3]
  obtain ⟨⟨w0, w0', w1, w1'⟩, w2, ⟨ct, c1, c2, c3⟩, w4, w5, w6⟩ := s_W_mono hW
  obtain ⟨d1, ⟨lh, lt, l1, l2, l3, l4, l5, l6⟩, d3, d4, d5⟩ := hC
  have hs0 := hs 0 (by omega)
  rw [Nat.add_zero] at hs0
  refine s_I_now (n := n + 1) (m := m) h ⟨⟨e0, by omega, by rw [lo 1 (by omega) (by omega)]; exact w1, w1'⟩, by rw [lo 2 (by omega) (by omega), lo 3 (by omega) (by omega), lo 6 (by omega) (by omega)]; exact w2, ⟨ct, c1, by rw [lo 5 (by omega) (by omega)]; exact c2, fun g hg => ?_⟩, fun g hg => ?_, fun g hg => ?_, fun t ht => ?_⟩ ⟨?_, ⟨lh, lt, ?_, ?_, by omega, l4, ?_, fun g t hg ht => ?_⟩, fun g hg q hq => ?_, fun t ht => ?_, ?_⟩ (fun i hi => ?_) (fun j hj => ?_)
  · by_cases y : g = n
    · subst y
      rw [hs 9 (by omega)]
      exact i_inn (j := 0) (by decide) (by omega) (by omega)
    · rw [lo _ (by omega) (by omega)]; exact c3 g (by omega)
  · by_cases y : g = n
    · subst y
      rw [hs0, hs 1 (by omega), hs 2 (by omega), hs 3 (by omega), hs 5 (by omega), hs 6 (by omega), hs 7 (by omega), hs 8 (by omega)]
      exact ⟨i_win (a := 1) (b := 99) (by decide) (by decide) ca, i_win (a := 0) (b := 9999) (by decide) (by decide) cb, i_win (a := 0) (b := 10) (by decide) (by decide) cc, i_win (a := 0) (b := 99) (by decide) (by decide) cd, i_inn (j := 0) (by decide) (by omega) (by omega), i_inn (j := 0) (by decide) (by omega) (by omega), i_inn (j := 0) (by decide) (by omega) (by omega), i_inn (j := 0) (by decide) (by omega) (by omega)⟩
    · rw [lo _ (by omega) (by omega), lo _ (by omega) (by omega), lo _ (by omega) (by omega), lo _ (by omega) (by omega), lo _ (by omega) (by omega), lo _ (by omega) (by omega), lo _ (by omega) (by omega), lo _ (by omega) (by omega)]; exact w4 g (by omega)
  · show N.1 41 (20 + 16 * g + 4) = -1 ∨ ∃ e, g < e ∧ e < n + 1 ∧ N.1 41 (20 + 16 * g + 4) = nI e
    by_cases y : g = n
    · subst y
      rw [hs 4 (by omega)]
      exact Or.inl rfl
    · rw [lo _ (by omega) (by omega)]
      rcases w5 g (by omega) with q | ⟨e, q1, q2, q3⟩
      · exact Or.inl q
      · exact Or.inr ⟨e, q1, by omega, q3⟩
  · refine ⟨?_, fun q hq => ?_⟩
    · rw [lo _ (by omega) (by omega)]; exact (w6 t ht).1
    · rw [lo _ (by omega) (by omega), lo _ (by omega) (by omega)]; exact (w6 t ht).2 q hq
  · rw [e0, lo 1 (by omega) (by omega), lo 2 (by omega) (by omega), lo 3 (by omega) (by omega), lo 4 (by omega) (by omega), lo 5 (by omega) (by omega), lo 6 (by omega) (by omega), lo 7 (by omega) (by omega), ro 1 (by omega) (by omega) (by unfold c_H; omega), n2 (1 + 2) (by omega), y3, y3, if_pos rfl, if_neg (by omega)]
    exact ⟨rfl, d1.2⟩
  · rw [ro 1 (by omega) (by omega) (by unfold c_H; omega)]; exact l1
  · rw [ro 1 (by omega) (by omega) (by unfold c_H; omega)]; exact l2
  · rw [lo 8 (by omega) (by omega), lo 9 (by omega) (by omega)]; exact l5
  · rw [ro (c_H (1 + 2) g + 2) (by unfold c_H; omega) (by unfold c_H; omega) (by unfold c_H; omega), ro (c_H (1 + 2) g + 3) (by unfold c_H; omega) (by unfold c_H; omega) (by unfold c_H; omega), ro (c_H (1 + 2) g + 4) (by unfold c_H; omega) (by unfold c_H; omega) (by unfold c_H; omega), lo _ (by omega) (by omega), lo _ (by omega) (by omega), lo _ (by omega) (by omega)]; exact l6 g t hg ht
  · by_cases y : g = n
    · subst y
      rw [hs q (by omega), n2 _ (by unfold c_H; omega)]; exact yn q hq
    · rw [lo _ (by omega) (by omega), ro _ (by unfold c_H; omega) (by unfold c_H; omega) (by unfold c_H; omega)]; exact d3 g (by omega) q hq
  · refine ⟨?_, fun q hq => ?_⟩
    · rw [lo _ (by omega) (by omega), ro (c_S 1 t) (by unfold c_S; omega) (by unfold c_S; omega) (by unfold c_S c_H; omega)]; exact (d4 t ht).1
    · rw [lo _ (by omega) (by omega), lo _ (by omega) (by omega), ro (c_S 1 t + 1) (by unfold c_S; omega) (by unfold c_S; omega) (by unfold c_S c_H; omega), ro (c_S 1 t + 2) (by unfold c_S; omega) (by unfold c_S; omega) (by unfold c_S c_H; omega)]; exact (d4 t ht).2 q hq
  · obtain ⟨ln, k, st, ff, mm, tt, x1, x2, x3, x4, x5, x6, x7⟩ := d5
    rw [ro (1 + 12) (by omega) (by omega) (by unfold c_H; omega), ro (1 + 15) (by omega) (by omega) (by unfold c_H; omega), ro (1 + 18) (by omega) (by omega) (by unfold c_H; omega), ro (1 + 21) (by omega) (by omega) (by unfold c_H; omega)]
    exact ⟨ln, k, st, ff, mm, tt, x1, by rw [lo _ (by omega) (by omega)]; exact x2, x3, x4, x5, fun i hi => by rw [lo _ (by omega) (by omega), lo _ (by omega) (by omega)]; exact x6 i hi, fun i hi => by rw [lo _ (by omega) (by omega), lo _ (by omega) (by omega), lo _ (by omega) (by omega)]; exact x7 i hi⟩
  · have : i ≠ 41 ∧ i ≠ 3 ∧ i ≠ c_H 3 n := by unfold s_own at hi; unfold c_H; omega
    exact ro i this.1 this.2.1 this.2.2
  · rw [ro 40 (by omega) (by omega) (by unfold c_H; omega)]
