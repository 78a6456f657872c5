theorem m_rk {N : zM} {g j : Nat} (hj : h_im j) : ∃ b, 48 ≤ b ∧ b ≤ 55 ∧ (b = 50 ↔ j = 4) ∧ (∀ X : zM, m_r X g j = X.1 b g) ∧ ∀ (X : zM) (i : Nat), m_r X i j = X.1 b i := by
  unfold h_im at hj
  rcases hj with rfl | rfl | rfl | rfl | rfl | rfl | rfl | rfl
  · exact ⟨48, by omega, by omega, by omega, fun _ => rfl, fun _ _ => rfl⟩
  · exact ⟨49, by omega, by omega, by omega, fun _ => rfl, fun _ _ => rfl⟩
  · exact ⟨50, by omega, by omega, by omega, fun _ => rfl, fun _ _ => rfl⟩
  · exact ⟨51, by omega, by omega, by omega, fun _ => rfl, fun _ _ => rfl⟩
  · exact ⟨52, by omega, by omega, by omega, fun _ => rfl, fun _ _ => rfl⟩
  · exact ⟨53, by omega, by omega, by omega, fun _ => rfl, fun _ _ => rfl⟩
  · exact ⟨54, by omega, by omega, by omega, fun _ => rfl, fun _ _ => rfl⟩
  · exact ⟨55, by omega, by omega, by omega, fun _ => rfl, fun _ _ => rfl⟩
section AE
variable {K n m s T p : Nat} {X : zM} {w : Nat → Int32} {a c : Int32}
/-- the end: the new house's numbers, and the storm -/
theorem m_a193 {was v4 : Int32} {B : zM} (hw : X.1 41 = w) (h33 : X.1 40 33 = 0) (hs : s < 10) (hT : w (180 + 26 * s) = nI T) (hT12 : T ≤ 12) (hsn : ∀ t, t < T → e_s w s t = 0 ∨ e_s w s t = 1) (hn9 : n ≤ 9) (hp : p ≤ n) (hL : m_L (fun h => w (20 + 16 * h + 4)) n)
    (hF : r_F X B) (h30 : B.1 40 30 = nI (n + 1)) (hv : v4 = if p = n then -1 else nI (p + 1)) (b0 : B.1 48 p = a) (b1 : B.1 49 p = c) (hR : ∀ g, g < n + 1 → g ≠ p → ∀ j, h_im j → m_r B g j = R_a w n p a c g j) :
    p_ok (f_X11_added_193 (nI p) (nI s) was 50 (nI p) v4 B) (fun x => x.1 = e_all (R_a w n p a c) w s T (n + 1) - was ∧ r_F X x.2) := by
  unfold f_X11_added_193
  have g11 := p_ix (show p < 11 by omega) (show 11 < 2 ^ 31 by decide)
  refine p_g g11 (p_lx (fun A0 q0 => p_g g11 (p_lx (fun A1 q1 => p_g g11 (p_lx (fun A2 q2 => p_g g11 (p_lx (fun A3 q3 => p_g g11 (p_lx (fun A4 q4 => p_g g11 (p_lx (fun A5 q5 => ?_))))))))))))
  rw [p_cl (by omega)] at q0 q1 q2 q3 q4 q5
  have f0 : ∀ b, (b < 50 ∨ 55 < b) → A5.1 b = B.1 b := fun b hb => by rw [q5, p_nr (by omega), q4, p_nr (by omega), q3, p_nr (by omega), q2, p_nr (by omega), q1, p_nr (by omega), q0, p_nr (by omega)]
  have f1 : ∀ b g, g ≠ p → A5.1 b g = B.1 b g := fun b g hg => by rw [q5, p_rd, if_neg (fun q => hg q.2), q4, p_rd, if_neg (fun q => hg q.2), q3, p_rd, if_neg (fun q => hg q.2), q2, p_rd, if_neg (fun q => hg q.2), q1, p_rd, if_neg (fun q => hg q.2), q0, p_rd, if_neg (fun q => hg q.2)]
  have f50 : A5.1 50 p = v4 := by rw [q5, p_ne (by decide), q4, p_ne (by decide), q3, p_ne (by decide), q2, p_ne (by decide), q1, p_ne (by decide), q0, p_eq, if_pos rfl]
  have f51 : A5.1 51 p = 0 := by rw [q5, p_ne (by decide), q4, p_ne (by decide), q3, p_ne (by decide), q2, p_ne (by decide), q1, p_eq, if_pos rfl]
  have f52 : A5.1 52 p = 0 := by rw [q5, p_ne (by decide), q4, p_ne (by decide), q3, p_ne (by decide), q2, p_eq, if_pos rfl]
  have f53 : A5.1 53 p = 0 := by rw [q5, p_ne (by decide), q4, p_ne (by decide), q3, p_eq, if_pos rfl]
  have f54 : A5.1 54 p = 0 := by rw [q5, p_ne (by decide), q4, p_eq, if_pos rfl]
  have f55 : A5.1 55 p = 0 := by rw [q5, p_eq, if_pos rfl]
  have fF : r_F X A5 := r_F_tr hF ⟨fun b hb => f0 b (by omega), fun j _ _ _ _ _ => by rw [f0 40 (by omega)]⟩
  refine p_bx (m_allT (R := R_a w n p a c) fF hw h33 hs (by rw [f0 40 (by omega)]; exact h30) (by omega) hT hT12 hsn (R_a_L hp hn9 hL) (fun g hg j hj => ?_)) (fun x hx => p_some ⟨by rw [hx.1], hx.2.1⟩)
  by_cases z : g = p
  · subst z
    unfold R_a
    rw [if_pos rfl]
    unfold h_im at hj
    rcases hj with rfl | rfl | rfl | rfl | rfl | rfl | rfl | rfl
    · rw [if_neg (by omega)]; show A5.1 48 g = a; rw [f0 48 (by omega)]; exact b0
    · rw [if_neg (by omega)]; show A5.1 49 g = c; rw [f0 49 (by omega)]; exact b1
    · rw [if_pos rfl, ← hv]; exact f50
    · rw [if_neg (by omega)]; exact f51
    · rw [if_neg (by omega)]; exact f52
    · rw [if_neg (by omega)]; exact f53
    · rw [if_neg (by omega)]; exact f54
    · rw [if_neg (by omega)]; exact f55
  · obtain ⟨b, -, -, -, e1, -⟩ := m_rk (N := X) (g := g) hj
    rw [e1, f1 b g z, ← e1]; exact hR g hg z j hj
theorem m_a114 {was : Int32} {L : zM} (hw : X.1 41 = w) (h33 : X.1 40 33 = 0) (hs : s < 10) (hT : w (180 + 26 * s) = nI T) (hT12 : T ≤ 12) (hsn : ∀ t, t < T → e_s w s t = 0 ∨ e_s w s t = 1) (hn9 : n ≤ 9) (hp : p ≤ n) (hL : m_L (fun h => w (20 + 16 * h + 4)) n)
    (hF : r_F X L) (h30 : L.1 40 30 = nI (n + 1)) (hR : ∀ g, g < n + 1 → g ≠ p → ∀ j, h_im j → m_r L g j = w_r w (if g < p then g else g - 1) j) : ∀ e i fuel (N : zM), i + e = n + 1 → e < fuel → (∀ b, b ≠ 50 → N.1 b = L.1 b) → (∀ g, N.1 50 g = if g < i ∧ g ≠ p ∧ ¬ L.1 50 g ≤ nI p then L.1 50 g + 1 else L.1 50 g) →
    p_ok (f_X11_added_114 fuel (nI p) a c (nI s) was (nI i) N) (fun x => x.1 = e_all (R_a w n p a c) w s T (n + 1) - was ∧ r_F X x.2) := by
  intro e
  induction e with
  | zero =>
    intro i fuel N h1 h2 h3 h4
    obtain ⟨fuel, rfl⟩ : ∃ m, fuel = m + 1 := ⟨fuel - 1, by omega⟩
    have : i = n + 1 := by omega
    subst this
    rw [f_X11_added_114]
    have g11 := p_ix (show p < 11 by omega) (show 11 < 2 ^ 31 by decide)
    refine p_t (by rw [h3 40 (by omega), h30]; exact nI_le (Nat.le_refl _) (by omega)) (p_g g11 (p_lx (fun A hA => p_g g11 (p_lx (fun B hB => ?_)))))
    rw [p_cl (by omega)] at hA hB
    have bo : ∀ b, b ≠ 48 → b ≠ 49 → B.1 b = N.1 b := fun b b1 b2 => by rw [hB, p_nr b2, hA, p_nr b1]
    have bF : r_F X B := r_F_tr hF ⟨fun b hb => by rw [bo b (by omega) (by omega), h3 b (by omega)], fun j _ _ _ _ _ => by rw [bo 40 (by omega) (by omega), h3 40 (by omega)]⟩
    have b30 : B.1 40 30 = nI (n + 1) := by rw [bo 40 (by omega) (by omega), h3 40 (by omega)]; exact h30
    have b48 : B.1 48 p = a := by rw [hB, p_ne (by decide), hA, p_eq, if_pos rfl]
    have b49 : B.1 49 p = c := by rw [hB, p_eq, if_pos rfl]
    have bR : ∀ g, g < n + 1 → g ≠ p → ∀ j, h_im j → m_r B g j = R_a w n p a c g j := fun g hg gp j hj => by
      obtain ⟨b, y1, y2, y3, y4, -⟩ := m_rk (N := X) (g := g) hj
      unfold R_a
      rw [if_neg gp]
      by_cases z : j = 4
      · have : b = 50 := y3.mpr z
        subst this
        subst z
        rw [y4, bo 50 (by omega) (by omega), h4, if_pos rfl, ← hR g hg gp 4 hj, y4]
        by_cases u : L.1 50 g ≤ nI p
        · rw [if_neg (fun q => q.2.2 u), if_pos u]
        · rw [if_pos ⟨by omega, gp, u⟩, if_neg u]
      · have nb : b ≠ 50 := fun q => z (y3.mp q)
        rw [if_neg z, ← hR g hg gp j hj, y4, y4, ← h3 b nb, hB, p_rd, if_neg (fun q => gp q.2), hA, p_rd, if_neg (fun q => gp q.2)]
    have e30 : B.1 40 30 - (1 : Int32) = nI n := by rw [b30, nI_pred]
    by_cases z : p = n
    · refine p_t (by rw [e30, z]) (m_a193 hw h33 hs hT hT12 hsn hn9 hp hL bF b30 ?_ b48 b49 bR)
      rw [if_pos z]
    · refine p_f (by rw [e30]; exact b_ne (by omega) (by omega) z) (m_a193 hw h33 hs hT hT12 hsn hn9 hp hL bF b30 ?_ b48 b49 bR)
      rw [if_neg z, p_s1]
  | succ e ih =>
    intro i fuel N h1 h2 h3 h4
    obtain ⟨fuel, rfl⟩ : ∃ m, fuel = m + 1 := ⟨fuel - 1, by omega⟩
    rw [f_X11_added_114]
    have g11 := p_ix (show i < 11 by omega) (show 11 < 2 ^ 31 by decide)
    refine p_f (by rw [h3 40 (by omega), h30]; exact nI_ge (by omega) (by omega)) ?_
    by_cases z : i = p
    · refine p_t (by rw [z]) (p_l ?_)
      rw [p_s1]
      refine ih (i + 1) fuel N (by omega) (by omega) h3 (fun g => ?_)
      rw [h4]
      by_cases y : g < i ∧ g ≠ p ∧ ¬ L.1 50 g ≤ nI p
      · rw [if_pos y, if_pos ⟨by omega, y.2⟩]
      · rw [if_neg y, if_neg (fun q => y ⟨by omega, q.2⟩)]
    · refine p_f (b_ne (by omega) (by omega) z) (p_g g11 ?_)
      have ei : N.1 50 (Int32.toNatClampNeg (nI i)) = L.1 50 i := by rw [p_cl (by omega), h4, if_neg (by omega)]
      by_cases u : L.1 50 i ≤ nI p
      · refine p_t (by rw [ei]; exact u) (p_l ?_)
        rw [p_s1]
        refine ih (i + 1) fuel N (by omega) (by omega) h3 (fun g => ?_)
        rw [h4]
        by_cases y : g < i ∧ g ≠ p ∧ ¬ L.1 50 g ≤ nI p
        · rw [if_pos y, if_pos ⟨by omega, y.2⟩]
        · rw [if_neg y, if_neg (fun q => y ⟨Nat.lt_of_le_of_ne (by omega) (fun r => q.2.2 (r ▸ u)), q.2⟩)]
      · refine p_f (by rw [ei]; exact u) (p_g g11 (p_g g11 (p_l (p_l ?_))))
        rw [p_s1, ei, p_cl (by omega)]
        refine ih (i + 1) fuel _ (by omega) (by omega) (fun b hb => by rw [p_nr hb]; exact h3 b hb) (fun g => ?_)
        rw [p_eq, h4]
        by_cases y : g = i
        · subst y
          rw [if_pos rfl, if_pos ⟨by omega, z, u⟩]
        · rw [if_neg y]
          by_cases v : g < i ∧ g ≠ p ∧ ¬ L.1 50 g ≤ nI p
          · rw [if_pos v, if_pos ⟨by omega, v.2⟩]
          · rw [if_neg v, if_neg (fun q => v ⟨by omega, q.2⟩)]
theorem m_a83 {was : Int32} {L : zM} (hw : X.1 41 = w) (h33 : X.1 40 33 = 0) (hs : s < 10) (hT : w (180 + 26 * s) = nI T) (hT12 : T ≤ 12) (hsn : ∀ t, t < T → e_s w s t = 0 ∨ e_s w s t = 1) (hn9 : n ≤ 9) (hp : p ≤ n) (hL : m_L (fun h => w (20 + 16 * h + 4)) n)
    (hF : r_F X L) (h30 : L.1 40 30 = nI n) (hR : ∀ g, g < n → ∀ j, h_im j → m_r L g j = w_r w g j) : ∀ e k fuel (N : zM), p + e = k → k ≤ n → e < fuel → (∀ b, (b < 48 ∨ 55 < b) → N.1 b = L.1 b) → (∀ b, 48 ≤ b → b ≤ 55 → ∀ j, N.1 b j = if k < j ∧ j ≤ n then L.1 b (j - 1) else L.1 b j) →
    p_ok (f_X11_added_83 fuel (nI p) a c (nI s) was (nI k - 1) N) (fun x => x.1 = e_all (R_a w n p a c) w s T (n + 1) - was ∧ r_F X x.2) := by
  intro e
  induction e with
  | zero =>
    intro k fuel N h1 h1' h2 h3 h4
    obtain ⟨fuel, rfl⟩ : ∃ m, fuel = m + 1 := ⟨fuel - 1, by omega⟩
    have : k = p := by omega
    subst this
    rw [f_X11_added_83]
    refine p_t ?_ (p_lx (fun A hA => ?_))
    · cases k with
      | zero => decide
      | succ k => rw [nI_pred]; exact nI_lt (by omega) (by omega)
    rw [h3 40 (by omega), h30, p_s1] at hA
    have a0 : ∀ b, b ≠ 40 → A.1 b = N.1 b := fun b hb => by rw [hA, p_nr hb]
    refine m_a114 (L := A) hw h33 hs hT hT12 hsn hn9 hp hL (r_F_tr hF ⟨fun b hb => by rw [a0 b (by omega), h3 b (by omega)], fun j j1 _ _ _ _ => by rw [hA, p_eq, if_neg j1, h3 40 (by omega)]⟩) (by rw [hA, p_eq, if_pos rfl]) (fun g hg gp j hj => ?_) (n + 1) 0 z_F A (by omega) (by unfold z_F; omega) (fun _ _ => rfl) (fun g => by rw [if_neg (fun q => by omega)])
    obtain ⟨b, y1, y2, y3, y4, y5⟩ := m_rk (N := X) (g := g) hj
    rw [y4, a0 b (by omega), h4 b y1 y2]
    by_cases z : g < k
    · rw [if_neg (by omega), if_pos z, ← hR g (by omega) j hj, y4]
    · rw [if_pos (by omega), if_neg z, ← hR (g - 1) (by omega) j hj, y5]
  | succ e ih =>
    intro k fuel N h1 h1' h2 h3 h4
    obtain ⟨fuel, rfl⟩ : ∃ m, fuel = m + 1 := ⟨fuel - 1, by omega⟩
    obtain ⟨k, rfl⟩ : ∃ q, k = q + 1 := ⟨k - 1, by omega⟩
    rw [f_X11_added_83, nI_pred]
    refine p_f (nI_nlt (by omega) (by omega)) (p_bx (m_mv (by omega)) (fun Y hY => p_l ?_))
    obtain ⟨y1, y2⟩ := hY
    rw [show nI k + (-1 : Int32) = nI k - 1 from (Int32.sub_eq_add_neg _ _).symm]
    refine ih k fuel Y (by omega) (by omega) (by omega) (fun b hb => by rw [y1 b hb]; exact h3 b hb) (fun b b1 b2 j => ?_)
    rw [y2 b b1 b2, h4 b b1 b2, h4 b b1 b2, if_neg (show ¬ (k + 1 < k ∧ k ≤ n) by omega)]
    by_cases z : j = k + 1
    · subst z
      rw [if_pos rfl, if_pos (by omega)]; rfl
    · rw [if_neg z]
      by_cases y : k + 1 < j ∧ j ≤ n
      · rw [if_pos y, if_pos (by omega)]
      · rw [if_neg y, if_neg (by omega)]
end AE
/-- added -/
theorem p_added {K : Nat} {M : zM} {a b c d : Int32} (h : s_I K M) : p_2 K (f_X10_added a b c d M) (f_X11_added a b c d) := by
  obtain ⟨n, m, hW, hC⟩ := h.1
  have hn10 := hW.1.2.1
  have hn := (c_cnt hW hC).1
  have hw0 := hW.1.1
  have z0 : Int32.toNatClampNeg (0 : Int32) = 0 := rfl
  by_cases ca : ¬ a < 0 ∧ ¬ nI n < a
  case neg =>
    refine p_same (v := -1000000000) h ?_ ?_
    · unfold f_X10_added
      rw [hn, c_w, if_neg ca]
      split <;> rfl
    · unfold f_X11_added
      rw [z0, hw0, m_w, if_neg ca]; rfl
  by_cases cb : ¬ b < (1 : Int32) ∧ ¬ (99 : Int32) < b
  case neg =>
    refine p_same (v := -1000000000) h ?_ ?_
    · unfold f_X10_added
      rw [hn, c_w, if_pos ca, Option.bind_some, if_neg b_1z]
      unfold f_X10_canStand
      rw [c_w, if_neg cb]
      split <;> rfl
    · unfold f_X11_added
      rw [z0, hw0, m_w, if_pos ca, Option.bind_some, if_neg b_1z, m_w, if_neg cb]; rfl
  by_cases cc : ¬ c < (0 : Int32) ∧ ¬ (9999 : Int32) < c
  case neg =>
    refine p_same (v := -1000000000) h ?_ ?_
    · unfold f_X10_added
      rw [hn, c_w, if_pos ca, Option.bind_some, if_neg b_1z]
      unfold f_X10_canStand
      rw [c_w, if_pos cb, Option.bind_some, if_neg b_1z, c_w, if_neg cc]
      split <;> rfl
    · unfold f_X11_added
      rw [z0, hw0, m_w, if_pos ca, Option.bind_some, if_neg b_1z, m_w, if_pos cb, Option.bind_some, if_neg b_1z, m_w, if_neg cc]; rfl
  have hst : f_X10_canStand b c M = some (1, M) := by
    unfold f_X10_canStand
    rw [c_w, if_pos cb, Option.bind_some, if_neg b_1z]
    dsimp only
    rw [c_w, if_pos cc]; rfl
  rcases t_st (a := d) hW hC with ⟨c1, c2⟩ | ⟨s, hs, hs10, rfl, c1, c2⟩
  · refine p_same (v := -1000000000) h ?_ ?_
    · unfold f_X10_added
      rw [hn, c_w, if_pos ca, Option.bind_some, if_neg b_1z, hst, Option.bind_some, if_neg b_1z, c1]
      split <;> rfl
    · unfold f_X11_added
      rw [z0, hw0, m_w, if_pos ca, Option.bind_some, if_neg b_1z, m_w, if_pos cb, Option.bind_some, if_neg b_1z, m_w, if_pos cc, Option.bind_some, if_neg b_1z, c2 M rfl]; rfl
  obtain ⟨p, -, hp, rfl⟩ := i_num (a := 0) (b := n) (by decide) (by omega) ca
  have hmr : ∀ N : zM, N.1 41 = M.1 41 → f_X11_added (nI p) b c (nI s) N = if n = 10 then some (-1000000000, N) else (f_X11_laysHouses N).bind fun x10 =>
            (f_X11_runs (nI s) x10).bind fun x11 =>
            (f_X11_laysHouses  x11.2).bind fun x12 =>
            z_l ((x12.1 40 30) - (1 : Int32)) fun v13 =>
            f_X11_added_83 z_F (nI p) b c (nI s) x11.1 v13 x12 := fun N e => by
    unfold f_X11_added
    rw [z0, e, hw0, m_w, if_pos ca, Option.bind_some, if_neg b_1z, m_w, if_pos cb, Option.bind_some, if_neg b_1z, m_w, if_pos cc, Option.bind_some, if_neg b_1z, c2 N e, Option.bind_some, if_neg b_1z]
    dsimp only
    by_cases z : n = 10
    · rw [if_pos z, if_pos (by rw [e, hw0, z]; rfl)]
    · rw [if_neg z, if_neg (by rw [e, hw0]; exact b_ne (by omega) (by decide) z)]
  unfold f_X10_added
  rw [hn]
  by_cases z : n = 10
  · rw [if_pos (by rw [z]; decide)]
    exact p_same h rfl (by rw [hmr M rfl, if_pos z])
  rw [if_neg (show ¬ (10 : Int32) ≤ nI n from nI_ge (b := 10) (by omega) (by omega)), c_w, if_pos ca, Option.bind_some, if_neg b_1z]
  dsimp only
  rw [hst, Option.bind_some, if_neg b_1z]
  dsimp only
  rw [c1 M rfl, Option.bind_some, if_neg b_1z]
  dsimp only
  obtain ⟨T, T1, T2, T3, hX, hsn⟩ := t_X_of hW hC (t_F_rfl M) hs
  refine p_g (p_ix hs10 (by decide)) (p_l ?_)
  rw [p_cl (by omega), c_ra9]
  refine p_bx (c_asNow hW hC hX (t_F_rfl M)) (fun x hx => ?_)
  obtain ⟨x1, x2⟩ := hx
  have hia : p_ok (f_X5_imagineAdded 5 3 (nI p) b c x.2) (fun X => t_F M X ∧ X.1 5 0 = nI (n + 1) ∧ X.1 5 1 = M.1 41 6 ∧ ∀ g, g < n + 1 → ∀ j, h_im j → X.1 (c_H 5 g) j = R_a (M.1 41) n p b c g j) := by
    unfold f_X5_imagineAdded
    rw [x2 3 (by omega), hn]
    refine p_lx (fun v hv => p_lx (fun A hA => p_lx (fun B hB => ?_)))
    rw [if_neg (show ¬ (9 : Int32) < nI n from nI_nlt (a := 9) (by omega) (by omega))] at hv
    subst hv
    rw [p_s1] at hA
    rw [hA, p_ne (by decide), x2 3 (by omega), show M.1 3 1 = M.1 41 6 from hC.1.2.2.2.2.2.2.1] at hB
    refine c_ad30 hW hC (by omega) hp n 0 z_F B (by omega) (by unfold z_F; omega) (fun a ha => by rw [hB, p_nr (by omega), p_nr (by omega)]; exact x2 a ha) (by rw [hB, p_eq, if_neg (by decide), p_eq, if_pos rfl]) (by rw [hB, p_eq, if_pos rfl]) (fun g hg => by omega)
  refine p_bx hia (fun X hh => ?_)
  obtain ⟨u1, u2, u3, u4⟩ := hh
  refine p_bx (c_allT (by omega) u1 (t_X_fr hX u1) u2 u3 u4) (fun y hy => p_some ?_)
  obtain ⟨y1, y2⟩ := hy
  dsimp only
  rw [y1, x1]
  have e41 : y.2.1 41 = M.1 41 := y2 41 (by omega)
  have e33 : y.2.1 40 33 = 0 := by rw [y2 40 (by omega)]; exact h.2.2.2.2
  rw [hmr y.2 e41, if_neg z]
  refine p_bx (m_layT (r_F_rfl y.2) e41 hW.1.1 hn10) (fun A hA => ?_)
  obtain ⟨a1, a2, a3, a4, a5⟩ := hA
  refine p_bx (m_allT (R := w_r (M.1 41)) a1 e41 e33 hs10 a4 hn10 T3 T2 hsn hW.2.2.2.2.1 a5) (fun q hq => ?_)
  obtain ⟨q3, q4, -⟩ := hq
  rw [q3]
  refine p_bx (m_layT q4 e41 hW.1.1 hn10) (fun L hL => p_l ?_)
  obtain ⟨l1, l2, l3, l4, l5⟩ := hL
  rw [l4]
  refine p_w (m_a83 (L := L) e41 e33 hs10 T3 T2 hsn (by omega) hp hW.2.2.2.2.1 l1 l4 l5 (n - p) n z_F L (by omega) (by omega) (by unfold z_F; omega) (fun _ _ => rfl) (fun b _ _ j => by rw [if_neg (by omega)])) ?_
  rintro r ⟨r1, r2⟩
  exact ⟨r1.symm, s_I_th h y2 r2⟩
