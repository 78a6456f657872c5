theorem t_min {n : Nat} (h : n ≤ 10) : min (10 + 1) n = n := by omega
/-- the class: what runs over at all houses of the thought roofs as R has them -/
theorem c_allT {n s T : Nat} {M X : zM} {w : Nat → Int32} {R : Nat → Nat → Int32} (hn10 : n ≤ 10) (hF : t_F M X) (hX : t_X X w s T) (hn : X.1 5 0 = nI n) (hth : X.1 5 1 = w 6) (hR : ∀ g, g < n → ∀ j, h_im j → X.1 (c_H 5 g) j = R g j) :
    p_ok (f_X5_pour 5 (c_S 1 s) (10 : Int32) X) (fun x => x.1 = e_all R w s T n ∧ t_F M x.2) := by
  refine p_w (c_pourT (k0 := 5) (la := 10) (by omega) (by omega) hX hn hn10 (by omega) hth hR) ?_
  rintro ⟨v, Y⟩ ⟨y1, y2, y3, y4⟩
  rw [t_min hn10] at y1 y3
  exact ⟨y1, fun a ha => by rw [y3 a (by unfold c_H; omega), hF a ha]⟩
/-- the reference: the same -/
theorem m_allT {n s T : Nat} {M N : zM} {w : Nat → Int32} {R : Nat → Nat → Int32} (hF : r_F M N) (hw : M.1 41 = w) (h33 : M.1 40 33 = 0) (hs : s < 10) (hn : N.1 40 30 = nI n) (hn10 : n ≤ 10) (hT : w (180 + 26 * s) = nI T) (hT12 : T ≤ 12) (hsn : ∀ t, t < T → e_s w s t = 0 ∨ e_s w s t = 1) (hL : m_L (fun g => R g 4) n) (hR : ∀ g, g < n → ∀ j, h_im j → m_r N g j = R g j) :
    p_ok (f_X11_runs (nI s) N) (fun x => x.1 = e_all R w s T n ∧ r_F M x.2 ∧ (∀ a, a < 54 ∨ 57 < a → a ≠ 40 → x.2.1 a = N.1 a) ∧ x.2.1 40 30 = nI n ∧ ∀ g, g < n → x.2.1 54 g = (e_hs R w s T g).1 ∧ x.2.1 55 g = (e_hs R w s T g).2 ∧ x.2.1 56 g = e_ov R w s T g) := by
  have e33 : N.1 40 33 = 0 := by rw [hF.2 33 (by omega) (by omega) (by omega) (by omega) (by omega)]; exact h33
  refine p_w (m_runT (w := w) hs hn hn10 (fun j _ => by rw [hF.1 41 (by omega), hw]) hT hT12 hsn hL hR) ?_
  rintro ⟨v, Y⟩ ⟨y1, y2, y3, y4, y5, y6, y7, y8, y9, y10⟩
  have f : r_F N Y := ⟨fun a ha => by
    by_cases z : a = 41
    · subst z; exact y8 e33
    · exact y3 a (by omega) z (by omega) (by omega) (by omega) (by omega), fun j j1 j2 j3 j4 j5 => y4 j j2 j3⟩
  refine ⟨y1, r_F_tr hF f, fun a a1 a2 => ?_, ?_, y10⟩
  · by_cases z : a = 41
    · subst z; exact y8 e33
    · exact y3 a a2 z (by omega) (by omega) (by omega) (by omega)
  · dsimp only
    rw [y4 30 (by omega) (by omega)]; exact hn
theorem m_layT {n : Nat} {M N : zM} {w : Nat → Int32} (hF : r_F M N) (hw : M.1 41 = w) (hn : w 0 = nI n) (hn10 : n ≤ 10) : p_ok (f_X11_laysHouses N) (fun X => r_F M X ∧ (∀ a, (a < 40 ∨ (40 < a ∧ a < 48) ∨ 55 < a) → X.1 a = N.1 a) ∧ (∀ j, j ≠ 30 → X.1 40 j = N.1 40 j) ∧ X.1 40 30 = nI n ∧ ∀ g, g < n → ∀ j, h_im j → m_r X g j = w_r w g j) := by
  have e41 : N.1 41 = w := by rw [hF.1 41 (by omega), hw]
  refine p_w (m_lays (n := n) hn10 (by rw [e41]; exact hn)) ?_
  rintro X ⟨x1, x2, x3, x4⟩
  rw [e41] at x4
  exact ⟨r_F_tr hF ⟨fun a ha => x1 a (by omega), fun j j1 _ _ _ _ => x2 j j1⟩, x1, x2, x3, x4⟩
def R_d (w : Nat → Int32) (h g j : Nat) : Int32 := if g = h ∧ j = 4 then -1 else w_r w g j
def d_go (w : Nat → Int32) (s T n : Nat) : Nat → Int32 × Int32
  | 0 => (-1, e_all (w_r w) w s T n)
  | h + 1 => if w_r w h 4 = -1 then d_go w s T n h else if e_all (R_d w h) w s T n < (d_go w s T n h).2 then (nI h, e_all (R_d w h) w s T n) else d_go w s T n h
section DR
variable {K n m s T : Nat} {M : zM}
theorem c_asNow {Q : zM} (hW : s_W K (M.1 41) n m) (hC : s_C 1 M (M.1 41) n m) (hX : t_X M (M.1 41) s T) (hQ : t_F M Q) : p_ok (f_X10_overAsNow (c_S 1 s) Q) (fun x => x.1 = e_all (w_r (M.1 41)) (M.1 41) s T n ∧ t_F M x.2) := by
  unfold f_X10_overAsNow
  refine p_bx (c_imgW hW hC hQ) (fun X hh => ?_)
  obtain ⟨x1, -, x2, x3, x4⟩ := hh
  refine p_bx (c_allT hW.1.2.1 x1 (t_X_fr hX x1) x2 x3 x4) (fun y hy => p_some hy)
theorem c_ifDr {Q : zM} {h : Nat} (hW : s_W K (M.1 41) n m) (hC : s_C 1 M (M.1 41) n m) (hX : t_X M (M.1 41) s T) (hQ : t_F M Q) (hh : h < n) : p_ok (f_X10_overIfDrained (nI h) (c_S 1 s) Q) (fun x => x.1 = e_all (R_d (M.1 41) h) (M.1 41) s T n ∧ t_F M x.2) := by
  have hn10 := hW.1.2.1
  unfold f_X10_overIfDrained
  refine p_bx (c_imgW hW hC hQ) (fun X hh => p_g (p_ix (show h < 10 by omega) (by decide)) (p_lx (fun Y hY => ?_)))
  obtain ⟨x1, -, x2, x3, x4⟩ := hh
  rw [p_cl (by omega), c_ra (k0 := 5) (by omega) (by omega)] at hY
  have y1 : t_F M Y := fun a ha => by rw [hY, p_nr (by unfold c_H; omega)]; exact x1 a ha
  refine p_bx (c_allT (R := R_d (M.1 41) h) hW.1.2.1 y1 (t_X_fr hX y1) (by rw [hY, p_ne (by unfold c_H; omega)]; exact x2) (by rw [hY, p_ne (by unfold c_H; omega)]; exact x3) (fun g hg j hj => ?_)) (fun y hy => p_some hy)
  unfold R_d
  by_cases z : g = h
  · subst z
    rw [hY, p_eq]
    by_cases y : j = 4
    · rw [if_pos y, if_pos ⟨rfl, y⟩]
    · rw [if_neg y, if_neg (fun q => y q.2)]; exact x4 g hg j hj
  · rw [hY, p_ne (by unfold c_H; omega), if_neg (fun q => z q.1)]; exact x4 g hg j hj
theorem c_dr32 (hW : s_W K (M.1 41) n m) (hC : s_C 1 M (M.1 41) n m) (hX : t_X M (M.1 41) s T) : ∀ e i fuel (Q : zM), i + e = n → e < fuel → t_F M Q →
    p_ok (f_X10_drain_32 fuel (c_S 1 s) (d_go (M.1 41) s T n i).1 (d_go (M.1 41) s T n i).2 (nI i) Q) (fun x => x.1 = (d_go (M.1 41) s T n n).1 ∧ t_F M x.2) := by
  have hn10 := hW.1.2.1
  intro e
  induction e with
  | zero =>
    intro i fuel Q h1 h2 hQ
    obtain ⟨fuel, rfl⟩ : ∃ m, fuel = m + 1 := ⟨fuel - 1, by omega⟩
    have : i = n := by omega
    subst this
    rw [f_X10_drain_32]
    refine p_t ?_ (p_some ⟨rfl, hQ⟩)
    rw [hQ 3 (by omega), (c_cnt hW hC).1]
    exact nI_le (Nat.le_refl _) (by omega)
  | succ e ih =>
    intro i fuel Q h1 h2 hQ
    obtain ⟨fuel, rfl⟩ : ∃ m, fuel = m + 1 := ⟨fuel - 1, by omega⟩
    rw [f_X10_drain_32]
    refine p_f ?_ (p_g (p_ix (show i < 10 by omega) (by decide)) ?_)
    · rw [hQ 3 (by omega), (c_cnt hW hC).1]
      exact nI_ge (by omega) (by omega)
    have e4 : Q.1 (z_ra 6 (Int32.toNatClampNeg (nI i))) 4 = w_r (M.1 41) i 4 := by
      rw [p_cl (by omega), c_ra6, hQ _ (by unfold c_H; omega)]
      exact hC.2.2.1 i (by omega) 4 (by omega)
    by_cases z : w_r (M.1 41) i 4 = -1
    · refine p_t (by rw [e4]; exact z) (p_l ?_)
      rw [p_s1]
      have := ih (i + 1) fuel Q (by omega) (by omega) hQ
      rw [show d_go (M.1 41) s T n (i + 1) = d_go (M.1 41) s T n i from if_pos z] at this
      exact this
    · refine p_f (by rw [e4]; exact z) (p_bx (c_ifDr hW hC hX hQ (by omega)) (fun x hx => ?_))
      obtain ⟨x1, x2⟩ := hx
      by_cases y : e_all (R_d (M.1 41) i) (M.1 41) s T n < (d_go (M.1 41) s T n i).2
      · refine p_f (by rw [i_le, x1]; exact fun q => q y) (p_l ?_)
        rw [p_s1, x1]
        have := ih (i + 1) fuel x.2 (by omega) (by omega) x2
        rw [show d_go (M.1 41) s T n (i + 1) = (nI i, e_all (R_d (M.1 41) i) (M.1 41) s T n) from (if_neg z).trans (if_pos y)] at this
        exact this
      · refine p_t (by rw [i_le, x1]; exact y) (p_l ?_)
        rw [p_s1]
        have := ih (i + 1) fuel x.2 (by omega) (by omega) x2
        rw [show d_go (M.1 41) s T n (i + 1) = d_go (M.1 41) s T n i from (if_neg z).trans (if_neg y)] at this
        exact this
theorem m_dr25 {X : zM} {w : Nat → Int32} (hw : X.1 41 = w) (h33 : X.1 40 33 = 0) (hW : s_W K w n m) (hs : s < m) (hT : w (180 + 26 * s) = nI T) (hT12 : T ≤ 12) (hsn : ∀ t, t < T → e_s w s t = 0 ∨ e_s w s t = 1) : ∀ e i fuel (N : zM), i + e = n → e < fuel → r_F X N →
    p_ok (f_X11_drain_25 fuel (nI s) (d_go w s T n i).1 (d_go w s T n i).2 (nI i) N) (fun x => x.1 = (d_go w s T n n).1 ∧ r_F X x.2) := by
  have hn10 := hW.1.2.1
  have hm10 := hW.1.2.2.2
  intro e
  induction e with
  | zero =>
    intro i fuel Q h1 h2 hQ
    obtain ⟨fuel, rfl⟩ : ∃ m, fuel = m + 1 := ⟨fuel - 1, by omega⟩
    have : i = n := by omega
    subst this
    rw [f_X11_drain_25]
    refine p_t ?_ (p_some ⟨rfl, hQ⟩)
    rw [hQ.1 41 (by omega), hw, show Int32.toNatClampNeg (0 : Int32) = 0 from rfl, hW.1.1]
    exact nI_le (Nat.le_refl _) (by omega)
  | succ e ih =>
    intro i fuel Q h1 h2 hQ
    obtain ⟨fuel, rfl⟩ : ∃ m, fuel = m + 1 := ⟨fuel - 1, by omega⟩
    rw [f_X11_drain_25]
    refine p_f ?_ ?_
    · rw [hQ.1 41 (by omega), hw, show Int32.toNatClampNeg (0 : Int32) = 0 from rfl, hW.1.1]
      exact nI_ge (by omega) (by omega)
    rw [show f_X11_own (nI i) (4 : Int32) Q = _ from m_own (f := 4) (by omega) (by omega), Option.bind_some]
    have e4 : Q.1 41 (20 + 16 * i + 4) = w_r w i 4 := by rw [hQ.1 41 (by omega), hw]
    dsimp only
    by_cases z : w_r w i 4 = -1
    · refine p_t (by rw [e4]; exact z) (p_l ?_)
      rw [p_s1]
      have := ih (i + 1) fuel Q (by omega) (by omega) hQ
      rw [show d_go w s T n (i + 1) = d_go w s T n i from if_pos z] at this
      exact this
    · refine p_f (by rw [e4]; exact z) (p_bx (m_layT hQ hw hW.1.1 hn10) (fun A hA => p_g (p_ix (show i < 11 by omega) (by decide)) (p_lx (fun B hB => ?_))))
      obtain ⟨a1, a2, a3, a4, a5⟩ := hA
      rw [p_cl (by omega)] at hB
      have b1 : r_F X B := ⟨fun a ha => by rw [hB, p_nr (by omega)]; exact a1.1 a ha, fun j j1 j2 j3 j4 j5 => by rw [hB, p_ne (by omega)]; exact a1.2 j j1 j2 j3 j4 j5⟩
      refine p_bx (m_allT (R := R_d w i) b1 hw h33 (by omega) (by rw [hB, p_ne (by omega)]; exact a4) hn10 hT hT12 hsn ?_ (fun g hg j hj => ?_)) (fun x hx => ?_)
      · intro g hg
        show R_d w i g 4 = -1 ∨ ∃ e, g < e ∧ e < n ∧ R_d w i g 4 = nI e
        unfold R_d
        by_cases y : g = i
        · rw [if_pos ⟨y, rfl⟩]; exact Or.inl rfl
        · rw [if_neg (fun q => y q.1)]; exact hW.2.2.2.2.1 g hg
      · unfold R_d
        have := a5 g hg j hj
        have hj' := hj
        unfold h_im at hj'
        rcases hj' with rfl | rfl | rfl | rfl | rfl | rfl | rfl | rfl
        · rw [if_neg (by omega), ← this, hB]; exact p_ne (by decide) g
        · rw [if_neg (by omega), ← this, hB]; exact p_ne (by decide) g
        · show B.1 50 g = _
          rw [hB, p_eq]
          by_cases y : g = i
          · rw [if_pos y, if_pos ⟨y, rfl⟩]
          · rw [if_neg y, if_neg (fun q => y q.1), ← this]; rfl
        · rw [if_neg (by omega), ← this, hB]; exact p_ne (by decide) g
        · rw [if_neg (by omega), ← this, hB]; exact p_ne (by decide) g
        · rw [if_neg (by omega), ← this, hB]; exact p_ne (by decide) g
        · rw [if_neg (by omega), ← this, hB]; exact p_ne (by decide) g
        · rw [if_neg (by omega), ← this, hB]; exact p_ne (by decide) g
      obtain ⟨x1, x2, -⟩ := hx
      by_cases y : e_all (R_d w i) w s T n < (d_go w s T n i).2
      · refine p_t (by rw [x1]; exact y) (p_l ?_)
        rw [p_s1, x1]
        have := ih (i + 1) fuel x.2 (by omega) (by omega) x2
        rw [show d_go w s T n (i + 1) = (nI i, e_all (R_d w i) w s T n) from (if_neg z).trans (if_pos y)] at this
        exact this
      · refine p_f (by rw [x1]; exact y) (p_l ?_)
        rw [p_s1]
        have := ih (i + 1) fuel x.2 (by omega) (by omega) x2
        rw [show d_go w s T n (i + 1) = d_go w s T n i from (if_neg z).trans (if_neg y)] at this
        exact this
end DR
/-- a storm's number, on both sides -/
theorem t_st {K n m : Nat} {M : zM} {a : Int32} (hW : s_W K (M.1 41) n m) (hC : s_C 1 M (M.1 41) n m) : (f_X10_isStorm a M = some (0, M) ∧ ∀ N : zM, N.1 41 = M.1 41 → f_X11_isStorm a N = some (0, N)) ∨ ∃ s, s < m ∧ s < 10 ∧ a = nI s ∧ (∀ Q : zM, Q.1 1 = M.1 1 → f_X10_isStorm a Q = some (1, Q)) ∧ (∀ N : zM, N.1 41 = M.1 41 → f_X11_isStorm a N = some (1, N)) := by
  have hm10 := hW.1.2.2.2
  have hm := (c_cnt hW hC).2
  by_cases c : ¬ a < 0 ∧ ¬ (nI m - 1) < a
  · obtain ⟨s, hs, rfl⟩ := i_nat (by omega) c.1 c.2
    exact Or.inr ⟨s, hs, by omega, rfl, fun Q hQ => by rw [c_isS, hQ, hm, if_pos c], fun N hN => by rw [m_isS, hN, hW.1.2.2.1, if_pos c]⟩
  · exact Or.inl ⟨by rw [c_isS, hm, if_neg c], fun N hN => by rw [m_isS, hN, hW.1.2.2.1, if_neg c]⟩
/-- drain -/
theorem p_drain {K : Nat} {M : zM} {a : Int32} (h : s_I K M) : p_2 K (f_X10_drain a M) (f_X11_drain a) := by
  obtain ⟨n, m, hW, hC⟩ := h.1
  have hn10 := hW.1.2.1
  rcases t_st (a := a) hW hC with ⟨c1, c2⟩ | ⟨s, hs, hs10, rfl, c1, c2⟩
  · refine p_same (v := -1) h ?_ ?_
    · unfold f_X10_drain; rw [c1]; rfl
    · unfold f_X11_drain; rw [c2 M rfl]; rfl
  obtain ⟨T, T1, T2, T3, hX, hsn⟩ := t_X_of hW hC (t_F_rfl M) hs
  unfold f_X10_drain
  rw [c1 M rfl, Option.bind_some, if_neg b_1z]
  refine p_g (p_ix hs10 (by decide)) (p_l ?_)
  rw [p_cl (by omega), c_ra9]
  refine p_bx (c_asNow hW hC hX (t_F_rfl M)) (fun x hx => ?_)
  obtain ⟨x1, x2⟩ := hx
  rw [x1]
  refine p_w (c_dr32 hW hC hX n 0 z_F x.2 (by omega) (by unfold z_F; omega) x2) ?_
  rintro ⟨v, X⟩ ⟨y1, y2⟩
  dsimp only at y1 y2 ⊢
  have e41 : X.1 41 = M.1 41 := y2 41 (by omega)
  have e33 : X.1 40 33 = 0 := by rw [y2 40 (by omega)]; exact h.2.2.2.2
  unfold f_X11_drain
  rw [c2 X e41, Option.bind_some, if_neg b_1z]
  refine p_bx (m_layT (r_F_rfl X) e41 hW.1.1 hn10) (fun A hA => ?_)
  obtain ⟨a1, a2, a3, a4, a5⟩ := hA
  refine p_bx (m_allT (R := w_r (M.1 41)) a1 e41 e33 hs10 a4 hn10 T3 T2 hsn hW.2.2.2.2.1 a5) (fun y hy => ?_)
  obtain ⟨y3, y4, -⟩ := hy
  rw [y3]
  refine p_w (m_dr25 e41 e33 hW hs T3 T2 hsn n 0 z_F y.2 (by omega) (by unfold z_F; omega) y4) ?_
  rintro z ⟨z1, z2⟩
  exact ⟨by rw [y1, z1], s_I_th h y2 z2⟩
