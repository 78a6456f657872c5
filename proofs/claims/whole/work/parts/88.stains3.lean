/-! STAINS: the class's loop over the storms, the reference, the call -/
def st_T (w : Nat → Int32) (s : Nat) : Nat := Int32.toNatClampNeg (w (180 + 26 * s))
abbrev st_g (w : Nat → Int32) (n q : Nat) : Nat → Nat → Bool := fun s => st_good w s (st_T w s) n q
def st_E (M : zM) (w : Nat → Int32) (n q : Nat) (X : zM) : Prop := t_F M X ∧ (X.1 5 0 = nI n ∧ X.1 5 1 = w 6) ∧ (∀ g, g < n → ∀ j, st_j j → X.1 (c_H 5 g) j = w_r w g j) ∧ X.1 39 0 = nI q
abbrev a_k53 : Type := Int32 → Int32 → Int32 → Int32 → Int32 → Int32 → Int32 → Int32 → zM → Option (Int32 × zM)
abbrev a_k67 : Type := Int32 → Int32 → Int32 → Int32 → Int32 → Int32 → Int32 → Int32 → Int32 → zM → Option (Int32 × zM)
section SM
variable {K n m s T q : Nat} {M X : zM} {w : Nat → Int32} {what : Int32}
theorem st_36 (hw : M.1 41 = w) (hW : s_W K w n m) (hC : s_C 1 M w n m) (hn8 : n ≤ 8) (hq : q < 2 ^ n) : ∀ e s fuel (X : zM), s + e = m → e < fuel → st_E M w n q X → a_is X (a_X n (st_g w n q) s) →
    p_ok (f_X6_explain_36 fuel 1 5 (nI s) X) (fun Y => t_F M Y ∧ a_is Y (a_X n (st_g w n q) m)) := by
  have hm10 := hW.1.2.2.2
  have hp8 := a_p8 hn8
  intro e
  induction e with
  | zero =>
    intro s fuel X h1 h2 hE hx
    obtain ⟨fuel, rfl⟩ : ∃ m, fuel = m + 1 := ⟨fuel - 1, by omega⟩
    have : s = m := by omega
    subst this
    rw [f_X6_explain_36]
    refine p_t ?_ (p_some ⟨hE.1, hx⟩)
    rw [hE.1 1 (by omega), (c_cnt hW hC).2]
    exact nI_le (Nat.le_refl _) (by omega)
  | succ e ih =>
    intro s fuel X h1 h2 hE hx
    obtain ⟨fuel, rfl⟩ : ∃ m, fuel = m + 1 := ⟨fuel - 1, by omega⟩
    obtain ⟨E1, E2, E3, E4⟩ := hE
    rw [f_X6_explain_36]
    refine p_f ?_ (p_lx (fun A eA => p_g (p_ix (show s < 10 by omega) (by decide)) ?_))
    · rw [E1 1 (by omega), (c_cnt hW hC).2]
      exact nI_ge (by omega) (by omega)
    rw [p_cl (by omega), c_ra9]
    obtain ⟨T, T1, T2, T3, T4, T5⟩ := t_X_of (X := M) hW hC (t_F_rfl M) (show s < m by omega)
    have eT : st_T w s = T := by unfold st_T; rw [T3, p_cl (by omega)]
    have aO : ∀ a, a ≠ 39 → A.1 a = X.1 a := fun a ha => by rw [eA, p_nr ha]
    have a39 : ∀ j, j ≠ 5 → A.1 39 j = X.1 39 j := fun j hj => by rw [eA, p_eq, if_neg hj]
    have hJ : st_J M w n s T q 0 0 A := ⟨fun a ha => by rw [aO a (by omega)]; exact E1 a ha, by rw [aO 5 (by omega)]; exact E2, fun g hg j hj => by rw [aO _ (by unfold c_H; omega)]; exact E3 g hg j hj, fun g hg => absurd hg (Nat.not_lt_zero g), by rw [a39 0 (by omega)]; exact E4, by rw [eA, p_eq, if_pos rfl]⟩
    have hA : a_is A (a_X n (st_g w n q) s) := by
      unfold a_is
      rw [a39 1 (by omega), a39 2 (by omega), a39 3 (by omega), a39 4 (by omega)]
      exact hx
    have cnt := a_XY hn8 (st_g w n q) s (by omega)
    have key := st_try hn8 hq T4 n 0 0 10 A (a_X n (st_g w n q) s) (by omega) (by omega) (by decide) hJ hA (by rw [cnt.1]; omega) (by show 0 = q % 2 ^ 0; omega)
    rw [nI_0] at key
    refine p_bx key (fun Y hY => p_l ?_)
    obtain ⟨⟨j1, j2, j3, j4, j5, j6⟩, y2, y3⟩ := hY
    rw [p_s1]
    refine ih (s + 1) fuel Y (by omega) (by omega) ⟨j1, j2, j3, j5⟩ ?_
    show a_is Y (a_fold s (st_g w n q s) (a_X n (st_g w n q) s) (a_L n 0 0))
    rw [show st_g w n q s = st_good w s T n q from by show st_good w s (st_T w s) n q = _; rw [eT]]
    exact y3
theorem st_explain (hw : M.1 41 = w) (hW : s_W K w n m) (hC : s_C 1 M w n m) (hn8 : n ≤ 8) (hq : q < 2 ^ n) : p_ok (f_X6_explain (nI q) 1 5 M) (fun Y => t_F M Y ∧ a_is Y (a_X n (st_g w n q) m)) := by
  unfold f_X6_explain
  refine p_lx (fun A eA => p_lx (fun B eB => p_lx (fun C eC => p_lx (fun D eD => p_lx (fun E eE => ?_)))))
  have eO : ∀ a, a ≠ 39 → E.1 a = M.1 a := fun a ha => by rw [eE, p_nr ha, eD, p_nr ha, eC, p_nr ha, eB, p_nr ha, eA, p_nr ha]
  have e0 : E.1 39 0 = nI q := by rw [eE, p_eq, if_neg (by decide), eD, p_eq, if_neg (by decide), eC, p_eq, if_neg (by decide), eB, p_eq, if_neg (by decide), eA, p_eq, if_pos rfl]
  have e1 : E.1 39 1 = 0 := by rw [eE, p_eq, if_neg (by decide), eD, p_eq, if_neg (by decide), eC, p_eq, if_neg (by decide), eB, p_eq, if_pos rfl]
  have e2 : E.1 39 2 = -1 := by rw [eE, p_eq, if_neg (by decide), eD, p_eq, if_neg (by decide), eC, p_eq, if_pos rfl]
  have e3 : E.1 39 3 = -1 := by rw [eE, p_eq, if_neg (by decide), eD, p_eq, if_pos rfl]
  have e4 : E.1 39 4 = 0 := by rw [eE, p_eq, if_pos rfl]
  have hF : t_F M E := fun a ha => eO a (by omega)
  refine p_bx (c_imgW hW hC hF) (fun Y hY => ?_)
  obtain ⟨y1, y2, y3, y4, y5⟩ := hY
  have y39 : Y.1 39 = E.1 39 := y2 39 (by omega) (by omega)
  rw [p_0]
  refine st_36 hw hW hC hn8 hq m 0 z_F Y (by omega) (by have := hW.1.2.2.2; unfold z_F; omega) ⟨y1, ⟨y3, y4⟩, fun g hg j hj => y5 g hg j (by unfold st_j at hj; unfold h_im; omega), by rw [y39]; exact e0⟩ ?_
  unfold a_is
  rw [y39]
  exact ⟨e1, e2, e3, e4⟩
theorem ms_147 {ov : Nat → Int32} {N : zM} {x : a_St} {c : Nat} {K53 : a_k53} {K67 : a_k67} {P : Int32 × zM → Prop} (hn8 : n ≤ 8) (hq : q < 2 ^ n) (hx : x.1 < 100000) (hov : ∀ g, g < n → N.1 56 g = ov g)
    (hK : ∀ y : a_St, y = (if a_wet ov n = q then a_rt s x c else x) → p_ok (K67 (nI q) what (nI n) (nI y.1) y.2.1 y.2.2.1 y.2.2.2 (nI s) (nI (c + 1)) N) P) : ∀ e i fuel, i + e = n → e < fuel →
    p_ok (f_X11_stains_147 K53 K67 fuel (nI q) what (nI n) (nI x.1) x.2.1 x.2.2.1 x.2.2.2 (nI s) (nI c) (nI (a_wet ov i)) (nI i) N) P := by
  have hp8 := a_p8 hn8
  intro e
  induction e with
  | zero =>
    intro i fuel h1 h2
    obtain ⟨fuel, rfl⟩ : ∃ m, fuel = m + 1 := ⟨fuel - 1, by omega⟩
    have : i = n := by omega
    subst this
    have hl := a_wet_lt ov i
    rw [f_X11_stains_147]
    refine p_t (nI_le (Nat.le_refl _) (by omega)) ?_
    by_cases z : a_wet ov i = q
    · refine p_t (by rw [z]) ?_
      have k := hK (a_rt s x c) (by rw [if_pos z])
      unfold a_rt at k
      dsimp only at k
      by_cases y : x.1 = 0
      · have y0 : nI x.1 = 0 := by rw [y]; rfl
        rw [if_pos y, if_pos y, if_pos y] at k
        refine p_t y0 (p_t y0 ?_)
        unfold f_X11_stains_220
        refine p_t y0 (p_l (p_l ?_))
        rw [p_s1, p_s1]
        exact k
      · have y0 : ¬ nI x.1 = 0 := nI_ne0 (by omega) (by omega)
        rw [if_neg y, if_neg y, if_neg y] at k
        refine p_f y0 (p_l (p_f y0 ?_))
        unfold f_X11_stains_220
        refine p_f y0 (p_l (p_l ?_))
        rw [p_s1, p_s1]
        exact k
    · refine p_f (fun e => z (n_inj (by omega) (by omega) e)) (p_l ?_)
      rw [p_s1]
      exact hK x (by rw [if_neg z])
  | succ e ih =>
    intro i fuel h1 h2
    obtain ⟨fuel, rfl⟩ : ∃ m, fuel = m + 1 := ⟨fuel - 1, by omega⟩
    rw [f_X11_stains_147]
    refine p_f (nI_ge (by omega) (by omega)) (p_g (p_ix (show i < 11 by omega) (by decide)) ?_)
    rw [p_cl (by omega), hov i (by omega)]
    have k := ih (i + 1) fuel (by omega) (by omega)
    by_cases z : ov i ≤ 0
    · refine p_t z (p_l (p_l ?_))
      rw [a_or0, p_s1]
      rw [show a_wet ov (i + 1) = a_wet ov i from by show a_wet ov i + (if ov i ≤ 0 then 0 else 2 ^ i) = _; rw [if_pos z]; rfl] at k
      exact k
    · refine p_f z (p_l (p_l ?_))
      rw [a_or (by omega) (a_wet_lt ov i), p_s1]
      rw [show a_wet ov (i + 1) = a_wet ov i + 2 ^ i from by show a_wet ov i + (if ov i ≤ 0 then 0 else 2 ^ i) = _; rw [if_neg z]] at k
      exact k
theorem ms_row {N N' : zM} {v : Int32} {i : Nat} (h51 : ∀ g, N'.1 51 g = if g = i then v else N.1 51 g) (h54 : ∀ g, N'.1 54 g = if g = i then 0 else N.1 54 g) (h55 : ∀ g, N'.1 55 g = if g = i then 0 else N.1 55 g) (ho : ∀ a, a ≠ 51 → a ≠ 54 → a ≠ 55 → N'.1 a = N.1 a) {g j : Nat} (hj : h_im j) : m_r N' g j = if g = i then (if j = 5 then v else if j = 8 ∨ j = 9 then 0 else m_r N g j) else m_r N g j := by
  rcases hj with rfl | rfl | rfl | rfl | rfl | rfl | rfl | rfl
  · show N'.1 48 g = if g = i then N.1 48 g else N.1 48 g
    rw [ho 48 (by decide) (by decide) (by decide), ite_self]
  · show N'.1 49 g = if g = i then N.1 49 g else N.1 49 g
    rw [ho 49 (by decide) (by decide) (by decide), ite_self]
  · show N'.1 50 g = if g = i then N.1 50 g else N.1 50 g
    rw [ho 50 (by decide) (by decide) (by decide), ite_self]
  · exact h51 g
  · show N'.1 52 g = if g = i then N.1 52 g else N.1 52 g
    rw [ho 52 (by decide) (by decide) (by decide), ite_self]
  · show N'.1 53 g = if g = i then N.1 53 g else N.1 53 g
    rw [ho 53 (by decide) (by decide) (by decide), ite_self]
  · exact h54 g
  · exact h55 g
theorem ms_82 {x : a_St} {c : Nat} {K53 : a_k53} {K67 : a_k67} {P : Int32 × zM → Prop} (hw : X.1 41 = w) (h33 : X.1 40 33 = 0) (hW : s_W K w n m) (hs : s < 10) (hT : w (180 + 26 * s) = nI T) (hT12 : T ≤ 12) (hsn : ∀ t, t < T → e_s w s t = 0 ∨ e_s w s t = 1) (hn8 : n ≤ 8) (hq : q < 2 ^ n) (hc : c < 2 ^ n) (hx : x.1 < 100000)
    (hK : ∀ (N : zM) (y : a_St), r_F X N → y = (if st_good w s T n q c = true then a_rt s x c else x) → p_ok (K67 (nI q) what (nI n) (nI y.1) y.2.1 y.2.2.1 y.2.2.2 (nI s) (nI (c + 1)) N) P) : ∀ e i fuel (N : zM), i + e = n → e < fuel → r_F X N → N.1 40 30 = nI n → (∀ g, g < n → ∀ j, h_im j → m_r N g j = if g < i then R_s w c g j else w_r w g j) →
    p_ok (f_X11_stains_82 K53 K67 fuel (nI q) what (nI n) (nI x.1) x.2.1 x.2.2.1 x.2.2.2 (nI s) (nI c) (nI i) N) P := by
  have hp8 := a_p8 hn8
  intro e
  induction e with
  | zero =>
    intro i fuel N h1 h2 hF hn hR
    obtain ⟨fuel, rfl⟩ : ∃ m, fuel = m + 1 := ⟨fuel - 1, by omega⟩
    have : i = n := by omega
    subst this
    rw [f_X11_stains_82]
    refine p_t (nI_le (Nat.le_refl _) (by omega)) ?_
    refine p_bx (m_allT (R := R_s w c) hF hw h33 hs hn (by omega) hT hT12 hsn (fun g hg => hW.2.2.2.2.1 g hg) (fun g hg j hj => by rw [hR g hg j hj, if_pos hg])) (fun y hy => ?_)
    obtain ⟨y1, y2, y3, y4, y5⟩ := hy
    have := ms_147 (K53 := K53) (K67 := K67) (what := what) (s := s) (c := c) (x := x) (P := P) (ov := e_ov (R_s w c) w s T) (N := y.2) hn8 hq hx (fun g hg => (y5 g hg).2.2) (fun z hz => hK y.2 z y2 (by rw [hz]; unfold st_good; simp only [decide_eq_true_eq])) i 0 z_F (by omega) (by unfold z_F; omega)
    exact this
  | succ e ih =>
    intro i fuel N h1 h2 hF hn hR
    obtain ⟨fuel, rfl⟩ : ∃ m, fuel = m + 1 := ⟨fuel - 1, by omega⟩
    rw [f_X11_stains_82]
    refine p_f (nI_ge (by omega) (by omega)) ?_
    rw [a_bit (by omega) (by omega)]
    have ecl : Int32.toNatClampNeg (nI i) = i := p_cl (by omega)
    have go : ∀ (v : Int32) (A B D : zM), v = (if c.testBit i then 10 else 0) → A = z_w N 51 i v → B = z_w A 54 i 0 → D = z_w B 55 i 0 → p_ok (f_X11_stains_82 K53 K67 fuel (nI q) what (nI n) (nI x.1) x.2.1 x.2.2.1 x.2.2.2 (nI s) (nI c) (nI (i + 1)) D) P := by
      intro v A B D hv eA eB eD
      have dO : ∀ a, a ≠ 51 → a ≠ 54 → a ≠ 55 → D.1 a = N.1 a := fun a a1 a2 a3 => by rw [eD, p_nr a3, eB, p_nr a2, eA, p_nr a1]
      refine ih (i + 1) fuel D (by omega) (by omega) (r_F_tr hF ⟨fun a ha => dO a (by omega) (by omega) (by omega), fun j _ _ _ _ _ => by rw [dO 40 (by omega) (by omega) (by omega)]⟩) (by rw [dO 40 (by omega) (by omega) (by omega)]; exact hn) (fun g hg j hj => ?_)
      rw [ms_row (N := N) (v := v) (i := i) (fun g => by rw [eD, p_ne (by decide), eB, p_ne (by decide), eA, p_eq]) (fun g => by rw [eD, p_ne (by decide), eB, p_eq, eA, p_ne (by decide)]) (fun g => by rw [eD, p_eq, eB, p_ne (by decide), eA, p_ne (by decide)]) dO hj, hR g hg j hj]
      by_cases z : g = i
      · subst z
        rw [if_pos rfl, if_pos (Nat.lt_succ_self g), if_neg (Nat.lt_irrefl g), hv]
        rfl
      · rw [if_neg z]
        by_cases y : g < i
        · rw [if_pos y, if_pos (by omega)]
        · rw [if_neg y, if_neg (by omega)]
    by_cases z : c.testBit i = true
    · rw [if_pos z] at go ⊢
      refine p_t rfl (p_g (p_ix (show i < 11 by omega) (by decide)) (p_lx (fun A eA => p_g (p_ix (show i < 11 by omega) (by decide)) (p_lx (fun B eB => p_g (p_ix (show i < 11 by omega) (by decide)) (p_lx (fun D eD => p_l ?_)))))))
      rw [p_s1]
      rw [ecl] at eA eB eD
      exact go 10 A B D rfl eA eB eD
    · rw [if_neg z] at go ⊢
      refine p_f (by decide) (p_g (p_ix (show i < 11 by omega) (by decide)) (p_lx (fun A eA => p_g (p_ix (show i < 11 by omega) (by decide)) (p_lx (fun B eB => p_g (p_ix (show i < 11 by omega) (by decide)) (p_lx (fun D eD => p_l ?_)))))))
      rw [p_s1]
      rw [ecl] at eA eB eD
      exact go 0 A B D rfl eA eB eD
theorem a_r_cnt {good : Nat → Bool} {x : a_St} : ∀ c, (a_r s good x c).1 ≤ x.1 + c := by
  intro c
  induction c with
  | zero => exact Nat.le_refl _
  | succ c ih =>
    rw [a_r]
    by_cases z : good c = true
    · rw [if_pos z]
      show (a_r s good x c).1 + 1 ≤ _
      omega
    · rw [if_neg z]; omega
theorem ms_67 {x : a_St} {K53 : a_k53} {P : Int32 × zM → Prop} (hw : X.1 41 = w) (h33 : X.1 40 33 = 0) (hW : s_W K w n m) (hs : s < 10) (hT : w (180 + 26 * s) = nI T) (hT12 : T ≤ 12) (hsn : ∀ t, t < T → e_s w s t = 0 ∨ e_s w s t = 1) (hn8 : n ≤ 8) (hq : q < 2 ^ n) (hx : x.1 < 90000)
    (hK : ∀ (N : zM) (y : a_St), r_F X N → y = a_r s (st_good w s T n q) x (2 ^ n) → p_ok (K53 (nI q) what (nI n) (nI y.1) y.2.1 y.2.2.1 y.2.2.2 (nI (s + 1)) N) P) : ∀ e c fuel (N : zM) (y : a_St), c + e = 2 ^ n → e < fuel → r_F X N → y = a_r s (st_good w s T n q) x c →
    p_ok (f_X11_stains_67 K53 fuel (nI q) what (nI n) (nI y.1) y.2.1 y.2.2.1 y.2.2.2 (nI s) (nI c) N) P := by
  have hp8 := a_p8 hn8
  intro e
  induction e with
  | zero =>
    intro c fuel N y h1 h2 hF hy
    obtain ⟨fuel, rfl⟩ : ∃ m, fuel = m + 1 := ⟨fuel - 1, by omega⟩
    have : c = 2 ^ n := by omega
    rw [f_X11_stains_67]
    refine p_t (by rw [a_sh (by omega), this]; exact nI_le (Nat.le_refl _) (by omega)) (p_l ?_)
    rw [p_s1]
    exact hK N y hF (by rw [hy, this])
  | succ e ih =>
    intro c fuel N y h1 h2 hF hy
    obtain ⟨fuel, rfl⟩ : ∃ m, fuel = m + 1 := ⟨fuel - 1, by omega⟩
    rw [f_X11_stains_67]
    refine p_f (by rw [a_sh (by omega)]; exact nI_ge (by omega) (by omega)) ?_
    refine p_bx (m_layT hF hw hW.1.1 hW.1.2.1) (fun A hA => ?_)
    obtain ⟨a1, a2, a3, a4, a5⟩ := hA
    have cnt := a_r_cnt (s := s) (good := st_good w s T n q) (x := x) c
    rw [← hy] at cnt
    rw [p_0]
    refine ms_82 hw h33 hW hs hT hT12 hsn hn8 hq (by omega) (by omega) (fun B z hB hz => ih (c + 1) fuel B z (by omega) (by omega) hB ?_) n 0 z_F A (by omega) (by unfold z_F; omega) a1 a4 (fun g hg j hj => by rw [if_neg (Nat.not_lt_zero g)]; exact a5 g hg j hj)
    rw [hz, hy]
    rfl
def st_ans (what : Int32) (x : a_St) : Int32 := if what = 0 then nI x.1 else if what = 1 then x.2.1 else if what = 2 then x.2.2.1 else x.2.2.2
theorem ms_53 (hw : X.1 41 = w) (h33 : X.1 40 33 = 0) (hW : s_W K w n m) (hn8 : n ≤ 8) (hq : q < 2 ^ n) : ∀ e s fuel (N : zM) (y : a_St), s + e = m → e < fuel → r_F X N → y = a_Y n (st_g w n q) s →
    p_ok (f_X11_stains_53 fuel (nI q) what (nI n) (nI y.1) y.2.1 y.2.2.1 y.2.2.2 (nI s) N) (fun r => r.1 = st_ans what (a_Y n (st_g w n q) m) ∧ r_F X r.2) := by
  have hp8 := a_p8 hn8
  have hm10 := hW.1.2.2.2
  intro e
  induction e with
  | zero =>
    intro s fuel N y h1 h2 hF hy
    obtain ⟨fuel, rfl⟩ : ∃ m, fuel = m + 1 := ⟨fuel - 1, by omega⟩
    have : s = m := by omega
    subst this
    rw [f_X11_stains_53]
    refine p_t (by rw [show Int32.toNatClampNeg (1 : Int32) = 1 from rfl, hF.1 41 (by omega), hw, hW.1.2.2.1]; exact nI_le (Nat.le_refl _) (by omega)) ?_
    rw [← hy]
    unfold st_ans
    by_cases z0 : what = 0
    · rw [if_pos z0, if_pos z0]; exact p_some ⟨rfl, hF⟩
    rw [if_neg z0, if_neg z0]
    by_cases z1 : what = 1
    · rw [if_pos z1, if_pos z1]; exact p_some ⟨rfl, hF⟩
    rw [if_neg z1, if_neg z1]
    by_cases z2 : what = 2
    · rw [if_pos z2, if_pos z2]; exact p_some ⟨rfl, hF⟩
    rw [if_neg z2, if_neg z2]
    exact p_some ⟨rfl, hF⟩
  | succ e ih =>
    intro s fuel N y h1 h2 hF hy
    obtain ⟨fuel, rfl⟩ : ∃ m, fuel = m + 1 := ⟨fuel - 1, by omega⟩
    rw [f_X11_stains_53]
    refine p_f (by rw [show Int32.toNatClampNeg (1 : Int32) = 1 from rfl, hF.1 41 (by omega), hw, hW.1.2.2.1]; exact nI_ge (by omega) (by omega)) ?_
    obtain ⟨⟨T, T1, T2, T3⟩, T4⟩ := hW.2.2.2.2.2 s (by omega)
    have eT : st_T w s = T := by unfold st_T; rw [T3, p_cl (by omega)]
    have eg : st_g w n q s = st_good w s T n q := by show st_good w s (st_T w s) n q = _; rw [eT]
    have cnt := (a_XY hn8 (st_g w n q) s (by omega)).2.2
    rw [← hy] at cnt
    rw [p_0]
    refine ms_67 (x := y) hw h33 hW (by omega) T3 T2 (fun t ht => (T4 t (by omega)).2) hn8 hq (by omega) (fun B z hB hz => ih (s + 1) fuel B z (by omega) (by omega) hB ?_) (2 ^ n) 0 z_F N y (by omega) (by unfold z_F; omega) hF rfl
    rw [hz, ← eg, hy]
    rfl
end SM
theorem st_told {X : zM} {x : a_St} {what : Int32} (h : a_is X x) : f_X6_told what X = some (st_ans what x, X) := by
  obtain ⟨h1, h2, h3, h4⟩ := h
  unfold f_X6_told st_ans
  by_cases z0 : what = 0
  · rw [if_pos z0, if_pos z0, h1]
  rw [if_neg z0, if_neg z0]
  by_cases z1 : what = 1
  · rw [if_pos z1, if_pos z1, h2]
  rw [if_neg z1, if_neg z1]
  by_cases z2 : what = 2
  · rw [if_pos z2, if_pos z2, h3]
  rw [if_neg z2, if_neg z2, h4]
/-- stains -/
theorem p_stains {K : Nat} {M : zM} {a b : Int32} (h : s_I K M) : p_2 K (f_X10_stains a b M) (f_X11_stains a b) := by
  obtain ⟨n, m, hW, hC⟩ := h.1
  have hn10 := hW.1.2.1
  have e3 := (c_cnt hW hC).1
  have z0 : Int32.toNatClampNeg (0 : Int32) = 0 := rfl
  by_cases hn8 : n ≤ 8
  · have c8 : ¬ (8 : Int32) < nI n := nI_nlt (a := 8) (by omega) (by omega)
    have hp8 := a_p8 hn8
    by_cases ca : ¬ a < 0 ∧ ¬ (nI (2 ^ n) - 1) < a
    · obtain ⟨q, hq, rfl⟩ := i_nat (by omega) ca.1 ca.2
      by_cases cb : ¬ b < 0 ∧ ¬ (3 : Int32) < b
      · unfold f_X10_stains
        rw [e3, a_sh (by omega), c_w, if_neg c8, Option.bind_some, if_pos ca]
        dsimp only
        rw [if_neg b_1z, c_w, Option.bind_some, if_pos cb]
        dsimp only
        rw [if_neg b_1z]
        refine p_bx (st_explain rfl hW hC hn8 hq) (fun Y hY => ?_)
        obtain ⟨y1, y2⟩ := hY
        rw [st_told y2, Option.bind_some]
        refine p_some ?_
        dsimp only
        have e41 : Y.1 41 = M.1 41 := y1 41 (by omega)
        have e33 : Y.1 40 33 = 0 := by rw [y1 40 (by omega)]; exact h.2.2.2.2
        unfold f_X11_stains
        rw [z0, e41, hW.1.1]
        refine p_l (p_f c8 ?_)
        rw [a_sh (by omega), m_w, Option.bind_some, if_pos ca]
        dsimp only
        rw [if_neg b_1z, m_w, Option.bind_some, if_pos cb]
        dsimp only
        rw [if_neg b_1z]
        have key := ms_53 (what := b) e41 e33 hW hn8 hq m 0 z_F Y (0, -1, -1, 0) (by omega) (by have := hW.1.2.2.2; unfold z_F; omega) (r_F_rfl Y) rfl
        refine p_w key ?_
        rintro z ⟨z1, z2⟩
        refine ⟨?_, s_I_th h y1 z2⟩
        rw [z1, (a_XY hn8 (st_g (M.1 41) n q) m hW.1.2.2.2).1]
      · refine p_same (v := -2) h ?_ ?_
        · unfold f_X10_stains
          rw [e3, a_sh (by omega), c_w, if_neg c8, Option.bind_some, if_pos ca]
          dsimp only
          rw [if_neg b_1z, c_w, Option.bind_some, if_neg cb]
          rfl
        · unfold f_X11_stains z_l
          rw [z0, hW.1.1]
          dsimp only
          rw [a_sh (by omega), m_w, if_neg c8, Option.bind_some, if_pos ca]
          dsimp only
          rw [if_neg b_1z, m_w, Option.bind_some, if_neg cb]
          rfl
    · refine p_same (v := -2) h ?_ ?_
      · unfold f_X10_stains
        rw [e3, a_sh (by omega), c_w, if_neg c8, Option.bind_some, if_neg ca]
        rfl
      · unfold f_X11_stains z_l
        rw [z0, hW.1.1]
        dsimp only
        rw [a_sh (by omega), m_w, if_neg c8, Option.bind_some, if_neg ca]
        rfl
  · have c8 : (8 : Int32) < nI n := nI_lt (a := 8) (by omega) (by omega)
    refine p_same (v := -2) h ?_ ?_
    · unfold f_X10_stains
      rw [e3, if_pos c8]
    · unfold f_X11_stains z_l
      rw [z0, hW.1.1]
      dsimp only
      rw [if_pos c8]
