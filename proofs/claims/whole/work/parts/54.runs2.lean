theorem n_m1 {g : Nat} (h : g < 2 ^ 31) : ¬ nI g = -1 := by
  intro e
  have h1 := nI_toInt h
  rw [e] at h1
  have h2 : (-1 : Int32).toInt = -1 := by decide
  omega
theorem i_add0 (a : Int32) : a + 0 = a := Int32.add_zero a
section MR2
variable {M : zM} {s n T : Nat}
/-- the links of the street: into the cistern, or on a greater number -/
def m_L (nx : Nat → Int32) (n : Nat) : Prop := ∀ h, h < n → nx h = -1 ∨ ∃ e, h < e ∧ e < n ∧ nx h = nI e
theorem m_r193 (hn10 : n ≤ 10) (hL : m_L (M.1 50) n) {t h : Nat} (ht : t < 12) (hh : h < n) {K37 : Int32 → Int32 → Int32 → zM → Option (Int32 × zM)} {K75 : Int32 → Int32 → Int32 → Int32 → zM → Option (Int32 × zM)} {P : Int32 × zM → Prop} {N : zM}
    (h0 : N.2 = M.2) (h1 : ∀ a, a ≠ 40 → a ≠ 41 → a ≠ 54 → a ≠ 55 → a ≠ 56 → a ≠ 57 → N.1 a = M.1 a) (h2 : ∀ j, j ≠ 31 → j ≠ 32 → N.1 40 j = M.1 40 j)
    (h3 : N.1 40 31 = q_ac (q_tot (m_DR M s) n t) (m_DR M s t) h) (h4 : N.1 40 32 = q_ac (q_tot (m_FE M s) n t) (m_FE M s t) (h + 1))
    (h5 : ∀ j, (j < 440 ∨ 800 ≤ j) → N.1 41 j = M.1 41 j) (h6 : M.1 40 33 = 0 → N.1 41 = M.1 41)
    (h7 : ¬ M.1 40 33 = 0 → ∀ g u, g < n → (u < t ∨ (u = t ∧ g < h)) → N.1 41 (440 + 3 * (12 * g + u)) = m_got M s g u ∧ N.1 41 (440 + 3 * (12 * g + u) + 1) = m_car M s g u ∧ N.1 41 (440 + 3 * (12 * g + u) + 2) = m_spl M s g u)
    (h8 : ∀ g, g < n → N.1 54 g = (m_hs M s g (if g < h then t + 1 else t)).1 ∧ N.1 55 g = (m_hs M s g (if g < h + 1 then t + 1 else t)).2 ∧ N.1 56 g = m_ov M s g (if g < h then t + 1 else t))
    (hJ : m_J M s n t h N)
    (hK : ∀ N', m_I M s n t (h + 1) N' → m_J M s n t (h + 1) N' → p_ok (K75 (nI s) (q_ac (q_tot (m_SP M s) n t) (m_SP M s t) (h + 1)) (nI t) (nI (h + 1)) N') P) :
    p_ok (f_X11_runs_193 K37 K75 (nI s) (q_ac (q_tot (m_SP M s) n t) (m_SP M s t) h) (nI t) (nI h) (m_A M s h t + (q_land (M.1 48 h) (M.1 41 6) (m_fl M s t) (m_sn M s t) (m_hs M s h t).2).1) N) P := by
  have ecl : Int32.toNatClampNeg (nI h) = h := p_cl (by omega)
  have g11 := p_ix (show h < 11 by omega) (show 11 < 2 ^ 31 by decide)
  unfold f_X11_runs_193
  refine p_bx (R := fun x => x = _) ⟨_, m_gets (by omega), rfl⟩ (fun x1 e1 => ?_)
  have h54 : N.1 54 h = (m_hs M s h t).1 := by rw [(h8 h hh).1, if_neg (by omega)]
  rw [h1 52 (by decide) (by decide) (by decide) (by decide) (by decide) (by decide), h1 53 (by decide) (by decide) (by decide) (by decide) (by decide) (by decide), h54] at e1
  have a1 : x1.1 = m_got M s h t := by rw [e1]; rfl
  have m1 : x1.2 = z_w N 54 h (m_hs M s h (t + 1)).1 := by rw [e1]; rfl
  refine p_g g11 (p_g g11 ?_)
  refine p_bx (R := fun x => x = _) ⟨_, m_least _ _ _, rfl⟩ (fun x4 e4 => ?_)
  rw [ecl] at e4
  have a4 : x4.1 = m_car M s h t := by
    rw [e4]
    show q_mn x1.1 (x1.2.1 49 h * (10 - x1.2.1 51 h) / 10) = _
    rw [a1, m1, p_ne (by decide), p_ne (by decide), h1 49 (by decide) (by decide) (by decide) (by decide) (by decide) (by decide), h1 51 (by decide) (by decide) (by decide) (by decide) (by decide) (by decide)]
    rfl
  have m4 : x4.2 = x1.2 := by rw [e4]
  refine p_g g11 (p_g g11 (p_lx (fun M7 e7 => ?_)))
  rw [ecl, a1, a4, m4, m1, p_ne (by decide), (h8 h hh).2.2, if_neg (by omega)] at e7
  have e7' : M7 = z_w (z_w N 54 h (m_hs M s h (t + 1)).1) 56 h (m_ov M s h (t + 1)) := e7
  clear e7
  rw [a1, a4]
  refine p_l (p_g g11 ?_)
  have f50 : M7.1 50 = M.1 50 := by rw [e7', p_nr (by decide), p_nr (by decide), h1 50 (by decide) (by decide) (by decide) (by decide) (by decide) (by decide)]
  have k8 : ∀ g, g < n → M7.1 54 g = (m_hs M s g (if g < h + 1 then t + 1 else t)).1 ∧ M7.1 55 g = (m_hs M s g (if g < h + 1 then t + 1 else t)).2 ∧ M7.1 56 g = m_ov M s g (if g < h + 1 then t + 1 else t) := fun g hg => by
    rw [e7', p_ne (by decide), p_eq, p_ne (by decide), p_ne (by decide), p_eq, p_ne (by decide)]
    by_cases e : g = h
    · subst e
      rw [if_pos rfl, if_pos rfl, if_pos (Nat.lt_succ_self g)]
      refine ⟨rfl, ?_, rfl⟩
      have := (h8 g hg).2.1
      rw [if_pos (Nat.lt_succ_self g)] at this
      exact this
    · rw [if_neg e, if_neg e]
      obtain ⟨b1, b2, b3⟩ := h8 g hg
      by_cases q : g < h
      · rw [if_pos q] at b1 b3
        rw [if_pos (show g < h + 1 by omega)] at b2 ⊢
        exact ⟨b1, b2, b3⟩
      · rw [if_neg q] at b1 b3
        rw [if_neg (show ¬ g < h + 1 by omega)] at b2 ⊢
        exact ⟨b1, b2, b3⟩
  have k57 : M7.1 57 = N.1 57 := by rw [e7', p_nr (by decide), p_nr (by decide)]
  have k41 : M7.1 41 = N.1 41 := by rw [e7', p_nr (by decide), p_nr (by decide)]
  have k40 : M7.1 40 = N.1 40 := by rw [e7', p_nr (by decide), p_nr (by decide)]
  have k2 : M7.2 = M.2 := by rw [e7', p_w2, p_w2, h0]
  have ko : ∀ a, a ≠ 40 → a ≠ 41 → a ≠ 54 → a ≠ 55 → a ≠ 56 → a ≠ 57 → M7.1 a = M.1 a := fun a b1 b2 b3 b4 b5 b6 => by rw [e7', p_nr b5, p_nr b3]; exact h1 a b1 b2 b3 b4 b5 b6
  refine p_if (fun c => p_lx (fun M16 e16 => ?_)) (fun c => ?_)
  · rw [ecl, f50] at c
    refine m_r296 hn10 ht hh (by rw [e16, p_w2]; exact k2) (fun a b1 b2 b3 b4 b5 b6 => by rw [e16, p_nr b1]; exact ko a b1 b2 b3 b4 b5 b6) (fun j j1 j2 => by rw [e16, p_eq, if_neg j1, k40]; exact h2 j j1 j2) ?_ (by rw [e16, p_eq, if_neg (by decide), k40]; exact h4) (fun j hj => by rw [e16, p_ne (by decide), k41]; exact h5 j hj) (fun q => by rw [e16, p_nr (by decide), k41]; exact h6 q) (fun q g u hg hu => by rw [e16, p_ne (by decide), p_ne (by decide), p_ne (by decide), k41]; exact h7 q g u hg hu) (fun g hg => by rw [e16, p_ne (by decide), p_ne (by decide), p_ne (by decide)]; exact k8 g hg) (fun g g1 g2 => ?_) hK
    · rw [e16, p_eq, if_pos rfl, k40, h3]
      show _ = _ + (if M.1 50 h = -1 then m_car M s h t else 0)
      rw [if_pos c]
    · rw [e16, p_ne (by decide), k57, hJ g (by omega) g2]
      show _ = if m_r M h 4 = nI g then _ else _
      rw [if_neg (fun q => n_m1 (show g < 2 ^ 31 by omega) (q.symm.trans c))]
  · rw [ecl, f50] at c
    obtain ⟨e, he1, he2, he3⟩ := (hL h hh).resolve_left c
    have ece : Int32.toNatClampNeg (nI e) = e := p_cl (by omega)
    have ge := p_ix (show e < 11 by omega) (show 11 < 2 ^ 31 by decide)
    refine p_g g11 (p_lx (fun v12 e12 => ?_))
    rw [ecl, f50, he3] at e12
    subst e12
    refine p_g ge (p_g ge (p_lx (fun M15 e15 => ?_)))
    rw [ece, k57, hJ e (by omega) he2] at e15
    refine m_r296 hn10 ht hh (by rw [e15, p_w2]; exact k2) (fun a b1 b2 b3 b4 b5 b6 => by rw [e15, p_nr b6]; exact ko a b1 b2 b3 b4 b5 b6) (fun j j1 j2 => by rw [e15, p_ne (by decide), k40]; exact h2 j j1 j2) ?_ (by rw [e15, p_ne (by decide), k40]; exact h4) (fun j hj => by rw [e15, p_ne (by decide), k41]; exact h5 j hj) (fun q => by rw [e15, p_nr (by decide), k41]; exact h6 q) (fun q g u hg hu => by rw [e15, p_ne (by decide), p_ne (by decide), p_ne (by decide), k41]; exact h7 q g u hg hu) (fun g hg => by rw [e15, p_ne (by decide), p_ne (by decide), p_ne (by decide)]; exact k8 g hg) (fun g g1 g2 => ?_) hK
    · rw [e15, p_ne (by decide), k40, h3]
      show _ = _ + (if M.1 50 h = -1 then m_car M s h t else 0)
      rw [if_neg c, i_add0]
    · rw [e15, p_eq, k57, hJ g (by omega) g2]
      show _ = if m_r M h 4 = nI g then _ else _
      by_cases q : g = e
      · subst q
        rw [if_pos rfl, if_pos (show m_r M h 4 = nI g from he3), q_C_eq]
      · rw [if_neg q, if_neg (fun z => q (n_inj (by omega) (by omega) (z.symm.trans he3)))]
/-- houses of an hour -/
theorem m_r75 (hs : s < 10) (hn10 : n ≤ 10) (hn : M.1 40 30 = nI n) (hL : m_L (M.1 50) n) {t : Nat} (ht : t < 12) (hsn : m_sn M s t = 0 ∨ m_sn M s t = 1) {K37 : Int32 → Int32 → Int32 → zM → Option (Int32 × zM)} {P : Int32 × zM → Prop}
    (hK : ∀ N', m_I M s n (t + 1) 0 N' → p_ok (K37 (nI s) (q_tot (m_SP M s) n (t + 1)) (nI (t + 1)) N') P) : ∀ (d h m : Nat) (N : zM), h + d = n → d < m → m_I M s n t h N → m_J M s n t h N →
    p_ok (f_X11_runs_75 K37 m (nI s) (q_ac (q_tot (m_SP M s) n t) (m_SP M s t) h) (nI t) (nI h) N) P := by
  intro d
  induction d with
  | zero =>
    intro h m N hhd hm hI hJ
    obtain ⟨m, rfl⟩ : ∃ q, m = q + 1 := ⟨m - 1, by omega⟩
    have : h = n := by omega
    subst this
    obtain ⟨h0, h1, h2, h3, h4, h5, h6, h7, h8⟩ := hI
    rw [f_X11_runs_75]
    refine p_t (by rw [h2 30 (by decide) (by decide), hn]; exact nI_le (Nat.le_refl _) (by omega)) (p_l ?_)
    rw [p_s1]
    refine hK N ⟨h0, h1, h2, h3, h4, h5, h6, fun q g u hg hu => h7 q g u hg (by omega), fun g hg => ?_⟩
    have := h8 g hg
    rw [if_pos hg] at this
    rw [if_neg (Nat.not_lt_zero g)]
    exact this
  | succ d ih =>
    intro h m N hhd hm hI hJ
    obtain ⟨m, rfl⟩ : ∃ q, m = q + 1 := ⟨m - 1, by omega⟩
    obtain ⟨h0, h1, h2, h3, h4, h5, h6, h7, h8⟩ := id hI
    have ecl : Int32.toNatClampNeg (nI h) = h := p_cl (by omega)
    have g11 := p_ix (show h < 11 by omega) (show 11 < 2 ^ 31 by decide)
    have hh : h < n := by omega
    rw [f_X11_runs_75]
    refine p_f (by rw [h2 30 (by decide) (by decide), hn]; exact nI_ge (by omega) (by omega)) ?_
    rw [m_fall hs ht, Option.bind_some]
    dsimp only
    refine p_g g11 (p_lx (fun v5 e5 => p_g g11 (p_lx (fun v7 e7 => p_lx (fun M8 e8 => ?_)))))
    rw [ecl, h5 _ (by omega), h1 48 (by decide) (by decide) (by decide) (by decide) (by decide) (by decide)] at e5
    rw [ecl, hJ h (Nat.le_refl _) hh] at e7
    have e7' : v7 = m_A M s h t := e7
    rw [h4, e5] at e8
    have e8' : M8 = z_w N 40 32 (q_ac (q_tot (m_FE M s) n t) (m_FE M s t) (h + 1)) := e8
    rw [m_snow hs ht, Option.bind_some]
    dsimp only
    have s1 : M8.1 41 (193 + 26 * s + t) = m_sn M s t := by rw [e8', p_ne (by decide)]; exact h5 _ (by omega)
    have w6 : M8.1 41 6 = M.1 41 6 := by rw [e8', p_ne (by decide)]; exact h5 _ (by omega)
    have h55 : M8.1 55 h = (m_hs M s h t).2 := by rw [e8', p_ne (by decide), (h8 h hh).2.1, if_neg (by omega)]
    have h48 : M8.1 48 h = M.1 48 h := by rw [e8', p_ne (by decide), h1 48 (by decide) (by decide) (by decide) (by decide) (by decide) (by decide)]
    have key : ∀ N2 : zM, N2 = z_w M8 55 h (m_hs M s h (t + 1)).2 → p_ok (f_X11_runs_193 K37 (f_X11_runs_75 K37 m) (nI s) (q_ac (q_tot (m_SP M s) n t) (m_SP M s t) h) (nI t) (nI h) (m_A M s h t + (q_land (M.1 48 h) (M.1 41 6) (m_fl M s t) (m_sn M s t) (m_hs M s h t).2).1) N2) P := fun N2 eN => by
      refine m_r193 hn10 hL ht hh (by rw [eN, p_w2, e8', p_w2]; exact h0) (fun a b1 b2 b3 b4 b5 b6 => by rw [eN, p_nr b4, e8', p_nr b1]; exact h1 a b1 b2 b3 b4 b5 b6) (fun j j1 j2 => by rw [eN, p_ne (by decide), e8', p_eq, if_neg j2]; exact h2 j j1 j2) (by rw [eN, p_ne (by decide), e8', p_eq, if_neg (by decide)]; exact h3) (by rw [eN, p_ne (by decide), e8', p_eq, if_pos rfl]) (fun j hj => by rw [eN, p_ne (by decide), e8', p_ne (by decide)]; exact h5 j hj) (fun q => by rw [eN, p_nr (by decide), e8', p_nr (by decide)]; exact h6 q) (fun q g u hg hu => by rw [eN, p_ne (by decide), p_ne (by decide), p_ne (by decide), e8', p_ne (by decide), p_ne (by decide), p_ne (by decide)]; exact h7 q g u hg hu) (fun g hg => ?_) (fun g g1 g2 => by rw [eN, p_ne (by decide), e8', p_ne (by decide)]; exact hJ g g1 g2) (fun N' i1 i2 => ih (h + 1) m N' (by omega) (by omega) i1 i2)
      rw [eN, p_ne (by decide), p_eq, p_ne (by decide), e8', p_ne (by decide), p_ne (by decide), p_ne (by decide)]
      obtain ⟨b1, b2, b3⟩ := h8 g hg
      refine ⟨b1, ?_, b3⟩
      by_cases e : g = h
      · subst e
        rw [if_pos rfl, if_pos (Nat.lt_succ_self g)]
      · rw [if_neg e, b2]
        by_cases q : g < h
        · rw [if_pos q, if_pos (by omega)]
        · rw [if_neg q, if_neg (by omega)]
    rw [s1]
    rcases hsn with z | z
    · refine p_t (by rw [z]; decide) (p_g g11 (p_g g11 ?_))
      rw [m_least, Option.bind_some]
      dsimp only
      refine p_g g11 (p_g g11 (p_lx (fun M16 e16 => p_lx (fun v17 e17 => ?_))))
      rw [ecl, show Int32.toNatClampNeg (6 : Int32) = 6 from rfl, w6, h55, h48] at e16 e17
      have ep : (q_land (M.1 48 h) (M.1 41 6) (m_fl M s t) (m_sn M s t) (m_hs M s h t).2) = (m_fl M s t * M.1 48 h + q_mn (m_hs M s h t).2 (M.1 41 6 * M.1 48 h), (m_hs M s h t).2 - q_mn (m_hs M s h t).2 (M.1 41 6 * M.1 48 h)) := by unfold q_land; rw [if_pos z]
      have en : (m_hs M s h (t + 1)).2 = (q_land (M.1 48 h) (M.1 41 6) (m_fl M s t) (m_sn M s t) (m_hs M s h t).2).2 := rfl
      have := key M16 (by rw [e16, en, ep])
      rw [ep] at this
      rw [e17, e7', e5]
      exact this
    · refine p_f (by rw [z]; decide) (p_g g11 (p_g g11 (p_lx (fun M20 e20 => ?_))))
      rw [ecl, h55] at e20
      have ep : (q_land (M.1 48 h) (M.1 41 6) (m_fl M s t) (m_sn M s t) (m_hs M s h t).2) = (0, (m_hs M s h t).2 + m_fl M s t * M.1 48 h) := by unfold q_land; rw [if_neg (by rw [z]; decide)]
      have en : (m_hs M s h (t + 1)).2 = (q_land (M.1 48 h) (M.1 41 6) (m_fl M s t) (m_sn M s t) (m_hs M s h t).2).2 := rfl
      have := key M20 (by rw [e20, en, ep, e5])
      rw [ep, i_add0] at this
      rw [e7']
      exact this
end MR2
