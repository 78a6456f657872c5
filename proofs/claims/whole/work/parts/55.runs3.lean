section MR3
variable {M : zM} {s n T : Nat}
theorem m_r49 (hs : s < 10) (hn10 : n ≤ 10) (hn : M.1 40 30 = nI n) (hL : m_L (M.1 50) n) {t : Nat} (ht : t < 12) (hsn : m_sn M s t = 0 ∨ m_sn M s t = 1) {K37 : Int32 → Int32 → Int32 → zM → Option (Int32 × zM)} {P : Int32 × zM → Prop}
    (hK : ∀ N', m_I M s n (t + 1) 0 N' → p_ok (K37 (nI s) (q_tot (m_SP M s) n (t + 1)) (nI (t + 1)) N') P) : ∀ (d h m : Nat) (N : zM), h + d = n → d < m → m_I M s n t 0 N → (∀ g, g < h → N.1 57 g = 0) →
    p_ok (f_X11_runs_49 K37 m (nI s) (q_tot (m_SP M s) n t) (nI t) (nI h) N) P := by
  intro d
  induction d with
  | zero =>
    intro h m N hhd hm hI hJ
    obtain ⟨m, rfl⟩ : ∃ q, m = q + 1 := ⟨m - 1, by omega⟩
    have : h = n := by omega
    subst this
    rw [f_X11_runs_49]
    refine p_t (by rw [hI.2.2.1 30 (by decide) (by decide), hn]; exact nI_le (Nat.le_refl _) (by omega)) ?_
    have := m_r75 hs hn10 hn hL ht hsn hK h 0 z_F N (by omega) (by unfold z_F; omega) hI (fun g _ hg => by rw [hJ g hg]; rfl)
    rw [p_0]
    exact this
  | succ d ih =>
    intro h m N hhd hm hI hJ
    obtain ⟨m, rfl⟩ : ∃ q, m = q + 1 := ⟨m - 1, by omega⟩
    have ecl : Int32.toNatClampNeg (nI h) = h := p_cl (by omega)
    have g11 := p_ix (show h < 11 by omega) (show 11 < 2 ^ 31 by decide)
    rw [f_X11_runs_49]
    refine p_f (by rw [hI.2.2.1 30 (by decide) (by decide), hn]; exact nI_ge (by omega) (by omega)) (p_g g11 (p_lx (fun M3 e3 => p_l ?_)))
    rw [p_s1]
    rw [ecl] at e3
    obtain ⟨h0, h1, h2, h3, h4, h5, h6, h7, h8⟩ := hI
    refine ih (h + 1) m M3 (by omega) (by omega) ⟨by rw [e3, p_w2]; exact h0, fun a b1 b2 b3 b4 b5 b6 => by rw [e3, p_nr b6]; exact h1 a b1 b2 b3 b4 b5 b6, fun j j1 j2 => by rw [e3, p_ne (by decide)]; exact h2 j j1 j2, by rw [e3, p_ne (by decide)]; exact h3, by rw [e3, p_ne (by decide)]; exact h4, fun j hj => by rw [e3, p_ne (by decide)]; exact h5 j hj, fun q => by rw [e3, p_nr (by decide)]; exact h6 q, fun q g u hg hu => by rw [e3, p_ne (by decide), p_ne (by decide), p_ne (by decide)]; exact h7 q g u hg hu, fun g hg => by rw [e3, p_ne (by decide), p_ne (by decide), p_ne (by decide)]; exact h8 g hg⟩ (fun g hg => ?_)
    rw [e3, p_eq]
    by_cases e : g = h
    · rw [if_pos e]
    · rw [if_neg e]; exact hJ g (by omega)
theorem m_r37 (hs : s < 10) (hn10 : n ≤ 10) (hn : M.1 40 30 = nI n) (hL : m_L (M.1 50) n) (hT : M.1 41 (180 + 26 * s) = nI T) (hT12 : T ≤ 12) (hsn : ∀ t, t < T → m_sn M s t = 0 ∨ m_sn M s t = 1) : ∀ (d t m : Nat) (N : zM), t + d = T → d < m → m_I M s n t 0 N →
    p_ok (f_X11_runs_37 m (nI s) (q_tot (m_SP M s) n t) (nI t) N) (fun x => x.1 = q_tot (m_SP M s) n T ∧ m_I M s n T 0 x.2) := by
  intro d
  induction d with
  | zero =>
    intro t m N htd hm hI
    obtain ⟨m, rfl⟩ : ∃ q, m = q + 1 := ⟨m - 1, by omega⟩
    have : t = T := by omega
    subst this
    rw [f_X11_runs_37, m_hours hs, Option.bind_some]
    dsimp only
    refine p_t (by rw [hI.2.2.2.2.2.1 _ (by omega), hT]; exact nI_le (Nat.le_refl _) (by omega)) (p_some ⟨rfl, hI⟩)
  | succ d ih =>
    intro t m N htd hm hI
    obtain ⟨m, rfl⟩ : ∃ q, m = q + 1 := ⟨m - 1, by omega⟩
    rw [f_X11_runs_37, m_hours hs, Option.bind_some]
    dsimp only
    refine p_f (by rw [hI.2.2.2.2.2.1 _ (by omega), hT]; exact nI_ge (by omega) (by omega)) ?_
    have := m_r49 hs hn10 hn hL (show t < 12 by omega) (hsn t (by omega)) (K37 := f_X11_runs_37 m) (fun N' i' => ih (t + 1) m N' (by omega) (by omega) i') n 0 z_F N (by omega) (by unfold z_F; omega) hI (fun g hg => by omega)
    rw [p_0]
    exact this
theorem m_r14 (hs : s < 10) (hn10 : n ≤ 10) (hn : M.1 40 30 = nI n) (hL : m_L (M.1 50) n) (hT : M.1 41 (180 + 26 * s) = nI T) (hT12 : T ≤ 12) (hsn : ∀ t, t < T → m_sn M s t = 0 ∨ m_sn M s t = 1) : ∀ (d h m : Nat) (N : zM), h + d = n → d < m → N.2 = M.2 → (∀ a, a ≠ 40 → a ≠ 56 → N.1 a = M.1 a) → (∀ j, j ≠ 31 → j ≠ 32 → N.1 40 j = M.1 40 j) → N.1 40 31 = 0 → N.1 40 32 = 0 → (∀ g, g < h → N.1 56 g = 0) →
    p_ok (f_X11_runs_14 m (nI s) 0 (nI h) N) (fun x => x.1 = q_tot (m_SP M s) n T ∧ m_I M s n T 0 x.2) := by
  intro d
  induction d with
  | zero =>
    intro h m N hhd hm n2 no n40 n31 n32 n56
    obtain ⟨m, rfl⟩ : ∃ q, m = q + 1 := ⟨m - 1, by omega⟩
    have : h = n := by omega
    subst this
    rw [f_X11_runs_14]
    refine p_t (by rw [n40 30 (by decide) (by decide), hn]; exact nI_le (Nat.le_refl _) (by omega)) ?_
    have := m_r37 hs hn10 hn hL hT hT12 hsn T 0 z_F N (by omega) (by unfold z_F; omega) ⟨n2, fun a b1 b2 b3 b4 b5 b6 => no a b1 b5, n40, n31, n32, fun j _ => by rw [no 41 (by decide) (by decide)], fun _ => no 41 (by decide) (by decide), fun _ g u _ hu => by omega, fun g hg => by
      rw [if_neg (Nat.not_lt_zero g), no 54 (by decide) (by decide), no 55 (by decide) (by decide), n56 g hg]
      exact ⟨rfl, rfl, rfl⟩⟩
    rw [p_0]
    exact this
  | succ d ih =>
    intro h m N hhd hm n2 no n40 n31 n32 n56
    obtain ⟨m, rfl⟩ : ∃ q, m = q + 1 := ⟨m - 1, by omega⟩
    have ecl : Int32.toNatClampNeg (nI h) = h := p_cl (by omega)
    have g11 := p_ix (show h < 11 by omega) (show 11 < 2 ^ 31 by decide)
    rw [f_X11_runs_14]
    refine p_f (by rw [n40 30 (by decide) (by decide), hn]; exact nI_ge (by omega) (by omega)) (p_g g11 (p_lx (fun M3 e3 => p_l ?_)))
    rw [p_s1]
    rw [ecl] at e3
    refine ih (h + 1) m M3 (by omega) (by omega) (by rw [e3, p_w2]; exact n2) (fun a b1 b2 => by rw [e3, p_nr b2]; exact no a b1 b2) (fun j j1 j2 => by rw [e3, p_ne (by decide)]; exact n40 j j1 j2) (by rw [e3, p_ne (by decide)]; exact n31) (by rw [e3, p_ne (by decide)]; exact n32) (fun g hg => ?_)
    rw [e3, p_eq]
    by_cases e : g = h
    · rw [if_pos e]
    · rw [if_neg e]; exact n56 g (by omega)
/-- runs: a storm over the houses that are laid -/
theorem m_runs (hs : s < 10) (hn10 : n ≤ 10) (hn : M.1 40 30 = nI n) (hL : m_L (M.1 50) n) (hT : M.1 41 (180 + 26 * s) = nI T) (hT12 : T ≤ 12) (hsn : ∀ t, t < T → m_sn M s t = 0 ∨ m_sn M s t = 1) :
    p_ok (f_X11_runs (nI s) M) (fun x => x.1 = q_tot (m_SP M s) n T ∧ m_I M s n T 0 x.2) := by
  unfold f_X11_runs
  refine p_lx (fun M1 e1 => p_lx (fun M2 e2 => ?_))
  have := m_r14 hs hn10 hn hL hT hT12 hsn n 0 z_F M2 (by omega) (by unfold z_F; omega) (by rw [e2, p_w2, e1, p_w2]) (fun a b1 b2 => by rw [e2, p_nr b1, e1, p_nr b1]) (fun j j1 j2 => by rw [e2, p_eq, if_neg j2, e1, p_eq, if_neg j1]) (by rw [e2, p_eq, if_neg (by decide), e1, p_eq, if_pos rfl]) (by rw [e2, p_eq, if_pos rfl]) (fun g hg => by omega)
  rw [← p_0] at this
  exact this
end MR3
