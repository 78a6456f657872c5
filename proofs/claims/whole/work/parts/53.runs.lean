/-! THE REFERENCE'S OWN -/
theorem n_ad (a b : Nat) : nI a + nI b = nI (a + b) := (Int32.ofNat_add a b).symm
theorem n_mu (a b : Nat) : nI a * nI b = nI (a * b) := (Int32.ofNat_mul a b).symm
theorem n_inj {a b : Nat} (ha : a < 2 ^ 31) (hb : b < 2 ^ 31) (h : nI a = nI b) : a = b := by
  have := congrArg Int32.toNatClampNeg h
  rwa [nI_clamp ha, nI_clamp hb] at this
theorem i_tri {a b : Int32} (h1 : ¬ a < b) (h2 : ¬ b < a) : a = b := by
  rw [Int32.lt_iff_toInt_lt] at h1 h2
  exact Int32.toInt_inj.mp (by omega)
theorem i_le {a b : Int32} : a ≤ b ↔ ¬ b < a := by
  rw [Int32.le_iff_toInt_le, Int32.lt_iff_toInt_lt]
  omega
theorem m_least (a b : Int32) (M : zM) : f_X11_least a b M = some (q_mn a b, M) := by
  unfold f_X11_least q_mn
  by_cases h : b < a
  · rw [if_pos h, if_pos (i_le.mpr (fun q => by rw [Int32.lt_iff_toInt_lt] at h q; omega))]
  · rw [if_neg h]
    by_cases h2 : b ≤ a
    · rw [if_pos h2, i_tri (i_le.mp h2) h]
    · rw [if_neg h2]
theorem m_most (a b : Int32) (M : zM) : f_X11_most a b M = some (q_mx a b, M) := by
  unfold f_X11_most q_mx
  by_cases h : a < b
  · rw [if_pos h, if_pos (i_le.mpr (fun q => by rw [Int32.lt_iff_toInt_lt] at h q; omega))]
  · rw [if_neg h]
    by_cases h2 : a ≤ b
    · rw [if_pos h2, i_tri (i_le.mp h2) h]
    · rw [if_neg h2]
theorem m_io (h f : Nat) : ((20 : Int32) + ((16 : Int32) * nI h)) + nI f = nI (20 + 16 * h + f) := by
  rw [show (20 : Int32) = nI 20 from rfl, show (16 : Int32) = nI 16 from rfl, n_mu, n_ad, n_ad]
theorem m_ih (s : Nat) : (180 : Int32) + ((26 : Int32) * nI s) = nI (180 + 26 * s) := by
  rw [show (180 : Int32) = nI 180 from rfl, show (26 : Int32) = nI 26 from rfl, n_mu, n_ad]
theorem m_own {h f : Nat} {M : zM} (hh : h < 100) (hf : f < 16) : f_X11_own (nI h) (nI f) M = some (M.1 41 (20 + 16 * h + f), M) := by
  unfold f_X11_own z_l z_g
  rw [m_io]
  try dsimp only
  rw [if_pos (p_ix (by omega) (by decide)), p_cl (by omega)]
theorem m_gives {h f : Nat} {v : Int32} {M : zM} (hh : h < 100) (hf : f < 16) : f_X11_gives (nI h) (nI f) v M = some (z_w M 41 (20 + 16 * h + f) v) := by
  unfold f_X11_gives z_l z_g
  rw [m_io, if_pos (p_ix (by omega) (by decide)), p_cl (by omega)]
theorem m_hours {s : Nat} {M : zM} (hs : s < 10) : f_X11_hoursOf (nI s) M = some (M.1 41 (180 + 26 * s), M) := by
  unfold f_X11_hoursOf z_l z_g
  rw [m_ih]
  try dsimp only
  rw [if_pos (p_ix (by omega) (by decide)), p_cl (by omega)]
theorem m_fall {s t : Nat} {M : zM} (hs : s < 10) (ht : t < 12) : f_X11_fallOf (nI s) (nI t) M = some (M.1 41 (181 + 26 * s + t), M) := by
  unfold f_X11_fallOf z_l z_g
  rw [m_ih, show (1 : Int32) = nI 1 from rfl, n_ad, n_ad]
  try dsimp only
  rw [if_pos (p_ix (by omega) (by decide)), p_cl (by omega), show 180 + 26 * s + 1 + t = 181 + 26 * s + t by omega]
theorem m_snow {s t : Nat} {M : zM} (hs : s < 10) (ht : t < 12) : f_X11_isSnow (nI s) (nI t) M = some (if M.1 41 (193 + 26 * s + t) = 1 then 1 else 0, M) := by
  unfold f_X11_isSnow z_l z_g
  rw [m_ih, show (13 : Int32) = nI 13 from rfl, n_ad, n_ad]
  try dsimp only
  rw [if_pos (p_ix (by omega) (by decide)), p_cl (by omega), show 180 + 26 * s + 13 + t = 193 + 26 * s + t by omega]
  by_cases h : M.1 41 (193 + 26 * s + t) = 1
  · rw [if_pos h, if_pos h]
  · rw [if_neg h, if_neg h]
theorem m_writes {h t : Nat} {g c : Int32} {M : zM} (hh : h < 10) (ht : t < 12) : f_X11_writes (nI h) (nI t) g c M = some (z_w (z_w (z_w M 41 (440 + 3 * (12 * h + t)) g) 41 (440 + 3 * (12 * h + t) + 1) c) 41 (440 + 3 * (12 * h + t) + 2) (g - c)) := by
  unfold f_X11_writes z_l z_g
  rw [show (440 : Int32) = nI 440 from rfl, show (3 : Int32) = nI 3 from rfl, show (12 : Int32) = nI 12 from rfl, show (1 : Int32) = nI 1 from rfl, show (2 : Int32) = nI 2 from rfl, n_mu, n_ad, n_mu, n_ad]
  try dsimp only
  rw [n_ad, n_ad, if_pos (p_ix (by omega) (by decide))]
  try dsimp only
  rw [if_pos (p_ix (by omega) (by decide))]
  try dsimp only
  rw [if_pos (p_ix (by omega) (by decide)), p_cl (by omega), p_cl (by omega), p_cl (by omega)]
/-- a house as the reference lays it -/
def m_r (M : zM) (h : Nat) : Nat → Int32 := fun j => M.1 (if j = 0 then 48 else if j = 1 then 49 else if j = 4 then 50 else if j = 5 then 51 else if j = 6 then 52 else if j = 7 then 53 else if j = 8 then 54 else if j = 9 then 55 else 999) h
theorem m_gets {h : Nat} {came : Int32} {M : zM} (hh : h < 11) : f_X11_gets (nI h) came M = some ((q_bar (M.1 52 h) (M.1 53 h) (M.1 54 h) came).1, z_w M 54 h (q_bar (M.1 52 h) (M.1 53 h) (M.1 54 h) came).2) := by
  unfold f_X11_gets z_l z_g q_bar
  have e := p_cl (show h < 2 ^ 31 by omega)
  have g := p_ix hh (show 11 < 2 ^ 31 by decide)
  by_cases c : came = 0
  · rw [if_pos c, if_pos c, if_pos g, if_pos g, m_least, Option.bind_some]
    dsimp only
    rw [if_pos g, if_pos g, e]
  · rw [if_neg c, if_neg c, if_pos g, if_pos g, m_most, Option.bind_some]
    dsimp only
    rw [m_least, Option.bind_some]
    dsimp only
    rw [if_pos g, if_pos g, e]
/-- added up, from a on -/
def q_ac (a : Int32) (f : Nat → Int32) : Nat → Int32
  | 0 => a
  | h + 1 => q_ac a f h + f h
/-- hour by hour, house by house -/
def q_tot (f : Nat → Nat → Int32) (n : Nat) : Nat → Int32
  | 0 => 0
  | t + 1 => q_ac (q_tot f n t) (f t) n
section MR
variable {M : zM} {s n T : Nat}
abbrev m_fl (M : zM) (s t : Nat) : Int32 := M.1 41 (181 + 26 * s + t)
abbrev m_sn (M : zM) (s t : Nat) : Int32 := M.1 41 (193 + 26 * s + t)
abbrev m_A (M : zM) (s g : Nat) : Nat → Int32 := q_A (m_r M) (M.1 41 6) (m_fl M s) (m_sn M s) g
abbrev m_hs (M : zM) (s g t : Nat) : Int32 × Int32 := q_hs (m_r M g) (M.1 41 6) (m_fl M s) (m_sn M s) (m_A M s g) t
abbrev m_got (M : zM) (s g t : Nat) : Int32 := q_got (m_r M g) (M.1 41 6) (m_fl M s) (m_sn M s) (m_A M s g) t
abbrev m_car (M : zM) (s g t : Nat) : Int32 := q_car (m_r M g) (M.1 41 6) (m_fl M s) (m_sn M s) (m_A M s g) t
abbrev m_spl (M : zM) (s g t : Nat) : Int32 := q_spl (m_r M g) (M.1 41 6) (m_fl M s) (m_sn M s) (m_A M s g) t
abbrev m_ov (M : zM) (s g t : Nat) : Int32 := q_ov (m_r M g) (M.1 41 6) (m_fl M s) (m_sn M s) (m_A M s g) t
abbrev m_DR (M : zM) (s t g : Nat) : Int32 := if M.1 50 g = -1 then m_car M s g t else 0
abbrev m_FE (M : zM) (s t g : Nat) : Int32 := m_fl M s t * M.1 48 g
abbrev m_SP (M : zM) (s t g : Nat) : Int32 := m_spl M s g t
/-- t hours are through, and of the next one h houses -/
def m_I (M : zM) (s n t h : Nat) (N : zM) : Prop :=
  N.2 = M.2 ∧ (∀ a, a ≠ 40 → a ≠ 41 → a ≠ 54 → a ≠ 55 → a ≠ 56 → a ≠ 57 → N.1 a = M.1 a) ∧ (∀ j, j ≠ 31 → j ≠ 32 → N.1 40 j = M.1 40 j) ∧
  N.1 40 31 = q_ac (q_tot (m_DR M s) n t) (m_DR M s t) h ∧ N.1 40 32 = q_ac (q_tot (m_FE M s) n t) (m_FE M s t) h ∧
  (∀ j, (j < 440 ∨ 800 ≤ j) → N.1 41 j = M.1 41 j) ∧ (M.1 40 33 = 0 → N.1 41 = M.1 41) ∧
  (¬ M.1 40 33 = 0 → ∀ g u, g < n → (u < t ∨ (u = t ∧ g < h)) → N.1 41 (440 + 3 * (12 * g + u)) = m_got M s g u ∧ N.1 41 (440 + 3 * (12 * g + u) + 1) = m_car M s g u ∧ N.1 41 (440 + 3 * (12 * g + u) + 2) = m_spl M s g u) ∧
  (∀ g, g < n → N.1 54 g = (m_hs M s g (if g < h then t + 1 else t)).1 ∧ N.1 55 g = (m_hs M s g (if g < h then t + 1 else t)).2 ∧ N.1 56 g = m_ov M s g (if g < h then t + 1 else t))
def m_J (M : zM) (s n t h : Nat) (N : zM) : Prop := ∀ g, h ≤ g → g < n → N.1 57 g = q_ab (fun g => m_r M g 4) (q_C (m_r M) (M.1 41 6) (m_fl M s) (m_sn M s)) g t h
/-- the end of a house's turn: what it got and carried is known -/
theorem m_r296 (hn10 : n ≤ 10) {t h : Nat} (ht : t < 12) (hh : h < n) {K37 : Int32 → Int32 → Int32 → zM → Option (Int32 × zM)} {K75 : Int32 → Int32 → Int32 → Int32 → zM → Option (Int32 × zM)} {P : Int32 × zM → Prop} {v8 : Int32} {N : zM}
    (h0 : N.2 = M.2) (h1 : ∀ a, a ≠ 40 → a ≠ 41 → a ≠ 54 → a ≠ 55 → a ≠ 56 → a ≠ 57 → N.1 a = M.1 a) (h2 : ∀ j, j ≠ 31 → j ≠ 32 → N.1 40 j = M.1 40 j)
    (h3 : N.1 40 31 = q_ac (q_tot (m_DR M s) n t) (m_DR M s t) (h + 1)) (h4 : N.1 40 32 = q_ac (q_tot (m_FE M s) n t) (m_FE M s t) (h + 1))
    (h5 : ∀ j, (j < 440 ∨ 800 ≤ j) → N.1 41 j = M.1 41 j) (h6 : M.1 40 33 = 0 → N.1 41 = M.1 41)
    (h7 : ¬ M.1 40 33 = 0 → ∀ g u, g < n → (u < t ∨ (u = t ∧ g < h)) → N.1 41 (440 + 3 * (12 * g + u)) = m_got M s g u ∧ N.1 41 (440 + 3 * (12 * g + u) + 1) = m_car M s g u ∧ N.1 41 (440 + 3 * (12 * g + u) + 2) = m_spl M s g u)
    (h8 : ∀ g, g < n → N.1 54 g = (m_hs M s g (if g < h + 1 then t + 1 else t)).1 ∧ N.1 55 g = (m_hs M s g (if g < h + 1 then t + 1 else t)).2 ∧ N.1 56 g = m_ov M s g (if g < h + 1 then t + 1 else t))
    (hJ : m_J M s n t (h + 1) N)
    (hK : ∀ N', m_I M s n t (h + 1) N' → m_J M s n t (h + 1) N' → p_ok (K75 (nI s) v8 (nI t) (nI (h + 1)) N') P) :
    p_ok (f_X11_runs_296 K37 K75 (nI s) v8 (nI t) (nI h) (m_got M s h t) (m_car M s h t) N) P := by
  unfold f_X11_runs_296
  rw [h2 33 (by decide) (by decide)]
  refine p_if (fun c => p_l ?_) (fun c => ?_)
  · rw [p_s1]
    exact hK N ⟨h0, h1, h2, h3, h4, h5, h6, fun q => absurd c q, h8⟩ hJ
  · rw [m_writes (by omega) ht, Option.bind_some]
    refine p_l ?_
    rw [p_s1]
    refine hK _ ⟨h0, fun a a1 a2 a3 a4 a5 a6 => ?_, fun j j1 j2 => ?_, ?_, ?_, fun j hj => ?_, fun q => absurd q c, fun _ g u hg hu => ?_, fun g hg => ?_⟩ (fun g g1 g2 => ?_)
    · rw [p_nr a2, p_nr a2, p_nr a2]; exact h1 a a1 a2 a3 a4 a5 a6
    · rw [p_ne (by decide), p_ne (by decide), p_ne (by decide)]; exact h2 j j1 j2
    · rw [p_ne (by decide), p_ne (by decide), p_ne (by decide)]; exact h3
    · rw [p_ne (by decide), p_ne (by decide), p_ne (by decide)]; exact h4
    · rw [p_eq, if_neg (by omega), p_eq, if_neg (by omega), p_eq, if_neg (by omega)]; exact h5 j hj
    · by_cases e : g = h ∧ u = t
      · obtain ⟨rfl, rfl⟩ := e
        refine ⟨?_, ?_, ?_⟩
        · rw [p_eq, if_neg (by omega), p_eq, if_neg (by omega), p_eq, if_pos rfl]
        · rw [p_eq, if_neg (by omega), p_eq, if_pos rfl]
        · rw [p_eq, if_pos rfl]; rfl
      · have hu2 : u < t ∨ (u = t ∧ g < h) := by omega
        obtain ⟨b1, b2, b3⟩ := h7 c g u hg hu2
        refine ⟨?_, ?_, ?_⟩
        · rw [p_eq, if_neg (by omega), p_eq, if_neg (by omega), p_eq, if_neg (by omega)]; exact b1
        · rw [p_eq, if_neg (by omega), p_eq, if_neg (by omega), p_eq, if_neg (by omega)]; exact b2
        · rw [p_eq, if_neg (by omega), p_eq, if_neg (by omega), p_eq, if_neg (by omega)]; exact b3
    · rw [p_ne (by decide), p_ne (by decide), p_ne (by decide), p_ne (by decide), p_ne (by decide), p_ne (by decide), p_ne (by decide), p_ne (by decide), p_ne (by decide)]; exact h8 g hg
    · rw [p_ne (by decide), p_ne (by decide), p_ne (by decide)]; exact hJ g g1 g2
end MR
