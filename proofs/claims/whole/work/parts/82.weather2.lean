/-! THE CLASS'S WEATHER -/
theorem c_fal4 {k T : Nat} {M : zM} (hT : M.1 k 0 = nI T) (hT12 : T ≤ 12) : ∀ d t fuel, t + d = T → d < fuel → f_X7_fallInAll_4 fuel k (q_ac 0 (M.1 (k + 1)) t) (nI t) M = some (q_ac 0 (M.1 (k + 1)) T, M) := by
  intro d
  induction d with
  | zero =>
    intro t fuel h1 h2
    obtain ⟨fuel, rfl⟩ : ∃ m, fuel = m + 1 := ⟨fuel - 1, by omega⟩
    have : t = T := by omega
    subst this
    rw [f_X7_fallInAll_4, if_pos (by rw [hT]; exact nI_le (Nat.le_refl _) (by omega))]
  | succ d ih =>
    intro t fuel h1 h2
    obtain ⟨fuel, rfl⟩ : ∃ m, fuel = m + 1 := ⟨fuel - 1, by omega⟩
    rw [f_X7_fallInAll_4, if_neg (by rw [hT]; exact nI_ge (by omega) (by omega))]
    unfold z_g z_l
    rw [if_pos (p_ix (show t < 12 by omega) (by decide)), p_s1, p_cl (by omega)]
    exact ih (t + 1) fuel (by omega) (by omega)
theorem c_fal {k T : Nat} {M : zM} (hT : M.1 k 0 = nI T) (hT12 : T ≤ 12) : f_X7_fallInAll k M = some (q_ac 0 (M.1 (k + 1)) T, M) := by
  unfold f_X7_fallInAll
  exact c_fal4 hT hT12 T 0 z_F (by omega) (by unfold z_F; omega)
theorem c_cia4 {k T : Nat} {M : zM} (hT12 : T ≤ 12) : ∀ d t fuel, t + d = T → d < fuel → f_X2_carriedInAll_4 fuel k (nI T) (q_ac 0 (M.1 (k + 3)) t) (nI t) M = some (q_ac 0 (M.1 (k + 3)) T, M) := by
  intro d
  induction d with
  | zero =>
    intro t fuel h1 h2
    obtain ⟨fuel, rfl⟩ : ∃ m, fuel = m + 1 := ⟨fuel - 1, by omega⟩
    have : t = T := by omega
    subst this
    rw [f_X2_carriedInAll_4, if_pos (nI_le (Nat.le_refl _) (by omega))]
  | succ d ih =>
    intro t fuel h1 h2
    obtain ⟨fuel, rfl⟩ : ∃ m, fuel = m + 1 := ⟨fuel - 1, by omega⟩
    rw [f_X2_carriedInAll_4, if_neg (nI_ge (by omega) (by omega))]
    unfold z_g z_l
    rw [if_pos (p_ix (show t < 12 by omega) (by decide)), p_s1, p_cl (by omega)]
    exact ih (t + 1) fuel (by omega) (by omega)
theorem c_cia {k T : Nat} {M : zM} (hT12 : T ≤ 12) : f_X2_carriedInAll k (nI T) M = some (q_ac 0 (M.1 (k + 3)) T, M) := by
  unfold f_X2_carriedInAll
  exact c_cia4 hT12 T 0 z_F (by omega) (by unfold z_F; omega)
/-- a house behind the storm -/
def o_cl (r : Nat → Int32) (j : Nat) : Int32 := if j = 5 then q_mn 10 (r 5 + r 2) else if j = 11 then r 11 + r 12 else if j = 13 then (if r 12 = 0 then r 13 + 1 else 0) else r j
theorem c_cls {k : Nat} {M : zM} : p_ok (f_X2_closeStorm k M) (fun X => (∀ a, a ≠ k → X.1 a = M.1 a) ∧ ∀ j, X.1 k j = o_cl (M.1 k) j) := by
  unfold f_X2_closeStorm
  refine p_lx (fun A hA => p_lx (fun B hB => ?_))
  have a0 : ∀ j, A.1 k j = if j = 5 then q_mn 10 (M.1 k 5 + M.1 k 2) else M.1 k j := fun j => by rw [hA, p_eq]; rfl
  have b0 : ∀ j, B.1 k j = if j = 11 then M.1 k 11 + M.1 k 12 else if j = 5 then q_mn 10 (M.1 k 5 + M.1 k 2) else M.1 k j := fun j => by
    rw [hB, p_eq, a0 11, a0 12, a0 j, if_neg (show ¬ (11 : Nat) = 5 by decide), if_neg (show ¬ (12 : Nat) = 5 by decide)]
  have b1 : ∀ a, a ≠ k → B.1 a = M.1 a := fun a ha => by rw [hB, p_nr ha, hA, p_nr ha]
  have key : ∀ v, v = (if M.1 k 12 = 0 then M.1 k 13 + 1 else 0) → ∀ j, (z_w B k 13 v).1 k j = o_cl (M.1 k) j := fun v hv j => by
    rw [p_eq, b0]
    unfold o_cl
    by_cases z : j = 13
    · subst z; rw [if_pos rfl, hv]; rfl
    · rw [if_neg z]
      by_cases y : j = 5
      · subst y; rfl
      · by_cases x : j = 11
        · subst x; rfl
        · rw [if_neg x, if_neg y, if_neg y, if_neg x, if_neg z]
  have e12 : B.1 k 12 = M.1 k 12 := by rw [b0]; rfl
  have e13 : B.1 k 13 = M.1 k 13 := by rw [b0]; rfl
  refine p_if (fun c => p_lx (fun X hX => p_some ?_)) (fun c => p_lx (fun X hX => p_some ?_))
  · rw [e12] at c
    rw [hX]
    exact ⟨fun a ha => by rw [p_nr ha, b1 a ha], key _ (by rw [if_pos c, e13])⟩
  · rw [e12] at c
    rw [hX]
    exact ⟨fun a ha => by rw [p_nr ha, b1 a ha], key _ (by rw [if_neg c])⟩
theorem c_w123 {n : Nat} {v : Int32} {M : zM} (hn : n ≤ 10) (h3 : M.1 3 0 = nI n) : ∀ e i fuel (N : zM), i + e = n → e < fuel → (∀ a, (∀ g, g < i → a ≠ c_H 3 g) → N.1 a = M.1 a) → (∀ g, g < i → ∀ j, N.1 (c_H 3 g) j = o_cl (M.1 (c_H 3 g)) j) →
    p_ok (f_X8_weather_123 fuel 1 v (nI i) N) (fun x => x.1 = v ∧ (∀ a, (∀ g, g < n → a ≠ c_H 3 g) → x.2.1 a = M.1 a) ∧ ∀ g, g < n → ∀ j, x.2.1 (c_H 3 g) j = o_cl (M.1 (c_H 3 g)) j) := by
  intro e
  induction e with
  | zero =>
    intro i fuel N h1 h2 hN hG
    obtain ⟨fuel, rfl⟩ : ∃ m, fuel = m + 1 := ⟨fuel - 1, by omega⟩
    have : i = n := by omega
    subst this
    rw [f_X8_weather_123]
    refine p_t ?_ (p_some ⟨rfl, hN, hG⟩)
    rw [hN (1 + 2) (fun g hg => by unfold c_H; omega), h3]
    exact nI_le (Nat.le_refl _) (by omega)
  | succ e ih =>
    intro i fuel N h1 h2 hN hG
    obtain ⟨fuel, rfl⟩ : ∃ m, fuel = m + 1 := ⟨fuel - 1, by omega⟩
    rw [f_X8_weather_123]
    refine p_f ?_ (p_g (p_ix (show i < 10 by omega) (by decide)) ?_)
    · rw [hN (1 + 2) (fun g hg => by unfold c_H; omega), h3]
      exact nI_ge (by omega) (by omega)
    rw [p_cl (by omega), show z_ra (1 + 2 + 3) i = c_H 3 i from c_ra6]
    refine p_bx c_cls (fun X hX => p_l ?_)
    obtain ⟨x1, x2⟩ := hX
    rw [p_s1]
    refine ih (i + 1) fuel X (by omega) (by omega) (fun a ha => ?_) (fun g hg j => ?_)
    · rw [x1 a (ha i (by omega)), hN a (fun g hg => ha g (by omega))]
    · by_cases z : g = i
      · subst z
        rw [x2 j, hN _ (fun q hq => by unfold c_H; omega)]
      · rw [x1 _ (by unfold c_H; omega), hG g (by omega)]
def o_has (w : Nat → Int32) (s T i : Nat) : Int32 := w 2 + q_mn (o_dr w s T i) (o_cap w)
def o_off (w : Nat → Int32) (s T i : Nat) : Int32 := w 4 + (o_dr w s T i - q_mn (o_dr w s T i) (o_cap w))
theorem o_offA {w4 a b ma mab v : Int32} (h : ma + v = mab) : w4 + (a - ma) + (b - v) = w4 + ((a + b) - mab) := by
  subst h
  grind
section WX
variable {K n m s T ln k : Nat} {st : Nat → Nat × Int32} {f mm t : Nat → Nat} {w : Nat → Int32}
theorem o_step (hW : s_W K w n m) (hK : K ≤ 8000) (hs : s < m) (hT : T ≤ 12) {i : Nat} (hi : i < n) (h4 : w_r w i 4 = -1) {v b : Int32} (hb : b = q_ac 0 (fun t => e_car (w_r w) w s i t) T) (hv : v = q_mn b (q_mx 0 (w 3 - o_has w s T i))) : o_has w s T i + v = o_has w s T (i + 1) ∧ o_off w s T i + (b - v) = o_off w s T (i + 1) := by
  have e : o_dr w s T (i + 1) = o_dr w s T i + b := by
    show o_dr w s T i + (if w_r w i 4 = -1 then q_ac 0 (fun t => e_car (w_r w) w s i t) T else 0) = _
    rw [if_pos h4, hb]
  have i1 := o_drI hW hK hs hT i (by omega)
  have i2 := o_drI hW hK hs hT (i + 1) (by omega)
  have ib : i_in b 0 720000000 := by
    rw [hb]
    have := q_acI (f := fun t => e_car (w_r w) w s i t) (B := 5985792) (by omega) T (fun t ht => o_car hW hK hs hT hi ht) (by omega)
    exact i_mono this (by omega)
  have := (o_sto hW.2.1.1 hW.2.1.2.1 i1 ib (by rw [← e]; exact i2)).1
  have h1 : o_has w s T i + v = o_has w s T (i + 1) := by
    rw [hv]
    unfold o_has
    rw [e]
    exact this
  refine ⟨h1, ?_⟩
  unfold o_off
  rw [e]
  refine o_offA ?_
  unfold o_has at h1
  rw [e] at h1
  have h2 : w 2 + (q_mn (o_dr w s T i) (o_cap w) + v) = w 2 + q_mn (o_dr w s T i + b) (o_cap w) := by rw [← Int32.add_assoc]; exact h1
  grind
theorem o_step0 {i : Nat} (h4 : ¬ w_r w i 4 = -1) : o_has w s T (i + 1) = o_has w s T i ∧ o_off w s T (i + 1) = o_off w s T i := by
  have e : o_dr w s T (i + 1) = o_dr w s T i := by
    show o_dr w s T i + (if w_r w i 4 = -1 then q_ac 0 (fun t => e_car (w_r w) w s i t) T else 0) = _
    rw [if_neg h4, i_add0]
  unfold o_has o_off
  rw [e]
  exact ⟨rfl, rfl⟩
/-- i houses' water is stored -/
def o_N (w : Nat → Int32) (s T : Nat) (X : zM) (i : Nat) (N : zM) : Prop := (∀ a, a ≠ 1 → N.1 a = X.1 a) ∧ ∀ j, N.1 1 j = if j = 5 then o_has w s T i else if j = 6 then o_off w s T i else if j = 8 then o_fe w s T i else X.1 1 j
theorem c_w19 {X : zM} {v : Int32} {Q : Int32 × zM → Prop} (hW : s_W K w n m) (hK : K ≤ 8000) (hs : s < m) (hT : T ≤ 12) (h3 : X.1 3 0 = nI n) (h14 : X.1 1 4 = w 3) (hsT : X.1 (c_S 1 s) 0 = nI T)
    (hH : ∀ g, g < n → X.1 (c_H 3 g) 0 = w_r w g 0 ∧ X.1 (c_H 3 g) 4 = w_r w g 4 ∧ ∀ t, t < T → X.1 (c_H 3 g + 3) t = e_car (w_r w) w s g t)
    (hE : ∀ N, o_N w s T X n N → p_ok ((f_X8_settle 1 (z_w (z_w (z_w N 1 7 (N.1 1 7 + 1)) 1 9 (N.1 3 0)) 1 10 (N.1 (c_S 1 s) 0))).bind fun x5 => f_X8_weather_123 z_F 1 v (0 : Int32) x5) Q) :
    ∀ e i fuel (N : zM), i + e = n → e < fuel → o_N w s T X i N → p_ok (f_X8_weather_19 fuel 1 (c_S 1 s) v (q_ac 0 (e_f w s) T) (nI i) N) Q := by
  have hn := hW.1.2.1
  have hm := hW.1.2.2.2
  intro e
  induction e with
  | zero =>
    intro i fuel N h1 h2 hN
    obtain ⟨fuel, rfl⟩ : ∃ m, fuel = m + 1 := ⟨fuel - 1, by omega⟩
    have : i = n := by omega
    subst this
    rw [f_X8_weather_19]
    refine p_t ?_ (p_lx (fun A hA => p_lx (fun B hB => p_lx (fun C hC => ?_))))
    · rw [hN.1 (1 + 2) (by omega), h3]
      exact nI_le (Nat.le_refl _) (by omega)
    have := hE N hN
    have eB : B = z_w A 1 9 (N.1 3 0) := by rw [hB, hA, p_ne (show (1 : Nat) + 2 ≠ 1 by omega)]
    have eC : C = z_w B 1 10 (N.1 (c_S 1 s) 0) := by rw [hC, eB, hA, p_ne (show c_S 1 s ≠ 1 by unfold c_S; omega), p_ne (show c_S 1 s ≠ 1 by unfold c_S; omega)]
    rw [eC, eB, hA]
    exact this
  | succ e ih =>
    intro i fuel N h1 h2 hN
    obtain ⟨fuel, rfl⟩ : ∃ m, fuel = m + 1 := ⟨fuel - 1, by omega⟩
    rw [f_X8_weather_19]
    refine p_f ?_ (p_g (p_ix (show i < 10 by omega) (by decide)) (p_lx (fun v7 e7 => p_lx (fun A hA => ?_))))
    · rw [hN.1 (1 + 2) (by omega), h3]
      exact nI_ge (by omega) (by omega)
    rw [p_cl (by omega), show z_ra (1 + 2 + 3) i = c_H 3 i from c_ra6] at e7
    subst e7
    obtain ⟨g1, g2, g3⟩ := hH i (by omega)
    have nH : c_H 3 i ≠ 1 := by unfold c_H; omega
    rw [hN.2 8, if_neg (show ¬ (8 : Nat) = 5 by decide), if_neg (show ¬ (8 : Nat) = 6 by decide), if_pos (rfl : (8 : Nat) = 8), hN.1 (c_H 3 i) nH, g1] at hA
    have eA : A = z_w N 1 8 (o_fe w s T (i + 1)) := hA
    have a1 : ∀ a, a ≠ 1 → A.1 a = X.1 a := fun a ha => by rw [eA, p_nr ha, hN.1 a ha]
    have a2 : ∀ j, A.1 1 j = if j = 5 then o_has w s T i else if j = 6 then o_off w s T i else if j = 8 then o_fe w s T (i + 1) else X.1 1 j := fun j => by
      rw [eA, p_eq, hN.2 j]
      by_cases z : j = 8
      · subst z; rw [if_pos rfl, if_neg (by decide), if_neg (by decide), if_pos rfl]
      · rw [if_neg z, if_neg z, if_neg z]
    refine p_if (fun c => ?_) (fun c => p_l ?_)
    · rw [a1 _ nH, g2] at c
      rw [a1 (c_S 1 s) (by unfold c_S; omega), hsT, c_cia hT, Option.bind_some]
      have eb : q_ac 0 (A.1 (c_H 3 i + 3)) T = q_ac 0 (fun t => e_car (w_r w) w s i t) T := q_ac_congr T (fun t ht => by rw [a1 _ (by unfold c_H; omega)]; exact g3 t ht)
      refine p_bx (R := fun Y => o_N w s T X (i + 1) Y) ?_ (fun Y hY => p_l ?_)
      · unfold f_X8_store
        refine p_lx (fun v1 e1 => p_lx (fun B hB => p_lx (fun C hC => p_some ?_)))
        dsimp only at e1 hB hC
        have b4 : A.1 1 4 = w 3 := by rw [a2, if_neg (by decide), if_neg (by decide), if_neg (by decide)]; exact h14
        have b5 : A.1 1 5 = o_has w s T i := by rw [a2, if_pos rfl]
        have b6 : A.1 1 6 = o_off w s T i := by rw [a2, if_neg (by decide), if_pos rfl]
        rw [b4, b5] at e1
        obtain ⟨s1, s2⟩ := o_step hW hK hs hT (by omega) c eb e1
        rw [b5, s1] at hB
        rw [hB, p_eq, if_neg (by decide), b6, s2] at hC
        refine ⟨fun a ha => by rw [hC, p_nr ha, p_nr ha, a1 a ha], fun j => ?_⟩
        rw [hC, p_eq, p_eq, a2]
        by_cases z5 : j = 5
        · subst z5; rw [if_neg (by decide), if_pos rfl, if_pos rfl]
        · by_cases z6 : j = 6
          · subst z6; rw [if_pos rfl, if_neg (by decide), if_pos rfl]
          · rw [if_neg z6, if_neg z5, if_neg z5, if_neg z6, if_neg z5, if_neg z6]
      · rw [p_s1]
        exact ih (i + 1) fuel Y (by omega) (by omega) hY
    · rw [a1 _ nH, g2] at c
      rw [p_s1]
      refine ih (i + 1) fuel A (by omega) (by omega) ⟨a1, fun j => ?_⟩
      rw [a2 j, (o_step0 c).1, (o_step0 c).2]
end WX
