theorem g_top (w : Nat → Int32) (g : Nat) : q_top (R_g w g) = 9999999 := by
  show (9999999 : Int32) * (10 - 0) / 10 = 9999999
  decide
theorem w_top {r : Nat → Int32} (h1 : r 1 = 9999999) (h5 : r 5 = 0) : q_top r = 9999999 := by
  unfold q_top
  rw [h1, h5]
  decide
theorem w_f {K n m s T : Nat} {w : Nat → Int32} (hW : s_W K w n m) (hs : s < m) (hT : T ≤ 12) : ∀ t, t < T → i_in (e_f w s t) 0 99 := fun t ht => ((hW.2.2.2.2.2 s hs).2 t (by omega)).1
theorem g_row {K n m : Nat} {w : Nat → Int32} (hW : s_W K w n m) {g : Nat} (hg : g < n) : b_row (R_g w g) 0 := by
  obtain ⟨h0, h1, h2, h3, h5, h6, h7, h8⟩ := hW.2.2.2.1 g hg
  have z : i_in (0 : Int32) 0 0 := i_inn (j := 0) (by decide) (by omega) (by omega)
  refine ⟨?_, i_mono z (by omega), h7, i_mono z (by omega), z, ?_⟩
  · exact ⟨Int.le_trans (by omega) h0.1, h0.2⟩
  · rw [g_top]
    exact i_inn (j := 9999999) (by decide) (by omega) (by omega)
section GU
variable {K n m s T : Nat} {w : Nat → Int32}
abbrev g_hs (w : Nat → Int32) (s g t : Nat) : Int32 × Int32 := q_hs (R_g w g) (w 6) (e_f w s) (e_s w s) (e_A (R_g w) w s g) t
abbrev g_mg (w : Nat → Int32) (s g t : Nat) : Int32 := q_mg (R_g w g) (w 6) (e_f w s) (e_s w s) (e_A (R_g w) w s g) t
theorem g_ab (hW : s_W K w n m) (hs : s < m) (hT : T ≤ 12) {g : Nat} (hg : g < n) : ∀ t, t < T → i_in (e_A (R_g w) w s g t) 0 (11691 * (2 ^ g - 1)) :=
  b_A (by have := hW.1.2.1; omega) (fun g hg => g_row hW hg) hW.2.1.2.2 (w_f hW hs hT) hT (by omega) (g + 1) g (by omega) hg
theorem g_p2 {g : Nat} (hg : g < 10) : (2 : Int) ^ g ≤ 512 ∧ (1 : Int) ≤ 2 ^ g := by
  have : g = 0 ∨ g = 1 ∨ g = 2 ∨ g = 3 ∨ g = 4 ∨ g = 5 ∨ g = 6 ∨ g = 7 ∨ g = 8 ∨ g = 9 := by omega
  rcases this with rfl | rfl | rfl | rfl | rfl | rfl | rfl | rfl | rfl | rfl <;> decide
/-- without barrels: all that comes is got, and carried -/
theorem g_bar0 {lets came : Int32} {C : Int} (h2 : i_in lets 0 999) (h4 : i_in came 0 C) : q_bar 0 lets 0 came = (came, 0) := by
  have e1 := i_mnI lets 0
  have e3 := i_mnI came (q_mx 0 (0 - 0))
  have e2 : q_mx 0 (0 - 0) = (0 : Int32) := by decide
  rw [e2, i_z] at e3
  rw [i_z] at e1
  unfold i_in at *
  have z1 : q_mn lets 0 = 0 := Int32.toInt_inj.mp (by rw [e1, i_z]; omega)
  have z3 : q_mn came 0 = 0 := Int32.toInt_inj.mp (by rw [e3, i_z]; omega)
  unfold q_bar
  by_cases z : came = 0
  · rw [if_pos z, z1, z]; rfl
  · rw [if_neg z, e2, z3, Int32.sub_zero, Int32.add_zero]
theorem g_held (hW : s_W K w n m) (hs : s < m) (hT : T ≤ 12) {g : Nat} (hg : g < n) : ∀ t, t ≤ T → (g_hs w s g t).1 = 0 := by
  intro t
  have hp := g_p2 (g := g) (by have := hW.1.2.1; omega)
  induction t with
  | zero => intro _; rfl
  | succ t ih =>
    intro ht
    have i1 := ih (by omega)
    have hc := b_came (sn := e_s w s) (g_row hW hg) hW.2.1.2.2 (w_f hW hs hT) hT (by omega) (g_ab hW hs hT hg) (by omega) (t := t) (by omega)
    show (q_bar (R_g w g 6) (R_g w g 7) (g_hs w s g t).1 _).2 = 0
    rw [i1]
    exact congrArg Prod.snd (g_bar0 (g_row hW hg).2.2.1 hc)
theorem g_got (hW : s_W K w n m) (hs : s < m) (hT : T ≤ 12) {g t : Nat} (hg : g < n) (ht : t < T) : e_got (R_g w) w s g t = e_A (R_g w) w s g t + (q_land (R_g w g 0) (w 6) (e_f w s t) (e_s w s t) (g_hs w s g t).2).1 := by
  have hp := g_p2 (g := g) (by have := hW.1.2.1; omega)
  have i1 := g_held hW hs hT hg t (by omega)
  have hc := b_came (sn := e_s w s) (g_row hW hg) hW.2.1.2.2 (w_f hW hs hT) hT (by omega) (g_ab hW hs hT hg) (by omega) ht
  show (q_bar (R_g w g 6) (R_g w g 7) (g_hs w s g t).1 _).1 = _
  rw [i1]
  exact congrArg Prod.fst (g_bar0 (g_row hW hg).2.2.1 hc)
theorem g_car (hW : s_W K w n m) (hs : s < m) (hT : T ≤ 12) {g t : Nat} (hg : g < n) (ht : t < T) : e_car (R_g w) w s g t = e_got (R_g w) w s g t := by
  have hp := g_p2 (g := g) (by have := hW.1.2.1; omega)
  have hc : i_in (e_got (R_g w) w s g t) 0 _ := b_got (sn := e_s w s) (g_row hW hg) hW.2.1.2.2 (w_f hW hs hT) hT (by omega) (g_ab hW hs hT hg) (by omega) ht
  show q_mn (e_got (R_g w) w s g t) (q_top (R_g w g)) = _
  rw [g_top]
  apply Int32.toInt_inj.mp
  rw [i_mnI]
  obtain ⟨c1, c2⟩ := hc
  have : (9999999 : Int32).toInt = 9999999 := by decide
  omega
def g_Q (X : zM) (w : Nat → Int32) (s n t h : Nat) (N : zM) : Prop := r_F X N ∧ ∀ g, g < n → N.1 55 g = (g_hs w s g (if g < h then t + 1 else t)).2 ∧ N.1 62 g = g_mg w s g (if g < h then t + 1 else t)
def g_J (w : Nat → Int32) (s n t h : Nat) (N : zM) : Prop := ∀ g, h ≤ g → g < n → N.1 57 g = q_ab (fun g => R_g w g 4) (q_C (R_g w) (w 6) (e_f w s) (e_s w s)) g t h
variable {X : zM} {b : Int32} {P : Int32 × zM → Prop}
theorem g_228 (hW : s_W K w n m) (hw : X.1 41 = w) (hs : s < m) (hT : T ≤ 12) {t h : Nat} (ht : t < T) (hh : h < n) {K73 : Int32 → Int32 → Int32 → Int32 → zM → Option (Int32 × zM)} {K109 : Int32 → Int32 → Int32 → Int32 → Int32 → zM → Option (Int32 × zM)} {N : zM} {x y : Int32}
    (hF : r_F X N) (hv : x + y = e_got (R_g w) w s h t) (h1 : ∀ g, g < n → g ≠ h → N.1 55 g = (g_hs w s g (if g < h then t + 1 else t)).2 ∧ N.1 62 g = g_mg w s g (if g < h then t + 1 else t)) (h2 : N.1 55 h = (g_hs w s h (t + 1)).2) (h3 : N.1 62 h = g_mg w s h t) (hJ : g_J w s n t h N)
    (hk : ∀ N', g_Q X w s n t (h + 1) N' → g_J w s n t (h + 1) N' → p_ok (K109 (nI s) b (nI n) (nI t) (nI (h + 1)) N') P) : p_ok (f_X11_gutters_228 K73 K109 (nI s) b (nI n) (nI t) (nI h) x y N) P := by
  have hn10 := hW.1.2.1
  unfold f_X11_gutters_228
  have g10 := p_ix (show h < 10 by omega) (show 10 < 2 ^ 31 by decide)
  have ecl : Int32.toNatClampNeg (nI h) = h := p_cl (by omega)
  refine p_l (p_g g10 ?_)
  rw [hv, m_most, Option.bind_some]
  refine p_g g10 (p_lx (fun A hA => ?_))
  rw [ecl] at hA
  dsimp only at hA
  rw [h3] at hA
  have aF : r_F X A := r_F_tr hF ⟨fun a ha => by rw [hA, p_nr (by omega)], fun j _ _ _ _ _ => by rw [hA, p_ne (by omega)]⟩
  have a41 : A.1 41 = w := by rw [aF.1 41 (by omega), hw]
  have aQ : g_Q X w s n t (h + 1) A := ⟨aF, fun g hg => by
    by_cases z : g = h
    · subst z
      rw [if_pos (by omega), hA, p_ne (by decide), p_eq, if_pos rfl]
      exact ⟨h2, rfl⟩
    · have := h1 g hg z
      rw [hA, p_ne (by decide), p_eq, if_neg z]
      by_cases y : g < h
      · rw [if_pos y] at this; rw [if_pos (by omega)]; exact this
      · rw [if_neg y] at this; rw [if_neg (by omega)]; exact this⟩
  have a57 : A.1 57 = N.1 57 := by rw [hA, p_nr (by decide)]
  have eC : q_C (R_g w) (w 6) (e_f w s) (e_s w s) h t = e_got (R_g w) w s h t := by
    rw [q_C_eq]
    exact g_car hW hs hT hh ht
  have e4 : R_g w h 4 = w_r w h 4 := rfl
  rw [show f_X11_own (nI h) (4 : Int32) A = _ from m_own (f := 4) (by omega) (by omega), Option.bind_some, a41]
  dsimp only
  rcases hW.2.2.2.2.1 h hh with q | ⟨e, q1, q2, q3⟩
  · dsimp only at q
    refine p_t q (p_l ?_)
    rw [p_s1]
    refine hk A aQ (fun g g1 g2 => ?_)
    rw [a57, hJ g (by omega) g2]
    show _ = if R_g w h 4 = nI g then _ else _
    rw [e4, show w_r w h 4 = -1 from q, if_neg (fun z => n_m1 (show g < 2 ^ 31 by omega) z.symm)]
  · dsimp only at q3
    refine p_f (by rw [q3]; exact n_m1 (by omega)) ?_
    rw [show f_X11_own (nI h) (4 : Int32) A = _ from m_own (f := 4) (by omega) (by omega), Option.bind_some, a41, q3]
    dsimp only
    have ge := p_ix (show e < 11 by omega) (show 11 < 2 ^ 31 by decide)
    refine p_g ge (p_g ge (p_l (p_l ?_)))
    rw [p_s1, p_cl (by omega)]
    refine hk _ ⟨r_F_tr aF ⟨fun a ha => by rw [p_nr (by omega)], fun j _ _ _ _ _ => by rw [p_ne (by omega)]⟩, fun g hg => by rw [p_ne (by decide), p_ne (by decide)]; exact aQ.2 g hg⟩ (fun g g1 g2 => ?_)
    rw [p_eq, a57]
    show _ = if R_g w h 4 = nI g then _ else _
    rw [e4, show w_r w h 4 = nI e from q3]
    by_cases z : g = e
    · subst z
      rw [if_pos rfl, if_pos rfl, hJ g (by omega) g2, eC]
    · rw [if_neg z, if_neg (b_ne (by omega) (by omega) (fun q => z q.symm)), hJ g (by omega) g2]
theorem g_109 (hW : s_W K w n m) (hw : X.1 41 = w) (hs : s < m) (hT : T ≤ 12) (hsn : ∀ t, t < T → e_s w s t = 0 ∨ e_s w s t = 1) {t : Nat} (ht : t < T) {K73 : Int32 → Int32 → Int32 → Int32 → zM → Option (Int32 × zM)}
    (hk : ∀ N', g_Q X w s n (t + 1) 0 N' → p_ok (K73 (nI s) b (nI n) (nI (t + 1)) N') P) : ∀ e h fuel (N : zM), h + e = n → e < fuel → g_Q X w s n t h N → g_J w s n t h N → p_ok (f_X11_gutters_109 K73 fuel (nI s) b (nI n) (nI t) (nI h) N) P := by
  have hn10 := hW.1.2.1
  have hm10 := hW.1.2.2.2
  intro e
  induction e with
  | zero =>
    intro h fuel N h1 h2 hQ hJ
    obtain ⟨fuel, rfl⟩ : ∃ m, fuel = m + 1 := ⟨fuel - 1, by omega⟩
    have : h = n := by omega
    subst this
    rw [f_X11_gutters_109]
    refine p_t (nI_le (Nat.le_refl _) (by omega)) (p_l ?_)
    rw [p_s1]
    refine hk N ⟨hQ.1, fun g hg => ?_⟩
    have := hQ.2 g hg
    rw [if_pos hg] at this
    rw [if_neg (by omega)]
    exact this
  | succ e ih =>
    intro h fuel N h1 h2 hQ hJ
    obtain ⟨fuel, rfl⟩ : ∃ m, fuel = m + 1 := ⟨fuel - 1, by omega⟩
    obtain ⟨hF, hQ2⟩ := id hQ
    have hh : h < n := by omega
    have n41 : N.1 41 = w := by rw [hF.1 41 (by omega), hw]
    have qh := hQ2 h hh
    rw [if_neg (by omega)] at qh
    have jh : N.1 57 h = e_A (R_g w) w s h t := hJ h (Nat.le_refl h) hh
    have r0 : R_g w h 0 = w (20 + 16 * h + 0) := rfl
    have eg := g_got hW hs hT hh ht
    have ecl : Int32.toNatClampNeg (nI h) = h := p_cl (by omega)
    have g11 := p_ix (show h < 11 by omega) (show 11 < 2 ^ 31 by decide)
    have others : ∀ (v : Int32) (g : Nat), g < n → g ≠ h → (z_w N 55 h v).1 55 g = (g_hs w s g (if g < h then t + 1 else t)).2 ∧ (z_w N 55 h v).1 62 g = g_mg w s g (if g < h then t + 1 else t) := fun v g hg gh => by
      rw [p_eq, if_neg gh, p_ne (by decide)]; exact hQ2 g hg
    have fr : ∀ v : Int32, r_F X (z_w N 55 h v) := fun v => r_F_tr hF ⟨fun a ha => by rw [p_nr (by omega)], fun j _ _ _ _ _ => by rw [p_ne (by omega)]⟩
    have jj : ∀ v : Int32, g_J w s n t h (z_w N 55 h v) := fun v g g1 g2 => by rw [p_ne (by decide)]; exact hJ g g1 g2
    have cont : ∀ N', g_Q X w s n t (h + 1) N' → g_J w s n t (h + 1) N' → p_ok (f_X11_gutters_109 K73 fuel (nI s) b (nI n) (nI t) (nI (h + 1)) N') P := fun N' a1 a2 => ih (h + 1) fuel N' (by omega) (by omega) a1 a2
    have hls : ∀ v : Int32, v = (q_land (R_g w h 0) (w 6) (e_f w s t) (e_s w s t) (g_hs w s h t).2).2 → (z_w N 55 h v).1 55 h = (g_hs w s h (t + 1)).2 := fun v hv => by rw [p_eq, if_pos rfl, hv]; rfl
    have sn : ∀ v : Int32, f_X11_isSnow (nI s) (nI t) (z_w N 55 h v) = some (if e_s w s t = 1 then 1 else 0, z_w N 55 h v) := fun v => by rw [m_snow (by omega) (by omega), p_nr (by decide), n41]
    have sn0 : f_X11_isSnow (nI s) (nI t) N = some (if e_s w s t = 1 then 1 else 0, N) := by rw [m_snow (by omega) (by omega), n41]
    rw [f_X11_gutters_109]
    refine p_f (nI_ge (by omega) (by omega)) ?_
    rw [m_fall (by omega) (by omega), Option.bind_some, n41]
    dsimp only
    rw [show f_X11_own (nI h) (0 : Int32) N = _ from m_own (f := 0) (by omega) (by omega), Option.bind_some, n41]
    refine p_l ?_
    dsimp only
    rw [sn0, Option.bind_some]
    dsimp only
    rcases hsn t ht with z | z
    · rw [z] at sn sn0 eg hls
      rw [if_neg (by decide)] at sn sn0
      unfold q_land at eg hls
      rw [if_pos rfl] at eg hls
      rw [z]
      refine p_t (by decide) (p_g g11 ?_)
      rw [show f_X11_own (nI h) (0 : Int32) N = _ from m_own (f := 0) (by omega) (by omega), Option.bind_some, n41]
      dsimp only
      rw [m_least, Option.bind_some, ecl, qh.1, show Int32.toNatClampNeg (6 : Int32) = 6 from rfl]
      dsimp only
      unfold f_X11_gutters_171
      refine p_g g11 ?_
      rw [sn0, Option.bind_some]
      refine p_t rfl ?_
      unfold f_X11_gutters_197
      refine p_g g11 (p_lx (fun A hA => p_g g11 ?_))
      rw [ecl] at hA
      dsimp only at hA
      subst hA
      rw [sn, Option.bind_some, ecl]
      refine p_t rfl (g_228 hW hw hs hT ht hh (fr _) ?_ (others _) (hls _ ?_) (by rw [p_ne (by decide)]; exact qh.2) (jj _) cont)
      · rw [p_ne (by decide), jh, eg, ← r0, Int32.add_assoc, Int32.add_comm (q_mn _ _)]
      · rw [qh.1, ← r0, Int32.zero_sub, ← Int32.sub_eq_add_neg]
    · rw [z] at sn sn0 eg hls
      rw [if_pos rfl] at sn sn0
      unfold q_land at eg hls
      rw [if_neg (by decide)] at eg hls
      rw [z, if_pos rfl]
      refine p_f b_1z ?_
      unfold f_X11_gutters_171
      refine p_g g11 ?_
      rw [sn0, Option.bind_some]
      refine p_f b_1z ?_
      unfold f_X11_gutters_197
      refine p_g g11 (p_lx (fun A hA => p_g g11 ?_))
      rw [ecl] at hA
      dsimp only at hA
      subst hA
      rw [sn, Option.bind_some, ecl]
      refine p_f b_1z (g_228 hW hw hs hT ht hh (fr _) ?_ (others _) (hls _ ?_) (by rw [p_ne (by decide)]; exact qh.2) (jj _) cont)
      · rw [p_ne (by decide), jh, eg]; simp only [i_add0]
      · rw [qh.1, ← r0, Int32.sub_zero]
end GU
