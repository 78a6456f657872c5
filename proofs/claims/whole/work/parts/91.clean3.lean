/-! CLEANINGS: the class -/
/-- the thought houses ahead of the storm i: gutters that never run over -/
def cz_W (w : Nat → Int32) (σ : Nat → Nat) : Nat → Nat → Nat → Int32
  | 0 => R_w w
  | i + 1 => fun g j => if j = 8 then (e_hs (cz_W w σ i) w (σ i) (st_T w (σ i)) g).1 else if j = 9 then (e_hs (cz_W w σ i) w (σ i) (st_T w (σ i)) g).2 else cz_W w σ i g j
def cz_G (w : Nat → Int32) (σ : Nat → Nat) (i g : Nat) : Int32 := e_mg (cz_W w σ i) w (σ i) (st_T w (σ i)) g
/-- the row of storms as the class has it -/
def cc_P (σ : Nat → Nat) (r : Nat) (X : zM) : Prop := X.1 35 0 = nI r ∧ ∀ i, i < r → X.1 36 i = nI (σ i)
section CC
variable {K n m r : Nat} {M : zM} {w : Nat → Int32} {σ : Nat → Nat}
theorem cc_ix {i h : Nat} : nI i * (4 : Int32) + nI h = nI (i * 4 + h) := by
  rw [show (4 : Int32) = nI 4 from rfl, n_mu, n_ad]
theorem cc_43 {K14 : Nat → Nat → Int32 → zM → Option zM} {P : zM → Prop} {i : Nat} {Q : zM} (hn4 : n ≤ 4) (hi : i < 4) (h5 : Q.1 5 0 = nI n)
    (hK : ∀ N : zM, (∀ a, a ≠ 38 → N.1 a = Q.1 a) → (∀ k, k < i * 4 → N.1 38 k = Q.1 38 k) → (∀ g, g < n → N.1 38 (i * 4 + g) = Q.1 (c_H 5 g) 14) → p_ok (K14 1 5 (nI (i + 1)) N) P) : ∀ e h fuel (N : zM), h + e = n → e < fuel → (∀ a, a ≠ 38 → N.1 a = Q.1 a) → (∀ k, k < i * 4 → N.1 38 k = Q.1 38 k) → (∀ g, g < h → N.1 38 (i * 4 + g) = Q.1 (c_H 5 g) 14) →
    p_ok (f_X1_rain_43 K14 fuel 1 5 (nI i) (nI h) N) P := by
  intro e
  induction e with
  | zero =>
    intro h fuel N h1 h2 h3 h4 h6
    obtain ⟨fuel, rfl⟩ : ∃ m, fuel = m + 1 := ⟨fuel - 1, by omega⟩
    have : h = n := by omega
    subst this
    rw [f_X1_rain_43]
    refine p_t (by rw [h3 5 (by omega), h5]; exact nI_le (Nat.le_refl _) (by omega)) (p_l ?_)
    rw [p_s1]
    exact hK N h3 h4 h6
  | succ e ih =>
    intro h fuel N h1 h2 h3 h4 h6
    obtain ⟨fuel, rfl⟩ : ∃ m, fuel = m + 1 := ⟨fuel - 1, by omega⟩
    rw [f_X1_rain_43]
    refine p_f (by rw [h3 5 (by omega), h5]; exact nI_ge (by omega) (by omega)) (p_f (nI_ge (b := 4) (by omega) (by omega)) (p_g (p_ix (show h < 10 by omega) (by decide)) (p_g (by rw [cc_ix]; exact p_ix (show i * 4 + h < 16 by omega) (by decide)) (p_lx (fun A eA => p_l ?_)))))
    rw [cc_ix, p_cl (by omega), p_cl (by omega), c_ra (k0 := 5) (by omega) (by omega), h3 _ (by unfold c_H; omega)] at eA
    rw [p_s1]
    refine ih (h + 1) fuel A (by omega) (by omega) (fun a ha => by rw [eA, p_nr ha, h3 a ha]) (fun k hk => by rw [eA, p_eq, if_neg (by omega), h4 k hk]) (fun g hg => ?_)
    rw [eA, p_eq]
    by_cases z : g = h
    · rw [if_pos (by omega), z]
    · rw [if_neg (by omega)]; exact h6 g (by omega)
theorem cc_14 (hW : s_W K w n m) (hC : s_C 1 M w n m) (hn4 : n ≤ 4) (hr : r ≤ 4) (hσ : ∀ i, i < r → σ i < m) : ∀ e i fuel (Q : zM), i + e = r → e < fuel → t_F M Q → cc_P σ r Q → Q.1 5 0 = nI n → Q.1 5 1 = w 6 → (∀ g, g < n → ∀ j, h_im j → Q.1 (c_H 5 g) j = cz_W w σ i g j) → (∀ k, k < i → ∀ g, g < n → Q.1 38 (k * 4 + g) = cz_G w σ k g) →
    p_ok (f_X1_rain_14 fuel 1 5 (nI i) Q) (fun X => t_F M X ∧ cc_P σ r X ∧ ∀ k, k < r → ∀ g, g < n → X.1 38 (k * 4 + g) = cz_G w σ k g) := by
  intro e
  induction e with
  | zero =>
    intro i fuel Q h1 h2 hF hP hn hth hR hG
    obtain ⟨fuel, rfl⟩ : ∃ m, fuel = m + 1 := ⟨fuel - 1, by omega⟩
    have : i = r := by omega
    subst this
    rw [f_X1_rain_14]
    exact p_t (by rw [hP.1]; exact nI_le (Nat.le_refl _) (by omega)) (p_some ⟨hF, hP, hG⟩)
  | succ e ih =>
    intro i fuel Q h1 h2 hF hP hn hth hR hG
    obtain ⟨fuel, rfl⟩ : ∃ m, fuel = m + 1 := ⟨fuel - 1, by omega⟩
    have hm10 := hW.1.2.2.2
    have hs := hσ i (by omega)
    rw [f_X1_rain_14]
    refine p_f (by rw [hP.1]; exact nI_ge (by omega) (by omega)) (p_g (p_ix (show i < 4 by omega) (by decide)) ?_)
    rw [p_cl (by omega), hP.2 i (by omega)]
    refine p_l (p_g (p_ix (show σ i < 10 by omega) (by decide)) ?_)
    rw [p_cl (by omega), c_ra9]
    obtain ⟨T, T1, T2, T3, T4, T5⟩ := t_X_of (X := M) hW hC (t_F_rfl M) hs
    have eT : st_T w (σ i) = T := by unfold st_T; rw [T3, p_cl (by omega)]
    refine p_bx (c_pourT (k0 := 5) (la := 10) (R := cz_W w σ i) (by omega) (by omega) (t_X_fr T4 hF) hn (by omega) (by omega) hth hR) (fun y hy => ?_)
    obtain ⟨y1, y2, y3, y4⟩ := hy
    rw [t_min (show n ≤ 10 by omega)] at y3 y4
    have yl : ∀ a, a < 181 → y.2.1 a = Q.1 a := fun a ha => y3 a (by unfold c_H; omega)
    have yF : t_F M y.2 := fun a ha => by rw [y3 a (by unfold c_H; omega)]; exact hF a ha
    rw [p_0]
    refine cc_43 hn4 (by omega) (by rw [yl 5 (by omega)]; exact hn) (fun N n1 n2 n3 => ?_) n 0 z_F y.2 (by omega) (by unfold z_F; omega) (fun _ _ => rfl) (fun _ _ => rfl) (fun g hg => absurd hg (Nat.not_lt_zero g))
    refine ih (i + 1) fuel N (by omega) (by omega) (fun a ha => by rw [n1 a (by omega)]; exact yF a ha) ?_ (by rw [n1 5 (by omega), yl 5 (by omega)]; exact hn) (by rw [n1 5 (by omega), yl 5 (by omega)]; exact hth) (fun g hg j hj => ?_) (fun k hk g hg => ?_)
    · unfold cc_P
      rw [n1 35 (by omega), n1 36 (by omega), yl 35 (by omega), yl 36 (by omega)]
      exact hP
    · rw [n1 _ (by unfold c_H; omega), (y4 g hg).1 j]
      unfold h_im at hj
      show _ = if j = 8 then _ else if j = 9 then _ else cz_W w σ i g j
      rw [eT]
      by_cases z8 : j = 8
      · rw [if_pos z8, if_pos z8]
      rw [if_neg z8, if_neg z8]
      by_cases z9 : j = 9
      · rw [if_pos z9, if_pos z9]
      rw [if_neg z9, if_neg z9, if_neg (by omega), if_neg (by omega)]
      exact hR g hg j hj
    · by_cases z : k = i
      · rw [z, n3 g hg, (y4 g hg).1 14, if_neg (by decide), if_neg (by decide), if_neg (by decide), if_pos rfl]
        unfold cz_G
        rw [eT]
      · rw [n2 (k * 4 + g) (by omega), yl 38 (by omega)]
        exact hG k (by omega) g hg
theorem cc_rain (hW : s_W K w n m) (hC : s_C 1 M w n m) (hn4 : n ≤ 4) (hr : r ≤ 4) (hσ : ∀ i, i < r → σ i < m) {Q : zM} (hF : t_F M Q) (hP : cc_P σ r Q) : p_ok (f_X1_rain 1 5 Q) (fun X => t_F M X ∧ cc_P σ r X ∧ ∀ k, k < r → ∀ g, g < n → X.1 38 (k * 4 + g) = cz_G w σ k g) := by
  unfold f_X1_rain
  refine p_bx (c_imgW hW hC hF) (fun A hA => ?_)
  obtain ⟨a1, a2, a3, a4, a5⟩ := hA
  refine p_bx (c_widen (show n ≤ 10 by omega) a3) (fun B hB => ?_)
  obtain ⟨b1, b2⟩ := hB
  rw [p_0]
  refine cc_14 hW hC hn4 hr hσ r 0 z_F B (by omega) (by unfold z_F; omega) (fun a ha => by rw [b1 a (by omega)]; exact a1 a ha) ?_ (by rw [b1 5 (by omega)]; exact a3) (by rw [b1 5 (by omega)]; exact a4) (fun g hg j hj => ?_) (fun k hk => absurd hk (Nat.not_lt_zero k))
  · unfold cc_P
    rw [b1 35 (by omega), b1 36 (by omega), a2 35 (by omega) (by omega), a2 36 (by omega) (by omega)]
    exact hP
  · rw [b2 g hg j]
    show _ = R_w w g j
    unfold R_w
    rw [a5 g hg j hj]
/-! the houses one by one -/
theorem cc_ah {t i : Nat} {Q : zM} (hr1 : i < r) (hr : r ≤ 4) (hQ : Q.1 35 0 = nI r) (ht : t < 16) : f_X1_isAhead (nI t) (nI i) Q = some (if t.testBit (r - 1 - i) = true then 1 else 0, Q) := by
  unfold f_X1_isAhead
  have e : nI r - 1 - nI i = nI (r - 1 - i) := by
    rw [show nI r = nI (r - 1 + 1) from by rw [Nat.sub_add_cancel (by omega)], nI_pred, n_sb (by omega) (by omega)]
  rw [hQ, e, a_bit (by omega) (by omega)]
  cases t.testBit (r - 1 - i)
  · rfl
  · rfl
theorem cc_9 {G : Nat → Nat → Int32} {h t k : Nat} {Q : zM} (hh : h < 4) (hr : r ≤ 4) (ht : t < 16) (hQ : Q.1 35 0 = nI r) (hk : ∀ j, j < 14 → Q.1 k j = w_r w h j) (hG : ∀ i, i < r → Q.1 38 (i * 4 + h) = G i h) : ∀ e i fuel, i + e = r → e < fuel → (∀ j, j < i → cz_1 w G h (fun i => t.testBit (r - 1 - i)) j) →
    p_ok (f_X1_staysDry_9 fuel k (nI h) (nI t) (cz_k (w_r w h 5) (w_r w h 2) (fun i => t.testBit (r - 1 - i)) i) (nI i) Q) (fun x => x.2 = Q ∧ ((x.1 = 1 ∧ cz_d w G h (fun i => t.testBit (r - 1 - i)) r) ∨ (x.1 = 0 ∧ ¬ cz_d w G h (fun i => t.testBit (r - 1 - i)) r))) := by
  intro e
  induction e with
  | zero =>
    intro i fuel h1 h2 hd
    obtain ⟨fuel, rfl⟩ : ∃ m, fuel = m + 1 := ⟨fuel - 1, by omega⟩
    have : i = r := by omega
    subst this
    rw [f_X1_staysDry_9]
    exact p_t (by rw [hQ]; exact nI_le (Nat.le_refl _) (by omega)) (p_some ⟨rfl, Or.inl ⟨rfl, hd⟩⟩)
  | succ e ih =>
    intro i fuel h1 h2 hd
    obtain ⟨fuel, rfl⟩ : ∃ m, fuel = m + 1 := ⟨fuel - 1, by omega⟩
    rw [f_X1_staysDry_9]
    refine p_f (by rw [hQ]; exact nI_ge (by omega) (by omega)) ?_
    rw [cc_ah (by omega) hr hQ ht, Option.bind_some]
    dsimp only
    have go : ∀ c : Int32, c = cz_u (w_r w h 5) (w_r w h 2) (fun i => t.testBit (r - 1 - i)) i → p_ok (f_X1_staysDry_34 (f_X1_staysDry_9 fuel) k (nI h) (nI t) (nI i) c Q) (fun x => x.2 = Q ∧ ((x.1 = 1 ∧ cz_d w G h (fun i => t.testBit (r - 1 - i)) r) ∨ (x.1 = 0 ∧ ¬ cz_d w G h (fun i => t.testBit (r - 1 - i)) r))) := by
      intro c hc
      unfold f_X1_staysDry_34
      rw [cc_ix]
      refine p_l (p_g (p_ix (show i * 4 + h < 16 by omega) (by decide)) ?_)
      rw [show f_X2_carriesAt k c Q = some (Q.1 k 1 * (10 - c) / 10, Q) from rfl, Option.bind_some]
      dsimp only
      rw [p_cl (by omega), hG i (by omega), hk 1 (by omega), hk 2 (by omega)]
      by_cases z : cz_1 w G h (fun i => t.testBit (r - 1 - i)) i
      · refine p_t (by rw [hc]; exact z) (p_l (p_l ?_))
        rw [p_s1]
        have := ih (i + 1) fuel (by omega) (by omega) (fun j hj => by
          by_cases y : j = i
          · rw [y]; exact z
          · exact hd j (by omega))
        rw [show cz_k (w_r w h 5) (w_r w h 2) (fun i => t.testBit (r - 1 - i)) (i + 1) = q_mn 10 (c + w_r w h 2) from by rw [hc]; rfl] at this
        exact this
      · refine p_f (by rw [hc]; exact z) (p_some ⟨rfl, Or.inr ⟨rfl, fun q => z (q i (by omega))⟩⟩)
    cases z : t.testBit (r - 1 - i)
    · refine p_t (by simp) (go _ ?_)
      unfold cz_u
      simp [z]
    · refine p_f (by simp) (go _ ?_)
      unfold cz_u
      simp [z]
theorem cc_dry {G : Nat → Nat → Int32} {h t k : Nat} {Q : zM} (hh : h < 4) (hr : r ≤ 4) (ht : t < 16) (hQ : Q.1 35 0 = nI r) (hk : ∀ j, j < 14 → Q.1 k j = w_r w h j) (hG : ∀ i, i < r → Q.1 38 (i * 4 + h) = G i h) :
    p_ok (f_X1_staysDry k (nI h) (nI t) Q) (fun x => x.2 = Q ∧ ((x.1 = 1 ∧ cz_d w G h (fun i => t.testBit (r - 1 - i)) r) ∨ (x.1 = 0 ∧ ¬ cz_d w G h (fun i => t.testBit (r - 1 - i)) r))) := by
  unfold f_X1_staysDry
  rw [hk 5 (by omega), p_0]
  exact p_l (cc_9 hh hr ht hQ hk hG r 0 z_F (by omega) (by unfold z_F; omega) (fun j hj => absurd hj (Nat.not_lt_zero j)))
theorem cz_h_no {G : Nat → Nat → Int32} {g c : Nat} {x : Int32} (h : cz_h w G g r c x) (hd : ¬ cz_d w G g (fun i => c.testBit (r - 1 - i)) r) : cz_h w G g r (c + 1) x := by
  rcases h with ⟨h1, h2⟩ | ⟨t0, a1, a2, a3, a4⟩
  · refine Or.inl ⟨h1, fun t ht => ?_⟩
    by_cases z : t = c
    · rw [z]; exact hd
    · exact h2 t (by omega)
  · refine Or.inr ⟨t0, by omega, a2, a3, fun t ht hdt => ?_⟩
    by_cases z : t = c
    · rw [z] at hdt; exact absurd hdt hd
    · exact a4 t (by omega) hdt
theorem cc_bt {G : Nat → Nat → Int32} {h k : Nat} {Q : zM} (hh : h < 4) (hr : r ≤ 4) (hQ : Q.1 35 0 = nI r) (hk : ∀ j, j < 14 → Q.1 k j = w_r w h j) (hG : ∀ i, i < r → Q.1 38 (i * 4 + h) = G i h) : ∀ e c fuel x, c + e = 2 ^ r → e < fuel → cz_h w G h r c x →
    p_ok (f_X1_bestTimes_5 fuel k (nI h) x (nI c) Q) (fun y => y.2 = Q ∧ cz_h w G h r (2 ^ r) y.1) := by
  have hr4 : 2 ^ r ≤ 2 ^ 4 := Nat.pow_le_pow_right (by omega) hr
  intro e
  induction e with
  | zero =>
    intro c fuel x h1 h2 hx
    obtain ⟨fuel, rfl⟩ : ∃ m, fuel = m + 1 := ⟨fuel - 1, by omega⟩
    have : c = 2 ^ r := by omega
    subst this
    rw [f_X1_bestTimes_5]
    exact p_t (by rw [hQ, a_sh (by omega)]; exact nI_le (Nat.le_refl _) (by omega)) (p_some ⟨rfl, hx⟩)
  | succ e ih =>
    intro c fuel x h1 h2 hx
    obtain ⟨fuel, rfl⟩ : ∃ m, fuel = m + 1 := ⟨fuel - 1, by omega⟩
    rw [f_X1_bestTimes_5]
    refine p_f (by rw [hQ, a_sh (by omega)]; exact nI_ge (by omega) (by omega)) ?_
    by_cases z : x = -1
    · refine p_t z ?_
      refine p_bx (cc_dry (t := c) hh hr (by omega) hQ hk hG) (fun y hy => ?_)
      obtain ⟨y1, y2⟩ := hy
      rw [y1]
      rcases y2 with ⟨y2, y3⟩ | ⟨y2, y3⟩
      · refine p_f (by rw [y2]; exact b_1z) (p_l ?_)
        rw [p_s1]
        refine ih (c + 1) fuel _ (by omega) (by omega) (Or.inr ⟨c, by omega, rfl, y3, fun t ht hdt => ?_⟩)
        by_cases q : t = c
        · rw [q]; exact Or.inr ⟨rfl, Nat.le_refl _⟩
        · rcases hx with ⟨x1, x2⟩ | ⟨t0, a1, a2, -⟩
          · exact absurd hdt (x2 t (by omega))
          · rw [a2] at z; exact absurd z (n_m1 (by omega))
      · refine p_t y2 (p_l ?_)
        rw [p_s1]
        exact ih (c + 1) fuel x (by omega) (by omega) (cz_h_no hx y3)
    · refine p_f z ?_
      rcases id hx with ⟨x1, x2⟩ | ⟨t0, a1, a2, a3, a4⟩
      · exact absurd x1 z
      rw [c_bitc (by omega), Option.bind_some]
      dsimp only
      rw [a2, c_bitc (by omega), Option.bind_some]
      dsimp only
      have p1 := b_pop_le (f := c.testBit) 10
      have p2 := b_pop_le (f := t0.testBit) 10
      rw [← a2]
      by_cases q : b_pop t0.testBit 10 ≤ b_pop c.testBit 10
      · refine p_t (nI_le q (by omega)) (p_l ?_)
        rw [p_s1]
        refine ih (c + 1) fuel x (by omega) (by omega) (Or.inr ⟨t0, by omega, a2, a3, fun t ht hdt => ?_⟩)
        by_cases y : t = c
        · rw [y]; omega
        · exact a4 t (by omega) hdt
      · refine p_f (nI_ge (by omega) (by omega)) ?_
        refine p_bx (cc_dry (t := c) hh hr (by omega) hQ hk hG) (fun y hy => ?_)
        obtain ⟨y1, y2⟩ := hy
        rw [y1]
        rcases y2 with ⟨y2, y3⟩ | ⟨y2, y3⟩
        · refine p_f (by rw [y2]; exact b_1z) (p_l ?_)
          rw [p_s1]
          refine ih (c + 1) fuel _ (by omega) (by omega) (Or.inr ⟨c, by omega, rfl, y3, fun t ht hdt => ?_⟩)
          by_cases y : t = c
          · rw [y]; exact Or.inr ⟨rfl, Nat.le_refl _⟩
          · have := a4 t (by omega) hdt
            omega
        · refine p_t y2 (p_l ?_)
          rw [p_s1]
          exact ih (c + 1) fuel x (by omega) (by omega) (cz_h_no hx y3)
theorem cc_75 {K27 : Nat → Int32 → zM → Option (Int32 × zM)} {P : Int32 × zM → Prop} {h t : Nat} {Q : zM} {S : Nat → Nat} (hh : h < 4) (hr : r ≤ 4) (ht : t < 16) (hQ : Q.1 35 0 = nI r) (hS : ∀ i, i < r → S i < 2 ^ h ∧ Q.1 37 i = nI (S i))
    (hK : ∀ N : zM, (∀ a, a ≠ 37 → N.1 a = Q.1 a) → (∀ i, i < r → N.1 37 i = nI (S i + if t.testBit (r - 1 - i) = true then 2 ^ h else 0)) → p_ok (K27 3 (nI (h + 1)) N) P) : ∀ e i fuel (N : zM), i + e = r → e < fuel → (∀ a, a ≠ 37 → N.1 a = Q.1 a) → (∀ k, k < r → N.1 37 k = if k < i then nI (S k + if t.testBit (r - 1 - k) = true then 2 ^ h else 0) else nI (S k)) →
    p_ok (f_X1_plan_75 K27 fuel 3 (nI h) (nI t) (nI i) N) P := by
  intro e
  induction e with
  | zero =>
    intro i fuel N h1 h2 h3 h4
    obtain ⟨fuel, rfl⟩ : ∃ m, fuel = m + 1 := ⟨fuel - 1, by omega⟩
    have : i = r := by omega
    subst this
    rw [f_X1_plan_75]
    refine p_t (by rw [h3 35 (by omega), hQ]; exact nI_le (Nat.le_refl _) (by omega)) (p_l ?_)
    rw [p_s1]
    exact hK N h3 (fun k hk => by rw [h4 k hk, if_pos hk])
  | succ e ih =>
    intro i fuel N h1 h2 h3 h4
    obtain ⟨fuel, rfl⟩ : ∃ m, fuel = m + 1 := ⟨fuel - 1, by omega⟩
    have g4 := p_ix (show i < 4 by omega) (show 4 < 2 ^ 31 by decide)
    have hSi := (hS i (by omega)).1
    have e37 : N.1 37 i = nI (S i) := by rw [h4 i (by omega), if_neg (Nat.lt_irrefl i)]
    have go : ∀ (x : Int32) (A : zM), x = nI (S i + if t.testBit (r - 1 - i) = true then 2 ^ h else 0) → A = z_w N 37 i x → p_ok (f_X1_plan_75 K27 fuel 3 (nI h) (nI t) (nI (i + 1)) A) P := by
      intro x A hx eA
      refine ih (i + 1) fuel A (by omega) (by omega) (fun a ha => by rw [eA, p_nr ha, h3 a ha]) (fun k hk => ?_)
      rw [eA, p_eq]
      by_cases z : k = i
      · rw [if_pos z, z, if_pos (by omega)]; exact hx
      · rw [if_neg z, h4 k hk]
        by_cases y : k < i
        · rw [if_pos y, if_pos (show k < i + 1 by omega)]
        · rw [if_neg y, if_neg (show ¬ k < i + 1 by omega)]
    rw [f_X1_plan_75]
    refine p_f (by rw [h3 35 (by omega), hQ]; exact nI_ge (by omega) (by omega)) (p_g g4 ?_)
    rw [cc_ah (by omega) hr (by rw [h3 35 (by omega)]; exact hQ) ht, Option.bind_some]
    dsimp only
    cases z : t.testBit (r - 1 - i)
    · refine p_t (by simp) (p_g g4 (p_lx (fun A eA => p_l ?_)))
      rw [p_cl (by omega), e37, a_or0] at eA
      rw [p_s1]
      exact go _ A (by rw [z]; rfl) eA
    · refine p_f (by simp) (p_g g4 (p_lx (fun A eA => p_l ?_)))
      rw [p_cl (by omega), e37, a_or (by omega) hSi] at eA
      rw [p_s1]
      exact go _ A (by rw [z]; rfl) eA
/-- what the plan comes to -/
def cc_R (w : Nat → Int32) (G : Nat → Nat → Int32) (n r : Nat) (x : Int32 × zM) : Prop :=
  (x.1 = 0 ∧ cz_B w G n (2 ^ n) r ((2 ^ n) ^ r) (-1) (x.2.1 37)) ∨ (x.1 = 1 ∧ cz_B w G n (2 ^ n) r ((2 ^ n) ^ r) (x.2.1 35 1) (x.2.1 37) ∧ ¬ x.2.1 35 1 = -1)
theorem cc_27 {G : Nat → Nat → Int32} (hW : s_W K w n m) (hC : s_C 1 M w n m) (hn4 : n ≤ 4) (hr : r ≤ 4) : ∀ e h fuel (Q : zM) (tm : Nat → Nat), h + e = n → e < fuel → t_F M Q → Q.1 35 0 = nI r → (∀ k, k < r → ∀ g, g < n → Q.1 38 (k * 4 + g) = G k g) → (∀ g, g < h → cz_h w G g r (2 ^ r) (nI (tm g)) ∧ tm g < 2 ^ r) → Q.1 35 1 = nI (cz_sm (fun g => b_pop (tm g).testBit 10) h) → (∀ i, i < r → Q.1 37 i = nI (cz_st tm r i h)) →
    p_ok (f_X1_plan_27 fuel 3 (nI h) Q) (fun x => t_F M x.2 ∧ cc_R w G n r x) := by
  have hr4 : 2 ^ r ≤ 2 ^ 4 := Nat.pow_le_pow_right (by omega) hr
  have smb : ∀ (tm : Nat → Nat) h, cz_sm (fun g => b_pop (tm g).testBit 10) h ≤ 10 * h := by
    intro tm h
    induction h with
    | zero => exact Nat.le_refl _
    | succ h ih => have := b_pop_le (f := (tm h).testBit) 10; rw [cz_sm]; omega
  intro e
  induction e with
  | zero =>
    intro h fuel Q tm h1 h2 hF hQ hG htm h35 h37
    obtain ⟨fuel, rfl⟩ : ∃ m, fuel = m + 1 := ⟨fuel - 1, by omega⟩
    have : h = n := by omega
    subst this
    rw [f_X1_plan_27]
    refine p_t (by rw [hF 3 (by omega), (c_cnt hW hC).1]; exact nI_le (Nat.le_refl _) (by omega)) (p_some ⟨hF, Or.inr ⟨rfl, ?_, ?_⟩⟩)
    · dsimp only
      rw [h35]
      exact cz_join hn4 hr rfl htm h37
    · dsimp only
      rw [h35]
      have := smb tm h
      exact n_m1 (by omega)
  | succ e ih =>
    intro h fuel Q tm h1 h2 hF hQ hG htm h35 h37
    obtain ⟨fuel, rfl⟩ : ∃ m, fuel = m + 1 := ⟨fuel - 1, by omega⟩
    rw [f_X1_plan_27]
    refine p_f (by rw [hF 3 (by omega), (c_cnt hW hC).1]; exact nI_ge (by omega) (by omega)) (p_f (nI_ge (b := 4) (by omega) (by omega)) (p_g (p_ix (show h < 10 by omega) (by decide)) ?_))
    rw [p_cl (by omega), c_ra (k0 := 3) (by omega) (by omega)]
    have hk : ∀ j, j < 14 → Q.1 (c_H 3 h) j = w_r w h j := fun j hj => by rw [hF _ (by unfold c_H; omega)]; exact hC.2.2.1 h (by omega) j hj
    have bt := cc_bt (G := G) (show h < 4 by omega) hr hQ hk (fun i hi => hG i hi h (by omega)) (2 ^ r) 0 z_F (-1) (by omega) (by unfold z_F; omega) (Or.inl ⟨rfl, fun t ht => absurd ht (Nat.not_lt_zero t)⟩)
    rw [nI_0] at bt
    refine p_bx (show p_ok (f_X1_bestTimes (c_H 3 h) (nI h) Q) _ from bt) (fun y hy => ?_)
    obtain ⟨y1, y2⟩ := hy
    rw [y1]
    by_cases z : y.1 = -1
    · refine p_t z (p_some ⟨hF, Or.inl ⟨rfl, ?_⟩⟩)
      rcases y2 with ⟨y2, y3⟩ | ⟨t0, q1, q2, q3, q4⟩
      · exact cz_none rfl (show h < n by omega) y3
      · rw [q2] at z; exact absurd z (n_m1 (by omega))
    · refine p_f z ?_
      rcases id y2 with ⟨y3, -⟩ | ⟨t0, q1, q2, q3, q4⟩
      · exact absurd y3 z
      rw [q2, c_bitc (by omega), Option.bind_some]
      dsimp only
      refine p_lx (fun A eA => ?_)
      have pl := b_pop_le (f := t0.testBit) 10
      have aO : ∀ a, a ≠ 35 → A.1 a = Q.1 a := fun a ha => by rw [eA, p_nr ha]
      have a0 : A.1 35 0 = nI r := by rw [eA, p_eq, if_neg (by decide)]; exact hQ
      have a1 : A.1 35 1 = nI (cz_sm (fun g => b_pop (tm g).testBit 10) h + b_pop t0.testBit 10) := by rw [eA, p_eq, if_pos rfl, h35, n_ad]
      rw [p_0]
      refine cc_75 (S := fun i => cz_st tm r i h) (t := t0) (Q := A) (show h < 4 by omega) hr (by omega) a0 (fun i hi => ⟨cz_st_lt tm r i h, by rw [aO 37 (by omega)]; exact h37 i hi⟩) (fun N n1 n2 => ?_) r 0 z_F A (by omega) (by unfold z_F; omega) (fun _ _ => rfl) (fun k hk => by rw [if_neg (Nat.not_lt_zero k), aO 37 (by omega)]; exact h37 k hk)
      have tmh : ∀ g, g < h → (fun g => if g = h then t0 else tm g) g = tm g := fun g hg => if_neg (by omega)
      refine ih (h + 1) fuel N (fun g => if g = h then t0 else tm g) (by omega) (by omega) (fun a ha => by rw [n1 a (by omega), aO a (by omega)]; exact hF a ha) (by rw [n1 35 (by omega)]; exact a0) (fun k hk g hg => by rw [n1 38 (by omega), aO 38 (by omega)]; exact hG k hk g hg) (fun g hg => ?_) ?_ (fun i hi => ?_)
      · by_cases y : g = h
        · rw [if_pos y, y, ← q2]; exact ⟨y2, q1⟩
        · rw [if_neg y]; exact htm g (by omega)
      · rw [n1 35 (by omega), a1, cz_sm, if_pos rfl]
        rw [cz_sm_cg (f := fun g => b_pop (if g = h then t0 else tm g).testBit 10) (f' := fun g => b_pop (tm g).testBit 10) h (fun g hg => by rw [if_neg (by omega)])]
      · rw [n2 i hi, cz_st, if_pos rfl]
        have : ∀ k, k ≤ h → cz_st (fun g => if g = h then t0 else tm g) r i k = cz_st tm r i k := by
          intro k
          induction k with
          | zero => intro _; rfl
          | succ k ihk => intro hk; rw [cz_st, cz_st, ihk (by omega), show (if k = h then t0 else tm k) = tm k from if_neg (by omega)]
        rw [this h (Nat.le_refl h)]
theorem cc_7 {G : Nat → Nat → Int32} (hW : s_W K w n m) (hC : s_C 1 M w n m) (hn4 : n ≤ 4) (hr : r ≤ 4) : ∀ e i fuel (Q : zM), i + e = 4 → e < fuel → t_F M Q → Q.1 35 0 = nI r → Q.1 35 1 = 0 → (∀ k, k < r → ∀ g, g < n → Q.1 38 (k * 4 + g) = G k g) → (∀ k, k < i → Q.1 37 k = 0) →
    p_ok (f_X1_plan_7 fuel 3 (nI i) Q) (fun x => t_F M x.2 ∧ cc_R w G n r x) := by
  intro e
  induction e with
  | zero =>
    intro i fuel Q h1 h2 hF hQ h35 hG h37
    obtain ⟨fuel, rfl⟩ : ∃ m, fuel = m + 1 := ⟨fuel - 1, by omega⟩
    have : i = 4 := by omega
    subst this
    rw [f_X1_plan_7]
    refine p_t (by decide) ?_
    rw [p_0]
    exact cc_27 hW hC hn4 hr n 0 z_F Q (fun _ => 0) (by omega) (by unfold z_F; omega) hF hQ hG (fun g hg => absurd hg (Nat.not_lt_zero g)) (by rw [h35]; rfl) (fun k hk => by rw [h37 k (by omega)]; rfl)
  | succ e ih =>
    intro i fuel Q h1 h2 hF hQ h35 hG h37
    obtain ⟨fuel, rfl⟩ : ∃ m, fuel = m + 1 := ⟨fuel - 1, by omega⟩
    rw [f_X1_plan_7]
    refine p_f (nI_ge (b := 4) (by omega) (by omega)) (p_g (p_ix (show i < 4 by omega) (by decide)) (p_lx (fun A eA => p_l ?_)))
    rw [p_cl (by omega)] at eA
    rw [p_s1]
    have aO : ∀ a, a ≠ 37 → A.1 a = Q.1 a := fun a ha => by rw [eA, p_nr ha]
    refine ih (i + 1) fuel A (by omega) (by omega) (fun a ha => by rw [aO a (by omega)]; exact hF a ha) (by rw [aO 35 (by omega)]; exact hQ) (by rw [aO 35 (by omega)]; exact h35) (fun k hk g hg => by rw [aO 38 (by omega)]; exact hG k hk g hg) (fun k hk => ?_)
    rw [eA, p_eq]
    by_cases z : k = i
    · rw [if_pos z]
    · rw [if_neg z]; exact h37 k (by omega)
theorem cc_plan {G : Nat → Nat → Int32} (hW : s_W K w n m) (hC : s_C 1 M w n m) (hn4 : n ≤ 4) (hr : r ≤ 4) {Q : zM} (hF : t_F M Q) (hQ : Q.1 35 0 = nI r) (hG : ∀ k, k < r → ∀ g, g < n → Q.1 38 (k * 4 + g) = G k g) : p_ok (f_X1_plan 3 Q) (fun x => t_F M x.2 ∧ cc_R w G n r x) := by
  unfold f_X1_plan
  refine p_lx (fun A eA => ?_)
  have aO : ∀ a, a ≠ 35 → A.1 a = Q.1 a := fun a ha => by rw [eA, p_nr ha]
  rw [p_0]
  exact cc_7 hW hC hn4 hr 4 0 z_F A (by omega) (by unfold z_F; omega) (fun a ha => by rw [aO a (by omega)]; exact hF a ha) (by rw [eA, p_eq, if_neg (by decide)]; exact hQ) (by rw [eA, p_eq, if_pos rfl]) (fun k hk g hg => by rw [aO 38 (by omega)]; exact hG k hk g hg) (fun k hk => absurd hk (Nat.not_lt_zero k))
end CC
