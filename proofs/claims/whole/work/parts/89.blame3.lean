/-! BLAME: the class -/
abbrev b_cl (w : Nat → Int32) (g : Nat) : Int32 := w_r w g 5
/-- the houses with a clog are found -/
def b_I (w : Nat → Int32) (n : Nat) (X : zM) : Prop := X.1 32 2 = nI (b_k (b_cl w) n) ∧ ∀ g, g < n → ¬ b_cl w g ≤ 0 → X.1 33 (b_k (b_cl w) g) = nI g
/-- the class's sum -/
def b_S (w : Nat → Int32) (F : Nat → Int32) (n u c : Nat) : Int64 := (List.range c).foldl (fun a d => b_stp F (b_k (b_cl w) n) u a (b_ph (b_cl w) d n)) 0
theorem n_sb {a b : Nat} (h : b ≤ a) (ha : a < 2 ^ 31) : nI a - nI b = nI (a - b) := by
  apply Int32.toInt_inj.mp
  rw [i_sbI (by rw [nI_toInt ha, nI_toInt (by omega)]; omega) (by rw [nI_toInt ha, nI_toInt (by omega)]; omega), nI_toInt ha, nI_toInt (by omega), nI_toInt (by omega)]
  omega
theorem b_and {c k : Nat} (hc : c < 128) (hk : k < 7) : (nI c &&& nI (2 ^ k) = 0) ↔ ¬ c.testBit k = true := by
  have d : ∀ (c : Fin 128) (k : Fin 7), (nI c.1 &&& nI (2 ^ k.1) = 0) ↔ ¬ c.1.testBit k.1 = true := by decide +kernel
  exact d ⟨c, hc⟩ ⟨k, hk⟩
theorem b_p7 {N : Nat} (h : N ≤ 7) : 2 ^ N ≤ 128 := Nat.pow_le_pow_right (n := 2) (by omega) h
section CB
variable {K n m s T v u : Nat} {M : zM} {w : Nat → Int32}
theorem cb_ch7 (hW : s_W K w n m) (hC : s_C 1 M w n m) : ∀ e i fuel (Q : zM), i + e = n → e < fuel → t_F M Q → b_I w i Q → b_k (b_cl w) i ≤ 7 →
    p_ok (f_X0_choose_7 fuel 3 (nI i) Q) (fun x => t_F M x.2 ∧ ((b_k (b_cl w) n ≤ 7 ∧ x.1 = 1 ∧ b_I w n x.2) ∨ (7 < b_k (b_cl w) n ∧ x.1 = 0))) := by
  have hn10 := hW.1.2.1
  intro e
  induction e with
  | zero =>
    intro i fuel Q h1 h2 hF hI h7
    obtain ⟨fuel, rfl⟩ : ∃ m, fuel = m + 1 := ⟨fuel - 1, by omega⟩
    have : i = n := by omega
    subst this
    rw [f_X0_choose_7]
    refine p_t ?_ (p_some ⟨hF, Or.inl ⟨h7, rfl, hI⟩⟩)
    rw [hF 3 (by omega), (c_cnt hW hC).1]
    exact nI_le (Nat.le_refl _) (by omega)
  | succ e ih =>
    intro i fuel Q h1 h2 hF hI h7
    obtain ⟨fuel, rfl⟩ : ∃ m, fuel = m + 1 := ⟨fuel - 1, by omega⟩
    rw [f_X0_choose_7]
    refine p_f ?_ (p_g (p_ix (show i < 10 by omega) (by decide)) ?_)
    · rw [hF 3 (by omega), (c_cnt hW hC).1]
      exact nI_ge (by omega) (by omega)
    have e5 : Q.1 (z_ra (3 + 3) (Int32.toNatClampNeg (nI i))) 5 = b_cl w i := by
      rw [p_cl (by omega), c_ra (k0 := 3) (by omega) (by omega), hF _ (by unfold c_H; omega)]
      exact hC.2.2.1 i (by omega) 5 (by omega)
    by_cases z : b_cl w i ≤ 0
    · refine p_t (by rw [e5]; exact z) (p_l ?_)
      have ek : b_k (b_cl w) (i + 1) = b_k (b_cl w) i := by show b_k (b_cl w) i + (if b_cl w i ≤ 0 then 0 else 1) = _; rw [if_pos z]; rfl
      rw [p_s1]
      refine ih (i + 1) fuel Q (by omega) (by omega) hF ⟨by rw [ek]; exact hI.1, fun g hg hc => ?_⟩ (by omega)
      by_cases y : g = i
      · rw [y] at hc; exact absurd z hc
      · exact hI.2 g (by omega) hc
    · refine p_f (by rw [e5]; exact z) ?_
      have ek : b_k (b_cl w) (i + 1) = b_k (b_cl w) i + 1 := by show b_k (b_cl w) i + (if b_cl w i ≤ 0 then 0 else 1) = _; rw [if_neg z]
      rw [hI.1]
      by_cases y : b_k (b_cl w) i < 7
      · refine p_t (nI_lt (b := 7) y (by omega)) (p_g (p_ix y (by decide)) ?_)
        rw [p_cl (by omega)]
        refine p_lx (fun A eA => p_lx (fun B eB => p_l ?_))
        have a32 : A.1 32 2 = nI (b_k (b_cl w) i) := by rw [eA, p_ne (by decide)]; exact hI.1
        rw [p_s1]
        refine ih (i + 1) fuel B (by omega) (by omega) (fun a ha => by rw [eB, p_nr (by omega), eA, p_nr (by omega)]; exact hF a ha) ⟨?_, fun g hg hc => ?_⟩ (by omega)
        · rw [eB, p_eq, if_pos rfl, a32, p_s1, ek]
        · rw [eB, p_ne (by decide), eA, p_eq]
          by_cases x : g = i
          · rw [x, if_pos rfl]
          · rw [if_neg (fun q => x (b_k_inj hc z q))]
            exact hI.2 g (by omega) hc
      · refine p_f (nI_nlt (b := 7) (by omega) (by omega)) (p_some ⟨hF, Or.inr ⟨?_, rfl⟩⟩)
        have := b_k_mono (cl := b_cl w) e (i + 1)
        rw [show i + 1 + e = n by omega, ek] at this
        omega
theorem cb_ch (hW : s_W K w n m) (hC : s_C 1 M w n m) : p_ok (f_X0_choose 3 M) (fun x => t_F M x.2 ∧ ((b_k (b_cl w) n ≤ 7 ∧ x.1 = 1 ∧ b_I w n x.2) ∨ (7 < b_k (b_cl w) n ∧ x.1 = 0))) := by
  unfold f_X0_choose
  refine p_lx (fun A eA => ?_)
  rw [p_0]
  refine cb_ch7 hW hC n 0 z_F A (by omega) (by have := hW.1.2.1; unfold z_F; omega) (fun a ha => by rw [eA, p_nr (by omega)]) ⟨by rw [eA, p_eq, if_pos rfl]; rfl, fun g hg => absurd hg (Nat.not_lt_zero g)⟩ (Nat.zero_le 7)
theorem cb_9 (hW : s_W K w n m) (hX : t_X M w s T) (hv : v < n) (hN : b_k (b_cl w) n ≤ 7) {c : Nat} (hc : c < 128) : ∀ e i fuel (Q : zM), i + e = b_k (b_cl w) n → e < fuel → t_F M Q → b_I w n Q → Q.1 5 0 = nI n → Q.1 5 1 = w 6 → (∀ g, g < n → ∀ j, h_im j → Q.1 (c_H 5 g) j = if j = 5 ∧ ¬ b_cl w g ≤ 0 ∧ b_k (b_cl w) g < i ∧ c.testBit (b_k (b_cl w) g) = false then 0 else w_r w g j) →
    p_ok (f_X0_overWith_9 fuel (nI c) (nI v) 5 (c_S 1 s) (nI i) Q) (fun x => x.1 = b_F w s T v (b_ph (b_cl w) c n) ∧ t_F M x.2 ∧ ∀ a, a < 181 → x.2.1 a = Q.1 a) := by
  have hn10 := hW.1.2.1
  intro e
  induction e with
  | zero =>
    intro i fuel Q h1 h2 hF hI hn hth hR
    obtain ⟨fuel, rfl⟩ : ∃ m, fuel = m + 1 := ⟨fuel - 1, by omega⟩
    rw [f_X0_overWith_9]
    refine p_t (by rw [hI.1]; exact nI_le (by omega) (by omega)) ?_
    refine p_bx (c_pourT (k0 := 5) (la := v) (R := R_b w (b_ph (b_cl w) c n)) (by omega) (by omega) (t_X_fr hX hF) hn hn10 (by omega) hth (fun g hg j hj => ?_)) (fun y hy => p_g (p_ix (show v < 10 by omega) (by decide)) (p_some ?_))
    · rw [hR g hg j hj]
      unfold R_b
      by_cases z5 : j = 5
      · rw [if_pos z5, b_ph_tb, z5]
        by_cases z : b_cl w g ≤ 0
        · rw [if_neg (fun q => q.2.1 z)]
          have hz : w_r w g 5 = 0 := by
            have h5 := (hW.2.2.2.1 g hg).2.2.2.2.1
            apply Int32.toInt_inj.mp
            have := Int32.le_iff_toInt_le.mp z
            have h0 : (0 : Int32).toInt = 0 := rfl
            have h51 : 0 ≤ (b_cl w g).toInt := h5.1
            show (b_cl w g).toInt = _
            omega
          rw [hz, ite_self]
        · have hlt := b_k_lt (cl := b_cl w) hg z
          cases y : c.testBit (b_k (b_cl w) g)
          · rw [if_pos ⟨rfl, z, by omega, rfl⟩, if_neg (by simp)]
          · rw [if_neg (fun q => absurd q.2.2.2 (by decide)), if_pos (by simp [hg, z])]
      · rw [if_neg (fun q => z5 q.1), if_neg z5]
    · obtain ⟨y1, y2, y3, y4⟩ := hy
      rw [Nat.min_eq_left (show v + 1 ≤ n by omega)] at y3 y4
      dsimp only
      rw [p_cl (by omega), c_ra (k0 := 5) (by omega) (by omega), (y4 v (by omega)).1 12, if_neg (by decide), if_neg (by decide), if_pos rfl]
      exact ⟨rfl, fun a ha => by rw [y3 a (by unfold c_H; omega)]; exact hF a ha, fun a ha => y3 a (by unfold c_H; omega)⟩
  | succ e ih =>
    intro i fuel Q h1 h2 hF hI hn hth hR
    obtain ⟨fuel, rfl⟩ : ∃ m, fuel = m + 1 := ⟨fuel - 1, by omega⟩
    obtain ⟨g, g1, g2, g3⟩ := b_k_ex (cl := b_cl w) (i := i) n (by omega)
    rw [f_X0_overWith_9]
    refine p_f (by rw [hI.1]; exact nI_ge (by omega) (by omega)) ?_
    rw [a_bit (by omega) (by omega)]
    cases z : c.testBit i
    · refine p_t (by simp) (p_g (p_ix (show i < 7 by omega) (by decide)) ?_)
      have e33 : Q.1 33 (Int32.toNatClampNeg (nI i)) = nI g := by rw [p_cl (by omega), ← g3]; exact hI.2 g g1 g2
      rw [e33]
      refine p_l (p_g (p_ix (show g < 10 by omega) (by decide)) (p_lx (fun A eA => p_l ?_)))
      rw [p_cl (by omega), c_ra (k0 := 5) (by omega) (by omega)] at eA
      rw [p_s1]
      have aO : ∀ a, a < 181 → A.1 a = Q.1 a := fun a ha => by rw [eA, p_nr (by unfold c_H; omega)]
      refine p_w (ih (i + 1) fuel A (by omega) (by omega) (fun a ha => by rw [eA, p_nr (by unfold c_H; omega)]; exact hF a ha) (by unfold b_I; rw [aO 32 (by omega), aO 33 (by omega)]; exact hI) (by rw [aO 5 (by omega)]; exact hn) (by rw [aO 5 (by omega)]; exact hth) (fun g' hg' j hj => ?_)) ?_
      · by_cases y : g' = g
        · subst y
          rw [eA, p_eq, hR g' hg' j hj]
          by_cases z5 : j = 5
          · rw [if_pos z5, if_pos ⟨z5, g2, by omega, by rw [g3]; exact z⟩]
          · rw [if_neg z5, if_neg (fun q => z5 q.1), if_neg (fun q => z5 q.1)]
        · rw [eA, p_ne (by unfold c_H; omega), hR g' hg' j hj]
          have : (j = 5 ∧ ¬ b_cl w g' ≤ 0 ∧ b_k (b_cl w) g' < i ∧ c.testBit (b_k (b_cl w) g') = false) ↔ (j = 5 ∧ ¬ b_cl w g' ≤ 0 ∧ b_k (b_cl w) g' < i + 1 ∧ c.testBit (b_k (b_cl w) g') = false) := by
            constructor
            · rintro ⟨q1, q2, q3, q4⟩; exact ⟨q1, q2, by omega, q4⟩
            · rintro ⟨q1, q2, q3, q4⟩
              refine ⟨q1, q2, ?_, q4⟩
              have : b_k (b_cl w) g' ≠ i := fun e => y (b_k_inj q2 g2 (e.trans g3.symm))
              omega
          simp only [this]
      · rintro x ⟨x1, x2, x3⟩
        exact ⟨x1, x2, fun a ha => by rw [x3 a ha, aO a ha]⟩
    · refine p_f (by simp) (p_l ?_)
      rw [p_s1]
      refine ih (i + 1) fuel Q (by omega) (by omega) hF hI hn hth (fun g' hg' j hj => ?_)
      rw [hR g' hg' j hj]
      have : (j = 5 ∧ ¬ b_cl w g' ≤ 0 ∧ b_k (b_cl w) g' < i ∧ c.testBit (b_k (b_cl w) g') = false) ↔ (j = 5 ∧ ¬ b_cl w g' ≤ 0 ∧ b_k (b_cl w) g' < i + 1 ∧ c.testBit (b_k (b_cl w) g') = false) := by
        constructor
        · rintro ⟨q1, q2, q3, q4⟩; exact ⟨q1, q2, by omega, q4⟩
        · rintro ⟨q1, q2, q3, q4⟩
          refine ⟨q1, q2, ?_, q4⟩
          have : b_k (b_cl w) g' ≠ i := fun e => by rw [e, z] at q4; exact absurd q4 (by decide)
          omega
      simp only [this]
theorem cb_ow (hW : s_W K w n m) (hC : s_C 1 M w n m) (hX : t_X M w s T) (hv : v < n) (hN : b_k (b_cl w) n ≤ 7) {c : Nat} (hc : c < 128) {Q : zM} (hF : t_F M Q) (hI : b_I w n Q) :
    p_ok (f_X0_overWith (nI c) (nI v) 3 5 (c_S 1 s) Q) (fun x => x.1 = b_F w s T v (b_ph (b_cl w) c n) ∧ t_F M x.2 ∧ ∀ a, a < 181 → a ≠ 5 → x.2.1 a = Q.1 a) := by
  unfold f_X0_overWith
  refine p_bx (c_imgW hW hC hF) (fun X hh => ?_)
  obtain ⟨x1, x2, x3, x4, x5⟩ := hh
  rw [p_0]
  refine p_w (cb_9 hW hX hv hN hc (b_k (b_cl w) n) 0 z_F X (by omega) (by unfold z_F; omega) x1 (by unfold b_I; rw [x2 32 (by omega) (by omega), x2 33 (by omega) (by omega)]; exact hI) x3 x4 (fun g hg j hj => ?_)) ?_
  · rw [if_neg (fun q => absurd q.2.2.1 (Nat.not_lt_zero _))]; exact x5 g hg j hj
  · rintro y ⟨y1, y2, y3⟩
    exact ⟨y1, y2, fun a ha h5 => by rw [y3 a ha, x2 a h5 (by omega)]⟩
theorem cb_16 {Q : zM} {P : zM → Prop} {st : Nat} (hI : b_I w n Q) (hN : b_k (b_cl w) n ≤ 7) (hu : u < n) (hn10 : n ≤ 10) (h0 : b_cl w u ≤ 0 → P Q) (h1 : ¬ b_cl w u ≤ 0 → p_ok (f_X0_weigh_64 z_F (nI v) 3 5 st (nI (2 ^ b_k (b_cl w) u)) (0 : Int32) Q) P) : ∀ e i fuel, i + e = b_k (b_cl w) n → e < fuel →
    p_ok (f_X0_weigh_16 fuel (nI v) (nI u) 3 5 st (if ¬ b_cl w u ≤ 0 ∧ b_k (b_cl w) u < i then nI (2 ^ b_k (b_cl w) u) else 0) (nI i) Q) P := by
  intro e
  induction e with
  | zero =>
    intro i fuel h2 h3
    obtain ⟨fuel, rfl⟩ : ∃ m, fuel = m + 1 := ⟨fuel - 1, by omega⟩
    rw [f_X0_weigh_16]
    refine p_t (by rw [hI.1]; exact nI_le (by omega) (by omega)) ?_
    by_cases z : b_cl w u ≤ 0
    · rw [show (if ¬ b_cl w u ≤ 0 ∧ b_k (b_cl w) u < i then nI (2 ^ b_k (b_cl w) u) else 0) = 0 from if_neg (fun q => q.1 z)]
      exact p_t rfl (p_some (h0 z))
    · have hk := b_k_lt (cl := b_cl w) hu z
      have hp : 2 ^ b_k (b_cl w) u ≤ 2 ^ 7 := Nat.pow_le_pow_right (by omega) (by omega)
      rw [show (if ¬ b_cl w u ≤ 0 ∧ b_k (b_cl w) u < i then nI (2 ^ b_k (b_cl w) u) else 0) = nI (2 ^ b_k (b_cl w) u) from if_pos ⟨z, by omega⟩]
      exact p_f (nI_ne0 (Nat.two_pow_pos (b_k (b_cl w) u)) (by omega)) (h1 z)
  | succ e ih =>
    intro i fuel h2 h3
    obtain ⟨fuel, rfl⟩ : ∃ m, fuel = m + 1 := ⟨fuel - 1, by omega⟩
    obtain ⟨g, g1, g2, g3⟩ := b_k_ex (cl := b_cl w) (i := i) n (by omega)
    have e33 : Q.1 33 (Int32.toNatClampNeg (nI i)) = nI g := by rw [p_cl (by omega), ← g3]; exact hI.2 g g1 g2
    have k := ih (i + 1) fuel (by omega) (by omega)
    rw [f_X0_weigh_16]
    refine p_f (by rw [hI.1]; exact nI_ge (by omega) (by omega)) (p_g (p_ix (show i < 7 by omega) (by decide)) ?_)
    rw [e33]
    by_cases z : g = u
    · subst z
      refine p_t rfl (p_l (p_l ?_))
      rw [if_neg (fun q => absurd q.2 (by omega)), p_0, a_or (by omega) (Nat.two_pow_pos i), Nat.zero_add, p_s1]
      rw [if_pos ⟨g2, by omega⟩, g3] at k
      exact k
    · refine p_f (b_ne (by omega) (by omega) z) (p_l (p_l ?_))
      rw [a_or0, p_s1]
      have : (¬ b_cl w u ≤ 0 ∧ b_k (b_cl w) u < i) ↔ (¬ b_cl w u ≤ 0 ∧ b_k (b_cl w) u < i + 1) := by
        constructor
        · rintro ⟨q1, q2⟩; exact ⟨q1, by omega⟩
        · rintro ⟨q1, q2⟩
          have : b_k (b_cl w) u ≠ i := fun e => z (b_k_inj g2 q1 (g3.trans e.symm))
          exact ⟨q1, by omega⟩
      simp only [this]
      exact k
theorem cb_ao {F : Nat → Int32} {Q : zM} (hI : b_I w n Q) (hN : b_k (b_cl w) n ≤ 7) (hn10 : n ≤ 10) (hu : u < n) (hcl : ¬ b_cl w u ≤ 0) (hF : ∀ c, i_in (F c) 0 71829504) (h34 : ∀ d, d < 2 ^ b_k (b_cl w) n → Q.1 34 d = F (b_ph (b_cl w) d n)) : ∀ e c fuel, c + e = 2 ^ b_k (b_cl w) n → e < fuel →
    f_X0_addOrders_5 fuel (nI (2 ^ b_k (b_cl w) u)) (b_S w F n u c) (nI c) Q = some (b_S w F n u (2 ^ b_k (b_cl w) n), Q) := by
  have hk := b_k_lt (cl := b_cl w) hu hcl
  have hp7 := b_p7 hN
  intro e
  induction e with
  | zero =>
    intro c fuel h1 h2
    obtain ⟨fuel, rfl⟩ : ∃ m, fuel = m + 1 := ⟨fuel - 1, by omega⟩
    have : c = 2 ^ b_k (b_cl w) n := by omega
    rw [f_X0_addOrders_5, hI.1, a_sh (by omega), if_pos (nI_le (by omega) (by omega)), this]
  | succ e ih =>
    intro c fuel h1 h2
    obtain ⟨fuel, rfl⟩ : ∃ m, fuel = m + 1 := ⟨fuel - 1, by omega⟩
    have eS : b_S w F n u (c + 1) = b_stp F (b_k (b_cl w) n) u (b_S w F n u c) (b_ph (b_cl w) c n) := by
      unfold b_S
      rw [List.range_succ, List.foldl_append]
      rfl
    have ebit : (b_ph (b_cl w) c n).testBit u = c.testBit (b_k (b_cl w) u) := by rw [b_ph_tb]; simp [hu, hcl]
    rw [f_X0_addOrders_5, hI.1, a_sh (by omega), if_neg (nI_ge (by omega) (by omega))]
    have k := ih (c + 1) fuel (by omega) (by omega)
    rw [eS] at k
    unfold b_stp at k
    rw [ebit] at k
    by_cases z : c.testBit (b_k (b_cl w) u) = true
    · rw [if_neg (fun q => (b_and (by omega) (by omega)).mp q z)]
      unfold z_l
      rw [p_s1]
      rw [if_pos z] at k
      exact k
    · rw [if_pos ((b_and (by omega) (by omega)).mpr z), c_bitc (by omega), Option.bind_some]
      rw [if_neg z] at k
      have hpop : b_pop c.testBit 10 + 1 ≤ b_k (b_cl w) n := by
        rw [b_pop_10 (k := b_k (b_cl w) n) (by omega) (by omega)]
        exact b_pop_l1 (j := b_k (b_cl w) u) (Bool.eq_false_iff.mpr z) _ hk
      have epop : b_pop (b_ph (b_cl w) c n).testBit 10 = b_pop c.testBit 10 := by
        rw [b_pop_10 (b_ph_lt (b_cl w) c n) hn10, b_pop_ph, b_pop_10 (k := b_k (b_cl w) n) (by omega) (by omega)]
      have hor : c ||| 2 ^ b_k (b_cl w) u < 2 ^ b_k (b_cl w) n := Nat.or_lt_two_pow (by omega) (Nat.pow_lt_pow_right (by omega) hk)
      unfold z_g z_l
      dsimp only
      have ev6 : nI (b_k (b_cl w) n) - 1 - nI (b_pop c.testBit 10) = nI (b_k (b_cl w) n - 1 - b_pop c.testBit 10) := by
        rw [show nI (b_k (b_cl w) n) = nI (b_k (b_cl w) n - 1 + 1) from by rw [Nat.sub_add_cancel (by omega)], nI_pred, n_sb (by omega) (by omega)]
      rw [hI.1, ev6, if_pos (p_ix (show b_pop c.testBit 10 < 8 by omega) (by decide)), if_pos (p_ix (show b_k (b_cl w) n - 1 - b_pop c.testBit 10 < 8 by omega) (by decide)), b_orI, if_pos (p_ix (show c ||| 2 ^ b_k (b_cl w) u < 128 by omega) (by decide)), if_pos (p_ix (show c < 128 by omega) (by decide)), p_cl (by omega), p_cl (by omega), p_cl (by omega), p_cl (by omega), b_f_or (by omega), b_f_or (by omega), h34 _ hor, h34 c (by omega), b_sb64 (hF _) (hF _), p_s1, b_ph_or hu hcl]
      unfold b_G at k
      rw [epop] at k
      exact k
/-- the share, as it is told -/
def b_Ab (S : Int64) : Nat := S.toInt.natAbs
theorem b_abs {S : Int64} (h1 : -4000000000000000000 ≤ S.toInt) (h2 : S.toInt ≤ 4000000000000000000) : (if 0 < S then S else -S) = lN (b_Ab S) ∧ (if 0 ≤ S then S else -S) = lN (b_Ab S) ∧ b_Ab S < 2 ^ 63 := by
  have hA : b_Ab S < 2 ^ 63 := by unfold b_Ab; omega
  have eA : (lN (b_Ab S)).toInt = ((b_Ab S : Nat) : Int) := pk_lT hA
  have h0 : (0 : Int64).toInt = 0 := rfl
  have en : (-S).toInt = -S.toInt := by
    have := l_sbI (a := 0) (b := S) (by rw [h0]; omega) (by rw [h0]; omega)
    rw [Int64.zero_sub, h0] at this
    omega
  refine ⟨?_, ?_, hA⟩
  · apply Int64.toInt_inj.mp
    rw [eA]
    unfold b_Ab
    by_cases z : 0 < S
    · rw [if_pos z]
      have := Int64.lt_iff_toInt_lt.mp z
      omega
    · rw [if_neg z, en]
      have : ¬ (0 : Int64).toInt < S.toInt := fun q => z (Int64.lt_iff_toInt_lt.mpr q)
      omega
  · apply Int64.toInt_inj.mp
    rw [eA]
    unfold b_Ab
    by_cases z : 0 ≤ S
    · rw [if_pos z]
      have := Int64.le_iff_toInt_le.mp z
      omega
    · rw [if_neg z, en]
      have : ¬ (0 : Int64).toInt ≤ S.toInt := fun q => z (Int64.le_iff_toInt_le.mpr q)
      omega
theorem cb_64 (hW : s_W K w n m) (hK : K ≤ 8000) (hC : s_C 1 M w n m) (hs : s < m) (hX : t_X M w s T) (hT : T ≤ 12) (hv : v < n) (hu : u < n) (hN : b_k (b_cl w) n ≤ 7) (hcl : ¬ b_cl w u ≤ 0) {S : Int64} (hS : S = b_S w (b_F w s T v) n u (2 ^ b_k (b_cl w) n)) {g : Nat} (hg : g = Nat.gcd (b_Ab S) (b_f (b_k (b_cl w) n))) : ∀ e c fuel (Q : zM), c + e = 2 ^ b_k (b_cl w) n → e < fuel → t_F M Q → b_I w n Q → (∀ d, d < c → Q.1 34 d = b_F w s T v (b_ph (b_cl w) d n)) →
    p_ok (f_X0_weigh_64 fuel (nI v) 3 5 (c_S 1 s) (nI (2 ^ b_k (b_cl w) u)) (nI c) Q) (fun X => t_F M X ∧ X.2 32 0 = S / lN g ∧ X.2 32 1 = lN (b_f (b_k (b_cl w) n)) / lN g) := by
  have hn10 := hW.1.2.1
  have hp7 := b_p7 hN
  have hFin := b_bI (v := v) (T := T) hW hK hs hT hv
  intro e
  induction e with
  | zero =>
    intro c fuel Q h1 h2 hF hI h34
    obtain ⟨fuel, rfl⟩ : ∃ m, fuel = m + 1 := ⟨fuel - 1, by omega⟩
    have : c = 2 ^ b_k (b_cl w) n := by omega
    subst this
    rw [f_X0_weigh_64]
    refine p_t (by rw [hI.1, a_sh (by omega)]; exact nI_le (Nat.le_refl _) (by omega)) ?_
    have ao : f_X0_addOrders (nI (2 ^ b_k (b_cl w) u)) Q = some (S, Q) := by
      unfold f_X0_addOrders
      rw [show (0 : Int64) = b_S w (b_F w s T v) n u 0 from rfl, p_0, hS]
      exact cb_ao (F := b_F w s T v) hI hN hn10 hu hcl hFin h34 (2 ^ b_k (b_cl w) n) 0 z_F (by omega) (by unfold z_F; omega)
    rw [ao, Option.bind_some]
    dsimp only
    rw [hI.1]
    refine p_g (p_ix (show b_k (b_cl w) n < 8 by omega) (by decide)) ?_
    rw [p_cl (by omega), b_f_or (by omega)]
    refine p_l ?_
    obtain ⟨f1, f2⟩ := b_f_le (k := b_k (b_cl w) n) (by omega)
    have hb := b_fold_in (u := u) (ph := fun d => b_ph (b_cl w) d n) hFin hN (List.range (2 ^ b_k (b_cl w) n)) 0 0 (fun d hd => by
      rw [List.mem_range] at hd
      rw [b_pop_10 (b_ph_lt (b_cl w) d n) hn10, b_pop_ph]
      exact Nat.le_trans (b_pop_le _) hN) (by rw [List.length_range]; omega) (by decide) (by decide)
    rw [show (List.range (2 ^ b_k (b_cl w) n)).foldl (fun a c => b_stp (b_F w s T v) (b_k (b_cl w) n) u a ((fun d => b_ph (b_cl w) d n) c)) 0 = S from hS.symm] at hb
    obtain ⟨a1, a2, a3⟩ := b_abs hb.1 hb.2
    have hgp : 0 < Nat.gcd (b_Ab S) (b_f (b_k (b_cl w) n)) := Nat.gcd_pos_of_pos_right _ (by omega)
    have hgl : Nat.gcd (b_Ab S) (b_f (b_k (b_cl w) n)) ≤ 5040 := Nat.le_trans (Nat.gcd_le_right _ (by omega)) f2
    rw [← hg] at hgp hgl
    have hl : ¬ lN g < 1 := by
      rw [show (1 : Int64) = lN 1 from rfl, pk_lLT (by omega) (by omega)]
      omega
    have cp : f_X0_commonPart (if 0 < S then S else -S) (lN (b_f (b_k (b_cl w) n))) Q = some (lN g, Q) := by
      unfold f_X0_commonPart
      rw [a1, p_0, b_cp 13 _ _ 0 z_F a3 (by omega) (by omega) (by omega) (by unfold z_F; omega), ← hg, if_neg hl]
    rw [cp, Option.bind_some]
    dsimp only
    have hg0 : ¬ lN g = 0 := b_ln0 (by omega) (by omega)
    refine p_g hg0 (p_lx (fun A eA => p_g hg0 (p_lx (fun B eB => p_some ⟨fun a ha => ?_, ?_, ?_⟩))))
    · rw [eB, eA]; exact hF a ha
    · rw [eB, eA]; rfl
    · rw [eB]; rfl
  | succ e ih =>
    intro c fuel Q h1 h2 hF hI h34
    obtain ⟨fuel, rfl⟩ : ∃ m, fuel = m + 1 := ⟨fuel - 1, by omega⟩
    rw [f_X0_weigh_64]
    refine p_f (by rw [hI.1, a_sh (by omega)]; exact nI_ge (by omega) (by omega)) ?_
    refine p_bx (cb_ow hW hC hX hv hN (show c < 128 by omega) hF hI) (fun y hy => p_g (p_ix (show c < 128 by omega) (by decide)) ?_)
    obtain ⟨y1, y2, y3⟩ := hy
    rw [p_cl (by omega)]
    refine p_lx (fun A eA => p_l ?_)
    rw [p_s1]
    refine ih (c + 1) fuel A (by omega) (by omega) (fun a ha => by rw [eA, p_nr (by omega)]; exact y2 a ha) ?_ (fun d hd => ?_)
    · unfold b_I
      rw [eA, p_nr (show 32 ≠ 34 by omega), p_nr (show 33 ≠ 34 by omega), y3 32 (by omega) (by omega), y3 33 (by omega) (by omega)]
      exact hI
    · rw [eA, p_eq]
      by_cases z : d = c
      · rw [if_pos z, y1, z]
      · rw [if_neg z, y3 34 (by omega) (by omega)]; exact h34 d (by omega)
theorem cb_weigh (hW : s_W K w n m) (hK : K ≤ 8000) (hC : s_C 1 M w n m) (hs : s < m) (hX : t_X M w s T) (hT : T ≤ 12) (hv : v < n) (hu : u < n) (hN : b_k (b_cl w) n ≤ 7) {S : Int64} (hS : S = b_S w (b_F w s T v) n u (2 ^ b_k (b_cl w) n)) {g : Nat} (hg : g = Nat.gcd (b_Ab S) (b_f (b_k (b_cl w) n))) {Q : zM} (hF : t_F M Q) (hI : b_I w n Q) :
    p_ok (f_X0_weigh (nI v) (nI u) 3 5 (c_S 1 s) Q) (fun X => t_F M X ∧ ((b_cl w u ≤ 0 ∧ X.2 32 0 = 0 ∧ X.2 32 1 = 1) ∨ (¬ b_cl w u ≤ 0 ∧ X.2 32 0 = S / lN g ∧ X.2 32 1 = lN (b_f (b_k (b_cl w) n)) / lN g))) := by
  have hp7 := b_p7 hN
  unfold f_X0_weigh
  refine p_lx (fun A eA => p_lx (fun B eB => ?_))
  have bF : t_F M B := fun a ha => by rw [eB, eA]; exact hF a ha
  have bI : b_I w n B := by rw [eB, eA]; exact hI
  have := cb_16 (v := v) (st := c_S 1 s) (P := fun X => t_F M X ∧ ((b_cl w u ≤ 0 ∧ X.2 32 0 = 0 ∧ X.2 32 1 = 1) ∨ (¬ b_cl w u ≤ 0 ∧ X.2 32 0 = S / lN g ∧ X.2 32 1 = lN (b_f (b_k (b_cl w) n)) / lN g))) bI hN hu hW.1.2.1 (fun z => ⟨bF, Or.inl ⟨z, by rw [eB, eA]; rfl, by rw [eB]; rfl⟩⟩) (fun z => ?_) (b_k (b_cl w) n) 0 z_F (by omega) (by unfold z_F; omega)
  · rw [if_neg (fun q => absurd q.2 (Nat.not_lt_zero _))] at this
    exact this
  · rw [p_0]
    refine p_w (cb_64 hW hK hC hs hX hT hv hu hN z hS hg (2 ^ b_k (b_cl w) n) 0 z_F B (by omega) (by unfold z_F; omega) bF bI (fun d hd => absurd hd (Nat.not_lt_zero d))) ?_
    rintro X ⟨x1, x2, x3⟩
    exact ⟨x1, Or.inr ⟨z, x2, x3⟩⟩
end CB
