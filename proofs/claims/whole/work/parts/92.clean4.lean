/-! CLEANINGS: the reference -/
theorem mc_63 (k : Nat) : z_ra 63 k = 66 + k := by unfold z_ra; rw [if_neg (by decide), if_neg (by decide)]
theorem mc_64 (k : Nat) : z_ra 64 k = 71 + k := by unfold z_ra; rw [if_neg (by decide), if_neg (by decide)]
theorem mc_65 (k : Nat) : z_ra 65 k = 76 + k := by unfold z_ra; rw [if_neg (by decide), if_neg (by decide)]
abbrev mc_b (D : Nat → Nat) (g : Nat) : Nat → Bool := fun i => (D i).testBit g
abbrev mc_k (w : Nat → Int32) (D : Nat → Nat) (g i : Nat) : Int32 := cz_k (w_r w g 5) (w_r w g 2) (mc_b D g) i
abbrev mc_u (w : Nat → Int32) (D : Nat → Nat) (g i : Nat) : Int32 := cz_u (w_r w g 5) (w_r w g 2) (mc_b D g) i
/-- the houses as the reference lays them for the storm i -/
def mc_U (w : Nat → Int32) (σ : Nat → Nat) (D : Nat → Nat) (i g j : Nat) : Int32 := if j = 5 then mc_u w D g i else if j = 8 then cz_W w σ i g 8 else if j = 9 then cz_W w σ i g 9 else w_r w g j
/-- the row so far -/
def mc_I (X : zM) (w : Nat → Int32) (σ : Nat → Nat) (n r i : Nat) (D : Nat → Nat) (N : zM) : Prop :=
  r_F X N ∧ (N.1 40 30 = nI n ∧ N.1 40 41 = nI r) ∧ (∀ k, k < r → N.1 59 k = nI (σ k)) ∧ (∀ g, g < n → ∀ j, st_j j → m_r N g j = w_r w g j) ∧ (∀ k, k < i → N.1 60 k = nI (D k)) ∧ ∀ k, k ≤ i → ∀ g, g < n → N.1 (66 + k) g = mc_k w D g k ∧ N.1 (71 + k) g = cz_W w σ k g 8 ∧ N.1 (76 + k) g = cz_W w σ k g 9
def mc_D (D : Nat → Nat) (i c : Nat) : Nat → Nat := fun k => if k = i then c else D k
section MC
variable {K n m r b : Nat} {X : zM} {w : Nat → Int32} {σ : Nat → Nat} {D : Nat → Nat} {i : Nat}
theorem mc_st {N N' : zM} (h : ∀ a, a = 48 ∨ a = 49 ∨ a = 50 ∨ a = 52 ∨ a = 53 → N'.1 a = N.1 a) {g j : Nat} (hj : st_j j) : m_r N' g j = m_r N g j := by
  rcases hj with rfl | rfl | rfl | rfl | rfl
  · show N'.1 48 g = N.1 48 g; rw [h 48 (by omega)]
  · show N'.1 49 g = N.1 49 g; rw [h 49 (by omega)]
  · show N'.1 50 g = N.1 50 g; rw [h 50 (by omega)]
  · show N'.1 52 g = N.1 52 g; rw [h 52 (by omega)]
  · show N'.1 53 g = N.1 53 g; rw [h 53 (by omega)]
theorem mc_fr {N N' : zM} (h : mc_I X w σ n r i D N) (hF : r_F X N') (ho : ∀ a, a ≠ 40 → a ≠ 41 → a ≠ 51 → a ≠ 54 → a ≠ 55 → a ≠ 56 → a ≠ 57 → a ≠ 61 → ¬ (66 + i < a ∧ a < 71) → ¬ (71 + i < a ∧ a < 76) → ¬ (76 + i < a ∧ a < 81) → a ≠ 60 → N'.1 a = N.1 a) (h60 : ∀ k, k < i → N'.1 60 k = N.1 60 k) (h40 : N'.1 40 30 = N.1 40 30 ∧ N'.1 40 41 = N.1 40 41) (hi : i ≤ 4) : mc_I X w σ n r i D N' := by
  obtain ⟨a1, ⟨a2, a3⟩, a4, a5, a6, a7⟩ := h
  refine ⟨hF, ⟨by rw [h40.1]; exact a2, by rw [h40.2]; exact a3⟩, fun k hk => ?_, fun g hg j hj => ?_, fun k hk => by rw [h60 k hk]; exact a6 k hk, fun k hk g hg => ?_⟩
  · rw [ho 59 (by omega) (by omega) (by omega) (by omega) (by omega) (by omega) (by omega) (by omega) (by omega) (by omega) (by omega) (by omega)]; exact a4 k hk
  · rw [mc_st (N := N) (fun a ha => ho a (by omega) (by omega) (by omega) (by omega) (by omega) (by omega) (by omega) (by omega) (by omega) (by omega) (by omega) (by omega)) hj]; exact a5 g hg j hj
  · rw [ho (66 + k) (by omega) (by omega) (by omega) (by omega) (by omega) (by omega) (by omega) (by omega) (by omega) (by omega) (by omega) (by omega), ho (71 + k) (by omega) (by omega) (by omega) (by omega) (by omega) (by omega) (by omega) (by omega) (by omega) (by omega) (by omega) (by omega), ho (76 + k) (by omega) (by omega) (by omega) (by omega) (by omega) (by omega) (by omega) (by omega) (by omega) (by omega) (by omega) (by omega)]
    exact a7 k hk g hg
theorem mc_Dk {c k : Nat} (hk : k < i) : mc_D D i c k = D k := if_neg (by omega)
theorem mc_Di {c : Nat} : mc_D D i c i = c := if_pos rfl
theorem mc_kD {c g k : Nat} (hk : k ≤ i) : mc_k w (mc_D D i c) g k = mc_k w D g k := cz_k_cg k (fun q hq => by show (mc_D D i c q).testBit g = (D q).testBit g; rw [mc_Dk (by omega)])
theorem mc_dn {c : Nat} {N : zM} (h : mc_I X w σ n r (i + 1) (mc_D D i c) N) : mc_I X w σ n r i D N := by
  obtain ⟨a1, a2, a4, a5, a6, a7⟩ := h
  refine ⟨a1, a2, a4, a5, fun k hk => by rw [a6 k (by omega), mc_Dk hk], fun k hk g hg => ?_⟩
  rw [← mc_kD (w := w) (D := D) (c := c) (g := g) hk]
  exact a7 k (by omega) g hg
/-! bounds -/
theorem mc_Wo {g j : Nat} (h8 : ¬ j = 8) (h9 : ¬ j = 9) : ∀ i, cz_W w σ i g j = R_w w g j := by
  intro i
  induction i with
  | zero => rfl
  | succ i ih =>
    show (if j = 8 then _ else if j = 9 then _ else cz_W w σ i g j) = _
    rw [if_neg h8, if_neg h9, ih]
theorem mc_Wrow (hW : s_W K w n m) (hK : K ≤ 8000) (hσ : ∀ i, i < r → σ i < m) : ∀ i, i ≤ r → i ≤ 4 → ∀ g, g < n → b_row (cz_W w σ i g) (117612 * (K + i)) := by
  have hn10 := hW.1.2.1
  intro i
  induction i with
  | zero =>
    intro _ _ g hg
    obtain ⟨r0, r6, r7, r8, r9, rt⟩ := o_row hW hg
    exact ⟨r0, r6, r7, r8, i_mono r9 (by omega), by rw [w_top (r := cz_W w σ 0 g) rfl rfl]; exact i_inn (j := 9999999) (by decide) (by omega) (by omega)⟩
  | succ i ih =>
    intro hi hi4 g hg
    have hrow := ih (by omega) (by omega)
    have hs := hσ i (by omega)
    obtain ⟨⟨T, T1, T2, T3⟩, T4⟩ := hW.2.2.2.2.2 (σ i) hs
    have eT : st_T w (σ i) = T := by unfold st_T; rw [T3, p_cl (by omega)]
    have hab : ∀ t, t < T → i_in (e_A (cz_W w σ i) w (σ i) g t) 0 (11691 * (2 ^ g - 1)) := b_A (by omega) hrow hW.2.1.2.2 (w_f hW hs T2) T2 (by omega) (g + 1) g (by omega) hg
    have hp := g_p2 (g := g) (by omega)
    obtain ⟨q1, q2⟩ := b_hs (sn := e_s w (σ i)) (hrow g hg) hW.2.1.2.2 (w_f hW hs T2) T2 (by omega) hab (by omega) T (Nat.le_refl T)
    obtain ⟨r0, r6, r7, r8, r9, rt⟩ := hrow g hg
    refine ⟨?_, ?_, ?_, ?_, ?_, ?_⟩
    · rw [mc_Wo (by decide) (by decide)] at r0 ⊢; exact r0
    · rw [mc_Wo (by decide) (by decide)] at r6 ⊢; exact r6
    · rw [mc_Wo (by decide) (by decide)] at r7 ⊢; exact r7
    · show i_in (e_hs (cz_W w σ i) w (σ i) (st_T w (σ i)) g).1 0 999
      rw [eT]; exact q1
    · show i_in (e_hs (cz_W w σ i) w (σ i) (st_T w (σ i)) g).2 0 _
      rw [eT]
      exact i_mono q2 (by omega)
    · rw [w_top (r := cz_W w σ (i + 1) g) (mc_Wo (by decide) (by decide) _) (mc_Wo (by decide) (by decide) _)]; exact i_inn (j := 9999999) (by decide) (by omega) (by omega)
theorem mc_kI {cl lv : Int32} {f : Nat → Bool} (h1 : i_in cl 0 10) (h2 : i_in lv 0 10) : ∀ i, i_in (cz_k cl lv f i) 0 10 ∧ i_in (cz_u cl lv f i) 0 10 := by
  have z : i_in (0 : Int32) 0 10 := i_inn (j := 0) (by decide) (by omega) (by omega)
  have st : ∀ i, i_in (cz_k cl lv f i) 0 10 → i_in (cz_u cl lv f i) 0 10 := fun i h => by
    unfold cz_u
    by_cases q : f i = true
    · rw [if_pos q]; exact z
    · rw [if_neg q]; exact h
  intro i
  induction i with
  | zero => exact ⟨h1, st 0 h1⟩
  | succ i ih =>
    have e : i_in (cz_k cl lv f (i + 1)) 0 10 := by
      show i_in (q_mn 10 (cz_u cl lv f i + lv)) 0 10
      obtain ⟨u1, u2⟩ := ih.2
      obtain ⟨l1, l2⟩ := h2
      have e10 : (10 : Int32).toInt = 10 := by decide
      unfold i_in
      rw [i_mnI, i_adI (by omega) (by omega), e10]
      omega
    exact ⟨e, st (i + 1) e⟩
theorem mc_Urow (hW : s_W K w n m) (hK : K ≤ 8000) (hσ : ∀ i, i < r → σ i < m) (hi : i ≤ r) (hi4 : i ≤ 4) {g : Nat} (hg : g < n) : b_row (mc_U w σ D i g) (117612 * (K + i)) := by
  obtain ⟨r0, r6, r7, r8, r9, rt⟩ := mc_Wrow hW hK hσ i hi hi4 g hg
  obtain ⟨h0, h1, h2, h3, h5, h6, h7, h8⟩ := hW.2.2.2.1 g hg
  exact ⟨⟨Int.le_trans (by omega) h0.1, h0.2⟩, h6, h7, r8, r9, b_topI h1 (mc_kI h5 h2 i).2⟩
/-- a run: dry or not, and what is held behind it -/
theorem mc_run (hW : s_W K w n m) (hK : K ≤ 8000) (hσ : ∀ i, i < r → σ i < m) (hi : i < r) (hr : r ≤ 4) : (e_all (mc_U w σ D i) w (σ i) (st_T w (σ i)) n ≤ 0 ↔ ∀ g, g < n → cz_1 w (cz_G w σ) g (mc_b D g) i) ∧ ((∀ g, g < n → cz_1 w (cz_G w σ) g (mc_b D g) i) → ∀ g, g < n → e_hs (mc_U w σ D i) w (σ i) (st_T w (σ i)) g = (cz_W w σ (i + 1) g 8, cz_W w σ (i + 1) g 9)) := by
  have hn10 := hW.1.2.1
  have hs := hσ i hi
  obtain ⟨⟨T, T1, T2, T3⟩, T4⟩ := hW.2.2.2.2.2 (σ i) hs
  have eT : st_T w (σ i) = T := by unfold st_T; rw [T3, p_cl (by omega)]
  have key := cd_dry (U := mc_U w σ D i) (V := cz_W w σ i) (w := w) (s := σ i) (T := T) (n := n) (S := 117612 * (K + i)) hn10 (fun g hg j hj => ?_) (fun g hg => mc_Urow hW hK hσ (by omega) (by omega) hg) (mc_Wrow hW hK hσ i (by omega) (by omega)) (fun g hg => w_top (mc_Wo (by decide) (by decide) i) (mc_Wo (by decide) (by decide) i)) hW.2.1.2.2 (w_f hW hs T2) T2 (by omega)
  · obtain ⟨k1, k2⟩ := key
    rw [eT]
    have e : (∀ g, g < n → cz_1 w (cz_G w σ) g (mc_b D g) i) ↔ ∀ g, g < n → e_mg (cz_W w σ i) w (σ i) T g ≤ q_top (mc_U w σ D i g) := by
      unfold cz_1 cz_G
      rw [eT]
      exact Iff.rfl
    refine ⟨k1.trans e.symm, fun h g hg => ?_⟩
    rw [k2 (e.mp h) g hg]
    show _ = ((e_hs (cz_W w σ i) w (σ i) (st_T w (σ i)) g).1, (e_hs (cz_W w σ i) w (σ i) (st_T w (σ i)) g).2)
    rw [eT]
  · unfold h_5 at hj
    unfold mc_U
    by_cases z8 : j = 8
    · rw [if_neg (by omega), if_pos z8, z8]
    by_cases z9 : j = 9
    · rw [if_neg (by omega), if_neg (by omega), if_pos z9, z9]
    rw [if_neg (by omega), if_neg z8, if_neg z9, mc_Wo z8 z9]
    unfold R_w
    rw [if_neg (by omega), if_neg (by omega)]
abbrev mc_Bs (w : Nat → Int32) (σ : Nat → Nat) (n r p : Nat) (N : zM) : Prop := cz_B w (cz_G w σ) n (2 ^ n) r p (N.1 40 42) (N.1 61)
theorem mc_174 {S : Int32 → Int32 → zM → Option zM} {K58 : Int32 → Int32 → Int32 → zM → Option zM} {P : zM → Prop} {c c' p : Nat} (hw : X.1 41 = w) (hW : s_W K w n m) (hn4 : n ≤ 4) (hi : i < r) (hr : r ≤ 4) (hc : c < 2 ^ n)
    (hK : ∀ N : zM, mc_I X w σ n r (i + 1) (mc_D D i c) N → mc_Bs w σ n r p N → p_ok ((S (nI i + 1) (nI c' + nI (b_pop c.testBit 10)) N).bind fun x3 => z_l (nI c + (1 : Int32)) fun v4 => K58 (nI i) (nI c') v4 x3) P) : ∀ e h fuel (N : zM), h + e = n → e < fuel → mc_I X w σ n r i D N → mc_Bs w σ n r p N → N.1 60 i = nI c → (∀ g, g < n → N.1 51 g = mc_u w (mc_D D i c) g i ∧ N.1 54 g = cz_W w σ (i + 1) g 8 ∧ N.1 55 g = cz_W w σ (i + 1) g 9) → (∀ g, g < h → N.1 (66 + (i + 1)) g = mc_k w (mc_D D i c) g (i + 1) ∧ N.1 (71 + (i + 1)) g = cz_W w σ (i + 1) g 8 ∧ N.1 (76 + (i + 1)) g = cz_W w σ (i + 1) g 9) →
    p_ok (f_X11_goesOn_174 S K58 fuel (nI i) (nI c') (nI c) (nI h) N) P := by
  have hp4 : 2 ^ n ≤ 2 ^ 4 := Nat.pow_le_pow_right (by omega) hn4
  intro e
  induction e with
  | zero =>
    intro h fuel N h1 h2 hI hB h60 h5 h6
    obtain ⟨fuel, rfl⟩ : ∃ m, fuel = m + 1 := ⟨fuel - 1, by omega⟩
    have : h = n := by omega
    subst this
    rw [f_X11_goesOn_174]
    refine p_t (by rw [hI.2.1.1]; exact nI_le (Nat.le_refl _) (by omega)) ?_
    rw [m_cnt (by omega), Option.bind_some]
    refine hK N ?_ hB
    obtain ⟨a1, a2, a4, a5, a6, a7⟩ := hI
    refine ⟨a1, a2, a4, a5, fun k hk => ?_, fun k hk g hg => ?_⟩
    · by_cases z : k = i
      · rw [z, mc_Di]; exact h60
      · rw [mc_Dk (by omega)]; exact a6 k (by omega)
    · by_cases z : k = i + 1
      · rw [z]; exact h6 g hg
      · rw [mc_kD (by omega)]; exact a7 k (by omega) g hg
  | succ e ih =>
    intro h fuel N h1 h2 hI hB h60 h5 h6
    obtain ⟨fuel, rfl⟩ : ∃ m, fuel = m + 1 := ⟨fuel - 1, by omega⟩
    rw [f_X11_goesOn_174]
    have g5 := p_ix (show i + 1 < 5 by omega) (show 5 < 2 ^ 31 by decide)
    have g11 := p_ix (show h < 11 by omega) (show 11 < 2 ^ 31 by decide)
    have g4 := p_ix (show h < 4 by omega) (show 4 < 2 ^ 31 by decide)
    have ecl : Int32.toNatClampNeg (nI h) = h := p_cl (by omega)
    have eci : Int32.toNatClampNeg (nI i + 1) = i + 1 := by rw [p_s1]; exact p_cl (by omega)
    have e41 : N.1 41 = w := by rw [hI.1.1 41 (by omega), hw]
    refine p_f (by rw [hI.2.1.1]; exact nI_ge (by omega) (by omega)) (p_g (by rw [p_s1]; exact g5) (p_g g11 ?_))
    rw [show f_X11_own (nI h) (2 : Int32) N = _ from m_own (f := 2) (by omega) (by omega), Option.bind_some]
    dsimp only
    rw [m_least, Option.bind_some]
    refine p_g g4 (p_lx (fun A eA => p_g (by rw [p_s1]; exact g5) (p_g g11 (p_g g4 (p_lx (fun B eB => p_g (by rw [p_s1]; exact g5) (p_g g11 (p_g g4 (p_lx (fun C eC => p_l ?_))))))))))
    dsimp only at eA
    rw [ecl, eci, mc_63, e41, (h5 h (by omega)).1] at eA
    rw [ecl, eci, mc_64] at eB
    rw [ecl, eci, mc_65] at eC
    have a54 : A.1 54 h = cz_W w σ (i + 1) h 8 := by rw [eA, p_ne (by omega)]; exact (h5 h (by omega)).2.1
    have b55 : B.1 55 h = cz_W w σ (i + 1) h 9 := by rw [eB, p_ne (by omega), eA, p_ne (by omega)]; exact (h5 h (by omega)).2.2
    rw [a54] at eB
    rw [b55] at eC
    have cO : ∀ a, a ≠ 66 + (i + 1) → a ≠ 71 + (i + 1) → a ≠ 76 + (i + 1) → C.1 a = N.1 a := fun a q1 q2 q3 => by rw [eC, p_nr q3, eB, p_nr q2, eA, p_nr q1]
    have cF : r_F X C := r_F_tr hI.1 ⟨fun a ha => cO a (by omega) (by omega) (by omega), fun j _ _ _ _ _ => by rw [cO 40 (by omega) (by omega) (by omega)]⟩
    rw [p_s1]
    refine ih (h + 1) fuel C (by omega) (by omega) (mc_fr hI cF (fun a _ _ _ _ _ _ _ _ q1 q2 q3 _ => cO a (by omega) (by omega) (by omega)) (fun k hk => by rw [cO 60 (by omega) (by omega) (by omega)]) (by rw [cO 40 (by omega) (by omega) (by omega)]; exact ⟨rfl, rfl⟩) (by omega)) ?_ (by rw [cO 60 (by omega) (by omega) (by omega)]; exact h60) (fun g hg => by rw [cO 51 (by omega) (by omega) (by omega), cO 54 (by omega) (by omega) (by omega), cO 55 (by omega) (by omega) (by omega)]; exact h5 g hg) (fun g hg => ?_)
    · show cz_B _ _ _ _ _ _ (C.1 40 42) (C.1 61)
      rw [cO 40 (by omega) (by omega) (by omega), cO 61 (by omega) (by omega) (by omega)]
      exact hB
    · have c1 : C.1 (66 + (i + 1)) g = if g = h then q_mn 10 (mc_u w (mc_D D i c) h i + w_r w h 2) else N.1 (66 + (i + 1)) g := by rw [eC, p_ne (by omega), eB, p_ne (by omega), eA, p_eq]
      have c2 : C.1 (71 + (i + 1)) g = if g = h then cz_W w σ (i + 1) h 8 else N.1 (71 + (i + 1)) g := by rw [eC, p_ne (by omega), eB, p_eq, eA, p_ne (by omega)]
      have c3 : C.1 (76 + (i + 1)) g = if g = h then cz_W w σ (i + 1) h 9 else N.1 (76 + (i + 1)) g := by rw [eC, p_eq, eB, p_ne (by omega), eA, p_ne (by omega)]
      rw [c1, c2, c3]
      by_cases z : g = h
      · rw [if_pos z, if_pos z, if_pos z, z]
        exact ⟨rfl, rfl, rfl⟩
      · rw [if_neg z, if_neg z, if_neg z]
        exact h6 g (by omega)
theorem mc_71 {S : Int32 → Int32 → zM → Option zM} {K58 : Int32 → Int32 → Int32 → zM → Option zM} {P : zM → Prop} {c c' p p' : Nat} (hw : X.1 41 = w) (h33 : X.1 40 33 = 0) (hW : s_W K w n m) (hK8 : K ≤ 8000) (hσ : ∀ i, i < r → σ i < m) (hn4 : n ≤ 4) (hi : i < r) (hr : r ≤ 4) (hc : c < 2 ^ n) (hp : p ≤ p')
    (hno : (∀ g, g < n → cz_1 w (cz_G w σ) g (mc_b (mc_D D i c) g) i) ∨ ∀ y, p ≤ y → y < p' → ¬ cz_F w (cz_G w σ) n (cz_dg (2 ^ n) r y) r)
    (hK : ∀ N : zM, (∀ g, g < n → cz_1 w (cz_G w σ) g (mc_b (mc_D D i c) g) i) → mc_I X w σ n r (i + 1) (mc_D D i c) N → mc_Bs w σ n r p N → p_ok ((S (nI i + 1) (nI c' + nI (b_pop c.testBit 10)) N).bind fun x3 => z_l (nI c + (1 : Int32)) fun v4 => K58 (nI i) (nI c') v4 x3) P)
    (hK2 : ∀ N : zM, mc_I X w σ n r i D N → mc_Bs w σ n r p' N → p_ok (K58 (nI i) (nI c') (nI (c + 1)) N) P) : ∀ e h fuel (N : zM), h + e = n → e < fuel → mc_I X w σ n r i D N → mc_Bs w σ n r p N → (∀ g, g < h → N.1 51 g = mc_u w (mc_D D i c) g i ∧ N.1 54 g = cz_W w σ i g 8 ∧ N.1 55 g = cz_W w σ i g 9) →
    p_ok (f_X11_goesOn_71 S K58 fuel (nI i) (nI c') (nI c) (nI h) N) P := by
  have hp4 : 2 ^ n ≤ 2 ^ 4 := Nat.pow_le_pow_right (by omega) hn4
  have hm10 := hW.1.2.2.2
  have hs := hσ i hi
  intro e
  induction e with
  | zero =>
    intro h fuel N h1 h2 hI hB h5
    obtain ⟨fuel, rfl⟩ : ∃ m, fuel = m + 1 := ⟨fuel - 1, by omega⟩
    have : h = n := by omega
    subst this
    have gi := p_ix (show i < 4 by omega) (show 4 < 2 ^ 31 by decide)
    rw [f_X11_goesOn_71]
    refine p_t (by rw [hI.2.1.1]; exact nI_le (Nat.le_refl _) (by omega)) (p_g gi ?_)
    have eci : Int32.toNatClampNeg (nI i) = i := p_cl (by omega)
    have e59 : N.1 59 (Int32.toNatClampNeg (nI i)) = nI (σ i) := by rw [eci]; exact hI.2.2.1 i hi
    rw [e59]
    obtain ⟨⟨T, T1, T2, T3⟩, T4⟩ := hW.2.2.2.2.2 (σ i) hs
    have eT : st_T w (σ i) = T := by unfold st_T; rw [T3, p_cl (by omega)]
    have hR : ∀ g, g < h → ∀ j, h_im j → m_r N g j = mc_U w σ (mc_D D i c) i g j := fun g hg j hj => by
      unfold mc_U
      unfold h_im at hj
      by_cases z5 : j = 5
      · rw [if_pos z5, z5]; exact (h5 g hg).1
      by_cases z8 : j = 8
      · rw [if_neg z5, if_pos z8, z8]; exact (h5 g hg).2.1
      by_cases z9 : j = 9
      · rw [if_neg z5, if_neg z8, if_pos z9, z9]; exact (h5 g hg).2.2
      rw [if_neg z5, if_neg z8, if_neg z9]
      exact hI.2.2.2.1 g hg j (by unfold st_j; omega)
    have hL : m_L (fun g => mc_U w σ (mc_D D i c) i g 4) h := fun g hg => hW.2.2.2.2.1 g hg
    refine p_bx (p_both (m_allT (R := mc_U w σ (mc_D D i c) i) hI.1 hw h33 (by omega) hI.2.1.1 (by omega) T3 T2 (fun t ht => (T4 t (by omega)).2) hL hR) (m_runT (w := w) (R := mc_U w σ (mc_D D i c) i) (by omega) hI.2.1.1 (by omega) (fun j _ => by rw [hI.1.1 41 (by omega), hw]) T3 T2 (fun t ht => (T4 t (by omega)).2) hL hR)) (fun y hy => ?_)
    obtain ⟨⟨y1, y2, y3, y4, y5⟩, -, -, -, y40, -⟩ := hy
    have run := mc_run (D := mc_D D i c) hW hK8 hσ hi hr
    rw [eT] at run
    have yI : mc_I X w σ h r i D y.2 := mc_fr hI y2 (fun a q1 q2 q3 q4 q5 q6 q7 q8 _ _ _ _ => y3 a (by omega) q1) (fun k hk => by rw [y3 60 (by omega) (by omega)]) ⟨y40 30 (by omega) (by omega), y40 41 (by omega) (by omega)⟩ (by omega)
    have yB : mc_Bs w σ h r p y.2 := by
      show cz_B _ _ _ _ _ _ (y.2.1 40 42) (y.2.1 61)
      rw [y40 42 (by omega) (by omega), y3 61 (by omega) (by omega)]
      exact hB
    rw [y1]
    by_cases z : e_all (mc_U w σ (mc_D D i c) i) w (σ i) T h ≤ 0
    · refine p_t z (p_g gi (p_lx (fun A eA => ?_)))
      rw [eci] at eA
      have dry := run.1.mp z
      have hs2 := run.2 dry
      have aO : ∀ a, a ≠ 60 → A.1 a = y.2.1 a := fun a ha => by rw [eA, p_nr ha]
      have aF : r_F X A := r_F_tr y2 ⟨fun a ha => aO a (by omega), fun j _ _ _ _ _ => by rw [aO 40 (by omega)]⟩
      rw [p_0]
      refine mc_174 hw hW hn4 hi hr hc (fun N' => hK N' dry) h 0 z_F A (by omega) (by unfold z_F; omega) (mc_fr yI aF (fun a _ _ _ _ _ _ _ _ _ _ _ q => aO a q) (fun k hk => by rw [eA, p_eq, if_neg (by omega)]) (by rw [aO 40 (by omega)]; exact ⟨rfl, rfl⟩) (by omega)) ?_ (by rw [eA, p_eq, if_pos rfl]) (fun g hg => ?_) (fun g hg => absurd hg (Nat.not_lt_zero g))
      · show cz_B _ _ _ _ _ _ (A.1 40 42) (A.1 61)
        rw [aO 40 (by omega), aO 61 (by omega)]
        exact yB
      · have e54 := (y5 g hg).1
        have e55 := (y5 g hg).2.1
        rw [hs2 g hg] at e54 e55
        refine ⟨?_, by rw [aO 54 (by omega)]; exact e54, by rw [aO 55 (by omega)]; exact e55⟩
        rw [aO 51 (by omega), y3 51 (by omega) (by omega)]
        exact (h5 g hg).1
    · refine p_f z (p_l ?_)
      rw [p_s1]
      have wet : ¬ ∀ g, g < h → cz_1 w (cz_G w σ) g (mc_b (mc_D D i c) g) i := fun q => z (run.1.mpr q)
      exact hK2 y.2 yI (cz_B_skip hp yB (hno.resolve_left wet))
  | succ e ih =>
    intro h fuel N h1 h2 hI hB h5
    obtain ⟨fuel, rfl⟩ : ∃ m, fuel = m + 1 := ⟨fuel - 1, by omega⟩
    have g5 := p_ix (show i < 5 by omega) (show 5 < 2 ^ 31 by decide)
    have g11 := p_ix (show h < 11 by omega) (show 11 < 2 ^ 31 by decide)
    have g4 := p_ix (show h < 4 by omega) (show 4 < 2 ^ 31 by decide)
    have ecl : Int32.toNatClampNeg (nI h) = h := p_cl (by omega)
    have eci : Int32.toNatClampNeg (nI i) = i := p_cl (by omega)
    obtain ⟨k1, k2, k3⟩ := hI.2.2.2.2.2 i (Nat.le_refl i) h (by omega)
    have go : ∀ x : Int32, x = mc_u w (mc_D D i c) h i → p_ok (f_X11_goesOn_109 S K58 (f_X11_goesOn_71 S K58 fuel) (nI i) (nI c') (nI c) (nI h) 51 (nI h) x N) P := by
      intro x hx
      unfold f_X11_goesOn_109
      refine p_g (by rw [show z_ln 51 = 11 from by decide]; exact g11) (p_lx (fun A eA => p_g g5 (p_g g4 (p_g g11 (p_lx (fun B eB => p_g g5 (p_g g4 (p_g g11 (p_lx (fun C eC => p_l ?_))))))))))
      rw [ecl] at eA
      rw [ecl, eci, mc_64] at eB
      rw [ecl, eci, mc_65] at eC
      have a71 : A.1 (71 + i) h = cz_W w σ i h 8 := by rw [eA, p_ne (by omega)]; exact k2
      have b76 : B.1 (76 + i) h = cz_W w σ i h 9 := by rw [eB, p_ne (by omega), eA, p_ne (by omega)]; exact k3
      rw [a71] at eB
      rw [b76] at eC
      have cO : ∀ a, a ≠ 51 → a ≠ 54 → a ≠ 55 → C.1 a = N.1 a := fun a q1 q2 q3 => by rw [eC, p_nr q3, eB, p_nr q2, eA, p_nr q1]
      have cF : r_F X C := r_F_tr hI.1 ⟨fun a ha => cO a (by omega) (by omega) (by omega), fun j _ _ _ _ _ => by rw [cO 40 (by omega) (by omega) (by omega)]⟩
      rw [p_s1]
      refine ih (h + 1) fuel C (by omega) (by omega) (mc_fr hI cF (fun a _ _ q3 q4 q5 _ _ _ _ _ _ _ => cO a q3 q4 q5) (fun k hk => by rw [cO 60 (by omega) (by omega) (by omega)]) (by rw [cO 40 (by omega) (by omega) (by omega)]; exact ⟨rfl, rfl⟩) (by omega)) ?_ (fun g hg => ?_)
      · show cz_B _ _ _ _ _ _ (C.1 40 42) (C.1 61)
        rw [cO 40 (by omega) (by omega) (by omega), cO 61 (by omega) (by omega) (by omega)]
        exact hB
      · have c1 : C.1 51 g = if g = h then x else N.1 51 g := by rw [eC, p_ne (by omega), eB, p_ne (by omega), eA, p_eq]
        have c2 : C.1 54 g = if g = h then cz_W w σ i h 8 else N.1 54 g := by rw [eC, p_ne (by omega), eB, p_eq, eA, p_ne (by omega)]
        have c3 : C.1 55 g = if g = h then cz_W w σ i h 9 else N.1 55 g := by rw [eC, p_eq, eB, p_ne (by omega), eA, p_ne (by omega)]
        rw [c1, c2, c3]
        by_cases z : g = h
        · rw [if_pos z, if_pos z, if_pos z, z]
          exact ⟨hx, rfl, rfl⟩
        · rw [if_neg z, if_neg z, if_neg z]
          exact h5 g (by omega)
    rw [f_X11_goesOn_71]
    refine p_f (by rw [hI.2.1.1]; exact nI_ge (by omega) (by omega)) ?_
    rw [a_bit (by omega) (by omega)]
    have eu : mc_u w (mc_D D i c) h i = if c.testBit h = true then 0 else mc_k w D h i := by
      show (if (mc_D D i c i).testBit h = true then 0 else mc_k w (mc_D D i c) h i) = _
      rw [mc_Di, mc_kD (Nat.le_refl i)]
    by_cases z : c.testBit h = true
    · refine p_t (by rw [if_pos z]) (go 0 (by rw [eu, if_pos z]))
    · refine p_f (by rw [if_neg z]; decide) (p_g g5 (p_g g4 ?_))
      rw [ecl, eci, mc_63, k1]
      exact go _ (by rw [eu, if_neg z])
end MC
