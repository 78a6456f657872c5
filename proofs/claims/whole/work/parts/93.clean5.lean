/-! CLEANINGS: the reference's search, and the call -/
section MG
variable {K n m r : Nat} {X : zM} {w : Nat → Int32} {σ : Nat → Nat}
theorem mc_32 {S : Int32 → Int32 → zM → Option zM} {i : Nat} {Q : zM} (hi : i ≤ 4) : ∀ e k fuel (N : zM), k + e = i → e < fuel → (∀ a, a ≠ 61 → N.1 a = Q.1 a) → (∀ q, q < k → N.1 61 q = Q.1 60 q) →
    p_ok (f_X11_goesOn_32 S fuel (nI i) (nI k) N) (fun Y => (∀ a, a ≠ 61 → Y.1 a = Q.1 a) ∧ ∀ q, q < i → Y.1 61 q = Q.1 60 q) := by
  intro e
  induction e with
  | zero =>
    intro k fuel N h1 h2 h3 h4
    obtain ⟨fuel, rfl⟩ : ∃ m, fuel = m + 1 := ⟨fuel - 1, by omega⟩
    have : k = i := by omega
    subst this
    rw [f_X11_goesOn_32]
    exact p_t (nI_le (Nat.le_refl _) (by omega)) (p_some ⟨h3, h4⟩)
  | succ e ih =>
    intro k fuel N h1 h2 h3 h4
    obtain ⟨fuel, rfl⟩ : ∃ m, fuel = m + 1 := ⟨fuel - 1, by omega⟩
    have g4 := p_ix (show k < 4 by omega) (show 4 < 2 ^ 31 by decide)
    rw [f_X11_goesOn_32]
    refine p_f (nI_ge (by omega) (by omega)) (p_g g4 (p_g g4 (p_lx (fun A eA => p_l ?_))))
    rw [p_cl (by omega), h3 60 (by omega)] at eA
    rw [p_s1]
    refine ih (k + 1) fuel A (by omega) (by omega) (fun a ha => by rw [eA, p_nr ha, h3 a ha]) (fun q hq => ?_)
    rw [eA, p_eq]
    by_cases z : q = k
    · rw [if_pos z, z]
    · rw [if_neg z]; exact h4 q (by omega)
theorem mc_in {b B P y : Nat} (h1 : P * B ≤ y) (h2 : y < (P + 1) * B) : y / B = P := Nat.div_eq_of_lt_le h1 h2
theorem mc_leaf {S : Int32 → Int32 → zM → Option zM} {D : Nat → Nat} {c : Nat} {N : zM} (hn4 : n ≤ 4) (hr : r ≤ 4) (hD : ∀ k, k < r → D k < 2 ^ n) (hdry : ∀ k, k < r → ∀ g, g < n → cz_1 w (cz_G w σ) g (mc_b D g) k) (hc : c = cz_t D r) (hI : mc_I X w σ n r r D N) (hB : mc_Bs w σ n r (cz_num (2 ^ n) D r) N) (hL : N.1 40 42 = -1 ∨ nI c < N.1 40 42) :
    p_ok (z_l (z_w N 40 42 (nI c)) fun M3 => f_X11_goesOn_32 S z_F (nI r) (0 : Int32) M3) (fun Y => mc_I X w σ n r r D Y ∧ mc_Bs w σ n r (cz_num (2 ^ n) D r + 1) Y) := by
  have hb0 : 0 < 2 ^ n := Nat.two_pow_pos n
  refine p_lx (fun A eA => ?_)
  rw [p_0]
  refine p_w (mc_32 (Q := A) hr r 0 z_F A (by omega) (by unfold z_F; omega) (fun _ _ => rfl) (fun q hq => absurd hq (Nat.not_lt_zero q))) ?_
  rintro Y ⟨y1, y2⟩
  have aO : ∀ a, a ≠ 40 → A.1 a = N.1 a := fun a ha => by rw [eA, p_nr ha]
  have a40 : ∀ j, j ≠ 42 → A.1 40 j = N.1 40 j := fun j hj => by rw [eA, p_eq, if_neg hj]
  have yF : r_F X Y := r_F_tr hI.1 ⟨fun a ha => by rw [y1 a (by omega), aO a (by omega)], fun j _ _ _ _ j5 => by rw [y1 40 (by omega), a40 j j5]⟩
  have dg : ∀ k, k < r → cz_dg (2 ^ n) r (cz_num (2 ^ n) D r) k = D k := fun k hk => cz_dg_num hb0 hD hk
  refine ⟨mc_fr hI yF (fun a q1 _ _ _ _ _ _ q8 _ _ _ _ => by rw [y1 a q8, aO a q1]) (fun k hk => by rw [y1 60 (by omega), aO 60 (by omega)]) ⟨by rw [y1 40 (by omega), a40 30 (by omega)], by rw [y1 40 (by omega), a40 41 (by omega)]⟩ hr, ?_⟩
  show cz_B _ _ _ _ _ _ (Y.1 40 42) (Y.1 61)
  rw [y1 40 (by omega), show A.1 40 42 = nI c from by rw [eA, p_eq, if_pos rfl]]
  refine cz_B_new hr hB hL ((cz_F_cg dg).mpr (fun g hg k hk => hdry k hk g hg)) (by rw [hc, cz_t_cg dg]) (fun k hk => ?_)
  rw [y2 k hk, aO 60 (by omega), hI.2.2.2.2.1 k hk, dg k hk]
theorem mc_58 {S : Int32 → Int32 → zM → Option zM} {D : Nat → Nat} {i c : Nat} (hw : X.1 41 = w) (h33 : X.1 40 33 = 0) (hW : s_W K w n m) (hK8 : K ≤ 8000) (hσ : ∀ i, i < r → σ i < m) (hn4 : n ≤ 4) (hi : i < r) (hr : r ≤ 4) (hD : ∀ k, k < i → D k < 2 ^ n) (hdry : ∀ k, k < i → ∀ g, g < n → cz_1 w (cz_G w σ) g (mc_b D g) k) (hc : c = cz_t D i)
    (hS : ∀ (N : zM) (D' : Nat → Nat) (c' : Nat), (∀ k, k < i + 1 → D' k < 2 ^ n) → (∀ k, k < i + 1 → ∀ g, g < n → cz_1 w (cz_G w σ) g (mc_b D' g) k) → c' = cz_t D' (i + 1) → mc_I X w σ n r (i + 1) D' N → mc_Bs w σ n r (cz_num (2 ^ n) D' (i + 1) * (2 ^ n) ^ (r - (i + 1))) N → p_ok (S (nI (i + 1)) (nI c') N) (fun Y => mc_I X w σ n r (i + 1) D' Y ∧ mc_Bs w σ n r ((cz_num (2 ^ n) D' (i + 1) + 1) * (2 ^ n) ^ (r - (i + 1))) Y)) : ∀ e t fuel (N : zM), t + e = 2 ^ n → e < fuel → mc_I X w σ n r i D N → mc_Bs w σ n r ((cz_num (2 ^ n) D i * 2 ^ n + t) * (2 ^ n) ^ (r - (i + 1))) N →
    p_ok (f_X11_goesOn_58 S fuel (nI i) (nI c) (nI t) N) (fun Y => mc_I X w σ n r i D Y ∧ mc_Bs w σ n r ((cz_num (2 ^ n) D i + 1) * (2 ^ n) ^ (r - i)) Y) := by
  have hp4 : 2 ^ n ≤ 2 ^ 4 := Nat.pow_le_pow_right (by omega) hn4
  have hb0 : 0 < 2 ^ n := Nat.two_pow_pos n
  intro e
  induction e with
  | zero =>
    intro t fuel N h1 h2 hI hB
    obtain ⟨fuel, rfl⟩ : ∃ m, fuel = m + 1 := ⟨fuel - 1, by omega⟩
    have : t = 2 ^ n := by omega
    subst this
    rw [f_X11_goesOn_58]
    refine p_t (by rw [hI.2.1.1, a_sh (by omega)]; exact nI_le (Nat.le_refl _) (by omega)) (p_some ⟨hI, ?_⟩)
    rw [show (cz_num (2 ^ n) D i + 1) * (2 ^ n) ^ (r - i) = (cz_num (2 ^ n) D i * 2 ^ n + 2 ^ n) * (2 ^ n) ^ (r - (i + 1)) from by
      rw [show r - i = (r - (i + 1)) + 1 by omega, Nat.pow_succ (2 ^ n), Nat.mul_comm ((2 ^ n) ^ (r - (i + 1))) (2 ^ n), ← Nat.mul_assoc, Nat.add_mul, Nat.one_mul]]
    exact hB
  | succ e ih =>
    intro t fuel N h1 h2 hI hB
    obtain ⟨fuel, rfl⟩ : ∃ m, fuel = m + 1 := ⟨fuel - 1, by omega⟩
    have en : cz_num (2 ^ n) (mc_D D i t) (i + 1) = cz_num (2 ^ n) D i * 2 ^ n + t := by
      rw [cz_num, mc_Di, cz_num_cg i (fun k hk => mc_Dk hk)]
    have hD' : ∀ k, k < i + 1 → mc_D D i t k < 2 ^ n := fun k hk => by
      by_cases z : k = i
      · rw [z, mc_Di]; omega
      · rw [mc_Dk (by omega)]; exact hD k (by omega)
    have ltB : (cz_num (2 ^ n) D i * 2 ^ n + t) * (2 ^ n) ^ (r - (i + 1)) ≤ (cz_num (2 ^ n) D i * 2 ^ n + t + 1) * (2 ^ n) ^ (r - (i + 1)) := Nat.mul_le_mul_right _ (by omega)
    rw [f_X11_goesOn_58]
    refine p_f (by rw [hI.2.1.1, a_sh (by omega)]; exact nI_ge (by omega) (by omega)) ?_
    rw [p_0]
    refine mc_71 (p := (cz_num (2 ^ n) D i * 2 ^ n + t) * (2 ^ n) ^ (r - (i + 1))) (p' := (cz_num (2 ^ n) D i * 2 ^ n + t + 1) * (2 ^ n) ^ (r - (i + 1))) hw h33 hW hK8 hσ hn4 hi hr (show t < 2 ^ n by omega) ltB ?_ (fun A dry aI aB => ?_) (fun A aI aB => ?_) n 0 z_F N (by omega) (by unfold z_F; omega) hI hB (fun g hg => absurd hg (Nat.not_lt_zero g))
    · by_cases dry : ∀ g, g < n → cz_1 w (cz_G w σ) g (mc_b (mc_D D i t) g) i
      · exact Or.inl dry
      · refine Or.inr (fun y y1 y2 hf => dry (fun g hg => ?_))
        have hy := mc_in (b := 2 ^ n) y1 y2
        rw [← en] at hy
        have pre := cz_pre (r := r) hb0 (show i + 1 ≤ r by omega) hD' hy
        exact (cz_1_cg (fun k hk => by show (cz_dg (2 ^ n) r y k).testBit g = _; rw [pre k hk])).mp (hf g hg i hi)
    · rw [p_s1, n_ad, p_s1]
      have hd' : ∀ k, k < i + 1 → ∀ g, g < n → cz_1 w (cz_G w σ) g (mc_b (mc_D D i t) g) k := fun k hk g hg => by
        by_cases z : k = i
        · rw [z]; exact dry g hg
        · exact (cz_1_cg (fun q hq => by show (D q).testBit g = (mc_D D i t q).testBit g; rw [mc_Dk (by omega)])).mp (hdry k (by omega) g hg)
      have ec : c + b_pop t.testBit 10 = cz_t (mc_D D i t) (i + 1) := by
        show _ = cz_t (mc_D D i t) i + b_pop (mc_D D i t i).testBit 10
        rw [mc_Di, cz_t_cg (r := i) (fun k hk => mc_Dk hk), hc]
      refine p_bx (hS A (mc_D D i t) _ hD' hd' ec aI (by rw [en]; exact aB)) (fun Y hY => p_l ?_)
      obtain ⟨y1, y2⟩ := hY
      rw [en] at y2
      exact ih (t + 1) fuel Y (by omega) (by omega) (mc_dn y1) y2
    · exact ih (t + 1) fuel A (by omega) (by omega) aI aB
theorem mc_go (hw : X.1 41 = w) (h33 : X.1 40 33 = 0) (hW : s_W K w n m) (hK8 : K ≤ 8000) (hσ : ∀ i, i < r → σ i < m) (hn4 : n ≤ 4) (hr : r ≤ 4) : ∀ d i fuel (N : zM) (D : Nat → Nat) (c : Nat), i + d = r → d < fuel → (∀ k, k < i → D k < 2 ^ n) → (∀ k, k < i → ∀ g, g < n → cz_1 w (cz_G w σ) g (mc_b D g) k) → c = cz_t D i → mc_I X w σ n r i D N → mc_Bs w σ n r (cz_num (2 ^ n) D i * (2 ^ n) ^ (r - i)) N →
    p_ok (f_X11_goesOn fuel (nI i) (nI c) N) (fun Y => mc_I X w σ n r i D Y ∧ mc_Bs w σ n r ((cz_num (2 ^ n) D i + 1) * (2 ^ n) ^ (r - i)) Y) := by
  have hb0 : 0 < 2 ^ n := Nat.two_pow_pos n
  intro d
  induction d with
  | zero =>
    intro i fuel N D c h1 h2 hD hdry hc hI hB
    obtain ⟨fuel, rfl⟩ : ∃ m, fuel = m + 1 := ⟨fuel - 1, by omega⟩
    have : i = r := by omega
    subst this
    have cl : c ≤ 40 := by rw [hc]; exact cz_t_lt hr
    rw [Nat.sub_self, Nat.pow_zero, Nat.mul_one] at hB ⊢
    rw [f_X11_goesOn]
    unfold f_X11_goesOn_b
    by_cases z : N.1 40 42 = -1
    · refine p_t z (p_t (by rw [hI.2.1.2]) ?_)
      have := mc_leaf (S := f_X11_goesOn fuel) hn4 hr hD hdry hc hI hB (Or.inl z)
      exact this
    · refine p_f z ?_
      by_cases y : nI c < N.1 40 42
      · refine p_t y (p_t (by rw [hI.2.1.2]) ?_)
        exact mc_leaf (S := f_X11_goesOn fuel) hn4 hr hD hdry hc hI hB (Or.inr y)
      · refine p_f y (p_some ⟨hI, ?_⟩)
        refine cz_B_cut hr (by omega) hB z cl y (fun q q1 q2 => ?_)
        have : q = cz_num (2 ^ n) D i := by omega
        rw [this, cz_t_cg (fun k hk => cz_dg_num hb0 hD hk), hc]
        exact Nat.le_refl _
  | succ d ih =>
    intro i fuel N D c h1 h2 hD hdry hc hI hB
    obtain ⟨fuel, rfl⟩ : ∃ m, fuel = m + 1 := ⟨fuel - 1, by omega⟩
    have cl : c ≤ 40 := by rw [hc]; exact cz_t_lt (show i ≤ 4 by omega)
    have ne : ¬ nI i = N.1 40 41 := by rw [hI.2.1.2]; exact b_ne (by omega) (by omega) (by omega)
    have hB0 : mc_Bs w σ n r ((cz_num (2 ^ n) D i * 2 ^ n + 0) * (2 ^ n) ^ (r - (i + 1))) N := by
      rw [Nat.add_zero, Nat.mul_assoc, Nat.mul_comm (2 ^ n), ← Nat.pow_succ, show (r - (i + 1)).succ = r - i by omega]
      exact hB
    have loop := mc_58 (S := f_X11_goesOn fuel) hw h33 hW hK8 hσ hn4 (show i < r by omega) hr hD hdry hc (fun N' D' c' q1 q2 q3 q4 q5 => ih (i + 1) fuel N' D' c' (by omega) (by omega) q1 q2 q3 q4 q5) (2 ^ n) 0 z_F N (by omega) (by have : 2 ^ n ≤ 2 ^ 4 := Nat.pow_le_pow_right (by omega) hn4; unfold z_F; omega) hI hB0
    rw [f_X11_goesOn]
    unfold f_X11_goesOn_b
    by_cases z : N.1 40 42 = -1
    · exact p_t z (p_f ne loop)
    · refine p_f z ?_
      by_cases y : nI c < N.1 40 42
      · exact p_t y (p_f ne loop)
      · refine p_f y (p_some ⟨hI, ?_⟩)
        refine cz_B_cut hr (Nat.mul_le_mul_right _ (by omega)) hB z cl y (fun q q1 q2 => ?_)
        have hy := mc_in (b := 2 ^ n) q1 q2
        have pre := cz_pre (r := r) hb0 (show i ≤ r by omega) hD hy
        rw [hc, ← cz_t_cg pre]
        have := cz_sm_mono (f := fun k => b_pop (cz_dg (2 ^ n) r q k).testBit 10) (k := i) (r - i)
        rw [show i + (r - i) = r by omega] at this
        exact this
/-- what cleanings answers, the best being L and B -/
theorem mc_134 {what : Int32} (hw : X.1 41 = w) (h33 : X.1 40 33 = 0) (hW : s_W K w n m) (hK8 : K ≤ 8000) (hσ : ∀ i, i < r → σ i < m) (hn4 : n ≤ 4) (hr : r ≤ 4) (hwh : what = 0 ∨ ∃ j, j < r ∧ what - 10 = nI j) : ∀ e h fuel (N : zM), h + e = n → e < fuel → r_F X N → (N.1 40 30 = nI n ∧ N.1 40 41 = nI r) → (∀ k, k < r → N.1 59 k = nI (σ k)) → (∀ g, g < n → ∀ j, h_im j → m_r N g j = w_r w g j) → (∀ g, g < h → N.1 66 g = w_r w g 5 ∧ N.1 71 g = w_r w g 8 ∧ N.1 76 g = w_r w g 9) →
    p_ok (f_X11_cleanings_134 fuel what (nI h) N) (fun x => r_F X x.2 ∧ ∃ L B, cz_B w (cz_G w σ) n (2 ^ n) r ((2 ^ n) ^ r) L B ∧ x.1 = (if L = -1 then L else if what = 0 then L else B (Int32.toNatClampNeg (what - 10)))) := by
  intro e
  induction e with
  | zero =>
    intro h fuel N h1 h2 hF h40 h59 hR h6
    obtain ⟨fuel, rfl⟩ : ∃ m, fuel = m + 1 := ⟨fuel - 1, by omega⟩
    have : h = n := by omega
    subst this
    rw [f_X11_cleanings_134]
    refine p_t (by rw [h40.1]; exact nI_le (Nat.le_refl _) (by omega)) (p_lx (fun A eA => ?_))
    have aO : ∀ a, a ≠ 40 → A.1 a = N.1 a := fun a ha => by rw [eA, p_nr ha]
    have a40 : ∀ j, j ≠ 42 → A.1 40 j = N.1 40 j := fun j hj => by rw [eA, p_eq, if_neg hj]
    have aF : r_F X A := r_F_tr hF ⟨fun a ha => aO a (by omega), fun j _ _ _ _ j5 => a40 j j5⟩
    have aI : mc_I X w σ h r 0 (fun _ => 0) A := by
      refine ⟨aF, ⟨by rw [a40 30 (by omega)]; exact h40.1, by rw [a40 41 (by omega)]; exact h40.2⟩, fun k hk => by rw [aO 59 (by omega)]; exact h59 k hk, fun g hg j hj => ?_, fun k hk => absurd hk (Nat.not_lt_zero k), fun k hk g hg => ?_⟩
      · rw [mc_st (N := N) (fun a ha => aO a (by omega)) hj]
        exact hR g hg j (by unfold st_j at hj; unfold h_im; omega)
      · have : k = 0 := by omega
        subst this
        rw [aO (66 + 0) (by omega), aO (71 + 0) (by omega), aO (76 + 0) (by omega)]
        exact h6 g hg
    have aB : mc_Bs w σ h r (cz_num (2 ^ h) (fun _ => 0) 0 * (2 ^ h) ^ (r - 0)) A := by
      rw [show cz_num (2 ^ h) (fun _ => 0) 0 = 0 from rfl, Nat.zero_mul]
      exact Or.inl ⟨by rw [eA, p_eq, if_pos rfl], fun y hy => absurd hy (Nat.not_lt_zero y)⟩
    have go := mc_go hw h33 hW hK8 hσ hn4 hr r 0 6 A (fun _ => 0) 0 (by omega) (by omega) (fun k hk => absurd hk (Nat.not_lt_zero k)) (fun k hk => absurd hk (Nat.not_lt_zero k)) rfl aI aB
    rw [nI_0] at go
    refine p_bx go (fun Y hY => ?_)
    obtain ⟨y1, y2⟩ := hY
    rw [show cz_num (2 ^ h) (fun _ => 0) 0 = 0 from rfl, Nat.zero_add, Nat.one_mul, Nat.sub_zero] at y2
    by_cases z : Y.1 40 42 = -1
    · refine p_t z (p_some ⟨y1.1, Y.1 40 42, Y.1 61, y2, ?_⟩)
      rw [if_pos z]
    · refine p_f z ?_
      by_cases q : what = 0
      · refine p_t q (p_some ⟨y1.1, Y.1 40 42, Y.1 61, y2, ?_⟩)
        rw [if_neg z, if_pos q]
      · obtain ⟨j, hj, ej⟩ := hwh.resolve_left q
        refine p_f q (p_g (by rw [ej]; exact p_ix (show j < 4 by omega) (by decide)) (p_some ⟨y1.1, Y.1 40 42, Y.1 61, y2, ?_⟩))
        rw [if_neg z, if_neg q]
  | succ e ih =>
    intro h fuel N h1 h2 hF h40 h59 hR h6
    obtain ⟨fuel, rfl⟩ : ∃ m, fuel = m + 1 := ⟨fuel - 1, by omega⟩
    have g11 := p_ix (show h < 11 by omega) (show 11 < 2 ^ 31 by decide)
    have g4 := p_ix (show h < 4 by omega) (show 4 < 2 ^ 31 by decide)
    have ecl : Int32.toNatClampNeg (nI h) = h := p_cl (by omega)
    have z0 : Int32.toNatClampNeg (0 : Int32) = 0 := rfl
    rw [f_X11_cleanings_134]
    refine p_f (by rw [h40.1]; exact nI_ge (by omega) (by omega)) (p_g g11 (p_g g4 (p_lx (fun A eA => p_g g11 (p_g g4 (p_lx (fun B eB => p_g g11 (p_g g4 (p_lx (fun C eC => p_l ?_))))))))))
    rw [ecl, z0, mc_63] at eA
    rw [ecl, z0, mc_64] at eB
    rw [ecl, z0, mc_65] at eC
    have n51 : N.1 51 h = w_r w h 5 := hR h (by omega) 5 (by unfold h_im; omega)
    have a54 : A.1 54 h = w_r w h 8 := by rw [eA, p_ne (by omega)]; exact hR h (by omega) 8 (by unfold h_im; omega)
    have b55 : B.1 55 h = w_r w h 9 := by rw [eB, p_ne (by omega), eA, p_ne (by omega)]; exact hR h (by omega) 9 (by unfold h_im; omega)
    rw [n51] at eA
    rw [a54] at eB
    rw [b55] at eC
    have cO : ∀ a, a ≠ 66 → a ≠ 71 → a ≠ 76 → C.1 a = N.1 a := fun a q1 q2 q3 => by rw [eC, p_nr q3, eB, p_nr q2, eA, p_nr q1]
    rw [p_s1]
    refine ih (h + 1) fuel C (by omega) (by omega) (r_F_tr hF ⟨fun a ha => cO a (by omega) (by omega) (by omega), fun j _ _ _ _ _ => by rw [cO 40 (by omega) (by omega) (by omega)]⟩) (by rw [cO 40 (by omega) (by omega) (by omega)]; exact h40) (fun k hk => by rw [cO 59 (by omega) (by omega) (by omega)]; exact h59 k hk) (fun g hg j hj => ?_) (fun g hg => ?_)
    · obtain ⟨q, q1, q2, q3, q4, q5⟩ := m_rk (N := N) (g := g) hj
      rw [q4 C, cO q (by omega) (by omega) (by omega), ← q4 N]
      exact hR g hg j hj
    · have c1 : C.1 66 g = if g = h then w_r w h 5 else N.1 66 g := by rw [eC, p_ne (by omega), eB, p_ne (by omega), eA, p_eq]
      have c2 : C.1 71 g = if g = h then w_r w h 8 else N.1 71 g := by rw [eC, p_ne (by omega), eB, p_eq, eA, p_ne (by omega)]
      have c3 : C.1 76 g = if g = h then w_r w h 9 else N.1 76 g := by rw [eC, p_eq, eB, p_ne (by omega), eA, p_ne (by omega)]
      rw [c1, c2, c3]
      by_cases z : g = h
      · rw [if_pos z, if_pos z, if_pos z, z]; exact ⟨rfl, rfl, rfl⟩
      · rw [if_neg z, if_neg z, if_neg z]; exact h6 g (by omega)
end MG
/-! the row of storms -/
abbrev cz_stm (m : Nat) (x : Int32) : Prop := ¬ x < 0 ∧ ¬ (nI m - 1) < x
theorem cz_stm1 (m : Nat) : ¬ cz_stm m (-1) := fun q => q.1 (by decide)
theorem cz_stmI {m : Nat} {x : Int32} (hm : m ≤ 10) (h : cz_stm m x) : x = nI (Int32.toNatClampNeg x) ∧ Int32.toNatClampNeg x < m := by
  obtain ⟨j, hj, rfl⟩ := i_nat (by omega) h.1 h.2
  rw [p_cl (by omega)]
  exact ⟨rfl, hj⟩
def cz_ok (ρ : Nat → Int32) (m r : Nat) : Prop := r ≤ 4 ∧ (∀ i, i < r → cz_stm m (ρ i)) ∧ (r = 4 ∨ ρ r = -1)
def cz_bad (ρ : Nat → Int32) (m k : Nat) : Prop := k < 4 ∧ (∀ i, i < k → cz_stm m (ρ i)) ∧ ¬ ρ k = -1 ∧ ¬ cz_stm m (ρ k)
theorem cz_dec (ρ : Nat → Int32) (m : Nat) : ∀ e k, k + e = 4 → (∀ i, i < k → cz_stm m (ρ i)) → (∃ r, cz_ok ρ m r) ∨ ∃ k, cz_bad ρ m k := by
  intro e
  induction e with
  | zero => intro k h1 h2; exact Or.inl ⟨k, by omega, h2, Or.inl (by omega)⟩
  | succ e ih =>
    intro k h1 h2
    by_cases z : ρ k = -1
    · exact Or.inl ⟨k, by omega, h2, Or.inr z⟩
    · by_cases y : cz_stm m (ρ k)
      · refine ih (k + 1) (by omega) (fun i hi => ?_)
        by_cases q : i = k
        · rw [q]; exact y
        · exact h2 i (by omega)
      · exact Or.inr ⟨k, by omega, h2, z, y⟩
section PR
variable {K n m r : Nat} {M X : zM} {w : Nat → Int32} {ρ : Nat → Int32} {what : Int32}
theorem mc_34 {P : Int32 × zM → Prop} (hw : X.1 41 = w) (hm : w 1 = nI m) (h : cz_ok ρ m r) (hK : ∀ N : zM, r_F X N → N.1 40 41 = nI r → (∀ i, i < 4 → N.1 59 i = ρ i) → p_ok (f_X11_cleanings_86 what N) P) : ∀ e k fuel (N : zM), k + e = r → e < fuel → r_F X N → N.1 40 41 = nI k → (∀ i, i < 4 → N.1 59 i = ρ i) →
    p_ok (f_X11_cleanings_34 fuel what N) P := by
  obtain ⟨hr, hs, hend⟩ := h
  intro e
  induction e with
  | zero =>
    intro k fuel N h1 h2 hF h41 h59
    obtain ⟨fuel, rfl⟩ : ∃ m, fuel = m + 1 := ⟨fuel - 1, by omega⟩
    have : k = r := by omega
    subst this
    rw [f_X11_cleanings_34, h41]
    by_cases z : 4 ≤ k
    · exact p_t (nI_le (a := 4) z (by omega)) (hK N hF h41 h59)
    · refine p_f (nI_ge (b := 4) (by omega) (by omega)) (p_g (p_ix (show k < 4 by omega) (by decide)) (p_t ?_ (hK N hF h41 h59)))
      rw [p_cl (by omega), h59 k (by omega)]
      exact hend.resolve_left (by omega)
  | succ e ih =>
    intro k fuel N h1 h2 hF h41 h59
    obtain ⟨fuel, rfl⟩ : ∃ m, fuel = m + 1 := ⟨fuel - 1, by omega⟩
    have g4 := p_ix (show k < 4 by omega) (show 4 < 2 ^ 31 by decide)
    have e59 : N.1 59 (Int32.toNatClampNeg (nI k)) = ρ k := by rw [p_cl (by omega)]; exact h59 k (by omega)
    have hk := hs k (by omega)
    rw [f_X11_cleanings_34, h41, e59]
    refine p_f (nI_ge (b := 4) (by omega) (by omega)) (p_g g4 (p_f (fun q => cz_stm1 m (q ▸ hk)) (p_g g4 ?_)))
    rw [m_isS, hF.1 41 (by omega), hw, hm, if_pos hk, Option.bind_some]
    dsimp only
    refine p_f b_1z (p_lx (fun A eA => ?_))
    rw [h41, p_s1] at eA
    refine ih (k + 1) fuel A (by omega) (by omega) (r_F_tr hF ⟨fun a ha => by rw [eA, p_nr (by omega)], fun j _ _ _ j4 _ => by rw [eA, p_eq, if_neg j4]⟩) (by rw [eA, p_eq, if_pos rfl]) (fun i hi => by rw [eA, p_ne (by decide)]; exact h59 i hi)
theorem mc_34b {k0 : Nat} (hw : X.1 41 = w) (hm : w 1 = nI m) (h : cz_bad ρ m k0) : ∀ e k fuel (N : zM), k + e = k0 → e < fuel → r_F X N → N.1 40 41 = nI k → (∀ i, i < 4 → N.1 59 i = ρ i) →
    p_ok (f_X11_cleanings_34 fuel what N) (fun x => x.1 = -1 ∧ r_F X x.2) := by
  obtain ⟨hr, hs, h1', h2'⟩ := h
  intro e
  induction e with
  | zero =>
    intro k fuel N h1 h2 hF h41 h59
    obtain ⟨fuel, rfl⟩ : ∃ m, fuel = m + 1 := ⟨fuel - 1, by omega⟩
    have : k = k0 := by omega
    subst this
    have g4 := p_ix (show k < 4 by omega) (show 4 < 2 ^ 31 by decide)
    have e59 : N.1 59 (Int32.toNatClampNeg (nI k)) = ρ k := by rw [p_cl (by omega)]; exact h59 k (by omega)
    rw [f_X11_cleanings_34, h41, e59]
    refine p_f (nI_ge (b := 4) (by omega) (by omega)) (p_g g4 (p_f h1' (p_g g4 ?_)))
    rw [m_isS, hF.1 41 (by omega), hw, hm, if_neg h2', Option.bind_some]
    exact p_t rfl (p_some ⟨rfl, hF⟩)
  | succ e ih =>
    intro k fuel N h1 h2 hF h41 h59
    obtain ⟨fuel, rfl⟩ : ∃ m, fuel = m + 1 := ⟨fuel - 1, by omega⟩
    have g4 := p_ix (show k < 4 by omega) (show 4 < 2 ^ 31 by decide)
    have e59 : N.1 59 (Int32.toNatClampNeg (nI k)) = ρ k := by rw [p_cl (by omega)]; exact h59 k (by omega)
    have hk := hs k (by omega)
    rw [f_X11_cleanings_34, h41, e59]
    refine p_f (nI_ge (b := 4) (by omega) (by omega)) (p_g g4 (p_f (fun q => cz_stm1 m (q ▸ hk)) (p_g g4 ?_)))
    rw [m_isS, hF.1 41 (by omega), hw, hm, if_pos hk, Option.bind_some]
    dsimp only
    refine p_f b_1z (p_lx (fun A eA => ?_))
    rw [h41, p_s1] at eA
    refine ih (k + 1) fuel A (by omega) (by omega) (r_F_tr hF ⟨fun a ha => by rw [eA, p_nr (by omega)], fun j _ _ _ j4 _ => by rw [eA, p_eq, if_neg j4]⟩) (by rw [eA, p_eq, if_pos rfl]) (fun i hi => by rw [eA, p_ne (by decide)]; exact h59 i hi)
def cz_rho (a b c d : Int32) (i : Nat) : Int32 := if i = 0 then a else if i = 1 then b else if i = 2 then c else d
theorem mc_cl {a b c d : Int32} {P : Int32 × zM → Prop} (hK : ∀ N : zM, r_F X N → N.1 40 41 = nI 0 → (∀ i, i < 4 → N.1 59 i = cz_rho a b c d i) → p_ok (f_X11_cleanings_34 z_F what N) P) : p_ok (f_X11_cleanings a b c d what X) P := by
  unfold f_X11_cleanings
  rw [show Int32.toNatClampNeg (0 : Int32) = 0 from rfl, show Int32.toNatClampNeg (1 : Int32) = 1 from rfl, show Int32.toNatClampNeg (2 : Int32) = 2 from rfl, show Int32.toNatClampNeg (3 : Int32) = 3 from rfl]
  refine p_lx (fun A eA => p_lx (fun B eB => p_lx (fun C eC => p_lx (fun D eD => p_lx (fun E eE => hK E ?_ ?_ ?_)))))
  · refine ⟨fun q hq => by rw [eE, p_nr (by omega), eD, p_nr (by omega), eC, p_nr (by omega), eB, p_nr (by omega), eA, p_nr (by omega)], fun j _ _ _ j4 _ => ?_⟩
    rw [eE, p_eq, if_neg j4, eD, p_ne (by decide), eC, p_ne (by decide), eB, p_ne (by decide), eA, p_ne (by decide)]
  · rw [eE, p_eq, if_pos rfl]; rfl
  · intro i hi
    rw [eE, p_ne (by decide), eD, p_eq, eC, p_eq, eB, p_eq, eA, p_eq]
    unfold cz_rho
    have : i = 0 ∨ i = 1 ∨ i = 2 ∨ i = 3 := by omega
    rcases this with rfl | rfl | rfl | rfl <;> rfl
/-- the class's row so far -/
def cc_S (M : zM) (ρ : Nat → Int32) (k : Nat) (Q : zM) : Prop := t_F M Q ∧ Q.1 35 0 = nI k ∧ ∀ i, i < k → Q.1 36 i = ρ i
theorem cc_s1 {k : Nat} {x : Int32} {Q : zM} (h1 : M.1 1 1 = nI m) (hQ : cc_S M ρ k Q) (hk : k < 4) (ex : ρ k = x) (hx : cz_stm m x) : p_ok (f_X10_planStorm x Q) (fun y => y.1 = 1 ∧ cc_S M ρ (k + 1) y.2) := by
  obtain ⟨q1, q2, q3⟩ := hQ
  unfold f_X10_planStorm
  rw [c_isS, q1 1 (by omega), h1, if_pos hx, Option.bind_some]
  dsimp only
  refine p_f b_1z ?_
  rw [q2]
  refine p_t (nI_lt (b := 4) hk (by omega)) (p_g (p_ix hk (by decide)) ?_)
  rw [p_cl (by omega)]
  refine p_lx (fun A eA => p_lx (fun B eB => p_some ⟨rfl, fun a ha => ?_, ?_, fun i hi => ?_⟩))
  · rw [eB, p_nr (by omega), eA, p_nr (by omega)]; exact q1 a ha
  · rw [eB, p_eq, if_pos rfl, eA, p_ne (by decide), q2, p_s1]
  · rw [eB, p_ne (by decide), eA, p_eq]
    by_cases z : i = k
    · rw [if_pos z, z, ex]
    · rw [if_neg z]; exact q3 i (by omega)
theorem cc_s0 {x : Int32} {Q : zM} (h1 : M.1 1 1 = nI m) (hQ : t_F M Q) (hx : ¬ cz_stm m x) : p_ok (f_X10_planStorm x Q) (fun y => y.1 = 0 ∧ y.2 = Q) := by
  unfold f_X10_planStorm
  rw [c_isS, hQ 1 (by omega), h1, if_neg hx, Option.bind_some]
  exact p_t rfl (p_some ⟨rfl, rfl⟩)
theorem cc_plans {a b c d : Int32} (h1 : M.1 1 1 = nI m) : p_ok (f_X10_planStorms a b c d M) (fun x => t_F M x.2 ∧ ((∃ r, 1 ≤ r ∧ cz_ok (cz_rho a b c d) m r ∧ x.1 = 1 ∧ cc_S M (cz_rho a b c d) r x.2) ∨ ((cz_ok (cz_rho a b c d) m 0 ∨ ∃ k, cz_bad (cz_rho a b c d) m k) ∧ x.1 = 0))) := by
  unfold f_X10_planStorms
  refine p_lx (fun A eA => ?_)
  have s0 : cc_S M (cz_rho a b c d) 0 A := ⟨fun q hq => by rw [eA, p_nr (by omega)], by rw [eA, p_eq, if_pos rfl]; rfl, fun i hi => absurd hi (Nat.not_lt_zero i)⟩
  by_cases ca : cz_stm m a
  · refine p_bx (cc_s1 h1 s0 (by omega) rfl ca) (fun x hx => ?_)
    obtain ⟨x1, x2⟩ := hx
    refine p_f (by rw [x1]; exact b_1z) ?_
    have k1 : ∀ i, i < 1 → cz_stm m (cz_rho a b c d i) := fun i hi => by have : i = 0 := by omega
                                                                         subst this; exact ca
    by_cases zb : b = -1
    · exact p_t zb (p_some ⟨x2.1, Or.inl ⟨1, by omega, ⟨by omega, k1, Or.inr zb⟩, rfl, x2⟩⟩)
    refine p_f zb ?_
    by_cases cb : cz_stm m b
    · refine p_bx (cc_s1 h1 x2 (by omega) rfl cb) (fun y hy => ?_)
      obtain ⟨y1, y2⟩ := hy
      refine p_f (by rw [y1]; exact b_1z) ?_
      have k2 : ∀ i, i < 2 → cz_stm m (cz_rho a b c d i) := fun i hi => by
        have : i = 0 ∨ i = 1 := by omega
        rcases this with rfl | rfl
        · exact ca
        · exact cb
      by_cases zc : c = -1
      · exact p_t zc (p_some ⟨y2.1, Or.inl ⟨2, by omega, ⟨by omega, k2, Or.inr zc⟩, rfl, y2⟩⟩)
      refine p_f zc ?_
      by_cases cc : cz_stm m c
      · refine p_bx (cc_s1 h1 y2 (by omega) rfl cc) (fun z hz => ?_)
        obtain ⟨z1, z2⟩ := hz
        refine p_f (by rw [z1]; exact b_1z) ?_
        have k3 : ∀ i, i < 3 → cz_stm m (cz_rho a b c d i) := fun i hi => by
          have : i = 0 ∨ i = 1 ∨ i = 2 := by omega
          rcases this with rfl | rfl | rfl
          · exact ca
          · exact cb
          · exact cc
        by_cases zd : d = -1
        · exact p_t zd (p_some ⟨z2.1, Or.inl ⟨3, by omega, ⟨by omega, k3, Or.inr zd⟩, rfl, z2⟩⟩)
        refine p_f zd ?_
        by_cases cd : cz_stm m d
        · refine p_bx (cc_s1 h1 z2 (by omega) rfl cd) (fun u hu => ?_)
          obtain ⟨u1, u2⟩ := hu
          refine p_f (by rw [u1]; exact b_1z) (p_some ⟨u2.1, Or.inl ⟨4, by omega, ⟨by omega, fun i hi => ?_, Or.inl rfl⟩, rfl, u2⟩⟩)
          have : i = 0 ∨ i = 1 ∨ i = 2 ∨ i = 3 := by omega
          rcases this with rfl | rfl | rfl | rfl
          · exact ca
          · exact cb
          · exact cc
          · exact cd
        · refine p_bx (cc_s0 h1 z2.1 cd) (fun u hu => ?_)
          refine p_t hu.1 (p_some ⟨by rw [hu.2]; exact z2.1, Or.inr ⟨Or.inr ⟨3, by omega, k3, zd, cd⟩, rfl⟩⟩)
      · refine p_bx (cc_s0 h1 y2.1 cc) (fun u hu => ?_)
        refine p_t hu.1 (p_some ⟨by rw [hu.2]; exact y2.1, Or.inr ⟨Or.inr ⟨2, by omega, k2, zc, cc⟩, rfl⟩⟩)
    · refine p_bx (cc_s0 h1 x2.1 cb) (fun u hu => ?_)
      refine p_t hu.1 (p_some ⟨by rw [hu.2]; exact x2.1, Or.inr ⟨Or.inr ⟨1, by omega, k1, zb, cb⟩, rfl⟩⟩)
  · refine p_bx (cc_s0 h1 s0.1 ca) (fun u hu => ?_)
    refine p_t hu.1 (p_some ⟨by rw [hu.2]; exact s0.1, Or.inr ⟨?_, rfl⟩⟩)
    by_cases za : a = -1
    · exact Or.inl ⟨by omega, fun i hi => absurd hi (Nat.not_lt_zero i), Or.inr za⟩
    · exact Or.inr ⟨0, by omega, fun i hi => absurd hi (Nat.not_lt_zero i), za, ca⟩
end PR
theorem cz_what {r : Nat} {e : Int32} (hr : r ≤ 4) : (¬ e < 10 ∧ ¬ ((9 : Int32) + nI r) < e) ↔ (¬ (e - 10) < 0 ∧ ¬ (nI r - 1) < (e - 10)) := by
  have e9 : (9 : Int32) + nI r = nI (9 + r) := n_ad 9 r
  rw [e9]
  constructor
  · intro h
    obtain ⟨j, h1, h2, rfl⟩ := i_num (a := 10) (b := 9 + r) (by omega) (by omega) h
    obtain ⟨q, rfl⟩ : ∃ q, j = 10 + q := ⟨j - 10, by omega⟩
    rw [i_s10]
    exact i_rng (by omega) (by omega)
  · intro h
    obtain ⟨j, h1, h2⟩ := i_nat (by omega) h.1 h.2
    have : e = nI (j + 10) := by
      rw [← n_ad, ← h2]
      exact (Int32.sub_add_cancel e 10).symm
    rw [this]
    exact ⟨nI_nlt (b := 10) (by omega) (by omega), nI_nlt (by omega) (by omega)⟩
/-- cleanings -/
theorem p_cleanings {K : Nat} {M : zM} {a b c d e : Int32} (h : s_I K M) (hK : K ≤ 8000) : p_2 K (f_X10_cleanings a b c d e M) (f_X11_cleanings a b c d e) := by
  obtain ⟨n, m, hW, hC⟩ := h.1
  have hn10 := hW.1.2.1
  have hm10 := hW.1.2.2.2
  obtain ⟨e3, e1⟩ := c_cnt hW hC
  -- the reference answers NONE where there is no row
  have none1 : ∀ X : zM, t_F M X → (cz_ok (cz_rho a b c d) m 0 ∨ ∃ k, cz_bad (cz_rho a b c d) m k) → p_ok (f_X11_cleanings a b c d e X) (fun y => (-1 : Int32) = y.1 ∧ s_I (K + 1) y.2) := fun X hX hno => by
    have e41 : X.1 41 = M.1 41 := hX 41 (by omega)
    refine mc_cl (fun N hF h41 h59 => ?_)
    rcases hno with hno | ⟨k, hno⟩
    · refine mc_34 e41 hW.1.2.2.1 hno (fun Y hY y41 _ => ?_) 0 0 z_F N (by omega) (by unfold z_F; omega) hF h41 h59
      unfold f_X11_cleanings_86
      exact p_t (by rw [y41]; rfl) (p_some ⟨rfl, s_I_th h hX hY⟩)
    · refine p_w (mc_34b e41 hW.1.2.2.1 hno k 0 z_F N (by omega) (by have := hno.1; unfold z_F; omega) hF h41 h59) ?_
      rintro y ⟨y1, y2⟩
      exact ⟨y1.symm, s_I_th h hX y2⟩
  by_cases hn4 : n ≤ 4
  · have c4 : ¬ (4 : Int32) < nI n := nI_nlt (a := 4) (by omega) (by omega)
    unfold p_2 f_X10_cleanings
    rw [e3]
    refine p_f c4 ?_
    refine p_bx (cc_plans e1) (fun x hx => ?_)
    obtain ⟨x0, hx⟩ := hx
    rcases hx with ⟨r, hr1, hok, x1, x2⟩ | ⟨hno, x1⟩
    · refine p_f (by rw [x1]; exact b_1z) (p_l ?_)
      have hr := hok.1
      have hσ : ∀ i, i < r → cz_rho a b c d i = nI (Int32.toNatClampNeg (cz_rho a b c d i)) ∧ Int32.toNatClampNeg (cz_rho a b c d i) < m := fun i hi => cz_stmI hm10 (hok.2.1 i hi)
      have hP : cc_P (fun i => Int32.toNatClampNeg (cz_rho a b c d i)) r x.2 := ⟨x2.2.1, fun i hi => by rw [x2.2.2 i hi]; exact (hσ i hi).1⟩
      -- the reference's way to the search
      have go86 : ∀ N : zM, t_F M N → p_ok (f_X11_cleanings a b c d e N) (fun y => r_F N y.2 ∧ (((e = 0 ∨ (¬ (e - 10) < 0 ∧ ¬ (nI r - 1) < (e - 10))) ∧ ∃ L B, cz_B (M.1 41) (cz_G (M.1 41) (fun i => Int32.toNatClampNeg (cz_rho a b c d i))) n (2 ^ n) r ((2 ^ n) ^ r) L B ∧ y.1 = (if L = -1 then L else if e = 0 then L else B (Int32.toNatClampNeg (e - 10)))) ∨ (¬ (e = 0 ∨ (¬ (e - 10) < 0 ∧ ¬ (nI r - 1) < (e - 10))) ∧ y.1 = -1))) := fun N hN => by
        have e41 : N.1 41 = M.1 41 := hN 41 (by omega)
        have e33 : N.1 40 33 = 0 := by rw [hN 40 (by omega)]; exact h.2.2.2.2
        refine mc_cl (fun Q hF h41 h59 => ?_)
        refine mc_34 e41 hW.1.2.2.1 hok (fun Y hY y41 y59 => ?_) r 0 z_F Q (by omega) (by unfold z_F; omega) hF h41 h59
        have lay : ∀ (P : Int32 × zM → Prop), (e = 0 ∨ (¬ (e - 10) < 0 ∧ ¬ (nI r - 1) < (e - 10))) → (∀ y : Int32 × zM, r_F N y.2 → (∃ L B, cz_B (M.1 41) (cz_G (M.1 41) (fun i => Int32.toNatClampNeg (cz_rho a b c d i))) n (2 ^ n) r ((2 ^ n) ^ r) L B ∧ y.1 = (if L = -1 then L else if e = 0 then L else B (Int32.toNatClampNeg (e - 10)))) → P y) → p_ok ((f_X11_laysHouses Y).bind fun x4 => f_X11_cleanings_134 z_F e (0 : Int32) x4) P := fun P he hP => by
          refine p_bx (m_layT hY e41 hW.1.1 hn10) (fun A hA => ?_)
          obtain ⟨a1, a2, a3, a4, a5⟩ := hA
          have he' : e = 0 ∨ ∃ j, j < r ∧ e - 10 = nI j := by
            rcases he with he | he
            · exact Or.inl he
            · exact Or.inr (i_nat (by omega) he.1 he.2)
          have key := mc_134 (X := N) (what := e) (σ := fun i => Int32.toNatClampNeg (cz_rho a b c d i)) e41 e33 hW hK (fun i hi => (hσ i hi).2) hn4 hr he' n 0 z_F A (by omega) (by unfold z_F; omega) a1 ⟨a4, by rw [a3 41 (by omega)]; exact y41⟩ (fun k hk => by rw [a2 59 (by omega), y59 k (by omega)]; exact (hσ k hk).1) a5 (fun g hg => absurd hg (Nat.not_lt_zero g))
          rw [nI_0] at key
          refine p_w key ?_
          rintro y ⟨y1, y2⟩
          exact hP y y1 y2
        unfold f_X11_cleanings_86
        refine p_f (by rw [y41]; exact nI_ne0 (by omega) (by omega)) (p_f (by rw [hY.1 41 (by omega), e41, show Int32.toNatClampNeg (0 : Int32) = 0 from rfl, hW.1.1]; exact c4) ?_)
        by_cases z : e = 0
        · exact p_t z (lay _ (Or.inl z) (fun y q1 q2 => ⟨q1, Or.inl ⟨Or.inl z, q2⟩⟩))
        · refine p_f z ?_
          rw [y41, m_w, Option.bind_some]
          by_cases q : ¬ e < 10 ∧ ¬ ((9 : Int32) + nI r) < e
          · rw [if_pos q]
            have q' := (cz_what hr).mp q
            exact p_f b_1z (lay _ (Or.inr q') (fun y q1 q2 => ⟨q1, Or.inl ⟨Or.inr q', q2⟩⟩))
          · rw [if_neg q]
            refine p_t rfl (p_some ⟨hY, Or.inr ⟨fun x => ?_, rfl⟩⟩)
            rcases x with x | x
            · exact z x
            · exact q ((cz_what hr).mpr x)
      -- the class's way to the plan
      have go60 : (e = 0 ∨ (¬ (e - 10) < 0 ∧ ¬ (nI r - 1) < (e - 10))) → p_ok (f_X10_cleanings_60 e (e - 10) x.2) (fun y => t_F M y.2 ∧ ∃ L B, cz_B (M.1 41) (cz_G (M.1 41) (fun i => Int32.toNatClampNeg (cz_rho a b c d i))) n (2 ^ n) r ((2 ^ n) ^ r) L B ∧ y.1 = (if L = -1 then L else if e = 0 then L else B (Int32.toNatClampNeg (e - 10)))) := fun he => by
        unfold f_X10_cleanings_60
        refine p_bx (cc_rain hW hC hn4 hr (fun i hi => (hσ i hi).2) x0 hP) (fun A hA => ?_)
        obtain ⟨a1, a2, a3⟩ := hA
        refine p_bx (cc_plan hW hC hn4 hr a1 a2.1 a3) (fun y hy => ?_)
        obtain ⟨y1, y2⟩ := hy
        rcases y2 with ⟨y2, y3⟩ | ⟨y2, y3, y4⟩
        · refine p_t y2 (p_some ⟨y1, -1, y.2.1 37, y3, ?_⟩)
          rw [if_pos rfl]
        · refine p_f (by rw [y2]; exact b_1z) ?_
          by_cases z : e = 0
          · refine p_t z (p_some ⟨y1, y.2.1 35 1, y.2.1 37, y3, ?_⟩)
            rw [if_neg y4, if_pos z]
          · obtain ⟨j, hj, ej⟩ := i_nat (by omega) (he.resolve_left z).1 (he.resolve_left z).2
            refine p_f z (p_g (by rw [ej]; exact p_ix (show j < 4 by omega) (by decide)) (p_some ⟨y1, y.2.1 35 1, y.2.1 37, y3, ?_⟩))
            rw [if_neg y4, if_neg z]
      have both : (e = 0 ∨ (¬ (e - 10) < 0 ∧ ¬ (nI r - 1) < (e - 10))) → p_ok (f_X10_cleanings_60 e (e - 10) x.2) (fun y => p_ok (f_X11_cleanings a b c d e y.2) (fun z => y.1 = z.1 ∧ s_I (K + 1) z.2)) := fun he => by
        refine p_w (go60 he) ?_
        rintro y ⟨y1, L, B, y2, y3⟩
        refine p_w (go86 y.2 y1) ?_
        rintro z ⟨z1, z2⟩
        refine ⟨?_, s_I_th h y1 z1⟩
        rcases z2 with ⟨-, L', B', z2, z3⟩ | ⟨z2, -⟩
        · obtain ⟨u1, u2⟩ := cz_uni hr y2 z2
          rw [y3, z3, ← u1]
          by_cases q : L = -1
          · rw [if_pos q, if_pos q]
          rw [if_neg q, if_neg q]
          by_cases q0 : e = 0
          · rw [if_pos q0, if_pos q0]
          rw [if_neg q0, if_neg q0]
          obtain ⟨j, hj, ej⟩ := i_nat (by omega) (he.resolve_left q0).1 (he.resolve_left q0).2
          rw [ej, p_cl (by omega)]
          exact (u2.resolve_left q) j hj
        · exact absurd he z2
      by_cases z : e = 0
      · exact p_t z (both (Or.inl z))
      · refine p_f z ?_
        rw [x2.2.1, c_w, Option.bind_some]
        by_cases q : ¬ (e - 10) < 0 ∧ ¬ (nI r - 1) < (e - 10)
        · rw [if_pos q]
          exact p_f b_1z (both (Or.inr q))
        · rw [if_neg q]
          refine p_t rfl (p_some ?_)
          dsimp only
          refine p_w (go86 x.2 x0) ?_
          rintro y ⟨y1, y2⟩
          refine ⟨?_, s_I_th h x0 y1⟩
          rcases y2 with ⟨y2, -⟩ | ⟨-, y2⟩
          · rcases y2 with y2 | y2
            · exact absurd y2 z
            · exact absurd y2 q
          · exact y2.symm
    · refine p_t x1 (p_some ?_)
      dsimp only
      exact none1 x.2 x0 hno
  · have c4 : (4 : Int32) < nI n := nI_lt (a := 4) (by omega) (by omega)
    unfold p_2 f_X10_cleanings
    rw [e3]
    refine p_t c4 (p_some ?_)
    dsimp only
    rcases cz_dec (cz_rho a b c d) m 4 0 (by omega) (fun i hi => absurd hi (Nat.not_lt_zero i)) with ⟨r, hok⟩ | hbad
    · refine mc_cl (fun N hF h41 h59 => ?_)
      have hr := hok.1
      refine mc_34 rfl hW.1.2.2.1 hok (fun Y hY y41 _ => ?_) r 0 z_F N (by omega) (by unfold z_F; omega) hF h41 h59
      unfold f_X11_cleanings_86
      by_cases z : Y.1 40 41 = 0
      · exact p_t z (p_some ⟨rfl, s_I_th h (t_F_rfl M) hY⟩)
      · refine p_f z (p_t (by rw [hY.1 41 (by omega), show Int32.toNatClampNeg (0 : Int32) = 0 from rfl, hW.1.1]; exact c4) (p_some ⟨rfl, s_I_th h (t_F_rfl M) hY⟩))
    · exact none1 M (t_F_rfl M) (Or.inr hbad)
