theorem m_im15 {a : Int32} {dst src : Nat} (hd : (a = 0 ∧ dst = 41 ∧ src = 42) ∨ (a = 1 ∧ dst = 42 ∧ src = 41)) {M : zM} : ∀ e i fuel (N : zM), i + e = 1700 → e < fuel → (∀ k, k ≠ dst → N.1 k = M.1 k) → (∀ j, N.1 dst j = if j < i then M.1 src j else M.1 dst j) →
    p_ok (f_X11_image_15 fuel a (nI i) N) (fun x => x.1 = 1 ∧ (∀ k, k ≠ dst → k ≠ 40 → x.2.1 k = M.1 k) ∧ (∀ j, x.2.1 40 j = if j = 2 then 1 else M.1 40 j) ∧ ∀ j, j < 1700 → x.2.1 dst j = M.1 src j) := by
  intro e
  induction e with
  | zero =>
    intro i fuel N h1 h2 h3 h4
    obtain ⟨fuel, rfl⟩ : ∃ m, fuel = m + 1 := ⟨fuel - 1, by omega⟩
    have : i = 1700 := by omega
    subst this
    rw [f_X11_image_15]
    refine p_t (by decide) (p_l (p_some ⟨rfl, fun k k1 k2 => by rw [p_nr k2]; exact h3 k k1, fun j => by rw [p_eq, h3 40 (by omega)], fun j hj => ?_⟩))
    rw [p_ne (by omega), h4, if_pos hj]
  | succ e ih =>
    intro i fuel N h1 h2 h3 h4
    obtain ⟨fuel, rfl⟩ : ∃ m, fuel = m + 1 := ⟨fuel - 1, by omega⟩
    rw [f_X11_image_15]
    refine p_f (nI_ge (a := i) (b := 1700) (by omega) (by omega)) ?_
    have g := p_ix (show i < 1700 by omega) (show 1700 < 2 ^ 31 by decide)
    have step : p_ok (f_X11_image_15 fuel a (nI (i + 1)) (z_w N dst i (N.1 src i))) (fun x => x.1 = 1 ∧ (∀ k, k ≠ dst → k ≠ 40 → x.2.1 k = M.1 k) ∧ (∀ j, x.2.1 40 j = if j = 2 then 1 else M.1 40 j) ∧ ∀ j, j < 1700 → x.2.1 dst j = M.1 src j) := by
      refine ih (i + 1) fuel _ (by omega) (by omega) (fun k hk => by rw [p_nr hk]; exact h3 k hk) (fun j => ?_)
      rw [p_eq, h3 src (by omega), h4]
      by_cases z : j = i
      · subst z; rw [if_pos rfl, if_pos (by omega)]
      · rw [if_neg z]
        by_cases y : j < i
        · rw [if_pos y, if_pos (by omega)]
        · rw [if_neg y, if_neg (by omega)]
    rcases hd with ⟨rfl, rfl, rfl⟩ | ⟨rfl, rfl, rfl⟩
    · refine p_t rfl (p_g g (p_g g (p_l (p_l ?_))))
      rw [p_cl (by omega), p_s1]
      exact step
    · refine p_f b_1z (p_g g (p_g g (p_l (p_l ?_))))
      rw [p_cl (by omega), p_s1]
      exact step
/-- image -/
theorem p_image {K : Nat} {M : zM} {a : Int32} (h : s_I K M) (ha : a = 0 ∨ a = 1) : p_2 K (f_X10_image a M) (f_X11_image a) := by
  obtain ⟨⟨n, m, hW, hC⟩, ⟨h3, h4⟩, ⟨k, k1, k2, k3, k4⟩, h5, h6⟩ := id h
  rcases ha with rfl | rfl
  · rcases h4 with h4 | ⟨h4, n', m', hW', hC'⟩
    · refine p_same (v := 0) h ?_ ?_
      · unfold f_X10_image z_g
        rw [if_pos rfl, if_pos h4, if_pos (by rw [h4]; decide), h4]
      · unfold f_X11_image
        rw [if_pos rfl, if_pos (by rw [← h3]; exact h4)]
    · unfold f_X10_image
      rw [if_pos rfl, if_neg (by rw [h4]; exact b_1z)]
      refine p_bx (c_copy (Or.inl ⟨rfl, rfl⟩) hW' hC') (fun X hX => ?_)
      obtain ⟨x1, x2⟩ := hX
      have x0 : ∀ a, a = 0 ∨ a = 40 ∨ a = 41 ∨ a = 42 ∨ a = 28 ∨ a = 29 ∨ a = 45 ∨ a = 30 → X.1 a = M.1 a := fun a ha => x1 a (by unfold s_own; omega)
      have x8 : X.1 0 8 = 1 := by rw [x0 0 (by omega)]; exact h4
      refine p_g (by rw [x8]; decide) (p_some ?_)
      dsimp only
      unfold f_X11_image
      refine p_t rfl (p_f (by rw [x0 40 (by omega), ← h3, h4]; exact b_1z) ?_)
      refine p_w (m_im15 (M := X) (Or.inl ⟨rfl, rfl, rfl⟩) 1700 0 z_F X rfl (by unfold z_F; omega) (fun _ _ => rfl) (fun j => by rw [if_neg (by omega)])) ?_
      rintro ⟨v, N⟩ ⟨n1, n2, n3, n4⟩
      dsimp only at n1 n2 n3 n4 ⊢
      have ro : ∀ i, i ≠ 41 → i ≠ 40 → ¬ s_own 1 i → N.1 i = M.1 i := fun i i1 i2 i3 => by rw [n2 i i1 i2, x1 i i3]
      have ro' : ∀ i, i = 0 ∨ i = 42 ∨ i = 28 ∨ i = 29 ∨ i = 45 ∨ i = 30 → N.1 i = M.1 i := fun i hi => by rw [n2 i (by omega) (by omega), x0 i (by omega)]
      have hw : ∀ j, j < 1700 → N.1 41 j = M.1 42 j := fun j hj => by rw [n4 j hj, x0 42 (by omega)]
      have n40 : ∀ j, j ≠ 2 → N.1 40 j = M.1 40 j := fun j hj => by rw [n3, if_neg hj, x0 40 (by omega)]
      refine ⟨by rw [x8, n1], ⟨n', m', s_W_cg hw (s_W_mono hW'), s_C_cg hW'.1.2.1 hW'.1.2.2.2 hw (s_C_fr (Or.inl rfl) hW'.1.2.1 hW'.1.2.2.2 (fun a ha => n2 a (o_ne ha (by unfold s_own; omega)) (o_ne ha (by unfold s_own; omega))) x2)⟩, ⟨by rw [ro' 0 (by omega), n3, if_pos rfl]; exact h4, Or.inr ⟨by rw [ro' 0 (by omega)]; exact h4, n', m', by rw [ro' 42 (by omega)]; exact s_W_mono hW', by rw [ro' 42 (by omega)]; exact s_C_fr (Or.inr rfl) hW'.1.2.1 hW'.1.2.2.2 (fun a ha => ro a (o_ne ha (by unfold s_own; omega)) (o_ne ha (by unfold s_own; omega)) (by unfold s_own at *; omega)) hC'⟩⟩, ⟨k, k1, by rw [ro' 28 (by omega)]; exact k2, by rw [n40 10 (by omega)]; exact k3, fun i hi => by rw [ro' 45 (by omega), ro' 29 (by omega)]; exact k4 i hi⟩, by rw [ro' 30 (by omega), n40 17 (by omega), n40 19 (by omega)]; exact h5, by rw [n40 33 (by omega)]; exact h6⟩
  · unfold f_X10_image
    rw [if_neg b_1z]
    refine p_bx (c_copy (Or.inr ⟨rfl, rfl⟩) hW hC) (fun X hX => p_lx (fun Y hY => ?_))
    obtain ⟨x1, x2⟩ := hX
    have y8 : Y.1 0 8 = 1 := by rw [hY, p_eq, if_pos rfl]
    have x0 : ∀ a, a = 40 ∨ a = 41 ∨ a = 42 ∨ a = 28 ∨ a = 29 ∨ a = 45 ∨ a = 30 → Y.1 a = M.1 a := fun a ha => by rw [hY, p_nr (by omega)]; exact x1 a (by unfold s_own; omega)
    refine p_g (by rw [y8]; decide) (p_some ?_)
    dsimp only
    unfold f_X11_image
    refine p_f b_1z ?_
    refine p_w (m_im15 (M := Y) (Or.inr ⟨rfl, rfl, rfl⟩) 1700 0 z_F Y rfl (by unfold z_F; omega) (fun _ _ => rfl) (fun j => by rw [if_neg (by omega)])) ?_
    rintro ⟨v, N⟩ ⟨n1, n2, n3, n4⟩
    dsimp only at n1 n2 n3 n4 ⊢
    have ro : ∀ i, i ≠ 42 → i ≠ 40 → i ≠ 0 → ¬ s_own 2 i → N.1 i = M.1 i := fun i i1 i2 i0 i3 => by rw [n2 i i1 i2, hY, p_nr i0, x1 i i3]
    have ro' : ∀ i, i = 41 ∨ i = 28 ∨ i = 29 ∨ i = 45 ∨ i = 30 → N.1 i = M.1 i := fun i hi => by rw [n2 i (by omega) (by omega), x0 i (by omega)]
    have hw : ∀ j, j < 1700 → N.1 42 j = M.1 41 j := fun j hj => by rw [n4 j hj, x0 41 (by omega)]
    have n40 : ∀ j, j ≠ 2 → N.1 40 j = M.1 40 j := fun j hj => by rw [n3, if_neg hj, x0 40 (by omega)]
    have n8 : N.1 0 8 = 1 := by rw [n2 0 (by omega) (by omega)]; exact y8
    refine ⟨by rw [y8, n1], ⟨n, m, by rw [ro' 41 (by omega)]; exact s_W_mono hW, by rw [ro' 41 (by omega)]; exact s_C_fr (Or.inl rfl) hW.1.2.1 hW.1.2.2.2 (fun a ha => ro a (o_ne ha (by unfold s_own; omega)) (o_ne ha (by unfold s_own; omega)) (o_ne ha (by unfold s_own; omega)) (by unfold s_own at *; omega)) hC⟩, ⟨by rw [n8, n3, if_pos rfl], Or.inr ⟨n8, n, m, s_W_cg hw (s_W_mono hW), s_C_cg hW.1.2.1 hW.1.2.2.2 hw (s_C_fr (Or.inr rfl) hW.1.2.1 hW.1.2.2.2 (fun a ha => by rw [n2 a (o_ne ha (by unfold s_own; omega)) (o_ne ha (by unfold s_own; omega)), hY, p_nr (o_ne ha (by unfold s_own; omega))]) x2)⟩⟩, ⟨k, k1, by rw [ro' 28 (by omega)]; exact k2, by rw [n40 10 (by omega)]; exact k3, fun i hi => by rw [ro' 45 (by omega), ro' 29 (by omega)]; exact k4 i hi⟩, by rw [ro' 30 (by omega), n40 17 (by omega), n40 19 (by omega)]; exact h5, by rw [n40 33 (by omega)]; exact h6⟩
