/-- the street with a new house at the place p -/
def R_a (w : Nat → Int32) (n p : Nat) (a c : Int32) (g j : Nat) : Int32 :=
  if g = p then (if j = 4 then (if p = n then -1 else nI (p + 1)) else h_new a c 0 0 j)
  else if j = 4 then (if w_r w (if g < p then g else g - 1) 4 ≤ nI p then w_r w (if g < p then g else g - 1) 4 else w_r w (if g < p then g else g - 1) 4 + 1)
  else w_r w (if g < p then g else g - 1) j
theorem R_a_L {w : Nat → Int32} {n p : Nat} {a c : Int32} (hp : p ≤ n) (hn : n ≤ 9) (hL : m_L (fun h => w (20 + 16 * h + 4)) n) : m_L (fun g => R_a w n p a c g 4) (n + 1) := by
  intro g hg
  show R_a w n p a c g 4 = -1 ∨ ∃ e, g < e ∧ e < n + 1 ∧ R_a w n p a c g 4 = nI e
  unfold R_a
  by_cases z : g = p
  · rw [if_pos z, if_pos rfl]
    by_cases y : p = n
    · rw [if_pos y]; exact Or.inl rfl
    · rw [if_neg y]; exact Or.inr ⟨p + 1, by omega, by omega, rfl⟩
  · rw [if_neg z, if_pos rfl]
    have hL' := hL (if g < p then g else g - 1) (by split <;> omega)
    dsimp only at hL'
    rcases hL' with q | ⟨e, q1, q2, q3⟩
    · refine Or.inl ?_
      rw [show w_r w (if g < p then g else g - 1) 4 = -1 from q, if_pos]
      rw [Int32.le_iff_toInt_le, nI_toInt (by omega)]
      have : (-1 : Int32).toInt = -1 := by decide
      omega
    · refine Or.inr ?_
      rw [show w_r w (if g < p then g else g - 1) 4 = nI e from q3]
      by_cases y : e ≤ p
      · rw [if_pos (nI_le y (by omega))]
        refine ⟨e, ?_, by omega, rfl⟩
        by_cases u : g < p
        · rw [if_pos u] at q1; omega
        · rw [if_neg u] at q1; omega
      · rw [if_neg (nI_ge (by omega) (by omega)), p_s1]
        refine ⟨e + 1, ?_, by omega, rfl⟩
        by_cases u : g < p
        · rw [if_pos u] at q1; omega
        · rw [if_neg u] at q1; omega
section AD
variable {K n m s T p : Nat} {M : zM} {a c : Int32}
theorem c_ad30 (hW : s_W K (M.1 41) n m) (hC : s_C 1 M (M.1 41) n m) (hn9 : n ≤ 9) (hp : p ≤ n) : ∀ e i fuel (Q : zM), i + e = n → e < fuel → t_F M Q → Q.1 5 0 = nI (n + 1) → Q.1 5 1 = M.1 41 6 → (∀ g, ((g < i ∧ g < p) ∨ (p < g ∧ g < i + 1)) → ∀ j, h_im j → Q.1 (c_H 5 g) j = R_a (M.1 41) n p a c g j) →
    p_ok (f_X5_imagineAdded_30 fuel 5 3 (nI p) a c (nI n) (nI i) Q) (fun X => t_F M X ∧ X.1 5 0 = nI (n + 1) ∧ X.1 5 1 = M.1 41 6 ∧ ∀ g, g < n + 1 → ∀ j, h_im j → X.1 (c_H 5 g) j = R_a (M.1 41) n p a c g j) := by
  intro e
  induction e with
  | zero =>
    intro i fuel Q h1 h2 hQ q0 q1 q2
    obtain ⟨fuel, rfl⟩ : ∃ m, fuel = m + 1 := ⟨fuel - 1, by omega⟩
    have : i = n := by omega
    subst this
    rw [f_X5_imagineAdded_30]
    refine p_t (nI_le (Nat.le_refl _) (by omega)) (p_g (p_ix (show p < 10 by omega) (by decide)) ?_)
    have ek : z_ra (5 + 3) (Int32.toNatClampNeg (nI p)) = c_H 5 p := by rw [p_cl (by omega), c_ra (k0 := 5) (by omega) (by omega)]
    refine p_bx c_build (fun Y hY => ?_)
    rw [ek] at hY
    obtain ⟨y1, y2⟩ := hY
    have fr : ∀ Z : zM, (∀ b, b ≠ c_H 5 p → Z.1 b = Y.1 b) → (∀ j, h_im j → Z.1 (c_H 5 p) j = R_a (M.1 41) i p a c p j) → (t_F M Z ∧ Z.1 5 0 = nI (i + 1) ∧ Z.1 5 1 = M.1 41 6 ∧ ∀ g, g < i + 1 → ∀ j, h_im j → Z.1 (c_H 5 g) j = R_a (M.1 41) i p a c g j) := fun Z z1 z2 => by
      refine ⟨fun b hb => by rw [z1 b (by unfold c_H; omega), y1 b (by unfold c_H; omega)]; exact hQ b hb, by rw [z1 5 (by unfold c_H; omega), y1 5 (by unfold c_H; omega)]; exact q0, by rw [z1 5 (by unfold c_H; omega), y1 5 (by unfold c_H; omega)]; exact q1, fun g hg j hj => ?_⟩
      by_cases z : g = p
      · subst z; exact z2 j hj
      · rw [z1 _ (by unfold c_H; omega), y1 _ (by unfold c_H; omega)]
        exact q2 g (by omega) j hj
    by_cases z : p = i
    · refine p_t (by rw [z]; exact nI_le (Nat.le_refl _) (by omega)) (p_some (fr Y (fun _ _ => rfl) (fun j hj => ?_)))
      unfold R_a
      rw [y2 j (by unfold h_im at hj; omega), if_pos rfl]
      by_cases y : j = 4
      · rw [if_pos y, if_pos z, y]; rfl
      · rw [if_neg y]
    · refine p_f (nI_ge (by omega) (by omega)) (p_g (p_ix (show p < 10 by omega) (by decide)) (p_l (p_some ?_)))
      rw [ek]
      refine fr _ (fun b hb => p_nr hb) (fun j hj => ?_)
      unfold R_a
      rw [p_eq, if_pos rfl, y2 j (by unfold h_im at hj; omega)]
      by_cases y : j = 4
      · rw [if_pos y, if_pos y, if_neg z, p_s1]
      · rw [if_neg y, if_neg y]
  | succ e ih =>
    intro i fuel Q h1 h2 hQ q0 q1 q2
    obtain ⟨fuel, rfl⟩ : ∃ m, fuel = m + 1 := ⟨fuel - 1, by omega⟩
    rw [f_X5_imagineAdded_30]
    refine p_f (nI_ge (by omega) (by omega)) ?_
    have key : ∀ g, ((i < p ∧ g = i) ∨ (p ≤ i ∧ g = i + 1)) → p_ok (f_X5_imagineAdded_56 (f_X5_imagineAdded_30 fuel) 5 3 (nI p) a c (nI n) (nI i) (5 + 3) (nI g) Q) (fun X => t_F M X ∧ X.1 5 0 = nI (n + 1) ∧ X.1 5 1 = M.1 41 6 ∧ ∀ g, g < n + 1 → ∀ j, h_im j → X.1 (c_H 5 g) j = R_a (M.1 41) n p a c g j) := fun g hg => by
      unfold f_X5_imagineAdded_56
      refine p_g (p_ix (show g < 10 by omega) (by decide)) (p_l (p_g (p_ix (show i < 10 by omega) (by decide)) ?_))
      rw [p_cl (show g < 2 ^ 31 by omega), p_cl (show i < 2 ^ 31 by omega), c_ra (k0 := 5) (by omega) (by omega), c_ra (k0 := 3) (by omega) (by omega)]
      refine p_bx (c_imag (by unfold c_H; omega)) (fun X hX => ?_)
      obtain ⟨-, x1, x2, x3⟩ := hX
      have gi : (if g < p then g else g - 1) = i := by split <;> omega
      have x2' : ∀ j, h_im j → X.1 (c_H 5 g) j = w_r (M.1 41) i j := fun j hj => by
        rw [x2 j hj, hQ _ (by unfold c_H; omega)]
        exact hC.2.2.1 i (by omega) j (by unfold h_im at hj; omega)
      have fr : ∀ Z : zM, (∀ b, b ≠ c_H 5 g → Z.1 b = X.1 b) → (∀ j, h_im j → Z.1 (c_H 5 g) j = R_a (M.1 41) n p a c g j) → p_ok (f_X5_imagineAdded_30 fuel 5 3 (nI p) a c (nI n) (nI (i + 1)) Z) (fun X => t_F M X ∧ X.1 5 0 = nI (n + 1) ∧ X.1 5 1 = M.1 41 6 ∧ ∀ g, g < n + 1 → ∀ j, h_im j → X.1 (c_H 5 g) j = R_a (M.1 41) n p a c g j) := fun Z z1 z2 => by
        refine ih (i + 1) fuel Z (by omega) (by omega) (fun b hb => by rw [z1 b (by unfold c_H; omega), x1 b (by unfold c_H; omega)]; exact hQ b hb) (by rw [z1 5 (by unfold c_H; omega), x1 5 (by unfold c_H; omega)]; exact q0) (by rw [z1 5 (by unfold c_H; omega), x1 5 (by unfold c_H; omega)]; exact q1) (fun g' hg' j hj => ?_)
        by_cases z : g' = g
        · subst z; exact z2 j hj
        · rw [z1 _ (by unfold c_H; omega), x1 _ (by unfold c_H; omega)]
          exact q2 g' (by omega) j hj
      have x4 : X.1 (c_H 5 g) 4 = w_r (M.1 41) i 4 := x2' 4 (by unfold h_im; omega)
      by_cases z : w_r (M.1 41) i 4 ≤ nI p
      · refine p_t (by rw [x4]; exact z) (p_l ?_)
        rw [p_s1]
        refine fr X (fun _ _ => rfl) (fun j hj => ?_)
        unfold R_a
        rw [if_neg (by omega), gi, if_pos z, x2' j hj]
        by_cases y : j = 4
        · rw [if_pos y, y]
        · rw [if_neg y]
      · refine p_f (by rw [x4]; exact z) (p_l (p_l ?_))
        rw [p_s1]
        refine fr _ (fun b hb => p_nr hb) (fun j hj => ?_)
        unfold R_a
        rw [if_neg (by omega), gi, if_neg z, p_eq, x2' j hj, x4]
    by_cases z : p ≤ i
    · refine p_t (nI_le z (by omega)) ?_
      rw [p_s1]
      exact key (i + 1) (Or.inr ⟨z, rfl⟩)
    · exact p_f (nI_ge (by omega) (by omega)) (key i (Or.inl ⟨by omega, rfl⟩))
theorem m_mv {i : Nat} {N : zM} (hi : i < 10) : p_ok (f_X11_movesDown (nI i) N) (fun X => (∀ b, (b < 48 ∨ 55 < b) → X.1 b = N.1 b) ∧ ∀ b, 48 ≤ b → b ≤ 55 → ∀ j, X.1 b j = if j = i + 1 then N.1 b i else N.1 b j) := by
  unfold f_X11_movesDown
  rw [p_s1]
  have g1 := p_ix (show i < 11 by omega) (show 11 < 2 ^ 31 by decide)
  have g2 := p_ix (show i + 1 < 11 by omega) (show 11 < 2 ^ 31 by decide)
  have e1 : Int32.toNatClampNeg (nI i) = i := p_cl (by omega)
  have e2 : Int32.toNatClampNeg (nI (i + 1)) = i + 1 := p_cl (by omega)
  refine p_g g1 (p_g g2 (p_lx (fun A0 q0 => p_g g1 (p_g g2 (p_lx (fun A1 q1 => p_g g1 (p_g g2 (p_lx (fun A2 q2 => p_g g1 (p_g g2 (p_lx (fun A3 q3 => p_g g1 (p_g g2 (p_lx (fun A4 q4 => p_g g1 (p_g g2 (p_lx (fun A5 q5 => p_g g1 (p_g g2 (p_lx (fun A6 q6 => p_g g1 (p_g g2 (p_lx (fun A7 q7 => p_some ?_))))))))))))))))))))))))
  rw [e1, e2] at q0 q1 q2 q3 q4 q5 q6 q7
  refine ⟨fun b hb => by rw [q7, p_nr (by omega), q6, p_nr (by omega), q5, p_nr (by omega), q4, p_nr (by omega), q3, p_nr (by omega), q2, p_nr (by omega), q1, p_nr (by omega), q0, p_nr (by omega)], fun b b1 b2 j => ?_⟩
  have : b = 48 ∨ b = 49 ∨ b = 50 ∨ b = 51 ∨ b = 52 ∨ b = 53 ∨ b = 54 ∨ b = 55 := by omega
  rcases this with rfl | rfl | rfl | rfl | rfl | rfl | rfl | rfl
  · rw [q7, p_ne (by decide), q6, p_ne (by decide), q5, p_ne (by decide), q4, p_ne (by decide), q3, p_ne (by decide), q2, p_ne (by decide), q1, p_ne (by decide), q0, p_eq]
  · rw [q7, p_ne (by decide), q6, p_ne (by decide), q5, p_ne (by decide), q4, p_ne (by decide), q3, p_ne (by decide), q2, p_ne (by decide), q1, p_eq, q0, p_ne (by decide), p_ne (by decide)]
  · rw [q7, p_ne (by decide), q6, p_ne (by decide), q5, p_ne (by decide), q4, p_ne (by decide), q3, p_ne (by decide), q2, p_eq, q1, p_ne (by decide), p_ne (by decide), q0, p_ne (by decide), p_ne (by decide)]
  · rw [q7, p_ne (by decide), q6, p_ne (by decide), q5, p_ne (by decide), q4, p_ne (by decide), q3, p_eq, q2, p_ne (by decide), p_ne (by decide), q1, p_ne (by decide), p_ne (by decide), q0, p_ne (by decide), p_ne (by decide)]
  · rw [q7, p_ne (by decide), q6, p_ne (by decide), q5, p_ne (by decide), q4, p_eq, q3, p_ne (by decide), p_ne (by decide), q2, p_ne (by decide), p_ne (by decide), q1, p_ne (by decide), p_ne (by decide), q0, p_ne (by decide), p_ne (by decide)]
  · rw [q7, p_ne (by decide), q6, p_ne (by decide), q5, p_eq, q4, p_ne (by decide), p_ne (by decide), q3, p_ne (by decide), p_ne (by decide), q2, p_ne (by decide), p_ne (by decide), q1, p_ne (by decide), p_ne (by decide), q0, p_ne (by decide), p_ne (by decide)]
  · rw [q7, p_ne (by decide), q6, p_eq, q5, p_ne (by decide), p_ne (by decide), q4, p_ne (by decide), p_ne (by decide), q3, p_ne (by decide), p_ne (by decide), q2, p_ne (by decide), p_ne (by decide), q1, p_ne (by decide), p_ne (by decide), q0, p_ne (by decide), p_ne (by decide)]
  · rw [q7, p_eq, q6, p_ne (by decide), p_ne (by decide), q5, p_ne (by decide), p_ne (by decide), q4, p_ne (by decide), p_ne (by decide), q3, p_ne (by decide), p_ne (by decide), q2, p_ne (by decide), p_ne (by decide), q1, p_ne (by decide), p_ne (by decide), q0, p_ne (by decide), p_ne (by decide)]
end AD
