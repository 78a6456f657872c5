theorem p_cp (M : zM) (a b n x j : Nat) : (z_cp M a 0 b 0 n).1 x j = if x = b ∧ j < n then M.1 a j else M.1 x j := by
  show (if x = b then va_cpy (M.1 a) (M.1 b) 0 0 n j else M.1 x j) = _
  unfold va_cpy
  by_cases h : x = b
  · subst h
    rw [if_pos rfl]
    by_cases h2 : j < n
    · simp [h2]
    · simp [h2]
  · rw [if_neg h, if_neg (fun q => h q.1)]
theorem p_cn {M : zM} {a b n x : Nat} (h : x ≠ b) : (z_cp M a 0 b 0 n).1 x = M.1 x := funext (fun j => by rw [p_cp, if_neg (fun q => h q.1)])
theorem l_pos_le (st : Nat → Nat × Int32) {i : Nat} : ∀ {k}, i ≤ k → l_pos st i ≤ l_pos st k := by
  intro k hk
  induction k with
  | zero => have : i = 0 := by omega
            subst this; exact Nat.le_refl _
  | succ k ih =>
    by_cases h : i = k + 1
    · subst h; exact Nat.le_refl _
    · have := ih (by omega)
      show l_pos st i ≤ l_pos st k + _
      omega
theorem l_code_cg {c c' : Nat → Int32} {p : Nat} {s : Nat × Int32} (h : ∀ j, j < p + l_len s.1 → c' j = c j) (hc : l_code c p s) : l_code c' p s := by
  unfold l_code at hc ⊢
  have h0 : c' p = c p := h p (by unfold l_len; split <;> omega)
  by_cases e0 : s.1 = 0
  · rw [if_pos e0] at hc ⊢
    rw [h0]; exact hc
  · rw [if_neg e0] at hc ⊢
    by_cases e1 : s.1 = 16
    · rw [if_pos e1] at hc ⊢
      rw [h0, h (p + 1) (by unfold l_len; rw [if_pos e1]; omega)]; exact hc
    · rw [if_neg e1] at hc ⊢
      rw [h0]; exact hc
theorem s_law_cg {L L' : Int32} {c c' sf sf' wf wf' w w' : Nat → Int32} (hL : L' = L) (hc : ∀ j, j < 400 → c' j = c j) (hs : ∀ j, j < 17 → sf' j = sf j) (hw : ∀ j, j < 17 → wf' j = wf j) (hW : ∀ j, j < 1700 → w' j = w j) (h : s_law L c sf wf w) : s_law L' c' sf' wf' w' := by
  obtain ⟨ln, k, st, ff, mm, tt, x1, x2, x3, x4, x5, x6, x7⟩ := h
  refine ⟨ln, k, st, ff, mm, tt, hL.trans x1, by rw [hW _ (by omega)]; exact x2, x3, x4, x5, fun i hi => ?_, fun i hi => ?_⟩
  · rw [hW _ (by omega), hW _ (by omega)]
    obtain ⟨y1, y2, y3⟩ := x6 i hi
    refine ⟨y1, y2, l_code_cg (fun j hj => hc j ?_) y3⟩
    have : l_pos st (i + 1) ≤ l_pos st k := l_pos_le st (by omega)
    have e : l_pos st (i + 1) = l_pos st i + l_len (st i).1 := rfl
    omega
  · rw [hW _ (by omega), hW _ (by omega), hW _ (by omega), hs i (by omega), hs (i + 1) (by omega), hw i (by omega)]
    exact x7 i hi
theorem s_W_cg {K : Nat} {w w' : Nat → Int32} {n m : Nat} (hW : ∀ j, j < 1700 → w' j = w j) (h : s_W K w n m) : s_W K w' n m := by
  obtain ⟨⟨w0, w0', w1', w1''⟩, w2, ⟨ct, c1, c2, c3⟩, w4, w5, w6⟩ := h
  refine ⟨⟨by rw [hW _ (by omega)]; exact w0, w0', by rw [hW _ (by omega)]; exact w1', w1''⟩, by rw [hW 2 (by omega), hW 3 (by omega), hW 6 (by omega)]; exact w2, ⟨ct, c1, by rw [hW _ (by omega)]; exact c2, fun g hg => ?_⟩, fun g hg => ?_, fun g hg => ?_, fun t ht => ?_⟩
  · rw [hW _ (by omega)]; exact c3 g hg
  · rw [hW _ (by omega), hW _ (by omega), hW _ (by omega), hW _ (by omega), hW _ (by omega), hW _ (by omega), hW _ (by omega), hW _ (by omega)]; exact w4 g hg
  · show w' (20 + 16 * g + 4) = -1 ∨ ∃ e, g < e ∧ e < n ∧ w' (20 + 16 * g + 4) = nI e
    rw [hW _ (by omega)]; exact w5 g hg
  · refine ⟨by rw [hW _ (by omega)]; exact (w6 t ht).1, fun j hj => ?_⟩
    rw [hW _ (by omega), hW _ (by omega)]; exact (w6 t ht).2 j hj
theorem s_C_cg {s : Nat} {M : zM} {w w' : Nat → Int32} {n m : Nat} (hn : n ≤ 10) (hm : m ≤ 10) (hW : ∀ j, j < 1700 → w' j = w j) (h : s_C s M w n m) : s_C s M w' n m := by
  obtain ⟨d1, ⟨lh, lt, l1, l2, l3, l4, l5, l6⟩, d3, d4, d5⟩ := h
  refine ⟨?_, ⟨lh, lt, l1, l2, l3, l4, ?_, fun g t hg ht => ?_⟩, fun g hg q hq => ?_, fun t ht => ?_, s_law_cg rfl (fun _ _ => rfl) (fun _ _ => rfl) (fun _ _ => rfl) hW d5⟩
  · rw [hW 0 (by omega), hW 1 (by omega), hW 2 (by omega), hW 3 (by omega), hW 4 (by omega), hW 5 (by omega), hW 6 (by omega), hW 7 (by omega)]; exact d1
  · rw [hW 8 (by omega), hW 9 (by omega)]; exact l5
  · rw [hW _ (by omega), hW _ (by omega), hW _ (by omega)]; exact l6 g t hg ht
  · rw [hW _ (by omega)]; exact d3 g hg q hq
  · refine ⟨by rw [hW _ (by omega)]; exact (d4 t ht).1, fun j hj => ?_⟩
    rw [hW _ (by omega), hW _ (by omega)]; exact (d4 t ht).2 j hj
/-- all that decides how a storm goes is taken over -/
def h_im (j : Nat) : Prop := j = 0 ∨ j = 1 ∨ j = 4 ∨ j = 5 ∨ j = 6 ∨ j = 7 ∨ j = 8 ∨ j = 9
theorem c_imag {k0 k1 : Nat} {M : zM} (h : k1 ≠ k0) : p_ok (f_X2_imagine k0 k1 M) (fun X => X.2 = M.2 ∧ (∀ a, a ≠ k0 → X.1 a = M.1 a) ∧ (∀ j, h_im j → X.1 k0 j = M.1 k1 j) ∧ ∀ j, ¬ h_im j → X.1 k0 j = M.1 k0 j) := by
  refine ⟨_, rfl, rfl, fun a ha => ?_, fun j hj => ?_, fun j hj => ?_⟩
  · iterate 8 (rw [p_nr ha])
  · unfold h_im at hj
    rcases hj with rfl | rfl | rfl | rfl | rfl | rfl | rfl | rfl <;> simp [p_eq, p_ne h]
  · unfold h_im at hj
    simp only [p_eq]
    iterate 8 (rw [if_neg (by omega)])
theorem c_cpH {k0 k1 : Nat} {M : zM} (h : k1 + 5 ≤ k0 ∨ k0 + 5 ≤ k1) : p_ok (f_X2_copy k0 k1 M) (fun X => (∀ a, (a < k0 ∨ k0 + 5 ≤ a) → X.1 a = M.1 a) ∧ (∀ j, j < 14 → X.1 k0 j = M.1 k1 j) ∧ ∀ q j, 2 ≤ q → q ≤ 4 → j < 12 → X.1 (k0 + q) j = M.1 (k1 + q) j) := by
  unfold f_X2_copy
  refine p_bx (c_imag (by omega)) (fun X hX => ?_)
  obtain ⟨-, x1, x2, x3⟩ := hX
  have k10 : k1 ≠ k0 := by omega
  refine ⟨_, rfl, fun a ha => ?_, fun j hj => ?_, fun q j q1 q2 hj => ?_⟩
  · simp only [show Int32.toNatClampNeg (0 : Int32) = 0 from rfl]
    rw [p_cn (by omega), p_cn (by omega), p_cn (by omega)]
    iterate 6 (rw [p_nr (by omega)])
    exact x1 a (by omega)
  · simp only [show Int32.toNatClampNeg (0 : Int32) = 0 from rfl]
    rw [p_cn (by omega), p_cn (by omega), p_cn (by omega)]
    simp only [p_eq, p_ne k10, x1 k1 k10]
    by_cases y : h_im j
    · rw [x2 j y]
      unfold h_im at y
      iterate 6 (rw [if_neg (by omega)])
    · unfold h_im at y
      have : j = 2 ∨ j = 3 ∨ j = 10 ∨ j = 11 ∨ j = 12 ∨ j = 13 := by omega
      rcases this with rfl | rfl | rfl | rfl | rfl | rfl <;> simp
  · simp only [show Int32.toNatClampNeg (0 : Int32) = 0 from rfl, show Int32.toNatClampNeg (12 : Int32) = 12 from rfl]
    have : q = 2 ∨ q = 3 ∨ q = 4 := by omega
    rcases this with rfl | rfl | rfl
    · rw [p_cn (by omega), p_cn (by omega), p_cp, if_pos ⟨rfl, hj⟩]
      iterate 6 (rw [p_ne (by omega)])
      rw [x1 _ (by omega)]
    · rw [p_cn (by omega), p_cp, if_pos ⟨rfl, hj⟩, p_cn (by omega)]
      iterate 6 (rw [p_ne (by omega)])
      rw [x1 _ (by omega)]
    · rw [p_cp, if_pos ⟨rfl, hj⟩, p_cn (by omega), p_cn (by omega)]
      iterate 6 (rw [p_ne (by omega)])
      rw [x1 _ (by omega)]
theorem c_cp18 {k0 k1 n : Nat} {M : zM} (hk : 3 ≤ k0 ∧ k0 ≤ 5 ∧ 3 ≤ k1 ∧ k1 ≤ 5 ∧ k0 ≠ k1) (hn : n ≤ 10) (hM : M.1 k0 0 = nI n) : ∀ e i fuel (N : zM), i + e = n → e < fuel → (∀ a, (a < c_H k0 0 ∨ c_H k0 10 ≤ a) → N.1 a = M.1 a) → (∀ g, g < i → (∀ j, j < 14 → N.1 (c_H k0 g) j = M.1 (c_H k1 g) j) ∧ ∀ q j, 2 ≤ q → q ≤ 4 → j < 12 → N.1 (c_H k0 g + q) j = M.1 (c_H k1 g + q) j) →
    p_ok (f_X5_copy_18 fuel k0 k1 (nI i) N) (fun X => (∀ a, (a < c_H k0 0 ∨ c_H k0 10 ≤ a) → X.1 a = M.1 a) ∧ ∀ g, g < n → (∀ j, j < 14 → X.1 (c_H k0 g) j = M.1 (c_H k1 g) j) ∧ ∀ q j, 2 ≤ q → q ≤ 4 → j < 12 → X.1 (c_H k0 g + q) j = M.1 (c_H k1 g + q) j) := by
  intro e
  induction e with
  | zero =>
    intro i fuel N h1 h2 h3 h4
    obtain ⟨fuel, rfl⟩ : ∃ m, fuel = m + 1 := ⟨fuel - 1, by omega⟩
    have : i = n := by omega
    subst this
    rw [f_X5_copy_18]
    refine p_t ?_ (p_some ⟨h3, h4⟩)
    rw [h3 k0 (by unfold c_H; omega), hM]
    exact nI_le (Nat.le_refl _) (by omega)
  | succ e ih =>
    intro i fuel N h1 h2 h3 h4
    obtain ⟨fuel, rfl⟩ : ∃ m, fuel = m + 1 := ⟨fuel - 1, by omega⟩
    rw [f_X5_copy_18]
    refine p_f ?_ (p_g (p_ix (show i < 10 by omega) (by decide)) (p_g (p_ix (show i < 10 by omega) (by decide)) ?_))
    · rw [h3 k0 (by unfold c_H; omega), hM]
      exact nI_ge (by omega) (by omega)
    rw [p_cl (by omega), c_ra hk.1 hk.2.1, c_ra hk.2.2.1 hk.2.2.2.1]
    refine p_bx (c_cpH (by unfold c_H; omega)) (fun X hX => p_l ?_)
    obtain ⟨x1, x2, x3⟩ := hX
    rw [p_s1]
    refine ih (i + 1) fuel X (by omega) (by omega) (fun a ha => by rw [x1 a (by unfold c_H at *; omega)]; exact h3 a ha) (fun g hg => ?_)
    by_cases z : g = i
    · subst z
      refine ⟨fun j hj => by rw [x2 j hj, h3 _ (by unfold c_H; omega)], fun q j q1 q2 hj => by rw [x3 q j q1 q2 hj, h3 _ (by unfold c_H; omega)]⟩
    · refine ⟨fun j hj => by rw [x1 _ (by unfold c_H; omega)]; exact (h4 g (by omega)).1 j hj, fun q j q1 q2 hj => by rw [x1 _ (by unfold c_H; omega)]; exact (h4 g (by omega)).2 q j q1 q2 hj⟩
theorem c_cpS10 {k0 k1 : Nat} {M : zM} (h : k1 + 3 ≤ k0 ∨ k0 + 3 ≤ k1) (hb : ∀ j, j < 12 → M.1 (k1 + 2) j = 0 ∨ M.1 (k1 + 2) j = 1) : ∀ e i fuel (N : zM), i + e = 12 → e < fuel → (∀ a, a ≠ k0 + 1 → a ≠ k0 + 2 → N.1 a = M.1 a) → (∀ j, j < i → N.1 (k0 + 1) j = M.1 (k1 + 1) j ∧ N.1 (k0 + 2) j = M.1 (k1 + 2) j) →
    p_ok (f_X7_copy_10 fuel k0 k1 (nI i) N) (fun X => (∀ a, a ≠ k0 + 1 → a ≠ k0 + 2 → X.1 a = M.1 a) ∧ ∀ j, j < 12 → X.1 (k0 + 1) j = M.1 (k1 + 1) j ∧ X.1 (k0 + 2) j = M.1 (k1 + 2) j) := by
  intro e
  induction e with
  | zero =>
    intro i fuel N h1 h2 h3 h4
    obtain ⟨fuel, rfl⟩ : ∃ m, fuel = m + 1 := ⟨fuel - 1, by omega⟩
    have : i = 12 := by omega
    subst this
    rw [f_X7_copy_10]
    exact p_t (by decide) (p_some ⟨h3, h4⟩)
  | succ e ih =>
    intro i fuel N h1 h2 h3 h4
    obtain ⟨fuel, rfl⟩ : ∃ m, fuel = m + 1 := ⟨fuel - 1, by omega⟩
    rw [f_X7_copy_10]
    have g12 := p_ix (show i < 12 by omega) (show 12 < 2 ^ 31 by decide)
    refine p_f (nI_ge (a := i) (b := 12) (by omega) (by omega)) (p_g g12 (p_g g12 (p_l (p_g g12 (p_g g12 (p_l (p_l ?_)))))))
    rw [p_s1, p_cl (by omega), p_ne (by omega), h3 (k1 + 1) (by omega) (by omega), h3 (k1 + 2) (by omega) (by omega), show vp_nar .boolean (M.1 (k1 + 2) i) = M.1 (k1 + 2) i from by rcases hb i (by omega) with z | z <;> rw [z] <;> decide]
    refine ih (i + 1) fuel _ (by omega) (by omega) (fun a a1 a2 => by rw [p_nr a2, p_nr a1]; exact h3 a a1 a2) (fun j hj => ?_)
    rw [p_ne (by omega), p_eq, p_eq, p_ne (by omega)]
    by_cases z : j = i
    · subst z; rw [if_pos rfl, if_pos rfl]; exact ⟨rfl, rfl⟩
    · rw [if_neg z, if_neg z]; exact h4 j (by omega)
theorem c_cpS {k0 k1 : Nat} {M : zM} (h : k1 + 3 ≤ k0 ∨ k0 + 3 ≤ k1) (hb : ∀ j, j < 12 → M.1 (k1 + 2) j = 0 ∨ M.1 (k1 + 2) j = 1) : p_ok (f_X7_copy k0 k1 M) (fun X => (∀ a, (a < k0 ∨ k0 + 3 ≤ a) → X.1 a = M.1 a) ∧ X.1 k0 0 = M.1 k1 0 ∧ ∀ j, j < 12 → X.1 (k0 + 1) j = M.1 (k1 + 1) j ∧ X.1 (k0 + 2) j = M.1 (k1 + 2) j) := by
  unfold f_X7_copy
  refine p_l (p_w (c_cpS10 (M := z_w M k0 0 (M.1 k1 0)) h (fun j hj => by rw [p_ne (by omega)]; exact hb j hj) 12 0 z_F _ rfl (by unfold z_F; omega) (fun _ _ _ => rfl) (fun j hj => by omega)) ?_)
  rintro X ⟨x1, x2⟩
  refine ⟨fun a ha => by rw [x1 a (by omega) (by omega), p_nr (by omega)], by rw [x1 k0 (by omega) (by omega), p_eq, if_pos rfl], fun j hj => ?_⟩
  have := x2 j hj
  rwa [p_ne (by omega), p_ne (by omega)] at this
theorem c_cpL {k0 k1 : Nat} {M : zM} (hk : (k0 = 13 ∨ k0 = 14) ∧ (k1 = 13 ∨ k1 = 14 ∨ k1 = 15) ∧ k0 ≠ k1) : p_ok (f_X3_copy k0 k1 M) (fun X => (∀ a, a ≠ k0 → a ≠ k0 + 3 → a ≠ k0 + 6 → a ≠ k0 + 9 → X.1 a = M.1 a) ∧ X.1 k0 0 = M.1 k1 0 ∧ (∀ j, j < 400 → X.1 (k0 + 3) j = M.1 (k1 + 3) j) ∧ (∀ j, j < 17 → X.1 (k0 + 6) j = M.1 (k1 + 6) j) ∧ ∀ j, j < 17 → X.1 (k0 + 9) j = M.1 (k1 + 9) j) := by
  refine ⟨_, rfl, fun a a1 a2 a3 a4 => ?_, ?_, fun j hj => ?_, fun j hj => ?_, fun j hj => ?_⟩ <;> simp only [show Int32.toNatClampNeg (0 : Int32) = 0 from rfl, show Int32.toNatClampNeg (400 : Int32) = 400 from rfl, show Int32.toNatClampNeg (17 : Int32) = 17 from rfl]
  · rw [p_cn a4, p_cn a3, p_cn a2, p_nr a1, p_nr a1]
  · rw [p_cn (by omega), p_cn (by omega), p_cn (by omega), p_eq, if_neg (by omega), p_eq, if_pos rfl]
  · rw [p_cn (by omega), p_cn (by omega), p_cp, if_pos ⟨rfl, hj⟩, p_ne (by omega), p_ne (by omega)]
  · rw [p_cn (by omega), p_cp, if_pos ⟨rfl, hj⟩, p_cn (by omega), p_ne (by omega), p_ne (by omega)]
  · rw [p_cp, if_pos ⟨rfl, hj⟩, p_cn (by omega), p_cn (by omega), p_ne (by omega), p_ne (by omega)]
theorem c_ra9' {s t : Nat} (hs : s = 1 ∨ s = 2) : z_ra (s + 8) t = c_S s t := by
  rcases hs with rfl | rfl
  · exact c_ra9
  · unfold z_ra c_S; rw [if_neg (by decide), if_pos (by decide)]
/-- the street s is taken over into the street d -/
theorem c_copy {d s : Nat} (hds : (d = 1 ∧ s = 2) ∨ (d = 2 ∧ s = 1)) {K : Nat} {M : zM} {w : Nat → Int32} {n m : Nat} (hW : s_W K w n m) (hC : s_C s M w n m) : p_ok (f_X8_copy d s M) (fun X => (∀ a, ¬ s_own d a → X.1 a = M.1 a) ∧ s_C d X w n m) := by
  have hn10 := hW.1.2.1
  have hm10 := hW.1.2.2.2
  obtain ⟨d1, ⟨lh, lt, l1, l2, l3, l4, l5, l6⟩, d3, d4, d5⟩ := hC
  have hn : M.1 (s + 2) 0 = nI n := d1.1.trans hW.1.1
  have hm : M.1 s 1 = nI m := d1.2.1.trans hW.1.2.2.1
  unfold f_X8_copy
  have hcp : p_ok (f_X5_copy (d + 2) (s + 2) M) (fun X => (∀ a, a ≠ d + 2 → (a < c_H (d + 2) 0 ∨ c_H (d + 2) 10 ≤ a) → X.1 a = M.1 a) ∧ (X.1 (d + 2) 0 = M.1 (s + 2) 0 ∧ X.1 (d + 2) 1 = M.1 (s + 2) 1) ∧ ∀ g, g < n → (∀ j, j < 14 → X.1 (c_H (d + 2) g) j = M.1 (c_H (s + 2) g) j) ∧ ∀ q j, 2 ≤ q → q ≤ 4 → j < 12 → X.1 (c_H (d + 2) g + q) j = M.1 (c_H (s + 2) g + q) j) := by
    unfold f_X5_copy
    refine p_lx (fun A hA => p_lx (fun B hB => ?_))
    rw [hA, p_ne (by omega)] at hB
    have b1 : ∀ a, a ≠ d + 2 → B.1 a = M.1 a := fun a ha => by rw [hB, p_nr ha, p_nr ha]
    have b2 : B.1 (d + 2) 0 = M.1 (s + 2) 0 ∧ B.1 (d + 2) 1 = M.1 (s + 2) 1 := by rw [hB, p_eq, p_eq, p_eq]; exact ⟨rfl, rfl⟩
    refine p_w (c_cp18 (n := n) (M := B) (by omega) hn10 (by rw [b2.1]; exact hn) n 0 z_F B (by omega) (by unfold z_F; omega) (fun _ _ => rfl) (fun g hg => by omega)) ?_
    rintro X ⟨x1, x2⟩
    refine ⟨fun a a1 a2 => by rw [x1 a a2, b1 a a1], by rw [x1 _ (by unfold c_H; omega)]; exact b2, fun g hg => ?_⟩
    have := x2 g hg
    rw [b1 _ (by unfold c_H; omega)] at this
    refine ⟨this.1, fun q j q1 q2 hj => ?_⟩
    have := this.2 q j q1 q2 hj
    rwa [b1 _ (by unfold c_H; omega)] at this
  refine p_bx hcp (fun X hX => p_lx (fun A hA => ?_))
  obtain ⟨x1, x2, x3⟩ := hX
  rw [x1 s (by omega) (by unfold c_H; omega)] at hA
  have a0 : ∀ a, a ≠ d → A.1 a = X.1 a := fun a ha => by rw [hA, p_nr ha]
  have a1 : A.1 d 1 = nI m := by rw [hA, p_eq, if_pos rfl]; exact hm
  have aS : ∀ t q, t < 10 → q ≤ 2 → A.1 (c_S s t + q) = M.1 (c_S s t + q) := fun t q ht hq => by rw [a0 _ (by unfold c_S; omega), x1 _ (by unfold c_S; omega) (by unfold c_S c_H; omega)]
  have aSr : ∀ a, (261 ≤ a ∨ a < 231) → a ≠ d → a ≠ d + 2 → (a < c_H (d + 2) 0 ∨ c_H (d + 2) 10 ≤ a) → A.1 a = M.1 a := fun a _ h2 h3 h4 => by rw [a0 a h2, x1 a h3 h4]
  have loop : ∀ e i fuel (N : zM), i + e = m → e < fuel → (∀ a, (a < c_S d 0 ∨ c_S d 10 ≤ a) → N.1 a = A.1 a) → (∀ t, t < i → N.1 (c_S d t) 0 = M.1 (c_S s t) 0 ∧ ∀ j, j < 12 → N.1 (c_S d t + 1) j = M.1 (c_S s t + 1) j ∧ N.1 (c_S d t + 2) j = M.1 (c_S s t + 2) j) →
      p_ok (f_X8_copy_21 fuel d s (nI i) N) (fun Y => (∀ a, ¬ s_own d a → Y.1 a = M.1 a) ∧ s_C d Y w n m) := by
    intro e
    induction e with
    | zero =>
      intro i fuel N h1 h2 h3 h4
      obtain ⟨fuel, rfl⟩ : ∃ m, fuel = m + 1 := ⟨fuel - 1, by omega⟩
      have : i = m := by omega
      subst this
      rw [f_X8_copy_21]
      refine p_t ?_ ?_
      · rw [h3 d (by unfold c_S; omega), a1]
        exact nI_le (Nat.le_refl _) (by omega)
      refine p_bx (c_cpL (by omega)) (fun Y hY => ?_)
      obtain ⟨y1, y2, y3, y4, y5⟩ := hY
      have ys : ∀ j, Y.1 s j = M.1 s j := fun j => by rw [y1 s (by omega) (by omega) (by omega) (by omega), h3 s (by unfold c_S; omega), a0 s (by omega), x1 s (by omega) (by unfold c_H; omega)]
      have yd : Y.1 d 1 = nI i := by rw [y1 d (by omega) (by omega) (by omega) (by omega), h3 d (by unfold c_S; omega), a1]
      have hsd : s ≠ d := by omega
      refine p_lx (fun A4 e4 => p_lx (fun A5 e5 => p_lx (fun A6 e6 => p_lx (fun A7 e7 => p_lx (fun A8 e8 => p_lx (fun A9 e9 => p_lx (fun F eF => p_some ?_)))))))
      have f0 : ∀ a, a ≠ d → F.1 a = Y.1 a := fun a ha => by rw [eF, p_nr ha, e9, p_nr ha, e8, p_nr ha, e7, p_nr ha, e6, p_nr ha, e5, p_nr ha, e4, p_nr ha]
      have fd : ∀ j, F.1 d j = if 4 ≤ j ∧ j ≤ 10 then M.1 s j else Y.1 d j := fun j => by
        simp only [eF, e9, e8, e7, e6, e5, e4, p_eq, p_ne hsd, ys]
        by_cases z : 4 ≤ j ∧ j ≤ 10
        · rw [if_pos z]
          have : j = 4 ∨ j = 5 ∨ j = 6 ∨ j = 7 ∨ j = 8 ∨ j = 9 ∨ j = 10 := by omega
          rcases this with rfl | rfl | rfl | rfl | rfl | rfl | rfl <;> rfl
        · rw [if_neg z]
          iterate 7 (rw [if_neg (by omega)])
      clear e4 e5 e6 e7 e8 e9 eF A4 A5 A6 A7 A8 A9
      refine ⟨fun a ha => ?_, ?_⟩
      · unfold s_own at ha
        rw [f0 a (by omega), y1 a (by omega) (by omega) (by omega) (by omega), h3 a (by unfold c_S; omega), a0 a (by omega), x1 a (by omega) (by unfold c_H; omega)]
      have yX : ∀ a, a ≠ d → (a < c_S d 0 ∨ c_S d 10 ≤ a) → a ≠ d + 12 → a ≠ d + 15 → a ≠ d + 18 → a ≠ d + 21 → F.1 a = X.1 a := fun a b1 b2 b3 b4 b5 b6 => by rw [f0 a b1, y1 a b3 b4 b5 b6, h3 a b2, a0 a b1]
      have yS : ∀ a, c_S d 0 ≤ a → a < c_S d 10 → F.1 a = N.1 a := fun a b1 b2 => by
        unfold c_S at b1 b2
        rw [f0 a (by omega), y1 a (by omega) (by omega) (by omega) (by omega)]
      have nL : ∀ a, a = 13 ∨ a = 14 ∨ a = 15 ∨ a = 16 ∨ a = 17 ∨ a = 19 ∨ a = 20 ∨ a = 22 ∨ a = 23 → N.1 a = M.1 a := fun a ha => by rw [h3 a (by unfold c_S; omega), a0 a (by omega), x1 a (by omega) (by unfold c_H; omega)]
      refine ⟨?_, ⟨lh, lt, ?_, ?_, l3, l4, l5, fun g t hg ht => ?_⟩, fun g hg q hq => ?_, fun t ht => ?_, ?_⟩
      · rw [yX (d + 2) (by omega) (by unfold c_S; omega) (by omega) (by omega) (by omega) (by omega), x2.1, x2.2, fd 1, fd 4, fd 5, fd 6, fd 7, fd 8, if_neg (by omega), if_pos (by omega), if_pos (by omega), if_pos (by omega), if_pos (by omega), if_pos (by omega), yd, ← hm]
        exact d1
      · rw [fd, if_pos (by omega)]; exact l1
      · rw [fd, if_pos (by omega)]; exact l2
      · obtain ⟨z1, z2, z3⟩ := l6 g t hg ht
        have := (x3 g (by omega)).2
        rw [yX _ (by unfold c_H; omega) (by unfold c_H c_S; omega) (by unfold c_H; omega) (by unfold c_H; omega) (by unfold c_H; omega) (by unfold c_H; omega), yX _ (by unfold c_H; omega) (by unfold c_H c_S; omega) (by unfold c_H; omega) (by unfold c_H; omega) (by unfold c_H; omega) (by unfold c_H; omega), yX _ (by unfold c_H; omega) (by unfold c_H c_S; omega) (by unfold c_H; omega) (by unfold c_H; omega) (by unfold c_H; omega) (by unfold c_H; omega), this 2 t (by omega) (by omega) (by omega), this 3 t (by omega) (by omega) (by omega), this 4 t (by omega) (by omega) (by omega)]
        exact ⟨z1, z2, z3⟩
      · rw [yX _ (by unfold c_H; omega) (by unfold c_H c_S; omega) (by unfold c_H; omega) (by unfold c_H; omega) (by unfold c_H; omega) (by unfold c_H; omega), (x3 g hg).1 q hq]
        exact d3 g hg q hq
      · obtain ⟨z1, z2⟩ := h4 t ht
        rw [yS _ (by unfold c_S; omega) (by unfold c_S; omega), yS _ (by unfold c_S; omega) (by unfold c_S; omega), yS _ (by unfold c_S; omega) (by unfold c_S; omega)]
        refine ⟨z1.trans (d4 t ht).1, fun j hj => ⟨(z2 j hj).1.trans ((d4 t ht).2 j hj).1, (z2 j hj).2.trans ((d4 t ht).2 j hj).2⟩⟩
      · refine s_law_cg (L := M.1 (s + 12) 0) (c := M.1 (s + 15)) (sf := M.1 (s + 18)) (wf := M.1 (s + 21)) (w := w) ?_ (fun j hj => ?_) (fun j hj => ?_) (fun j hj => ?_) (fun _ _ => rfl) d5
        · rw [f0 (d + 12) (by omega), y2, nL (s + 12) (by omega)]
        · rw [f0 (d + 15) (by omega)]
          have := y3 j hj
          rw [show d + 12 + 3 = d + 15 by omega, show s + 12 + 3 = s + 15 by omega, nL (s + 15) (by omega)] at this
          exact this
        · rw [f0 (d + 18) (by omega)]
          have := y4 j hj
          rw [show d + 12 + 6 = d + 18 by omega, show s + 12 + 6 = s + 18 by omega, nL (s + 18) (by omega)] at this
          exact this
        · rw [f0 (d + 21) (by omega)]
          have := y5 j hj
          rw [show d + 12 + 9 = d + 21 by omega, show s + 12 + 9 = s + 21 by omega, nL (s + 21) (by omega)] at this
          exact this
    | succ e ih =>
      intro i fuel N h1 h2 h3 h4
      obtain ⟨fuel, rfl⟩ : ∃ m, fuel = m + 1 := ⟨fuel - 1, by omega⟩
      rw [f_X8_copy_21]
      refine p_f ?_ (p_g (p_ix (show i < 10 by omega) (by decide)) (p_g (p_ix (show i < 10 by omega) (by decide)) ?_))
      · rw [h3 d (by unfold c_S; omega), a1]
        exact nI_ge (by omega) (by omega)
      rw [p_cl (by omega), c_ra9' (s := d) (by omega), c_ra9' (s := s) (by omega)]
      have nS : ∀ q, q ≤ 2 → N.1 (c_S s i + q) = M.1 (c_S s i + q) := fun q hq => by rw [h3 _ (by unfold c_S; omega), aS i q (by omega) hq]
      have nS0 : N.1 (c_S s i) = M.1 (c_S s i) := nS 0 (by omega)
      refine p_bx (c_cpS (by unfold c_S; omega) (fun j hj => by rw [nS 2 (by omega), ((d4 i (by omega)).2 j hj).2]; exact ((hW.2.2.2.2.2 i (by omega)).2 j hj).2)) (fun Y hY => p_l ?_)
      obtain ⟨y1, y2, y3⟩ := hY
      rw [p_s1]
      refine ih (i + 1) fuel Y (by omega) (by omega) (fun a ha => by rw [y1 a (by unfold c_S at *; omega)]; exact h3 a ha) (fun t ht => ?_)
      by_cases z : t = i
      · subst z
        rw [nS0] at y2
        rw [nS 1 (by omega), nS 2 (by omega)] at y3
        exact ⟨y2, y3⟩
      · rw [y1 _ (by unfold c_S; omega), y1 _ (by unfold c_S; omega), y1 _ (by unfold c_S; omega)]
        exact h4 t (by omega)
  exact loop m 0 z_F A (by omega) (by unfold z_F; omega) (fun _ _ => rfl) (fun t ht => by omega)
