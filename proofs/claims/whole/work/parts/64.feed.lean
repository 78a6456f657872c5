theorem by_and (x : Int32) : Int8.toInt32 (Int32.toInt8 x) &&& 255 = x &&& 255 := by
  apply Int32.toBitVec_inj.mp
  rw [Int32.toBitVec_and, Int32.toBitVec_and, Int8.toBitVec_toInt32, Int32.toBitVec_toInt8]
  apply BitVec.eq_of_toNat_eq
  rw [BitVec.toNat_and, BitVec.toNat_and, show (Int32.toBitVec 255).toNat = 2 ^ 8 - 1 from rfl, Nat.and_two_pow_sub_one_eq_mod, Nat.and_two_pow_sub_one_eq_mod, BitVec.toNat_signExtend, BitVec.toNat_setWidth, BitVec.signExtend_eq_setWidth_of_le _ (by omega), BitVec.toNat_setWidth]
  split <;> omega
theorem by_i8 (x : Int8) : Int32.toInt8 (Int8.toInt32 x) = x := by simp
theorem by_nar (x : Int8) : vp_nar .byte (Int8.toInt32 x) = Int8.toInt32 x := by
  unfold vp_nar narrow
  simp
/-- a byte of a number -/
def b_at (v : Int32) (q : Nat) : Int32 := Int8.toInt32 (Int32.toInt8 (v >>> nI (24 - 8 * q)))
theorem c_add1 {v : Int32} {k q : Nat} {M : zM} {fuel : Nat} (hk : k < 400) (hq : q < 4) (h0 : M.1 28 0 = nI k) : f_X9_add_3 (fuel + 1) v (nI 24 - nI (8 * q)) M = f_X9_add_3 fuel v (nI 24 - nI (8 * (q + 1))) (z_w (z_w M 29 k (b_at v q)) 28 0 (nI (k + 1))) := by
  have e1 : nI 24 - nI (8 * q) = nI (24 - 8 * q) := by
    have : q = 0 ∨ q = 1 ∨ q = 2 ∨ q = 3 := by omega
    rcases this with rfl | rfl | rfl | rfl <;> decide
  have e2 : nI 24 - nI (8 * q) + (-8 : Int32) = nI 24 - nI (8 * (q + 1)) := by
    have : q = 0 ∨ q = 1 ∨ q = 2 ∨ q = 3 := by omega
    rcases this with rfl | rfl | rfl | rfl <;> decide
  have e3 : nI (24 - 8 * q) &&& 31 = nI (24 - 8 * q) := by
    have : q = 0 ∨ q = 1 ∨ q = 2 ∨ q = 3 := by omega
    rcases this with rfl | rfl | rfl | rfl <;> decide
  rw [f_X9_add_3, if_neg (by rw [e1]; exact nI_pos (by omega)), if_neg (by rw [h0]; exact nI_ge (b := 400) (by omega) (by omega))]
  unfold z_g z_l
  rw [if_pos (by rw [h0]; exact p_ix hk (by decide)), e2, e1, e3, by_nar, h0, p_cl (by omega)]
  dsimp only
  rw [p_ne (by decide), h0, p_s1]
  rfl
theorem c_add {v : Int32} {k : Nat} {M : zM} (hk : k + 4 ≤ 400) (h0 : M.1 28 0 = nI k) : p_ok (f_X9_add v M) (fun X => (∀ a, a ≠ 28 → a ≠ 29 → X.1 a = M.1 a) ∧ X.1 28 0 = nI (k + 4) ∧ ∀ j, X.1 29 j = if k ≤ j ∧ j < k + 4 then b_at v (j - k) else M.1 29 j) := by
  unfold f_X9_add
  rw [show (24 : Int32) = nI 24 - nI (8 * 0) from by decide, show z_F = 4995 + 1 + 1 + 1 + 1 + 1 from rfl]
  rw [c_add1 (q := 0) (k := k) (by omega) (by omega) h0, c_add1 (q := 0 + 1) (k := k + 1) (by omega) (by omega) (by rw [p_eq, if_pos rfl]), c_add1 (q := 0 + 1 + 1) (k := k + 1 + 1) (by omega) (by omega) (by rw [p_eq, if_pos rfl]), c_add1 (q := 0 + 1 + 1 + 1) (k := k + 1 + 1 + 1) (by omega) (by omega) (by rw [p_eq, if_pos rfl])]
  rw [f_X9_add_3, if_pos (by decide)]
  refine p_some ⟨fun a a1 a2 => ?_, by rw [p_eq, if_pos rfl], fun j => ?_⟩
  · rw [p_nr a1, p_nr a2, p_nr a1, p_nr a2, p_nr a1, p_nr a2, p_nr a1, p_nr a2]
  · rw [p_ne (by decide), p_eq, p_ne (by decide), p_eq, p_ne (by decide), p_eq, p_ne (by decide), p_eq]
    by_cases c0 : j = k
    · subst c0; rw [if_neg (by omega), if_neg (by omega), if_neg (by omega), if_pos rfl, if_pos (by omega), Nat.sub_self]
    by_cases c1 : j = k + 1
    · subst c1; rw [if_neg (by omega), if_neg (by omega), if_pos rfl, if_pos (by omega), Nat.add_sub_cancel_left]
    by_cases c2 : j = k + 1 + 1
    · subst c2; rw [if_neg (by omega), if_pos rfl, if_pos (by omega), show k + 1 + 1 - k = 0 + 1 + 1 by omega]
    by_cases c3 : j = k + 1 + 1 + 1
    · subst c3; rw [if_pos rfl, if_pos (by omega), show k + 1 + 1 + 1 - k = 0 + 1 + 1 + 1 by omega]
    rw [if_neg c3, if_neg c2, if_neg c1, if_neg c0, if_neg (by omega)]
/-- the number whose byte comes as the q-th -/
def f_v (a b c d e : Int32) (q : Nat) : Int32 := if q < 4 then a else if q < 8 then b else if q < 12 then c else if q < 16 then d else e
theorem m_f18 {a b c d e : Int32} {k : Nat} {M : zM} (hk : k + 20 ≤ 400) : ∀ r q fuel (N : zM), q + r = 20 → r < fuel → (∀ i, i ≠ 45 → i ≠ 40 → N.1 i = M.1 i) → (∀ j, j ≠ 10 → N.1 40 j = M.1 40 j) → N.1 40 10 = nI (k + q) → (∀ j, N.1 45 j = if k ≤ j ∧ j < k + q then b_at (f_v a b c d e (j - k)) ((j - k) % 4) &&& 255 else M.1 45 j) →
    p_ok (f_X11_feed_18 fuel a b c d e (nI q) N) (fun x => x.1 = nI (k + 20) ∧ (∀ i, i ≠ 45 → i ≠ 40 → x.2.1 i = M.1 i) ∧ (∀ j, j ≠ 10 → x.2.1 40 j = M.1 40 j) ∧ x.2.1 40 10 = nI (k + 20) ∧ ∀ j, x.2.1 45 j = if k ≤ j ∧ j < k + 20 then b_at (f_v a b c d e (j - k)) ((j - k) % 4) &&& 255 else M.1 45 j) := by
  intro r
  induction r with
  | zero =>
    intro q fuel N h1 h2 h3 h4 h5 h6
    obtain ⟨fuel, rfl⟩ : ∃ m, fuel = m + 1 := ⟨fuel - 1, by omega⟩
    have : q = 20 := by omega
    subst this
    rw [f_X11_feed_18]
    exact p_t (by decide) (p_some ⟨h5, h3, h4, h5, h6⟩)
  | succ r ih =>
    intro q fuel N h1 h2 h3 h4 h5 h6
    obtain ⟨fuel, rfl⟩ : ∃ m, fuel = m + 1 := ⟨fuel - 1, by omega⟩
    rw [f_X11_feed_18]
    have e1 : ((24 : Int32) - (8 : Int32) * (nI q - nI q / (4 : Int32) * (4 : Int32))) &&& 31 = nI (24 - 8 * (q % 4)) := by
      have : ∀ q : Fin 20, ((24 : Int32) - (8 : Int32) * (nI q.1 - nI q.1 / (4 : Int32) * (4 : Int32))) &&& 31 = nI (24 - 8 * (q.1 % 4)) := by decide
      exact this ⟨q, by omega⟩
    have key : p_ok (f_X11_feed_71 (f_X11_feed_18 fuel) a b c d e (nI q) (f_v a b c d e q) N) (fun x => x.1 = nI (k + 20) ∧ (∀ i, i ≠ 45 → i ≠ 40 → x.2.1 i = M.1 i) ∧ (∀ j, j ≠ 10 → x.2.1 40 j = M.1 40 j) ∧ x.2.1 40 10 = nI (k + 20) ∧ ∀ j, x.2.1 45 j = if k ≤ j ∧ j < k + 20 then b_at (f_v a b c d e (j - k)) ((j - k) % 4) &&& 255 else M.1 45 j) := by
      unfold f_X11_feed_71
      refine p_g (by rw [h5]; exact p_ix (by omega) (by decide)) (p_lx (fun A hA => p_lx (fun B hB => p_l ?_)))
      rw [p_s1]
      rw [e1, h5, p_cl (by omega), ← by_and] at hA
      rw [hA, p_ne (by decide), h5, p_s1] at hB
      refine ih (q + 1) fuel B (by omega) (by omega) (fun i i1 i2 => by rw [hB, p_nr i2, p_nr i1]; exact h3 i i1 i2) (fun j hj => by rw [hB, p_eq, if_neg hj, p_ne (by decide)]; exact h4 j hj) (by rw [hB, p_eq, if_pos rfl]; rfl) (fun j => ?_)
      rw [hB, p_ne (by decide), p_eq]
      by_cases z : j = k + q
      · subst z
        rw [if_pos rfl, if_pos (by omega), Nat.add_sub_cancel_left]; rfl
      · rw [if_neg z, h6]
        by_cases y : k ≤ j ∧ j < k + q
        · rw [if_pos y, if_pos (by omega)]
        · rw [if_neg y, if_neg (by omega)]
    refine p_f (nI_ge (a := q) (b := 20) (by omega) (by omega)) ?_
    unfold f_v at key
    by_cases q4 : q < 4
    · rw [if_pos q4] at key
      exact p_f (nI_ge (a := q) (b := 4) q4 (by omega)) key
    rw [if_neg q4] at key
    refine p_t (nI_le (a := 4) (b := q) (by omega) (by omega)) ?_
    by_cases q8 : q < 8
    · rw [if_pos q8] at key
      exact p_f (nI_ge (a := q) (b := 8) q8 (by omega)) key
    rw [if_neg q8] at key
    refine p_t (nI_le (a := 8) (b := q) (by omega) (by omega)) ?_
    by_cases q12 : q < 12
    · rw [if_pos q12] at key
      exact p_f (nI_ge (a := q) (b := 12) q12 (by omega)) key
    rw [if_neg q12] at key
    refine p_t (nI_le (a := 12) (b := q) (by omega) (by omega)) ?_
    by_cases q16 : q < 16
    · rw [if_pos q16] at key
      exact p_f (nI_ge (a := q) (b := 16) q16 (by omega)) key
    rw [if_neg q16] at key
    exact p_t (nI_le (a := 16) (b := q) (by omega) (by omega)) key
/-- feed -/
theorem p_feed {K : Nat} {M : zM} {a b c d e : Int32} (h : s_I K M) : p_2 K (f_X10_feed a b c d e M) (f_X11_feed a b c d e) := by
  obtain ⟨k, k1, k2, k3, k4⟩ := h.2.2.1
  by_cases z : k + 20 ≤ 400
  · unfold f_X10_feed f_X9_hasRoom
    rw [k2, show nI k + (20 : Int32) = nI (k + 20) from n_ad k 20, if_neg (show ¬ (400 : Int32) < nI (k + 20) from nI_nlt (a := 400) z (by omega)), Option.bind_some, if_neg b_1z]
    dsimp only
    refine p_bx (c_add (k := k) (by omega) k2) (fun X1 ⟨a1, a2, a3⟩ => ?_)
    refine p_bx (c_add (k := k + 4) (by omega) a2) (fun X2 ⟨b1, b2, b3⟩ => ?_)
    refine p_bx (c_add (k := k + 4 + 4) (by omega) b2) (fun X3 ⟨c1, c2, c3⟩ => ?_)
    refine p_bx (c_add (k := k + 4 + 4 + 4) (by omega) c2) (fun X4 ⟨d1, d2, d3⟩ => ?_)
    refine p_bx (c_add (k := k + 4 + 4 + 4 + 4) (by omega) d2) (fun X5 ⟨e1, e2, e3⟩ => p_some ?_)
    have f0 : ∀ i, i ≠ 28 → i ≠ 29 → X5.1 i = M.1 i := fun i i1 i2 => by rw [e1 i i1 i2, d1 i i1 i2, c1 i i1 i2, b1 i i1 i2, a1 i i1 i2]
    have f1 : ∀ j, X5.1 29 j = if k ≤ j ∧ j < k + 20 then b_at (f_v a b c d e (j - k)) ((j - k) % 4) else M.1 29 j := fun j => by
      rw [e3, d3, c3, b3, a3]
      unfold f_v
      by_cases y4 : k + 16 ≤ j ∧ j < k + 20
      · rw [if_pos (by omega), if_pos (by omega), if_neg (by omega), if_neg (by omega), if_neg (by omega), if_neg (by omega), show (j - k) % 4 = j - (k + 4 + 4 + 4 + 4) by omega]
      by_cases y3 : k + 12 ≤ j ∧ j < k + 16
      · rw [if_neg (by omega), if_pos (by omega), if_pos (by omega), if_neg (by omega), if_neg (by omega), if_neg (by omega), if_pos (by omega), show (j - k) % 4 = j - (k + 4 + 4 + 4) by omega]
      by_cases y2 : k + 8 ≤ j ∧ j < k + 12
      · rw [if_neg (by omega), if_neg (by omega), if_pos (by omega), if_pos (by omega), if_neg (by omega), if_neg (by omega), if_pos (by omega), show (j - k) % 4 = j - (k + 4 + 4) by omega]
      by_cases y1 : k + 4 ≤ j ∧ j < k + 8
      · rw [if_neg (by omega), if_neg (by omega), if_neg (by omega), if_pos (by omega), if_pos (by omega), if_neg (by omega), if_pos (by omega), show (j - k) % 4 = j - (k + 4) by omega]
      by_cases y0 : k ≤ j ∧ j < k + 4
      · rw [if_neg (by omega), if_neg (by omega), if_neg (by omega), if_neg (by omega), if_pos (by omega), if_pos (by omega), if_pos (by omega), show (j - k) % 4 = j - k by omega]
      · rw [if_neg (by omega), if_neg (by omega), if_neg (by omega), if_neg (by omega), if_neg (by omega), if_neg (by omega)]
    have f2 : X5.1 28 0 = nI (k + 20) := by rw [e2]
    clear a1 a2 a3 b1 b2 b3 c1 c2 c3 d1 d2 d3 e1 e2 e3
    dsimp only
    rw [f2]
    unfold f_X11_feed
    have g : X5.1 40 10 = nI k := by rw [f0 40 (by decide) (by decide)]; exact k3
    refine p_t (by rw [g, show nI k + (20 : Int32) = nI (k + 20) from n_ad k 20]; exact nI_le (b := 400) z (by omega)) ?_
    refine p_w (m_f18 (M := X5) z 20 0 z_F X5 rfl (by unfold z_F; omega) (fun _ _ _ => rfl) (fun _ _ => rfl) g (fun j => by rw [if_neg (by omega)])) ?_
    rintro ⟨v, N⟩ ⟨n1, n2, n3, n4, n5⟩
    dsimp only at n1 n2 n3 n4 n5 ⊢
    refine ⟨n1.symm, ?_⟩
    have ro : ∀ i, i ≠ 28 → i ≠ 29 → i ≠ 45 → i ≠ 40 → N.1 i = M.1 i := fun i i1 i2 i3 i4 => by rw [n2 i i3 i4, f0 i i1 i2]
    refine s_I_fr h (fun i hi => ro i (o_ne hi (by unfold s_own; omega)) (o_ne hi (by unfold s_own; omega)) (o_ne hi (by unfold s_own; omega)) (o_ne hi (by unfold s_own; omega))) (fun i hi => ro i (o_ne hi (by unfold s_own; omega)) (o_ne hi (by unfold s_own; omega)) (o_ne hi (by unfold s_own; omega)) (o_ne hi (by unfold s_own; omega))) (ro 41 (by omega) (by omega) (by omega) (by omega)) (ro 42 (by omega) (by omega) (by omega) (by omega)) (by rw [ro 0 (by omega) (by omega) (by omega) (by omega)]) (by rw [n3 2 (by omega), n3 33 (by omega), f0 40 (by omega) (by omega)]; exact ⟨rfl, rfl⟩) ⟨k + 20, z, by rw [n2 28 (by omega) (by omega)]; exact f2, n4, fun i hi => ?_⟩ (by rw [n3 17 (by omega), n3 19 (by omega), f0 40 (by omega) (by omega), ro 30 (by omega) (by omega) (by omega) (by omega)]; exact h.2.2.2.1)
    rw [n2 29 (by omega) (by omega), n5, f1]
    by_cases y : k ≤ i ∧ i < k + 20
    · rw [if_pos y, if_pos y]
      refine ⟨rfl, ?_⟩
      unfold b_at
      rw [by_i8]
    · rw [if_neg y, if_neg y, f0 45 (by omega) (by omega)]
      exact k4 i (by omega)
  · refine p_same (v := -1) h ?_ ?_
    · unfold f_X10_feed f_X9_hasRoom
      rw [k2, show nI k + (20 : Int32) = nI (k + 20) from n_ad k 20, if_pos (show (400 : Int32) < nI (k + 20) from nI_lt (a := 400) (by omega) (by omega)), Option.bind_some, if_pos rfl]
    · unfold f_X11_feed
      rw [k3, show nI k + (20 : Int32) = nI (k + 20) from n_ad k 20, if_neg (show ¬ nI (k + 20) ≤ (400 : Int32) from nI_ge (a := 400) (by omega) (by omega))]
