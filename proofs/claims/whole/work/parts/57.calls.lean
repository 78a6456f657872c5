/-! CALLS: the class answers, then the reference, alike; what every call keeps is kept -/
def p_2 {α : Type} (K : Nat) (cx : Option (α × zM)) (mx : zM → Option (α × zM)) : Prop := p_ok cx (fun x => p_ok (mx x.2) (fun y => x.1 = y.1 ∧ s_I (K + 1) y.2))
theorem i_mono {x : Int32} {a b c : Int} (h : i_in x a b) (hbc : b ≤ c) : i_in x a c := ⟨h.1, Int.le_trans h.2 hbc⟩
theorem s_W_mono {K : Nat} {w : Nat → Int32} {n m : Nat} (h : s_W K w n m) : s_W (K + 1) w n m := by
  obtain ⟨h1, h2, ⟨c, c1, c2, c3⟩, h4⟩ := h
  exact ⟨h1, h2, ⟨c, by omega, c2, c3⟩, h4⟩
theorem s_I_mono {K : Nat} {M : zM} (h : s_I K M) : s_I (K + 1) M := by
  obtain ⟨⟨n, m, h1, h2⟩, ⟨h3, h4⟩, h5⟩ := h
  refine ⟨⟨n, m, s_W_mono h1, h2⟩, ⟨h3, ?_⟩, h5⟩
  rcases h4 with h4 | ⟨h4, n', m', h6, h7⟩
  · exact Or.inl h4
  · exact Or.inr ⟨h4, n', m', s_W_mono h6, h7⟩
theorem p_same {α : Type} {K : Nat} {M : zM} {v : α} {cx : Option (α × zM)} {mx : zM → Option (α × zM)} (h : s_I K M) (h1 : cx = some (v, M)) (h2 : mx M = some (v, M)) : p_2 K cx mx := ⟨_, h1, _, h2, rfl, s_I_mono h⟩
theorem c_w (i a b : Int32) (M : zM) : f_X10_within i a b M = some (if ¬ i < a ∧ ¬ b < i then 1 else 0, M) := by
  unfold f_X10_within
  by_cases h1 : i < a
  · rw [if_pos h1, if_neg (fun q => q.1 h1)]
  · by_cases h2 : b < i
    · rw [if_neg h1, if_pos h2, if_neg (fun q => q.2 h2)]
    · rw [if_neg h1, if_neg h2, if_pos ⟨h1, h2⟩]
theorem m_w (i a b : Int32) (M : zM) : f_X11_isIn i a b M = some (if ¬ i < a ∧ ¬ b < i then 1 else 0, M) := by
  unfold f_X11_isIn
  by_cases h1 : i < a
  · rw [if_pos h1, if_neg (fun q => q.1 h1)]
  · by_cases h2 : b < i
    · rw [if_neg h1, if_pos h2, if_neg (fun q => q.2 h2)]
    · rw [if_neg h1, if_neg h2, if_pos ⟨h1, h2⟩]
theorem i_nat {i : Int32} {n : Nat} (hn : n < 2 ^ 31) (h1 : ¬ i < 0) (h2 : ¬ (nI n - 1) < i) : ∃ j, j < n ∧ i = nI j := by
  rw [Int32.lt_iff_toInt_lt] at h1 h2
  have h0 : (0 : Int32).toInt = 0 := rfl
  cases n with
  | zero =>
    have : (nI 0 - 1).toInt = -1 := by decide
    omega
  | succ k =>
    rw [nI_pred, nI_toInt (by omega)] at h2
    refine ⟨i.toInt.toNat, by omega, ?_⟩
    apply Int32.toInt_inj.mp
    rw [nI_toInt (by omega)]
    omega
theorem i_rng {j n : Nat} (h : j < n) (hn : n < 2 ^ 31) : ¬ nI j < 0 ∧ ¬ (nI n - 1) < nI j := by
  refine ⟨nI_pos (by omega), ?_⟩
  cases n with
  | zero => omega
  | succ k => rw [nI_pred]; exact nI_nlt (by omega) (by omega)
theorem i_num {i : Int32} {a b : Nat} (ha : a < 2 ^ 31) (hb : b < 2 ^ 31) (h : ¬ i < nI a ∧ ¬ nI b < i) : ∃ j, a ≤ j ∧ j ≤ b ∧ i = nI j := by
  obtain ⟨h1, h2⟩ := h
  rw [Int32.lt_iff_toInt_lt, nI_toInt hb] at h2
  rw [Int32.lt_iff_toInt_lt, nI_toInt ha] at h1
  refine ⟨i.toInt.toNat, by omega, by omega, ?_⟩
  apply Int32.toInt_inj.mp
  rw [nI_toInt (by omega)]
  omega
theorem i_inn {j : Nat} {a b : Int} (hj : j < 2 ^ 31) (h1 : a ≤ (j : Int)) (h2 : (j : Int) ≤ b) : i_in (nI j) a b := by
  unfold i_in
  rw [nI_toInt hj]
  exact ⟨h1, h2⟩
theorem b_nar (c : Prop) [Decidable c] : vp_nar .boolean (if c then (1 : Int32) else 0) = if c then 1 else 0 := by
  by_cases h : c
  · rw [if_pos h]; decide
  · rw [if_neg h]; decide
theorem c_isH (i : Int32) (M : zM) : f_X10_isHouse i M = some (if ¬ i < 0 ∧ ¬ (M.1 3 0 - 1) < i then 1 else 0, M) := by
  unfold f_X10_isHouse z_g
  rw [c_w, Option.bind_some]
  exact if_pos (b_nar _)
theorem c_isS (i : Int32) (M : zM) : f_X10_isStorm i M = some (if ¬ i < 0 ∧ ¬ (M.1 1 1 - 1) < i then 1 else 0, M) := by
  unfold f_X10_isStorm z_g
  rw [c_w, Option.bind_some]
  exact if_pos (b_nar _)
theorem m_isH (i : Int32) (M : zM) : f_X11_isHouse i M = some (if ¬ i < 0 ∧ ¬ (M.1 41 0 - 1) < i then 1 else 0, M) := by
  unfold f_X11_isHouse z_g
  rw [m_w, Option.bind_some]
  exact if_pos (b_nar _)
theorem m_isS (i : Int32) (M : zM) : f_X11_isStorm i M = some (if ¬ i < 0 ∧ ¬ (M.1 41 1 - 1) < i then 1 else 0, M) := by
  unfold f_X11_isStorm z_g
  rw [m_w, Option.bind_some]
  exact if_pos (b_nar _)
theorem c_ra6 {h : Nat} : z_ra 6 h = c_H 3 h := by unfold z_ra c_H; rw [if_pos (by decide)]
theorem c_ra9 {t : Nat} : z_ra 9 t = c_S 1 t := by unfold z_ra c_S; rw [if_neg (by decide), if_pos (by decide)]
/-- fault -/
theorem p_fault {K : Nat} {M : zM} {a : Int32} (h : s_I K M) : p_2 K (f_X10_fault a M) (f_X11_fault a) := by
  obtain ⟨e0, e1⟩ := h.2.2.2.1
  by_cases c0 : a = 0
  · refine p_same (v := M.1 30 0) h (by unfold f_X10_fault; rw [if_pos c0]) (by unfold f_X11_fault; rw [if_pos c0, e0])
  · by_cases c1 : a = 1
    · refine p_same (v := M.1 30 1) h (by unfold f_X10_fault; rw [if_neg c0, if_pos c1]) (by unfold f_X11_fault; rw [if_neg c0, if_pos c1, e1])
    · refine p_same (v := -1) h (by unfold f_X10_fault; rw [if_neg c0, if_neg c1]) (by unfold f_X11_fault; rw [if_neg c0, if_neg c1])
/-- cells that neither the image nor the street now has -/
theorem s_I_fr {K : Nat} {M N : zM} (h : s_I K M) (h1 : ∀ a, s_own 1 a → N.1 a = M.1 a) (h2 : ∀ a, s_own 2 a → N.1 a = M.1 a) (h41 : N.1 41 = M.1 41) (h42 : N.1 42 = M.1 42) (h0 : N.1 0 8 = M.1 0 8) (h40 : N.1 40 2 = M.1 40 2 ∧ N.1 40 33 = M.1 40 33) (hT : s_T N) (hF : N.1 30 0 = N.1 40 17 ∧ N.1 30 1 = N.1 40 19) : s_I (K + 1) N := by
  obtain ⟨⟨n, m, w1, c1⟩, ⟨h3, h4⟩, -, -, h6⟩ := s_I_mono h
  refine ⟨⟨n, m, by rw [h41]; exact w1, by rw [h41]; exact s_C_fr (Or.inl rfl) w1.1.2.1 w1.1.2.2.2 h1 c1⟩, ⟨by rw [h0, h40.1]; exact h3, ?_⟩, hT, hF, by rw [h40.2]; exact h6⟩
  rw [h0, h42]
  rcases h4 with h4 | ⟨h4, n', m', w2, c2⟩
  · exact Or.inl h4
  · exact Or.inr ⟨h4, n', m', w2, s_C_fr (Or.inr rfl) w2.1.2.1 w2.1.2.2.2 h2 c2⟩
theorem o_ne {s a b : Nat} (h : s_own s a) (hb : ¬ s_own s b) : a ≠ b := fun e => hb (e ▸ h)
/-- end -/
theorem p_end {K : Nat} {M : zM} {a : Int32} (h : s_I K M) : p_2 K (f_X10_end a M) (f_X11_end a) := by
  obtain ⟨k, k1, k2, k3, k4⟩ := h.2.2.1
  unfold f_X10_end
  rw [c_w, k2, Option.bind_some]
  by_cases c : ¬ a < 0 ∧ ¬ nI k < a
  · obtain ⟨j, -, hj, rfl⟩ := i_num (a := 0) (by decide) (by omega) c
    rw [if_pos c]
    refine ⟨_, rfl, ?_⟩
    dsimp only
    have e : (z_w M 28 0 (nI j)).1 40 10 = nI k := by rw [p_ne (by decide)]; exact k3
    unfold f_X11_end
    rw [m_w, e, Option.bind_some, if_pos c]
    refine ⟨_, rfl, rfl, ?_⟩
    refine s_I_fr h (fun a ha => ?_) (fun a ha => ?_) ?_ ?_ ?_ ?_ ?_ ?_
    · rw [p_nr (o_ne ha (by unfold s_own; omega)), p_nr (o_ne ha (by unfold s_own; omega))]
    · rw [p_nr (o_ne ha (by unfold s_own; omega)), p_nr (o_ne ha (by unfold s_own; omega))]
    · rw [p_nr (by decide), p_nr (by decide)]
    · rw [p_nr (by decide), p_nr (by decide)]
    · rw [p_ne (by decide), p_ne (by decide)]
    · rw [p_eq, p_eq, if_neg (by decide), if_neg (by decide), p_ne (by decide), p_ne (by decide)]; exact ⟨rfl, rfl⟩
    · refine ⟨j, by omega, by rw [p_ne (by decide), p_eq, if_pos rfl], by rw [p_eq, if_pos rfl], fun i hi => ?_⟩
      rw [p_ne (by decide), p_ne (by decide), p_ne (by decide), p_ne (by decide)]
      exact k4 i (by omega)
    · exact h.2.2.2.1
  · rw [if_neg c]
    refine ⟨_, rfl, ?_⟩
    dsimp only
    unfold f_X11_end
    rw [m_w, k3, Option.bind_some, if_neg c]
    exact ⟨_, rfl, rfl, s_I_mono h⟩
/-- a field of the house j is told, on both sides -/
theorem s_set {K : Nat} {M : zM} {n m j f : Nat} {v : Int32} (h : s_I K M) (hW : s_W K (M.1 41) n m) (hC : s_C 1 M (M.1 41) n m) (hj : j < n) (hf : f = 1 ∨ f = 2 ∨ f = 4 ∨ f = 5 ∨ f = 6 ∨ f = 7)
    (r1 : f = 1 → i_in v 0 9999) (r2 : f = 2 → i_in v 0 10) (r4 : f = 4 → v = -1 ∨ ∃ e, j < e ∧ e < n ∧ v = nI e) (r5 : f = 5 → i_in v 0 10) (r6 : f = 6 → i_in v 0 999) (r7 : f = 7 → i_in v 0 999) : s_I (K + 1) (z_w (z_w M (c_H 3 j) f v) 41 (20 + 16 * j + f) v) := by
  have hW1 := s_W_mono hW
  obtain ⟨⟨w0, w0', w1, w1'⟩, w2, ⟨c, c1, c2, c3⟩, w4, w5, w6⟩ := hW1
  have hH : ∀ g, c_H 3 g ≠ 41 := fun g => by unfold c_H; omega
  have e41 : ∀ b, (z_w (z_w M (c_H 3 j) f v) 41 (20 + 16 * j + f) v).1 41 b = if b = 20 + 16 * j + f then v else M.1 41 b := fun b => by rw [p_eq, p_ne (fun q => hH j q.symm)]
  have lo : ∀ b, b < 20 ∨ 180 ≤ b → (z_w (z_w M (c_H 3 j) f v) 41 (20 + 16 * j + f) v).1 41 b = M.1 41 b := fun b hb => by rw [e41, if_neg (by omega)]
  have hs : ∀ g q, q < 16 → (z_w (z_w M (c_H 3 j) f v) 41 (20 + 16 * j + f) v).1 41 (20 + 16 * g + q) = if g = j ∧ q = f then v else M.1 41 (20 + 16 * g + q) := fun g q hq => by
    rw [e41]
    by_cases z : g = j ∧ q = f
    · obtain ⟨rfl, rfl⟩ := z
      rw [if_pos rfl, if_pos ⟨rfl, rfl⟩]
    · rw [if_neg z, if_neg (by omega)]
  have ro : ∀ a, a ≠ 41 → a ≠ c_H 3 j → (z_w (z_w M (c_H 3 j) f v) 41 (20 + 16 * j + f) v).1 a = M.1 a := fun a a1 a2 => by rw [p_nr a1, p_nr a2]
  refine ⟨⟨n, m, ⟨⟨by rw [lo 0 (by omega)]; exact w0, w0', by rw [lo 1 (by omega)]; exact w1, w1'⟩, by rw [lo 2 (by omega), lo 3 (by omega), lo 6 (by omega)]; exact w2, ⟨c, c1, by rw [lo 5 (by omega)]; exact c2, fun g hg => by rw [hs g 9 (by omega), if_neg (by omega)]; exact c3 g hg⟩, fun g hg => ?_, fun g hg => ?_, fun t ht => ?_⟩, ?_⟩, ?_, ?_, ?_, ?_⟩
  · obtain ⟨a0, a1, a2, a3, a5, a6, a7, a8⟩ := w4 g hg
    have h0 := hs g 0 (by omega)
    rw [Nat.add_zero] at h0
    rw [h0, if_neg (by omega), hs g 1 (by omega), hs g 2 (by omega), hs g 3 (by omega), hs g 5 (by omega), hs g 6 (by omega), hs g 7 (by omega), hs g 8 (by omega)]
    refine ⟨a0, ?_, ?_, ?_, ?_, ?_, ?_, ?_⟩
    · by_cases z : g = j ∧ 1 = f
      · rw [if_pos z]; exact r1 z.2.symm
      · rw [if_neg z]; exact a1
    · by_cases z : g = j ∧ 2 = f
      · rw [if_pos z]; exact r2 z.2.symm
      · rw [if_neg z]; exact a2
    · rw [if_neg (by omega)]; exact a3
    · by_cases z : g = j ∧ 5 = f
      · rw [if_pos z]; exact r5 z.2.symm
      · rw [if_neg z]; exact a5
    · by_cases z : g = j ∧ 6 = f
      · rw [if_pos z]; exact r6 z.2.symm
      · rw [if_neg z]; exact a6
    · by_cases z : g = j ∧ 7 = f
      · rw [if_pos z]; exact r7 z.2.symm
      · rw [if_neg z]; exact a7
    · rw [if_neg (by omega)]; exact a8
  · show (z_w (z_w M (c_H 3 j) f v) 41 (20 + 16 * j + f) v).1 41 (20 + 16 * g + 4) = -1 ∨ ∃ e, g < e ∧ e < n ∧ (z_w (z_w M (c_H 3 j) f v) 41 (20 + 16 * j + f) v).1 41 (20 + 16 * g + 4) = nI e
    rw [hs g 4 (by omega)]
    by_cases z : g = j ∧ 4 = f
    · rw [if_pos z, z.1]; exact r4 z.2.symm
    · rw [if_neg z]; exact w5 g hg
  · refine ⟨?_, fun q hq => ?_⟩
    · rw [lo _ (by omega)]; exact (w6 t ht).1
    · rw [lo _ (by omega), lo _ (by omega)]; exact (w6 t ht).2 q hq
  · obtain ⟨d1, ⟨lh, lt, l1, l2, l3, l4, l5, l6⟩, d3, d4, d5⟩ := hC
    have hr : ∀ a, a ≠ 41 → (∀ g, a ≠ c_H 3 g) → (z_w (z_w M (c_H 3 j) f v) 41 (20 + 16 * j + f) v).1 a = M.1 a := fun a a1 a2 => ro a a1 (a2 j)
    refine ⟨?_, ⟨lh, lt, ?_, ?_, l3, l4, ?_, fun g t hg ht => ?_⟩, fun g hg q hq => ?_, fun t ht => ?_, ?_⟩
    · rw [lo 0 (by omega), lo 1 (by omega), lo 2 (by omega), lo 3 (by omega), lo 4 (by omega), lo 5 (by omega), lo 6 (by omega), lo 7 (by omega), hr (1 + 2) (by decide) (fun g => by unfold c_H; omega), hr 1 (by decide) (fun g => by unfold c_H; omega)]; exact d1
    · rw [hr 1 (by decide) (fun g => by unfold c_H; omega)]; exact l1
    · rw [hr 1 (by decide) (fun g => by unfold c_H; omega)]; exact l2
    · rw [lo 8 (by omega), lo 9 (by omega)]; exact l5
    · rw [ro (c_H (1 + 2) g + 2) (by unfold c_H; omega) (by unfold c_H; omega), ro (c_H (1 + 2) g + 3) (by unfold c_H; omega) (by unfold c_H; omega), ro (c_H (1 + 2) g + 4) (by unfold c_H; omega) (by unfold c_H; omega), lo _ (by omega), lo _ (by omega), lo _ (by omega)]; exact l6 g t hg ht
    · rw [hs g q (by omega), p_ne (hH g)]
      by_cases z : g = j ∧ q = f
      · rw [if_pos z, z.1, z.2, p_eq, if_pos rfl]
      · rw [if_neg z]
        by_cases y : g = j
        · subst y
          rw [p_eq, if_neg (fun e => z ⟨rfl, e⟩)]; exact d3 g hg q hq
        · rw [p_ne (by unfold c_H; omega)]; exact d3 g hg q hq
    · refine ⟨?_, fun q hq => ?_⟩
      · rw [lo _ (by omega), ro (c_S 1 t) (by unfold c_S; omega) (by unfold c_S c_H; omega)]; exact (d4 t ht).1
      · rw [lo _ (by omega), lo _ (by omega), ro (c_S 1 t + 1) (by unfold c_S; omega) (by unfold c_S c_H; omega), ro (c_S 1 t + 2) (by unfold c_S; omega) (by unfold c_S c_H; omega)]; exact (d4 t ht).2 q hq
    · obtain ⟨ln, k, st, ff, mm, tt, x1, x2, x3, x4, x5, x6, x7⟩ := d5
      rw [hr (1 + 12) (by decide) (fun g => by unfold c_H; omega), hr (1 + 15) (by decide) (fun g => by unfold c_H; omega), hr (1 + 18) (by decide) (fun g => by unfold c_H; omega), hr (1 + 21) (by decide) (fun g => by unfold c_H; omega)]
      exact ⟨ln, k, st, ff, mm, tt, x1, by rw [lo _ (by omega)]; exact x2, x3, x4, x5, fun i hi => by rw [lo _ (by omega), lo _ (by omega)]; exact x6 i hi, fun i hi => by rw [lo _ (by omega), lo _ (by omega), lo _ (by omega)]; exact x7 i hi⟩
  · obtain ⟨h3, h4⟩ := (s_I_mono h).2.1
    refine ⟨?_, ?_⟩
    · rw [ro 0 (by decide) (by unfold c_H; omega), ro 40 (by decide) (by unfold c_H; omega)]; exact h3
    · rw [ro 0 (by decide) (by unfold c_H; omega), ro 42 (by decide) (by unfold c_H; omega)]
      rcases h4 with h4 | ⟨h4, n', m', y1, y2⟩
      · exact Or.inl h4
      · exact Or.inr ⟨h4, n', m', y1, s_C_fr (Or.inr rfl) y1.1.2.1 y1.1.2.2.2 (fun a ha => ro a (o_ne ha (by unfold s_own; omega)) (o_ne ha (by unfold s_own c_H; omega))) y2⟩
  · obtain ⟨k, k1, k2, k3, k4⟩ := h.2.2.1
    refine ⟨k, k1, by rw [ro 28 (by decide) (by unfold c_H; omega)]; exact k2, by rw [ro 40 (by decide) (by unfold c_H; omega)]; exact k3, fun i hi => ?_⟩
    rw [ro 45 (by decide) (by unfold c_H; omega), ro 29 (by decide) (by unfold c_H; omega)]; exact k4 i hi
  · rw [ro 30 (by decide) (by unfold c_H; omega), ro 40 (by decide) (by unfold c_H; omega)]; exact h.2.2.2.1
  · rw [ro 40 (by decide) (by unfold c_H; omega)]; exact h.2.2.2.2
