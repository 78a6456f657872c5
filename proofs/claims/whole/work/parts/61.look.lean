theorem b_1z : ¬ (1 : Int32) = 0 := by decide
theorem c_wi {a b j : Nat} (M : zM) (ha : a < 2 ^ 31) (hb : b < 2 ^ 31) (hj : j < 2 ^ 31) : f_X10_within (nI j) (nI a) (nI b) M = some (if a ≤ j ∧ j ≤ b then 1 else 0, M) := by
  rw [c_w]
  by_cases h : a ≤ j ∧ j ≤ b
  · rw [if_pos h, if_pos ⟨nI_nlt h.1 hj, nI_nlt h.2 hb⟩]
  · rw [if_neg h, if_neg]
    intro q
    rw [Int32.lt_iff_toInt_lt, Int32.lt_iff_toInt_lt, nI_toInt ha, nI_toInt hb, nI_toInt hj] at q
    omega
theorem m_wi {a b j : Nat} (M : zM) (ha : a < 2 ^ 31) (hb : b < 2 ^ 31) (hj : j < 2 ^ 31) : f_X11_isIn (nI j) (nI a) (nI b) M = some (if a ≤ j ∧ j ≤ b then 1 else 0, M) := by
  rw [m_w]
  by_cases h : a ≤ j ∧ j ≤ b
  · rw [if_pos h, if_pos ⟨nI_nlt h.1 hj, nI_nlt h.2 hb⟩]
  · rw [if_neg h, if_neg]
    intro q
    rw [Int32.lt_iff_toInt_lt, Int32.lt_iff_toInt_lt, nI_toInt ha, nI_toInt hb, nI_toInt hj] at q
    omega
theorem i_d12 {q : Nat} (hq : q < 120) : (nI (100 + q) - 100) / 12 = nI (q / 12) ∧ nI (100 + q) - 100 - (nI (100 + q) - 100) / 12 * 12 = nI (q % 12) := by
  have : ∀ q : Fin 120, (nI (100 + q.1) - 100) / 12 = nI (q.1 / 12) ∧ nI (100 + q.1) - 100 - (nI (100 + q.1) - 100) / 12 * 12 = nI (q.1 % 12) := by decide
  exact this ⟨q, hq⟩
theorem i_s10 (j : Nat) : nI (10 + j) - 10 = nI j := by
  rw [← n_ad, show nI 10 = (10 : Int32) from rfl, Int32.add_comm, Int32.add_sub_cancel]
theorem b_10 (c : Prop) [Decidable c] : ((if c then (1 : Int32) else 0) = 0) ↔ ¬ c := by
  by_cases h : c
  · rw [if_pos h]; exact ⟨fun e => absurd e (by decide), fun e => absurd h e⟩
  · rw [if_neg h]; exact ⟨fun _ => h, fun _ => rfl⟩
theorem b_ne {j : Nat} {c : Nat} (hj : j < 2 ^ 31) (hc : c < 2 ^ 31) (h : j ≠ c) : ¬ nI j = nI c := fun e => h (n_inj hj hc e)
/-- a number told of the street, of which none is told -/
theorem c_t8 {a : Int32} {k : Nat} {M : zM} (h : ¬ (¬ a < 0 ∧ ¬ (8 : Int32) < a)) : f_X8_told k a M = some (-1, M) := by
  unfold f_X8_told
  iterate 9 (rw [if_neg (fun e => h (by rw [e]; decide))])
/-- the reference's look, past its first nine -/
theorem m_lo {a : Int32} {m : Nat} {M : zM} (hm : M.1 41 1 = nI m) (hm10 : m ≤ 10) (h : ¬ (¬ a < 0 ∧ ¬ (8 : Int32) < a)) : f_X11_look a M = ((f_X11_isIn a (10 : Int32) (nI (9 + m)) M).bind fun x10 =>
    if x10.1 = 0 then (
      (f_X11_isIn a (100 : Int32) (nI (99 + 12 * m)) M).bind fun x12 =>
      if x12.1 = 0 then some ((-1 : Int32), M)
      else (
        (f_X11_hoursOf ((a - (100 : Int32)) / (12 : Int32)) M).bind fun x14 =>
        if ((a - (100 : Int32)) - (a - (100 : Int32)) / (12 : Int32) * (12 : Int32)) < x14.1 then (
          z_l ((a - (100 : Int32)) / (12 : Int32)) fun v16 =>
          (f_X11_fallOf v16 ((a - (100 : Int32)) - (a - (100 : Int32)) / (12 : Int32) * (12 : Int32)) x14.2).bind fun x17 =>
          (f_X11_isSnow v16 ((a - (100 : Int32)) - (a - (100 : Int32)) / (12 : Int32) * (12 : Int32)) x17.2).bind fun x18 =>
          if x18.1 = 0 then some ((x17.1 + (0 : Int32)), x18.2)
          else some ((x17.1 + (100 : Int32)), x18.2))
        else some ((-1 : Int32), x14.2)))
    else (
      (f_X11_hoursOf (a - (10 : Int32)) M).bind fun x20 =>
      some (x20.1, x20.2))) := by
  have z1 : Int32.toNatClampNeg (1 : Int32) = 1 := rfl
  unfold f_X11_look
  iterate 9 (rw [if_neg (fun e => h (by rw [e]; decide))])
  rw [z1, hm, m_w, m_w, show (9 : Int32) + nI m = nI (9 + m) from n_ad 9 m, Option.bind_some, Option.bind_some]
  dsimp only
  rw [hm, show (99 : Int32) + (12 : Int32) * nI m = nI (99 + 12 * m) from by rw [show (12 : Int32) = nI 12 from rfl, n_mu]; exact n_ad 99 _, m_w, Option.bind_some, Option.bind_some]
/-- look -/
theorem p_look {K : Nat} {M : zM} {a : Int32} (h : s_I K M) : p_2 K (f_X10_look a M) (f_X11_look a) := by
  obtain ⟨n, m, hW, hC⟩ := h.1
  obtain ⟨hn, hm⟩ := c_cnt hW hC
  have hm10 := hW.1.2.2.2
  have hw1 := hW.1.2.2.1
  by_cases c0 : ¬ a < 0 ∧ ¬ (8 : Int32) < a
  · obtain ⟨j, -, hj, rfl⟩ := i_num (a := 0) (b := 8) (by decide) (by decide) c0
    obtain ⟨a0, a1, a2, a3, a4, a5, a6, a7⟩ := hC.1
    obtain ⟨ln, -, -, -, -, -, b1, b2, -⟩ := hC.2.2.2.2
    have e : f_X10_look (nI j) M = f_X8_told 1 (nI j) M := by
      unfold f_X10_look
      rw [show (10 : Int32) = nI 10 from rfl, show (19 : Int32) = nI 19 from rfl, c_wi M (by decide) (by decide) (by omega), if_neg (by omega), Option.bind_some, if_pos rfl, show (100 : Int32) = nI 100 from rfl, show (219 : Int32) = nI 219 from rfl]
      dsimp only
      rw [c_wi M (by decide) (by decide) (by omega), if_neg (by omega), Option.bind_some, if_pos rfl]
      dsimp only
      cases f_X8_told 1 (nI j) M <;> rfl
    rw [e]
    have : j = 0 ∨ j = 1 ∨ j = 2 ∨ j = 3 ∨ j = 4 ∨ j = 5 ∨ j = 6 ∨ j = 7 ∨ j = 8 := by omega
    rcases this with rfl | rfl | rfl | rfl | rfl | rfl | rfl | rfl | rfl
    · exact p_same (v := M.1 41 0) h (by rw [← a0]; rfl) rfl
    · exact p_same (v := M.1 41 1) h (by rw [← a1]; rfl) rfl
    · exact p_same (v := M.1 41 2) h (by rw [← a2]; rfl) rfl
    · exact p_same (v := M.1 41 3) h (by rw [← a3]; rfl) rfl
    · exact p_same (v := M.1 41 4) h (by rw [← a4]; rfl) rfl
    · exact p_same (v := M.1 41 5) h (by rw [← a5]; rfl) rfl
    · exact p_same (v := M.1 41 810) h (by rw [b2, ← b1]; rfl) rfl
    · exact p_same (v := M.1 41 6) h (by rw [← a6]; rfl) rfl
    · exact p_same (v := M.1 41 7) h (by rw [← a7]; rfl) rfl
  by_cases c1 : ¬ a < nI 10 ∧ ¬ nI 19 < a
  · obtain ⟨j', hj', hj, rfl⟩ := i_num (a := 10) (b := 19) (by decide) (by decide) c1
    obtain ⟨j, rfl⟩ : ∃ j, j' = 10 + j := ⟨j' - 10, by omega⟩
    unfold f_X10_look
    rw [show (10 : Int32) = nI 10 from rfl, show (19 : Int32) = nI 19 from rfl, c_wi M (by decide) (by decide) (by omega), if_pos (by omega), Option.bind_some, if_neg b_1z]
    unfold z_l
    rw [show nI (10 + j) - nI 10 = nI j from i_s10 j]
    dsimp only
    rw [c_isS, hm, Option.bind_some]
    by_cases d : ¬ nI j < 0 ∧ ¬ (nI m - 1) < nI j
    · have hjm : j < m := by
        obtain ⟨q, hq, e⟩ := i_nat (by omega) d.1 d.2
        have := n_inj (by omega) (by omega) e
        omega
      rw [if_pos d]
      dsimp only
      unfold z_g
      rw [if_neg b_1z, if_pos (p_ix (show j < 10 by omega) (by decide)), p_cl (by omega), c_ra9]
      refine p_same h rfl ?_
      rw [m_lo hw1 hm10 c0, show (10 : Int32) = nI 10 from rfl, m_wi M (by decide) (by omega) (by omega), if_pos (by omega), Option.bind_some, if_neg b_1z, show nI (10 + j) - nI 10 = nI j from i_s10 j, m_hours (by omega), Option.bind_some, (hC.2.2.2.1 j hjm).1]
    · have hjm : ¬ j < m := fun q => d (i_rng q (by omega))
      rw [if_neg d]
      refine p_same (v := -1) h rfl ?_
      rw [m_lo hw1 hm10 c0, show (10 : Int32) = nI 10 from rfl, m_wi M (by decide) (by omega) (by omega), if_neg (by omega), Option.bind_some, if_pos rfl, show (100 : Int32) = nI 100 from rfl, m_wi M (by decide) (by omega) (by omega), if_neg (by omega), Option.bind_some, if_pos rfl]
  by_cases c2 : ¬ a < nI 100 ∧ ¬ nI 219 < a
  · obtain ⟨j', hj', hj, rfl⟩ := i_num (a := 100) (b := 219) (by decide) (by decide) c2
    obtain ⟨q, rfl⟩ : ∃ j, j' = 100 + j := ⟨j' - 100, by omega⟩
    obtain ⟨d1, d2⟩ := i_d12 (q := q) (by omega)
    unfold f_X10_look
    rw [show (10 : Int32) = nI 10 from rfl, show (19 : Int32) = nI 19 from rfl, c_wi M (by decide) (by decide) (by omega), if_neg (by omega), Option.bind_some, if_pos rfl, d2, d1, show (100 : Int32) = nI 100 from rfl, show (219 : Int32) = nI 219 from rfl]
    dsimp only
    rw [c_wi M (by decide) (by decide) (by omega), if_pos (by omega), Option.bind_some, if_neg b_1z]
    unfold z_l
    dsimp only
    rw [c_isS, hm, Option.bind_some]
    have hr : f_X11_look (nI (100 + q)) M = if q / 12 < m then (if nI (q % 12) < M.1 41 (180 + 26 * (q / 12)) then some (if M.1 41 (193 + 26 * (q / 12) + q % 12) = 1 then M.1 41 (181 + 26 * (q / 12) + q % 12) + 100 else M.1 41 (181 + 26 * (q / 12) + q % 12), M) else some (-1, M)) else some (-1, M) := by
      rw [m_lo hw1 hm10 c0, d2, d1, show (10 : Int32) = nI 10 from rfl, m_wi M (by decide) (by omega) (by omega), if_neg (by omega), Option.bind_some, if_pos rfl, show (100 : Int32) = nI 100 from rfl, m_wi M (by decide) (by omega) (by omega), Option.bind_some]
      by_cases z : q / 12 < m
      · rw [if_pos (show 100 ≤ 100 + q ∧ 100 + q ≤ 99 + 12 * m by omega), if_pos z, if_neg b_1z, m_hours (by omega), Option.bind_some]
        dsimp only
        by_cases y : nI (q % 12) < M.1 41 (180 + 26 * (q / 12))
        · rw [if_pos y, if_pos y]
          unfold z_l
          dsimp only
          rw [m_fall (by omega) (by omega), Option.bind_some]
          dsimp only
          rw [m_snow (by omega) (by omega), Option.bind_some]
          by_cases x : M.1 41 (193 + 26 * (q / 12) + q % 12) = 1
          · rw [if_pos x, if_pos x]; rfl
          · rw [if_neg x, if_neg x, if_pos rfl]
            dsimp only
            rw [i_add0]
        · rw [if_neg y, if_neg y]
      · rw [if_neg (show ¬ (100 ≤ 100 + q ∧ 100 + q ≤ 99 + 12 * m) by omega), if_neg z, if_pos rfl]
    by_cases d : ¬ nI (q / 12) < 0 ∧ ¬ (nI m - 1) < nI (q / 12)
    · have hjm : q / 12 < m := by
        obtain ⟨x, hx, e⟩ := i_nat (by omega) d.1 d.2
        have := n_inj (by omega) (by omega) e
        omega
      obtain ⟨s1, s2⟩ := hC.2.2.2.1 _ hjm
      obtain ⟨⟨T, t1, t2, t3⟩, t4⟩ := hW.2.2.2.2.2 _ hjm
      obtain ⟨u1, u2⟩ := s2 (q % 12) (by omega)
      rw [if_pos hjm] at hr
      rw [if_pos d]
      dsimp only
      unfold z_g
      rw [if_neg b_1z, if_pos (p_ix (show q / 12 < 10 by omega) (by decide)), p_cl (by omega), c_ra9]
      unfold f_X7_told
      rw [c_w, s1, t3, Option.bind_some]
      by_cases y : q % 12 < T
      · rw [t3, if_pos (nI_lt y (by omega))] at hr
        rw [if_pos (i_rng y (by omega))]
        dsimp only
        unfold z_g
        rw [if_neg b_1z, if_pos (p_ix (show q % 12 < 12 by omega) (by decide))]
        have ecl : Int32.toNatClampNeg (nI (q % 12)) = q % 12 := p_cl (by omega)
        rcases (t4 (q % 12) (by omega)).2 with x | x
        · rw [x, if_neg (by decide)] at hr
          rw [if_pos (by rw [ecl, u2, x]), if_pos (p_ix (show q % 12 < 12 by omega) (by decide)), ecl, u1]
          exact p_same h rfl hr
        · rw [x, if_pos rfl] at hr
          rw [if_neg (by rw [ecl, u2, x]; exact b_1z), if_pos (p_ix (show q % 12 < 12 by omega) (by decide)), ecl, u1]
          exact p_same h rfl (by rw [hr, Int32.add_comm])
      · rw [t3, if_neg (nI_nlt (by omega) (by omega))] at hr
        rw [if_neg (show ¬ (¬ nI (q % 12) < 0 ∧ ¬ (nI T - 1) < nI (q % 12)) from fun z => y (by
          obtain ⟨x, hx, e⟩ := i_nat (by omega) z.1 z.2
          have := n_inj (by omega) (by omega) e
          omega))]
        exact p_same h rfl hr
    · rw [if_neg (fun q => d (i_rng q (by omega)))] at hr
      rw [if_neg d]
      exact p_same h rfl hr
  · have e : f_X10_look a M = f_X8_told 1 a M := by
      unfold f_X10_look
      rw [show (10 : Int32) = nI 10 from rfl, show (19 : Int32) = nI 19 from rfl, c_w, if_neg c1, Option.bind_some, if_pos rfl, show (100 : Int32) = nI 100 from rfl, show (219 : Int32) = nI 219 from rfl]
      dsimp only
      rw [c_w, if_neg c2, Option.bind_some, if_pos rfl]
      dsimp only
      cases f_X8_told 1 a M <;> rfl
    rw [e, c_t8 c0]
    refine p_same h rfl ?_
    rw [m_lo hw1 hm10 c0, show (10 : Int32) = nI 10 from rfl, m_w, if_neg, Option.bind_some, if_pos rfl, show (100 : Int32) = nI 100 from rfl, m_w, if_neg, Option.bind_some, if_pos rfl]
    · intro z
      refine c2 ⟨z.1, fun y => z.2 ?_⟩
      rw [Int32.lt_iff_toInt_lt, nI_toInt (by omega)] at y ⊢
      omega
    · intro z
      refine c1 ⟨z.1, fun y => z.2 ?_⟩
      rw [Int32.lt_iff_toInt_lt, nI_toInt (by omega)] at y ⊢
      omega
