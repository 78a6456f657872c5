theorem c_told {k : Nat} {i : Int32} {M : zM} : f_X2_told k i M = some (if ¬ i < 0 ∧ ¬ (13 : Int32) < i then M.1 k (Int32.toNatClampNeg i) else (-1000000000 : Int32), M) := by
  by_cases c : ¬ i < 0 ∧ ¬ (13 : Int32) < i
  · rw [if_pos c]
    obtain ⟨j, -, hj, rfl⟩ := i_num (a := 0) (b := 13) (by decide) (by decide) c
    have : j = 0 ∨ j = 1 ∨ j = 2 ∨ j = 3 ∨ j = 4 ∨ j = 5 ∨ j = 6 ∨ j = 7 ∨ j = 8 ∨ j = 9 ∨ j = 10 ∨ j = 11 ∨ j = 12 ∨ j = 13 := by omega
    rcases this with rfl | rfl | rfl | rfl | rfl | rfl | rfl | rfl | rfl | rfl | rfl | rfl | rfl | rfl <;> rfl
  · rw [if_neg c]
    unfold f_X2_told
    iterate 14 (rw [if_neg (fun e => c (by rw [e]; decide))])
/-- of -/
theorem p_of {K : Nat} {M : zM} {a b : Int32} (h : s_I K M) : p_2 K (f_X10_of a b M) (f_X11_of a b) := by
  obtain ⟨n, m, hW, hC⟩ := h.1
  obtain ⟨hn, hm⟩ := c_cnt hW hC
  have hn10 := hW.1.2.1
  have hw0 := hW.1.1
  unfold f_X10_of
  rw [c_isH, hn, Option.bind_some]
  by_cases c : ¬ a < 0 ∧ ¬ (nI n - 1) < a
  · obtain ⟨j, hj, rfl⟩ := i_nat (by omega) c.1 c.2
    have ecl : Int32.toNatClampNeg (nI j) = j := p_cl (by omega)
    rw [if_pos c]
    dsimp only
    unfold z_g
    rw [if_neg (by decide), if_pos (p_ix (show j < 10 by omega) (by decide)), ecl, c_ra6, c_told, Option.bind_some]
    refine p_same h rfl ?_
    unfold f_X11_of
    rw [m_isH, hw0, Option.bind_some, if_pos c]
    dsimp only
    rw [if_neg (by decide), m_w, Option.bind_some]
    by_cases d : ¬ b < 0 ∧ ¬ (13 : Int32) < b
    · obtain ⟨q, -, hq, rfl⟩ := i_num (a := 0) (b := 13) (by decide) (by decide) d
      rw [if_pos d, if_pos d]
      dsimp only
      rw [if_neg (by decide), m_own (by omega) (by omega), Option.bind_some, p_cl (by omega), hC.2.2.1 j hj q (by omega)]
    · rw [if_neg d, if_neg d]
      rfl
  · rw [if_neg c]
    refine p_same h rfl ?_
    unfold f_X11_of
    rw [m_isH, hw0, Option.bind_some, if_neg c]
    rfl
/-- hour -/
theorem p_hour {K : Nat} {M : zM} {a b d : Int32} (h : s_I K M) : p_2 K (f_X10_hour a b d M) (f_X11_hour a b d) := by
  obtain ⟨n, m, hW, hC⟩ := h.1
  have hn10 := hW.1.2.1
  obtain ⟨lh, lt, l1, l2, l3, l4, l5, l6⟩ := hC.2.1
  unfold f_X10_hour
  rw [c_w, l1, Option.bind_some]
  have zz : Int32.toNatClampNeg (8 : Int32) = 8 ∧ Int32.toNatClampNeg (9 : Int32) = 9 := ⟨rfl, rfl⟩
  by_cases ch : ¬ b < 0 ∧ ¬ (nI lt - 1) < b
  · obtain ⟨t, ht, rfl⟩ := i_nat (by omega) ch.1 ch.2
    have l5 : M.1 41 8 = nI lt ∧ M.1 41 9 = nI lh := by
      rcases l5 with l5 | l5
      · omega
      · exact l5
    by_cases c : ¬ a < 0 ∧ ¬ (nI lh - 1) < a
    · obtain ⟨j, hj, rfl⟩ := i_nat (by omega) c.1 c.2
      rw [if_pos c]
      dsimp only
      rw [if_neg (by decide), c_w, l2, Option.bind_some, if_pos ch]
      dsimp only
      unfold z_g
      rw [if_neg (by decide), if_pos (p_ix (show j < 10 by omega) (by decide)), p_cl (show j < 2 ^ 31 by omega), c_ra6]
      have hm : ∀ q, q < 3 → f_X11_hour (nI j) (nI t) (nI q) M = some (M.1 41 (440 + 3 * (12 * j + t) + q), M) := fun q hq => by
        unfold f_X11_hour
        rw [m_w, zz.1, l5.1, Option.bind_some, if_pos ch]
        dsimp only
        rw [if_neg (by decide), m_w, zz.2, l5.2, Option.bind_some, if_pos c]
        dsimp only
        rw [if_neg (by decide), m_w, Option.bind_some, if_pos (show ¬ nI q < 0 ∧ ¬ (2 : Int32) < nI q from ⟨nI_pos (by omega), nI_nlt (a := 2) (by omega) (by omega)⟩)]
        dsimp only
        rw [if_neg (by decide)]
        unfold z_l z_g
        rw [show (440 : Int32) = nI 440 from rfl, show (3 : Int32) = nI 3 from rfl, show (12 : Int32) = nI 12 from rfl, n_mu, n_ad, n_mu, n_ad, n_ad]
        dsimp only
        rw [if_pos (p_ix (by omega) (by decide)), p_cl (by omega)]
      have hc : ∀ q, q < 3 → f_X2_toldOf (c_H 3 j) (nI t) (nI q) M = some (M.1 41 (440 + 3 * (12 * j + t) + q), M) := fun q hq => by
        obtain ⟨x0, x1, x2⟩ := l6 j t hj ht
        unfold f_X2_toldOf z_g
        have : q = 0 ∨ q = 1 ∨ q = 2 := by omega
        rcases this with rfl | rfl | rfl
        · rw [if_pos (show nI 0 = 0 from rfl), if_pos (p_ix (by omega) (by decide)), p_cl (by omega), x0]; rfl
        · rw [if_neg (show ¬ nI 1 = 0 by decide), if_pos (show nI 1 = 1 from rfl), if_pos (p_ix (by omega) (by decide)), p_cl (by omega), x1]
        · rw [if_neg (show ¬ nI 2 = 0 by decide), if_neg (show ¬ nI 2 = 1 by decide), if_pos (show nI 2 = 2 from rfl), if_pos (p_ix (by omega) (by decide)), p_cl (by omega), x2]
      by_cases cd : ¬ d < 0 ∧ ¬ (2 : Int32) < d
      · obtain ⟨q, -, hq, rfl⟩ := i_num (a := 0) (b := 2) (by decide) (by decide) cd
        rw [hc q (by omega), Option.bind_some]
        exact p_same h rfl (hm q (by omega))
      · have : f_X2_toldOf (c_H 3 j) (nI t) d M = some (-1, M) := by
          unfold f_X2_toldOf
          iterate 3 (rw [if_neg (fun e => cd (by rw [e]; decide))])
        rw [this, Option.bind_some]
        refine p_same h rfl ?_
        unfold f_X11_hour
        rw [m_w, zz.1, l5.1, Option.bind_some, if_pos ch]
        dsimp only
        rw [if_neg (by decide), m_w, zz.2, l5.2, Option.bind_some, if_pos c]
        dsimp only
        rw [if_neg (by decide), m_w, Option.bind_some, if_neg cd]
        rfl
    · rw [if_neg c]
      refine p_same (v := -1) h rfl ?_
      unfold f_X11_hour
      rw [m_w, zz.1, l5.1, Option.bind_some, if_pos ch]
      dsimp only
      rw [if_neg (by decide), m_w, zz.2, l5.2, Option.bind_some, if_neg c]
      rfl
  · refine p_same (v := -1) h ?_ ?_
    · by_cases c : ¬ a < 0 ∧ ¬ (nI lh - 1) < a
      · rw [if_pos c]
        dsimp only
        rw [if_neg (by decide), c_w, l2, Option.bind_some, if_neg ch]
        rfl
      · rw [if_neg c]
        rfl
    · unfold f_X11_hour
      rw [m_w, zz.1, Option.bind_some, if_neg (show ¬ (¬ b < 0 ∧ ¬ (M.1 41 8 - 1) < b) from ?_)]
      · rfl
      · rcases l5 with ⟨e1, e2⟩ | ⟨e1, -⟩
        · rw [e2]
          intro q
          obtain ⟨q1, q2⟩ := q
          rw [Int32.lt_iff_toInt_lt] at q1 q2
          have e3 : (0 : Int32).toInt = 0 := rfl
          have e4 : ((-1 : Int32) - 1).toInt = -2 := by decide
          omega
        · rw [e1]; exact ch
