theorem s_I_now {K : Nat} {M N : zM} {n m : Nat} (h : s_I K M) (hW : s_W (K + 1) (N.1 41) n m) (hC : s_C 1 N (N.1 41) n m) (ho : ∀ a, (s_own 2 a ∨ a = 42 ∨ a = 0 ∨ a = 28 ∨ a = 29 ∨ a = 45 ∨ a = 30) → N.1 a = M.1 a) (h40 : ∀ j, (j = 2 ∨ j = 10 ∨ j = 17 ∨ j = 19 ∨ j = 33) → N.1 40 j = M.1 40 j) : s_I (K + 1) N := by
  obtain ⟨-, ⟨h3, h4⟩, ⟨k, k1, k2, k3, k4⟩, h5, h6⟩ := s_I_mono h
  have e0 := ho 0 (by omega)
  have e42 := ho 42 (by omega)
  refine ⟨⟨n, m, hW, hC⟩, ⟨by rw [e0, h40 2 (by omega)]; exact h3, ?_⟩, ⟨k, k1, by rw [ho 28 (by omega)]; exact k2, by rw [h40 10 (by omega)]; exact k3, fun i hi => by rw [ho 45 (by omega), ho 29 (by omega)]; exact k4 i hi⟩, by rw [ho 30 (by omega), h40 17 (by omega), h40 19 (by omega)]; exact h5, by rw [h40 33 (by omega)]; exact h6⟩
  rw [e0, e42]
  rcases h4 with h4 | ⟨h4, n', m', y1, y2⟩
  · exact Or.inl h4
  · exact Or.inr ⟨h4, n', m', y1, s_C_fr (Or.inr rfl) y1.1.2.1 y1.1.2.2.2 (fun a ha => ho a (Or.inl ha)) y2⟩
theorem c_cnt {M : zM} {w : Nat → Int32} {n m : Nat} {K : Nat} (hW : s_W K w n m) (hC : s_C 1 M w n m) : M.1 3 0 = nI n ∧ M.1 1 1 = nI m := ⟨hC.1.1.trans hW.1.1, hC.1.2.1.trans hW.1.2.2.1⟩
/-- next -/
theorem p_next {K : Nat} {M : zM} {a b : Int32} (h : s_I K M) : p_2 K (f_X10_next a b M) (f_X11_next a b) := by
  obtain ⟨n, m, hW, hC⟩ := h.1
  obtain ⟨hn, hm⟩ := c_cnt hW hC
  have hn10 := hW.1.2.1
  have hw0 := hW.1.1
  by_cases c : ¬ a < 0 ∧ ¬ (nI n - 1) < a
  · obtain ⟨j, hj, rfl⟩ := i_nat (by omega) c.1 c.2
    have g10 := p_ix (show j < 10 by omega) (show 10 < 2 ^ 31 by decide)
    have ecl : Int32.toNatClampNeg (nI j) = j := p_cl (by omega)
    by_cases d : b = -1
    · subst d
      refine ⟨(1, z_w M (c_H 3 j) 4 (-1)), ?_, (1, z_w (z_w M (c_H 3 j) 4 (-1)) 41 (20 + 16 * j + 4) (-1)), ?_, rfl, ?_⟩
      · unfold f_X10_next z_g z_l
        rw [c_isH, hn, Option.bind_some, if_pos c]
        dsimp only
        rw [if_neg (by decide), if_pos rfl, if_pos g10, ecl, c_ra6]
      · unfold f_X11_next
        have e : (z_w M (c_H 3 j) 4 (-1)).1 41 0 = nI n := by rw [p_ne (by unfold c_H; omega)]; exact hw0
        dsimp only
        rw [m_isH, e, Option.bind_some, if_pos c]
        dsimp only
        rw [if_neg (by decide), if_pos rfl, show (4 : Int32) = nI 4 from rfl, m_gives (by omega) (by omega), Option.bind_some]
      · exact s_set h hW hC hj (by omega) (fun q => by omega) (fun q => by omega) (fun _ => Or.inl rfl) (fun q => by omega) (fun q => by omega) (fun q => by omega)
    · by_cases f : ¬ b < nI j + 1 ∧ ¬ (nI n - 1) < b
      · have f2 : ¬ b ≤ nI j ∧ (¬ b < 0 ∧ ¬ (nI n - 1) < b) := by
          refine ⟨fun q => f.1 ?_, fun q => f.1 ?_, f.2⟩
          · rw [p_s1, Int32.lt_iff_toInt_lt, nI_toInt (by omega)]
            rw [Int32.le_iff_toInt_le, nI_toInt (by omega)] at q
            omega
          · rw [p_s1, Int32.lt_iff_toInt_lt, nI_toInt (by omega)]
            rw [Int32.lt_iff_toInt_lt] at q
            have : (0 : Int32).toInt = 0 := rfl
            omega
        obtain ⟨e, he, rfl⟩ := i_nat (by omega) f2.2.1 f2.2.2
        have hje : j < e := by
          rcases Nat.lt_or_ge j e with q | q
          · exact q
          · exact absurd (nI_le q (by omega)) f2.1
        refine ⟨(1, z_w M (c_H 3 j) 4 (nI e)), ?_, (1, z_w (z_w M (c_H 3 j) 4 (nI e)) 41 (20 + 16 * j + 4) (nI e)), ?_, rfl, ?_⟩
        · unfold f_X10_next z_g z_l
          rw [c_isH, hn, Option.bind_some, if_pos c]
          dsimp only
          rw [if_neg (by decide), if_neg d, if_neg f2.1, c_isH, hn, Option.bind_some, if_pos f2.2]
          dsimp only
          rw [if_neg (by decide), if_pos g10, ecl, c_ra6]
        · unfold f_X11_next
          have e0 : (z_w M (c_H 3 j) 4 (nI e)).1 41 0 = nI n := by rw [p_ne (by unfold c_H; omega)]; exact hw0
          dsimp only
          rw [m_isH, e0, Option.bind_some, if_pos c]
          dsimp only
          rw [if_neg (by decide), if_neg d, m_w, show Int32.toNatClampNeg (0 : Int32) = 0 from rfl, e0, Option.bind_some, if_pos f]
          dsimp only
          rw [if_neg (by decide), show (4 : Int32) = nI 4 from rfl, m_gives (by omega) (by omega), Option.bind_some]
        · exact s_set h hW hC hj (by omega) (fun q => by omega) (fun q => by omega) (fun _ => Or.inr ⟨e, hje, he, rfl⟩) (fun q => by omega) (fun q => by omega) (fun q => by omega)
      · refine p_same (v := 0) h ?_ ?_
        · unfold f_X10_next
          rw [c_isH, hn, Option.bind_some, if_pos c]
          dsimp only
          rw [if_neg (by decide), if_neg d]
          by_cases f2 : b ≤ nI j
          · rw [if_pos f2]
          · rw [if_neg f2, c_isH, hn, Option.bind_some, if_neg (show ¬ (¬ b < 0 ∧ ¬ (nI n - 1) < b) from fun q => f ⟨fun z => f2 (by
              rw [p_s1, Int32.lt_iff_toInt_lt, nI_toInt (by omega)] at z
              rw [Int32.le_iff_toInt_le, nI_toInt (by omega)]
              omega), q.2⟩)]
            rfl
        · unfold f_X11_next
          rw [m_isH, hw0, Option.bind_some, if_pos c]
          dsimp only
          rw [if_neg (by decide), if_neg d, m_w, show Int32.toNatClampNeg (0 : Int32) = 0 from rfl, hw0, Option.bind_some, if_neg f]
          rfl
  · refine p_same (v := 0) h ?_ ?_
    · unfold f_X10_next
      rw [c_isH, hn, Option.bind_some, if_neg c]; rfl
    · unfold f_X11_next
      rw [m_isH, hw0, Option.bind_some, if_neg c]; rfl
theorem c_ch0 {k : Nat} {v : Int32} {M : zM} : f_X2_change k 0 v M = some (if ¬ v < 0 ∧ ¬ (10 : Int32) < v then (1, z_w M k 5 v) else (0, M)) := by
  have hm : f_X2_mostOf 0 M = some (10, M) := by unfold f_X2_mostOf; rw [if_pos rfl]
  unfold f_X2_change z_l
  rw [hm, Option.bind_some]
  dsimp only
  rw [c_w, Option.bind_some]
  by_cases c : ¬ v < 0 ∧ ¬ (10 : Int32) < v
  · rw [if_pos c, if_pos c]
    dsimp only
    rw [if_neg (by decide), if_pos rfl]
  · rw [if_neg c, if_neg c]; rfl
theorem m_te0 {n j : Nat} {v : Int32} {M : zM} (hn : M.1 41 0 = nI n) (hn10 : n ≤ 10) (hj : j < n) : f_X11_tell (nI j) 0 v M = some (if ¬ v < 0 ∧ ¬ (10 : Int32) < v then (1, z_w M 41 (20 + 16 * j + 5) v) else (0, M)) := by
  unfold f_X11_tell
  rw [if_neg (by decide)]
  unfold f_X11_tell_24
  rw [if_neg (by decide)]
  unfold f_X11_tell_50
  rw [m_isH, hn, Option.bind_some, if_pos (i_rng hj (by omega))]
  dsimp only
  rw [if_neg (by decide), m_w, Option.bind_some, show (if ¬ (0 : Int32) < 0 ∧ ¬ (4 : Int32) < 0 then (1 : Int32) else 0) = 1 from by decide]
  dsimp only
  rw [if_neg (by decide), if_pos rfl]
  unfold f_X11_tell_97
  rw [m_w, Option.bind_some]
  by_cases c : ¬ v < 0 ∧ ¬ (10 : Int32) < v
  · rw [if_pos c, if_pos c]
    dsimp only
    rw [if_neg (by decide), if_pos rfl, show (5 : Int32) = nI 5 from rfl, m_gives (by omega) (by omega), Option.bind_some]
  · rw [if_neg c, if_neg c]; rfl
theorem c_ch1 {k : Nat} {v : Int32} {M : zM} : f_X2_change k 1 v M = some (if ¬ v < 0 ∧ ¬ (9999 : Int32) < v then (1, z_w M k 1 v) else (0, M)) := by
  have hm : f_X2_mostOf 1 M = some (9999, M) := by unfold f_X2_mostOf; rw [if_neg (by decide : ¬ (1 : Int32) = 0), if_pos rfl]
  unfold f_X2_change z_l
  rw [hm, Option.bind_some]
  dsimp only
  rw [c_w, Option.bind_some]
  by_cases c : ¬ v < 0 ∧ ¬ (9999 : Int32) < v
  · rw [if_pos c, if_pos c]
    dsimp only
    rw [if_neg (by decide), if_neg (by decide : ¬ (1 : Int32) = 0), if_pos rfl]
  · rw [if_neg c, if_neg c]; rfl
theorem m_te1 {n j : Nat} {v : Int32} {M : zM} (hn : M.1 41 0 = nI n) (hn10 : n ≤ 10) (hj : j < n) : f_X11_tell (nI j) 1 v M = some (if ¬ v < 0 ∧ ¬ (9999 : Int32) < v then (1, z_w M 41 (20 + 16 * j + 1) v) else (0, M)) := by
  unfold f_X11_tell
  rw [if_neg (by decide)]
  unfold f_X11_tell_24
  rw [if_neg (by decide)]
  unfold f_X11_tell_50
  rw [m_isH, hn, Option.bind_some, if_pos (i_rng hj (by omega))]
  dsimp only
  rw [if_neg (by decide), m_w, Option.bind_some, show (if ¬ (1 : Int32) < 0 ∧ ¬ (4 : Int32) < 1 then (1 : Int32) else 0) = 1 from by decide]
  dsimp only
  rw [if_neg (by decide), if_neg (by decide : ¬ (1 : Int32) = 0), if_neg (by decide : ¬ (1 : Int32) = 2), if_pos rfl]
  unfold f_X11_tell_97
  rw [m_w, Option.bind_some]
  by_cases c : ¬ v < 0 ∧ ¬ (9999 : Int32) < v
  · rw [if_pos c, if_pos c]
    dsimp only
    rw [if_neg (by decide), if_neg (by decide : ¬ (1 : Int32) = 0), if_pos rfl, show (1 : Int32) = nI 1 from rfl, m_gives (by omega) (by omega), Option.bind_some]
  · rw [if_neg c, if_neg c]; rfl
theorem c_ch2 {k : Nat} {v : Int32} {M : zM} : f_X2_change k 2 v M = some (if ¬ v < 0 ∧ ¬ (10 : Int32) < v then (1, z_w M k 2 v) else (0, M)) := by
  have hm : f_X2_mostOf 2 M = some (10, M) := by unfold f_X2_mostOf; rw [if_neg (by decide : ¬ (2 : Int32) = 0), if_neg (by decide : ¬ (2 : Int32) = 1), if_pos rfl]
  unfold f_X2_change z_l
  rw [hm, Option.bind_some]
  dsimp only
  rw [c_w, Option.bind_some]
  by_cases c : ¬ v < 0 ∧ ¬ (10 : Int32) < v
  · rw [if_pos c, if_pos c]
    dsimp only
    rw [if_neg (by decide), if_neg (by decide : ¬ (2 : Int32) = 0), if_neg (by decide : ¬ (2 : Int32) = 1), if_pos rfl]
  · rw [if_neg c, if_neg c]; rfl
theorem m_te2 {n j : Nat} {v : Int32} {M : zM} (hn : M.1 41 0 = nI n) (hn10 : n ≤ 10) (hj : j < n) : f_X11_tell (nI j) 2 v M = some (if ¬ v < 0 ∧ ¬ (10 : Int32) < v then (1, z_w M 41 (20 + 16 * j + 2) v) else (0, M)) := by
  unfold f_X11_tell
  rw [if_neg (by decide)]
  unfold f_X11_tell_24
  rw [if_neg (by decide)]
  unfold f_X11_tell_50
  rw [m_isH, hn, Option.bind_some, if_pos (i_rng hj (by omega))]
  dsimp only
  rw [if_neg (by decide), m_w, Option.bind_some, show (if ¬ (2 : Int32) < 0 ∧ ¬ (4 : Int32) < 2 then (1 : Int32) else 0) = 1 from by decide]
  dsimp only
  rw [if_neg (by decide), if_neg (by decide : ¬ (2 : Int32) = 0), if_pos rfl]
  unfold f_X11_tell_97
  rw [m_w, Option.bind_some]
  by_cases c : ¬ v < 0 ∧ ¬ (10 : Int32) < v
  · rw [if_pos c, if_pos c]
    dsimp only
    rw [if_neg (by decide), if_neg (by decide : ¬ (2 : Int32) = 0), if_neg (by decide : ¬ (2 : Int32) = 1), if_pos rfl, show (2 : Int32) = nI 2 from rfl, m_gives (by omega) (by omega), Option.bind_some]
  · rw [if_neg c, if_neg c]; rfl
theorem c_ch3 {k : Nat} {v : Int32} {M : zM} : f_X2_change k 3 v M = some (if ¬ v < 0 ∧ ¬ (999 : Int32) < v then (1, z_w M k 6 v) else (0, M)) := by
  have hm : f_X2_mostOf 3 M = some (999, M) := by unfold f_X2_mostOf; rw [if_neg (by decide : ¬ (3 : Int32) = 0), if_neg (by decide : ¬ (3 : Int32) = 1), if_neg (by decide : ¬ (3 : Int32) = 2), if_pos rfl]
  unfold f_X2_change z_l
  rw [hm, Option.bind_some]
  dsimp only
  rw [c_w, Option.bind_some]
  by_cases c : ¬ v < 0 ∧ ¬ (999 : Int32) < v
  · rw [if_pos c, if_pos c]
    dsimp only
    rw [if_neg (by decide), if_neg (by decide : ¬ (3 : Int32) = 0), if_neg (by decide : ¬ (3 : Int32) = 1), if_neg (by decide : ¬ (3 : Int32) = 2), if_pos rfl]
  · rw [if_neg c, if_neg c]; rfl
theorem m_te3 {n j : Nat} {v : Int32} {M : zM} (hn : M.1 41 0 = nI n) (hn10 : n ≤ 10) (hj : j < n) : f_X11_tell (nI j) 3 v M = some (if ¬ v < 0 ∧ ¬ (999 : Int32) < v then (1, z_w M 41 (20 + 16 * j + 6) v) else (0, M)) := by
  unfold f_X11_tell
  rw [if_neg (by decide)]
  unfold f_X11_tell_24
  rw [if_neg (by decide)]
  unfold f_X11_tell_50
  rw [m_isH, hn, Option.bind_some, if_pos (i_rng hj (by omega))]
  dsimp only
  rw [if_neg (by decide), m_w, Option.bind_some, show (if ¬ (3 : Int32) < 0 ∧ ¬ (4 : Int32) < 3 then (1 : Int32) else 0) = 1 from by decide]
  dsimp only
  rw [if_neg (by decide), if_neg (by decide : ¬ (3 : Int32) = 0), if_neg (by decide : ¬ (3 : Int32) = 2), if_neg (by decide : ¬ (3 : Int32) = 1)]
  unfold f_X11_tell_97
  rw [m_w, Option.bind_some]
  by_cases c : ¬ v < 0 ∧ ¬ (999 : Int32) < v
  · rw [if_pos c, if_pos c]
    dsimp only
    rw [if_neg (by decide), if_neg (by decide : ¬ (3 : Int32) = 0), if_neg (by decide : ¬ (3 : Int32) = 1), if_neg (by decide : ¬ (3 : Int32) = 2), if_pos rfl, show (6 : Int32) = nI 6 from rfl, m_gives (by omega) (by omega), Option.bind_some]
  · rw [if_neg c, if_neg c]; rfl
theorem c_ch4 {k : Nat} {v : Int32} {M : zM} : f_X2_change k 4 v M = some (if ¬ v < 0 ∧ ¬ (999 : Int32) < v then (1, z_w M k 7 v) else (0, M)) := by
  have hm : f_X2_mostOf 4 M = some (999, M) := by unfold f_X2_mostOf; rw [if_neg (by decide : ¬ (4 : Int32) = 0), if_neg (by decide : ¬ (4 : Int32) = 1), if_neg (by decide : ¬ (4 : Int32) = 2), if_neg (by decide : ¬ (4 : Int32) = 3), if_pos rfl]
  unfold f_X2_change z_l
  rw [hm, Option.bind_some]
  dsimp only
  rw [c_w, Option.bind_some]
  by_cases c : ¬ v < 0 ∧ ¬ (999 : Int32) < v
  · rw [if_pos c, if_pos c]
    dsimp only
    rw [if_neg (by decide), if_neg (by decide : ¬ (4 : Int32) = 0), if_neg (by decide : ¬ (4 : Int32) = 1), if_neg (by decide : ¬ (4 : Int32) = 2), if_neg (by decide : ¬ (4 : Int32) = 3)]
  · rw [if_neg c, if_neg c]; rfl
theorem m_te4 {n j : Nat} {v : Int32} {M : zM} (hn : M.1 41 0 = nI n) (hn10 : n ≤ 10) (hj : j < n) : f_X11_tell (nI j) 4 v M = some (if ¬ v < 0 ∧ ¬ (999 : Int32) < v then (1, z_w M 41 (20 + 16 * j + 7) v) else (0, M)) := by
  unfold f_X11_tell
  rw [if_neg (by decide)]
  unfold f_X11_tell_24
  rw [if_neg (by decide)]
  unfold f_X11_tell_50
  rw [m_isH, hn, Option.bind_some, if_pos (i_rng hj (by omega))]
  dsimp only
  rw [if_neg (by decide), m_w, Option.bind_some, show (if ¬ (4 : Int32) < 0 ∧ ¬ (4 : Int32) < 4 then (1 : Int32) else 0) = 1 from by decide]
  dsimp only
  rw [if_neg (by decide), if_neg (by decide : ¬ (4 : Int32) = 0), if_neg (by decide : ¬ (4 : Int32) = 2), if_neg (by decide : ¬ (4 : Int32) = 1)]
  unfold f_X11_tell_97
  rw [m_w, Option.bind_some]
  by_cases c : ¬ v < 0 ∧ ¬ (999 : Int32) < v
  · rw [if_pos c, if_pos c]
    dsimp only
    rw [if_neg (by decide), if_neg (by decide : ¬ (4 : Int32) = 0), if_neg (by decide : ¬ (4 : Int32) = 1), if_neg (by decide : ¬ (4 : Int32) = 2), if_neg (by decide : ¬ (4 : Int32) = 3), show (7 : Int32) = nI 7 from rfl, m_gives (by omega) (by omega), Option.bind_some]
  · rw [if_neg c, if_neg c]; rfl
