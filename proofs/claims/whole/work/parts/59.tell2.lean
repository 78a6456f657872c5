theorem b_n1 : vp_nar .boolean (1 : Int32) = 1 := by decide
theorem b_n0 : vp_nar .boolean (0 : Int32) = 0 := by decide
/-- SIZE or THAW is told, on both sides -/
theorem s_lo {K : Nat} {M : zM} {n m a q b : Nat} {v : Int32} (h : s_I K M) (hW : s_W K (M.1 41) n m) (hC : s_C 1 M (M.1 41) n m) (hb : (b = 3 ∧ a = 1 ∧ q = 4 ∧ i_in v 0 999999) ∨ (b = 6 ∧ a = 3 ∧ q = 1 ∧ i_in v 0 9)) : s_I (K + 1) (z_w (z_w M a q v) 41 b v) := by
  obtain ⟨⟨w0, w0', w1, w1'⟩, w2, ⟨c, c1, c2, c3⟩, w4, w5, w6⟩ := s_W_mono hW
  have e41 : ∀ i, (z_w (z_w M a q v) 41 b v).1 41 i = if i = b then v else M.1 41 i := fun i => by rw [p_eq, p_ne (by omega)]
  have hi : ∀ i, (i ≠ 3 ∧ i ≠ 6) → (z_w (z_w M a q v) 41 b v).1 41 i = M.1 41 i := fun i hi => by rw [e41, if_neg (by omega)]
  have ro : ∀ i, i ≠ 41 → i ≠ 1 → i ≠ 3 → (z_w (z_w M a q v) 41 b v).1 i = M.1 i := fun i i1 i2 i3 => by rw [p_nr i1, p_nr (by omega)]
  refine s_I_now (n := n) (m := m) h ⟨⟨by rw [hi 0 (by omega)]; exact w0, w0', by rw [hi 1 (by omega)]; exact w1, w1'⟩, ?_, ⟨c, c1, by rw [hi 5 (by omega)]; exact c2, fun g hg => by rw [hi _ (by omega)]; exact c3 g hg⟩, fun g hg => ?_, fun g hg => ?_, fun t ht => ?_⟩ ?_ (fun i hi => ?_) (fun j hj => ?_)
  · rw [e41 2, e41 3, e41 6, if_neg (by omega)]
    refine ⟨w2.1, ?_, ?_⟩
    · by_cases z : 3 = b
      · rw [if_pos z]
        rcases hb with hb | hb
        · exact hb.2.2.2
        · omega
      · rw [if_neg z]; exact w2.2.1
    · by_cases z : 6 = b
      · rw [if_pos z]
        rcases hb with hb | hb
        · omega
        · exact hb.2.2.2
      · rw [if_neg z]; exact w2.2.2
  · rw [hi _ (by omega), hi _ (by omega), hi _ (by omega), hi _ (by omega), hi _ (by omega), hi _ (by omega), hi _ (by omega), hi _ (by omega)]; exact w4 g hg
  · show (z_w (z_w M a q v) 41 b v).1 41 (20 + 16 * g + 4) = -1 ∨ ∃ e, g < e ∧ e < n ∧ (z_w (z_w M a q v) 41 b v).1 41 (20 + 16 * g + 4) = nI e
    rw [hi _ (by omega)]; exact w5 g hg
  · refine ⟨?_, fun j hj => ?_⟩
    · rw [hi _ (by omega)]; exact (w6 t ht).1
    · rw [hi _ (by omega), hi _ (by omega)]; exact (w6 t ht).2 j hj
  · obtain ⟨⟨d0, d1, d2, d3, d4, d5, d6, d7⟩, ⟨lh, lt, l1, l2, l3, l4, l5, l6⟩, d8, d9, d10⟩ := hC
    have r1 : ∀ j, j ≠ 4 → (z_w (z_w M a q v) 41 b v).1 1 j = M.1 1 j := fun j hj => by
      rw [p_ne (by decide), p_rd, if_neg (by omega)]
    have r3 : ∀ j, j ≠ 1 → (z_w (z_w M a q v) 41 b v).1 3 j = M.1 3 j := fun j hj => by
      rw [p_ne (by decide), p_rd, if_neg (by omega)]
    refine ⟨⟨?_, ?_, ?_, ?_, ?_, ?_, ?_, ?_⟩, ⟨lh, lt, ?_, ?_, l3, l4, ?_, fun g t hg ht => ?_⟩, fun g hg j hj => ?_, fun t ht => ?_, ?_⟩
    · rw [hi 0 (by omega)]; exact (r3 0 (by decide)).trans d0
    · rw [hi 1 (by omega)]; exact (r1 1 (by decide)).trans d1
    · rw [hi 2 (by omega)]; exact (r1 5 (by decide)).trans d2
    · rw [e41 3, p_ne (by decide), p_rd]
      rcases hb with ⟨rfl, rfl, rfl, -⟩ | ⟨rfl, rfl, rfl, -⟩
      · rw [if_pos ⟨rfl, rfl⟩, if_pos rfl]
      · rw [if_neg (by omega), if_neg (by decide)]; exact d3
    · rw [hi 4 (by omega)]; exact (r1 6 (by decide)).trans d4
    · rw [hi 5 (by omega)]; exact (r1 7 (by decide)).trans d5
    · rw [e41 6, p_ne (by decide), p_rd]
      rcases hb with ⟨rfl, rfl, rfl, -⟩ | ⟨rfl, rfl, rfl, -⟩
      · rw [if_neg (by omega), if_neg (by decide)]; exact d6
      · rw [if_pos ⟨rfl, rfl⟩, if_pos rfl]
    · rw [hi 7 (by omega)]; exact (r1 8 (by decide)).trans d7
    · exact (r1 9 (by decide)).trans l1
    · exact (r1 10 (by decide)).trans l2
    · rw [hi 8 (by omega), hi 9 (by omega)]; exact l5
    · rw [ro (c_H (1 + 2) g + 2) (by unfold c_H; omega) (by unfold c_H; omega) (by unfold c_H; omega), ro (c_H (1 + 2) g + 3) (by unfold c_H; omega) (by unfold c_H; omega) (by unfold c_H; omega), ro (c_H (1 + 2) g + 4) (by unfold c_H; omega) (by unfold c_H; omega) (by unfold c_H; omega), hi _ (by omega), hi _ (by omega), hi _ (by omega)]; exact l6 g t hg ht
    · rw [ro (c_H (1 + 2) g) (by unfold c_H; omega) (by unfold c_H; omega) (by unfold c_H; omega), hi _ (by omega)]; exact d8 g hg j hj
    · refine ⟨?_, fun j hj => ?_⟩
      · rw [ro (c_S 1 t) (by unfold c_S; omega) (by unfold c_S; omega) (by unfold c_S; omega), hi _ (by omega)]; exact (d9 t ht).1
      · rw [ro (c_S 1 t + 1) (by unfold c_S; omega) (by unfold c_S; omega) (by unfold c_S; omega), ro (c_S 1 t + 2) (by unfold c_S; omega) (by unfold c_S; omega) (by unfold c_S; omega), hi _ (by omega), hi _ (by omega)]; exact (d9 t ht).2 j hj
    · obtain ⟨ln, k, st, ff, mm, tt, x1, x2, x3, x4, x5, x6, x7⟩ := d10
      rw [ro (1 + 12) (by decide) (by decide) (by decide), ro (1 + 15) (by decide) (by decide) (by decide), ro (1 + 18) (by decide) (by decide) (by decide), ro (1 + 21) (by decide) (by decide) (by decide)]
      exact ⟨ln, k, st, ff, mm, tt, x1, by rw [hi _ (by omega)]; exact x2, x3, x4, x5, fun i hi' => by rw [hi _ (by omega), hi _ (by omega)]; exact x6 i hi', fun i hi' => by rw [hi _ (by omega), hi _ (by omega), hi _ (by omega)]; exact x7 i hi'⟩
  · refine ro i ?_ ?_ ?_ <;> (unfold s_own at hi; omega)
  · rw [p_ne (by decide), p_ne (by omega)]
theorem i_rng0 {v : Int32} {b : Nat} (hb : b < 2 ^ 31) (h : ¬ v < 0 ∧ ¬ nI b < v) : i_in v 0 b := by
  obtain ⟨h1, h2⟩ := h
  rw [Int32.lt_iff_toInt_lt] at h1
  rw [Int32.lt_iff_toInt_lt, nI_toInt hb] at h2
  have : (0 : Int32).toInt = 0 := rfl
  exact ⟨by omega, by omega⟩
/-- tell -/
theorem p_tell {K : Nat} {M : zM} {a b v : Int32} (h : s_I K M) : p_2 K (f_X10_tell a b v M) (f_X11_tell a b v) := by
  obtain ⟨n, m, hW, hC⟩ := h.1
  obtain ⟨hn, hm⟩ := c_cnt hW hC
  have hn10 := hW.1.2.1
  have hw0 := hW.1.1
  by_cases b5 : b = 5
  · subst b5
    by_cases c : ¬ v < 0 ∧ ¬ (999999 : Int32) < v
    · refine ⟨(1, z_w M 1 4 v), ?_, (1, z_w (z_w M 1 4 v) 41 3 v), ?_, rfl, s_lo h hW hC (Or.inl ⟨rfl, rfl, rfl, i_rng0 (b := 999999) (by decide) c⟩)⟩
      · unfold f_X10_tell f_X10_tellSize z_l z_g
        rw [if_pos rfl, c_w, Option.bind_some, if_pos c]
        dsimp only
        rw [if_neg (by decide), Option.bind_some]
        exact if_pos b_n1
      · unfold f_X11_tell z_l
        rw [if_pos rfl, m_w, Option.bind_some, if_pos c]
        rfl
    · refine p_same (v := 0) h ?_ ?_
      · unfold f_X10_tell f_X10_tellSize z_l z_g
        rw [if_pos rfl, c_w, Option.bind_some, if_neg c]
        dsimp only
        rw [if_pos rfl, Option.bind_some]
        exact if_pos b_n0
      · unfold f_X11_tell z_l
        rw [if_pos rfl, m_w, Option.bind_some, if_neg c]
        dsimp only
        rw [if_pos rfl]
        unfold f_X11_tell_24
        rw [if_neg (by decide)]
        unfold f_X11_tell_50
        rw [m_isH, Option.bind_some]
        by_cases d : ¬ a < 0 ∧ ¬ (M.1 41 0 - 1) < a
        · rw [if_pos d]
          dsimp only
          rw [if_neg (by decide), m_w, Option.bind_some]
          rfl
        · rw [if_neg d]; rfl
  · by_cases b6 : b = 6
    · subst b6
      by_cases c : ¬ v < 0 ∧ ¬ (9 : Int32) < v
      · refine ⟨(1, z_w M 3 1 v), ?_, (1, z_w (z_w M 3 1 v) 41 6 v), ?_, rfl, s_lo h hW hC (Or.inr ⟨rfl, rfl, rfl, i_rng0 (b := 9) (by decide) c⟩)⟩
        · unfold f_X10_tell f_X10_tellThaw z_l z_g
          rw [if_neg (by decide), if_pos rfl, c_w, Option.bind_some, if_pos c]
          dsimp only
          rw [if_neg (by decide), Option.bind_some]
          exact if_pos b_n1
        · unfold f_X11_tell f_X11_tell_24 z_l
          rw [if_neg (by decide), if_pos rfl, m_w, Option.bind_some, if_pos c]
          rfl
      · refine p_same (v := 0) h ?_ ?_
        · unfold f_X10_tell f_X10_tellThaw z_l z_g
          rw [if_neg (by decide), if_pos rfl, c_w, Option.bind_some, if_neg c]
          dsimp only
          rw [if_pos rfl, Option.bind_some]
          exact if_pos b_n0
        · unfold f_X11_tell f_X11_tell_24 z_l
          rw [if_neg (by decide), if_pos rfl, m_w, Option.bind_some, if_neg c]
          dsimp only
          rw [if_pos rfl]
          unfold f_X11_tell_50
          rw [m_isH, Option.bind_some]
          by_cases d : ¬ a < 0 ∧ ¬ (M.1 41 0 - 1) < a
          · rw [if_pos d]
            dsimp only
            rw [if_neg (by decide), m_w, Option.bind_some]
            rfl
          · rw [if_neg d]; rfl
    · by_cases c : ¬ a < 0 ∧ ¬ (nI n - 1) < a
      · obtain ⟨j, hj, rfl⟩ := i_nat (by omega) c.1 c.2
        have g10 := p_ix (show j < 10 by omega) (show 10 < 2 ^ 31 by decide)
        have ecl : Int32.toNatClampNeg (nI j) = j := p_cl (by omega)
        have cls : ∀ x, f_X2_change (c_H 3 j) b v M = some x → f_X10_tell (nI j) b v M = some (if x.1 = 0 then (0, x.2) else (1, x.2)) := fun x hx => by
          unfold f_X10_tell z_g
          rw [if_neg b5, if_neg b6, c_isH, hn, Option.bind_some, if_pos c]
          dsimp only
          rw [if_neg (by decide), if_pos g10, ecl, c_ra6, hx, Option.bind_some]
          by_cases z : x.1 = 0
          · rw [if_pos z, if_pos z]
          · rw [if_neg z, if_neg z]
        have fin : ∀ (f : Nat) (mx : Nat), mx < 2 ^ 31 → f_X2_change (c_H 3 j) b v M = some (if ¬ v < 0 ∧ ¬ nI mx < v then (1, z_w M (c_H 3 j) f v) else (0, M)) → (∀ N : zM, N.1 41 0 = nI n → f_X11_tell (nI j) b v N = some (if ¬ v < 0 ∧ ¬ nI mx < v then (1, z_w N 41 (20 + 16 * j + f) v) else (0, N))) → (i_in v 0 mx → s_I (K + 1) (z_w (z_w M (c_H 3 j) f v) 41 (20 + 16 * j + f) v)) → p_2 K (f_X10_tell (nI j) b v M) (f_X11_tell (nI j) b v) := fun f mx hmx h1 h2 h3 => by
          by_cases d : ¬ v < 0 ∧ ¬ nI mx < v
          · rw [if_pos d] at h1
            refine ⟨(1, z_w M (c_H 3 j) f v), cls _ h1, ?_⟩
            have e0 : (z_w M (c_H 3 j) f v).1 41 0 = nI n := by rw [p_ne (by unfold c_H; omega)]; exact hw0
            have := h2 _ e0
            rw [if_pos d] at this
            exact ⟨_, this, rfl, h3 (i_rng0 hmx d)⟩
          · rw [if_neg d] at h1
            have := h2 _ hw0
            rw [if_neg d] at this
            exact p_same (v := 0) h (cls _ h1) this
        by_cases b0 : b = 0
        · subst b0
          exact fin 5 10 (by decide) c_ch0 (fun N hN => m_te0 hN hn10 hj) (fun r => s_set h hW hC hj (by omega) (fun q => by omega) (fun q => by omega) (fun q => by omega) (fun _ => r) (fun q => by omega) (fun q => by omega))
        by_cases b1 : b = 1
        · subst b1
          exact fin 1 9999 (by decide) c_ch1 (fun N hN => m_te1 hN hn10 hj) (fun r => s_set h hW hC hj (by omega) (fun _ => r) (fun q => by omega) (fun q => by omega) (fun q => by omega) (fun q => by omega) (fun q => by omega))
        by_cases b2 : b = 2
        · subst b2
          exact fin 2 10 (by decide) c_ch2 (fun N hN => m_te2 hN hn10 hj) (fun r => s_set h hW hC hj (by omega) (fun q => by omega) (fun _ => r) (fun q => by omega) (fun q => by omega) (fun q => by omega) (fun q => by omega))
        by_cases b3 : b = 3
        · subst b3
          exact fin 6 999 (by decide) c_ch3 (fun N hN => m_te3 hN hn10 hj) (fun r => s_set h hW hC hj (by omega) (fun q => by omega) (fun q => by omega) (fun q => by omega) (fun q => by omega) (fun _ => r) (fun q => by omega))
        by_cases b4 : b = 4
        · subst b4
          exact fin 7 999 (by decide) c_ch4 (fun N hN => m_te4 hN hn10 hj) (fun r => s_set h hW hC hj (by omega) (fun q => by omega) (fun q => by omega) (fun q => by omega) (fun q => by omega) (fun q => by omega) (fun _ => r))
        refine p_same (v := 0) h (cls (0, M) ?_) ?_
        · unfold f_X2_change f_X2_mostOf
          rw [if_neg b0, if_neg b1, if_neg b2, if_neg b3, if_neg b4, Option.bind_some]
          dsimp only
          rw [c_w, Option.bind_some, if_neg (show ¬ (¬ v < 0 ∧ ¬ (-1 : Int32) < v) from fun q => q.2 (by
            have h1 := q.1
            rw [Int32.lt_iff_toInt_lt] at h1 ⊢
            have e0 : (0 : Int32).toInt = 0 := rfl
            have e1 : (-1 : Int32).toInt = -1 := by decide
            omega))]
          rfl
        · unfold f_X11_tell f_X11_tell_24
          rw [if_neg b5, if_neg b6]
          unfold f_X11_tell_50
          rw [m_isH, hw0, Option.bind_some, if_pos c]
          dsimp only
          rw [if_neg (by decide), m_w, Option.bind_some, if_neg (show ¬ (¬ b < 0 ∧ ¬ (4 : Int32) < b) from fun q => by
            obtain ⟨k, -, k4, rfl⟩ := i_num (a := 0) (b := 4) (by decide) (by decide) q
            have : k = 0 ∨ k = 1 ∨ k = 2 ∨ k = 3 ∨ k = 4 := by omega
            rcases this with rfl | rfl | rfl | rfl | rfl
            · exact b0 rfl
            · exact b1 rfl
            · exact b2 rfl
            · exact b3 rfl
            · exact b4 rfl)]
          rfl
      · refine p_same (v := 0) h ?_ ?_
        · unfold f_X10_tell
          rw [if_neg b5, if_neg b6, c_isH, hn, Option.bind_some, if_neg c]; rfl
        · unfold f_X11_tell f_X11_tell_24
          rw [if_neg b5, if_neg b6]
          unfold f_X11_tell_50
          rw [m_isH, hw0, Option.bind_some, if_neg c]; rfl
