/-! ALL CALLS: the script's calls one after the other -/
theorem pm_0 : s_I 0 z_M0 := by
  refine ⟨⟨0, 0, ⟨⟨rfl, by omega, rfl, by omega⟩, ⟨?_, ?_, ?_⟩, ⟨0, Nat.le_refl 0, rfl, fun h hh => absurd hh (Nat.not_lt_zero h)⟩, fun h hh => absurd hh (Nat.not_lt_zero h), fun h hh => absurd hh (Nat.not_lt_zero h), fun h hh => absurd hh (Nat.not_lt_zero h)⟩, ⟨⟨rfl, rfl, rfl, rfl, rfl, rfl, rfl, rfl⟩, ⟨0, 0, rfl, rfl, by omega, by omega, Or.inl ⟨rfl, rfl⟩, fun h t hh => absurd hh (Nat.not_lt_zero h)⟩, fun h hh => absurd hh (Nat.not_lt_zero h), fun h hh => absurd hh (Nat.not_lt_zero h), ?_⟩⟩, ⟨rfl, Or.inl rfl⟩, ⟨0, by omega, rfl, rfl, fun i hi => absurd hi (Nat.not_lt_zero i)⟩, ⟨rfl, rfl⟩, rfl⟩
  · exact i_inn (j := 0) (by decide) (by omega) (by omega)
  · exact i_inn (j := 999999) (by decide) (by omega) (by omega)
  · exact i_inn (j := 1) (by decide) (by omega) (by omega)
  · exact ⟨0, 0, fun _ => (0, 0), fun _ => 0, fun _ => 0, fun _ => 0, rfl, rfl, by omega, by omega, Nat.zero_le _, fun i hi => absurd hi (Nat.not_lt_zero i), fun i hi => absurd hi (Nat.not_lt_zero i)⟩
theorem pm_loop {xs : Nat → Int32} {L : Nat} (hL : L ≤ 3072) : ∀ n c (M : zM), 513 - c < n → c ≤ 512 → s_I c M → p_ok (f_L_law_18 xs L n (nI (6 * c)) M) (fun _ => True) := by
  intro n
  induction n with
  | zero => intro c M h; exact absurd h (Nat.not_lt_zero _)
  | succ n ih =>
    intro c M hn hc hI
    rw [f_L_law_18]
    have e6 : nI (6 * c) + (6 : Int32) = nI (6 * (c + 1)) := by rw [show (6 : Int32) = nI 6 from rfl, n_ad]; rfl
    by_cases hi : 6 * c + 6 ≤ L
    · have lt : ¬ ((Int32.ofNat L) - (6 : Int32)) < nI (6 * c) := by
        rw [show Int32.ofNat L = nI L from rfl, show (6 : Int32) = nI 6 from rfl, n_sb (by omega) (by omega)]
        exact nI_nlt (by omega) (by omega)
      have g : ∀ q, q ≤ 5 → z_ix (nI (6 * c + q)) L := fun q hq => p_ix (by omega) (by omega)
      have g0 : z_ix (nI (6 * c)) L := g 0 (by omega)
      have g1 : z_ix (nI (6 * c) + (1 : Int32)) L := by rw [p_s1]; exact g 1 (by omega)
      have g2 : z_ix (nI (6 * c) + (2 : Int32)) L := by rw [show (2 : Int32) = nI 2 from rfl, n_ad]; exact g 2 (by omega)
      have g3 : z_ix (nI (6 * c) + (3 : Int32)) L := by rw [show (3 : Int32) = nI 3 from rfl, n_ad]; exact g 3 (by omega)
      have g4 : z_ix (nI (6 * c) + (4 : Int32)) L := by rw [show (4 : Int32) = nI 4 from rfl, n_ad]; exact g 4 (by omega)
      have g5 : z_ix (nI (6 * c) + (5 : Int32)) L := by rw [show (5 : Int32) = nI 5 from rfl, n_ad]; exact g 5 (by omega)
      have nx : ∀ N, s_I (c + 1) N → p_ok (z_l (nI (6 * c) + (6 : Int32)) fun v16 => f_L_law_18 xs L n v16 N) (fun _ => True) := fun N hN => by
        rw [e6]
        refine p_l ?_
        by_cases q : c + 1 ≤ 512
        · exact ih (c + 1) N (by omega) q hN
        · obtain ⟨n, rfl⟩ : ∃ m, n = m + 1 := ⟨n - 1, by omega⟩
          rw [f_L_law_18]
          refine p_t ?_ (p_some trivial)
          rw [show Int32.ofNat L = nI L from rfl, show (6 : Int32) = nI 6 from rfl, n_sb (by omega) (by omega)]
          exact nI_lt (by omega) (by omega)
      refine p_f lt (p_g g0 (p_lx (fun v ev => ?_)))
      by_cases c0 : v = 0
      · exact p_t c0 (p_g g1 (p_g g2 (p_g g3 (p_g g4 (p_bx (p_house hI) (fun x hx => p_g g1 (p_g g2 (p_g g3 (p_g g4 (p_bx hx (fun y hy => p_t hy.1 (nx y.2 hy.2))))))))))))
      refine p_f c0 ?_
      by_cases c1 : v = 1
      · exact p_t c1 (p_g g1 (p_g g2 (p_bx (p_next hI) (fun x hx => p_g g1 (p_g g2 (p_bx hx (fun y hy => p_t hy.1 (nx y.2 hy.2))))))))
      refine p_f c1 ?_
      by_cases c2 : v = 2
      · exact p_t c2 (p_g g1 (p_g g2 (p_g g3 (p_bx (p_tell hI) (fun x hx => p_g g1 (p_g g2 (p_g g3 (p_bx hx (fun y hy => p_t hy.1 (nx y.2 hy.2))))))))))
      refine p_f c2 ?_
      by_cases c3 : v = 3
      · exact p_t c3 (p_g g1 (p_bx (p_storm hI) (fun x hx => p_g g1 (p_bx hx (fun y hy => p_t hy.1 (nx y.2 hy.2))))))
      refine p_f c3 ?_
      by_cases c4 : v = 4
      · refine p_t c4 (p_g g1 (p_g g2 (p_g g3 (p_g g4 (?_)))))
        by_cases zz : xs (Int32.toNatClampNeg (nI (6 * c) + (4 : Int32))) = 0
        · exact p_t zz (p_bx (p_fall hI (Or.inl rfl)) (fun x hx => p_g g1 (p_g g2 (p_g g3 (p_g g4 (p_t zz (p_bx hx (fun y hy => p_t hy.1 (nx y.2 hy.2)))))))))
        · exact p_f zz (p_bx (p_fall hI (Or.inr rfl)) (fun x hx => p_g g1 (p_g g2 (p_g g3 (p_g g4 (p_f zz (p_bx hx (fun y hy => p_t hy.1 (nx y.2 hy.2)))))))))
      refine p_f c4 ?_
      by_cases c5 : v = 5
      · exact p_t c5 (p_g g1 (p_g g2 (p_g g3 (p_g g4 (p_g g5 (p_bx (p_feed hI) (fun x hx => p_g g1 (p_g g2 (p_g g3 (p_g g4 (p_g g5 (p_bx hx (fun y hy => p_t hy.1 (nx y.2 hy.2))))))))))))))
      refine p_f c5 ?_
      by_cases c6 : v = 6
      · exact p_t c6 (p_g g1 (p_bx (p_end hI) (fun x hx => p_g g1 (p_bx hx (fun y hy => p_t hy.1 (nx y.2 hy.2))))))
      refine p_f c6 ?_
      by_cases c7 : v = 7
      · exact p_t c7 (p_bx (p_text hI) (fun x hx => p_bx hx (fun y hy => p_t hy.1 (nx y.2 hy.2))))
      refine p_f c7 ?_
      by_cases c8 : v = 8
      · exact p_t c8 (p_g g1 (p_bx (p_fault hI) (fun x hx => p_g g1 (p_bx hx (fun y hy => p_t hy.1 (nx y.2 hy.2))))))
      refine p_f c8 ?_
      by_cases c9 : v = 9
      · exact p_t c9 (p_g g1 (p_bx (p_comes hI (by omega)) (fun x hx => p_g g1 (p_bx hx (fun y hy => p_t hy.1 (nx y.2 hy.2))))))
      refine p_f c9 ?_
      by_cases c10 : v = 10
      · exact p_t c10 (p_g g1 (p_g g2 (p_bx (p_of hI) (fun x hx => p_g g1 (p_g g2 (p_bx hx (fun y hy => p_t hy.1 (nx y.2 hy.2))))))))
      refine p_f c10 ?_
      by_cases c11 : v = 11
      · exact p_t c11 (p_g g1 (p_g g2 (p_g g3 (p_bx (p_hour hI) (fun x hx => p_g g1 (p_g g2 (p_g g3 (p_bx hx (fun y hy => p_t hy.1 (nx y.2 hy.2))))))))))
      refine p_f c11 ?_
      by_cases c12 : v = 12
      · exact p_t c12 (p_g g1 (p_g g2 (p_g g3 (p_g g4 (p_bx (p_blame hI (by omega)) (fun x hx => p_g g1 (p_g g2 (p_g g3 (p_g g4 (p_bx hx (fun y hy => p_t ((lg_cmp_eq _ _).mpr hy.1) (nx y.2 hy.2))))))))))))
      refine p_f c12 ?_
      by_cases c13 : v = 13
      · exact p_t c13 (p_g g1 (p_g g2 (p_g g3 (p_g g4 (p_g g5 (p_bx (p_cleanings hI (by omega)) (fun x hx => p_g g1 (p_g g2 (p_g g3 (p_g g4 (p_g g5 (p_bx hx (fun y hy => p_t hy.1 (nx y.2 hy.2))))))))))))))
      refine p_f c13 ?_
      by_cases c14 : v = 14
      · exact p_t c14 (p_g g1 (p_g g2 (p_bx (p_gutters hI) (fun x hx => p_g g1 (p_g g2 (p_bx hx (fun y hy => p_t hy.1 (nx y.2 hy.2))))))))
      refine p_f c14 ?_
      by_cases c15 : v = 15
      · exact p_t c15 (p_g g1 (p_g g2 (p_bx (p_stains hI) (fun x hx => p_g g1 (p_g g2 (p_bx hx (fun y hy => p_t hy.1 (nx y.2 hy.2))))))))
      refine p_f c15 ?_
      by_cases c16 : v = 16
      · exact p_t c16 (p_g g1 (p_bx (p_drain hI) (fun x hx => p_g g1 (p_bx hx (fun y hy => p_t hy.1 (nx y.2 hy.2))))))
      refine p_f c16 ?_
      by_cases c17 : v = 17
      · exact p_t c17 (p_g g1 (p_g g2 (p_g g3 (p_g g4 (p_bx (p_added hI) (fun x hx => p_g g1 (p_g g2 (p_g g3 (p_g g4 (p_bx hx (fun y hy => p_t hy.1 (nx y.2 hy.2))))))))))))
      refine p_f c17 ?_
      by_cases c18 : v = 18
      · refine p_t c18 (p_g g1 (?_))
        by_cases zz : xs (Int32.toNatClampNeg (nI (6 * c) + (1 : Int32))) = 0
        · exact p_t zz (p_bx (p_image hI (Or.inl rfl)) (fun x hx => p_g g1 (p_t zz (p_bx hx (fun y hy => p_t hy.1 (nx y.2 hy.2))))))
        · exact p_f zz (p_bx (p_image hI (Or.inr rfl)) (fun x hx => p_g g1 (p_f zz (p_bx hx (fun y hy => p_t hy.1 (nx y.2 hy.2))))))
      refine p_f c18 ?_
      by_cases c19 : v = 19
      · exact p_t c19 (p_g g1 (p_bx (p_look hI) (fun x hx => p_g g1 (p_bx hx (fun y hy => p_t hy.1 (nx y.2 hy.2))))))
      refine p_f c19 ?_
      exact nx M (s_I_mono hI)
    · refine p_t ?_ (p_some trivial)
      rw [show Int32.ofNat L = nI L from rfl]
      by_cases z : 6 ≤ L
      · rw [show (6 : Int32) = nI 6 from rfl, n_sb z (by omega)]
        exact nI_lt (by omega) (by omega)
      · rw [Int32.lt_iff_toInt_lt, nI_toInt (by omega), i_sbI (by rw [nI_toInt (by omega), show (6 : Int32).toInt = 6 from by decide]; omega) (by rw [nI_toInt (by omega), show (6 : Int32).toInt = 6 from by decide]; omega), nI_toInt (by omega), show (6 : Int32).toInt = 6 from by decide]
        omega
theorem pure_main : ∀ (L : Nat) (xs : Nat → Int32), L ≤ 3072 → f_L_law_18 xs L z_F 0 z_M0 = some () := by
  intro L xs hL
  obtain ⟨r, e, -⟩ := pm_loop (xs := xs) hL z_F 0 z_M0 (by unfold z_F; omega) (by omega) pm_0
  rw [Nat.mul_zero, nI_0] at e
  exact e
