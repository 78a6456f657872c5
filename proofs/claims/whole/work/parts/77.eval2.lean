theorem c_join {k : Nat} {a b : Int32} {M : zM} (hk : k = 13 ∨ k = 14 ∨ k = 15 ∨ k = 17 ∨ k = 18 ∨ k = 19 ∨ k = 21 ∨ k = 22) : f_X3_joined (nI (l_kd k)) a b M = some (v_op k a b, M) := by
  rcases hk with rfl | rfl | rfl | rfl | rfl | rfl | rfl | rfl
  · rfl
  · rfl
  · rfl
  · show (if b ≤ a then some ((0 : Int32), M) else some (1, M)) = some ((if b ≤ a then 0 else 1), M)
    split <;> rfl
  · show (if a = b then some ((1 : Int32), M) else some (0, M)) = some ((if a = b then 1 else 0), M)
    split <;> rfl
  · show (if a ≤ b then some ((0 : Int32), M) else some (1, M)) = some ((if a ≤ b then 0 else 1), M)
    split <;> rfl
  · rfl
  · rfl
theorem c_join20 {a b : Int32} {M : zM} (hb : ¬ b = 0) : f_X3_joined (20 : Int32) a b M = some (a / b, M) := by
  show (if b = 0 then some ((0 : Int32), M) else z_g (¬ b = 0) (some (a / b, M))) = _
  rw [if_neg hb]
  unfold z_g
  rw [if_pos hb]
theorem i_neg {c : Nat} (h1 : 1 ≤ c) (h2 : c < 26) : -nI c < 0 := by
  have : ∀ c : Fin 26, 1 ≤ c.1 → -nI c.1 < 0 := by decide
  exact this ⟨c, h2⟩ h1
theorem c_evl {F : Nat → Int32} {st : Nat → Nat × Int32} {b e k : Nat} {M : zM} (hF : ∀ j, 1 ≤ j → j ≤ 8 → M.1 11 (7 + j) = F j) (hk : l_pos st k ≤ 400) (hbe : b + e ≤ k) (hst : ∀ i, i < k → l_code (M.1 16) (l_pos st i) (st i)) {q : List Bool} (hr : l_run st b e [] = some q) :
    ∀ d i fuel (N : zM), i + d = e → 2 * d < fuel → (∀ a, a ≠ 25 → N.1 a = M.1 a) → v_ar (N.1 25) (v_run F st b i) → p_ok (f_X3_worth_6 fuel 13 (nI (l_pos st (b + e))) 11 (nI (v_run F st b i).length) (nI (l_pos st (b + i))) N) (fun x => (∀ v, v_run F st b e = [v] → x.1 = v) ∧ ∀ a, a ≠ 25 → x.2.1 a = M.1 a) := by
  intro d
  induction d with
  | zero =>
    intro i fuel N h1 h2 h3 h4
    obtain ⟨fuel, rfl⟩ : ∃ m, fuel = m + 1 := ⟨fuel - 1, by omega⟩
    have : i = e := by omega
    subst this
    have := l_pos_le st (show b + i ≤ k by omega)
    rw [f_X3_worth_6]
    refine p_t (nI_le (Nat.le_refl _) (by omega)) (p_some ⟨fun v hv => ?_, h3⟩)
    rw [hv] at h4
    exact h4.1
  | succ d ih =>
    intro i fuel N h1 h2 h3 h4
    obtain ⟨fuel, rfl⟩ : ∃ m, fuel = m + 2 := ⟨fuel - 2, by omega⟩
    obtain ⟨q', hq'⟩ := l_run_pre hr (i + 1) (by omega)
    obtain ⟨q0, hq0, hty⟩ := l_run_s hq'
    have htd := v_run_td (F := F) hq0
    have hlen := v_td_len _ _ htd
    have hle := v_len hq0
    have hnx : v_run F st b (i + 1) = v_do F (st (b + i)) (v_run F st b i) := rfl
    have hcd := hst (b + i) (by omega)
    have hp1 : l_pos st (b + (i + 1)) = l_pos st (b + i) + l_len (st (b + i)).1 := rfl
    have hp2 := l_pos_le st (show b + (i + 1) ≤ b + e by omega)
    have hp3 := l_pos_le st (show b + e ≤ k by omega)
    have hll : 1 ≤ l_len (st (b + i)).1 := by unfold l_len; split <;> omega
    have n16 : N.1 16 = M.1 16 := h3 16 (by omega)
    have hF' : ∀ j, 1 ≤ j → j ≤ 8 → N.1 11 (7 + j) = F j := fun j j1 j2 => by rw [h3 11 (by omega)]; exact hF j j1 j2
    have e40 : ∀ n : Nat, n < 40 → ¬ (40 : Int32) ≤ nI n := fun n hn => nI_ge (a := n) (b := 40) (by omega) (by omega)
    -- one more number lies on the pile
    have cont : ∀ (x : Int32) (r : List Int32) (B : zM) (f' : Nat), 2 * d < f' → v_run F st b (i + 1) = x :: r → B = z_w N 25 r.length x → v_ar (N.1 25) r → p_ok (f_X3_worth_6 f' 13 (nI (l_pos st (b + e))) 11 (nI (r.length + 1)) (nI (l_pos st (b + i) + l_len (st (b + i)).1)) B) (fun x => (∀ v, v_run F st b e = [v] → x.1 = v) ∧ ∀ a, a ≠ 25 → x.2.1 a = M.1 a) := fun x r B f' hf' hx hB hr' => by
      have := ih (i + 1) f' B (by omega) hf' (fun a ha => by rw [hB, p_nr ha]; exact h3 a ha) (by
        rw [hx]
        refine ⟨by rw [hB, p_eq, if_pos rfl], v_ar_cg r (fun j hj => ?_) hr'⟩
        rw [hB, p_eq, if_neg (by omega)])
      rw [hx] at this
      exact this
    unfold l_code at hcd
    rw [show fuel + 2 = (fuel + 1) + 1 from rfl, f_X3_worth_6]
    refine p_f (nI_ge (by omega) (by omega)) (p_f (nI_ge (a := l_pos st (b + i)) (b := 400) (by omega) (by omega)) (p_g (p_ix (show l_pos st (b + i) < 400 by omega) (by decide)) (p_lx (fun v4 hv4 => ?_))))
    rw [p_cl (by omega), show (13 : Nat) + 3 = 16 from rfl, n16] at hv4
    rcases v_cls (F := F) hty htd with ⟨k1, k2, k3⟩ | ⟨k1, x, r, hL, k2, k3⟩ | ⟨k1, x, r, hL, k3⟩ | ⟨k1, y, x, r, hL, k3⟩
    · have el : l_len (st (b + i)).1 = 1 := by unfold l_len; rw [if_neg (by omega)]
      rw [el] at cont
      have g1 := p_ix (show (v_run F st b i).length < 40 by omega) (show 40 < 2 ^ 31 by decide)
      by_cases z : (st (b + i)).1 = 0
      · rw [if_pos z] at hcd
        refine p_f (fun q => ?_) (p_f (e40 _ (by omega)) (p_g g1 (p_lx (fun B hB => p_l (p_l ?_)))))
        · rw [hv4, hcd.1, Int32.lt_iff_toInt_lt] at q
          have := hcd.2
          rw [Int32.le_iff_toInt_le] at this
          omega
        rw [p_s1, p_s1]
        rw [p_cl (by omega), hv4, hcd.1] at hB
        exact cont (st (b + i)).2 (v_run F st b i) B (fuel + 1) (by omega) (by rw [hnx, k3, if_pos z]) hB h4
      · rw [if_neg z, if_neg (by omega)] at hcd
        have ek : l_kd (st (b + i)).1 = 7 + (st (b + i)).1 := by unfold l_kd; rw [if_pos k1]
        rw [ek] at hcd
        have env : -v4 = nI (7 + (st (b + i)).1) := by rw [hv4, hcd, Int32.neg_neg]
        refine p_t (by rw [hv4, hcd]; exact i_neg (by omega) (by omega)) ?_
        unfold f_X3_worth_56
        rw [env, show (8 : Int32) = nI 8 from rfl, show (15 : Int32) = nI 15 from rfl, c_wi N (by decide) (by decide) (by omega), if_pos (by omega), Option.bind_some]
        refine p_f b_1z (p_f (e40 _ (by omega)) (p_g (show z_ix (nI (7 + (st (b + i)).1)) 16 from p_ix (by omega) (by decide)) (p_g g1 (p_lx (fun B hB => p_l (p_l ?_))))))
        rw [p_s1, p_s1]
        rw [p_cl (by omega), p_cl (by omega)] at hB
        dsimp only at hB
        rw [hF' _ (by omega) k1] at hB
        exact cont (F (st (b + i)).1) (v_run F st b i) B (fuel + 1) (by omega) (by rw [hnx, k3, if_neg z]) hB h4
    · have el : l_len (st (b + i)).1 = 2 := by unfold l_len; rw [if_pos k1]
      rw [el] at cont hp1
      rw [if_neg (by omega), if_pos k1] at hcd
      obtain ⟨hc1, hc2, hc3⟩ := hcd
      rw [hL] at h4 hlen ⊢
      obtain ⟨hx, hr2⟩ := h4
      simp only [List.length_cons] at hlen ⊢
      have vz : ¬ (st (b + i)).2 = 0 := fun q => by rw [q] at hc2; exact absurd hc2 (by decide)
      have g1 := p_ix (show r.length + 1 < 40 by omega) (show 40 < 2 ^ 31 by decide)
      have g0 := p_ix (show r.length < 40 by omega) (show 40 < 2 ^ 31 by decide)
      refine p_f (fun q => ?_) (p_f (e40 _ (by omega)) (p_g g1 (p_lx (fun B hB => p_l (p_l ?_)))))
      · rw [hv4, hc1, Int32.lt_iff_toInt_lt] at q
        rw [Int32.lt_iff_toInt_lt] at hc2
        omega
      rw [p_s1, p_s1]
      rw [p_cl (by omega), hv4, hc1] at hB
      rw [f_X3_worth_6]
      refine p_f (nI_ge (by omega) (by omega)) (p_f (nI_ge (a := l_pos st (b + i) + 1) (b := 400) (by omega) (by omega)) (p_g (p_ix (show l_pos st (b + i) + 1 < 400 by omega) (by decide)) (p_lx (fun v5 hv5 => ?_))))
      rw [p_cl (by omega), show (13 : Nat) + 3 = 16 from rfl, hB, p_ne (by decide), n16, hc3] at hv5
      refine p_t (by rw [hv5]; decide) ?_
      have env : -v5 = (20 : Int32) := by rw [hv5]; decide
      unfold f_X3_worth_56
      rw [env, c_w, if_neg (by decide), Option.bind_some]
      refine p_t rfl ?_
      unfold f_X3_worth_94
      rw [env]
      refine p_f (by decide) ?_
      unfold f_X3_worth_130
      rw [env]
      refine p_f (nI_ge (a := 1) (b := r.length + 1 + 1) (by omega) (by omega)) ?_
      rw [i_p1]
      refine p_l ?_
      rw [nI_pred]
      refine p_g g0 (p_g g1 ?_)
      have b1 : B.1 25 r.length = x := by rw [hB, p_eq, if_neg (by omega)]; exact hx
      have b2 : B.1 25 (r.length + 1) = (st (b + i)).2 := by rw [hB, p_eq, if_pos rfl]
      have e1 : Int32.toNatClampNeg (nI r.length) = r.length := p_cl (by omega)
      have e2 : Int32.toNatClampNeg (nI (r.length + 1)) = r.length + 1 := p_cl (by omega)
      have jn : f_X3_joined 20 (B.1 (13 + 12) (Int32.toNatClampNeg (nI r.length))) (B.1 (13 + 12) (Int32.toNatClampNeg (nI (r.length + 1)))) B = some (x / (st (b + i)).2, B) := by
        rw [e1, e2, show (13 : Nat) + 12 = 25 from rfl, b1, b2]
        exact c_join20 vz
      dsimp only
      rw [jn, Option.bind_some]
      refine p_g g0 (p_lx (fun C hC => p_l ?_))
      rw [p_s1]
      rw [e1] at hC
      dsimp only at hC
      have := ih (i + 1) fuel C (by omega) (by omega) (fun a ha => by rw [hC, p_nr ha, hB, p_nr ha]; exact h3 a ha) (by
        rw [hnx, k3]
        refine ⟨by rw [hC, p_eq, if_pos rfl], v_ar_cg r (fun j hj => ?_) hr2⟩
        rw [hC, p_eq, if_neg (by omega), hB, p_eq, if_neg (by omega)])
      rw [hnx, k3] at this
      rw [show l_pos st (b + (i + 1)) = l_pos st (b + i) + 1 + 1 from hp1] at this
      exact this
    · have el : l_len (st (b + i)).1 = 1 := by unfold l_len; rw [if_neg (by omega)]
      rw [el] at cont
      rw [if_neg (by omega), if_neg (by omega), k1] at hcd
      rw [hL] at h4 hlen ⊢
      obtain ⟨hx, hr2⟩ := h4
      simp only [List.length_cons] at hlen ⊢
      have g0 : z_ix (nI (r.length + 1) - 1) 40 := by rw [nI_pred]; exact p_ix (show r.length < 40 by omega) (show 40 < 2 ^ 31 by decide)
      refine p_t (by rw [hv4, hcd]; decide) ?_
      have env : -v4 = (7 : Int32) := by rw [hv4, hcd]; decide
      unfold f_X3_worth_56
      rw [env, c_w, if_neg (by decide), Option.bind_some]
      refine p_t rfl ?_
      unfold f_X3_worth_94
      rw [env]
      refine p_t rfl (p_f (nI_ge (a := 0) (b := r.length + 1) (by omega) (by omega)) (p_g g0 (p_g g0 (p_lx (fun B hB => p_l ?_)))))
      rw [p_s1]
      rw [nI_pred, p_cl (by omega)] at hB
      dsimp only at hB
      rw [show (13 : Nat) + 12 = 25 from rfl, hx] at hB
      exact cont _ r B (fuel + 1) (by omega) (by rw [hnx, k3]) hB hr2
    · have el : l_len (st (b + i)).1 = 1 := by unfold l_len; rw [if_neg (by omega)]
      rw [el] at cont
      rw [if_neg (by omega), if_neg (by omega)] at hcd
      have hkd : (5 ≤ l_kd (st (b + i)).1 ∧ l_kd (st (b + i)).1 ≤ 6) ∨ (17 ≤ l_kd (st (b + i)).1 ∧ l_kd (st (b + i)).1 ≤ 25) := by
        rcases k1 with q | q | q | q | q | q | q | q <;> rw [q] <;> decide
      rw [hL] at h4 hlen ⊢
      obtain ⟨hy, hx, hr2⟩ := h4
      simp only [List.length_cons] at hy hlen ⊢
      refine p_t (by rw [hv4, hcd]; exact i_neg (by omega) (by omega)) ?_
      have env : -v4 = nI (l_kd (st (b + i)).1) := by rw [hv4, hcd, Int32.neg_neg]
      unfold f_X3_worth_56
      rw [env, show (8 : Int32) = nI 8 from rfl, show (15 : Int32) = nI 15 from rfl, c_wi N (by decide) (by decide) (by omega), if_neg (by omega), Option.bind_some]
      refine p_t rfl ?_
      unfold f_X3_worth_94
      rw [env]
      refine p_f (b_ne (c := 7) (by omega) (by decide) (by omega)) ?_
      unfold f_X3_worth_130
      rw [env]
      refine p_f (nI_ge (a := 1) (b := r.length + 1 + 1) (by omega) (by omega)) ?_
      rw [i_p1]
      refine p_l ?_
      rw [nI_pred]
      have g1 := p_ix (show r.length + 1 < 40 by omega) (show 40 < 2 ^ 31 by decide)
      have g0 := p_ix (show r.length < 40 by omega) (show 40 < 2 ^ 31 by decide)
      refine p_g g0 (p_g g1 ?_)
      have e1 : Int32.toNatClampNeg (nI r.length) = r.length := p_cl (by omega)
      have e2 : Int32.toNatClampNeg (nI (r.length + 1)) = r.length + 1 := p_cl (by omega)
      have jn : f_X3_joined (nI (l_kd (st (b + i)).1)) (N.1 (13 + 12) (Int32.toNatClampNeg (nI r.length))) (N.1 (13 + 12) (Int32.toNatClampNeg (nI (r.length + 1)))) N = some (v_op (st (b + i)).1 x y, N) := by
        rw [e1, e2, show (13 : Nat) + 12 = 25 from rfl, hx, hy]
        exact c_join k1
      dsimp only
      rw [jn, Option.bind_some]
      refine p_g g0 (p_lx (fun C hC => p_l ?_))
      rw [p_s1]
      rw [e1] at hC
      exact cont _ r C (fuel + 1) (by omega) (by rw [hnx, k3]) hC hr2
theorem c_wor {F : Nat → Int32} {st : Nat → Nat × Int32} {b e k : Nat} {M : zM} (hF : ∀ j, 1 ≤ j → j ≤ 8 → M.1 11 (7 + j) = F j) (hk : l_pos st k ≤ 400) (hbe : b + e ≤ k) (hke : e ≤ 400) (hst : ∀ i, i < k → l_code (M.1 16) (l_pos st i) (st i)) {q : List Bool} (hr : l_run st b e [] = some q) : p_ok (f_X3_worth 13 (nI (l_pos st b)) (nI (l_pos st (b + e))) 11 M) (fun x => (∀ v, v_run F st b e = [v] → x.1 = v) ∧ ∀ a, a ≠ 25 → x.2.1 a = M.1 a) := by
  unfold f_X3_worth
  exact c_evl hF hk hbe hst hr e 0 z_F M (by omega) (by unfold z_F; omega) (fun _ _ => rfl) trivial
