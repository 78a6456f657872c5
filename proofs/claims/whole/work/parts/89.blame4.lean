/-! BLAME: the reference, and the call -/
theorem p_and {β : Type} {a : Option β} {P Q : β → Prop} (h : p_ok a P) (k : ∀ r, a = some r → Q r) : p_ok a (fun r => P r ∧ Q r) := by
  obtain ⟨r, e, hp⟩ := h
  exact ⟨r, e, hp, k r e⟩
theorem p_both {β : Type} {a : Option β} {P Q : β → Prop} (h : p_ok a P) (k : p_ok a Q) : p_ok a (fun r => P r ∧ Q r) := by
  obtain ⟨r, e, hp⟩ := h
  obtain ⟨r', e', hq⟩ := k
  have : r = r' := Option.some.inj (e.symm.trans e')
  subst this
  exact ⟨r, e, hp, hq⟩
theorem m_own2 {a b : Int32} {M : zM} {y : Int32 × zM} (h : f_X11_own a b M = some y) : y.2.2 = M.2 := by
  unfold f_X11_own at h
  obtain ⟨v, ev, h⟩ := z_lo h
  obtain ⟨-, h⟩ := z_gd h
  obtain rfl := Option.some.inj h
  rfl
theorem m_lay12 : ∀ fuel (i : Int32) (N X : zM), f_X11_laysHouses_12 fuel i N = some X → X.2 = N.2 := by
  intro fuel
  induction fuel with
  | zero => intro i N X h; exact z_no h
  | succ fuel ih =>
    intro i N X h
    rw [f_X11_laysHouses_12] at h
    by_cases c : N.1 40 30 ≤ i
    · obtain rfl := Option.some.inj (z_t c h)
      rfl
    · replace h := z_f c h
      obtain ⟨y0, q0, h⟩ := z_bd h
      obtain ⟨-, h⟩ := z_gd h
      obtain ⟨A0, r0, h⟩ := z_lo h
      obtain ⟨y1, q1, h⟩ := z_bd h
      obtain ⟨-, h⟩ := z_gd h
      obtain ⟨A1, r1, h⟩ := z_lo h
      obtain ⟨y2, q2, h⟩ := z_bd h
      obtain ⟨-, h⟩ := z_gd h
      obtain ⟨A2, r2, h⟩ := z_lo h
      obtain ⟨y3, q3, h⟩ := z_bd h
      obtain ⟨-, h⟩ := z_gd h
      obtain ⟨A3, r3, h⟩ := z_lo h
      obtain ⟨y4, q4, h⟩ := z_bd h
      obtain ⟨-, h⟩ := z_gd h
      obtain ⟨A4, r4, h⟩ := z_lo h
      obtain ⟨y5, q5, h⟩ := z_bd h
      obtain ⟨-, h⟩ := z_gd h
      obtain ⟨A5, r5, h⟩ := z_lo h
      obtain ⟨y6, q6, h⟩ := z_bd h
      obtain ⟨-, h⟩ := z_gd h
      obtain ⟨A6, r6, h⟩ := z_lo h
      obtain ⟨y7, q7, h⟩ := z_bd h
      obtain ⟨-, h⟩ := z_gd h
      obtain ⟨A7, r7, h⟩ := z_lo h
      obtain ⟨v, r8, h⟩ := z_lo h
      rw [ih _ _ _ h, r7, p_w2, m_own2 q7, r6, p_w2, m_own2 q6, r5, p_w2, m_own2 q5, r4, p_w2, m_own2 q4, r3, p_w2, m_own2 q3, r2, p_w2, m_own2 q2, r1, p_w2, m_own2 q1, r0, p_w2, m_own2 q0]
theorem m_lay2 {N X : zM} (h : f_X11_laysHouses N = some X) : X.2 = N.2 := by
  unfold f_X11_laysHouses at h
  obtain ⟨A, e, h⟩ := z_lo h
  rw [m_lay12 _ _ _ _ h, e, p_w2]
/-- the reference's sum -/
def b_R (F : Nat → Int32) (N C u c : Nat) : Int64 := ((List.range c).filter (fun d => b_sub d C)).foldl (b_stp F N u) 0
theorem b_RS {w F : Nat → Int32} {n u : Nat} : b_R F (b_k (b_cl w) n) (a_wet (b_cl w) n) u (2 ^ n) = b_S w F n u (2 ^ b_k (b_cl w) n) := by
  unfold b_R b_S
  rw [b_LC, List.foldl_map]
theorem b_p10 {n : Nat} (h : n ≤ 10) : 2 ^ n ≤ 1024 := Nat.pow_le_pow_right (n := 2) (by omega) h
section MB
variable {K n m s T v u : Nat} {X : zM} {w : Nat → Int32}
theorem mb_7 (hw : X.1 41 = w) (h33 : X.1 40 33 = 0) (hW : s_W K w n m) (hs : s < m) (hT : w (180 + 26 * s) = nI T) (hT12 : T ≤ 12) (hsn : ∀ t, t < T → e_s w s t = 0 ∨ e_s w s t = 1) (hv : v < n) {c : Nat} (hc : c < 1024) : ∀ e i fuel (N : zM), i + e = n → e < fuel → r_F X N → N.1 40 30 = nI n → (∀ g, g < n → ∀ j, h_im j → m_r N g j = if g < i then R_b w c g j else w_r w g j) →
    p_ok (f_X11_overAt_7 fuel (nI v) (nI s) (nI c) (nI i) N) (fun x => x.1 = b_F w s T v c ∧ r_F X x.2 ∧ x.2.2 = N.2) := by
  have hn10 := hW.1.2.1
  have hm10 := hW.1.2.2.2
  intro e
  induction e with
  | zero =>
    intro i fuel N h1 h2 hF hn hR
    obtain ⟨fuel, rfl⟩ : ∃ m, fuel = m + 1 := ⟨fuel - 1, by omega⟩
    have : i = n := by omega
    subst this
    rw [f_X11_overAt_7]
    have hR' : ∀ g, g < i → ∀ j, h_im j → m_r N g j = R_b w c g j := fun g hg j hj => by rw [hR g hg j hj, if_pos hg]
    refine p_t (by rw [hn]; exact nI_le (Nat.le_refl _) (by omega)) ?_
    refine p_bx (p_both (m_allT (R := R_b w c) hF hw h33 (by omega) hn hn10 hT hT12 hsn (fun g hg => hW.2.2.2.2.1 g hg) hR') (m_runT (w := w) (R := R_b w c) (by omega) hn hn10 (fun j _ => by rw [hF.1 41 (by omega), hw]) hT hT12 hsn (fun g hg => hW.2.2.2.2.1 g hg) hR')) (fun y hy => p_g (p_ix (show v < 11 by omega) (by decide)) (p_some ?_))
    obtain ⟨⟨y1, y2, y3, y4, y5⟩, -, z2, -⟩ := hy
    dsimp only
    rw [p_cl (by omega)]
    exact ⟨(y5 v hv).2.2, y2, z2⟩
  | succ e ih =>
    intro i fuel N h1 h2 hF hn hR
    obtain ⟨fuel, rfl⟩ : ∃ m, fuel = m + 1 := ⟨fuel - 1, by omega⟩
    have ecl : Int32.toNatClampNeg (nI i) = i := p_cl (by omega)
    have g11 := p_ix (show i < 11 by omega) (show 11 < 2 ^ 31 by decide)
    have go : ∀ (x : Int32) (A : zM), x = (if c.testBit i = true then w_r w i 5 else 0) → A = z_w N 51 i x → p_ok (f_X11_overAt_7 fuel (nI v) (nI s) (nI c) (nI (i + 1)) A) (fun x => x.1 = b_F w s T v c ∧ r_F X x.2 ∧ x.2.2 = N.2) := by
      intro x A hx eA
      have aO : ∀ a, a ≠ 51 → A.1 a = N.1 a := fun a a1 => by rw [eA, p_nr a1]
      refine p_w (ih (i + 1) fuel A (by omega) (by omega) (r_F_tr hF ⟨fun a ha => aO a (by omega), fun j _ _ _ _ _ => by rw [aO 40 (by omega)]⟩) (by rw [aO 40 (by omega)]; exact hn) (fun g hg j hj => ?_)) ?_
      · have hr := hR g hg j hj
        by_cases z5 : j = 5
        · subst z5
          show A.1 51 g = _
          have hr : N.1 51 g = _ := hr
          rw [eA, p_eq]
          by_cases z : g = i
          · rw [if_pos z, if_pos (by omega), hx, z]
            rfl
          · rw [if_neg z, hr]
            by_cases y : g < i
            · rw [if_pos y, if_pos (by omega)]
            · rw [if_neg y, if_neg (by omega)]
        · have e1 : m_r A g j = m_r N g j := by
            unfold m_r
            rw [aO _ (by unfold h_im at hj; rcases hj with rfl | rfl | rfl | rfl | rfl | rfl | rfl | rfl <;> first | exact absurd rfl z5 | decide)]
          rw [e1, hr]
          unfold R_b
          rw [if_neg z5, ite_self, ite_self]
      · rintro y ⟨y1, y2, y3⟩
        exact ⟨y1, y2, by rw [y3, eA, p_w2]⟩
    rw [f_X11_overAt_7]
    refine p_f (by rw [hn]; exact nI_ge (by omega) (by omega)) ?_
    rw [a_bit (by omega) hc]
    by_cases z : c.testBit i = true
    · refine p_t (by rw [if_pos z]) (p_g g11 (p_g g11 (p_lx (fun A eA => p_l ?_))))
      rw [p_s1]
      rw [ecl] at eA
      refine go _ A ?_ eA
      rw [if_pos z]
      have : m_r N i 5 = _ := hR i (by omega) 5 (by unfold h_im; omega)
      rw [if_neg (Nat.lt_irrefl i)] at this
      exact this
    · refine p_f (by rw [if_neg z]; decide) (p_g g11 (p_lx (fun A eA => p_l ?_)))
      rw [p_s1]
      rw [ecl] at eA
      exact go _ A (by rw [if_neg z]) eA
theorem mb_at (hw : X.1 41 = w) (h33 : X.1 40 33 = 0) (hW : s_W K w n m) (hs : s < m) (hT : w (180 + 26 * s) = nI T) (hT12 : T ≤ 12) (hsn : ∀ t, t < T → e_s w s t = 0 ∨ e_s w s t = 1) (hv : v < n) {c : Nat} (hc : c < 1024) {N : zM} (hF : r_F X N) :
    p_ok (f_X11_overAt (nI v) (nI s) (nI c) N) (fun x => x.1 = b_F w s T v c ∧ r_F X x.2 ∧ x.2.2 = N.2) := by
  unfold f_X11_overAt
  refine p_bx (p_and (m_layT hF hw hW.1.1 hW.1.2.1) (fun r hr => m_lay2 hr)) (fun A hA => ?_)
  obtain ⟨⟨a1, a2, a3, a4, a5⟩, a6⟩ := hA
  rw [p_0]
  refine p_w (mb_7 hw h33 hW hs hT hT12 hsn hv hc n 0 z_F A (by omega) (by have := hW.1.2.1; unfold z_F; omega) a1 a4 (fun g hg j hj => by rw [if_neg (Nat.not_lt_zero g)]; exact a5 g hg j hj)) ?_
  rintro y ⟨y1, y2, y3⟩
  exact ⟨y1, y2, by rw [y3, a6]⟩
/-- what is told of a share -/
def b_ans (what : Int32) (S : Int64) (g N : Nat) : Int64 := if what = 0 then S / lN g else lN (b_f N) / lN g
theorem mb_190 (hw : X.1 41 = w) (hW : s_W K w n m) (hu : u < n) (hN : b_k (b_cl w) n ≤ 7) (hcl : ¬ b_cl w u ≤ 0) {F : Nat → Int32} (hFi : ∀ c, i_in (F c) 0 71829504) {what : Int32} {S : Int64} (hS : S = b_S w F n u (2 ^ b_k (b_cl w) n)) {g : Nat} (hg : g = Nat.gcd (b_Ab S) (b_f (b_k (b_cl w) n))) {N : zM} (hF : r_F X N) (h58 : ∀ d, d < 2 ^ n → b_sub d (a_wet (b_cl w) n) = true → N.2 58 d = Int32.toInt64 (F d)) : ∀ e c fuel, c + e = 2 ^ n → e < fuel →
    p_ok (f_X11_blame_190 fuel (nI u) what (nI (a_wet (b_cl w) n)) (nI (b_k (b_cl w) n)) (b_R F (b_k (b_cl w) n) (a_wet (b_cl w) n) u c) (nI c) N) (fun x => x.1 = b_ans what S g (b_k (b_cl w) n) ∧ r_F X x.2) := by
  have hn10 := hW.1.2.1
  have hp7 := b_p7 hN
  have hp10 := b_p10 hn10
  have e41 : N.1 41 (Int32.toNatClampNeg (0 : Int32)) = nI n := by rw [hF.1 41 (by omega), hw]; exact hW.1.1
  have hk := b_k_lt (cl := b_cl w) hu hcl
  have hC := a_wet_lt (b_cl w) n
  intro e
  induction e with
  | zero =>
    intro c fuel h1 h2
    obtain ⟨fuel, rfl⟩ : ∃ m, fuel = m + 1 := ⟨fuel - 1, by omega⟩
    have : c = 2 ^ n := by omega
    subst this
    rw [f_X11_blame_190]
    refine p_t (by rw [e41, a_sh hn10]; exact nI_le (Nat.le_refl _) (by omega)) ?_
    rw [m_orders 12 _ (by omega) (by omega), Option.bind_some, b_RS, ← hS]
    dsimp only
    obtain ⟨f1, f2⟩ := b_f_le (k := b_k (b_cl w) n) (by omega)
    have hb := b_fold_in (u := u) (ph := fun d => b_ph (b_cl w) d n) hFi hN (List.range (2 ^ b_k (b_cl w) n)) 0 0 (fun d hd => by
      rw [List.mem_range] at hd
      rw [b_pop_10 (b_ph_lt (b_cl w) d n) hn10, b_pop_ph]
      exact Nat.le_trans (b_pop_le _) hN) (by rw [List.length_range]; omega) (by decide) (by decide)
    rw [show (List.range (2 ^ b_k (b_cl w) n)).foldl (fun a c => b_stp F (b_k (b_cl w) n) u a ((fun d => b_ph (b_cl w) d n) c)) 0 = S from hS.symm] at hb
    obtain ⟨a1, a2, a3⟩ := b_abs hb.1 hb.2
    have hgp : 0 < Nat.gcd (b_Ab S) (b_f (b_k (b_cl w) n)) := Nat.gcd_pos_of_pos_right _ (by omega)
    have key := b_307 (M := N) (i4 := what) (j7 := S) (j9 := lN (b_f (b_k (b_cl w) n))) 13 (b_Ab S) (b_f (b_k (b_cl w) n)) z_F a3 (by omega) (by omega) (by omega) (by unfold z_F; omega)
    rw [← hg] at key
    by_cases z : 0 ≤ S
    · refine p_t ((lg_cmp_ge _ _).mpr z) ?_
      rw [if_pos z] at a2
      rw [← a2] at key
      rw [key]
      exact p_some ⟨rfl, hF⟩
    · refine p_f (fun q => z ((lg_cmp_ge _ _).mp q)) (p_l ?_)
      rw [if_neg z] at a2
      rw [a2, key]
      exact p_some ⟨rfl, hF⟩
  | succ e ih =>
    intro c fuel h1 h2
    obtain ⟨fuel, rfl⟩ : ∃ m, fuel = m + 1 := ⟨fuel - 1, by omega⟩
    have k := ih (c + 1) fuel (by omega) (by omega)
    have eR : b_R F (b_k (b_cl w) n) (a_wet (b_cl w) n) u (c + 1) = if b_sub c (a_wet (b_cl w) n) = true then b_stp F (b_k (b_cl w) n) u (b_R F (b_k (b_cl w) n) (a_wet (b_cl w) n) u c) c else b_R F (b_k (b_cl w) n) (a_wet (b_cl w) n) u c := by
      unfold b_R
      rw [List.range_succ, List.filter_append, List.foldl_append]
      by_cases z : b_sub c (a_wet (b_cl w) n) = true
      · rw [List.filter_cons_of_pos (p := fun d => b_sub d (a_wet (b_cl w) n)) z, if_pos z]; rfl
      · rw [List.filter_cons_of_neg (p := fun d => b_sub d (a_wet (b_cl w) n)) z, if_neg z]; rfl
    rw [eR] at k
    rw [f_X11_blame_190]
    refine p_f (by rw [e41, a_sh hn10]; exact nI_ge (by omega) (by omega)) ?_
    by_cases z : b_sub c (a_wet (b_cl w) n) = true
    · refine p_t ((b_subI (by omega)).mpr z) ?_
      rw [if_pos z] at k
      unfold b_stp at k
      rw [a_bit (by omega) (by omega)]
      by_cases y : c.testBit u = true
      · refine p_t (by rw [if_pos y]) (p_l ?_)
        rw [p_s1]
        rw [if_pos y] at k
        exact k
      · refine p_f (by rw [if_neg y]; decide) ?_
        rw [if_neg y] at k
        have hmem : c ∈ (List.range (2 ^ n)).filter (fun d => b_sub d (a_wet (b_cl w) n)) := List.mem_filter.mpr ⟨List.mem_range.mpr (by omega), z⟩
        rw [b_LC, List.mem_map] at hmem
        obtain ⟨d, hd, ed⟩ := hmem
        rw [List.mem_range] at hd
        have hpop : b_pop c.testBit 10 + 1 ≤ b_k (b_cl w) n := by
          rw [← ed, b_pop_10 (b_ph_lt (b_cl w) d n) hn10, b_pop_ph]
          refine b_pop_l1 (j := b_k (b_cl w) u) ?_ _ hk
          have : (b_ph (b_cl w) d n).testBit u = d.testBit (b_k (b_cl w) u) := by rw [b_ph_tb]; simp [hu, hcl]
          rw [← this, ed]
          exact Bool.eq_false_iff.mpr y
        have hu10 : 2 ^ u < 2 ^ n := Nat.pow_lt_pow_right (by omega) hu
        have hor : c ||| 2 ^ u < 2 ^ n := Nat.or_lt_two_pow (by omega) hu10
        have hsub : b_sub (c ||| 2 ^ u) (a_wet (b_cl w) n) = true := by
          rw [b_sub_iff]
          intro q hq
          rw [Nat.testBit_or, Nat.testBit_two_pow] at hq
          by_cases x : u = q
          · rw [← x, b_wet_tb]; simp [hu, hcl]
          · exact b_sub_iff.mp z q (by simpa [x] using hq)
        have ev6 : nI (b_k (b_cl w) n) - 1 - nI (b_pop c.testBit 10) = nI (b_k (b_cl w) n - 1 - b_pop c.testBit 10) := by
          rw [show nI (b_k (b_cl w) n) = nI (b_k (b_cl w) n - 1 + 1) from by rw [Nat.sub_add_cancel (by omega)], nI_pred, n_sb (by omega) (by omega)]
        rw [m_cnt (by omega), Option.bind_some]
        dsimp only
        rw [m_orders 12 _ (by omega) (by omega), Option.bind_some]
        dsimp only
        rw [m_cnt (by omega), Option.bind_some]
        dsimp only
        rw [ev6, m_orders 12 _ (by omega) (by omega), Option.bind_some]
        dsimp only
        rw [a_sh (by omega), b_orI]
        refine p_l (p_g (p_ix (show c ||| 2 ^ u < 1024 by omega) (by decide)) (p_g (p_ix (show c < 1024 by omega) (by decide)) (p_l (p_l ?_))))
        rw [p_cl (by omega), p_cl (by omega), p_s1, h58 _ hor hsub, h58 c (by omega) z]
        unfold b_G at k
        exact k
    · refine p_f (fun q => z ((b_subI (by omega)).mp q)) (p_l ?_)
      rw [p_s1]
      rw [if_neg z] at k
      exact k
theorem mb_139 (hw : X.1 41 = w) (h33 : X.1 40 33 = 0) (hW : s_W K w n m) (hK : K ≤ 8000) (hs : s < m) (hT : w (180 + 26 * s) = nI T) (hT12 : T ≤ 12) (hsn : ∀ t, t < T → e_s w s t = 0 ∨ e_s w s t = 1) (hv : v < n) (hu : u < n) (hN : b_k (b_cl w) n ≤ 7) (hcl : ¬ b_cl w u ≤ 0) {what : Int32} {S : Int64} (hS : S = b_S w (b_F w s T v) n u (2 ^ b_k (b_cl w) n)) {g : Nat} (hg : g = Nat.gcd (b_Ab S) (b_f (b_k (b_cl w) n))) : ∀ e c fuel (N : zM), c + e = 2 ^ n → e < fuel → r_F X N → (∀ d, d < c → b_sub d (a_wet (b_cl w) n) = true → N.2 58 d = Int32.toInt64 (b_F w s T v d)) →
    p_ok (f_X11_blame_139 fuel (nI v) (nI u) (nI s) what (nI (a_wet (b_cl w) n)) (nI (b_k (b_cl w) n)) (nI c) N) (fun x => x.1 = b_ans what S g (b_k (b_cl w) n) ∧ r_F X x.2) := by
  have hn10 := hW.1.2.1
  have hp10 := b_p10 hn10
  have e41 : ∀ N, r_F X N → N.1 41 (Int32.toNatClampNeg (0 : Int32)) = nI n := fun N hF => by rw [hF.1 41 (by omega), hw]; exact hW.1.1
  intro e
  induction e with
  | zero =>
    intro c fuel N h1 h2 hF h58
    obtain ⟨fuel, rfl⟩ : ∃ m, fuel = m + 1 := ⟨fuel - 1, by omega⟩
    have : c = 2 ^ n := by omega
    subst this
    rw [f_X11_blame_139]
    refine p_t (by rw [e41 N hF, a_sh hn10]; exact nI_le (Nat.le_refl _) (by omega)) ?_
    exact mb_190 hw hW hu hN hcl (b_bI hW hK hs hT12 hv) hS hg hF h58 (2 ^ n) 0 z_F (by omega) (by unfold z_F; omega)
  | succ e ih =>
    intro c fuel N h1 h2 hF h58
    obtain ⟨fuel, rfl⟩ : ∃ m, fuel = m + 1 := ⟨fuel - 1, by omega⟩
    rw [f_X11_blame_139]
    refine p_f (by rw [e41 N hF, a_sh hn10]; exact nI_ge (by omega) (by omega)) ?_
    by_cases z : b_sub c (a_wet (b_cl w) n) = true
    · refine p_t ((b_subI (by omega)).mpr z) ?_
      refine p_bx (mb_at hw h33 hW hs hT hT12 hsn hv (show c < 1024 by omega) hF) (fun y hy => p_g (p_ix (show c < 1024 by omega) (by decide)) (p_lx (fun A eA => p_l ?_)))
      obtain ⟨y1, y2, y3⟩ := hy
      rw [p_cl (by omega)] at eA
      rw [p_s1]
      refine ih (c + 1) fuel A (by omega) (by omega) (by rw [eA]; exact y2) (fun d hd hsub => ?_)
      rw [eA]
      show (if 58 = 58 ∧ d = c then _ else y.2.2 58 d) = _
      by_cases q : d = c
      · rw [if_pos ⟨rfl, q⟩, y1, q]
      · rw [if_neg (fun x => q x.2), y3]
        exact h58 d (by omega) hsub
    · refine p_f (fun q => z ((b_subI (by omega)).mp q)) (p_l ?_)
      rw [p_s1]
      refine ih (c + 1) fuel N (by omega) (by omega) hF (fun d hd hsub => ?_)
      by_cases q : d = c
      · rw [q] at hsub; exact absurd hsub z
      · exact h58 d (by omega) hsub
/-- what blame answers -/
def b_tell (w : Nat → Int32) (s T n v : Nat) (b what : Int32) : Int64 :=
  if 7 < b_k (b_cl w) n then -1
  else if what = 2 then Int32.toInt64 (b_F w s T v 0)
  else if b_cl w (Int32.toNatClampNeg b) ≤ 0 then Int32.toInt64 what
  else b_ans what (b_S w (b_F w s T v) n (Int32.toNatClampNeg b) (2 ^ b_k (b_cl w) n)) (Nat.gcd (b_Ab (b_S w (b_F w s T v) n (Int32.toNatClampNeg b) (2 ^ b_k (b_cl w) n))) (b_f (b_k (b_cl w) n))) (b_k (b_cl w) n)
theorem mb_50 (hw : X.1 41 = w) (h33 : X.1 40 33 = 0) (hW : s_W K w n m) (hK : K ≤ 8000) (hs : s < m) (hT : w (180 + 26 * s) = nI T) (hT12 : T ≤ 12) (hsn : ∀ t, t < T → e_s w s t = 0 ∨ e_s w s t = 1) (hv : v < n) {b what : Int32} (hb : what = 2 ∨ ∃ u, u < n ∧ b = nI u) : ∀ e i fuel, i + e = n → e < fuel →
    p_ok (f_X11_blame_50 fuel (nI v) b (nI s) what (nI (a_wet (b_cl w) i)) (nI i) X) (fun x => x.1 = b_tell w s T n v b what ∧ r_F X x.2) := by
  have hn10 := hW.1.2.1
  have hp10 := b_p10 hn10
  have e41 : X.1 41 (Int32.toNatClampNeg (0 : Int32)) = nI n := by rw [hw]; exact hW.1.1
  have hC := a_wet_lt (b_cl w) n
  intro e
  induction e with
  | zero =>
    intro i fuel h1 h2
    obtain ⟨fuel, rfl⟩ : ∃ m, fuel = m + 1 := ⟨fuel - 1, by omega⟩
    have : i = n := by omega
    subst this
    have hkn := b_k_le (cl := b_cl w) i
    rw [f_X11_blame_50]
    refine p_t (by rw [e41]; exact nI_le (Nat.le_refl _) (by omega)) ?_
    rw [m_cnt (by omega), Option.bind_some, b_pop_10 hC hn10, b_pop_wet]
    dsimp only
    unfold b_tell
    by_cases z : b_k (b_cl w) i ≤ 7
    · refine p_t (nI_le (b := 7) z (by omega)) ?_
      rw [if_neg (show ¬ 7 < b_k (b_cl w) i by omega)]
      by_cases y : what = 2
      · rw [if_pos y, if_pos y, p_0]
        refine p_bx (mb_at hw h33 hW hs hT hT12 hsn hv (show 0 < 1024 by omega) (r_F_rfl X)) (fun q hq => p_some ?_)
        exact ⟨by rw [hq.1], hq.2.1⟩
      · rw [if_neg y, if_neg y]
        obtain ⟨u, hu, rfl⟩ := hb.resolve_left y
        rw [p_cl (by omega), a_bit (by omega) (by omega), b_wet_tb]
        by_cases x : b_cl w u ≤ 0
        · rw [if_pos x]
          refine p_t (by simp [x]) (p_some ⟨rfl, r_F_rfl X⟩)
        · rw [if_neg x]
          refine p_f (by simp [hu, x]) ?_
          rw [p_0]
          exact mb_139 hw h33 hW hK hs hT hT12 hsn hv hu z x rfl rfl (2 ^ i) 0 z_F X (by omega) (by unfold z_F; omega) (r_F_rfl X) (fun d hd => absurd hd (Nat.not_lt_zero d))
    · refine p_f (nI_ge (a := 7) (by omega) (by omega)) (p_some ?_)
      rw [if_pos (show 7 < b_k (b_cl w) i by omega)]
      exact ⟨rfl, r_F_rfl X⟩
  | succ e ih =>
    intro i fuel h1 h2
    obtain ⟨fuel, rfl⟩ : ∃ m, fuel = m + 1 := ⟨fuel - 1, by omega⟩
    have k := ih (i + 1) fuel (by omega) (by omega)
    rw [f_X11_blame_50]
    refine p_f (by rw [e41]; exact nI_ge (by omega) (by omega)) ?_
    rw [show f_X11_own (nI i) (5 : Int32) X = _ from m_own (f := 5) (by omega) (by omega), Option.bind_some]
    dsimp only
    rw [hw]
    by_cases z : b_cl w i ≤ 0
    · refine p_t z (p_l (p_l ?_))
      rw [a_or0, p_s1]
      rw [show a_wet (b_cl w) (i + 1) = a_wet (b_cl w) i from by show a_wet (b_cl w) i + (if b_cl w i ≤ 0 then 0 else 2 ^ i) = _; rw [if_pos z]; rfl] at k
      exact k
    · refine p_f z (p_l (p_l ?_))
      rw [a_or (by omega) (a_wet_lt (b_cl w) i), p_s1]
      rw [show a_wet (b_cl w) (i + 1) = a_wet (b_cl w) i + 2 ^ i from by show a_wet (b_cl w) i + (if b_cl w i ≤ 0 then 0 else 2 ^ i) = _; rw [if_neg z]] at k
      exact k
end MB
theorem b_ph0 (cl : Nat → Int32) : ∀ n, b_ph cl 0 n = 0 := by
  intro n
  induction n with
  | zero => rfl
  | succ n ih => rw [b_ph, ih, Nat.zero_testBit]; simp
theorem cb_44 {K n m s T v : Nat} {M : zM} {w : Nat → Int32} {b what : Int32} (hW : s_W K w n m) (hK : K ≤ 8000) (hC : s_C 1 M w n m) (hs : s < m) (hX : t_X M w s T) (hT : T ≤ 12) (hv : v < n) (hwh : what = 0 ∨ what = 1 ∨ what = 2) (hb : what = 2 ∨ ∃ u, u < n ∧ b = nI u) :
    p_ok (f_X10_blame_44 (nI v) b (nI s) what M) (fun x => x.1 = b_tell w s T n v b what ∧ t_F M x.2) := by
  have hn10 := hW.1.2.1
  have hm10 := hW.1.2.2.2
  unfold f_X10_blame_44
  refine p_bx (cb_ch hW hC) (fun y hy => ?_)
  obtain ⟨y1, y2⟩ := hy
  unfold b_tell
  rcases y2 with ⟨h7, y2, y3⟩ | ⟨h7, y2⟩
  · refine p_f (by rw [y2]; exact b_1z) ?_
    rw [if_neg (show ¬ 7 < b_k (b_cl w) n by omega)]
    by_cases z : what = 2
    · rw [if_pos z, if_pos z]
      refine p_g (p_ix (show s < 10 by omega) (by decide)) ?_
      rw [p_cl (by omega), c_ra9, p_0]
      refine p_bx (cb_ow hW hC hX hv h7 (show 0 < 128 by omega) y1 y3) (fun q hq => p_some ?_)
      obtain ⟨q1, q2, q3⟩ := hq
      exact ⟨by rw [q1, b_ph0], q2⟩
    · rw [if_neg z, if_neg z]
      obtain ⟨u, hu, rfl⟩ := hb.resolve_left z
      refine p_g (p_ix (show s < 10 by omega) (by decide)) ?_
      rw [p_cl (show s < 2 ^ 31 by omega), c_ra9, p_cl (show u < 2 ^ 31 by omega)]
      refine p_bx (cb_weigh hW hK hC hs hX hT hv hu h7 rfl rfl y1 y3) (fun q hq => ?_)
      obtain ⟨q1, q2⟩ := hq
      rcases q2 with ⟨q2, q3, q4⟩ | ⟨q2, q3, q4⟩
      · rw [if_pos q2]
        rcases hwh with rfl | rfl | rfl
        · exact p_t rfl (p_some ⟨q3, q1⟩)
        · exact p_f b_1z (p_some ⟨q4, q1⟩)
        · exact absurd rfl z
      · rw [if_neg q2]
        unfold b_ans
        by_cases x : what = 0
        · rw [if_pos x, if_pos x]; exact p_some ⟨q3, q1⟩
        · rw [if_neg x, if_neg x]; exact p_some ⟨q4, q1⟩
  · refine p_t y2 (p_some ?_)
    rw [if_pos h7]
    exact ⟨rfl, y1⟩
/-- blame -/
theorem p_blame {K : Nat} {M : zM} {a b c d : Int32} (h : s_I K M) (hK : K ≤ 8000) : p_2 K (f_X10_blame a b c d M) (f_X11_blame a b c d) := by
  obtain ⟨n, m, hW, hC⟩ := h.1
  have hn10 := hW.1.2.1
  have e3 := (c_cnt hW hC).1
  have e0 : M.1 41 0 = nI n := hW.1.1
  by_cases ca : ¬ a < 0 ∧ ¬ (nI n - 1) < a
  · obtain ⟨v, hv, rfl⟩ := i_nat (by omega) ca.1 ca.2
    rcases t_st (a := c) hW hC with ⟨c1, c2⟩ | ⟨s, hs, hs10, rfl, c1, c2⟩
    · refine p_same (v := -1) h ?_ ?_
      · unfold f_X10_blame
        rw [c_isH, e3, if_pos ca, Option.bind_some]
        dsimp only
        rw [if_neg b_1z, c1, Option.bind_some]
        rfl
      · unfold f_X11_blame
        rw [m_isH, e0, if_pos ca, Option.bind_some]
        dsimp only
        rw [if_neg b_1z, c2 M rfl, Option.bind_some]
        rfl
    · by_cases cd : ¬ d < 0 ∧ ¬ (2 : Int32) < d
      · have hd : d = 0 ∨ d = 1 ∨ d = 2 := by
          obtain ⟨j, -, hj, rfl⟩ := i_num (a := 0) (b := 2) (by decide) (by decide) cd
          have : j = 0 ∨ j = 1 ∨ j = 2 := by omega
          rcases this with rfl | rfl | rfl
          · exact Or.inl rfl
          · exact Or.inr (Or.inl rfl)
          · exact Or.inr (Or.inr rfl)
        obtain ⟨T, T1, T2, T3, T4, hsn⟩ := t_X_of (X := M) hW hC (t_F_rfl M) hs
        have core : (d = 2 ∨ ∃ u, u < n ∧ b = nI u) → p_ok (f_X10_blame_44 (nI v) b (nI s) d M) (fun x => t_F M x.2 ∧ p_ok (f_X11_blame_50 z_F (nI v) b (nI s) d (0 : Int32) (0 : Int32) x.2) (fun y => x.1 = y.1 ∧ s_I (K + 1) y.2)) := fun hb => by
          refine p_w (cb_44 hW hK hC hs T4 T2 hv hd hb) ?_
          rintro x ⟨x1, x2⟩
          have e41 : x.2.1 41 = M.1 41 := x2 41 (by omega)
          have e33 : x.2.1 40 33 = 0 := by rw [x2 40 (by omega)]; exact h.2.2.2.2
          refine ⟨x2, ?_⟩
          have key := mb_50 (X := x.2) e41 e33 hW hK hs T3 T2 hsn hv hb n 0 z_F (by omega) (by unfold z_F; omega)
          refine p_w key ?_
          rintro y ⟨y1, y2⟩
          exact ⟨by rw [x1, y1], s_I_th h x2 y2⟩
        have open1 : ∀ X : zM, X.1 41 = M.1 41 → f_X11_blame (nI v) b (nI s) d X = (if (2 : Int32) ≤ d then f_X11_blame_50 z_F (nI v) b (nI s) d (0 : Int32) (0 : Int32) X else (f_X11_isHouse b X).bind fun x8 => if x8.1 = 0 then some ((-1 : Int64), x8.2) else f_X11_blame_50 z_F (nI v) b (nI s) d (0 : Int32) (0 : Int32) x8.2) := fun X hX => by
          unfold f_X11_blame
          rw [m_isH, hX, e0, if_pos ca, Option.bind_some]
          dsimp only
          rw [if_neg b_1z, c2 X hX, Option.bind_some]
          dsimp only
          rw [if_neg b_1z, m_w, if_pos cd, Option.bind_some]
          dsimp only
          rw [if_neg b_1z]
        have open0 : f_X10_blame (nI v) b (nI s) d M = (if d = (2 : Int32) then f_X10_blame_44 (nI v) b (nI s) d M else (f_X10_isHouse b M).bind fun x8 => if x8.1 = 0 then some ((-1 : Int64), x8.2) else f_X10_blame_44 (nI v) b (nI s) d x8.2) := by
          unfold f_X10_blame
          rw [c_isH, e3, if_pos ca, Option.bind_some]
          dsimp only
          rw [if_neg b_1z, c1 M rfl, Option.bind_some]
          dsimp only
          rw [if_neg b_1z, c_w, if_pos cd, Option.bind_some]
          dsimp only
          rw [if_neg b_1z]
        by_cases z : d = 2
        · unfold p_2
          rw [open0, if_pos z]
          refine p_w (core (Or.inl z)) ?_
          rintro x ⟨x1, x2⟩
          rw [open1 x.2 (x1 41 (by omega)), if_pos (by rw [z]; decide)]
          exact x2
        · have z2 : ¬ (2 : Int32) ≤ d := by
            rcases hd with rfl | rfl | rfl
            · decide
            · decide
            · exact absurd rfl z
          by_cases cb : ¬ b < 0 ∧ ¬ (nI n - 1) < b
          · unfold p_2
            rw [open0, if_neg z, c_isH, e3, if_pos cb, Option.bind_some]
            dsimp only
            rw [if_neg b_1z]
            obtain ⟨u, hu, hbu⟩ := i_nat (by omega) cb.1 cb.2
            refine p_w (core (Or.inr ⟨u, hu, hbu⟩)) ?_
            rintro x ⟨x1, x2⟩
            rw [open1 x.2 (x1 41 (by omega)), if_neg z2, m_isH, x1 41 (by omega), e0, if_pos cb, Option.bind_some]
            dsimp only
            rw [if_neg b_1z]
            exact x2
          · refine p_same (v := -1) h ?_ ?_
            · rw [open0, if_neg z, c_isH, e3, if_neg cb, Option.bind_some]
              rfl
            · rw [open1 M rfl, if_neg z2, m_isH, e0, if_neg cb, Option.bind_some]
              rfl
      · refine p_same (v := -1) h ?_ ?_
        · unfold f_X10_blame
          rw [c_isH, e3, if_pos ca, Option.bind_some]
          dsimp only
          rw [if_neg b_1z, c1 M rfl, Option.bind_some]
          dsimp only
          rw [if_neg b_1z, c_w, if_neg cd, Option.bind_some]
          rfl
        · unfold f_X11_blame
          rw [m_isH, e0, if_pos ca, Option.bind_some]
          dsimp only
          rw [if_neg b_1z, c2 M rfl, Option.bind_some]
          dsimp only
          rw [if_neg b_1z, m_w, if_neg cd, Option.bind_some]
          rfl
  · refine p_same (v := -1) h ?_ ?_
    · unfold f_X10_blame
      rw [c_isH, e3, if_neg ca, Option.bind_some]
      rfl
    · unfold f_X11_blame
      rw [m_isH, e0, if_neg ca, Option.bind_some]
      rfl
