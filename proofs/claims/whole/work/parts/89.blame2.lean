/-! BLAME: numbers -/
theorem l_adI {a b : Int64} (h1 : -2 ^ 63 ≤ a.toInt + b.toInt) (h2 : a.toInt + b.toInt < 2 ^ 63) : (a + b).toInt = a.toInt + b.toInt := by
  rw [Int64.toInt_add]
  exact Int.bmod_eq_of_le (by omega) (by omega)
theorem l_sbI {a b : Int64} (h1 : -2 ^ 63 ≤ a.toInt - b.toInt) (h2 : a.toInt - b.toInt < 2 ^ 63) : (a - b).toInt = a.toInt - b.toInt := by
  rw [Int64.toInt_sub]
  exact Int.bmod_eq_of_le (by omega) (by omega)
theorem l_muI {a b : Int64} (h1 : -2 ^ 63 ≤ a.toInt * b.toInt) (h2 : a.toInt * b.toInt < 2 ^ 63) : (a * b).toInt = a.toInt * b.toInt := by
  rw [Int64.toInt_mul]
  exact Int.bmod_eq_of_le (by omega) (by omega)
def b_f : Nat → Nat
  | 0 => 1
  | k + 1 => (k + 1) * b_f k
theorem b_f_or {k : Nat} (hk : k < 8) : Int32.toInt64 (z_orL.getD k 0) = lN (b_f k) := by
  have d : ∀ k : Fin 8, Int32.toInt64 (z_orL.getD k.1 0) = lN (b_f k.1) := by decide +kernel
  exact d ⟨k, hk⟩
theorem b_f_le {k : Nat} (hk : k < 8) : 1 ≤ b_f k ∧ b_f k ≤ 5040 := by
  have d : ∀ k : Fin 8, 1 ≤ b_f k.1 ∧ b_f k.1 ≤ 5040 := by decide +kernel
  exact d ⟨k, hk⟩
theorem m_orders {M : zM} : ∀ d k, k < d → k < 100 → f_X11_orders d (nI k) M = some (lN (b_f k), M) := by
  intro d
  induction d with
  | zero => intro k h; exact absurd h (Nat.not_lt_zero k)
  | succ d ih =>
    intro k h h8
    rw [f_X11_orders]
    unfold f_X11_orders_b
    by_cases z : 2 ≤ k
    · obtain ⟨j, rfl⟩ : ∃ j, k = j + 1 := ⟨k - 1, by omega⟩
      rw [if_pos (show (2 : Int32) ≤ nI (j + 1) from nI_le (a := 2) z (by omega)), nI_pred, ih j (by omega) (by omega), Option.bind_some]
      dsimp only
      rw [nI_l (by omega), lN_mul]
      rfl
    · rw [if_neg (show ¬ (2 : Int32) ≤ nI k from nI_ge (b := 2) (by omega) (by omega))]
      have : k = 0 ∨ k = 1 := by omega
      rcases this with rfl | rfl <;> rfl
theorem m_cnt4 {c : Nat} {M : zM} (hc : c < 1024) : ∀ e i fuel, i + e = 10 → e < fuel → f_X11_count_4 fuel (nI c) (nI (b_pop c.testBit i)) (nI i) M = some (nI (b_pop c.testBit 10), M) := by
  intro e
  induction e with
  | zero =>
    intro i fuel h1 h2
    obtain ⟨fuel, rfl⟩ : ∃ m, fuel = m + 1 := ⟨fuel - 1, by omega⟩
    have : i = 10 := by omega
    subst this
    rw [f_X11_count_4, if_pos (by decide)]
  | succ e ih =>
    intro i fuel h1 h2
    obtain ⟨fuel, rfl⟩ : ∃ m, fuel = m + 1 := ⟨fuel - 1, by omega⟩
    rw [f_X11_count_4, if_neg (show ¬ (10 : Int32) ≤ nI i from nI_ge (b := 10) (by omega) (by omega))]
    unfold z_l
    rw [a_bit (by omega) hc, p_s1, ← ih (i + 1) fuel (by omega) (by omega), b_pop]
    by_cases z : c.testBit i = true
    · rw [if_pos z, if_pos z, p_s1]
    · rw [if_neg z, if_neg z, i_add0]
      rfl
theorem m_cnt {c : Nat} {M : zM} (hc : c < 1024) : f_X11_count (nI c) M = some (nI (b_pop c.testBit 10), M) := by
  unfold f_X11_count
  exact m_cnt4 hc 10 0 z_F (by omega) (by unfold z_F; omega)
theorem c_bitc {c : Nat} {M : zM} (hc : c < 128) : f_J6_bitCount_0f7a4 (nI c) M = some (nI (b_pop c.testBit 10), M) := by
  have e : f_J6_bitCount_0f7a4 (nI c) M = some (((f_J6_bitCount_0f7a4 (nI c) (fun _ _ => 0, fun _ _ => 0)).map Prod.fst).getD 0, M) := rfl
  have d : ∀ c : Fin 128, ((f_J6_bitCount_0f7a4 (nI c.1) (fun _ _ => 0, fun _ _ => 0)).map Prod.fst).getD 0 = nI (b_pop c.1.testBit 10) := by decide +kernel
  rw [e, d ⟨c, hc⟩]
/-! sums -/
def b_G (F : Nat → Int32) (N u c : Nat) : Int64 := lN (b_f (b_pop c.testBit 10)) * lN (b_f (N - 1 - b_pop c.testBit 10)) * (Int32.toInt64 (F (c ||| 2 ^ u)) - Int32.toInt64 (F c))
def b_stp (F : Nat → Int32) (N u : Nat) (a : Int64) (c : Nat) : Int64 := if c.testBit u = true then a else a + b_G F N u c
theorem b_i64 (x : Int32) : (Int32.toInt64 x).toInt = x.toInt := Int32.toInt_toInt64 x
theorem b_sb64 {x y : Int32} (h1 : i_in x 0 71829504) (h2 : i_in y 0 71829504) : Int32.toInt64 (x - y) = Int32.toInt64 x - Int32.toInt64 y := by
  unfold i_in at h1 h2
  apply Int64.toInt_inj.mp
  rw [b_i64, i_sbI (by omega) (by omega), l_sbI (by rw [b_i64, b_i64]; omega) (by rw [b_i64, b_i64]; omega), b_i64, b_i64]
theorem b_G_in {F : Nat → Int32} {N u c : Nat} (hF : ∀ c, i_in (F c) 0 71829504) (h1 : b_pop c.testBit 10 ≤ 7) (hN : N ≤ 7) : -2000000000000000 ≤ (b_G F N u c).toInt ∧ (b_G F N u c).toInt ≤ 2000000000000000 := by
  obtain ⟨a1, a2⟩ := b_f_le (k := b_pop c.testBit 10) (by omega)
  obtain ⟨c1, c2⟩ := b_f_le (k := N - 1 - b_pop c.testBit 10) (by omega)
  obtain ⟨x1, x2⟩ := hF (c ||| 2 ^ u)
  obtain ⟨y1, y2⟩ := hF c
  unfold b_G
  generalize b_f (b_pop c.testBit 10) = A at *
  generalize b_f (N - 1 - b_pop c.testBit 10) = B at *
  have hAB : A * B ≤ 5040 * 5040 := Nat.mul_le_mul a2 c2
  have ed : (Int32.toInt64 (F (c ||| 2 ^ u)) - Int32.toInt64 (F c)).toInt = (F (c ||| 2 ^ u)).toInt - (F c).toInt := by
    rw [l_sbI (by rw [b_i64, b_i64]; omega) (by rw [b_i64, b_i64]; omega), b_i64, b_i64]
  generalize hD : Int32.toInt64 (F (c ||| 2 ^ u)) - Int32.toInt64 (F c) = D at *
  have dl : -71829504 ≤ D.toInt := by rw [ed]; omega
  have du : D.toInt ≤ 71829504 := by rw [ed]; omega
  rw [lN_mul]
  have eP : (lN (A * B)).toInt = ((A * B : Nat) : Int) := lN_toInt (by omega)
  have p0 : (0 : Int) ≤ ((A * B : Nat) : Int) := Int.natCast_nonneg _
  have pu : ((A * B : Nat) : Int) ≤ 25401600 := by omega
  generalize ((A * B : Nat) : Int) = P at *
  have u1 : P * D.toInt ≤ P * 71829504 := Int.mul_le_mul_of_nonneg_left du p0
  have l1 : P * (-71829504) ≤ P * D.toInt := Int.mul_le_mul_of_nonneg_left dl p0
  have em : (lN (A * B) * D).toInt = P * D.toInt := by
    rw [l_muI (by rw [eP]; omega) (by rw [eP]; omega), eP]
  rw [em]
  omega
theorem b_fold_in {F : Nat → Int32} {N u : Nat} {ph : Nat → Nat} (hF : ∀ c, i_in (F c) 0 71829504) (hN : N ≤ 7) : ∀ (l : List Nat) (a : Int64) (B : Nat), (∀ c, c ∈ l → b_pop (ph c).testBit 10 ≤ 7) → B + l.length ≤ 2000 → -((B : Int) * 2000000000000000) ≤ a.toInt → a.toInt ≤ (B : Int) * 2000000000000000 →
    -4000000000000000000 ≤ (l.foldl (fun a c => b_stp F N u a (ph c)) a).toInt ∧ (l.foldl (fun a c => b_stp F N u a (ph c)) a).toInt ≤ 4000000000000000000 := by
  intro l
  induction l with
  | nil => intro a B _ h1 h2 h3; rw [List.foldl_nil]; rw [List.length_nil] at h1; omega
  | cons c l ih =>
    intro a B hp h1 h2 h3
    rw [List.foldl_cons]
    rw [List.length_cons] at h1
    refine ih _ (B + 1) (fun d hd => hp d (List.mem_cons_of_mem _ hd)) (by omega) ?_ ?_
    · unfold b_stp
      obtain ⟨g1, g2⟩ := b_G_in (u := u) hF (hp c List.mem_cons_self) hN
      by_cases z : (ph c).testBit u = true
      · rw [if_pos z]; omega
      · rw [if_neg z, l_adI (by omega) (by omega)]; omega
    · unfold b_stp
      obtain ⟨g1, g2⟩ := b_G_in (u := u) hF (hp c List.mem_cons_self) hN
      by_cases z : (ph c).testBit u = true
      · rw [if_pos z]; omega
      · rw [if_neg z, l_adI (by omega) (by omega)]; omega
/-! the greatest common part -/
theorem b_gs (A B : Nat) : Nat.gcd A B = Nat.gcd B (A % B) := by rw [Nat.gcd_comm, Nat.gcd_rec, Nat.gcd_comm]
theorem b_l0 : lN 0 = 0 := rfl
theorem b_ln0 {B : Nat} (h : B ≠ 0) (hB : B < 2 ^ 63) : ¬ lN B = 0 := fun e => h ((pk_lEQ hB (by omega)).mp (e.trans b_l0.symm))
theorem b_hf {B r : Nat} (h0 : 0 < r) (h : r < B) : 2 * (B % r) < B := by
  have h1 := Nat.mod_lt B h0
  have h2 : B % r = (B - r) % r := Nat.mod_eq_sub_mod (by omega)
  have h3 := Nat.mod_le (B - r) r
  omega
section GC
variable {M : zM}
theorem b_cp1 {A B k fuel : Nat} (hA : A < 2 ^ 63) (h0 : B ≠ 0) (hB : B < 2 ^ 63) (hk : k < 128) : f_X0_commonPart_3 (fuel + 1) (lN A) (lN B) (nI k) M = f_X0_commonPart_3 fuel (lN B) (lN (A % B)) (nI (k + 1)) M := by
  rw [f_X0_commonPart_3, if_neg (show ¬ (128 : Int32) ≤ nI k from nI_ge (b := 128) hk (by omega)), if_neg (by rw [lg_cmp_eq]; exact b_ln0 h0 hB)]
  unfold z_g z_l
  rw [if_pos (b_ln0 h0 hB), pk_lRem hA (by omega) hB, p_s1]
theorem b_cp0 {A k fuel : Nat} (hk : k < 128) : f_X0_commonPart_3 (fuel + 1) (lN A) (lN 0) (nI k) M = some ((if lN A < 1 then 1 else lN A), M) := by
  rw [f_X0_commonPart_3, if_neg (show ¬ (128 : Int32) ≤ nI k from nI_ge (b := 128) hk (by omega)), if_pos (by rw [lg_cmp_eq]; rfl)]
theorem b_cp : ∀ j A B k fuel, A < 2 ^ 63 → B < 2 ^ j → j ≤ 60 → k + 2 * j < 128 → 2 * j < fuel → f_X0_commonPart_3 fuel (lN A) (lN B) (nI k) M = some ((if lN (Nat.gcd A B) < 1 then 1 else lN (Nat.gcd A B)), M) := by
  intro j
  induction j with
  | zero =>
    intro A B k fuel hA hB hj hk hf
    obtain ⟨fuel, rfl⟩ : ∃ m, fuel = m + 1 := ⟨fuel - 1, by omega⟩
    have : B = 0 := by omega
    subst this
    rw [b_cp0 (by omega), Nat.gcd_zero_right]
  | succ j ih =>
    intro A B k fuel hA hB hj hk hf
    have hp : 2 ^ (j + 1) ≤ 2 ^ 61 := Nat.pow_le_pow_right (by omega) (by omega)
    have hB63 : B < 2 ^ 63 := by omega
    obtain ⟨fuel, rfl⟩ : ∃ m, fuel = m + 1 + 1 := ⟨fuel - 2, by omega⟩
    by_cases z : B = 0
    · subst z
      rw [b_cp0 (by omega), Nat.gcd_zero_right]
    · rw [b_cp1 hA z hB63 (by omega), b_gs A B]
      have hr : A % B < B := Nat.mod_lt A (by omega)
      by_cases y : A % B = 0
      · rw [y, b_cp0 (by omega), Nat.gcd_zero_right]
      · rw [b_cp1 hB63 y (by omega) (by omega), b_gs B (A % B)]
        have := b_hf (B := B) (r := A % B) (by omega) hr
        have e := b_pw j
        exact ih _ _ _ _ (by omega) (by omega) (by omega) (by omega) (by omega)
theorem b_301 {A B fuel : Nat} {i4 : Int32} {j7 j9 : Int64} (hA : A < 2 ^ 63) (h0 : B ≠ 0) (hB : B < 2 ^ 63) : f_X11_blame_307 (fuel + 1) i4 j7 j9 (lN A) (lN B) M = f_X11_blame_307 fuel i4 j7 j9 (lN B) (lN (A % B)) M := by
  rw [f_X11_blame_307, if_neg (by rw [lg_cmp_le, ← b_l0, pk_lLE hB (by omega)]; omega)]
  unfold z_g z_l
  rw [if_pos (b_ln0 h0 hB), pk_lRem hA (by omega) hB]
theorem b_300 {A fuel : Nat} {i4 : Int32} {j7 j9 : Int64} (hA : A < 2 ^ 63) (h0 : A ≠ 0) : f_X11_blame_307 (fuel + 1) i4 j7 j9 (lN A) (lN 0) M = some ((if i4 = 0 then j7 / lN A else j9 / lN A), M) := by
  rw [f_X11_blame_307, if_pos (by rw [lg_cmp_le]; exact Int64.le_refl _)]
  unfold z_g
  rw [if_pos (b_ln0 h0 hA)]
  by_cases z : i4 = 0
  · rw [if_pos z, if_pos z]
  · rw [if_neg z, if_neg z, if_pos (b_ln0 h0 hA)]
theorem b_307 {i4 : Int32} {j7 j9 : Int64} : ∀ j A B fuel, A < 2 ^ 63 → B < 2 ^ j → j ≤ 60 → Nat.gcd A B ≠ 0 → 2 * j < fuel → f_X11_blame_307 fuel i4 j7 j9 (lN A) (lN B) M = some ((if i4 = 0 then j7 / lN (Nat.gcd A B) else j9 / lN (Nat.gcd A B)), M) := by
  intro j
  induction j with
  | zero =>
    intro A B fuel hA hB hj hg hf
    obtain ⟨fuel, rfl⟩ : ∃ m, fuel = m + 1 := ⟨fuel - 1, by omega⟩
    have : B = 0 := by omega
    subst this
    rw [Nat.gcd_zero_right] at hg
    rw [b_300 hA hg, Nat.gcd_zero_right]
  | succ j ih =>
    intro A B fuel hA hB hj hg hf
    have hp : 2 ^ (j + 1) ≤ 2 ^ 61 := Nat.pow_le_pow_right (by omega) (by omega)
    have hB63 : B < 2 ^ 63 := by omega
    obtain ⟨fuel, rfl⟩ : ∃ m, fuel = m + 1 + 1 := ⟨fuel - 2, by omega⟩
    by_cases z : B = 0
    · subst z
      rw [Nat.gcd_zero_right] at hg
      rw [b_300 hA hg, Nat.gcd_zero_right]
    · rw [b_301 hA z hB63]
      rw [b_gs A B] at hg ⊢
      have hr : A % B < B := Nat.mod_lt A (by omega)
      by_cases y : A % B = 0
      · rw [y, b_300 hB63 z, Nat.gcd_zero_right]
      · rw [b_301 hB63 y (by omega)]
        rw [b_gs B (A % B)] at hg ⊢
        have := b_hf (B := B) (r := A % B) (by omega) hr
        have e := b_pw j
        exact ih _ _ _ (by omega) (by omega) (by omega) hg (by omega)
end GC
/-! a storm with some of the clogs -/
def R_b (w : Nat → Int32) (c g j : Nat) : Int32 := if j = 5 then (if c.testBit g = true then w_r w g 5 else 0) else w_r w g j
abbrev b_F (w : Nat → Int32) (s T v c : Nat) : Int32 := e_ov (R_b w c) w s T v
section BR
variable {K n m s T : Nat} {w : Nat → Int32}
theorem b_topI {r : Nat → Int32} (h1 : i_in (r 1) 0 9999) (h5 : i_in (r 5) 0 10) : i_in (q_top r) 0 9999999 := by
  have e1 : i_in (10 - r 5) 0 10 := by
    have h5' : 0 ≤ (r 5).toInt ∧ (r 5).toInt ≤ 10 := h5
    unfold i_in
    have : (10 : Int32).toInt = 10 := by decide
    rw [i_sbI (by rw [this]; omega) (by rw [this]; omega), this]
    omega
  obtain ⟨e2, e3⟩ := i_mub h1 e1 (by omega)
  unfold q_top i_in
  have e10 : (10 : Int32).toInt = 10 := by decide
  have ed : (r 1 * (10 - r 5) / 10).toInt = (r 1 * (10 - r 5)).toInt.tdiv 10 := by
    rw [Int32.toInt_div_of_ne_left, e10]
    intro q
    rw [q] at e3
    have := e3.1
    exact absurd this (by decide)
  rw [ed, Int.tdiv_eq_ediv_of_nonneg e3.1]
  have := e3.1
  have := e3.2
  omega
theorem b_ovI {r : Nat → Int32} {thaw : Int32} {fl sn ab : Nat → Int32} {G : Int} (hG0 : 0 ≤ G) (hG : T * G < 2 ^ 31) (ht : i_in (q_top r) 0 9999999) (hg : ∀ t, t < T → i_in (q_got r thaw fl sn ab t) 0 G) : i_in (q_ov r thaw fl sn ab T) 0 (T * G) := by
  rw [q_ov_ac]
  refine q_acI hG0 T (fun t htT => ?_) hG
  obtain ⟨g1, g2⟩ := hg t htT
  obtain ⟨t1, t2⟩ := ht
  have e := i_mnI (q_got r thaw fl sn ab t) (q_top r)
  have e2 : (q_spl r thaw fl sn ab t) = q_got r thaw fl sn ab t - q_mn (q_got r thaw fl sn ab t) (q_top r) := rfl
  have h3 := (q_got r thaw fl sn ab t).toInt_lt
  unfold i_in
  rw [e2, i_sbI (by rw [e]; omega) (by rw [e]; omega), e]
  omega
theorem b_bI (hW : s_W K w n m) (hK : K ≤ 8000) (hs : s < m) (hT : T ≤ 12) {v : Nat} (hv : v < n) (c : Nat) : i_in (b_F w s T v c) 0 71829504 := by
  have hn10 := hW.1.2.1
  have hrow : ∀ g, g < n → b_row (R_b w c g) (117612 * K) := fun g hg => by
    obtain ⟨r0, r6, r7, r8, r9, rt⟩ := o_row hW hg
    obtain ⟨h0, h1, h2, h3, h5, h6, h7, h8⟩ := hW.2.2.2.1 g hg
    refine ⟨r0, r6, r7, r8, r9, b_topI h1 ?_⟩
    show i_in (if c.testBit g = true then w_r w g 5 else 0) 0 10
    by_cases z : c.testBit g = true
    · rw [if_pos z]; exact h5
    · rw [if_neg z]; exact i_inn (j := 0) (by decide) (by omega) (by omega)
  have hab : ∀ t, t < T → i_in (e_A (R_b w c) w s v t) 0 (11691 * (2 ^ v - 1)) := b_A (by omega) hrow hW.2.1.2.2 (w_f hW hs hT) hT (by omega) (v + 1) v (by omega) hv
  have hp := g_p2 (g := v) (by omega)
  have hg : ∀ t, t < T → i_in (e_got (R_b w c) w s v t) 0 5985792 := fun t ht => i_mono (b_got (sn := e_s w s) (hrow v hv) hW.2.1.2.2 (w_f hW hs hT) hT (by omega) hab (by omega) ht) (by omega)
  exact i_mono (b_ovI (by omega) (by omega) (hrow v hv).2.2.2.2.2 hg) (by omega)
end BR
