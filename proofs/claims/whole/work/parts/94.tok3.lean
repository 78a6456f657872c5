/-! TOKENS: the reference's tape -/
def tk_tl : List Nat := [0, 1, 2, 20, 3, 4, 5, 6, 41, 42, 43, 44, 45, 46, 47, 48, 159, 143, 145, 142, 147, 140, 141, 160, 161, 162]
/-- the reference's number of a token -/
def tk_t (κ : Nat) : Nat := tk_tl.getD κ 0
def tk_tj : List Nat := [1, 2, 3, 4, 0, 5, 6, 7, 8, 9, 10, 11, 12]
theorem j_rlen {t : Nat} {M : zM} (ht : t < 13) : f_J0_length_8abf5 (t + 2) M = some (nI (tk_len (tk_tj.getD t 0)), M) := by
  have d : ∀ t : Fin 13, (Int32.ofNat (z_len.getD (t.1 + 2) 0)) >>> ((0 : Int32) &&& 31) = nI (tk_len (tk_tj.getD t.1 0)) := by decide +kernel
  exact j_len (d ⟨t, ht⟩)
theorem j_rch {t i : Nat} {M : zM} (ht : t < 13) (hi : i < tk_len (tk_tj.getD t 0)) : f_J0_charAt_5068e (t + 2) (nI i) M = some (nI (tk_ch (tk_tj.getD t 0) i), M) := by
  have d : ∀ (t : Fin 13) (i : Fin 5), i.1 < tk_len (tk_tj.getD t.1 0) → ¬ nI i.1 < 0 ∧ nI i.1 < Int32.ofNat (z_len.getD (t.1 + 2) 0) ∧ z_ix (nI i.1) (z_len.getD (t.1 + 2) 0) ∧ vp_nar .char (j_cv (t.1 + 2) i.1) = j_cv (t.1 + 2) i.1 ∧ j_cv (t.1 + 2) i.1 = nI (tk_ch (tk_tj.getD t.1 0) i.1) := by decide +kernel
  have tj : tk_tj.getD t 0 < 13 := by
    have d : ∀ t : Fin 13, tk_tj.getD t.1 0 < 13 := by decide +kernel
    exact d ⟨t, ht⟩
  have := (tk_lens tj).2
  obtain ⟨d1, d2, d3, d4, d5⟩ := d ⟨t, ht⟩ ⟨i, by omega⟩ hi
  rw [j_char d1 d2 d3 d4, d5]
def tm_T (y : Nat → Nat) (k : Nat) (N : zM) : Prop := k ≤ 400 ∧ (∀ i, y i < 256) ∧ N.1 40 10 = nI k ∧ ∀ i, i < k → N.1 45 i = nI (y i)
def tm_v (y : Nat → Nat) (k a : Nat) : Int32 := if a < k then nI (y a) else -1
section TM
variable {y : Nat → Nat} {k p e : Nat} {N : zM}
theorem m_see {a : Nat} (hT : tm_T y k N) (ha : a ≤ k) : f_X11_see (nI a) N = some (tm_v y k a, N) := by
  obtain ⟨hk, hy, h0, h45⟩ := hT
  unfold f_X11_see tm_v
  rw [h0]
  by_cases z : a < k
  · rw [if_neg (nI_ge z (by omega)), if_pos z]
    unfold z_g
    rw [if_pos (p_ix (show a < 400 by omega) (by decide)), p_cl (by omega), h45 a z]
  · rw [if_pos (nI_le (by omega) (by omega)), if_neg z]
theorem m_let {a : Nat} (hy : ∀ i, y i < 256) : f_X11_isLetter (tm_v y k a) N = some (if a < k ∧ tl_ y a = true then 1 else 0, N) := by
  have d : ∀ q : Fin 256, ((¬ nI q.1 < 97 ∧ ¬ (122 : Int32) < nI q.1) ↔ (97 ≤ q.1 ∧ q.1 ≤ 122)) ∧ ((¬ nI q.1 < 65 ∧ ¬ (90 : Int32) < nI q.1) ↔ (65 ≤ q.1 ∧ q.1 ≤ 90)) := by decide +kernel
  unfold f_X11_isLetter tm_v
  rw [m_w, Option.bind_some]
  dsimp only
  by_cases z : a < k
  · obtain ⟨d1, d2⟩ := d ⟨y a, hy a⟩
    dsimp only at d1 d2
    rw [if_pos z]
    by_cases z1 : 97 ≤ y a ∧ y a ≤ 122
    · rw [if_pos (d1.mpr z1), if_neg b_1z, if_pos ⟨z, decide_eq_true (Or.inl z1)⟩]
    · rw [if_neg (fun x => z1 (d1.mp x)), if_pos rfl, m_w, Option.bind_some]
      dsimp only
      by_cases z2 : 65 ≤ y a ∧ y a ≤ 90
      · rw [if_pos (d2.mpr z2), if_neg b_1z, if_pos ⟨z, decide_eq_true (Or.inr z2)⟩]
      · rw [if_neg (fun x => z2 (d2.mp x)), if_pos rfl, if_neg]
        rintro ⟨-, x⟩
        rcases (of_decide_eq_true x : (97 ≤ y a ∧ y a ≤ 122) ∨ (65 ≤ y a ∧ y a ≤ 90)) with x | x
        · exact z1 x
        · exact z2 x
  · rw [if_neg z, if_neg (show ¬ (¬ (-1 : Int32) < 97 ∧ ¬ (122 : Int32) < -1) from by decide), if_pos rfl, m_w, Option.bind_some]
    dsimp only
    rw [if_neg (show ¬ (¬ (-1 : Int32) < 65 ∧ ¬ (90 : Int32) < -1) from by decide), if_pos rfl, if_neg (fun x => z x.1)]
theorem m_dig {a : Nat} (hy : ∀ i, y i < 256) : f_X11_isDigit (tm_v y k a) N = some (if a < k ∧ td_ y a = true then 1 else 0, N) := by
  have d : ∀ q : Fin 256, (¬ nI q.1 < 48 ∧ ¬ (57 : Int32) < nI q.1) ↔ (48 ≤ q.1 ∧ q.1 ≤ 57) := by decide +kernel
  unfold f_X11_isDigit tm_v z_g
  rw [m_w, Option.bind_some]
  dsimp only
  rw [if_pos (b_nar _)]
  by_cases z : a < k
  · have d1 := d ⟨y a, hy a⟩
    dsimp only at d1
    rw [if_pos z]
    by_cases z1 : 48 ≤ y a ∧ y a ≤ 57
    · rw [if_pos (d1.mpr z1), if_pos ⟨z, decide_eq_true z1⟩]
    · rw [if_neg (fun x => z1 (d1.mp x)), if_neg (fun x => z1 (of_decide_eq_true x.2))]
  · rw [if_neg z, if_neg (show ¬ (¬ (-1 : Int32) < 48 ∧ ¬ (57 : Int32) < -1) from by decide), if_neg (fun x => z x.1)]
theorem m_is24 {t : Nat} (hT : tm_T y k N) (ht : t < 13) (h13 : N.1 40 13 = nI p) (hl : p + tk_len (tk_tj.getD t 0) ≤ k) : ∀ c i fuel, i + c = tk_len (tk_tj.getD t 0) → c + 1 < fuel → (∀ q, q < i → y (p + q) = tk_ch (tk_tj.getD t 0) q) →
    p_ok (f_X11_is_24 fuel (t + 2) 1 (nI i) N) (fun x => x.2 = N ∧ ((x.1 = 1 ∧ ∀ q, q < tk_len (tk_tj.getD t 0) → y (p + q) = tk_ch (tk_tj.getD t 0) q) ∨ (x.1 = 0 ∧ ¬ ∀ q, q < tk_len (tk_tj.getD t 0) → y (p + q) = tk_ch (tk_tj.getD t 0) q))) := by
  obtain ⟨hk, hy, h0, h45⟩ := hT
  have tj : tk_tj.getD t 0 < 13 := by
    have d : ∀ t : Fin 13, tk_tj.getD t.1 0 < 13 := by decide +kernel
    exact d ⟨t, ht⟩
  have l5 := (tk_lens tj).2
  intro c
  induction c with
  | zero =>
    intro i fuel h1 h2 ho
    obtain ⟨fuel, rfl⟩ : ∃ m, fuel = m + 1 := ⟨fuel - 1, by omega⟩
    have : i = tk_len (tk_tj.getD t 0) := by omega
    subst this
    rw [f_X11_is_24, j_rlen ht, Option.bind_some]
    exact p_t (nI_le (Nat.le_refl _) (by omega)) (p_g (by decide) (p_some ⟨rfl, Or.inl ⟨rfl, ho⟩⟩))
  | succ c ih =>
    intro i fuel h1 h2 ho
    obtain ⟨fuel, rfl⟩ : ∃ m, fuel = m + 1 + 1 := ⟨fuel - 2, by omega⟩
    have hch := (tk_chs (j := tk_tj.getD t 0) (i := i) tj (by omega)).1
    have hyp := hy (p + i)
    rw [f_X11_is_24, j_rlen ht, Option.bind_some]
    refine p_f (nI_ge (by omega) (by omega)) (p_f b_1z ?_)
    dsimp only
    rw [h13, n_ad]
    refine p_g (p_ix (show p + i < 400 by omega) (by decide)) ?_
    rw [j_rch ht (by omega), Option.bind_some]
    dsimp only
    rw [p_cl (by omega), h45 (p + i) (by omega)]
    by_cases z : y (p + i) = tk_ch (tk_tj.getD t 0) i
    · refine p_t (by rw [z]) (p_l ?_)
      rw [p_s1]
      refine ih (i + 1) (fuel + 1) (by omega) (by omega) (fun q hq => ?_)
      by_cases x : q = i
      · rw [x]; exact z
      · exact ho q (by omega)
    · refine p_f (b_ne (by omega) (by omega) z) (p_l ?_)
      rw [p_s1, f_X11_is_24, j_rlen ht, Option.bind_some]
      have no : ¬ ∀ q, q < tk_len (tk_tj.getD t 0) → y (p + q) = tk_ch (tk_tj.getD t 0) q := fun x => z (x i (by omega))
      by_cases x : tk_len (tk_tj.getD t 0) ≤ i + 1
      · exact p_t (nI_le x (by omega)) (p_g (by decide) (p_some ⟨rfl, Or.inr ⟨rfl, no⟩⟩))
      · exact p_f (nI_ge (by omega) (by omega)) (p_t rfl (p_g (by decide) (p_some ⟨rfl, Or.inr ⟨rfl, no⟩⟩)))
theorem m_is {t : Nat} (hT : tm_T y k N) (ht : t < 13) (h11 : N.1 40 11 = nI e) (h13 : N.1 40 13 = nI p) (hpe : p ≤ e) (hek : e ≤ k) : p_ok (f_X11_is (t + 2) N) (fun x => x.2 = N ∧ ((x.1 = 1 ∧ tk_m y p e (tk_tj.getD t 0)) ∨ (x.1 = 0 ∧ ¬ tk_m y p e (tk_tj.getD t 0)))) := by
  have hk := hT.1
  have tj : tk_tj.getD t 0 < 13 := by
    have d : ∀ t : Fin 13, tk_tj.getD t.1 0 < 13 := by decide +kernel
    exact d ⟨t, ht⟩
  obtain ⟨l2, l5⟩ := tk_lens tj
  unfold f_X11_is
  rw [j_rlen ht, Option.bind_some]
  dsimp only
  rw [h11, h13, n_sb hpe (by omega)]
  by_cases z : e - p = tk_len (tk_tj.getD t 0)
  · refine p_t (by rw [z]) ?_
    rw [p_0]
    refine p_w (m_is24 hT ht h13 (by omega) (tk_len (tk_tj.getD t 0)) 0 z_F (by omega) (by unfold z_F; omega) (fun q hq => absurd hq (Nat.not_lt_zero q))) ?_
    rintro x ⟨x1, x2⟩
    refine ⟨x1, ?_⟩
    rcases x2 with ⟨x2, x3⟩ | ⟨x2, x3⟩
    · exact Or.inl ⟨x2, z, x3⟩
    · exact Or.inr ⟨x2, fun q => x3 q.2⟩
  · refine p_f (b_ne (by omega) (by omega) z) ?_
    rw [show z_F = 4999 + 1 from rfl, f_X11_is_24, j_rlen ht, Option.bind_some]
    refine p_f (show ¬ nI (tk_len (tk_tj.getD t 0)) ≤ nI 0 from nI_ge (by omega) (by omega)) (p_t rfl (p_g (by decide) (p_some ⟨rfl, Or.inr ⟨rfl, fun q => z q.1⟩⟩)))
theorem m_word (hT : tm_T y k N) (h11 : N.1 40 11 = nI e) (h13 : N.1 40 13 = nI p) (hpe : p ≤ e) (hek : e ≤ k) : p_ok (f_X11_word N) (fun x => x.2 = N ∧ x.1 = nI (tk_t (tk_wk y p e))) := by
  have go : ∀ (t : Nat) (c : Int32) (R : Int32 × zM → Option (Int32 × zM)), t < 13 → nI (tk_t (3 + tk_tj.getD t 0)) = c → (¬ tk_m y p e (tk_tj.getD t 0) → ∀ x : Int32 × zM, x.2 = N → p_ok (R x) (fun x => x.2 = N ∧ x.1 = nI (tk_t (tk_wk y p e)))) → p_ok ((f_X11_is (t + 2) N).bind fun x1 => if x1.1 = 0 then R x1 else some (c, x1.2)) (fun x => x.2 = N ∧ x.1 = nI (tk_t (tk_wk y p e))) := by
    intro t c R ht hc hR
    have tj : tk_tj.getD t 0 < 13 := by
      have d : ∀ t : Fin 13, tk_tj.getD t.1 0 < 13 := by decide +kernel
      exact d ⟨t, ht⟩
    refine p_bx (m_is hT ht h11 h13 hpe hek) (fun x hx => ?_)
    obtain ⟨x1, x2⟩ := hx
    rcases x2 with ⟨x2, x3⟩ | ⟨x2, x3⟩
    · exact p_f (by rw [x2]; exact b_1z) (p_some ⟨x1, by rw [tk_wk_of tj x3]; exact hc.symm⟩)
    · exact p_t x2 (hR x3 x x1)
  unfold f_X11_word
  refine go 0 3 _ (by decide) (by decide) (fun n1 a ea => ?_)
  rw [ea]
  refine go 1 4 _ (by decide) (by decide) (fun n2 a ea => ?_)
  rw [ea]
  refine go 2 5 _ (by decide) (by decide) (fun n3 a ea => ?_)
  rw [ea]
  refine go 3 6 _ (by decide) (by decide) (fun n4 a ea => ?_)
  rw [ea]
  refine go 4 20 _ (by decide) (by decide) (fun n0 a ea => ?_)
  rw [ea]
  refine p_bx (R := fun x => x.2 = N ∧ x.1 = nI (tk_t (tk_wk y p e))) ?_ (fun x hx => p_some hx)
  unfold f_X11_nameWord
  refine go 5 41 _ (by decide) (by decide) (fun n5 a ea => ?_)
  rw [ea]
  refine go 6 42 _ (by decide) (by decide) (fun n6 a ea => ?_)
  rw [ea]
  refine go 7 43 _ (by decide) (by decide) (fun n7 a ea => ?_)
  rw [ea]
  refine go 8 44 _ (by decide) (by decide) (fun n8 a ea => ?_)
  rw [ea]
  refine go 9 45 _ (by decide) (by decide) (fun n9 a ea => ?_)
  rw [ea]
  refine go 10 46 _ (by decide) (by decide) (fun n10 a ea => ?_)
  rw [ea]
  refine go 11 47 _ (by decide) (by decide) (fun n11 a ea => ?_)
  rw [ea]
  refine go 12 48 (fun x => some (1, x.2)) (by decide) (by decide) (fun n12 a ea => ?_)
  rw [ea]
  refine p_some ⟨rfl, ?_⟩
  rw [tk_wk_no (fun j hj q => ?_)]
  · rfl
  · have : j = 0 ∨ j = 1 ∨ j = 2 ∨ j = 3 ∨ j = 4 ∨ j = 5 ∨ j = 6 ∨ j = 7 ∨ j = 8 ∨ j = 9 ∨ j = 10 ∨ j = 11 ∨ j = 12 := by omega
    rcases this with rfl | rfl | rfl | rfl | rfl | rfl | rfl | rfl | rfl | rfl | rfl | rfl | rfl
    · exact n0 q
    · exact n1 q
    · exact n2 q
    · exact n3 q
    · exact n4 q
    · exact n5 q
    · exact n6 q
    · exact n7 q
    · exact n8 q
    · exact n9 q
    · exact n10 q
    · exact n11 q
    · exact n12 q
/-- behind next0 -/
def tm_S (y : Nat → Nat) (k p : Nat) (B X : zM) : Prop := (∀ a, a ≠ 40 → X.1 a = B.1 a) ∧ (∀ q, q ≠ 11 → q ≠ 12 → q ≠ 13 → q ≠ 14 → X.1 40 q = B.1 40 q) ∧ X.1 40 11 = nI (tk_nx y k p) ∧ X.1 40 12 = nI (tk_t (tk_kind y k p)) ∧ X.1 40 13 = nI p ∧ (tk_kind y k p = 2 → X.1 40 14 = nI (tk_v y p (tk_end (td_ y) k p - p)))
theorem tm_T_fr {B X : zM} (hT : tm_T y k B) (ho : ∀ a, a ≠ 40 → X.1 a = B.1 a) (h10 : X.1 40 10 = B.1 40 10) : tm_T y k X := ⟨hT.1, hT.2.1, by rw [h10]; exact hT.2.2.1, fun i hi => by rw [ho 45 (by omega)]; exact hT.2.2.2 i hi⟩
theorem tm_76 {B : zM} (hT : tm_T y k B) (hp : p < k) (hl : tl_ y p = true) : ∀ d a fuel (Q : zM), k - a = d → d + 1 < fuel → p ≤ a → a ≤ k → tk_end (tl_ y) k a = tk_end (tl_ y) k p → (∀ a, a ≠ 40 → Q.1 a = B.1 a) → (∀ q, q ≠ 11 → q ≠ 12 → q ≠ 13 → q ≠ 14 → Q.1 40 q = B.1 40 q) → Q.1 40 11 = nI a → Q.1 40 13 = nI p →
    p_ok (f_X11_next0_76 fuel Q) (tm_S y k p B) := by
  have hk := hT.1
  intro d
  induction d with
  | zero =>
    intro a fuel Q hd hf hpa hak he hO h40 h11 h13
    obtain ⟨fuel, rfl⟩ : ∃ m, fuel = m + 1 := ⟨fuel - 1, by omega⟩
    have qT := tm_T_fr hT hO (h40 10 (by omega) (by omega) (by omega) (by omega))
    have ea : a = tk_end (tl_ y) k p := by rw [← he, tk_end_n (by omega)]
    rw [f_X11_next0_76, h11, m_see qT hak, Option.bind_some]
    dsimp only
    rw [m_let hT.2.1, Option.bind_some]
    dsimp only
    refine p_t (by rw [if_neg (by omega)]) ?_
    refine p_bx (m_word qT h11 h13 hpa hak) (fun x hx => p_lx (fun A eA => p_some ?_))
    obtain ⟨x1, x2⟩ := hx
    rw [x1, x2] at eA
    have ek : tk_kind y k p = tk_wk y p a := by unfold tk_kind; rw [if_neg (by omega), if_pos hl, ← ea]
    have en : tk_nx y k p = a := by unfold tk_nx; rw [if_neg (by omega), if_pos hl, ← ea]
    refine ⟨fun q hq => by rw [eA, p_nr hq, hO q hq], fun q q1 q2 q3 q4 => by rw [eA, p_eq, if_neg q2, h40 q q1 q2 q3 q4], by rw [eA, p_eq, if_neg (by decide), h11, en], by rw [eA, p_eq, if_pos rfl, ek], by rw [eA, p_eq, if_neg (by decide), h13], fun q => ?_⟩
    rw [ek] at q
    have := tk_wk_in (y := y) (p := p) (e := a)
    omega
  | succ d ih =>
    intro a fuel Q hd hf hpa hak he hO h40 h11 h13
    obtain ⟨fuel, rfl⟩ : ∃ m, fuel = m + 1 := ⟨fuel - 1, by omega⟩
    have qT := tm_T_fr hT hO (h40 10 (by omega) (by omega) (by omega) (by omega))
    rw [f_X11_next0_76, h11, m_see qT hak, Option.bind_some]
    dsimp only
    rw [m_let hT.2.1, Option.bind_some]
    dsimp only
    by_cases z : tl_ y a = true
    · refine p_f (by rw [if_pos ⟨by omega, z⟩]; exact b_1z) (p_lx (fun A eA => ?_))
      rw [h11, p_s1] at eA
      exact ih (a + 1) fuel A (by omega) (by omega) (by omega) (by omega) (by rw [← tk_end_s (by omega) z]; exact he) (fun q hq => by rw [eA, p_nr hq, hO q hq]) (fun q q1 q2 q3 q4 => by rw [eA, p_eq, if_neg q1, h40 q q1 q2 q3 q4]) (by rw [eA, p_eq, if_pos rfl]) (by rw [eA, p_eq, if_neg (by decide), h13])
    · have ea : a = tk_end (tl_ y) k p := by rw [← he, tk_end_n (fun q => z q.2)]
      refine p_t (by rw [if_neg (fun q => z q.2)]) ?_
      refine p_bx (m_word qT h11 h13 hpa hak) (fun x hx => p_lx (fun A eA => p_some ?_))
      obtain ⟨x1, x2⟩ := hx
      rw [x1, x2] at eA
      have ek : tk_kind y k p = tk_wk y p a := by unfold tk_kind; rw [if_neg (by omega), if_pos hl, ← ea]
      have en : tk_nx y k p = a := by unfold tk_nx; rw [if_neg (by omega), if_pos hl, ← ea]
      refine ⟨fun q hq => by rw [eA, p_nr hq, hO q hq], fun q q1 q2 q3 q4 => by rw [eA, p_eq, if_neg q2, h40 q q1 q2 q3 q4], by rw [eA, p_eq, if_neg (by decide), h11, en], by rw [eA, p_eq, if_pos rfl, ek], by rw [eA, p_eq, if_neg (by decide), h13], fun q => ?_⟩
      rw [ek] at q
      have := tk_wk_in (y := y) (p := p) (e := a)
      omega
theorem tm_126 {B : zM} (hT : tm_T y k B) (hp : p < k) (hl : ¬ tl_ y p = true) (hd' : td_ y p = true) : ∀ d a fuel (Q : zM), k - a = d → d + 1 < fuel → p ≤ a → a ≤ k → tk_end (td_ y) k a = tk_end (td_ y) k p → (∀ a, a ≠ 40 → Q.1 a = B.1 a) → (∀ q, q ≠ 11 → q ≠ 12 → q ≠ 13 → q ≠ 14 → Q.1 40 q = B.1 40 q) → Q.1 40 11 = nI a → Q.1 40 13 = nI p → Q.1 40 14 = nI (tk_v y p (min 4 (a - p))) →
    p_ok (f_X11_next0_126 fuel Q) (tm_S y k p B) := by
  have hk := hT.1
  have fin : ∀ (a : Nat) (Q : zM), p ≤ a → a ≤ k → a = tk_end (td_ y) k p → (∀ a, a ≠ 40 → Q.1 a = B.1 a) → (∀ q, q ≠ 11 → q ≠ 12 → q ≠ 13 → q ≠ 14 → Q.1 40 q = B.1 40 q) → Q.1 40 11 = nI a → Q.1 40 13 = nI p → Q.1 40 14 = nI (tk_v y p (min 4 (a - p))) → p_ok (if (5 : Int32) ≤ ((Q.1 40 11) - (Q.1 40 13)) then (z_l (z_w Q 40 12 (1 : Int32)) fun M5 => some M5) else (z_l (z_w Q 40 12 (2 : Int32)) fun M6 => some M6)) (tm_S y k p B) := by
    intro a Q hpa hak ea hO h40 h11 h13 h14
    have ek : tk_kind y k p = if a - p ≤ 4 then 2 else 1 := by unfold tk_kind; rw [if_neg (by omega), if_neg hl, if_pos hd', ← ea]
    have en : tk_nx y k p = a := by unfold tk_nx; rw [if_neg (by omega), if_neg hl, if_pos hd', ← ea]
    have go : ∀ (x : Int32) (A : zM), x = nI (tk_t (tk_kind y k p)) → A = z_w Q 40 12 x → tm_S y k p B A := by
      intro x A hx eA
      refine ⟨fun q hq => by rw [eA, p_nr hq, hO q hq], fun q q1 q2 q3 q4 => by rw [eA, p_eq, if_neg q2, h40 q q1 q2 q3 q4], by rw [eA, p_eq, if_neg (by decide), h11, en], by rw [eA, p_eq, if_pos rfl, hx], by rw [eA, p_eq, if_neg (by decide), h13], fun q => ?_⟩
      have z : a - p ≤ 4 := by
        apply Classical.byContradiction
        intro z
        rw [ek, if_neg z] at q
        omega
      rw [eA, p_eq, if_neg (by decide), h14, ← ea, Nat.min_eq_right z]
    rw [h11, h13, n_sb hpa (by omega)]
    by_cases z : a - p ≤ 4
    · exact p_f (nI_ge (b := 5) (by omega) (by omega)) (p_lx (fun A eA => p_some (go 2 A (by rw [ek, if_pos z]; rfl) eA)))
    · exact p_t (nI_le (a := 5) (by omega) (by omega)) (p_lx (fun A eA => p_some (go 1 A (by rw [ek, if_neg z]; rfl) eA)))
  intro d
  induction d with
  | zero =>
    intro a fuel Q hd hf hpa hak he hO h40 h11 h13 h14
    obtain ⟨fuel, rfl⟩ : ∃ m, fuel = m + 1 := ⟨fuel - 1, by omega⟩
    have qT := tm_T_fr hT hO (h40 10 (by omega) (by omega) (by omega) (by omega))
    have ea : a = tk_end (td_ y) k p := by rw [← he, tk_end_n (by omega)]
    rw [f_X11_next0_126]
    have s := m_see qT hak
    rw [← h11] at s
    rw [s, Option.bind_some]
    dsimp only
    rw [m_dig hT.2.1, Option.bind_some]
    dsimp only
    exact p_t (by rw [if_neg (by omega)]) (fin a Q hpa hak ea hO h40 h11 h13 h14)
  | succ d ih =>
    intro a fuel Q hd hf hpa hak he hO h40 h11 h13 h14
    obtain ⟨fuel, rfl⟩ : ∃ m, fuel = m + 1 := ⟨fuel - 1, by omega⟩
    have qT := tm_T_fr hT hO (h40 10 (by omega) (by omega) (by omega) (by omega))
    rw [f_X11_next0_126]
    have s := m_see qT hak
    rw [← h11] at s
    rw [s, Option.bind_some]
    dsimp only
    rw [m_dig hT.2.1, Option.bind_some]
    dsimp only
    by_cases z : td_ y a = true
    · have z' : 48 ≤ y a ∧ y a ≤ 57 := of_decide_eq_true z
      refine p_f (by rw [if_pos ⟨by omega, z⟩]; exact b_1z) ?_
      have he' : tk_end (td_ y) k (a + 1) = tk_end (td_ y) k p := by rw [← tk_end_s (by omega) z]; exact he
      by_cases z4 : p + 4 ≤ a
      · refine p_t (by rw [h13, h11, show (4 : Int32) = nI 4 from rfl, n_ad]; exact nI_le z4 (by omega)) (p_lx (fun A eA => ?_))
        rw [h11, p_s1] at eA
        refine ih (a + 1) fuel A (by omega) (by omega) (by omega) (by omega) he' (fun q hq => by rw [eA, p_nr hq, hO q hq]) (fun q q1 q2 q3 q4 => by rw [eA, p_eq, if_neg q1, h40 q q1 q2 q3 q4]) (by rw [eA, p_eq, if_pos rfl]) (by rw [eA, p_eq, if_neg (by decide), h13]) ?_
        rw [eA, p_eq, if_neg (by decide), h14, Nat.min_eq_left (show 4 ≤ a - p by omega), Nat.min_eq_left (show 4 ≤ a + 1 - p by omega)]
      · refine p_f (by rw [h13, h11, show (4 : Int32) = nI 4 from rfl, n_ad]; exact nI_ge (by omega) (by omega)) ?_
        rw [s, Option.bind_some]
        refine p_lx (fun A eA => p_lx (fun C eC => ?_))
        dsimp only at eA
        rw [h14, Nat.min_eq_right (show a - p ≤ 4 by omega), show tm_v y k a = nI (y a) from if_pos (by omega)] at eA
        have ev : (10 : Int32) * nI (tk_v y p (a - p)) + nI (y a) - (48 : Int32) = nI (tk_v y p (a + 1 - p)) := by
          rw [show a + 1 - p = (a - p) + 1 by omega, tk_v, show p + (a - p) = a by omega, show (10 : Int32) = nI 10 from rfl, show (48 : Int32) = nI 48 from rfl, n_mu, n_ad, show 10 * tk_v y p (a - p) + y a = (tk_v y p (a - p) * 10 + (y a - 48)) + 48 by omega, ← n_ad _ 48]
          exact Int32.add_sub_cancel _ _
        rw [ev] at eA
        have a11 : A.1 40 11 = nI a := by rw [eA, p_eq, if_neg (by decide)]; exact h11
        rw [a11, p_s1] at eC
        refine ih (a + 1) fuel C (by omega) (by omega) (by omega) (by omega) he' (fun q hq => by rw [eC, p_nr hq, eA, p_nr hq, hO q hq]) (fun q q1 q2 q3 q4 => by rw [eC, p_eq, if_neg q1, eA, p_eq, if_neg q4, h40 q q1 q2 q3 q4]) (by rw [eC, p_eq, if_pos rfl]) (by rw [eC, p_eq, if_neg (by decide), eA, p_eq, if_neg (by decide), h13]) ?_
        rw [eC, p_eq, if_neg (by decide), eA, p_eq, if_pos rfl, Nat.min_eq_right (show a + 1 - p ≤ 4 by omega)]
    · have ea : a = tk_end (td_ y) k p := by rw [← he, tk_end_n (fun q => z q.2)]
      exact p_t (by rw [if_neg (fun q => z q.2)]) (fin a Q hpa hak ea hO h40 h11 h13 h14)
/-- the token at a place, its byte seen -/
theorem tm_at {B Q : zM} (hT : tm_T y k B) (hp : p ≤ k) (hO : ∀ a, a ≠ 40 → Q.1 a = B.1 a) (h40 : ∀ q, q ≠ 11 → q ≠ 12 → q ≠ 13 → q ≠ 14 → Q.1 40 q = B.1 40 q) (h11 : Q.1 40 11 = nI p) {F : zM → Option zM} (hF : ∀ Z : zM, F Z = f_X11_next0_0 1 Z) (hw : ¬ (p < k ∧ tw_ y p = true)) : p_ok (F Q) (tm_S y k p B) := by
  have hk := hT.1
  have qT := tm_T_fr hT hO (h40 10 (by omega) (by omega) (by omega) (by omega))
  have hyp := hT.2.1 p
  have v32 : ¬ tm_v y k p = 32 := fun q => by
    unfold tm_v at q
    by_cases z : p < k
    · rw [if_pos z] at q
      exact hw ⟨z, decide_eq_true (Or.inl (n_inj (by omega) (by omega) (q.trans (show (32 : Int32) = nI 32 from rfl))))⟩
    · rw [if_neg z] at q; exact absurd q (by decide)
  have v10 : ¬ tm_v y k p = 10 := fun q => by
    unfold tm_v at q
    by_cases z : p < k
    · rw [if_pos z] at q
      exact hw ⟨z, decide_eq_true (Or.inr (n_inj (by omega) (by omega) (q.trans (show (10 : Int32) = nI 10 from rfl))))⟩
    · rw [if_neg z] at q; exact absurd q (by decide)
  have s := m_see qT hp
  rw [hF, f_X11_next0_0]
  rw [h11, s, Option.bind_some]
  refine p_f v32 ?_
  dsimp only
  rw [h11, s, Option.bind_some]
  refine p_f v10 (p_lx (fun A eA => ?_))
  dsimp only at eA
  rw [h11] at eA
  have a11 : A.1 40 11 = nI p := by rw [eA, p_eq, if_neg (by decide)]; exact h11
  have a13 : A.1 40 13 = nI p := by rw [eA, p_eq, if_pos rfl]
  have aO : ∀ a, a ≠ 40 → A.1 a = B.1 a := fun a ha => by rw [eA, p_nr ha, hO a ha]
  have a40 : ∀ q, q ≠ 11 → q ≠ 12 → q ≠ 13 → q ≠ 14 → A.1 40 q = B.1 40 q := fun q q1 q2 q3 q4 => by rw [eA, p_eq, if_neg q3, h40 q q1 q2 q3 q4]
  have aT := tm_T_fr hT aO (a40 10 (by omega) (by omega) (by omega) (by omega))
  rw [a11, m_see aT hp, Option.bind_some]
  dsimp only
  by_cases z : p < k
  · have ev : tm_v y k p = nI (y p) := if_pos z
    refine p_f (by rw [ev]; exact n_m1 (by omega)) ?_
    rw [m_let hT.2.1, Option.bind_some]
    dsimp only
    by_cases z1 : tl_ y p = true
    · exact p_f (by rw [if_pos ⟨z, z1⟩]; exact b_1z) (tm_76 hT z z1 (k - p) p z_F A rfl (by unfold z_F; omega) (Nat.le_refl p) hp rfl aO a40 a11 a13)
    · refine p_t (by rw [if_neg (fun q => z1 q.2)]) ?_
      rw [m_dig hT.2.1, Option.bind_some]
      dsimp only
      by_cases z2 : td_ y p = true
      · refine p_f (by rw [if_pos ⟨z, z2⟩]; exact b_1z) (p_lx (fun C eC => ?_))
        exact tm_126 hT z z1 z2 (k - p) p z_F C rfl (by unfold z_F; omega) (Nat.le_refl p) hp rfl (fun q hq => by rw [eC, p_nr hq, aO q hq]) (fun q q1 q2 q3 q4 => by rw [eC, p_eq, if_neg q4, a40 q q1 q2 q3 q4]) (by rw [eC, p_eq, if_neg (by decide), a11]) (by rw [eC, p_eq, if_neg (by decide), a13]) (by rw [eC, p_eq, if_pos rfl, Nat.sub_self]; rfl)
      · refine p_t (by rw [if_neg (fun q => z2 q.2)]) (p_lx (fun C eC => ?_))
        rw [a11, p_s1] at eC
        rw [ev]
        have ek : tk_kind y k p = tk_sk (y p) := by unfold tk_kind; rw [if_neg (by omega), if_neg z1, if_neg z2]
        have en : tk_nx y k p = p + 1 := by unfold tk_nx; rw [if_neg (by omega), if_neg z1, if_neg z2]
        have fin : ∀ (x : Int32) (D : zM), x = nI (tk_t (tk_kind y k p)) → D = z_w C 40 12 x → tm_S y k p B D := by
          intro x D hx eD
          refine ⟨fun q hq => by rw [eD, p_nr hq, eC, p_nr hq, aO q hq], fun q q1 q2 q3 q4 => by rw [eD, p_eq, if_neg q2, eC, p_eq, if_neg q1, a40 q q1 q2 q3 q4], by rw [eD, p_eq, if_neg (by decide), eC, p_eq, if_pos rfl, en], by rw [eD, p_eq, if_pos rfl, hx], by rw [eD, p_eq, if_neg (by decide), eC, p_eq, if_neg (by decide), a13], fun q => ?_⟩
          rw [ek] at q
          have := tk_sk_in (y p)
          omega
        have yes : nI (100 + y p) = nI (tk_t (tk_kind y k p)) → p_ok (f_X11_next0_284 (nI (y p)) C) (tm_S y k p B) := fun h => by
          unfold f_X11_next0_284
          exact p_f (by decide) (p_lx (fun D eD => p_some (fin _ D (by rw [← h]; exact n_ad 100 (y p)) eD)))
        have ch : ∀ (c : Nat), c < 128 → (y p = c → nI (100 + c) = nI (tk_t (tk_sk c))) → (y p = c → nI (100 + y p) = nI (tk_t (tk_kind y k p))) := fun c _ h e => by rw [ek, e]; exact h e
        have ne : ∀ c : Nat, c < 128 → ¬ y p = c → ¬ nI (y p) = nI c := fun c hc h => b_ne (by omega) (by omega) h
        by_cases q0 : y p = 59
        · exact p_t (by rw [q0]; rfl) (yes (ch 59 (by omega) (fun _ => by decide) q0))
        refine p_f (ne 59 (by omega) q0) ?_
        by_cases q1 : y p = 43
        · exact p_t (by rw [q1]; rfl) (yes (ch 43 (by omega) (fun _ => by decide) q1))
        refine p_f (ne 43 (by omega) q1) ?_
        by_cases q2 : y p = 45
        · exact p_t (by rw [q2]; rfl) (yes (ch 45 (by omega) (fun _ => by decide) q2))
        refine p_f (ne 45 (by omega) q2) ?_
        by_cases q3 : y p = 42
        · exact p_t (by rw [q3]; rfl) (yes (ch 42 (by omega) (fun _ => by decide) q3))
        refine p_f (ne 42 (by omega) q3) ?_
        by_cases q4 : y p = 47
        · exact p_t (by rw [q4]; rfl) (yes (ch 47 (by omega) (fun _ => by decide) q4))
        refine p_f (ne 47 (by omega) q4) ?_
        by_cases q5 : y p = 40
        · exact p_t (by rw [q5]; rfl) (yes (ch 40 (by omega) (fun _ => by decide) q5))
        refine p_f (ne 40 (by omega) q5) ?_
        by_cases q6 : y p = 41
        · exact p_t (by rw [q6]; rfl) (yes (ch 41 (by omega) (fun _ => by decide) q6))
        refine p_f (ne 41 (by omega) q6) ?_
        by_cases q7 : y p = 60
        · exact p_t (by rw [q7]; rfl) (yes (ch 60 (by omega) (fun _ => by decide) q7))
        refine p_f (ne 60 (by omega) q7) ?_
        by_cases q8 : y p = 61
        · exact p_t (by rw [q8]; rfl) (yes (ch 61 (by omega) (fun _ => by decide) q8))
        refine p_f (ne 61 (by omega) q8) ?_
        by_cases q9 : y p = 62
        · exact p_t (by rw [q9]; rfl) (yes (ch 62 (by omega) (fun _ => by decide) q9))
        refine p_f (ne 62 (by omega) q9) ?_
        refine p_t rfl (p_lx (fun D eD => p_some (fin 1 D ?_ eD)))
        rw [ek]
        unfold tk_sk
        rw [if_neg q0, if_neg q1, if_neg q2, if_neg q3, if_neg q4, if_neg q5, if_neg q6, if_neg q7, if_neg q8, if_neg q9]
        rfl
  · refine p_t (by unfold tm_v; rw [if_neg z]) (p_lx (fun C eC => p_some ⟨fun q hq => by rw [eC, p_nr hq, aO q hq], fun q q1 q2 q3 q4 => by rw [eC, p_eq, if_neg q2, a40 q q1 q2 q3 q4], ?_, ?_, ?_, ?_⟩))
    · rw [eC, p_eq, if_neg (by decide), a11]; unfold tk_nx; rw [if_pos (by omega)]
    · rw [eC, p_eq, if_pos rfl, tk_kind_in.2.mpr (by omega)]; rfl
    · rw [eC, p_eq, if_neg (by decide), a13]
    · intro q
      rw [tk_kind_in.2.mpr (by omega)] at q
      omega
theorem tm_s0 {B : zM} (hT : tm_T y k B) {a0 : Nat} : ∀ d a fuel (Q : zM), k - a = d → d + 1 < fuel → a ≤ k → tk_end (tw_ y) k a = tk_end (tw_ y) k a0 → (∀ a, a ≠ 40 → Q.1 a = B.1 a) → (∀ q, q ≠ 11 → q ≠ 12 → q ≠ 13 → q ≠ 14 → Q.1 40 q = B.1 40 q) → Q.1 40 11 = nI a →
    p_ok (f_X11_next0_0 fuel Q) (tm_S y k (tk_end (tw_ y) k a0) B) := by
  have hk := hT.1
  intro d
  induction d with
  | zero =>
    intro a fuel Q hd hf hak he hO h40 h11
    obtain ⟨fuel, rfl⟩ : ∃ m, fuel = m + 1 := ⟨fuel - 1, by omega⟩
    have ea : tk_end (tw_ y) k a0 = a := by rw [← he, tk_end_n (by omega)]
    rw [ea]
    have qT := tm_T_fr hT hO (h40 10 (by omega) (by omega) (by omega) (by omega))
    have s := m_see qT hak
    have v : tm_v y k a = -1 := if_neg (by omega)
    have base := tm_at hT hak hO h40 h11 (F := f_X11_next0_0 1) (fun _ => rfl) (by omega)
    rw [f_X11_next0_0] at base ⊢
    rw [h11, s, Option.bind_some, v] at base ⊢
    rw [if_neg (show ¬ ((-1 : Int32), Q).1 = 32 from (by decide : ¬ (-1 : Int32) = 32))] at base ⊢
    dsimp only at base ⊢
    rw [h11, s, Option.bind_some, v] at base ⊢
    rw [if_neg (show ¬ ((-1 : Int32), Q).1 = 10 from (by decide : ¬ (-1 : Int32) = 10))] at base ⊢
    exact base
  | succ d ih =>
    intro a fuel Q hd hf hak he hO h40 h11
    obtain ⟨fuel, rfl⟩ : ∃ m, fuel = m + 1 := ⟨fuel - 1, by omega⟩
    have qT := tm_T_fr hT hO (h40 10 (by omega) (by omega) (by omega) (by omega))
    have s := m_see qT hak
    have hya := hT.2.1 a
    have v : tm_v y k a = nI (y a) := if_pos (by omega)
    have go : ∀ A : zM, tw_ y a = true → A = z_w Q 40 11 (nI (a + 1)) → p_ok (f_X11_next0_0 fuel A) (tm_S y k (tk_end (tw_ y) k a0) B) := fun A z eA => ih (a + 1) fuel A (by omega) (by omega) (by omega) (by rw [← tk_end_s (by omega) z]; exact he) (fun q hq => by rw [eA, p_nr hq, hO q hq]) (fun q q1 q2 q3 q4 => by rw [eA, p_eq, if_neg q1, h40 q q1 q2 q3 q4]) (by rw [eA, p_eq, if_pos rfl])
    by_cases z1 : y a = 32
    · rw [f_X11_next0_0, h11, s, Option.bind_some, v]
      refine p_t (show nI (y a) = 32 by rw [z1]; rfl) (p_lx (fun A eA => ?_))
      dsimp only at eA
      rw [h11, p_s1] at eA
      exact go A (decide_eq_true (Or.inl z1)) eA
    · have n1 : ¬ nI (y a) = 32 := b_ne (c := 32) (by omega) (by omega) z1
      by_cases z2 : y a = 10
      · rw [f_X11_next0_0, h11, s, Option.bind_some, v]
        refine p_f n1 ?_
        dsimp only
        rw [h11, s, Option.bind_some, v]
        refine p_t (show nI (y a) = 10 by rw [z2]; rfl) (p_lx (fun A eA => ?_))
        dsimp only at eA
        rw [h11, p_s1] at eA
        exact go A (decide_eq_true (Or.inr z2)) eA
      · have n2 : ¬ nI (y a) = 10 := b_ne (c := 10) (by omega) (by omega) z2
        have hw : ¬ (a < k ∧ tw_ y a = true) := fun q => by
          rcases (of_decide_eq_true q.2 : y a = 32 ∨ y a = 10) with q | q
          · exact z1 q
          · exact z2 q
        have ea : tk_end (tw_ y) k a0 = a := by rw [← he, tk_end_n hw]
        rw [ea]
        have base := tm_at hT hak hO h40 h11 (F := f_X11_next0_0 1) (fun _ => rfl) hw
        rw [f_X11_next0_0] at base ⊢
        rw [h11, s, Option.bind_some, v] at base ⊢
        rw [if_neg (show ¬ (nI (y a), Q).1 = 32 from n1)] at base ⊢
        dsimp only at base ⊢
        rw [h11, s, Option.bind_some, v] at base ⊢
        rw [if_neg (show ¬ (nI (y a), Q).1 = 10 from n2)] at base ⊢
        exact base
/-- the reference scans the token i -/
theorem tm_next {B : zM} {i : Nat} (hT : tm_T y k B) (h11 : B.1 40 11 = nI (tk_A y k i)) : p_ok (f_X11_next0 B) (tm_S y k (tk_P y k i) B) := by
  have hk := hT.1
  have ha := tk_A_le (y := y) (k := k) i
  have e : f_X11_next0 B = f_X11_next0_0 (z_F + 1) B := by rw [f_X11_next0_0]; rfl
  rw [e]
  exact tm_s0 hT (k - tk_A y k i) (tk_A y k i) (z_F + 1) B rfl (by unfold z_F; omega) ha rfl (fun _ _ => rfl) (fun _ _ _ _ _ => rfl) h11
end TM
