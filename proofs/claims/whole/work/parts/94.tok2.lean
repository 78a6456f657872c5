/-! TOKENS: the class's tape -/
theorem j_len {t n : Nat} {M : zM} (h : (Int32.ofNat (z_len.getD t 0)) >>> ((0 : Int32) &&& 31) = nI n) : f_J0_length_8abf5 t M = some (nI n, M) := by
  unfold f_J0_length_8abf5 f_J0_coder_7d493
  rw [if_neg (by decide), Option.bind_some]
  dsimp only
  rw [h]
theorem j_len0 {M : zM} : f_J0_length_8abf5 0 M = some (nI 65, M) := j_len (by decide)
theorem j_len1 {M : zM} : f_J0_length_8abf5 1 M = some (nI 10, M) := j_len (by decide)
abbrev j_cv (t i : Nat) : Int32 := UInt32.toInt32 (Int32.toUInt32 (((z_byt.getD t []).getD (Int32.toNatClampNeg (nI i)) 0) &&& (255 : Int32)) % 65536)
theorem j_char {t i : Nat} {M : zM} (h1 : ¬ nI i < 0) (h2 : nI i < Int32.ofNat (z_len.getD t 0)) (h3 : z_ix (nI i) (z_len.getD t 0)) (h4 : vp_nar .char (j_cv t i) = j_cv t i) : f_J0_charAt_5068e t (nI i) M = some (j_cv t i, M) := by
  unfold f_J0_charAt_5068e f_J0_isLatin1_aae02 f_J1_charAt_3b067 f_J0_checkIndex_df160
  rw [if_neg (by decide), if_pos rfl, Option.bind_some]
  dsimp only
  rw [if_neg (by decide), if_neg h1, if_pos h2, Option.bind_some]
  unfold z_g
  rw [if_pos h3, if_pos (show _ = _ from h4), Option.bind_some]
  dsimp only
  rw [if_pos (show _ = _ from h4)]
theorem j_ch0 {j i : Nat} {M : zM} (hj : j < 13) (hi : i < 5) : f_J0_charAt_5068e 0 (nI (5 * j + i)) M = some (nI (tk_ch j i), M) := by
  have d : ∀ (j : Fin 13) (i : Fin 5), ¬ nI (5 * j.1 + i.1) < 0 ∧ nI (5 * j.1 + i.1) < Int32.ofNat (z_len.getD 0 0) ∧ z_ix (nI (5 * j.1 + i.1)) (z_len.getD 0 0) ∧ vp_nar .char (j_cv 0 (5 * j.1 + i.1)) = j_cv 0 (5 * j.1 + i.1) ∧ j_cv 0 (5 * j.1 + i.1) = nI (tk_ch j.1 i.1) := by decide +kernel
  obtain ⟨d1, d2, d3, d4, d5⟩ := d ⟨j, hj⟩ ⟨i, hi⟩
  rw [j_char d1 d2 d3 d4, d5]
/-- the tape in the class's cells -/
def tc_T (y : Nat → Nat) (k : Nat) (Q : zM) : Prop := k ≤ 400 ∧ (∀ i, y i < 256) ∧ Q.1 28 0 = nI k ∧ ∀ i, i < k → Q.1 29 i = tk_b (y i)
theorem c_let {q : Nat} {M : zM} (hq : q < 256) : f_X9_isLetter (tk_b q) M = some (if (97 ≤ q ∧ q ≤ 122) ∨ (65 ≤ q ∧ q ≤ 90) then 1 else 0, M) := by
  obtain ⟨h1, h2, -⟩ := tk_b_let hq
  unfold f_X9_isLetter
  rw [c_w, Option.bind_some]
  dsimp only
  by_cases z1 : 97 ≤ q ∧ q ≤ 122
  · rw [if_pos (h1.mpr z1), if_neg b_1z, if_pos (Or.inl z1)]
  · rw [if_neg (fun x => z1 (h1.mp x)), if_pos rfl, c_w, Option.bind_some]
    dsimp only
    by_cases z2 : 65 ≤ q ∧ q ≤ 90
    · rw [if_pos (h2.mpr z2), if_neg b_1z, if_pos (Or.inr z2)]
    · rw [if_neg (fun x => z2 (h2.mp x)), if_pos rfl, if_neg (by omega)]
theorem c_dig {q : Nat} {M : zM} (hq : q < 256) : f_X9_isDigit (tk_b q) M = some (if 48 ≤ q ∧ q ≤ 57 then 1 else 0, M) := by
  obtain ⟨-, -, h3, -⟩ := tk_b_let hq
  unfold f_X9_isDigit z_g
  rw [c_w, Option.bind_some]
  dsimp only
  rw [if_pos (b_nar _)]
  by_cases z : 48 ≤ q ∧ q ≤ 57
  · rw [if_pos (h3.mpr z), if_pos z]
  · rw [if_neg (fun x => z (h3.mp x)), if_neg z]
section TC
variable {y : Nat → Nat} {k p e j l : Nat} {Q : zM}
/-- a word, as the class compares it -/
def tc_ok (y : Nat → Nat) (p l j i : Nat) : Prop := tk_ch j i = if i < l then y (p + i) else 32
theorem tc_19 (hT : tc_T y k Q) (hj : j < 13) (h5 : Q.1 28 5 = nI p) (hl : p + l ≤ k) (hl5 : l ≤ 5) : ∀ c i fuel, i + c = 5 → c < fuel → (∀ q, q < i → tc_ok y p l j q) →
    p_ok (f_X9_isWord_19 fuel (nI (5 * j)) (nI l) (nI i) Q) (fun x => x.2 = Q ∧ ((x.1 = 1 ∧ ∀ q, q < 5 → tc_ok y p l j q) ∨ (x.1 = 0 ∧ ¬ ∀ q, q < 5 → tc_ok y p l j q))) := by
  obtain ⟨hk, hy, h0, h29⟩ := hT
  intro c
  induction c with
  | zero =>
    intro i fuel h1 h2 ho
    obtain ⟨fuel, rfl⟩ : ∃ m, fuel = m + 1 := ⟨fuel - 1, by omega⟩
    have : i = 5 := by omega
    subst this
    rw [f_X9_isWord_19]
    exact p_t (by decide) (p_some ⟨rfl, Or.inl ⟨rfl, ho⟩⟩)
  | succ c ih =>
    intro i fuel h1 h2 ho
    obtain ⟨fuel, rfl⟩ : ∃ m, fuel = m + 1 := ⟨fuel - 1, by omega⟩
    have hch := (tk_chs (j := j) (i := i) hj (by omega)).1
    rw [f_X9_isWord_19, n_ad, j_ch0 hj (by omega)]
    refine p_f (nI_ge (b := 5) (by omega) (by omega)) ?_
    have step : tc_ok y p l j i → p_ok (f_X9_isWord_19 fuel (nI (5 * j)) (nI l) (nI (i + 1)) Q) (fun x => x.2 = Q ∧ ((x.1 = 1 ∧ ∀ q, q < 5 → tc_ok y p l j q) ∨ (x.1 = 0 ∧ ¬ ∀ q, q < 5 → tc_ok y p l j q))) := fun h => ih (i + 1) fuel (by omega) (by omega) (fun q hq => by
      by_cases z : q = i
      · rw [z]; exact h
      · exact ho q (by omega))
    by_cases z : l ≤ i
    · refine p_t (nI_le z (by omega)) ?_
      rw [Option.bind_some]
      by_cases q : tk_ch j i = 32
      · refine p_t (by rw [q]; rfl) (p_l ?_)
        rw [p_s1]
        exact step (by unfold tc_ok; rw [if_neg (by omega)]; exact q)
      · refine p_f (fun x => q (n_inj (by omega) (by omega) (x.trans (show (32 : Int32) = nI 32 from rfl)))) (p_some ⟨rfl, Or.inr ⟨rfl, fun x => q ?_⟩⟩)
        have := x i (by omega)
        unfold tc_ok at this
        rw [if_neg (by omega)] at this
        exact this
    · refine p_f (nI_ge (by omega) (by omega)) ?_
      rw [h5, n_ad]
      refine p_g (p_ix (show p + i < 400 by omega) (by decide)) ?_
      rw [p_cl (by omega), h29 (p + i) (by omega)]
      refine p_l ?_
      rw [Option.bind_some]
      by_cases q : tk_ch j i = y (p + i)
      · refine p_t ((tk_b_eq hch (hy _)).mpr q) (p_l ?_)
        rw [p_s1]
        exact step (by unfold tc_ok; rw [if_pos (by omega)]; exact q)
      · refine p_f (fun x => q ((tk_b_eq hch (hy _)).mp x)) (p_some ⟨rfl, Or.inr ⟨rfl, fun x => q ?_⟩⟩)
        have := x i (by omega)
        unfold tc_ok at this
        rw [if_pos (by omega)] at this
        exact this
theorem tc_isW (hT : tc_T y k Q) (hj : j < 13) (h2 : Q.1 28 2 = nI e) (h5 : Q.1 28 5 = nI p) (hpe : p ≤ e) (hek : e ≤ k) (hlet : ∀ i, p ≤ i → i < e → tl_ y i = true) :
    p_ok (f_X9_isWord (nI (5 * j)) Q) (fun x => x.2 = Q ∧ ((x.1 = 1 ∧ tk_m y p e j) ∨ (x.1 = 0 ∧ ¬ tk_m y p e j))) := by
  have hk := hT.1
  obtain ⟨l1, l2⟩ := tk_lens hj
  unfold f_X9_isWord
  rw [h2, h5, n_sb hpe (by omega)]
  refine p_l ?_
  by_cases z : e - p ≤ 5
  · refine p_t (nI_le (b := 5) z (by omega)) ?_
    rw [p_0]
    refine p_w (tc_19 hT hj h5 (by omega) z 5 0 z_F (by omega) (by unfold z_F; omega) (fun q hq => absurd hq (Nat.not_lt_zero q))) ?_
    have key : (∀ q, q < 5 → tc_ok y p (e - p) j q) ↔ tk_m y p e j := by
      constructor
      · intro h
        have hle : e - p = tk_len j := by
          apply Classical.byContradiction
          intro q
          rcases Nat.lt_or_ge (e - p) (tk_len j) with x | x
          · have h1 := h (e - p) (by omega)
            have h2 := (tk_chs (j := j) (i := e - p) hj (by omega)).2.1 x
            unfold tc_ok at h1
            rw [if_neg (Nat.lt_irrefl _)] at h1
            omega
          · have h1 := h (tk_len j) (by omega)
            have h2 := (tk_chs (j := j) (i := tk_len j) hj (by omega)).2.2 (Nat.le_refl _)
            have h3 := hlet (p + tk_len j) (by omega) (by omega)
            unfold tl_ at h3
            have h3 := of_decide_eq_true h3
            unfold tc_ok at h1
            rw [if_pos (by omega)] at h1
            omega
        refine ⟨hle, fun i hi => ?_⟩
        have h1 := h i (by omega)
        unfold tc_ok at h1
        rw [if_pos (by omega)] at h1
        exact h1.symm
      · rintro ⟨h1, h2⟩ q hq
        unfold tc_ok
        by_cases x : q < e - p
        · rw [if_pos x]; exact (h2 q (by omega)).symm
        · rw [if_neg x]; exact (tk_chs hj hq).2.2 (by omega)
    rintro x ⟨x1, x2⟩
    refine ⟨x1, ?_⟩
    rcases x2 with ⟨x2, x3⟩ | ⟨x2, x3⟩
    · exact Or.inl ⟨x2, key.mp x3⟩
    · exact Or.inr ⟨x2, fun q => x3 (key.mpr q)⟩
  · refine p_f (nI_ge (a := 5) (by omega) (by omega)) (p_some ⟨rfl, Or.inr ⟨rfl, fun q => ?_⟩⟩)
    have := q.1
    omega
theorem tc_46 {P : zM → Prop} {B : zM} (hT : tc_T y k B) (h2 : B.1 28 2 = nI e) (h5 : B.1 28 5 = nI p) (hpe : p ≤ e) (hek : e ≤ k) (hlet : ∀ i, p ≤ i → i < e → tl_ y i = true)
    (hP : ∀ X : zM, (∀ a, a ≠ 28 → X.1 a = B.1 a) → (∀ q, q ≠ 3 → X.1 28 q = B.1 28 q) → X.1 28 3 = nI (tk_wk y p e) → P X) : ∀ c j fuel (Q : zM), j + c = 13 → c < fuel → (∀ a, a ≠ 28 → Q.1 a = B.1 a) → (∀ q, q ≠ 3 → Q.1 28 q = B.1 28 q) → ((∃ i, i < j ∧ tk_m y p e i ∧ Q.1 28 3 = nI (3 + i)) ∨ ((∀ i, i < j → ¬ tk_m y p e i) ∧ Q.1 28 3 = 1)) →
    p_ok (f_X9_scanWord_46 fuel (nI (5 * j)) Q) P := by
  intro c
  induction c with
  | zero =>
    intro j fuel Q h1 h3 hO h28 hI
    obtain ⟨fuel, rfl⟩ : ∃ m, fuel = m + 1 := ⟨fuel - 1, by omega⟩
    have : j = 13 := by omega
    subst this
    rw [f_X9_scanWord_46, j_len0, Option.bind_some]
    refine p_t (show nI 65 ≤ nI (5 * 13) by decide) (p_some (hP Q hO h28 ?_))
    rcases hI with ⟨i, hi, hm, hv⟩ | ⟨hn, hv⟩
    · rw [tk_wk_of hi hm]; exact hv
    · rw [tk_wk_no hn]; exact hv
  | succ c ih =>
    intro j fuel Q h1 h3 hO h28 hI
    obtain ⟨fuel, rfl⟩ : ∃ m, fuel = m + 1 := ⟨fuel - 1, by omega⟩
    have qT : tc_T y k Q := ⟨hT.1, hT.2.1, by rw [h28 0 (by omega)]; exact hT.2.2.1, fun i hi => by rw [hO 29 (by omega)]; exact hT.2.2.2 i hi⟩
    have s5 : nI (5 * j) + (5 : Int32) = nI (5 * (j + 1)) := by rw [show (5 : Int32) = nI 5 from rfl, n_ad]; rfl
    rw [f_X9_scanWord_46, j_len0, Option.bind_some]
    refine p_f (nI_ge (b := 65) (by omega) (by omega)) ?_
    refine p_bx (tc_isW qT (show j < 13 by omega) (by rw [h28 2 (by omega)]; exact h2) (by rw [h28 5 (by omega)]; exact h5) hpe hek hlet) (fun x hx => ?_)
    obtain ⟨x1, x2⟩ := hx
    rw [x1]
    rcases x2 with ⟨x2, x3⟩ | ⟨x2, x3⟩
    · refine p_f (by rw [x2]; exact b_1z) (p_lx (fun A eA => p_l ?_))
      have ed : (3 : Int32) + nI (5 * j) / 5 = nI (3 + j) := by
        have d : ∀ j : Fin 13, (3 : Int32) + nI (5 * j.1) / 5 = nI (3 + j.1) := by decide +kernel
        exact d ⟨j, by omega⟩
      rw [ed] at eA
      rw [s5]
      exact ih (j + 1) fuel A (by omega) (by omega) (fun a ha => by rw [eA, p_nr ha, hO a ha]) (fun q hq => by rw [eA, p_eq, if_neg hq, h28 q hq]) (Or.inl ⟨j, by omega, x3, by rw [eA, p_eq, if_pos rfl]⟩)
    · refine p_t x2 (p_l ?_)
      rw [s5]
      refine ih (j + 1) fuel Q (by omega) (by omega) hO h28 ?_
      rcases hI with ⟨i, hi, hm, hv⟩ | ⟨hn, hv⟩
      · exact Or.inl ⟨i, by omega, hm, hv⟩
      · refine Or.inr ⟨fun i hi => ?_, hv⟩
        by_cases z : i = j
        · rw [z]; exact x3
        · exact hn i (by omega)
/-- behind a scan: kind, value, place -/
def tc_S (y : Nat → Nat) (k p : Nat) (B X : zM) : Prop := (∀ a, a ≠ 28 → X.1 a = B.1 a) ∧ X.1 28 0 = nI k ∧ X.1 28 2 = nI (tk_nx y k p) ∧ X.1 28 3 = nI (tk_kind y k p) ∧ X.1 28 5 = nI p ∧ (tk_kind y k p = 2 → X.1 28 4 = nI (tk_v y p (tk_end (td_ y) k p - p)))
theorem tc_w0 {B : zM} (hT : tc_T y k B) (h5 : B.1 28 5 = nI p) (hp : p < k) (hl : tl_ y p = true) : ∀ d a fuel (Q : zM), k - a = d → d + 1 < fuel → p ≤ a → a ≤ k → tk_end (tl_ y) k a = tk_end (tl_ y) k p → (∀ a, a ≠ 28 → Q.1 a = B.1 a) → (∀ q, q ≠ 2 → Q.1 28 q = B.1 28 q) → Q.1 28 2 = nI a →
    p_ok (f_X9_scanWord_0 fuel Q) (tc_S y k p B) := by
  have hk := hT.1
  have fin : ∀ (Q A : zM), (∀ a, a ≠ 28 → Q.1 a = B.1 a) → (∀ q, q ≠ 2 → Q.1 28 q = B.1 28 q) → Q.1 28 2 = nI (tk_end (tl_ y) k p) → A = z_w Q 28 3 1 → p_ok (f_X9_scanWord_46 z_F (0 : Int32) A) (tc_S y k p B) := by
    intro Q A hO h28 h2 eA
    have a28 : ∀ q, q ≠ 3 → A.1 28 q = Q.1 28 q := fun q hq => by rw [eA, p_eq, if_neg hq]
    have aO : ∀ a, a ≠ 28 → A.1 a = B.1 a := fun a ha => by rw [eA, p_nr ha, hO a ha]
    have aT : tc_T y k A := ⟨hT.1, hT.2.1, by rw [a28 0 (by omega), h28 0 (by omega)]; exact hT.2.2.1, fun i hi => by rw [aO 29 (by omega)]; exact hT.2.2.2 i hi⟩
    refine tc_46 (e := tk_end (tl_ y) k p) (p := p) aT (by rw [a28 2 (by omega)]; exact h2) (by rw [a28 5 (by omega), h28 5 (by omega)]; exact h5) tk_end_ge (tk_end_le (by omega)) (fun i h1 h2 => tk_end_all h1 h2) (fun X x1 x2 x3 => ?_) 13 0 z_F A (by omega) (by unfold z_F; omega) (fun _ _ => rfl) (fun _ _ => rfl) (Or.inr ⟨fun i hi => absurd hi (Nat.not_lt_zero i), by rw [eA, p_eq, if_pos rfl]⟩)
    have ek : tk_kind y k p = tk_wk y p (tk_end (tl_ y) k p) := by unfold tk_kind; rw [if_neg (by omega), if_pos hl]
    have en : tk_nx y k p = tk_end (tl_ y) k p := by unfold tk_nx; rw [if_neg (by omega), if_pos hl]
    refine ⟨fun a ha => by rw [x1 a ha, aO a ha], by rw [x2 0 (by omega)]; exact aT.2.2.1, by rw [x2 2 (by omega), a28 2 (by omega), h2, en], by rw [x3, ek], by rw [x2 5 (by omega), a28 5 (by omega), h28 5 (by omega)]; exact h5, fun q => ?_⟩
    rw [ek] at q
    have := tk_wk_in (y := y) (p := p) (e := tk_end (tl_ y) k p)
    omega
  intro d
  induction d with
  | zero =>
    intro a fuel Q hd hf hpa hak he hO h28 h2
    obtain ⟨fuel, rfl⟩ : ∃ m, fuel = m + 1 := ⟨fuel - 1, by omega⟩
    rw [f_X9_scanWord_0]
    refine p_t (by rw [h28 0 (by omega), hT.2.2.1, h2]; exact nI_le (by omega) (by omega)) (p_lx (fun A eA => fin Q A hO h28 ?_ eA))
    rw [h2, ← he, tk_end_n (by omega)]
  | succ d ih =>
    intro a fuel Q hd hf hpa hak he hO h28 h2
    obtain ⟨fuel, rfl⟩ : ∃ m, fuel = m + 1 := ⟨fuel - 1, by omega⟩
    rw [f_X9_scanWord_0]
    refine p_f (by rw [h28 0 (by omega), hT.2.2.1, h2]; exact nI_ge (by omega) (by omega)) ?_
    rw [h2]
    refine p_g (p_ix (show a < 400 by omega) (by decide)) ?_
    rw [p_cl (by omega), hO 29 (by omega), hT.2.2.2 a (by omega), c_let (hT.2.1 a), Option.bind_some]
    dsimp only
    by_cases z : tl_ y a = true
    · have z' : (97 ≤ y a ∧ y a ≤ 122) ∨ (65 ≤ y a ∧ y a ≤ 90) := of_decide_eq_true z
      refine p_f (by rw [if_pos z']; exact b_1z) (p_lx (fun A eA => ?_))
      rw [h2, p_s1] at eA
      exact ih (a + 1) fuel A (by omega) (by omega) (by omega) (by omega) (by rw [← tk_end_s (by omega) z]; exact he) (fun q hq => by rw [eA, p_nr hq, hO q hq]) (fun q hq => by rw [eA, p_eq, if_neg hq, h28 q hq]) (by rw [eA, p_eq, if_pos rfl])
    · have z' : ¬ ((97 ≤ y a ∧ y a ≤ 122) ∨ (65 ≤ y a ∧ y a ≤ 90)) := fun q => z (decide_eq_true q)
      refine p_t (by rw [if_neg z']) (p_lx (fun A eA => fin Q A hO h28 ?_ eA))
      rw [h2, ← he, tk_end_n (fun q => z q.2)]
theorem tc_word {B : zM} (hT : tc_T y k B) (h2 : B.1 28 2 = nI p) (h5 : B.1 28 5 = nI p) (hp : p < k) (hl : tl_ y p = true) : p_ok (f_X9_scanWord B) (tc_S y k p B) := by
  have e : f_X9_scanWord B = f_X9_scanWord_0 (z_F + 1) B := by rw [f_X9_scanWord_0]; rfl
  have hk := hT.1
  rw [e]
  exact tc_w0 hT h5 hp hl (k - p) p (z_F + 1) B rfl (by unfold z_F; omega) (Nat.le_refl p) (by omega) rfl (fun _ _ => rfl) (fun _ _ => rfl) h2
theorem tc_n5 {B : zM} (hT : tc_T y k B) (h5 : B.1 28 5 = nI p) (hp : p < k) (hl : ¬ tl_ y p = true) (hd' : td_ y p = true) : ∀ d a fuel (Q : zM), k - a = d → d + 1 < fuel → p ≤ a → a ≤ k → tk_end (td_ y) k a = tk_end (td_ y) k p → (∀ a, a ≠ 28 → Q.1 a = B.1 a) → (∀ q, q ≠ 2 → q ≠ 4 → Q.1 28 q = B.1 28 q) → Q.1 28 2 = nI a → Q.1 28 4 = nI (tk_v y p (a - p)) →
    p_ok (f_X9_scanNumber_5 fuel Q) (tc_S y k p B) := by
  have hk := hT.1
  have ge := tk_end_ge (p := td_ y) (k := k) (a := p)
  have le := tk_end_le (p := td_ y) (k := k) (a := p) (by omega)
  have ek : tk_kind y k p = if tk_end (td_ y) k p - p ≤ 4 then 2 else 1 := by unfold tk_kind; rw [if_neg (by omega), if_neg hl, if_pos hd']
  have en : tk_nx y k p = tk_end (td_ y) k p := by unfold tk_nx; rw [if_neg (by omega), if_neg hl, if_pos hd']
  have fin : ∀ (Q : zM), (∀ a, a ≠ 28 → Q.1 a = B.1 a) → (∀ q, q ≠ 2 → q ≠ 4 → Q.1 28 q = B.1 28 q) → Q.1 28 2 = nI (tk_end (td_ y) k p) → Q.1 28 4 = nI (tk_v y p (tk_end (td_ y) k p - p)) → p_ok (f_X9_scanNumber_68 Q) (tc_S y k p B) := by
    intro Q hO h28 h2 h4
    have go : ∀ (x : Int32) (A : zM), x = nI (tk_kind y k p) → A = z_w Q 28 3 x → tc_S y k p B A := by
      intro x A hx eA
      have a28 : ∀ q, q ≠ 3 → A.1 28 q = Q.1 28 q := fun q hq => by rw [eA, p_eq, if_neg hq]
      exact ⟨fun a ha => by rw [eA, p_nr ha, hO a ha], by rw [a28 0 (by omega), h28 0 (by omega) (by omega)]; exact hT.2.2.1, by rw [a28 2 (by omega), h2, en], by rw [eA, p_eq, if_pos rfl, hx], by rw [a28 5 (by omega), h28 5 (by omega) (by omega)]; exact h5, fun _ => by rw [a28 4 (by omega)]; exact h4⟩
    unfold f_X9_scanNumber_68
    rw [h2, h28 5 (by omega) (by omega), h5, n_sb ge (by omega)]
    by_cases z : tk_end (td_ y) k p - p ≤ 4
    · exact p_f (nI_nlt (a := 4) z (by omega)) (p_lx (fun A eA => p_some (go 2 A (by rw [ek, if_pos z]; rfl) eA)))
    · exact p_t (nI_lt (a := 4) (by omega) (by omega)) (p_lx (fun A eA => p_some (go 1 A (by rw [ek, if_neg z]; rfl) eA)))
  intro d
  induction d with
  | zero =>
    intro a fuel Q hd hf hpa hak he hO h28 h2 h4
    obtain ⟨fuel, rfl⟩ : ∃ m, fuel = m + 1 := ⟨fuel - 1, by omega⟩
    have ea : a = tk_end (td_ y) k p := by rw [← he, tk_end_n (by omega)]
    rw [f_X9_scanNumber_5]
    refine p_t (by rw [h28 0 (by omega) (by omega), hT.2.2.1, h2]; exact nI_le (by omega) (by omega)) (fin Q hO h28 (by rw [h2, ea]) (by rw [h4, ea]))
  | succ d ih =>
    intro a fuel Q hd hf hpa hak he hO h28 h2 h4
    obtain ⟨fuel, rfl⟩ : ∃ m, fuel = m + 1 := ⟨fuel - 1, by omega⟩
    have g400 := p_ix (show a < 400 by omega) (show 400 < 2 ^ 31 by decide)
    rw [f_X9_scanNumber_5]
    refine p_f (by rw [h28 0 (by omega) (by omega), hT.2.2.1, h2]; exact nI_ge (by omega) (by omega)) ?_
    rw [h2]
    refine p_g g400 ?_
    rw [p_cl (by omega), hO 29 (by omega), hT.2.2.2 a (by omega), c_dig (hT.2.1 a), Option.bind_some]
    dsimp only
    by_cases z : td_ y a = true
    · have z' : 48 ≤ y a ∧ y a ≤ 57 := of_decide_eq_true z
      refine p_f (by rw [if_pos z']; exact b_1z) ?_
      rw [h2]
      refine p_g g400 (p_lx (fun A eA => p_lx (fun C eC => ?_)))
      rw [p_cl (by omega), hO 29 (by omega), hT.2.2.2 a (by omega), tk_b_di z', h4] at eA
      have ev : nI (tk_v y p (a - p)) * (10 : Int32) + nI (y a) - (48 : Int32) = nI (tk_v y p (a + 1 - p)) := by
        rw [show a + 1 - p = (a - p) + 1 by omega, tk_v, show p + (a - p) = a by omega, show (10 : Int32) = nI 10 from rfl, show (48 : Int32) = nI 48 from rfl, n_mu, n_ad, show tk_v y p (a - p) * 10 + y a = (tk_v y p (a - p) * 10 + (y a - 48)) + 48 by omega, ← n_ad _ 48]
        exact Int32.add_sub_cancel _ _
      rw [ev] at eA
      have a2 : A.1 28 2 = nI a := by rw [eA, p_eq, if_neg (by decide)]; exact h2
      rw [a2, p_s1] at eC
      exact ih (a + 1) fuel C (by omega) (by omega) (by omega) (by omega) (by rw [← tk_end_s (by omega) z]; exact he) (fun q hq => by rw [eC, p_nr hq, eA, p_nr hq, hO q hq]) (fun q q1 q2 => by rw [eC, p_eq, if_neg q1, eA, p_eq, if_neg q2, h28 q q1 q2]) (by rw [eC, p_eq, if_pos rfl]) (by rw [eC, p_eq, if_neg (by decide), eA, p_eq, if_pos rfl])
    · have z' : ¬ (48 ≤ y a ∧ y a ≤ 57) := fun q => z (decide_eq_true q)
      have ea : a = tk_end (td_ y) k p := by rw [← he, tk_end_n (fun q => z q.2)]
      refine p_t (by rw [if_neg z']) (fin Q hO h28 (by rw [h2, ← ea]) (by rw [h4, ← ea]))
theorem tc_num {B : zM} (hT : tc_T y k B) (h2 : B.1 28 2 = nI p) (h5 : B.1 28 5 = nI p) (hp : p < k) (hl : ¬ tl_ y p = true) (hd : td_ y p = true) : p_ok (f_X9_scanNumber B) (tc_S y k p B) := by
  have hk := hT.1
  unfold f_X9_scanNumber
  refine p_lx (fun A eA => ?_)
  exact tc_n5 hT h5 hp hl hd (k - p) p z_F A rfl (by unfold z_F; omega) (Nat.le_refl p) (by omega) rfl (fun a ha => by rw [eA, p_nr ha]) (fun q _ q4 => by rw [eA, p_eq, if_neg q4]) (by rw [eA, p_eq, if_neg (by decide)]; exact h2) (by rw [eA, p_eq, if_pos rfl, Nat.sub_self]; rfl)
/-! signs -/
def tk_sg : List Nat := [59, 43, 45, 42, 47, 40, 41, 60, 61, 62]
theorem tk_sk_of {i : Nat} (hi : i < 10) : tk_sk (tk_sg.getD i 0) = 16 + i := by
  have d : ∀ i : Fin 10, tk_sk (tk_sg.getD i.1 0) = 16 + i.1 := by decide +kernel
  exact d ⟨i, hi⟩
theorem tk_sk_no {q : Nat} (h : ∀ i, i < 10 → ¬ tk_sg.getD i 0 = q) : tk_sk q = 1 := by
  have h0 := h 0 (by omega)
  have h1 := h 1 (by omega)
  have h2 := h 2 (by omega)
  have h3 := h 3 (by omega)
  have h4 := h 4 (by omega)
  have h5 := h 5 (by omega)
  have h6 := h 6 (by omega)
  have h7 := h 7 (by omega)
  have h8 := h 8 (by omega)
  have h9 := h 9 (by omega)
  simp only [tk_sg, List.getD_cons_zero, List.getD_cons_succ] at h0 h1 h2 h3 h4 h5 h6 h7 h8 h9
  unfold tk_sk
  rw [if_neg (by omega), if_neg (by omega), if_neg (by omega), if_neg (by omega), if_neg (by omega), if_neg (by omega), if_neg (by omega), if_neg (by omega), if_neg (by omega), if_neg (by omega)]
theorem tc_ioc {q : Nat} {M : zM} (hq : q < 128) : ∀ e i fuel, i + e = 10 → e < fuel → (∀ j, j < i → ¬ tk_sg.getD j 0 = q) →
    p_ok (f_J1_indexOfChar_4cfef_7 fuel 1 10 (nI q) (nI i) M) (fun x => x.2 = M ∧ ((tk_sk q = 1 ∧ x.1 = -1) ∨ ∃ j, j < 10 ∧ x.1 = nI j ∧ tk_sk q = 16 + j)) := by
  intro e
  induction e with
  | zero =>
    intro i fuel h1 h2 h3
    obtain ⟨fuel, rfl⟩ : ∃ m, fuel = m + 1 := ⟨fuel - 1, by omega⟩
    have : i = 10 := by omega
    subst this
    rw [f_J1_indexOfChar_4cfef_7]
    exact p_t (by decide) (p_some ⟨rfl, Or.inl ⟨tk_sk_no h3, rfl⟩⟩)
  | succ e ih =>
    intro i fuel h1 h2 h3
    obtain ⟨fuel, rfl⟩ : ∃ m, fuel = m + 1 := ⟨fuel - 1, by omega⟩
    rw [f_J1_indexOfChar_4cfef_7]
    refine p_f (nI_ge (b := 10) (by omega) (by omega)) (p_g (p_ix (show i < 10 by omega) (by decide)) ?_)
    have eb : ((z_byt.getD 1 []).getD (Int32.toNatClampNeg (nI i)) 0) = nI (tk_sg.getD i 0) := by
      have d : ∀ i : Fin 10, ((z_byt.getD 1 []).getD (Int32.toNatClampNeg (nI i.1)) 0) = nI (tk_sg.getD i.1 0) := by decide +kernel
      exact d ⟨i, by omega⟩
    have sl : tk_sg.getD i 0 < 128 := by
      have d : ∀ i : Fin 10, tk_sg.getD i.1 0 < 128 := by decide +kernel
      exact d ⟨i, by omega⟩
    rw [eb]
    by_cases z : tk_sg.getD i 0 = q
    · refine p_t (by rw [z]) (p_some ⟨rfl, Or.inr ⟨i, by omega, rfl, ?_⟩⟩)
      rw [← z]; exact tk_sk_of (by omega)
    · refine p_f (b_ne (by omega) (by omega) z) (p_l ?_)
      rw [p_s1]
      refine ih (i + 1) fuel (by omega) (by omega) (fun j hj => ?_)
      by_cases x : j = i
      · rw [x]; exact z
      · exact h3 j (by omega)
theorem tc_io {q : Nat} {M : zM} (hq : q < 128) (h0 : 0 < q) : p_ok (f_J0_indexOf_0f7a4 1 (UInt32.toInt32 (Int32.toUInt32 (nI q) % 65536)) M) (fun x => x.2 = M ∧ ((tk_sk q = 1 ∧ x.1 = -1) ∨ ∃ j, j < 10 ∧ x.1 = nI j ∧ tk_sk q = 16 + j)) := by
  have d : ∀ q : Fin 128, UInt32.toInt32 (Int32.toUInt32 (nI q.1) % 65536) = nI q.1 ∧ Int8.toInt32 (Int32.toInt8 (nI q.1)) = nI q.1 := by decide +kernel
  obtain ⟨d1, d2⟩ := d ⟨q, hq⟩
  dsimp only at d1 d2
  rw [d1]
  have enc : f_J1_canEncode_9a6ad (nI q) M = some (1, M) := by
    unfold f_J1_canEncode_9a6ad
    rw [if_neg (nI_pos (by omega)), if_neg (show ¬ (255 : Int32) < nI q from nI_nlt (a := 255) (by omega) (by omega))]
  have lat : f_J0_isLatin1_aae02 1 M = some (1, M) := rfl
  unfold f_J0_indexOf_0f7a4 f_J0_indexOf_7cf53 f_J1_indexOf_4cfef f_J1_indexOfChar_4cfef
  rw [lat, Option.bind_some]
  dsimp only
  rw [if_neg b_1z, j_len1, Option.bind_some]
  dsimp only
  rw [enc, Option.bind_some]
  dsimp only
  rw [if_neg b_1z]
  unfold z_l
  dsimp only
  rw [if_neg (show ¬ (0 : Int32) < 0 from by decide), show (if Int32.ofNat (z_len.getD 1 0) < nI 10 then Int32.ofNat (z_len.getD 1 0) else nI 10) = (10 : Int32) from by decide, if_pos (show (0 : Int32) < 10 from by decide), d2, p_0]
  have key := tc_ioc (M := M) hq 10 0 z_F (by omega) (by unfold z_F; omega) (fun j hj => absurd hj (Nat.not_lt_zero j))
  obtain ⟨r, er, hr⟩ := key
  rw [er]
  exact ⟨r, rfl, hr⟩
theorem tc_52 {B : zM} (hT : tc_T y k B) (h2 : B.1 28 2 = nI p) (hp : p ≤ k) : p_ok (f_X9_scan_52 B) (tc_S y k p B) := by
  have hk := hT.1
  unfold f_X9_scan_52
  refine p_lx (fun A eA => ?_)
  have a28 : ∀ q, q ≠ 5 → A.1 28 q = B.1 28 q := fun q hq => by rw [eA, p_eq, if_neg hq]
  have aO : ∀ a, a ≠ 28 → A.1 a = B.1 a := fun a ha => by rw [eA, p_nr ha]
  have a2 : A.1 28 2 = nI p := by rw [a28 2 (by omega)]; exact h2
  have a5 : A.1 28 5 = nI p := by rw [eA, p_eq, if_pos rfl]; exact h2
  have aT : tc_T y k A := ⟨hT.1, hT.2.1, by rw [a28 0 (by omega)]; exact hT.2.2.1, fun i hi => by rw [aO 29 (by omega)]; exact hT.2.2.2 i hi⟩
  have up : ∀ X, tc_S y k p A X → tc_S y k p B X := fun X hX => ⟨fun a ha => by rw [hX.1 a ha, aO a ha], hX.2⟩
  by_cases z : k ≤ p
  · refine p_f (by rw [a2, aT.2.2.1]; exact nI_nlt z (by omega)) (p_lx (fun C eC => p_some (up C ⟨fun a ha => by rw [eC, p_nr ha], ?_, ?_, ?_, ?_, ?_⟩)))
    · rw [eC, p_eq, if_neg (by decide)]; exact aT.2.2.1
    · rw [eC, p_eq, if_neg (by decide), a2]; unfold tk_nx; rw [if_pos z]
    · rw [eC, p_eq, if_pos rfl, tk_kind_in.2.mpr z]; rfl
    · rw [eC, p_eq, if_neg (by decide)]; exact a5
    · intro q
      rw [tk_kind_in.2.mpr z] at q
      omega
  · have g400 := p_ix (show p < 400 by omega) (show 400 < 2 ^ 31 by decide)
    have e29 : A.1 29 (Int32.toNatClampNeg (nI p)) = tk_b (y p) := by rw [p_cl (by omega)]; exact aT.2.2.2 p (by omega)
    refine p_t (by rw [a2, aT.2.2.1]; exact nI_lt (by omega) (by omega)) ?_
    rw [a2]
    refine p_g g400 ?_
    rw [e29, c_let (hT.2.1 p), Option.bind_some]
    dsimp only
    by_cases z1 : tl_ y p = true
    · have z1' : (97 ≤ y p ∧ y p ≤ 122) ∨ (65 ≤ y p ∧ y p ≤ 90) := of_decide_eq_true z1
      refine p_f (by rw [if_pos z1']; exact b_1z) (p_bx (tc_word aT a2 a5 (by omega) z1) (fun X hX => p_some (up X hX)))
    · have z1' : ¬ ((97 ≤ y p ∧ y p ≤ 122) ∨ (65 ≤ y p ∧ y p ≤ 90)) := fun q => z1 (decide_eq_true q)
      refine p_t (by rw [if_neg z1']) ?_
      rw [a2]
      refine p_g g400 ?_
      rw [e29, c_dig (hT.2.1 p), Option.bind_some]
      dsimp only
      by_cases z2 : td_ y p = true
      · have z2' : 48 ≤ y p ∧ y p ≤ 57 := of_decide_eq_true z2
        exact p_f (by rw [if_pos z2']; exact b_1z) (p_bx (tc_num aT a2 a5 (by omega) z1 z2) (fun X hX => p_some (up X hX)))
      · have z2' : ¬ (48 ≤ y p ∧ y p ≤ 57) := fun q => z2 (decide_eq_true q)
        have ek : tk_kind y k p = tk_sk (y p) := by unfold tk_kind; rw [if_neg z, if_neg z1, if_neg z2]
        have en : tk_nx y k p = p + 1 := by unfold tk_nx; rw [if_neg z, if_neg z1, if_neg z2]
        have fin : ∀ (x : Int32) (C D : zM), x = nI (tk_kind y k p) → C = z_w A 28 3 x → D = z_w C 28 2 (C.1 28 2 + 1) → tc_S y k p B D := by
          intro x C D hx eC eD
          have c2 : C.1 28 2 = nI p := by rw [eC, p_eq, if_neg (by decide)]; exact a2
          rw [c2, p_s1] at eD
          refine up D ⟨fun a ha => by rw [eD, p_nr ha, eC, p_nr ha], ?_, ?_, ?_, ?_, ?_⟩
          · rw [eD, p_eq, if_neg (by decide), eC, p_eq, if_neg (by decide)]; exact aT.2.2.1
          · rw [eD, p_eq, if_pos rfl, en]
          · rw [eD, p_eq, if_neg (by decide), eC, p_eq, if_pos rfl, hx]
          · rw [eD, p_eq, if_neg (by decide), eC, p_eq, if_neg (by decide)]; exact a5
          · intro q
            rw [ek] at q
            have := tk_sk_in (y p)
            omega
        refine p_t (by rw [if_neg z2']) ?_
        rw [a2]
        refine p_g g400 ?_
        rw [e29]
        have hy := hT.2.1 p
        have bpos : tk_b (y p) ≤ 0 ↔ ¬ (0 < y p ∧ y p < 128) := by
          have d : ∀ q : Fin 256, tk_b q.1 ≤ 0 ↔ ¬ (0 < q.1 ∧ q.1 < 128) := by decide +kernel
          exact d ⟨y p, hy⟩
        by_cases z3 : 0 < y p ∧ y p < 128
        · refine p_f (fun q => bpos.mp q z3) (p_g g400 ?_)
          rw [show tk_b (y p) = nI (y p) from if_pos z3.2]
          refine p_bx (tc_io z3.2 z3.1) (fun x hx => ?_)
          obtain ⟨x1, x2⟩ := hx
          rw [x1]
          unfold f_X9_scan_154
          rcases x2 with ⟨x2, x3⟩ | ⟨j, hj, x2, x3⟩
          · refine p_f (by rw [x3]; decide) (p_lx (fun C eC => p_lx (fun D eD => p_some (fin 1 C D (by rw [ek, x2]; rfl) eC eD))))
          · refine p_t (by rw [x2]; exact nI_pos' (by omega)) (p_lx (fun C eC => p_lx (fun D eD => p_some (fin _ C D (by rw [x2, ek, x3]; exact n_ad 16 j) eC eD))))
        · refine p_t (bpos.mpr z3) ?_
          unfold f_X9_scan_154
          refine p_f (by decide) (p_lx (fun C eC => p_lx (fun D eD => p_some (fin 1 C D ?_ eC eD))))
          rw [ek, tk_sk_no (fun i hi e => z3 ?_)]
          · rfl
          · rw [← e]
            have d : ∀ i : Fin 10, 0 < tk_sg.getD i.1 0 ∧ tk_sg.getD i.1 0 < 128 := by decide +kernel
            exact d ⟨i, hi⟩
theorem tc_s0 {B : zM} (hT : tc_T y k B) {a0 : Nat} : ∀ d a fuel (Q : zM), k - a = d → d + 1 < fuel → a ≤ k → tk_end (tw_ y) k a = tk_end (tw_ y) k a0 → (∀ a, a ≠ 28 → Q.1 a = B.1 a) → (∀ q, q ≠ 2 → Q.1 28 q = B.1 28 q) → Q.1 28 2 = nI a →
    p_ok (f_X9_scan_0 fuel Q) (tc_S y k (tk_end (tw_ y) k a0) B) := by
  have hk := hT.1
  have fin : ∀ (a : Nat) (Q : zM), a ≤ k → a = tk_end (tw_ y) k a0 → (∀ a, a ≠ 28 → Q.1 a = B.1 a) → (∀ q, q ≠ 2 → Q.1 28 q = B.1 28 q) → Q.1 28 2 = nI a → p_ok (f_X9_scan_52 Q) (tc_S y k (tk_end (tw_ y) k a0) B) := by
    intro a Q ha ea hO h28 h2
    rw [← ea]
    refine p_w (tc_52 ⟨hT.1, hT.2.1, by rw [h28 0 (by omega)]; exact hT.2.2.1, fun i hi => by rw [hO 29 (by omega)]; exact hT.2.2.2 i hi⟩ h2 ha) ?_
    rintro X ⟨x1, x2⟩
    exact ⟨fun q hq => by rw [x1 q hq, hO q hq], x2⟩
  intro d
  induction d with
  | zero =>
    intro a fuel Q hd hf hak he hO h28 h2
    obtain ⟨fuel, rfl⟩ : ∃ m, fuel = m + 1 := ⟨fuel - 1, by omega⟩
    rw [f_X9_scan_0]
    exact p_t (by rw [h28 0 (by omega), hT.2.2.1, h2]; exact nI_le (by omega) (by omega)) (fin a Q hak (by rw [← he, tk_end_n (by omega)]) hO h28 h2)
  | succ d ih =>
    intro a fuel Q hd hf hak he hO h28 h2
    obtain ⟨fuel, rfl⟩ : ∃ m, fuel = m + 1 := ⟨fuel - 1, by omega⟩
    have g400 := p_ix (show a < 400 by omega) (show 400 < 2 ^ 31 by decide)
    obtain ⟨-, -, -, b32, b10⟩ := tk_b_let (hT.2.1 a)
    have e29 : Q.1 29 (Int32.toNatClampNeg (nI a)) = tk_b (y a) := by rw [p_cl (by omega), hO 29 (by omega)]; exact hT.2.2.2 a (by omega)
    have go : ∀ A : zM, tw_ y a = true → A = z_w Q 28 2 (nI (a + 1)) → p_ok (f_X9_scan_0 fuel A) (tc_S y k (tk_end (tw_ y) k a0) B) := fun A z eA => ih (a + 1) fuel A (by omega) (by omega) (by omega) (by rw [← tk_end_s (by omega) z]; exact he) (fun q hq => by rw [eA, p_nr hq, hO q hq]) (fun q hq => by rw [eA, p_eq, if_neg hq, h28 q hq]) (by rw [eA, p_eq, if_pos rfl])
    rw [f_X9_scan_0]
    refine p_f (by rw [h28 0 (by omega), hT.2.2.1, h2]; exact nI_ge (by omega) (by omega)) ?_
    rw [h2]
    refine p_g g400 ?_
    rw [e29]
    by_cases z1 : y a = 32
    · refine p_t (b32.mpr z1) (p_lx (fun A eA => ?_))
      rw [p_s1] at eA
      exact go A (decide_eq_true (Or.inl z1)) eA
    · refine p_f (fun q => z1 (b32.mp q)) (p_g g400 ?_)
      by_cases z2 : y a = 10
      · refine p_t (b10.mpr z2) (p_lx (fun A eA => ?_))
        rw [p_s1] at eA
        exact go A (decide_eq_true (Or.inr z2)) eA
      · refine p_f (fun q => z2 (b10.mp q)) (fin a Q hak ?_ hO h28 h2)
        rw [← he, tk_end_n]
        rintro ⟨-, q⟩
        rcases (of_decide_eq_true q : y a = 32 ∨ y a = 10) with q | q
        · exact z1 q
        · exact z2 q
/-- the class scans the token i -/
theorem tc_scan {B : zM} {i : Nat} (hT : tc_T y k B) (h2 : B.1 28 2 = nI (tk_A y k i)) : p_ok (f_X9_scan B) (tc_S y k (tk_P y k i) B) := by
  have hk := hT.1
  have ha := tk_A_le (y := y) (k := k) i
  have e : f_X9_scan B = f_X9_scan_0 (z_F + 1) B := by rw [f_X9_scan_0]; rfl
  rw [e]
  exact tc_s0 hT (k - tk_A y k i) (tk_A y k i) (z_F + 1) B rfl (by unfold z_F; omega) ha rfl (fun _ _ => rfl) (fun _ _ => rfl) h2
end TC
