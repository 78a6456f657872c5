/-! TEXT, on both sides -/
/-- what the reference's text may change, its street aside -/
def tx_F (X Y : zM) : Prop := (∀ a, a ≠ 40 → a ≠ 41 → a ≠ 43 → a ≠ 44 → Y.1 a = X.1 a) ∧ ∀ j, (j < 8 ∨ 19 < j) → Y.1 40 j = X.1 40 j
def tx_bad (X M : zM) (y : Nat → Nat) (k : Nat) (D0 : zM → Prop) (x : Int32 × zM) : Prop := ∃ f j, (¬ f = 0 ∧ f < 9) ∧ x.1 = -1 ∧ tx_F X x.2 ∧ x.2.1 41 = X.1 41 ∧ x.2.1 40 10 = 0 ∧ x.2.1 40 17 = nI f ∧ x.2.1 40 19 = nI (tk_P y k j) ∧ rd_bad y k M 0 D0 f j
def tx_w (X : zM) (st : rs_S) (ln : Nat) (fl : Nat → Int32) (Y : zM) : Prop := (∀ j, j < 810 → Y.1 41 j = X.1 41 j) ∧ Y.1 41 810 = nI ln ∧ (∀ q, q < ln → Y.1 41 (815 + q) = fl (3 * q) ∧ Y.1 41 (835 + q) = fl (3 * q + 1) ∧ Y.1 41 (855 + q) = fl (3 * q + 2)) ∧ ∀ j, j < st.length → Y.1 41 (875 + 2 * j) = nI (tx_f st j).1 ∧ Y.1 41 (876 + 2 * j) = (tx_f st j).2
def tx_yes (X M : zM) (y : Nat → Nat) (k : Nat) (D0 : zM → Prop) (x : Int32 × zM) : Prop := ∃ (st : rs_S) (ln : Nat) (fl sf wf : Nat → Int32), x.1 = nI ln ∧ ln ≤ 16 ∧ st.length ≤ 400 ∧ tx_I st ln fl sf wf ∧ tx_F X x.2 ∧ tx_w X st ln fl x.2 ∧ x.2.1 40 10 = 0 ∧ x.2.1 40 17 = 0 ∧ x.2.1 40 19 = -1 ∧
  ∀ (P : zM → Prop) (Q : zM), D0 Q → (∀ Q', rd_Z y k M (rs_co st) ln sf wf Q' → P Q') → rd_G 0 Q P
section TX
variable {X M : zM} {y : Nat → Nat} {k : Nat} {D0 : zM → Prop}
theorem tx_186 {Z : zM} {ln L : Nat} (hL : L ≤ 400) (h9 : Z.1 40 9 = nI L) (h8 : Z.1 40 8 = nI ln) : ∀ e j fuel (N : zM), j + e = 2 * L → e < fuel → (∀ a, a ≠ 41 → N.1 a = Z.1 a) → (∀ q, q < 875 → N.1 41 q = Z.1 41 q) → (∀ q, q < j → N.1 41 (875 + q) = Z.1 44 q) →
    p_ok (f_X11_text_186 fuel (nI j) N) (fun x => x.1 = nI ln ∧ (∀ a, a ≠ 41 → x.2.1 a = Z.1 a) ∧ (∀ q, q < 875 → x.2.1 41 q = Z.1 41 q) ∧ ∀ q, q < 2 * L → x.2.1 41 (875 + q) = Z.1 44 q) := by
  intro e
  induction e with
  | zero =>
    intro j fuel N h1 h2 h3 h4 h5
    obtain ⟨fuel, rfl⟩ : ∃ m, fuel = m + 1 := ⟨fuel - 1, by omega⟩
    have : j = 2 * L := by omega
    subst this
    rw [f_X11_text_186, h3 40 (by omega), h9, show (2 : Int32) = nI 2 from rfl, n_mu]
    exact p_t (nI_le (Nat.le_refl _) (by omega)) (p_some ⟨h8, h3, h4, h5⟩)
  | succ e ih =>
    intro j fuel N h1 h2 h3 h4 h5
    obtain ⟨fuel, rfl⟩ : ∃ m, fuel = m + 1 := ⟨fuel - 1, by omega⟩
    have e875 : (875 : Int32) + nI j = nI (875 + j) := n_ad 875 j
    rw [f_X11_text_186, h3 40 (by omega), h9, show (2 : Int32) = nI 2 from rfl, n_mu]
    refine p_f (nI_ge (by omega) (by omega)) (p_g (p_ix (show j < 820 by omega) (by decide)) (p_g (by rw [e875]; exact p_ix (show 875 + j < 1700 by omega) (by decide)) (p_lx (fun A eA => p_l ?_))))
    rw [e875, p_cl (by omega), p_cl (by omega), h3 44 (by omega)] at eA
    rw [p_s1]
    refine ih (j + 1) fuel A (by omega) (by omega) (fun a ha => by rw [eA, p_nr ha, h3 a ha]) (fun q hq => by rw [eA, p_eq, if_neg (by omega), h4 q hq]) (fun q hq => ?_)
    rw [eA, p_eq]
    by_cases z : q = j
    · rw [if_pos (by omega), z]
    · rw [if_neg (by omega)]; exact h5 q (by omega)
theorem tx_112 {Z : zM} {ln L : Nat} {fl : Nat → Int32} (hL : L ≤ 400) (hln : ln ≤ 16) (h9 : Z.1 40 9 = nI L) (h8 : Z.1 40 8 = nI ln) (h43 : Z.1 43 = fl) : ∀ e l fuel (N : zM), l + e = ln → e < fuel → (∀ a, a ≠ 41 → N.1 a = Z.1 a) → (∀ q, q < 815 → N.1 41 q = Z.1 41 q) → (∀ q, q < l → N.1 41 (815 + q) = fl (3 * q) ∧ N.1 41 (835 + q) = fl (3 * q + 1) ∧ N.1 41 (855 + q) = fl (3 * q + 2)) →
    p_ok (f_X11_text_112 fuel (nI l) N) (fun x => x.1 = nI ln ∧ (∀ a, a ≠ 41 → x.2.1 a = Z.1 a) ∧ (∀ q, q < 815 → x.2.1 41 q = Z.1 41 q) ∧ (∀ q, q < ln → x.2.1 41 (815 + q) = fl (3 * q) ∧ x.2.1 41 (835 + q) = fl (3 * q + 1) ∧ x.2.1 41 (855 + q) = fl (3 * q + 2)) ∧ ∀ q, q < 2 * L → x.2.1 41 (875 + q) = Z.1 44 q) := by
  intro e
  induction e with
  | zero =>
    intro l fuel N h1 h2 h3 h4 h5
    obtain ⟨fuel, rfl⟩ : ∃ m, fuel = m + 1 := ⟨fuel - 1, by omega⟩
    have : l = ln := by omega
    subst this
    rw [f_X11_text_112, h3 40 (by omega), h8]
    refine p_t (nI_le (Nat.le_refl _) (by omega)) ?_
    rw [p_0]
    refine p_w (tx_186 (Z := N) (ln := l) hL (by rw [h3 40 (by omega)]; exact h9) (by rw [h3 40 (by omega)]; exact h8) (2 * L) 0 z_F N (by omega) (by unfold z_F; omega) (fun _ _ => rfl) (fun _ _ => rfl) (fun q hq => absurd hq (Nat.not_lt_zero q))) ?_
    rintro x ⟨x1, x2, x3, x4⟩
    refine ⟨x1, fun a ha => by rw [x2 a ha, h3 a ha], fun q hq => by rw [x3 q (by omega), h4 q hq], fun q hq => ?_, fun q hq => by rw [x4 q hq, h3 44 (by omega)]⟩
    rw [x3 (815 + q) (by omega), x3 (835 + q) (by omega), x3 (855 + q) (by omega)]
    exact h5 q hq
  | succ e ih =>
    intro l fuel N h1 h2 h3 h4 h5
    obtain ⟨fuel, rfl⟩ : ∃ m, fuel = m + 1 := ⟨fuel - 1, by omega⟩
    have e815 : (815 : Int32) + nI l = nI (815 + l) := n_ad 815 l
    have e835 : (835 : Int32) + nI l = nI (835 + l) := n_ad 835 l
    have e855 : (855 : Int32) + nI l = nI (855 + l) := n_ad 855 l
    have e3 : (3 : Int32) * nI l = nI (3 * l) := n_mu 3 l
    have e31 : (3 : Int32) * nI l + 1 = nI (3 * l + 1) := by rw [e3, p_s1]
    have e32 : (3 : Int32) * nI l + 2 = nI (3 * l + 2) := by rw [e3]; exact n_ad (3 * l) 2
    rw [f_X11_text_112, h3 40 (by omega), h8]
    refine p_f (nI_ge (by omega) (by omega)) (p_g (by rw [e3]; exact p_ix (show 3 * l < 48 by omega) (by decide)) (p_g (by rw [e815]; exact p_ix (show 815 + l < 1700 by omega) (by decide)) (p_lx (fun A eA => ?_))))
    rw [e31]
    refine p_l (p_g (p_ix (show 3 * l + 1 < 48 by omega) (by decide)) (p_g (by rw [e835]; exact p_ix (show 835 + l < 1700 by omega) (by decide)) (p_lx (fun B eB => ?_))))
    rw [e32]
    refine p_l (p_g (p_ix (show 3 * l + 2 < 48 by omega) (by decide)) (p_g (by rw [e855]; exact p_ix (show 855 + l < 1700 by omega) (by decide)) (p_lx (fun C eC => p_l ?_))))
    rw [e815, e3, p_cl (by omega), p_cl (by omega), h3 43 (by omega), h43] at eA
    have aO : ∀ a, a ≠ 41 → A.1 a = Z.1 a := fun a ha => by rw [eA, p_nr ha, h3 a ha]
    rw [e835, p_cl (by omega), p_cl (by omega), aO 43 (by omega), h43] at eB
    have bO : ∀ a, a ≠ 41 → B.1 a = Z.1 a := fun a ha => by rw [eB, p_nr ha, aO a ha]
    rw [e855, p_cl (by omega), p_cl (by omega), bO 43 (by omega), h43] at eC
    have c41 : ∀ q, C.1 41 q = if q = 855 + l then fl (3 * l + 2) else if q = 835 + l then fl (3 * l + 1) else if q = 815 + l then fl (3 * l) else N.1 41 q := fun q => by rw [eC, p_eq, eB, p_eq, eA, p_eq]
    rw [p_s1]
    refine ih (l + 1) fuel C (by omega) (by omega) (fun a ha => by rw [eC, p_nr ha, bO a ha]) (fun q hq => by rw [c41, if_neg (by omega), if_neg (by omega), if_neg (by omega), h4 q hq]) (fun q hq => ?_)
    by_cases z : q = l
    · subst z
      rw [c41, c41, c41, if_neg (by omega), if_neg (by omega), if_pos rfl, if_neg (by omega), if_pos rfl, if_pos rfl]
      exact ⟨rfl, rfl, rfl⟩
    · rw [c41, c41, c41, if_neg (by omega), if_neg (by omega), if_neg (by omega), if_neg (by omega), if_neg (by omega), if_neg (by omega), if_neg (by omega), if_neg (by omega), if_neg (by omega)]
      exact h5 q (by omega)
/-- a text that was refused -/
theorem tx_63b {f j : Nat} {N : zM} (hN : rs_bad X f (tk_P y k j) N) (hf : ¬ f = 0 ∧ f < 9) (hr : rd_bad y k M 0 D0 f j) : p_ok (f_X11_text_63 0 N) (tx_bad X M y k D0) := by
  obtain ⟨⟨f1, f2⟩, h15, h16⟩ := hN
  unfold f_X11_text_63
  refine p_lx (fun A eA => p_lx (fun B eB => p_t rfl (p_lx (fun C eC => p_t rfl (p_some ?_)))))
  have a15 : A.1 40 15 = nI f := by rw [eA, p_eq, if_neg (by decide)]; exact h15
  rw [a15] at eB
  have b16 : B.1 40 16 = nI (tk_P y k j) := by rw [eB, p_eq, if_neg (by decide), eA, p_eq, if_neg (by decide)]; exact h16
  rw [b16] at eC
  have cO : ∀ a, a ≠ 40 → C.1 a = N.1 a := fun a ha => by rw [eC, p_nr ha, eB, p_nr ha, eA, p_nr ha]
  refine ⟨f, j, hf, rfl, ⟨fun a q1 q2 q3 q4 => by rw [cO a q1]; exact f1 a q1 q3 q4, fun q hq => ?_⟩, by rw [cO 41 (by omega)]; exact f1 41 (by omega) (by omega) (by omega), ?_, ?_, ?_, hr⟩
  · rw [eC, p_eq, if_neg (by omega), eB, p_eq, if_neg (by omega), eA, p_eq, if_neg (by omega)]
    exact f2 q (by omega) (by omega) (by omega) (by omega) (by omega) (by omega) (by omega) (by omega) (by omega)
  · rw [eC, p_eq, if_neg (by decide), eB, p_eq, if_neg (by decide), eA, p_eq, if_pos rfl]
  · rw [eC, p_eq, if_neg (by decide), eB, p_eq, if_pos rfl]
  · rw [eC, p_eq, if_pos rfl]
/-- a text that was read -/
theorem tx_63y {i dep ln : Nat} {st : rs_S} {fl sf wf : Nat → Int32} {N : zM} (hN : rs_N X y k i dep st ln fl N) (hst : st.length ≤ i) (hln : ln ≤ 16) (hI : tx_I st ln fl sf wf) (hr : ∀ (P : zM → Prop) (Q : zM), D0 Q → (∀ Q', rd_Z y k M (rs_co st) ln sf wf Q' → P Q') → rd_G 0 Q P) : p_ok (f_X11_text_63 1 N) (tx_yes X M y k D0) := by
  have hk4 := hN.2.1.1
  have hik := tk_o_le hN.2.2.1
  obtain ⟨⟨f1, f2⟩, a2, a3, a4, ⟨c1, c2, c3, c4⟩, a6, a7⟩ := hN
  unfold f_X11_text_63
  refine p_lx (fun A eA => p_lx (fun B eB => p_f b_1z (p_lx (fun C eC => p_f b_1z (p_lx (fun E eE => ?_))))))
  rw [show A.1 40 15 = 0 from by rw [eA, p_eq, if_neg (by decide)]; exact c2] at eB
  have cO : ∀ a, a ≠ 40 → C.1 a = N.1 a := fun a ha => by rw [eC, p_nr ha, eB, p_nr ha, eA, p_nr ha]
  have c40 : ∀ q, q ≠ 10 → q ≠ 17 → q ≠ 19 → C.1 40 q = N.1 40 q := fun q q1 q2 q3 => by rw [eC, p_eq, if_neg q3, eB, p_eq, if_neg q2, eA, p_eq, if_neg q1]
  rw [show Int32.toNatClampNeg (810 : Int32) = 810 from rfl, c40 8 (by omega) (by omega) (by omega), c3] at eE
  have eO : ∀ a, a ≠ 40 → a ≠ 41 → E.1 a = N.1 a := fun a h1 h2 => by rw [eE, p_nr h2, cO a h1]
  have e40 : ∀ q, E.1 40 q = C.1 40 q := fun q => by rw [eE, p_ne (by decide)]
  rw [p_0]
  refine p_w (tx_112 (Z := E) (ln := ln) (L := st.length) (fl := fl) (by omega) hln (by rw [e40, c40 9 (by omega) (by omega) (by omega)]; exact c4) (by rw [e40, c40 8 (by omega) (by omega) (by omega)]; exact c3) (by rw [eO 43 (by omega) (by omega)]; exact a6) ln 0 z_F E (by omega) (by unfold z_F; omega) (fun _ _ => rfl) (fun _ _ => rfl) (fun q hq => absurd hq (Nat.not_lt_zero q))) ?_
  rintro x ⟨x1, x2, x3, x4, x5⟩
  have x44 : ∀ q, q < 2 * st.length → x.2.1 41 (875 + q) = N.1 44 q := fun q hq => by rw [x5 q hq, eO 44 (by omega) (by omega)]
  refine ⟨st, ln, fl, sf, wf, x1, hln, by omega, hI, ⟨fun a q1 q2 q3 q4 => by rw [x2 a q2, eO a q1 q2]; exact f1 a q1 q3 q4, fun q hq => ?_⟩, ⟨fun j hj => ?_, ?_, x4, fun j hj => ?_⟩, ?_, ?_, ?_, hr⟩
  · rw [x2 40 (by omega), e40, c40 q (by omega) (by omega) (by omega)]
    exact f2 q (by omega) (by omega) (by omega) (by omega) (by omega) (by omega) (by omega) (by omega) (by omega)
  · rw [x3 j (by omega), eE, p_eq, if_neg (by omega), cO 41 (by omega)]
    rw [f1 41 (by omega) (by omega) (by omega)]
  · rw [x3 810 (by omega), eE, p_eq, if_pos rfl]
  · have := a7 j hj
    rw [x44 (2 * j) (by omega), show 876 + 2 * j = 875 + (2 * j + 1) by omega, x44 (2 * j + 1) (by omega)]
    exact this
  · rw [x2 40 (by omega), e40, eC, p_eq, if_neg (by decide), eB, p_eq, if_neg (by decide), eA, p_eq, if_pos rfl]
  · rw [x2 40 (by omega), e40, eC, p_eq, if_neg (by decide), eB, p_eq, if_pos rfl]
  · rw [x2 40 (by omega), e40, eC, p_eq, if_pos rfl]
theorem tx_26 : ∀ (n i dep ln : Nat) (st : rs_S) (fl sf wf : Nat → Int32) (N : zM), k - i < n → rs_N X y k i dep st ln fl N → st.length ≤ i → ln ≤ 16 → tx_I st ln fl sf wf → rd_go 0 D0 i (fun Q => ∃ sd op br, rd_C y k M i 0 sd op br [] (rs_co st) ln sf wf Q) →
    p_ok (f_X11_text_26 n 1 N) (fun x => tx_yes X M y k D0 x ∨ tx_bad X M y k D0 x) := by
  intro n
  induction n with
  | zero => intro i dep ln st fl sf wf N h; exact absurd h (Nat.not_lt_zero _)
  | succ n ih =>
    intro i dep ln st fl sf wf N hn hN hst hln hI hgo
    have t0 := rs_tok hN (b := 0) (c := 0) (by decide) (by decide)
    rw [f_X11_text_26]
    refine p_f b_1z ?_
    by_cases z0 : tk_K y k i = 0
    · refine p_t (t0.mpr z0) (p_w (tx_63y hN hst hln hI (fun P Q hQ hP => ?_)) (fun x hx => Or.inl hx))
      refine hgo P Q hQ (fun Q' hQ' => ?_)
      obtain ⟨sd, op, br, hC⟩ := hQ'
      exact rd_over z0 hC hP
    · refine p_f (fun q => z0 (t0.mp q)) ?_
      have hik := (tk_o_s hN.2.2.1 z0).2
      refine p_bx (ln_line (M := M) hN hst z0 hln) (fun x hx => ?_)
      rcases hx with ⟨x1, l16, i', dep', D1, D2, x2, ⟨x3, x3'⟩, x4, x5, x6, x7, x8⟩ | ⟨x1, f, j, xf, x2, x3⟩
      · refine p_f (by rw [x1]; exact b_1z) (p_lx (fun A eA => ?_))
        rw [show x.2.1 40 8 = nI ln from x2.2.2.2.2.1.2.2.1, p_s1] at eA
        rw [x1]
        have hA := rs_ln x2 eA
        refine ih i' dep' (ln + 1) (st ++ D1 ++ D2) _ _ _ A (by omega) hA (by rw [List.length_append, List.length_append]; omega) (by omega) (tx_step hI x4 x5 x6 x7) (fun P Q hQ hP => ?_)
        refine hgo P Q hQ (fun Q' hQ' => ?_)
        obtain ⟨sd, op, br, hC⟩ := hQ'
        refine x8 sd op br (rs_co st) sf wf P Q' hC (fun Q2 hQ2 => hP Q2 ?_)
        obtain ⟨sd', op', br', hC'⟩ := hQ2
        rw [show rs_co (st ++ D1 ++ D2) = rs_co st ++ rs_co D1 ++ rs_co D2 from by rw [rs_co_app, rs_co_app]]
        exact ⟨sd', op', br', hC'⟩
      · refine p_t x1 (p_lx (fun A eA => ?_))
        obtain ⟨n, rfl⟩ : ∃ m, n = m + 1 := ⟨n - 1, by omega⟩
        rw [x1, f_X11_text_26]
        refine p_t rfl (p_w (tx_63b (M := M) (D0 := D0) (j := j) (f := f) ⟨?_, ?_, ?_⟩ xf (fun P Q hQ hP => ?_)) (fun x hx => Or.inr hx))
        · exact ⟨fun a q1 q2 q3 => by rw [eA, p_nr q1]; exact x2.1.1 a q1 q2 q3, fun q q8 q9 q11 q12 q13 q14 q15 q16 q18 => by rw [eA, p_eq, if_neg q8]; exact x2.1.2 q q8 q9 q11 q12 q13 q14 q15 q16 q18⟩
        · rw [eA, p_eq, if_neg (by decide)]; exact x2.2.1
        · rw [eA, p_eq, if_neg (by decide)]; exact x2.2.2
        · refine hgo P Q hQ (fun Q' hQ' => ?_)
          obtain ⟨sd, op, br, hC⟩ := hQ'
          exact x3 sd op br (rs_co st) sf wf P Q' hC hP
theorem n_any (x : Int32) : ∃ n, x = nI n := ⟨x.toBitVec.toNat, by
  apply Int32.toBitVec_inj.mp
  show x.toBitVec = BitVec.ofNat 32 x.toBitVec.toNat
  apply BitVec.eq_of_toNat_eq
  rw [BitVec.toNat_ofNat, Nat.mod_eq_of_lt x.toBitVec.isLt]⟩
/-- the reference's text -/
theorem tx_ref (hT : tm_T y k X) (hgo : ∃ sf wf, sf 0 = 0 ∧ rd_go 0 D0 0 (fun Q => ∃ sd op br, rd_C y k M 0 0 sd op br [] [] 0 sf wf Q)) : p_ok (f_X11_text X) (fun x => tx_yes X M y k D0 x ∨ tx_bad X M y k D0 x) := by
  have hk4 := hT.1
  obtain ⟨sf, wf, hs0, hgo⟩ := hgo
  unfold f_X11_text
  refine p_lx (fun A eA => p_lx (fun B eB => p_lx (fun C eC => p_lx (fun E eE => ?_))))
  have eO : ∀ a, a ≠ 40 → E.1 a = X.1 a := fun a ha => by rw [eE, p_nr ha, eC, p_nr ha, eB, p_nr ha, eA, p_nr ha]
  have e40 : ∀ q, q ≠ 15 → q ≠ 11 → q ≠ 8 → q ≠ 9 → E.1 40 q = X.1 40 q := fun q q1 q2 q3 q4 => by rw [eE, p_eq, if_neg q4, eC, p_eq, if_neg q3, eB, p_eq, if_neg q2, eA, p_eq, if_neg q1]
  have e15 : E.1 40 15 = 0 := by rw [eE, p_eq, if_neg (by decide), eC, p_eq, if_neg (by decide), eB, p_eq, if_neg (by decide), eA, p_eq, if_pos rfl]
  have e11 : E.1 40 11 = nI (tk_A y k 0) := by rw [eE, p_eq, if_neg (by decide), eC, p_eq, if_neg (by decide), eB, p_eq, if_pos rfl]; rfl
  have e8 : E.1 40 8 = nI 0 := by rw [eE, p_eq, if_neg (by decide), eC, p_eq, if_pos rfl]; rfl
  have e9 : E.1 40 9 = nI 0 := by rw [eE, p_eq, if_pos rfl]; rfl
  have eT := tm_T_fr hT eO (e40 10 (by omega) (by omega) (by omega) (by omega))
  refine p_bx (tm_next (i := 0) eT e11) (fun Y hY => ?_)
  obtain ⟨y1, y2, y3, y4, y5, y6⟩ := hY
  obtain ⟨dep, hdep⟩ := n_any (Y.1 40 18)
  refine tx_26 z_F 0 dep 0 [] (Y.1 43) sf wf Y (by unfold z_F; omega) ⟨⟨fun a q1 _ _ => by rw [y1 a q1, eO a q1], fun q q8 q9 q11 q12 q13 q14 q15 q16 q18 => by rw [y2 q q11 q12 q13 q14, e40 q q15 q11 q8 q9]⟩, tm_T_fr eT y1 (y2 10 (by omega) (by omega) (by omega) (by omega)), Nat.zero_le _, ⟨y3, y4, y5, y6⟩, ⟨hdep, by rw [y2 15 (by omega) (by omega) (by omega) (by omega)]; exact e15, by rw [y2 8 (by omega) (by omega) (by omega) (by omega)]; exact e8, by rw [y2 9 (by omega) (by omega) (by omega) (by omega)]; exact e9⟩, rfl, fun j hj => absurd hj (Nat.not_lt_zero j)⟩ (Nat.le_refl 0) (by omega) ⟨fun _ => 0, fun _ => 0, fun _ => 0, by rw [hs0]; rfl, fun z hz => absurd hz List.not_mem_nil, fun l hl => absurd hl (Nat.not_lt_zero l)⟩ hgo
end TX
/-! THE CALL -/
/-- the class's cells as it begins to read -/
def tx_Q0 (M : zM) : zM := z_w (z_w (z_w (z_w (z_w (z_w (z_w (z_w M 15 0 0) 15 1 0) 21 0 0) 28 2 0) 30 0 0) 30 2 0) 30 6 0) 30 8 0
theorem tx_read (M : zM) : f_X4_read M = f_X4_read_33 (z_F - 0) (nI 0) (tx_Q0 M) := by
  have e1 : f_X3_clear 15 M = some (z_w (z_w (z_w M 15 0 0) 15 1 0) 21 0 0) := rfl
  have e2 : ∀ A : zM, f_X9_rewind A = some (z_w A 28 2 0) := fun A => rfl
  unfold f_X4_read tx_Q0
  rw [e1, Option.bind_some, e2, Option.bind_some, Nat.sub_zero, nI_0]
  unfold z_l
  dsimp only
theorem tx_Q0C {y : Nat → Nat} {k : Nat} {M : zM} (hT : tc_T y k M) : rd_C y k M 0 0 (M.1 30 3) (M.1 30 4) (M.1 30 5) [] [] 0 ((tx_Q0 M).1 21) (M.1 24) (tx_Q0 M) ∧ (tx_Q0 M).1 21 0 = 0 := by
  have o : ∀ a, a ≠ 15 → a ≠ 21 → a ≠ 28 → a ≠ 30 → (tx_Q0 M).1 a = M.1 a := fun a q1 q2 q3 q4 => by unfold tx_Q0; rw [p_nr q4, p_nr q4, p_nr q4, p_nr q4, p_nr q3, p_nr q2, p_nr q1, p_nr q1]
  have e28 : ∀ q, q ≠ 2 → (tx_Q0 M).1 28 q = M.1 28 q := fun q hq => by unfold tx_Q0; rw [p_ne (by decide), p_ne (by decide), p_ne (by decide), p_ne (by decide), p_eq, if_neg hq, p_ne (by decide), p_ne (by decide), p_ne (by decide)]
  have e30 : ∀ q, (tx_Q0 M).1 30 q = if q = 8 then 0 else if q = 6 then 0 else if q = 2 then 0 else if q = 0 then 0 else M.1 30 q := fun q => by unfold tx_Q0; rw [p_eq, p_eq, p_eq, p_eq, p_ne (by decide), p_ne (by decide), p_ne (by decide), p_ne (by decide)]
  refine ⟨⟨⟨fun a q1 _ q3 _ q5 q6 _ => o a q1 q3 q5 q6, rd_T_fr hT (e28 0 (by omega)) (o 29 (by omega) (by omega) (by omega) (by omega)), ⟨by rw [e30]; rfl, by rw [e30]; rfl, by rw [e30]; rfl, by rw [e30]; rfl, by rw [e30]; rfl, by rw [e30]; rfl, by rw [e30]; rfl⟩, ⟨trivial, fun x hx => absurd hx List.not_mem_nil⟩, ?_, ?_, fun j hj => absurd hj (Nat.not_lt_zero j), rfl, o 24 (by omega) (by omega) (by omega) (by omega)⟩, Nat.zero_le _, ?_, Nat.le_refl 0⟩, ?_⟩
  · unfold tx_Q0
    rw [p_ne (by decide), p_ne (by decide), p_ne (by decide), p_ne (by decide), p_ne (by decide), p_ne (by decide), p_eq, if_neg (by decide), p_eq, if_pos rfl]
    rfl
  · unfold tx_Q0
    rw [p_ne (by decide), p_ne (by decide), p_ne (by decide), p_ne (by decide), p_ne (by decide), p_ne (by decide), p_eq, if_pos rfl]
    rfl
  · unfold tx_Q0
    rw [p_ne (by decide), p_ne (by decide), p_ne (by decide), p_ne (by decide), p_eq, if_pos rfl]
    rfl
  · unfold tx_Q0
    rw [p_ne (by decide), p_ne (by decide), p_ne (by decide), p_ne (by decide), p_ne (by decide), p_eq, if_pos rfl]
/-- text -/
theorem p_text {K : Nat} {M : zM} (h : s_I K M) : p_2 K (f_X10_text M) f_X11_text := by
  obtain ⟨⟨n, m, hW, hC⟩, ⟨hi1, hi2⟩, ⟨k, k1, k2, k3, k4⟩, hF, h33⟩ := id h
  have hn10 := hW.1.2.1
  have hm10 := hW.1.2.2.2
  have ex : ∀ i, ∃ q, q < 256 ∧ (i < k → M.1 29 i = tk_b q ∧ M.1 45 i = nI q) := fun i => by
    by_cases z : i < k
    · obtain ⟨a1, a2⟩ := k4 i z
      obtain ⟨q, q1, q2, q3⟩ := tk_by a2
      exact ⟨q, q1, fun _ => ⟨q3, by rw [a1, q2]⟩⟩
    · exact ⟨0, by omega, fun q => absurd q z⟩
  obtain ⟨y, hy⟩ := Classical.axiomOfChoice ex
  have cT : tc_T y k M := ⟨k1, fun i => (hy i).1, k2, fun i hi => ((hy i).2 hi).1⟩
  have mT : ∀ X : zM, X.1 40 = M.1 40 → X.1 45 = M.1 45 → tm_T y k X := fun X h1 h2 => ⟨k1, fun i => (hy i).1, by rw [h1]; exact k3, fun i hi => by rw [h2]; exact ((hy i).2 hi).2⟩
  obtain ⟨q0, q00⟩ := tx_Q0C cT
  have hgo : ∃ sf wf, sf 0 = 0 ∧ rd_go 0 (fun Q => Q = tx_Q0 M) 0 (fun Q => ∃ sd op br, rd_C y k M 0 0 sd op br [] [] 0 sf wf Q) := ⟨_, _, q00, fun P Q hQ hP => hP Q (by rw [hQ]; exact ⟨_, _, _, q0⟩)⟩
  have ref : ∀ X : zM, X.1 40 = M.1 40 → X.1 45 = M.1 45 → p_ok (f_X11_text X) (fun x => tx_yes X M y k (fun Q => Q = tx_Q0 M) x ∨ tx_bad X M y k (fun Q => Q = tx_Q0 M) x) := fun X h1 h2 => tx_ref (mT X h1 h2) hgo
  -- the class ends
  have cls : p_ok (f_X4_read M) (fun Q => ∀ a, a ≠ 15 → a ≠ 18 → a ≠ 21 → a ≠ 24 → a ≠ 28 → a ≠ 30 → a ≠ 31 → Q.1 a = M.1 a) := by
    rw [tx_read]
    obtain ⟨x, -, hx⟩ := ref M rfl rfl
    rcases hx with ⟨st, ln, fl, sf, wf, -, -, -, -, -, -, -, -, -, hx⟩ | ⟨f, j, -, -, -, -, -, -, -, hx⟩
    · exact hx _ _ rfl (fun Q' hQ' => hQ'.1)
    · exact hx _ _ rfl (fun Q' hQ' => hQ'.1)
  obtain ⟨Q, eQ, hQ⟩ := cls
  have same : ∀ P : zM → Prop, p_ok (f_X4_read M) P → P Q := fun P hP => by
    obtain ⟨Q', e', hp⟩ := hP
    have : Q = Q' := Option.some.inj (eQ.symm.trans e')
    rw [this]; exact hp
  unfold p_2 f_X10_text
  rw [eQ, Option.bind_some]
  refine p_lx (fun Z eZ => ?_)
  have zO : ∀ a, a ≠ 28 → Z.1 a = Q.1 a := fun a ha => by rw [eZ, p_nr ha]
  have z0 : Z.1 28 0 = nI 0 := by rw [eZ, p_eq, if_pos rfl]; rfl
  have zM' : ∀ a, a ≠ 15 → a ≠ 18 → a ≠ 21 → a ≠ 24 → a ≠ 28 → a ≠ 30 → a ≠ 31 → Z.1 a = M.1 a := fun a q1 q2 q3 q4 q5 q6 q7 => by rw [zO a q5]; exact hQ a q1 q2 q3 q4 q5 q6 q7
  by_cases zf : Q.1 30 0 = 0
  · -- the text is a law
    refine p_t (by rw [zO 30 (by omega)]; exact zf) ?_
    have cp : p_ok (f_X3_copy 13 15 Z) (fun X => (∀ a, a ≠ 13 → a ≠ 16 → a ≠ 19 → a ≠ 22 → X.1 a = Z.1 a) ∧ X.1 13 0 = Z.1 15 0 ∧ (∀ j, j < 400 → X.1 16 j = Z.1 18 j) ∧ (∀ j, j < 17 → X.1 19 j = Z.1 21 j) ∧ ∀ j, j < 17 → X.1 22 j = Z.1 24 j) := by
      unfold f_X3_copy
      rw [show Int32.toNatClampNeg (0 : Int32) = 0 from rfl, show Int32.toNatClampNeg (400 : Int32) = 400 from rfl, show Int32.toNatClampNeg (17 : Int32) = 17 from rfl]
      refine p_lx (fun A eA => p_lx (fun B eB => p_lx (fun C eC => p_lx (fun D eD => p_lx (fun E eE => p_some ⟨fun a q1 q2 q3 q4 => ?_, ?_, fun j hj => ?_, fun j hj => ?_, fun j hj => ?_⟩)))))
      · rw [eE, p_cn (by omega), eD, p_cn (by omega), eC, p_cn (by omega), eB, p_nr q1, eA, p_nr q1]
      · rw [eE, p_cn (by omega), eD, p_cn (by omega), eC, p_cn (by omega), eB, p_eq, if_neg (by decide), eA, p_eq, if_pos rfl]
      · rw [eE, p_cn (by omega), eD, p_cn (by omega), eC, p_cp, if_pos ⟨rfl, hj⟩, eB, p_ne (by omega), eA, p_ne (by omega)]
      · rw [eE, p_cn (by omega), eD, p_cp, if_pos ⟨rfl, hj⟩, eC, p_cn (by omega), eB, p_ne (by omega), eA, p_ne (by omega)]
      · rw [eE, p_cp, if_pos ⟨rfl, hj⟩, eD, p_cn (by omega), eC, p_cn (by omega), eB, p_ne (by omega), eA, p_ne (by omega)]
    refine p_bx cp (fun X hX => p_some ?_)
    obtain ⟨x1, x2, x3, x4, x5⟩ := hX
    dsimp only
    have xM : ∀ a, a ≠ 13 → a ≠ 16 → a ≠ 19 → a ≠ 22 → a ≠ 15 → a ≠ 18 → a ≠ 21 → a ≠ 24 → a ≠ 28 → a ≠ 30 → a ≠ 31 → X.1 a = M.1 a := fun a p1 p2 p3 p4 q1 q2 q3 q4 q5 q6 q7 => by rw [x1 a p1 p2 p3 p4]; exact zM' a q1 q2 q3 q4 q5 q6 q7
    have x40 : X.1 40 = M.1 40 := xM 40 (by omega) (by omega) (by omega) (by omega) (by omega) (by omega) (by omega) (by omega) (by omega) (by omega) (by omega)
    have x41 : X.1 41 = M.1 41 := xM 41 (by omega) (by omega) (by omega) (by omega) (by omega) (by omega) (by omega) (by omega) (by omega) (by omega) (by omega)
    refine p_w (ref X x40 (xM 45 (by omega) (by omega) (by omega) (by omega) (by omega) (by omega) (by omega) (by omega) (by omega) (by omega) (by omega))) ?_
    rintro x (⟨st, ln, fl, sf, wf, e1, hln, hst, hI, ⟨f1, f2⟩, ⟨w1, w2, w3, w4⟩, t10, t17, t19, hx⟩ | ⟨f, j, hf, -, -, -, -, -, -, hx⟩)
    · have hZ := same (rd_Z y k M (rs_co st) ln sf wf) (by rw [tx_read]; exact hx _ _ rfl (fun Q' hQ' => hQ'))
      obtain ⟨g1, g2, g3, g4, ⟨g5, g6, g7, g8, g9⟩⟩ := hZ
      refine ⟨by rw [x2, zO 15 (by omega), g5, e1], ?_⟩
      have oM : ∀ a, a ≠ 13 → a ≠ 16 → a ≠ 19 → a ≠ 22 → a ≠ 15 → a ≠ 18 → a ≠ 21 → a ≠ 24 → a ≠ 28 → a ≠ 30 → a ≠ 31 → a ≠ 40 → a ≠ 41 → a ≠ 43 → a ≠ 44 → x.2.1 a = M.1 a := fun a p1 p2 p3 p4 q1 q2 q3 q4 q5 q6 q7 r1 r2 r3 r4 => by rw [f1 a r1 r2 r3 r4]; exact xM a p1 p2 p3 p4 q1 q2 q3 q4 q5 q6 q7
      have o1 : ∀ a, s_own 1 a → a ≠ 13 → a ≠ 16 → a ≠ 19 → a ≠ 22 → x.2.1 a = M.1 a := fun a ha p1 p2 p3 p4 => by
        unfold s_own at ha
        exact oM a p1 p2 p3 p4 (by omega) (by omega) (by omega) (by omega) (by omega) (by omega) (by omega) (by omega) (by omega) (by omega) (by omega)
      have wl : ∀ j, j < 810 → x.2.1 41 j = M.1 41 j := fun j hj => by rw [w1 j hj, x41]
      have hW1 := s_W_mono hW
      refine ⟨⟨n, m, ?_, ?_⟩, ⟨?_, ?_⟩, ⟨0, by omega, ?_, ?_, fun i hi => absurd hi (Nat.not_lt_zero i)⟩, ⟨?_, ?_⟩, ?_⟩
      · obtain ⟨⟨u0, u0', u1, u1'⟩, u2, ⟨ct, c1, c2, c3⟩, u4, u5, u6⟩ := hW1
        refine ⟨⟨by rw [wl _ (by omega)]; exact u0, u0', by rw [wl _ (by omega)]; exact u1, u1'⟩, by rw [wl 2 (by omega), wl 3 (by omega), wl 6 (by omega)]; exact u2, ⟨ct, c1, by rw [wl _ (by omega)]; exact c2, fun g hg => ?_⟩, fun g hg => ?_, fun g hg => ?_, fun t ht => ?_⟩
        · rw [wl _ (by omega)]; exact c3 g hg
        · rw [wl _ (by omega), wl _ (by omega), wl _ (by omega), wl _ (by omega), wl _ (by omega), wl _ (by omega), wl _ (by omega), wl _ (by omega)]; exact u4 g hg
        · show x.2.1 41 (20 + 16 * g + 4) = -1 ∨ ∃ e, g < e ∧ e < n ∧ x.2.1 41 (20 + 16 * g + 4) = nI e
          rw [wl _ (by omega)]; exact u5 g hg
        · refine ⟨by rw [wl _ (by omega)]; exact (u6 t ht).1, fun j hj => ?_⟩
          rw [wl _ (by omega), wl _ (by omega)]; exact (u6 t ht).2 j hj
      · obtain ⟨d1, ⟨lh, lt, l1, l2, l3, l4, l5, l6⟩, d3, d4, d5⟩ := hC
        have s1 : x.2.1 1 = M.1 1 := o1 1 (by unfold s_own; omega) (by omega) (by omega) (by omega) (by omega)
        have s3 : x.2.1 (1 + 2) = M.1 (1 + 2) := o1 (1 + 2) (by unfold s_own; omega) (by omega) (by omega) (by omega) (by omega)
        have sH : ∀ g q, g < 10 → q ≤ 4 → x.2.1 (c_H (1 + 2) g + q) = M.1 (c_H (1 + 2) g + q) := fun g q hg hq => o1 _ (by unfold s_own c_H; omega) (by unfold c_H; omega) (by unfold c_H; omega) (by unfold c_H; omega) (by unfold c_H; omega)
        have sS : ∀ g q, g < 10 → q ≤ 2 → x.2.1 (c_S 1 g + q) = M.1 (c_S 1 g + q) := fun g q hg hq => o1 _ (by unfold s_own c_S; omega) (by unfold c_S; omega) (by unfold c_S; omega) (by unfold c_S; omega) (by unfold c_S; omega)
        refine ⟨?_, ⟨lh, lt, by rw [s1]; exact l1, by rw [s1]; exact l2, l3, l4, ?_, fun g t hg ht => ?_⟩, fun g hg q hq => ?_, fun t ht => ?_, ?_⟩
        · rw [s1, s3, wl 0 (by omega), wl 1 (by omega), wl 2 (by omega), wl 3 (by omega), wl 4 (by omega), wl 5 (by omega), wl 6 (by omega), wl 7 (by omega)]; exact d1
        · rw [wl 8 (by omega), wl 9 (by omega)]; exact l5
        · rw [sH g 2 (by omega) (by omega), sH g 3 (by omega) (by omega), sH g 4 (by omega) (by omega), wl _ (by omega), wl _ (by omega), wl _ (by omega)]; exact l6 g t hg ht
        · have := sH g 0 (by omega) (by omega)
          rw [Nat.add_zero] at this
          rw [this, wl _ (by omega)]; exact d3 g hg q hq
        · have := sS t 0 (by omega) (by omega)
          rw [Nat.add_zero] at this
          refine ⟨by rw [this, wl _ (by omega)]; exact (d4 t ht).1, fun j hj => ?_⟩
          rw [sS t 1 (by omega) (by omega), sS t 2 (by omega) (by omega), wl _ (by omega), wl _ (by omega)]; exact (d4 t ht).2 j hj
        · -- the law
          obtain ⟨ff, mm, tt, i0, iv, il⟩ := hI
          have r13 : x.2.1 (1 + 12) 0 = nI ln := by rw [f1 (1 + 12) (by omega) (by omega) (by omega) (by omega), show 1 + 12 = 13 from rfl, x2, zO 15 (by omega)]; exact g5
          have r16 : ∀ j, j < 400 → x.2.1 (1 + 15) j = Q.1 18 j := fun j hj => by rw [f1 (1 + 15) (by omega) (by omega) (by omega) (by omega), show 1 + 15 = 16 from rfl, x3 j hj, zO 18 (by omega)]
          have r19 : ∀ j, j < 17 → x.2.1 (1 + 18) j = sf j := fun j hj => by rw [f1 (1 + 18) (by omega) (by omega) (by omega) (by omega), show 1 + 18 = 19 from rfl, x4 j hj, zO 21 (by omega), g8]
          have r22 : ∀ j, j < 17 → x.2.1 (1 + 21) j = wf j := fun j hj => by rw [f1 (1 + 21) (by omega) (by omega) (by omega) (by omega), show 1 + 21 = 22 from rfl, x5 j hj, zO 24 (by omega), g9]
          have pl := tx_posl st
          refine ⟨ln, st.length, tx_f st, ff, mm, tt, r13, w2, hln, hst, by rw [pl]; exact g4, fun i hi => ⟨(w4 i hi).1, (w4 i hi).2, ?_⟩, fun i hi => ?_⟩
          · have := tx_code (row := x.2.1 (1 + 15)) st 0 iv (fun j hj => by rw [Nat.zero_add, r16 j (by omega)]; exact g7 j hj) i hi
            rw [Nat.zero_add] at this
            exact this
          · obtain ⟨⟨a1, a2, a3⟩, ⟨b1, b2, b3⟩, ⟨c1, c2, c3⟩, d1', d2'⟩ := il i hi
            obtain ⟨v1, v2, v3⟩ := w3 i hi
            exact ⟨by rw [v1, a1], by rw [v2, a2], by rw [v3, a3], b1, b2, b3, by rw [r19 i (by omega)]; exact c1, by rw [r22 i (by omega)]; exact c2, by rw [r19 (i + 1) (by omega)]; exact c3, d1', d2'⟩
      · rw [oM 0 (by omega) (by omega) (by omega) (by omega) (by omega) (by omega) (by omega) (by omega) (by omega) (by omega) (by omega) (by omega) (by omega) (by omega) (by omega), f2 2 (by omega), x40]; exact hi1
      · rw [oM 0 (by omega) (by omega) (by omega) (by omega) (by omega) (by omega) (by omega) (by omega) (by omega) (by omega) (by omega) (by omega) (by omega) (by omega) (by omega), oM 42 (by omega) (by omega) (by omega) (by omega) (by omega) (by omega) (by omega) (by omega) (by omega) (by omega) (by omega) (by omega) (by omega) (by omega) (by omega)]
        rcases hi2 with hi2 | ⟨hi2, n', m', hW', hC'⟩
        · exact Or.inl hi2
        · refine Or.inr ⟨hi2, n', m', s_W_mono hW', s_C_fr (Or.inr rfl) hW'.1.2.1 hW'.1.2.2.2 (fun a ha => ?_) hC'⟩
          unfold s_own at ha
          exact oM a (by omega) (by omega) (by omega) (by omega) (by omega) (by omega) (by omega) (by omega) (by omega) (by omega) (by omega) (by omega) (by omega) (by omega) (by omega)
      · rw [f1 28 (by omega) (by omega) (by omega) (by omega), x1 28 (by omega) (by omega) (by omega) (by omega)]; exact z0
      · rw [t10]; rfl
      · rw [f1 30 (by omega) (by omega) (by omega) (by omega), x1 30 (by omega) (by omega) (by omega) (by omega), zO 30 (by omega), g2, t17]
      · rw [f1 30 (by omega) (by omega) (by omega) (by omega), x1 30 (by omega) (by omega) (by omega) (by omega), zO 30 (by omega), g3, t19]
      · rw [f2 33 (by omega), x40]; exact h33
    · have hE := same (rd_E y k M f j) (by rw [tx_read]; exact hx _ _ rfl (fun Q' hQ' => hQ'))
      exfalso
      have := hE.2.1
      rw [zf] at this
      exact nI_ne0 (by omega) (by omega) this.symm
  · -- the text is refused
    refine p_f (by rw [zO 30 (by omega)]; exact zf) (p_some ?_)
    dsimp only
    have x40 : Z.1 40 = M.1 40 := zM' 40 (by omega) (by omega) (by omega) (by omega) (by omega) (by omega) (by omega)
    refine p_w (ref Z x40 (zM' 45 (by omega) (by omega) (by omega) (by omega) (by omega) (by omega) (by omega))) ?_
    rintro x (⟨st, ln, fl, sf, wf, -, -, -, -, -, -, -, -, -, hx⟩ | ⟨f, j, hf, e1, ⟨f1, f2⟩, w41, t10, t17, t19, hx⟩)
    · have hZ := same (rd_Z y k M (rs_co st) ln sf wf) (by rw [tx_read]; exact hx _ _ rfl (fun Q' hQ' => hQ'))
      exact absurd hZ.2.1 zf
    · have hE := same (rd_E y k M f j) (by rw [tx_read]; exact hx _ _ rfl (fun Q' hQ' => hQ'))
      refine ⟨e1.symm, ?_⟩
      have oM : ∀ a, a ≠ 15 → a ≠ 18 → a ≠ 21 → a ≠ 24 → a ≠ 28 → a ≠ 30 → a ≠ 31 → a ≠ 40 → a ≠ 41 → a ≠ 43 → a ≠ 44 → x.2.1 a = M.1 a := fun a q1 q2 q3 q4 q5 q6 q7 r1 r2 r3 r4 => by rw [f1 a r1 r2 r3 r4]; exact zM' a q1 q2 q3 q4 q5 q6 q7
      refine s_I_fr h (fun a ha => ?_) (fun a ha => ?_) ?_ ?_ ?_ ⟨?_, ?_⟩ ⟨0, by omega, ?_, ?_, fun i hi => absurd hi (Nat.not_lt_zero i)⟩ ⟨?_, ?_⟩
      · unfold s_own at ha
        exact oM a (by omega) (by omega) (by omega) (by omega) (by omega) (by omega) (by omega) (by omega) (by omega) (by omega) (by omega)
      · unfold s_own at ha
        exact oM a (by omega) (by omega) (by omega) (by omega) (by omega) (by omega) (by omega) (by omega) (by omega) (by omega) (by omega)
      · rw [w41]; exact zM' 41 (by omega) (by omega) (by omega) (by omega) (by omega) (by omega) (by omega)
      · exact oM 42 (by omega) (by omega) (by omega) (by omega) (by omega) (by omega) (by omega) (by omega) (by omega) (by omega) (by omega)
      · rw [oM 0 (by omega) (by omega) (by omega) (by omega) (by omega) (by omega) (by omega) (by omega) (by omega) (by omega) (by omega)]
      · rw [f2 2 (by omega), x40]
      · rw [f2 33 (by omega), x40]
      · rw [f1 28 (by omega) (by omega) (by omega) (by omega)]; exact z0
      · rw [t10]; rfl
      · rw [f1 30 (by omega) (by omega) (by omega) (by omega), zO 30 (by omega), hE.2.1, t17]
      · rw [f1 30 (by omega) (by omega) (by omega) (by omega), zO 30 (by omega), hE.2.2, t19]
