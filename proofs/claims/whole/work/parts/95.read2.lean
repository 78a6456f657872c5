/-! READING: the class, token by token -/
def rd_G (i : Nat) (Q : zM) (P : zM → Prop) : Prop := p_ok (f_X4_read_33 (z_F - i) (nI i) Q) P
def rd_C (y : Nat → Nat) (k : Nat) (M : zM) (i : Nat) (st sd op br : Int32) (W : List Nat) (C : List Int32) (ln : Nat) (sf wf : Nat → Int32) (Q : zM) : Prop :=
  rd_K y k M st sd op br W C ln sf wf Q ∧ tk_o y k i ∧ Q.1 28 2 = nI (tk_A y k i) ∧ C.length + W.length ≤ i
def rd_S (y : Nat → Nat) (k : Nat) (M : zM) (i : Nat) (st sd op br : Int32) (W : List Nat) (C : List Int32) (ln : Nat) (sf wf : Nat → Int32) (Q : zM) : Prop :=
  rd_K y k M st sd op br W C ln sf wf Q ∧ Q.1 28 2 = nI (tk_A y k (i + 1)) ∧ Q.1 28 5 = nI (tk_P y k i) ∧ (tk_K y k i = 2 → Q.1 30 9 = nI (tk_V y k i)) ∧ C.length + W.length ≤ i ∧ i ≤ 400
def rd_go (i : Nat) (D : zM → Prop) (i' : Nat) (D' : zM → Prop) : Prop := ∀ (P : zM → Prop) (Q : zM), D Q → (∀ Q', D' Q' → rd_G i' Q' P) → rd_G i Q P
def rd_E (y : Nat → Nat) (k : Nat) (M : zM) (f j : Nat) (Q : zM) : Prop := (∀ a, a ≠ 15 → a ≠ 18 → a ≠ 21 → a ≠ 24 → a ≠ 28 → a ≠ 30 → a ≠ 31 → Q.1 a = M.1 a) ∧ Q.1 30 0 = nI f ∧ Q.1 30 1 = nI (tk_P y k j)
def rd_bad (y : Nat → Nat) (k : Nat) (M : zM) (i : Nat) (D : zM → Prop) (f j : Nat) : Prop := ∀ (P : zM → Prop) (Q : zM), D Q → (∀ Q', rd_E y k M f j Q' → P Q') → rd_G i Q P
theorem rd_go_rfl (i : Nat) (D : zM → Prop) : rd_go i D i D := fun _ Q hQ h => h Q hQ
theorem rd_go_tr {i i' i'' : Nat} {D D' D'' : zM → Prop} (h1 : rd_go i D i' D') (h2 : rd_go i' D' i'' D'') : rd_go i D i'' D'' := fun P Q hQ h => h1 P Q hQ (fun Q' hQ' => h2 P Q' hQ' h)
section RG
variable {y : Nat → Nat} {k : Nat} {M : zM} {i : Nat}
theorem rd_bad_tr {i' f j : Nat} {D D' : zM → Prop} (h1 : rd_go i D i' D') (h2 : rd_bad y k M i' D' f j) : rd_bad y k M i D f j := fun P Q hQ h => h1 P Q hQ (fun Q' hQ' => h2 P Q' hQ' h)
variable {st sd op br : Int32} {W : List Nat} {C : List Int32} {ln : Nat} {sf wf : Nat → Int32}
theorem rd_1 {Q : zM} {P : zM → Prop} (h : rd_C y k M i st sd op br W C ln sf wf Q) (hS : ∀ A, rd_S y k M i st sd op br W C ln sf wf A → p_ok (f_X4_take (nI (tk_K y k i)) A) (fun X => rd_G (i + 1) X P)) : rd_G i Q P := by
  obtain ⟨hK, ho, h2, hl⟩ := h
  obtain ⟨x1, x2, ⟨b0, b2, b3, b4, b5, b6, b8⟩, x4, x5⟩ := id hK
  have hi : i ≤ 400 := Nat.le_trans (tk_o_le ho) x2.1
  unfold rd_G
  rw [show z_F - i = (z_F - (i + 1)) + 1 from by unfold z_F; omega, f_X4_read_33]
  refine p_f (nI_nlt (a := 400) (by omega) (by omega)) (p_t b8 (p_t b0 ?_))
  refine p_bx (tc_scan x2 h2) (fun X hX => p_lx (fun A eA => ?_))
  obtain ⟨s1, s2, s3, s4, s5, s6⟩ := hX
  have aO : ∀ a, a ≠ 30 → A.1 a = X.1 a := fun a ha => by rw [eA, p_nr ha]
  have a30 : ∀ j, j ≠ 9 → A.1 30 j = Q.1 30 j := fun j hj => by rw [eA, p_eq, if_neg hj, s1 30 (by omega)]
  have k3 : A.1 28 3 = nI (tk_K y k i) := by rw [aO 28 (by omega)]; exact s4
  rw [k3]
  refine p_bx (hS A ⟨⟨fun a q1 q2 q3 q4 q5 q6 q7 => by rw [aO a q6, s1 a q5]; exact x1 a q1 q2 q3 q4 q5 q6 q7, ⟨x2.1, x2.2.1, by rw [aO 28 (by omega)]; exact s2, fun q hq => by rw [aO 29 (by omega), s1 29 (by omega)]; exact x2.2.2.2 q hq⟩, ⟨by rw [a30 0 (by omega)]; exact b0, by rw [a30 2 (by omega)]; exact b2, by rw [a30 3 (by omega)]; exact b3, by rw [a30 4 (by omega)]; exact b4, by rw [a30 5 (by omega)]; exact b5, by rw [a30 6 (by omega)]; exact b6, by rw [a30 8 (by omega)]; exact b8⟩, by rw [aO 31 (by omega), s1 31 (by omega)]; exact x4, by rw [aO 15 (by omega), aO 18 (by omega), aO 21 (by omega), aO 24 (by omega), s1 15 (by omega), s1 18 (by omega), s1 21 (by omega), s1 24 (by omega)]; exact x5⟩, by rw [aO 28 (by omega)]; exact s3, by rw [aO 28 (by omega)]; exact s5, fun q => by rw [eA, p_eq, if_pos rfl]; exact s6 q, hl, hi⟩) (fun Y hY => p_l ?_)
  rw [p_s1]
  exact hY
theorem rd_fl {X : zM} {f : Nat} {P : zM → Prop} (hf : ¬ f = 0) (hf9 : f < 9) (h0 : X.1 30 0 = nI f) (hi : i ≤ 400) (hP : ∀ Z, Z = z_w X 30 1 (X.1 28 5) → P Z) : rd_G (i + 1) X P := by
  have n0 : ¬ X.1 30 0 = 0 := by rw [h0]; exact nI_ne0 (by omega) (by omega)
  unfold rd_G
  rw [show z_F - (i + 1) = (z_F - (i + 2)) + 1 from by unfold z_F; omega, f_X4_read_33]
  refine p_if (fun _ => ?_) (fun _ => ?_)
  · exact p_f n0 (p_lx (fun Z eZ => p_some (hP Z eZ)))
  · refine p_if (fun _ => ?_) (fun _ => ?_)
    · exact p_f n0 (p_f n0 (p_lx (fun Z eZ => p_some (hP Z eZ))))
    · exact p_f n0 (p_lx (fun Z eZ => p_some (hP Z eZ)))
/-- a token is taken -/
theorem rd_yes {st' sd' op' br' : Int32} {W' : List Nat} {C' : List Int32} {ln' : Nat} {sf' wf' : Nat → Int32} (hκ : tk_K y k i ≠ 0) (hl : C.length + W.length ≤ i → C'.length + W'.length ≤ i + 1)
    (h : ∀ A, rd_S y k M i st sd op br W C ln sf wf A → p_ok (f_X4_take (nI (tk_K y k i)) A) (fun X => rd_K y k M st' sd' op' br' W' C' ln' sf' wf' X ∧ X.1 28 = A.1 28)) :
    rd_go i (rd_C y k M i st sd op br W C ln sf wf) (i + 1) (rd_C y k M (i + 1) st' sd' op' br' W' C' ln' sf' wf') := by
  intro P Q hQ hP
  refine rd_1 hQ (fun A hA => p_w (h A hA) ?_)
  rintro X ⟨x1, x2⟩
  exact hP X ⟨x1, (tk_o_s hQ.2.1 hκ).1, by rw [x2]; exact hA.2.1, hl hQ.2.2.2⟩
/-- a token is refused -/
theorem rd_no {f : Nat} (hf : ¬ f = 0) (hf9 : f < 9) (h : ∀ A, rd_S y k M i st sd op br W C ln sf wf A → p_ok (f_X4_take (nI (tk_K y k i)) A) (fun X => X.1 30 0 = nI f ∧ ∀ a, a ≠ 30 → X.1 a = A.1 a)) : rd_bad y k M i (rd_C y k M i st sd op br W C ln sf wf) f i := by
  intro P Q hQ hP
  refine rd_1 hQ (fun A hA => p_w (h A hA) ?_)
  rintro X ⟨x1, x2⟩
  have hi := hA.2.2.2.2.2
  refine rd_fl hf hf9 x1 hi (fun Z eZ => hP Z ⟨fun a q1 q2 q3 q4 q5 q6 q7 => by rw [eZ, p_nr q6, x2 a q6]; exact hA.1.1 a q1 q2 q3 q4 q5 q6 q7, by rw [eZ, p_eq, if_neg (by decide)]; exact x1, ?_⟩)
  rw [eZ, p_eq, if_pos rfl, x2 28 (by omega)]
  exact hA.2.2.1
section RA
variable {A : zM} {κ : Int32} {P : zM → Prop}
theorem rd_at0 (hs : A.1 30 2 = 0) (h : p_ok (f_X4_takeLine κ A) P) : p_ok (f_X4_take κ A) P := by
  unfold f_X4_take
  rw [hs]
  exact p_l (p_t rfl (p_bx h (fun x hx => p_some hx)))
theorem rd_at1 (hs : A.1 30 2 = 1) (h : p_ok (f_X4_takeUnit κ A) P) : p_ok (f_X4_take κ A) P := by
  unfold f_X4_take
  rw [hs]
  exact p_l (p_f (by decide) (p_t rfl (p_bx h (fun x hx => p_some hx))))
theorem rd_at2 (hs : A.1 30 2 = 2) (h : p_ok (f_X4_takePart κ A) P) : p_ok (f_X4_take κ A) P := by
  unfold f_X4_take
  rw [hs]
  exact p_l (p_f (by decide) (p_f (by decide) (p_t rfl (p_bx h (fun x hx => p_some hx)))))
theorem rd_at3 (hs : A.1 30 2 = 3) (h : p_ok (f_X4_takeCase κ A) P) : p_ok (f_X4_take κ A) P := by
  unfold f_X4_take
  rw [hs]
  exact p_l (p_f (by decide) (p_f (by decide) (p_f (by decide) (p_t rfl (p_bx h (fun x hx => p_some hx))))))
theorem rd_at4 {n : Nat} (hn : n < 26) (hs : A.1 30 2 = 4) (hd : A.1 30 3 = 2 → 17 ≤ n ∧ n ≤ 20) (h : p_ok (f_X4_takeBehindUnit (nI n) A) P) : p_ok (f_X4_take (nI n) A) P := by
  unfold f_X4_take
  rw [hs]
  refine p_l (p_f (by decide) (p_f (by decide) (p_f (by decide) (p_f (by decide) (p_t rfl ?_)))))
  by_cases z : A.1 30 3 = 2
  · refine p_t z ?_
    rw [show (17 : Int32) = nI 17 from rfl, show (20 : Int32) = nI 20 from rfl, c_wi A (by omega) (by omega) (by omega), if_pos (hd z), Option.bind_some]
    dsimp only
    exact p_f b_1z (p_bx h (fun x hx => p_some hx))
  · exact p_f z (p_bx h (fun x hx => p_some hx))
theorem rd_at5 (hs : A.1 30 2 = 5) (h : p_ok (f_X4_takeBehindCase κ A) P) : p_ok (f_X4_take κ A) P := by
  unfold f_X4_take
  rw [hs]
  exact p_l (p_f (by decide) (p_f (by decide) (p_f (by decide) (p_f (by decide) (p_f (by decide) (p_bx h (fun x hx => p_some hx)))))))
end RA
def rd_u (κ v : Nat) : Int32 := if κ = 2 then nI v else -nI κ
theorem rd_0 {A : zM} {f : Nat} : ∀ Z, Z = z_w A 30 0 (nI f) → Z.1 30 0 = nI f ∧ ∀ a, a ≠ 30 → Z.1 a = A.1 a := fun Z eZ => ⟨by rw [eZ, p_eq, if_pos rfl], fun a ha => by rw [eZ, p_nr ha]⟩
theorem rd_tu {A : zM} {κ v : Nat} (hK : rd_K y k M st sd op br W C ln sf wf A) (hκ : κ = 2 ∨ (8 ≤ κ ∧ κ ≤ 15)) (hv : κ = 2 → A.1 30 9 = nI v) (hC : C.length < 400) : p_ok (f_X4_takeUnit (nI κ) A) (fun X => rd_K y k M 4 sd op br W (C ++ [rd_u κ v]) ln sf wf X ∧ X.1 28 = A.1 28) := by
  have fin : ∀ (x : Int32), x = rd_u κ v → p_ok ((f_X3_add 15 x A).bind fun x7 => z_l (z_w x7 30 2 (4 : Int32)) fun M8 => some M8) (fun X => rd_K y k M 4 sd op br W (C ++ [rd_u κ v]) ln sf wf X ∧ X.1 28 = A.1 28) := fun x hx => by
    refine p_bx (rd_add (v := x) hK hC) (fun B hB => p_lx (fun D eD => p_some ?_))
    obtain ⟨b1, b2, b3⟩ := hB
    have dK := rd_w (j := 2) (v := 4) b1 (by decide) (by decide) (by decide)
    rw [← eD, hx] at dK
    exact ⟨dK, by rw [eD, p_nr (by decide), b2]⟩
  unfold f_X4_takeUnit
  rcases hκ with z | z
  · refine p_t (by rw [z]; rfl) ?_
    exact fin _ (by unfold rd_u; rw [if_pos z]; exact hv z)
  · refine p_f (b_ne (c := 2) (by omega) (by omega) (by omega)) ?_
    rw [show (8 : Int32) = nI 8 from rfl, show (15 : Int32) = nI 15 from rfl, c_wi A (by omega) (by omega) (by omega), if_pos z, Option.bind_some]
    dsimp only
    exact p_f b_1z (fin _ (by unfold rd_u; rw [if_neg (by omega)]))
theorem rd_tun {A : zM} {κ : Nat} (h2 : ¬ κ = 2) (h8 : ¬ (8 ≤ κ ∧ κ ≤ 15)) (hκ : κ < 26) : p_ok (f_X4_takeUnit (nI κ) A) (fun X => X.1 30 0 = nI 1 ∧ ∀ a, a ≠ 30 → X.1 a = A.1 a) := by
  unfold f_X4_takeUnit
  refine p_f (b_ne (c := 2) (by omega) (by omega) h2) ?_
  rw [show (8 : Int32) = nI 8 from rfl, show (15 : Int32) = nI 15 from rfl, c_wi A (by omega) (by omega) (by omega), if_neg h8, Option.bind_some]
  exact p_t rfl (p_lx (fun Z eZ => p_some (rd_0 Z eZ)))
theorem rd_K25 : tk_K y k i < 26 := by have := (tk_kind_in (y := y) (k := k) (p := tk_P y k i)).1; show tk_kind y k (tk_P y k i) < 26; omega
/-- AWAITS_UNIT -/
theorem rd_unit (hκ : tk_K y k i = 2 ∨ (8 ≤ tk_K y k i ∧ tk_K y k i ≤ 15)) : rd_go i (rd_C y k M i 1 sd op br W C ln sf wf) (i + 1) (rd_C y k M (i + 1) 4 sd op br W (C ++ [rd_u (tk_K y k i) (tk_V y k i)]) ln sf wf) := by
  refine fun P Q hQ hP => (rd_yes (by omega) (fun hl => by rw [List.length_append, List.length_singleton]; omega) (fun A hA => ?_)) P Q hQ hP
  have hi := (tk_o_s hQ.2.1 (show tk_K y k i ≠ 0 by omega)).2
  have hk := hQ.1.2.1.1
  exact rd_at1 hA.1.2.2.1.2.1 (rd_tu hA.1 hκ hA.2.2.2.1 (by have := hA.2.2.2.2.1; omega))
theorem rd_unitn (h2 : ¬ tk_K y k i = 2) (h8 : ¬ (8 ≤ tk_K y k i ∧ tk_K y k i ≤ 15)) : rd_bad y k M i (rd_C y k M i 1 sd op br W C ln sf wf) 1 i :=
  rd_no (by decide) (by decide) (fun A hA => rd_at1 hA.1.2.2.1.2.1 (rd_tun h2 h8 rd_K25))
/-- AWAITS_PART -/
theorem rd_part (hκ : tk_K y k i = 2) (hv : ¬ tk_V y k i = 0) : rd_go i (rd_C y k M i 2 sd op br W C ln sf wf) (i + 1) (rd_C y k M (i + 1) 4 sd op br W (C ++ [nI (tk_V y k i)]) ln sf wf) := by
  refine fun P Q hQ hP => (rd_yes (by omega) (fun hl => by rw [List.length_append, List.length_singleton]; omega) (fun A hA => ?_)) P Q hQ hP
  have hi := (tk_o_s hQ.2.1 (show tk_K y k i ≠ 0 by omega)).2
  have hk := hQ.1.2.1.1
  have hvl := tk_V_lt hκ
  have h9 := hA.2.2.2.1 hκ
  refine rd_at2 hA.1.2.2.1.2.1 ?_
  unfold f_X4_takePart
  rw [hκ]
  refine p_t rfl (p_f (by rw [h9]; exact nI_ne0 (by omega) (by omega)) (p_t rfl ?_))
  have := rd_tu (κ := 2) (v := tk_V y k i) hA.1 (Or.inl rfl) (fun _ => h9) (by have := hA.2.2.2.2.1; omega)
  exact p_bx this (fun x hx => p_some hx)
theorem rd_part0 (hκ : tk_K y k i = 2) (hv : tk_V y k i = 0) : rd_bad y k M i (rd_C y k M i 2 sd op br W C ln sf wf) 2 i := by
  refine rd_no (by decide) (by decide) (fun A hA => rd_at2 hA.1.2.2.1.2.1 ?_)
  have h9 := hA.2.2.2.1 hκ
  unfold f_X4_takePart
  rw [hκ]
  exact p_t rfl (p_t (by rw [h9, hv]; rfl) (p_lx (fun Z eZ => p_some (rd_0 Z eZ))))
theorem rd_partn (hκ : ¬ tk_K y k i = 2) : rd_bad y k M i (rd_C y k M i 2 sd op br W C ln sf wf) 1 i := by
  refine rd_no (by decide) (by decide) (fun A hA => rd_at2 hA.1.2.2.1.2.1 ?_)
  have h25 := rd_K25 (y := y) (k := k) (i := i)
  have n2 : ¬ nI (tk_K y k i) = 2 := b_ne (c := 2) (by omega) (by omega) hκ
  unfold f_X4_takePart
  exact p_f n2 (p_f n2 (p_lx (fun Z eZ => p_some (rd_0 Z eZ))))
/-- AWAITS_CASE -/
theorem rd_open {o b : Nat} (hκ : tk_K y k i = 7 ∨ tk_K y k i = 21) (ho : o < 8) (hW : W.length < 39) : rd_go i (rd_C y k M i 3 sd (nI o) (nI b) W C ln sf wf) (i + 1) (rd_C y k M (i + 1) 3 sd (nI (o + 1)) (nI (b + if tk_K y k i = 21 then 1 else 0)) (tk_K y k i :: W) C ln sf wf) := by
  refine rd_yes (by omega) (fun hl => by rw [List.length_cons]; omega) (fun A hA => rd_at3 hA.1.2.2.1.2.1 ?_)
  have key : p_ok (f_X4_takeCase_25 (nI (tk_K y k i)) A) (fun X => rd_K y k M 3 sd (nI (o + 1)) (nI (b + if tk_K y k i = 21 then 1 else 0)) (tk_K y k i :: W) C ln sf wf X ∧ X.1 28 = A.1 28) := by
    unfold f_X4_takeCase_25
    have h4 : A.1 30 4 = nI o := hA.1.2.2.1.2.2.2.1
    have h5 : A.1 30 5 = nI b := hA.1.2.2.1.2.2.2.2.1
    rw [h4]
    refine p_t (nI_lt (b := 8) ho (by omega)) (p_lx (fun B eB => ?_))
    rw [p_s1] at eB
    have bK := rd_w (j := 4) (v := nI (o + 1)) hA.1 (by decide) (by decide) (by decide)
    rw [← eB] at bK
    have b5 : B.1 30 5 = nI b := by rw [eB, p_eq, if_neg (by decide)]; exact h5
    have b28 : B.1 28 = A.1 28 := by rw [eB, p_nr (by decide)]
    have fin : ∀ (x : Int32) (D : zM), x = nI (b + if tk_K y k i = 21 then 1 else 0) → D = z_w B 30 5 x → p_ok ((f_X4_await (nI (tk_K y k i)) D).bind fun x7 => some x7) (fun X => rd_K y k M 3 sd (nI (o + 1)) (nI (b + if tk_K y k i = 21 then 1 else 0)) (tk_K y k i :: W) C ln sf wf X ∧ X.1 28 = A.1 28) := fun x D hx eD => by
      have dK := rd_w (j := 5) (v := x) bK (by decide) (by decide) (by decide)
      rw [← eD] at dK
      have dK : rd_K y k M 3 sd (nI (o + 1)) x W C ln sf wf D := dK
      rw [hx] at dK
      refine p_bx (rd_await dK (by omega) (by omega)) (fun E hE => p_some ⟨hE.1, ?_⟩)
      rw [hE.2.1, eD, p_nr (by decide), b28]
    rw [b5]
    by_cases z : tk_K y k i = 21
    · refine p_t (by rw [z]; rfl) (p_lx (fun D eD => ?_))
      rw [p_s1] at eD
      exact fin _ D (by rw [if_pos z]) eD
    · refine p_f (b_ne (c := 21) (by omega) (by omega) z) (p_lx (fun D eD => ?_))
      rw [i_add0] at eD
      exact fin _ D (by rw [if_neg z]; rfl) eD
  unfold f_X4_takeCase
  rcases hκ with z | z
  · exact p_t (by rw [z]; rfl) key
  · exact p_f (by rw [z]; decide) (p_t (by rw [z]; rfl) key)
theorem rd_openn {o : Nat} (hκ : tk_K y k i = 7 ∨ tk_K y k i = 21) (ho : o = 8) : rd_bad y k M i (rd_C y k M i 3 sd (nI o) br W C ln sf wf) 3 i := by
  refine rd_no (by decide) (by decide) (fun A hA => rd_at3 hA.1.2.2.1.2.1 ?_)
  have key : p_ok (f_X4_takeCase_25 (nI (tk_K y k i)) A) (fun X => X.1 30 0 = nI 3 ∧ ∀ a, a ≠ 30 → X.1 a = A.1 a) := by
    unfold f_X4_takeCase_25
    rw [show A.1 30 4 = nI o from hA.1.2.2.1.2.2.2.1, ho]
    exact p_f (by decide) (p_lx (fun Z eZ => p_some (rd_0 Z eZ)))
  unfold f_X4_takeCase
  rcases hκ with z | z
  · exact p_t (by rw [z]; rfl) key
  · exact p_f (by rw [z]; decide) (p_t (by rw [z]; rfl) key)
/-- a test begins with a sum -/
theorem rd_case (hκ : tk_K y k i = 2 ∨ (8 ≤ tk_K y k i ∧ tk_K y k i ≤ 15)) : rd_go i (rd_C y k M i 3 sd op br W C ln sf wf) (i + 1) (rd_C y k M (i + 1) 4 1 op br W (C ++ [rd_u (tk_K y k i) (tk_V y k i)]) ln sf wf) := by
  refine fun P Q hQ hP => (rd_yes (by omega) (fun hl => by rw [List.length_append, List.length_singleton]; omega) (fun A hA => rd_at3 hA.1.2.2.1.2.1 ?_)) P Q hQ hP
  have hi := (tk_o_s hQ.2.1 (show tk_K y k i ≠ 0 by omega)).2
  have hk := hQ.1.2.1.1
  unfold f_X4_takeCase
  refine p_f (b_ne (c := 7) (by omega) (by omega) (by omega)) (p_f (b_ne (c := 21) (by omega) (by omega) (by omega)) (p_lx (fun B eB => ?_)))
  have bK := rd_w (j := 3) (v := 1) hA.1 (by decide) (by decide) (by decide)
  rw [← eB] at bK
  refine p_bx (rd_tu (v := tk_V y k i) bK hκ (fun q => by rw [eB, p_eq, if_neg (by decide)]; exact hA.2.2.2.1 q) (by have := hA.2.2.2.2.1; omega)) (fun X hX => p_some ⟨hX.1, ?_⟩)
  rw [hX.2, eB, p_nr (by decide)]
theorem rd_casen (h7 : ¬ tk_K y k i = 7) (h21 : ¬ tk_K y k i = 21) (h2 : ¬ tk_K y k i = 2) (h8 : ¬ (8 ≤ tk_K y k i ∧ tk_K y k i ≤ 15)) : rd_bad y k M i (rd_C y k M i 3 sd op br W C ln sf wf) 1 i := by
  refine rd_no (by decide) (by decide) (fun A hA => rd_at3 hA.1.2.2.1.2.1 ?_)
  have h25 := rd_K25 (y := y) (k := k) (i := i)
  unfold f_X4_takeCase
  refine p_f (b_ne (c := 7) (by omega) (by omega) h7) (p_f (b_ne (c := 21) (by omega) (by omega) h21) (p_lx (fun B eB => ?_)))
  refine p_bx (rd_tun h2 h8 h25) (fun X hX => p_some ⟨hX.1, fun a ha => ?_⟩)
  rw [hX.2 a ha, eB, p_nr ha]
/-- BEHIND_UNIT: the sum goes on -/
theorem rd_op {o : Nat} {P W0 : List Nat} (hκ : 17 ≤ tk_K y k i ∧ tk_K y k i ≤ 20) (hB : rd_B (rd_st (tk_K y k i)) W0) (hP : ∀ x, x ∈ P → x ≠ 21 ∧ rd_st (tk_K y k i) ≤ rd_st x) (hl : (P ++ W0).length ≤ 38) :
    rd_go i (rd_C y k M i 4 sd (nI (o + rd_7 P)) br (P ++ W0) C ln sf wf) (i + 1) (rd_C y k M (i + 1) (if tk_K y k i = 20 then 2 else 1) sd (nI o) br (tk_K y k i :: W0) (C ++ rd_ng P) ln sf wf) := by
  refine rd_yes (by omega) (fun h => by rw [List.length_append] at h; rw [List.length_append, List.length_cons]; unfold rd_ng; rw [List.length_map]; omega) (fun A hA => rd_at4 rd_K25 hA.1.2.2.1.2.1 (fun _ => hκ) ?_)
  have h1 := hA.2.2.2.2.1
  have h2 := hA.2.2.2.2.2
  rw [List.length_append] at h1
  unfold f_X4_takeBehindUnit
  rw [show (17 : Int32) = nI 17 from rfl, show (20 : Int32) = nI 20 from rfl, c_wi A (by omega) (by omega) (by omega), if_pos hκ, Option.bind_some]
  dsimp only
  refine p_f b_1z (p_bx (rd_join (by omega) hB hA.1 hP (by omega) (by omega)) (fun B hB => ?_))
  obtain ⟨b1, b2, b3⟩ := hB
  by_cases z : tk_K y k i = 20
  · refine p_t (by rw [z]) (p_lx (fun D eD => p_some ?_))
    have dK := rd_w (j := 2) (v := 2) b1 (by decide) (by decide) (by decide)
    rw [← eD] at dK
    rw [if_pos z]
    exact ⟨dK, by rw [eD, p_nr (by decide), b2]⟩
  · refine p_f (b_ne (c := 20) (by omega) (by omega) z) (p_lx (fun D eD => p_some ?_))
    have dK := rd_w (j := 2) (v := 1) b1 (by decide) (by decide) (by decide)
    rw [← eD] at dK
    rw [if_neg z]
    exact ⟨dK, by rw [eD, p_nr (by decide), b2]⟩
/-- a comparison -/
theorem rd_cmp {o : Nat} {P W0 : List Nat} (hκ : 23 ≤ tk_K y k i ∧ tk_K y k i ≤ 25) (hB : rd_B (rd_st (tk_K y k i)) W0) (hP : ∀ x, x ∈ P → x ≠ 21 ∧ rd_st (tk_K y k i) ≤ rd_st x) (hl : (P ++ W0).length ≤ 38) :
    rd_go i (rd_C y k M i 4 1 (nI (o + rd_7 P)) br (P ++ W0) C ln sf wf) (i + 1) (rd_C y k M (i + 1) 1 2 (nI o) br (tk_K y k i :: W0) (C ++ rd_ng P) ln sf wf) := by
  refine rd_yes (by omega) (fun h => by rw [List.length_append] at h; rw [List.length_append, List.length_cons]; unfold rd_ng; rw [List.length_map]; omega) (fun A hA => rd_at4 rd_K25 hA.1.2.2.1.2.1 (fun e => absurd (hA.1.2.2.1.2.2.1.symm.trans e) (by decide)) ?_)
  have h1 := hA.2.2.2.2.1
  have h2 := hA.2.2.2.2.2
  rw [List.length_append] at h1
  unfold f_X4_takeBehindUnit
  rw [show (17 : Int32) = nI 17 from rfl, show (20 : Int32) = nI 20 from rfl, c_wi A (by omega) (by omega) (by omega), if_neg (by omega), Option.bind_some]
  refine p_t rfl (p_t hA.1.2.2.1.2.2.1 ?_)
  dsimp only
  rw [show (23 : Int32) = nI 23 from rfl, show (25 : Int32) = nI 25 from rfl, c_wi A (by omega) (by omega) (by omega), if_pos hκ, Option.bind_some]
  dsimp only
  refine p_f b_1z (p_bx (rd_join (by omega) hB hA.1 hP (by omega) (by omega)) (fun B hB => p_lx (fun D eD => p_lx (fun E eE => p_some ?_))))
  obtain ⟨b1, b2, b3⟩ := hB
  have dK := rd_w (j := 3) (v := 2) b1 (by decide) (by decide) (by decide)
  rw [← eD] at dK
  have eK := rd_w (j := 2) (v := 1) dK (by decide) (by decide) (by decide)
  rw [← eE] at eK
  exact ⟨eK, by rw [eE, p_nr (by decide), eD, p_nr (by decide), b2]⟩
theorem rd_cmpn (h1 : ¬ (17 ≤ tk_K y k i ∧ tk_K y k i ≤ 20)) (h2 : ¬ (23 ≤ tk_K y k i ∧ tk_K y k i ≤ 25)) : rd_bad y k M i (rd_C y k M i 4 1 op br W C ln sf wf) 1 i := by
  refine rd_no (by decide) (by decide) (fun A hA => rd_at4 rd_K25 hA.1.2.2.1.2.1 (fun e => absurd (hA.1.2.2.1.2.2.1.symm.trans e) (by decide)) ?_)
  have h25 := rd_K25 (y := y) (k := k) (i := i)
  have h3 : A.1 30 3 = 1 := hA.1.2.2.1.2.2.1
  unfold f_X4_takeBehindUnit
  rw [show (17 : Int32) = nI 17 from rfl, show (20 : Int32) = nI 20 from rfl, c_wi A (by omega) (by omega) (by omega), if_neg h1, Option.bind_some]
  refine p_t rfl (p_t h3 ?_)
  dsimp only
  rw [show (23 : Int32) = nI 23 from rfl, show (25 : Int32) = nI 25 from rfl, c_wi A (by omega) (by omega) (by omega), if_neg h2, Option.bind_some]
  refine p_t rfl ?_
  unfold f_X4_takeBehindUnit_71
  dsimp only
  rw [h3]
  exact p_f (by decide) (p_lx (fun Z eZ => p_some (rd_0 Z eZ)))
/-- behind the sum that is paid -/
theorem rd_when {P : List Nat} (hκ : tk_K y k i = 4) (hP : ∀ x, x ∈ P → x ≠ 21) (h7 : rd_7 P = 0) (hl : P.length ≤ 38) (hln : ln < 16) : rd_go i (rd_C y k M i 4 0 (nI 0) (nI 0) P C ln sf wf) (i + 1) (rd_C y k M (i + 1) 3 0 (nI 0) (nI 0) [] (C ++ rd_ng P) ln sf (fun j => if j = ln then nI (C ++ rd_ng P).length else wf j)) := by
  refine rd_yes (by omega) (fun h => by rw [List.length_append, List.length_nil]; unfold rd_ng; rw [List.length_map]; omega) (fun A hA => rd_at4 rd_K25 hA.1.2.2.1.2.1 (fun e => absurd (hA.1.2.2.1.2.2.1.symm.trans e) (by decide)) ?_)
  have h1 := hA.2.2.2.2.1
  have h2 := hA.2.2.2.2.2
  have h3 : A.1 30 3 = 0 := hA.1.2.2.1.2.2.1
  unfold f_X4_takeBehindUnit
  rw [hκ, show (17 : Int32) = nI 17 from rfl, show (20 : Int32) = nI 20 from rfl, c_wi A (by omega) (by omega) (by omega), if_neg (by omega), Option.bind_some]
  refine p_t rfl (p_f (by dsimp only; rw [h3]; decide) ?_)
  unfold f_X4_takeBehindUnit_71
  refine p_t h3 (p_t rfl ?_)
  unfold f_X4_takeBehindUnit_89
  rw [p_0]
  refine p_bx (rd_wd (t := 0) (o := 0) (W0 := []) (by omega) (fun x r h => by cases h) (by rw [List.append_nil, h7]; exact hA.1) (fun x hx => ⟨hP x hx, Nat.zero_le _⟩) (by omega) (by rw [List.append_nil]; omega)) (fun B hB => ?_)
  obtain ⟨b1, b2, b3⟩ := hB
  refine p_bx (rd_cs b1 hln) (fun D hD => p_lx (fun E eE => p_f (by decide) (p_some ?_)))
  obtain ⟨d1, d2, d3⟩ := hD
  have eK := rd_w (j := 2) (v := 3) d1 (by decide) (by decide) (by decide)
  rw [← eE] at eK
  exact ⟨eK, by rw [eE, p_nr (by decide), d2, b2]⟩
theorem rd_stop {P : List Nat} (hκ : tk_K y k i = 16) (hP : ∀ x, x ∈ P → x ≠ 21) (h7 : rd_7 P = 0) (hl : P.length ≤ 38) (hln : ln < 16) : rd_go i (rd_C y k M i 4 0 (nI 0) (nI 0) P C ln sf wf) (i + 1) (rd_C y k M (i + 1) 0 0 (nI 0) (nI 0) [] (C ++ rd_ng P) (ln + 1) (fun j => if j = ln + 1 then nI (C ++ rd_ng P).length else sf j) (fun j => if j = ln then nI (C ++ rd_ng P).length else wf j)) := by
  refine rd_yes (by omega) (fun h => by rw [List.length_append, List.length_nil]; unfold rd_ng; rw [List.length_map]; omega) (fun A hA => rd_at4 rd_K25 hA.1.2.2.1.2.1 (fun e => absurd (hA.1.2.2.1.2.2.1.symm.trans e) (by decide)) ?_)
  have h1 := hA.2.2.2.2.1
  have h2 := hA.2.2.2.2.2
  have h3 : A.1 30 3 = 0 := hA.1.2.2.1.2.2.1
  unfold f_X4_takeBehindUnit
  rw [hκ, show (17 : Int32) = nI 17 from rfl, show (20 : Int32) = nI 20 from rfl, c_wi A (by omega) (by omega) (by omega), if_neg (by omega), Option.bind_some]
  refine p_t rfl (p_f (by dsimp only; rw [h3]; decide) ?_)
  unfold f_X4_takeBehindUnit_71
  refine p_t h3 (p_f (by decide) (p_t rfl ?_))
  unfold f_X4_takeBehindUnit_89
  rw [p_0]
  refine p_bx (rd_wd (t := 0) (o := 0) (W0 := []) (by omega) (fun x r h => by cases h) (by rw [List.append_nil, h7]; exact hA.1) (fun x hx => ⟨hP x hx, Nat.zero_le _⟩) (by omega) (by rw [List.append_nil]; omega)) (fun B hB => ?_)
  obtain ⟨b1, b2, b3⟩ := hB
  refine p_bx (rd_cs b1 hln) (fun D hD => p_lx (fun E eE => p_t rfl ?_))
  obtain ⟨d1, d2, d3⟩ := hD
  have eK := rd_w (j := 2) (v := 3) d1 (by decide) (by decide) (by decide)
  rw [← eE] at eK
  have nl : (rd_ng P).length = P.length := List.length_map _
  refine p_bx (rd_cl (o := 0) (P := []) eK (fun x hx => absurd hx List.not_mem_nil) (by rw [List.length_append, List.length_nil, nl]; omega) (by decide) hln) (fun F hF => p_some ?_)
  obtain ⟨f1, f2, f3⟩ := hF
  rw [show rd_ng [] = [] from rfl, List.append_nil] at f1
  exact ⟨f1, by rw [f2, eE, p_nr (by decide), d2, b2]⟩
theorem rd_payn (h1 : ¬ (17 ≤ tk_K y k i ∧ tk_K y k i ≤ 20)) (h4 : ¬ tk_K y k i = 4) (h16 : ¬ tk_K y k i = 16) : rd_bad y k M i (rd_C y k M i 4 0 op br W C ln sf wf) 1 i := by
  refine rd_no (by decide) (by decide) (fun A hA => rd_at4 rd_K25 hA.1.2.2.1.2.1 (fun e => absurd (hA.1.2.2.1.2.2.1.symm.trans e) (by decide)) ?_)
  have h25 := rd_K25 (y := y) (k := k) (i := i)
  have h3 : A.1 30 3 = 0 := hA.1.2.2.1.2.2.1
  unfold f_X4_takeBehindUnit
  rw [show (17 : Int32) = nI 17 from rfl, show (20 : Int32) = nI 20 from rfl, c_wi A (by omega) (by omega) (by omega), if_neg h1, Option.bind_some]
  refine p_t rfl (p_f (by dsimp only; rw [h3]; decide) ?_)
  unfold f_X4_takeBehindUnit_71
  refine p_t h3 (p_f (b_ne (c := 4) (by omega) (by omega) h4) (p_f (b_ne (c := 16) (by omega) (by omega) h16) (p_lx (fun Z eZ => p_some (rd_0 Z eZ)))))
/-- behind a test -/
def rd_bh (st sd : Int32) (κ : Nat) : Prop := st = 5 ∨ (st = 4 ∧ sd = 2 ∧ ¬ (17 ≤ κ ∧ κ ≤ 20))
theorem rd_atb {A : zM} {P : zM → Prop} (hb : rd_bh st sd (tk_K y k i)) (h2 : A.1 30 2 = st) (h3 : A.1 30 3 = sd) (h : p_ok (f_X4_takeBehindCase (nI (tk_K y k i)) A) P) : p_ok (f_X4_take (nI (tk_K y k i)) A) P := by
  have h25 := rd_K25 (y := y) (k := k) (i := i)
  rcases hb with hb | ⟨hb, hs, hκ⟩
  · exact rd_at5 (by rw [h2]; exact hb) h
  · rw [hs] at h3
    rw [hb] at h2
    unfold f_X4_take
    rw [h2]
    refine p_l (p_f (by decide) (p_f (by decide) (p_f (by decide) (p_f (by decide) (p_t rfl (p_t h3 ?_))))))
    rw [show (17 : Int32) = nI 17 from rfl, show (20 : Int32) = nI 20 from rfl, c_wi A (by omega) (by omega) (by omega), if_neg hκ, Option.bind_some]
    exact p_t rfl (p_bx h (fun x hx => p_some hx))
theorem rd_lg {o : Nat} {P W0 : List Nat} (hb : rd_bh st sd (tk_K y k i)) (hκ : tk_K y k i = 5 ∨ tk_K y k i = 6) (hB : rd_B (rd_st (tk_K y k i)) W0) (hP : ∀ x, x ∈ P → x ≠ 21 ∧ rd_st (tk_K y k i) ≤ rd_st x) (hl : (P ++ W0).length ≤ 38) :
    rd_go i (rd_C y k M i st sd (nI (o + rd_7 P)) br (P ++ W0) C ln sf wf) (i + 1) (rd_C y k M (i + 1) 3 sd (nI o) br (tk_K y k i :: W0) (C ++ rd_ng P) ln sf wf) := by
  refine rd_yes (by omega) (fun h => by rw [List.length_append] at h; rw [List.length_append, List.length_cons]; unfold rd_ng; rw [List.length_map]; omega) (fun A hA => rd_atb hb hA.1.2.2.1.2.1 hA.1.2.2.1.2.2.1 ?_)
  have h1 := hA.2.2.2.2.1
  have h2 := hA.2.2.2.2.2
  rw [List.length_append] at h1
  have key : p_ok ((f_X4_join (nI (tk_K y k i)) A).bind fun x2 => z_l (z_w x2 30 2 (3 : Int32)) fun M3 => some M3) (fun X => rd_K y k M 3 sd (nI o) br (tk_K y k i :: W0) (C ++ rd_ng P) ln sf wf X ∧ X.1 28 = A.1 28) := by
    refine p_bx (rd_join (by omega) hB hA.1 hP (by omega) (by omega)) (fun B hB => p_lx (fun D eD => p_some ?_))
    obtain ⟨b1, b2, b3⟩ := hB
    have dK := rd_w (j := 2) (v := 3) b1 (by decide) (by decide) (by decide)
    rw [← eD] at dK
    exact ⟨dK, by rw [eD, p_nr (by decide), b2]⟩
  unfold f_X4_takeBehindCase
  rcases hκ with z | z
  · exact p_f (by rw [z]; decide) (p_t (by rw [z]; rfl) key)
  · exact p_t (by rw [z]; rfl) key
theorem rd_close {o b : Nat} {P W0 : List Nat} (hb : rd_bh st sd (tk_K y k i)) (hκ : tk_K y k i = 22) (hP : ∀ x, x ∈ P → x ≠ 21) (hl : (P ++ 21 :: W0).length ≤ 38) (hb9 : b < 100) :
    rd_go i (rd_C y k M i st sd (nI (o + 1 + rd_7 P)) (nI (b + 1)) (P ++ 21 :: W0) C ln sf wf) (i + 1) (rd_C y k M (i + 1) 5 sd (nI o) (nI b) W0 (C ++ rd_ng P) ln sf wf) := by
  refine rd_yes (by omega) (fun h => by rw [List.length_append, List.length_cons] at h; rw [List.length_append]; unfold rd_ng; rw [List.length_map]; omega) (fun A hA => rd_atb hb hA.1.2.2.1.2.1 hA.1.2.2.1.2.2.1 ?_)
  have h1 := hA.2.2.2.2.1
  have h2 := hA.2.2.2.2.2
  rw [List.length_append] at h1
  unfold f_X4_takeBehindCase
  rw [hκ]
  refine p_f (by decide) (p_f (by decide) (p_t rfl (p_f (by rw [show A.1 30 5 = nI (b + 1) from hA.1.2.2.1.2.2.2.2.1]; exact nI_nle (by omega) (by omega)) ?_)))
  refine p_bx (rd_cb hA.1 hP (by omega) (by omega)) (fun B hB => p_lx (fun D eD => p_some ?_))
  obtain ⟨b1, b2, b3⟩ := hB
  have dK := rd_w (j := 2) (v := 5) b1 (by decide) (by decide) (by decide)
  rw [← eD] at dK
  exact ⟨dK, by rw [eD, p_nr (by decide), b2]⟩
theorem rd_end {o : Nat} {P : List Nat} (hb : rd_bh st sd (tk_K y k i)) (hκ : tk_K y k i = 16) (hP : ∀ x, x ∈ P → x ≠ 21) (hl : P.length ≤ 38) (hln : ln < 16) :
    rd_go i (rd_C y k M i st sd (nI (o + rd_7 P)) (nI 0) P C ln sf wf) (i + 1) (rd_C y k M (i + 1) 0 sd (nI o) (nI 0) [] (C ++ rd_ng P) (ln + 1) (fun j => if j = ln + 1 then nI (C ++ rd_ng P).length else sf j) wf) := by
  refine rd_yes (by omega) (fun h => by rw [List.length_append, List.length_nil]; unfold rd_ng; rw [List.length_map]; omega) (fun A hA => rd_atb hb hA.1.2.2.1.2.1 hA.1.2.2.1.2.2.1 ?_)
  have h1 := hA.2.2.2.2.1
  have h2 := hA.2.2.2.2.2
  unfold f_X4_takeBehindCase
  rw [hκ]
  refine p_f (by decide) (p_f (by decide) (p_f (by decide) ?_))
  unfold f_X4_takeBehindCase_49
  refine p_t rfl (p_t (by rw [show A.1 30 5 = nI 0 from hA.1.2.2.1.2.2.2.2.1]; rfl) ?_)
  exact p_bx (rd_cl hA.1 hP (by omega) (by omega) hln) (fun B hB => p_some ⟨hB.1, hB.2.1⟩)
theorem rd_bcn {b : Nat} (hb : rd_bh st sd (tk_K y k i)) (h5 : ¬ tk_K y k i = 5) (h6 : ¬ tk_K y k i = 6) (h22 : tk_K y k i = 22 → b = 0) (h16 : tk_K y k i = 16 → ¬ b = 0) (hb9 : b < 100) : rd_bad y k M i (rd_C y k M i st sd op (nI b) W C ln sf wf) 1 i := by
  refine rd_no (by decide) (by decide) (fun A hA => rd_atb hb hA.1.2.2.1.2.1 hA.1.2.2.1.2.2.1 ?_)
  have h25 := rd_K25 (y := y) (k := k) (i := i)
  have hbr : A.1 30 5 = nI b := hA.1.2.2.1.2.2.2.2.1
  have key : p_ok (f_X4_takeBehindCase_49 (nI (tk_K y k i)) A) (fun X => X.1 30 0 = nI 1 ∧ ∀ a, a ≠ 30 → X.1 a = A.1 a) := by
    unfold f_X4_takeBehindCase_49
    by_cases z : tk_K y k i = 16
    · refine p_t (by rw [z]; rfl) (p_f (by rw [hbr]; exact nI_ne0 (by have := h16 z; omega) (by omega)) (p_lx (fun Z eZ => p_some (rd_0 Z eZ))))
    · exact p_f (b_ne (c := 16) (by omega) (by omega) z) (p_lx (fun Z eZ => p_some (rd_0 Z eZ)))
  unfold f_X4_takeBehindCase
  refine p_f (b_ne (c := 6) (by omega) (by omega) h6) (p_f (b_ne (c := 5) (by omega) (by omega) h5) ?_)
  by_cases z : tk_K y k i = 22
  · exact p_t (by rw [z]; rfl) (p_t (by rw [hbr, h22 z]; decide) key)
  · exact p_f (b_ne (c := 22) (by omega) (by omega) z) key
/-- AWAITS_LINE -/
theorem rd_pay (hκ : tk_K y k i = 3) (hln : ln < 16) : rd_go i (rd_C y k M i 0 sd op br W C ln sf wf) (i + 1) (rd_C y k M (i + 1) 1 0 (nI 0) (nI 0) W C ln sf wf) := by
  refine rd_yes (by omega) (fun h => by omega) (fun A hA => rd_at0 hA.1.2.2.1.2.1 ?_)
  unfold f_X4_takeLine
  rw [hκ]
  refine p_f (by decide) (p_t rfl (p_t (by rw [show A.1 15 0 = nI ln from hA.1.2.2.2.2.1]; exact nI_lt (b := 16) hln (by omega)) (p_lx (fun B eB => p_lx (fun D eD => p_lx (fun E eE => p_lx (fun F eF => p_some ?_)))))))
  have bK := rd_w (j := 2) (v := 1) hA.1 (by decide) (by decide) (by decide)
  rw [← eB] at bK
  have dK := rd_w (j := 3) (v := 0) bK (by decide) (by decide) (by decide)
  rw [← eD] at dK
  have eK := rd_w (j := 4) (v := 0) dK (by decide) (by decide) (by decide)
  rw [← eE] at eK
  have fK := rd_w (j := 5) (v := 0) eK (by decide) (by decide) (by decide)
  rw [← eF] at fK
  exact ⟨fK, by rw [eF, p_nr (by decide), eE, p_nr (by decide), eD, p_nr (by decide), eB, p_nr (by decide)]⟩
theorem rd_pay3 (hκ : tk_K y k i = 3) (hln : ln = 16) : rd_bad y k M i (rd_C y k M i 0 sd op br W C ln sf wf) 3 i := by
  refine rd_no (by decide) (by decide) (fun A hA => rd_at0 hA.1.2.2.1.2.1 ?_)
  unfold f_X4_takeLine
  rw [hκ]
  exact p_f (by decide) (p_t rfl (p_f (by rw [show A.1 15 0 = nI ln from hA.1.2.2.2.2.1, hln]; decide) (p_lx (fun Z eZ => p_some (rd_0 Z eZ)))))
theorem rd_lnn (h0 : ¬ tk_K y k i = 0) (h3 : ¬ tk_K y k i = 3) : rd_bad y k M i (rd_C y k M i 0 sd op br W C ln sf wf) 1 i := by
  refine rd_no (by decide) (by decide) (fun A hA => rd_at0 hA.1.2.2.1.2.1 ?_)
  have h25 := rd_K25 (y := y) (k := k) (i := i)
  unfold f_X4_takeLine
  exact p_f (nI_ne0 (by omega) (by omega)) (p_f (b_ne (c := 3) (by omega) (by omega) h3) (p_lx (fun Z eZ => p_some (rd_0 Z eZ))))
/-- the text ends -/
def rd_Z (y : Nat → Nat) (k : Nat) (M : zM) (C : List Int32) (ln : Nat) (sf wf : Nat → Int32) (Q : zM) : Prop :=
  (∀ a, a ≠ 15 → a ≠ 18 → a ≠ 21 → a ≠ 24 → a ≠ 28 → a ≠ 30 → a ≠ 31 → Q.1 a = M.1 a) ∧ Q.1 30 0 = 0 ∧ Q.1 30 1 = -1 ∧ C.length ≤ 400 ∧ (Q.1 15 0 = nI ln ∧ Q.1 15 1 = nI C.length ∧ rd_L (Q.1 18) C ∧ Q.1 21 = sf ∧ Q.1 24 = wf)
theorem rd_over {P : zM → Prop} {Q : zM} (hκ : tk_K y k i = 0) (hQ : rd_C y k M i 0 sd op br W C ln sf wf Q) (hP : ∀ Q', rd_Z y k M C ln sf wf Q' → P Q') : rd_G i Q P := by
  refine rd_1 hQ (fun A hA => rd_at0 hA.1.2.2.1.2.1 ?_)
  have hi := hA.2.2.2.2.2
  have hcl := hA.2.2.2.2.1
  obtain ⟨⟨a1, a2, ⟨b0, b2, b3, b4, b5, b6, b8⟩, a4, a5⟩, -⟩ := hA
  unfold f_X4_takeLine
  rw [hκ]
  refine p_t rfl (p_lx (fun B eB => p_some ?_))
  have z0 : B.1 30 0 = 0 := by rw [eB, p_eq, if_neg (by decide)]; exact b0
  have z8 : ¬ B.1 30 8 = 0 := by rw [eB, p_eq, if_pos rfl]; exact b_1z
  have fin : ∀ Z, Z = z_w B 30 1 (-1) → P Z := fun Z eZ => hP Z ⟨fun a q1 q2 q3 q4 q5 q6 q7 => by rw [eZ, p_nr q6, eB, p_nr q6]; exact a1 a q1 q2 q3 q4 q5 q6 q7, by rw [eZ, p_eq, if_neg (by decide)]; exact z0, by rw [eZ, p_eq, if_pos rfl], by omega, by rw [eZ, p_nr (show 15 ≠ 30 by decide), p_nr (show 18 ≠ 30 by decide), p_nr (show 21 ≠ 30 by decide), p_nr (show 24 ≠ 30 by decide), eB, p_nr (show 15 ≠ 30 by decide), p_nr (show 18 ≠ 30 by decide), p_nr (show 21 ≠ 30 by decide), p_nr (show 24 ≠ 30 by decide)]; exact a5⟩
  unfold rd_G
  rw [show z_F - (i + 1) = (z_F - (i + 2)) + 1 from by unfold z_F; omega, f_X4_read_33]
  refine p_if (fun _ => ?_) (fun _ => ?_)
  · exact p_t z0 (p_lx (fun Z eZ => p_some (fin Z eZ)))
  · exact p_f z8 (p_t z0 (p_lx (fun Z eZ => p_some (fin Z eZ))))
end RG
