/-! READING: the class's cells -/
def rd_sl : List Nat := [0, 0, 0, 0, 0, 1, 2, 3, 0, 0, 0, 0, 0, 0, 0, 0, 0, 5, 5, 6, 6, 0, 0, 4, 4, 4]
/-- how closely a kind binds -/
def rd_st (x : Nat) : Nat := rd_sl.getD x 0
theorem rd_stL {x : Nat} (hx : x < 26) : z_stL.getD x 0 = nI (rd_st x) ∧ rd_st x ≤ 6 := by
  have d : ∀ x : Fin 26, z_stL.getD x.1 0 = nI (rd_st x.1) ∧ rd_st x.1 ≤ 6 := by decide +kernel
  exact d ⟨x, hx⟩
/-- what waits, the top first -/
def rd_W (row : Nat → Int32) : List Nat → Prop
  | [] => True
  | x :: r => row r.length = nI x ∧ rd_W row r
theorem rd_W_cg {row row' : Nat → Int32} : ∀ W : List Nat, (∀ j, j < W.length → row' j = row j) → rd_W row W → rd_W row' W := by
  intro W
  induction W with
  | nil => intro _ _; trivial
  | cons x r ih =>
    intro h hW
    have hl : (x :: r).length = r.length + 1 := List.length_cons
    exact ⟨by rw [h r.length (by omega)]; exact hW.1, ih (fun j hj => h j (by omega)) hW.2⟩
def rd_L (row : Nat → Int32) (C : List Int32) : Prop := ∀ j, j < C.length → row j = C.getD j 0
theorem rd_L_app {row row' : Nat → Int32} {C : List Int32} {v : Int32} (h : rd_L row C) (h1 : ∀ j, j < C.length → row' j = row j) (h2 : row' C.length = v) : rd_L row' (C ++ [v]) := by
  intro j hj
  rw [List.length_append, List.length_singleton] at hj
  rw [List.getD_eq_getElem?_getD]
  by_cases z : j < C.length
  · rw [List.getElem?_append_left z, h1 j z, h j z, List.getD_eq_getElem?_getD]
  · have : j = C.length := by omega
    rw [List.getElem?_append_right (by omega), this, Nat.sub_self, h2]
    rfl
/-- the number of what is negated and waits -/
def rd_7 : List Nat → Nat
  | [] => 0
  | x :: r => (if x = 7 then 1 else 0) + rd_7 r
def rd_ng (P : List Nat) : List Int32 := P.map (fun x => -nI x)
def rd_B (t : Nat) (W : List Nat) : Prop := ∀ x r, W = x :: r → x = 21 ∨ rd_st x < t
/-- the class's cells while it reads -/
def rd_K (y : Nat → Nat) (k : Nat) (M : zM) (st sd op br : Int32) (W : List Nat) (C : List Int32) (ln : Nat) (sf wf : Nat → Int32) (Q : zM) : Prop :=
  (∀ a, a ≠ 15 → a ≠ 18 → a ≠ 21 → a ≠ 24 → a ≠ 28 → a ≠ 30 → a ≠ 31 → Q.1 a = M.1 a) ∧ tc_T y k Q ∧
  (Q.1 30 0 = 0 ∧ Q.1 30 2 = st ∧ Q.1 30 3 = sd ∧ Q.1 30 4 = op ∧ Q.1 30 5 = br ∧ Q.1 30 6 = nI W.length ∧ Q.1 30 8 = 0) ∧
  (rd_W (Q.1 31) W ∧ ∀ x, x ∈ W → x < 26) ∧ (Q.1 15 0 = nI ln ∧ Q.1 15 1 = nI C.length ∧ rd_L (Q.1 18) C ∧ Q.1 21 = sf ∧ Q.1 24 = wf)
section RK
variable {y : Nat → Nat} {k : Nat} {M : zM} {st sd op br : Int32} {W : List Nat} {C : List Int32} {ln : Nat} {sf wf : Nat → Int32} {Q : zM}
theorem rd_T_fr {X : zM} (h : tc_T y k Q) (h28 : X.1 28 0 = Q.1 28 0) (h29 : X.1 29 = Q.1 29) : tc_T y k X := ⟨h.1, h.2.1, by rw [h28]; exact h.2.2.1, fun i hi => by rw [h29]; exact h.2.2.2 i hi⟩
theorem rd_w {j : Nat} {v : Int32} (h : rd_K y k M st sd op br W C ln sf wf Q) (h0 : j ≠ 0) (h6 : j ≠ 6) (h8 : j ≠ 8) : rd_K y k M (if j = 2 then v else st) (if j = 3 then v else sd) (if j = 4 then v else op) (if j = 5 then v else br) W C ln sf wf (z_w Q 30 j v) := by
  obtain ⟨a1, a2, ⟨b0, b2, b3, b4, b5, b6, b8⟩, a4, a5⟩ := h
  have e : ∀ q, (z_w Q 30 j v).1 30 q = if j = q then v else Q.1 30 q := fun q => by
    rw [p_eq]
    by_cases z : q = j
    · rw [if_pos z, if_pos z.symm]
    · rw [if_neg z, if_neg (fun x => z x.symm)]
  refine ⟨fun a q1 q2 q3 q4 q5 q6 q7 => by rw [p_nr q6]; exact a1 a q1 q2 q3 q4 q5 q6 q7, rd_T_fr a2 (by rw [p_ne (by decide)]) (by rw [p_nr (by decide)]), ⟨by rw [e, if_neg h0]; exact b0, by rw [e, b2], by rw [e, b3], by rw [e, b4], by rw [e, b5], by rw [e, if_neg h6]; exact b6, by rw [e, if_neg h8]; exact b8⟩, by rw [p_nr (by decide)]; exact a4, by rw [p_nr (show 15 ≠ 30 by decide), p_nr (show 18 ≠ 30 by decide), p_nr (show 21 ≠ 30 by decide), p_nr (show 24 ≠ 30 by decide)]; exact a5⟩
theorem rd_add {v : Int32} (h : rd_K y k M st sd op br W C ln sf wf Q) (hC : C.length < 400) : p_ok (f_X3_add 15 v Q) (fun X => rd_K y k M st sd op br W (C ++ [v]) ln sf wf X ∧ X.1 28 = Q.1 28 ∧ X.1 30 9 = Q.1 30 9) := by
  obtain ⟨a1, a2, a3, a4, ⟨c0, c1, c2, c3, c4⟩⟩ := h
  unfold f_X3_add
  rw [c1]
  refine p_f (nI_ge (b := 400) hC (by omega)) (p_g (p_ix hC (by decide)) ?_)
  rw [p_cl (by omega)]
  refine p_lx (fun A eA => p_lx (fun B eB => p_some ?_))
  have aO : ∀ a, a ≠ 18 → A.1 a = Q.1 a := fun a ha => by rw [eA, p_nr (by omega)]
  rw [aO 15 (by omega), c1, p_s1] at eB
  have bO : ∀ a, a ≠ 15 → a ≠ 18 → B.1 a = Q.1 a := fun a h1 h2 => by rw [eB, p_nr h1, aO a h2]
  refine ⟨⟨fun a q1 q2 q3 q4 q5 q6 q7 => by rw [bO a q1 q2]; exact a1 a q1 q2 q3 q4 q5 q6 q7, rd_T_fr a2 (by rw [bO 28 (by omega) (by omega)]) (bO 29 (by omega) (by omega)), by rw [bO 30 (by omega) (by omega)]; exact a3, by rw [bO 31 (by omega) (by omega)]; exact a4, ?_, ?_, ?_, by rw [bO 21 (by omega) (by omega)]; exact c3, by rw [bO 24 (by omega) (by omega)]; exact c4⟩, bO 28 (by omega) (by omega), by rw [bO 30 (by omega) (by omega)]⟩
  · rw [eB, p_eq, if_neg (by decide), aO 15 (by omega)]; exact c0
  · rw [eB, p_eq, if_pos rfl, List.length_append, List.length_singleton]
  · refine rd_L_app c2 (fun j hj => ?_) ?_
    · rw [eB, p_ne (by decide), eA, p_eq, if_neg (by omega)]
    · rw [eB, p_ne (by decide), eA, p_eq, if_pos rfl]
theorem rd_await {x : Nat} (h : rd_K y k M st sd op br W C ln sf wf Q) (hW : W.length < 40) (hx : x < 26) : p_ok (f_X4_await (nI x) Q) (fun X => rd_K y k M st sd op br (x :: W) C ln sf wf X ∧ X.1 28 = Q.1 28 ∧ X.1 30 9 = Q.1 30 9) := by
  obtain ⟨a1, a2, ⟨b0, b2, b3, b4, b5, b6, b8⟩, ⟨w1, w2⟩, a5⟩ := h
  unfold f_X4_await
  rw [b6]
  refine p_f (nI_ge (b := 40) hW (by omega)) (p_g (p_ix hW (by decide)) ?_)
  rw [p_cl (by omega)]
  refine p_lx (fun A eA => p_lx (fun B eB => p_some ?_))
  have aO : ∀ a, a ≠ 31 → A.1 a = Q.1 a := fun a ha => by rw [eA, p_nr ha]
  rw [aO 30 (by omega), b6, p_s1] at eB
  have bO : ∀ a, a ≠ 30 → a ≠ 31 → B.1 a = Q.1 a := fun a h1 h2 => by rw [eB, p_nr h1, aO a h2]
  have b30 : ∀ j, j ≠ 6 → B.1 30 j = Q.1 30 j := fun j hj => by rw [eB, p_eq, if_neg hj, aO 30 (by omega)]
  refine ⟨⟨fun a q1 q2 q3 q4 q5 q6 q7 => by rw [bO a q6 q7]; exact a1 a q1 q2 q3 q4 q5 q6 q7, rd_T_fr a2 (by rw [bO 28 (by omega) (by omega)]) (bO 29 (by omega) (by omega)), ⟨by rw [b30 0 (by omega)]; exact b0, by rw [b30 2 (by omega)]; exact b2, by rw [b30 3 (by omega)]; exact b3, by rw [b30 4 (by omega)]; exact b4, by rw [b30 5 (by omega)]; exact b5, by rw [eB, p_eq, if_pos rfl]; rfl, by rw [b30 8 (by omega)]; exact b8⟩, ⟨⟨?_, ?_⟩, fun z hz => ?_⟩, ?_⟩, bO 28 (by omega) (by omega), b30 9 (by omega)⟩
  · rw [eB, p_ne (by decide), eA, p_eq, if_pos rfl]
  · refine rd_W_cg W (fun j hj => ?_) w1
    rw [eB, p_ne (by decide), eA, p_eq, if_neg (by omega)]
  · rcases List.mem_cons.mp hz with e | e
    · rw [e]; exact hx
    · exact w2 z e
  · rw [bO 15 (by omega) (by omega), bO 18 (by omega) (by omega), bO 21 (by omega) (by omega), bO 24 (by omega) (by omega)]; exact a5
/-- what waits is written, down to what binds less -/
theorem rd_wd0 {t : Nat} {W0 : List Nat} (ht : t ≤ 6) (hB : rd_B t W0) : ∀ (P : List Nat) (C : List Int32) (o fuel : Nat) (Q : zM), P.length < fuel → rd_K y k M st sd (nI (o + rd_7 P)) br (P ++ W0) C ln sf wf Q → (∀ x, x ∈ P → x ≠ 21 ∧ t ≤ rd_st x) → C.length + P.length ≤ 400 → (P ++ W0).length ≤ 39 →
    p_ok (f_X4_writeDownTo_0 fuel (nI t) Q) (fun X => rd_K y k M st sd (nI o) br W0 (C ++ rd_ng P) ln sf wf X ∧ X.1 28 = Q.1 28 ∧ X.1 30 9 = Q.1 30 9) := by
  intro P
  induction P with
  | nil =>
    intro C o fuel Q hf hK _ _ hl
    obtain ⟨fuel, rfl⟩ : ∃ m, fuel = m + 1 := ⟨fuel - 1, by rw [List.length_nil] at hf; omega⟩
    have hres : rd_K y k M st sd (nI o) br W0 (C ++ rd_ng []) ln sf wf Q ∧ Q.1 28 = Q.1 28 ∧ Q.1 30 9 = Q.1 30 9 := by
      refine ⟨?_, rfl, rfl⟩
      rw [show C ++ rd_ng [] = C from List.append_nil C]
      exact hK
    obtain ⟨a1, a2, ⟨b0, b2, b3, b4, b5, b6, b8⟩, ⟨w1, w2⟩, a5⟩ := id hK
    rw [List.nil_append] at b6 w1 w2 hl
    rw [f_X4_writeDownTo_0, b6]
    cases W0 with
    | nil => exact p_t (by decide) (p_some hres)
    | cons x r =>
      have hx := w2 x List.mem_cons_self
      have ep : nI (x :: r).length - 1 = nI r.length := by rw [List.length_cons, nI_pred]
      rw [List.length_cons] at hl
      refine p_f (nI_nle (by rw [List.length_cons]; omega) (by rw [List.length_cons]; omega)) ?_
      rw [ep]
      refine p_l (p_g (p_ix (show r.length < 40 by omega) (by decide)) ?_)
      rw [p_cl (by omega), w1.1]
      by_cases z : x = 21
      · exact p_t (by rw [z]; rfl) (p_some hres)
      · refine p_f (b_ne (c := 21) (by omega) (by omega) z) (p_l (p_g (p_ix (show r.length < 40 by omega) (by decide)) ?_))
        rw [p_cl (by omega), w1.1]
        refine p_l (p_g (p_ix hx (by decide)) ?_)
        rw [p_cl (by omega), (rd_stL hx).1]
        have hlt : rd_st x < t := (hB x r rfl).resolve_left z
        exact p_t (nI_lt hlt (by omega)) (p_some hres)
  | cons x r ih =>
    intro C o fuel Q hf hK hP hC hl
    obtain ⟨fuel, rfl⟩ : ∃ m, fuel = m + 1 := ⟨fuel - 1, by rw [List.length_cons] at hf; omega⟩
    obtain ⟨a1, a2, ⟨b0, b2, b3, b4, b5, b6, b8⟩, ⟨w1, w2⟩, a5⟩ := id hK
    rw [List.cons_append] at b6 w1 w2 hl
    rw [List.length_cons] at hf hC
    have hx := w2 x List.mem_cons_self
    obtain ⟨hx21, hxt⟩ := hP x List.mem_cons_self
    have ep : nI (x :: (r ++ W0)).length - 1 = nI (r ++ W0).length := by rw [List.length_cons, nI_pred]
    rw [List.length_cons] at hl
    have g40 := p_ix (show (r ++ W0).length < 40 by omega) (show 40 < 2 ^ 31 by decide)
    have ecl : Int32.toNatClampNeg (nI (r ++ W0).length) = (r ++ W0).length := p_cl (by omega)
    rw [f_X4_writeDownTo_0, b6]
    refine p_f (nI_nle (by rw [List.length_cons]; omega) (by rw [List.length_cons]; omega)) ?_
    rw [ep]
    refine p_l (p_g g40 ?_)
    rw [ecl, w1.1]
    refine p_f (b_ne (c := 21) (by omega) (by omega) hx21) (p_l (p_g g40 ?_))
    rw [ecl, w1.1]
    refine p_l (p_g (p_ix hx (by decide)) ?_)
    have st6 := (rd_stL hx).2
    rw [p_cl (by omega), (rd_stL hx).1]
    refine p_f (nI_nlt hxt (by omega)) (p_lx (fun A eA => ?_))
    have aO : ∀ a, a ≠ 30 → A.1 a = Q.1 a := fun a ha => by rw [eA, p_nr ha]
    have a30 : ∀ j, j ≠ 6 → A.1 30 j = Q.1 30 j := fun j hj => by rw [eA, p_eq, if_neg hj]
    have a6 : A.1 30 6 = nI (r ++ W0).length := by rw [eA, p_eq, if_pos rfl]
    have aK : rd_K y k M st sd (nI (o + rd_7 (x :: r))) br (r ++ W0) C ln sf wf A := by
      refine ⟨fun a q1 q2 q3 q4 q5 q6 q7 => by rw [aO a q6]; exact a1 a q1 q2 q3 q4 q5 q6 q7, rd_T_fr a2 (by rw [aO 28 (by omega)]) (aO 29 (by omega)), ⟨by rw [a30 0 (by omega)]; exact b0, by rw [a30 2 (by omega)]; exact b2, by rw [a30 3 (by omega)]; exact b3, by rw [a30 4 (by omega)]; exact b4, by rw [a30 5 (by omega)]; exact b5, a6, by rw [a30 8 (by omega)]; exact b8⟩, ⟨by rw [aO 31 (by omega)]; exact w1.2, fun z hz => w2 z (List.mem_cons_of_mem _ hz)⟩, by rw [aO 15 (by omega), aO 18 (by omega), aO 21 (by omega), aO 24 (by omega)]; exact a5⟩
    have a31 : A.1 31 (Int32.toNatClampNeg (nI (r ++ W0).length)) = nI x := by rw [ecl, aO 31 (by omega)]; exact w1.1
    have eng : C ++ rd_ng (x :: r) = (C ++ [-nI x]) ++ rd_ng r := by rw [List.append_assoc]; rfl
    have fin : ∀ (v : Int32) (B : zM), v = nI (o + rd_7 r) → B = z_w A 30 4 v → p_ok ((f_X3_add 15 (-nI x) B).bind fun x15 => f_X4_writeDownTo_0 fuel (nI t) x15) (fun X => rd_K y k M st sd (nI o) br W0 (C ++ rd_ng (x :: r)) ln sf wf X ∧ X.1 28 = Q.1 28 ∧ X.1 30 9 = Q.1 30 9) := by
      intro v B hv eB
      have bK := rd_w (j := 4) (v := v) aK (by decide) (by decide) (by decide)
      rw [← eB] at bK
      have bK : rd_K y k M st sd v br (r ++ W0) C ln sf wf B := bK
      rw [hv] at bK
      refine p_bx (rd_add bK (by omega)) (fun D hD => ?_)
      obtain ⟨d1, d2, d3⟩ := hD
      rw [eng]
      refine p_w (ih (C ++ [-nI x]) o fuel D (by omega) d1 (fun z hz => hP z (List.mem_cons_of_mem _ hz)) (by rw [List.length_append, List.length_singleton]; omega) (by omega)) ?_
      rintro X ⟨x1, x2, x3⟩
      exact ⟨x1, by rw [x2, d2, eB, p_nr (by decide), aO 28 (by omega)], by rw [x3, d3, eB, p_eq, if_neg (by decide), a30 9 (by omega)]⟩
    have op4 : A.1 30 4 = nI (o + rd_7 (x :: r)) := by rw [a30 4 (by omega)]; exact b4
    rw [a6]
    refine p_g g40 ?_
    rw [a31]
    by_cases z7 : x = 7
    · refine p_t (by rw [z7]; rfl) (p_lx (fun B eB => ?_))
      have b6' : B.1 30 6 = nI (r ++ W0).length := by rw [eB, p_eq, if_neg (by decide)]; exact a6
      have b31 : B.1 31 (Int32.toNatClampNeg (nI (r ++ W0).length)) = nI x := by rw [eB, p_ne (by decide)]; exact a31
      rw [b6']
      refine p_g g40 ?_
      rw [b31]
      refine fin _ B ?_ eB
      rw [op4, rd_7, if_pos z7, show o + (1 + rd_7 r) = (o + rd_7 r) + 1 by omega, nI_pred]
    · refine p_f (b_ne (c := 7) (by omega) (by omega) z7) (p_lx (fun B eB => ?_))
      have b6' : B.1 30 6 = nI (r ++ W0).length := by rw [eB, p_eq, if_neg (by decide)]; exact a6
      have b31 : B.1 31 (Int32.toNatClampNeg (nI (r ++ W0).length)) = nI x := by rw [eB, p_ne (by decide)]; exact a31
      rw [b6']
      refine p_g g40 ?_
      rw [b31]
      refine fin _ B ?_ eB
      rw [op4, rd_7, if_neg z7, Nat.zero_add, Int32.sub_zero]
theorem rd_wd {t o : Nat} {P W0 : List Nat} (ht : t ≤ 6) (hB : rd_B t W0) (hK : rd_K y k M st sd (nI (o + rd_7 P)) br (P ++ W0) C ln sf wf Q) (hP : ∀ x, x ∈ P → x ≠ 21 ∧ t ≤ rd_st x) (hC : C.length + P.length ≤ 400) (hl : (P ++ W0).length ≤ 39) :
    p_ok (f_X4_writeDownTo (nI t) Q) (fun X => rd_K y k M st sd (nI o) br W0 (C ++ rd_ng P) ln sf wf X ∧ X.1 28 = Q.1 28 ∧ X.1 30 9 = Q.1 30 9) := by
  have e : f_X4_writeDownTo (nI t) Q = f_X4_writeDownTo_0 (z_F + 1) (nI t) Q := by rw [f_X4_writeDownTo_0]; rfl
  rw [e]
  exact rd_wd0 ht hB P C o (z_F + 1) Q (by rw [List.length_append] at hl; unfold z_F; omega) hK hP hC hl
theorem rd_join {κ o : Nat} {P W0 : List Nat} (hκ : κ < 26) (hB : rd_B (rd_st κ) W0) (hK : rd_K y k M st sd (nI (o + rd_7 P)) br (P ++ W0) C ln sf wf Q) (hP : ∀ x, x ∈ P → x ≠ 21 ∧ rd_st κ ≤ rd_st x) (hC : C.length + P.length ≤ 400) (hl : (P ++ W0).length ≤ 39) :
    p_ok (f_X4_join (nI κ) Q) (fun X => rd_K y k M st sd (nI o) br (κ :: W0) (C ++ rd_ng P) ln sf wf X ∧ X.1 28 = Q.1 28 ∧ X.1 30 9 = Q.1 30 9) := by
  unfold f_X4_join
  refine p_g (p_ix hκ (by decide)) ?_
  rw [p_cl (by omega), (rd_stL hκ).1]
  refine p_bx (rd_wd (rd_stL hκ).2 hB hK hP hC hl) (fun A hA => ?_)
  obtain ⟨a1, a2, a3⟩ := hA
  rw [List.length_append] at hl
  refine p_bx (rd_await a1 (by omega) hκ) (fun B hB => p_some ?_)
  obtain ⟨b1, b2, b3⟩ := hB
  exact ⟨b1, by rw [b2, a2], by rw [b3, a3]⟩
/-- a line ends -/
theorem rd_cl {o : Nat} {P : List Nat} (hK : rd_K y k M st sd (nI (o + rd_7 P)) br P C ln sf wf Q) (hP : ∀ x, x ∈ P → x ≠ 21) (hC : C.length + P.length ≤ 400) (hl : P.length ≤ 39) (hln : ln < 16) :
    p_ok (f_X4_closeLine Q) (fun X => rd_K y k M 0 sd (nI o) br [] (C ++ rd_ng P) (ln + 1) (fun j => if j = ln + 1 then nI (C ++ rd_ng P).length else sf j) wf X ∧ X.1 28 = Q.1 28 ∧ X.1 30 9 = Q.1 30 9) := by
  unfold f_X4_closeLine
  rw [p_0]
  refine p_bx (rd_wd (t := 0) (W0 := []) (by omega) (fun x r h => by cases h) (by rw [List.append_nil]; exact hK) (fun x hx => ⟨hP x hx, Nat.zero_le _⟩) hC (by rw [List.append_nil]; exact hl)) (fun A hA => ?_)
  obtain ⟨a1, a2, a3⟩ := hA
  obtain ⟨x1, x2, x3, x4, ⟨c0, c1, c2, c3, c4⟩⟩ := id a1
  unfold f_X3_closeLine
  rw [c0]
  refine p_bx (R := fun D => rd_K y k M st sd (nI o) br [] (C ++ rd_ng P) (ln + 1) (fun j => if j = ln + 1 then nI (C ++ rd_ng P).length else sf j) wf D ∧ D.1 28 = Q.1 28 ∧ D.1 30 9 = Q.1 30 9) (p_f (nI_ge (b := 16) hln (by omega)) (p_lx (fun B eB => ?_))) (fun D hD => p_lx (fun E eE => p_some ?_))
  · rw [p_s1] at eB
    have bO : ∀ a, a ≠ 15 → B.1 a = A.1 a := fun a ha => by rw [eB, p_nr ha]
    have b0 : B.1 15 0 = nI (ln + 1) := by rw [eB, p_eq, if_pos rfl]
    have b1 : B.1 15 1 = nI (C ++ rd_ng P).length := by rw [eB, p_eq, if_neg (by decide)]; exact c1
    rw [b0]
    refine p_g (p_ix (show ln + 1 < 17 by omega) (by decide)) ?_
    rw [p_cl (by omega), b1]
    refine p_lx (fun D eD => p_some ?_)
    have dO : ∀ a, a ≠ 15 → a ≠ 21 → D.1 a = A.1 a := fun a h1 h2 => by rw [eD, p_nr (by omega), bO a h1]
    refine ⟨⟨fun a q1 q2 q3 q4 q5 q6 q7 => by rw [dO a q1 q3]; exact x1 a q1 q2 q3 q4 q5 q6 q7, rd_T_fr x2 (by rw [dO 28 (by omega) (by omega)]) (dO 29 (by omega) (by omega)), by rw [dO 30 (by omega) (by omega)]; exact x3, by rw [dO 31 (by omega) (by omega)]; exact x4, ?_, ?_, ?_, ?_, ?_⟩, by rw [dO 28 (by omega) (by omega), a2], by rw [dO 30 (by omega) (by omega), a3]⟩
    · rw [eD, p_ne (by decide)]; exact b0
    · rw [eD, p_ne (by decide)]; exact b1
    · rw [dO 18 (by omega) (by omega)]; exact c2
    · funext j
      rw [eD, show (15 + 6) = 21 from rfl, p_eq, bO 21 (by omega), c3]
    · rw [dO 24 (by omega) (by omega)]; exact c4
  · obtain ⟨d1, d2, d3⟩ := hD
    have eK := rd_w (j := 2) (v := nI 0) d1 (by decide) (by decide) (by decide)
    rw [← eE] at eK
    exact ⟨eK, by rw [eE, p_nr (by decide), d2], by rw [eE, p_eq, if_neg (by decide), d3]⟩
/-- a bracket closes -/
theorem rd_cb {o b : Nat} {P W0 : List Nat} (hK : rd_K y k M st sd (nI (o + 1 + rd_7 P)) (nI (b + 1)) (P ++ 21 :: W0) C ln sf wf Q) (hP : ∀ x, x ∈ P → x ≠ 21) (hC : C.length + P.length ≤ 400) (hl : (P ++ 21 :: W0).length ≤ 39) :
    p_ok (f_X4_closeBracket Q) (fun X => rd_K y k M st sd (nI o) (nI b) W0 (C ++ rd_ng P) ln sf wf X ∧ X.1 28 = Q.1 28 ∧ X.1 30 9 = Q.1 30 9) := by
  unfold f_X4_closeBracket
  rw [p_0]
  refine p_bx (rd_wd (t := 0) (W0 := 21 :: W0) (by omega) (fun x r h => Or.inl (by cases h; rfl)) hK (fun x hx => ⟨hP x hx, Nat.zero_le _⟩) hC hl) (fun A hA => ?_)
  obtain ⟨a1, a2, a3⟩ := hA
  obtain ⟨x1, x2, ⟨b0, b2, b3, b4, b5, b6, b8⟩, ⟨w1, w2⟩, x5⟩ := id a1
  rw [List.length_append, List.length_cons] at hl
  rw [List.length_cons] at b6
  refine p_f (by rw [b6, ← p_0]; exact nI_nle (by omega) (by omega)) (p_lx (fun B eB => ?_))
  rw [b6, nI_pred] at eB
  have bO : ∀ a, a ≠ 30 → B.1 a = A.1 a := fun a ha => by rw [eB, p_nr ha]
  have b30 : ∀ j, j ≠ 6 → B.1 30 j = A.1 30 j := fun j hj => by rw [eB, p_eq, if_neg hj]
  have bK : rd_K y k M st sd (nI (o + 1)) (nI (b + 1)) W0 (C ++ rd_ng P) ln sf wf B := by
    refine ⟨fun a q1 q2 q3 q4 q5 q6 q7 => by rw [bO a q6]; exact x1 a q1 q2 q3 q4 q5 q6 q7, rd_T_fr x2 (by rw [bO 28 (by omega)]) (bO 29 (by omega)), ⟨by rw [b30 0 (by omega)]; exact b0, by rw [b30 2 (by omega)]; exact b2, by rw [b30 3 (by omega)]; exact b3, by rw [b30 4 (by omega)]; exact b4, by rw [b30 5 (by omega)]; exact b5, by rw [eB, p_eq, if_pos rfl], by rw [b30 8 (by omega)]; exact b8⟩, ⟨by rw [bO 31 (by omega)]; exact w1.2, fun z hz => w2 z (List.mem_cons_of_mem _ hz)⟩, by rw [bO 15 (by omega), bO 18 (by omega), bO 21 (by omega), bO 24 (by omega)]; exact x5⟩
  refine p_lx (fun D eD => p_lx (fun E eE => p_some ?_))
  rw [b30 4 (by omega), b4, nI_pred] at eD
  have d5 : D.1 30 5 = nI (b + 1) := by rw [eD, p_eq, if_neg (by decide), b30 5 (by omega)]; exact b5
  rw [d5, nI_pred] at eE
  have dK := rd_w (j := 4) (v := nI o) bK (by decide) (by decide) (by decide)
  rw [← eD] at dK
  have eK := rd_w (j := 5) (v := nI b) dK (by decide) (by decide) (by decide)
  rw [← eE] at eK
  exact ⟨eK, by rw [eE, p_nr (by decide), eD, p_nr (by decide), bO 28 (by omega), a2], by rw [eE, p_eq, if_neg (by decide), eD, p_eq, if_neg (by decide), b30 9 (by omega), a3]⟩
/-- the sum of a line ends -/
theorem rd_cs (hK : rd_K y k M st sd op br W C ln sf wf Q) (hln : ln < 16) : p_ok (f_X3_closeSum 15 Q) (fun X => rd_K y k M st sd op br W C ln sf (fun j => if j = ln then nI C.length else wf j) X ∧ X.1 28 = Q.1 28 ∧ X.1 30 9 = Q.1 30 9) := by
  obtain ⟨x1, x2, x3, x4, ⟨c0, c1, c2, c3, c4⟩⟩ := id hK
  unfold f_X3_closeSum
  rw [c0]
  refine p_f (nI_ge (b := 16) hln (by omega)) (p_g (p_ix (show ln < 17 by omega) (by decide)) ?_)
  rw [p_cl (by omega), c1]
  refine p_lx (fun D eD => p_some ?_)
  have dO : ∀ a, a ≠ 24 → D.1 a = Q.1 a := fun a h1 => by rw [eD, p_nr (by omega)]
  refine ⟨⟨fun a q1 q2 q3 q4 q5 q6 q7 => by rw [dO a q4]; exact x1 a q1 q2 q3 q4 q5 q6 q7, rd_T_fr x2 (by rw [dO 28 (by omega)]) (dO 29 (by omega)), by rw [dO 30 (by omega)]; exact x3, by rw [dO 31 (by omega)]; exact x4, by rw [dO 15 (by omega)]; exact c0, by rw [dO 15 (by omega)]; exact c1, by rw [dO 18 (by omega)]; exact c2, by rw [dO 21 (by omega)]; exact c3, ?_⟩, dO 28 (by omega), by rw [dO 30 (by omega)]⟩
  funext j
  rw [eD, show (15 + 9) = 24 from rfl, p_eq, c4]
end RK
