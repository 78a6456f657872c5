/-! LINES, on both sides -/
section LN
variable {X M : zM} {y : Nat → Nat} {k i dep : Nat} {st : rs_S} {ln : Nat} {fl : Nat → Int32} {N : zM}
theorem rs_43 {q : Nat} {v : Int32} {A : zM} (h : rs_N X y k i dep st ln fl N) (eA : A = z_w N 43 q v) : rs_N X y k i dep st ln (fun j => if j = q then v else fl j) A := by
  obtain ⟨a1, a2, a3, a4, a5, a6, a7⟩ := h
  have aO : ∀ a, a ≠ 43 → A.1 a = N.1 a := fun a ha => by rw [eA, p_nr ha]
  refine ⟨rs_F_tr a1 ⟨fun a _ q2 _ => aO a q2, fun j _ _ _ _ _ _ _ _ _ => by rw [aO 40 (by omega)]⟩, ⟨a2.1, a2.2.1, by rw [aO 40 (by omega)]; exact a2.2.2.1, fun j hj => by rw [aO 45 (by omega)]; exact a2.2.2.2 j hj⟩, a3, by rw [aO 40 (by omega)]; exact a4, by rw [aO 40 (by omega)]; exact a5, ?_, by rw [aO 44 (by omega)]; exact a7⟩
  funext j
  rw [eA, p_eq, a6]
theorem rs_ln {l : Nat} {A : zM} (h : rs_N X y k i dep st ln fl N) (eA : A = z_w N 40 8 (nI l)) : rs_N X y k i dep st l fl A := by
  obtain ⟨a1, a2, a3, ⟨b1, b2, b3, b4⟩, ⟨c1, c2, c3, c4⟩, a6, a7⟩ := h
  have aO : ∀ a, a ≠ 40 → A.1 a = N.1 a := fun a ha => by rw [eA, p_nr ha]
  have a40 : ∀ j, j ≠ 8 → A.1 40 j = N.1 40 j := fun j hj => by rw [eA, p_eq, if_neg hj]
  exact ⟨rs_F_tr a1 ⟨fun a q1 _ _ => aO a q1, fun j q8 _ _ _ _ _ _ _ _ => a40 j q8⟩, tm_T_fr a2 aO (a40 10 (by omega)), a3, ⟨by rw [a40 11 (by omega)]; exact b1, by rw [a40 12 (by omega)]; exact b2, by rw [a40 13 (by omega)]; exact b3, fun q => by rw [a40 14 (by omega)]; exact b4 q⟩, ⟨by rw [a40 18 (by omega)]; exact c1, by rw [a40 15 (by omega)]; exact c2, by rw [eA, p_eq, if_pos rfl], by rw [a40 9 (by omega)]; exact c4⟩, by rw [aO 43 (by omega)]; exact a6, by rw [aO 44 (by omega)]; exact a7⟩
/-- a line's places -/
def ln_fl (fl : Nat → Int32) (ln a b c : Nat) : Nat → Int32 := fun j => if j = 3 * ln + 2 then nI c else if j = 3 * ln + 1 then nI b else if j = 3 * ln then nI a else fl j
def ln_ok (X M : zM) (y : Nat → Nat) (k i : Nat) (st : rs_S) (ln : Nat) (fl : Nat → Int32) (x : Int32 × zM) : Prop :=
  x.1 = 1 ∧ ln < 16 ∧ ∃ i' dep' D1 D2, rs_N X y k i' dep' (st ++ D1 ++ D2) ln (ln_fl fl ln st.length (st ++ D1).length (st ++ D1 ++ D2).length) x.2 ∧ (D1.length + D2.length + i ≤ i' ∧ i < i') ∧ rs_vd D1 ∧ rs_vd D2 ∧ rs_lr D1 [] = some [false] ∧ (D2 = [] ∨ rs_lr D2 [] = some [true]) ∧
    ∀ (sd op br : Int32) (C : List Int32) (sf wf : Nat → Int32), rd_go i (rd_C y k M i 0 sd op br [] C ln sf wf) i' (fun Q => ∃ sd' op' br', rd_C y k M i' 0 sd' op' br' [] (C ++ rs_co D1 ++ rs_co D2) (ln + 1) (fun j => if j = ln + 1 then nI (C ++ rs_co D1 ++ rs_co D2).length else sf j) (fun j => if j = ln then nI (C ++ rs_co D1).length else wf j) Q)
def ln_no (X M : zM) (y : Nat → Nat) (k i ln : Nat) (x : Int32 × zM) : Prop := x.1 = 0 ∧ ∃ f j, (¬ f = 0 ∧ f < 9) ∧ rs_bad X f (tk_P y k j) x.2 ∧ ∀ (sd op br : Int32) (C : List Int32) (sf wf : Nat → Int32), rd_bad y k M i (rd_C y k M i 0 sd op br [] C ln sf wf) f j
theorem ln_3 {q : Nat} (hq : q < 3) : ((3 : Int32) * nI ln) = nI (3 * ln) ∧ nI (3 * ln) + nI q = nI (3 * ln + q) := ⟨n_mu 3 ln, n_ad _ _⟩
theorem ln_line (h : rs_N X y k i dep st ln fl N) (hst : st.length ≤ i) (hκ0 : tk_K y k i ≠ 0) (hln : ln ≤ 16) : p_ok (f_X11_aLine N) (fun x => ln_ok X M y k i st ln fl x ∨ ln_no X M y k i ln x) := by
  have hk4 := h.2.1.1
  have t3 := rs_tok h (b := 3) (c := 20) (by decide) (by decide)
  have h8 : N.1 40 8 = nI ln := h.2.2.2.2.1.2.2.1
  unfold f_X11_aLine
  by_cases z3 : tk_K y k i = 3
  · refine p_t (t3.mpr z3) ?_
    rw [h8]
    by_cases z16 : ln = 16
    · exact p_t (by rw [z16]; rfl) (rs_badB (f := 3) h (fun x x1 x2 => Or.inr ⟨x1, 3, i, by decide, x2, fun sd op br C sf wf => rd_pay3 z3 z16⟩))
    · have hln16 : ln < 16 := by omega
      refine p_f (b_ne (c := 16) (by omega) (by omega) z16) (p_lx (fun A0 eA0 => ?_))
      refine p_bx (rs_next (rs_dep (d := 0) h eA0) hκ0) (fun A hA => ?_)
      have a8 : A.1 40 8 = nI ln := hA.2.2.2.2.1.2.2.1
      have a9 : A.1 40 9 = nI st.length := hA.2.2.2.2.1.2.2.2
      rw [a8, (ln_3 (ln := ln) (q := 0) (by omega)).1]
      refine p_g (p_ix (show 3 * ln < 48 by omega) (by decide)) ?_
      rw [p_cl (by omega), a9]
      refine p_lx (fun B eB => ?_)
      have hB := rs_43 hA eB
      refine p_bx (rs_sum (M := M) (show st.length ≤ i + 1 by omega) hB) (fun x hx => ?_)
      have pay : ∀ (sd op br : Int32) (C : List Int32) (sf wf : Nat → Int32), rd_go i (rd_C y k M i 0 sd op br [] C ln sf wf) (i + 1) (rd_C y k M (i + 1) 1 0 (nI 0) (nI 0) [] C ln sf wf) := fun sd op br C sf wf => rd_pay z3 hln16
      have Bn : ∀ t, rd_B t [] := fun t x r e => by cases e
      rcases hx with ⟨x1, i1, D1, Cd1, P1, x2, xs⟩ | ⟨x1, f, j, xf, x2, x3⟩
      · refine p_f (by rw [x1]; exact b_1z) ?_
        obtain ⟨q1, ⟨q2, q2'⟩, q3, q4, q5, q6, q7, q8, q9, q10⟩ := x2
        have hik1 := tk_o_le q1.2.2.1
        have r8 : x.2.1 40 8 = nI ln := q1.2.2.2.2.1.2.2.1
        have r9 : x.2.1 40 9 = nI (st ++ D1).length := q1.2.2.2.2.1.2.2.2
        rw [r8, (ln_3 (ln := ln) (q := 0) (by omega)).1, p_s1]
        refine p_g (p_ix (show 3 * ln + 1 < 48 by omega) (by decide)) ?_
        rw [p_cl (by omega), r9]
        refine p_lx (fun E eE => ?_)
        have hE := rs_43 q1 eE
        have t4 := rs_tok hE (b := 4) (c := 3) (by decide) (by decide)
        have sum : ∀ (sd op br : Int32) (C : List Int32) (sf wf : Nat → Int32), rd_go i (rd_C y k M i 0 sd op br [] C ln sf wf) i1 (rd_C y k M i1 4 0 (nI 0) (nI 0) P1 (C ++ Cd1) ln sf wf) := fun sd op br C sf wf => by
          have g := q10 0 (nI 0) 0 [] C ln sf wf (Bn 5) (by decide)
          rw [List.append_nil] at g
          exact rd_go_tr (pay sd op br C sf wf) (rd_go_tr (rd_unit q3) g)
        have fin : ∀ (i2 dep2 : Nat) (D2 : rs_S) (Z : zM), rs_N X y k i2 dep2 (st ++ D1 ++ D2) ln (fun j => if j = 3 * ln + 1 then nI (st ++ D1).length else if j = 3 * ln then nI st.length else fl j) Z → D1.length + D2.length + i ≤ i2 → i < i2 → rs_vd D2 → (D2 = [] ∨ rs_lr D2 [] = some [true]) →
            (tk_K y k i2 = 16 → ∀ (sd op br : Int32) (C : List Int32) (sf wf : Nat → Int32), rd_go i (rd_C y k M i 0 sd op br [] C ln sf wf) (i2 + 1) (fun Q => ∃ sd' op' br', rd_C y k M (i2 + 1) 0 sd' op' br' [] (C ++ rs_co D1 ++ rs_co D2) (ln + 1) (fun j => if j = ln + 1 then nI (C ++ rs_co D1 ++ rs_co D2).length else sf j) (fun j => if j = ln then nI (C ++ rs_co D1).length else wf j) Q)) →
            (¬ tk_K y k i2 = 16 → ∀ (sd op br : Int32) (C : List Int32) (sf wf : Nat → Int32), rd_bad y k M i (rd_C y k M i 0 sd op br [] C ln sf wf) 1 i2) → p_ok (f_X11_aLine_101 Z) (fun x => ln_ok X M y k i st ln fl x ∨ ln_no X M y k i ln x) := by
          intro i2 dep2 D2 Z hZ hd hlt hvd hty hyes hno
          have s8 : Z.1 40 8 = nI ln := hZ.2.2.2.2.1.2.2.1
          have s9 : Z.1 40 9 = nI (st ++ D1 ++ D2).length := hZ.2.2.2.2.1.2.2.2
          unfold f_X11_aLine_101
          rw [s8, (ln_3 (ln := ln) (q := 0) (by omega)).1, show (2 : Int32) = nI 2 from rfl, n_ad]
          refine p_g (p_ix (show 3 * ln + 2 < 48 by omega) (by decide)) ?_
          rw [p_cl (by omega), s9]
          refine p_lx (fun F eF => ?_)
          have hF := rs_43 hZ eF
          refine p_bx (ts_need (c := 0) (κ := 16) hF (by decide) (by decide) (by decide)) (fun v hv => ?_)
          rcases hv with ⟨v1, v2, v3⟩ | ⟨v1, v2, v3⟩
          · refine p_g (by rw [v1]; decide) (p_some (Or.inl ⟨v1, hln16, i2 + 1, dep2, D1, D2, v3, ⟨by omega, by omega⟩, q8, hvd, q9 [] (by decide), hty, hyes v2⟩))
          · exact p_g (by rw [v1]; decide) (p_some (Or.inr ⟨v1, 1, i2, by decide, v3, hno v2⟩))
        have eco : ∀ C : List Int32, C ++ Cd1 ++ rd_ng P1 = C ++ rs_co D1 := fun C => by rw [q4, List.append_assoc]
        by_cases z4 : tk_K y k i1 = 4
        · refine p_t (t4.mpr z4) ?_
          refine p_bx (rs_next hE (by omega)) (fun G hG => ?_)
          have hi1 := (tk_o_s q1.2.2.1 (show tk_K y k i1 ≠ 0 by omega)).2
          have when : ∀ (sd op br : Int32) (C : List Int32) (sf wf : Nat → Int32), rd_go i (rd_C y k M i 0 sd op br [] C ln sf wf) (i1 + 1) (rd_C y k M (i1 + 1) 3 0 (nI 0) (nI 0) [] (C ++ rs_co D1) ln sf (fun j => if j = ln then nI (C ++ rs_co D1).length else wf j)) := fun sd op br C sf wf => by
            have g := rd_when (y := y) (k := k) (M := M) (i := i1) (P := P1) (C := C ++ Cd1) (ln := ln) (sf := sf) (wf := wf) z4 (fun z hz => (q5 z hz).1) q6 (by omega) hln16
            rw [eco] at g
            exact rd_go_tr (sum sd op br C sf wf) g
          refine p_bx (ts_any (by omega) (ts_test (M := M) 12 0 (by omega) (by omega)) (i1 + 1) (st ++ D1) ln _ G (by rw [List.length_append]; omega) hG) (fun u hu => ?_)
          rcases hu with ⟨u1, i2, q', D2, Cd2, P2, u2, n5, n6⟩ | ⟨u1, f, j, uf, u2, u3⟩
          · refine p_f (by rw [u1]; exact b_1z) ?_
            obtain ⟨v1, ⟨v2, v2'⟩, v3, v4, v5, v6, v7, v8⟩ := u2
            have test : ∀ (sd op br : Int32) (C : List Int32) (sf wf : Nat → Int32), rd_go i (rd_C y k M i 0 sd op br [] C ln sf wf) i2 (rd_C y k M i2 q' 2 (nI (0 + rd_7 P2)) (nI 0) P2 (C ++ rs_co D1 ++ Cd2) ln sf (fun j => if j = ln then nI (C ++ rs_co D1).length else wf j)) ∧ P2.length ≤ 38 := fun sd op br C sf wf => by
              obtain ⟨g1, g2⟩ := v8 0 0 [] (C ++ rs_co D1) ln sf (fun j => if j = ln then nI (C ++ rs_co D1).length else wf j) (Bn 1) (by decide) (by decide)
              rw [List.append_nil] at g1 g2
              exact ⟨rd_go_tr (when sd op br C sf wf) g1, g2⟩
            refine fin i2 0 D2 u.2 v1 (by omega) (by omega) v6 (Or.inr (v7 [] (by decide))) (fun z16 sd op br C sf wf => ?_) (fun z16 sd op br C sf wf => ?_)
            · obtain ⟨g1, g2⟩ := test sd op br C sf wf
              have g3 := rd_end (y := y) (k := k) (M := M) (i := i2) (st := q') (sd := 2) (o := 0) (P := P2) (C := C ++ rs_co D1 ++ Cd2) (ln := ln) (sf := sf) (wf := fun j => if j = ln then nI (C ++ rs_co D1).length else wf j) v3 z16 (fun z hz => (v5 z hz).1) g2 hln16
              rw [show C ++ rs_co D1 ++ Cd2 ++ rd_ng P2 = C ++ rs_co D1 ++ rs_co D2 from by rw [v4]; simp only [List.append_assoc]] at g3
              intro P' Q' hQ' hP'
              exact rd_go_tr g1 g3 P' Q' hQ' (fun Z hZ => hP' Z ⟨_, _, _, hZ⟩)
            · obtain ⟨g1, g2⟩ := test sd op br C sf wf
              exact rd_bad_tr g1 (rd_bcn (b := 0) v3 n5 n6 (fun _ => rfl) (fun q => absurd q z16) (by decide))
          · refine p_t u1 (p_some (Or.inr ⟨rfl, f, j, uf, u2, fun sd op br C sf wf => ?_⟩))
            exact rd_bad_tr (when sd op br C sf wf) (u3 0 0 [] (C ++ rs_co D1) ln sf (fun j => if j = ln then nI (C ++ rs_co D1).length else wf j) (Bn 1) (by decide) (by decide))
        · refine p_f (fun q => z4 (t4.mp q)) ?_
          refine fin i1 0 [] E (by rw [List.append_nil]; exact hE) (by rw [List.length_nil]; omega) (by omega) (fun z hz => absurd hz List.not_mem_nil) (Or.inl rfl) (fun z16 sd op br C sf wf => ?_) (fun z16 sd op br C sf wf => ?_)
          · have g := rd_stop (y := y) (k := k) (M := M) (i := i1) (P := P1) (C := C ++ Cd1) (ln := ln) (sf := sf) (wf := wf) z16 (fun z hz => (q5 z hz).1) q6 (by omega) hln16
            rw [eco] at g
            rw [show rs_co [] = [] from rfl, List.append_nil]
            intro P' Q' hQ' hP'
            exact rd_go_tr (sum sd op br C sf wf) g P' Q' hQ' (fun Z hZ => hP' Z ⟨_, _, _, hZ⟩)
          · exact rd_bad_tr (sum sd op br C sf wf) (rd_payn xs z4 z16)
      · refine p_t x1 (p_some (Or.inr ⟨rfl, f, j, xf, x2, fun sd op br C sf wf => ?_⟩))
        rcases x3 with ⟨w1, w2, w3⟩ | ⟨w1, w2⟩
        · rw [w2, w3]
          exact rd_bad_tr (pay sd op br C sf wf) (rd_unitn (fun q => w1 (Or.inl q)) (fun q => w1 (Or.inr q)))
        · exact rd_bad_tr (rd_go_tr (pay sd op br C sf wf) (rd_unit w1)) (w2 0 (nI 0) 0 [] C ln sf wf (Bn 5) (by decide))
  · exact p_f (fun q => z3 (t3.mp q)) (rs_badB (f := 1) h (fun x x1 x2 => Or.inr ⟨x1, 1, i, by decide, x2, fun sd op br C sf wf => rd_lnn hκ0 z3⟩))
end LN
/-! STEPS AND CODE -/
def tx_f (st : rs_S) : Nat → Nat × Int32 := fun j => st.getD j (0, 0)
theorem tx_fa {st D : rs_S} {j : Nat} (h : j < st.length) : tx_f (st ++ D) j = tx_f st j := by
  unfold tx_f
  rw [List.getD_eq_getElem?_getD, List.getD_eq_getElem?_getD, List.getElem?_append_left h]
theorem tx_pos_cg {s s' : Nat → Nat × Int32} : ∀ i, (∀ j, j < i → s j = s' j) → l_pos s i = l_pos s' i := by
  intro i
  induction i with
  | zero => intro _; rfl
  | succ i ih => intro h; rw [l_pos, l_pos, ih (fun j hj => h j (by omega)), h i (by omega)]
theorem tx_run_cg {s s' : Nat → Nat × Int32} {b : Nat} {q : List Bool} : ∀ n, (∀ j, j < b + n → s j = s' j) → l_run s b n q = l_run s' b n q := by
  intro n
  induction n with
  | zero => intro _; rfl
  | succ n ih => intro h; rw [l_run, l_run, ih (fun j hj => h j (by omega)), h (b + n) (by omega)]
theorem tx_co1 (x : Nat × Int32) : (rs_co1 x).length = l_len x.1 := by
  unfold rs_co1 l_len
  by_cases z0 : x.1 = 0
  · rw [if_pos z0, if_neg (by omega)]; rfl
  · rw [if_neg z0]
    by_cases z : x.1 = 16
    · rw [if_pos z, if_pos z]; rfl
    · rw [if_neg z, if_neg z]; rfl
theorem tx_posc {x : Nat × Int32} {r : rs_S} : ∀ i, l_pos (tx_f (x :: r)) (i + 1) = l_len x.1 + l_pos (tx_f r) i := by
  intro i
  induction i with
  | zero =>
    show 0 + l_len (tx_f (x :: r) 0).1 = l_len x.1 + 0
    rw [show tx_f (x :: r) 0 = x from rfl]; omega
  | succ i ih =>
    rw [l_pos, ih, l_pos, show tx_f (x :: r) (i + 1) = tx_f r i from rfl]
    omega
theorem tx_posl : ∀ st : rs_S, l_pos (tx_f st) st.length = (rs_co st).length := by
  intro st
  induction st with
  | nil => rfl
  | cons x r ih => rw [List.length_cons, tx_posc, ih, rs_co, List.length_append, tx_co1]
theorem tx_code {row : Nat → Int32} : ∀ (st : rs_S) (off : Nat), rs_vd st → (∀ j, j < (rs_co st).length → row (off + j) = (rs_co st).getD j 0) → ∀ i, i < st.length → l_code row (off + l_pos (tx_f st) i) (tx_f st i) := by
  intro st
  induction st with
  | nil => intro off _ _ i hi; exact absurd hi (Nat.not_lt_zero i)
  | cons x r ih =>
    intro off hv h i hi
    have hx := hv x List.mem_cons_self
    have hl : (rs_co (x :: r)).length = l_len x.1 + (rs_co r).length := by rw [rs_co, List.length_append, tx_co1]
    cases i with
    | zero =>
      show l_code row (off + 0) x
      have h0 := h 0 (by rw [hl]; unfold l_len; split <;> omega)
      unfold l_code
      by_cases z0 : x.1 = 0
      · rw [if_pos z0]
        refine ⟨?_, hx.1 z0⟩
        rw [h0, rs_co, show rs_co1 x = [x.2] from by unfold rs_co1; rw [if_pos z0]]
        rfl
      · rw [if_neg z0]
        by_cases z : x.1 = 16
        · rw [if_pos z]
          have e : rs_co1 x = [x.2, -nI 20] := by unfold rs_co1; rw [if_neg z0, if_pos z]
          have h1 := h 1 (by rw [hl]; unfold l_len; rw [if_pos z]; omega)
          rw [rs_co, e] at h0 h1
          exact ⟨h0, hx.2 z, h1⟩
        · rw [if_neg z, h0, rs_co, show rs_co1 x = [-nI (l_kd x.1)] from by unfold rs_co1; rw [if_neg z0, if_neg z]]
          rfl
    | succ i =>
      rw [tx_posc, show tx_f (x :: r) (i + 1) = tx_f r i from rfl, ← Nat.add_assoc]
      refine ih (off + l_len x.1) (fun z hz => hv z (List.mem_cons_of_mem _ hz)) (fun j hj => ?_) i (by rw [List.length_cons] at hi; omega)
      rw [Nat.add_assoc, h (l_len x.1 + j) (by rw [hl]; omega), rs_co, List.getD_eq_getElem?_getD, List.getElem?_append_right (by rw [tx_co1]; omega), tx_co1, Nat.add_sub_cancel_left, ← List.getD_eq_getElem?_getD]
theorem tx_run {st D : rs_S} {q : List Bool} : ∀ n, n ≤ D.length → l_run (tx_f (st ++ D)) st.length n q = rs_lr (D.take n) q := by
  intro n
  induction n with
  | zero => intro _; rfl
  | succ n ih =>
    intro hn
    have e : tx_f (st ++ D) (st.length + n) = D[n]'(by omega) := by
      unfold tx_f
      rw [List.getD_eq_getElem?_getD, List.getElem?_append_right (by omega), Nat.add_sub_cancel_left, List.getElem?_eq_getElem (by omega)]
      rfl
    rw [l_run, ih (by omega), e, List.take_succ_eq_append_getElem (by omega), rs_lr_app]
    congr 1
    funext s
    show _ = (l_ty (D[n]'(by omega)).1 s).bind _
    cases l_ty (D[n]'(by omega)).1 s <;> rfl
theorem tx_runD {st D : rs_S} {q : List Bool} : l_run (tx_f (st ++ D)) st.length D.length q = rs_lr D q := by
  rw [tx_run D.length (Nat.le_refl _), List.take_length]
/-- the lines read so far -/
def tx_I (st : rs_S) (ln : Nat) (fl sf wf : Nat → Int32) : Prop := ∃ f m t : Nat → Nat, sf ln = nI (rs_co st).length ∧ rs_vd st ∧ ∀ l, l < ln → (fl (3 * l) = nI (f l) ∧ fl (3 * l + 1) = nI (m l) ∧ fl (3 * l + 2) = nI (t l)) ∧ (f l ≤ m l ∧ m l ≤ t l ∧ t l ≤ st.length) ∧ (sf l = nI (l_pos (tx_f st) (f l)) ∧ wf l = nI (l_pos (tx_f st) (m l)) ∧ sf (l + 1) = nI (l_pos (tx_f st) (t l))) ∧ l_run (tx_f st) (f l) (m l - f l) [] = some [false] ∧ (m l = t l ∨ l_run (tx_f st) (m l) (t l - m l) [] = some [true])
theorem tx_step {st D1 D2 : rs_S} {ln : Nat} {fl sf wf : Nat → Int32} (h : tx_I st ln fl sf wf) (hv1 : rs_vd D1) (hv2 : rs_vd D2) (h1 : rs_lr D1 [] = some [false]) (h2 : D2 = [] ∨ rs_lr D2 [] = some [true]) :
    tx_I (st ++ D1 ++ D2) (ln + 1) (ln_fl fl ln st.length (st ++ D1).length (st ++ D1 ++ D2).length) (fun j => if j = ln + 1 then nI (rs_co st ++ rs_co D1 ++ rs_co D2).length else sf j) (fun j => if j = ln then nI (rs_co st ++ rs_co D1).length else wf j) := by
  obtain ⟨f, m, t, h0, hv, hl⟩ := h
  have eco : rs_co st ++ rs_co D1 ++ rs_co D2 = rs_co (st ++ D1 ++ D2) := by rw [rs_co_app, rs_co_app]
  have eco1 : rs_co st ++ rs_co D1 = rs_co (st ++ D1) := by rw [rs_co_app]
  have la : (st ++ D1).length = st.length + D1.length := List.length_append
  have lb : (st ++ D1 ++ D2).length = st.length + D1.length + D2.length := by rw [List.length_append, la]
  have fa : ∀ j, j < st.length → tx_f (st ++ D1 ++ D2) j = tx_f st j := fun j hj => by rw [tx_fa (by omega), tx_fa hj]
  refine ⟨fun l => if l = ln then st.length else f l, fun l => if l = ln then (st ++ D1).length else m l, fun l => if l = ln then (st ++ D1 ++ D2).length else t l, ?_, rs_vd_app (rs_vd_app hv hv1) hv2, fun l hlt => ?_⟩
  · dsimp only
    rw [if_pos rfl, eco]
  · dsimp only
    by_cases z : l = ln
    · subst z
      rw [show (if l = l then st.length else f l) = st.length from if_pos rfl, show (if l = l then (st ++ D1).length else m l) = (st ++ D1).length from if_pos rfl, show (if l = l then (st ++ D1 ++ D2).length else t l) = (st ++ D1 ++ D2).length from if_pos rfl]
      unfold ln_fl
      refine ⟨⟨by rw [if_neg (by omega), if_neg (by omega), if_pos rfl], by rw [if_neg (by omega), if_pos rfl], by rw [if_pos rfl]⟩, ⟨by omega, by omega, Nat.le_refl _⟩, ⟨?_, ?_, ?_⟩, ?_, ?_⟩
      · rw [if_neg (by omega), h0, tx_pos_cg (s' := tx_f st) st.length (fun j hj => fa j hj), tx_posl]
      · rw [if_pos rfl, eco1, tx_pos_cg (s' := tx_f (st ++ D1)) (st ++ D1).length (fun j hj => tx_fa hj), tx_posl]
      · rw [if_pos rfl, eco, tx_posl]
      · rw [tx_run_cg (s' := tx_f (st ++ D1)) _ (fun j hj => tx_fa (by omega)), la, Nat.add_sub_cancel_left, tx_runD]
        exact h1
      · rcases h2 with h2 | h2
        · left
          rw [h2, List.append_nil]
        · right
          rw [lb, la, Nat.add_sub_cancel_left, ← la, tx_runD]
          exact h2
    · rw [show (if l = ln then st.length else f l) = f l from if_neg z, show (if l = ln then (st ++ D1).length else m l) = m l from if_neg z, show (if l = ln then (st ++ D1 ++ D2).length else t l) = t l from if_neg z]
      obtain ⟨⟨a1, a2, a3⟩, ⟨b1, b2, b3⟩, ⟨c1, c2, c3⟩, d1, d2⟩ := hl l (by omega)
      unfold ln_fl
      have pc : ∀ i, i ≤ st.length → l_pos (tx_f (st ++ D1 ++ D2)) i = l_pos (tx_f st) i := fun i hi => tx_pos_cg i (fun j hj => fa j (by omega))
      refine ⟨⟨by rw [if_neg (by omega), if_neg (by omega), if_neg (by omega)]; exact a1, by rw [if_neg (by omega), if_neg (by omega), if_neg (by omega)]; exact a2, by rw [if_neg (by omega), if_neg (by omega), if_neg (by omega)]; exact a3⟩, ⟨b1, b2, by omega⟩, ⟨by rw [if_neg (by omega), pc _ (by omega)]; exact c1, by rw [if_neg z, pc _ (by omega)]; exact c2, by rw [if_neg (by omega), pc _ (by omega)]; exact c3⟩, ?_, ?_⟩
      · rw [tx_run_cg (s' := tx_f st) _ (fun j hj => fa j (by omega))]; exact d1
      · rcases d2 with d2 | d2
        · exact Or.inl d2
        · right
          rw [tx_run_cg (s' := tx_f st) _ (fun j hj => fa j (by omega))]; exact d2
