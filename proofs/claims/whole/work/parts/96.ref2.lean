/-! TESTS, on both sides -/
def ts_go (y : Nat → Nat) (k : Nat) (M : zM) (t lb dep i i' : Nat) (s' : Int32) (P : List Nat) (Cd : List Int32) : Prop := ∀ (sd : Int32) (b : Nat) (W : List Nat) (C : List Int32) (ln : Nat) (sf wf : Nat → Int32), rd_B t W → W.length ≤ 3 * dep + lb → b ≤ dep →
  rd_go i (rd_C y k M i 3 sd (nI dep) (nI b) W C ln sf wf) i' (rd_C y k M i' s' 2 (nI (dep + rd_7 P)) (nI b) (P ++ W) (C ++ Cd) ln sf wf) ∧ (P ++ W).length ≤ 38
def ts_gb (y : Nat → Nat) (k : Nat) (M : zM) (t lb dep i f j : Nat) : Prop := ∀ (sd : Int32) (b : Nat) (W : List Nat) (C : List Int32) (ln : Nat) (sf wf : Nat → Int32), rd_B t W → W.length ≤ 3 * dep + lb → b ≤ dep →
  rd_bad y k M i (rd_C y k M i 3 sd (nI dep) (nI b) W C ln sf wf) f j
def ts_so (X M : zM) (y : Nat → Nat) (k lev t lb dep i : Nat) (st : rs_S) (ln : Nat) (fl : Nat → Int32) (i' : Nat) (s' : Int32) (D : rs_S) (Cd : List Int32) (P : List Nat) (N : zM) : Prop :=
  rs_N X y k i' dep (st ++ D) ln fl N ∧ (D.length + i ≤ i' ∧ i < i') ∧ rd_bh s' 2 (tk_K y k i') ∧ rs_co D = Cd ++ rd_ng P ∧ (∀ x, x ∈ P → x ≠ 21 ∧ lev ≤ rd_st x) ∧ rs_vd D ∧ (∀ s : List Bool, s.length ≤ 2 * dep + lb → rs_lr D s = some (true :: s)) ∧ ts_go y k M t lb dep i i' s' P Cd
def ts_no (X M : zM) (y : Nat → Nat) (k t lb dep i : Nat) (x : Int32 × zM) : Prop := x.1 = 0 ∧ ∃ f j, (¬ f = 0 ∧ f < 9) ∧ rs_bad X f (tk_P y k j) x.2 ∧ ts_gb y k M t lb dep i f j
def ts_sp (X M : zM) (y : Nat → Nat) (k lev t lb dep : Nat) (hs : Nat → Prop) (S : zM → Option (Int32 × zM)) : Prop := ∀ (i : Nat) (st : rs_S) (ln : Nat) (fl : Nat → Int32) (N : zM), st.length ≤ i → rs_N X y k i dep st ln fl N →
  p_ok (S N) (fun x => (x.1 = 1 ∧ ∃ i' s' D Cd P, ts_so X M y k lev t lb dep i st ln fl i' s' D Cd P x.2 ∧ hs (tk_K y k i')) ∨ ts_no X M y k t lb dep i x)
section TS
variable {X M : zM} {y : Nat → Nat} {k dep : Nat} {S : zM → Option (Int32 × zM)}
theorem ts_e9 (hdep : dep ≤ 8) (hS : ts_sp X M y k 3 4 2 dep (fun _ => True) S) {i : Nat} {st : rs_S} {ln : Nat} {fl : Nat → Int32} (hst : st.length ≤ i) : ∀ (n i' : Nat) (s' : Int32) (D : rs_S) (Cd : List Int32) (P : List Nat) (N : zM), k - i' < n → ts_so X M y k 2 2 1 dep i st ln fl i' s' D Cd P N →
    p_ok (f_X11_every_9 S n N) (fun x => (x.1 = 1 ∧ ∃ i' s' D Cd P, ts_so X M y k 2 2 1 dep i st ln fl i' s' D Cd P x.2 ∧ ¬ tk_K y k i' = 6) ∨ ts_no X M y k 2 1 dep i x) := by
  intro n
  induction n with
  | zero => intro i' s' D Cd P N h; exact absurd h (Nat.not_lt_zero _)
  | succ n ih =>
    intro i' s' D Cd P N hn hso
    obtain ⟨s1, ⟨s2, s2'⟩, s3, s4, s5, s6, s7, s8⟩ := id hso
    have t6 := rs_tok s1 (b := 6) (c := 5) (by decide) (by decide)
    have hk4 := s1.2.1.1
    have hik := tk_o_le s1.2.2.1
    have hlen : (st ++ D).length ≤ i' := by rw [List.length_append]; omega
    rw [f_X11_every_9]
    by_cases z6 : tk_K y k i' = 6
    · refine p_t (t6.mpr z6) ?_
      have hi1 := (tk_o_s s1.2.2.1 (show tk_K y k i' ≠ 0 by omega)).2
      have st2 : rd_st (tk_K y k i') = 2 := by rw [z6]; decide
      have step : ∀ (sd : Int32) (b : Nat) (W : List Nat) (C : List Int32) (ln : Nat) (sf wf : Nat → Int32), rd_B 2 W → W.length ≤ 3 * dep + 1 → b ≤ dep → rd_go i (rd_C y k M i 3 sd (nI dep) (nI b) W C ln sf wf) (i' + 1) (rd_C y k M (i' + 1) 3 2 (nI dep) (nI b) (6 :: W) (C ++ Cd ++ rd_ng P) ln sf wf) := by
        intro sd b W C ln sf wf hB hWl hb
        obtain ⟨g1, g2⟩ := s8 sd b W C ln sf wf hB hWl hb
        have g3 := rd_lg (y := y) (k := k) (M := M) (i := i') (st := s') (sd := 2) (br := nI b) (o := dep) (P := P) (W0 := W) (C := C ++ Cd) (ln := ln) (sf := sf) (wf := wf) s3 (Or.inr z6) (by rw [st2]; exact hB) (fun x hx => ⟨(s5 x hx).1, by rw [st2]; exact (s5 x hx).2⟩) g2
        rw [z6] at g3
        exact rd_go_tr g1 g3
      have B4 : ∀ W, rd_B 4 (6 :: W) := fun W x r e => Or.inr (by cases e; decide)
      refine p_bx (rs_next s1 (by omega)) (fun A hA => p_bx (hS (i' + 1) (st ++ D) ln fl A (by omega) hA) (fun x hx => ?_))
      rcases hx with ⟨x1, i2, q', D2, Cd2, P2, x2, -⟩ | ⟨x1, f, j, xf, x2, x3⟩
      · refine p_f (by rw [x1]; exact b_1z) ?_
        obtain ⟨q1, ⟨q2, q2'⟩, q3, q4, q5, q6, q7, q8⟩ := x2
        have hik2 := tk_o_le q1.2.2.1
        refine p_bx (rs_lay (κ := 21) (v := 0) q1 (by rw [List.length_append]; omega)) (fun B hB => ?_)
        refine ih i2 q' (D ++ D2 ++ [(21, 0)]) (Cd ++ rd_ng P ++ Cd2) (P2 ++ [6]) B (by omega) ⟨by rw [← List.append_assoc, ← List.append_assoc]; exact hB, ⟨by rw [List.length_append, List.length_append, List.length_singleton]; omega, by omega⟩, q3, ?_, fun z hz => ?_, rs_vd_app (rs_vd_app s6 q6) (rs_vd_1 (by decide) (by decide)), fun s hs => ?_, ?_⟩
        · rw [rs_co_app, rs_co_app, s4, q4, show rs_co [(21, (0 : Int32))] = rd_ng [6] from rfl, rs_ng_app]
          simp only [List.append_assoc]
        · rcases List.mem_append.mp hz with hz | hz
          · exact ⟨(q5 z hz).1, by have := (q5 z hz).2; omega⟩
          · rw [List.mem_singleton] at hz
            rw [hz]; decide
        · rw [rs_lr_app, rs_lr_app, s7 s hs, Option.bind_some, q7 (true :: s) (by rw [List.length_cons]; omega), Option.bind_some]
          rfl
        · intro sd b W C ln sf wf hB hWl hb
          obtain ⟨g3, g4⟩ := q8 2 b (6 :: W) (C ++ Cd ++ rd_ng P) ln sf wf (B4 W) (by rw [List.length_cons]; omega) hb
          have g5 := rd_go_tr (step sd b W C ln sf wf hB hWl hb) g3
          rw [show C ++ Cd ++ rd_ng P ++ Cd2 = C ++ (Cd ++ rd_ng P ++ Cd2) from by simp only [List.append_assoc], show P2 ++ 6 :: W = P2 ++ [6] ++ W from by simp only [List.append_assoc]; rfl, show rd_7 P2 = rd_7 (P2 ++ [6]) from by rw [rd_7_app]; rfl] at g5
          rw [show P2 ++ 6 :: W = P2 ++ [6] ++ W from by simp only [List.append_assoc]; rfl] at g4
          exact ⟨g5, g4⟩
      · refine p_t x1 (p_some (Or.inr ⟨rfl, f, j, xf, x2, fun sd b W C ln sf wf hB hWl hb => ?_⟩))
        exact rd_bad_tr (step sd b W C ln sf wf hB hWl hb) (x3 2 b (6 :: W) (C ++ Cd ++ rd_ng P) ln sf wf (B4 W) (by rw [List.length_cons]; omega) hb)
    · exact p_f (fun q => z6 (t6.mp q)) (p_some (Or.inl ⟨rfl, i', s', D, Cd, P, hso, z6⟩))
theorem ts_every (hdep : dep ≤ 8) (hS : ts_sp X M y k 3 4 2 dep (fun _ => True) S) : ts_sp X M y k 2 2 1 dep (fun κ => ¬ κ = 6) (f_X11_every S) := by
  intro i st ln fl N hst h
  have hk4 := h.2.1.1
  unfold f_X11_every
  refine p_bx (hS i st ln fl N hst h) (fun x hx => ?_)
  rcases hx with ⟨x1, i2, q', D2, Cd2, P2, x2, -⟩ | ⟨x1, f, j, xf, x2, x3⟩
  · refine p_f (by rw [x1]; exact b_1z) ?_
    obtain ⟨q1, q2, q3, q4, q5, q6, q7, q8⟩ := x2
    exact ts_e9 hdep hS hst z_F i2 q' D2 Cd2 P2 x.2 (by unfold z_F; omega) ⟨q1, q2, q3, q4, fun z hz => ⟨(q5 z hz).1, by have := (q5 z hz).2; omega⟩, q6, fun s hs => q7 s (by omega), fun sd b W C ln sf wf hB hWl hb => q8 sd b W C ln sf wf (rd_B_mono hB (by omega)) (by omega) hb⟩
  · exact p_t x1 (p_some (Or.inr ⟨rfl, f, j, xf, x2, fun sd b W C ln sf wf hB hWl hb => x3 sd b W C ln sf wf (rd_B_mono hB (by omega)) (by omega) hb⟩))
theorem ts_a9 (hdep : dep ≤ 8) (hE : ts_sp X M y k 2 2 1 dep (fun κ => ¬ κ = 6) (f_X11_every S)) {i : Nat} {st : rs_S} {ln : Nat} {fl : Nat → Int32} (hst : st.length ≤ i) : ∀ (n i' : Nat) (s' : Int32) (D : rs_S) (Cd : List Int32) (P : List Nat) (N : zM), k - i' < n → ts_so X M y k 1 1 0 dep i st ln fl i' s' D Cd P N → ¬ tk_K y k i' = 6 →
    p_ok (f_X11_any_9 S n N) (fun x => (x.1 = 1 ∧ ∃ i' s' D Cd P, ts_so X M y k 1 1 0 dep i st ln fl i' s' D Cd P x.2 ∧ ¬ tk_K y k i' = 5 ∧ ¬ tk_K y k i' = 6) ∨ ts_no X M y k 1 0 dep i x) := by
  intro n
  induction n with
  | zero => intro i' s' D Cd P N h; exact absurd h (Nat.not_lt_zero _)
  | succ n ih =>
    intro i' s' D Cd P N hn hso n6
    obtain ⟨s1, ⟨s2, s2'⟩, s3, s4, s5, s6, s7, s8⟩ := id hso
    have t5 := rs_tok s1 (b := 5) (c := 4) (by decide) (by decide)
    have hk4 := s1.2.1.1
    have hik := tk_o_le s1.2.2.1
    have hlen : (st ++ D).length ≤ i' := by rw [List.length_append]; omega
    rw [f_X11_any_9]
    by_cases z5 : tk_K y k i' = 5
    · refine p_t (t5.mpr z5) ?_
      have hi1 := (tk_o_s s1.2.2.1 (show tk_K y k i' ≠ 0 by omega)).2
      have st1 : rd_st (tk_K y k i') = 1 := by rw [z5]; decide
      have step : ∀ (sd : Int32) (b : Nat) (W : List Nat) (C : List Int32) (ln : Nat) (sf wf : Nat → Int32), rd_B 1 W → W.length ≤ 3 * dep + 0 → b ≤ dep → rd_go i (rd_C y k M i 3 sd (nI dep) (nI b) W C ln sf wf) (i' + 1) (rd_C y k M (i' + 1) 3 2 (nI dep) (nI b) (5 :: W) (C ++ Cd ++ rd_ng P) ln sf wf) := by
        intro sd b W C ln sf wf hB hWl hb
        obtain ⟨g1, g2⟩ := s8 sd b W C ln sf wf hB hWl hb
        have g3 := rd_lg (y := y) (k := k) (M := M) (i := i') (st := s') (sd := 2) (br := nI b) (o := dep) (P := P) (W0 := W) (C := C ++ Cd) (ln := ln) (sf := sf) (wf := wf) s3 (Or.inl z5) (by rw [st1]; exact hB) (fun x hx => ⟨(s5 x hx).1, by rw [st1]; exact (s5 x hx).2⟩) g2
        rw [z5] at g3
        exact rd_go_tr g1 g3
      have B2 : ∀ W, rd_B 2 (5 :: W) := fun W x r e => Or.inr (by cases e; decide)
      refine p_bx (rs_next s1 (by omega)) (fun A hA => p_bx (hE (i' + 1) (st ++ D) ln fl A (by omega) hA) (fun x hx => ?_))
      rcases hx with ⟨x1, i2, q', D2, Cd2, P2, x2, x6⟩ | ⟨x1, f, j, xf, x2, x3⟩
      · refine p_f (by rw [x1]; exact b_1z) ?_
        obtain ⟨q1, ⟨q2, q2'⟩, q3, q4, q5, q6, q7, q8⟩ := x2
        have hik2 := tk_o_le q1.2.2.1
        refine p_bx (rs_lay (κ := 22) (v := 0) q1 (by rw [List.length_append]; omega)) (fun B hB => ?_)
        refine ih i2 q' (D ++ D2 ++ [(22, 0)]) (Cd ++ rd_ng P ++ Cd2) (P2 ++ [5]) B (by omega) ⟨by rw [← List.append_assoc, ← List.append_assoc]; exact hB, ⟨by rw [List.length_append, List.length_append, List.length_singleton]; omega, by omega⟩, q3, ?_, fun z hz => ?_, rs_vd_app (rs_vd_app s6 q6) (rs_vd_1 (by decide) (by decide)), fun s hs => ?_, ?_⟩ x6
        · rw [rs_co_app, rs_co_app, s4, q4, show rs_co [(22, (0 : Int32))] = rd_ng [5] from rfl, rs_ng_app]
          simp only [List.append_assoc]
        · rcases List.mem_append.mp hz with hz | hz
          · exact ⟨(q5 z hz).1, by have := (q5 z hz).2; omega⟩
          · rw [List.mem_singleton] at hz
            rw [hz]; decide
        · rw [rs_lr_app, rs_lr_app, s7 s hs, Option.bind_some, q7 (true :: s) (by rw [List.length_cons]; omega), Option.bind_some]
          rfl
        · intro sd b W C ln sf wf hB hWl hb
          obtain ⟨g3, g4⟩ := q8 2 b (5 :: W) (C ++ Cd ++ rd_ng P) ln sf wf (B2 W) (by rw [List.length_cons]; omega) hb
          have g5 := rd_go_tr (step sd b W C ln sf wf hB hWl hb) g3
          rw [show C ++ Cd ++ rd_ng P ++ Cd2 = C ++ (Cd ++ rd_ng P ++ Cd2) from by simp only [List.append_assoc], show P2 ++ 5 :: W = P2 ++ [5] ++ W from by simp only [List.append_assoc]; rfl, show rd_7 P2 = rd_7 (P2 ++ [5]) from by rw [rd_7_app]; rfl] at g5
          rw [show P2 ++ 5 :: W = P2 ++ [5] ++ W from by simp only [List.append_assoc]; rfl] at g4
          exact ⟨g5, g4⟩
      · refine p_t x1 (p_some (Or.inr ⟨rfl, f, j, xf, x2, fun sd b W C ln sf wf hB hWl hb => ?_⟩))
        exact rd_bad_tr (step sd b W C ln sf wf hB hWl hb) (x3 2 b (5 :: W) (C ++ Cd ++ rd_ng P) ln sf wf (B2 W) (by rw [List.length_cons]; omega) hb)
    · exact p_f (fun q => z5 (t5.mp q)) (p_some (Or.inl ⟨rfl, i', s', D, Cd, P, hso, z5, n6⟩))
theorem ts_any (hdep : dep ≤ 8) (hS : ts_sp X M y k 3 4 2 dep (fun _ => True) S) : ts_sp X M y k 1 1 0 dep (fun κ => ¬ κ = 5 ∧ ¬ κ = 6) (f_X11_any S) := by
  intro i st ln fl N hst h
  have hk4 := h.2.1.1
  have hE := ts_every hdep hS
  unfold f_X11_any
  refine p_bx (hE i st ln fl N hst h) (fun x hx => ?_)
  rcases hx with ⟨x1, i2, q', D2, Cd2, P2, x2, x6⟩ | ⟨x1, f, j, xf, x2, x3⟩
  · refine p_f (by rw [x1]; exact b_1z) ?_
    obtain ⟨q1, q2, q3, q4, q5, q6, q7, q8⟩ := x2
    exact ts_a9 hdep hE hst z_F i2 q' D2 Cd2 P2 x.2 (by unfold z_F; omega) ⟨q1, q2, q3, q4, fun z hz => ⟨(q5 z hz).1, by have := (q5 z hz).2; omega⟩, q6, fun s hs => q7 s (by omega), fun sd b W C ln sf wf hB hWl hb => q8 sd b W C ln sf wf (rd_B_mono hB (by omega)) (by omega) hb⟩ x6
  · exact p_t x1 (p_some (Or.inr ⟨rfl, f, j, xf, x2, fun sd b W C ln sf wf hB hWl hb => x3 sd b W C ln sf wf (rd_B_mono hB (by omega)) (by omega) hb⟩))
theorem ts_open {i : Nat} {st : rs_S} {ln : Nat} {fl : Nat → Int32} {N : zM} (h : rs_N X y k i dep st ln fl N) (hκ : tk_K y k i ≠ 0) (hdep : dep ≤ 8) : p_ok (f_X11_opens N) (fun x => (x.1 = 1 ∧ dep < 8 ∧ rs_N X y k (i + 1) (dep + 1) st ln fl x.2) ∨ (x.1 = 0 ∧ dep = 8 ∧ rs_bad X 3 (tk_P y k i) x.2)) := by
  have h18 : N.1 40 18 = nI dep := h.2.2.2.2.1.1
  unfold f_X11_opens
  rw [h18]
  by_cases z : dep = 8
  · exact p_t (by rw [z]; rfl) (rs_badB (f := 3) h (fun x x1 x2 => Or.inr ⟨x1, z, x2⟩))
  · refine p_f (b_ne (c := 8) (by omega) (by omega) z) (p_lx (fun A eA => ?_))
    rw [p_s1] at eA
    exact p_bx (rs_next (rs_dep h eA) hκ) (fun B hB => p_some (Or.inl ⟨rfl, by omega, hB⟩))
theorem ts_need {i c κ : Nat} {cc : Int32} {st : rs_S} {ln : Nat} {fl : Nat → Int32} {N : zM} (h : rs_N X y k i dep st ln fl N) (hκ : κ < 26) (h0 : κ ≠ 0) (hc : cc = nI (tk_t κ)) : p_ok (f_X11_need cc N) (fun x => (x.1 = 1 ∧ tk_K y k i = κ ∧ rs_N X y k (i + 1) dep st ln fl x.2) ∨ (x.1 = 0 ∧ ¬ tk_K y k i = κ ∧ rs_bad X 1 (tk_P y k i) x.2)) := by
  have tt := rs_tok h (b := κ) (c := cc) hκ hc
  unfold f_X11_need
  by_cases z : tk_K y k i = κ
  · exact p_t (tt.mpr z) (p_bx (rs_next h (by omega)) (fun B hB => p_some (Or.inl ⟨rfl, z, hB⟩)))
  · exact p_f (fun q => z (tt.mp q)) (rs_badB (f := 1) h (fun x x1 x2 => Or.inr ⟨x1, z, x2⟩))
theorem ts_one (hdep : dep ≤ 8) (hS : dep < 8 → ts_sp X M y k 3 4 2 (dep + 1) (fun _ => True) S) : ts_sp X M y k 3 4 2 dep (fun _ => True) (f_X11_oneTest_b S) := by
  intro i st ln fl N hst h
  have hk4 := h.2.1.1
  have hik := tk_o_le h.2.2.1
  have t7 := rs_tok h (b := 7) (c := 6) (by decide) (by decide)
  have t21 := rs_tok h (b := 21) (c := 140) (by decide) (by decide)
  unfold f_X11_oneTest_b
  by_cases z7 : tk_K y k i = 7
  · refine p_t (t7.mpr z7) (p_bx (ts_open h (by omega) hdep) (fun x hx => ?_))
    rcases hx with ⟨x1, x2, x3⟩ | ⟨x1, x2, x3⟩
    · refine p_f (by rw [x1]; exact b_1z) (p_bx (hS x2 (i + 1) st ln fl x.2 (by omega) x3) (fun u hu => ?_))
      have step : ∀ (sd : Int32) (b : Nat) (W : List Nat) (C : List Int32) (ln : Nat) (sf wf : Nat → Int32), W.length ≤ 3 * dep + 2 → rd_go i (rd_C y k M i 3 sd (nI dep) (nI b) W C ln sf wf) (i + 1) (rd_C y k M (i + 1) 3 sd (nI (dep + 1)) (nI b) (7 :: W) C ln sf wf) := by
        intro sd b W C ln sf wf hWl
        have g := rd_open (y := y) (k := k) (M := M) (i := i) (sd := sd) (o := dep) (b := b) (W := W) (C := C) (ln := ln) (sf := sf) (wf := wf) (Or.inl z7) x2 (by omega)
        rw [z7, if_neg (by decide)] at g
        exact g
      have B4 : ∀ W, rd_B 4 (7 :: W) := fun W x r e => Or.inr (by cases e; decide)
      rcases hu with ⟨u1, i2, q', D2, Cd2, P2, u2, -⟩ | ⟨u1, f, j, uf, u2, u3⟩
      · refine p_f (by rw [u1]; exact b_1z) (p_lx (fun A eA => ?_))
        obtain ⟨q1, ⟨q2, q2'⟩, q3, q4, q5, q6, q7, q8⟩ := u2
        have hik2 := tk_o_le q1.2.2.1
        rw [show u.2.1 40 18 = nI (dep + 1) from q1.2.2.2.2.1.1, nI_pred] at eA
        refine p_bx (rs_lay (κ := 20) (v := 0) (rs_dep q1 eA) (by rw [List.length_append]; omega)) (fun B hB => p_some (Or.inl ⟨rfl, i2, q', D2 ++ [(20, 0)], Cd2, P2 ++ [7], ⟨by rw [← List.append_assoc]; exact hB, ⟨by rw [List.length_append, List.length_singleton]; omega, by omega⟩, q3, ?_, fun z hz => ?_, rs_vd_app q6 (rs_vd_1 (by decide) (by decide)), fun s hs => ?_, ?_⟩, trivial⟩))
        · rw [rs_co_app, q4, show rs_co [(20, (0 : Int32))] = rd_ng [7] from rfl, rs_ng_app, List.append_assoc]
        · rcases List.mem_append.mp hz with hz | hz
          · exact q5 z hz
          · rw [List.mem_singleton] at hz
            rw [hz]; decide
        · rw [rs_lr_app, q7 s (by omega), Option.bind_some]
          rfl
        · intro sd b W C ln sf wf hB hWl hb
          obtain ⟨g3, g4⟩ := q8 sd b (7 :: W) C ln sf wf (B4 W) (by rw [List.length_cons]; omega) (by omega)
          have g5 := rd_go_tr (step sd b W C ln sf wf hWl) g3
          rw [show P2 ++ 7 :: W = P2 ++ [7] ++ W from by simp only [List.append_assoc]; rfl, show dep + 1 + rd_7 P2 = dep + rd_7 (P2 ++ [7]) from by rw [rd_7_app, show rd_7 [7] = 1 from rfl]; omega] at g5
          rw [show P2 ++ 7 :: W = P2 ++ [7] ++ W from by simp only [List.append_assoc]; rfl] at g4
          exact ⟨g5, g4⟩
      · refine p_t u1 (p_some (Or.inr ⟨rfl, f, j, uf, u2, fun sd b W C ln sf wf hB hWl hb => ?_⟩))
        exact rd_bad_tr (step sd b W C ln sf wf hWl) (u3 sd b (7 :: W) C ln sf wf (B4 W) (by rw [List.length_cons]; omega) (by omega))
    · exact p_t x1 (p_some (Or.inr ⟨rfl, 3, i, by decide, x3, fun sd b W C ln sf wf hB hWl hb => rd_openn (Or.inl z7) x2⟩))
  · refine p_f (fun q => z7 (t7.mp q)) ?_
    by_cases z21 : tk_K y k i = 21
    · refine p_t (t21.mpr z21) (p_bx (ts_open h (by omega) hdep) (fun x hx => ?_))
      rcases hx with ⟨x1, x2, x3⟩ | ⟨x1, x2, x3⟩
      · refine p_f (by rw [x1]; exact b_1z) (p_bx (ts_any (by omega) (hS x2) (i + 1) st ln fl x.2 (by omega) x3) (fun u hu => ?_))
        have step : ∀ (sd : Int32) (b : Nat) (W : List Nat) (C : List Int32) (ln : Nat) (sf wf : Nat → Int32), W.length ≤ 3 * dep + 2 → rd_go i (rd_C y k M i 3 sd (nI dep) (nI b) W C ln sf wf) (i + 1) (rd_C y k M (i + 1) 3 sd (nI (dep + 1)) (nI (b + 1)) (21 :: W) C ln sf wf) := by
          intro sd b W C ln sf wf hWl
          have g := rd_open (y := y) (k := k) (M := M) (i := i) (sd := sd) (o := dep) (b := b) (W := W) (C := C) (ln := ln) (sf := sf) (wf := wf) (Or.inr z21) x2 (by omega)
          rw [z21, if_pos rfl] at g
          exact g
        have B1 : ∀ W, rd_B 1 (21 :: W) := fun W x r e => Or.inl (by cases e; rfl)
        rcases hu with ⟨u1, i2, q', D2, Cd2, P2, u2, n5, n6⟩ | ⟨u1, f, j, uf, u2, u3⟩
        · refine p_f (by rw [u1]; exact b_1z) ?_
          obtain ⟨q1, ⟨q2, q2'⟩, q3, q4, q5, q6, q7, q8⟩ := u2
          refine p_bx (ts_need (c := 0) (κ := 22) q1 (by decide) (by decide) (by decide)) (fun v hv => ?_)
          rcases hv with ⟨v1, v2, v3⟩ | ⟨v1, v2, v3⟩
          · refine p_f (by rw [v1]; exact b_1z) (p_lx (fun A eA => p_some (Or.inl ⟨rfl, i2 + 1, 5, D2, Cd2 ++ rd_ng P2, [], ⟨?_, ⟨by omega, by omega⟩, Or.inl rfl, by rw [q4, show rd_ng [] = [] from rfl, List.append_nil], fun z hz => absurd hz List.not_mem_nil, q6, fun s hs => q7 s (by omega), ?_⟩, trivial⟩)))
            · rw [show v.2.1 40 18 = nI (dep + 1) from v3.2.2.2.2.1.1, nI_pred] at eA
              exact rs_dep v3 eA
            · intro sd b W C ln sf wf hB hWl hb
              obtain ⟨g3, g4⟩ := q8 sd (b + 1) (21 :: W) C ln sf wf (B1 W) (by rw [List.length_cons]; omega) (by omega)
              have g5 := rd_close (y := y) (k := k) (M := M) (i := i2) (st := q') (sd := 2) (o := dep) (b := b) (P := P2) (W0 := W) (C := C ++ Cd2) (ln := ln) (sf := sf) (wf := wf) q3 v2 (fun z hz => (q5 z hz).1) g4 (by omega)
              have g6 := rd_go_tr (step sd b W C ln sf wf hWl) (rd_go_tr g3 g5)
              rw [List.append_assoc] at g6
              exact ⟨g6, by rw [List.nil_append]; omega⟩
          · refine p_t v1 (p_some (Or.inr ⟨rfl, 1, i2, by decide, v3, fun sd b W C ln sf wf hB hWl hb => ?_⟩))
            obtain ⟨g3, g4⟩ := q8 sd (b + 1) (21 :: W) C ln sf wf (B1 W) (by rw [List.length_cons]; omega) (by omega)
            exact rd_bad_tr (rd_go_tr (step sd b W C ln sf wf hWl) g3) (rd_bcn (b := b + 1) q3 n5 n6 (fun q => absurd q v2) (fun _ => by omega) (by omega))
        · refine p_t u1 (p_some (Or.inr ⟨rfl, f, j, uf, u2, fun sd b W C ln sf wf hB hWl hb => ?_⟩))
          exact rd_bad_tr (step sd b W C ln sf wf hWl) (u3 sd (b + 1) (21 :: W) C ln sf wf (B1 W) (by rw [List.length_cons]; omega) (by omega))
      · exact p_t x1 (p_some (Or.inr ⟨rfl, 3, i, by decide, x3, fun sd b W C ln sf wf hB hWl hb => rd_openn (Or.inr z21) x2⟩))
    · refine p_f (fun q => z21 (t21.mp q)) (p_bx (rs_sum (M := M) hst h) (fun x hx => ?_))
      rcases hx with ⟨x1, i1, D1, Cd1, P1, x2, xs⟩ | ⟨x1, f, j, xf, x2, x3⟩
      · refine p_f (by rw [x1]; exact b_1z) ?_
        obtain ⟨q1, ⟨q2, q2'⟩, q3, q4, q5, q6, q7, q8, q9, q10⟩ := x2
        have hik1 := tk_o_le q1.2.2.1
        have hlen : (st ++ D1).length ≤ i1 := by rw [List.length_append]; omega
        have t23 := rs_tok q1 (b := 23) (c := 160) (by decide) (by decide)
        have t24 := rs_tok q1 (b := 24) (c := 161) (by decide) (by decide)
        have t25 := rs_tok q1 (b := 25) (c := 162) (by decide) (by decide)
        have pre : ∀ (sd : Int32) (b : Nat) (W : List Nat) (C : List Int32) (ln : Nat) (sf wf : Nat → Int32), rd_B 4 W → W.length ≤ 3 * dep + 2 → rd_go i (rd_C y k M i 3 sd (nI dep) (nI b) W C ln sf wf) i1 (rd_C y k M i1 4 1 (nI dep) (nI b) (P1 ++ W) (C ++ Cd1) ln sf wf) := by
          intro sd b W C ln sf wf hB hWl
          exact rd_go_tr (rd_case q3) (q10 1 (nI b) dep W C ln sf wf (rd_B_mono hB (by omega)) (by omega))
        have go : ∀ κ q, tk_K y k i1 = κ → (κ = 23 ∧ q = 17) ∨ (κ = 24 ∧ q = 18) ∨ (κ = 25 ∧ q = 19) → p_ok (f_X11_oneTest_147 S (nI q) x.2) (fun x => (x.1 = 1 ∧ ∃ i' s' D Cd P, ts_so X M y k 3 4 2 dep i st ln fl i' s' D Cd P x.2 ∧ True) ∨ ts_no X M y k 4 2 dep i x) := by
          intro κ q hκ hq
          have hκr : 23 ≤ tk_K y k i1 ∧ tk_K y k i1 ≤ 25 := by omega
          have hi1 := (tk_o_s q1.2.2.1 (show tk_K y k i1 ≠ 0 by omega)).2
          have st4 : rd_st (tk_K y k i1) = 4 := by
            rcases hq with ⟨e, -⟩ | ⟨e, -⟩ | ⟨e, -⟩
            · rw [hκ, e]; decide
            · rw [hκ, e]; decide
            · rw [hκ, e]; decide
          have st4' : rd_st κ = 4 := by rw [← hκ]; exact st4
          have step : ∀ (sd : Int32) (b : Nat) (W : List Nat) (C : List Int32) (ln : Nat) (sf wf : Nat → Int32), rd_B 4 W → W.length ≤ 3 * dep + 2 → rd_go i (rd_C y k M i 3 sd (nI dep) (nI b) W C ln sf wf) (i1 + 1) (rd_C y k M (i1 + 1) 1 2 (nI dep) (nI b) (κ :: W) (C ++ Cd1 ++ rd_ng P1) ln sf wf) := by
            intro sd b W C ln sf wf hB hWl
            have e7 : nI (dep + rd_7 P1) = nI dep := by rw [q6]; rfl
            have g := rd_cmp (y := y) (k := k) (M := M) (i := i1) (o := dep) (br := nI b) (P := P1) (W0 := W) (C := C ++ Cd1) (ln := ln) (sf := sf) (wf := wf) hκr (by rw [st4]; exact hB) (fun z hz => ⟨(q5 z hz).1, by rw [st4]; have := (q5 z hz).2; omega⟩) (by rw [List.length_append]; omega)
            rw [e7, hκ] at g
            exact rd_go_tr (pre sd b W C ln sf wf hB hWl) g
          have B5 : ∀ W, rd_B 5 (κ :: W) := fun W x r e => Or.inr (by cases e; omega)
          unfold f_X11_oneTest_147
          refine p_f (n_m1 (by omega)) (p_bx (rs_next q1 (by omega)) (fun A hA => p_bx (rs_sum (M := M) (show (st ++ D1).length ≤ i1 + 1 by omega) hA) (fun u hu => ?_)))
          rcases hu with ⟨u1, i2, D2, Cd2, P2, u2, us⟩ | ⟨u1, f, j, uf, u2, u3⟩
          · refine p_f (by rw [u1]; exact b_1z) ?_
            obtain ⟨v1, ⟨v2, v2'⟩, v3, v4, v5, v6, v7, v8, v9, v10⟩ := u2
            have hik2 := tk_o_le v1.2.2.1
            have hkd : rs_co [(q, (0 : Int32))] = rd_ng [κ] := by
              rcases hq with ⟨e1, e2⟩ | ⟨e1, e2⟩ | ⟨e1, e2⟩
              · rw [e1, e2]; rfl
              · rw [e1, e2]; rfl
              · rw [e1, e2]; rfl
            refine p_bx (rs_lay (κ := q) (v := 0) v1 (by rw [List.length_append]; omega)) (fun B hB => p_some (Or.inl ⟨rfl, i2, 4, D1 ++ D2 ++ [(q, 0)], Cd1 ++ rd_ng P1 ++ Cd2, P2 ++ [κ], ⟨by rw [← List.append_assoc, ← List.append_assoc]; exact hB, ⟨by rw [List.length_append, List.length_append, List.length_singleton]; omega, by omega⟩, Or.inr ⟨rfl, rfl, us⟩, ?_, fun z hz => ?_, rs_vd_app (rs_vd_app q8 v8) (rs_vd_1 (by omega) (by omega)), fun s hs => ?_, ?_⟩, trivial⟩))
            · rw [rs_co_app, rs_co_app, q4, v4, hkd, rs_ng_app]
              simp only [List.append_assoc]
            · rcases List.mem_append.mp hz with hz | hz
              · exact ⟨(v5 z hz).1, by have := (v5 z hz).2; omega⟩
              · rw [List.mem_singleton] at hz
                rw [hz]
                exact ⟨by omega, by omega⟩
            · rw [rs_lr_app, rs_lr_app, q9 s (by omega), Option.bind_some, v9 (false :: s) (by rw [List.length_cons]; omega), Option.bind_some]
              rcases hq with ⟨e1, e2⟩ | ⟨e1, e2⟩ | ⟨e1, e2⟩
              · rw [e2]; rfl
              · rw [e2]; rfl
              · rw [e2]; rfl
            · intro sd b W C ln sf wf hB hWl hb
              have g3 := v10 2 (nI b) dep (κ :: W) (C ++ Cd1 ++ rd_ng P1) ln sf wf (B5 W) (by rw [List.length_cons]; omega)
              have g4 := rd_go_tr (step sd b W C ln sf wf hB hWl) (rd_go_tr (rd_unit v3) g3)
              have e7 : rd_7 (P2 ++ [κ]) = 0 := by
                rw [rd_7_app, v6]
                show 0 + ((if κ = 7 then 1 else 0) + 0) = 0
                rw [if_neg (by omega)]
              rw [show C ++ Cd1 ++ rd_ng P1 ++ Cd2 = C ++ (Cd1 ++ rd_ng P1 ++ Cd2) from by simp only [List.append_assoc], show P2 ++ κ :: W = P2 ++ [κ] ++ W from by simp only [List.append_assoc]; rfl] at g4
              rw [e7, Nat.add_zero]
              refine ⟨g4, ?_⟩
              rw [List.length_append, List.length_append, List.length_singleton]
              omega
          · refine p_t u1 (p_some (Or.inr ⟨rfl, f, j, uf, u2, fun sd b W C ln sf wf hB hWl hb => ?_⟩))
            rcases u3 with ⟨w1, w2, w3⟩ | ⟨w1, w2⟩
            · rw [w2, w3]
              exact rd_bad_tr (step sd b W C ln sf wf hB hWl) (rd_unitn (fun q => w1 (Or.inl q)) (fun q => w1 (Or.inr q)))
            · exact rd_bad_tr (rd_go_tr (step sd b W C ln sf wf hB hWl) (rd_unit w1)) (w2 2 (nI b) dep (κ :: W) (C ++ Cd1 ++ rd_ng P1) ln sf wf (B5 W) (by rw [List.length_cons]; omega))
        by_cases z23 : tk_K y k i1 = 23
        · exact p_t (t23.mpr z23) (go 23 17 z23 (Or.inl ⟨rfl, rfl⟩))
        refine p_f (fun q => z23 (t23.mp q)) ?_
        by_cases z24 : tk_K y k i1 = 24
        · exact p_t (t24.mpr z24) (go 24 18 z24 (Or.inr (Or.inl ⟨rfl, rfl⟩)))
        refine p_f (fun q => z24 (t24.mp q)) ?_
        by_cases z25 : tk_K y k i1 = 25
        · exact p_t (t25.mpr z25) (go 25 19 z25 (Or.inr (Or.inr ⟨rfl, rfl⟩)))
        refine p_f (fun q => z25 (t25.mp q)) ?_
        unfold f_X11_oneTest_147
        refine p_t rfl (rs_badB (f := 1) q1 (fun u u1 u2 => Or.inr ⟨u1, 1, i1, by decide, u2, fun sd b W C ln sf wf hB hWl hb => ?_⟩))
        exact rd_bad_tr (pre sd b W C ln sf wf hB hWl) (rd_cmpn xs (by omega))
      · refine p_t x1 (p_some (Or.inr ⟨rfl, f, j, xf, x2, fun sd b W C ln sf wf hB hWl hb => ?_⟩))
        rcases x3 with ⟨w1, w2, w3⟩ | ⟨w1, w2⟩
        · rw [w2, w3]
          exact rd_casen z7 z21 (fun q => w1 (Or.inl q)) (fun q => w1 (Or.inr q))
        · exact rd_bad_tr (rd_case w1) (w2 1 (nI b) dep W C ln sf wf (rd_B_mono hB (by omega)) (by omega))
/-- a test -/
theorem ts_test : ∀ d dep, dep ≤ 8 → 9 ≤ dep + d → ts_sp X M y k 3 4 2 dep (fun _ => True) (f_X11_oneTest d) := by
  intro d
  induction d with
  | zero => intro dep h1 h2; omega
  | succ d ih =>
    intro dep h1 h2 i st ln fl N hst h
    rw [f_X11_oneTest]
    exact ts_one h1 (fun q => ih (dep + 1) (by omega) (by omega)) i st ln fl N hst h
end TS
