/-! READING: the reference -/
abbrev rs_S : Type := List (Nat × Int32)
def rs_L (row : Nat → Int32) (st : rs_S) : Prop := ∀ j, j < st.length → row (2 * j) = nI (st.getD j (0, 0)).1 ∧ row (2 * j + 1) = (st.getD j (0, 0)).2
def rs_co1 (x : Nat × Int32) : List Int32 := if x.1 = 0 then [x.2] else if x.1 = 16 then [x.2, -nI 20] else [-nI (l_kd x.1)]
/-- the class's code of some steps -/
def rs_co : rs_S → List Int32
  | [] => []
  | x :: r => rs_co1 x ++ rs_co r
theorem rs_co_app : ∀ (a b : rs_S), rs_co (a ++ b) = rs_co a ++ rs_co b := by
  intro a b
  induction a with
  | nil => rfl
  | cons x r ih => rw [List.cons_append, rs_co, rs_co, ih, List.append_assoc]
def rs_lr : rs_S → List Bool → Option (List Bool)
  | [], s => some s
  | x :: r, s => (l_ty x.1 s).bind (rs_lr r)
theorem rs_lr_app : ∀ (a b : rs_S) (s : List Bool), rs_lr (a ++ b) s = (rs_lr a s).bind (rs_lr b) := by
  intro a b
  induction a with
  | nil => intro s; rfl
  | cons x r ih =>
    intro s
    rw [List.cons_append, rs_lr, rs_lr]
    cases l_ty x.1 s with
    | none => rfl
    | some q => rw [Option.bind_some, Option.bind_some, ih]
def rs_vd (D : rs_S) : Prop := ∀ x, x ∈ D → (x.1 = 0 → 0 ≤ x.2) ∧ (x.1 = 16 → 0 < x.2)
theorem rs_vd_app {a b : rs_S} (h1 : rs_vd a) (h2 : rs_vd b) : rs_vd (a ++ b) := fun x hx => by
  rcases List.mem_append.mp hx with h | h
  · exact h1 x h
  · exact h2 x h
theorem rs_vd_1 {κ : Nat} {v : Int32} (h0 : ¬ κ = 0) (h16 : ¬ κ = 16) : rs_vd [(κ, v)] := fun x hx => by
  rw [List.mem_singleton] at hx
  rw [hx]
  exact ⟨fun q => absurd q h0, fun q => absurd q h16⟩
def rs_un (κ : Nat) : Prop := κ = 2 ∨ (8 ≤ κ ∧ κ ≤ 15)
/-- what the reading may change -/
def rs_F (X N : zM) : Prop := (∀ a, a ≠ 40 → a ≠ 43 → a ≠ 44 → N.1 a = X.1 a) ∧ ∀ j, j ≠ 8 → j ≠ 9 → j ≠ 11 → j ≠ 12 → j ≠ 13 → j ≠ 14 → j ≠ 15 → j ≠ 16 → j ≠ 18 → N.1 40 j = X.1 40 j
/-- the reference while it reads: the token i is seen -/
def rs_N (X : zM) (y : Nat → Nat) (k i dep : Nat) (st : rs_S) (ln : Nat) (fl : Nat → Int32) (N : zM) : Prop :=
  rs_F X N ∧ tm_T y k N ∧ tk_o y k i ∧ (N.1 40 11 = nI (tk_A y k (i + 1)) ∧ N.1 40 12 = nI (tk_t (tk_K y k i)) ∧ N.1 40 13 = nI (tk_P y k i) ∧ (tk_K y k i = 2 → N.1 40 14 = nI (tk_V y k i))) ∧
  (N.1 40 18 = nI dep ∧ N.1 40 15 = 0 ∧ N.1 40 8 = nI ln ∧ N.1 40 9 = nI st.length) ∧ N.1 43 = fl ∧ rs_L (N.1 44) st
def rs_bad (X : zM) (f p : Nat) (N : zM) : Prop := rs_F X N ∧ N.1 40 15 = nI f ∧ N.1 40 16 = nI p
theorem tk_tI {a b : Nat} (ha : a < 26) (hb : b < 26) : nI (tk_t a) = nI (tk_t b) ↔ a = b := by
  have d : ∀ a b : Fin 26, nI (tk_t a.1) = nI (tk_t b.1) ↔ a.1 = b.1 := by decide +kernel
  exact d ⟨a, ha⟩ ⟨b, hb⟩
section RN
variable {X : zM} {y : Nat → Nat} {k i dep : Nat} {st : rs_S} {ln : Nat} {fl : Nat → Int32} {N : zM}
theorem rs_tok {b : Nat} {c : Int32} (h : rs_N X y k i dep st ln fl N) (hb : b < 26) (hc : c = nI (tk_t b)) : N.1 40 12 = c ↔ tk_K y k i = b := by
  rw [h.2.2.2.1.2.1, hc]
  exact tk_tI rd_K25 hb
theorem rs_F_tr {A B C : zM} (h1 : rs_F A B) (h2 : rs_F B C) : rs_F A C := ⟨fun a q1 q2 q3 => by rw [h2.1 a q1 q2 q3, h1.1 a q1 q2 q3], fun j q1 q2 q3 q4 q5 q6 q7 q8 q9 => by rw [h2.2 j q1 q2 q3 q4 q5 q6 q7 q8 q9, h1.2 j q1 q2 q3 q4 q5 q6 q7 q8 q9]⟩
theorem rs_next (h : rs_N X y k i dep st ln fl N) (hκ : tk_K y k i ≠ 0) : p_ok (f_X11_next0 N) (rs_N X y k (i + 1) dep st ln fl) := by
  obtain ⟨a1, a2, a3, ⟨b1, b2, b3, b4⟩, ⟨c1, c2, c3, c4⟩, a6, a7⟩ := h
  refine p_w (tm_next (i := i + 1) a2 b1) ?_
  rintro Y ⟨y1, y2, y3, y4, y5, y6⟩
  refine ⟨rs_F_tr a1 ⟨fun a q1 _ _ => y1 a q1, fun j _ _ q3 q4 q5 q6 _ _ _ => y2 j q3 q4 q5 q6⟩, tm_T_fr a2 y1 (y2 10 (by omega) (by omega) (by omega) (by omega)), (tk_o_s a3 hκ).1, ⟨y3, y4, y5, y6⟩, ⟨by rw [y2 18 (by omega) (by omega) (by omega) (by omega)]; exact c1, by rw [y2 15 (by omega) (by omega) (by omega) (by omega)]; exact c2, by rw [y2 8 (by omega) (by omega) (by omega) (by omega)]; exact c3, by rw [y2 9 (by omega) (by omega) (by omega) (by omega)]; exact c4⟩, by rw [y1 43 (by omega)]; exact a6, by rw [y1 44 (by omega)]; exact a7⟩
theorem rs_dep {d : Nat} {A : zM} (h : rs_N X y k i dep st ln fl N) (eA : A = z_w N 40 18 (nI d)) : rs_N X y k i d st ln fl A := by
  obtain ⟨a1, a2, a3, ⟨b1, b2, b3, b4⟩, ⟨c1, c2, c3, c4⟩, a6, a7⟩ := h
  have aO : ∀ a, a ≠ 40 → A.1 a = N.1 a := fun a ha => by rw [eA, p_nr ha]
  have a40 : ∀ j, j ≠ 18 → A.1 40 j = N.1 40 j := fun j hj => by rw [eA, p_eq, if_neg hj]
  refine ⟨rs_F_tr a1 ⟨fun a q1 _ _ => aO a q1, fun j _ _ _ _ _ _ _ _ q9 => a40 j q9⟩, tm_T_fr a2 aO (a40 10 (by omega)), a3, ⟨by rw [a40 11 (by omega)]; exact b1, by rw [a40 12 (by omega)]; exact b2, by rw [a40 13 (by omega)]; exact b3, fun q => by rw [a40 14 (by omega)]; exact b4 q⟩, ⟨by rw [eA, p_eq, if_pos rfl], by rw [a40 15 (by omega)]; exact c2, by rw [a40 8 (by omega)]; exact c3, by rw [a40 9 (by omega)]; exact c4⟩, by rw [aO 43 (by omega)]; exact a6, by rw [aO 44 (by omega)]; exact a7⟩
theorem rs_lay {κ : Nat} {v : Int32} (h : rs_N X y k i dep st ln fl N) (hl : st.length < 410) : p_ok (f_X11_lay (nI κ) v N) (rs_N X y k i dep (st ++ [(κ, v)]) ln fl) := by
  obtain ⟨a1, a2, a3, ⟨b1, b2, b3, b4⟩, ⟨c1, c2, c3, c4⟩, a6, a7⟩ := h
  have e2 : (2 : Int32) * nI st.length = nI (2 * st.length) := n_mu 2 st.length
  unfold f_X11_lay
  rw [c4, e2]
  refine p_g (p_ix (show 2 * st.length < 820 by omega) (by decide)) ?_
  rw [p_cl (by omega)]
  refine p_lx (fun A eA => ?_)
  have aO : ∀ a, a ≠ 44 → A.1 a = N.1 a := fun a ha => by rw [eA, p_nr ha]
  rw [aO 40 (by omega), c4, e2, p_s1]
  refine p_g (p_ix (show 2 * st.length + 1 < 820 by omega) (by decide)) ?_
  rw [p_cl (by omega)]
  refine p_lx (fun B eB => p_lx (fun C eC => p_some ?_))
  have bO : ∀ a, a ≠ 44 → B.1 a = N.1 a := fun a ha => by rw [eB, p_nr ha, aO a ha]
  rw [bO 40 (by omega), c4, p_s1] at eC
  have cO : ∀ a, a ≠ 40 → a ≠ 44 → C.1 a = N.1 a := fun a h1 h2 => by rw [eC, p_nr h1, bO a h2]
  have c40 : ∀ j, j ≠ 9 → C.1 40 j = N.1 40 j := fun j hj => by rw [eC, p_eq, if_neg hj, bO 40 (by omega)]
  have c44 : ∀ j, C.1 44 j = if j = 2 * st.length + 1 then v else if j = 2 * st.length then nI κ else N.1 44 j := fun j => by rw [eC, p_ne (by decide), eB, p_eq, eA, p_eq]
  refine ⟨rs_F_tr a1 ⟨fun a q1 _ q3 => cO a q1 q3, fun j _ q2 _ _ _ _ _ _ _ => c40 j q2⟩, ⟨a2.1, a2.2.1, by rw [c40 10 (by omega)]; exact a2.2.2.1, fun q hq => by rw [cO 45 (by omega) (by omega)]; exact a2.2.2.2 q hq⟩, a3, ⟨by rw [c40 11 (by omega)]; exact b1, by rw [c40 12 (by omega)]; exact b2, by rw [c40 13 (by omega)]; exact b3, fun q => by rw [c40 14 (by omega)]; exact b4 q⟩, ⟨by rw [c40 18 (by omega)]; exact c1, by rw [c40 15 (by omega)]; exact c2, by rw [c40 8 (by omega)]; exact c3, by rw [eC, p_eq, if_pos rfl, List.length_append, List.length_singleton]⟩, by rw [cO 43 (by omega) (by omega)]; exact a6, fun j hj => ?_⟩
  rw [List.length_append, List.length_singleton] at hj
  rw [List.getD_eq_getElem?_getD]
  by_cases z : j < st.length
  · rw [List.getElem?_append_left z, c44, c44, if_neg (by omega), if_neg (by omega), if_neg (by omega), if_neg (by omega), ← List.getD_eq_getElem?_getD]
    exact a7 j z
  · have : j = st.length := by omega
    subst this
    rw [List.getElem?_append_right (Nat.le_refl _), Nat.sub_self, c44, c44, if_neg (by omega), if_pos rfl, if_pos rfl]
    exact ⟨rfl, rfl⟩
theorem rs_badI {f : Nat} (h : rs_N X y k i dep st ln fl N) : p_ok (f_X11_bad (nI f) N) (fun x => x.1 = 0 ∧ rs_bad X f (tk_P y k i) x.2) := by
  obtain ⟨a1, a2, a3, ⟨b1, b2, b3, b4⟩, -⟩ := h
  unfold f_X11_bad
  refine p_lx (fun A eA => p_lx (fun B eB => p_some ⟨rfl, rs_F_tr a1 ⟨fun a q1 _ _ => ?_, fun j _ _ _ _ _ _ q7 q8 _ => ?_⟩, ?_, ?_⟩))
  · rw [eB, p_nr q1, eA, p_nr q1]
  · rw [eB, p_eq, if_neg q8, eA, p_eq, if_neg q7]
  · rw [eB, p_eq, if_neg (by decide), eA, p_eq, if_pos rfl]
  · rw [eB, p_eq, if_pos rfl, eA, p_eq, if_neg (by decide)]; exact b3
theorem rs_badB {f : Nat} {P : Int32 × zM → Prop} (h : rs_N X y k i dep st ln fl N) (hP : ∀ x : Int32 × zM, x.1 = 0 → rs_bad X f (tk_P y k i) x.2 → P x) : p_ok ((f_X11_bad (nI f) N).bind fun x4 => z_g (vp_nar .boolean x4.1 = x4.1) <| some (x4.1, x4.2)) P := by
  refine p_bx (rs_badI h) (fun x hx => p_g (by rw [hx.1]; decide) (p_some (hP _ hx.1 hx.2)))
/-- a unit -/
theorem rs_unit (h : rs_N X y k i dep st ln fl N) (hl : st.length < 410) : p_ok (f_X11_unit N) (fun x => (x.1 = 1 ∧ rs_un (tk_K y k i) ∧ ∃ e : Nat × Int32, rs_N X y k (i + 1) dep (st ++ [e]) ln fl x.2 ∧ rs_co [e] = [rd_u (tk_K y k i) (tk_V y k i)] ∧ rs_vd [e] ∧ e.1 ≤ 8) ∨ (x.1 = 0 ∧ ¬ rs_un (tk_K y k i) ∧ rs_bad X 1 (tk_P y k i) x.2)) := by
  have h25 := rd_K25 (y := y) (k := k) (i := i)
  have e2 := rs_tok h (b := 2) (c := 2) (by decide) (by decide)
  have d : ∀ a : Fin 26, (¬ nI (tk_t a.1) < 41 ∧ ¬ (48 : Int32) < nI (tk_t a.1)) ↔ (8 ≤ a.1 ∧ a.1 ≤ 15) := by decide +kernel
  have d2 : ∀ a : Fin 26, (8 ≤ a.1 ∧ a.1 ≤ 15) → nI (tk_t a.1) - 40 = nI (a.1 - 7) := by decide +kernel
  have e8 := d ⟨tk_K y k i, h25⟩
  dsimp only at e8
  have h12 := h.2.2.2.1.2.1
  unfold f_X11_unit
  rw [m_w, Option.bind_some]
  dsimp only
  rw [h12]
  have go : ∀ (b : Int32), ((b = 0 ∧ tk_K y k i = 2) ∨ (b = 1 ∧ 8 ≤ tk_K y k i ∧ tk_K y k i ≤ 15)) → p_ok (f_X11_unit_30 b N) (fun x => (x.1 = 1 ∧ rs_un (tk_K y k i) ∧ ∃ e : Nat × Int32, rs_N X y k (i + 1) dep (st ++ [e]) ln fl x.2 ∧ rs_co [e] = [rd_u (tk_K y k i) (tk_V y k i)] ∧ rs_vd [e] ∧ e.1 ≤ 8) ∨ (x.1 = 0 ∧ ¬ rs_un (tk_K y k i) ∧ rs_bad X 1 (tk_P y k i) x.2)) := by
    intro b hb
    unfold f_X11_unit_30
    rcases hb with ⟨hb, hκ⟩ | ⟨hb, hκ⟩
    · refine p_t hb ?_
      have h14 := h.2.2.2.1.2.2.2 hκ
      rw [p_0, h14]
      refine p_bx (rs_lay (κ := 0) h hl) (fun A hA => p_bx (rs_next hA (by omega)) (fun B hB => p_some (Or.inl ⟨rfl, Or.inl hκ, _, hB, ?_, ?_, Nat.zero_le 8⟩)))
      · show [nI (tk_V y k i)] = [rd_u (tk_K y k i) (tk_V y k i)]
        unfold rd_u
        rw [if_pos hκ]
      · intro x hx
        rw [List.mem_singleton] at hx
        rw [hx]
        exact ⟨fun _ => nI_pos' (by have := tk_V_lt hκ; omega), fun q => absurd q (show ¬ 0 = 16 by decide)⟩
    · refine p_f (by rw [hb]; exact b_1z) ?_
      rw [h12, d2 ⟨tk_K y k i, h25⟩ hκ]
      refine p_bx (rs_lay (κ := tk_K y k i - 7) h hl) (fun A hA => p_bx (rs_next hA (by omega)) (fun B hB => p_some (Or.inl ⟨rfl, Or.inr hκ, _, hB, ?_, rs_vd_1 (by omega) (by omega), by dsimp only; omega⟩)))
      show rs_co1 _ ++ [] = _
      unfold rs_co1 rd_u l_kd
      dsimp only
      rw [if_neg (by omega), if_neg (by omega), if_pos (by omega), if_neg (by omega), List.append_nil, show 7 + (tk_K y k i - 7) = tk_K y k i by omega]
  by_cases z2 : tk_K y k i = 2
  · refine p_t (by rw [← h12]; exact e2.mpr z2) ?_
    rw [if_neg (fun q => by have := e8.mp q; omega)]
    exact go 0 (Or.inl ⟨rfl, z2⟩)
  · refine p_f (by rw [← h12]; exact fun q => z2 (e2.mp q)) ?_
    by_cases z8 : 8 ≤ tk_K y k i ∧ tk_K y k i ≤ 15
    · rw [if_pos (e8.mpr z8)]
      exact p_f b_1z (go 1 (Or.inr ⟨rfl, z8⟩))
    · rw [if_neg (fun q => z8 (e8.mp q))]
      refine p_t rfl (rs_badB (f := 1) h (fun x x1 x2 => Or.inr ⟨x1, fun q => ?_, x2⟩))
      rcases q with q | q
      · exact z2 q
      · exact z8 q
end RN
/-! SUMS, on both sides -/
section RP
variable {X M : zM} {y : Nat → Nat} {k : Nat}
/-- the class goes over a sum whose first unit is the token i -/
def rs_go (y : Nat → Nat) (k : Nat) (M : zM) (t wl i i' : Nat) (P : List Nat) (Cd : List Int32) : Prop := ∀ (sd br : Int32) (o : Nat) (W : List Nat) (C : List Int32) (ln : Nat) (sf wf : Nat → Int32), rd_B t W → W.length ≤ wl →
  rd_go (i + 1) (rd_C y k M (i + 1) 4 sd (nI o) br W (C ++ [rd_u (tk_K y k i) (tk_V y k i)]) ln sf wf) i' (rd_C y k M i' 4 sd (nI o) br (P ++ W) (C ++ Cd) ln sf wf)
def rs_gb (y : Nat → Nat) (k : Nat) (M : zM) (t wl i f j : Nat) : Prop := ∀ (sd br : Int32) (o : Nat) (W : List Nat) (C : List Int32) (ln : Nat) (sf wf : Nat → Int32), rd_B t W → W.length ≤ wl →
  rd_bad y k M (i + 1) (rd_C y k M (i + 1) 4 sd (nI o) br W (C ++ [rd_u (tk_K y k i) (tk_V y k i)]) ln sf wf) f j
/-- so far: steps D, code Cd, what waits P -/
def rs_so (X M : zM) (y : Nat → Nat) (k t wl sl pl i dep : Nat) (st : rs_S) (ln : Nat) (fl : Nat → Int32) (i' : Nat) (D : rs_S) (Cd : List Int32) (P : List Nat) (N : zM) : Prop :=
  rs_N X y k i' dep (st ++ D) ln fl N ∧ (D.length + i ≤ i' ∧ i < i') ∧ rs_un (tk_K y k i) ∧ rs_co D = Cd ++ rd_ng P ∧ (∀ x, x ∈ P → x ≠ 21 ∧ t ≤ rd_st x) ∧ rd_7 P = 0 ∧ P.length ≤ pl ∧ rs_vd D ∧ (∀ s : List Bool, s.length ≤ sl → rs_lr D s = some (false :: s)) ∧ rs_go y k M t wl i i' P Cd
def rs_no (X M : zM) (y : Nat → Nat) (k t wl i : Nat) (x : Int32 × zM) : Prop := x.1 = 0 ∧ ∃ f j, (¬ f = 0 ∧ f < 9) ∧ rs_bad X f (tk_P y k j) x.2 ∧ ((¬ rs_un (tk_K y k i) ∧ f = 1 ∧ j = i) ∨ (rs_un (tk_K y k i) ∧ rs_gb y k M t wl i f j))
theorem rd_B_mono {t t' : Nat} {W : List Nat} (h : rd_B t W) (ht : t ≤ t') : rd_B t' W := fun x r e => (h x r e).imp id (fun q => by omega)
theorem rs_ng_app (P Q : List Nat) : rd_ng (P ++ Q) = rd_ng P ++ rd_ng Q := List.map_append
theorem rd_7_app : ∀ (P Q : List Nat), rd_7 (P ++ Q) = rd_7 P + rd_7 Q := by
  intro P Q
  induction P with
  | nil => exact (Nat.zero_add _).symm
  | cons x r ih => rw [List.cons_append, rd_7, rd_7, ih]; omega
theorem rs_lr1 {e : Nat × Int32} {s : List Bool} (he : e.1 ≤ 8) (hs : s.length < 39) : rs_lr [e] s = some (false :: s) := by
  show (l_ty e.1 s).bind _ = _
  unfold l_ty
  rw [if_pos he, if_pos hs]
  rfl
theorem rs_p9 {i dep : Nat} {st : rs_S} {ln : Nat} {fl : Nat → Int32} (hst : st.length ≤ i) : ∀ (n i' : Nat) (D : rs_S) (Cd : List Int32) (P : List Nat) (N : zM), k - i' < n → rs_so X M y k 6 36 36 1 i dep st ln fl i' D Cd P N →
    p_ok (f_X11_product_9 n N) (fun x => (x.1 = 1 ∧ ∃ i' D Cd P, rs_so X M y k 6 36 36 1 i dep st ln fl i' D Cd P x.2 ∧ ¬ tk_K y k i' = 19 ∧ ¬ tk_K y k i' = 20) ∨ rs_no X M y k 6 36 i x) := by
  intro n
  induction n with
  | zero => intro i' D Cd P N h; exact absurd h (Nat.not_lt_zero _)
  | succ n ih =>
    intro i' D Cd P N hn hso
    obtain ⟨s1, ⟨s2, s2'⟩, s3, s4, s5, s6, s7, s8, s9, s10⟩ := id hso
    have t19 := rs_tok s1 (b := 19) (c := 142) (by decide) (by decide)
    have t20 := rs_tok s1 (b := 20) (c := 147) (by decide) (by decide)
    have hk4 := s1.2.1.1
    have hik := tk_o_le s1.2.2.1
    have hlen : (st ++ D).length ≤ i' := by rw [List.length_append]; omega
    have step : ∀ κ, tk_K y k i' = κ → κ = 19 ∨ κ = 20 → ∀ (sd br : Int32) (o : Nat) (W : List Nat) (C : List Int32) (ln : Nat) (sf wf : Nat → Int32), rd_B 6 W → W.length ≤ 36 → rd_go (i + 1) (rd_C y k M (i + 1) 4 sd (nI o) br W (C ++ [rd_u (tk_K y k i) (tk_V y k i)]) ln sf wf) (i' + 1) (rd_C y k M (i' + 1) (if κ = 20 then 2 else 1) sd (nI o) br (κ :: W) (C ++ Cd ++ rd_ng P) ln sf wf) := by
      intro κ hκ hκ2 sd br o W C ln sf wf hB hWl
      have st6 : rd_st (tk_K y k i') = 6 := by
        rcases hκ2 with z | z
        · rw [hκ, z]; decide
        · rw [hκ, z]; decide
      have e7 : nI (o + rd_7 P) = nI o := by rw [s6]; rfl
      have g2 := rd_op (y := y) (k := k) (M := M) (i := i') (o := o) (P := P) (W0 := W) (C := C ++ Cd) (sd := sd) (br := br) (ln := ln) (sf := sf) (wf := wf) ⟨by omega, by omega⟩ (by rw [st6]; exact hB) (fun x hx => ⟨(s5 x hx).1, by rw [st6]; exact (s5 x hx).2⟩) (by rw [List.length_append]; omega)
      rw [e7, hκ] at g2
      exact rd_go_tr (s10 sd br o W C ln sf wf hB hWl) g2
    rw [f_X11_product_9]
    by_cases z19 : tk_K y k i' = 19
    · refine p_t (t19.mpr z19) (p_f (fun q => by have := t20.mp q; omega) ?_)
      have hi1 := (tk_o_s s1.2.2.1 (show tk_K y k i' ≠ 0 by omega)).2
      unfold f_X11_product_44
      refine p_bx (rs_next s1 (by omega)) (fun A hA => p_t rfl (p_bx (rs_unit hA (by omega)) (fun x hx => ?_)))
      rcases hx with ⟨x1, x2, e, x3, x4, x5, x6⟩ | ⟨x1, x2, x3⟩
      · refine p_f (by rw [x1]; exact b_1z) ?_
        have hl2 : (st ++ D ++ [e]).length < 410 := by rw [List.length_append, List.length_singleton]; omega
        refine p_bx (rs_lay (κ := 15) (v := 0) x3 hl2) (fun B hB => ?_)
        refine ih (i' + 2) (D ++ [e] ++ [(15, 0)]) (Cd ++ rd_ng P ++ [rd_u (tk_K y k (i' + 1)) (tk_V y k (i' + 1))]) [19] B (by omega) ⟨by rw [← List.append_assoc, ← List.append_assoc]; exact hB, ⟨by rw [List.length_append, List.length_append, List.length_singleton, List.length_singleton]; omega, by omega⟩, s3, ?_, fun x hx => ?_, rfl, by decide, rs_vd_app (rs_vd_app s8 x5) (rs_vd_1 (by decide) (by decide)), fun s hs => ?_, ?_⟩
        · rw [rs_co_app, rs_co_app, s4, x4]; rfl
        · rw [List.mem_singleton] at hx
          rw [hx]
          decide
        · rw [rs_lr_app, rs_lr_app, s9 s hs, Option.bind_some, rs_lr1 x6 (by rw [List.length_cons]; omega), Option.bind_some]
          rfl
        · intro sd br o W C ln sf wf hB hWl
          have g1 := step 19 z19 (Or.inl rfl) sd br o W C ln sf wf hB hWl
          rw [if_neg (by decide)] at g1
          have g2 := rd_unit (y := y) (k := k) (M := M) (i := i' + 1) (sd := sd) (op := nI o) (br := br) (W := 19 :: W) (C := C ++ Cd ++ rd_ng P) (ln := ln) (sf := sf) (wf := wf) x2
          have g3 := rd_go_tr g1 g2
          rw [show C ++ Cd ++ rd_ng P ++ [rd_u (tk_K y k (i' + 1)) (tk_V y k (i' + 1))] = C ++ (Cd ++ rd_ng P ++ [rd_u (tk_K y k (i' + 1)) (tk_V y k (i' + 1))]) from by simp only [List.append_assoc]] at g3
          exact g3
      · refine p_t x1 (p_some (Or.inr ⟨rfl, 1, i' + 1, by decide, x3, Or.inr ⟨s3, fun sd br o W C ln sf wf hB hWl => ?_⟩⟩))
        have g1 := step 19 z19 (Or.inl rfl) sd br o W C ln sf wf hB hWl
        rw [if_neg (by decide)] at g1
        exact rd_bad_tr g1 (rd_unitn (fun q => x2 (Or.inl q)) (fun q => x2 (Or.inr q)))
    · refine p_f (fun q => z19 (t19.mp q)) ?_
      by_cases z20 : tk_K y k i' = 20
      · refine p_t (t20.mpr z20) (p_t (t20.mpr z20) ?_)
        have hi1 := (tk_o_s s1.2.2.1 (show tk_K y k i' ≠ 0 by omega)).2
        unfold f_X11_product_44
        refine p_bx (rs_next s1 (by omega)) (fun A hA => p_f b_1z (p_l ?_))
        have t2 := rs_tok hA (b := 2) (c := 2) (by decide) (by decide)
        by_cases z2 : tk_K y k (i' + 1) = 2
        · refine p_t (t2.mpr z2) ?_
          have hV := tk_V_lt z2
          have h14 := hA.2.2.2.1.2.2.2 z2
          rw [h14]
          by_cases zv : tk_V y k (i' + 1) = 0
          · refine p_t (by rw [zv]; rfl) (rs_badB (f := 2) hA (fun x x1 x2 => Or.inr ⟨x1, 2, i' + 1, by decide, x2, Or.inr ⟨s3, fun sd br o W C ln sf wf hB hWl => ?_⟩⟩))
            have g1 := step 20 z20 (Or.inr rfl) sd br o W C ln sf wf hB hWl
            rw [if_pos rfl] at g1
            exact rd_bad_tr g1 (rd_part0 z2 zv)
          · refine p_f (nI_ne0 (by omega) (by omega)) ?_
            have hi2 := (tk_o_s hA.2.2.1 (show tk_K y k (i' + 1) ≠ 0 by omega)).2
            refine p_bx (rs_next hA (by omega)) (fun B hB => p_bx (rs_lay (κ := 16) (v := nI (tk_V y k (i' + 1))) hB (by omega)) (fun E hE => ?_))
            refine ih (i' + 2) (D ++ [(16, nI (tk_V y k (i' + 1)))]) (Cd ++ rd_ng P ++ [nI (tk_V y k (i' + 1))]) [20] E (by omega) ⟨by rw [← List.append_assoc]; exact hE, ⟨by rw [List.length_append, List.length_singleton]; omega, by omega⟩, s3, ?_, fun x hx => ?_, rfl, by decide, rs_vd_app s8 (fun x hx => ?_), fun s hs => ?_, ?_⟩
            · rw [rs_co_app, s4]
              show _ ++ ([nI (tk_V y k (i' + 1)), -nI 20] ++ []) = _
              simp only [List.append_assoc]
              rfl
            · rw [List.mem_singleton] at hx
              rw [hx]
              decide
            · rw [List.mem_singleton] at hx
              rw [hx]
              exact ⟨fun q => absurd q (show ¬ 16 = 0 by decide), fun _ => nI_lt (a := 0) (by omega) (by omega)⟩
            · rw [rs_lr_app, s9 s hs, Option.bind_some]
              show (l_ty 16 (false :: s)).bind _ = _
              unfold l_ty
              rw [if_neg (by decide), if_neg (by decide), if_pos rfl]
              dsimp only
              rw [if_pos (by omega)]
              rfl
            · intro sd br o W C ln sf wf hB hWl
              have g1 := step 20 z20 (Or.inr rfl) sd br o W C ln sf wf hB hWl
              rw [if_pos rfl] at g1
              have g2 := rd_part (y := y) (k := k) (M := M) (i := i' + 1) (sd := sd) (op := nI o) (br := br) (W := 20 :: W) (C := C ++ Cd ++ rd_ng P) (ln := ln) (sf := sf) (wf := wf) z2 zv
              have g3 := rd_go_tr g1 g2
              rw [show C ++ Cd ++ rd_ng P ++ [nI (tk_V y k (i' + 1))] = C ++ (Cd ++ rd_ng P ++ [nI (tk_V y k (i' + 1))]) from by simp only [List.append_assoc]] at g3
              exact g3
        · refine p_f (fun q => z2 (t2.mp q)) (rs_badB (f := 1) hA (fun x x1 x2 => Or.inr ⟨x1, 1, i' + 1, by decide, x2, Or.inr ⟨s3, fun sd br o W C ln sf wf hB hWl => ?_⟩⟩))
          have g1 := step 20 z20 (Or.inr rfl) sd br o W C ln sf wf hB hWl
          rw [if_pos rfl] at g1
          exact rd_bad_tr g1 (rd_partn z2)
      · exact p_f (fun q => z20 (t20.mp q)) (p_some (Or.inl ⟨rfl, i', D, Cd, P, hso, z19, z20⟩))
theorem rs_prod {i dep : Nat} {st : rs_S} {ln : Nat} {fl : Nat → Int32} {N : zM} (hst : st.length ≤ i) (h : rs_N X y k i dep st ln fl N) :
    p_ok (f_X11_product N) (fun x => (x.1 = 1 ∧ ∃ i' D Cd P, rs_so X M y k 6 36 36 1 i dep st ln fl i' D Cd P x.2 ∧ ¬ tk_K y k i' = 19 ∧ ¬ tk_K y k i' = 20) ∨ rs_no X M y k 6 36 i x) := by
  have hk4 := h.2.1.1
  have hik := tk_o_le h.2.2.1
  unfold f_X11_product
  refine p_bx (rs_unit h (by omega)) (fun x hx => ?_)
  rcases hx with ⟨x1, x2, e, x3, x4, x5, x6⟩ | ⟨x1, x2, x3⟩
  · refine p_f (by rw [x1]; exact b_1z) ?_
    refine rs_p9 hst z_F (i + 1) [e] [rd_u (tk_K y k i) (tk_V y k i)] [] x.2 (by unfold z_F; omega) ⟨x3, ⟨by rw [List.length_singleton]; omega, by omega⟩, x2, by rw [x4]; rfl, fun z hz => absurd hz List.not_mem_nil, rfl, by decide, x5, fun s hs => rs_lr1 x6 (by omega), fun sd br o W C ln sf wf hB hWl => rd_go_rfl _ _⟩
  · exact p_t x1 (p_some (Or.inr ⟨rfl, 1, i, by decide, x3, Or.inl ⟨x2, rfl, rfl⟩⟩))
theorem rs_s9 {i dep : Nat} {st : rs_S} {ln : Nat} {fl : Nat → Int32} (hst : st.length ≤ i) : ∀ (n i' : Nat) (D : rs_S) (Cd : List Int32) (P : List Nat) (N : zM), k - i' < n → rs_so X M y k 5 35 35 2 i dep st ln fl i' D Cd P N → ¬ tk_K y k i' = 19 → ¬ tk_K y k i' = 20 →
    p_ok (f_X11_sumUp_9 n N) (fun x => (x.1 = 1 ∧ ∃ i' D Cd P, rs_so X M y k 5 35 35 2 i dep st ln fl i' D Cd P x.2 ∧ ¬ (17 ≤ tk_K y k i' ∧ tk_K y k i' ≤ 20)) ∨ rs_no X M y k 5 35 i x) := by
  intro n
  induction n with
  | zero => intro i' D Cd P N h; exact absurd h (Nat.not_lt_zero _)
  | succ n ih =>
    intro i' D Cd P N hn hso n19 n20
    obtain ⟨s1, ⟨s2, s2'⟩, s3, s4, s5, s6, s7, s8, s9, s10⟩ := id hso
    have t17 := rs_tok s1 (b := 17) (c := 143) (by decide) (by decide)
    have t18 := rs_tok s1 (b := 18) (c := 145) (by decide) (by decide)
    have hk4 := s1.2.1.1
    have hik := tk_o_le s1.2.2.1
    have hlen : (st ++ D).length ≤ i' := by rw [List.length_append]; omega
    have step : ∀ κ, tk_K y k i' = κ → κ = 17 ∨ κ = 18 → ∀ (sd br : Int32) (o : Nat) (W : List Nat) (C : List Int32) (ln : Nat) (sf wf : Nat → Int32), rd_B 5 W → W.length ≤ 35 → rd_go (i + 1) (rd_C y k M (i + 1) 4 sd (nI o) br W (C ++ [rd_u (tk_K y k i) (tk_V y k i)]) ln sf wf) (i' + 1) (rd_C y k M (i' + 1) 1 sd (nI o) br (κ :: W) (C ++ Cd ++ rd_ng P) ln sf wf) := by
      intro κ hκ hκ2 sd br o W C ln sf wf hB hWl
      have st5 : rd_st (tk_K y k i') = 5 := by
        rcases hκ2 with z | z
        · rw [hκ, z]; decide
        · rw [hκ, z]; decide
      have e7 : nI (o + rd_7 P) = nI o := by rw [s6]; rfl
      have g2 := rd_op (y := y) (k := k) (M := M) (i := i') (o := o) (P := P) (W0 := W) (C := C ++ Cd) (sd := sd) (br := br) (ln := ln) (sf := sf) (wf := wf) ⟨by omega, by omega⟩ (by rw [st5]; exact hB) (fun x hx => ⟨(s5 x hx).1, by rw [st5]; exact (s5 x hx).2⟩) (by rw [List.length_append]; omega)
      rw [e7, hκ, if_neg (by omega)] at g2
      exact rd_go_tr (s10 sd br o W C ln sf wf hB hWl) g2
    have B6 : ∀ κ, κ = 17 ∨ κ = 18 → ∀ W, rd_B 6 (κ :: W) := fun κ hκ W x r e => Or.inr (by
      cases e
      rcases hκ with rfl | rfl
      · decide
      · decide)
    have go : ∀ κ q, tk_K y k i' = κ → (κ = 17 ∧ q = 13) ∨ (κ = 18 ∧ q = 14) → p_ok ((f_X11_next0 N).bind fun x2 => (f_X11_product x2).bind fun x3 => if x3.1 = 0 then some ((0 : Int32), x3.2) else ((f_X11_lay (nI q) (0 : Int32) x3.2).bind fun x5 => f_X11_sumUp_9 n x5)) (fun x => (x.1 = 1 ∧ ∃ i' D Cd P, rs_so X M y k 5 35 35 2 i dep st ln fl i' D Cd P x.2 ∧ ¬ (17 ≤ tk_K y k i' ∧ tk_K y k i' ≤ 20)) ∨ rs_no X M y k 5 35 i x) := by
      intro κ q hκ hq
      have hκ2 : κ = 17 ∨ κ = 18 := hq.imp (fun z => z.1) (fun z => z.1)
      have hi1 := (tk_o_s s1.2.2.1 (show tk_K y k i' ≠ 0 by omega)).2
      refine p_bx (rs_next s1 (by omega)) (fun A hA => p_bx (rs_prod (M := M) (show (st ++ D).length ≤ i' + 1 by omega) hA) (fun x hx => ?_))
      rcases hx with ⟨x1, i2, D2, Cd2, P2, x2, x19, x20⟩ | ⟨x1, f, j, xf, x2, x3⟩
      · refine p_f (by rw [x1]; exact b_1z) ?_
        obtain ⟨q1, ⟨q2, q2'⟩, q3, q4, q5, q6, q7, q8, q9, q10⟩ := x2
        have hik2 := tk_o_le q1.2.2.1
        refine p_bx (rs_lay (κ := q) (v := 0) q1 (by rw [List.length_append]; omega)) (fun B hB => ?_)
        have hkd : rs_co [(q, (0 : Int32))] = rd_ng [κ] := by
          rcases hq with ⟨e1, e2⟩ | ⟨e1, e2⟩
          · rw [e1, e2]; rfl
          · rw [e1, e2]; rfl
        refine ih i2 (D ++ D2 ++ [(q, 0)]) (Cd ++ rd_ng P ++ Cd2) (P2 ++ [κ]) B (by omega) ⟨by rw [← List.append_assoc, ← List.append_assoc]; exact hB, ⟨by rw [List.length_append, List.length_append, List.length_singleton]; omega, by omega⟩, s3, ?_, fun z hz => ?_, ?_, ?_, rs_vd_app (rs_vd_app s8 q8) (rs_vd_1 (by omega) (by omega)), fun s hs => ?_, ?_⟩ x19 x20
        · rw [rs_co_app, rs_co_app, s4, q4, hkd, rs_ng_app]
          simp only [List.append_assoc]
        · rcases List.mem_append.mp hz with hz | hz
          · exact ⟨(q5 z hz).1, by have := (q5 z hz).2; omega⟩
          · rw [List.mem_singleton] at hz
            rw [hz]
            rcases hκ2 with e | e
            · rw [e]; decide
            · rw [e]; decide
        · rw [rd_7_app, q6]
          rcases hκ2 with e | e
          · rw [e]; rfl
          · rw [e]; rfl
        · rw [List.length_append, List.length_singleton]; omega
        · rw [rs_lr_app, rs_lr_app, s9 s hs, Option.bind_some, q9 (false :: s) (by rw [List.length_cons]; omega), Option.bind_some]
          rcases hq with ⟨e1, e2⟩ | ⟨e1, e2⟩
          · rw [e2]; rfl
          · rw [e2]; rfl
        · intro sd br o W C ln sf wf hB hWl
          have g1 := step κ hκ hκ2 sd br o W C ln sf wf hB hWl
          have g2 := rd_unit (y := y) (k := k) (M := M) (i := i' + 1) (sd := sd) (op := nI o) (br := br) (W := κ :: W) (C := C ++ Cd ++ rd_ng P) (ln := ln) (sf := sf) (wf := wf) q3
          have g3 := q10 sd br o (κ :: W) (C ++ Cd ++ rd_ng P) ln sf wf (B6 κ hκ2 W) (by rw [List.length_cons]; omega)
          have g4 := rd_go_tr g1 (rd_go_tr g2 g3)
          rw [show C ++ Cd ++ rd_ng P ++ Cd2 = C ++ (Cd ++ rd_ng P ++ Cd2) from by simp only [List.append_assoc], show P2 ++ κ :: W = P2 ++ [κ] ++ W from by simp only [List.append_assoc]; rfl] at g4
          exact g4
      · refine p_t x1 (p_some (Or.inr ⟨rfl, f, j, xf, x2, Or.inr ⟨s3, fun sd br o W C ln sf wf hB hWl => ?_⟩⟩))
        have g1 := step κ hκ hκ2 sd br o W C ln sf wf hB hWl
        rcases x3 with ⟨y1, y2, y3⟩ | ⟨y1, y2⟩
        · rw [y2, y3]
          exact rd_bad_tr g1 (rd_unitn (fun q => y1 (Or.inl q)) (fun q => y1 (Or.inr q)))
        · have g2 := rd_unit (y := y) (k := k) (M := M) (i := i' + 1) (sd := sd) (op := nI o) (br := br) (W := κ :: W) (C := C ++ Cd ++ rd_ng P) (ln := ln) (sf := sf) (wf := wf) y1
          exact rd_bad_tr (rd_go_tr g1 g2) (y2 sd br o (κ :: W) (C ++ Cd ++ rd_ng P) ln sf wf (B6 κ hκ2 W) (by rw [List.length_cons]; omega))
    rw [f_X11_sumUp_9]
    by_cases z17 : tk_K y k i' = 17
    · refine p_t (t17.mpr z17) ?_
      unfold f_X11_sumUp_29
      exact p_t (t17.mpr z17) (go 17 13 z17 (Or.inl ⟨rfl, rfl⟩))
    · refine p_f (fun q => z17 (t17.mp q)) ?_
      by_cases z18 : tk_K y k i' = 18
      · refine p_t (t18.mpr z18) ?_
        unfold f_X11_sumUp_29
        exact p_f (fun q => z17 (t17.mp q)) (go 18 14 z18 (Or.inr ⟨rfl, rfl⟩))
      · exact p_f (fun q => z18 (t18.mp q)) (p_some (Or.inl ⟨rfl, i', D, Cd, P, hso, by omega⟩))
/-- a sum -/
theorem rs_sum {i dep : Nat} {st : rs_S} {ln : Nat} {fl : Nat → Int32} {N : zM} (hst : st.length ≤ i) (h : rs_N X y k i dep st ln fl N) :
    p_ok (f_X11_sumUp N) (fun x => (x.1 = 1 ∧ ∃ i' D Cd P, rs_so X M y k 5 35 35 2 i dep st ln fl i' D Cd P x.2 ∧ ¬ (17 ≤ tk_K y k i' ∧ tk_K y k i' ≤ 20)) ∨ rs_no X M y k 5 35 i x) := by
  have hk4 := h.2.1.1
  have hik := tk_o_le h.2.2.1
  unfold f_X11_sumUp
  refine p_bx (rs_prod (M := M) hst h) (fun x hx => ?_)
  rcases hx with ⟨x1, i2, D2, Cd2, P2, x2, x19, x20⟩ | ⟨x1, f, j, xf, x2, x3⟩
  · refine p_f (by rw [x1]; exact b_1z) ?_
    obtain ⟨q1, q2, q3, q4, q5, q6, q7, q8, q9, q10⟩ := x2
    refine rs_s9 hst z_F i2 D2 Cd2 P2 x.2 (by unfold z_F; omega) ⟨q1, q2, q3, q4, fun z hz => ⟨(q5 z hz).1, by have := (q5 z hz).2; omega⟩, q6, by omega, q8, fun s hs => q9 s (by omega), fun sd br o W C ln sf wf hB hWl => q10 sd br o W C ln sf wf (rd_B_mono hB (by omega)) (by omega)⟩ x19 x20
  · refine p_t x1 (p_some (Or.inr ⟨rfl, f, j, xf, x2, ?_⟩))
    rcases x3 with y1 | ⟨y1, y2⟩
    · exact Or.inl y1
    · exact Or.inr ⟨y1, fun sd br o W C ln sf wf hB hWl => y2 sd br o W C ln sf wf (rd_B_mono hB (by omega)) (by omega)⟩
end RP
