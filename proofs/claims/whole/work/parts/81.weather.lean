theorem q_acI {f : Nat → Int32} {B : Int} (hB0 : 0 ≤ B) : ∀ n : Nat, (∀ i, i < n → i_in (f i) 0 B) → n * B < 2 ^ 31 → i_in (q_ac 0 f n) 0 (n * B) := by
  intro n
  induction n with
  | zero => intro _ _; exact i_inn (j := 0) (by decide) (by omega) (by omega)
  | succ n ih =>
    intro h h2
    have e : ((n + 1 : Nat) : Int) * B = n * B + B := by rw [Int.natCast_succ, Int.add_mul, Int.one_mul]
    obtain ⟨a1, a2⟩ := ih (fun i hi => h i (by omega)) (by omega)
    obtain ⟨b1, b2⟩ := h n (by omega)
    show i_in (q_ac 0 f n + f n) 0 _
    unfold i_in
    rw [i_adI (by omega) (by omega)]
    omega
/-- what a storm leaves of a house -/
def o_R (w : Nat → Int32) (ov hd sn cn : Nat → Int32) (g j : Nat) : Int32 :=
  if j = 5 then q_mn 10 (w_r w g 5 + w_r w g 2) else if j = 8 then hd g else if j = 9 then sn g else if j = 10 then cn g else if j = 11 then w_r w g 11 + ov g else if j = 12 then ov g else if j = 13 then (if ov g = 0 then w_r w g 13 + 1 else 0) else w_r w g j
abbrev o_ov (w : Nat → Int32) (s T : Nat) (g : Nat) : Int32 := e_ov (w_r w) w s T g
abbrev o_hd (w : Nat → Int32) (s T : Nat) (g : Nat) : Int32 := (e_hs (w_r w) w s T g).1
abbrev o_sn (w : Nat → Int32) (s T : Nat) (g : Nat) : Int32 := (e_hs (w_r w) w s T g).2
abbrev o_cn (w : Nat → Int32) (s T n ln : Nat) (st : Nat → Nat × Int32) (f m t : Nat → Nat) : Nat → Int32 := k_out (k_A ln st f m t (o_ov w s T) (o_hd w s T) (fun g => w_r w g 0) (fun g => w_r w g 5) (fun g => w_r w g 4)) (o_ov w s T) n (fun g => w_r w g 10) n
/-- water that comes to the cistern from the first n houses -/
abbrev o_dr (w : Nat → Int32) (s T n : Nat) : Int32 := q_ac 0 (fun g => if w_r w g 4 = -1 then q_ac 0 (fun t => e_car (w_r w) w s g t) T else 0) n
abbrev o_cap (w : Nat → Int32) : Int32 := q_mx 0 (w 3 - w 2)
abbrev o_fe (w : Nat → Int32) (s T n : Nat) : Int32 := q_ac (w 7) (fun g => q_ac 0 (e_f w s) T * w_r w g 0) n
section WE
variable {K n m s T ln k : Nat} {st : Nat → Nat × Int32} {f mm t : Nat → Nat} {w : Nat → Int32}
theorem o_row (hW : s_W K w n m) {g : Nat} (hg : g < n) : b_row (w_r w g) (117612 * K) := by
  obtain ⟨h0, h1, h2, h3, h5, h6, h7, h8⟩ := hW.2.2.2.1 g hg
  obtain ⟨c, c1, c2, c3⟩ := hW.2.2.1
  refine ⟨⟨Int.le_trans (by omega) h0.1, h0.2⟩, h6, h7, h8, i_mono (c3 g hg) (by omega), ?_⟩
  have e1 : i_in (10 - w_r w g 5) 0 10 := by
    have h5' : 0 ≤ (w_r w g 5).toInt ∧ (w_r w g 5).toInt ≤ 10 := h5
    unfold i_in
    have : (10 : Int32).toInt = 10 := by decide
    rw [i_sbI (by rw [this]; omega) (by rw [this]; omega), this]
    omega
  obtain ⟨e2, e3⟩ := i_mub h1 e1 (by omega)
  unfold q_top i_in
  have e10 : (10 : Int32).toInt = 10 := by decide
  have ed : (w_r w g 1 * (10 - w_r w g 5) / 10).toInt = (w_r w g 1 * (10 - w_r w g 5)).toInt.tdiv 10 := by
    rw [Int32.toInt_div_of_ne_left, e10]
    intro q
    rw [q] at e3
    have := e3.1
    exact absurd this (by decide)
  rw [ed, Int.tdiv_eq_ediv_of_nonneg e3.1]
  have := e3.1
  have := e3.2
  omega
theorem o_ab (hW : s_W K w n m) (hK : K ≤ 8000) (hs : s < m) (hT : T ≤ 12) {g : Nat} (hg : g < n) : ∀ t, t < T → i_in (e_A (w_r w) w s g t) 0 (11691 * (2 ^ g - 1)) :=
  b_A (by have := hW.1.2.1; omega) (fun g hg => o_row hW hg) hW.2.1.2.2 (w_f hW hs hT) hT (by omega) (g + 1) g (by omega) hg
theorem o_car (hW : s_W K w n m) (hK : K ≤ 8000) (hs : s < m) (hT : T ≤ 12) {g t : Nat} (hg : g < n) (ht : t < T) : i_in (e_car (w_r w) w s g t) 0 5985792 := by
  have hp := g_p2 (g := g) (by have := hW.1.2.1; omega)
  exact i_mono (b_car (sn := e_s w s) (o_row hW hg) hW.2.1.2.2 (w_f hW hs hT) hT (by omega) (o_ab hW hK hs hT hg) (by omega) ht) (by omega)
theorem o_drI (hW : s_W K w n m) (hK : K ≤ 8000) (hs : s < m) (hT : T ≤ 12) (i : Nat) (hi : i ≤ n) : i_in (o_dr w s T i) 0 720000000 := by
  have hn10 := hW.1.2.1
  have := q_acI (f := fun g => if w_r w g 4 = -1 then q_ac 0 (fun t => e_car (w_r w) w s g t) T else 0) (B := 71829504) (by omega) i (fun g hg => by
    split
    · have := q_acI (f := fun t => e_car (w_r w) w s g t) (B := 5985792) (by omega) T (fun t ht => o_car hW hK hs hT (by omega) ht) (by omega)
      exact i_mono this (by omega)
    · exact i_inn (j := 0) (by decide) (by omega) (by omega)) (by omega)
  exact i_mono this (by omega)
/-- stored bit by bit, or in one: the same -/
theorem o_sto {has size a b : Int32} (h1 : i_in has 0 999999) (h2 : i_in size 0 999999) (h3 : i_in a 0 720000000) (h4 : i_in b 0 720000000) (h5 : i_in (a + b) 0 720000000) :
    has + q_mn a (q_mx 0 (size - has)) + q_mn b (q_mx 0 (size - (has + q_mn a (q_mx 0 (size - has))))) = has + q_mn (a + b) (q_mx 0 (size - has)) ∧ i_in (has + q_mn a (q_mx 0 (size - has))) 0 999999 := by
  have e1 := i_mxI 0 (size - has)
  have e2 := i_mnI a (q_mx 0 (size - has))
  have e3 := i_mnI (a + b) (q_mx 0 (size - has))
  unfold i_in at *
  rw [i_z, i_sbI (by omega) (by omega)] at e1
  have e5 : (a + b).toInt = a.toInt + b.toInt := i_adI (by omega) (by omega)
  have e6 : (has + q_mn a (q_mx 0 (size - has))).toInt = has.toInt + (q_mn a (q_mx 0 (size - has))).toInt := i_adI (by omega) (by omega)
  have e7 := i_mxI 0 (size - (has + q_mn a (q_mx 0 (size - has))))
  rw [i_z, i_sbI (by omega) (by omega)] at e7
  have e8 := i_mnI b (q_mx 0 (size - (has + q_mn a (q_mx 0 (size - has)))))
  refine ⟨?_, by omega⟩
  apply Int32.toInt_inj.mp
  rw [i_adI (by omega) (by omega), i_adI (a := has) (b := q_mn (a + b) (q_mx 0 (size - has))) (by omega) (by omega)]
  omega
end WE
