/-! THE PURE PART. What a function answers: it answers, and P holds of the answer -/
def p_ok {β : Type} (a : Option β) (P : β → Prop) : Prop := ∃ r, a = some r ∧ P r
section PB
variable {α β : Type} {P Q : β → Prop} {a b : Option β}
theorem p_some {r : β} (h : P r) : p_ok (some r) P := ⟨r, rfl, h⟩
theorem p_l {v : α} {f : α → Option β} (h : p_ok (f v) P) : p_ok (z_l v f) P := h
theorem p_lx {v : α} {f : α → Option β} (h : ∀ y, y = v → p_ok (f y) P) : p_ok (z_l v f) P := h v rfl
theorem p_bx {x : Option α} {f : α → Option β} {R : α → Prop} (h : p_ok x R) (k : ∀ y, R y → p_ok (f y) P) : p_ok (x.bind f) P := by
  obtain ⟨r, rfl, h2⟩ := h
  exact k r h2
theorem p_g {q : Prop} {d : Decidable q} (hq : q) (h : p_ok a P) : p_ok (@z_g β q d a) P := by
  unfold z_g
  rw [if_pos hq]
  exact h
theorem p_b {x : Option α} {f : α → Option β} (h : p_ok x (fun r => p_ok (f r) P)) : p_ok (x.bind f) P := by
  obtain ⟨r, rfl, h2⟩ := h
  exact h2
theorem p_if {c : Prop} {d : Decidable c} (h1 : c → p_ok a P) (h2 : ¬ c → p_ok b P) : p_ok (@ite (Option β) c d a b) P := by
  by_cases q : c
  · rw [if_pos q]; exact h1 q
  · rw [if_neg q]; exact h2 q
theorem p_t {c : Prop} {d : Decidable c} (q : c) (h1 : p_ok a P) : p_ok (@ite (Option β) c d a b) P := by rw [if_pos q]; exact h1
theorem p_f {c : Prop} {d : Decidable c} (q : ¬ c) (h1 : p_ok b P) : p_ok (@ite (Option β) c d a b) P := by rw [if_neg q]; exact h1
theorem p_w (h : p_ok a P) (hPQ : ∀ r, P r → Q r) : p_ok a Q := by
  obtain ⟨r, e, h⟩ := h
  exact ⟨r, e, hPQ r h⟩
end PB
theorem p_rd (M : zM) (k i : Nat) (v : Int32) (a b : Nat) : (z_w M k i v).1 a b = if a = k ∧ b = i then v else M.1 a b := rfl
theorem p_ne {M : zM} {k i : Nat} {v : Int32} {a : Nat} (h : a ≠ k) (b : Nat) : (z_w M k i v).1 a b = M.1 a b := if_neg (fun q => h q.1)
theorem p_nr {M : zM} {k i : Nat} {v : Int32} {a : Nat} (h : a ≠ k) : (z_w M k i v).1 a = M.1 a := funext (p_ne h)
theorem p_eq (M : zM) (k i : Nat) (v : Int32) (b : Nat) : (z_w M k i v).1 k b = if b = i then v else M.1 k b := by
  rw [p_rd]
  by_cases h : b = i
  · rw [if_pos ⟨rfl, h⟩, if_pos h]
  · rw [if_neg (fun q => h q.2), if_neg h]
theorem p_w2 (M : zM) (k i : Nat) (v : Int32) : (z_w M k i v).2 = M.2 := rfl
theorem p_ix {t n : Nat} (h : t < n) (hn : n < 2 ^ 31) : z_ix (nI t) n := nI_in h hn
theorem p_cl {t : Nat} (h : t < 2 ^ 31) : Int32.toNatClampNeg (nI t) = t := nI_clamp h
theorem p_s1 (t : Nat) : nI t + (1 : Int32) = nI (t + 1) := (nI_succ t).symm
theorem p_0 : (0 : Int32) = nI 0 := nI_0.symm
/-! A STORM OVER ONE HOUSE, as numbers -/
def q_mn (a b : Int32) : Int32 := if b < a then b else a
def q_mx (a b : Int32) : Int32 := if a < b then b else a
/-- water and the roof's snow behind an hour -/
def q_land (area thaw fl sn snow : Int32) : Int32 × Int32 := if sn = 0 then (fl * area + q_mn snow (thaw * area), snow - q_mn snow (thaw * area)) else (0, snow + fl * area)
/-- what the gutter gets, and what is held behind it -/
def q_bar (barrel lets held came : Int32) : Int32 × Int32 := if came = 0 then (q_mn lets held, held - q_mn lets held) else (came - q_mn came (q_mx 0 (barrel - held)), held + q_mn came (q_mx 0 (barrel - held)))
/-- held and snow behind t hours; r: the house's numbers -/
def q_hs (r : Nat → Int32) (thaw : Int32) (fl sn ab : Nat → Int32) : Nat → Int32 × Int32
  | 0 => (r 8, r 9)
  | t + 1 => ((q_bar (r 6) (r 7) (q_hs r thaw fl sn ab t).1 (ab t + (q_land (r 0) thaw (fl t) (sn t) (q_hs r thaw fl sn ab t).2).1)).2, (q_land (r 0) thaw (fl t) (sn t) (q_hs r thaw fl sn ab t).2).2)
def q_got (r : Nat → Int32) (thaw : Int32) (fl sn ab : Nat → Int32) (t : Nat) : Int32 := (q_bar (r 6) (r 7) (q_hs r thaw fl sn ab t).1 (ab t + (q_land (r 0) thaw (fl t) (sn t) (q_hs r thaw fl sn ab t).2).1)).1
def q_top (r : Nat → Int32) : Int32 := r 1 * (10 - r 5) / 10
def q_car (r : Nat → Int32) (thaw : Int32) (fl sn ab : Nat → Int32) (t : Nat) : Int32 := q_mn (q_got r thaw fl sn ab t) (q_top r)
def q_spl (r : Nat → Int32) (thaw : Int32) (fl sn ab : Nat → Int32) (t : Nat) : Int32 := q_got r thaw fl sn ab t - q_car r thaw fl sn ab t
def q_ov (r : Nat → Int32) (thaw : Int32) (fl sn ab : Nat → Int32) : Nat → Int32
  | 0 => 0
  | t + 1 => q_ov r thaw fl sn ab t + q_spl r thaw fl sn ab t
def q_mg (r : Nat → Int32) (thaw : Int32) (fl sn ab : Nat → Int32) : Nat → Int32
  | 0 => 0
  | t + 1 => q_mx (q_mg r thaw fl sn ab t) (q_got r thaw fl sn ab t)
/-! the class's own -/
theorem c_land {k st t : Nat} {thaw : Int32} {M : zM} (ht : t < 12) : f_X2_land k st (nI t) thaw M = some ((q_land (M.1 k 0) thaw (M.1 (st + 1) t) (M.1 (st + 2) t) (M.1 k 9)).1, z_w M k 9 (q_land (M.1 k 0) thaw (M.1 (st + 1) t) (M.1 (st + 2) t) (M.1 k 9)).2) := by
  unfold f_X2_land z_g z_l q_land
  rw [if_pos (p_ix ht (by decide))]
  dsimp only
  rw [if_pos (p_ix ht (by decide)), p_cl (by omega)]
  by_cases h : M.1 (st + 2) t = 0
  · rw [if_pos h, if_pos h]; rfl
  · rw [if_neg h, if_neg h]
theorem c_bar {k : Nat} {x : Int32} {M : zM} : f_X2_passBarrel k x M = some ((q_bar (M.1 k 6) (M.1 k 7) (M.1 k 8) x).1, z_w M k 8 (q_bar (M.1 k 6) (M.1 k 7) (M.1 k 8) x).2) := by
  unfold f_X2_passBarrel z_l q_bar
  by_cases h : x = 0
  · rw [if_pos h, if_pos h]; rfl
  · rw [if_neg h, if_neg h]; rfl
/-- memory while a storm goes over the house k: t hours are through -/
def c_dI (k : Nat) (thaw : Int32) (fl sn ab : Nat → Int32) (M : zM) (t : Nat) (N : zM) : Prop :=
  N.2 = M.2 ∧ (∀ a, a ≠ k → a ≠ k + 2 → a ≠ k + 3 → a ≠ k + 4 → N.1 a = M.1 a) ∧
  (∀ j, N.1 k j = if j = 8 then (q_hs (M.1 k) thaw fl sn ab t).1 else if j = 9 then (q_hs (M.1 k) thaw fl sn ab t).2 else if j = 12 then q_ov (M.1 k) thaw fl sn ab t else if j = 14 then q_mg (M.1 k) thaw fl sn ab t else M.1 k j) ∧
  (∀ j, N.1 (k + 2) j = if j < t then q_got (M.1 k) thaw fl sn ab j else M.1 (k + 2) j) ∧
  (∀ j, N.1 (k + 3) j = if j < t then q_car (M.1 k) thaw fl sn ab j else M.1 (k + 3) j) ∧
  (∀ j, N.1 (k + 4) j = if j < t then q_spl (M.1 k) thaw fl sn ab j else M.1 (k + 4) j)
theorem p_iflt {α : Type} {j t : Nat} {f : Nat → α} {x : α} : (if j = t then f t else if j < t then f j else x) = if j < t + 1 then f j else x := by
  by_cases h : j = t
  · subst h
    rw [if_pos rfl, if_pos (Nat.lt_succ_self j)]
  · rw [if_neg h]
    by_cases h2 : j < t
    · rw [if_pos h2, if_pos (by omega)]
    · rw [if_neg h2, if_neg (by omega)]
theorem c_dloop {k st T : Nat} {thaw : Int32} {M : zM} (hT : M.1 st 0 = nI T) (hT12 : T ≤ 12) (hst : k + 4 < st) : ∀ (d t n : Nat) (N : zM), t + d = T → d < n → c_dI k thaw (M.1 (st + 1)) (M.1 (st + 2)) (M.1 (k + 1)) M t N →
    p_ok (f_X2_drink_22 n k st thaw (q_top (M.1 k)) (nI t) N) (c_dI k thaw (M.1 (st + 1)) (M.1 (st + 2)) (M.1 (k + 1)) M T) := by
  intro d
  induction d with
  | zero =>
    intro t n N htd hn hI
    obtain ⟨n, rfl⟩ : ∃ m, n = m + 1 := ⟨n - 1, by omega⟩
    have : t = T := by omega
    subst this
    rw [f_X2_drink_22]
    refine p_t ?_ (p_some hI)
    rw [hI.2.1 st (by omega) (by omega) (by omega) (by omega), hT]
    exact nI_le (Nat.le_refl _) (by omega)
  | succ d ih =>
    intro t n N htd hn hI
    obtain ⟨n, rfl⟩ : ∃ m, n = m + 1 := ⟨n - 1, by omega⟩
    obtain ⟨h2, hoth, hk, hg, hc, hs⟩ := id hI
    rw [f_X2_drink_22]
    have e0 : N.1 st = M.1 st := hoth st (by omega) (by omega) (by omega) (by omega)
    have e1 : N.1 (st + 1) = M.1 (st + 1) := hoth _ (by omega) (by omega) (by omega) (by omega)
    have e2 : N.1 (st + 2) = M.1 (st + 2) := hoth _ (by omega) (by omega) (by omega) (by omega)
    have e3 : N.1 (k + 1) = M.1 (k + 1) := hoth _ (by omega) (by omega) (by omega) (by omega)
    refine p_f ?_ ?_
    · rw [e0, hT]
      exact nI_ge (by omega) (by omega)
    refine p_g (p_ix (by omega) (by decide)) ?_
    have ecl : Int32.toNatClampNeg (nI t) = t := p_cl (by omega)
    refine p_bx (R := fun x => x = _) ⟨_, c_land (by omega), rfl⟩ (fun x3 h3 => ?_)
    refine p_bx (R := fun x => x = _) ⟨_, c_bar, rfl⟩ (fun x4 h4 => ?_)
    refine p_g (p_ix (by omega) (by decide)) (p_lx (fun M6 e6 => ?_))
    refine p_g (p_ix (by omega) (by decide)) (p_lx (fun M8 e8 => ?_))
    refine p_g (p_ix (by omega) (by decide)) ?_
    refine p_g (p_ix (by omega) (by decide)) (p_lx (fun M11 e11 => ?_))
    refine p_g (p_ix (by omega) (by decide)) (p_lx (fun M13 e13 => ?_))
    refine p_lx (fun M14 e14 => p_l ?_)
    rw [p_s1]
    refine ih (t + 1) n _ (by omega) (by omega) ?_
    have b0 : N.1 k 0 = M.1 k 0 := hk 0
    have b6 : N.1 k 6 = M.1 k 6 := hk 6
    have b7 : N.1 k 7 = M.1 k 7 := hk 7
    have b8 : N.1 k 8 = (q_hs (M.1 k) thaw (M.1 (st + 1)) (M.1 (st + 2)) (M.1 (k + 1)) t).1 := hk 8
    have b9 : N.1 k 9 = (q_hs (M.1 k) thaw (M.1 (st + 1)) (M.1 (st + 2)) (M.1 (k + 1)) t).2 := hk 9
    have b12 : N.1 k 12 = q_ov (M.1 k) thaw (M.1 (st + 1)) (M.1 (st + 2)) (M.1 (k + 1)) t := hk 12
    have b14 : N.1 k 14 = q_mg (M.1 k) thaw (M.1 (st + 1)) (M.1 (st + 2)) (M.1 (k + 1)) t := hk 14
    rw [ecl] at e6 e8 e11 e13
    rw [e1, e2, b0, b9] at h3
    have a3 : x3.1 = (q_land (M.1 k 0) thaw (M.1 (st + 1) t) (M.1 (st + 2) t) (q_hs (M.1 k) thaw (M.1 (st + 1)) (M.1 (st + 2)) (M.1 (k + 1)) t).2).1 := by rw [h3]
    have m3 : x3.2 = z_w N k 9 (q_hs (M.1 k) thaw (M.1 (st + 1)) (M.1 (st + 2)) (M.1 (k + 1)) (t + 1)).2 := by rw [h3]; rfl
    have c6 : x3.2.1 k 6 = M.1 k 6 := by rw [m3, p_eq, if_neg (by decide), b6]
    have c7 : x3.2.1 k 7 = M.1 k 7 := by rw [m3, p_eq, if_neg (by decide), b7]
    have c8 : x3.2.1 k 8 = (q_hs (M.1 k) thaw (M.1 (st + 1)) (M.1 (st + 2)) (M.1 (k + 1)) t).1 := by rw [m3, p_eq, if_neg (by decide), b8]
    rw [ecl, e3, c6, c7, c8, a3] at h4
    have a4 : x4.1 = q_got (M.1 k) thaw (M.1 (st + 1)) (M.1 (st + 2)) (M.1 (k + 1)) t := by rw [h4]; rfl
    have m4 : x4.2 = z_w x3.2 k 8 (q_hs (M.1 k) thaw (M.1 (st + 1)) (M.1 (st + 2)) (M.1 (k + 1)) (t + 1)).1 := by rw [h4]; rfl
    have v8 : (if q_top (M.1 k) < x4.1 then q_top (M.1 k) else x4.1) = q_car (M.1 k) thaw (M.1 (st + 1)) (M.1 (st + 2)) (M.1 (k + 1)) t := by rw [a4]; rfl
    rw [v8] at e8
    have v11 : x4.1 - M8.1 (k + 3) t = q_spl (M.1 k) thaw (M.1 (st + 1)) (M.1 (st + 2)) (M.1 (k + 1)) t := by rw [e8, p_eq, if_pos rfl, a4]; rfl
    rw [v11] at e11
    have v13 : M11.1 k 12 + M11.1 (k + 4) t = q_ov (M.1 k) thaw (M.1 (st + 1)) (M.1 (st + 2)) (M.1 (k + 1)) (t + 1) := by
      rw [e11, p_eq, if_pos rfl, p_ne (by omega), e8, p_ne (by omega), e6, p_ne (by omega), m4, p_eq, if_neg (by decide), m3, p_eq, if_neg (by decide), b12]; rfl
    rw [v13] at e13
    have w14 : M13.1 k 14 = q_mg (M.1 k) thaw (M.1 (st + 1)) (M.1 (st + 2)) (M.1 (k + 1)) t := by
      rw [e13, p_eq, if_neg (by decide), e11, p_ne (by omega), e8, p_ne (by omega), e6, p_ne (by omega), m4, p_eq, if_neg (by decide), m3, p_eq, if_neg (by decide), b14]
    have v14 : (if M13.1 k 14 < x4.1 then x4.1 else M13.1 k 14) = q_mg (M.1 k) thaw (M.1 (st + 1)) (M.1 (st + 2)) (M.1 (k + 1)) (t + 1) := by
      rw [w14, a4]; rfl
    rw [v14] at e14
    rw [a4] at e6
    refine ⟨by rw [e14, p_w2, e13, p_w2, e11, p_w2, e8, p_w2, e6, p_w2, m4, p_w2, m3, p_w2]; exact h2, fun a h1 h3 h4 h5 => by rw [e14, p_nr h1, e13, p_nr h1, e11, p_nr h5, e8, p_nr h4, e6, p_nr h3, m4, p_nr h1, m3, p_nr h1]; exact hoth a h1 h3 h4 h5, fun j => ?_, fun j => ?_, fun j => ?_, fun j => ?_⟩
    · rw [e14, p_eq, e13, p_eq, e11, p_ne (by omega), e8, p_ne (by omega), e6, p_ne (by omega), m4, p_eq, m3, p_eq, hk]
      by_cases j14 : j = 14
      · subst j14; rfl
      by_cases j12 : j = 12
      · subst j12; rfl
      by_cases j8 : j = 8
      · subst j8; rfl
      by_cases j9 : j = 9
      · subst j9; rfl
      simp only [j14, j12, j8, j9, if_false]
    · rw [e14, p_ne (by omega), e13, p_ne (by omega), e11, p_ne (by omega), e8, p_ne (by omega), e6, p_eq, m4, p_ne (by omega), m3, p_ne (by omega), hg, p_iflt (f := q_got (M.1 k) thaw (M.1 (st + 1)) (M.1 (st + 2)) (M.1 (k + 1)))]
    · rw [e14, p_ne (by omega), e13, p_ne (by omega), e11, p_ne (by omega), e8, p_eq, e6, p_ne (by omega), m4, p_ne (by omega), m3, p_ne (by omega), hc, p_iflt (f := q_car (M.1 k) thaw (M.1 (st + 1)) (M.1 (st + 2)) (M.1 (k + 1)))]
    · rw [e14, p_ne (by omega), e13, p_ne (by omega), e11, p_eq, e8, p_ne (by omega), e6, p_ne (by omega), m4, p_ne (by omega), m3, p_ne (by omega), hs, p_iflt (f := q_spl (M.1 k) thaw (M.1 (st + 1)) (M.1 (st + 2)) (M.1 (k + 1)))]
/-- a storm over the house k -/
theorem c_drink {k st T : Nat} {thaw : Int32} {M : zM} (hT : M.1 st 0 = nI T) (hT12 : T ≤ 12) (hst : k + 4 < st) : p_ok (f_X2_drink k st thaw M) (c_dI k thaw (M.1 (st + 1)) (M.1 (st + 2)) (M.1 (k + 1)) M T) := by
  unfold f_X2_drink
  refine p_bx (R := fun x => x = _) ⟨_, rfl, rfl⟩ (fun x1 h1 => ?_)
  refine p_lx (fun M2 e2 => p_lx (fun M3 e3 => ?_))
  have ht : x1.1 = q_top (M.1 k) := by rw [h1]; rfl
  have hm : x1.2 = M := by rw [h1]
  rw [ht, p_0]
  refine c_dloop hT hT12 hst T 0 z_F M3 (by omega) (by unfold z_F; omega) ?_
  rw [hm] at e2
  refine ⟨by rw [e3, p_w2, e2, p_w2], fun a h1 _ _ _ => by rw [e3, p_nr h1, e2, p_nr h1], fun j => ?_, fun j => ?_, fun j => ?_, fun j => ?_⟩
  · rw [e3, p_eq, e2, p_eq]
    by_cases j14 : j = 14
    · subst j14; rfl
    by_cases j12 : j = 12
    · subst j12; rfl
    by_cases j8 : j = 8
    · subst j8; rfl
    by_cases j9 : j = 9
    · subst j9; rfl
    simp only [j14, j12, j8, j9, if_false]
  · rw [e3, p_ne (by omega), e2, p_ne (by omega), if_neg (Nat.not_lt_zero j)]
  · rw [e3, p_ne (by omega), e2, p_ne (by omega), if_neg (Nat.not_lt_zero j)]
  · rw [e3, p_ne (by omega), e2, p_ne (by omega), if_neg (Nat.not_lt_zero j)]
