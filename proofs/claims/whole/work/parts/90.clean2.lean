/-! CLEANINGS: rows of sets, as numbers -/
def cz_num (b : Nat) (D : Nat → Nat) : Nat → Nat
  | 0 => 0
  | i + 1 => cz_num b D i * b + D i
def cz_dg (b r y i : Nat) : Nat := y / b ^ (r - 1 - i) % b
/-- a house's cleanings as a number, the first storm highest -/
def cz_tm (f : Nat → Bool) : Nat → Nat
  | 0 => 0
  | i + 1 => cz_tm f i * 2 + (if f i = true then 1 else 0)
def cz_sm (f : Nat → Nat) : Nat → Nat
  | 0 => 0
  | i + 1 => cz_sm f i + f i
section CN
variable {b r y : Nat} {D D' : Nat → Nat}
theorem cz_num_cg : ∀ i, (∀ k, k < i → D k = D' k) → cz_num b D i = cz_num b D' i := by
  intro i
  induction i with
  | zero => intro _; rfl
  | succ i ih => intro h; rw [cz_num, cz_num, ih (fun k hk => h k (by omega)), h i (by omega)]
theorem cz_numB (hb : 0 < b) : ∀ i k, (∀ k, k < i → D k < b) → k < i → cz_num b D i / b ^ (i - 1 - k) % b = D k := by
  intro i
  induction i with
  | zero => intro k _ h; exact absurd h (Nat.not_lt_zero k)
  | succ i ih =>
    intro k hD hk
    rw [cz_num]
    by_cases z : k = i
    · subst z
      rw [show k + 1 - 1 - k = 0 by omega, Nat.pow_zero, Nat.div_one, Nat.mul_comm, Nat.mul_add_mod, Nat.mod_eq_of_lt (hD k (by omega))]
    · rw [show i + 1 - 1 - k = (i - 1 - k) + 1 by omega, Nat.pow_succ, Nat.mul_comm (b ^ (i - 1 - k)) b, ← Nat.div_div_eq_div_mul, Nat.mul_comm (cz_num b D i) b, Nat.mul_add_div hb, Nat.div_eq_of_lt (hD i (by omega)), Nat.add_zero]
      exact ih k (fun k hk => hD k (by omega)) (by omega)
theorem cz_num_lt (hb : 0 < b) : ∀ i, (∀ k, k < i → D k < b) → cz_num b D i < b ^ i := by
  intro i
  induction i with
  | zero => intro _; exact Nat.one_pos
  | succ i ih =>
    intro h
    have h1 := ih (fun k hk => h k (by omega))
    have h2 := h i (by omega)
    have h3 : (cz_num b D i + 1) * b ≤ b ^ i * b := Nat.mul_le_mul_right b h1
    rw [Nat.add_mul, Nat.one_mul] at h3
    rw [cz_num, Nat.pow_succ]
    omega
/-- the numbers whose row begins with D's first sets -/
theorem cz_pre (hb : 0 < b) {i : Nat} (hi : i ≤ r) (hD : ∀ k, k < i → D k < b) (hy : y / b ^ (r - i) = cz_num b D i) : ∀ k, k < i → cz_dg b r y k = D k := by
  intro k hk
  unfold cz_dg
  rw [← cz_numB hb i k hD hk, ← hy, Nat.div_div_eq_div_mul, ← Nat.pow_add, show r - i + (i - 1 - k) = r - 1 - k by omega]
theorem cz_dg_lt (hb : 0 < b) (i : Nat) : cz_dg b r y i < b := Nat.mod_lt _ hb
theorem cz_num_dg (hb : 0 < b) (hy : y < b ^ r) : ∀ i, i ≤ r → cz_num b (cz_dg b r y) i = y / b ^ (r - i) := by
  intro i
  induction i with
  | zero => intro _; rw [Nat.sub_zero, Nat.div_eq_of_lt hy]; rfl
  | succ i ih =>
    intro hi
    rw [cz_num, ih (by omega)]
    unfold cz_dg
    rw [show r - i = (r - 1 - i) + 1 by omega, Nat.pow_succ, ← Nat.div_div_eq_div_mul, show r - (i + 1) = r - 1 - i by omega]
    exact Nat.div_add_mod' _ b
theorem cz_num_y (hb : 0 < b) (hy : y < b ^ r) : cz_num b (cz_dg b r y) r = y := by
  rw [cz_num_dg hb hy r (Nat.le_refl r), Nat.sub_self, Nat.pow_zero, Nat.div_one]
theorem cz_dg_num (hb : 0 < b) (hD : ∀ k, k < r → D k < b) {k : Nat} (hk : k < r) : cz_dg b r (cz_num b D r) k = D k := cz_numB hb r k hD hk
end CN
section CT
variable {f f' : Nat → Bool} {r : Nat}
theorem cz_tm_cg : ∀ i, (∀ k, k < i → f k = f' k) → cz_tm f i = cz_tm f' i := by
  intro i
  induction i with
  | zero => intro _; rfl
  | succ i ih => intro h; rw [cz_tm, cz_tm, ih (fun k hk => h k (by omega)), h i (by omega)]
theorem cz_tm_num : ∀ i, cz_tm f i = cz_num 2 (fun k => if f k = true then 1 else 0) i := by
  intro i
  induction i with
  | zero => rfl
  | succ i ih => rw [cz_tm, cz_num, ih]
theorem cz_b2 (f : Nat → Bool) : ∀ k, (if f k = true then 1 else 0) < 2 := fun k => by split <;> omega
theorem cz_tm_lt (i : Nat) : cz_tm f i < 2 ^ i := by
  rw [cz_tm_num]
  exact cz_num_lt (by omega) i (fun k _ => cz_b2 f k)
theorem cz_tm_tb {k : Nat} (hk : k < r) : (cz_tm f r).testBit (r - 1 - k) = f k := by
  rw [Nat.testBit_eq_decide_div_mod_eq, cz_tm_num, cz_numB (by omega) r k (fun k _ => cz_b2 f k) hk]
  cases f k <;> rfl
theorem cz_tm_eq {t : Nat} (ht : t < 2 ^ r) (h : ∀ k, k < r → f k = t.testBit (r - 1 - k)) : cz_tm f r = t := by
  apply Nat.eq_of_testBit_eq
  intro k
  by_cases z : k < r
  · have e := cz_tm_tb (f := f) (r := r) (k := r - 1 - k) (by omega)
    rw [show r - 1 - (r - 1 - k) = k by omega] at e
    rw [e, h _ (by omega), show r - 1 - (r - 1 - k) = k by omega]
  · rw [b_hi (cz_tm_lt r) (by omega), b_hi ht (by omega)]
theorem cz_tm_pop : ∀ i, i ≤ 4 → b_pop (cz_tm f i).testBit 10 = cz_sm (fun k => if f k = true then 1 else 0) i := by
  intro i
  induction i with
  | zero => intro _; show b_pop (Nat.testBit 0) 10 = 0; decide
  | succ i ih =>
    intro hi
    rw [cz_sm, ← ih (by omega), cz_tm]
    have hl := cz_tm_lt (f := f) i
    have hp : 2 ^ i ≤ 2 ^ 3 := Nat.pow_le_pow_right (by omega) (by omega)
    have d : ∀ (x : Fin 8), b_pop (x.1 * 2 + 1).testBit 10 = b_pop x.1.testBit 10 + 1 ∧ b_pop (x.1 * 2 + 0).testBit 10 = b_pop x.1.testBit 10 + 0 := by decide +kernel
    have := d ⟨cz_tm f i, by omega⟩
    by_cases z : f i = true
    · rw [if_pos z]; exact this.1
    · rw [if_neg z]; exact this.2
end CT
section CS
variable {f f' : Nat → Nat}
theorem cz_sm_cg : ∀ k, (∀ i, i < k → f i = f' i) → cz_sm f k = cz_sm f' k := by
  intro k
  induction k with
  | zero => intro _; rfl
  | succ k ih => intro h; rw [cz_sm, cz_sm, ih (fun i hi => h i (by omega)), h k (by omega)]
theorem cz_sm_add : ∀ k, cz_sm (fun i => f i + f' i) k = cz_sm f k + cz_sm f' k := by
  intro k
  induction k with
  | zero => rfl
  | succ k ih => rw [cz_sm, cz_sm, cz_sm, ih]; omega
theorem cz_sm_z : ∀ k, cz_sm (fun _ => 0) k = 0 := by
  intro k
  induction k with
  | zero => rfl
  | succ k ih => rw [cz_sm, ih]
theorem cz_sm_swap {F : Nat → Nat → Nat} {m : Nat} : ∀ k, cz_sm (fun i => cz_sm (fun h => F i h) m) k = cz_sm (fun h => cz_sm (fun i => F i h) k) m := by
  intro k
  induction k with
  | zero => show 0 = _; exact (cz_sm_z m).symm
  | succ k ih => rw [cz_sm, ih, ← cz_sm_add]; rfl
theorem cz_sm_le : ∀ k, (∀ i, i < k → f i ≤ f' i) → cz_sm f k ≤ cz_sm f' k ∧ (cz_sm f k = cz_sm f' k → ∀ i, i < k → f i = f' i) := by
  intro k
  induction k with
  | zero => intro _; exact ⟨Nat.le_refl _, fun _ i hi => absurd hi (Nat.not_lt_zero i)⟩
  | succ k ih =>
    intro h
    obtain ⟨h1, h2⟩ := ih (fun i hi => h i (by omega))
    have h3 := h k (by omega)
    rw [cz_sm, cz_sm]
    refine ⟨by omega, fun e i hi => ?_⟩
    by_cases z : i = k
    · rw [z]; omega
    · exact h2 (by omega) i (by omega)
theorem cz_sm_mono {k : Nat} : ∀ d, cz_sm f k ≤ cz_sm f (k + d) := by
  intro d
  induction d with
  | zero => exact Nat.le_refl _
  | succ d ih => exact Nat.le_trans ih (Nat.le_add_right _ _)
theorem b_pop_sm {g : Nat → Bool} : ∀ k, b_pop g k = cz_sm (fun i => if g i = true then 1 else 0) k := by
  intro k
  induction k with
  | zero => rfl
  | succ k ih => rw [b_pop, cz_sm, ih]
end CS
/-- fewer by the houses' own numbers: fewer by the rows of sets -/
theorem cz_lex {n b : Nat} {D D' : Nat → Nat} (hn : n ≤ 4) (hb : b = 2 ^ n) (hD : ∀ i, D i < b) (hD' : ∀ i, D' i < b) : ∀ i, cz_num b D i < cz_num b D' i ∨ (cz_num b D i = cz_num b D' i ∧ ∀ k, k < i → D k = D' k) ∨ ∃ h, h < n ∧ cz_tm (fun k => (D' k).testBit h) i < cz_tm (fun k => (D k).testBit h) i := by
  have hb16 : b ≤ 2 ^ 4 := by rw [hb]; exact Nat.pow_le_pow_right (by omega) hn
  intro i
  induction i with
  | zero => exact Or.inr (Or.inl ⟨rfl, fun k hk => absurd hk (Nat.not_lt_zero k)⟩)
  | succ i ih =>
    rcases ih with h1 | ⟨h1, h2⟩ | ⟨h, hh, h3⟩
    · refine Or.inl ?_
      have e : (cz_num b D i + 1) * b ≤ cz_num b D' i * b := Nat.mul_le_mul_right b h1
      rw [Nat.add_mul, Nat.one_mul] at e
      have := hD i
      rw [cz_num, cz_num]
      omega
    · rcases Nat.lt_trichotomy (D i) (D' i) with z | z | z
      · refine Or.inl ?_
        rw [cz_num, cz_num, h1]
        omega
      · refine Or.inr (Or.inl ⟨by rw [cz_num, cz_num, h1, z], fun k hk => ?_⟩)
        by_cases y : k = i
        · rw [y]; exact z
        · exact h2 k (by omega)
      · refine Or.inr (Or.inr ?_)
        have d : ∀ x y : Fin 16, y.1 < x.1 → ∃ h, h < 4 ∧ x.1.testBit h = true ∧ y.1.testBit h = false := by decide +kernel
        have l1 := hD i
        have l2 := hD' i
        obtain ⟨h, h4, hx, hy⟩ := d ⟨D i, by omega⟩ ⟨D' i, by omega⟩ z
        dsimp only at hx hy
        have hhn : h < n := by
          apply Classical.byContradiction
          intro q
          rw [b_hi (h := n) (by rw [← hb]; exact l1) (by omega)] at hx
          exact absurd hx (by decide)
        refine ⟨h, hhn, ?_⟩
        rw [cz_tm, cz_tm, cz_tm_cg (f := fun k => (D' k).testBit h) (f' := fun k => (D k).testBit h) i (fun k hk => by rw [h2 k hk])]
        simp only [hx, hy]
        simp
    · refine Or.inr (Or.inr ⟨h, hh, ?_⟩)
      rw [cz_tm, cz_tm]
      split <;> split <;> omega
/-! DRY OR NOT -/
/-- the trap's clog ahead of a storm -/
def cz_k (cl lv : Int32) (f : Nat → Bool) : Nat → Int32
  | 0 => cl
  | i + 1 => q_mn 10 ((if f i = true then 0 else cz_k cl lv f i) + lv)
def cz_u (cl lv : Int32) (f : Nat → Bool) (i : Nat) : Int32 := if f i = true then 0 else cz_k cl lv f i
/-- the house g stays dry in the storm i -/
def cz_1 (w : Nat → Int32) (G : Nat → Nat → Int32) (g : Nat) (f : Nat → Bool) (i : Nat) : Prop := G i g ≤ w_r w g 1 * (10 - cz_u (w_r w g 5) (w_r w g 2) f i) / 10
def cz_d (w : Nat → Int32) (G : Nat → Nat → Int32) (g : Nat) (f : Nat → Bool) (r : Nat) : Prop := ∀ i, i < r → cz_1 w G g f i
def cz_F (w : Nat → Int32) (G : Nat → Nat → Int32) (n : Nat) (D : Nat → Nat) (r : Nat) : Prop := ∀ g, g < n → cz_d w G g (fun i => (D i).testBit g) r
def cz_t (D : Nat → Nat) (r : Nat) : Nat := cz_sm (fun i => b_pop (D i).testBit 10) r
section CK
variable {w : Nat → Int32} {G : Nat → Nat → Int32} {n b r : Nat}
theorem cz_k_cg {cl lv : Int32} {f f' : Nat → Bool} : ∀ i, (∀ k, k < i → f k = f' k) → cz_k cl lv f i = cz_k cl lv f' i := by
  intro i
  induction i with
  | zero => intro _; rfl
  | succ i ih => intro h; rw [cz_k, cz_k, ih (fun k hk => h k (by omega)), h i (by omega)]
theorem cz_1_cg {g : Nat} {f f' : Nat → Bool} {i : Nat} (h : ∀ k, k < i + 1 → f k = f' k) : cz_1 w G g f i ↔ cz_1 w G g f' i := by
  unfold cz_1 cz_u
  rw [cz_k_cg i (fun k hk => h k (by omega)), h i (by omega)]
theorem cz_d_cg {g : Nat} {f f' : Nat → Bool} (h : ∀ k, k < r → f k = f' k) : cz_d w G g f r ↔ cz_d w G g f' r := by
  constructor
  · intro q i hi; exact (cz_1_cg (fun k hk => h k (by omega))).mp (q i hi)
  · intro q i hi; exact (cz_1_cg (fun k hk => h k (by omega))).mpr (q i hi)
theorem cz_F_cg {D D' : Nat → Nat} (h : ∀ k, k < r → D k = D' k) : cz_F w G n D r ↔ cz_F w G n D' r := by
  constructor
  · intro q g hg; exact (cz_d_cg (fun k hk => by rw [h k hk])).mp (q g hg)
  · intro q g hg; exact (cz_d_cg (fun k hk => by rw [h k hk])).mpr (q g hg)
theorem cz_t_cg {D D' : Nat → Nat} (h : ∀ k, k < r → D k = D' k) : cz_t D r = cz_t D' r := cz_sm_cg r (fun i hi => by rw [h i hi])
/-- the best of the rows below p -/
def cz_B (w : Nat → Int32) (G : Nat → Nat → Int32) (n b r p : Nat) (L : Int32) (B : Nat → Int32) : Prop :=
  (L = -1 ∧ ∀ y, y < p → ¬ cz_F w G n (cz_dg b r y) r) ∨
  ∃ y0, y0 < p ∧ cz_F w G n (cz_dg b r y0) r ∧ L = nI (cz_t (cz_dg b r y0) r) ∧ (∀ i, i < r → B i = nI (cz_dg b r y0 i)) ∧ ∀ y, y < p → cz_F w G n (cz_dg b r y) r → cz_t (cz_dg b r y0) r < cz_t (cz_dg b r y) r ∨ (cz_t (cz_dg b r y0) r = cz_t (cz_dg b r y) r ∧ y0 ≤ y)
theorem cz_t_lt {D : Nat → Nat} (hr : r ≤ 4) : cz_t D r ≤ 40 := by
  have h1 : ∀ k, cz_t D k ≤ 10 * k := by
    intro k
    induction k with
    | zero => exact Nat.le_refl _
    | succ k ih =>
      have := b_pop_le (f := (D k).testBit) 10
      show cz_t D k + b_pop (D k).testBit 10 ≤ _
      omega
  have := h1 r
  omega
/-- both found the best of all: they found the same -/
theorem cz_uni {p : Nat} {L L' : Int32} {B B' : Nat → Int32} (hr : r ≤ 4) (h : cz_B w G n b r p L B) (h' : cz_B w G n b r p L' B') : L = L' ∧ (L = -1 ∨ ∀ i, i < r → B i = B' i) := by
  rcases h with ⟨h1, h2⟩ | ⟨y0, a1, a2, a3, a4, a5⟩
  · rcases h' with ⟨g1, g2⟩ | ⟨y1, b1, b2, b3, b4, b5⟩
    · exact ⟨by rw [h1, g1], Or.inl h1⟩
    · exact absurd b2 (h2 y1 b1)
  · rcases h' with ⟨g1, g2⟩ | ⟨y1, b1, b2, b3, b4, b5⟩
    · exact absurd a2 (g2 y0 a1)
    · have x := a5 y1 b1 b2
      have y := b5 y0 a1 a2
      have e : y0 = y1 := by omega
      subst e
      exact ⟨by rw [a3, b3], Or.inr (fun i hi => by rw [a4 i hi, b4 i hi])⟩
/-- rows that begin wet: nothing is found there -/
theorem cz_B_skip {p p' : Nat} {L : Int32} {B : Nat → Int32} (hp : p ≤ p') (h : cz_B w G n b r p L B) (hno : ∀ y, p ≤ y → y < p' → ¬ cz_F w G n (cz_dg b r y) r) : cz_B w G n b r p' L B := by
  rcases h with ⟨h1, h2⟩ | ⟨y0, a1, a2, a3, a4, a5⟩
  · refine Or.inl ⟨h1, fun y hy => ?_⟩
    by_cases z : y < p
    · exact h2 y z
    · exact hno y (by omega) hy
  · refine Or.inr ⟨y0, by omega, a2, a3, a4, fun y hy hf => ?_⟩
    by_cases z : y < p
    · exact a5 y z hf
    · exact absurd hf (hno y (by omega) hy)
/-- rows that can't be better -/
theorem cz_B_cut {p p' c : Nat} {L : Int32} {B : Nat → Int32} (hr : r ≤ 4) (hp : p ≤ p') (h : cz_B w G n b r p L B) (hL : ¬ L = -1) (hc : c ≤ 40) (hcL : ¬ nI c < L) (hno : ∀ y, p ≤ y → y < p' → c ≤ cz_t (cz_dg b r y) r) : cz_B w G n b r p' L B := by
  rcases h with ⟨h1, h2⟩ | ⟨y0, a1, a2, a3, a4, a5⟩
  · exact absurd h1 hL
  · refine Or.inr ⟨y0, by omega, a2, a3, a4, fun y hy hf => ?_⟩
    by_cases z : y < p
    · exact a5 y z hf
    · have h1 := hno y (by omega) hy
      have l0 := cz_t_lt (D := cz_dg b r y0) hr
      have : ¬ c < cz_t (cz_dg b r y0) r := fun q => hcL (by rw [a3]; exact nI_lt q (by omega))
      omega
/-- a better one -/
theorem cz_B_new {p c : Nat} {L : Int32} {B B' : Nat → Int32} (hr : r ≤ 4) (h : cz_B w G n b r p L B) (hL : L = -1 ∨ nI c < L) (hf : cz_F w G n (cz_dg b r p) r) (hc : c = cz_t (cz_dg b r p) r) (hB : ∀ i, i < r → B' i = nI (cz_dg b r p i)) : cz_B w G n b r (p + 1) (nI c) B' := by
  have lp := cz_t_lt (D := cz_dg b r p) hr
  refine Or.inr ⟨p, by omega, hf, by rw [hc], hB, fun y hy hfy => ?_⟩
  by_cases z : y = p
  · rw [z]; omega
  · rcases h with ⟨h1, h2⟩ | ⟨y0, a1, a2, a3, a4, a5⟩
    · exact absurd hfy (h2 y (by omega))
    · have l0 := cz_t_lt (D := cz_dg b r y0) hr
      have q : nI c < L := by
        rcases hL with hL | hL
        · rw [a3] at hL; exact absurd hL (n_m1 (by omega))
        · exact hL
      rw [a3, Int32.lt_iff_toInt_lt, nI_toInt (by omega), nI_toInt (by omega)] at q
      have := a5 y (by omega) hfy
      omega
/-! each house by itself -/
/-- the best number of the house g below c -/
def cz_h (w : Nat → Int32) (G : Nat → Nat → Int32) (g r c : Nat) (x : Int32) : Prop :=
  (x = -1 ∧ ∀ t, t < c → ¬ cz_d w G g (fun i => t.testBit (r - 1 - i)) r) ∨
  ∃ t0, t0 < c ∧ x = nI t0 ∧ cz_d w G g (fun i => t0.testBit (r - 1 - i)) r ∧ ∀ t, t < c → cz_d w G g (fun i => t.testBit (r - 1 - i)) r → b_pop t0.testBit 10 < b_pop t.testBit 10 ∨ (b_pop t0.testBit 10 = b_pop t.testBit 10 ∧ t0 ≤ t)
/-- the sets of the first m houses' numbers -/
def cz_st (tm : Nat → Nat) (r i : Nat) : Nat → Nat
  | 0 => 0
  | h + 1 => cz_st tm r i h + (if (tm h).testBit (r - 1 - i) = true then 2 ^ h else 0)
theorem cz_st_lt (tm : Nat → Nat) (r i : Nat) : ∀ m, cz_st tm r i m < 2 ^ m := by
  intro m
  induction m with
  | zero => exact Nat.one_pos
  | succ m ih =>
    have := b_pw m
    rw [cz_st]
    split <;> omega
theorem cz_st_tb (tm : Nat → Nat) (r i : Nat) {g : Nat} : ∀ m, (cz_st tm r i m).testBit g = (decide (g < m) && (tm g).testBit (r - 1 - i)) := by
  intro m
  induction m with
  | zero => rw [cz_st, Nat.zero_testBit]; simp
  | succ m ih =>
    rw [cz_st, b_tbB (cz_st_lt tm r i m)]
    by_cases z : g = m
    · rw [if_pos z, z]; simp
    · rw [if_neg z, ih]
      have : decide (g < m + 1) = decide (g < m) := by
        by_cases y : g < m
        · rw [decide_eq_true y, decide_eq_true (by omega)]
        · rw [decide_eq_false y, decide_eq_false (by omega)]
      rw [this]
theorem cz_t_sw {D : Nat → Nat} (hn : n ≤ 4) (hr : r ≤ 4) (hD : ∀ i, D i < 2 ^ n) : cz_t D r = cz_sm (fun h => b_pop (cz_tm (fun k => (D k).testBit h) r).testBit 10) n := by
  unfold cz_t
  rw [cz_sm_cg (f' := fun i => cz_sm (fun h => if (D i).testBit h = true then 1 else 0) n) r (fun i _ => by rw [b_pop_10 (hD i) (by omega), b_pop_sm]), cz_sm_swap]
  exact cz_sm_cg n (fun h _ => (cz_tm_pop (f := fun k => (D k).testBit h) r hr).symm)
/-- one house can't be kept dry: none of the rows does -/
theorem cz_none {g : Nat} (hb : b = 2 ^ n) (hg : g < n) (h : ∀ t, t < 2 ^ r → ¬ cz_d w G g (fun i => t.testBit (r - 1 - i)) r) {B : Nat → Int32} : cz_B w G n b r (b ^ r) (-1) B := by
  refine Or.inl ⟨rfl, fun y hy hf => ?_⟩
  have := hf g hg
  refine h (cz_tm (fun k => (cz_dg b r y k).testBit g) r) (cz_tm_lt r) ((cz_d_cg (fun k hk => ?_)).mp this)
  rw [cz_tm_tb hk]
/-- the houses' best numbers are the best row -/
theorem cz_join {tm : Nat → Nat} (hn : n ≤ 4) (hr : r ≤ 4) (hb : b = 2 ^ n) (h : ∀ g, g < n → cz_h w G g r (2 ^ r) (nI (tm g)) ∧ tm g < 2 ^ r) {B : Nat → Int32} (hB : ∀ i, i < r → B i = nI (cz_st tm r i n)) : cz_B w G n b r (b ^ r) (nI (cz_sm (fun g => b_pop (tm g).testBit 10) n)) B := by
  have hb0 : 0 < b := by rw [hb]; exact Nat.two_pow_pos n
  have hr4 : 2 ^ r ≤ 2 ^ 4 := Nat.pow_le_pow_right (by omega) hr
  have hD : ∀ i, cz_st tm r i n < b := fun i => by rw [hb]; exact cz_st_lt tm r i n
  have dg : ∀ k, k < r → cz_dg b r (cz_num b (fun i => cz_st tm r i n) r) k = cz_st tm r k n := fun k hk => cz_dg_num hb0 (fun k _ => hD k) hk
  have tms : ∀ g, g < n → cz_tm (fun k => (cz_st tm r k n).testBit g) r = tm g := fun g hg => cz_tm_eq (h g hg).2 (fun k hk => by rw [cz_st_tb]; simp [hg])
  have tot : cz_t (cz_dg b r (cz_num b (fun i => cz_st tm r i n) r)) r = cz_sm (fun g => b_pop (tm g).testBit 10) n := by
    rw [cz_t_cg dg, cz_t_sw hn hr (fun i => cz_st_lt tm r i n)]
    exact cz_sm_cg n (fun g hg => by rw [tms g hg])
  have own : ∀ g, g < n → cz_d w G g (fun i => (tm g).testBit (r - 1 - i)) r ∧ ∀ t, t < 2 ^ r → cz_d w G g (fun i => t.testBit (r - 1 - i)) r → b_pop (tm g).testBit 10 < b_pop t.testBit 10 ∨ (b_pop (tm g).testBit 10 = b_pop t.testBit 10 ∧ tm g ≤ t) := fun g hg => by
    obtain ⟨h1, h2⟩ := h g hg
    rcases h1 with ⟨h3, -⟩ | ⟨t0, q1, q2, q3, q4⟩
    · exact absurd h3 (n_m1 (by omega))
    · have : tm g = t0 := n_inj (by omega) (by omega) q2
      rw [this]; exact ⟨q3, q4⟩
  refine Or.inr ⟨cz_num b (fun i => cz_st tm r i n) r, cz_num_lt hb0 r (fun k _ => hD k), ?_, by rw [tot], fun i hi => by rw [hB i hi, dg i hi], fun y hy hf => ?_⟩
  · refine (cz_F_cg dg).mpr (fun g hg => ?_)
    exact (cz_d_cg (fun k hk => by rw [cz_st_tb]; simp [hg])).mpr (own g hg).1
  · have hDy : ∀ i, cz_dg b r y i < b := fun i => cz_dg_lt hb0 i
    have ty : cz_t (cz_dg b r y) r = cz_sm (fun g => b_pop (cz_tm (fun k => (cz_dg b r y k).testBit g) r).testBit 10) n := cz_t_sw hn hr (fun i => by rw [← hb]; exact hDy i)
    have each : ∀ g, g < n → b_pop (tm g).testBit 10 < b_pop (cz_tm (fun k => (cz_dg b r y k).testBit g) r).testBit 10 ∨ (b_pop (tm g).testBit 10 = b_pop (cz_tm (fun k => (cz_dg b r y k).testBit g) r).testBit 10 ∧ tm g ≤ cz_tm (fun k => (cz_dg b r y k).testBit g) r) := fun g hg => (own g hg).2 _ (cz_tm_lt r) ((cz_d_cg (fun k hk => by rw [cz_tm_tb hk])).mp (hf g hg))
    obtain ⟨s1, s2⟩ := cz_sm_le (f := fun g => b_pop (tm g).testBit 10) (f' := fun g => b_pop (cz_tm (fun k => (cz_dg b r y k).testBit g) r).testBit 10) n (fun g hg => by have := each g hg; omega)
    rw [tot, ty]
    rcases Nat.lt_or_ge (cz_sm (fun g => b_pop (tm g).testBit 10) n) (cz_sm (fun g => b_pop (cz_tm (fun k => (cz_dg b r y k).testBit g) r).testBit 10) n) with z | z
    · exact Or.inl z
    · have e := s2 (by omega)
      refine Or.inr ⟨by omega, ?_⟩
      rcases cz_lex hn hb hD hDy r with q | ⟨q, -⟩ | ⟨g, hg, q⟩
      · rw [cz_num_y hb0 hy] at q; omega
      · rw [cz_num_y hb0 hy] at q; omega
      · have e1 := e g hg
        have e2 := each g hg
        rw [tms g hg] at q
        omega
end CK
