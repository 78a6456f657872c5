/-! BLAME: sets of clogs, and sets of houses -/
/-- how many of the first houses are clogged -/
def b_k (cl : Nat → Int32) : Nat → Nat
  | 0 => 0
  | g + 1 => b_k cl g + (if cl g ≤ 0 then 0 else 1)
/-- the houses of a set of clogs -/
def b_ph (cl : Nat → Int32) (c : Nat) : Nat → Nat
  | 0 => 0
  | g + 1 => b_ph cl c g + (if (decide (¬ cl g ≤ 0) && c.testBit (b_k cl g)) = true then 2 ^ g else 0)
/-- how many of the first bits are set -/
def b_pop (f : Nat → Bool) : Nat → Nat
  | 0 => 0
  | k + 1 => b_pop f k + (if f k = true then 1 else 0)
def b_sub (c C : Nat) : Bool := (c &&& C) == c
section BP
variable {cl : Nat → Int32} {c C : Nat}
theorem b_pw (h : Nat) : 2 ^ (h + 1) = 2 ^ h + 2 ^ h := by rw [Nat.pow_succ]; omega
theorem b_hi {x h g : Nat} (hx : x < 2 ^ h) (hg : h ≤ g) : x.testBit g = false := Nat.testBit_lt_two_pow (Nat.lt_of_lt_of_le hx (Nat.pow_le_pow_right (by omega) hg))
theorem b_tbB {p h : Nat} (hp : p < 2 ^ h) (b : Bool) (g : Nat) : (p + if b = true then 2 ^ h else 0).testBit g = if g = h then b else p.testBit g := by
  cases b
  · rw [if_neg (by decide), Nat.add_zero]
    by_cases z : g = h
    · rw [if_pos z, z]; exact b_hi hp (Nat.le_refl h)
    · rw [if_neg z]
  · rw [if_pos rfl, Nat.add_comm]
    by_cases z : g = h
    · rw [if_pos z, z, Nat.testBit_two_pow_add_eq, b_hi hp (Nat.le_refl h)]; rfl
    · rw [if_neg z]
      by_cases y : g < h
      · rw [Nat.testBit_two_pow_add_gt y]
      · rw [b_hi (h := h + 1) (by rw [b_pw]; omega) (by omega), b_hi hp (by omega)]
theorem b_ph_lt (cl : Nat → Int32) (c : Nat) : ∀ n, b_ph cl c n < 2 ^ n := by
  intro n
  induction n with
  | zero => exact Nat.one_pos
  | succ n ih =>
    have := b_pw n
    show b_ph cl c n + (if (decide (¬ cl n ≤ 0) && c.testBit (b_k cl n)) = true then 2 ^ n else 0) < _
    by_cases z : (decide (¬ cl n ≤ 0) && c.testBit (b_k cl n)) = true
    · rw [if_pos z]; omega
    · rw [if_neg z]; omega
theorem b_ph_tb (cl : Nat → Int32) (c g : Nat) : ∀ n, (b_ph cl c n).testBit g = (decide (g < n) && (decide (¬ cl g ≤ 0) && c.testBit (b_k cl g))) := by
  intro n
  induction n with
  | zero => rw [b_ph, Nat.zero_testBit]; simp
  | succ n ih =>
    rw [b_ph, b_tbB (b_ph_lt cl c n)]
    by_cases z : g = n
    · rw [if_pos z, z]; simp
    · rw [if_neg z, ih]
      have : decide (g < n + 1) = decide (g < n) := by
        by_cases y : g < n
        · rw [decide_eq_true y, decide_eq_true (by omega)]
        · rw [decide_eq_false y, decide_eq_false (by omega)]
      rw [this]
theorem b_wet_tb (cl : Nat → Int32) (g : Nat) : ∀ n, (a_wet cl n).testBit g = (decide (g < n) && decide (¬ cl g ≤ 0)) := by
  intro n
  induction n with
  | zero => rw [a_wet, Nat.zero_testBit]; simp
  | succ n ih =>
    have e : a_wet cl (n + 1) = a_wet cl n + if decide (¬ cl n ≤ 0) = true then 2 ^ n else 0 := by
      show a_wet cl n + (if cl n ≤ 0 then 0 else 2 ^ n) = _
      by_cases z : cl n ≤ 0
      · rw [if_pos z, if_neg (by simp [z])]
      · rw [if_neg z, if_pos (by simp [z])]
    rw [e, b_tbB (a_wet_lt cl n)]
    by_cases z : g = n
    · rw [if_pos z, z]; simp
    · rw [if_neg z, ih]
      have : decide (g < n + 1) = decide (g < n) := by
        by_cases y : g < n
        · rw [decide_eq_true y, decide_eq_true (by omega)]
        · rw [decide_eq_false y, decide_eq_false (by omega)]
      rw [this]
theorem b_sub_iff : b_sub c C = true ↔ ∀ g, c.testBit g = true → C.testBit g = true := by
  unfold b_sub
  rw [beq_iff_eq]
  constructor
  · intro h g hg
    have := congrArg (fun x => x.testBit g) h
    simp only [Nat.testBit_and, hg, Bool.true_and] at this
    exact this
  · intro h
    apply Nat.eq_of_testBit_eq
    intro g
    rw [Nat.testBit_and]
    cases z : c.testBit g
    · rfl
    · rw [h g z]; rfl
theorem b_subI (hc : c < 2 ^ 31) : (nI c &&& (nI C ^^^ (-1 : Int32)) = 0) ↔ b_sub c C = true := by
  rw [b_sub_iff, ← Int32.toBitVec_inj, Int32.toBitVec_and, Int32.toBitVec_xor, show (nI c).toBitVec = BitVec.ofNat 32 c from rfl, show (nI C).toBitVec = BitVec.ofNat 32 C from rfl, show (-1 : Int32).toBitVec = BitVec.allOnes 32 from by decide, show (0 : Int32).toBitVec = 0#32 from rfl]
  constructor
  · intro h g hg
    have hg32 : g < 32 := by
      apply Classical.byContradiction
      intro z
      rw [b_hi (h := 31) hc (by omega)] at hg
      exact absurd hg (by decide)
    have := congrArg (fun b => b.getLsbD g) h
    simp only [BitVec.getLsbD_and, BitVec.getLsbD_xor, BitVec.getLsbD_ofNat, BitVec.getLsbD_allOnes, BitVec.getLsbD_zero, hg32, hg, decide_true, Bool.true_and] at this
    revert this
    cases C.testBit g <;> simp
  · intro h
    apply BitVec.eq_of_getLsbD_eq
    intro i hi
    simp only [BitVec.getLsbD_and, BitVec.getLsbD_xor, BitVec.getLsbD_ofNat, BitVec.getLsbD_allOnes, BitVec.getLsbD_zero, hi, decide_true, Bool.true_and]
    rw [Nat.zero_testBit]
    cases z : c.testBit i
    · rfl
    · rw [h i z]; rfl
theorem b_orI (a b : Nat) : nI a ||| nI b = nI (a ||| b) := by
  rw [← Int32.toBitVec_inj, Int32.toBitVec_or, show (nI a).toBitVec = BitVec.ofNat 32 a from rfl, show (nI b).toBitVec = BitVec.ofNat 32 b from rfl, show (nI (a ||| b)).toBitVec = BitVec.ofNat 32 (a ||| b) from rfl, BitVec.ofNat_or]
theorem b_ph_cg {c c' : Nat} : ∀ n, (∀ i, i < b_k cl n → c.testBit i = c'.testBit i) → b_ph cl c n = b_ph cl c' n := by
  intro n
  induction n with
  | zero => intro _; rfl
  | succ n ih =>
    intro h
    have hk : b_k cl (n + 1) = b_k cl n + (if cl n ≤ 0 then 0 else 1) := rfl
    have e := ih (fun i hi => h i (by rw [hk]; omega))
    rw [b_ph, b_ph, e]
    by_cases z : cl n ≤ 0
    · simp [z]
    · rw [h (b_k cl n) (by rw [hk, if_neg z]; omega)]
/-- the reference goes through the sets in the class's order -/
theorem b_LC (cl : Nat → Int32) : ∀ n, (List.range (2 ^ n)).filter (fun c => b_sub c (a_wet cl n)) = (List.range (2 ^ b_k cl n)).map (fun c => b_ph cl c n) := by
  intro n
  induction n with
  | zero =>
    show List.filter (fun c => b_sub c 0) (List.range (2 ^ 0)) = List.map (fun _ => 0) (List.range (2 ^ 0))
    decide
  | succ n ih =>
    have hA := a_wet_lt cl n
    by_cases z : cl n ≤ 0
    · have ew : a_wet cl (n + 1) = a_wet cl n := by show a_wet cl n + (if cl n ≤ 0 then 0 else 2 ^ n) = _; rw [if_pos z]; rfl
      have ek : b_k cl (n + 1) = b_k cl n := by show b_k cl n + (if cl n ≤ 0 then 0 else 1) = _; rw [if_pos z]; rfl
      rw [ew, ek, b_pw, List.range_add, List.filter_append, ih, List.filter_map]
      rw [List.filter_eq_nil_iff.mpr, List.map_nil, List.append_nil]
      · apply List.map_congr_left
        intro c _
        rw [b_ph]
        simp [z]
      · intro c hc
        rw [List.mem_range] at hc
        intro h
        have := b_sub_iff.mp h n (by rw [Nat.testBit_two_pow_add_eq, b_hi hc (Nat.le_refl n)]; rfl)
        rw [b_hi hA (Nat.le_refl n)] at this
        exact absurd this (by decide)
    · have ew : a_wet cl (n + 1) = a_wet cl n + if (true : Bool) = true then 2 ^ n else 0 := by show a_wet cl n + (if cl n ≤ 0 then 0 else 2 ^ n) = _; rw [if_neg z]; rfl
      have ek : b_k cl (n + 1) = b_k cl n + 1 := by show b_k cl n + (if cl n ≤ 0 then 0 else 1) = _; rw [if_neg z]
      have s1 : ∀ c, c < 2 ^ n → b_sub c (a_wet cl (n + 1)) = b_sub c (a_wet cl n) := fun c hc => by
        apply Bool.eq_iff_iff.mpr
        rw [b_sub_iff, b_sub_iff, ew]
        constructor
        · intro h g hg
          have := h g hg
          rw [b_tbB hA] at this
          by_cases y : g = n
          · rw [y, b_hi hc (Nat.le_refl n)] at hg; exact absurd hg (by decide)
          · rw [if_neg y] at this; exact this
        · intro h g hg
          rw [b_tbB hA]
          by_cases y : g = n
          · rw [if_pos y]
          · rw [if_neg y]; exact h g hg
      have s2 : ∀ c, c < 2 ^ n → b_sub (2 ^ n + c) (a_wet cl (n + 1)) = b_sub c (a_wet cl n) := fun c hc => by
        have ec : 2 ^ n + c = c + if (true : Bool) = true then 2 ^ n else 0 := by rw [if_pos rfl, Nat.add_comm]
        apply Bool.eq_iff_iff.mpr
        rw [b_sub_iff, b_sub_iff, ew, ec]
        constructor
        · intro h g hg
          by_cases y : g = n
          · rw [y, b_hi hc (Nat.le_refl n)] at hg; exact absurd hg (by decide)
          · have := h g (by rw [b_tbB hc, if_neg y]; exact hg)
            rw [b_tbB hA, if_neg y] at this
            exact this
        · intro h g hg
          rw [b_tbB hA]
          rw [b_tbB hc] at hg
          by_cases y : g = n
          · rw [if_pos y]
          · rw [if_neg y] at hg ⊢; exact h g hg
      rw [ek, b_pw, b_pw, List.range_add, List.filter_append, List.filter_map, List.range_add, List.map_append, List.map_map]
      congr 1
      · rw [List.filter_congr (fun c hc => s1 c (List.mem_range.mp hc)), ih]
        apply List.map_congr_left
        intro c hc
        rw [List.mem_range] at hc
        rw [b_ph, b_hi hc (Nat.le_refl _)]
        simp
      · rw [List.filter_congr (p := (fun c => b_sub c (a_wet cl (n + 1))) ∘ fun x => 2 ^ n + x) (q := fun c => b_sub c (a_wet cl n)) (fun c hc => s2 c (List.mem_range.mp hc)), ih, List.map_map]
        apply List.map_congr_left
        intro c hc
        rw [List.mem_range] at hc
        show 2 ^ n + b_ph cl c n = b_ph cl (2 ^ b_k cl n + c) (n + 1)
        rw [b_ph, Nat.testBit_two_pow_add_eq, b_hi hc (Nat.le_refl _), b_ph_cg (c := 2 ^ b_k cl n + c) (c' := c) n (fun i hi => Nat.testBit_two_pow_add_gt hi c)]
        simp [z, Nat.add_comm]
theorem b_k_mono : ∀ d g, b_k cl g ≤ b_k cl (g + d) := by
  intro d
  induction d with
  | zero => intro g; exact Nat.le_refl _
  | succ d ih => intro g; exact Nat.le_trans (ih g) (Nat.le_add_right _ _)
theorem b_k_lt {g h : Nat} (hg : g < h) (hc : ¬ cl g ≤ 0) : b_k cl g < b_k cl h := by
  have h1 : b_k cl (g + 1) = b_k cl g + 1 := by show b_k cl g + (if cl g ≤ 0 then 0 else 1) = _; rw [if_neg hc]
  have h2 := b_k_mono (cl := cl) (h - (g + 1)) (g + 1)
  rw [show g + 1 + (h - (g + 1)) = h by omega] at h2
  omega
theorem b_k_inj {g h : Nat} (hg : ¬ cl g ≤ 0) (hh : ¬ cl h ≤ 0) (e : b_k cl g = b_k cl h) : g = h := by
  apply Classical.byContradiction
  intro z
  rcases Nat.lt_or_ge g h with y | y
  · have := b_k_lt (cl := cl) y hg; omega
  · have := b_k_lt (cl := cl) (show h < g by omega) hh; omega
theorem b_k_ex {i : Nat} : ∀ n, i < b_k cl n → ∃ g, g < n ∧ ¬ cl g ≤ 0 ∧ b_k cl g = i := by
  intro n
  induction n with
  | zero => intro h; exact absurd h (Nat.not_lt_zero i)
  | succ n ih =>
    intro h
    by_cases z : cl n ≤ 0
    · obtain ⟨g, h1, h2⟩ := ih (by rw [show b_k cl (n + 1) = b_k cl n from by show b_k cl n + (if cl n ≤ 0 then 0 else 1) = _; rw [if_pos z]; rfl] at h; exact h)
      exact ⟨g, by omega, h2⟩
    · rw [show b_k cl (n + 1) = b_k cl n + 1 from by show b_k cl n + (if cl n ≤ 0 then 0 else 1) = _; rw [if_neg z]] at h
      by_cases y : i = b_k cl n
      · exact ⟨n, by omega, z, y.symm⟩
      · obtain ⟨g, h1, h2⟩ := ih (by omega)
        exact ⟨g, by omega, h2⟩
theorem b_k_le : ∀ n, b_k cl n ≤ n := by
  intro n
  induction n with
  | zero => exact Nat.le_refl _
  | succ n ih =>
    show b_k cl n + (if cl n ≤ 0 then 0 else 1) ≤ _
    by_cases z : cl n ≤ 0
    · rw [if_pos z]; omega
    · rw [if_neg z]; omega
theorem b_pop_cg {f f' : Nat → Bool} : ∀ k, (∀ g, g < k → f g = f' g) → b_pop f k = b_pop f' k := by
  intro k
  induction k with
  | zero => intro _; rfl
  | succ k ih => intro h; rw [b_pop, b_pop, ih (fun g hg => h g (by omega)), h k (by omega)]
theorem b_pop_hi {f : Nat → Bool} {k : Nat} (h : ∀ g, k ≤ g → f g = false) : ∀ d, b_pop f (k + d) = b_pop f k := by
  intro d
  induction d with
  | zero => rfl
  | succ d ih =>
    show b_pop f (k + d) + (if f (k + d) = true then 1 else 0) = _
    rw [h (k + d) (by omega), ih]; rfl
theorem b_pop_10 {c k : Nat} (hc : c < 2 ^ k) (hk : k ≤ 10) : b_pop c.testBit 10 = b_pop c.testBit k := by
  have := b_pop_hi (f := c.testBit) (k := k) (fun g hg => b_hi hc hg) (10 - k)
  rw [show k + (10 - k) = 10 by omega] at this
  exact this
theorem b_pop_ph (c : Nat) : ∀ n, b_pop (b_ph cl c n).testBit n = b_pop c.testBit (b_k cl n) := by
  intro n
  induction n with
  | zero => rfl
  | succ n ih =>
    rw [b_pop, b_pop_cg (f' := (b_ph cl c n).testBit) n (fun g hg => by rw [b_ph_tb, b_ph_tb, decide_eq_true hg, decide_eq_true (show g < n + 1 by omega)]), ih, b_ph_tb]
    by_cases z : cl n ≤ 0
    · rw [show b_k cl (n + 1) = b_k cl n from by show b_k cl n + (if cl n ≤ 0 then 0 else 1) = _; rw [if_pos z]; rfl]
      simp [z]
    · rw [show b_k cl (n + 1) = b_k cl n + 1 from by show b_k cl n + (if cl n ≤ 0 then 0 else 1) = _; rw [if_neg z], b_pop]
      simp [z]
theorem b_pop_wet : ∀ n, b_pop (a_wet cl n).testBit n = b_k cl n := by
  intro n
  induction n with
  | zero => rfl
  | succ n ih =>
    rw [b_pop, b_pop_cg (f' := (a_wet cl n).testBit) n (fun g hg => by rw [b_wet_tb, b_wet_tb, decide_eq_true hg, decide_eq_true (show g < n + 1 by omega)]), ih, b_wet_tb]
    show _ = b_k cl n + (if cl n ≤ 0 then 0 else 1)
    by_cases z : cl n ≤ 0
    · simp [z]
    · simp [z]
theorem b_pop_le {f : Nat → Bool} : ∀ k, b_pop f k ≤ k := by
  intro k
  induction k with
  | zero => exact Nat.le_refl _
  | succ k ih =>
    rw [b_pop]
    by_cases z : f k = true
    · rw [if_pos z]; omega
    · rw [if_neg z]; omega
theorem b_pop_l1 {f : Nat → Bool} {j : Nat} (hj : f j = false) : ∀ k, j < k → b_pop f k + 1 ≤ k := by
  intro k
  induction k with
  | zero => intro h; omega
  | succ k ih =>
    intro h
    rw [b_pop]
    by_cases y : j = k
    · rw [← y, hj]
      have := b_pop_le (f := f) j
      simp
      omega
    · have := ih (by omega)
      by_cases z : f k = true
      · rw [if_pos z]; omega
      · rw [if_neg z]; omega
theorem b_ph_or {u c n : Nat} (hu : u < n) (hc : ¬ cl u ≤ 0) : b_ph cl (c ||| 2 ^ b_k cl u) n = b_ph cl c n ||| 2 ^ u := by
  apply Nat.eq_of_testBit_eq
  intro g
  rw [b_ph_tb, Nat.testBit_or, Nat.testBit_or, b_ph_tb, Nat.testBit_two_pow, Nat.testBit_two_pow]
  by_cases z : u = g
  · subst z
    simp [hu, hc]
  · by_cases y : cl g ≤ 0
    · simp [y, z]
    · have : ¬ b_k cl u = b_k cl g := fun e => z (b_k_inj hc y e)
      simp [z, this]
end BP
