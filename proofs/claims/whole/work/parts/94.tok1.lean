/-! TOKENS, as numbers: y the bytes, k how many -/
def tk_run (p : Nat → Bool) (k : Nat) : Nat → Nat → Nat
  | 0, a => a
  | d + 1, a => if a < k ∧ p a = true then tk_run p k d (a + 1) else a
/-- where a run ends -/
def tk_end (p : Nat → Bool) (k a : Nat) : Nat := tk_run p k (k - a) a
section TR
variable {p : Nat → Bool} {k a : Nat}
theorem tk_end_s (h : a < k) (hp : p a = true) : tk_end p k a = tk_end p k (a + 1) := by
  unfold tk_end
  rw [show k - a = (k - (a + 1)) + 1 by omega, tk_run, if_pos ⟨h, hp⟩]
theorem tk_end_n (h : ¬ (a < k ∧ p a = true)) : tk_end p k a = a := by
  unfold tk_end
  cases k - a with
  | zero => rfl
  | succ d => rw [tk_run, if_neg h]
theorem tk_end_i : ∀ d a, k - a = d → a ≤ tk_end p k a ∧ (a ≤ k → tk_end p k a ≤ k) ∧ ∀ i, a ≤ i → i < tk_end p k a → p i = true := by
  intro d
  induction d with
  | zero =>
    intro a h
    rw [tk_end_n (by omega)]
    exact ⟨Nat.le_refl _, fun q => q, fun i h1 h2 => by omega⟩
  | succ d ih =>
    intro a h
    by_cases z : p a = true
    · obtain ⟨i1, i2, i3⟩ := ih (a + 1) (by omega)
      rw [tk_end_s (by omega) z]
      refine ⟨by omega, fun _ => i2 (by omega), fun i h1 h2 => ?_⟩
      by_cases q : i = a
      · rw [q]; exact z
      · exact i3 i (by omega) h2
    · rw [tk_end_n (fun q => z q.2)]
      exact ⟨Nat.le_refl _, fun q => q, fun i h1 h2 => by omega⟩
theorem tk_end_ge : a ≤ tk_end p k a := (tk_end_i _ a rfl).1
theorem tk_end_le (h : a ≤ k) : tk_end p k a ≤ k := (tk_end_i _ a rfl).2.1 h
theorem tk_end_all {i : Nat} (h1 : a ≤ i) (h2 : i < tk_end p k a) : p i = true := (tk_end_i _ a rfl).2.2 i h1 h2
end TR
def tw_ (y : Nat → Nat) (i : Nat) : Bool := decide (y i = 32 ∨ y i = 10)
def tl_ (y : Nat → Nat) (i : Nat) : Bool := decide ((97 ≤ y i ∧ y i ≤ 122) ∨ (65 ≤ y i ∧ y i ≤ 90))
def td_ (y : Nat → Nat) (i : Nat) : Bool := decide (48 ≤ y i ∧ y i ≤ 57)
/-! words -/
def tk_w : List (List Nat) := [[112, 97, 121], [119, 104, 101, 110], [111, 114], [97, 110, 100], [110, 111, 116], [119, 101, 116], [99, 108, 111, 103], [111, 119, 110], [110, 101, 97, 114], [102, 97, 114], [97, 98, 111, 118, 101], [97, 114, 101, 97], [104, 101, 108, 100]]
def tk_len (j : Nat) : Nat := (tk_w.getD j []).length
def tk_ch (j i : Nat) : Nat := (tk_w.getD j []).getD i 32
def tk_m (y : Nat → Nat) (p e j : Nat) : Prop := e - p = tk_len j ∧ ∀ i, i < tk_len j → y (p + i) = tk_ch j i
theorem tk_lens {j : Nat} (hj : j < 13) : 2 ≤ tk_len j ∧ tk_len j ≤ 5 := by
  have d : ∀ j : Fin 13, 2 ≤ tk_len j.1 ∧ tk_len j.1 ≤ 5 := by decide +kernel
  exact d ⟨j, hj⟩
theorem tk_chs {j i : Nat} (hj : j < 13) (hi : i < 5) : tk_ch j i < 128 ∧ (i < tk_len j → 97 ≤ tk_ch j i ∧ tk_ch j i ≤ 122) ∧ (tk_len j ≤ i → tk_ch j i = 32) := by
  have d : ∀ (j : Fin 13) (i : Fin 5), tk_ch j.1 i.1 < 128 ∧ (i.1 < tk_len j.1 → 97 ≤ tk_ch j.1 i.1 ∧ tk_ch j.1 i.1 ≤ 122) ∧ (tk_len j.1 ≤ i.1 → tk_ch j.1 i.1 = 32) := by decide +kernel
  exact d ⟨j, hj⟩ ⟨i, hi⟩
theorem tk_m_uni {y : Nat → Nat} {p e j j' : Nat} (hj : j < 13) (hj' : j' < 13) (h : tk_m y p e j) (h' : tk_m y p e j') : j = j' := by
  have d : ∀ j j' : Fin 13, tk_len j.1 = tk_len j'.1 → (∀ i : Fin 5, i.1 < tk_len j.1 → tk_ch j.1 i.1 = tk_ch j'.1 i.1) → j = j' := by decide +kernel
  have e1 : tk_len j = tk_len j' := h.1.symm.trans h'.1
  have := d ⟨j, hj⟩ ⟨j', hj'⟩ e1 (fun i hi => by
    have q := h.2 i.1 hi
    have q' := h'.2 i.1 (by dsimp only at hi; omega)
    exact q.symm.trans q')
  exact congrArg Fin.val this
def tk_mB (y : Nat → Nat) (p e j : Nat) : Bool := (e - p == tk_len j) && (List.range (tk_len j)).all (fun i => y (p + i) == tk_ch j i)
theorem tk_mB_iff {y : Nat → Nat} {p e j : Nat} : tk_mB y p e j = true ↔ tk_m y p e j := by
  unfold tk_mB tk_m
  rw [Bool.and_eq_true, beq_iff_eq, List.all_eq_true]
  constructor
  · rintro ⟨h1, h2⟩; exact ⟨h1, fun i hi => by have := h2 i (List.mem_range.mpr hi); rwa [beq_iff_eq] at this⟩
  · rintro ⟨h1, h2⟩; exact ⟨h1, fun i hi => by rw [beq_iff_eq]; exact h2 i (List.mem_range.mp hi)⟩
def tk_wk (y : Nat → Nat) (p e : Nat) : Nat := match (List.range 13).find? (tk_mB y p e) with
  | some j => 3 + j
  | none => 1
theorem tk_wk_of {y : Nat → Nat} {p e j : Nat} (hj : j < 13) (h : tk_m y p e j) : tk_wk y p e = 3 + j := by
  unfold tk_wk
  cases q : (List.range 13).find? (tk_mB y p e) with
  | some j0 =>
    have h1 := List.find?_some q
    have h2 := List.mem_range.mp (List.mem_of_find?_eq_some q)
    rw [tk_m_uni h2 hj (tk_mB_iff.mp h1) h]
  | none =>
    have := List.find?_eq_none.mp q j (List.mem_range.mpr hj)
    exact absurd (tk_mB_iff.mpr h) this
theorem tk_wk_no {y : Nat → Nat} {p e : Nat} (h : ∀ j, j < 13 → ¬ tk_m y p e j) : tk_wk y p e = 1 := by
  unfold tk_wk
  cases q : (List.range 13).find? (tk_mB y p e) with
  | some j0 =>
    have h1 := List.find?_some q
    have h2 := List.mem_range.mp (List.mem_of_find?_eq_some q)
    exact absurd (tk_mB_iff.mp h1) (h j0 h2)
  | none => rfl
/-! signs, numbers, tokens -/
def tk_sk (q : Nat) : Nat := if q = 59 then 16 else if q = 43 then 17 else if q = 45 then 18 else if q = 42 then 19 else if q = 47 then 20 else if q = 40 then 21 else if q = 41 then 22 else if q = 60 then 23 else if q = 61 then 24 else if q = 62 then 25 else 1
def tk_kind (y : Nat → Nat) (k p : Nat) : Nat := if k ≤ p then 0 else if tl_ y p = true then tk_wk y p (tk_end (tl_ y) k p) else if td_ y p = true then (if tk_end (td_ y) k p - p ≤ 4 then 2 else 1) else tk_sk (y p)
def tk_nx (y : Nat → Nat) (k p : Nat) : Nat := if k ≤ p then p else if tl_ y p = true then tk_end (tl_ y) k p else if td_ y p = true then tk_end (td_ y) k p else p + 1
def tk_v (y : Nat → Nat) (p : Nat) : Nat → Nat
  | 0 => 0
  | j + 1 => tk_v y p j * 10 + (y (p + j) - 48)
def tk_A (y : Nat → Nat) (k : Nat) : Nat → Nat
  | 0 => 0
  | i + 1 => tk_nx y k (tk_end (tw_ y) k (tk_A y k i))
abbrev tk_P (y : Nat → Nat) (k i : Nat) : Nat := tk_end (tw_ y) k (tk_A y k i)
abbrev tk_K (y : Nat → Nat) (k i : Nat) : Nat := tk_kind y k (tk_P y k i)
abbrev tk_V (y : Nat → Nat) (k i : Nat) : Nat := tk_v y (tk_P y k i) (tk_end (td_ y) k (tk_P y k i) - tk_P y k i)
theorem tk_A_le {y : Nat → Nat} {k : Nat} : ∀ i, tk_A y k i ≤ k := by
  intro i
  induction i with
  | zero => exact Nat.zero_le k
  | succ i ih =>
    have h1 := tk_end_le (p := tw_ y) ih
    show tk_nx y k (tk_end (tw_ y) k (tk_A y k i)) ≤ k
    unfold tk_nx
    by_cases z : k ≤ tk_end (tw_ y) k (tk_A y k i)
    · rw [if_pos z]; exact h1
    rw [if_neg z]
    by_cases z1 : tl_ y (tk_end (tw_ y) k (tk_A y k i)) = true
    · rw [if_pos z1]; exact tk_end_le h1
    rw [if_neg z1]
    by_cases z2 : td_ y (tk_end (tw_ y) k (tk_A y k i)) = true
    · rw [if_pos z2]; exact tk_end_le h1
    rw [if_neg z2]
    omega
theorem tk_P_le {y : Nat → Nat} {k : Nat} (i : Nat) : tk_P y k i ≤ k := tk_end_le (tk_A_le i)
theorem tk_wk_in {y : Nat → Nat} {p e : Nat} : tk_wk y p e = 1 ∨ (3 ≤ tk_wk y p e ∧ tk_wk y p e ≤ 15) := by
  unfold tk_wk
  cases q : (List.range 13).find? (tk_mB y p e) with
  | some j0 =>
    have h2 := List.mem_range.mp (List.mem_of_find?_eq_some q)
    exact Or.inr ⟨by dsimp only; omega, by dsimp only; omega⟩
  | none => exact Or.inl rfl
theorem tk_sk_in (q : Nat) : tk_sk q = 1 ∨ (16 ≤ tk_sk q ∧ tk_sk q ≤ 25) := by
  unfold tk_sk
  repeat' split
  all_goals omega
theorem tk_kind_in {y : Nat → Nat} {k p : Nat} : tk_kind y k p ≤ 25 ∧ (tk_kind y k p = 0 ↔ k ≤ p) := by
  unfold tk_kind
  by_cases z : k ≤ p
  · rw [if_pos z]; exact ⟨by omega, fun _ => z, fun _ => rfl⟩
  rw [if_neg z]
  by_cases z1 : tl_ y p = true
  · rw [if_pos z1]
    have := tk_wk_in (y := y) (p := p) (e := tk_end (tl_ y) k p)
    exact ⟨by omega, fun q => by omega, fun q => absurd q z⟩
  rw [if_neg z1]
  by_cases z2 : td_ y p = true
  · rw [if_pos z2]
    by_cases z3 : tk_end (td_ y) k p - p ≤ 4
    · rw [if_pos z3]; exact ⟨by omega, fun q => by omega, fun q => absurd q z⟩
    · rw [if_neg z3]; exact ⟨by omega, fun q => by omega, fun q => absurd q z⟩
  rw [if_neg z2]
  have := tk_sk_in (y p)
  exact ⟨by omega, fun q => by omega, fun q => absurd q z⟩
/-- a token that isn't the end has a byte -/
theorem tk_A_s {y : Nat → Nat} {k i : Nat} (h : tk_K y k i ≠ 0) : tk_P y k i < k ∧ tk_P y k i < tk_A y k (i + 1) := by
  have hp : tk_P y k i < k := Nat.lt_of_not_le (fun q => h (tk_kind_in.2.mpr q))
  refine ⟨hp, ?_⟩
  show tk_P y k i < tk_nx y k (tk_P y k i)
  unfold tk_nx
  rw [if_neg (by omega)]
  by_cases z1 : tl_ y (tk_P y k i) = true
  · rw [if_pos z1, tk_end_s hp z1]
    exact tk_end_ge
  rw [if_neg z1]
  by_cases z2 : td_ y (tk_P y k i) = true
  · rw [if_pos z2, tk_end_s hp z2]
    exact tk_end_ge
  rw [if_neg z2]
  omega
/-- the tokens up to i are none of them the end -/
def tk_o (y : Nat → Nat) (k i : Nat) : Prop := i ≤ tk_A y k i
theorem tk_o_s {y : Nat → Nat} {k i : Nat} (h : tk_o y k i) (hK : tk_K y k i ≠ 0) : tk_o y k (i + 1) ∧ i < k := by
  obtain ⟨h1, h2⟩ := tk_A_s hK
  have h3 : tk_A y k i ≤ tk_P y k i := tk_end_ge
  unfold tk_o at *
  exact ⟨by omega, by omega⟩
theorem tk_o_le {y : Nat → Nat} {k i : Nat} (h : tk_o y k i) : i ≤ k := Nat.le_trans h (tk_A_le i)
theorem tk_v_lt {y : Nat → Nat} {p : Nat} : ∀ j, (∀ i, i < j → y (p + i) ≤ 57) → tk_v y p j < 10 ^ j := by
  intro j
  induction j with
  | zero => intro _; exact Nat.one_pos
  | succ j ih =>
    intro h
    have h1 := ih (fun i hi => h i (by omega))
    have h2 := h j (by omega)
    rw [tk_v, Nat.pow_succ]
    omega
theorem tk_V_lt {y : Nat → Nat} {k i : Nat} (h : tk_K y k i = 2) : tk_V y k i < 10000 := by
  have hd : tk_end (td_ y) k (tk_P y k i) - tk_P y k i ≤ 4 := by
    have h0 : ¬ k ≤ tk_P y k i := fun q => by
      have e0 : tk_kind y k (tk_P y k i) = 0 := tk_kind_in.2.mpr q
      have e2 : tk_kind y k (tk_P y k i) = 2 := h
      omega
    unfold tk_K tk_kind at h
    rw [if_neg h0] at h
    by_cases z1 : tl_ y (tk_P y k i) = true
    · rw [if_pos z1] at h
      have := tk_wk_in (y := y) (p := tk_P y k i) (e := tk_end (tl_ y) k (tk_P y k i))
      omega
    rw [if_neg z1] at h
    by_cases z2 : td_ y (tk_P y k i) = true
    · rw [if_pos z2] at h
      by_cases z3 : tk_end (td_ y) k (tk_P y k i) - tk_P y k i ≤ 4
      · exact z3
      · rw [if_neg z3] at h; omega
    rw [if_neg z2] at h
    have := tk_sk_in (y (tk_P y k i))
    omega
  have h1 := tk_v_lt (y := y) (p := tk_P y k i) (tk_end (td_ y) k (tk_P y k i) - tk_P y k i) (fun q hq => by
    have := tk_end_all (p := td_ y) (k := k) (a := tk_P y k i) (i := tk_P y k i + q) (by omega) (by omega)
    unfold td_ at this
    have := of_decide_eq_true this
    omega)
  have h2 : 10 ^ (tk_end (td_ y) k (tk_P y k i) - tk_P y k i) ≤ 10 ^ 4 := Nat.pow_le_pow_right (by omega) hd
  unfold tk_V
  omega
/-! bytes, as the class has them -/
def tk_b (q : Nat) : Int32 := if q < 128 then nI q else nI q - 256
theorem tk_by {b : Int32} (h : b = Int8.toInt32 (Int32.toInt8 b)) : ∃ q, q < 256 ∧ b &&& 255 = nI q ∧ b = tk_b q := by
  have d : ∀ f : Fin 256, (Int8.ofBitVec (BitVec.ofFin f)).toInt32 &&& 255 = nI f.1 ∧ (Int8.ofBitVec (BitVec.ofFin f)).toInt32 = tk_b f.1 := by decide +kernel
  have e : Int32.toInt8 b = Int8.ofBitVec (BitVec.ofFin (Int32.toInt8 b).toBitVec.toFin) := rfl
  have := d (Int32.toInt8 b).toBitVec.toFin
  rw [← e, ← h] at this
  exact ⟨(Int32.toInt8 b).toBitVec.toFin.1, (Int32.toInt8 b).toBitVec.toFin.2, this.1, this.2⟩
theorem tk_b_let {q : Nat} (hq : q < 256) : ((¬ tk_b q < 97 ∧ ¬ (122 : Int32) < tk_b q) ↔ (97 ≤ q ∧ q ≤ 122)) ∧ ((¬ tk_b q < 65 ∧ ¬ (90 : Int32) < tk_b q) ↔ (65 ≤ q ∧ q ≤ 90)) ∧ ((¬ tk_b q < 48 ∧ ¬ (57 : Int32) < tk_b q) ↔ (48 ≤ q ∧ q ≤ 57)) ∧ (tk_b q = 32 ↔ q = 32) ∧ (tk_b q = 10 ↔ q = 10) := by
  have d : ∀ q : Fin 256, ((¬ tk_b q.1 < 97 ∧ ¬ (122 : Int32) < tk_b q.1) ↔ (97 ≤ q.1 ∧ q.1 ≤ 122)) ∧ ((¬ tk_b q.1 < 65 ∧ ¬ (90 : Int32) < tk_b q.1) ↔ (65 ≤ q.1 ∧ q.1 ≤ 90)) ∧ ((¬ tk_b q.1 < 48 ∧ ¬ (57 : Int32) < tk_b q.1) ↔ (48 ≤ q.1 ∧ q.1 ≤ 57)) ∧ (tk_b q.1 = 32 ↔ q.1 = 32) ∧ (tk_b q.1 = 10 ↔ q.1 = 10) := by decide +kernel
  exact d ⟨q, hq⟩
theorem tk_b_eq {c q : Nat} (hc : c < 128) (hq : q < 256) : nI c = tk_b q ↔ c = q := by
  unfold tk_b
  by_cases z : q < 128
  · rw [if_pos z]; exact nI_eq (by omega) (by omega)
  · rw [if_neg z]
    constructor
    · intro e
      have d : ∀ q : Fin 256, ¬ q.1 < 128 → (nI q.1 - 256) < 0 := by decide +kernel
      have := d ⟨q, hq⟩ z
      rw [← e] at this
      exact absurd this (nI_pos (by omega))
    · intro e; omega
theorem tk_b_di {q : Nat} (h : 48 ≤ q ∧ q ≤ 57) : tk_b q = nI q := if_pos (by omega)
