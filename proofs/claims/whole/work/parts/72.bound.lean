/-! NUMBERS AS THEY ARE: no int wraps -/
theorem i_adI {a b : Int32} (h1 : -2 ^ 31 ≤ a.toInt + b.toInt) (h2 : a.toInt + b.toInt < 2 ^ 31) : (a + b).toInt = a.toInt + b.toInt := by
  rw [Int32.toInt_add]
  exact Int.bmod_eq_of_le (by omega) (by omega)
theorem i_sbI {a b : Int32} (h1 : -2 ^ 31 ≤ a.toInt - b.toInt) (h2 : a.toInt - b.toInt < 2 ^ 31) : (a - b).toInt = a.toInt - b.toInt := by
  rw [Int32.toInt_sub]
  exact Int.bmod_eq_of_le (by omega) (by omega)
theorem i_muI {a b : Int32} (h1 : -2 ^ 31 ≤ a.toInt * b.toInt) (h2 : a.toInt * b.toInt < 2 ^ 31) : (a * b).toInt = a.toInt * b.toInt := by
  rw [Int32.toInt_mul]
  exact Int.bmod_eq_of_le (by omega) (by omega)
theorem i_mub {a b : Int32} {A B : Int} (ha : i_in a 0 A) (hb : i_in b 0 B) (hAB : A * B < 2 ^ 31) : (a * b).toInt = a.toInt * b.toInt ∧ i_in (a * b) 0 (A * B) := by
  have h1 : 0 ≤ a.toInt * b.toInt := Int.mul_nonneg ha.1 hb.1
  have h2 : a.toInt * b.toInt ≤ A * B := Int.mul_le_mul ha.2 hb.2 hb.1 (Int.le_trans ha.1 ha.2)
  have e := i_muI (a := a) (b := b) (by omega) (by omega)
  exact ⟨e, by unfold i_in; rw [e]; exact ⟨h1, h2⟩⟩
theorem i_mnI (a b : Int32) : (q_mn a b).toInt = min a.toInt b.toInt := by
  unfold q_mn
  by_cases h : b < a
  · rw [if_pos h]; rw [Int32.lt_iff_toInt_lt] at h; omega
  · rw [if_neg h]; rw [Int32.lt_iff_toInt_lt] at h; omega
theorem i_mxI (a b : Int32) : (q_mx a b).toInt = max a.toInt b.toInt := by
  unfold q_mx
  by_cases h : a < b
  · rw [if_pos h]; rw [Int32.lt_iff_toInt_lt] at h; omega
  · rw [if_neg h]; rw [Int32.lt_iff_toInt_lt] at h; omega
theorem i_z : (0 : Int32).toInt = 0 := rfl
theorem b_land {area thaw fl sn snow : Int32} {S : Int} (h1 : i_in area 0 99) (h2 : i_in thaw 0 9) (h3 : i_in fl 0 99) (h4 : i_in snow 0 S) (hS : S ≤ 2000000000) : i_in (q_land area thaw fl sn snow).1 0 10692 ∧ i_in (q_land area thaw fl sn snow).2 0 (S + 9801) := by
  obtain ⟨e1, f1⟩ := i_mub h3 h1 (by omega)
  obtain ⟨e2, f2⟩ := i_mub h2 h1 (by omega)
  have hm := i_mnI snow (thaw * area)
  unfold i_in at *
  unfold q_land
  by_cases z : sn = 0
  · rw [if_pos z]
    dsimp only
    rw [i_adI (by omega) (by omega), i_sbI (by omega) (by omega)]
    omega
  · rw [if_neg z]
    dsimp only
    rw [i_adI (by omega) (by omega), i_z]
    omega
theorem b_bar {barrel lets held came : Int32} {C : Int} (h1 : i_in barrel 0 999) (h2 : i_in lets 0 999) (h3 : i_in held 0 999) (h4 : i_in came 0 C) (hC : C ≤ 1000000000) : i_in (q_bar barrel lets held came).1 0 (C + 999) ∧ i_in (q_bar barrel lets held came).2 0 999 := by
  have e1 := i_mnI lets held
  have e2 := i_mxI 0 (barrel - held)
  have e3 := i_mnI came (q_mx 0 (barrel - held))
  unfold i_in at *
  rw [i_z, i_sbI (by omega) (by omega)] at e2
  unfold q_bar
  by_cases z : came = 0
  · rw [if_pos z]
    dsimp only
    rw [i_sbI (by omega) (by omega)]
    omega
  · rw [if_neg z]
    dsimp only
    rw [i_sbI (by omega) (by omega), i_adI (by omega) (by omega)]
    omega
/-- a house's numbers, in their ranges; S: the most snow on it -/
def b_row (r : Nat → Int32) (S : Int) : Prop := i_in (r 0) 0 99 ∧ i_in (r 6) 0 999 ∧ i_in (r 7) 0 999 ∧ i_in (r 8) 0 999 ∧ i_in (r 9) 0 S ∧ i_in (q_top r) 0 9999999
section BH
variable {thaw : Int32} {fl sn : Nat → Int32} {T : Nat} {S : Int}
theorem b_hs {r : Nat → Int32} {ab : Nat → Int32} {B : Int} (hr : b_row r S) (hth : i_in thaw 0 9) (hf : ∀ t, t < T → i_in (fl t) 0 99) (hT : T ≤ 12) (hS : S ≤ 1000000000) (hab : ∀ t, t < T → i_in (ab t) 0 B) (hB : B ≤ 900000000) : ∀ t, t ≤ T → i_in (q_hs r thaw fl sn ab t).1 0 999 ∧ i_in (q_hs r thaw fl sn ab t).2 0 (S + 9801 * t) := by
  intro t
  induction t with
  | zero => intro _; exact ⟨hr.2.2.2.1, i_mono hr.2.2.2.2.1 (by omega)⟩
  | succ t ih =>
    intro ht
    obtain ⟨i1, i2⟩ := ih (by omega)
    have hl := b_land (sn := sn t) hr.1 hth (hf t (by omega)) i2 (by omega)
    have ha := hab t (by omega)
    have hc : i_in (ab t + (q_land (r 0) thaw (fl t) (sn t) (q_hs r thaw fl sn ab t).2).1) 0 (B + 10692) := by
      obtain ⟨u1, u2⟩ := hl.1
      obtain ⟨v1, v2⟩ := ha
      unfold i_in
      rw [i_adI (by omega) (by omega)]
      omega
    exact ⟨(b_bar hr.2.1 hr.2.2.1 i1 hc (by omega)).2, i_mono hl.2 (by omega)⟩
theorem b_came {r : Nat → Int32} {ab : Nat → Int32} {B : Int} (hr : b_row r S) (hth : i_in thaw 0 9) (hf : ∀ t, t < T → i_in (fl t) 0 99) (hT : T ≤ 12) (hS : S ≤ 1000000000) (hab : ∀ t, t < T → i_in (ab t) 0 B) (hB : B ≤ 900000000) {t : Nat} (ht : t < T) : i_in (ab t + (q_land (r 0) thaw (fl t) (sn t) (q_hs r thaw fl sn ab t).2).1) 0 (B + 10692) := by
  obtain ⟨i1, i2⟩ := b_hs (sn := sn) hr hth hf hT hS hab hB t (by omega)
  have hl := b_land (sn := sn t) hr.1 hth (hf t (by omega)) i2 (by omega)
  obtain ⟨u1, u2⟩ := hl.1
  obtain ⟨v1, v2⟩ := hab t ht
  unfold i_in
  rw [i_adI (by omega) (by omega)]
  omega
theorem b_got {r : Nat → Int32} {ab : Nat → Int32} {B : Int} (hr : b_row r S) (hth : i_in thaw 0 9) (hf : ∀ t, t < T → i_in (fl t) 0 99) (hT : T ≤ 12) (hS : S ≤ 1000000000) (hab : ∀ t, t < T → i_in (ab t) 0 B) (hB : B ≤ 900000000) {t : Nat} (ht : t < T) : i_in (q_got r thaw fl sn ab t) 0 (B + 11691) := by
  have i1 := (b_hs (sn := sn) hr hth hf hT hS hab hB t (by omega)).1
  exact i_mono (b_bar hr.2.1 hr.2.2.1 i1 (b_came hr hth hf hT hS hab hB ht) (by omega)).1 (by omega)
theorem b_car {r : Nat → Int32} {ab : Nat → Int32} {B : Int} (hr : b_row r S) (hth : i_in thaw 0 9) (hf : ∀ t, t < T → i_in (fl t) 0 99) (hT : T ≤ 12) (hS : S ≤ 1000000000) (hab : ∀ t, t < T → i_in (ab t) 0 B) (hB : B ≤ 900000000) {t : Nat} (ht : t < T) : i_in (q_car r thaw fl sn ab t) 0 (B + 11691) := by
  have h1 := b_got (sn := sn) hr hth hf hT hS hab hB ht
  have h2 := hr.2.2.2.2.2
  unfold q_car i_in at *
  rw [i_mnI]
  omega
theorem b_A {r : Nat → Nat → Int32} {n : Nat} (hn : n ≤ 11) (hr : ∀ g, g < n → b_row (r g) S) (hth : i_in thaw 0 9) (hf : ∀ t, t < T → i_in (fl t) 0 99) (hT : T ≤ 12) (hS : S ≤ 1000000000) : ∀ k g, g < k → g < n → ∀ t, t < T → i_in (q_A r thaw fl sn g t) 0 (11691 * (2 ^ g - 1)) := by
  intro k
  induction k with
  | zero => intro g hg; omega
  | succ k ih =>
    intro g hg hgn t ht
    unfold q_A
    have key : ∀ i, i ≤ g → i_in (q_ab (fun g => r g 4) (q_C r thaw fl sn) g t i) 0 (11691 * (2 ^ i - 1)) := by
      intro i
      induction i with
      | zero => intro _; exact i_inn (j := 0) (by decide) (by omega) (by omega)
      | succ i ih2 =>
        intro hi
        have j1 := ih2 (by omega)
        have hp : (2 : Int) ^ (i + 1) = 2 ^ i * 2 := Int.pow_succ 2 i
        have hq : (2 : Int) ^ i ≤ 1024 := by
          have : i ≤ 10 := by omega
          have : i = 0 ∨ i = 1 ∨ i = 2 ∨ i = 3 ∨ i = 4 ∨ i = 5 ∨ i = 6 ∨ i = 7 ∨ i = 8 ∨ i = 9 ∨ i = 10 := by omega
          rcases this with rfl | rfl | rfl | rfl | rfl | rfl | rfl | rfl | rfl | rfl | rfl <;> decide
        have hq0 : (1 : Int) ≤ 2 ^ i := by
          have := Int.pow_pos (n := 2) (m := i) (by decide)
          omega
        have c1 : i_in (q_C r thaw fl sn i t) 0 (11691 * (2 ^ i - 1) + 11691) := by
          rw [q_C_eq]
          exact b_car (hr i (by omega)) hth hf hT hS (ih i (by omega) (by omega)) (by omega) ht
        unfold q_ab
        unfold i_in at *
        split
        · rw [i_adI (by omega) (by omega)]
          omega
        · omega
    exact key g (Nat.le_refl g)
end BH
