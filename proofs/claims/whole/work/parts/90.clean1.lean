/-! CLEANINGS: while none is wet, what each gets is the same for all ways of cleaning -/
def h_5 (j : Nat) : Prop := j = 0 ∨ j = 6 ∨ j = 7 ∨ j = 8 ∨ j = 9
section Q5
variable {r r' : Nat → Int32} {thaw : Int32} {fl sn ab ab' : Nat → Int32} {T : Nat}
theorem q_hs_c5 (hr : ∀ j, h_5 j → r j = r' j) (ha : ∀ t, t < T → ab t = ab' t) : ∀ t, t ≤ T → q_hs r thaw fl sn ab t = q_hs r' thaw fl sn ab' t := by
  intro t
  induction t with
  | zero => intro _; unfold q_hs; rw [hr 8 (by unfold h_5; omega), hr 9 (by unfold h_5; omega)]
  | succ t ih =>
    intro h1
    unfold q_hs
    rw [ih (by omega), ha t (by omega), hr 6 (by unfold h_5; omega), hr 7 (by unfold h_5; omega), hr 0 (by unfold h_5; omega)]
theorem q_got_c5 (hr : ∀ j, h_5 j → r j = r' j) (ha : ∀ t, t < T → ab t = ab' t) {t : Nat} (ht : t < T) : q_got r thaw fl sn ab t = q_got r' thaw fl sn ab' t := by
  unfold q_got
  rw [q_hs_c5 hr ha t (by omega), ha t (by omega), hr 6 (by unfold h_5; omega), hr 7 (by unfold h_5; omega), hr 0 (by unfold h_5; omega)]
theorem q_mgI {x : Int32} (hx : 0 ≤ x.toInt) : ∀ T, q_mg r thaw fl sn ab T ≤ x ↔ ∀ t, t < T → (q_got r thaw fl sn ab t).toInt ≤ x.toInt := by
  intro T
  rw [Int32.le_iff_toInt_le]
  induction T with
  | zero => exact ⟨fun _ t ht => absurd ht (Nat.not_lt_zero t), fun _ => by show (0 : Int32).toInt ≤ _; exact hx⟩
  | succ T ih =>
    show (q_mx (q_mg r thaw fl sn ab T) (q_got r thaw fl sn ab T)).toInt ≤ _ ↔ _
    rw [i_mxI]
    constructor
    · intro h t ht
      by_cases z : t = T
      · rw [z]; omega
      · exact ih.mp (by omega) t (by omega)
    · intro h
      have h1 := ih.mpr (fun t ht => h t (by omega))
      have h2 := h T (by omega)
      omega
end Q5
theorem q_ac0 {f : Nat → Int32} {B : Int} (hB0 : 0 ≤ B) : ∀ n : Nat, (∀ i, i < n → i_in (f i) 0 B) → n * B < 2 ^ 31 → (q_ac 0 f n).toInt ≤ 0 → ∀ i, i < n → (f i).toInt = 0 := by
  intro n
  induction n with
  | zero => intro _ _ _ i hi; exact absurd hi (Nat.not_lt_zero i)
  | succ n ih =>
    intro h h2 h3 i hi
    have e : ((n + 1 : Nat) : Int) * B = n * B + B := by rw [Int.natCast_succ, Int.add_mul, Int.one_mul]
    obtain ⟨a1, a2⟩ := q_acI hB0 n (fun i hi => h i (by omega)) (by omega)
    obtain ⟨b1, b2⟩ := h n (by omega)
    have h3 : (q_ac 0 f n + f n).toInt ≤ 0 := h3
    rw [i_adI (by omega) (by omega)] at h3
    by_cases z : i = n
    · rw [z]; omega
    · exact ih (fun i hi => h i (by omega)) (by omega) (by omega) i (by omega)
section CD
variable {U V : Nat → Nat → Int32} {w : Nat → Int32} {s T n : Nat} {S : Int}
theorem cd_got (hn : n ≤ 10) (hU : ∀ g, g < n → b_row (U g) S) (hth : i_in (w 6) 0 9) (hf : ∀ t, t < T → i_in (e_f w s t) 0 99) (hT : T ≤ 12) (hS : S ≤ 1000000000) {g : Nat} (hg : g < n) : ∀ t, t < T → i_in (e_got U w s g t) 0 5985792 := by
  intro t ht
  have hab : ∀ t, t < T → i_in (e_A U w s g t) 0 (11691 * (2 ^ g - 1)) := b_A (by omega) hU hth hf hT hS (g + 1) g (by omega) hg
  have hp := g_p2 (g := g) (by omega)
  exact i_mono (b_got (sn := e_s w s) (hU g hg) hth hf hT hS hab (by omega) ht) (by omega)
theorem cd_A (hUV : ∀ g, g < n → ∀ j, (h_5 j ∨ j = 4) → U g j = V g j) (hcV : ∀ g, g < n → ∀ t, t < T → e_car V w s g t = e_got V w s g t) : ∀ k g, g < k → g < n → (∀ h, h < g → ∀ t, t < T → (e_got V w s h t).toInt ≤ (q_top (U h)).toInt) → ∀ t, t < T → e_A U w s g t = e_A V w s g t := by
  intro k
  induction k with
  | zero => intro g h; exact absurd h (Nat.not_lt_zero g)
  | succ k ih =>
    intro g h1 hg hd t ht
    unfold e_A q_A
    refine q_ab_congr g (fun h hh => hUV h (by omega) 4 (Or.inr rfl)) (fun h hh => ?_)
    rw [q_C_eq, q_C_eq]
    show e_car U w s h t = e_car V w s h t
    have hA := ih h (by omega) (by omega) (fun h' hh' => hd h' (by omega))
    have hG : e_got U w s h t = e_got V w s h t := q_got_c5 (T := T) (fun j hj => hUV h (by omega) j (Or.inl hj)) hA ht
    rw [hcV h (by omega) t ht]
    show q_mn (e_got U w s h t) (q_top (U h)) = _
    rw [hG]
    apply Int32.toInt_inj.mp
    rw [i_mnI]
    have := hd h hh t ht
    omega
theorem cd_dry (hn : n ≤ 10) (hUV : ∀ g, g < n → ∀ j, (h_5 j ∨ j = 4) → U g j = V g j) (hU : ∀ g, g < n → b_row (U g) S) (hV : ∀ g, g < n → b_row (V g) S) (hVt : ∀ g, g < n → q_top (V g) = 9999999) (hth : i_in (w 6) 0 9) (hf : ∀ t, t < T → i_in (e_f w s t) 0 99) (hT : T ≤ 12) (hS : S ≤ 1000000000) :
    (e_all U w s T n ≤ 0 ↔ ∀ g, g < n → e_mg V w s T g ≤ q_top (U g)) ∧ ((∀ g, g < n → e_mg V w s T g ≤ q_top (U g)) → ∀ g, g < n → e_hs U w s T g = e_hs V w s T g) := by
  have gU : ∀ g, g < n → ∀ t, t < T → i_in (e_got U w s g t) 0 5985792 := fun g hg => cd_got hn hU hth hf hT hS hg
  have gV : ∀ g, g < n → ∀ t, t < T → i_in (e_got V w s g t) 0 5985792 := fun g hg => cd_got hn hV hth hf hT hS hg
  have hcV : ∀ g, g < n → ∀ t, t < T → e_car V w s g t = e_got V w s g t := fun g hg t ht => by
    show q_mn (e_got V w s g t) (q_top (V g)) = _
    rw [hVt g hg]
    apply Int32.toInt_inj.mp
    rw [i_mnI]
    have := (gV g hg t ht).2
    have e : (9999999 : Int32).toInt = 9999999 := by decide
    omega
  have tU : ∀ g, g < n → 0 ≤ (q_top (U g)).toInt := fun g hg => (hU g hg).2.2.2.2.2.1
  have dr : (∀ g, g < n → e_mg V w s T g ≤ q_top (U g)) → ∀ g, g < n → ∀ t, t < T → (e_got V w s g t).toInt ≤ (q_top (U g)).toInt := fun h g hg => (q_mgI (tU g hg) T).mp (h g hg)
  have hA : (∀ g, g < n → e_mg V w s T g ≤ q_top (U g)) → ∀ g, g < n → ∀ t, t < T → e_A U w s g t = e_A V w s g t := fun h g hg => cd_A hUV hcV (g + 1) g (by omega) hg (fun h' hh' => dr h h' (by omega))
  have splI : ∀ g, g < n → ∀ t, t < T → (e_spl U w s g t).toInt = (e_got U w s g t).toInt - min (e_got U w s g t).toInt (q_top (U g)).toInt := fun g hg t ht => by
    have e := i_mnI (e_got U w s g t) (q_top (U g))
    have := (gU g hg t ht).1
    have := (gU g hg t ht).2
    have := tU g hg
    show (e_got U w s g t - q_mn (e_got U w s g t) (q_top (U g))).toInt = _
    rw [i_sbI (by rw [e]; omega) (by rw [e]; omega), e]
  refine ⟨⟨fun h => ?_, fun h => ?_⟩, fun h g hg => ?_⟩
  · have hov : ∀ g, g < n → i_in (e_ov U w s T g) 0 71829504 := fun g hg => i_mono (b_ovI (by omega) (by omega) (hU g hg).2.2.2.2.2 (gU g hg)) (by omega)
    unfold e_all at h
    rw [q_all_ac] at h
    have ov0 := q_ac0 (f := fun g => e_ov U w s T g) (B := 71829504) (by omega) n hov (by omega) (Int32.le_iff_toInt_le.mp h)
    have sp0 : ∀ g, g < n → ∀ t, t < T → (e_spl U w s g t).toInt = 0 := fun g hg => by
      have h0 := ov0 g hg
      unfold e_ov at h0
      rw [q_ov_ac] at h0
      exact q_ac0 (f := fun t => e_spl U w s g t) (B := 5985792) (by omega) T (fun t ht => by
        have e := splI g hg t ht
        have := (gU g hg t ht).1
        have := (gU g hg t ht).2
        have := tU g hg
        unfold i_in
        rw [e]
        omega) (by omega) (by rw [h0]; omega)
    have all : ∀ k g, g < k → g < n → ∀ t, t < T → (e_got V w s g t).toInt ≤ (q_top (U g)).toInt := by
      intro k
      induction k with
      | zero => intro g hk; exact absurd hk (Nat.not_lt_zero g)
      | succ k ih =>
        intro g hk hg t ht
        have hA' := cd_A hUV hcV (g + 1) g (by omega) hg (fun h' hh' => ih h' (by omega) (by omega))
        have hG : e_got U w s g t = e_got V w s g t := q_got_c5 (T := T) (fun j hj => hUV g hg j (Or.inl hj)) hA' ht
        have e := splI g hg t ht
        have e0 := sp0 g hg t ht
        rw [← hG]
        omega
    intro g hg
    exact (q_mgI (tU g hg) T).mpr (all (g + 1) g (by omega) hg)
  · have sp0 : ∀ g, g < n → ∀ t, t < T → e_spl U w s g t = 0 := fun g hg t ht => by
      have hG : e_got U w s g t = e_got V w s g t := q_got_c5 (T := T) (fun j hj => hUV g hg j (Or.inl hj)) (hA h g hg) ht
      apply Int32.toInt_inj.mp
      rw [splI g hg t ht, hG, i_z]
      have := dr h g hg t ht
      omega
    have ov0 : ∀ g, g < n → e_ov U w s T g = 0 := fun g hg => by
      unfold e_ov
      rw [q_ov_ac]
      exact (q_ac_congr T (fun t ht => sp0 g hg t ht)).trans (q_ac_zero T)
    unfold e_all
    rw [q_all_ac]
    have : q_ac 0 (fun h => q_ov (U h) (w 6) (e_f w s) (e_s w s) (q_A U (w 6) (e_f w s) (e_s w s) h) T) n = 0 := (q_ac_congr n (fun g hg => ov0 g hg)).trans (q_ac_zero n)
    rw [this]
    exact Int32.le_refl 0
  · exact q_hs_c5 (T := T) (fun j hj => hUV g hg j (Or.inl hj)) (hA h g hg) T (Nat.le_refl T)
end CD
