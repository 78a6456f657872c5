/-- behind the storm's way over the first h houses of the roofs k0 -/
def c_oI (k0 T : Nat) (thaw : Int32) (fl sn : Nat → Int32) (M : zM) (h : Nat) (N : zM) : Prop :=
  N.2 = M.2 ∧ (∀ a, (∀ g, g < h → a < c_H k0 g ∨ c_H k0 g + 4 < a) → N.1 a = M.1 a) ∧
  ∀ g, g < h → (∀ j, N.1 (c_H k0 g) j = if j = 8 then (q_hs (M.1 (c_H k0 g)) thaw fl sn (q_A (fun g => M.1 (c_H k0 g)) thaw fl sn g) T).1 else if j = 9 then (q_hs (M.1 (c_H k0 g)) thaw fl sn (q_A (fun g => M.1 (c_H k0 g)) thaw fl sn g) T).2 else if j = 12 then q_ov (M.1 (c_H k0 g)) thaw fl sn (q_A (fun g => M.1 (c_H k0 g)) thaw fl sn g) T else if j = 14 then q_mg (M.1 (c_H k0 g)) thaw fl sn (q_A (fun g => M.1 (c_H k0 g)) thaw fl sn g) T else M.1 (c_H k0 g) j) ∧
    ∀ j, j < T → N.1 (c_H k0 g + 2) j = q_got (M.1 (c_H k0 g)) thaw fl sn (q_A (fun g => M.1 (c_H k0 g)) thaw fl sn g) j ∧ N.1 (c_H k0 g + 3) j = q_car (M.1 (c_H k0 g)) thaw fl sn (q_A (fun g => M.1 (c_H k0 g)) thaw fl sn g) j ∧ N.1 (c_H k0 g + 4) j = q_spl (M.1 (c_H k0 g)) thaw fl sn (q_A (fun g => M.1 (c_H k0 g)) thaw fl sn g) j
section CO
variable {k0 st T : Nat} {M : zM}
theorem c_o5 (h1 : 3 ≤ k0) (h2 : k0 ≤ 5) (hst : 231 ≤ st) (hT : M.1 st 0 = nI T) (hT12 : T ≤ 12) {cn la : Nat} (hcn : M.1 k0 0 = nI cn) (hcn10 : cn ≤ 10) (hla : la ≤ 10) {m : Nat} (hm : m = min (la + 1) cn) : ∀ (d h n : Nat) (N : zM), h + d = m → d < n → c_oI k0 T (M.1 k0 1) (M.1 (st + 1)) (M.1 (st + 2)) M h N →
    p_ok (f_X5_pour_5 n k0 st (nI la) (q_all (fun g => M.1 (c_H k0 g)) (M.1 k0 1) (M.1 (st + 1)) (M.1 (st + 2)) T h) (nI h) N) (fun x => x.1 = q_all (fun g => M.1 (c_H k0 g)) (M.1 k0 1) (M.1 (st + 1)) (M.1 (st + 2)) T m ∧ c_oI k0 T (M.1 k0 1) (M.1 (st + 1)) (M.1 (st + 2)) M m x.2) := by
  intro d
  induction d with
  | zero =>
    intro h n N hhd hn hI
    obtain ⟨n, rfl⟩ : ∃ m, n = m + 1 := ⟨n - 1, by omega⟩
    have : h = m := by omega
    subst this
    rw [f_X5_pour_5]
    have ek : N.1 k0 = M.1 k0 := hI.2.1 k0 (fun g hg => Or.inl (by first | omega | (unfold c_H; omega) | (unfold c_H at *; omega)))
    refine p_if (fun _ => p_some ⟨rfl, hI⟩) (fun c => p_t ?_ (p_some ⟨rfl, hI⟩))
    rw [ek, hcn]
    have hle : ¬ la < h := fun q => c (nI_lt q (by first | omega | (unfold c_H; omega) | (unfold c_H at *; omega)))
    exact nI_le (by first | omega | (unfold c_H; omega) | (unfold c_H at *; omega)) (by first | omega | (unfold c_H; omega) | (unfold c_H at *; omega))
  | succ d ih =>
    intro h n N hhd hn hI
    obtain ⟨n, rfl⟩ : ∃ m, n = m + 1 := ⟨n - 1, by omega⟩
    rw [f_X5_pour_5]
    have ek : N.1 k0 = M.1 k0 := hI.2.1 k0 (fun g hg => Or.inl (by first | omega | (unfold c_H; omega) | (unfold c_H at *; omega)))
    have es : ∀ q, q ≤ 2 → N.1 (st + q) = M.1 (st + q) := fun q hq => hI.2.1 (st + q) (fun g hg => Or.inr (by first | omega | (unfold c_H; omega) | (unfold c_H at *; omega)))
    have ecl : Int32.toNatClampNeg (nI h) = h := p_cl (by first | omega | (unfold c_H; omega) | (unfold c_H at *; omega))
    refine p_f (nI_nlt (by first | omega | (unfold c_H; omega) | (unfold c_H at *; omega)) (by first | omega | (unfold c_H; omega) | (unfold c_H at *; omega))) (p_f ?_ ?_)
    · rw [ek, hcn]
      exact nI_ge (by first | omega | (unfold c_H; omega) | (unfold c_H at *; omega)) (by first | omega | (unfold c_H; omega) | (unfold c_H at *; omega))
    refine p_bx (c_pass (i := h) (st := st) (T := T) (M := N) h1 h2 (by first | omega | (unfold c_H; omega) | (unfold c_H at *; omega)) hst (by have := es 0 (Nat.zero_le 2); rw [Nat.add_zero] at this; rw [this]; exact hT) hT12) (fun x hx => ?_)
    refine p_g (p_ix (by first | omega | (unfold c_H; omega) | (unfold c_H at *; omega)) (by decide)) (p_l (p_l ?_))
    rw [p_s1, ecl, c_ra h1 h2]
    obtain ⟨x2, xo, xk, xg⟩ := hx
    have eh : N.1 (c_H k0 h) = M.1 (c_H k0 h) := hI.2.1 _ (fun g hg => Or.inr (by first | omega | (unfold c_H; omega) | (unfold c_H at *; omega)))
    have eab : ∀ t, t < T → q_ab (fun g => N.1 (c_H k0 g) 4) (fun g t => N.1 (c_H k0 g + 3) t) h t h = q_A (fun g => M.1 (c_H k0 g)) (M.1 k0 1) (M.1 (st + 1)) (M.1 (st + 2)) h t := fun t ht => by
      refine q_ab_congr h (fun i hi => ?_) (fun i hi => ?_)
      · rw [(hI.2.2 i hi).1 4]; rfl
      · rw [q_C_eq]; exact ((hI.2.2 i hi).2 t ht).2.1
    rw [eh, ek, es 1 (by first | omega | (unfold c_H; omega) | (unfold c_H at *; omega)), es 2 (by first | omega | (unfold c_H; omega) | (unfold c_H at *; omega))] at xk xg
    have er : ∀ j, j < 12 → M.1 (c_H k0 h) j = M.1 (c_H k0 h) j := fun _ _ => rfl
    have e12 : x.1 (c_H k0 h) 12 = q_ov (M.1 (c_H k0 h)) (M.1 k0 1) (M.1 (st + 1)) (M.1 (st + 2)) (q_A (fun g => M.1 (c_H k0 g)) (M.1 k0 1) (M.1 (st + 1)) (M.1 (st + 2)) h) T := by
      rw [xk 12]
      exact q_ov_congr er T eab
    rw [e12]
    refine ih (h + 1) n x (by first | omega | (unfold c_H; omega) | (unfold c_H at *; omega)) (by first | omega | (unfold c_H; omega) | (unfold c_H at *; omega)) ⟨x2.trans hI.1, fun a ha => ?_, fun g hg => ?_⟩
    · have hh := ha h (by first | omega | (unfold c_H; omega) | (unfold c_H at *; omega))
      rw [xo a (by first | omega | (unfold c_H; omega) | (unfold c_H at *; omega)) (by first | omega | (unfold c_H; omega) | (unfold c_H at *; omega)) (by first | omega | (unfold c_H; omega) | (unfold c_H at *; omega)) (by first | omega | (unfold c_H; omega) | (unfold c_H at *; omega)) (by first | omega | (unfold c_H; omega) | (unfold c_H at *; omega))]
      exact hI.2.1 a (fun g hg => ha g (by first | omega | (unfold c_H; omega) | (unfold c_H at *; omega)))
    · by_cases e : g = h
      · subst e
        refine ⟨fun j => ?_, fun j hj => ?_⟩
        · rw [xk j, q_hs_congr er T eab, q_ov_congr er T eab, q_mg_congr er T eab]
        · obtain ⟨a1, a2, a3⟩ := xg j hj
          exact ⟨a1.trans (q_got_congr er j (fun q hq => eab q (by first | omega | (unfold c_H; omega) | (unfold c_H at *; omega)))), a2.trans (q_car_congr er j (fun q hq => eab q (by first | omega | (unfold c_H; omega) | (unfold c_H at *; omega)))), a3.trans (q_spl_congr er j (fun q hq => eab q (by first | omega | (unfold c_H; omega) | (unfold c_H at *; omega))))⟩
      · have hlt : g < h := by omega
        refine ⟨fun j => ?_, fun j hj => ?_⟩
        · rw [xo (c_H k0 g) (by first | omega | (unfold c_H; omega) | (unfold c_H at *; omega)) (by first | omega | (unfold c_H; omega) | (unfold c_H at *; omega)) (by first | omega | (unfold c_H; omega) | (unfold c_H at *; omega)) (by first | omega | (unfold c_H; omega) | (unfold c_H at *; omega)) (by first | omega | (unfold c_H; omega) | (unfold c_H at *; omega))]
          exact (hI.2.2 g hlt).1 j
        · rw [xo (c_H k0 g + 2) (by first | omega | (unfold c_H; omega) | (unfold c_H at *; omega)) (by first | omega | (unfold c_H; omega) | (unfold c_H at *; omega)) (by first | omega | (unfold c_H; omega) | (unfold c_H at *; omega)) (by first | omega | (unfold c_H; omega) | (unfold c_H at *; omega)) (by first | omega | (unfold c_H; omega) | (unfold c_H at *; omega)), xo (c_H k0 g + 3) (by first | omega | (unfold c_H; omega) | (unfold c_H at *; omega)) (by first | omega | (unfold c_H; omega) | (unfold c_H at *; omega)) (by first | omega | (unfold c_H; omega) | (unfold c_H at *; omega)) (by first | omega | (unfold c_H; omega) | (unfold c_H at *; omega)) (by first | omega | (unfold c_H; omega) | (unfold c_H at *; omega)), xo (c_H k0 g + 4) (by first | omega | (unfold c_H; omega) | (unfold c_H at *; omega)) (by first | omega | (unfold c_H; omega) | (unfold c_H at *; omega)) (by first | omega | (unfold c_H; omega) | (unfold c_H at *; omega)) (by first | omega | (unfold c_H; omega) | (unfold c_H at *; omega)) (by first | omega | (unfold c_H; omega) | (unfold c_H at *; omega))]
          exact (hI.2.2 g hlt).2 j hj
/-- pour: a storm over the houses up to a last one -/
theorem c_pour (h1 : 3 ≤ k0) (h2 : k0 ≤ 5) (hst : 231 ≤ st) (hT : M.1 st 0 = nI T) (hT12 : T ≤ 12) {cn la : Nat} (hcn : M.1 k0 0 = nI cn) (hcn10 : cn ≤ 10) (hla : la ≤ 10) :
    p_ok (f_X5_pour k0 st (nI la) M) (fun x => x.1 = q_all (fun g => M.1 (c_H k0 g)) (M.1 k0 1) (M.1 (st + 1)) (M.1 (st + 2)) T (min (la + 1) cn) ∧ c_oI k0 T (M.1 k0 1) (M.1 (st + 1)) (M.1 (st + 2)) M (min (la + 1) cn) x.2) := by
  unfold f_X5_pour
  have h := c_o5 h1 h2 hst hT hT12 hcn hcn10 hla rfl (min (la + 1) cn) 0 z_F M (by first | omega | (unfold c_H; omega) | (unfold c_H at *; omega)) (by unfold z_F; omega) ⟨rfl, fun _ _ => rfl, fun g hg => by omega⟩
  rw [p_0]
  exact h
end CO
