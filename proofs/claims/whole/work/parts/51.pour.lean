/-! A STORM OVER THE STREET -/
/-- what comes to the roof h in the hour t from the first g houses -/
def q_ab (nx : Nat → Int32) (car : Nat → Nat → Int32) (h t : Nat) : Nat → Int32
  | 0 => 0
  | g + 1 => if nx g = nI h then q_ab nx car h t g + car g t else q_ab nx car h t g
theorem q_ab_congr {nx nx' : Nat → Int32} {car car' : Nat → Nat → Int32} {h t : Nat} : ∀ g, (∀ i, i < g → nx i = nx' i) → (∀ i, i < g → car i t = car' i t) → q_ab nx car h t g = q_ab nx' car' h t g := by
  intro g
  induction g with
  | zero => intro _ _; rfl
  | succ g ih =>
    intro h1 h2
    unfold q_ab
    rw [ih (fun i hi => h1 i (by first | omega | (unfold c_H; omega))) (fun i hi => h2 i (by first | omega | (unfold c_H; omega))), h1 g (by first | omega | (unfold c_H; omega)), h2 g (by first | omega | (unfold c_H; omega))]
theorem q_hs_congr {r r' : Nat → Int32} {thaw : Int32} {fl sn ab ab' : Nat → Int32} (hr : ∀ j, j < 12 → r j = r' j) : ∀ t, (∀ i, i < t → ab i = ab' i) → q_hs r thaw fl sn ab t = q_hs r' thaw fl sn ab' t := by
  intro t
  induction t with
  | zero => intro _; unfold q_hs; rw [hr 8 (by decide), hr 9 (by decide)]
  | succ t ih =>
    intro h1
    unfold q_hs
    rw [ih (fun i hi => h1 i (by first | omega | (unfold c_H; omega))), h1 t (by first | omega | (unfold c_H; omega)), hr 6 (by decide), hr 7 (by decide), hr 0 (by decide)]
theorem q_got_congr {r r' : Nat → Int32} {thaw : Int32} {fl sn ab ab' : Nat → Int32} (hr : ∀ j, j < 12 → r j = r' j) (t : Nat) (h1 : ∀ i, i < t + 1 → ab i = ab' i) : q_got r thaw fl sn ab t = q_got r' thaw fl sn ab' t := by
  unfold q_got
  rw [q_hs_congr hr t (fun i hi => h1 i (by first | omega | (unfold c_H; omega))), h1 t (by first | omega | (unfold c_H; omega)), hr 6 (by decide), hr 7 (by decide), hr 0 (by decide)]
theorem q_top_congr {r r' : Nat → Int32} (hr : ∀ j, j < 12 → r j = r' j) : q_top r = q_top r' := by unfold q_top; rw [hr 1 (by decide), hr 5 (by decide)]
theorem q_car_congr {r r' : Nat → Int32} {thaw : Int32} {fl sn ab ab' : Nat → Int32} (hr : ∀ j, j < 12 → r j = r' j) (t : Nat) (h1 : ∀ i, i < t + 1 → ab i = ab' i) : q_car r thaw fl sn ab t = q_car r' thaw fl sn ab' t := by
  unfold q_car
  rw [q_got_congr hr t h1, q_top_congr hr]
theorem q_spl_congr {r r' : Nat → Int32} {thaw : Int32} {fl sn ab ab' : Nat → Int32} (hr : ∀ j, j < 12 → r j = r' j) (t : Nat) (h1 : ∀ i, i < t + 1 → ab i = ab' i) : q_spl r thaw fl sn ab t = q_spl r' thaw fl sn ab' t := by
  unfold q_spl
  rw [q_got_congr hr t h1, q_car_congr hr t h1]
theorem q_ov_congr {r r' : Nat → Int32} {thaw : Int32} {fl sn ab ab' : Nat → Int32} (hr : ∀ j, j < 12 → r j = r' j) : ∀ t, (∀ i, i < t → ab i = ab' i) → q_ov r thaw fl sn ab t = q_ov r' thaw fl sn ab' t := by
  intro t
  induction t with
  | zero => intro _; rfl
  | succ t ih =>
    intro h1
    unfold q_ov
    rw [ih (fun i hi => h1 i (by first | omega | (unfold c_H; omega))), q_spl_congr hr t (fun i hi => h1 i (by first | omega | (unfold c_H; omega)))]
theorem q_mg_congr {r r' : Nat → Int32} {thaw : Int32} {fl sn ab ab' : Nat → Int32} (hr : ∀ j, j < 12 → r j = r' j) : ∀ t, (∀ i, i < t → ab i = ab' i) → q_mg r thaw fl sn ab t = q_mg r' thaw fl sn ab' t := by
  intro t
  induction t with
  | zero => intro _; rfl
  | succ t ih =>
    intro h1
    unfold q_mg
    rw [ih (fun i hi => h1 i (by first | omega | (unfold c_H; omega))), q_got_congr hr t (fun i hi => h1 i (by first | omega | (unfold c_H; omega)))]
/-- what the houses below h carry, hour by hour -/
def q_tb (r : Nat → Nat → Int32) (thaw : Int32) (fl sn : Nat → Int32) : Nat → (Nat → Nat → Int32)
  | 0 => fun _ _ => 0
  | h + 1 => fun g t => if g = h then q_car (r h) thaw fl sn (fun t => q_ab (fun g => r g 4) (q_tb r thaw fl sn h) h t h) t else q_tb r thaw fl sn h g t
def q_C (r : Nat → Nat → Int32) (thaw : Int32) (fl sn : Nat → Int32) (g t : Nat) : Int32 := q_tb r thaw fl sn (g + 1) g t
def q_A (r : Nat → Nat → Int32) (thaw : Int32) (fl sn : Nat → Int32) (h t : Nat) : Int32 := q_ab (fun g => r g 4) (q_C r thaw fl sn) h t h
theorem q_tb_lt {r : Nat → Nat → Int32} {thaw : Int32} {fl sn : Nat → Int32} : ∀ h g, g < h → q_tb r thaw fl sn h g = q_C r thaw fl sn g := by
  intro h
  induction h with
  | zero => intro g hg; omega
  | succ h ih =>
    intro g hg
    by_cases e : g = h
    · subst e; rfl
    · funext t
      show (if g = h then _ else q_tb r thaw fl sn h g t) = _
      rw [if_neg e, ih g (by first | omega | (unfold c_H; omega))]
theorem q_C_eq (r : Nat → Nat → Int32) (thaw : Int32) (fl sn : Nat → Int32) (h : Nat) : q_C r thaw fl sn h = q_car (r h) thaw fl sn (q_A r thaw fl sn h) := by
  funext t
  show (if h = h then _ else _) = _
  rw [if_pos rfl]
  congr 1
  funext t'
  exact q_ab_congr h (fun _ _ => rfl) (fun i hi => by rw [q_tb_lt h i hi])
/-- how much runs over at the first h houses -/
def q_all (r : Nat → Nat → Int32) (thaw : Int32) (fl sn : Nat → Int32) (T : Nat) : Nat → Int32
  | 0 => 0
  | h + 1 => q_all r thaw fl sn T h + q_ov (r h) thaw fl sn (q_A r thaw fl sn h) T
/-- the house h of the roofs k0 -/
abbrev c_H (k0 h : Nat) : Nat := 81 + 50 * (k0 - 3) + 5 * h
theorem c_ra {k0 h : Nat} (h1 : 3 ≤ k0) (h2 : k0 ≤ 5) : z_ra (k0 + 3) h = c_H k0 h := by
  unfold z_ra c_H
  rw [if_pos (by first | omega | (unfold c_H; omega))]
  omega
/-- behind the storm's way over the house K = c_H k0 i -/
def c_pI (K : Nat) (r : Nat → Int32) (thaw : Int32) (fl sn ab : Nat → Int32) (T : Nat) (M N : zM) : Prop :=
  N.2 = M.2 ∧ (∀ a, a ≠ K → a ≠ K + 1 → a ≠ K + 2 → a ≠ K + 3 → a ≠ K + 4 → N.1 a = M.1 a) ∧
  (∀ j, N.1 K j = if j = 8 then (q_hs r thaw fl sn ab T).1 else if j = 9 then (q_hs r thaw fl sn ab T).2 else if j = 12 then q_ov r thaw fl sn ab T else if j = 14 then q_mg r thaw fl sn ab T else M.1 K j) ∧
  (∀ j, j < T → N.1 (K + 2) j = q_got r thaw fl sn ab j ∧ N.1 (K + 3) j = q_car r thaw fl sn ab j ∧ N.1 (K + 4) j = q_spl r thaw fl sn ab j)
section CP
variable {k0 i st T : Nat} {M : zM}
/-- what comes from above is added up: the first g houses are through; of house g itself the first t hours -/
def c_aI (k0 i : Nat) (T : Nat) (M : zM) (g t : Nat) (N : zM) : Prop := N.2 = M.2 ∧ (∀ a, a ≠ c_H k0 i + 1 → N.1 a = M.1 a) ∧ ∀ j, j < T → N.1 (c_H k0 i + 1) j = if j < t then q_ab (fun g => M.1 (c_H k0 g) 4) (fun g t => M.1 (c_H k0 g + 3) t) i j (g + 1) else q_ab (fun g => M.1 (c_H k0 g) 4) (fun g t => M.1 (c_H k0 g + 3) t) i j g
theorem c_p59 (h1 : 3 ≤ k0) (h2 : k0 ≤ 5) (hi : i < 10) (hst : 231 ≤ st) (hT : M.1 st 0 = nI T) (hT12 : T ≤ 12) {g : Nat} (hg : g < i) (hnx : M.1 (c_H k0 g) 4 = nI i) {P : zM → Prop} {K36 : Nat → Int32 → Nat → Nat → Int32 → zM → Option zM}
    (hK : ∀ N, c_aI k0 i T M (g + 1) 0 N → p_ok (K36 k0 (nI i) st (c_H k0 i) (nI (g + 1)) N) P) : ∀ (d t n : Nat) (N : zM), t + d = T → d < n → c_aI k0 i T M g t N → p_ok (f_X5_pass_59 K36 n k0 (nI i) st (c_H k0 i) (nI g) (nI t) N) P := by
  intro d
  induction d with
  | zero =>
    intro t n N htd hn hI
    obtain ⟨n, rfl⟩ : ∃ m, n = m + 1 := ⟨n - 1, by omega⟩
    have : t = T := by omega
    subst this
    rw [f_X5_pass_59]
    refine p_t ?_ (p_l ?_)
    · rw [hI.2.1 st (by first | omega | (unfold c_H; omega)), hT]
      exact nI_le (Nat.le_refl _) (by first | omega | (unfold c_H; omega))
    · rw [p_s1]
      refine hK N ⟨hI.1, hI.2.1, fun j hj => ?_⟩
      rw [hI.2.2 j hj, if_pos hj, if_neg (Nat.not_lt_zero j)]
  | succ d ih =>
    intro t n N htd hn hI
    obtain ⟨n, rfl⟩ : ∃ m, n = m + 1 := ⟨n - 1, by omega⟩
    rw [f_X5_pass_59]
    have ecl : Int32.toNatClampNeg (nI t) = t := p_cl (by first | omega | (unfold c_H; omega))
    have ecg : Int32.toNatClampNeg (nI g) = g := p_cl (by first | omega | (unfold c_H; omega))
    refine p_f ?_ ?_
    · rw [hI.2.1 st (by first | omega | (unfold c_H; omega)), hT]
      exact nI_ge (by first | omega | (unfold c_H; omega)) (by first | omega | (unfold c_H; omega))
    refine p_g (p_ix (by first | omega | (unfold c_H; omega)) (by decide)) (p_g (p_ix (by first | omega | (unfold c_H; omega)) (by decide)) (p_g (p_ix (by first | omega | (unfold c_H; omega)) (by decide)) (p_g (p_ix (by first | omega | (unfold c_H; omega)) (by decide)) (p_lx (fun M7 e7 => p_l ?_)))))
    rw [p_s1]
    refine ih (t + 1) n M7 (by first | omega | (unfold c_H; omega)) (by first | omega | (unfold c_H; omega)) ?_
    rw [ecl, ecg, c_ra h1 h2, hI.2.1 (c_H k0 g + 3) (by first | omega | (unfold c_H; omega)), hI.2.2 t (by first | omega | (unfold c_H; omega)), if_neg (by first | omega | (unfold c_H; omega))] at e7
    refine ⟨by rw [e7, p_w2]; exact hI.1, fun a ha => by rw [e7, p_nr ha]; exact hI.2.1 a ha, fun j hj => ?_⟩
    rw [e7, p_eq]
    by_cases e : j = t
    · subst e
      rw [if_pos rfl, if_pos (by first | omega | (unfold c_H; omega))]
      show _ = if _ then _ else _
      rw [if_pos hnx]
    · rw [if_neg e, hI.2.2 j hj]
      by_cases hlt : j < t
      · rw [if_pos hlt, if_pos (by first | omega | (unfold c_H; omega))]
      · rw [if_neg hlt, if_neg (by first | omega | (unfold c_H; omega))]
theorem c_p36 (h1 : 3 ≤ k0) (h2 : k0 ≤ 5) (hi : i < 10) (hst : 231 ≤ st) (hT : M.1 st 0 = nI T) (hT12 : T ≤ 12) : ∀ (d g n : Nat) (N : zM), g + d = i → d < n → c_aI k0 i T M g 0 N →
    p_ok (f_X5_pass_36 n k0 (nI i) st (c_H k0 i) (nI g) N) (c_pI (c_H k0 i) (M.1 (c_H k0 i)) (M.1 k0 1) (M.1 (st + 1)) (M.1 (st + 2)) (fun t => q_ab (fun g => M.1 (c_H k0 g) 4) (fun g t => M.1 (c_H k0 g + 3) t) i t i) T M) := by
  intro d
  induction d with
  | zero =>
    intro g n N hgd hn hI
    obtain ⟨n, rfl⟩ : ∃ m, n = m + 1 := ⟨n - 1, by omega⟩
    have : g = i := by omega
    subst this
    rw [f_X5_pass_36]
    refine p_t (nI_le (Nat.le_refl _) (by first | omega | (unfold c_H; omega))) ?_
    have hd := c_drink (k := c_H k0 g) (st := st) (T := T) (thaw := N.1 k0 1) (M := N) (by rw [hI.2.1 st (by first | omega | (unfold c_H; omega)), hT]) hT12 (by first | omega | (unfold c_H; omega))
    refine p_bx hd (fun x hx => p_some ?_)
    obtain ⟨x2, xo, xk, xg, xc, xs⟩ := hx
    have er : ∀ j, j < 12 → N.1 (c_H k0 g) j = M.1 (c_H k0 g) j := fun j _ => by rw [hI.2.1 _ (by first | omega | (unfold c_H; omega))]
    have eab : ∀ j, j < T → N.1 (c_H k0 g + 1) j = q_ab (fun g => M.1 (c_H k0 g) 4) (fun g t => M.1 (c_H k0 g + 3) t) g j g := fun j hj => by rw [hI.2.2 j hj, if_neg (Nat.not_lt_zero j)]
    rw [hI.2.1 k0 (by first | omega | (unfold c_H; omega)), hI.2.1 (st + 1) (by first | omega | (unfold c_H; omega)), hI.2.1 (st + 2) (by first | omega | (unfold c_H; omega))] at xk xg xc xs
    refine ⟨x2.trans hI.1, fun a a0 a1 a2 a3 a4 => by rw [xo a a0 a2 a3 a4]; exact hI.2.1 a a1, fun j => ?_, fun j hj => ?_⟩
    · rw [xk j, q_hs_congr er T eab, q_ov_congr er T eab, q_mg_congr er T eab, hI.2.1 (c_H k0 g) (by first | omega | (unfold c_H; omega))]
    · rw [xg j, xc j, xs j, if_pos hj, if_pos hj, if_pos hj]
      exact ⟨q_got_congr er j (fun q hq => eab q (by first | omega | (unfold c_H; omega))), q_car_congr er j (fun q hq => eab q (by first | omega | (unfold c_H; omega))), q_spl_congr er j (fun q hq => eab q (by first | omega | (unfold c_H; omega)))⟩
  | succ d ih =>
    intro g n N hgd hn hI
    obtain ⟨n, rfl⟩ : ∃ m, n = m + 1 := ⟨n - 1, by omega⟩
    rw [f_X5_pass_36]
    have ecg : Int32.toNatClampNeg (nI g) = g := p_cl (by first | omega | (unfold c_H; omega))
    refine p_f (nI_ge (by first | omega | (unfold c_H; omega)) (by first | omega | (unfold c_H; omega))) (p_g (p_ix (by first | omega | (unfold c_H; omega)) (by decide)) ?_)
    rw [ecg, c_ra h1 h2, hI.2.1 (c_H k0 g) (by first | omega | (unfold c_H; omega))]
    refine p_if (fun c => ?_) (fun c => p_l ?_)
    · rw [p_0]
      exact c_p59 h1 h2 hi hst hT hT12 (by first | omega | (unfold c_H; omega)) c (fun N' hN' => ih (g + 1) n N' (by first | omega | (unfold c_H; omega)) (by first | omega | (unfold c_H; omega)) hN') T 0 z_F N (by first | omega | (unfold c_H; omega)) (by unfold z_F; omega) hI
    · rw [p_s1]
      refine ih (g + 1) n N (by first | omega | (unfold c_H; omega)) (by first | omega | (unfold c_H; omega)) ⟨hI.1, hI.2.1, fun j hj => ?_⟩
      rw [hI.2.2 j hj, if_neg (Nat.not_lt_zero j), if_neg (Nat.not_lt_zero j)]
      show _ = if _ then _ else _
      rw [if_neg c]
theorem c_p10 (h1 : 3 ≤ k0) (h2 : k0 ≤ 5) (hi : i < 10) (hst : 231 ≤ st) (hT : M.1 st 0 = nI T) (hT12 : T ≤ 12) : ∀ (d t n : Nat) (N : zM), t + d = T → d < n → (N.2 = M.2 ∧ (∀ a, a ≠ c_H k0 i + 1 → N.1 a = M.1 a) ∧ ∀ j, j < t → N.1 (c_H k0 i + 1) j = 0) →
    p_ok (f_X5_pass_10 n k0 (nI i) st (c_H k0 i) (nI t) N) (c_pI (c_H k0 i) (M.1 (c_H k0 i)) (M.1 k0 1) (M.1 (st + 1)) (M.1 (st + 2)) (fun t => q_ab (fun g => M.1 (c_H k0 g) 4) (fun g t => M.1 (c_H k0 g + 3) t) i t i) T M) := by
  intro d
  induction d with
  | zero =>
    intro t n N htd hn hI
    obtain ⟨n, rfl⟩ : ∃ m, n = m + 1 := ⟨n - 1, by omega⟩
    have : t = T := by omega
    subst this
    rw [f_X5_pass_10]
    refine p_t ?_ ?_
    · rw [hI.2.1 st (by first | omega | (unfold c_H; omega)), hT]
      exact nI_le (Nat.le_refl _) (by first | omega | (unfold c_H; omega))
    · rw [p_0]
      exact c_p36 h1 h2 hi hst hT hT12 i 0 z_F N (by first | omega | (unfold c_H; omega)) (by unfold z_F; omega) ⟨hI.1, hI.2.1, fun j hj => by rw [hI.2.2 j hj, if_neg (Nat.not_lt_zero j)]; rfl⟩
  | succ d ih =>
    intro t n N htd hn hI
    obtain ⟨n, rfl⟩ : ∃ m, n = m + 1 := ⟨n - 1, by omega⟩
    rw [f_X5_pass_10]
    have ecl : Int32.toNatClampNeg (nI t) = t := p_cl (by first | omega | (unfold c_H; omega))
    refine p_f ?_ (p_g (p_ix (by first | omega | (unfold c_H; omega)) (by decide)) (p_lx (fun M3 e3 => p_l ?_)))
    · rw [hI.2.1 st (by first | omega | (unfold c_H; omega)), hT]
      exact nI_ge (by first | omega | (unfold c_H; omega)) (by first | omega | (unfold c_H; omega))
    rw [p_s1]
    rw [ecl] at e3
    refine ih (t + 1) n M3 (by first | omega | (unfold c_H; omega)) (by first | omega | (unfold c_H; omega)) ⟨by rw [e3, p_w2]; exact hI.1, fun a ha => by rw [e3, p_nr ha]; exact hI.2.1 a ha, fun j hj => ?_⟩
    rw [e3, p_eq]
    by_cases e : j = t
    · rw [if_pos e]
    · rw [if_neg e]; exact hI.2.2 j (by first | omega | (unfold c_H; omega))
theorem c_pass (h1 : 3 ≤ k0) (h2 : k0 ≤ 5) (hi : i < 10) (hst : 231 ≤ st) (hT : M.1 st 0 = nI T) (hT12 : T ≤ 12) :
    p_ok (f_X5_pass k0 (nI i) st M) (c_pI (c_H k0 i) (M.1 (c_H k0 i)) (M.1 k0 1) (M.1 (st + 1)) (M.1 (st + 2)) (fun t => q_ab (fun g => M.1 (c_H k0 g) 4) (fun g t => M.1 (c_H k0 g + 3) t) i t i) T M) := by
  unfold f_X5_pass
  refine p_g (p_ix (by first | omega | (unfold c_H; omega)) (by decide)) (p_l ?_)
  rw [p_cl (show i < 2 ^ 31 by omega), c_ra h1 h2, p_0]
  exact c_p10 h1 h2 hi hst hT hT12 T 0 z_F M (by first | omega | (unfold c_H; omega)) (by unfold z_F; omega) ⟨rfl, fun _ _ => rfl, fun j hj => by omega⟩
end CP
