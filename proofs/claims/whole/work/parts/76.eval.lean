/-! THE LAW'S WORTH, as numbers on a pile -/
def v_ar (A : Nat → Int32) : List Int32 → Prop
  | [] => True
  | x :: L => A L.length = x ∧ v_ar A L
theorem v_ar_cg {A B : Nat → Int32} : ∀ L : List Int32, (∀ i, i < L.length → B i = A i) → v_ar A L → v_ar B L := by
  intro L
  induction L with
  | nil => intro _ _; trivial
  | cons x L ih =>
    intro h h2
    exact ⟨by rw [h _ (by simp)]; exact h2.1, ih (fun i hi => h i (by simp; omega)) h2.2⟩
def v_op (k : Nat) (a b : Int32) : Int32 := if k = 13 then a + b else if k = 14 then a - b else if k = 15 then a * b else if k = 17 then (if b ≤ a then 0 else 1) else if k = 18 then (if a = b then 1 else 0) else if k = 19 then (if a ≤ b then 0 else 1) else if k = 21 then a &&& b else a ||| b
def v_do (F : Nat → Int32) (s : Nat × Int32) (L : List Int32) : List Int32 :=
  if s.1 = 0 then s.2 :: L else if s.1 ≤ 8 then F s.1 :: L
  else if s.1 = 16 then (match L with | x :: r => x / s.2 :: r | [] => [])
  else if s.1 = 20 then (match L with | x :: r => (1 - x) :: r | [] => [])
  else (match L with | b :: a :: r => v_op s.1 a b :: r | r => r)
def v_run (F : Nat → Int32) (st : Nat → Nat × Int32) (b : Nat) : Nat → List Int32
  | 0 => []
  | n + 1 => v_do F (st (b + n)) (v_run F st b n)
/-- the pile's numbers are of the kinds q: a test's is 0 or 1 -/
def v_td : List Bool → List Int32 → Prop
  | [], [] => True
  | t :: q, x :: L => (t = true → x = 0 ∨ x = 1) ∧ v_td q L
  | _, _ => False
theorem v_td_len : ∀ (q : List Bool) (L : List Int32), v_td q L → L.length = q.length := by
  intro q
  induction q with
  | nil => intro L h; cases L with
    | nil => rfl
    | cons x L => exact h.elim
  | cons t q ih => intro L h; cases L with
    | nil => exact h.elim
    | cons x L => simp only [List.length_cons]; rw [ih L h.2]
/-- which kinds there are, and what each wants -/
theorem l_inv {k : Nat} {q q' : List Bool} (h : l_ty k q = some q') :
    (k ≤ 8 ∧ q.length < 39 ∧ q' = false :: q) ∨ ((k = 13 ∨ k = 14 ∨ k = 15) ∧ ∃ r, q = false :: false :: r ∧ q' = false :: r) ∨ (k = 16 ∧ ∃ r, q = false :: r ∧ r.length < 38 ∧ q' = false :: r) ∨
    ((k = 17 ∨ k = 18 ∨ k = 19) ∧ ∃ r, q = false :: false :: r ∧ q' = true :: r) ∨ (k = 20 ∧ ∃ r, q = true :: r ∧ q' = true :: r) ∨ ((k = 21 ∨ k = 22) ∧ ∃ r, q = true :: true :: r ∧ q' = true :: r) := by
  unfold l_ty at h
  split at h
  · split at h
    · injection h with h; exact Or.inl ⟨by assumption, by assumption, h.symm⟩
    · cases h
  · split at h
    · split at h
      · injection h with h; exact Or.inr (Or.inl ⟨by assumption, _, rfl, h.symm⟩)
      · cases h
    · split at h
      · split at h
        · split at h
          · injection h with h; exact Or.inr (Or.inr (Or.inl ⟨by assumption, _, rfl, by assumption, h.symm⟩))
          · cases h
        · cases h
      · split at h
        · split at h
          · injection h with h; exact Or.inr (Or.inr (Or.inr (Or.inl ⟨by assumption, _, rfl, h.symm⟩)))
          · cases h
        · split at h
          · split at h
            · injection h with h; exact Or.inr (Or.inr (Or.inr (Or.inr (Or.inl ⟨by assumption, _, rfl, h.symm⟩))))
            · cases h
          · split at h
            · split at h
              · injection h with h; exact Or.inr (Or.inr (Or.inr (Or.inr (Or.inr ⟨by assumption, _, rfl, h.symm⟩))))
              · cases h
            · cases h
theorem v_td_do {F : Nat → Int32} {s : Nat × Int32} {q q' : List Bool} {L : List Int32} (h : l_ty s.1 q = some q') (hd : v_td q L) : v_td q' (v_do F s L) := by
  obtain ⟨k, v⟩ := s
  have lo : ∀ x y : Int32, (x = 0 ∨ x = 1) → (y = 0 ∨ y = 1) → (x &&& y = 0 ∨ x &&& y = 1) ∧ (x ||| y = 0 ∨ x ||| y = 1) := by
    intro x y hx hy
    rcases hx with rfl | rfl <;> rcases hy with rfl | rfl <;> decide
  rcases l_inv h with ⟨h1, h2, rfl⟩ | ⟨h1, r, rfl, rfl⟩ | ⟨h1, r, rfl, h2, rfl⟩ | ⟨h1, r, rfl, rfl⟩ | ⟨h1, r, rfl, rfl⟩ | ⟨h1, r, rfl, rfl⟩
  · dsimp only at h1
    unfold v_do
    dsimp only
    by_cases z : k = 0
    · rw [if_pos z]; exact ⟨fun q => absurd q (by decide), hd⟩
    · rw [if_neg z, if_pos h1]; exact ⟨fun q => absurd q (by decide), hd⟩
  · match L, hd with
    | b :: a :: L, hd =>
      rcases h1 with rfl | rfl | rfl <;> exact ⟨fun q => absurd q (by decide), hd.2.2⟩
  · match L, hd with
    | a :: L, hd =>
      subst h1
      exact ⟨fun q => absurd q (by decide), hd.2⟩
  · match L, hd with
    | b :: a :: L, hd =>
      rcases h1 with rfl | rfl | rfl
      · refine ⟨fun _ => ?_, hd.2.2⟩
        show (if b ≤ a then (0 : Int32) else 1) = 0 ∨ (if b ≤ a then (0 : Int32) else 1) = 1
        split <;> simp
      · refine ⟨fun _ => ?_, hd.2.2⟩
        show (if a = b then (1 : Int32) else 0) = 0 ∨ (if a = b then (1 : Int32) else 0) = 1
        split <;> simp
      · refine ⟨fun _ => ?_, hd.2.2⟩
        show (if a ≤ b then (0 : Int32) else 1) = 0 ∨ (if a ≤ b then (0 : Int32) else 1) = 1
        split <;> simp
  · match L, hd with
    | a :: L, hd =>
      subst h1
      refine ⟨fun _ => ?_, hd.2⟩
      rcases hd.1 rfl with z | z
      · rw [z]; exact Or.inr (by decide)
      · rw [z]; exact Or.inl (by decide)
  · match L, hd with
    | b :: a :: L, hd =>
      have hb := hd.1 rfl
      have ha := hd.2.1 rfl
      rcases h1 with rfl | rfl
      · exact ⟨fun _ => (lo a b ha hb).1, hd.2.2⟩
      · exact ⟨fun _ => (lo a b ha hb).2, hd.2.2⟩
theorem l_run_pre {st : Nat → Nat × Int32} {b : Nat} : ∀ {n : Nat} {q : List Bool}, l_run st b n [] = some q → ∀ j, j ≤ n → ∃ q', l_run st b j [] = some q' := by
  intro n
  induction n with
  | zero => intro q h j hj; have : j = 0 := by omega
            subst this; exact ⟨q, h⟩
  | succ n ih =>
    intro q h j hj
    by_cases z : j = n + 1
    · subst z; exact ⟨q, h⟩
    · have : ∃ q', l_run st b n [] = some q' := by
        cases e : l_run st b n [] with
        | none => rw [show l_run st b (n + 1) [] = (l_run st b n []).bind (fun q => l_ty (st (b + n)).1 q) from rfl, e] at h; cases h
        | some q' => exact ⟨q', rfl⟩
      obtain ⟨q', e⟩ := this
      exact ih e j (by omega)
theorem l_run_s {st : Nat → Nat × Int32} {b n : Nat} {q : List Bool} (h : l_run st b (n + 1) [] = some q) : ∃ q', l_run st b n [] = some q' ∧ l_ty (st (b + n)).1 q' = some q := by
  cases e : l_run st b n [] with
  | none => rw [show l_run st b (n + 1) [] = (l_run st b n []).bind (fun q => l_ty (st (b + n)).1 q) from rfl, e] at h; cases h
  | some q' => exact ⟨q', rfl, by rw [show l_run st b (n + 1) [] = (l_run st b n []).bind (fun q => l_ty (st (b + n)).1 q) from rfl, e] at h; exact h⟩
theorem v_run_td {F : Nat → Int32} {st : Nat → Nat × Int32} {b : Nat} : ∀ {n : Nat} {q : List Bool}, l_run st b n [] = some q → v_td q (v_run F st b n) := by
  intro n
  induction n with
  | zero => intro q h; injection h with h; subst h; trivial
  | succ n ih =>
    intro q h
    obtain ⟨q', e1, e2⟩ := l_run_s h
    exact v_td_do e2 (ih e1)
theorem v_td1 {t : Bool} {q : List Bool} {L : List Int32} (h : v_td (t :: q) L) : ∃ x r, L = x :: r ∧ r.length = q.length := by
  match L, h with
  | x :: r, h => exact ⟨x, r, rfl, v_td_len _ _ h.2⟩
theorem v_td2 {t u : Bool} {q : List Bool} {L : List Int32} (h : v_td (t :: u :: q) L) : ∃ y x r, L = y :: x :: r ∧ r.length = q.length := by
  match L, h with
  | y :: x :: r, h => exact ⟨y, x, r, rfl, v_td_len _ _ h.2.2⟩
/-- what a step does to the pile -/
theorem v_cls {F : Nat → Int32} {s : Nat × Int32} {q q' : List Bool} {L : List Int32} (h : l_ty s.1 q = some q') (hd : v_td q L) :
    (s.1 ≤ 8 ∧ L.length < 39 ∧ v_do F s L = (if s.1 = 0 then s.2 else F s.1) :: L) ∨ (s.1 = 16 ∧ ∃ x r, L = x :: r ∧ r.length < 38 ∧ v_do F s L = x / s.2 :: r) ∨ (s.1 = 20 ∧ ∃ x r, L = x :: r ∧ v_do F s L = (1 - x) :: r) ∨
    ((s.1 = 13 ∨ s.1 = 14 ∨ s.1 = 15 ∨ s.1 = 17 ∨ s.1 = 18 ∨ s.1 = 19 ∨ s.1 = 21 ∨ s.1 = 22) ∧ ∃ y x r, L = y :: x :: r ∧ v_do F s L = v_op s.1 x y :: r) := by
  have bin : (s.1 = 13 ∨ s.1 = 14 ∨ s.1 = 15 ∨ s.1 = 17 ∨ s.1 = 18 ∨ s.1 = 19 ∨ s.1 = 21 ∨ s.1 = 22) → ∀ y x r, L = y :: x :: r → v_do F s L = v_op s.1 x y :: r := fun h1 y x r e => by
    subst e
    unfold v_do
    rw [if_neg (by omega), if_neg (by omega), if_neg (by omega), if_neg (by omega)]
  rcases l_inv h with ⟨h1, h2, rfl⟩ | ⟨h1, r, rfl, rfl⟩ | ⟨h1, r, rfl, h2, rfl⟩ | ⟨h1, r, rfl, rfl⟩ | ⟨h1, r, rfl, rfl⟩ | ⟨h1, r, rfl, rfl⟩
  · refine Or.inl ⟨h1, by rw [v_td_len _ _ hd]; exact h2, ?_⟩
    unfold v_do
    by_cases z : s.1 = 0
    · rw [if_pos z, if_pos z]
    · rw [if_neg z, if_pos h1, if_neg z]
  · obtain ⟨y, x, r', e, -⟩ := v_td2 hd
    exact Or.inr (Or.inr (Or.inr ⟨by omega, y, x, r', e, bin (by omega) y x r' e⟩))
  · obtain ⟨x, r', e, hl⟩ := v_td1 hd
    refine Or.inr (Or.inl ⟨h1, x, r', e, by omega, ?_⟩)
    subst e
    unfold v_do
    rw [if_neg (by omega), if_neg (by omega), if_pos h1]
  · obtain ⟨y, x, r', e, -⟩ := v_td2 hd
    exact Or.inr (Or.inr (Or.inr ⟨by omega, y, x, r', e, bin (by omega) y x r' e⟩))
  · obtain ⟨x, r', e, hl⟩ := v_td1 hd
    refine Or.inr (Or.inr (Or.inl ⟨h1, x, r', e, ?_⟩))
    subst e
    unfold v_do
    rw [if_neg (by omega), if_neg (by omega), if_neg (by omega), if_pos h1]
  · obtain ⟨y, x, r', e, -⟩ := v_td2 hd
    exact Or.inr (Or.inr (Or.inr ⟨by omega, y, x, r', e, bin (by omega) y x r' e⟩))
theorem v_len : ∀ {n : Nat} {st : Nat → Nat × Int32} {b : Nat} {q : List Bool}, l_run st b n [] = some q → q.length ≤ 39 := by
  intro n
  induction n with
  | zero => intro st b q h; injection h with h; subst h; simp
  | succ n ih =>
    intro st b q h
    obtain ⟨q', e1, e2⟩ := l_run_s h
    have := ih e1
    rcases l_inv e2 with ⟨h1, h2, rfl⟩ | ⟨h1, r, rfl, rfl⟩ | ⟨h1, r, rfl, h2, rfl⟩ | ⟨h1, r, rfl, rfl⟩ | ⟨h1, r, rfl, rfl⟩ | ⟨h1, r, rfl, rfl⟩ <;> simp only [List.length_cons] at * <;> omega
/-! the reference's -/
theorem m_both {k : Nat} {a b : Int32} {M : zM} (hk : k = 13 ∨ k = 14 ∨ k = 15 ∨ k = 17 ∨ k = 18 ∨ k = 19 ∨ k = 21 ∨ k = 22) : f_X11_both (nI k) a b M = some (v_op k a b, M) := by
  rcases hk with rfl | rfl | rfl | rfl | rfl | rfl | rfl | rfl
  · rfl
  · rfl
  · rfl
  · show (if b ≤ a then some ((0 : Int32), M) else some (1, M)) = some ((if b ≤ a then 0 else 1), M)
    split <;> rfl
  · show (if a = b then some ((1 : Int32), M) else some (0, M)) = some ((if a = b then 1 else 0), M)
    split <;> rfl
  · show (if a ≤ b then some ((0 : Int32), M) else some (1, M)) = some ((if a ≤ b then 0 else 1), M)
    split <;> rfl
  · rfl
  · rfl
theorem i_p1 (i : Nat) : nI (i + 1) + (-1 : Int32) = nI i := by
  rw [← Int32.sub_eq_add_neg, nI_pred]
theorem m_evl {F : Nat → Int32} {st : Nat → Nat × Int32} {b e k : Nat} {M : zM} {w : Nat → Int32} (hw : M.1 41 = w) (hF : ∀ j, 1 ≤ j → j ≤ 8 → M.1 47 j = F j) (hk : k ≤ 400) (hbe : b + e ≤ k) (hst : ∀ i, i < k → w (875 + 2 * i) = nI (st i).1 ∧ w (876 + 2 * i) = (st i).2 ∧ ((st i).1 = 16 → 0 < (st i).2)) {q : List Bool} (hr : l_run st b e [] = some q) :
    ∀ d i fuel (N : zM), i + d = e → d < fuel → (∀ a, a ≠ 46 → N.1 a = M.1 a) → v_ar (N.1 46) (v_run F st b i) → p_ok (f_X11_comesTo_5 fuel (nI (b + e)) (nI (v_run F st b i).length) (nI (b + i)) N) (fun x => (∀ v, v_run F st b e = [v] → x.1 = v) ∧ ∀ a, a ≠ 46 → x.2.1 a = M.1 a) := by
  intro d
  induction d with
  | zero =>
    intro i fuel N h1 h2 h3 h4
    obtain ⟨fuel, rfl⟩ : ∃ m, fuel = m + 1 := ⟨fuel - 1, by omega⟩
    have : i = e := by omega
    subst this
    rw [f_X11_comesTo_5]
    refine p_t (nI_le (Nat.le_refl _) (by omega)) (p_some ⟨fun v hv => ?_, h3⟩)
    rw [hv] at h4
    exact h4.1
  | succ d ih =>
    intro i fuel N h1 h2 h3 h4
    obtain ⟨fuel, rfl⟩ : ∃ m, fuel = m + 1 := ⟨fuel - 1, by omega⟩
    obtain ⟨q', hq'⟩ := l_run_pre hr (i + 1) (by omega)
    obtain ⟨q0, hq0, hty⟩ := l_run_s hq'
    have htd := v_run_td (F := F) hq0
    have hlen := v_td_len _ _ htd
    have hnx : v_run F st b (i + 1) = v_do F (st (b + i)) (v_run F st b i) := rfl
    obtain ⟨w1, w2, w3⟩ := hst (b + i) (by omega)
    have n41 : N.1 41 = w := by rw [h3 41 (by omega), hw]
    have e0 : ((875 : Int32) + (2 : Int32) * nI (b + i)) = nI (875 + 2 * (b + i)) := by rw [show (2 : Int32) = nI 2 from rfl, n_mu, show (875 : Int32) = nI 875 from rfl, n_ad]
    have cont : ∀ (x : Int32) (r : List Int32) (y : Nat) (B : zM), v_run F st b (i + 1) = x :: r → y = r.length → B = z_w N 46 y x → v_ar (N.1 46) r → p_ok (f_X11_comesTo_5 fuel (nI (b + e)) (nI (r.length + 1)) (nI (b + i + 1)) B) (fun x => (∀ v, v_run F st b e = [v] → x.1 = v) ∧ ∀ a, a ≠ 46 → x.2.1 a = M.1 a) := fun x r y B hx hy hB hr' => by
      subst hy
      have := ih (i + 1) fuel B (by omega) (by omega) (fun a ha => by rw [hB, p_nr ha]; exact h3 a ha) (by
        rw [hx]
        refine ⟨by rw [hB, p_eq, if_pos rfl], v_ar_cg r (fun j hj => ?_) hr'⟩
        rw [hB, p_eq, if_neg (by omega)])
      rw [hx] at this
      exact this
    rw [f_X11_comesTo_5]
    refine p_f (nI_ge (by omega) (by omega)) ?_
    rw [e0, p_s1]
    refine p_l (p_g (p_ix (show 875 + 2 * (b + i) < 1700 by omega) (by decide)) (p_lx (fun v4 hv4 => p_l (p_g (p_ix (show 875 + 2 * (b + i) + 1 < 1700 by omega) (by decide)) (p_lx (fun v7 hv7 => ?_))))))
    rw [p_cl (by omega), n41, w1] at hv4
    rw [p_cl (by omega), n41, show 875 + 2 * (b + i) + 1 = 876 + 2 * (b + i) by omega, w2] at hv7
    have hle := v_len hq0
    rcases v_cls (F := F) hty htd with ⟨k1, k2, k3⟩ | ⟨k1, x, r, hL, k2, k3⟩ | ⟨k1, x, r, hL, k3⟩ | ⟨k1, y, x, r, hL, k3⟩
    · refine p_f (by rw [hv4]; exact nI_ge (a := (st (b + i)).1) (b := 13) (by omega) (by omega)) ?_
      have g1 := p_ix (show (v_run F st b i).length < 420 by omega) (show 420 < 2 ^ 31 by decide)
      by_cases z : (st (b + i)).1 = 0
      · refine p_t (by rw [hv4, z]; rfl) (p_g g1 (p_lx (fun B hB => p_l (p_l ?_))))
        rw [p_s1, p_s1]
        rw [p_cl (by omega), hv7] at hB
        exact cont (st (b + i)).2 (v_run F st b i) _ B (by rw [hnx, k3, if_pos z]) rfl hB h4
      · refine p_f (by rw [hv4]; exact b_ne (c := 0) (by omega) (by decide) z) (p_g (by rw [hv4]; exact p_ix (by omega) (by decide)) (p_g g1 (p_lx (fun B hB => p_l (p_l ?_)))))
        rw [p_s1, p_s1]
        rw [p_cl (by omega), hv4, p_cl (by omega), h3 47 (by omega), hF _ (by omega) k1] at hB
        exact cont (F (st (b + i)).1) (v_run F st b i) _ B (by rw [hnx, k3, if_neg z]) rfl hB h4
    · rw [hL] at h4 hlen ⊢
      obtain ⟨hx, hr2⟩ := h4
      simp only [List.length_cons] at hlen ⊢
      have g1 := p_ix (show r.length < 420 by omega) (show 420 < 2 ^ 31 by decide)
      refine p_t (by rw [hv4, k1]; decide) (p_t (by rw [hv4, k1]; rfl) ?_)
      rw [nI_pred]
      have v0 : ¬ v7 = 0 := fun q => by
        have := w3 k1
        rw [← hv7, q] at this
        exact absurd this (by decide)
      refine p_l (p_g g1 (p_g v0 (p_g g1 (p_lx (fun B hB => p_l ?_)))))
      rw [p_s1]
      rw [p_cl (by omega), hx, hv7] at hB
      exact cont _ r _ B (by rw [hnx, k3]) rfl hB hr2
    · rw [hL] at h4 hlen ⊢
      obtain ⟨hx, hr2⟩ := h4
      simp only [List.length_cons] at hlen ⊢
      have g1 := p_ix (show r.length < 420 by omega) (show 420 < 2 ^ 31 by decide)
      refine p_t (by rw [hv4, k1]; decide) (p_f (by rw [hv4, k1]; decide) (p_t (by rw [hv4, k1]; rfl) ?_))
      have g1' : z_ix (nI (r.length + 1) - 1) 420 := by rw [nI_pred]; exact g1
      refine p_g g1' (p_g g1' (p_lx (fun B hB => p_l ?_)))
      rw [p_s1]
      rw [nI_pred, p_cl (by omega), hx] at hB
      exact cont _ r _ B (by rw [hnx, k3]) rfl hB hr2
    · rw [hL] at h4 hlen ⊢
      obtain ⟨hy, hx, hr2⟩ := h4
      simp only [List.length_cons] at hy hlen ⊢
      refine p_t (by rw [hv4]; exact nI_le (a := 13) (by omega) (by omega)) (p_f (by rw [hv4]; exact b_ne (c := 16) (by omega) (by decide) (by omega)) (p_f (by rw [hv4]; exact b_ne (c := 20) (by omega) (by decide) (by omega)) ?_))
      rw [i_p1]
      refine p_l ?_
      rw [nI_pred]
      have g1 := p_ix (show r.length < 420 by omega) (show 420 < 2 ^ 31 by decide)
      have g2 := p_ix (show r.length + 1 < 420 by omega) (show 420 < 2 ^ 31 by decide)
      refine p_g g1 (p_g g2 ?_)
      rw [hv4, m_both k1, Option.bind_some]
      refine p_g g1 (p_lx (fun B hB => p_l ?_))
      rw [p_s1]
      rw [p_cl (by omega), p_cl (by omega)] at hB
      refine cont (v_op (st (b + i)).1 x y) r r.length B (by rw [hnx, k3]) rfl ?_ hr2
      rw [hB, hy, hx]
theorem m_cto {F : Nat → Int32} {st : Nat → Nat × Int32} {b e k : Nat} {M : zM} {w : Nat → Int32} (hw : M.1 41 = w) (hF : ∀ j, 1 ≤ j → j ≤ 8 → M.1 47 j = F j) (hk : k ≤ 400) (hbe : b + e ≤ k) (hst : ∀ i, i < k → w (875 + 2 * i) = nI (st i).1 ∧ w (876 + 2 * i) = (st i).2 ∧ ((st i).1 = 16 → 0 < (st i).2)) {q : List Bool} (hr : l_run st b e [] = some q) : p_ok (f_X11_comesTo (nI b) (nI (b + e)) M) (fun x => (∀ v, v_run F st b e = [v] → x.1 = v) ∧ ∀ a, a ≠ 46 → x.2.1 a = M.1 a) := by
  unfold f_X11_comesTo
  exact m_evl hw hF hk hbe hst hr e 0 z_F M (by omega) (by unfold z_F; omega) (fun _ _ => rfl) trivial
