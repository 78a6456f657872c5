theorem l_pos_lt (st : Nat → Nat × Int32) {i k : Nat} (h : i < k) : l_pos st i < l_pos st k := by
  have h1 := l_pos_le st (show i + 1 ≤ k by omega)
  have h2 : l_pos st (i + 1) = l_pos st i + l_len (st i).1 := rfl
  have h3 : 1 ≤ l_len (st i).1 := by unfold l_len; split <;> omega
  omega
theorem v_one {t : Bool} {L : List Int32} (h : v_td [t] L) : L = [L.headD 0] ∧ (t = true → L.headD 0 = 0 ∨ L.headD 0 = 1) := by
  match L, h with
  | [x], h => exact ⟨rfl, h.1⟩
def v_ask (F : Nat → Int32) (st : Nat → Nat × Int32) (f m t : Nat → Nat) : Nat → Nat → Int32
  | 0, _ => 0
  | e + 1, i => if m i = t i ∨ ¬ (v_run F st (m i) (t i - m i)).headD 0 = 0 then q_mx 0 (q_mn 9999 ((v_run F st (f i) (m i - f i)).headD 0)) else v_ask F st f m t e (i + 1)
section AS
variable {F : Nat → Int32} {st : Nat → Nat × Int32} {f m t : Nat → Nat} {ln k : Nat} {M : zM}
theorem c_asks (hF : ∀ j, 1 ≤ j → j ≤ 8 → M.1 11 (7 + j) = F j) (hln : M.1 13 0 = nI ln) (hln16 : ln ≤ 16) (hk : k ≤ 400) (hk4 : l_pos st k ≤ 400) (hst : ∀ i, i < k → l_code (M.1 16) (l_pos st i) (st i))
    (hl : ∀ i, i < ln → f i ≤ m i ∧ m i ≤ t i ∧ t i ≤ k ∧ M.1 19 i = nI (l_pos st (f i)) ∧ M.1 22 i = nI (l_pos st (m i)) ∧ M.1 19 (i + 1) = nI (l_pos st (t i)) ∧ l_run st (f i) (m i - f i) [] = some [false] ∧ (m i = t i ∨ l_run st (m i) (t i - m i) [] = some [true])) :
    p_ok (f_X3_asks 13 11 M) (fun x => x.1 = v_ask F st f m t ln 0 ∧ ∀ a, a ≠ 25 → x.2.1 a = M.1 a) := by
  have loop : ∀ e i fuel (N : zM), i + e = ln → e < fuel → (∀ a, a ≠ 25 → N.1 a = M.1 a) → p_ok (f_X3_asks_2 fuel 13 11 (nI i) N) (fun x => x.1 = v_ask F st f m t e i ∧ ∀ a, a ≠ 25 → x.2.1 a = M.1 a) := by
    intro e
    induction e with
    | zero =>
      intro i fuel N h1 h2 h3
      obtain ⟨fuel, rfl⟩ : ∃ m, fuel = m + 1 := ⟨fuel - 1, by omega⟩
      have : i = ln := by omega
      subst this
      rw [f_X3_asks_2]
      exact p_t (by rw [h3 13 (by omega), hln]; exact nI_le (Nat.le_refl _) (by omega)) (p_some ⟨rfl, h3⟩)
    | succ e ih =>
      intro i fuel N h1 h2 h3
      obtain ⟨fuel, rfl⟩ : ∃ m, fuel = m + 1 := ⟨fuel - 1, by omega⟩
      obtain ⟨l1, l2, l3, l4, l5, l6, l7, l8⟩ := hl i (by omega)
      have p1 := l_pos_le st (show f i ≤ k by omega)
      have p2 := l_pos_le st (show m i ≤ k by omega)
      have p3 := l_pos_le st (show t i ≤ k by omega)
      rw [f_X3_asks_2]
      refine p_f (by rw [h3 13 (by omega), hln]; exact nI_ge (by omega) (by omega)) (p_f (nI_ge (a := i) (b := 16) (by omega) (by omega)) (p_g (p_ix (show i < 17 by omega) (by decide)) (p_lx (fun v4 hv4 => ?_))))
      rw [p_s1]
      refine p_g (p_ix (show i + 1 < 17 by omega) (by decide)) (p_lx (fun v6 hv6 => ?_))
      rw [p_cl (by omega), show (13 : Nat) + 9 = 22 from rfl, h3 22 (by omega), l5] at hv4
      rw [p_cl (by omega), show (13 : Nat) + 6 = 19 from rfl, h3 19 (by omega), l6] at hv6
      have pay : ∀ N' : zM, (∀ a, a ≠ 25 → N'.1 a = M.1 a) → (m i = t i ∨ ¬ (v_run F st (m i) (t i - m i)).headD 0 = 0) → p_ok (f_X3_asks_50 (f_X3_asks_2 fuel) 13 11 (nI i) v4 N') (fun x => x.1 = v_ask F st f m t (e + 1) i ∧ ∀ a, a ≠ 25 → x.2.1 a = M.1 a) := fun N' h3' hc => by
        unfold f_X3_asks_50
        refine p_g (p_ix (show i < 17 by omega) (by decide)) ?_
        rw [p_cl (by omega), show (13 : Nat) + 6 = 19 from rfl, h3' 19 (by omega), l4, hv4]
        have := c_wor (F := F) (st := st) (b := f i) (e := m i - f i) (k := k) (M := N') (fun j j1 j2 => by rw [h3' 11 (by omega)]; exact hF j j1 j2) hk4 (by omega) (by omega) (by rw [h3' 16 (by omega)]; exact hst) l7
        rw [show f i + (m i - f i) = m i by omega] at this
        refine p_bx this (fun x hx => p_some ⟨?_, fun a ha => by rw [hx.2 a ha, h3' a ha]⟩)
        obtain ⟨e1, -⟩ := v_one (v_run_td (F := F) l7)
        dsimp only
        rw [hx.1 _ e1]
        unfold v_ask
        rw [if_pos hc]
        rfl
      by_cases z : m i = t i
      · exact p_t (by rw [hv4, hv6, z]) (pay N h3 (Or.inl z))
      · have hrun := l8.resolve_left z
        have plt := l_pos_lt st (show m i < t i by omega)
        refine p_f (by rw [hv4, hv6]; exact b_ne (by omega) (by omega) (by omega)) ?_
        have := c_wor (F := F) (st := st) (b := m i) (e := t i - m i) (k := k) (M := N) (fun j j1 j2 => by rw [h3 11 (by omega)]; exact hF j j1 j2) hk4 (by omega) (by omega) (by rw [h3 16 (by omega)]; exact hst) hrun
        rw [show m i + (t i - m i) = t i by omega, ← hv4, ← hv6] at this
        refine p_bx this (fun x hx => ?_)
        obtain ⟨e1, -⟩ := v_one (v_run_td (F := F) hrun)
        have ex := hx.1 _ e1
        have h3' : ∀ a, a ≠ 25 → x.2.1 a = M.1 a := fun a ha => hx.2 a ha |>.trans (h3 a ha)
        by_cases y : (v_run F st (m i) (t i - m i)).headD 0 = 0
        · refine p_t (by rw [ex, y]) (p_l ?_)
          have := ih (i + 1) fuel x.2 (by omega) (by omega) h3'
          unfold v_ask
          rw [if_neg (fun q => q.elim z (fun q => q y))]
          exact this
        · exact p_f (by rw [ex]; exact y) (pay x.2 h3' (Or.inr y))
  exact loop ln 0 z_F M (by omega) (by unfold z_F; omega) (fun _ _ => rfl)
theorem m_asks {w : Nat → Int32} (hw : M.1 41 = w) (hF : ∀ j, 1 ≤ j → j ≤ 8 → M.1 47 j = F j) (hln : w 810 = nI ln) (hln16 : ln ≤ 16) (hk : k ≤ 400) (hst : ∀ i, i < k → w (875 + 2 * i) = nI (st i).1 ∧ w (876 + 2 * i) = (st i).2 ∧ ((st i).1 = 16 → 0 < (st i).2))
    (hl : ∀ i, i < ln → f i ≤ m i ∧ m i ≤ t i ∧ t i ≤ k ∧ w (815 + i) = nI (f i) ∧ w (835 + i) = nI (m i) ∧ w (855 + i) = nI (t i) ∧ l_run st (f i) (m i - f i) [] = some [false] ∧ (m i = t i ∨ l_run st (m i) (t i - m i) [] = some [true])) :
    p_ok (f_X11_pays_127 z_F (0 : Int32) M) (fun x => x.1 = v_ask F st f m t ln 0 ∧ ∀ a, a ≠ 46 → x.2.1 a = M.1 a) := by
  have loop : ∀ e i fuel (N : zM), i + e = ln → e < fuel → (∀ a, a ≠ 46 → N.1 a = M.1 a) → p_ok (f_X11_pays_127 fuel (nI i) N) (fun x => x.1 = v_ask F st f m t e i ∧ ∀ a, a ≠ 46 → x.2.1 a = M.1 a) := by
    intro e
    induction e with
    | zero =>
      intro i fuel N h1 h2 h3
      obtain ⟨fuel, rfl⟩ : ∃ m, fuel = m + 1 := ⟨fuel - 1, by omega⟩
      have : i = ln := by omega
      subst this
      rw [f_X11_pays_127]
      exact p_t (by rw [h3 41 (by omega), hw, show Int32.toNatClampNeg (810 : Int32) = 810 from rfl, hln]; exact nI_le (Nat.le_refl _) (by omega)) (p_some ⟨rfl, h3⟩)
    | succ e ih =>
      intro i fuel N h1 h2 h3
      obtain ⟨fuel, rfl⟩ : ∃ m, fuel = m + 1 := ⟨fuel - 1, by omega⟩
      obtain ⟨l1, l2, l3, l4, l5, l6, l7, l8⟩ := hl i (by omega)
      have a1 : (815 : Int32) + nI i = nI (815 + i) := n_ad 815 i
      have a2 : (835 : Int32) + nI i = nI (835 + i) := n_ad 835 i
      have a3 : (855 : Int32) + nI i = nI (855 + i) := n_ad 855 i
      have g1 := p_ix (show 815 + i < 1700 by omega) (show 1700 < 2 ^ 31 by decide)
      have g2 := p_ix (show 835 + i < 1700 by omega) (show 1700 < 2 ^ 31 by decide)
      have g3 := p_ix (show 855 + i < 1700 by omega) (show 1700 < 2 ^ 31 by decide)
      have rd : ∀ N' : zM, (∀ a, a ≠ 46 → N'.1 a = M.1 a) → N'.1 41 (Int32.toNatClampNeg (nI (815 + i))) = nI (f i) ∧ N'.1 41 (Int32.toNatClampNeg (nI (835 + i))) = nI (m i) ∧ N'.1 41 (Int32.toNatClampNeg (nI (855 + i))) = nI (t i) := fun N' h' => by
        rw [p_cl (by omega), p_cl (by omega), p_cl (by omega), h' 41 (by omega), hw]; exact ⟨l4, l5, l6⟩
      have pay : ∀ N' : zM, (∀ a, a ≠ 46 → N'.1 a = M.1 a) → (m i = t i ∨ ¬ (v_run F st (m i) (t i - m i)).headD 0 = 0) → p_ok (f_X11_pays_190 (f_X11_pays_127 fuel) (nI i) N') (fun x => x.1 = v_ask F st f m t (e + 1) i ∧ ∀ a, a ≠ 46 → x.2.1 a = M.1 a) := fun N' h3' hc => by
        unfold f_X11_pays_190
        rw [a1, a2]
        refine p_g g1 (p_g g2 ?_)
        rw [(rd N' h3').1, (rd N' h3').2.1]
        have := m_cto (F := F) (st := st) (b := f i) (e := m i - f i) (k := k) (M := N') (w := w) (by rw [h3' 41 (by omega), hw]) (fun j j1 j2 => by rw [h3' 47 (by omega)]; exact hF j j1 j2) hk (by omega) hst l7
        rw [show f i + (m i - f i) = m i by omega] at this
        refine p_bx this (fun x hx => ?_)
        rw [m_least, Option.bind_some]
        dsimp only
        rw [m_most, Option.bind_some]
        refine p_some ⟨?_, fun a ha => by dsimp only; rw [hx.2 a ha, h3' a ha]⟩
        obtain ⟨e1, -⟩ := v_one (v_run_td (F := F) l7)
        dsimp only
        rw [hx.1 _ e1]
        unfold v_ask
        rw [if_pos hc]
      rw [f_X11_pays_127, a2, a3]
      refine p_f (by rw [h3 41 (by omega), hw, show Int32.toNatClampNeg (810 : Int32) = 810 from rfl, hln]; exact nI_ge (by omega) (by omega)) (p_g g3 (p_g g2 ?_))
      by_cases z : m i = t i
      · exact p_t (by rw [(rd N h3).2.1, (rd N h3).2.2, z]) (pay N h3 (Or.inl z))
      · have hrun := l8.resolve_left z
        refine p_f (by rw [(rd N h3).2.1, (rd N h3).2.2]; exact b_ne (by omega) (by omega) (fun q => z q.symm)) (p_g g2 (p_g g3 ?_))
        rw [(rd N h3).2.1, (rd N h3).2.2]
        have := m_cto (F := F) (st := st) (b := m i) (e := t i - m i) (k := k) (M := N) (w := w) (by rw [h3 41 (by omega), hw]) (fun j j1 j2 => by rw [h3 47 (by omega)]; exact hF j j1 j2) hk (by omega) hst hrun
        rw [show m i + (t i - m i) = t i by omega] at this
        refine p_bx this (fun x hx => ?_)
        obtain ⟨e1, e2⟩ := v_one (v_run_td (F := F) hrun)
        have ex := hx.1 _ e1
        have h3' : ∀ a, a ≠ 46 → x.2.1 a = M.1 a := fun a ha => hx.2 a ha |>.trans (h3 a ha)
        rcases e2 rfl with y | y
        · refine p_f (by rw [ex, y]; decide) (p_l ?_)
          rw [p_s1]
          have := ih (i + 1) fuel x.2 (by omega) (by omega) h3'
          unfold v_ask
          rw [if_neg (fun q => q.elim z (fun q => q y))]
          exact this
        · exact p_t (by rw [ex, y]) (pay x.2 h3' (Or.inr (by rw [y]; exact b_1z)))
  exact loop ln 0 z_F M (by omega) (by unfold z_F; omega) (fun _ _ => rfl)
end AS
