/-! WHO PAYS -/
def k_F (ov hd ar cl nx : Nat → Int32) (u v j : Nat) : Int32 :=
  if j = 1 then ov v else if j = 2 then cl u else if j = 3 then cl v else if j = 4 then (if nx u = nI v then 1 else 0)
  else if j = 5 then (if v ≤ u then nI u - nI v - 1 else nI v - nI u - 1) else if j = 6 then (if v ≤ u then 0 else 1) else if j = 7 then ar u else hd u
/-- the law, in the class's cells -/
def l_C (M : zM) (ln k : Nat) (st : Nat → Nat × Int32) (f m t : Nat → Nat) : Prop :=
  M.1 13 0 = nI ln ∧ ln ≤ 16 ∧ k ≤ 400 ∧ l_pos st k ≤ 400 ∧ (∀ i, i < k → l_code (M.1 16) (l_pos st i) (st i)) ∧
  ∀ i, i < ln → f i ≤ m i ∧ m i ≤ t i ∧ t i ≤ k ∧ M.1 19 i = nI (l_pos st (f i)) ∧ M.1 22 i = nI (l_pos st (m i)) ∧ M.1 19 (i + 1) = nI (l_pos st (t i)) ∧ l_run st (f i) (m i - f i) [] = some [false] ∧ (m i = t i ∨ l_run st (m i) (t i - m i) [] = some [true])
/-- the same, in the reference's row -/
def l_W (w : Nat → Int32) (ln k : Nat) (st : Nat → Nat × Int32) (f m t : Nat → Nat) : Prop :=
  w 810 = nI ln ∧ ln ≤ 16 ∧ k ≤ 400 ∧ (∀ i, i < k → w (875 + 2 * i) = nI (st i).1 ∧ w (876 + 2 * i) = (st i).2 ∧ ((st i).1 = 16 → 0 < (st i).2)) ∧
  ∀ i, i < ln → f i ≤ m i ∧ m i ≤ t i ∧ t i ≤ k ∧ w (815 + i) = nI (f i) ∧ w (835 + i) = nI (m i) ∧ w (855 + i) = nI (t i) ∧ l_run st (f i) (m i - f i) [] = some [false] ∧ (m i = t i ∨ l_run st (m i) (t i - m i) [] = some [true])
theorem l_both {M : zM} {w : Nat → Int32} (h : s_law (M.1 13 0) (M.1 16) (M.1 19) (M.1 22) w) : ∃ ln k st f m t, l_C M ln k st f m t ∧ l_W w ln k st f m t := by
  obtain ⟨ln, k, st, ff, mm, tt, x1, x2, x3, x4, x5, x6, x7⟩ := h
  refine ⟨ln, k, st, ff, mm, tt, ⟨x1, x3, x4, x5, fun i hi => (x6 i hi).2.2, fun i hi => ?_⟩, ⟨x2, x3, x4, fun i hi => ⟨(x6 i hi).1, (x6 i hi).2.1, fun z => ?_⟩, fun i hi => ?_⟩⟩
  · obtain ⟨y1, y2, y3, y4, y5, y6, y7, y8, y9, y10, y11⟩ := x7 i hi
    exact ⟨y4, y5, y6, y7, y8, y9, y10, y11⟩
  · have := (x6 i hi).2.2
    unfold l_code at this
    rw [if_neg (by omega), if_pos z] at this
    exact this.2.1
  · obtain ⟨y1, y2, y3, y4, y5, y6, y7, y8, y9, y10, y11⟩ := x7 i hi
    exact ⟨y4, y5, y6, y1, y2, y3, y10, y11⟩
theorem i_abs {u v : Nat} (hu : u < 10) (hv : v < 10) : (if 0 ≤ (nI u - nI v) then (nI u - nI v) else 0 - (nI u - nI v)) - (1 : Int32) = if v ≤ u then nI u - nI v - 1 else nI v - nI u - 1 := by
  have : ∀ u v : Fin 10, (if 0 ≤ (nI u.1 - nI v.1) then (nI u.1 - nI v.1) else 0 - (nI u.1 - nI v.1)) - (1 : Int32) = if v.1 ≤ u.1 then nI u.1 - nI v.1 - 1 else nI v.1 - nI u.1 - 1 := by decide
  exact this ⟨u, hu⟩ ⟨v, hv⟩
/-- the houses' numbers that the law asks for -/
def k_H (N : zM) (n : Nat) (ov hd ar cl nx : Nat → Int32) : Prop := ∀ g, g < n → N.1 (c_H 3 g) 12 = ov g ∧ N.1 (c_H 3 g) 8 = hd g ∧ N.1 (c_H 3 g) 0 = ar g ∧ N.1 (c_H 3 g) 5 = cl g ∧ N.1 (c_H 3 g) 4 = nx g
section PA
variable {n ln k : Nat} {st : Nat → Nat × Int32} {f m t : Nat → Nat} {ov hd ar cl nx : Nat → Int32}
theorem c_pay {u v : Nat} {N : zM} (hn : n ≤ 10) (hu : u < n) (hv : v < n) (huv : u ≠ v) (hl : l_C N ln k st f m t) (hH : k_H N n ov hd ar cl nx) :
    p_ok (f_X8_pay 1 (nI u) (nI v) N) (fun X => ∀ a, a ≠ 11 → a ≠ 25 → ∀ j, X.1 a j = if a = c_H 3 u ∧ j = 10 then N.1 a j - v_ask (k_F ov hd ar cl nx u v) st f m t ln 0 else if a = c_H 3 v ∧ j = 10 then N.1 a j + v_ask (k_F ov hd ar cl nx u v) st f m t ln 0 else N.1 a j) := by
  obtain ⟨l1, l2, l3, l4, l5, l6⟩ := hl
  obtain ⟨u1, u2, u3, u4, u5⟩ := hH u hu
  obtain ⟨v1, v2, v3, v4, v5⟩ := hH v hv
  have end_ : ∀ A : zM, (∀ a, a ≠ 11 → A.1 a = N.1 a) → (∀ j, 1 ≤ j → j ≤ 5 → A.1 11 (7 + j) = k_F ov hd ar cl nx u v j) → p_ok (f_X8_pay_107 1 (c_H 3 u) (c_H 3 v) 11 (13 : Int32) (k_F ov hd ar cl nx u v 6) A) (fun X => ∀ a, a ≠ 11 → a ≠ 25 → ∀ j, X.1 a j = if a = c_H 3 u ∧ j = 10 then N.1 a j - v_ask (k_F ov hd ar cl nx u v) st f m t ln 0 else if a = c_H 3 v ∧ j = 10 then N.1 a j + v_ask (k_F ov hd ar cl nx u v) st f m t ln 0 else N.1 a j) := fun A hA hA5 => by
    unfold f_X8_pay_107
    refine p_g (show z_ix (13 : Int32) 16 from by decide) (p_lx (fun B hB => p_lx (fun C hC => p_lx (fun D hD => ?_))))
    rw [show Int32.toNatClampNeg (13 : Int32) = 13 from rfl] at hB
    rw [show (1 : Nat) + 10 = 11 from rfl, show Int32.toNatClampNeg (14 : Int32) = 14 from rfl, hB, p_ne (show c_H 3 u ≠ 11 by unfold c_H; omega), hA _ (by unfold c_H; omega), u3] at hC
    rw [show (1 : Nat) + 10 = 11 from rfl, show Int32.toNatClampNeg (15 : Int32) = 15 from rfl, hC, p_ne (show c_H 3 u ≠ 11 by unfold c_H; omega), p_ne (show c_H 3 u ≠ 11 by unfold c_H; omega), hA _ (by unfold c_H; omega), u2] at hD
    have d0 : ∀ a, a ≠ 11 → D.1 a = N.1 a := fun a ha => by rw [hD, p_nr ha, p_nr ha, p_nr ha, hA a ha]
    have dF : ∀ j, 1 ≤ j → j ≤ 8 → D.1 11 (7 + j) = k_F ov hd ar cl nx u v j := fun j j1 j2 => by
      rw [hD, p_eq, p_eq, p_eq]
      by_cases z : j ≤ 5
      · rw [if_neg (by omega), if_neg (by omega), if_neg (by omega)]; exact hA5 j j1 z
      · have : j = 6 ∨ j = 7 ∨ j = 8 := by omega
        rcases this with rfl | rfl | rfl <;> rfl
    refine p_bx (c_asks (M := D) dF (by rw [d0 13 (by omega)]; exact l1) l2 l3 l4 (by rw [d0 16 (by omega)]; exact l5) (by rw [d0 19 (by omega), d0 22 (by omega)]; exact l6)) (fun x hx => ?_)
    obtain ⟨x1, x2⟩ := hx
    rw [x1]
    refine ⟨_, rfl, fun a a1 a2 j => ?_⟩
    have x0 : ∀ a, a ≠ 11 → a ≠ 25 → x.2.1 a = N.1 a := fun a a1 a2 => by rw [x2 a a2, d0 a a1]
    have nuv : c_H 3 v ≠ c_H 3 u := by unfold c_H; omega
    by_cases zv : a = c_H 3 v ∧ j = 10
    · obtain ⟨rfl, rfl⟩ := zv
      rw [p_eq, if_pos rfl, if_neg (fun q => nuv q.1), if_pos ⟨rfl, rfl⟩, p_ne nuv, x0 _ a1 a2]
    · rw [p_rd, if_neg zv, if_neg zv]
      by_cases zu : a = c_H 3 u ∧ j = 10
      · obtain ⟨rfl, rfl⟩ := zu
        rw [p_eq, if_pos rfl, if_pos ⟨rfl, rfl⟩, x0 _ a1 a2]
      · rw [p_rd, if_neg zu, if_neg zu, x0 _ a1 a2]
  have mid : ∀ (A : zM), (∀ a, a ≠ 11 → A.1 a = N.1 a) → (∀ j, 1 ≤ j → j ≤ 3 → A.1 11 (7 + j) = k_F ov hd ar cl nx u v j) → p_ok (f_X8_pay_75 1 (nI u) (nI v) (c_H 3 u) (c_H 3 v) 11 (11 : Int32) (k_F ov hd ar cl nx u v 4) A) (fun X => ∀ a, a ≠ 11 → a ≠ 25 → ∀ j, X.1 a j = if a = c_H 3 u ∧ j = 10 then N.1 a j - v_ask (k_F ov hd ar cl nx u v) st f m t ln 0 else if a = c_H 3 v ∧ j = 10 then N.1 a j + v_ask (k_F ov hd ar cl nx u v) st f m t ln 0 else N.1 a j) := fun A hA hA3 => by
    unfold f_X8_pay_75
    rw [i_abs (by omega) (by omega)]
    refine p_g (show z_ix (11 : Int32) 16 from by decide) (p_lx (fun B hB => p_lx (fun C hC => ?_)))
    rw [show Int32.toNatClampNeg (11 : Int32) = 11 from rfl] at hB
    rw [show (1 : Nat) + 10 = 11 from rfl, show Int32.toNatClampNeg (12 : Int32) = 12 from rfl, hB] at hC
    have e := end_ C (fun a ha => by rw [hC, p_nr ha, p_nr ha, hA a ha]) (fun j j1 j2 => by
      rw [hC, p_eq, p_eq]
      by_cases z : j ≤ 3
      · rw [if_neg (by omega), if_neg (by omega)]; exact hA3 j j1 z
      · have : j = 4 ∨ j = 5 := by omega
        rcases this with rfl | rfl <;> rfl)
    by_cases z : v ≤ u
    · refine p_t (nI_le z (by omega)) ?_
      rw [show k_F ov hd ar cl nx u v 6 = 0 from if_pos z] at e
      exact e
    · refine p_f (nI_ge (by omega) (by omega)) ?_
      rw [show k_F ov hd ar cl nx u v 6 = 1 from if_neg z] at e
      exact e
  unfold f_X8_pay
  refine p_g (p_ix (show u < 10 by omega) (by decide)) (p_l (p_g (p_ix (show v < 10 by omega) (by decide)) (p_l (p_lx (fun A hA => p_lx (fun B hB => p_lx (fun C hC => ?_)))))))
  have ku : z_ra (1 + 2 + 3) (Int32.toNatClampNeg (nI u)) = c_H 3 u := by rw [p_cl (by omega)]; exact c_ra6
  have kv : z_ra (1 + 2 + 3) (Int32.toNatClampNeg (nI v)) = c_H 3 v := by rw [p_cl (by omega)]; exact c_ra6
  rw [ku, kv]
  rw [kv, show (1 : Nat) + 10 = 11 from rfl, show Int32.toNatClampNeg (8 : Int32) = 8 from rfl, v1] at hA
  rw [ku, show (1 : Nat) + 10 = 11 from rfl, show Int32.toNatClampNeg (9 : Int32) = 9 from rfl, hA, p_ne (show c_H 3 u ≠ 11 by unfold c_H; omega), u4] at hB
  rw [kv, show (1 : Nat) + 10 = 11 from rfl, show Int32.toNatClampNeg (10 : Int32) = 10 from rfl, hB, p_ne (show c_H 3 v ≠ 11 by unfold c_H; omega), p_ne (show c_H 3 v ≠ 11 by unfold c_H; omega), v4] at hC
  have c0 : ∀ a, a ≠ 11 → C.1 a = N.1 a := fun a ha => by rw [hC, p_nr ha, p_nr ha, p_nr ha]
  have e := mid C c0 (fun j j1 j2 => by
    rw [hC, p_eq, p_eq, p_eq]
    have : j = 1 ∨ j = 2 ∨ j = 3 := by omega
    rcases this with rfl | rfl | rfl <;> rfl)
  have c4 : C.1 (c_H 3 u) 4 = nx u := by rw [c0 _ (by unfold c_H; omega)]; exact u5
  by_cases z : nx u = nI v
  · refine p_t (by rw [c4]; exact z) ?_
    rw [show k_F ov hd ar cl nx u v 4 = 1 from if_pos z] at e
    exact e
  · refine p_f (by rw [c4]; exact z) ?_
    rw [show k_F ov hd ar cl nx u v 4 = 0 from if_neg z] at e
    exact e
end PA
