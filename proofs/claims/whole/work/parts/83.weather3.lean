theorem o_mn0 (x : Int32) : q_mn 0 (q_mx 0 x) = 0 := by
  unfold q_mn q_mx
  by_cases h : (0 : Int32) < x
  · rw [if_pos h, if_neg (fun q => by rw [Int32.lt_iff_toInt_lt] at h q; omega)]
  · rw [if_neg h, if_neg (by decide)]
theorem o_has0 (w : Nat → Int32) (s T : Nat) : o_has w s T 0 = w 2 ∧ o_off w s T 0 = w 4 := by
  have e : q_mn (o_dr w s T 0) (o_cap w) = 0 := o_mn0 _
  unfold o_has o_off
  rw [e]
  refine ⟨i_add0 _, ?_⟩
  show w 4 + (0 - 0) = w 4
  rw [show (0 : Int32) - 0 = 0 from rfl, i_add0]
section WY
variable {K n m s T ln k : Nat} {st : Nat → Nat × Int32} {f mm t : Nat → Nat} {w : Nat → Int32}
/-- the class's street behind a storm -/
def o_C (w : Nat → Int32) (s T n : Nat) (cn : Nat → Int32) (M Y : zM) : Prop :=
  (∀ a, a ≠ 1 → a ≠ 11 → a ≠ 25 → (a < 81 ∨ 131 ≤ a) → Y.1 a = M.1 a) ∧
  (∀ j, Y.1 1 j = if j = 5 then o_has w s T n else if j = 6 then o_off w s T n else if j = 7 then M.1 1 7 + 1 else if j = 8 then o_fe w s T n else if j = 9 then nI n else if j = 10 then nI T else M.1 1 j) ∧
  (∀ g, g < n → ∀ j, j < 14 → Y.1 (c_H 3 g) j = o_R w (o_ov w s T) (o_hd w s T) (o_sn w s T) cn g j) ∧
  ∀ g t, g < n → t < T → Y.1 (c_H 3 g + 2) t = e_got (w_r w) w s g t ∧ Y.1 (c_H 3 g + 3) t = e_car (w_r w) w s g t ∧ Y.1 (c_H 3 g + 4) t = e_spl (w_r w) w s g t
theorem o_clR {cn : Nat → Int32} {g : Nat} {r : Nat → Int32} (hr : ∀ j, j < 14 → r j = if j = 10 then cn g else if j = 8 then o_hd w s T g else if j = 9 then o_sn w s T g else if j = 12 then o_ov w s T g else w_r w g j) {j : Nat} (hj : j < 14) : o_cl r j = o_R w (o_ov w s T) (o_hd w s T) (o_sn w s T) cn g j := by
  unfold o_cl o_R
  rw [hr 5 (by omega), hr 2 (by omega), hr 11 (by omega), hr 12 (by omega), hr 13 (by omega), hr j hj]
  by_cases z5 : j = 5
  · subst z5; rfl
  by_cases z8 : j = 8
  · subst z8; rfl
  by_cases z9 : j = 9
  · subst z9; rfl
  by_cases z10 : j = 10
  · subst z10; rfl
  by_cases z11 : j = 11
  · subst z11; rfl
  by_cases z12 : j = 12
  · subst z12; rfl
  by_cases z13 : j = 13
  · subst z13; rfl
  simp only [z5, z8, z9, z10, z11, z12, z13, if_false]
theorem c_weather {M : zM} (hw : M.1 41 = w) (hW : s_W K w n m) (hK : K ≤ 8000) (hC : s_C 1 M w n m) (hs : s < m) (hX : t_X M w s T) (hl : l_C M ln k st f mm t) :
    p_ok (f_X8_weather 1 (c_S 1 s) M) (fun x => x.1 = e_all (w_r w) w s T n ∧ o_C w s T n (o_cn w s T n ln st f mm t) M x.2) := by
  have hn := hW.1.2.1
  have hm := hW.1.2.2.2
  obtain ⟨d1, d2, d3, d4, d5, d6, d7, d8⟩ := hC.1
  unfold f_X8_weather
  refine p_bx (c_pourT (k0 := 3) (la := 10) (R := w_r w) (by omega) (by omega) hX (c_cnt hW hC).1 hn (by omega) d7 (fun g hg j hj => hC.2.2.1 g hg j (by unfold h_im at hj; omega))) (fun x hx => ?_)
  obtain ⟨x1, x2, x3, x4⟩ := hx
  rw [t_min hn] at x1 x3 x4
  have eS : ∀ q, q ≤ 2 → x.2.1 (c_S 1 s + q) = M.1 (c_S 1 s + q) := fun q hq => x3 _ (Or.inr (by unfold c_S c_H; omega))
  have eS0 : x.2.1 (c_S 1 s) 0 = nI T := by have := eS 0 (by omega); rw [Nat.add_zero] at this; rw [this]; exact hX.1
  have eL : ∀ a, a < 81 → x.2.1 a = M.1 a := fun a ha => x3 a (Or.inl (by unfold c_H; omega))
  rw [c_fal eS0 hX.2.1, Option.bind_some]
  dsimp only
  have ef : q_ac 0 (x.2.1 (c_S 1 s + 1)) T = q_ac 0 (e_f w s) T := q_ac_congr T (fun t ht => by rw [eS 1 (by omega)]; exact (hX.2.2.2 t (by have := hX.2.1; omega)).1)
  rw [ef, x1]
  refine c_w19 (X := x.2) hW hK hs hX.2.1 (by rw [eL 3 (by omega)]; exact (c_cnt hW hC).1) (by rw [eL 1 (by omega)]; exact d4) eS0 (fun g hg => ⟨?_, ?_, fun t ht => ((x4 g hg).2 t ht).2.1⟩) (fun N hN => ?_) n 0 z_F x.2 (by omega) (by unfold z_F; omega) ⟨fun _ _ => rfl, fun j => ?_⟩
  · rw [(x4 g hg).1 0]; exact hC.2.2.1 g hg 0 (by omega)
  · rw [(x4 g hg).1 4]; exact hC.2.2.1 g hg 4 (by omega)
  · obtain ⟨n1, n2⟩ := hN
    generalize hA : z_w (z_w (z_w N 1 7 (N.1 1 7 + 1)) 1 9 (N.1 3 0)) 1 10 (N.1 (c_S 1 s) 0) = A
    have a1 : ∀ a, a ≠ 1 → A.1 a = x.2.1 a := fun a ha => by rw [← hA, p_nr ha, p_nr ha, p_nr ha, n1 a ha]
    have a3 : A.1 3 0 = nI n := by rw [a1 3 (by omega), eL 3 (by omega)]; exact (c_cnt hW hC).1
    have aH : ∀ g, g < n → ∀ j, j < 14 → A.1 (c_H 3 g) j = if j = 8 then o_hd w s T g else if j = 9 then o_sn w s T g else if j = 12 then o_ov w s T g else w_r w g j := fun g hg j hj => by
      rw [a1 _ (by unfold c_H; omega), (x4 g hg).1 j, if_neg (show ¬ j = 14 by omega)]
      rw [hC.2.2.1 g hg j hj]
    refine p_bx (c_settle (M := A) (ov := o_ov w s T) (hd := o_hd w s T) (ar := fun g => w_r w g 0) (cl := fun g => w_r w g 5) (nx := fun g => w_r w g 4) (c0 := fun g => w_r w g 10) hn a3 (l_C_fr hl (by rw [a1 13 (by omega), eL 13 (by omega)]) (by rw [a1 16 (by omega), eL 16 (by omega)]) (by rw [a1 19 (by omega), eL 19 (by omega)]) (by rw [a1 22 (by omega), eL 22 (by omega)])) (fun g hg => ?_) (fun g hg => ?_)) (fun B hB => ?_)
    · rw [aH g hg 12 (by omega), aH g hg 8 (by omega), aH g hg 0 (by omega), aH g hg 5 (by omega), aH g hg 4 (by omega)]
      exact ⟨rfl, rfl, rfl, rfl, rfl⟩
    · rw [aH g hg 10 (by omega)]; rfl
    obtain ⟨b1, b2⟩ := hB
    refine p_w (c_w123 (M := B) hn (by rw [b1 3 (by omega) (by omega) (fun g hg => by unfold c_H; omega)]; exact a3) n 0 z_F B (by omega) (by unfold z_F; omega) (fun _ _ => rfl) (fun g hg => by omega)) ?_
    rintro ⟨v, Y⟩ ⟨y1, y2, y3⟩
    refine ⟨y1, fun a q1 q2 q3 q4 => ?_, fun j => ?_, fun g hg j hj => ?_, fun g t hg ht => ?_⟩
    · rw [y2 a (fun g hg => by unfold c_H; omega), b1 a q2 q3 (fun g hg => by unfold c_H; omega), a1 a q1]
      exact x3 a (by unfold c_H; omega)
    · rw [y2 1 (fun g hg => by unfold c_H; omega), b1 1 (by omega) (by omega) (fun g hg => by unfold c_H; omega), ← hA, p_eq, p_eq, p_eq, n2, n2, n1 3 (by omega), n1 _ (by unfold c_S; omega), eS0, eL 3 (by omega), (c_cnt hW hC).1, eL 1 (by omega)]
      by_cases z5 : j = 5
      · subst z5; rfl
      by_cases z6 : j = 6
      · subst z6; rfl
      by_cases z7 : j = 7
      · subst z7; rfl
      by_cases z8 : j = 8
      · subst z8; rfl
      by_cases z9 : j = 9
      · subst z9; rfl
      by_cases z10 : j = 10
      · subst z10; rfl
      simp only [z5, z6, z7, z8, z9, z10, if_false]
    · rw [y3 g hg j]
      refine o_clR (fun j hj => ?_) hj
      rw [b2 g hg j]
      by_cases z : j = 10
      · rw [if_pos z, if_pos z]
      · rw [if_neg z, if_neg z]; exact aH g hg j hj
    · have e : ∀ q, 2 ≤ q → q ≤ 4 → Y.1 (c_H 3 g + q) = x.2.1 (c_H 3 g + q) := fun q q1 q2 => by
        rw [y2 _ (fun i hi => by unfold c_H; omega), b1 _ (by unfold c_H; omega) (by unfold c_H; omega) (fun i hi => by unfold c_H; omega), a1 _ (by unfold c_H; omega)]
      dsimp only
      rw [e 2 (by omega) (by omega), e 3 (by omega) (by omega), e 4 (by omega) (by omega)]
      exact (x4 g hg).2 t ht
  · rw [(o_has0 w s T).1, (o_has0 w s T).2, eL 1 (by omega)]
    by_cases z5 : j = 5
    · subst z5; exact d3
    by_cases z6 : j = 6
    · subst z6; exact d5
    by_cases z8 : j = 8
    · subst z8; exact d8
    rw [if_neg z5, if_neg z6, if_neg z8]
end WY
