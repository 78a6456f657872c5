theorem q_ac_mul (a : Int32) (f : Nat → Int32) : ∀ n, q_ac 0 (fun i => f i * a) n = q_ac 0 f n * a := by
  intro n
  induction n with
  | zero => exact (Int32.zero_mul).symm
  | succ n ih => show q_ac 0 (fun i => f i * a) n + f n * a = (q_ac 0 f n + f n) * a; rw [ih, Int32.add_mul]
section RX
variable {K n m s T ln k : Nat} {st : Nat → Nat × Int32} {f mm t : Nat → Nat} {w : Nat → Int32}
def o_lo (w : Nat → Int32) (s T n b : Nat) : Int32 := if b = 4 then o_off w s T n else if b = 2 then o_has w s T n else if b = 7 then o_fe w s T n else if b = 5 then w 5 + 1 else if b = 9 then nI n else if b = 8 then nI T else w b
/-- the reference's street behind a storm -/
def o_M (w : Nat → Int32) (s T n : Nat) (cn : Nat → Int32) (N Y : zM) : Prop :=
  (∀ a, a ≠ 40 → a ≠ 41 → a ≠ 46 → a ≠ 47 → (a < 48 ∨ 57 < a) → Y.1 a = N.1 a) ∧ (∀ j, j ≠ 30 → j ≠ 31 → j ≠ 32 → Y.1 40 j = N.1 40 j) ∧
  (∀ b, b < 20 → Y.1 41 b = o_lo w s T n b) ∧ (∀ b, ((180 ≤ b ∧ b < 440) ∨ 800 ≤ b) → Y.1 41 b = w b) ∧
  (∀ g, g < n → ∀ j, j < 14 → Y.1 41 (20 + 16 * g + j) = o_R w (o_ov w s T) (o_hd w s T) (o_sn w s T) cn g j) ∧
  ∀ g t, g < n → t < T → Y.1 41 (440 + 3 * (12 * g + t)) = e_got (w_r w) w s g t ∧ Y.1 41 (440 + 3 * (12 * g + t) + 1) = e_car (w_r w) w s g t ∧ Y.1 41 (440 + 3 * (12 * g + t) + 2) = e_spl (w_r w) w s g t
theorem o_tdr : q_tot (fun t g => if w_r w g 4 = -1 then e_car (w_r w) w s g t else 0) n T = o_dr w s T n := by
  rw [q_tot_swap]
  refine q_ac_congr n (fun g _ => ?_)
  by_cases z : w_r w g 4 = -1
  · rw [if_pos z]
    exact q_ac_congr T (fun t _ => if_pos z)
  · rw [if_neg z]
    exact (q_ac_congr T (fun t _ => if_neg z)).trans (q_ac_zero T)
theorem o_tfe : w 7 + q_tot (fun t g => e_f w s t * w_r w g 0) n T = o_fe w s T n := by
  rw [q_tot_swap, o_fe, q_ac_add (w 7)]
  congr 1
  exact q_ac_congr n (fun g _ => q_ac_mul (w_r w g 0) (e_f w s) T)
theorem o_1R {cn : Nat → Int32} {g j : Nat} (hj : j < 14) : (if j = 5 then q_mn 10 (w_r w g 5 + w_r w g 2) else if j = 10 then cn g else o_1 w (o_ov w s T) (o_hd w s T) (o_sn w s T) g j) = o_R w (o_ov w s T) (o_hd w s T) (o_sn w s T) cn g j := by
  unfold o_1 o_R
  by_cases z5 : j = 5
  · subst z5; rfl
  by_cases z8 : j = 8
  · subst z8; rfl
  by_cases z9 : j = 9
  · subst z9; rfl
  by_cases z10 : j = 10
  · subst z10; rfl
  by_cases z11 : j = 11
  · subst z11; rfl
  by_cases z12 : j = 12
  · subst z12; rfl
  by_cases z13 : j = 13
  · subst z13; rfl
  simp only [z5, z8, z9, z10, z11, z12, z13, if_false]
theorem m_comes {N : zM} (hw : N.1 41 = w) (h33 : N.1 40 33 = 0) (hW : s_W K w n m) (hs : s < m) (hst : f_X11_isStorm (nI s) N = some (1, N)) (hT : w (180 + 26 * s) = nI T) (hT12 : T ≤ 12) (hsn : ∀ t, t < T → e_s w s t = 0 ∨ e_s w s t = 1) (hl : l_W w ln k st f mm t) :
    p_ok (f_X11_comes (nI s) N) (fun y => y.1 = e_all (w_r w) w s T n ∧ o_M w s T n (o_cn w s T n ln st f mm t) N y.2) := by
  have hn := hW.1.2.1
  have hm := hW.1.2.2.2
  unfold f_X11_comes
  rw [hst, Option.bind_some, if_neg b_1z]
  dsimp only
  refine p_bx (m_lays (n := n) hn (by rw [hw]; exact hW.1.1)) (fun A hA => p_lx (fun B hB => ?_))
  obtain ⟨a1, a2, a3, a4⟩ := hA
  rw [hw] at a4
  refine p_bx (m_runT (s := s) (T := T) (n := n) (N := B) (w := w) (R := w_r w) (by omega) (by rw [hB, p_eq, if_neg (by decide)]; exact a3) hn (fun j hj => by rw [hB, p_ne (by decide), a1 41 (by omega), hw]) hT hT12 hsn hW.2.2.2.2.1 (fun g hg j hj => ?_)) (fun x hx => ?_)
  · obtain ⟨b, b1, b2, -, b4, -⟩ := m_rk (N := A) (g := g) hj
    rw [b4 B, hB, p_ne (by omega), ← b4 A]
    exact a4 g hg j hj
  obtain ⟨x1, x2, x3, x4, x5, x6, x7, x8, x9, x10⟩ := hx
  have x9' := x9 (by rw [hB, p_eq, if_pos rfl]; decide)
  refine p_lx (fun C hC => ?_)
  rw [m_hours (by omega), Option.bind_some]
  dsimp only
  have b41 : B.1 41 = w := by rw [hB, p_nr (by decide), a1 41 (by omega), hw]
  have cx : ∀ a, a ≠ 40 → C.1 a = x.2.1 a := fun a ha => by rw [hC, p_nr ha]
  have c41 : ∀ j, (j < 440 ∨ 800 ≤ j) → C.1 41 j = w j := fun j hj => by rw [cx 41 (by omega), x7 j hj, b41]
  have c40 : ∀ j, j ≠ 33 → C.1 40 j = x.2.1 40 j := fun j hj => by rw [hC, p_eq, if_neg hj]
  have c30 : C.1 40 30 = nI n := by rw [c40 30 (by omega), x4 30 (by omega) (by omega), hB, p_eq, if_neg (by omega)]; exact a3
  have c31 : C.1 40 31 = o_dr w s T n := by rw [c40 31 (by omega), x5]; exact o_tdr
  have c32 : C.1 40 32 = q_tot (fun t g => e_f w s t * w_r w g 0) n T := by rw [c40 32 (by omega), x6]
  have co : ∀ a, a ≠ 40 → a ≠ 41 → (a < 48 ∨ 57 < a) → C.1 a = N.1 a := fun a a40 a41 ha => by rw [cx a a40, x3 a a40 a41 (by omega) (by omega) (by omega) (by omega), hB, p_nr a40, a1 a (by omega)]
  have c40o : ∀ j, j ≠ 30 → j ≠ 31 → j ≠ 32 → C.1 40 j = N.1 40 j := fun j j1 j2 j3 => by
    by_cases z : j = 33
    · subst z; rw [hC, p_eq, if_pos rfl, h33]
    · rw [c40 j z, x4 j j2 j3, hB, p_eq, if_neg z, a2 j j1]
  rw [c41 (180 + 26 * s) (by omega), hT]
  refine p_lx (fun D hD => p_lx (fun E hE => p_lx (fun F hF => p_lx (fun G hG => ?_))))
  rw [show Int32.toNatClampNeg (8 : Int32) = 8 from rfl] at hD
  rw [show Int32.toNatClampNeg (9 : Int32) = 9 from rfl, hD, p_ne (by decide), c30, ← hD] at hE
  rw [show Int32.toNatClampNeg (5 : Int32) = 5 from rfl, hE, p_eq, if_neg (by decide), hD, p_eq, if_neg (by decide), c41 5 (by omega), ← hD, ← hE] at hF
  rw [show Int32.toNatClampNeg (7 : Int32) = 7 from rfl, hF, p_eq, if_neg (by decide), hE, p_eq, if_neg (by decide), hD, p_eq, if_neg (by decide), c41 7 (by omega), p_ne (by decide), p_ne (by decide), p_ne (by decide), c32, o_tfe, ← hD, ← hE, ← hF] at hG
  have g40 : G.1 40 = C.1 40 := by rw [hG, p_nr (by decide), hF, p_nr (by decide), hE, p_nr (by decide), hD, p_nr (by decide)]
  have g2 : G.1 41 2 = w 2 := by rw [hG, p_eq, if_neg (by decide), hF, p_eq, if_neg (by decide), hE, p_eq, if_neg (by decide), hD, p_eq, if_neg (by decide), c41 2 (by omega)]
  have g3 : G.1 41 3 = w 3 := by rw [hG, p_eq, if_neg (by decide), hF, p_eq, if_neg (by decide), hE, p_eq, if_neg (by decide), hD, p_eq, if_neg (by decide), c41 3 (by omega)]
  have g4 : G.1 41 4 = w 4 := by rw [hG, p_eq, if_neg (by decide), hF, p_eq, if_neg (by decide), hE, p_eq, if_neg (by decide), hD, p_eq, if_neg (by decide), c41 4 (by omega)]
  rw [m_most, Option.bind_some]
  dsimp only
  rw [m_least, Option.bind_some]
  dsimp only
  rw [show Int32.toNatClampNeg (2 : Int32) = 2 from rfl, show Int32.toNatClampNeg (3 : Int32) = 3 from rfl, show Int32.toNatClampNeg (4 : Int32) = 4 from rfl, g40, c31, g2, g3]
  refine p_lx (fun H hH => p_lx (fun I hI => ?_))
  have hH' : H = z_w G 41 2 (o_has w s T n) := hH
  rw [hH', p_eq, if_neg (by decide), p_ne (by decide), g4, g40, c31, ← hH'] at hI
  have hI' : I = z_w H 41 4 (o_off w s T n) := hI
  have i41 : ∀ b, I.1 41 b = if b = 4 then o_off w s T n else if b = 2 then o_has w s T n else if b = 7 then o_fe w s T n else if b = 5 then w 5 + 1 else if b = 9 then nI n else if b = 8 then nI T else C.1 41 b := fun b => by
    rw [hI', p_eq, hH', p_eq, hG, p_eq, hF, p_eq, hE, p_eq, hD, p_eq]
  have io : ∀ a, a ≠ 41 → I.1 a = C.1 a := fun a ha => by rw [hI', p_nr ha, hH', p_nr ha, hG, p_nr ha, hF, p_nr ha, hE, p_nr ha, hD, p_nr ha]
  have ihi : ∀ b, 20 ≤ b → I.1 41 b = C.1 41 b := fun b hb => by rw [i41, if_neg (by omega), if_neg (by omega), if_neg (by omega), if_neg (by omega), if_neg (by omega), if_neg (by omega)]
  rw [x1]
  refine m_c130 (E := I) (w := w) (ov := o_ov w s T) (hd := o_hd w s T) (sn := o_sn w s T) hn (by rw [io 40 (by omega)]; exact c30) (fun g hg => ?_) (fun g hg j hj => ?_) (fun J j1 j2 j3 => ?_) n 0 z_F I (by omega) (by unfold z_F; omega) (fun _ _ => rfl) (fun _ _ => rfl) (fun g hg => by omega)
  · rw [io 54 (by omega), io 55 (by omega), io 56 (by omega), cx 54 (by omega), cx 55 (by omega), cx 56 (by omega)]
    exact x10 g hg
  · rw [ihi _ (by omega), c41 _ (by omega)]
  have jw : ∀ b, 180 ≤ b → J.1 41 b = C.1 41 b := fun b hb => by rw [j2 b (by omega), ihi b (by omega)]
  refine m_c249 (E := J) (ov := o_ov w s T) (hd := o_hd w s T) (ar := fun g => w_r w g 0) (cl := fun g => w_r w g 5) (nx := fun g => w_r w g 4) (c0 := fun g => w_r w g 10) hn (by rw [j1 40 (by omega), io 40 (by omega)]; exact c30) (l_W_cg (fun j hj => by rw [jw j (by omega), c41 j (by omega)]) hl) (fun g hg => ?_) (fun L hL => ?_) n 0 z_F J (by omega) (by unfold z_F; omega) ⟨fun _ _ _ _ => rfl, fun _ _ => rfl, fun g hg => ?_⟩
  · rw [j1 56 (by omega), io 56 (by omega), cx 56 (by omega), j3 g hg 8 (by omega), j3 g hg 0 (by omega), j3 g hg 5 (by omega), j3 g hg 4 (by omega)]
    exact ⟨(x10 g hg).2.2, rfl, rfl, rfl, rfl⟩
  · obtain ⟨l1, l2, l3⟩ := hL
    refine p_w (m_c353 (E := L) hn (by rw [l1 40 (by omega) (by omega) (by omega), j1 40 (by omega), io 40 (by omega)]; exact c30) n 0 z_F L (by omega) (by unfold z_F; omega) (fun _ _ => rfl) (fun _ _ => rfl) (fun g hg => by omega)) ?_
    rintro ⟨v, Y⟩ ⟨y1, y2, y3, y4⟩
    have yl : ∀ b, (b < 20 ∨ 180 ≤ b) → Y.1 41 b = I.1 41 b := fun b hb => by rw [y3 b (fun g hg => by omega), l2 b (fun g hg => by omega), j2 b (by omega)]
    refine ⟨y1, fun a q1 q2 q3 q4 q5 => ?_, fun j q1 q2 q3 => ?_, fun b hb => ?_, fun b hb => ?_, fun g hg j hj => ?_, fun g t hg ht => ?_⟩
    · rw [y2 a q2, l1 a q2 q3 q4, j1 a q2, io a q2, co a q1 q2 q5]
    · dsimp only
      rw [y2 40 (by omega), l1 40 (by omega) (by omega) (by omega), j1 40 (by omega), io 40 (by omega), c40o j q1 q2 q3]
    · rw [yl b (by omega), i41, c41 b (by omega)]; rfl
    · rw [yl b (by omega), ihi b (by omega), c41 b (by omega)]
    · rw [← o_1R hj]
      by_cases z5 : j = 5
      · subst z5
        rw [if_pos rfl, y4 g hg, l2 _ (fun i hi => by omega), l2 _ (fun i hi => by omega), j3 g hg 5 (by omega), j3 g hg 2 (by omega)]
        rfl
      · rw [if_neg z5]
        dsimp only
        rw [y3 _ (fun i hi => by omega)]
        by_cases z10 : j = 10
        · subst z10; rw [if_pos rfl, l3 g hg]
        · rw [if_neg z10, l2 _ (fun i hi => by omega), j3 g hg j (by omega)]
    · dsimp only
      rw [yl _ (by omega), yl _ (by omega), yl _ (by omega), ihi _ (by omega), ihi _ (by omega), ihi _ (by omega), cx 41 (by omega)]
      exact x9' g t hg ht
  · rw [j3 g hg 10 (by omega)]; rfl
end RX
section RZ
variable {K n m s T ln k : Nat} {st : Nat → Nat × Int32} {f mm t : Nat → Nat} {w : Nat → Int32}
/-- the street behind the storm keeps its bounds -/
theorem o_sW {cn : Nat → Int32} {N Y : zM} (hW : s_W K w n m) (hK : K ≤ 8000) (hs : s < m) (hT : T ≤ 12) (h : o_M w s T n cn N Y) : s_W (K + 1) (Y.1 41) n m := by
  obtain ⟨m1, m2, m3, m4, m5, m6⟩ := h
  have hn := hW.1.2.1
  have hm := hW.1.2.2.2
  obtain ⟨⟨w0, w0', w1, w1'⟩, ⟨w2, w3, w6⟩, ⟨c, c1, c2, c3⟩, w4, w5, w7⟩ := id hW
  have hsb : ∀ g, g < n → i_in (o_hd w s T g) 0 999 ∧ i_in (o_sn w s T g) 0 (117612 * (c + 1)) := fun g hg => by
    obtain ⟨b1, b2, b3, b4, -, b6⟩ := o_row hW hg
    have hp := g_p2 (g := g) (by omega)
    have := b_hs (T := T) (sn := e_s w s) (S := 117612 * c) (r := w_r w g) ⟨b1, b2, b3, b4, c3 g hg, b6⟩ w6 (w_f hW hs hT) hT (by omega) (o_ab hW hK hs hT hg) (by omega) T (Nat.le_refl T)
    exact ⟨this.1, i_mono this.2 (by omega)⟩
  have m50 : ∀ g, g < n → Y.1 41 (20 + 16 * g) = w_r w g 0 := fun g hg => m5 g hg 0 (by omega)
  refine ⟨⟨by rw [m3 0 (by omega)]; exact w0, w0', by rw [m3 1 (by omega)]; exact w1, w1'⟩, ⟨?_, by rw [m3 3 (by omega)]; exact w3, by rw [m3 6 (by omega)]; exact w6⟩, ⟨c + 1, by omega, ?_, fun g hg => ?_⟩, fun g hg => ?_, fun g hg => ?_, fun q hq => ?_⟩
  · rw [m3 2 (by omega)]
    have i1 := o_drI hW hK hs hT n (Nat.le_refl n)
    have z : i_in (0 : Int32) 0 720000000 := i_inn (j := 0) (by decide) (by omega) (by omega)
    exact (o_sto w2 w3 i1 z (by rw [i_add0]; exact i1)).2
  · rw [m3 5 (by omega)]
    show w 5 + 1 = _
    rw [c2, p_s1]
  · rw [m5 g hg 9 (by omega)]; exact i_mono (hsb g hg).2 (by omega)
  · obtain ⟨a0, a1, a2, a3, a5, a6, a7, a8⟩ := w4 g hg
    rw [m50 g hg, m5 g hg 1 (by omega), m5 g hg 2 (by omega), m5 g hg 3 (by omega), m5 g hg 5 (by omega), m5 g hg 6 (by omega), m5 g hg 7 (by omega), m5 g hg 8 (by omega)]
    refine ⟨a0, a1, a2, a3, ?_, a6, a7, (hsb g hg).1⟩
    show i_in (q_mn 10 (w_r w g 5 + w_r w g 2)) 0 10
    have e1 := i_mnI 10 (w_r w g 5 + w_r w g 2)
    have a5' : 0 ≤ (w_r w g 5).toInt ∧ (w_r w g 5).toInt ≤ 10 := a5
    have a2' : 0 ≤ (w_r w g 2).toInt ∧ (w_r w g 2).toInt ≤ 10 := a2
    unfold i_in
    rw [i_adI (by omega) (by omega), show (10 : Int32).toInt = 10 from rfl] at e1
    omega
  · show Y.1 41 (20 + 16 * g + 4) = -1 ∨ ∃ e, g < e ∧ e < n ∧ Y.1 41 (20 + 16 * g + 4) = nI e
    rw [m5 g hg 4 (by omega)]
    exact w5 g hg
  · refine ⟨by rw [m4 _ (by omega)]; exact (w7 q hq).1, fun j hj => ?_⟩
    rw [m4 _ (by omega), m4 _ (by omega)]; exact (w7 q hq).2 j hj
theorem o_sC {cn : Nat → Int32} {M X Y : zM} (hW : s_W K w n m) (hC : s_C 1 M w n m) (hT : T ≤ 12) (hc : o_C w s T n cn M X) (h : o_M w s T n cn X Y) : s_C 1 Y (Y.1 41) n m := by
  obtain ⟨m1, m2, m3, m4, m5, m6⟩ := h
  obtain ⟨c1, c2, c3, c4⟩ := hc
  have hn := hW.1.2.1
  have hm := hW.1.2.2.2
  obtain ⟨⟨d1, d2, d3, d4, d5, d6, d7, d8⟩, -, hH, hS, hl⟩ := hC
  have yx : ∀ a, (a < 40 ∨ 80 < a) → Y.1 a = X.1 a := fun a ha => m1 a (by omega) (by omega) (by omega) (by omega) (by omega)
  have y3 : Y.1 (1 + 2) = M.1 (1 + 2) := by rw [yx (1 + 2) (by omega), c1 (1 + 2) (by omega) (by omega) (by omega) (by omega)]
  have y1 : ∀ j, Y.1 1 j = _ := fun j => by rw [yx 1 (by omega), c2 j]
  refine ⟨⟨?_, ?_, ?_, ?_, ?_, ?_, ?_, ?_⟩, ⟨n, T, y1 9, y1 10, Nat.le_refl n, hT, Or.inr ⟨m3 8 (by omega), m3 9 (by omega)⟩, fun g t hg ht => ?_⟩, fun g hg j hj => ?_, fun q hq => ?_, ?_⟩
  · rw [y3, m3 0 (by omega)]; exact d1
  · rw [y1 1, m3 1 (by omega)]; exact d2
  · rw [y1 5, m3 2 (by omega)]; rfl
  · rw [y1 4, m3 3 (by omega)]; exact d4
  · rw [y1 6, m3 4 (by omega)]; rfl
  · rw [y1 7, m3 5 (by omega)]
    show M.1 1 7 + 1 = w 5 + 1
    rw [d6]
  · rw [y3, m3 6 (by omega)]; exact d7
  · rw [y1 8, m3 7 (by omega)]; rfl
  · obtain ⟨e1, e2, e3⟩ := m6 g t hg ht
    rw [e1, e2, e3, yx (c_H (1 + 2) g + 2) (by unfold c_H; omega), yx (c_H (1 + 2) g + 3) (by unfold c_H; omega), yx (c_H (1 + 2) g + 4) (by unfold c_H; omega)]
    exact c4 g t hg ht
  · rw [m5 g hg j hj, yx (c_H (1 + 2) g) (by unfold c_H; omega)]
    exact c3 g hg j hj
  · have e : ∀ i, i ≤ 2 → Y.1 (c_S 1 q + i) = M.1 (c_S 1 q + i) := fun i hi => by rw [yx _ (by unfold c_S; omega), c1 _ (by unfold c_S; omega) (by unfold c_S; omega) (by unfold c_S; omega) (by unfold c_S; omega)]
    have e0 := e 0 (by omega)
    rw [Nat.add_zero] at e0
    refine ⟨by rw [e0, m4 _ (by omega)]; exact (hS q hq).1, fun j hj => ?_⟩
    rw [e 1 (by omega), e 2 (by omega), m4 _ (by omega), m4 _ (by omega)]; exact (hS q hq).2 j hj
  · obtain ⟨ln, k, st, ff, mm, tt, x1, x2, x3, x4, x5, x6, x7⟩ := hl
    have e : ∀ a, (a = 13 ∨ a = 16 ∨ a = 19 ∨ a = 22) → Y.1 a = M.1 a := fun a ha => by rw [yx a (by omega), c1 a (by omega) (by omega) (by omega) (by omega)]
    rw [e (1 + 12) (by omega), e (1 + 15) (by omega), e (1 + 18) (by omega), e (1 + 21) (by omega)]
    exact ⟨ln, k, st, ff, mm, tt, x1, by rw [m4 _ (by omega)]; exact x2, x3, x4, x5, fun i hi => by rw [m4 _ (by omega), m4 _ (by omega)]; exact x6 i hi, fun i hi => by rw [m4 _ (by omega), m4 _ (by omega), m4 _ (by omega)]; exact x7 i hi⟩
end RZ
/-- comes -/
theorem p_comes {K : Nat} {M : zM} {a : Int32} (h : s_I K M) (hK : K ≤ 8000) : p_2 K (f_X10_comes a M) (f_X11_comes a) := by
  obtain ⟨n, m, hW, hC⟩ := h.1
  have hn10 := hW.1.2.1
  rcases t_st (a := a) hW hC with ⟨c1, c2⟩ | ⟨s, hs, hs10, rfl, c1, c2⟩
  · refine p_same (v := -1) h ?_ ?_
    · unfold f_X10_comes; rw [c1]; rfl
    · unfold f_X11_comes; rw [c2 M rfl]; rfl
  obtain ⟨T, T1, T2, T3, hX, hsn⟩ := t_X_of hW hC (t_F_rfl M) hs
  obtain ⟨ln, k, st, f, mm, t, l1, l2⟩ := l_both hC.2.2.2.2
  unfold f_X10_comes
  rw [c1 M rfl, Option.bind_some, if_neg b_1z]
  refine p_g (p_ix hs10 (by decide)) ?_
  rw [p_cl (by omega), c_ra9]
  dsimp only
  refine p_bx (c_weather rfl hW hK hC hs hX l1) (fun x hx => p_some ?_)
  obtain ⟨x1, x2⟩ := hx
  dsimp only
  have e41 : x.2.1 41 = M.1 41 := x2.1 41 (by omega) (by omega) (by omega) (by omega)
  have e33 : x.2.1 40 33 = 0 := by rw [x2.1 40 (by omega) (by omega) (by omega) (by omega)]; exact h.2.2.2.2
  refine p_w (m_comes e41 e33 hW hs (c2 x.2 e41) T3 T2 hsn l2) ?_
  rintro ⟨v, Y⟩ ⟨y1, y2⟩
  refine ⟨by rw [x1]; exact y1.symm, s_I_now h (o_sW hW hK hs T2 y2) (o_sC hW hC T2 x2 y2) (fun b hb => ?_) (fun j hj => ?_)⟩
  · have : (b < 40 ∨ b = 42 ∨ b = 45 ∨ 80 < b) ∧ b ≠ 1 ∧ b ≠ 11 ∧ b ≠ 25 ∧ (b < 81 ∨ 131 ≤ b) := by unfold s_own at hb; omega
    rw [y2.1 b (by omega) (by omega) (by omega) (by omega) (by omega), x2.1 b (by omega) (by omega) (by omega) (by omega)]
  · rw [y2.2.1 j (by omega) (by omega) (by omega), x2.1 40 (by omega) (by omega) (by omega) (by omega)]
