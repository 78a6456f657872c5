/-! THE REFERENCE'S WEATHER -/
section PG
variable {β : Type} {P : β → Prop} {h f : Nat} {v : Int32} {M : zM}
theorem p_giv {F : zM → Option β} (hh : h < 100) (hf : f < 16) (k : ∀ X, X = z_w M 41 (20 + 16 * h + f) v → p_ok (F X) P) : p_ok ((f_X11_gives (nI h) (nI f) v M).bind F) P := by
  rw [m_gives hh hf]
  exact k _ rfl
theorem p_own {F : Int32 × zM → Option β} (hh : h < 100) (hf : f < 16) (k : p_ok (F (M.1 41 (20 + 16 * h + f), M)) P) : p_ok ((f_X11_own (nI h) (nI f) M).bind F) P := by
  rw [m_own hh hf]
  exact k
end PG
section RW
variable {K n m s T ln k : Nat} {st : Nat → Nat × Int32} {f mm t : Nat → Nat} {w : Nat → Int32}
theorem l_W_cg {w w' : Nat → Int32} (h : ∀ j, 800 ≤ j → w' j = w j) (hl : l_W w ln k st f mm t) : l_W w' ln k st f mm t := by
  obtain ⟨l1, l2, l3, l4, l5⟩ := hl
  refine ⟨by rw [h _ (by omega)]; exact l1, l2, l3, fun i hi => by rw [h _ (by omega), h _ (by omega)]; exact l4 i hi, fun i hi => ?_⟩
  rw [h _ (by omega), h _ (by omega), h _ (by omega)]
  exact l5 i hi
/-- a house behind the run, ahead of coins and leaves -/
def o_1 (w ov hd sn : Nat → Int32) (g j : Nat) : Int32 :=
  if j = 8 then hd g else if j = 9 then sn g else if j = 11 then w_r w g 11 + ov g else if j = 12 then ov g else if j = 13 then (if ov g = 0 then w_r w g 13 + 1 else 0) else w_r w g j
/-- all is settled: clogs -/
theorem m_c353 {v : Int32} {E : zM} (hn : n ≤ 10) (h30 : E.1 40 30 = nI n) : ∀ e i fuel (N : zM), i + e = n → e < fuel → (∀ a, a ≠ 41 → N.1 a = E.1 a) → (∀ b, (∀ g, g < i → b ≠ 20 + 16 * g + 5) → N.1 41 b = E.1 41 b) → (∀ g, g < i → N.1 41 (20 + 16 * g + 5) = q_mn 10 (E.1 41 (20 + 16 * g + 5) + E.1 41 (20 + 16 * g + 2))) →
    p_ok (f_X11_comes_353 fuel v (nI i) N) (fun x => x.1 = v ∧ (∀ a, a ≠ 41 → x.2.1 a = E.1 a) ∧ (∀ b, (∀ g, g < n → b ≠ 20 + 16 * g + 5) → x.2.1 41 b = E.1 41 b) ∧ ∀ g, g < n → x.2.1 41 (20 + 16 * g + 5) = q_mn 10 (E.1 41 (20 + 16 * g + 5) + E.1 41 (20 + 16 * g + 2))) := by
  intro e
  induction e with
  | zero =>
    intro i fuel N h1 h2 hN hB hG
    obtain ⟨fuel, rfl⟩ : ∃ m, fuel = m + 1 := ⟨fuel - 1, by omega⟩
    have : i = n := by omega
    subst this
    rw [f_X11_comes_353]
    exact p_t (by rw [hN 40 (by omega), h30]; exact nI_le (Nat.le_refl _) (by omega)) (p_some ⟨rfl, hN, hB, hG⟩)
  | succ e ih =>
    intro i fuel N h1 h2 hN hB hG
    obtain ⟨fuel, rfl⟩ : ∃ m, fuel = m + 1 := ⟨fuel - 1, by omega⟩
    rw [f_X11_comes_353]
    refine p_f (by rw [hN 40 (by omega), h30]; exact nI_ge (by omega) (by omega)) ?_
    refine p_own (f := 5) (by omega) (by omega) (p_own (f := 2) (by omega) (by omega) ?_)
    dsimp only
    rw [m_least, Option.bind_some]
    dsimp only
    refine p_giv (f := 5) (by omega) (by omega) (fun X hX => p_l ?_)
    rw [p_s1]
    rw [hB (20 + 16 * i + 5) (fun g hg => by omega), hB (20 + 16 * i + 2) (fun g hg => by omega)] at hX
    refine ih (i + 1) fuel X (by omega) (by omega) (fun a ha => by rw [hX, p_nr ha, hN a ha]) (fun b hb => ?_) (fun g hg => ?_)
    · rw [hX, p_eq, if_neg (hb i (by omega)), hB b (fun g hg => hb g (by omega))]
    · rw [hX, p_eq]
      by_cases z : g = i
      · subst z; rw [if_pos rfl]
      · rw [if_neg (by omega)]; exact hG g (by omega)
/-- coins c, all else as in E -/
def k_RS (E : zM) (n : Nat) (c : Nat → Int32) (N : zM) : Prop := (∀ a, a ≠ 41 → a ≠ 46 → a ≠ 47 → N.1 a = E.1 a) ∧ (∀ b, (∀ g, g < n → b ≠ 20 + 16 * g + 10) → N.1 41 b = E.1 41 b) ∧ ∀ g, g < n → N.1 41 (20 + 16 * g + 10) = c g
theorem m_c249 {v0 : Int32} {E : zM} {ov hd ar cl nx c0 : Nat → Int32} {Q : Int32 × zM → Prop} (hn : n ≤ 10) (h30 : E.1 40 30 = nI n) (hl : l_W (E.1 41) ln k st f mm t) (hH : k_M E n ov hd ar cl nx)
    (hE : ∀ N, k_RS E n (k_out (k_A ln st f mm t ov hd ar cl nx) ov n c0 n) N → p_ok (f_X11_comes_353 z_F v0 (nI 0) N) Q) : ∀ e v fuel (N : zM), v + e = n → e < fuel → k_RS E n (k_out (k_A ln st f mm t ov hd ar cl nx) ov n c0 v) N → p_ok (f_X11_comes_249 fuel v0 (nI v) N) Q := by
  have cH : ∀ (c : Nat → Int32) (N : zM), k_RS E n c N → k_M N n ov hd ar cl nx := fun c N hN g hg => by
    obtain ⟨a1, a2, a3, a4, a5⟩ := hH g hg
    rw [hN.1 56 (by omega) (by omega) (by omega), hN.2.1 (20 + 16 * g + 8) (fun i hi => by omega), hN.2.1 (20 + 16 * g + 0) (fun i hi => by omega), hN.2.1 (20 + 16 * g + 5) (fun i hi => by omega), hN.2.1 (20 + 16 * g + 4) (fun i hi => by omega)]
    exact ⟨a1, a2, a3, a4, a5⟩
  have cL : ∀ (c : Nat → Int32) (N : zM), k_RS E n c N → l_W (N.1 41) ln k st f mm t := fun c N hN => l_W_cg (fun j hj => hN.2.1 j (fun g hg => by omega)) hl
  have c3 : ∀ (c : Nat → Int32) (N : zM), k_RS E n c N → N.1 40 30 = nI n := fun c N hN => by rw [hN.1 40 (by omega) (by omega) (by omega)]; exact h30
  intro e
  induction e with
  | zero =>
    intro v fuel N h1 h2 hN
    obtain ⟨fuel, rfl⟩ : ∃ m, fuel = m + 1 := ⟨fuel - 1, by omega⟩
    have : v = n := by omega
    subst this
    rw [f_X11_comes_249]
    exact p_t (by rw [c3 _ N hN]; exact nI_le (Nat.le_refl _) (by omega)) (hE N hN)
  | succ e ih =>
    intro v fuel N h1 h2 hN
    obtain ⟨fuel, rfl⟩ : ∃ m, fuel = m + 1 := ⟨fuel - 1, by omega⟩
    rw [f_X11_comes_249]
    refine p_f (by rw [c3 _ N hN]; exact nI_ge (by omega) (by omega)) ?_
    have gv := p_ix (show v < 11 by omega) (show 11 < 2 ^ 31 by decide)
    have ev : ∀ (c : Nat → Int32) (B : zM), k_RS E n c B → B.1 56 (Int32.toNatClampNeg (nI v)) = ov v := fun c B hB => by rw [p_cl (by omega)]; exact (cH c B hB v (by omega)).1
    by_cases z : ov v ≤ 0
    · have f1 : z_F = 4999 + 1 := rfl
      rw [f1, f_X11_comes_261]
      refine p_f (by rw [c3 _ N hN]; exact nI_ge (show 0 < n by omega) (by omega)) (p_g gv (p_t (by rw [ev _ N hN]; exact z) (p_l ?_)))
      rw [p_s1]
      refine ih (v + 1) fuel N (by omega) (by omega) ?_
      rw [show k_out (k_A ln st f mm t ov hd ar cl nx) ov n c0 (v + 1) = k_out (k_A ln st f mm t ov hd ar cl nx) ov n c0 v from if_pos z]
      exact hN
    · have inner : ∀ e u f2 (B : zM), u + e = n → e < f2 → k_RS E n (k_in (k_A ln st f mm t ov hd ar cl nx) v (k_out (k_A ln st f mm t ov hd ar cl nx) ov n c0 v) u) B → p_ok (f_X11_comes_261 (f_X11_comes_249 fuel) f2 v0 (nI v) (nI u) B) Q := by
        intro e
        induction e with
        | zero =>
          intro u f2 B k1 k2 hB
          obtain ⟨f2, rfl⟩ : ∃ m, f2 = m + 1 := ⟨f2 - 1, by omega⟩
          have : u = n := by omega
          subst this
          rw [f_X11_comes_261]
          refine p_t (by rw [c3 _ B hB]; exact nI_le (Nat.le_refl _) (by omega)) (p_l ?_)
          rw [p_s1]
          refine ih (v + 1) fuel B (by omega) (by omega) ?_
          rw [show k_out (k_A ln st f mm t ov hd ar cl nx) ov u c0 (v + 1) = k_in (k_A ln st f mm t ov hd ar cl nx) v (k_out (k_A ln st f mm t ov hd ar cl nx) ov u c0 v) u from if_neg z]
          exact hB
        | succ e ih2 =>
          intro u f2 B k1 k2 hB
          obtain ⟨f2, rfl⟩ : ∃ m, f2 = m + 1 := ⟨f2 - 1, by omega⟩
          rw [f_X11_comes_261]
          refine p_f (by rw [c3 _ B hB]; exact nI_ge (by omega) (by omega)) (p_g gv (p_f (by rw [ev _ B hB]; exact z) ?_))
          by_cases y : u = v
          · refine p_t (by rw [y]) (p_l ?_)
            rw [p_s1]
            refine ih2 (u + 1) f2 B (by omega) (by omega) ?_
            rw [show k_in (k_A ln st f mm t ov hd ar cl nx) v (k_out (k_A ln st f mm t ov hd ar cl nx) ov n c0 v) (u + 1) = k_in (k_A ln st f mm t ov hd ar cl nx) v (k_out (k_A ln st f mm t ov hd ar cl nx) ov n c0 v) u from if_pos y]
            exact hB
          · refine p_f (b_ne (by omega) (by omega) y) (p_bx (m_pays hn (by omega) (by omega) (cL _ B hB) (cH _ B hB)) (fun x hx => ?_))
            obtain ⟨x1, x2⟩ := hx
            refine p_own (f := 10) (by omega) (by omega) ?_
            dsimp only
            refine p_giv (f := 10) (by omega) (by omega) (fun X hX => p_own (f := 10) (by omega) (by omega) ?_)
            dsimp only
            refine p_giv (f := 10) (by omega) (by omega) (fun Y hY => p_l ?_)
            rw [p_s1]
            have e41 : x.2.1 41 = B.1 41 := x2 41 (by omega) (by omega)
            rw [x1, e41, hB.2.2 u (by omega)] at hX
            rw [x1, hX, p_eq, if_neg (by omega), e41, hB.2.2 v (by omega)] at hY
            refine ih2 (u + 1) f2 Y (by omega) (by omega) ⟨fun a a1 a2 a3 => ?_, fun b hb => ?_, fun g hg => ?_⟩
            · rw [hY, p_nr a1, p_nr a1, x2 a a2 a3, hB.1 a a1 a2 a3]
            · rw [hY, p_eq, if_neg (hb v (by omega)), p_eq, if_neg (hb u (by omega)), e41, hB.2.1 b hb]
            · rw [hY, p_eq, p_eq, e41, hB.2.2 g hg, show k_in (k_A ln st f mm t ov hd ar cl nx) v (k_out (k_A ln st f mm t ov hd ar cl nx) ov n c0 v) (u + 1) = _ from if_neg y]
              dsimp only
              by_cases gu : g = u
              · subst gu; rw [if_neg (by omega), if_pos rfl, if_pos rfl]
              · by_cases gv : g = v
                · subst gv; rw [if_pos rfl, if_neg gu, if_pos rfl]
                · rw [if_neg (by omega), if_neg (by omega), if_neg gu, if_neg gv]
      exact inner n 0 z_F N (by omega) (by unfold z_F; omega) hN
/-- what the run left goes into the houses -/
theorem m_c130 {v0 : Int32} {E : zM} {ov hd sn : Nat → Int32} {Q : Int32 × zM → Prop} (hn : n ≤ 10) (h30 : E.1 40 30 = nI n) (hE5 : ∀ g, g < n → E.1 54 g = hd g ∧ E.1 55 g = sn g ∧ E.1 56 g = ov g) (hEw : ∀ g, g < n → ∀ j, j < 16 → E.1 41 (20 + 16 * g + j) = w_r w g j)
    (hE : ∀ N, (∀ a, a ≠ 41 → N.1 a = E.1 a) → (∀ b, (b < 20 ∨ 20 + 16 * n ≤ b) → N.1 41 b = E.1 41 b) → (∀ g, g < n → ∀ j, j < 16 → N.1 41 (20 + 16 * g + j) = o_1 w ov hd sn g j) → p_ok (f_X11_comes_249 z_F v0 (nI 0) N) Q) :
    ∀ e i fuel (N : zM), i + e = n → e < fuel → (∀ a, a ≠ 41 → N.1 a = E.1 a) → (∀ b, (b < 20 ∨ 20 + 16 * i ≤ b) → N.1 41 b = E.1 41 b) → (∀ g, g < i → ∀ j, j < 16 → N.1 41 (20 + 16 * g + j) = o_1 w ov hd sn g j) → p_ok (f_X11_comes_130 fuel v0 (nI i) N) Q := by
  intro e
  induction e with
  | zero =>
    intro i fuel N h1 h2 hN hB hG
    obtain ⟨fuel, rfl⟩ : ∃ m, fuel = m + 1 := ⟨fuel - 1, by omega⟩
    have : i = n := by omega
    subst this
    rw [f_X11_comes_130]
    exact p_t (by rw [hN 40 (by omega), h30]; exact nI_le (Nat.le_refl _) (by omega)) (hE N hN hB hG)
  | succ e ih =>
    intro i fuel N h1 h2 hN hB hG
    obtain ⟨fuel, rfl⟩ : ∃ m, fuel = m + 1 := ⟨fuel - 1, by omega⟩
    have gi := p_ix (show i < 11 by omega) (show 11 < 2 ^ 31 by decide)
    have ec : Int32.toNatClampNeg (nI i) = i := p_cl (by omega)
    obtain ⟨e54, e55, e56⟩ := hE5 i (by omega)
    have nw : ∀ j, j < 16 → N.1 41 (20 + 16 * i + j) = w_r w i j := fun j hj => by rw [hB _ (by omega)]; exact hEw i (by omega) j hj
    rw [f_X11_comes_130]
    refine p_f (by rw [hN 40 (by omega), h30]; exact nI_ge (by omega) (by omega)) (p_g gi (p_giv (f := 8) (by omega) (by omega) (fun A hA => p_g gi (p_giv (f := 9) (by omega) (by omega) (fun B hB2 => p_g gi (p_giv (f := 12) (by omega) (by omega) (fun C hC => p_own (f := 11) (by omega) (by omega) (p_g gi (p_giv (f := 11) (by omega) (by omega) (fun D hD => p_g gi ?_))))))))))
    dsimp only at hD
    rw [ec, hN 54 (by omega), e54] at hA
    rw [ec, hA, p_ne (by decide), hN 55 (by omega), e55, ← hA] at hB2
    rw [ec, hB2, p_ne (by decide), hA, p_ne (by decide), hN 56 (by omega), e56, ← hA, ← hB2] at hC
    have c56 : C.1 56 i = ov i := by rw [hC, p_ne (by decide), hB2, p_ne (by decide), hA, p_ne (by decide), hN 56 (by omega), e56]
    have c11 : C.1 41 (20 + 16 * i + 11) = w_r w i 11 := by rw [hC, p_eq, if_neg (by omega), hB2, p_eq, if_neg (by omega), hA, p_eq, if_neg (by omega)]; exact nw 11 (by omega)
    rw [ec, c56, c11] at hD
    have d56 : D.1 56 i = ov i := by rw [hD, p_ne (by decide), c56]
    have d13 : D.1 41 (20 + 16 * i + 13) = w_r w i 13 := by rw [hD, p_eq, if_neg (by omega), hC, p_eq, if_neg (by omega), hB2, p_eq, if_neg (by omega), hA, p_eq, if_neg (by omega)]; exact nw 13 (by omega)
    have key : ∀ (v : Int32) (X : zM), v = (if ov i = 0 then w_r w i 13 + 1 else 0) → X = z_w D 41 (20 + 16 * i + 13) v → p_ok (f_X11_comes_130 fuel v0 (nI (i + 1)) X) Q := fun v X hv hX => by
      refine ih (i + 1) fuel X (by omega) (by omega) (fun a ha => by rw [hX, p_nr ha, hD, p_nr ha, hC, p_nr ha, hB2, p_nr ha, hA, p_nr ha, hN a ha]) (fun b hb => ?_) (fun g hg j hj => ?_)
      · rw [hX, p_eq, if_neg (by omega), hD, p_eq, if_neg (by omega), hC, p_eq, if_neg (by omega), hB2, p_eq, if_neg (by omega), hA, p_eq, if_neg (by omega), hB b (by omega)]
      · rw [hX, p_eq, hD, p_eq, hC, p_eq, hB2, p_eq, hA, p_eq]
        by_cases z : g = i
        · subst z
          rw [nw j hj]
          unfold o_1
          by_cases z8 : j = 8
          · subst z8; rw [if_neg (by omega), if_neg (by omega), if_neg (by omega), if_neg (by omega), if_pos rfl]; rfl
          by_cases z9 : j = 9
          · subst z9; rw [if_neg (by omega), if_neg (by omega), if_neg (by omega), if_pos rfl]; rfl
          by_cases z11 : j = 11
          · subst z11; rw [if_neg (by omega), if_pos rfl]; rfl
          by_cases z12 : j = 12
          · subst z12; rw [if_neg (by omega), if_neg (by omega), if_pos rfl]; rfl
          by_cases z13 : j = 13
          · subst z13; rw [if_pos rfl, hv]; rfl
          rw [if_neg (by omega), if_neg (by omega), if_neg (by omega), if_neg (by omega), if_neg (by omega), if_neg z8, if_neg z9, if_neg z11, if_neg z12, if_neg z13]
        · rw [if_neg (by omega), if_neg (by omega), if_neg (by omega), if_neg (by omega), if_neg (by omega)]
          exact hG g (by omega) j hj
    rw [ec, d56]
    refine p_if (fun c => p_own (f := 13) (by omega) (by omega) ?_) (fun c => p_giv (f := 13) (by omega) (by omega) (fun X hX => p_l ?_))
    · dsimp only
      refine p_giv (f := 13) (by omega) (by omega) (fun X hX => p_l ?_)
      rw [p_s1]
      rw [d13] at hX
      exact key _ X (by rw [if_pos c]) hX
    · rw [p_s1]
      exact key _ X (by rw [if_neg c]) hX
end RW
