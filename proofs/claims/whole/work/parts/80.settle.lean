def k_in (A : Nat → Nat → Int32) (v : Nat) (c : Nat → Int32) : Nat → Nat → Int32
  | 0 => c
  | u + 1 => if u = v then k_in A v c u else fun g => if g = u then k_in A v c u g - A u v else if g = v then k_in A v c u g + A u v else k_in A v c u g
def k_out (A : Nat → Nat → Int32) (ov : Nat → Int32) (n : Nat) (c : Nat → Int32) : Nat → Nat → Int32
  | 0 => c
  | v + 1 => if ov v ≤ 0 then k_out A ov n c v else k_in A v (k_out A ov n c v) n
section SE
variable {n ln k : Nat} {st : Nat → Nat × Int32} {f m t : Nat → Nat} {ov hd ar cl nx : Nat → Int32}
abbrev k_A (ln : Nat) (st : Nat → Nat × Int32) (f m t : Nat → Nat) (ov hd ar cl nx : Nat → Int32) (u v : Nat) : Int32 := v_ask (k_F ov hd ar cl nx u v) st f m t ln 0
/-- coins c, all else as in M -/
def k_CS (M : zM) (n : Nat) (c : Nat → Int32) (N : zM) : Prop := (∀ a, a ≠ 11 → a ≠ 25 → (∀ g, g < n → a ≠ c_H 3 g) → N.1 a = M.1 a) ∧ ∀ g, g < n → ∀ j, N.1 (c_H 3 g) j = if j = 10 then c g else M.1 (c_H 3 g) j
theorem l_C_fr {M N : zM} (h : l_C M ln k st f m t) (h1 : N.1 13 = M.1 13) (h2 : N.1 16 = M.1 16) (h3 : N.1 19 = M.1 19) (h4 : N.1 22 = M.1 22) : l_C N ln k st f m t := by
  unfold l_C
  rw [h1, h2, h3, h4]
  exact h
theorem c_settle {M : zM} (hn : n ≤ 10) (hM : M.1 3 0 = nI n) (hl : l_C M ln k st f m t) (hH : k_H M n ov hd ar cl nx) {c0 : Nat → Int32} (h0 : ∀ g, g < n → M.1 (c_H 3 g) 10 = c0 g) :
    p_ok (f_X8_settle 1 M) (k_CS M n (k_out (k_A ln st f m t ov hd ar cl nx) ov n c0 n)) := by
  have cH : ∀ (c : Nat → Int32) (N : zM), k_CS M n c N → k_H N n ov hd ar cl nx := fun c N hN g hg => by
    obtain ⟨a1, a2, a3, a4, a5⟩ := hH g hg
    rw [hN.2 g hg, hN.2 g hg, hN.2 g hg, hN.2 g hg, hN.2 g hg, if_neg (by decide), if_neg (by decide), if_neg (by decide), if_neg (by decide), if_neg (by decide)]
    exact ⟨a1, a2, a3, a4, a5⟩
  have cL : ∀ (c : Nat → Int32) (N : zM), k_CS M n c N → l_C N ln k st f m t := fun c N hN => l_C_fr hl (hN.1 13 (by omega) (by omega) (fun g hg => by unfold c_H; omega)) (hN.1 16 (by omega) (by omega) (fun g hg => by unfold c_H; omega)) (hN.1 19 (by omega) (by omega) (fun g hg => by unfold c_H; omega)) (hN.1 22 (by omega) (by omega) (fun g hg => by unfold c_H; omega))
  have c3 : ∀ (c : Nat → Int32) (N : zM), k_CS M n c N → N.1 (1 + 2) 0 = nI n := fun c N hN => by rw [hN.1 (1 + 2) (by omega) (by omega) (fun g hg => by unfold c_H; omega)]; exact hM
  have outer : ∀ e v fuel (N : zM), v + e = n → e < fuel → k_CS M n (k_out (k_A ln st f m t ov hd ar cl nx) ov n c0 v) N → p_ok (f_X8_settle_2 fuel 1 (nI v) N) (k_CS M n (k_out (k_A ln st f m t ov hd ar cl nx) ov n c0 n)) := by
    intro e
    induction e with
    | zero =>
      intro v fuel N h1 h2 hN
      obtain ⟨fuel, rfl⟩ : ∃ m, fuel = m + 1 := ⟨fuel - 1, by omega⟩
      have : v = n := by omega
      subst this
      rw [f_X8_settle_2]
      exact p_t (by rw [c3 _ N hN]; exact nI_le (Nat.le_refl _) (by omega)) (p_some hN)
    | succ e ih =>
      intro v fuel N h1 h2 hN
      obtain ⟨fuel, rfl⟩ : ∃ m, fuel = m + 1 := ⟨fuel - 1, by omega⟩
      rw [f_X8_settle_2]
      have kv : z_ra (1 + 2 + 3) (Int32.toNatClampNeg (nI v)) = c_H 3 v := by rw [p_cl (by omega)]; exact c_ra6
      refine p_f (by rw [c3 _ N hN]; exact nI_ge (by omega) (by omega)) (p_g (p_ix (show v < 10 by omega) (by decide)) ?_)
      have ev : N.1 (z_ra (1 + 2 + 3) (Int32.toNatClampNeg (nI v))) 12 = ov v := by rw [kv]; exact (cH _ N hN v (by omega)).1
      by_cases z : ov v ≤ 0
      · refine p_t (by rw [ev]; exact z) (p_l ?_)
        rw [p_s1]
        refine ih (v + 1) fuel N (by omega) (by omega) ?_
        rw [show k_out (k_A ln st f m t ov hd ar cl nx) ov n c0 (v + 1) = k_out (k_A ln st f m t ov hd ar cl nx) ov n c0 v from if_pos z]
        exact hN
      · refine p_f (by rw [ev]; exact z) ?_
        have inner : ∀ e u f2 (B : zM), u + e = n → e < f2 → k_CS M n (k_in (k_A ln st f m t ov hd ar cl nx) v (k_out (k_A ln st f m t ov hd ar cl nx) ov n c0 v) u) B → p_ok (f_X8_settle_30 (f_X8_settle_2 fuel) f2 1 (nI v) (nI u) B) (k_CS M n (k_out (k_A ln st f m t ov hd ar cl nx) ov n c0 n)) := by
          intro e
          induction e with
          | zero =>
            intro u f2 B k1 k2 hB
            obtain ⟨f2, rfl⟩ : ∃ m, f2 = m + 1 := ⟨f2 - 1, by omega⟩
            have : u = n := by omega
            subst this
            rw [f_X8_settle_30]
            refine p_t (by rw [c3 _ B hB]; exact nI_le (Nat.le_refl _) (by omega)) (p_l ?_)
            rw [p_s1]
            refine ih (v + 1) fuel B (by omega) (by omega) ?_
            rw [show k_out (k_A ln st f m t ov hd ar cl nx) ov u c0 (v + 1) = k_in (k_A ln st f m t ov hd ar cl nx) v (k_out (k_A ln st f m t ov hd ar cl nx) ov u c0 v) u from if_neg z]
            exact hB
          | succ e ih2 =>
            intro u f2 B k1 k2 hB
            obtain ⟨f2, rfl⟩ : ∃ m, f2 = m + 1 := ⟨f2 - 1, by omega⟩
            rw [f_X8_settle_30]
            refine p_f (by rw [c3 _ B hB]; exact nI_ge (by omega) (by omega)) ?_
            by_cases y : u = v
            · refine p_t (by rw [y]) (p_l ?_)
              rw [p_s1]
              refine ih2 (u + 1) f2 B (by omega) (by omega) ?_
              rw [show k_in (k_A ln st f m t ov hd ar cl nx) v (k_out (k_A ln st f m t ov hd ar cl nx) ov n c0 v) (u + 1) = k_in (k_A ln st f m t ov hd ar cl nx) v (k_out (k_A ln st f m t ov hd ar cl nx) ov n c0 v) u from if_pos y]
              exact hB
            · refine p_f (b_ne (by omega) (by omega) y) (p_bx (c_pay hn (by omega) (by omega) y (cL _ B hB) (cH _ B hB)) (fun X hX => p_l ?_))
              rw [p_s1]
              refine ih2 (u + 1) f2 X (by omega) (by omega) ⟨fun a a1 a2 a3 => ?_, fun g hg j => ?_⟩
              · funext j
                rw [hX a a1 a2, if_neg (fun q => a3 u (by omega) q.1), if_neg (fun q => a3 v (by omega) q.1), hB.1 a a1 a2 a3]
              · rw [hX _ (by unfold c_H; omega) (by unfold c_H; omega), hB.2 g hg, show k_in (k_A ln st f m t ov hd ar cl nx) v (k_out (k_A ln st f m t ov hd ar cl nx) ov n c0 v) (u + 1) = _ from if_neg y]
                dsimp only
                by_cases x : j = 10
                · rw [if_pos x, if_pos x]
                  by_cases gu : g = u
                  · subst gu; rw [if_pos ⟨rfl, x⟩, if_pos rfl]
                  · rw [if_neg (fun q => gu (by have := q.1; unfold c_H at this; omega)), if_neg gu]
                    by_cases gv : g = v
                    · subst gv; rw [if_pos ⟨rfl, x⟩, if_pos rfl]
                    · rw [if_neg (fun q => gv (by have := q.1; unfold c_H at this; omega)), if_neg gv]
                · rw [if_neg (fun q => x q.2), if_neg (fun q => x q.2), if_neg x, if_neg x]
        exact inner n 0 z_F N (by omega) (by unfold z_F; omega) hN
  unfold f_X8_settle
  refine outer n 0 z_F M (by omega) (by unfold z_F; omega) ⟨fun _ _ _ _ => rfl, fun g hg j => ?_⟩
  by_cases x : j = 10
  · rw [if_pos x, x]; exact h0 g hg
  · rw [if_neg x]
/-! the reference's -/
def k_M (N : zM) (n : Nat) (ov hd ar cl nx : Nat → Int32) : Prop := ∀ g, g < n → N.1 56 g = ov g ∧ N.1 41 (20 + 16 * g + 8) = hd g ∧ N.1 41 (20 + 16 * g + 0) = ar g ∧ N.1 41 (20 + 16 * g + 5) = cl g ∧ N.1 41 (20 + 16 * g + 4) = nx g
theorem m_pays {u v : Nat} {N : zM} (hn : n ≤ 10) (hu : u < n) (hv : v < n) (hl : l_W (N.1 41) ln k st f m t) (hH : k_M N n ov hd ar cl nx) :
    p_ok (f_X11_pays (nI u) (nI v) N) (fun x => x.1 = k_A ln st f m t ov hd ar cl nx u v ∧ ∀ a, a ≠ 46 → a ≠ 47 → x.2.1 a = N.1 a) := by
  obtain ⟨l1, l2, l3, l4, l5⟩ := hl
  obtain ⟨u1, u2, u3, u4, u5⟩ := hH u hu
  obtain ⟨v1, v2, v3, v4, v5⟩ := hH v hv
  have end_ : ∀ A : zM, (∀ a, a ≠ 47 → A.1 a = N.1 a) → (∀ j, 1 ≤ j → j ≤ 5 → A.1 47 j = k_F ov hd ar cl nx u v j) → p_ok (f_X11_pays_97 (nI u) 47 (6 : Int32) (k_F ov hd ar cl nx u v 6) A) (fun x => x.1 = k_A ln st f m t ov hd ar cl nx u v ∧ ∀ a, a ≠ 46 → a ≠ 47 → x.2.1 a = N.1 a) := fun A hA hA5 => by
    unfold f_X11_pays_97
    refine p_g (show z_ix (6 : Int32) 9 from by decide) (p_lx (fun B hB => ?_))
    rw [show Int32.toNatClampNeg (6 : Int32) = 6 from rfl] at hB
    have b41 : B.1 41 = N.1 41 := by rw [hB, p_nr (by decide), hA 41 (by decide)]
    rw [show f_X11_own (nI u) (0 : Int32) B = _ from m_own (f := 0) (by omega) (by omega), Option.bind_some, b41, u3]
    refine p_lx (fun C hC => ?_)
    rw [show Int32.toNatClampNeg (7 : Int32) = 7 from rfl] at hC
    dsimp only at hC
    have c41 : C.1 41 = N.1 41 := by rw [hC, p_nr (by decide), b41]
    rw [show f_X11_own (nI u) (8 : Int32) C = _ from m_own (f := 8) (by omega) (by omega), Option.bind_some, c41, u2]
    refine p_lx (fun D hD => ?_)
    rw [show Int32.toNatClampNeg (8 : Int32) = 8 from rfl] at hD
    dsimp only at hD
    have d0 : ∀ a, a ≠ 47 → D.1 a = N.1 a := fun a ha => by rw [hD, p_nr ha, hC, p_nr ha, hB, p_nr ha, hA a ha]
    have dF : ∀ j, 1 ≤ j → j ≤ 8 → D.1 47 j = k_F ov hd ar cl nx u v j := fun j j1 j2 => by
      rw [hD, p_eq, hC, p_eq, hB, p_eq]
      by_cases z : j ≤ 5
      · rw [if_neg (by omega), if_neg (by omega), if_neg (by omega)]; exact hA5 j j1 z
      · have : j = 6 ∨ j = 7 ∨ j = 8 := by omega
        rcases this with rfl | rfl | rfl <;> rfl
    refine p_w (m_asks (M := D) (w := N.1 41) (d0 41 (by decide)) dF l1 l2 l3 l4 l5) ?_
    rintro x ⟨x1, x2⟩
    exact ⟨x1, fun a a1 a2 => by rw [x2 a a1, d0 a a2]⟩
  have mid : ∀ (A : zM), (∀ a, a ≠ 47 → A.1 a = N.1 a) → (∀ j, 1 ≤ j → j ≤ 3 → A.1 47 j = k_F ov hd ar cl nx u v j) → p_ok (f_X11_pays_56 (nI u) (nI v) 47 (4 : Int32) (k_F ov hd ar cl nx u v 4) A) (fun x => x.1 = k_A ln st f m t ov hd ar cl nx u v ∧ ∀ a, a ≠ 46 → a ≠ 47 → x.2.1 a = N.1 a) := fun A hA hA3 => by
    unfold f_X11_pays_56
    refine p_g (show z_ix (4 : Int32) 9 from by decide) (p_lx (fun B hB => ?_))
    rw [show Int32.toNatClampNeg (4 : Int32) = 4 from rfl] at hB
    have e : ∀ C : zM, C = z_w B 47 5 (k_F ov hd ar cl nx u v 5) → p_ok (f_X11_pays_97 (nI u) 47 (6 : Int32) (k_F ov hd ar cl nx u v 6) C) (fun x => x.1 = k_A ln st f m t ov hd ar cl nx u v ∧ ∀ a, a ≠ 46 → a ≠ 47 → x.2.1 a = N.1 a) := fun C hC => end_ C (fun a ha => by rw [hC, p_nr ha, hB, p_nr ha, hA a ha]) (fun j j1 j2 => by
      rw [hC, p_eq, hB, p_eq]
      by_cases z : j ≤ 3
      · rw [if_neg (by omega), if_neg (by omega)]; exact hA3 j j1 z
      · have : j = 4 ∨ j = 5 := by omega
        rcases this with rfl | rfl <;> rfl)
    by_cases z : v ≤ u
    · refine p_t (nI_le z (by omega)) (p_lx (fun C hC => p_t (nI_le z (by omega)) ?_))
      have := e C (by rw [hC, show k_F ov hd ar cl nx u v 5 = nI u - nI v - 1 from if_pos z]; rfl)
      rw [show k_F ov hd ar cl nx u v 6 = 0 from if_pos z] at this
      exact this
    · refine p_f (nI_ge (by omega) (by omega)) (p_lx (fun C hC => p_f (nI_ge (by omega) (by omega)) ?_))
      have := e C (by rw [hC, show k_F ov hd ar cl nx u v 5 = nI v - nI u - 1 from if_neg z]; rfl)
      rw [show k_F ov hd ar cl nx u v 6 = 1 from if_neg z] at this
      exact this
  unfold f_X11_pays
  refine p_g (p_ix (show v < 11 by omega) (by decide)) (p_lx (fun A hA => ?_))
  rw [show Int32.toNatClampNeg (1 : Int32) = 1 from rfl, p_cl (by omega), v1] at hA
  have a41 : A.1 41 = N.1 41 := by rw [hA, p_nr (by decide)]
  rw [show f_X11_own (nI u) (5 : Int32) A = _ from m_own (f := 5) (by omega) (by omega), Option.bind_some, a41, u4]
  refine p_lx (fun B hB => ?_)
  rw [show Int32.toNatClampNeg (2 : Int32) = 2 from rfl] at hB
  dsimp only at hB
  have b41 : B.1 41 = N.1 41 := by rw [hB, p_nr (by decide), a41]
  rw [show f_X11_own (nI v) (5 : Int32) B = _ from m_own (f := 5) (by omega) (by omega), Option.bind_some, b41, v4]
  refine p_lx (fun C hC => ?_)
  rw [show Int32.toNatClampNeg (3 : Int32) = 3 from rfl] at hC
  dsimp only at hC
  have c41 : C.1 41 = N.1 41 := by rw [hC, p_nr (by decide), b41]
  rw [show f_X11_own (nI u) (4 : Int32) C = _ from m_own (f := 4) (by omega) (by omega), Option.bind_some, c41, u5]
  have e := mid C (fun a ha => by rw [hC, p_nr ha, hB, p_nr ha, hA, p_nr ha]) (fun j j1 j2 => by
    rw [hC, p_eq, hB, p_eq, hA, p_eq]
    have : j = 1 ∨ j = 2 ∨ j = 3 := by omega
    rcases this with rfl | rfl | rfl <;> rfl)
  by_cases z : nx u = nI v
  · refine p_t z ?_
    rw [show k_F ov hd ar cl nx u v 4 = 1 from if_pos z] at e
    exact e
  · refine p_f z ?_
    rw [show k_F ov hd ar cl nx u v 4 = 0 from if_neg z] at e
    exact e
end SE
