/-! STAINS -/
def R_s (w : Nat → Int32) (c g j : Nat) : Int32 := if j = 5 then (if c.testBit g then 10 else 0) else if j = 8 ∨ j = 9 then 0 else w_r w g j
/-- the set of the wet among the first houses -/
def a_wet (ov : Nat → Int32) : Nat → Nat
  | 0 => 0
  | h + 1 => a_wet ov h + (if ov h ≤ 0 then 0 else 2 ^ h)
theorem a_wet_lt (ov : Nat → Int32) : ∀ h, a_wet ov h < 2 ^ h := by
  intro h
  induction h with
  | zero => exact Nat.one_pos
  | succ h ih =>
    have e : 2 ^ (h + 1) = 2 ^ h + 2 ^ h := by rw [Nat.pow_succ]; omega
    show a_wet ov h + (if ov h ≤ 0 then 0 else 2 ^ h) < _
    by_cases z : ov h ≤ 0
    · rw [if_pos z]; omega
    · rw [if_neg z]; omega
theorem a_wet_cg {ov ov' : Nat → Int32} : ∀ h, (∀ g, g < h → ov g = ov' g) → a_wet ov h = a_wet ov' h := by
  intro h
  induction h with
  | zero => intro _; rfl
  | succ h ih =>
    intro e
    show a_wet ov h + (if ov h ≤ 0 then 0 else 2 ^ h) = a_wet ov' h + (if ov' h ≤ 0 then 0 else 2 ^ h)
    rw [ih (fun g hg => e g (by omega)), e h (by omega)]
theorem a_wet_s {ov : Nat → Int32} {q h : Nat} : a_wet ov (h + 1) = q % 2 ^ (h + 1) ↔ a_wet ov h = q % 2 ^ h ∧ (¬ ov h ≤ 0 ↔ q.testBit h = true) := by
  have e := Nat.mod_pow_succ (x := q) (b := 2) (k := h)
  have hA := a_wet_lt ov h
  have hB : q % 2 ^ h < 2 ^ h := Nat.mod_lt _ (Nat.two_pow_pos h)
  have hy : q / 2 ^ h % 2 < 2 := Nat.mod_lt _ (by omega)
  rw [e, Nat.testBit_eq_decide_div_mod_eq]
  show a_wet ov h + (if ov h ≤ 0 then 0 else 2 ^ h) = _ ↔ _
  generalize q / 2 ^ h % 2 = y at hy ⊢
  generalize q % 2 ^ h = B at hB ⊢
  generalize a_wet ov h = A at hA ⊢
  generalize 2 ^ h = P at hA hB ⊢
  have : y = 0 ∨ y = 1 := by omega
  rcases this with rfl | rfl
  · by_cases z : ov h ≤ 0
    · simp [z]
    · simp [z]; omega
  · by_cases z : ov h ≤ 0
    · simp [z]; omega
    · simp [z]
theorem a_wet_dn {ov : Nat → Int32} {q : Nat} : ∀ d h, a_wet ov (h + d) = q % 2 ^ (h + d) → a_wet ov h = q % 2 ^ h := by
  intro d
  induction d with
  | zero => intro h e; exact e
  | succ d ih => intro h e; exact ih h (a_wet_s.mp e).1
abbrev a_St : Type := Nat × Int32 × Int32 × Int32
def a_nt (s : Nat) (x : a_St) (c : Nat) : a_St := (x.1 + 1, if x.2.1 = -1 then nI s else x.2.1, if x.2.1 = -1 then nI c else if x.2.1 = nI s then q_mn x.2.2.1 (nI c) else x.2.2.1, if x.1 = 0 then nI c else x.2.2.2 &&& nI c)
def a_rt (s : Nat) (x : a_St) (c : Nat) : a_St := (x.1 + 1, if x.1 = 0 then nI s else x.2.1, if x.1 = 0 then nI c else x.2.2.1, if x.1 = 0 then nI c else x.2.2.2 &&& nI c)
theorem q_mn_com (a b : Int32) : q_mn a b = q_mn b a := by
  apply Int32.toInt_inj.mp
  rw [i_mnI, i_mnI]
  omega
theorem q_mn_rc (a b c : Int32) : q_mn (q_mn a b) c = q_mn (q_mn a c) b := by
  apply Int32.toInt_inj.mp
  rw [i_mnI, i_mnI, i_mnI, i_mnI]
  omega
theorem a_nt_com {s : Nat} (hs : s < 10) (x : a_St) (c d : Nat) : a_nt s (a_nt s x c) d = a_nt s (a_nt s x d) c := by
  obtain ⟨k, l, m, i⟩ := x
  have n1 : ¬ nI s = -1 := n_m1 (by omega)
  unfold a_nt
  dsimp only
  refine Prod.ext rfl (Prod.ext rfl (Prod.ext ?_ ?_))
  · dsimp only
    by_cases z : l = -1
    · rw [if_pos z, if_pos z, if_pos z, if_neg n1, if_neg n1, if_pos rfl, if_pos rfl]
      exact q_mn_com _ _
    · rw [if_neg z, if_neg z, if_neg z, if_neg z, if_neg z]
      by_cases y : l = nI s
      · rw [if_pos y, if_pos y, if_pos y, if_pos y]
        exact q_mn_rc _ _ _
      · rw [if_neg y, if_neg y, if_neg y, if_neg y]
  · show (if k + 1 = 0 then nI d else (if k = 0 then nI c else i &&& nI c) &&& nI d) = (if k + 1 = 0 then nI c else (if k = 0 then nI d else i &&& nI d) &&& nI c)
    rw [if_neg (Nat.succ_ne_zero k), if_neg (Nat.succ_ne_zero k)]
    by_cases z : k = 0
    · rw [if_pos z, if_pos z, Int32.and_comm]
    · rw [if_neg z, if_neg z, Int32.and_assoc, Int32.and_comm (nI c), ← Int32.and_assoc]
/-- the order in which the class tries -/
def a_L : Nat → Nat → Nat → List Nat
  | 0, _, p => [p]
  | d + 1, h, p => a_L d (h + 1) p ++ a_L d (h + 1) (p + 2 ^ h)
theorem a_Lp {n : Nat} (hn : n ≤ 8) : (a_L n 0 0).Perm (List.range (2 ^ n)) := by
  apply List.isPerm_iff.mp
  have : n = 0 ∨ n = 1 ∨ n = 2 ∨ n = 3 ∨ n = 4 ∨ n = 5 ∨ n = 6 ∨ n = 7 ∨ n = 8 := by omega
  rcases this with rfl | rfl | rfl | rfl | rfl | rfl | rfl | rfl | rfl <;> decide +kernel
theorem a_Ll : ∀ d h p, (a_L d h p).length = 2 ^ d := by
  intro d
  induction d with
  | zero => intro h p; rfl
  | succ d ih =>
    intro h p
    rw [a_L, List.length_append, ih, ih, Nat.pow_succ]
    omega
theorem a_Lm : ∀ d h p c, c ∈ a_L d h p → ∃ r, c = p + 2 ^ h * r := by
  intro d
  induction d with
  | zero => intro h p c hc; exact ⟨0, by rw [a_L, List.mem_singleton] at hc; rw [hc]; omega⟩
  | succ d ih =>
    intro h p c hc
    rw [a_L, List.mem_append] at hc
    rcases hc with hc | hc
    · obtain ⟨r, hr⟩ := ih _ _ _ hc
      exact ⟨2 * r, by rw [hr, Nat.pow_succ, Nat.mul_assoc]⟩
    · obtain ⟨r, hr⟩ := ih _ _ _ hc
      exact ⟨1 + 2 * r, by rw [hr, Nat.pow_succ, Nat.mul_add, Nat.mul_assoc]; omega⟩
theorem a_tb {h p c r g : Nat} (hc : c = p + 2 ^ h * r) (hg : g < h) : c.testBit g = p.testBit g := by
  have e : c % 2 ^ h = p % 2 ^ h := by rw [hc, Nat.add_mul_mod_self_left]
  have e1 := Nat.testBit_mod_two_pow c h g
  have e2 := Nat.testBit_mod_two_pow p h g
  rw [e, e2] at e1
  simpa [hg] using e1.symm
def a_fold (s : Nat) (good : Nat → Bool) (x : a_St) (l : List Nat) : a_St := (l.filter good).foldl (a_nt s) x
theorem a_fold_app {s : Nat} {good : Nat → Bool} {x : a_St} {l l' : List Nat} : a_fold s good x (l ++ l') = a_fold s good (a_fold s good x l) l' := by
  unfold a_fold
  rw [List.filter_append, List.foldl_append]
theorem a_fold_no {s : Nat} {good : Nat → Bool} {x : a_St} {l : List Nat} (h : ∀ c, c ∈ l → good c = false) : a_fold s good x l = x := by
  unfold a_fold
  rw [List.filter_eq_nil_iff.mpr (fun c hc => by rw [h c hc]; decide)]
  rfl
theorem a_fold_cnt {s : Nat} {good : Nat → Bool} : ∀ (l : List Nat) (x : a_St), (a_fold s good x l).1 ≤ x.1 + l.length := by
  intro l
  induction l with
  | nil => intro x; exact Nat.le_refl _
  | cons c l ih =>
    intro x
    rw [show c :: l = [c] ++ l from rfl, a_fold_app]
    have := ih (a_fold s good x [c])
    have e : (a_fold s good x [c]).1 ≤ x.1 + 1 := by
      unfold a_fold
      by_cases z : good c
      · rw [List.filter_cons_of_pos z]; exact Nat.le_refl _
      · rw [List.filter_cons_of_neg z]; exact Nat.le_succ _
    rw [List.length_append, List.length_singleton]
    omega
/-- the reference's order -/
def a_r (s : Nat) (good : Nat → Bool) (x : a_St) : Nat → a_St
  | 0 => x
  | c + 1 => if good c then a_rt s (a_r s good x c) c else a_r s good x c
def a_J (s b : Nat) (x : a_St) : Prop := (x.1 = 0 ∧ x.2.1 = -1) ∨ (0 < x.1 ∧ ∃ s', s' ≤ s ∧ x.2.1 = nI s' ∧ (s' = s → ∃ c0, c0 < b ∧ x.2.2.1 = nI c0))
theorem a_eq {s : Nat} (hs : s < 10) {x : a_St} {c : Nat} (hc : c < 1000) (h : a_J s c x) : a_nt s x c = a_rt s x c ∧ a_J s (c + 1) (a_rt s x c) := by
  obtain ⟨k, l, m, i⟩ := x
  have n1 : ∀ s', s' ≤ s → ¬ nI s' = -1 := fun s' q => n_m1 (by omega)
  unfold a_nt a_rt a_J
  rcases h with ⟨h1, h2⟩ | ⟨h1, s', h2, h3, h4⟩
  · dsimp only at h1 h2 ⊢
    rw [if_pos h1, if_pos h1, if_pos h1, if_pos h2, if_pos h2]
    exact ⟨rfl, Or.inr ⟨by omega, s, Nat.le_refl s, rfl, fun _ => ⟨c, by omega, rfl⟩⟩⟩
  · dsimp only at h1 h3 h4 ⊢
    have k0 : ¬ k = 0 := by omega
    have l1 : ¬ l = -1 := by rw [h3]; exact n1 s' h2
    rw [if_neg k0, if_neg k0, if_neg k0, if_neg l1, if_neg l1]
    refine ⟨?_, Or.inr ⟨by omega, s', h2, h3, fun e => ?_⟩⟩
    · by_cases z : l = nI s
      · obtain ⟨c0, c1, c2⟩ := h4 (n_inj (by omega) (by omega) (h3.symm.trans z))
        rw [if_pos z, c2]
        have : q_mn (nI c0) (nI c) = nI c0 := if_neg (nI_nlt (by omega) (by omega))
        rw [this]
      · rw [if_neg z]
    · obtain ⟨c0, c1, c2⟩ := h4 e
      exact ⟨c0, by omega, c2⟩
theorem a_same {s : Nat} (hs : s < 10) {good : Nat → Bool} {x : a_St} (h : a_J s 0 x) : ∀ c, c ≤ 1000 → a_fold s good x (List.range c) = a_r s good x c ∧ a_J s c (a_r s good x c) := by
  intro c
  induction c with
  | zero => intro _; exact ⟨rfl, h⟩
  | succ c ih =>
    intro hc
    obtain ⟨i1, i2⟩ := ih (by omega)
    rw [List.range_succ, a_fold_app, i1]
    show _ = (if good c then _ else _) ∧ a_J s (c + 1) (if good c then _ else _)
    by_cases z : good c = true
    · rw [if_pos z]
      obtain ⟨e1, e2⟩ := a_eq hs (by omega) i2
      refine ⟨?_, e2⟩
      unfold a_fold
      rw [List.filter_cons_of_pos z]
      exact e1
    · rw [if_neg z]
      refine ⟨a_fold_no (fun d hd => by rw [List.mem_singleton] at hd; rw [hd]; exact Bool.eq_false_iff.mpr z), ?_⟩
      rcases i2 with i2 | ⟨j1, s', j2, j3, j4⟩
      · exact Or.inl i2
      · exact Or.inr ⟨j1, s', j2, j3, fun e => by obtain ⟨c0, c1, c2⟩ := j4 e; exact ⟨c0, by omega, c2⟩⟩
theorem a_J_up {s b : Nat} {x : a_St} (h : a_J s b x) : a_J (s + 1) 0 x := by
  rcases h with h | ⟨j1, s', j2, j3, j4⟩
  · exact Or.inl h
  · exact Or.inr ⟨j1, s', by omega, j3, fun e => by omega⟩
/-- both orders -/
def a_X (n : Nat) (good : Nat → Nat → Bool) : Nat → a_St
  | 0 => (0, -1, -1, 0)
  | s + 1 => a_fold s (good s) (a_X n good s) (a_L n 0 0)
def a_Y (n : Nat) (good : Nat → Nat → Bool) : Nat → a_St
  | 0 => (0, -1, -1, 0)
  | s + 1 => a_r s (good s) (a_Y n good s) (2 ^ n)
theorem a_p8 {n : Nat} (hn : n ≤ 8) : 2 ^ n ≤ 256 := Nat.pow_le_pow_right (n := 2) (by omega) hn
theorem a_XY {n : Nat} (hn : n ≤ 8) (good : Nat → Nat → Bool) : ∀ s, s ≤ 10 → a_X n good s = a_Y n good s ∧ a_J s 0 (a_Y n good s) ∧ (a_Y n good s).1 ≤ 256 * s := by
  have hp := a_p8 hn
  intro s
  induction s with
  | zero => intro _; exact ⟨rfl, Or.inl ⟨rfl, rfl⟩, Nat.le_refl _⟩
  | succ s ih =>
    intro hs
    obtain ⟨i1, i2, i3⟩ := ih (by omega)
    obtain ⟨e1, e2⟩ := a_same (by omega) (good := good s) i2 (2 ^ n) (by omega)
    have e : a_X n good (s + 1) = a_Y n good (s + 1) := by
      show a_fold s (good s) (a_X n good s) (a_L n 0 0) = a_r s (good s) (a_Y n good s) (2 ^ n)
      rw [← e1, i1]
      exact List.Perm.foldl_eq' ((a_Lp hn).filter _) (fun c _ d _ z => a_nt_com (by omega) z c d) _
    refine ⟨e, a_J_up e2, ?_⟩
    rw [← e]
    have := a_fold_cnt (s := s) (good := good s) (a_L n 0 0) (a_X n good s)
    rw [a_Ll, i1] at this
    show (a_fold s (good s) (a_X n good s) (a_L n 0 0)).1 ≤ _
    rw [i1]
    omega
/-- bits of a set -/
theorem a_or {h p : Nat} (hh : h < 10) (hp : p < 2 ^ h) : nI p ||| ((1 : Int32) <<< (nI h &&& 31)) = nI (p + 2 ^ h) := by
  have d : ∀ (h : Fin 10) (p : Fin 512), p.1 < 2 ^ h.1 → nI p.1 ||| ((1 : Int32) <<< (nI h.1 &&& 31)) = nI (p.1 + 2 ^ h.1) := by decide +kernel
  have : 2 ^ h ≤ 2 ^ 9 := Nat.pow_le_pow_right (n := 2) (by omega) (by omega)
  exact d ⟨h, hh⟩ ⟨p, by omega⟩ hp
theorem a_bit {h q : Nat} (hh : h < 10) (hq : q < 1024) : (nI q >>> (nI h &&& 31)) &&& (1 : Int32) = if q.testBit h then 1 else 0 := by
  have d : ∀ (h : Fin 10) (q : Fin 1024), (nI q.1 >>> (nI h.1 &&& 31)) &&& (1 : Int32) = if q.1.testBit h.1 then 1 else 0 := by decide +kernel
  exact d ⟨h, hh⟩ ⟨q, hq⟩
theorem a_sh {n : Nat} (hn : n ≤ 10) : (1 : Int32) <<< (nI n &&& 31) = nI (2 ^ n) := by
  have d : ∀ (n : Fin 11), (1 : Int32) <<< (nI n.1 &&& 31) = nI (2 ^ n.1) := by decide +kernel
  exact d ⟨n, by omega⟩
theorem a_or0 (x : Int32) : x ||| (0 : Int32) = x := Int32.or_zero
section EC
variable {R R' : Nat → Nat → Int32} {w : Nat → Int32} {s T h : Nat}
theorem e_cgR (hr : ∀ g, g < h → ∀ j, h_im j → R g j = R' g j) {g : Nat} (hg : g < h) : e_ov R w s T g = e_ov R' w s T g ∧ (∀ t, t < T → e_car R w s g t = e_car R' w s g t) ∧ (∀ t, t < T → e_got R w s g t = e_got R' w s g t) ∧ ∀ t, t < T → e_A R w s g t = e_A R' w s g t := by
  have hA : ∀ t, t < T → e_A R w s g t = e_A R' w s g t := q_A_cg (T := T) hr (fun _ _ => rfl) (fun _ _ => rfl) (g + 1) g (by omega) hg
  exact ⟨q_ov_cg (hr g hg) (fun _ _ => rfl) (fun _ _ => rfl) hA T (Nat.le_refl T), fun t ht => q_car_cg (hr g hg) (fun _ _ => rfl) (fun _ _ => rfl) hA ht, fun t ht => q_got_cg (hr g hg) (fun _ _ => rfl) (fun _ _ => rfl) hA ht, hA⟩
theorem R_s_cg {c p r : Nat} (hc : c = p + 2 ^ h * r) : ∀ g, g < h → ∀ j, h_im j → R_s w c g j = R_s w p g j := fun g hg j _ => by
  unfold R_s
  rw [a_tb hc hg]
end EC
