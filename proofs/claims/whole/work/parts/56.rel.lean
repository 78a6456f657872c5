/-! SUMS -/
theorem q_ac_add (a : Int32) (f : Nat → Int32) : ∀ n, q_ac a f n = a + q_ac 0 f n := by
  intro n
  induction n with
  | zero => show a = a + 0; rw [i_add0]
  | succ n ih => show q_ac a f n + f n = a + (q_ac 0 f n + f n); rw [ih, Int32.add_assoc]
theorem q_ac_plus (f g : Nat → Int32) : ∀ n, q_ac 0 (fun i => f i + g i) n = q_ac 0 f n + q_ac 0 g n := by
  intro n
  induction n with
  | zero => rfl
  | succ n ih =>
    show q_ac 0 (fun i => f i + g i) n + (f n + g n) = (q_ac 0 f n + f n) + (q_ac 0 g n + g n)
    rw [ih, Int32.add_assoc, Int32.add_assoc, ← Int32.add_assoc (q_ac 0 g n), Int32.add_comm (q_ac 0 g n) (f n), Int32.add_assoc]
theorem q_ac_zero : ∀ n, q_ac 0 (fun _ => 0) n = 0 := by
  intro n
  induction n with
  | zero => rfl
  | succ n ih => show q_ac 0 (fun _ => 0) n + 0 = 0; rw [ih]; rfl
theorem q_tot_swap (f : Nat → Nat → Int32) (n : Nat) : ∀ T, q_tot f n T = q_ac 0 (fun g => q_ac 0 (fun t => f t g) T) n := by
  intro T
  induction T with
  | zero => show 0 = _; rw [show (fun g => q_ac 0 (fun t => f t g) 0) = (fun _ => (0 : Int32)) from rfl, q_ac_zero]
  | succ T ih =>
    show q_ac (q_tot f n T) (f T) n = q_ac 0 (fun g => q_ac 0 (fun t => f t g) T + f T g) n
    rw [q_ac_add, q_ac_plus, ih]
theorem q_ov_ac (r : Nat → Int32) (thaw : Int32) (fl sn ab : Nat → Int32) : ∀ T, q_ov r thaw fl sn ab T = q_ac 0 (fun t => q_spl r thaw fl sn ab t) T := by
  intro T
  induction T with
  | zero => rfl
  | succ T ih => show _ + _ = _ + _; rw [ih]
theorem q_all_ac (r : Nat → Nat → Int32) (thaw : Int32) (fl sn : Nat → Int32) (T : Nat) : ∀ n, q_all r thaw fl sn T n = q_ac 0 (fun h => q_ov (r h) thaw fl sn (q_A r thaw fl sn h) T) n := by
  intro n
  induction n with
  | zero => rfl
  | succ n ih => show _ + _ = _ + _; rw [ih]
theorem q_ac_congr {f g : Nat → Int32} : ∀ n, (∀ i, i < n → f i = g i) → q_ac 0 f n = q_ac 0 g n := by
  intro n
  induction n with
  | zero => intro _; rfl
  | succ n ih => intro h; show _ + _ = _ + _; rw [ih (fun i hi => h i (by omega)), h n (by omega)]
/-- what runs over in all: house by house and hour by hour the same -/
theorem q_all_tot (r : Nat → Nat → Int32) (thaw : Int32) (fl sn : Nat → Int32) (T n : Nat) : q_tot (fun t g => q_spl (r g) thaw fl sn (q_A r thaw fl sn g) t) n T = q_all r thaw fl sn T n := by
  rw [q_tot_swap, q_all_ac]
  exact q_ac_congr n (fun g _ => (q_ov_ac _ _ _ _ _ T).symm)
/-! THE LAW'S STEPS -/
def l_len (k : Nat) : Nat := if k = 16 then 2 else 1
/-- where a step stands in the class's code -/
def l_pos (st : Nat → Nat × Int32) : Nat → Nat
  | 0 => 0
  | i + 1 => l_pos st i + l_len (st i).1
/-- a step's kind in the class's code -/
def l_kd (k : Nat) : Nat := if k ≤ 8 then 7 + k else if k = 13 then 17 else if k = 14 then 18 else if k = 15 then 19 else if k = 16 then 20 else if k = 17 then 23 else if k = 18 then 24 else if k = 19 then 25 else if k = 20 then 7 else if k = 21 then 6 else 5
def l_code (code : Nat → Int32) (p : Nat) (s : Nat × Int32) : Prop :=
  if s.1 = 0 then code p = s.2 ∧ 0 ≤ s.2 else if s.1 = 16 then code p = s.2 ∧ 0 < s.2 ∧ code (p + 1) = -nI 20 else code p = -nI (l_kd s.1)
/-- the stack's kinds (true: a test) behind a step -/
def l_ty (k : Nat) (s : List Bool) : Option (List Bool) :=
  if k ≤ 8 then (if s.length < 39 then some (false :: s) else none)
  else if k = 13 ∨ k = 14 ∨ k = 15 then (match s with | false :: false :: r => some (false :: r) | _ => none)
  else if k = 16 then (match s with | false :: r => (if r.length < 38 then some (false :: r) else none) | _ => none)
  else if k = 17 ∨ k = 18 ∨ k = 19 then (match s with | false :: false :: r => some (true :: r) | _ => none)
  else if k = 20 then (match s with | true :: r => some (true :: r) | _ => none)
  else if k = 21 ∨ k = 22 then (match s with | true :: true :: r => some (true :: r) | _ => none)
  else none
def l_run (st : Nat → Nat × Int32) (b : Nat) : Nat → List Bool → Option (List Bool)
  | 0, s => some s
  | n + 1, s => (l_run st b n s).bind (fun q => l_ty (st (b + n)).1 q)
/-- the class's law (its lines, code, rows of places) is the reference's (in w) -/
def s_law (lines : Int32) (code sf wf w : Nat → Int32) : Prop :=
  ∃ (ln k : Nat) (st : Nat → Nat × Int32) (f m t : Nat → Nat), lines = nI ln ∧ w 810 = nI ln ∧ ln ≤ 16 ∧ k ≤ 400 ∧ l_pos st k ≤ 400 ∧
    (∀ i, i < k → w (875 + 2 * i) = nI (st i).1 ∧ w (876 + 2 * i) = (st i).2 ∧ l_code code (l_pos st i) (st i)) ∧
    ∀ i, i < ln → w (815 + i) = nI (f i) ∧ w (835 + i) = nI (m i) ∧ w (855 + i) = nI (t i) ∧ f i ≤ m i ∧ m i ≤ t i ∧ t i ≤ k ∧ sf i = nI (l_pos st (f i)) ∧ wf i = nI (l_pos st (m i)) ∧ sf (i + 1) = nI (l_pos st (t i)) ∧
      l_run st (f i) (m i - f i) [] = some [false] ∧ (m i = t i ∨ l_run st (m i) (t i - m i) [] = some [true])
/-! THE STREET, of the class and of the reference -/
abbrev c_S (s t : Nat) : Nat := 231 + 30 * (s - 1) + 3 * t
def i_in (x : Int32) (a b : Int) : Prop := a ≤ x.toInt ∧ x.toInt ≤ b
/-- numbers of the street w; at most K storms came -/
def s_W (K : Nat) (w : Nat → Int32) (n m : Nat) : Prop :=
  (w 0 = nI n ∧ n ≤ 10 ∧ w 1 = nI m ∧ m ≤ 10) ∧ (i_in (w 2) 0 999999 ∧ i_in (w 3) 0 999999 ∧ i_in (w 6) 0 9) ∧ (∃ c, c ≤ K ∧ w 5 = nI c ∧ ∀ h, h < n → i_in (w (20 + 16 * h + 9)) 0 (117612 * c)) ∧
  (∀ h, h < n → i_in (w (20 + 16 * h)) 1 99 ∧ i_in (w (20 + 16 * h + 1)) 0 9999 ∧ i_in (w (20 + 16 * h + 2)) 0 10 ∧ i_in (w (20 + 16 * h + 3)) 0 99 ∧ i_in (w (20 + 16 * h + 5)) 0 10 ∧ i_in (w (20 + 16 * h + 6)) 0 999 ∧ i_in (w (20 + 16 * h + 7)) 0 999 ∧ i_in (w (20 + 16 * h + 8)) 0 999) ∧
  m_L (fun h => w (20 + 16 * h + 4)) n ∧
  (∀ t, t < m → (∃ T, 1 ≤ T ∧ T ≤ 12 ∧ w (180 + 26 * t) = nI T) ∧ ∀ j, j < 12 → i_in (w (181 + 26 * t + j)) 0 99 ∧ (w (193 + 26 * t + j) = 0 ∨ w (193 + 26 * t + j) = 1))
/-- the class's street s holds the same -/
def s_C (s : Nat) (M : zM) (w : Nat → Int32) (n m : Nat) : Prop :=
  (M.1 (s + 2) 0 = w 0 ∧ M.1 s 1 = w 1 ∧ M.1 s 5 = w 2 ∧ M.1 s 4 = w 3 ∧ M.1 s 6 = w 4 ∧ M.1 s 7 = w 5 ∧ M.1 (s + 2) 1 = w 6 ∧ M.1 s 8 = w 7) ∧
  (∃ lh lt, M.1 s 9 = nI lh ∧ M.1 s 10 = nI lt ∧ lh ≤ n ∧ lt ≤ 12 ∧ ((lt = 0 ∧ w 8 = -1) ∨ (w 8 = nI lt ∧ w 9 = nI lh)) ∧ ∀ h t, h < lh → t < lt → M.1 (c_H (s + 2) h + 2) t = w (440 + 3 * (12 * h + t)) ∧ M.1 (c_H (s + 2) h + 3) t = w (440 + 3 * (12 * h + t) + 1) ∧ M.1 (c_H (s + 2) h + 4) t = w (440 + 3 * (12 * h + t) + 2)) ∧
  (∀ h, h < n → ∀ j, j < 14 → M.1 (c_H (s + 2) h) j = w (20 + 16 * h + j)) ∧
  (∀ t, t < m → M.1 (c_S s t) 0 = w (180 + 26 * t) ∧ ∀ j, j < 12 → M.1 (c_S s t + 1) j = w (181 + 26 * t + j) ∧ M.1 (c_S s t + 2) j = w (193 + 26 * t + j)) ∧
  s_law (M.1 (s + 12) 0) (M.1 (s + 15)) (M.1 (s + 18)) (M.1 (s + 21)) w
/-- the tape: signed bytes there, 0 .. 255 here -/
def s_T (M : zM) : Prop := ∃ k, k ≤ 400 ∧ M.1 28 0 = nI k ∧ M.1 40 10 = nI k ∧ ∀ i, i < k → M.1 45 i = M.1 29 i &&& 255 ∧ M.1 29 i = Int8.toInt32 (Int32.toInt8 (M.1 29 i))
/-- WHAT EVERY CALL KEEPS: at most K storms came -/
def s_I (K : Nat) (M : zM) : Prop :=
  (∃ n m, s_W K (M.1 41) n m ∧ s_C 1 M (M.1 41) n m) ∧ (M.1 0 8 = M.1 40 2 ∧ (M.1 0 8 = 0 ∨ (M.1 0 8 = 1 ∧ ∃ n m, s_W K (M.1 42) n m ∧ s_C 2 M (M.1 42) n m))) ∧ s_T M ∧ (M.1 30 0 = M.1 40 17 ∧ M.1 30 1 = M.1 40 19) ∧ M.1 40 33 = 0
/-- cells of the class's street s -/
def s_own (s a : Nat) : Prop := a = s ∨ a = s + 2 ∨ a = s + 12 ∨ a = s + 15 ∨ a = s + 18 ∨ a = s + 21 ∨ (81 + 50 * (s - 1) ≤ a ∧ a < 131 + 50 * (s - 1)) ∨ (231 + 30 * (s - 1) ≤ a ∧ a < 261 + 30 * (s - 1))
theorem s_C_fr {s : Nat} {M N : zM} {w : Nat → Int32} {n m : Nat} (hs : s = 1 ∨ s = 2) (hn : n ≤ 10) (hm : m ≤ 10) (h : ∀ a, s_own s a → N.1 a = M.1 a) (hC : s_C s M w n m) : s_C s N w n m := by
  obtain ⟨h1, ⟨lh, lt, l1, l2, l3, l4, l5, l6⟩, h3, h4, h5⟩ := hC
  have e0 : N.1 s = M.1 s := h s (Or.inl rfl)
  have e2 : N.1 (s + 2) = M.1 (s + 2) := h _ (Or.inr (Or.inl rfl))
  have e12 : N.1 (s + 12) = M.1 (s + 12) := h _ (Or.inr (Or.inr (Or.inl rfl)))
  have e15 : N.1 (s + 15) = M.1 (s + 15) := h _ (Or.inr (Or.inr (Or.inr (Or.inl rfl))))
  have e18 : N.1 (s + 18) = M.1 (s + 18) := h _ (Or.inr (Or.inr (Or.inr (Or.inr (Or.inl rfl)))))
  have e21 : N.1 (s + 21) = M.1 (s + 21) := h _ (Or.inr (Or.inr (Or.inr (Or.inr (Or.inr (Or.inl rfl))))))
  have eH : ∀ g q, g < 10 → q ≤ 4 → N.1 (c_H (s + 2) g + q) = M.1 (c_H (s + 2) g + q) := fun g q hg hq => h _ (Or.inr (Or.inr (Or.inr (Or.inr (Or.inr (Or.inr (Or.inl (by unfold c_H; omega))))))))
  have eS : ∀ g q, g < 10 → q ≤ 2 → N.1 (c_S s g + q) = M.1 (c_S s g + q) := fun g q hg hq => h _ (Or.inr (Or.inr (Or.inr (Or.inr (Or.inr (Or.inr (Or.inr (by unfold c_S; omega))))))))
  refine ⟨by rw [e0, e2]; exact h1, ⟨lh, lt, by rw [e0]; exact l1, by rw [e0]; exact l2, l3, l4, l5, fun g t hg ht => by rw [eH g 2 (by omega) (by omega), eH g 3 (by omega) (by omega), eH g 4 (by omega) (by omega)]; exact l6 g t hg ht⟩, fun g hg j hj => ?_, fun t ht => ?_, by rw [e12, e15, e18, e21]; exact h5⟩
  · have := eH g 0 (by omega) (by omega)
    rw [Nat.add_zero] at this
    rw [this]; exact h3 g hg j hj
  · have := eS t 0 (by omega) (by omega)
    rw [Nat.add_zero] at this
    rw [this, eS t 1 (by omega) (by omega), eS t 2 (by omega) (by omega)]; exact h4 t ht
