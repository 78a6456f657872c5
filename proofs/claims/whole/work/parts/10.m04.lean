def f_X11_any_9 (S : zM → Option (Int32 × zM)) : Nat → zM → Option (Int32 × zM)
  | 0, _ => none
  | n + 1, M =>
    if (M.1 40 12) = (4 : Int32) then (
      (f_X11_next0  M).bind fun x2 =>
      (f_X11_every S  x2).bind fun x3 =>
      if x3.1 = 0 then (
        some ((0 : Int32), x3.2)
      ) else (
        (f_X11_lay (22 : Int32) (0 : Int32) x3.2).bind fun x5 =>
        f_X11_any_9 S n  x5
      )
    ) else (
      some ((1 : Int32), M)
    )
def f_X11_any (S : zM → Option (Int32 × zM))  (M : zM) : Option (Int32 × zM) :=
  (f_X11_every S  M).bind fun x1 =>
  if x1.1 = 0 then (
    some ((0 : Int32), x1.2)
  ) else (
    f_X11_any_9 S z_F  x1.2
  )
set_option maxHeartbeats 4000000 in
set_option maxRecDepth 100000 in
theorem w_X11_any_9 {G : zG} {p : Program} {l : Launch} {e : Env} {s : State} {m : MethodId} {args : Array Value} {below : List Frame} {meth : Method} {c : Code} (X : z_C G p s m args meth c cX11_any 1 RX11 (some .boolean)) {lev : Nat} (hlev : 12 ≤ lev) {S : zM → Option (Int32 × zM)} (hS : ∀  (M : zM) (q : Int32 × zM), S  M = some q → z_T l G lev yX11_oneTest (.code yX11_oneTest cX11_oneTest 2 (some .boolean)) [.ref (G.1 40)] M (some (.int q.1)) q.2) {r : Int32 × zM} : ∀ (n : Nat)  (M : zM) (H : Heap) (locs : List Loc) (ls : Array Slot), z_W G M H locs → lv_has ls 1 [(0, .ref (G.1 40))] → f_X11_any_9 S n  M = some r → W p l e (z_rm (lev + 2)) s m args below meth c H locs 0 0 (z_Q G below args s (some (.int r.1)) r.2) (F0 m 9 ls []) := by
  have hx := X.1
  have hb := X.2.1
  intro n
  induction n with
  | zero =>
    intro  M H locs ls  hw hl h
    exact z_no h
  | succ n ih =>
    intro  M H locs ls  hw hl h
    rw [f_X11_any_9] at h
    refine lv_aload_n (pc := 9) hx hb dX11_any_9 rfl (lv_at hl 0 rfl) ?_
    refine zg_DrinkingRoofsModel_token (pc := 10) X hw zw_fl_5_83 dX11_any_10 ?_
    refine lv_iconst (pc := 13) (v := 4) hx hb dX11_any_13 (by decide) ?_
    refine lv_icmp_ne (pc := 14) (tgt := 40) hx hb dX11_any_14 (by decide) (fun c1 => ?_) (fun c1 => ?_)
    · replace h := z_f c1 h
      refine lv_iconst (pc := 40) (v := 1) hx hb dX11_any_40 (by decide) ?_
      obtain rfl := Option.some.inj h
      exact z_rz (pc := 41) X hw (z_nb (x := 1) (by decide)) dX11_any_41
    · replace h := z_t c1 h
      refine lv_aload_n (pc := 17) hx hb dX11_any_17 rfl (lv_at hl 0 rfl) ?_
      obtain ⟨x2, ex2, h⟩ := z_bd h
      refine z_cvV (pc := 18) (rest := []) X hw (m_X11_next0  ex2) (z_lt zk_40 (by decide)) (z_E11 zk_40) rfl zw_ml_6_16 zw_im_6_18 zw_se_S_39 zw_in_1_12 zw_co_6_19 zd_X11_next0 (z_lv (by omega) (by decide)) rfl hl.1 rfl (Nat.le_of_ble_eq_true rfl) dX11_any_18 ⟨Nat.zero_le _, Nat.zero_le _⟩ (fun Hx2 lx2 wx2 => ?_)
      refine lv_aload_n (pc := 21) hx hb dX11_any_21 rfl (lv_at hl 0 rfl) ?_
      obtain ⟨x3, ex3, h⟩ := z_bd h
      refine z_cvI (pc := 22) (rest := []) X wx2 (m_X11_every hlev hS  ex3) (z_lt zk_40 (by decide)) (z_E11 zk_40) rfl zw_ml_6_85 zw_im_6_87 zw_se_S_51 zw_in_1_12 zw_co_6_88 zd_X11_every (z_lv (by omega) (by decide)) rfl hl.1 rfl (Nat.le_of_ble_eq_true rfl) dX11_any_22 ⟨Nat.zero_le _, Nat.zero_le _⟩ (fun Hx3 lx3 wx3 => ?_)
      refine lv_if_ne (pc := 25) (tgt := 30) hx hb dX11_any_25 (by decide) (fun c4 => ?_) (fun c4 => ?_)
      · replace h := z_f c4 h
        refine lv_aload_n (pc := 30) hx hb dX11_any_30 rfl (lv_at hl 0 rfl) ?_
        refine lv_bipush (pc := 31) (v := 22) hx hb dX11_any_31 (by decide) ?_
        refine lv_iconst (pc := 33) (v := 0) hx hb dX11_any_33 (by decide) ?_
        obtain ⟨x5, ex5, h⟩ := z_bd h
        refine z_cvV (pc := 34) (rest := []) X wx3 (m_X11_lay  ex5) (z_lt zk_40 (by decide)) (z_E11 zk_40) rfl zw_ml_6_77 zw_im_6_79 zw_se_S_49 zw_in_1_12 zw_co_6_80 zd_X11_lay (z_lv (by omega) (by decide)) rfl hl.1 rfl (Nat.le_of_ble_eq_true rfl) dX11_any_34 ⟨Nat.zero_le _, Nat.zero_le _⟩ (fun Hx5 lx5 wx5 => ?_)
        refine lv_goto (pc := 37) (tgt := 9) hx hb dX11_any_37 (by decide) ?_
        exact ih  x5 Hx5 lx5 ls  wx5 (lv_sub hl [0] rfl) h
      · replace h := z_t c4 h
        refine lv_iconst (pc := 28) (v := 0) hx hb dX11_any_28 (by decide) ?_
        obtain rfl := Option.some.inj h
        exact z_rz (pc := 29) X wx3 (z_nb (x := 0) (by decide)) dX11_any_29
set_option maxHeartbeats 4000000 in
set_option maxRecDepth 100000 in
theorem m_X11_any {l : Launch} {G : zG} {lev : Nat} (hlev : 12 ≤ lev) {S : zM → Option (Int32 × zM)} (hS : ∀  (M : zM) (q : Int32 × zM), S  M = some q → z_T l G lev yX11_oneTest (.code yX11_oneTest cX11_oneTest 2 (some .boolean)) [.ref (G.1 40)] M (some (.int q.1)) q.2) {M : zM} {r : Int32 × zM} (h : f_X11_any S  M = some r) : z_T l G (lev + 2) yX11_any (.code yX11_any cX11_any 1 (some .boolean)) [.ref (G.1 40)] M (some (.int r.1)) r.2 := by
  refine z_of rfl ?_
  intro p e s m below meth c X hw
  have hl := lv_entry [.ref (G.1 40)] (n := 1) (Nat.le_of_ble_eq_true rfl)
  rw [lg_entry_eq]
  generalize (lg_sl [.ref (G.1 40)] ++ List.replicate (1 - (lg_sl [.ref (G.1 40)]).length) Slot.unset).toArray = ls at hl ⊢
  have hl : lv_has ls 1 [(0, .ref (G.1 40))] := hl
  generalize ([.ref (G.1 40)] : List Value).toArray = args at X ⊢
  have X : z_C G p s m args meth c cX11_any 1 RX11 (some .boolean) := X
  have hx := X.1
  have hb := X.2.1
  unfold f_X11_any at h
  refine lv_aload_n (pc := 0) hx hb dX11_any_0 rfl (lv_at hl 0 rfl) ?_
  obtain ⟨x1, ex1, h⟩ := z_bd h
  refine z_cvI (pc := 1) (rest := []) X hw (m_X11_every hlev hS  ex1) (z_lt zk_40 (by decide)) (z_E11 zk_40) rfl zw_ml_6_85 zw_im_6_87 zw_se_S_51 zw_in_1_12 zw_co_6_88 zd_X11_every (z_lv (by omega) (by decide)) rfl hl.1 rfl (Nat.le_of_ble_eq_true rfl) dX11_any_1 ⟨Nat.zero_le _, Nat.zero_le _⟩ (fun Hx1 lx1 wx1 => ?_)
  refine lv_if_ne (pc := 4) (tgt := 9) hx hb dX11_any_4 (by decide) (fun c2 => ?_) (fun c2 => ?_)
  · replace h := z_f c2 h
    exact w_X11_any_9 X hlev hS z_F  x1.2 Hx1 lx1 ls  wx1 (lv_sub hl [0] rfl) h
  · replace h := z_t c2 h
    refine lv_iconst (pc := 7) (v := 0) hx hb dX11_any_7 (by decide) ?_
    obtain rfl := Option.some.inj h
    exact z_rz (pc := 8) X wx1 (z_nb (x := 0) (by decide)) dX11_any_8
def f_X11_oneTest_147 (S : zM → Option (Int32 × zM)) (si0 : Int32) (M : zM) : Option (Int32 × zM) :=
    if si0 = (-1 : Int32) then (
      (f_X11_bad (1 : Int32) M).bind fun x6 =>
      z_g (vp_nar .boolean x6.1 = x6.1) <|
      some (x6.1, x6.2)
    ) else (
      (f_X11_next0  M).bind fun x2 =>
      (f_X11_sumUp  x2).bind fun x3 =>
      if x3.1 = 0 then (
        some ((0 : Int32), x3.2)
      ) else (
        (f_X11_lay si0 (0 : Int32) x3.2).bind fun x5 =>
        some ((1 : Int32), x5)
      )
    )
def f_X11_oneTest_b (S : zM → Option (Int32 × zM))  (M : zM) : Option (Int32 × zM) :=
  if (M.1 40 12) = (6 : Int32) then (
    (f_X11_opens  M).bind fun x15 =>
    if x15.1 = 0 then (
      some ((0 : Int32), x15.2)
    ) else (
      (S  x15.2).bind fun x17 =>
      if x17.1 = 0 then (
        some ((0 : Int32), x17.2)
      ) else (
        z_l (z_w x17.2 40 18 ((x17.2.1 40 18) - (1 : Int32))) fun M19 =>
        (f_X11_lay (20 : Int32) (0 : Int32) M19).bind fun x20 =>
        some ((1 : Int32), x20)
      )
    )
  ) else (
    if (M.1 40 12) = (140 : Int32) then (
      (f_X11_opens  M).bind fun x8 =>
      if x8.1 = 0 then (
        some ((0 : Int32), x8.2)
      ) else (
        (f_X11_any S  x8.2).bind fun x10 =>
        if x10.1 = 0 then (
          some ((0 : Int32), x10.2)
        ) else (
          (f_X11_need (141 : Int32) x10.2).bind fun x12 =>
          if x12.1 = 0 then (
            some ((0 : Int32), x12.2)
          ) else (
            z_l (z_w x12.2 40 18 ((x12.2.1 40 18) - (1 : Int32))) fun M14 =>
            some ((1 : Int32), M14)
          )
        )
      )
    ) else (
      (f_X11_sumUp  M).bind fun x3 =>
      if x3.1 = 0 then (
        some ((0 : Int32), x3.2)
      ) else (
        if (x3.2.1 40 12) = (160 : Int32) then (
          f_X11_oneTest_147 S (17 : Int32) x3.2
        ) else (
          if (x3.2.1 40 12) = (161 : Int32) then (
            f_X11_oneTest_147 S (18 : Int32) x3.2
          ) else (
            if (x3.2.1 40 12) = (162 : Int32) then (
              f_X11_oneTest_147 S (19 : Int32) x3.2
            ) else (
              f_X11_oneTest_147 S (-1 : Int32) x3.2
            )
          )
        )
      )
    )
  )
def f_X11_oneTest : Nat → zM → Option (Int32 × zM)
  | 0, _ => none
  | d + 1, M => f_X11_oneTest_b (f_X11_oneTest d)  M
set_option maxHeartbeats 4000000 in
set_option maxRecDepth 100000 in
theorem w_X11_oneTest_147 {G : zG} {p : Program} {l : Launch} {e : Env} {s : State} {m : MethodId} {args : Array Value} {below : List Frame} {meth : Method} {c : Code} (X : z_C G p s m args meth c cX11_oneTest 2 RX11 (some .boolean)) {lev : Nat} (hlev : 12 ≤ lev) {S : zM → Option (Int32 × zM)} (hS : ∀  (M : zM) (q : Int32 × zM), S  M = some q → z_T l G lev yX11_oneTest (.code yX11_oneTest cX11_oneTest 2 (some .boolean)) [.ref (G.1 40)] M (some (.int q.1)) q.2) {r : Int32 × zM} : ∀ (si0 : Int32) (M : zM) (H : Heap) (locs : List Loc) (ls : Array Slot), z_W G M H locs → lv_has ls 2 [(0, .ref (G.1 40))] → f_X11_oneTest_147 S si0 M = some r → W p l e (z_rm (lev + 3)) s m args below meth c H locs 0 0 (z_Q G below args s (some (.int r.1)) r.2) (F0 m 147 ls [.int si0]) := by
  have hx := X.1
  have hb := X.2.1
  intro si0 M H locs ls  hw hl h
  unfold f_X11_oneTest_147 at h
  refine lv_istore_n (pc := 147) (lv' := [(1, .int si0), (0, .ref (G.1 40))]) hx hb dX11_oneTest_147 rfl hl (by decide) rfl (fun ls hl => ?_)
  refine lv_iload_n (pc := 148) hx hb dX11_oneTest_148 rfl (lv_at hl 0 rfl) ?_
  refine lv_iconst (pc := 149) (v := -1) hx hb dX11_oneTest_149 (by decide) ?_
  refine lv_icmp_ne (pc := 150) (tgt := 159) hx hb dX11_oneTest_150 (by decide) (fun c1 => ?_) (fun c1 => ?_)
  · replace h := z_f c1 h
    refine lv_aload_n (pc := 159) hx hb dX11_oneTest_159 rfl (lv_at hl 1 rfl) ?_
    obtain ⟨x2, ex2, h⟩ := z_bd h
    refine z_cvV (pc := 160) (rest := []) X hw (m_X11_next0  ex2) (z_lt zk_40 (by decide)) (z_E11 zk_40) rfl zw_ml_6_16 zw_im_6_18 zw_se_S_39 zw_in_1_12 zw_co_6_19 zd_X11_next0 (z_lv (by omega) (by decide)) rfl hl.1 rfl (Nat.le_of_ble_eq_true rfl) dX11_oneTest_160 ⟨Nat.zero_le _, Nat.zero_le _⟩ (fun Hx2 lx2 wx2 => ?_)
    refine lv_aload_n (pc := 163) hx hb dX11_oneTest_163 rfl (lv_at hl 1 rfl) ?_
    obtain ⟨x3, ex3, h⟩ := z_bd h
    refine z_cvI (pc := 164) (rest := []) X wx2 (m_X11_sumUp  ex3) (z_lt zk_40 (by decide)) (z_E11 zk_40) rfl zw_ml_6_65 zw_im_6_67 zw_se_S_46 zw_in_1_12 zw_co_6_68 zd_X11_sumUp (z_lv (by omega) (by decide)) rfl hl.1 rfl (Nat.le_of_ble_eq_true rfl) dX11_oneTest_164 ⟨Nat.zero_le _, Nat.zero_le _⟩ (fun Hx3 lx3 wx3 => ?_)
    refine lv_if_ne (pc := 167) (tgt := 172) hx hb dX11_oneTest_167 (by decide) (fun c4 => ?_) (fun c4 => ?_)
    · replace h := z_f c4 h
      refine lv_aload_n (pc := 172) hx hb dX11_oneTest_172 rfl (lv_at hl 1 rfl) ?_
      refine lv_iload_n (pc := 173) hx hb dX11_oneTest_173 rfl (lv_at hl 0 rfl) ?_
      refine lv_iconst (pc := 174) (v := 0) hx hb dX11_oneTest_174 (by decide) ?_
      obtain ⟨x5, ex5, h⟩ := z_bd h
      refine z_cvV (pc := 175) (rest := []) X wx3 (m_X11_lay  ex5) (z_lt zk_40 (by decide)) (z_E11 zk_40) rfl zw_ml_6_77 zw_im_6_79 zw_se_S_49 zw_in_1_12 zw_co_6_80 zd_X11_lay (z_lv (by omega) (by decide)) rfl hl.1 rfl (Nat.le_of_ble_eq_true rfl) dX11_oneTest_175 ⟨Nat.zero_le _, Nat.zero_le _⟩ (fun Hx5 lx5 wx5 => ?_)
      refine lv_iconst (pc := 178) (v := 1) hx hb dX11_oneTest_178 (by decide) ?_
      obtain rfl := Option.some.inj h
      exact z_rz (pc := 179) X wx5 (z_nb (x := 1) (by decide)) dX11_oneTest_179
    · replace h := z_t c4 h
      refine lv_iconst (pc := 170) (v := 0) hx hb dX11_oneTest_170 (by decide) ?_
      obtain rfl := Option.some.inj h
      exact z_rz (pc := 171) X wx3 (z_nb (x := 0) (by decide)) dX11_oneTest_171
  · replace h := z_t c1 h
    refine lv_aload_n (pc := 153) hx hb dX11_oneTest_153 rfl (lv_at hl 1 rfl) ?_
    refine lv_iconst (pc := 154) (v := 1) hx hb dX11_oneTest_154 (by decide) ?_
    obtain ⟨x6, ex6, h⟩ := z_bd h
    refine z_cvI (pc := 155) (rest := []) X hw (m_X11_bad  ex6) (z_lt zk_40 (by decide)) (z_E11 zk_40) rfl zw_ml_6_61 zw_im_6_63 zw_se_S_45 zw_in_1_12 zw_co_6_64 zd_X11_bad (z_lv (by omega) (by decide)) rfl hl.1 rfl (Nat.le_of_ble_eq_true rfl) dX11_oneTest_155 ⟨Nat.zero_le _, Nat.zero_le _⟩ (fun Hx6 lx6 wx6 => ?_)
    obtain ⟨g7, h⟩ := z_gd h
    obtain rfl := Option.some.inj h
    exact z_rz (pc := 158) X wx6 (z_nb g7) dX11_oneTest_158
set_option maxHeartbeats 4000000 in
set_option maxRecDepth 100000 in
theorem m_X11_oneTest_b {l : Launch} {G : zG} {lev : Nat} (hlev : 12 ≤ lev) {S : zM → Option (Int32 × zM)} (hS : ∀  (M : zM) (q : Int32 × zM), S  M = some q → z_T l G lev yX11_oneTest (.code yX11_oneTest cX11_oneTest 2 (some .boolean)) [.ref (G.1 40)] M (some (.int q.1)) q.2) {M : zM} {r : Int32 × zM} (h : f_X11_oneTest_b S  M = some r) : z_T l G (lev + 3) yX11_oneTest (.code yX11_oneTest cX11_oneTest 2 (some .boolean)) [.ref (G.1 40)] M (some (.int r.1)) r.2 := by
  refine z_of rfl ?_
  intro p e s m below meth c X hw
  have hl := lv_entry [.ref (G.1 40)] (n := 2) (Nat.le_of_ble_eq_true rfl)
  rw [lg_entry_eq]
  generalize (lg_sl [.ref (G.1 40)] ++ List.replicate (2 - (lg_sl [.ref (G.1 40)]).length) Slot.unset).toArray = ls at hl ⊢
  have hl : lv_has ls 2 [(0, .ref (G.1 40))] := hl
  generalize ([.ref (G.1 40)] : List Value).toArray = args at X ⊢
  have X : z_C G p s m args meth c cX11_oneTest 2 RX11 (some .boolean) := X
  have hx := X.1
  have hb := X.2.1
  unfold f_X11_oneTest_b at h
  refine lv_aload_n (pc := 0) hx hb dX11_oneTest_0 rfl (lv_at hl 0 rfl) ?_
  refine zg_DrinkingRoofsModel_token (pc := 1) X hw zw_fl_5_83 dX11_oneTest_1 ?_
  refine lv_bipush (pc := 4) (v := 6) hx hb dX11_oneTest_4 (by decide) ?_
  refine lv_icmp_ne (pc := 6) (tgt := 44) hx hb dX11_oneTest_6 (by decide) (fun c1 => ?_) (fun c1 => ?_)
  · replace h := z_f c1 h
    refine lv_aload_n (pc := 44) hx hb dX11_oneTest_44 rfl (lv_at hl 0 rfl) ?_
    refine zg_DrinkingRoofsModel_token (pc := 45) X hw zw_fl_5_83 dX11_oneTest_45 ?_
    refine lv_sipush (pc := 48) (v := 140) hx hb dX11_oneTest_48 (by decide) ?_
    refine lv_icmp_ne (pc := 51) (tgt := 92) hx hb dX11_oneTest_51 (by decide) (fun c2 => ?_) (fun c2 => ?_)
    · replace h := z_f c2 h
      refine lv_aload_n (pc := 92) hx hb dX11_oneTest_92 rfl (lv_at hl 0 rfl) ?_
      obtain ⟨x3, ex3, h⟩ := z_bd h
      refine z_cvI (pc := 93) (rest := []) X hw (m_X11_sumUp  ex3) (z_lt zk_40 (by decide)) (z_E11 zk_40) rfl zw_ml_6_65 zw_im_6_67 zw_se_S_46 zw_in_1_12 zw_co_6_68 zd_X11_sumUp (z_lv (by omega) (by decide)) rfl hl.1 rfl (Nat.le_of_ble_eq_true rfl) dX11_oneTest_93 ⟨Nat.zero_le _, Nat.zero_le _⟩ (fun Hx3 lx3 wx3 => ?_)
      refine lv_if_ne (pc := 96) (tgt := 101) hx hb dX11_oneTest_96 (by decide) (fun c4 => ?_) (fun c4 => ?_)
      · replace h := z_f c4 h
        refine lv_aload_n (pc := 101) hx hb dX11_oneTest_101 rfl (lv_at hl 0 rfl) ?_
        refine zg_DrinkingRoofsModel_token (pc := 102) X wx3 zw_fl_5_83 dX11_oneTest_102 ?_
        refine lv_sipush (pc := 105) (v := 160) hx hb dX11_oneTest_105 (by decide) ?_
        refine lv_icmp_ne (pc := 108) (tgt := 116) hx hb dX11_oneTest_108 (by decide) (fun c5 => ?_) (fun c5 => ?_)
        · replace h := z_f c5 h
          refine lv_aload_n (pc := 116) hx hb dX11_oneTest_116 rfl (lv_at hl 0 rfl) ?_
          refine zg_DrinkingRoofsModel_token (pc := 117) X wx3 zw_fl_5_83 dX11_oneTest_117 ?_
          refine lv_sipush (pc := 120) (v := 161) hx hb dX11_oneTest_120 (by decide) ?_
          refine lv_icmp_ne (pc := 123) (tgt := 131) hx hb dX11_oneTest_123 (by decide) (fun c6 => ?_) (fun c6 => ?_)
          · replace h := z_f c6 h
            refine lv_aload_n (pc := 131) hx hb dX11_oneTest_131 rfl (lv_at hl 0 rfl) ?_
            refine zg_DrinkingRoofsModel_token (pc := 132) X wx3 zw_fl_5_83 dX11_oneTest_132 ?_
            refine lv_sipush (pc := 135) (v := 162) hx hb dX11_oneTest_135 (by decide) ?_
            refine lv_icmp_ne (pc := 138) (tgt := 146) hx hb dX11_oneTest_138 (by decide) (fun c7 => ?_) (fun c7 => ?_)
            · replace h := z_f c7 h
              refine lv_iconst (pc := 146) (v := -1) hx hb dX11_oneTest_146 (by decide) ?_
              exact w_X11_oneTest_147 X hlev hS (-1 : Int32) x3.2 Hx3 lx3 ls  wx3 (lv_sub hl [0] rfl) h
            · replace h := z_t c7 h
              refine lv_bipush (pc := 141) (v := 19) hx hb dX11_oneTest_141 (by decide) ?_
              refine lv_goto (pc := 143) (tgt := 147) hx hb dX11_oneTest_143 (by decide) ?_
              exact w_X11_oneTest_147 X hlev hS (19 : Int32) x3.2 Hx3 lx3 ls  wx3 (lv_sub hl [0] rfl) h
          · replace h := z_t c6 h
            refine lv_bipush (pc := 126) (v := 18) hx hb dX11_oneTest_126 (by decide) ?_
            refine lv_goto (pc := 128) (tgt := 147) hx hb dX11_oneTest_128 (by decide) ?_
            exact w_X11_oneTest_147 X hlev hS (18 : Int32) x3.2 Hx3 lx3 ls  wx3 (lv_sub hl [0] rfl) h
        · replace h := z_t c5 h
          refine lv_bipush (pc := 111) (v := 17) hx hb dX11_oneTest_111 (by decide) ?_
          refine lv_goto (pc := 113) (tgt := 147) hx hb dX11_oneTest_113 (by decide) ?_
          exact w_X11_oneTest_147 X hlev hS (17 : Int32) x3.2 Hx3 lx3 ls  wx3 (lv_sub hl [0] rfl) h
      · replace h := z_t c4 h
        refine lv_iconst (pc := 99) (v := 0) hx hb dX11_oneTest_99 (by decide) ?_
        obtain rfl := Option.some.inj h
        exact z_rz (pc := 100) X wx3 (z_nb (x := 0) (by decide)) dX11_oneTest_100
    · replace h := z_t c2 h
      refine lv_aload_n (pc := 54) hx hb dX11_oneTest_54 rfl (lv_at hl 0 rfl) ?_
      obtain ⟨x8, ex8, h⟩ := z_bd h
      refine z_cvI (pc := 55) (rest := []) X hw (m_X11_opens  ex8) (z_lt zk_40 (by decide)) (z_E11 zk_40) rfl zw_ml_6_93 zw_im_6_95 zw_se_S_53 zw_in_1_12 zw_co_6_96 zd_X11_opens (z_lv (by omega) (by decide)) rfl hl.1 rfl (Nat.le_of_ble_eq_true rfl) dX11_oneTest_55 ⟨Nat.zero_le _, Nat.zero_le _⟩ (fun Hx8 lx8 wx8 => ?_)
      refine lv_if_eq (pc := 58) (tgt := 78) hx hb dX11_oneTest_58 (by decide) (fun c9 => ?_) (fun c9 => ?_)
      · replace h := z_t c9 h
        refine lv_iconst (pc := 78) (v := 0) hx hb dX11_oneTest_78 (by decide) ?_
        obtain rfl := Option.some.inj h
        exact z_rz (pc := 79) X wx8 (z_nb (x := 0) (by decide)) dX11_oneTest_79
      · replace h := z_f c9 h
        refine lv_aload_n (pc := 61) hx hb dX11_oneTest_61 rfl (lv_at hl 0 rfl) ?_
        obtain ⟨x10, ex10, h⟩ := z_bd h
        refine z_cvI (pc := 62) (rest := []) X wx8 (m_X11_any hlev hS  ex10) (z_lt zk_40 (by decide)) (z_E11 zk_40) rfl zw_ml_6_81 zw_im_6_83 zw_se_S_50 zw_in_1_12 zw_co_6_84 zd_X11_any (z_lv (by omega) (by decide)) rfl hl.1 rfl (Nat.le_of_ble_eq_true rfl) dX11_oneTest_62 ⟨Nat.zero_le _, Nat.zero_le _⟩ (fun Hx10 lx10 wx10 => ?_)
        refine lv_if_eq (pc := 65) (tgt := 78) hx hb dX11_oneTest_65 (by decide) (fun c11 => ?_) (fun c11 => ?_)
        · replace h := z_t c11 h
          refine lv_iconst (pc := 78) (v := 0) hx hb dX11_oneTest_78 (by decide) ?_
          obtain rfl := Option.some.inj h
          exact z_rz (pc := 79) X wx10 (z_nb (x := 0) (by decide)) dX11_oneTest_79
        · replace h := z_f c11 h
          refine lv_aload_n (pc := 68) hx hb dX11_oneTest_68 rfl (lv_at hl 0 rfl) ?_
          refine lv_sipush (pc := 69) (v := 141) hx hb dX11_oneTest_69 (by decide) ?_
          obtain ⟨x12, ex12, h⟩ := z_bd h
          refine z_cvI (pc := 72) (rest := []) X wx10 (m_X11_need  ex12) (z_lt zk_40 (by decide)) (z_E11 zk_40) rfl zw_ml_6_97 zw_im_6_99 zw_se_S_54 zw_in_1_12 zw_co_6_100 zd_X11_need (z_lv (by omega) (by decide)) rfl hl.1 rfl (Nat.le_of_ble_eq_true rfl) dX11_oneTest_72 ⟨Nat.zero_le _, Nat.zero_le _⟩ (fun Hx12 lx12 wx12 => ?_)
          refine lv_if_ne (pc := 75) (tgt := 80) hx hb dX11_oneTest_75 (by decide) (fun c13 => ?_) (fun c13 => ?_)
          · replace h := z_f c13 h
            refine lv_aload_n (pc := 80) hx hb dX11_oneTest_80 rfl (lv_at hl 0 rfl) ?_
            refine lv_dup (pc := 81) hx hb dX11_oneTest_81 rfl ?_
            refine zg_DrinkingRoofsModel_depth (pc := 82) X wx12 zw_fl_5_89 dX11_oneTest_82 ?_
            refine lv_iconst (pc := 85) (v := 1) hx hb dX11_oneTest_85 (by decide) ?_
            refine lv_isub (pc := 86) hx hb dX11_oneTest_86 ?_
            refine zp_DrinkingRoofsModel_depth (pc := 87) X wx12 zw_fl_5_89 dX11_oneTest_87 (fun HM14 lM14 wM14 => ?_)
            obtain ⟨M14, eM14, h⟩ := z_lo h
            rw [← eM14] at wM14
            refine lv_iconst (pc := 90) (v := 1) hx hb dX11_oneTest_90 (by decide) ?_
            obtain rfl := Option.some.inj h
            exact z_rz (pc := 91) X wM14 (z_nb (x := 1) (by decide)) dX11_oneTest_91
          · replace h := z_t c13 h
            refine lv_iconst (pc := 78) (v := 0) hx hb dX11_oneTest_78 (by decide) ?_
            obtain rfl := Option.some.inj h
            exact z_rz (pc := 79) X wx12 (z_nb (x := 0) (by decide)) dX11_oneTest_79
  · replace h := z_t c1 h
    refine lv_aload_n (pc := 9) hx hb dX11_oneTest_9 rfl (lv_at hl 0 rfl) ?_
    obtain ⟨x15, ex15, h⟩ := z_bd h
    refine z_cvI (pc := 10) (rest := []) X hw (m_X11_opens  ex15) (z_lt zk_40 (by decide)) (z_E11 zk_40) rfl zw_ml_6_93 zw_im_6_95 zw_se_S_53 zw_in_1_12 zw_co_6_96 zd_X11_opens (z_lv (by omega) (by decide)) rfl hl.1 rfl (Nat.le_of_ble_eq_true rfl) dX11_oneTest_10 ⟨Nat.zero_le _, Nat.zero_le _⟩ (fun Hx15 lx15 wx15 => ?_)
    refine lv_if_eq (pc := 13) (tgt := 23) hx hb dX11_oneTest_13 (by decide) (fun c16 => ?_) (fun c16 => ?_)
    · replace h := z_t c16 h
      refine lv_iconst (pc := 23) (v := 0) hx hb dX11_oneTest_23 (by decide) ?_
      obtain rfl := Option.some.inj h
      exact z_rz (pc := 24) X wx15 (z_nb (x := 0) (by decide)) dX11_oneTest_24
    · replace h := z_f c16 h
      refine lv_aload_n (pc := 16) hx hb dX11_oneTest_16 rfl (lv_at hl 0 rfl) ?_
      obtain ⟨x17, ex17, h⟩ := z_bd h
      refine z_cvI (pc := 17) (rest := []) X wx15 (hS  _ _  ex17) (z_lt zk_40 (by decide)) (z_E11 zk_40) rfl zw_ml_6_89 zw_im_6_91 zw_se_S_52 zw_in_1_12 zw_co_6_92 zd_X11_oneTest (z_lv (by omega) (by decide)) rfl hl.1 rfl (Nat.le_of_ble_eq_true rfl) dX11_oneTest_17 ⟨Nat.zero_le _, Nat.zero_le _⟩ (fun Hx17 lx17 wx17 => ?_)
      refine lv_if_ne (pc := 20) (tgt := 25) hx hb dX11_oneTest_20 (by decide) (fun c18 => ?_) (fun c18 => ?_)
      · replace h := z_f c18 h
        refine lv_aload_n (pc := 25) hx hb dX11_oneTest_25 rfl (lv_at hl 0 rfl) ?_
        refine lv_dup (pc := 26) hx hb dX11_oneTest_26 rfl ?_
        refine zg_DrinkingRoofsModel_depth (pc := 27) X wx17 zw_fl_5_89 dX11_oneTest_27 ?_
        refine lv_iconst (pc := 30) (v := 1) hx hb dX11_oneTest_30 (by decide) ?_
        refine lv_isub (pc := 31) hx hb dX11_oneTest_31 ?_
        refine zp_DrinkingRoofsModel_depth (pc := 32) X wx17 zw_fl_5_89 dX11_oneTest_32 (fun HM19 lM19 wM19 => ?_)
        obtain ⟨M19, eM19, h⟩ := z_lo h
        rw [← eM19] at wM19
        refine lv_aload_n (pc := 35) hx hb dX11_oneTest_35 rfl (lv_at hl 0 rfl) ?_
        refine lv_bipush (pc := 36) (v := 20) hx hb dX11_oneTest_36 (by decide) ?_
        refine lv_iconst (pc := 38) (v := 0) hx hb dX11_oneTest_38 (by decide) ?_
        obtain ⟨x20, ex20, h⟩ := z_bd h
        refine z_cvV (pc := 39) (rest := []) X wM19 (m_X11_lay  ex20) (z_lt zk_40 (by decide)) (z_E11 zk_40) rfl zw_ml_6_77 zw_im_6_79 zw_se_S_49 zw_in_1_12 zw_co_6_80 zd_X11_lay (z_lv (by omega) (by decide)) rfl hl.1 rfl (Nat.le_of_ble_eq_true rfl) dX11_oneTest_39 ⟨Nat.zero_le _, Nat.zero_le _⟩ (fun Hx20 lx20 wx20 => ?_)
        refine lv_iconst (pc := 42) (v := 1) hx hb dX11_oneTest_42 (by decide) ?_
        obtain rfl := Option.some.inj h
        exact z_rz (pc := 43) X wx20 (z_nb (x := 1) (by decide)) dX11_oneTest_43
      · replace h := z_t c18 h
        refine lv_iconst (pc := 23) (v := 0) hx hb dX11_oneTest_23 (by decide) ?_
        obtain rfl := Option.some.inj h
        exact z_rz (pc := 24) X wx17 (z_nb (x := 0) (by decide)) dX11_oneTest_24
set_option maxHeartbeats 4000000 in
set_option maxRecDepth 100000 in
theorem m_X11_oneTest {l : Launch} {G : zG} : ∀ (d : Nat)  (M : zM) (r : Int32 × zM), f_X11_oneTest d  M = some r → z_T l G (12 + 3 * d) yX11_oneTest (.code yX11_oneTest cX11_oneTest 2 (some .boolean)) [.ref (G.1 40)] M (some (.int r.1)) r.2 := by
  intro d
  induction d with
  | zero =>
    intro  M r  h
    exact z_no h
  | succ d ih =>
    intro  M r  h
    exact m_X11_oneTest_b (lev := 12 + 3 * d) (Nat.le_add_right _ _) ih  h
def f_X11_aLine_101  (M : zM) : Option (Int32 × zM) :=
    z_g (z_ix (((3 : Int32) * (M.1 40 8)) + (2 : Int32)) 48) <|
    z_l (z_w M 43 (Int32.toNatClampNeg (((3 : Int32) * (M.1 40 8)) + (2 : Int32))) (M.1 40 9)) fun M2 =>
    (f_X11_need (159 : Int32) M2).bind fun x3 =>
    z_g (vp_nar .boolean x3.1 = x3.1) <|
    some (x3.1, x3.2)
def f_X11_aLine  (M : zM) : Option (Int32 × zM) :=
  if (M.1 40 12) = (20 : Int32) then (
    if (M.1 40 8) = (16 : Int32) then (
      (f_X11_bad (3 : Int32) M).bind fun x15 =>
      z_g (vp_nar .boolean x15.1 = x15.1) <|
      some (x15.1, x15.2)
    ) else (
      z_l (z_w M 40 18 (0 : Int32)) fun M3 =>
      (f_X11_next0  M3).bind fun x4 =>
      z_g (z_ix ((3 : Int32) * (x4.1 40 8)) 48) <|
      z_l (z_w x4 43 (Int32.toNatClampNeg ((3 : Int32) * (x4.1 40 8))) (x4.1 40 9)) fun M6 =>
      (f_X11_sumUp  M6).bind fun x7 =>
      if x7.1 = 0 then (
        some ((0 : Int32), x7.2)
      ) else (
        z_g (z_ix (((3 : Int32) * (x7.2.1 40 8)) + (1 : Int32)) 48) <|
        z_l (z_w x7.2 43 (Int32.toNatClampNeg (((3 : Int32) * (x7.2.1 40 8)) + (1 : Int32))) (x7.2.1 40 9)) fun M10 =>
        if (M10.1 40 12) = (3 : Int32) then (
          (f_X11_next0  M10).bind fun x12 =>
          (f_X11_any (f_X11_oneTest 12)  x12).bind fun x13 =>
          if x13.1 = 0 then (
            some ((0 : Int32), x13.2)
          ) else (
            f_X11_aLine_101  x13.2
          )
        ) else (
          f_X11_aLine_101  M10
        )
      )
    )
  ) else (
    (f_X11_bad (1 : Int32) M).bind fun x17 =>
    z_g (vp_nar .boolean x17.1 = x17.1) <|
    some (x17.1, x17.2)
  )
set_option maxHeartbeats 4000000 in
set_option maxRecDepth 100000 in
theorem w_X11_aLine_101 {G : zG} {p : Program} {l : Launch} {e : Env} {s : State} {m : MethodId} {args : Array Value} {below : List Frame} {meth : Method} {c : Code} (X : z_C G p s m args meth c cX11_aLine 1 RX11 (some .boolean)) {r : Int32 × zM} : ∀  (M : zM) (H : Heap) (locs : List Loc) (ls : Array Slot), z_W G M H locs → lv_has ls 1 [(0, .ref (G.1 40))] → f_X11_aLine_101  M = some r → W p l e (z_rm 51) s m args below meth c H locs 0 0 (z_Q G below args s (some (.int r.1)) r.2) (F0 m 101 ls []) := by
  have hx := X.1
  have hb := X.2.1
  intro  M H locs ls  hw hl h
  unfold f_X11_aLine_101 at h
  refine lv_aload_n (pc := 101) hx hb dX11_aLine_101 rfl (lv_at hl 0 rfl) ?_
  refine zg_DrinkingRoofsModel_freshLine (pc := 102) X hw zw_fl_5_74 dX11_aLine_102 ?_
  refine lv_iconst (pc := 105) (v := 3) hx hb dX11_aLine_105 (by decide) ?_
  refine lv_aload_n (pc := 106) hx hb dX11_aLine_106 rfl (lv_at hl 0 rfl) ?_
  refine zg_DrinkingRoofsModel_lines (pc := 107) X hw zw_fl_5_79 dX11_aLine_107 ?_
  refine lv_imul (pc := 110) hx hb dX11_aLine_110 ?_
  refine lv_iconst (pc := 111) (v := 2) hx hb dX11_aLine_111 (by decide) ?_
  refine lv_iadd (pc := 112) hx hb dX11_aLine_112 ?_
  refine lv_aload_n (pc := 113) hx hb dX11_aLine_113 rfl (lv_at hl 0 rfl) ?_
  refine zg_DrinkingRoofsModel_steps (pc := 114) X hw zw_fl_5_80 dX11_aLine_114 ?_
  obtain ⟨g1, h⟩ := z_gd h
  refine z_iast (pc := 117) X hw zk_43 zl_43 g1 dX11_aLine_117 (fun HM2 lM2 wM2 => ?_)
  obtain ⟨M2, eM2, h⟩ := z_lo h
  rw [← eM2] at wM2
  refine lv_aload_n (pc := 118) hx hb dX11_aLine_118 rfl (lv_at hl 0 rfl) ?_
  refine lv_sipush (pc := 119) (v := 159) hx hb dX11_aLine_119 (by decide) ?_
  obtain ⟨x3, ex3, h⟩ := z_bd h
  refine z_cvI (pc := 122) (rest := []) X wM2 (m_X11_need  ex3) (z_lt zk_40 (by decide)) (z_E11 zk_40) rfl zw_ml_6_97 zw_im_6_99 zw_se_S_54 zw_in_1_12 zw_co_6_100 zd_X11_need (by decide) rfl hl.1 rfl (Nat.le_of_ble_eq_true rfl) dX11_aLine_122 ⟨Nat.zero_le _, Nat.zero_le _⟩ (fun Hx3 lx3 wx3 => ?_)
  obtain ⟨g4, h⟩ := z_gd h
  obtain rfl := Option.some.inj h
  exact z_rz (pc := 125) X wx3 (z_nb g4) dX11_aLine_125
set_option maxHeartbeats 4000000 in
set_option maxRecDepth 100000 in
theorem m_X11_aLine {l : Launch} {G : zG} {M : zM} {r : Int32 × zM} (h : f_X11_aLine  M = some r) : z_T l G 51 yX11_aLine (.code yX11_aLine cX11_aLine 1 (some .boolean)) [.ref (G.1 40)] M (some (.int r.1)) r.2 := by
  refine z_of rfl ?_
  intro p e s m below meth c X hw
  have hl := lv_entry [.ref (G.1 40)] (n := 1) (Nat.le_of_ble_eq_true rfl)
  rw [lg_entry_eq]
  generalize (lg_sl [.ref (G.1 40)] ++ List.replicate (1 - (lg_sl [.ref (G.1 40)]).length) Slot.unset).toArray = ls at hl ⊢
  have hl : lv_has ls 1 [(0, .ref (G.1 40))] := hl
  generalize ([.ref (G.1 40)] : List Value).toArray = args at X ⊢
  have X : z_C G p s m args meth c cX11_aLine 1 RX11 (some .boolean) := X
  have hx := X.1
  have hb := X.2.1
  unfold f_X11_aLine at h
  refine lv_aload_n (pc := 0) hx hb dX11_aLine_0 rfl (lv_at hl 0 rfl) ?_
  refine zg_DrinkingRoofsModel_token (pc := 1) X hw zw_fl_5_83 dX11_aLine_1 ?_
  refine lv_bipush (pc := 4) (v := 20) hx hb dX11_aLine_4 (by decide) ?_
  refine lv_icmp_eq (pc := 6) (tgt := 15) hx hb dX11_aLine_6 (by decide) (fun c1 => ?_) (fun c1 => ?_)
  · replace h := z_t c1 h
    refine lv_aload_n (pc := 15) hx hb dX11_aLine_15 rfl (lv_at hl 0 rfl) ?_
    refine zg_DrinkingRoofsModel_lines (pc := 16) X hw zw_fl_5_79 dX11_aLine_16 ?_
    refine lv_bipush (pc := 19) (v := 16) hx hb dX11_aLine_19 (by decide) ?_
    refine lv_icmp_ne (pc := 21) (tgt := 30) hx hb dX11_aLine_21 (by decide) (fun c2 => ?_) (fun c2 => ?_)
    · replace h := z_f c2 h
      refine lv_aload_n (pc := 30) hx hb dX11_aLine_30 rfl (lv_at hl 0 rfl) ?_
      refine lv_iconst (pc := 31) (v := 0) hx hb dX11_aLine_31 (by decide) ?_
      refine zp_DrinkingRoofsModel_depth (pc := 32) X hw zw_fl_5_89 dX11_aLine_32 (fun HM3 lM3 wM3 => ?_)
      obtain ⟨M3, eM3, h⟩ := z_lo h
      rw [← eM3] at wM3
      refine lv_aload_n (pc := 35) hx hb dX11_aLine_35 rfl (lv_at hl 0 rfl) ?_
      obtain ⟨x4, ex4, h⟩ := z_bd h
      refine z_cvV (pc := 36) (rest := []) X wM3 (m_X11_next0  ex4) (z_lt zk_40 (by decide)) (z_E11 zk_40) rfl zw_ml_6_16 zw_im_6_18 zw_se_S_39 zw_in_1_12 zw_co_6_19 zd_X11_next0 (by decide) rfl hl.1 rfl (Nat.le_of_ble_eq_true rfl) dX11_aLine_36 ⟨Nat.zero_le _, Nat.zero_le _⟩ (fun Hx4 lx4 wx4 => ?_)
      refine lv_aload_n (pc := 39) hx hb dX11_aLine_39 rfl (lv_at hl 0 rfl) ?_
      refine zg_DrinkingRoofsModel_freshLine (pc := 40) X wx4 zw_fl_5_74 dX11_aLine_40 ?_
      refine lv_iconst (pc := 43) (v := 3) hx hb dX11_aLine_43 (by decide) ?_
      refine lv_aload_n (pc := 44) hx hb dX11_aLine_44 rfl (lv_at hl 0 rfl) ?_
      refine zg_DrinkingRoofsModel_lines (pc := 45) X wx4 zw_fl_5_79 dX11_aLine_45 ?_
      refine lv_imul (pc := 48) hx hb dX11_aLine_48 ?_
      refine lv_aload_n (pc := 49) hx hb dX11_aLine_49 rfl (lv_at hl 0 rfl) ?_
      refine zg_DrinkingRoofsModel_steps (pc := 50) X wx4 zw_fl_5_80 dX11_aLine_50 ?_
      obtain ⟨g5, h⟩ := z_gd h
      refine z_iast (pc := 53) X wx4 zk_43 zl_43 g5 dX11_aLine_53 (fun HM6 lM6 wM6 => ?_)
      obtain ⟨M6, eM6, h⟩ := z_lo h
      rw [← eM6] at wM6
      refine lv_aload_n (pc := 54) hx hb dX11_aLine_54 rfl (lv_at hl 0 rfl) ?_
      obtain ⟨x7, ex7, h⟩ := z_bd h
      refine z_cvI (pc := 55) (rest := []) X wM6 (m_X11_sumUp  ex7) (z_lt zk_40 (by decide)) (z_E11 zk_40) rfl zw_ml_6_65 zw_im_6_67 zw_se_S_46 zw_in_1_12 zw_co_6_68 zd_X11_sumUp (by decide) rfl hl.1 rfl (Nat.le_of_ble_eq_true rfl) dX11_aLine_55 ⟨Nat.zero_le _, Nat.zero_le _⟩ (fun Hx7 lx7 wx7 => ?_)
      refine lv_if_ne (pc := 58) (tgt := 63) hx hb dX11_aLine_58 (by decide) (fun c8 => ?_) (fun c8 => ?_)
      · replace h := z_f c8 h
        refine lv_aload_n (pc := 63) hx hb dX11_aLine_63 rfl (lv_at hl 0 rfl) ?_
        refine zg_DrinkingRoofsModel_freshLine (pc := 64) X wx7 zw_fl_5_74 dX11_aLine_64 ?_
        refine lv_iconst (pc := 67) (v := 3) hx hb dX11_aLine_67 (by decide) ?_
        refine lv_aload_n (pc := 68) hx hb dX11_aLine_68 rfl (lv_at hl 0 rfl) ?_
        refine zg_DrinkingRoofsModel_lines (pc := 69) X wx7 zw_fl_5_79 dX11_aLine_69 ?_
        refine lv_imul (pc := 72) hx hb dX11_aLine_72 ?_
        refine lv_iconst (pc := 73) (v := 1) hx hb dX11_aLine_73 (by decide) ?_
        refine lv_iadd (pc := 74) hx hb dX11_aLine_74 ?_
        refine lv_aload_n (pc := 75) hx hb dX11_aLine_75 rfl (lv_at hl 0 rfl) ?_
        refine zg_DrinkingRoofsModel_steps (pc := 76) X wx7 zw_fl_5_80 dX11_aLine_76 ?_
        obtain ⟨g9, h⟩ := z_gd h
        refine z_iast (pc := 79) X wx7 zk_43 zl_43 g9 dX11_aLine_79 (fun HM10 lM10 wM10 => ?_)
        obtain ⟨M10, eM10, h⟩ := z_lo h
        rw [← eM10] at wM10
        refine lv_aload_n (pc := 80) hx hb dX11_aLine_80 rfl (lv_at hl 0 rfl) ?_
        refine zg_DrinkingRoofsModel_token (pc := 81) X wM10 zw_fl_5_83 dX11_aLine_81 ?_
        refine lv_iconst (pc := 84) (v := 3) hx hb dX11_aLine_84 (by decide) ?_
        refine lv_icmp_ne (pc := 85) (tgt := 101) hx hb dX11_aLine_85 (by decide) (fun c11 => ?_) (fun c11 => ?_)
        · replace h := z_f c11 h
          exact w_X11_aLine_101 X  M10 HM10 lM10 ls  wM10 (lv_sub hl [0] rfl) h
        · replace h := z_t c11 h
          refine lv_aload_n (pc := 88) hx hb dX11_aLine_88 rfl (lv_at hl 0 rfl) ?_
          obtain ⟨x12, ex12, h⟩ := z_bd h
          refine z_cvV (pc := 89) (rest := []) X wM10 (m_X11_next0  ex12) (z_lt zk_40 (by decide)) (z_E11 zk_40) rfl zw_ml_6_16 zw_im_6_18 zw_se_S_39 zw_in_1_12 zw_co_6_19 zd_X11_next0 (by decide) rfl hl.1 rfl (Nat.le_of_ble_eq_true rfl) dX11_aLine_89 ⟨Nat.zero_le _, Nat.zero_le _⟩ (fun Hx12 lx12 wx12 => ?_)
          refine lv_aload_n (pc := 92) hx hb dX11_aLine_92 rfl (lv_at hl 0 rfl) ?_
          obtain ⟨x13, ex13, h⟩ := z_bd h
          refine z_cvI (pc := 93) (rest := []) X wx12 (m_X11_any (lev := 12 + 3 * 12) (by decide) (m_X11_oneTest 12)  ex13) (z_lt zk_40 (by decide)) (z_E11 zk_40) rfl zw_ml_6_81 zw_im_6_83 zw_se_S_50 zw_in_1_12 zw_co_6_84 zd_X11_any (by decide) rfl hl.1 rfl (Nat.le_of_ble_eq_true rfl) dX11_aLine_93 ⟨Nat.zero_le _, Nat.zero_le _⟩ (fun Hx13 lx13 wx13 => ?_)
          refine lv_if_ne (pc := 96) (tgt := 101) hx hb dX11_aLine_96 (by decide) (fun c14 => ?_) (fun c14 => ?_)
          · replace h := z_f c14 h
            exact w_X11_aLine_101 X  x13.2 Hx13 lx13 ls  wx13 (lv_sub hl [0] rfl) h
          · replace h := z_t c14 h
            refine lv_iconst (pc := 99) (v := 0) hx hb dX11_aLine_99 (by decide) ?_
            obtain rfl := Option.some.inj h
            exact z_rz (pc := 100) X wx13 (z_nb (x := 0) (by decide)) dX11_aLine_100
      · replace h := z_t c8 h
        refine lv_iconst (pc := 61) (v := 0) hx hb dX11_aLine_61 (by decide) ?_
        obtain rfl := Option.some.inj h
        exact z_rz (pc := 62) X wx7 (z_nb (x := 0) (by decide)) dX11_aLine_62
    · replace h := z_t c2 h
      refine lv_aload_n (pc := 24) hx hb dX11_aLine_24 rfl (lv_at hl 0 rfl) ?_
      refine lv_iconst (pc := 25) (v := 3) hx hb dX11_aLine_25 (by decide) ?_
      obtain ⟨x15, ex15, h⟩ := z_bd h
      refine z_cvI (pc := 26) (rest := []) X hw (m_X11_bad  ex15) (z_lt zk_40 (by decide)) (z_E11 zk_40) rfl zw_ml_6_61 zw_im_6_63 zw_se_S_45 zw_in_1_12 zw_co_6_64 zd_X11_bad (by decide) rfl hl.1 rfl (Nat.le_of_ble_eq_true rfl) dX11_aLine_26 ⟨Nat.zero_le _, Nat.zero_le _⟩ (fun Hx15 lx15 wx15 => ?_)
      obtain ⟨g16, h⟩ := z_gd h
      obtain rfl := Option.some.inj h
      exact z_rz (pc := 29) X wx15 (z_nb g16) dX11_aLine_29
  · replace h := z_f c1 h
    refine lv_aload_n (pc := 9) hx hb dX11_aLine_9 rfl (lv_at hl 0 rfl) ?_
    refine lv_iconst (pc := 10) (v := 1) hx hb dX11_aLine_10 (by decide) ?_
    obtain ⟨x17, ex17, h⟩ := z_bd h
    refine z_cvI (pc := 11) (rest := []) X hw (m_X11_bad  ex17) (z_lt zk_40 (by decide)) (z_E11 zk_40) rfl zw_ml_6_61 zw_im_6_63 zw_se_S_45 zw_in_1_12 zw_co_6_64 zd_X11_bad (by decide) rfl hl.1 rfl (Nat.le_of_ble_eq_true rfl) dX11_aLine_11 ⟨Nat.zero_le _, Nat.zero_le _⟩ (fun Hx17 lx17 wx17 => ?_)
    obtain ⟨g18, h⟩ := z_gd h
    obtain rfl := Option.some.inj h
    exact z_rz (pc := 14) X wx17 (z_nb g18) dX11_aLine_14
def f_X11_text_186 : Nat → Int32 → zM → Option (Int32 × zM)
  | 0, _, _ => none
  | n + 1, i2, M =>
    if ((2 : Int32) * (M.1 40 9)) ≤ i2 then (
      some ((M.1 40 8), M)
    ) else (
      z_g (z_ix i2 820) <|
      z_g (z_ix ((875 : Int32) + i2) 1700) <|
      z_l (z_w M 41 (Int32.toNatClampNeg ((875 : Int32) + i2)) (M.1 44 (Int32.toNatClampNeg i2))) fun M4 =>
      z_l (i2 + (1 : Int32)) fun v5 =>
      f_X11_text_186 n v5 M4
    )
def f_X11_text_112 : Nat → Int32 → zM → Option (Int32 × zM)
  | 0, _, _ => none
  | n + 1, i2, M =>
    if (M.1 40 8) ≤ i2 then (
      f_X11_text_186 z_F (0 : Int32) M
    ) else (
      z_g (z_ix ((3 : Int32) * i2) 48) <|
      z_g (z_ix ((815 : Int32) + i2) 1700) <|
      z_l (z_w M 41 (Int32.toNatClampNeg ((815 : Int32) + i2)) (M.1 43 (Int32.toNatClampNeg ((3 : Int32) * i2)))) fun M4 =>
      z_l (((3 : Int32) * i2) + (1 : Int32)) fun v5 =>
      z_g (z_ix v5 48) <|
      z_g (z_ix ((835 : Int32) + i2) 1700) <|
      z_l (z_w M4 41 (Int32.toNatClampNeg ((835 : Int32) + i2)) (M4.1 43 (Int32.toNatClampNeg v5))) fun M8 =>
      z_l (((3 : Int32) * i2) + (2 : Int32)) fun v9 =>
      z_g (z_ix v9 48) <|
      z_g (z_ix ((855 : Int32) + i2) 1700) <|
      z_l (z_w M8 41 (Int32.toNatClampNeg ((855 : Int32) + i2)) (M8.1 43 (Int32.toNatClampNeg v9))) fun M12 =>
      z_l (i2 + (1 : Int32)) fun v13 =>
      f_X11_text_112 n v13 M12
    )
def f_X11_text_63 (i1 : Int32) (M : zM) : Option (Int32 × zM) :=
    z_l (z_w M 40 10 (0 : Int32)) fun M1 =>
    z_l (z_w M1 40 17 (M1.1 40 15)) fun M2 =>
    if i1 = 0 then (
      z_l (z_w M2 40 19 (M2.1 40 16)) fun M4 =>
      if i1 = 0 then (
        some ((-1 : Int32), M4)
      ) else (
        z_l (z_w M4 41 (Int32.toNatClampNeg (810 : Int32)) (M4.1 40 8)) fun M6 =>
        f_X11_text_112 z_F (0 : Int32) M6
      )
    ) else (
      z_l (z_w M2 40 19 (-1 : Int32)) fun M7 =>
      if i1 = 0 then (
        some ((-1 : Int32), M7)
      ) else (
        z_l (z_w M7 41 (Int32.toNatClampNeg (810 : Int32)) (M7.1 40 8)) fun M9 =>
        f_X11_text_112 z_F (0 : Int32) M9
      )
    )
def f_X11_text_26 : Nat → Int32 → zM → Option (Int32 × zM)
  | 0, _, _ => none
  | n + 1, i1, M =>
    if i1 = 0 then (
      f_X11_text_63 i1 M
    ) else (
      if (M.1 40 12) = 0 then (
        f_X11_text_63 i1 M
      ) else (
        (f_X11_aLine  M).bind fun x3 =>
        if x3.1 = 0 then (
          z_l (z_w x3.2 40 8 ((x3.2.1 40 8) + (0 : Int32))) fun M5 =>
          f_X11_text_26 n x3.1 M5
        ) else (
          z_l (z_w x3.2 40 8 ((x3.2.1 40 8) + (1 : Int32))) fun M6 =>
          f_X11_text_26 n x3.1 M6
        )
      )
    )
def f_X11_text  (M : zM) : Option (Int32 × zM) :=
  z_l (z_w M 40 15 (0 : Int32)) fun M1 =>
  z_l (z_w M1 40 11 (0 : Int32)) fun M2 =>
  z_l (z_w M2 40 8 (0 : Int32)) fun M3 =>
  z_l (z_w M3 40 9 (0 : Int32)) fun M4 =>
  (f_X11_next0  M4).bind fun x5 =>
  f_X11_text_26 z_F (1 : Int32) x5
set_option maxHeartbeats 4000000 in
set_option maxRecDepth 100000 in
theorem w_X11_text_186 {G : zG} {p : Program} {l : Launch} {e : Env} {s : State} {m : MethodId} {args : Array Value} {below : List Frame} {meth : Method} {c : Code} (X : z_C G p s m args meth c cX11_text 3 RX11 (some .int)) {r : Int32 × zM} : ∀ (n : Nat) (i2 : Int32) (M : zM) (H : Heap) (locs : List Loc) (ls : Array Slot), z_W G M H locs → lv_has ls 3 [(0, .ref (G.1 40)), (2, .int i2)] → f_X11_text_186 n i2 M = some r → W p l e (z_rm 52) s m args below meth c H locs 0 0 (z_Q G below args s (some (.int r.1)) r.2) (F0 m 186 ls []) := by
  have hx := X.1
  have hb := X.2.1
  intro n
  induction n with
  | zero =>
    intro i2 M H locs ls  hw hl h
    exact z_no h
  | succ n ih =>
    intro i2 M H locs ls  hw hl h
    rw [f_X11_text_186] at h
    refine lv_iload_n (pc := 186) hx hb dX11_text_186 rfl (lv_at hl 1 rfl) ?_
    refine lv_iconst (pc := 187) (v := 2) hx hb dX11_text_187 (by decide) ?_
    refine lv_aload_n (pc := 188) hx hb dX11_text_188 rfl (lv_at hl 0 rfl) ?_
    refine zg_DrinkingRoofsModel_steps (pc := 189) X hw zw_fl_5_80 dX11_text_189 ?_
    refine lv_imul (pc := 192) hx hb dX11_text_192 ?_
    refine lv_icmp_ge (pc := 193) (tgt := 218) hx hb dX11_text_193 (by decide) (fun c1 => ?_) (fun c1 => ?_)
    · replace h := z_t c1 h
      refine lv_aload_n (pc := 218) hx hb dX11_text_218 rfl (lv_at hl 0 rfl) ?_
      refine zg_DrinkingRoofsModel_lines (pc := 219) X hw zw_fl_5_79 dX11_text_219 ?_
      obtain rfl := Option.some.inj h
      exact z_ri (pc := 222) X hw dX11_text_222
    · replace h := z_f c1 h
      refine lv_aload_n (pc := 196) hx hb dX11_text_196 rfl (lv_at hl 0 rfl) ?_
      refine zg_DrinkingRoofsModel_w (pc := 197) X hw zw_fl_5_71 dX11_text_197 ?_
      refine lv_sipush (pc := 200) (v := 875) hx hb dX11_text_200 (by decide) ?_
      refine lv_iload_n (pc := 203) hx hb dX11_text_203 rfl (lv_at hl 1 rfl) ?_
      refine lv_iadd (pc := 204) hx hb dX11_text_204 ?_
      refine lv_aload_n (pc := 205) hx hb dX11_text_205 rfl (lv_at hl 0 rfl) ?_
      refine zg_DrinkingRoofsModel_freshStep (pc := 206) X hw zw_fl_5_75 dX11_text_206 ?_
      refine lv_iload_n (pc := 209) hx hb dX11_text_209 rfl (lv_at hl 1 rfl) ?_
      obtain ⟨g2, h⟩ := z_gd h
      refine z_iald (pc := 210) X hw zk_44 zl_44 g2 dX11_text_210 ?_
      obtain ⟨g3, h⟩ := z_gd h
      refine z_iast (pc := 211) X hw zk_41 zl_41 g3 dX11_text_211 (fun HM4 lM4 wM4 => ?_)
      obtain ⟨M4, eM4, h⟩ := z_lo h
      rw [← eM4] at wM4
      obtain ⟨v5, ev5, h⟩ := z_lo h
      refine lv_iinc (pc := 212) (v := v5) (lv' := [(2, .int v5), (0, .ref (G.1 40))]) hx hb dX11_text_212 hl (k := 1) rfl (by rw [ev5]; rfl) (by decide) rfl (fun ls hl => ?_)
      refine lv_goto (pc := 215) (tgt := 186) hx hb dX11_text_215 (by decide) ?_
      exact ih v5 M4 HM4 lM4 ls  wM4 (lv_sub hl [1, 0] rfl) h
set_option maxHeartbeats 4000000 in
set_option maxRecDepth 100000 in
theorem w_X11_text_112 {G : zG} {p : Program} {l : Launch} {e : Env} {s : State} {m : MethodId} {args : Array Value} {below : List Frame} {meth : Method} {c : Code} (X : z_C G p s m args meth c cX11_text 3 RX11 (some .int)) {r : Int32 × zM} : ∀ (n : Nat) (i2 : Int32) (M : zM) (H : Heap) (locs : List Loc) (ls : Array Slot), z_W G M H locs → lv_has ls 3 [(0, .ref (G.1 40)), (2, .int i2)] → f_X11_text_112 n i2 M = some r → W p l e (z_rm 52) s m args below meth c H locs 0 0 (z_Q G below args s (some (.int r.1)) r.2) (F0 m 112 ls []) := by
  have hx := X.1
  have hb := X.2.1
  intro n
  induction n with
  | zero =>
    intro i2 M H locs ls  hw hl h
    exact z_no h
  | succ n ih =>
    intro i2 M H locs ls  hw hl h
    rw [f_X11_text_112] at h
    refine lv_iload_n (pc := 112) hx hb dX11_text_112 rfl (lv_at hl 1 rfl) ?_
    refine lv_aload_n (pc := 113) hx hb dX11_text_113 rfl (lv_at hl 0 rfl) ?_
    refine zg_DrinkingRoofsModel_lines (pc := 114) X hw zw_fl_5_79 dX11_text_114 ?_
    refine lv_icmp_ge (pc := 117) (tgt := 184) hx hb dX11_text_117 (by decide) (fun c1 => ?_) (fun c1 => ?_)
    · replace h := z_t c1 h
      refine lv_iconst (pc := 184) (v := 0) hx hb dX11_text_184 (by decide) ?_
      refine lv_istore_n (pc := 185) (lv' := [(2, .int (0 : Int32)), (0, .ref (G.1 40))]) hx hb dX11_text_185 rfl hl (by decide) rfl (fun ls hl => ?_)
      exact w_X11_text_186 X z_F (0 : Int32) M H locs ls  hw (lv_sub hl [1, 0] rfl) h
    · replace h := z_f c1 h
      refine lv_aload_n (pc := 120) hx hb dX11_text_120 rfl (lv_at hl 0 rfl) ?_
      refine zg_DrinkingRoofsModel_w (pc := 121) X hw zw_fl_5_71 dX11_text_121 ?_
      refine lv_sipush (pc := 124) (v := 815) hx hb dX11_text_124 (by decide) ?_
      refine lv_iload_n (pc := 127) hx hb dX11_text_127 rfl (lv_at hl 1 rfl) ?_
      refine lv_iadd (pc := 128) hx hb dX11_text_128 ?_
      refine lv_aload_n (pc := 129) hx hb dX11_text_129 rfl (lv_at hl 0 rfl) ?_
      refine zg_DrinkingRoofsModel_freshLine (pc := 130) X hw zw_fl_5_74 dX11_text_130 ?_
      refine lv_iconst (pc := 133) (v := 3) hx hb dX11_text_133 (by decide) ?_
      refine lv_iload_n (pc := 134) hx hb dX11_text_134 rfl (lv_at hl 1 rfl) ?_
      refine lv_imul (pc := 135) hx hb dX11_text_135 ?_
      obtain ⟨g2, h⟩ := z_gd h
      refine z_iald (pc := 136) X hw zk_43 zl_43 g2 dX11_text_136 ?_
      obtain ⟨g3, h⟩ := z_gd h
      refine z_iast (pc := 137) X hw zk_41 zl_41 g3 dX11_text_137 (fun HM4 lM4 wM4 => ?_)
      obtain ⟨M4, eM4, h⟩ := z_lo h
      rw [← eM4] at wM4
      refine lv_aload_n (pc := 138) hx hb dX11_text_138 rfl (lv_at hl 0 rfl) ?_
      refine zg_DrinkingRoofsModel_w (pc := 139) X wM4 zw_fl_5_71 dX11_text_139 ?_
      refine lv_sipush (pc := 142) (v := 835) hx hb dX11_text_142 (by decide) ?_
      refine lv_iload_n (pc := 145) hx hb dX11_text_145 rfl (lv_at hl 1 rfl) ?_
      refine lv_iadd (pc := 146) hx hb dX11_text_146 ?_
      refine lv_aload_n (pc := 147) hx hb dX11_text_147 rfl (lv_at hl 0 rfl) ?_
      refine zg_DrinkingRoofsModel_freshLine (pc := 148) X wM4 zw_fl_5_74 dX11_text_148 ?_
      refine lv_iconst (pc := 151) (v := 3) hx hb dX11_text_151 (by decide) ?_
      refine lv_iload_n (pc := 152) hx hb dX11_text_152 rfl (lv_at hl 1 rfl) ?_
      refine lv_imul (pc := 153) hx hb dX11_text_153 ?_
      refine lv_iconst (pc := 154) (v := 1) hx hb dX11_text_154 (by decide) ?_
      refine lv_iadd (pc := 155) hx hb dX11_text_155 ?_
      obtain ⟨v5, ev5, h⟩ := z_lo h
      refine z_topi ev5 ?_
      obtain ⟨g6, h⟩ := z_gd h
      refine z_iald (pc := 156) X wM4 zk_43 zl_43 g6 dX11_text_156 ?_
      obtain ⟨g7, h⟩ := z_gd h
      refine z_iast (pc := 157) X wM4 zk_41 zl_41 g7 dX11_text_157 (fun HM8 lM8 wM8 => ?_)
      obtain ⟨M8, eM8, h⟩ := z_lo h
      rw [← eM8] at wM8
      refine lv_aload_n (pc := 158) hx hb dX11_text_158 rfl (lv_at hl 0 rfl) ?_
      refine zg_DrinkingRoofsModel_w (pc := 159) X wM8 zw_fl_5_71 dX11_text_159 ?_
      refine lv_sipush (pc := 162) (v := 855) hx hb dX11_text_162 (by decide) ?_
      refine lv_iload_n (pc := 165) hx hb dX11_text_165 rfl (lv_at hl 1 rfl) ?_
      refine lv_iadd (pc := 166) hx hb dX11_text_166 ?_
      refine lv_aload_n (pc := 167) hx hb dX11_text_167 rfl (lv_at hl 0 rfl) ?_
      refine zg_DrinkingRoofsModel_freshLine (pc := 168) X wM8 zw_fl_5_74 dX11_text_168 ?_
      refine lv_iconst (pc := 171) (v := 3) hx hb dX11_text_171 (by decide) ?_
      refine lv_iload_n (pc := 172) hx hb dX11_text_172 rfl (lv_at hl 1 rfl) ?_
      refine lv_imul (pc := 173) hx hb dX11_text_173 ?_
      refine lv_iconst (pc := 174) (v := 2) hx hb dX11_text_174 (by decide) ?_
      refine lv_iadd (pc := 175) hx hb dX11_text_175 ?_
      obtain ⟨v9, ev9, h⟩ := z_lo h
      refine z_topi ev9 ?_
      obtain ⟨g10, h⟩ := z_gd h
      refine z_iald (pc := 176) X wM8 zk_43 zl_43 g10 dX11_text_176 ?_
      obtain ⟨g11, h⟩ := z_gd h
      refine z_iast (pc := 177) X wM8 zk_41 zl_41 g11 dX11_text_177 (fun HM12 lM12 wM12 => ?_)
      obtain ⟨M12, eM12, h⟩ := z_lo h
      rw [← eM12] at wM12
      obtain ⟨v13, ev13, h⟩ := z_lo h
      refine lv_iinc (pc := 178) (v := v13) (lv' := [(2, .int v13), (0, .ref (G.1 40))]) hx hb dX11_text_178 hl (k := 1) rfl (by rw [ev13]; rfl) (by decide) rfl (fun ls hl => ?_)
      refine lv_goto (pc := 181) (tgt := 112) hx hb dX11_text_181 (by decide) ?_
      exact ih v13 M12 HM12 lM12 ls  wM12 (lv_sub hl [1, 0] rfl) h
set_option maxHeartbeats 4000000 in
set_option maxRecDepth 100000 in
theorem w_X11_text_63 {G : zG} {p : Program} {l : Launch} {e : Env} {s : State} {m : MethodId} {args : Array Value} {below : List Frame} {meth : Method} {c : Code} (X : z_C G p s m args meth c cX11_text 3 RX11 (some .int)) {r : Int32 × zM} : ∀ (i1 : Int32) (M : zM) (H : Heap) (locs : List Loc) (ls : Array Slot), z_W G M H locs → lv_has ls 3 [(0, .ref (G.1 40)), (1, .int i1)] → f_X11_text_63 i1 M = some r → W p l e (z_rm 52) s m args below meth c H locs 0 0 (z_Q G below args s (some (.int r.1)) r.2) (F0 m 63 ls []) := by
  have hx := X.1
  have hb := X.2.1
  intro i1 M H locs ls  hw hl h
  unfold f_X11_text_63 at h
  refine lv_aload_n (pc := 63) hx hb dX11_text_63 rfl (lv_at hl 0 rfl) ?_
  refine lv_iconst (pc := 64) (v := 0) hx hb dX11_text_64 (by decide) ?_
  refine zp_DrinkingRoofsModel_taped (pc := 65) X hw zw_fl_5_81 dX11_text_65 (fun HM1 lM1 wM1 => ?_)
  obtain ⟨M1, eM1, h⟩ := z_lo h
  rw [← eM1] at wM1
  refine lv_aload_n (pc := 68) hx hb dX11_text_68 rfl (lv_at hl 0 rfl) ?_
  refine lv_aload_n (pc := 69) hx hb dX11_text_69 rfl (lv_at hl 0 rfl) ?_
  refine zg_DrinkingRoofsModel_wrong (pc := 70) X wM1 zw_fl_5_86 dX11_text_70 ?_
  refine zp_DrinkingRoofsModel_faultKind (pc := 73) X wM1 zw_fl_5_88 dX11_text_73 (fun HM2 lM2 wM2 => ?_)
  obtain ⟨M2, eM2, h⟩ := z_lo h
  rw [← eM2] at wM2
  refine lv_aload_n (pc := 76) hx hb dX11_text_76 rfl (lv_at hl 0 rfl) ?_
  refine lv_iload_n (pc := 77) hx hb dX11_text_77 rfl (lv_at hl 1 rfl) ?_
  refine lv_if_eq (pc := 78) (tgt := 85) hx hb dX11_text_78 (by decide) (fun c3 => ?_) (fun c3 => ?_)
  · replace h := z_t c3 h
    refine lv_aload_n (pc := 85) hx hb dX11_text_85 rfl (lv_at hl 0 rfl) ?_
    refine zg_DrinkingRoofsModel_wrongAt (pc := 86) X wM2 zw_fl_5_87 dX11_text_86 ?_
    refine zp_DrinkingRoofsModel_faultPlace (pc := 89) X wM2 zw_fl_5_90 dX11_text_89 (fun HM4 lM4 wM4 => ?_)
    obtain ⟨M4, eM4, h⟩ := z_lo h
    rw [← eM4] at wM4
    refine lv_iload_n (pc := 92) hx hb dX11_text_92 rfl (lv_at hl 1 rfl) ?_
    refine lv_if_ne (pc := 93) (tgt := 98) hx hb dX11_text_93 (by decide) (fun c5 => ?_) (fun c5 => ?_)
    · replace h := z_f c5 h
      refine lv_aload_n (pc := 98) hx hb dX11_text_98 rfl (lv_at hl 0 rfl) ?_
      refine zg_DrinkingRoofsModel_w (pc := 99) X wM4 zw_fl_5_71 dX11_text_99 ?_
      refine lv_sipush (pc := 102) (v := 810) hx hb dX11_text_102 (by decide) ?_
      refine lv_aload_n (pc := 105) hx hb dX11_text_105 rfl (lv_at hl 0 rfl) ?_
      refine zg_DrinkingRoofsModel_lines (pc := 106) X wM4 zw_fl_5_79 dX11_text_106 ?_
      refine z_iast (pc := 109) X wM4 zk_41 zl_41 (z_il (by decide)) dX11_text_109 (fun HM6 lM6 wM6 => ?_)
      obtain ⟨M6, eM6, h⟩ := z_lo h
      rw [← eM6] at wM6
      refine lv_iconst (pc := 110) (v := 0) hx hb dX11_text_110 (by decide) ?_
      refine lv_istore_n (pc := 111) (lv' := [(2, .int (0 : Int32)), (0, .ref (G.1 40)), (1, .int i1)]) hx hb dX11_text_111 rfl hl (by decide) rfl (fun ls hl => ?_)
      exact w_X11_text_112 X z_F (0 : Int32) M6 HM6 lM6 ls  wM6 (lv_sub hl [1, 0] rfl) h
    · replace h := z_t c5 h
      refine lv_iconst (pc := 96) (v := -1) hx hb dX11_text_96 (by decide) ?_
      obtain rfl := Option.some.inj h
      exact z_ri (pc := 97) X wM4 dX11_text_97
  · replace h := z_f c3 h
    refine lv_iconst (pc := 81) (v := -1) hx hb dX11_text_81 (by decide) ?_
    refine lv_goto (pc := 82) (tgt := 89) hx hb dX11_text_82 (by decide) ?_
    refine zp_DrinkingRoofsModel_faultPlace (pc := 89) X wM2 zw_fl_5_90 dX11_text_89 (fun HM7 lM7 wM7 => ?_)
    obtain ⟨M7, eM7, h⟩ := z_lo h
    rw [← eM7] at wM7
    refine lv_iload_n (pc := 92) hx hb dX11_text_92 rfl (lv_at hl 1 rfl) ?_
    refine lv_if_ne (pc := 93) (tgt := 98) hx hb dX11_text_93 (by decide) (fun c8 => ?_) (fun c8 => ?_)
    · replace h := z_f c8 h
      refine lv_aload_n (pc := 98) hx hb dX11_text_98 rfl (lv_at hl 0 rfl) ?_
      refine zg_DrinkingRoofsModel_w (pc := 99) X wM7 zw_fl_5_71 dX11_text_99 ?_
      refine lv_sipush (pc := 102) (v := 810) hx hb dX11_text_102 (by decide) ?_
      refine lv_aload_n (pc := 105) hx hb dX11_text_105 rfl (lv_at hl 0 rfl) ?_
      refine zg_DrinkingRoofsModel_lines (pc := 106) X wM7 zw_fl_5_79 dX11_text_106 ?_
      refine z_iast (pc := 109) X wM7 zk_41 zl_41 (z_il (by decide)) dX11_text_109 (fun HM9 lM9 wM9 => ?_)
      obtain ⟨M9, eM9, h⟩ := z_lo h
      rw [← eM9] at wM9
      refine lv_iconst (pc := 110) (v := 0) hx hb dX11_text_110 (by decide) ?_
      refine lv_istore_n (pc := 111) (lv' := [(2, .int (0 : Int32)), (0, .ref (G.1 40)), (1, .int i1)]) hx hb dX11_text_111 rfl hl (by decide) rfl (fun ls hl => ?_)
      exact w_X11_text_112 X z_F (0 : Int32) M9 HM9 lM9 ls  wM9 (lv_sub hl [1, 0] rfl) h
    · replace h := z_t c8 h
      refine lv_iconst (pc := 96) (v := -1) hx hb dX11_text_96 (by decide) ?_
      obtain rfl := Option.some.inj h
      exact z_ri (pc := 97) X wM7 dX11_text_97
set_option maxHeartbeats 4000000 in
set_option maxRecDepth 100000 in
theorem w_X11_text_26 {G : zG} {p : Program} {l : Launch} {e : Env} {s : State} {m : MethodId} {args : Array Value} {below : List Frame} {meth : Method} {c : Code} (X : z_C G p s m args meth c cX11_text 3 RX11 (some .int)) {r : Int32 × zM} : ∀ (n : Nat) (i1 : Int32) (M : zM) (H : Heap) (locs : List Loc) (ls : Array Slot), z_W G M H locs → lv_has ls 3 [(0, .ref (G.1 40)), (1, .int i1)] → f_X11_text_26 n i1 M = some r → W p l e (z_rm 52) s m args below meth c H locs 0 0 (z_Q G below args s (some (.int r.1)) r.2) (F0 m 26 ls []) := by
  have hx := X.1
  have hb := X.2.1
  intro n
  induction n with
  | zero =>
    intro i1 M H locs ls  hw hl h
    exact z_no h
  | succ n ih =>
    intro i1 M H locs ls  hw hl h
    rw [f_X11_text_26] at h
    refine lv_iload_n (pc := 26) hx hb dX11_text_26 rfl (lv_at hl 1 rfl) ?_
    refine lv_if_eq (pc := 27) (tgt := 63) hx hb dX11_text_27 (by decide) (fun c1 => ?_) (fun c1 => ?_)
    · replace h := z_t c1 h
      exact w_X11_text_63 X i1 M H locs ls  hw (lv_sub hl [0, 1] rfl) h
    · replace h := z_f c1 h
      refine lv_aload_n (pc := 30) hx hb dX11_text_30 rfl (lv_at hl 0 rfl) ?_
      refine zg_DrinkingRoofsModel_token (pc := 31) X hw zw_fl_5_83 dX11_text_31 ?_
      refine lv_if_eq (pc := 34) (tgt := 63) hx hb dX11_text_34 (by decide) (fun c2 => ?_) (fun c2 => ?_)
      · replace h := z_t c2 h
        exact w_X11_text_63 X i1 M H locs ls  hw (lv_sub hl [0, 1] rfl) h
      · replace h := z_f c2 h
        refine lv_aload_n (pc := 37) hx hb dX11_text_37 rfl (lv_at hl 0 rfl) ?_
        obtain ⟨x3, ex3, h⟩ := z_bd h
        refine z_cvI (pc := 38) (rest := []) X hw (m_X11_aLine  ex3) (z_lt zk_40 (by decide)) (z_E11 zk_40) rfl zw_ml_6_57 zw_im_6_59 zw_se_S_44 zw_in_1_12 zw_co_6_60 zd_X11_aLine (by decide) rfl hl.1 rfl (Nat.le_of_ble_eq_true rfl) dX11_text_38 ⟨Nat.zero_le _, Nat.zero_le _⟩ (fun Hx3 lx3 wx3 => ?_)
        refine lv_istore_n (pc := 41) (lv' := [(1, .int x3.1), (0, .ref (G.1 40))]) hx hb dX11_text_41 rfl hl (by decide) rfl (fun ls hl => ?_)
        refine lv_aload_n (pc := 42) hx hb dX11_text_42 rfl (lv_at hl 1 rfl) ?_
        refine lv_dup (pc := 43) hx hb dX11_text_43 rfl ?_
        refine zg_DrinkingRoofsModel_lines (pc := 44) X wx3 zw_fl_5_79 dX11_text_44 ?_
        refine lv_iload_n (pc := 47) hx hb dX11_text_47 rfl (lv_at hl 0 rfl) ?_
        refine lv_if_eq (pc := 48) (tgt := 55) hx hb dX11_text_48 (by decide) (fun c4 => ?_) (fun c4 => ?_)
        · replace h := z_t c4 h
          refine lv_iconst (pc := 55) (v := 0) hx hb dX11_text_55 (by decide) ?_
          refine lv_iadd (pc := 56) hx hb dX11_text_56 ?_
          refine zp_DrinkingRoofsModel_lines (pc := 57) X wx3 zw_fl_5_79 dX11_text_57 (fun HM5 lM5 wM5 => ?_)
          obtain ⟨M5, eM5, h⟩ := z_lo h
          rw [← eM5] at wM5
          refine lv_goto (pc := 60) (tgt := 26) hx hb dX11_text_60 (by decide) ?_
          exact ih x3.1 M5 HM5 lM5 ls  wM5 (lv_sub hl [1, 0] rfl) h
        · replace h := z_f c4 h
          refine lv_iconst (pc := 51) (v := 1) hx hb dX11_text_51 (by decide) ?_
          refine lv_goto (pc := 52) (tgt := 56) hx hb dX11_text_52 (by decide) ?_
          refine lv_iadd (pc := 56) hx hb dX11_text_56 ?_
          refine zp_DrinkingRoofsModel_lines (pc := 57) X wx3 zw_fl_5_79 dX11_text_57 (fun HM6 lM6 wM6 => ?_)
          obtain ⟨M6, eM6, h⟩ := z_lo h
          rw [← eM6] at wM6
          refine lv_goto (pc := 60) (tgt := 26) hx hb dX11_text_60 (by decide) ?_
          exact ih x3.1 M6 HM6 lM6 ls  wM6 (lv_sub hl [1, 0] rfl) h
set_option maxHeartbeats 4000000 in
set_option maxRecDepth 100000 in
theorem m_X11_text {l : Launch} {G : zG} {M : zM} {r : Int32 × zM} (h : f_X11_text  M = some r) : z_T l G 52 yX11_text (.code yX11_text cX11_text 3 (some .int)) [.ref (G.1 40)] M (some (.int r.1)) r.2 := by
  refine z_of rfl ?_
  intro p e s m below meth c X hw
  have hl := lv_entry [.ref (G.1 40)] (n := 3) (Nat.le_of_ble_eq_true rfl)
  rw [lg_entry_eq]
  generalize (lg_sl [.ref (G.1 40)] ++ List.replicate (3 - (lg_sl [.ref (G.1 40)]).length) Slot.unset).toArray = ls at hl ⊢
  have hl : lv_has ls 3 [(0, .ref (G.1 40))] := hl
  generalize ([.ref (G.1 40)] : List Value).toArray = args at X ⊢
  have X : z_C G p s m args meth c cX11_text 3 RX11 (some .int) := X
  have hx := X.1
  have hb := X.2.1
  unfold f_X11_text at h
  refine lv_aload_n (pc := 0) hx hb dX11_text_0 rfl (lv_at hl 0 rfl) ?_
  refine lv_iconst (pc := 1) (v := 0) hx hb dX11_text_1 (by decide) ?_
  refine zp_DrinkingRoofsModel_wrong (pc := 2) X hw zw_fl_5_86 dX11_text_2 (fun HM1 lM1 wM1 => ?_)
  obtain ⟨M1, eM1, h⟩ := z_lo h
  rw [← eM1] at wM1
  refine lv_aload_n (pc := 5) hx hb dX11_text_5 rfl (lv_at hl 0 rfl) ?_
  refine lv_iconst (pc := 6) (v := 0) hx hb dX11_text_6 (by decide) ?_
  refine zp_DrinkingRoofsModel_at (pc := 7) X wM1 zw_fl_5_82 dX11_text_7 (fun HM2 lM2 wM2 => ?_)
  obtain ⟨M2, eM2, h⟩ := z_lo h
  rw [← eM2] at wM2
  refine lv_aload_n (pc := 10) hx hb dX11_text_10 rfl (lv_at hl 0 rfl) ?_
  refine lv_iconst (pc := 11) (v := 0) hx hb dX11_text_11 (by decide) ?_
  refine zp_DrinkingRoofsModel_lines (pc := 12) X wM2 zw_fl_5_79 dX11_text_12 (fun HM3 lM3 wM3 => ?_)
  obtain ⟨M3, eM3, h⟩ := z_lo h
  rw [← eM3] at wM3
  refine lv_aload_n (pc := 15) hx hb dX11_text_15 rfl (lv_at hl 0 rfl) ?_
  refine lv_iconst (pc := 16) (v := 0) hx hb dX11_text_16 (by decide) ?_
  refine zp_DrinkingRoofsModel_steps (pc := 17) X wM3 zw_fl_5_80 dX11_text_17 (fun HM4 lM4 wM4 => ?_)
  obtain ⟨M4, eM4, h⟩ := z_lo h
  rw [← eM4] at wM4
  refine lv_aload_n (pc := 20) hx hb dX11_text_20 rfl (lv_at hl 0 rfl) ?_
  obtain ⟨x5, ex5, h⟩ := z_bd h
  refine z_cvV (pc := 21) (rest := []) X wM4 (m_X11_next0  ex5) (z_lt zk_40 (by decide)) (z_E11 zk_40) rfl zw_ml_6_16 zw_im_6_18 zw_se_S_39 zw_in_1_12 zw_co_6_19 zd_X11_next0 (by decide) rfl hl.1 rfl (Nat.le_of_ble_eq_true rfl) dX11_text_21 ⟨Nat.zero_le _, Nat.zero_le _⟩ (fun Hx5 lx5 wx5 => ?_)
  refine lv_iconst (pc := 24) (v := 1) hx hb dX11_text_24 (by decide) ?_
  refine lv_istore_n (pc := 25) (lv' := [(1, .int (1 : Int32)), (0, .ref (G.1 40))]) hx hb dX11_text_25 rfl hl (by decide) rfl (fun ls hl => ?_)
  exact w_X11_text_26 X z_F (1 : Int32) x5 Hx5 lx5 ls  wx5 (lv_sub hl [1, 0] rfl) h
def f_X11_fault (i1 : Int32) (M : zM) : Option (Int32 × zM) :=
  if i1 = 0 then (
    some ((M.1 40 17), M)
  ) else (
    if i1 = (1 : Int32) then (
      some ((M.1 40 19), M)
    ) else (
      some ((-1 : Int32), M)
    )
  )
set_option maxHeartbeats 4000000 in
set_option maxRecDepth 100000 in
theorem m_X11_fault {l : Launch} {G : zG} {i1 : Int32} {M : zM} {r : Int32 × zM} (h : f_X11_fault i1 M = some r) : z_T l G 0 yX11_fault (.code yX11_fault cX11_fault 2 (some .int)) [.ref (G.1 40), .int i1] M (some (.int r.1)) r.2 := by
  refine z_of rfl ?_
  intro p e s m below meth c X hw
  have hl := lv_entry [.ref (G.1 40), .int i1] (n := 2) (Nat.le_of_ble_eq_true rfl)
  rw [lg_entry_eq]
  generalize (lg_sl [.ref (G.1 40), .int i1] ++ List.replicate (2 - (lg_sl [.ref (G.1 40), .int i1]).length) Slot.unset).toArray = ls at hl ⊢
  have hl : lv_has ls 2 [(0, .ref (G.1 40)), (1, .int i1)] := hl
  generalize ([.ref (G.1 40), .int i1] : List Value).toArray = args at X ⊢
  have X : z_C G p s m args meth c cX11_fault 2 RX11 (some .int) := X
  have hx := X.1
  have hb := X.2.1
  unfold f_X11_fault at h
  refine lv_iload_n (pc := 0) hx hb dX11_fault_0 rfl (lv_at hl 1 rfl) ?_
  refine lv_if_ne (pc := 1) (tgt := 11) hx hb dX11_fault_1 (by decide) (fun c1 => ?_) (fun c1 => ?_)
  · replace h := z_f c1 h
    refine lv_iload_n (pc := 11) hx hb dX11_fault_11 rfl (lv_at hl 1 rfl) ?_
    refine lv_iconst (pc := 12) (v := 1) hx hb dX11_fault_12 (by decide) ?_
    refine lv_icmp_ne (pc := 13) (tgt := 23) hx hb dX11_fault_13 (by decide) (fun c2 => ?_) (fun c2 => ?_)
    · replace h := z_f c2 h
      refine lv_iconst (pc := 23) (v := -1) hx hb dX11_fault_23 (by decide) ?_
      obtain rfl := Option.some.inj h
      exact z_ri (pc := 24) X hw dX11_fault_24
    · replace h := z_t c2 h
      refine lv_aload_n (pc := 16) hx hb dX11_fault_16 rfl (lv_at hl 0 rfl) ?_
      refine zg_DrinkingRoofsModel_faultPlace (pc := 17) X hw zw_fl_5_90 dX11_fault_17 ?_
      refine lv_goto (pc := 20) (tgt := 24) hx hb dX11_fault_20 (by decide) ?_
      obtain rfl := Option.some.inj h
      exact z_ri (pc := 24) X hw dX11_fault_24
  · replace h := z_t c1 h
    refine lv_aload_n (pc := 4) hx hb dX11_fault_4 rfl (lv_at hl 0 rfl) ?_
    refine zg_DrinkingRoofsModel_faultKind (pc := 5) X hw zw_fl_5_88 dX11_fault_5 ?_
    refine lv_goto (pc := 8) (tgt := 24) hx hb dX11_fault_8 (by decide) ?_
    obtain rfl := Option.some.inj h
    exact z_ri (pc := 24) X hw dX11_fault_24
def f_X11_both (i0 : Int32) (i1 : Int32) (i2 : Int32) (M : zM) : Option (Int32 × zM) :=
  if i0 = (13 : Int32) then (
    some ((i1 + i2), M)
  ) else (
  if i0 = (14 : Int32) then (
    some ((i1 - i2), M)
  ) else (
  if i0 = (15 : Int32) then (
    some ((i1 * i2), M)
  ) else (
  if i0 = (16 : Int32) then (
    some ((i1 ||| i2), M)
  ) else (
  if i0 = (17 : Int32) then (
    if i2 ≤ i1 then (
      some ((0 : Int32), M)
    ) else (
      some ((1 : Int32), M)
    )
  ) else (
  if i0 = (18 : Int32) then (
    if i1 = i2 then (
      some ((1 : Int32), M)
    ) else (
      some ((0 : Int32), M)
    )
  ) else (
  if i0 = (19 : Int32) then (
    if i1 ≤ i2 then (
      some ((0 : Int32), M)
    ) else (
      some ((1 : Int32), M)
    )
  ) else (
  if i0 = (20 : Int32) then (
    some ((i1 ||| i2), M)
  ) else (
  if i0 = (21 : Int32) then (
    some ((i1 &&& i2), M)
  ) else (
    some ((i1 ||| i2), M)
  )))))))))
set_option maxHeartbeats 4000000 in
set_option maxRecDepth 100000 in
theorem m_X11_both {l : Launch} {G : zG} {i0 : Int32} {i1 : Int32} {i2 : Int32} {M : zM} {r : Int32 × zM} (h : f_X11_both i0 i1 i2 M = some r) : z_T l G 0 yX11_both (.code yX11_both cX11_both 3 (some .int)) [.int i0, .int i1, .int i2] M (some (.int r.1)) r.2 := by
  refine z_of rfl ?_
  intro p e s m below meth c X hw
  have hl := lv_entry [.int i0, .int i1, .int i2] (n := 3) (Nat.le_of_ble_eq_true rfl)
  rw [lg_entry_eq]
  generalize (lg_sl [.int i0, .int i1, .int i2] ++ List.replicate (3 - (lg_sl [.int i0, .int i1, .int i2]).length) Slot.unset).toArray = ls at hl ⊢
  have hl : lv_has ls 3 [(0, .int i0), (1, .int i1), (2, .int i2)] := hl
  generalize ([.int i0, .int i1, .int i2] : List Value).toArray = args at X ⊢
  have X : z_C G p s m args meth c cX11_both 3 RX11 (some .int) := X
  have hx := X.1
  have hb := X.2.1
  unfold f_X11_both at h
  refine lv_iload_n (pc := 0) hx hb dX11_both_0 rfl (lv_at hl 0 rfl) ?_
  by_cases c1 : i0 = (13 : Int32)
  · replace h := z_t c1 h
    refine lv_tableIn (pc := 1) (off := 51) (tgt := 52) hx hb dX11_both_1 (by rw [c1]; decide) (by rw [c1]; decide) (by rw [c1]; rfl) (by decide) ?_
    refine lv_iload_n (pc := 52) hx hb dX11_both_52 rfl (lv_at hl 1 rfl) ?_
    refine lv_iload_n (pc := 53) hx hb dX11_both_53 rfl (lv_at hl 2 rfl) ?_
    refine lv_iadd (pc := 54) hx hb dX11_both_54 ?_
    obtain rfl := Option.some.inj h
    exact z_ri (pc := 55) X hw dX11_both_55
  · replace h := z_f c1 h
    by_cases c2 : i0 = (14 : Int32)
    · replace h := z_t c2 h
      refine lv_tableIn (pc := 1) (off := 55) (tgt := 56) hx hb dX11_both_1 (by rw [c2]; decide) (by rw [c2]; decide) (by rw [c2]; rfl) (by decide) ?_
      refine lv_iload_n (pc := 56) hx hb dX11_both_56 rfl (lv_at hl 1 rfl) ?_
      refine lv_iload_n (pc := 57) hx hb dX11_both_57 rfl (lv_at hl 2 rfl) ?_
      refine lv_isub (pc := 58) hx hb dX11_both_58 ?_
      obtain rfl := Option.some.inj h
      exact z_ri (pc := 59) X hw dX11_both_59
    · replace h := z_f c2 h
      by_cases c3 : i0 = (15 : Int32)
      · replace h := z_t c3 h
        refine lv_tableIn (pc := 1) (off := 59) (tgt := 60) hx hb dX11_both_1 (by rw [c3]; decide) (by rw [c3]; decide) (by rw [c3]; rfl) (by decide) ?_
        refine lv_iload_n (pc := 60) hx hb dX11_both_60 rfl (lv_at hl 1 rfl) ?_
        refine lv_iload_n (pc := 61) hx hb dX11_both_61 rfl (lv_at hl 2 rfl) ?_
        refine lv_imul (pc := 62) hx hb dX11_both_62 ?_
        obtain rfl := Option.some.inj h
        exact z_ri (pc := 63) X hw dX11_both_63
      · replace h := z_f c3 h
        by_cases c4 : i0 = (16 : Int32)
        · replace h := z_t c4 h
          refine lv_tableIn (pc := 1) (off := 100) (tgt := 101) hx hb dX11_both_1 (by rw [c4]; decide) (by rw [c4]; decide) (by rw [c4]; rfl) (by decide) ?_
          refine lv_iload_n (pc := 101) hx hb dX11_both_101 rfl (lv_at hl 1 rfl) ?_
          refine lv_iload_n (pc := 102) hx hb dX11_both_102 rfl (lv_at hl 2 rfl) ?_
          refine lv_ior (pc := 103) hx hb dX11_both_103 ?_
          obtain rfl := Option.some.inj h
          exact z_ri (pc := 104) X hw dX11_both_104
        · replace h := z_f c4 h
          by_cases c5 : i0 = (17 : Int32)
          · replace h := z_t c5 h
            refine lv_tableIn (pc := 1) (off := 63) (tgt := 64) hx hb dX11_both_1 (by rw [c5]; decide) (by rw [c5]; decide) (by rw [c5]; rfl) (by decide) ?_
            refine lv_iload_n (pc := 64) hx hb dX11_both_64 rfl (lv_at hl 1 rfl) ?_
            refine lv_iload_n (pc := 65) hx hb dX11_both_65 rfl (lv_at hl 2 rfl) ?_
            refine lv_icmp_ge (pc := 66) (tgt := 73) hx hb dX11_both_66 (by decide) (fun c6 => ?_) (fun c6 => ?_)
            · replace h := z_t c6 h
              refine lv_iconst (pc := 73) (v := 0) hx hb dX11_both_73 (by decide) ?_
              obtain rfl := Option.some.inj h
              exact z_ri (pc := 74) X hw dX11_both_74
            · replace h := z_f c6 h
              refine lv_iconst (pc := 69) (v := 1) hx hb dX11_both_69 (by decide) ?_
              refine lv_goto (pc := 70) (tgt := 74) hx hb dX11_both_70 (by decide) ?_
              obtain rfl := Option.some.inj h
              exact z_ri (pc := 74) X hw dX11_both_74
          · replace h := z_f c5 h
            by_cases c7 : i0 = (18 : Int32)
            · replace h := z_t c7 h
              refine lv_tableIn (pc := 1) (off := 74) (tgt := 75) hx hb dX11_both_1 (by rw [c7]; decide) (by rw [c7]; decide) (by rw [c7]; rfl) (by decide) ?_
              refine lv_iload_n (pc := 75) hx hb dX11_both_75 rfl (lv_at hl 1 rfl) ?_
              refine lv_iload_n (pc := 76) hx hb dX11_both_76 rfl (lv_at hl 2 rfl) ?_
              refine lv_icmp_ne (pc := 77) (tgt := 84) hx hb dX11_both_77 (by decide) (fun c8 => ?_) (fun c8 => ?_)
              · replace h := z_f c8 h
                refine lv_iconst (pc := 84) (v := 0) hx hb dX11_both_84 (by decide) ?_
                obtain rfl := Option.some.inj h
                exact z_ri (pc := 85) X hw dX11_both_85
              · replace h := z_t c8 h
                refine lv_iconst (pc := 80) (v := 1) hx hb dX11_both_80 (by decide) ?_
                refine lv_goto (pc := 81) (tgt := 85) hx hb dX11_both_81 (by decide) ?_
                obtain rfl := Option.some.inj h
                exact z_ri (pc := 85) X hw dX11_both_85
            · replace h := z_f c7 h
              by_cases c9 : i0 = (19 : Int32)
              · replace h := z_t c9 h
                refine lv_tableIn (pc := 1) (off := 85) (tgt := 86) hx hb dX11_both_1 (by rw [c9]; decide) (by rw [c9]; decide) (by rw [c9]; rfl) (by decide) ?_
                refine lv_iload_n (pc := 86) hx hb dX11_both_86 rfl (lv_at hl 1 rfl) ?_
                refine lv_iload_n (pc := 87) hx hb dX11_both_87 rfl (lv_at hl 2 rfl) ?_
                refine lv_icmp_le (pc := 88) (tgt := 95) hx hb dX11_both_88 (by decide) (fun c10 => ?_) (fun c10 => ?_)
                · replace h := z_t c10 h
                  refine lv_iconst (pc := 95) (v := 0) hx hb dX11_both_95 (by decide) ?_
                  obtain rfl := Option.some.inj h
                  exact z_ri (pc := 96) X hw dX11_both_96
                · replace h := z_f c10 h
                  refine lv_iconst (pc := 91) (v := 1) hx hb dX11_both_91 (by decide) ?_
                  refine lv_goto (pc := 92) (tgt := 96) hx hb dX11_both_92 (by decide) ?_
                  obtain rfl := Option.some.inj h
                  exact z_ri (pc := 96) X hw dX11_both_96
              · replace h := z_f c9 h
                by_cases c11 : i0 = (20 : Int32)
                · replace h := z_t c11 h
                  refine lv_tableIn (pc := 1) (off := 100) (tgt := 101) hx hb dX11_both_1 (by rw [c11]; decide) (by rw [c11]; decide) (by rw [c11]; rfl) (by decide) ?_
                  refine lv_iload_n (pc := 101) hx hb dX11_both_101 rfl (lv_at hl 1 rfl) ?_
                  refine lv_iload_n (pc := 102) hx hb dX11_both_102 rfl (lv_at hl 2 rfl) ?_
                  refine lv_ior (pc := 103) hx hb dX11_both_103 ?_
                  obtain rfl := Option.some.inj h
                  exact z_ri (pc := 104) X hw dX11_both_104
                · replace h := z_f c11 h
                  by_cases c12 : i0 = (21 : Int32)
                  · replace h := z_t c12 h
                    refine lv_tableIn (pc := 1) (off := 96) (tgt := 97) hx hb dX11_both_1 (by rw [c12]; decide) (by rw [c12]; decide) (by rw [c12]; rfl) (by decide) ?_
                    refine lv_iload_n (pc := 97) hx hb dX11_both_97 rfl (lv_at hl 1 rfl) ?_
                    refine lv_iload_n (pc := 98) hx hb dX11_both_98 rfl (lv_at hl 2 rfl) ?_
                    refine lv_iand (pc := 99) hx hb dX11_both_99 ?_
                    obtain rfl := Option.some.inj h
                    exact z_ri (pc := 100) X hw dX11_both_100
                  · replace h := z_f c12 h
                    have qc1 : (i0).toInt ≠ 13 := z_ne c1
                    have qc2 : (i0).toInt ≠ 14 := z_ne c2
                    have qc3 : (i0).toInt ≠ 15 := z_ne c3
                    have qc4 : (i0).toInt ≠ 16 := z_ne c4
                    have qc5 : (i0).toInt ≠ 17 := z_ne c5
                    have qc7 : (i0).toInt ≠ 18 := z_ne c7
                    have qc9 : (i0).toInt ≠ 19 := z_ne c9
                    have qc11 : (i0).toInt ≠ 20 := z_ne c11
                    have qc12 : (i0).toInt ≠ 21 := z_ne c12
                    refine lv_tableOut (pc := 1) (tgt := 101) hx hb dX11_both_1 (by omega) (by decide) ?_
                    refine lv_iload_n (pc := 101) hx hb dX11_both_101 rfl (lv_at hl 1 rfl) ?_
                    refine lv_iload_n (pc := 102) hx hb dX11_both_102 rfl (lv_at hl 2 rfl) ?_
                    refine lv_ior (pc := 103) hx hb dX11_both_103 ?_
                    obtain rfl := Option.some.inj h
                    exact z_ri (pc := 104) X hw dX11_both_104
def f_X11_comesTo_5 : Nat → Int32 → Int32 → Int32 → zM → Option (Int32 × zM)
  | 0, _, _, _, _ => none
  | n + 1, i2, i3, i4, M =>
    if i2 ≤ i4 then (
      some ((M.1 46 (Int32.toNatClampNeg (0 : Int32))), M)
    ) else (
      z_l ((875 : Int32) + ((2 : Int32) * i4)) fun v2 =>
      z_g (z_ix v2 1700) <|
      z_l (M.1 41 (Int32.toNatClampNeg v2)) fun v4 =>
      z_l (((875 : Int32) + ((2 : Int32) * i4)) + (1 : Int32)) fun v5 =>
      z_g (z_ix v5 1700) <|
      z_l (M.1 41 (Int32.toNatClampNeg v5)) fun v7 =>
      if (13 : Int32) ≤ v4 then (
        if v4 = (16 : Int32) then (
          z_l (i3 - (1 : Int32)) fun v22 =>
          z_g (z_ix v22 420) <|
          z_g (¬ v7 = 0) <|
          z_g (z_ix v22 420) <|
          z_l (z_w M 46 (Int32.toNatClampNeg v22) ((M.1 46 (Int32.toNatClampNeg v22)) / v7)) fun M26 =>
          z_l (i4 + (1 : Int32)) fun v27 =>
          f_X11_comesTo_5 n i2 i3 v27 M26
        ) else (
          if v4 = (20 : Int32) then (
            z_g (z_ix (i3 - (1 : Int32)) 420) <|
            z_g (z_ix (i3 - (1 : Int32)) 420) <|
            z_l (z_w M 46 (Int32.toNatClampNeg (i3 - (1 : Int32))) ((1 : Int32) - (M.1 46 (Int32.toNatClampNeg (i3 - (1 : Int32)))))) fun M20 =>
            z_l (i4 + (1 : Int32)) fun v21 =>
            f_X11_comesTo_5 n i2 i3 v21 M20
          ) else (
            z_l (i3 + (-1 : Int32)) fun v11 =>
            z_g (z_ix (v11 - (1 : Int32)) 420) <|
            z_g (z_ix v11 420) <|
            (f_X11_both v4 (M.1 46 (Int32.toNatClampNeg (v11 - (1 : Int32)))) (M.1 46 (Int32.toNatClampNeg v11)) M).bind fun x14 =>
            z_g (z_ix (v11 - (1 : Int32)) 420) <|
            z_l (z_w x14.2 46 (Int32.toNatClampNeg (v11 - (1 : Int32))) x14.1) fun M16 =>
            z_l (i4 + (1 : Int32)) fun v17 =>
            f_X11_comesTo_5 n i2 v11 v17 M16
          )
        )
      ) else (
        if v4 = 0 then (
          z_g (z_ix i3 420) <|
          z_l (z_w M 46 (Int32.toNatClampNeg i3) v7) fun M35 =>
          z_l (i3 + (1 : Int32)) fun v36 =>
          z_l (i4 + (1 : Int32)) fun v37 =>
          f_X11_comesTo_5 n i2 v36 v37 M35
        ) else (
          z_g (z_ix v4 9) <|
          z_g (z_ix i3 420) <|
          z_l (z_w M 46 (Int32.toNatClampNeg i3) (M.1 47 (Int32.toNatClampNeg v4))) fun M31 =>
          z_l (i3 + (1 : Int32)) fun v32 =>
          z_l (i4 + (1 : Int32)) fun v33 =>
          f_X11_comesTo_5 n i2 v32 v33 M31
        )
      )
    )
def f_X11_comesTo (i1 : Int32) (i2 : Int32) (M : zM) : Option (Int32 × zM) :=
  f_X11_comesTo_5 z_F i2 (0 : Int32) i1 M
set_option maxHeartbeats 4000000 in
set_option maxRecDepth 100000 in
theorem w_X11_comesTo_5 {G : zG} {p : Program} {l : Launch} {e : Env} {s : State} {m : MethodId} {args : Array Value} {below : List Frame} {meth : Method} {c : Code} (X : z_C G p s m args meth c cX11_comesTo 7 RX11 (some .int)) {r : Int32 × zM} : ∀ (n : Nat) (i2 : Int32) (i3 : Int32) (i4 : Int32) (M : zM) (H : Heap) (locs : List Loc) (ls : Array Slot), z_W G M H locs → lv_has ls 7 [(0, .ref (G.1 40)), (2, .int i2), (3, .int i3), (4, .int i4)] → f_X11_comesTo_5 n i2 i3 i4 M = some r → W p l e (z_rm 1) s m args below meth c H locs 0 0 (z_Q G below args s (some (.int r.1)) r.2) (F0 m 5 ls []) := by
  have hx := X.1
  have hb := X.2.1
  intro n
  induction n with
  | zero =>
    intro i2 i3 i4 M H locs ls  hw hl h
    exact z_no h
  | succ n ih =>
    intro i2 i3 i4 M H locs ls  hw hl h
    rw [f_X11_comesTo_5] at h
    refine lv_iload (pc := 5) hx hb dX11_comesTo_5 (lv_at hl 3 rfl) ?_
    refine lv_iload_n (pc := 7) hx hb dX11_comesTo_7 rfl (lv_at hl 1 rfl) ?_
    refine lv_icmp_ge (pc := 8) (tgt := 166) hx hb dX11_comesTo_8 (by decide) (fun c1 => ?_) (fun c1 => ?_)
    · replace h := z_t c1 h
      refine lv_aload_n (pc := 166) hx hb dX11_comesTo_166 rfl (lv_at hl 0 rfl) ?_
      refine zg_DrinkingRoofsModel_pile (pc := 167) X hw zw_fl_5_77 dX11_comesTo_167 ?_
      refine lv_iconst (pc := 170) (v := 0) hx hb dX11_comesTo_170 (by decide) ?_
      refine z_iald (pc := 171) X hw zk_46 zl_46 (z_il (by decide)) dX11_comesTo_171 ?_
      obtain rfl := Option.some.inj h
      exact z_ri (pc := 172) X hw dX11_comesTo_172
    · replace h := z_f c1 h
      refine lv_aload_n (pc := 11) hx hb dX11_comesTo_11 rfl (lv_at hl 0 rfl) ?_
      refine zg_DrinkingRoofsModel_w (pc := 12) X hw zw_fl_5_71 dX11_comesTo_12 ?_
      refine lv_sipush (pc := 15) (v := 875) hx hb dX11_comesTo_15 (by decide) ?_
      refine lv_iconst (pc := 18) (v := 2) hx hb dX11_comesTo_18 (by decide) ?_
      refine lv_iload (pc := 19) hx hb dX11_comesTo_19 (lv_at hl 3 rfl) ?_
      refine lv_imul (pc := 21) hx hb dX11_comesTo_21 ?_
      refine lv_iadd (pc := 22) hx hb dX11_comesTo_22 ?_
      obtain ⟨v2, ev2, h⟩ := z_lo h
      refine z_topi ev2 ?_
      obtain ⟨g3, h⟩ := z_gd h
      refine z_iald (pc := 23) X hw zk_41 zl_41 g3 dX11_comesTo_23 ?_
      obtain ⟨v4, ev4, h⟩ := z_lo h
      refine z_topi ev4 ?_
      refine lv_istore (pc := 24) (lv' := [(5, .int v4), (0, .ref (G.1 40)), (2, .int i2), (3, .int i3), (4, .int i4)]) hx hb dX11_comesTo_24 hl (by decide) rfl (fun ls hl => ?_)
      refine lv_aload_n (pc := 26) hx hb dX11_comesTo_26 rfl (lv_at hl 1 rfl) ?_
      refine zg_DrinkingRoofsModel_w (pc := 27) X hw zw_fl_5_71 dX11_comesTo_27 ?_
      refine lv_sipush (pc := 30) (v := 875) hx hb dX11_comesTo_30 (by decide) ?_
      refine lv_iconst (pc := 33) (v := 2) hx hb dX11_comesTo_33 (by decide) ?_
      refine lv_iload (pc := 34) hx hb dX11_comesTo_34 (lv_at hl 4 rfl) ?_
      refine lv_imul (pc := 36) hx hb dX11_comesTo_36 ?_
      refine lv_iadd (pc := 37) hx hb dX11_comesTo_37 ?_
      refine lv_iconst (pc := 38) (v := 1) hx hb dX11_comesTo_38 (by decide) ?_
      refine lv_iadd (pc := 39) hx hb dX11_comesTo_39 ?_
      obtain ⟨v5, ev5, h⟩ := z_lo h
      refine z_topi ev5 ?_
      obtain ⟨g6, h⟩ := z_gd h
      refine z_iald (pc := 40) X hw zk_41 zl_41 g6 dX11_comesTo_40 ?_
      obtain ⟨v7, ev7, h⟩ := z_lo h
      refine z_topi ev7 ?_
      refine lv_istore (pc := 41) (lv' := [(6, .int v7), (5, .int v4), (0, .ref (G.1 40)), (2, .int i2), (3, .int i3), (4, .int i4)]) hx hb dX11_comesTo_41 hl (by decide) rfl (fun ls hl => ?_)
      refine lv_iload (pc := 43) hx hb dX11_comesTo_43 (lv_at hl 1 rfl) ?_
      refine lv_bipush (pc := 45) (v := 13) hx hb dX11_comesTo_45 (by decide) ?_
      refine lv_icmp_ge (pc := 47) (tgt := 79) hx hb dX11_comesTo_47 (by decide) (fun c8 => ?_) (fun c8 => ?_)
      · replace h := z_t c8 h
        refine lv_iload (pc := 79) hx hb dX11_comesTo_79 (lv_at hl 1 rfl) ?_
        refine lv_bipush (pc := 81) (v := 16) hx hb dX11_comesTo_81 (by decide) ?_
        refine lv_icmp_ne (pc := 83) (tgt := 102) hx hb dX11_comesTo_83 (by decide) (fun c9 => ?_) (fun c9 => ?_)
        · replace h := z_f c9 h
          refine lv_iload (pc := 102) hx hb dX11_comesTo_102 (lv_at hl 1 rfl) ?_
          refine lv_bipush (pc := 104) (v := 20) hx hb dX11_comesTo_104 (by decide) ?_
          refine lv_icmp_ne (pc := 106) (tgt := 130) hx hb dX11_comesTo_106 (by decide) (fun c10 => ?_) (fun c10 => ?_)
          · replace h := z_f c10 h
            obtain ⟨v11, ev11, h⟩ := z_lo h
            refine lv_iinc (pc := 130) (v := v11) (lv' := [(3, .int v11), (6, .int v7), (5, .int v4), (0, .ref (G.1 40)), (2, .int i2), (4, .int i4)]) hx hb dX11_comesTo_130 hl (k := 4) rfl (by rw [ev11]; rfl) (by decide) rfl (fun ls hl => ?_)
            refine lv_aload_n (pc := 133) hx hb dX11_comesTo_133 rfl (lv_at hl 3 rfl) ?_
            refine zg_DrinkingRoofsModel_pile (pc := 134) X hw zw_fl_5_77 dX11_comesTo_134 ?_
            refine lv_iload_n (pc := 137) hx hb dX11_comesTo_137 rfl (lv_at hl 0 rfl) ?_
            refine lv_iconst (pc := 138) (v := 1) hx hb dX11_comesTo_138 (by decide) ?_
            refine lv_isub (pc := 139) hx hb dX11_comesTo_139 ?_
            refine lv_iload (pc := 140) hx hb dX11_comesTo_140 (lv_at hl 2 rfl) ?_
            refine lv_aload_n (pc := 142) hx hb dX11_comesTo_142 rfl (lv_at hl 3 rfl) ?_
            refine zg_DrinkingRoofsModel_pile (pc := 143) X hw zw_fl_5_77 dX11_comesTo_143 ?_
            refine lv_iload_n (pc := 146) hx hb dX11_comesTo_146 rfl (lv_at hl 0 rfl) ?_
            refine lv_iconst (pc := 147) (v := 1) hx hb dX11_comesTo_147 (by decide) ?_
            refine lv_isub (pc := 148) hx hb dX11_comesTo_148 ?_
            obtain ⟨g12, h⟩ := z_gd h
            refine z_iald (pc := 149) X hw zk_46 zl_46 g12 dX11_comesTo_149 ?_
            refine lv_aload_n (pc := 150) hx hb dX11_comesTo_150 rfl (lv_at hl 3 rfl) ?_
            refine zg_DrinkingRoofsModel_pile (pc := 151) X hw zw_fl_5_77 dX11_comesTo_151 ?_
            refine lv_iload_n (pc := 154) hx hb dX11_comesTo_154 rfl (lv_at hl 0 rfl) ?_
            obtain ⟨g13, h⟩ := z_gd h
            refine z_iald (pc := 155) X hw zk_46 zl_46 g13 dX11_comesTo_155 ?_
            obtain ⟨x14, ex14, h⟩ := z_bd h
            refine z_csI (pc := 156) (rest := [.int (v11 - (1 : Int32)), .ref (G.1 46)]) X hw (m_X11_both  ex14) zw_ml_6_151 zw_st_6_152 zw_in_1_12 zw_co_6_153 zd_X11_both (by decide) rfl hl.1 rfl (Nat.le_of_ble_eq_true rfl) dX11_comesTo_156 ⟨Nat.zero_le _, Nat.zero_le _⟩ (fun Hx14 lx14 wx14 => ?_)
            obtain ⟨g15, h⟩ := z_gd h
            refine z_iast (pc := 159) X wx14 zk_46 zl_46 g15 dX11_comesTo_159 (fun HM16 lM16 wM16 => ?_)
            obtain ⟨M16, eM16, h⟩ := z_lo h
            rw [← eM16] at wM16
            obtain ⟨v17, ev17, h⟩ := z_lo h
            refine lv_iinc (pc := 160) (v := v17) (lv' := [(4, .int v17), (3, .int v11), (6, .int v7), (5, .int v4), (0, .ref (G.1 40)), (2, .int i2)]) hx hb dX11_comesTo_160 hl (k := 5) rfl (by rw [ev17]; rfl) (by decide) rfl (fun ls hl => ?_)
            refine lv_goto (pc := 163) (tgt := 5) hx hb dX11_comesTo_163 (by decide) ?_
            exact ih i2 v11 v17 M16 HM16 lM16 ls  wM16 (lv_sub hl [4, 5, 1, 0] rfl) h
          · replace h := z_t c10 h
            refine lv_aload_n (pc := 109) hx hb dX11_comesTo_109 rfl (lv_at hl 2 rfl) ?_
            refine zg_DrinkingRoofsModel_pile (pc := 110) X hw zw_fl_5_77 dX11_comesTo_110 ?_
            refine lv_iload_n (pc := 113) hx hb dX11_comesTo_113 rfl (lv_at hl 4 rfl) ?_
            refine lv_iconst (pc := 114) (v := 1) hx hb dX11_comesTo_114 (by decide) ?_
            refine lv_isub (pc := 115) hx hb dX11_comesTo_115 ?_
            refine lv_iconst (pc := 116) (v := 1) hx hb dX11_comesTo_116 (by decide) ?_
            refine lv_aload_n (pc := 117) hx hb dX11_comesTo_117 rfl (lv_at hl 2 rfl) ?_
            refine zg_DrinkingRoofsModel_pile (pc := 118) X hw zw_fl_5_77 dX11_comesTo_118 ?_
            refine lv_iload_n (pc := 121) hx hb dX11_comesTo_121 rfl (lv_at hl 4 rfl) ?_
            refine lv_iconst (pc := 122) (v := 1) hx hb dX11_comesTo_122 (by decide) ?_
            refine lv_isub (pc := 123) hx hb dX11_comesTo_123 ?_
            obtain ⟨g18, h⟩ := z_gd h
            refine z_iald (pc := 124) X hw zk_46 zl_46 g18 dX11_comesTo_124 ?_
            refine lv_isub (pc := 125) hx hb dX11_comesTo_125 ?_
            obtain ⟨g19, h⟩ := z_gd h
            refine z_iast (pc := 126) X hw zk_46 zl_46 g19 dX11_comesTo_126 (fun HM20 lM20 wM20 => ?_)
            obtain ⟨M20, eM20, h⟩ := z_lo h
            rw [← eM20] at wM20
            refine lv_goto (pc := 127) (tgt := 160) hx hb dX11_comesTo_127 (by decide) ?_
            obtain ⟨v21, ev21, h⟩ := z_lo h
            refine lv_iinc (pc := 160) (v := v21) (lv' := [(4, .int v21), (6, .int v7), (5, .int v4), (0, .ref (G.1 40)), (2, .int i2), (3, .int i3)]) hx hb dX11_comesTo_160 hl (k := 5) rfl (by rw [ev21]; rfl) (by decide) rfl (fun ls hl => ?_)
            refine lv_goto (pc := 163) (tgt := 5) hx hb dX11_comesTo_163 (by decide) ?_
            exact ih i2 i3 v21 M20 HM20 lM20 ls  wM20 (lv_sub hl [3, 4, 5, 0] rfl) h
        · replace h := z_t c9 h
          refine lv_aload_n (pc := 86) hx hb dX11_comesTo_86 rfl (lv_at hl 2 rfl) ?_
          refine zg_DrinkingRoofsModel_pile (pc := 87) X hw zw_fl_5_77 dX11_comesTo_87 ?_
          refine lv_iload_n (pc := 90) hx hb dX11_comesTo_90 rfl (lv_at hl 4 rfl) ?_
          refine lv_iconst (pc := 91) (v := 1) hx hb dX11_comesTo_91 (by decide) ?_
          refine lv_isub (pc := 92) hx hb dX11_comesTo_92 ?_
          obtain ⟨v22, ev22, h⟩ := z_lo h
          refine z_topi ev22 ?_
          refine lv_dup2_11 (pc := 93) hx hb dX11_comesTo_93 rfl rfl ?_
          obtain ⟨g23, h⟩ := z_gd h
          refine z_iald (pc := 94) X hw zk_46 zl_46 g23 dX11_comesTo_94 ?_
          refine lv_iload (pc := 95) hx hb dX11_comesTo_95 (lv_at hl 0 rfl) ?_
          obtain ⟨g24, h⟩ := z_gd h
          refine lv_idiv (pc := 97) hx hb dX11_comesTo_97 g24 ?_
          obtain ⟨g25, h⟩ := z_gd h
          refine z_iast (pc := 98) X hw zk_46 zl_46 g25 dX11_comesTo_98 (fun HM26 lM26 wM26 => ?_)
          obtain ⟨M26, eM26, h⟩ := z_lo h
          rw [← eM26] at wM26
          refine lv_goto (pc := 99) (tgt := 160) hx hb dX11_comesTo_99 (by decide) ?_
          obtain ⟨v27, ev27, h⟩ := z_lo h
          refine lv_iinc (pc := 160) (v := v27) (lv' := [(4, .int v27), (6, .int v7), (5, .int v4), (0, .ref (G.1 40)), (2, .int i2), (3, .int i3)]) hx hb dX11_comesTo_160 hl (k := 5) rfl (by rw [ev27]; rfl) (by decide) rfl (fun ls hl => ?_)
          refine lv_goto (pc := 163) (tgt := 5) hx hb dX11_comesTo_163 (by decide) ?_
          exact ih i2 i3 v27 M26 HM26 lM26 ls  wM26 (lv_sub hl [3, 4, 5, 0] rfl) h
      · replace h := z_f c8 h
        refine lv_aload_n (pc := 50) hx hb dX11_comesTo_50 rfl (lv_at hl 2 rfl) ?_
        refine zg_DrinkingRoofsModel_pile (pc := 51) X hw zw_fl_5_77 dX11_comesTo_51 ?_
        refine lv_iload_n (pc := 54) hx hb dX11_comesTo_54 rfl (lv_at hl 4 rfl) ?_
        refine lv_iload (pc := 55) hx hb dX11_comesTo_55 (lv_at hl 1 rfl) ?_
        refine lv_if_ne (pc := 57) (tgt := 65) hx hb dX11_comesTo_57 (by decide) (fun c28 => ?_) (fun c28 => ?_)
        · replace h := z_f c28 h
          refine lv_aload_n (pc := 65) hx hb dX11_comesTo_65 rfl (lv_at hl 2 rfl) ?_
          refine zg_DrinkingRoofsModel_facts (pc := 66) X hw zw_fl_5_78 dX11_comesTo_66 ?_
          refine lv_iload (pc := 69) hx hb dX11_comesTo_69 (lv_at hl 1 rfl) ?_
          obtain ⟨g29, h⟩ := z_gd h
          refine z_iald (pc := 71) X hw zk_47 zl_47 g29 dX11_comesTo_71 ?_
          obtain ⟨g30, h⟩ := z_gd h
          refine z_iast (pc := 72) X hw zk_46 zl_46 g30 dX11_comesTo_72 (fun HM31 lM31 wM31 => ?_)
          obtain ⟨M31, eM31, h⟩ := z_lo h
          rw [← eM31] at wM31
          obtain ⟨v32, ev32, h⟩ := z_lo h
          refine lv_iinc (pc := 73) (v := v32) (lv' := [(3, .int v32), (6, .int v7), (5, .int v4), (0, .ref (G.1 40)), (2, .int i2), (4, .int i4)]) hx hb dX11_comesTo_73 hl (k := 4) rfl (by rw [ev32]; rfl) (by decide) rfl (fun ls hl => ?_)
          refine lv_goto (pc := 76) (tgt := 160) hx hb dX11_comesTo_76 (by decide) ?_
          obtain ⟨v33, ev33, h⟩ := z_lo h
          refine lv_iinc (pc := 160) (v := v33) (lv' := [(4, .int v33), (3, .int v32), (6, .int v7), (5, .int v4), (0, .ref (G.1 40)), (2, .int i2)]) hx hb dX11_comesTo_160 hl (k := 5) rfl (by rw [ev33]; rfl) (by decide) rfl (fun ls hl => ?_)
          refine lv_goto (pc := 163) (tgt := 5) hx hb dX11_comesTo_163 (by decide) ?_
          exact ih i2 v32 v33 M31 HM31 lM31 ls  wM31 (lv_sub hl [4, 5, 1, 0] rfl) h
        · replace h := z_t c28 h
          refine lv_iload (pc := 60) hx hb dX11_comesTo_60 (lv_at hl 0 rfl) ?_
          refine lv_goto (pc := 62) (tgt := 72) hx hb dX11_comesTo_62 (by decide) ?_
          obtain ⟨g34, h⟩ := z_gd h
          refine z_iast (pc := 72) X hw zk_46 zl_46 g34 dX11_comesTo_72 (fun HM35 lM35 wM35 => ?_)
          obtain ⟨M35, eM35, h⟩ := z_lo h
          rw [← eM35] at wM35
          obtain ⟨v36, ev36, h⟩ := z_lo h
          refine lv_iinc (pc := 73) (v := v36) (lv' := [(3, .int v36), (6, .int v7), (5, .int v4), (0, .ref (G.1 40)), (2, .int i2), (4, .int i4)]) hx hb dX11_comesTo_73 hl (k := 4) rfl (by rw [ev36]; rfl) (by decide) rfl (fun ls hl => ?_)
          refine lv_goto (pc := 76) (tgt := 160) hx hb dX11_comesTo_76 (by decide) ?_
          obtain ⟨v37, ev37, h⟩ := z_lo h
          refine lv_iinc (pc := 160) (v := v37) (lv' := [(4, .int v37), (3, .int v36), (6, .int v7), (5, .int v4), (0, .ref (G.1 40)), (2, .int i2)]) hx hb dX11_comesTo_160 hl (k := 5) rfl (by rw [ev37]; rfl) (by decide) rfl (fun ls hl => ?_)
          refine lv_goto (pc := 163) (tgt := 5) hx hb dX11_comesTo_163 (by decide) ?_
          exact ih i2 v36 v37 M35 HM35 lM35 ls  wM35 (lv_sub hl [4, 5, 1, 0] rfl) h
set_option maxHeartbeats 4000000 in
set_option maxRecDepth 100000 in
theorem m_X11_comesTo {l : Launch} {G : zG} {i1 : Int32} {i2 : Int32} {M : zM} {r : Int32 × zM} (h : f_X11_comesTo i1 i2 M = some r) : z_T l G 1 yX11_comesTo (.code yX11_comesTo cX11_comesTo 7 (some .int)) [.ref (G.1 40), .int i1, .int i2] M (some (.int r.1)) r.2 := by
  refine z_of rfl ?_
  intro p e s m below meth c X hw
  have hl := lv_entry [.ref (G.1 40), .int i1, .int i2] (n := 7) (Nat.le_of_ble_eq_true rfl)
  rw [lg_entry_eq]
  generalize (lg_sl [.ref (G.1 40), .int i1, .int i2] ++ List.replicate (7 - (lg_sl [.ref (G.1 40), .int i1, .int i2]).length) Slot.unset).toArray = ls at hl ⊢
  have hl : lv_has ls 7 [(0, .ref (G.1 40)), (1, .int i1), (2, .int i2)] := hl
  generalize ([.ref (G.1 40), .int i1, .int i2] : List Value).toArray = args at X ⊢
  have X : z_C G p s m args meth c cX11_comesTo 7 RX11 (some .int) := X
  have hx := X.1
  have hb := X.2.1
  unfold f_X11_comesTo at h
  refine lv_iconst (pc := 0) (v := 0) hx hb dX11_comesTo_0 (by decide) ?_
  refine lv_istore_n (pc := 1) (lv' := [(3, .int (0 : Int32)), (0, .ref (G.1 40)), (1, .int i1), (2, .int i2)]) hx hb dX11_comesTo_1 rfl hl (by decide) rfl (fun ls hl => ?_)
  refine lv_iload_n (pc := 2) hx hb dX11_comesTo_2 rfl (lv_at hl 2 rfl) ?_
  refine lv_istore (pc := 3) (lv' := [(4, .int i1), (3, .int (0 : Int32)), (0, .ref (G.1 40)), (1, .int i1), (2, .int i2)]) hx hb dX11_comesTo_3 hl (by decide) rfl (fun ls hl => ?_)
  exact w_X11_comesTo_5 X z_F i2 (0 : Int32) i1 M s.heap [] ls  hw (lv_sub hl [2, 4, 1, 0] rfl) h
def f_X11_laysHouses_12 : Nat → Int32 → zM → Option (zM)
  | 0, _, _ => none
  | n + 1, i1, M =>
    if (M.1 40 30) ≤ i1 then (
      some M
    ) else (
      (f_X11_own i1 (0 : Int32) M).bind fun x2 =>
      z_g (z_ix i1 11) <|
      z_l (z_w x2.2 48 (Int32.toNatClampNeg i1) x2.1) fun M4 =>
      (f_X11_own i1 (1 : Int32) M4).bind fun x5 =>
      z_g (z_ix i1 11) <|
      z_l (z_w x5.2 49 (Int32.toNatClampNeg i1) x5.1) fun M7 =>
      (f_X11_own i1 (4 : Int32) M7).bind fun x8 =>
      z_g (z_ix i1 11) <|
      z_l (z_w x8.2 50 (Int32.toNatClampNeg i1) x8.1) fun M10 =>
      (f_X11_own i1 (5 : Int32) M10).bind fun x11 =>
      z_g (z_ix i1 11) <|
      z_l (z_w x11.2 51 (Int32.toNatClampNeg i1) x11.1) fun M13 =>
      (f_X11_own i1 (6 : Int32) M13).bind fun x14 =>
      z_g (z_ix i1 11) <|
      z_l (z_w x14.2 52 (Int32.toNatClampNeg i1) x14.1) fun M16 =>
      (f_X11_own i1 (7 : Int32) M16).bind fun x17 =>
      z_g (z_ix i1 11) <|
      z_l (z_w x17.2 53 (Int32.toNatClampNeg i1) x17.1) fun M19 =>
      (f_X11_own i1 (8 : Int32) M19).bind fun x20 =>
      z_g (z_ix i1 11) <|
      z_l (z_w x20.2 54 (Int32.toNatClampNeg i1) x20.1) fun M22 =>
      (f_X11_own i1 (9 : Int32) M22).bind fun x23 =>
      z_g (z_ix i1 11) <|
      z_l (z_w x23.2 55 (Int32.toNatClampNeg i1) x23.1) fun M25 =>
      z_l (i1 + (1 : Int32)) fun v26 =>
      f_X11_laysHouses_12 n v26 M25
    )
def f_X11_laysHouses  (M : zM) : Option (zM) :=
  z_l (z_w M 40 30 (M.1 41 (Int32.toNatClampNeg (0 : Int32)))) fun M1 =>
  f_X11_laysHouses_12 z_F (0 : Int32) M1
set_option maxHeartbeats 4000000 in
set_option maxRecDepth 100000 in
theorem w_X11_laysHouses_12 {G : zG} {p : Program} {l : Launch} {e : Env} {s : State} {m : MethodId} {args : Array Value} {below : List Frame} {meth : Method} {c : Code} (X : z_C G p s m args meth c cX11_laysHouses 2 RX11 none) {r : zM} : ∀ (n : Nat) (i1 : Int32) (M : zM) (H : Heap) (locs : List Loc) (ls : Array Slot), z_W G M H locs → lv_has ls 2 [(0, .ref (G.1 40)), (1, .int i1)] → f_X11_laysHouses_12 n i1 M = some r → W p l e (z_rm 1) s m args below meth c H locs 0 0 (z_Q G below args s none r) (F0 m 12 ls []) := by
  have hx := X.1
  have hb := X.2.1
  intro n
  induction n with
  | zero =>
    intro i1 M H locs ls  hw hl h
    exact z_no h
  | succ n ih =>
    intro i1 M H locs ls  hw hl h
    rw [f_X11_laysHouses_12] at h
    refine lv_iload_n (pc := 12) hx hb dX11_laysHouses_12 rfl (lv_at hl 1 rfl) ?_
    refine lv_aload_n (pc := 13) hx hb dX11_laysHouses_13 rfl (lv_at hl 0 rfl) ?_
    refine zg_DrinkingRoofsModel_many (pc := 14) X hw zw_fl_5_101 dX11_laysHouses_14 ?_
    refine lv_icmp_ge (pc := 17) (tgt := 126) hx hb dX11_laysHouses_17 (by decide) (fun c1 => ?_) (fun c1 => ?_)
    · replace h := z_t c1 h
      obtain rfl := Option.some.inj h
      exact z_rv (pc := 126) X hw dX11_laysHouses_126
    · replace h := z_f c1 h
      refine lv_aload_n (pc := 20) hx hb dX11_laysHouses_20 rfl (lv_at hl 0 rfl) ?_
      refine zg_DrinkingRoofsModel_area (pc := 21) X hw zw_fl_5_91 dX11_laysHouses_21 ?_
      refine lv_iload_n (pc := 24) hx hb dX11_laysHouses_24 rfl (lv_at hl 1 rfl) ?_
      refine lv_aload_n (pc := 25) hx hb dX11_laysHouses_25 rfl (lv_at hl 0 rfl) ?_
      refine lv_iload_n (pc := 26) hx hb dX11_laysHouses_26 rfl (lv_at hl 1 rfl) ?_
      refine lv_iconst (pc := 27) (v := 0) hx hb dX11_laysHouses_27 (by decide) ?_
      obtain ⟨x2, ex2, h⟩ := z_bd h
      refine z_cvI (pc := 28) (rest := [.int i1, .ref (G.1 48)]) X hw (m_X11_own  ex2) (z_lt zk_40 (by decide)) (z_E11 zk_40) rfl zw_ml_6_113 zw_im_6_115 zw_se_S_56 zw_in_1_12 zw_co_6_116 zd_X11_own (by decide) rfl hl.1 rfl (Nat.le_of_ble_eq_true rfl) dX11_laysHouses_28 ⟨Nat.zero_le _, Nat.zero_le _⟩ (fun Hx2 lx2 wx2 => ?_)
      obtain ⟨g3, h⟩ := z_gd h
      refine z_iast (pc := 31) X wx2 zk_48 zl_48 g3 dX11_laysHouses_31 (fun HM4 lM4 wM4 => ?_)
      obtain ⟨M4, eM4, h⟩ := z_lo h
      rw [← eM4] at wM4
      refine lv_aload_n (pc := 32) hx hb dX11_laysHouses_32 rfl (lv_at hl 0 rfl) ?_
      refine zg_DrinkingRoofsModel_carries (pc := 33) X wM4 zw_fl_5_92 dX11_laysHouses_33 ?_
      refine lv_iload_n (pc := 36) hx hb dX11_laysHouses_36 rfl (lv_at hl 1 rfl) ?_
      refine lv_aload_n (pc := 37) hx hb dX11_laysHouses_37 rfl (lv_at hl 0 rfl) ?_
      refine lv_iload_n (pc := 38) hx hb dX11_laysHouses_38 rfl (lv_at hl 1 rfl) ?_
      refine lv_iconst (pc := 39) (v := 1) hx hb dX11_laysHouses_39 (by decide) ?_
      obtain ⟨x5, ex5, h⟩ := z_bd h
      refine z_cvI (pc := 40) (rest := [.int i1, .ref (G.1 49)]) X wM4 (m_X11_own  ex5) (z_lt zk_40 (by decide)) (z_E11 zk_40) rfl zw_ml_6_113 zw_im_6_115 zw_se_S_56 zw_in_1_12 zw_co_6_116 zd_X11_own (by decide) rfl hl.1 rfl (Nat.le_of_ble_eq_true rfl) dX11_laysHouses_40 ⟨Nat.zero_le _, Nat.zero_le _⟩ (fun Hx5 lx5 wx5 => ?_)
      obtain ⟨g6, h⟩ := z_gd h
      refine z_iast (pc := 43) X wx5 zk_49 zl_49 g6 dX11_laysHouses_43 (fun HM7 lM7 wM7 => ?_)
      obtain ⟨M7, eM7, h⟩ := z_lo h
      rw [← eM7] at wM7
      refine lv_aload_n (pc := 44) hx hb dX11_laysHouses_44 rfl (lv_at hl 0 rfl) ?_
      refine zg_DrinkingRoofsModel_next (pc := 45) X wM7 zw_fl_5_93 dX11_laysHouses_45 ?_
      refine lv_iload_n (pc := 48) hx hb dX11_laysHouses_48 rfl (lv_at hl 1 rfl) ?_
      refine lv_aload_n (pc := 49) hx hb dX11_laysHouses_49 rfl (lv_at hl 0 rfl) ?_
      refine lv_iload_n (pc := 50) hx hb dX11_laysHouses_50 rfl (lv_at hl 1 rfl) ?_
      refine lv_iconst (pc := 51) (v := 4) hx hb dX11_laysHouses_51 (by decide) ?_
      obtain ⟨x8, ex8, h⟩ := z_bd h
      refine z_cvI (pc := 52) (rest := [.int i1, .ref (G.1 50)]) X wM7 (m_X11_own  ex8) (z_lt zk_40 (by decide)) (z_E11 zk_40) rfl zw_ml_6_113 zw_im_6_115 zw_se_S_56 zw_in_1_12 zw_co_6_116 zd_X11_own (by decide) rfl hl.1 rfl (Nat.le_of_ble_eq_true rfl) dX11_laysHouses_52 ⟨Nat.zero_le _, Nat.zero_le _⟩ (fun Hx8 lx8 wx8 => ?_)
      obtain ⟨g9, h⟩ := z_gd h
      refine z_iast (pc := 55) X wx8 zk_50 zl_50 g9 dX11_laysHouses_55 (fun HM10 lM10 wM10 => ?_)
      obtain ⟨M10, eM10, h⟩ := z_lo h
      rw [← eM10] at wM10
      refine lv_aload_n (pc := 56) hx hb dX11_laysHouses_56 rfl (lv_at hl 0 rfl) ?_
      refine zg_DrinkingRoofsModel_clog (pc := 57) X wM10 zw_fl_5_94 dX11_laysHouses_57 ?_
      refine lv_iload_n (pc := 60) hx hb dX11_laysHouses_60 rfl (lv_at hl 1 rfl) ?_
      refine lv_aload_n (pc := 61) hx hb dX11_laysHouses_61 rfl (lv_at hl 0 rfl) ?_
      refine lv_iload_n (pc := 62) hx hb dX11_laysHouses_62 rfl (lv_at hl 1 rfl) ?_
      refine lv_iconst (pc := 63) (v := 5) hx hb dX11_laysHouses_63 (by decide) ?_
      obtain ⟨x11, ex11, h⟩ := z_bd h
      refine z_cvI (pc := 64) (rest := [.int i1, .ref (G.1 51)]) X wM10 (m_X11_own  ex11) (z_lt zk_40 (by decide)) (z_E11 zk_40) rfl zw_ml_6_113 zw_im_6_115 zw_se_S_56 zw_in_1_12 zw_co_6_116 zd_X11_own (by decide) rfl hl.1 rfl (Nat.le_of_ble_eq_true rfl) dX11_laysHouses_64 ⟨Nat.zero_le _, Nat.zero_le _⟩ (fun Hx11 lx11 wx11 => ?_)
      obtain ⟨g12, h⟩ := z_gd h
      refine z_iast (pc := 67) X wx11 zk_51 zl_51 g12 dX11_laysHouses_67 (fun HM13 lM13 wM13 => ?_)
      obtain ⟨M13, eM13, h⟩ := z_lo h
      rw [← eM13] at wM13
      refine lv_aload_n (pc := 68) hx hb dX11_laysHouses_68 rfl (lv_at hl 0 rfl) ?_
      refine zg_DrinkingRoofsModel_barrel (pc := 69) X wM13 zw_fl_5_95 dX11_laysHouses_69 ?_
      refine lv_iload_n (pc := 72) hx hb dX11_laysHouses_72 rfl (lv_at hl 1 rfl) ?_
      refine lv_aload_n (pc := 73) hx hb dX11_laysHouses_73 rfl (lv_at hl 0 rfl) ?_
      refine lv_iload_n (pc := 74) hx hb dX11_laysHouses_74 rfl (lv_at hl 1 rfl) ?_
      refine lv_bipush (pc := 75) (v := 6) hx hb dX11_laysHouses_75 (by decide) ?_
      obtain ⟨x14, ex14, h⟩ := z_bd h
      refine z_cvI (pc := 77) (rest := [.int i1, .ref (G.1 52)]) X wM13 (m_X11_own  ex14) (z_lt zk_40 (by decide)) (z_E11 zk_40) rfl zw_ml_6_113 zw_im_6_115 zw_se_S_56 zw_in_1_12 zw_co_6_116 zd_X11_own (by decide) rfl hl.1 rfl (Nat.le_of_ble_eq_true rfl) dX11_laysHouses_77 ⟨Nat.zero_le _, Nat.zero_le _⟩ (fun Hx14 lx14 wx14 => ?_)
      obtain ⟨g15, h⟩ := z_gd h
      refine z_iast (pc := 80) X wx14 zk_52 zl_52 g15 dX11_laysHouses_80 (fun HM16 lM16 wM16 => ?_)
      obtain ⟨M16, eM16, h⟩ := z_lo h
      rw [← eM16] at wM16
      refine lv_aload_n (pc := 81) hx hb dX11_laysHouses_81 rfl (lv_at hl 0 rfl) ?_
      refine zg_DrinkingRoofsModel_lets (pc := 82) X wM16 zw_fl_5_96 dX11_laysHouses_82 ?_
      refine lv_iload_n (pc := 85) hx hb dX11_laysHouses_85 rfl (lv_at hl 1 rfl) ?_
      refine lv_aload_n (pc := 86) hx hb dX11_laysHouses_86 rfl (lv_at hl 0 rfl) ?_
      refine lv_iload_n (pc := 87) hx hb dX11_laysHouses_87 rfl (lv_at hl 1 rfl) ?_
      refine lv_bipush (pc := 88) (v := 7) hx hb dX11_laysHouses_88 (by decide) ?_
      obtain ⟨x17, ex17, h⟩ := z_bd h
      refine z_cvI (pc := 90) (rest := [.int i1, .ref (G.1 53)]) X wM16 (m_X11_own  ex17) (z_lt zk_40 (by decide)) (z_E11 zk_40) rfl zw_ml_6_113 zw_im_6_115 zw_se_S_56 zw_in_1_12 zw_co_6_116 zd_X11_own (by decide) rfl hl.1 rfl (Nat.le_of_ble_eq_true rfl) dX11_laysHouses_90 ⟨Nat.zero_le _, Nat.zero_le _⟩ (fun Hx17 lx17 wx17 => ?_)
      obtain ⟨g18, h⟩ := z_gd h
      refine z_iast (pc := 93) X wx17 zk_53 zl_53 g18 dX11_laysHouses_93 (fun HM19 lM19 wM19 => ?_)
      obtain ⟨M19, eM19, h⟩ := z_lo h
      rw [← eM19] at wM19
      refine lv_aload_n (pc := 94) hx hb dX11_laysHouses_94 rfl (lv_at hl 0 rfl) ?_
      refine zg_DrinkingRoofsModel_held (pc := 95) X wM19 zw_fl_5_97 dX11_laysHouses_95 ?_
      refine lv_iload_n (pc := 98) hx hb dX11_laysHouses_98 rfl (lv_at hl 1 rfl) ?_
      refine lv_aload_n (pc := 99) hx hb dX11_laysHouses_99 rfl (lv_at hl 0 rfl) ?_
      refine lv_iload_n (pc := 100) hx hb dX11_laysHouses_100 rfl (lv_at hl 1 rfl) ?_
      refine lv_bipush (pc := 101) (v := 8) hx hb dX11_laysHouses_101 (by decide) ?_
      obtain ⟨x20, ex20, h⟩ := z_bd h
      refine z_cvI (pc := 103) (rest := [.int i1, .ref (G.1 54)]) X wM19 (m_X11_own  ex20) (z_lt zk_40 (by decide)) (z_E11 zk_40) rfl zw_ml_6_113 zw_im_6_115 zw_se_S_56 zw_in_1_12 zw_co_6_116 zd_X11_own (by decide) rfl hl.1 rfl (Nat.le_of_ble_eq_true rfl) dX11_laysHouses_103 ⟨Nat.zero_le _, Nat.zero_le _⟩ (fun Hx20 lx20 wx20 => ?_)
      obtain ⟨g21, h⟩ := z_gd h
      refine z_iast (pc := 106) X wx20 zk_54 zl_54 g21 dX11_laysHouses_106 (fun HM22 lM22 wM22 => ?_)
      obtain ⟨M22, eM22, h⟩ := z_lo h
      rw [← eM22] at wM22
      refine lv_aload_n (pc := 107) hx hb dX11_laysHouses_107 rfl (lv_at hl 0 rfl) ?_
      refine zg_DrinkingRoofsModel_snow (pc := 108) X wM22 zw_fl_5_98 dX11_laysHouses_108 ?_
      refine lv_iload_n (pc := 111) hx hb dX11_laysHouses_111 rfl (lv_at hl 1 rfl) ?_
      refine lv_aload_n (pc := 112) hx hb dX11_laysHouses_112 rfl (lv_at hl 0 rfl) ?_
      refine lv_iload_n (pc := 113) hx hb dX11_laysHouses_113 rfl (lv_at hl 1 rfl) ?_
      refine lv_bipush (pc := 114) (v := 9) hx hb dX11_laysHouses_114 (by decide) ?_
      obtain ⟨x23, ex23, h⟩ := z_bd h
      refine z_cvI (pc := 116) (rest := [.int i1, .ref (G.1 55)]) X wM22 (m_X11_own  ex23) (z_lt zk_40 (by decide)) (z_E11 zk_40) rfl zw_ml_6_113 zw_im_6_115 zw_se_S_56 zw_in_1_12 zw_co_6_116 zd_X11_own (by decide) rfl hl.1 rfl (Nat.le_of_ble_eq_true rfl) dX11_laysHouses_116 ⟨Nat.zero_le _, Nat.zero_le _⟩ (fun Hx23 lx23 wx23 => ?_)
      obtain ⟨g24, h⟩ := z_gd h
      refine z_iast (pc := 119) X wx23 zk_55 zl_55 g24 dX11_laysHouses_119 (fun HM25 lM25 wM25 => ?_)
      obtain ⟨M25, eM25, h⟩ := z_lo h
      rw [← eM25] at wM25
      obtain ⟨v26, ev26, h⟩ := z_lo h
      refine lv_iinc (pc := 120) (v := v26) (lv' := [(1, .int v26), (0, .ref (G.1 40))]) hx hb dX11_laysHouses_120 hl (k := 1) rfl (by rw [ev26]; rfl) (by decide) rfl (fun ls hl => ?_)
      refine lv_goto (pc := 123) (tgt := 12) hx hb dX11_laysHouses_123 (by decide) ?_
      exact ih v26 M25 HM25 lM25 ls  wM25 (lv_sub hl [1, 0] rfl) h
set_option maxHeartbeats 4000000 in
set_option maxRecDepth 100000 in
theorem m_X11_laysHouses {l : Launch} {G : zG} {M : zM} {r : zM} (h : f_X11_laysHouses  M = some r) : z_T l G 1 yX11_laysHouses (.code yX11_laysHouses cX11_laysHouses 2 none) [.ref (G.1 40)] M none r := by
  refine z_of rfl ?_
  intro p e s m below meth c X hw
  have hl := lv_entry [.ref (G.1 40)] (n := 2) (Nat.le_of_ble_eq_true rfl)
  rw [lg_entry_eq]
  generalize (lg_sl [.ref (G.1 40)] ++ List.replicate (2 - (lg_sl [.ref (G.1 40)]).length) Slot.unset).toArray = ls at hl ⊢
  have hl : lv_has ls 2 [(0, .ref (G.1 40))] := hl
  generalize ([.ref (G.1 40)] : List Value).toArray = args at X ⊢
  have X : z_C G p s m args meth c cX11_laysHouses 2 RX11 none := X
  have hx := X.1
  have hb := X.2.1
  unfold f_X11_laysHouses at h
  refine lv_aload_n (pc := 0) hx hb dX11_laysHouses_0 rfl (lv_at hl 0 rfl) ?_
  refine lv_aload_n (pc := 1) hx hb dX11_laysHouses_1 rfl (lv_at hl 0 rfl) ?_
  refine zg_DrinkingRoofsModel_w (pc := 2) X hw zw_fl_5_71 dX11_laysHouses_2 ?_
  refine lv_iconst (pc := 5) (v := 0) hx hb dX11_laysHouses_5 (by decide) ?_
  refine z_iald (pc := 6) X hw zk_41 zl_41 (z_il (by decide)) dX11_laysHouses_6 ?_
  refine zp_DrinkingRoofsModel_many (pc := 7) X hw zw_fl_5_101 dX11_laysHouses_7 (fun HM1 lM1 wM1 => ?_)
  obtain ⟨M1, eM1, h⟩ := z_lo h
  rw [← eM1] at wM1
  refine lv_iconst (pc := 10) (v := 0) hx hb dX11_laysHouses_10 (by decide) ?_
  refine lv_istore_n (pc := 11) (lv' := [(1, .int (0 : Int32)), (0, .ref (G.1 40))]) hx hb dX11_laysHouses_11 rfl hl (by decide) rfl (fun ls hl => ?_)
  exact w_X11_laysHouses_12 X z_F (0 : Int32) M1 HM1 lM1 ls  wM1 (lv_sub hl [1, 0] rfl) h
def f_X11_writes (i1 : Int32) (i2 : Int32) (i3 : Int32) (i4 : Int32) (M : zM) : Option (zM) :=
  z_l ((440 : Int32) + ((3 : Int32) * (((12 : Int32) * i1) + i2))) fun v1 =>
  z_g (z_ix v1 1700) <|
  z_l (z_w M 41 (Int32.toNatClampNeg v1) i3) fun M3 =>
  z_g (z_ix (v1 + (1 : Int32)) 1700) <|
  z_l (z_w M3 41 (Int32.toNatClampNeg (v1 + (1 : Int32))) i4) fun M5 =>
  z_g (z_ix (v1 + (2 : Int32)) 1700) <|
  z_l (z_w M5 41 (Int32.toNatClampNeg (v1 + (2 : Int32))) (i3 - i4)) fun M7 =>
  some M7
set_option maxHeartbeats 4000000 in
set_option maxRecDepth 100000 in
theorem m_X11_writes {l : Launch} {G : zG} {i1 : Int32} {i2 : Int32} {i3 : Int32} {i4 : Int32} {M : zM} {r : zM} (h : f_X11_writes i1 i2 i3 i4 M = some r) : z_T l G 0 yX11_writes (.code yX11_writes cX11_writes 6 none) [.ref (G.1 40), .int i1, .int i2, .int i3, .int i4] M none r := by
  refine z_of rfl ?_
  intro p e s m below meth c X hw
  have hl := lv_entry [.ref (G.1 40), .int i1, .int i2, .int i3, .int i4] (n := 6) (Nat.le_of_ble_eq_true rfl)
  rw [lg_entry_eq]
  generalize (lg_sl [.ref (G.1 40), .int i1, .int i2, .int i3, .int i4] ++ List.replicate (6 - (lg_sl [.ref (G.1 40), .int i1, .int i2, .int i3, .int i4]).length) Slot.unset).toArray = ls at hl ⊢
  have hl : lv_has ls 6 [(0, .ref (G.1 40)), (1, .int i1), (2, .int i2), (3, .int i3), (4, .int i4)] := hl
  generalize ([.ref (G.1 40), .int i1, .int i2, .int i3, .int i4] : List Value).toArray = args at X ⊢
  have X : z_C G p s m args meth c cX11_writes 6 RX11 none := X
  have hx := X.1
  have hb := X.2.1
  unfold f_X11_writes at h
  refine lv_sipush (pc := 0) (v := 440) hx hb dX11_writes_0 (by decide) ?_
  refine lv_iconst (pc := 3) (v := 3) hx hb dX11_writes_3 (by decide) ?_
  refine lv_bipush (pc := 4) (v := 12) hx hb dX11_writes_4 (by decide) ?_
  refine lv_iload_n (pc := 6) hx hb dX11_writes_6 rfl (lv_at hl 1 rfl) ?_
  refine lv_imul (pc := 7) hx hb dX11_writes_7 ?_
  refine lv_iload_n (pc := 8) hx hb dX11_writes_8 rfl (lv_at hl 2 rfl) ?_
  refine lv_iadd (pc := 9) hx hb dX11_writes_9 ?_
  refine lv_imul (pc := 10) hx hb dX11_writes_10 ?_
  refine lv_iadd (pc := 11) hx hb dX11_writes_11 ?_
  obtain ⟨v1, ev1, h⟩ := z_lo h
  refine z_topi ev1 ?_
  refine lv_istore (pc := 12) (lv' := [(5, .int v1), (0, .ref (G.1 40)), (1, .int i1), (2, .int i2), (3, .int i3), (4, .int i4)]) hx hb dX11_writes_12 hl (by decide) rfl (fun ls hl => ?_)
  refine lv_aload_n (pc := 14) hx hb dX11_writes_14 rfl (lv_at hl 1 rfl) ?_
  refine zg_DrinkingRoofsModel_w (pc := 15) X hw zw_fl_5_71 dX11_writes_15 ?_
  refine lv_iload (pc := 18) hx hb dX11_writes_18 (lv_at hl 0 rfl) ?_
  refine lv_iload_n (pc := 20) hx hb dX11_writes_20 rfl (lv_at hl 4 rfl) ?_
  obtain ⟨g2, h⟩ := z_gd h
  refine z_iast (pc := 21) X hw zk_41 zl_41 g2 dX11_writes_21 (fun HM3 lM3 wM3 => ?_)
  obtain ⟨M3, eM3, h⟩ := z_lo h
  rw [← eM3] at wM3
  refine lv_aload_n (pc := 22) hx hb dX11_writes_22 rfl (lv_at hl 1 rfl) ?_
  refine zg_DrinkingRoofsModel_w (pc := 23) X wM3 zw_fl_5_71 dX11_writes_23 ?_
  refine lv_iload (pc := 26) hx hb dX11_writes_26 (lv_at hl 0 rfl) ?_
  refine lv_iconst (pc := 28) (v := 1) hx hb dX11_writes_28 (by decide) ?_
  refine lv_iadd (pc := 29) hx hb dX11_writes_29 ?_
  refine lv_iload (pc := 30) hx hb dX11_writes_30 (lv_at hl 5 rfl) ?_
  obtain ⟨g4, h⟩ := z_gd h
  refine z_iast (pc := 32) X wM3 zk_41 zl_41 g4 dX11_writes_32 (fun HM5 lM5 wM5 => ?_)
  obtain ⟨M5, eM5, h⟩ := z_lo h
  rw [← eM5] at wM5
  refine lv_aload_n (pc := 33) hx hb dX11_writes_33 rfl (lv_at hl 1 rfl) ?_
  refine zg_DrinkingRoofsModel_w (pc := 34) X wM5 zw_fl_5_71 dX11_writes_34 ?_
  refine lv_iload (pc := 37) hx hb dX11_writes_37 (lv_at hl 0 rfl) ?_
  refine lv_iconst (pc := 39) (v := 2) hx hb dX11_writes_39 (by decide) ?_
  refine lv_iadd (pc := 40) hx hb dX11_writes_40 ?_
  refine lv_iload_n (pc := 41) hx hb dX11_writes_41 rfl (lv_at hl 4 rfl) ?_
  refine lv_iload (pc := 42) hx hb dX11_writes_42 (lv_at hl 5 rfl) ?_
  refine lv_isub (pc := 44) hx hb dX11_writes_44 ?_
  obtain ⟨g6, h⟩ := z_gd h
  refine z_iast (pc := 45) X wM5 zk_41 zl_41 g6 dX11_writes_45 (fun HM7 lM7 wM7 => ?_)
  obtain ⟨M7, eM7, h⟩ := z_lo h
  rw [← eM7] at wM7
  obtain rfl := Option.some.inj h
  exact z_rv (pc := 46) X wM7 dX11_writes_46
def f_X11_gets (i1 : Int32) (i2 : Int32) (M : zM) : Option (Int32 × zM) :=
  if i2 = 0 then (
    z_g (z_ix i1 11) <|
    z_g (z_ix i1 11) <|
    (f_X11_least (M.1 53 (Int32.toNatClampNeg i1)) (M.1 54 (Int32.toNatClampNeg i1)) M).bind fun x11 =>
    z_g (z_ix i1 11) <|
    z_g (z_ix i1 11) <|
    z_l (z_w x11.2 54 (Int32.toNatClampNeg i1) ((x11.2.1 54 (Int32.toNatClampNeg i1)) - x11.1)) fun M14 =>
    some (x11.1, M14)
  ) else (
    z_g (z_ix i1 11) <|
    z_g (z_ix i1 11) <|
    (f_X11_most (0 : Int32) ((M.1 52 (Int32.toNatClampNeg i1)) - (M.1 54 (Int32.toNatClampNeg i1))) M).bind fun x4 =>
    (f_X11_least i2 x4.1 x4.2).bind fun x5 =>
    z_g (z_ix i1 11) <|
    z_g (z_ix i1 11) <|
    z_l (z_w x5.2 54 (Int32.toNatClampNeg i1) ((x5.2.1 54 (Int32.toNatClampNeg i1)) + x5.1)) fun M8 =>
    some ((i2 - x5.1), M8)
  )
set_option maxHeartbeats 4000000 in
set_option maxRecDepth 100000 in
theorem m_X11_gets {l : Launch} {G : zG} {i1 : Int32} {i2 : Int32} {M : zM} {r : Int32 × zM} (h : f_X11_gets i1 i2 M = some r) : z_T l G 1 yX11_gets (.code yX11_gets cX11_gets 4 (some .int)) [.ref (G.1 40), .int i1, .int i2] M (some (.int r.1)) r.2 := by
  refine z_of rfl ?_
  intro p e s m below meth c X hw
  have hl := lv_entry [.ref (G.1 40), .int i1, .int i2] (n := 4) (Nat.le_of_ble_eq_true rfl)
  rw [lg_entry_eq]
  generalize (lg_sl [.ref (G.1 40), .int i1, .int i2] ++ List.replicate (4 - (lg_sl [.ref (G.1 40), .int i1, .int i2]).length) Slot.unset).toArray = ls at hl ⊢
  have hl : lv_has ls 4 [(0, .ref (G.1 40)), (1, .int i1), (2, .int i2)] := hl
  generalize ([.ref (G.1 40), .int i1, .int i2] : List Value).toArray = args at X ⊢
  have X : z_C G p s m args meth c cX11_gets 4 RX11 (some .int) := X
  have hx := X.1
  have hb := X.2.1
  unfold f_X11_gets at h
  refine lv_iload_n (pc := 0) hx hb dX11_gets_0 rfl (lv_at hl 2 rfl) ?_
  refine lv_if_ne (pc := 1) (tgt := 32) hx hb dX11_gets_1 (by decide) (fun c1 => ?_) (fun c1 => ?_)
  · replace h := z_f c1 h
    refine lv_iload_n (pc := 32) hx hb dX11_gets_32 rfl (lv_at hl 2 rfl) ?_
    refine lv_iconst (pc := 33) (v := 0) hx hb dX11_gets_33 (by decide) ?_
    refine lv_aload_n (pc := 34) hx hb dX11_gets_34 rfl (lv_at hl 0 rfl) ?_
    refine zg_DrinkingRoofsModel_barrel (pc := 35) X hw zw_fl_5_95 dX11_gets_35 ?_
    refine lv_iload_n (pc := 38) hx hb dX11_gets_38 rfl (lv_at hl 1 rfl) ?_
    obtain ⟨g2, h⟩ := z_gd h
    refine z_iald (pc := 39) X hw zk_52 zl_52 g2 dX11_gets_39 ?_
    refine lv_aload_n (pc := 40) hx hb dX11_gets_40 rfl (lv_at hl 0 rfl) ?_
    refine zg_DrinkingRoofsModel_held (pc := 41) X hw zw_fl_5_97 dX11_gets_41 ?_
    refine lv_iload_n (pc := 44) hx hb dX11_gets_44 rfl (lv_at hl 1 rfl) ?_
    obtain ⟨g3, h⟩ := z_gd h
    refine z_iald (pc := 45) X hw zk_54 zl_54 g3 dX11_gets_45 ?_
    refine lv_isub (pc := 46) hx hb dX11_gets_46 ?_
    obtain ⟨x4, ex4, h⟩ := z_bd h
    refine z_csI (pc := 47) (rest := [.int i2]) X hw (m_X11_most  ex4) zw_ml_6_136 zw_st_6_137 zw_in_1_12 zw_co_6_138 zd_X11_most (by decide) rfl hl.1 rfl (Nat.le_of_ble_eq_true rfl) dX11_gets_47 ⟨Nat.zero_le _, Nat.zero_le _⟩ (fun Hx4 lx4 wx4 => ?_)
    obtain ⟨x5, ex5, h⟩ := z_bd h
    refine z_csI (pc := 50) (rest := []) X wx4 (m_X11_least  ex5) zw_ml_6_129 zw_st_6_130 zw_in_1_12 zw_co_6_131 zd_X11_least (by decide) rfl hl.1 rfl (Nat.le_of_ble_eq_true rfl) dX11_gets_50 ⟨Nat.zero_le _, Nat.zero_le _⟩ (fun Hx5 lx5 wx5 => ?_)
    refine lv_istore_n (pc := 53) (lv' := [(3, .int x5.1), (0, .ref (G.1 40)), (1, .int i1), (2, .int i2)]) hx hb dX11_gets_53 rfl hl (by decide) rfl (fun ls hl => ?_)
    refine lv_aload_n (pc := 54) hx hb dX11_gets_54 rfl (lv_at hl 1 rfl) ?_
    refine zg_DrinkingRoofsModel_held (pc := 55) X wx5 zw_fl_5_97 dX11_gets_55 ?_
    refine lv_iload_n (pc := 58) hx hb dX11_gets_58 rfl (lv_at hl 2 rfl) ?_
    refine lv_dup2_11 (pc := 59) hx hb dX11_gets_59 rfl rfl ?_
    obtain ⟨g6, h⟩ := z_gd h
    refine z_iald (pc := 60) X wx5 zk_54 zl_54 g6 dX11_gets_60 ?_
    refine lv_iload_n (pc := 61) hx hb dX11_gets_61 rfl (lv_at hl 0 rfl) ?_
    refine lv_iadd (pc := 62) hx hb dX11_gets_62 ?_
    obtain ⟨g7, h⟩ := z_gd h
    refine z_iast (pc := 63) X wx5 zk_54 zl_54 g7 dX11_gets_63 (fun HM8 lM8 wM8 => ?_)
    obtain ⟨M8, eM8, h⟩ := z_lo h
    rw [← eM8] at wM8
    refine lv_iload_n (pc := 64) hx hb dX11_gets_64 rfl (lv_at hl 3 rfl) ?_
    refine lv_iload_n (pc := 65) hx hb dX11_gets_65 rfl (lv_at hl 0 rfl) ?_
    refine lv_isub (pc := 66) hx hb dX11_gets_66 ?_
    obtain rfl := Option.some.inj h
    exact z_ri (pc := 67) X wM8 dX11_gets_67
  · replace h := z_t c1 h
    refine lv_aload_n (pc := 4) hx hb dX11_gets_4 rfl (lv_at hl 0 rfl) ?_
    refine zg_DrinkingRoofsModel_lets (pc := 5) X hw zw_fl_5_96 dX11_gets_5 ?_
    refine lv_iload_n (pc := 8) hx hb dX11_gets_8 rfl (lv_at hl 1 rfl) ?_
    obtain ⟨g9, h⟩ := z_gd h
    refine z_iald (pc := 9) X hw zk_53 zl_53 g9 dX11_gets_9 ?_
    refine lv_aload_n (pc := 10) hx hb dX11_gets_10 rfl (lv_at hl 0 rfl) ?_
    refine zg_DrinkingRoofsModel_held (pc := 11) X hw zw_fl_5_97 dX11_gets_11 ?_
    refine lv_iload_n (pc := 14) hx hb dX11_gets_14 rfl (lv_at hl 1 rfl) ?_
    obtain ⟨g10, h⟩ := z_gd h
    refine z_iald (pc := 15) X hw zk_54 zl_54 g10 dX11_gets_15 ?_
    obtain ⟨x11, ex11, h⟩ := z_bd h
    refine z_csI (pc := 16) (rest := []) X hw (m_X11_least  ex11) zw_ml_6_129 zw_st_6_130 zw_in_1_12 zw_co_6_131 zd_X11_least (by decide) rfl hl.1 rfl (Nat.le_of_ble_eq_true rfl) dX11_gets_16 ⟨Nat.zero_le _, Nat.zero_le _⟩ (fun Hx11 lx11 wx11 => ?_)
    refine lv_istore_n (pc := 19) (lv' := [(3, .int x11.1), (0, .ref (G.1 40)), (1, .int i1), (2, .int i2)]) hx hb dX11_gets_19 rfl hl (by decide) rfl (fun ls hl => ?_)
    refine lv_aload_n (pc := 20) hx hb dX11_gets_20 rfl (lv_at hl 1 rfl) ?_
    refine zg_DrinkingRoofsModel_held (pc := 21) X wx11 zw_fl_5_97 dX11_gets_21 ?_
    refine lv_iload_n (pc := 24) hx hb dX11_gets_24 rfl (lv_at hl 2 rfl) ?_
    refine lv_dup2_11 (pc := 25) hx hb dX11_gets_25 rfl rfl ?_
    obtain ⟨g12, h⟩ := z_gd h
    refine z_iald (pc := 26) X wx11 zk_54 zl_54 g12 dX11_gets_26 ?_
    refine lv_iload_n (pc := 27) hx hb dX11_gets_27 rfl (lv_at hl 0 rfl) ?_
    refine lv_isub (pc := 28) hx hb dX11_gets_28 ?_
    obtain ⟨g13, h⟩ := z_gd h
    refine z_iast (pc := 29) X wx11 zk_54 zl_54 g13 dX11_gets_29 (fun HM14 lM14 wM14 => ?_)
    obtain ⟨M14, eM14, h⟩ := z_lo h
    rw [← eM14] at wM14
    refine lv_iload_n (pc := 30) hx hb dX11_gets_30 rfl (lv_at hl 0 rfl) ?_
    obtain rfl := Option.some.inj h
    exact z_ri (pc := 31) X wM14 dX11_gets_31
def f_X11_runs_296 (K37 : Int32 → Int32 → Int32 → zM → Option (Int32 × zM)) (K75 : Int32 → Int32 → Int32 → Int32 → zM → Option (Int32 × zM)) (i1 : Int32) (i2 : Int32) (i3 : Int32) (i4 : Int32) (i7 : Int32) (i8 : Int32) (M : zM) : Option (Int32 × zM) :=
    if (M.1 40 33) = 0 then (
      z_l (i4 + (1 : Int32)) fun v2 =>
      K75 i1 i2 i3 v2 M
    ) else (
      (f_X11_writes i4 i3 i7 i8 M).bind fun x3 =>
      z_l (i4 + (1 : Int32)) fun v4 =>
      K75 i1 i2 i3 v4 x3
    )
def f_X11_runs_193 (K37 : Int32 → Int32 → Int32 → zM → Option (Int32 × zM)) (K75 : Int32 → Int32 → Int32 → Int32 → zM → Option (Int32 × zM)) (i1 : Int32) (i2 : Int32) (i3 : Int32) (i4 : Int32) (i6 : Int32) (M : zM) : Option (Int32 × zM) :=
    (f_X11_gets i4 i6 M).bind fun x1 =>
    z_g (z_ix i4 11) <|
    z_g (z_ix i4 11) <|
    (f_X11_least x1.1 (((x1.2.1 49 (Int32.toNatClampNeg i4)) * ((10 : Int32) - (x1.2.1 51 (Int32.toNatClampNeg i4)))) / (10 : Int32)) x1.2).bind fun x4 =>
    z_g (z_ix i4 11) <|
    z_g (z_ix i4 11) <|
    z_l (z_w x4.2 56 (Int32.toNatClampNeg i4) ((x4.2.1 56 (Int32.toNatClampNeg i4)) + (x1.1 - x4.1))) fun M7 =>
    z_l (i2 + (x1.1 - x4.1)) fun v8 =>
    z_g (z_ix i4 11) <|
    if (M7.1 50 (Int32.toNatClampNeg i4)) = (-1 : Int32) then (
      z_l (z_w M7 40 31 ((M7.1 40 31) + x4.1)) fun M16 =>
      f_X11_runs_296 K37 K75 i1 v8 i3 i4 x1.1 x4.1 M16
    ) else (
      z_g (z_ix i4 11) <|
      z_l (M7.1 50 (Int32.toNatClampNeg i4)) fun v12 =>
      z_g (z_ix v12 11) <|
      z_g (z_ix v12 11) <|
      z_l (z_w M7 57 (Int32.toNatClampNeg v12) ((M7.1 57 (Int32.toNatClampNeg v12)) + x4.1)) fun M15 =>
      f_X11_runs_296 K37 K75 i1 v8 i3 i4 x1.1 x4.1 M15
    )
def f_X11_runs_75 (K37 : Int32 → Int32 → Int32 → zM → Option (Int32 × zM)) : Nat → Int32 → Int32 → Int32 → Int32 → zM → Option (Int32 × zM)
  | 0, _, _, _, _, _ => none
  | n + 1, i1, i2, i3, i4, M =>
    if (M.1 40 30) ≤ i4 then (
      z_l (i3 + (1 : Int32)) fun v2 =>
      K37 i1 i2 v2 M
    ) else (
      (f_X11_fallOf i1 i3 M).bind fun x3 =>
      z_g (z_ix i4 11) <|
      z_l (x3.1 * (x3.2.1 48 (Int32.toNatClampNeg i4))) fun v5 =>
      z_g (z_ix i4 11) <|
      z_l (x3.2.1 57 (Int32.toNatClampNeg i4)) fun v7 =>
      z_l (z_w x3.2 40 32 ((x3.2.1 40 32) + v5)) fun M8 =>
      (f_X11_isSnow i1 i3 M8).bind fun x9 =>
      if x9.1 = 0 then (
        z_g (z_ix i4 11) <|
        z_g (z_ix i4 11) <|
        (f_X11_least (x9.2.1 55 (Int32.toNatClampNeg i4)) ((x9.2.1 41 (Int32.toNatClampNeg (6 : Int32))) * (x9.2.1 48 (Int32.toNatClampNeg i4))) x9.2).bind fun x13 =>
        z_g (z_ix i4 11) <|
        z_g (z_ix i4 11) <|
        z_l (z_w x13.2 55 (Int32.toNatClampNeg i4) ((x13.2.1 55 (Int32.toNatClampNeg i4)) - x13.1)) fun M16 =>
        z_l (v7 + (v5 + x13.1)) fun v17 =>
        f_X11_runs_193 K37 (f_X11_runs_75 K37 n) i1 i2 i3 i4 v17 M16
      ) else (
        z_g (z_ix i4 11) <|
        z_g (z_ix i4 11) <|
        z_l (z_w x9.2 55 (Int32.toNatClampNeg i4) ((x9.2.1 55 (Int32.toNatClampNeg i4)) + v5)) fun M20 =>
        f_X11_runs_193 K37 (f_X11_runs_75 K37 n) i1 i2 i3 i4 v7 M20
      )
    )
def f_X11_runs_49 (K37 : Int32 → Int32 → Int32 → zM → Option (Int32 × zM)) : Nat → Int32 → Int32 → Int32 → Int32 → zM → Option (Int32 × zM)
  | 0, _, _, _, _, _ => none
  | n + 1, i1, i2, i3, i4, M =>
    if (M.1 40 30) ≤ i4 then (
      f_X11_runs_75 K37 z_F i1 i2 i3 (0 : Int32) M
    ) else (
      z_g (z_ix i4 11) <|
      z_l (z_w M 57 (Int32.toNatClampNeg i4) (0 : Int32)) fun M3 =>
      z_l (i4 + (1 : Int32)) fun v4 =>
      f_X11_runs_49 K37 n i1 i2 i3 v4 M3
    )
def f_X11_runs_37 : Nat → Int32 → Int32 → Int32 → zM → Option (Int32 × zM)
  | 0, _, _, _, _ => none
  | n + 1, i1, i2, i3, M =>
    (f_X11_hoursOf i1 M).bind fun x1 =>
    if x1.1 ≤ i3 then (
      some (i2, x1.2)
    ) else (
      f_X11_runs_49 (f_X11_runs_37 n) z_F i1 i2 i3 (0 : Int32) x1.2
    )
def f_X11_runs_14 : Nat → Int32 → Int32 → Int32 → zM → Option (Int32 × zM)
  | 0, _, _, _, _ => none
  | n + 1, i1, i2, i3, M =>
    if (M.1 40 30) ≤ i3 then (
      f_X11_runs_37 z_F i1 i2 (0 : Int32) M
    ) else (
      z_g (z_ix i3 11) <|
      z_l (z_w M 56 (Int32.toNatClampNeg i3) (0 : Int32)) fun M3 =>
      z_l (i3 + (1 : Int32)) fun v4 =>
      f_X11_runs_14 n i1 i2 v4 M3
    )
def f_X11_runs (i1 : Int32) (M : zM) : Option (Int32 × zM) :=
  z_l (z_w M 40 31 (0 : Int32)) fun M1 =>
  z_l (z_w M1 40 32 (0 : Int32)) fun M2 =>
  f_X11_runs_14 z_F i1 (0 : Int32) (0 : Int32) M2
set_option maxHeartbeats 4000000 in
set_option maxRecDepth 100000 in
theorem w_X11_runs_296 {G : zG} {p : Program} {l : Launch} {e : Env} {s : State} {m : MethodId} {args : Array Value} {below : List Frame} {meth : Method} {c : Code} (X : z_C G p s m args meth c cX11_runs 9 RX11 (some .int)) {r : Int32 × zM} {K37 : Int32 → Int32 → Int32 → zM → Option (Int32 × zM)} (hK37 : ∀ (i1 : Int32) (i2 : Int32) (i3 : Int32) (M : zM) (H : Heap) (locs : List Loc) (ls : Array Slot), z_W G M H locs → lv_has ls 9 [(0, .ref (G.1 40)), (1, .int i1), (2, .int i2), (3, .int i3)] → K37 i1 i2 i3 M = some r → W p l e (z_rm 2) s m args below meth c H locs 0 0 (z_Q G below args s (some (.int r.1)) r.2) (F0 m 37 ls [])) {K75 : Int32 → Int32 → Int32 → Int32 → zM → Option (Int32 × zM)} (hK75 : ∀ (i1 : Int32) (i2 : Int32) (i3 : Int32) (i4 : Int32) (M : zM) (H : Heap) (locs : List Loc) (ls : Array Slot), z_W G M H locs → lv_has ls 9 [(0, .ref (G.1 40)), (1, .int i1), (2, .int i2), (3, .int i3), (4, .int i4)] → K75 i1 i2 i3 i4 M = some r → W p l e (z_rm 2) s m args below meth c H locs 0 0 (z_Q G below args s (some (.int r.1)) r.2) (F0 m 75 ls [])) : ∀ (i1 : Int32) (i2 : Int32) (i3 : Int32) (i4 : Int32) (i7 : Int32) (i8 : Int32) (M : zM) (H : Heap) (locs : List Loc) (ls : Array Slot), z_W G M H locs → lv_has ls 9 [(0, .ref (G.1 40)), (1, .int i1), (2, .int i2), (3, .int i3), (4, .int i4), (7, .int i7), (8, .int i8)] → f_X11_runs_296 K37 K75 i1 i2 i3 i4 i7 i8 M = some r → W p l e (z_rm 2) s m args below meth c H locs 0 0 (z_Q G below args s (some (.int r.1)) r.2) (F0 m 296 ls []) := by
  have hx := X.1
  have hb := X.2.1
  intro i1 i2 i3 i4 i7 i8 M H locs ls  hw hl h
  unfold f_X11_runs_296 at h
  refine lv_aload_n (pc := 296) hx hb dX11_runs_296 rfl (lv_at hl 0 rfl) ?_
  refine zg_DrinkingRoofsModel_isWritten (pc := 297) X hw zw_fl_5_104 dX11_runs_297 ?_
  refine lv_if_eq (pc := 300) (tgt := 314) hx hb dX11_runs_300 (by decide) (fun c1 => ?_) (fun c1 => ?_)
  · replace h := z_t c1 h
    obtain ⟨v2, ev2, h⟩ := z_lo h
    refine lv_iinc (pc := 314) (v := v2) (lv' := [(4, .int v2), (0, .ref (G.1 40)), (1, .int i1), (2, .int i2), (3, .int i3), (7, .int i7), (8, .int i8)]) hx hb dX11_runs_314 hl (k := 4) rfl (by rw [ev2]; rfl) (by decide) rfl (fun ls hl => ?_)
    refine lv_goto (pc := 317) (tgt := 75) hx hb dX11_runs_317 (by decide) ?_
    exact hK75 i1 i2 i3 v2 M H locs ls  hw (lv_sub hl [1, 2, 3, 4, 0] rfl) h
  · replace h := z_f c1 h
    refine lv_aload_n (pc := 303) hx hb dX11_runs_303 rfl (lv_at hl 0 rfl) ?_
    refine lv_iload (pc := 304) hx hb dX11_runs_304 (lv_at hl 4 rfl) ?_
    refine lv_iload_n (pc := 306) hx hb dX11_runs_306 rfl (lv_at hl 3 rfl) ?_
    refine lv_iload (pc := 307) hx hb dX11_runs_307 (lv_at hl 5 rfl) ?_
    refine lv_iload (pc := 309) hx hb dX11_runs_309 (lv_at hl 6 rfl) ?_
    obtain ⟨x3, ex3, h⟩ := z_bd h
    refine z_cvV (pc := 311) (rest := []) X hw (m_X11_writes  ex3) (z_lt zk_40 (by decide)) (z_E11 zk_40) rfl zw_ml_6_139 zw_im_6_141 zw_se_S_61 zw_in_1_12 zw_co_6_142 zd_X11_writes (by decide) rfl hl.1 rfl (Nat.le_of_ble_eq_true rfl) dX11_runs_311 ⟨Nat.zero_le _, Nat.zero_le _⟩ (fun Hx3 lx3 wx3 => ?_)
    obtain ⟨v4, ev4, h⟩ := z_lo h
    refine lv_iinc (pc := 314) (v := v4) (lv' := [(4, .int v4), (0, .ref (G.1 40)), (1, .int i1), (2, .int i2), (3, .int i3), (7, .int i7), (8, .int i8)]) hx hb dX11_runs_314 hl (k := 4) rfl (by rw [ev4]; rfl) (by decide) rfl (fun ls hl => ?_)
    refine lv_goto (pc := 317) (tgt := 75) hx hb dX11_runs_317 (by decide) ?_
    exact hK75 i1 i2 i3 v4 x3 Hx3 lx3 ls  wx3 (lv_sub hl [1, 2, 3, 4, 0] rfl) h
set_option maxHeartbeats 4000000 in
set_option maxRecDepth 100000 in
theorem w_X11_runs_193 {G : zG} {p : Program} {l : Launch} {e : Env} {s : State} {m : MethodId} {args : Array Value} {below : List Frame} {meth : Method} {c : Code} (X : z_C G p s m args meth c cX11_runs 9 RX11 (some .int)) {r : Int32 × zM} {K37 : Int32 → Int32 → Int32 → zM → Option (Int32 × zM)} (hK37 : ∀ (i1 : Int32) (i2 : Int32) (i3 : Int32) (M : zM) (H : Heap) (locs : List Loc) (ls : Array Slot), z_W G M H locs → lv_has ls 9 [(0, .ref (G.1 40)), (1, .int i1), (2, .int i2), (3, .int i3)] → K37 i1 i2 i3 M = some r → W p l e (z_rm 2) s m args below meth c H locs 0 0 (z_Q G below args s (some (.int r.1)) r.2) (F0 m 37 ls [])) {K75 : Int32 → Int32 → Int32 → Int32 → zM → Option (Int32 × zM)} (hK75 : ∀ (i1 : Int32) (i2 : Int32) (i3 : Int32) (i4 : Int32) (M : zM) (H : Heap) (locs : List Loc) (ls : Array Slot), z_W G M H locs → lv_has ls 9 [(0, .ref (G.1 40)), (1, .int i1), (2, .int i2), (3, .int i3), (4, .int i4)] → K75 i1 i2 i3 i4 M = some r → W p l e (z_rm 2) s m args below meth c H locs 0 0 (z_Q G below args s (some (.int r.1)) r.2) (F0 m 75 ls [])) : ∀ (i1 : Int32) (i2 : Int32) (i3 : Int32) (i4 : Int32) (i6 : Int32) (M : zM) (H : Heap) (locs : List Loc) (ls : Array Slot), z_W G M H locs → lv_has ls 9 [(0, .ref (G.1 40)), (1, .int i1), (2, .int i2), (3, .int i3), (4, .int i4), (6, .int i6)] → f_X11_runs_193 K37 K75 i1 i2 i3 i4 i6 M = some r → W p l e (z_rm 2) s m args below meth c H locs 0 0 (z_Q G below args s (some (.int r.1)) r.2) (F0 m 193 ls []) := by
  have hx := X.1
  have hb := X.2.1
  intro i1 i2 i3 i4 i6 M H locs ls  hw hl h
  unfold f_X11_runs_193 at h
  refine lv_aload_n (pc := 193) hx hb dX11_runs_193 rfl (lv_at hl 0 rfl) ?_
  refine lv_iload (pc := 194) hx hb dX11_runs_194 (lv_at hl 4 rfl) ?_
  refine lv_iload (pc := 196) hx hb dX11_runs_196 (lv_at hl 5 rfl) ?_
  obtain ⟨x1, ex1, h⟩ := z_bd h
  refine z_cvI (pc := 198) (rest := []) X hw (m_X11_gets  ex1) (z_lt zk_40 (by decide)) (z_E11 zk_40) rfl zw_ml_6_132 zw_im_6_134 zw_se_S_60 zw_in_1_12 zw_co_6_135 zd_X11_gets (by decide) rfl hl.1 rfl (Nat.le_of_ble_eq_true rfl) dX11_runs_198 ⟨Nat.zero_le _, Nat.zero_le _⟩ (fun Hx1 lx1 wx1 => ?_)
  refine lv_istore (pc := 201) (lv' := [(7, .int x1.1), (0, .ref (G.1 40)), (1, .int i1), (2, .int i2), (3, .int i3), (4, .int i4), (6, .int i6)]) hx hb dX11_runs_201 hl (by decide) rfl (fun ls hl => ?_)
  refine lv_iload (pc := 203) hx hb dX11_runs_203 (lv_at hl 0 rfl) ?_
  refine lv_aload_n (pc := 205) hx hb dX11_runs_205 rfl (lv_at hl 1 rfl) ?_
  refine zg_DrinkingRoofsModel_carries (pc := 206) X wx1 zw_fl_5_92 dX11_runs_206 ?_
  refine lv_iload (pc := 209) hx hb dX11_runs_209 (lv_at hl 5 rfl) ?_
  obtain ⟨g2, h⟩ := z_gd h
  refine z_iald (pc := 211) X wx1 zk_49 zl_49 g2 dX11_runs_211 ?_
  refine lv_bipush (pc := 212) (v := 10) hx hb dX11_runs_212 (by decide) ?_
  refine lv_aload_n (pc := 214) hx hb dX11_runs_214 rfl (lv_at hl 1 rfl) ?_
  refine zg_DrinkingRoofsModel_clog (pc := 215) X wx1 zw_fl_5_94 dX11_runs_215 ?_
  refine lv_iload (pc := 218) hx hb dX11_runs_218 (lv_at hl 5 rfl) ?_
  obtain ⟨g3, h⟩ := z_gd h
  refine z_iald (pc := 220) X wx1 zk_51 zl_51 g3 dX11_runs_220 ?_
  refine lv_isub (pc := 221) hx hb dX11_runs_221 ?_
  refine lv_imul (pc := 222) hx hb dX11_runs_222 ?_
  refine lv_bipush (pc := 223) (v := 10) hx hb dX11_runs_223 (by decide) ?_
  refine lv_idiv (pc := 225) hx hb dX11_runs_225 (by decide) ?_
  obtain ⟨x4, ex4, h⟩ := z_bd h
  refine z_csI (pc := 226) (rest := []) X wx1 (m_X11_least  ex4) zw_ml_6_129 zw_st_6_130 zw_in_1_12 zw_co_6_131 zd_X11_least (by decide) rfl hl.1 rfl (Nat.le_of_ble_eq_true rfl) dX11_runs_226 ⟨Nat.zero_le _, Nat.zero_le _⟩ (fun Hx4 lx4 wx4 => ?_)
  refine lv_istore (pc := 229) (lv' := [(8, .int x4.1), (7, .int x1.1), (0, .ref (G.1 40)), (1, .int i1), (2, .int i2), (3, .int i3), (4, .int i4), (6, .int i6)]) hx hb dX11_runs_229 hl (by decide) rfl (fun ls hl => ?_)
  refine lv_aload_n (pc := 231) hx hb dX11_runs_231 rfl (lv_at hl 2 rfl) ?_
  refine zg_DrinkingRoofsModel_over (pc := 232) X wx4 zw_fl_5_99 dX11_runs_232 ?_
  refine lv_iload (pc := 235) hx hb dX11_runs_235 (lv_at hl 6 rfl) ?_
  refine lv_dup2_11 (pc := 237) hx hb dX11_runs_237 rfl rfl ?_
  obtain ⟨g5, h⟩ := z_gd h
  refine z_iald (pc := 238) X wx4 zk_56 zl_56 g5 dX11_runs_238 ?_
  refine lv_iload (pc := 239) hx hb dX11_runs_239 (lv_at hl 1 rfl) ?_
  refine lv_iload (pc := 241) hx hb dX11_runs_241 (lv_at hl 0 rfl) ?_
  refine lv_isub (pc := 243) hx hb dX11_runs_243 ?_
  refine lv_iadd (pc := 244) hx hb dX11_runs_244 ?_
  obtain ⟨g6, h⟩ := z_gd h
  refine z_iast (pc := 245) X wx4 zk_56 zl_56 g6 dX11_runs_245 (fun HM7 lM7 wM7 => ?_)
  obtain ⟨M7, eM7, h⟩ := z_lo h
  rw [← eM7] at wM7
  refine lv_iload_n (pc := 246) hx hb dX11_runs_246 rfl (lv_at hl 4 rfl) ?_
  refine lv_iload (pc := 247) hx hb dX11_runs_247 (lv_at hl 1 rfl) ?_
  refine lv_iload (pc := 249) hx hb dX11_runs_249 (lv_at hl 0 rfl) ?_
  refine lv_isub (pc := 251) hx hb dX11_runs_251 ?_
  refine lv_iadd (pc := 252) hx hb dX11_runs_252 ?_
  obtain ⟨v8, ev8, h⟩ := z_lo h
  refine z_topi ev8 ?_
  refine lv_istore_n (pc := 253) (lv' := [(2, .int v8), (8, .int x4.1), (7, .int x1.1), (0, .ref (G.1 40)), (1, .int i1), (3, .int i3), (4, .int i4), (6, .int i6)]) hx hb dX11_runs_253 rfl hl (by decide) rfl (fun ls hl => ?_)
  refine lv_aload_n (pc := 254) hx hb dX11_runs_254 rfl (lv_at hl 3 rfl) ?_
  refine zg_DrinkingRoofsModel_next (pc := 255) X wM7 zw_fl_5_93 dX11_runs_255 ?_
  refine lv_iload (pc := 258) hx hb dX11_runs_258 (lv_at hl 6 rfl) ?_
  obtain ⟨g9, h⟩ := z_gd h
  refine z_iald (pc := 260) X wM7 zk_50 zl_50 g9 dX11_runs_260 ?_
  refine lv_iconst (pc := 261) (v := -1) hx hb dX11_runs_261 (by decide) ?_
  refine lv_icmp_ne (pc := 262) (tgt := 279) hx hb dX11_runs_262 (by decide) (fun c10 => ?_) (fun c10 => ?_)
  · replace h := z_f c10 h
    refine lv_aload_n (pc := 279) hx hb dX11_runs_279 rfl (lv_at hl 3 rfl) ?_
    refine zg_DrinkingRoofsModel_above (pc := 280) X wM7 zw_fl_5_100 dX11_runs_280 ?_
    refine lv_aload_n (pc := 283) hx hb dX11_runs_283 rfl (lv_at hl 3 rfl) ?_
    refine zg_DrinkingRoofsModel_next (pc := 284) X wM7 zw_fl_5_93 dX11_runs_284 ?_
    refine lv_iload (pc := 287) hx hb dX11_runs_287 (lv_at hl 6 rfl) ?_
    obtain ⟨g11, h⟩ := z_gd h
    refine z_iald (pc := 289) X wM7 zk_50 zl_50 g11 dX11_runs_289 ?_
    obtain ⟨v12, ev12, h⟩ := z_lo h
    refine z_topi ev12 ?_
    refine lv_dup2_11 (pc := 290) hx hb dX11_runs_290 rfl rfl ?_
    obtain ⟨g13, h⟩ := z_gd h
    refine z_iald (pc := 291) X wM7 zk_57 zl_57 g13 dX11_runs_291 ?_
    refine lv_iload (pc := 292) hx hb dX11_runs_292 (lv_at hl 1 rfl) ?_
    refine lv_iadd (pc := 294) hx hb dX11_runs_294 ?_
    obtain ⟨g14, h⟩ := z_gd h
    refine z_iast (pc := 295) X wM7 zk_57 zl_57 g14 dX11_runs_295 (fun HM15 lM15 wM15 => ?_)
    obtain ⟨M15, eM15, h⟩ := z_lo h
    rw [← eM15] at wM15
    exact w_X11_runs_296 X hK37 hK75 i1 v8 i3 i4 x1.1 x4.1 M15 HM15 lM15 ls  wM15 (lv_sub hl [3, 4, 0, 5, 6, 2, 1] rfl) h
  · replace h := z_t c10 h
    refine lv_aload_n (pc := 265) hx hb dX11_runs_265 rfl (lv_at hl 3 rfl) ?_
    refine lv_dup (pc := 266) hx hb dX11_runs_266 rfl ?_
    refine zg_DrinkingRoofsModel_drained (pc := 267) X wM7 zw_fl_5_102 dX11_runs_267 ?_
    refine lv_iload (pc := 270) hx hb dX11_runs_270 (lv_at hl 1 rfl) ?_
    refine lv_iadd (pc := 272) hx hb dX11_runs_272 ?_
    refine zp_DrinkingRoofsModel_drained (pc := 273) X wM7 zw_fl_5_102 dX11_runs_273 (fun HM16 lM16 wM16 => ?_)
    obtain ⟨M16, eM16, h⟩ := z_lo h
    rw [← eM16] at wM16
    refine lv_goto (pc := 276) (tgt := 296) hx hb dX11_runs_276 (by decide) ?_
    exact w_X11_runs_296 X hK37 hK75 i1 v8 i3 i4 x1.1 x4.1 M16 HM16 lM16 ls  wM16 (lv_sub hl [3, 4, 0, 5, 6, 2, 1] rfl) h
set_option maxHeartbeats 4000000 in
set_option maxRecDepth 100000 in
theorem w_X11_runs_75 {G : zG} {p : Program} {l : Launch} {e : Env} {s : State} {m : MethodId} {args : Array Value} {below : List Frame} {meth : Method} {c : Code} (X : z_C G p s m args meth c cX11_runs 9 RX11 (some .int)) {r : Int32 × zM} {K37 : Int32 → Int32 → Int32 → zM → Option (Int32 × zM)} (hK37 : ∀ (i1 : Int32) (i2 : Int32) (i3 : Int32) (M : zM) (H : Heap) (locs : List Loc) (ls : Array Slot), z_W G M H locs → lv_has ls 9 [(0, .ref (G.1 40)), (1, .int i1), (2, .int i2), (3, .int i3)] → K37 i1 i2 i3 M = some r → W p l e (z_rm 2) s m args below meth c H locs 0 0 (z_Q G below args s (some (.int r.1)) r.2) (F0 m 37 ls [])) : ∀ (n : Nat) (i1 : Int32) (i2 : Int32) (i3 : Int32) (i4 : Int32) (M : zM) (H : Heap) (locs : List Loc) (ls : Array Slot), z_W G M H locs → lv_has ls 9 [(0, .ref (G.1 40)), (1, .int i1), (2, .int i2), (3, .int i3), (4, .int i4)] → f_X11_runs_75 K37 n i1 i2 i3 i4 M = some r → W p l e (z_rm 2) s m args below meth c H locs 0 0 (z_Q G below args s (some (.int r.1)) r.2) (F0 m 75 ls []) := by
  have hx := X.1
  have hb := X.2.1
  intro n
  induction n with
  | zero =>
    intro i1 i2 i3 i4 M H locs ls  hw hl h
    exact z_no h
  | succ n ih =>
    intro i1 i2 i3 i4 M H locs ls  hw hl h
    rw [f_X11_runs_75] at h
    refine lv_iload (pc := 75) hx hb dX11_runs_75 (lv_at hl 4 rfl) ?_
    refine lv_aload_n (pc := 77) hx hb dX11_runs_77 rfl (lv_at hl 0 rfl) ?_
    refine zg_DrinkingRoofsModel_many (pc := 78) X hw zw_fl_5_101 dX11_runs_78 ?_
    refine lv_icmp_ge (pc := 81) (tgt := 320) hx hb dX11_runs_81 (by decide) (fun c1 => ?_) (fun c1 => ?_)
    · replace h := z_t c1 h
      obtain ⟨v2, ev2, h⟩ := z_lo h
      refine lv_iinc (pc := 320) (v := v2) (lv' := [(3, .int v2), (0, .ref (G.1 40)), (1, .int i1), (2, .int i2), (4, .int i4)]) hx hb dX11_runs_320 hl (k := 3) rfl (by rw [ev2]; rfl) (by decide) rfl (fun ls hl => ?_)
      refine lv_goto (pc := 323) (tgt := 37) hx hb dX11_runs_323 (by decide) ?_
      exact hK37 i1 i2 v2 M H locs ls  hw (lv_sub hl [1, 2, 3, 0] rfl) h
    · replace h := z_f c1 h
      refine lv_aload_n (pc := 84) hx hb dX11_runs_84 rfl (lv_at hl 0 rfl) ?_
      refine lv_iload_n (pc := 85) hx hb dX11_runs_85 rfl (lv_at hl 1 rfl) ?_
      refine lv_iload_n (pc := 86) hx hb dX11_runs_86 rfl (lv_at hl 3 rfl) ?_
      obtain ⟨x3, ex3, h⟩ := z_bd h
      refine z_cvI (pc := 87) (rest := []) X hw (m_X11_fallOf  ex3) (z_lt zk_40 (by decide)) (z_E11 zk_40) rfl zw_ml_6_121 zw_im_6_123 zw_se_S_58 zw_in_1_12 zw_co_6_124 zd_X11_fallOf (by decide) rfl hl.1 rfl (Nat.le_of_ble_eq_true rfl) dX11_runs_87 ⟨Nat.zero_le _, Nat.zero_le _⟩ (fun Hx3 lx3 wx3 => ?_)
      refine lv_aload_n (pc := 90) hx hb dX11_runs_90 rfl (lv_at hl 0 rfl) ?_
      refine zg_DrinkingRoofsModel_area (pc := 91) X wx3 zw_fl_5_91 dX11_runs_91 ?_
      refine lv_iload (pc := 94) hx hb dX11_runs_94 (lv_at hl 4 rfl) ?_
      obtain ⟨g4, h⟩ := z_gd h
      refine z_iald (pc := 96) X wx3 zk_48 zl_48 g4 dX11_runs_96 ?_
      refine lv_imul (pc := 97) hx hb dX11_runs_97 ?_
      obtain ⟨v5, ev5, h⟩ := z_lo h
      refine z_topi ev5 ?_
      refine lv_istore (pc := 98) (lv' := [(5, .int v5), (0, .ref (G.1 40)), (1, .int i1), (2, .int i2), (3, .int i3), (4, .int i4)]) hx hb dX11_runs_98 hl (by decide) rfl (fun ls hl => ?_)
      refine lv_aload_n (pc := 100) hx hb dX11_runs_100 rfl (lv_at hl 1 rfl) ?_
      refine zg_DrinkingRoofsModel_above (pc := 101) X wx3 zw_fl_5_100 dX11_runs_101 ?_
      refine lv_iload (pc := 104) hx hb dX11_runs_104 (lv_at hl 5 rfl) ?_
      obtain ⟨g6, h⟩ := z_gd h
      refine z_iald (pc := 106) X wx3 zk_57 zl_57 g6 dX11_runs_106 ?_
      obtain ⟨v7, ev7, h⟩ := z_lo h
      refine z_topi ev7 ?_
      refine lv_istore (pc := 107) (lv' := [(6, .int v7), (5, .int v5), (0, .ref (G.1 40)), (1, .int i1), (2, .int i2), (3, .int i3), (4, .int i4)]) hx hb dX11_runs_107 hl (by decide) rfl (fun ls hl => ?_)
      refine lv_aload_n (pc := 109) hx hb dX11_runs_109 rfl (lv_at hl 2 rfl) ?_
      refine lv_dup (pc := 110) hx hb dX11_runs_110 rfl ?_
      refine zg_DrinkingRoofsModel_fell (pc := 111) X wx3 zw_fl_5_103 dX11_runs_111 ?_
      refine lv_iload (pc := 114) hx hb dX11_runs_114 (lv_at hl 1 rfl) ?_
      refine lv_iadd (pc := 116) hx hb dX11_runs_116 ?_
      refine zp_DrinkingRoofsModel_fell (pc := 117) X wx3 zw_fl_5_103 dX11_runs_117 (fun HM8 lM8 wM8 => ?_)
      obtain ⟨M8, eM8, h⟩ := z_lo h
      rw [← eM8] at wM8
      refine lv_aload_n (pc := 120) hx hb dX11_runs_120 rfl (lv_at hl 2 rfl) ?_
      refine lv_iload_n (pc := 121) hx hb dX11_runs_121 rfl (lv_at hl 3 rfl) ?_
      refine lv_iload_n (pc := 122) hx hb dX11_runs_122 rfl (lv_at hl 5 rfl) ?_
      obtain ⟨x9, ex9, h⟩ := z_bd h
      refine z_cvI (pc := 123) (rest := []) X wM8 (m_X11_isSnow  ex9) (z_lt zk_40 (by decide)) (z_E11 zk_40) rfl zw_ml_6_125 zw_im_6_127 zw_se_S_59 zw_in_1_12 zw_co_6_128 zd_X11_isSnow (by decide) rfl hl.1 rfl (Nat.le_of_ble_eq_true rfl) dX11_runs_123 ⟨Nat.zero_le _, Nat.zero_le _⟩ (fun Hx9 lx9 wx9 => ?_)
      refine lv_if_eq (pc := 126) (tgt := 144) hx hb dX11_runs_126 (by decide) (fun c10 => ?_) (fun c10 => ?_)
      · replace h := z_t c10 h
        refine lv_aload_n (pc := 144) hx hb dX11_runs_144 rfl (lv_at hl 2 rfl) ?_
        refine zg_DrinkingRoofsModel_snow (pc := 145) X wx9 zw_fl_5_98 dX11_runs_145 ?_
        refine lv_iload (pc := 148) hx hb dX11_runs_148 (lv_at hl 6 rfl) ?_
        obtain ⟨g11, h⟩ := z_gd h
        refine z_iald (pc := 150) X wx9 zk_55 zl_55 g11 dX11_runs_150 ?_
        refine lv_aload_n (pc := 151) hx hb dX11_runs_151 rfl (lv_at hl 2 rfl) ?_
        refine zg_DrinkingRoofsModel_w (pc := 152) X wx9 zw_fl_5_71 dX11_runs_152 ?_
        refine lv_bipush (pc := 155) (v := 6) hx hb dX11_runs_155 (by decide) ?_
        refine z_iald (pc := 157) X wx9 zk_41 zl_41 (z_il (by decide)) dX11_runs_157 ?_
        refine lv_aload_n (pc := 158) hx hb dX11_runs_158 rfl (lv_at hl 2 rfl) ?_
        refine zg_DrinkingRoofsModel_area (pc := 159) X wx9 zw_fl_5_91 dX11_runs_159 ?_
        refine lv_iload (pc := 162) hx hb dX11_runs_162 (lv_at hl 6 rfl) ?_
        obtain ⟨g12, h⟩ := z_gd h
        refine z_iald (pc := 164) X wx9 zk_48 zl_48 g12 dX11_runs_164 ?_
        refine lv_imul (pc := 165) hx hb dX11_runs_165 ?_
        obtain ⟨x13, ex13, h⟩ := z_bd h
        refine z_csI (pc := 166) (rest := []) X wx9 (m_X11_least  ex13) zw_ml_6_129 zw_st_6_130 zw_in_1_12 zw_co_6_131 zd_X11_least (by decide) rfl hl.1 rfl (Nat.le_of_ble_eq_true rfl) dX11_runs_166 ⟨Nat.zero_le _, Nat.zero_le _⟩ (fun Hx13 lx13 wx13 => ?_)
        refine lv_istore (pc := 169) (lv' := [(7, .int x13.1), (6, .int v7), (5, .int v5), (0, .ref (G.1 40)), (1, .int i1), (2, .int i2), (3, .int i3), (4, .int i4)]) hx hb dX11_runs_169 hl (by decide) rfl (fun ls hl => ?_)
        refine lv_aload_n (pc := 171) hx hb dX11_runs_171 rfl (lv_at hl 3 rfl) ?_
        refine zg_DrinkingRoofsModel_snow (pc := 172) X wx13 zw_fl_5_98 dX11_runs_172 ?_
        refine lv_iload (pc := 175) hx hb dX11_runs_175 (lv_at hl 7 rfl) ?_
        refine lv_dup2_11 (pc := 177) hx hb dX11_runs_177 rfl rfl ?_
        obtain ⟨g14, h⟩ := z_gd h
        refine z_iald (pc := 178) X wx13 zk_55 zl_55 g14 dX11_runs_178 ?_
        refine lv_iload (pc := 179) hx hb dX11_runs_179 (lv_at hl 0 rfl) ?_
        refine lv_isub (pc := 181) hx hb dX11_runs_181 ?_
        obtain ⟨g15, h⟩ := z_gd h
        refine z_iast (pc := 182) X wx13 zk_55 zl_55 g15 dX11_runs_182 (fun HM16 lM16 wM16 => ?_)
        obtain ⟨M16, eM16, h⟩ := z_lo h
        rw [← eM16] at wM16
        refine lv_iload (pc := 183) hx hb dX11_runs_183 (lv_at hl 1 rfl) ?_
        refine lv_iload (pc := 185) hx hb dX11_runs_185 (lv_at hl 2 rfl) ?_
        refine lv_iload (pc := 187) hx hb dX11_runs_187 (lv_at hl 0 rfl) ?_
        refine lv_iadd (pc := 189) hx hb dX11_runs_189 ?_
        refine lv_iadd (pc := 190) hx hb dX11_runs_190 ?_
        obtain ⟨v17, ev17, h⟩ := z_lo h
        refine z_topi ev17 ?_
        refine lv_istore (pc := 191) (lv' := [(6, .int v17), (7, .int x13.1), (5, .int v5), (0, .ref (G.1 40)), (1, .int i1), (2, .int i2), (3, .int i3), (4, .int i4)]) hx hb dX11_runs_191 hl (by decide) rfl (fun ls hl => ?_)
        exact w_X11_runs_193 X hK37 ih i1 i2 i3 i4 v17 M16 HM16 lM16 ls  wM16 (lv_sub hl [3, 4, 5, 6, 7, 0] rfl) h
      · replace h := z_f c10 h
        refine lv_aload_n (pc := 129) hx hb dX11_runs_129 rfl (lv_at hl 2 rfl) ?_
        refine zg_DrinkingRoofsModel_snow (pc := 130) X wx9 zw_fl_5_98 dX11_runs_130 ?_
        refine lv_iload (pc := 133) hx hb dX11_runs_133 (lv_at hl 6 rfl) ?_
        refine lv_dup2_11 (pc := 135) hx hb dX11_runs_135 rfl rfl ?_
        obtain ⟨g18, h⟩ := z_gd h
        refine z_iald (pc := 136) X wx9 zk_55 zl_55 g18 dX11_runs_136 ?_
        refine lv_iload (pc := 137) hx hb dX11_runs_137 (lv_at hl 1 rfl) ?_
        refine lv_iadd (pc := 139) hx hb dX11_runs_139 ?_
        obtain ⟨g19, h⟩ := z_gd h
        refine z_iast (pc := 140) X wx9 zk_55 zl_55 g19 dX11_runs_140 (fun HM20 lM20 wM20 => ?_)
        obtain ⟨M20, eM20, h⟩ := z_lo h
        rw [← eM20] at wM20
        refine lv_goto (pc := 141) (tgt := 193) hx hb dX11_runs_141 (by decide) ?_
        exact w_X11_runs_193 X hK37 ih i1 i2 i3 i4 v7 M20 HM20 lM20 ls  wM20 (lv_sub hl [2, 3, 4, 5, 6, 0] rfl) h
set_option maxHeartbeats 4000000 in
set_option maxRecDepth 100000 in
theorem w_X11_runs_49 {G : zG} {p : Program} {l : Launch} {e : Env} {s : State} {m : MethodId} {args : Array Value} {below : List Frame} {meth : Method} {c : Code} (X : z_C G p s m args meth c cX11_runs 9 RX11 (some .int)) {r : Int32 × zM} {K37 : Int32 → Int32 → Int32 → zM → Option (Int32 × zM)} (hK37 : ∀ (i1 : Int32) (i2 : Int32) (i3 : Int32) (M : zM) (H : Heap) (locs : List Loc) (ls : Array Slot), z_W G M H locs → lv_has ls 9 [(0, .ref (G.1 40)), (1, .int i1), (2, .int i2), (3, .int i3)] → K37 i1 i2 i3 M = some r → W p l e (z_rm 2) s m args below meth c H locs 0 0 (z_Q G below args s (some (.int r.1)) r.2) (F0 m 37 ls [])) : ∀ (n : Nat) (i1 : Int32) (i2 : Int32) (i3 : Int32) (i4 : Int32) (M : zM) (H : Heap) (locs : List Loc) (ls : Array Slot), z_W G M H locs → lv_has ls 9 [(0, .ref (G.1 40)), (1, .int i1), (2, .int i2), (3, .int i3), (4, .int i4)] → f_X11_runs_49 K37 n i1 i2 i3 i4 M = some r → W p l e (z_rm 2) s m args below meth c H locs 0 0 (z_Q G below args s (some (.int r.1)) r.2) (F0 m 49 ls []) := by
  have hx := X.1
  have hb := X.2.1
  intro n
  induction n with
  | zero =>
    intro i1 i2 i3 i4 M H locs ls  hw hl h
    exact z_no h
  | succ n ih =>
    intro i1 i2 i3 i4 M H locs ls  hw hl h
    rw [f_X11_runs_49] at h
    refine lv_iload (pc := 49) hx hb dX11_runs_49 (lv_at hl 4 rfl) ?_
    refine lv_aload_n (pc := 51) hx hb dX11_runs_51 rfl (lv_at hl 0 rfl) ?_
    refine zg_DrinkingRoofsModel_many (pc := 52) X hw zw_fl_5_101 dX11_runs_52 ?_
    refine lv_icmp_ge (pc := 55) (tgt := 72) hx hb dX11_runs_55 (by decide) (fun c1 => ?_) (fun c1 => ?_)
    · replace h := z_t c1 h
      refine lv_iconst (pc := 72) (v := 0) hx hb dX11_runs_72 (by decide) ?_
      refine lv_istore (pc := 73) (lv' := [(4, .int (0 : Int32)), (0, .ref (G.1 40)), (1, .int i1), (2, .int i2), (3, .int i3)]) hx hb dX11_runs_73 hl (by decide) rfl (fun ls hl => ?_)
      exact w_X11_runs_75 X hK37 z_F i1 i2 i3 (0 : Int32) M H locs ls  hw (lv_sub hl [1, 2, 3, 4, 0] rfl) h
    · replace h := z_f c1 h
      refine lv_aload_n (pc := 58) hx hb dX11_runs_58 rfl (lv_at hl 0 rfl) ?_
      refine zg_DrinkingRoofsModel_above (pc := 59) X hw zw_fl_5_100 dX11_runs_59 ?_
      refine lv_iload (pc := 62) hx hb dX11_runs_62 (lv_at hl 4 rfl) ?_
      refine lv_iconst (pc := 64) (v := 0) hx hb dX11_runs_64 (by decide) ?_
      obtain ⟨g2, h⟩ := z_gd h
      refine z_iast (pc := 65) X hw zk_57 zl_57 g2 dX11_runs_65 (fun HM3 lM3 wM3 => ?_)
      obtain ⟨M3, eM3, h⟩ := z_lo h
      rw [← eM3] at wM3
      obtain ⟨v4, ev4, h⟩ := z_lo h
      refine lv_iinc (pc := 66) (v := v4) (lv' := [(4, .int v4), (0, .ref (G.1 40)), (1, .int i1), (2, .int i2), (3, .int i3)]) hx hb dX11_runs_66 hl (k := 4) rfl (by rw [ev4]; rfl) (by decide) rfl (fun ls hl => ?_)
      refine lv_goto (pc := 69) (tgt := 49) hx hb dX11_runs_69 (by decide) ?_
      exact ih i1 i2 i3 v4 M3 HM3 lM3 ls  wM3 (lv_sub hl [1, 2, 3, 4, 0] rfl) h
set_option maxHeartbeats 4000000 in
set_option maxRecDepth 100000 in
theorem w_X11_runs_37 {G : zG} {p : Program} {l : Launch} {e : Env} {s : State} {m : MethodId} {args : Array Value} {below : List Frame} {meth : Method} {c : Code} (X : z_C G p s m args meth c cX11_runs 9 RX11 (some .int)) {r : Int32 × zM} : ∀ (n : Nat) (i1 : Int32) (i2 : Int32) (i3 : Int32) (M : zM) (H : Heap) (locs : List Loc) (ls : Array Slot), z_W G M H locs → lv_has ls 9 [(0, .ref (G.1 40)), (1, .int i1), (2, .int i2), (3, .int i3)] → f_X11_runs_37 n i1 i2 i3 M = some r → W p l e (z_rm 2) s m args below meth c H locs 0 0 (z_Q G below args s (some (.int r.1)) r.2) (F0 m 37 ls []) := by
  have hx := X.1
  have hb := X.2.1
  intro n
  induction n with
  | zero =>
    intro i1 i2 i3 M H locs ls  hw hl h
    exact z_no h
  | succ n ih =>
    intro i1 i2 i3 M H locs ls  hw hl h
    rw [f_X11_runs_37] at h
    refine lv_iload_n (pc := 37) hx hb dX11_runs_37 rfl (lv_at hl 3 rfl) ?_
    refine lv_aload_n (pc := 38) hx hb dX11_runs_38 rfl (lv_at hl 0 rfl) ?_
    refine lv_iload_n (pc := 39) hx hb dX11_runs_39 rfl (lv_at hl 1 rfl) ?_
    obtain ⟨x1, ex1, h⟩ := z_bd h
    refine z_cvI (pc := 40) (rest := [.int i3]) X hw (m_X11_hoursOf  ex1) (z_lt zk_40 (by decide)) (z_E11 zk_40) rfl zw_ml_6_0 zw_im_6_2 zw_se_S_38 zw_in_1_12 zw_co_6_3 zd_X11_hoursOf (by decide) rfl hl.1 rfl (Nat.le_of_ble_eq_true rfl) dX11_runs_40 ⟨Nat.zero_le _, Nat.zero_le _⟩ (fun Hx1 lx1 wx1 => ?_)
    refine lv_icmp_ge (pc := 43) (tgt := 326) hx hb dX11_runs_43 (by decide) (fun c2 => ?_) (fun c2 => ?_)
    · replace h := z_t c2 h
      refine lv_iload_n (pc := 326) hx hb dX11_runs_326 rfl (lv_at hl 2 rfl) ?_
      obtain rfl := Option.some.inj h
      exact z_ri (pc := 327) X wx1 dX11_runs_327
    · replace h := z_f c2 h
      refine lv_iconst (pc := 46) (v := 0) hx hb dX11_runs_46 (by decide) ?_
      refine lv_istore (pc := 47) (lv' := [(4, .int (0 : Int32)), (0, .ref (G.1 40)), (1, .int i1), (2, .int i2), (3, .int i3)]) hx hb dX11_runs_47 hl (by decide) rfl (fun ls hl => ?_)
      exact w_X11_runs_49 X ih z_F i1 i2 i3 (0 : Int32) x1.2 Hx1 lx1 ls  wx1 (lv_sub hl [1, 2, 3, 4, 0] rfl) h
set_option maxHeartbeats 4000000 in
set_option maxRecDepth 100000 in
theorem w_X11_runs_14 {G : zG} {p : Program} {l : Launch} {e : Env} {s : State} {m : MethodId} {args : Array Value} {below : List Frame} {meth : Method} {c : Code} (X : z_C G p s m args meth c cX11_runs 9 RX11 (some .int)) {r : Int32 × zM} : ∀ (n : Nat) (i1 : Int32) (i2 : Int32) (i3 : Int32) (M : zM) (H : Heap) (locs : List Loc) (ls : Array Slot), z_W G M H locs → lv_has ls 9 [(0, .ref (G.1 40)), (1, .int i1), (2, .int i2), (3, .int i3)] → f_X11_runs_14 n i1 i2 i3 M = some r → W p l e (z_rm 2) s m args below meth c H locs 0 0 (z_Q G below args s (some (.int r.1)) r.2) (F0 m 14 ls []) := by
  have hx := X.1
  have hb := X.2.1
  intro n
  induction n with
  | zero =>
    intro i1 i2 i3 M H locs ls  hw hl h
    exact z_no h
  | succ n ih =>
    intro i1 i2 i3 M H locs ls  hw hl h
    rw [f_X11_runs_14] at h
    refine lv_iload_n (pc := 14) hx hb dX11_runs_14 rfl (lv_at hl 3 rfl) ?_
    refine lv_aload_n (pc := 15) hx hb dX11_runs_15 rfl (lv_at hl 0 rfl) ?_
    refine zg_DrinkingRoofsModel_many (pc := 16) X hw zw_fl_5_101 dX11_runs_16 ?_
    refine lv_icmp_ge (pc := 19) (tgt := 35) hx hb dX11_runs_19 (by decide) (fun c1 => ?_) (fun c1 => ?_)
    · replace h := z_t c1 h
      refine lv_iconst (pc := 35) (v := 0) hx hb dX11_runs_35 (by decide) ?_
      refine lv_istore_n (pc := 36) (lv' := [(3, .int (0 : Int32)), (0, .ref (G.1 40)), (1, .int i1), (2, .int i2)]) hx hb dX11_runs_36 rfl hl (by decide) rfl (fun ls hl => ?_)
      exact w_X11_runs_37 X z_F i1 i2 (0 : Int32) M H locs ls  hw (lv_sub hl [1, 2, 3, 0] rfl) h
    · replace h := z_f c1 h
      refine lv_aload_n (pc := 22) hx hb dX11_runs_22 rfl (lv_at hl 0 rfl) ?_
      refine zg_DrinkingRoofsModel_over (pc := 23) X hw zw_fl_5_99 dX11_runs_23 ?_
      refine lv_iload_n (pc := 26) hx hb dX11_runs_26 rfl (lv_at hl 3 rfl) ?_
      refine lv_iconst (pc := 27) (v := 0) hx hb dX11_runs_27 (by decide) ?_
      obtain ⟨g2, h⟩ := z_gd h
      refine z_iast (pc := 28) X hw zk_56 zl_56 g2 dX11_runs_28 (fun HM3 lM3 wM3 => ?_)
      obtain ⟨M3, eM3, h⟩ := z_lo h
      rw [← eM3] at wM3
      obtain ⟨v4, ev4, h⟩ := z_lo h
      refine lv_iinc (pc := 29) (v := v4) (lv' := [(3, .int v4), (0, .ref (G.1 40)), (1, .int i1), (2, .int i2)]) hx hb dX11_runs_29 hl (k := 3) rfl (by rw [ev4]; rfl) (by decide) rfl (fun ls hl => ?_)
      refine lv_goto (pc := 32) (tgt := 14) hx hb dX11_runs_32 (by decide) ?_
      exact ih i1 i2 v4 M3 HM3 lM3 ls  wM3 (lv_sub hl [1, 2, 3, 0] rfl) h
set_option maxHeartbeats 4000000 in
set_option maxRecDepth 100000 in
theorem m_X11_runs {l : Launch} {G : zG} {i1 : Int32} {M : zM} {r : Int32 × zM} (h : f_X11_runs i1 M = some r) : z_T l G 2 yX11_runs (.code yX11_runs cX11_runs 9 (some .int)) [.ref (G.1 40), .int i1] M (some (.int r.1)) r.2 := by
  refine z_of rfl ?_
  intro p e s m below meth c X hw
  have hl := lv_entry [.ref (G.1 40), .int i1] (n := 9) (Nat.le_of_ble_eq_true rfl)
  rw [lg_entry_eq]
  generalize (lg_sl [.ref (G.1 40), .int i1] ++ List.replicate (9 - (lg_sl [.ref (G.1 40), .int i1]).length) Slot.unset).toArray = ls at hl ⊢
  have hl : lv_has ls 9 [(0, .ref (G.1 40)), (1, .int i1)] := hl
  generalize ([.ref (G.1 40), .int i1] : List Value).toArray = args at X ⊢
  have X : z_C G p s m args meth c cX11_runs 9 RX11 (some .int) := X
  have hx := X.1
  have hb := X.2.1
  unfold f_X11_runs at h
  refine lv_iconst (pc := 0) (v := 0) hx hb dX11_runs_0 (by decide) ?_
  refine lv_istore_n (pc := 1) (lv' := [(2, .int (0 : Int32)), (0, .ref (G.1 40)), (1, .int i1)]) hx hb dX11_runs_1 rfl hl (by decide) rfl (fun ls hl => ?_)
  refine lv_aload_n (pc := 2) hx hb dX11_runs_2 rfl (lv_at hl 1 rfl) ?_
  refine lv_iconst (pc := 3) (v := 0) hx hb dX11_runs_3 (by decide) ?_
  refine zp_DrinkingRoofsModel_drained (pc := 4) X hw zw_fl_5_102 dX11_runs_4 (fun HM1 lM1 wM1 => ?_)
  obtain ⟨M1, eM1, h⟩ := z_lo h
  rw [← eM1] at wM1
  refine lv_aload_n (pc := 7) hx hb dX11_runs_7 rfl (lv_at hl 1 rfl) ?_
  refine lv_iconst (pc := 8) (v := 0) hx hb dX11_runs_8 (by decide) ?_
  refine zp_DrinkingRoofsModel_fell (pc := 9) X wM1 zw_fl_5_103 dX11_runs_9 (fun HM2 lM2 wM2 => ?_)
  obtain ⟨M2, eM2, h⟩ := z_lo h
  rw [← eM2] at wM2
  refine lv_iconst (pc := 12) (v := 0) hx hb dX11_runs_12 (by decide) ?_
  refine lv_istore_n (pc := 13) (lv' := [(3, .int (0 : Int32)), (2, .int (0 : Int32)), (0, .ref (G.1 40)), (1, .int i1)]) hx hb dX11_runs_13 rfl hl (by decide) rfl (fun ls hl => ?_)
  exact w_X11_runs_14 X z_F i1 (0 : Int32) (0 : Int32) M2 HM2 lM2 ls  wM2 (lv_sub hl [2, 3, 1, 0] rfl) h
def f_X11_pays_190 (K127 : Int32 → zM → Option (Int32 × zM)) (i3 : Int32) (M : zM) : Option (Int32 × zM) :=
    z_g (z_ix ((815 : Int32) + i3) 1700) <|
    z_g (z_ix ((835 : Int32) + i3) 1700) <|
    (f_X11_comesTo (M.1 41 (Int32.toNatClampNeg ((815 : Int32) + i3))) (M.1 41 (Int32.toNatClampNeg ((835 : Int32) + i3))) M).bind fun x3 =>
    (f_X11_least (9999 : Int32) x3.1 x3.2).bind fun x4 =>
    (f_X11_most (0 : Int32) x4.1 x4.2).bind fun x5 =>
    some (x5.1, x5.2)
def f_X11_pays_127 : Nat → Int32 → zM → Option (Int32 × zM)
  | 0, _, _ => none
  | n + 1, i3, M =>
    if (M.1 41 (Int32.toNatClampNeg (810 : Int32))) ≤ i3 then (
      some ((0 : Int32), M)
    ) else (
      z_g (z_ix ((855 : Int32) + i3) 1700) <|
      z_g (z_ix ((835 : Int32) + i3) 1700) <|
      if (M.1 41 (Int32.toNatClampNeg ((855 : Int32) + i3))) = (M.1 41 (Int32.toNatClampNeg ((835 : Int32) + i3))) then (
        f_X11_pays_190 (f_X11_pays_127 n) i3 M
      ) else (
        z_g (z_ix ((835 : Int32) + i3) 1700) <|
        z_g (z_ix ((855 : Int32) + i3) 1700) <|
        (f_X11_comesTo (M.1 41 (Int32.toNatClampNeg ((835 : Int32) + i3))) (M.1 41 (Int32.toNatClampNeg ((855 : Int32) + i3))) M).bind fun x7 =>
        if x7.1 = (1 : Int32) then (
          f_X11_pays_190 (f_X11_pays_127 n) i3 x7.2
        ) else (
          z_l (i3 + (1 : Int32)) fun v9 =>
          f_X11_pays_127 n v9 x7.2
        )
      )
    )
def f_X11_pays_97 (i1 : Int32) (sk0 : Nat) (si1 : Int32) (si2 : Int32) (M : zM) : Option (Int32 × zM) :=
    z_g (z_ix si1 (z_ln sk0)) <|
    z_l (z_w M sk0 (Int32.toNatClampNeg si1) si2) fun M2 =>
    (f_X11_own i1 (0 : Int32) M2).bind fun x3 =>
    z_l (z_w x3.2 47 (Int32.toNatClampNeg (7 : Int32)) x3.1) fun M4 =>
    (f_X11_own i1 (8 : Int32) M4).bind fun x5 =>
    z_l (z_w x5.2 47 (Int32.toNatClampNeg (8 : Int32)) x5.1) fun M6 =>
    f_X11_pays_127 z_F (0 : Int32) M6
def f_X11_pays_56 (i1 : Int32) (i2 : Int32) (sk0 : Nat) (si1 : Int32) (si2 : Int32) (M : zM) : Option (Int32 × zM) :=
    z_g (z_ix si1 (z_ln sk0)) <|
    z_l (z_w M sk0 (Int32.toNatClampNeg si1) si2) fun M2 =>
    if i2 ≤ i1 then (
      z_l (z_w M2 47 (Int32.toNatClampNeg (5 : Int32)) ((i1 - i2) - (1 : Int32))) fun M4 =>
      if i2 ≤ i1 then (
        f_X11_pays_97 i1 47 (6 : Int32) (0 : Int32) M4
      ) else (
        f_X11_pays_97 i1 47 (6 : Int32) (1 : Int32) M4
      )
    ) else (
      z_l (z_w M2 47 (Int32.toNatClampNeg (5 : Int32)) ((i2 - i1) - (1 : Int32))) fun M6 =>
      if i2 ≤ i1 then (
        f_X11_pays_97 i1 47 (6 : Int32) (0 : Int32) M6
      ) else (
        f_X11_pays_97 i1 47 (6 : Int32) (1 : Int32) M6
      )
    )
def f_X11_pays (i1 : Int32) (i2 : Int32) (M : zM) : Option (Int32 × zM) :=
  z_g (z_ix i2 11) <|
  z_l (z_w M 47 (Int32.toNatClampNeg (1 : Int32)) (M.1 56 (Int32.toNatClampNeg i2))) fun M2 =>
  (f_X11_own i1 (5 : Int32) M2).bind fun x3 =>
  z_l (z_w x3.2 47 (Int32.toNatClampNeg (2 : Int32)) x3.1) fun M4 =>
  (f_X11_own i2 (5 : Int32) M4).bind fun x5 =>
  z_l (z_w x5.2 47 (Int32.toNatClampNeg (3 : Int32)) x5.1) fun M6 =>
  (f_X11_own i1 (4 : Int32) M6).bind fun x7 =>
  if x7.1 = i2 then (
    f_X11_pays_56 i1 i2 47 (4 : Int32) (1 : Int32) x7.2
  ) else (
    f_X11_pays_56 i1 i2 47 (4 : Int32) (0 : Int32) x7.2
  )
set_option maxHeartbeats 4000000 in
set_option maxRecDepth 100000 in
theorem w_X11_pays_190 {G : zG} {p : Program} {l : Launch} {e : Env} {s : State} {m : MethodId} {args : Array Value} {below : List Frame} {meth : Method} {c : Code} (X : z_C G p s m args meth c cX11_pays 4 RX11 (some .int)) {r : Int32 × zM} {K127 : Int32 → zM → Option (Int32 × zM)} (hK127 : ∀ (i3 : Int32) (M : zM) (H : Heap) (locs : List Loc) (ls : Array Slot), z_W G M H locs → lv_has ls 4 [(0, .ref (G.1 40)), (3, .int i3)] → K127 i3 M = some r → W p l e (z_rm 2) s m args below meth c H locs 0 0 (z_Q G below args s (some (.int r.1)) r.2) (F0 m 127 ls [])) : ∀ (i3 : Int32) (M : zM) (H : Heap) (locs : List Loc) (ls : Array Slot), z_W G M H locs → lv_has ls 4 [(0, .ref (G.1 40)), (3, .int i3)] → f_X11_pays_190 K127 i3 M = some r → W p l e (z_rm 2) s m args below meth c H locs 0 0 (z_Q G below args s (some (.int r.1)) r.2) (F0 m 190 ls []) := by
  have hx := X.1
  have hb := X.2.1
  intro i3 M H locs ls  hw hl h
  unfold f_X11_pays_190 at h
  refine lv_iconst (pc := 190) (v := 0) hx hb dX11_pays_190 (by decide) ?_
  refine lv_sipush (pc := 191) (v := 9999) hx hb dX11_pays_191 (by decide) ?_
  refine lv_aload_n (pc := 194) hx hb dX11_pays_194 rfl (lv_at hl 0 rfl) ?_
  refine lv_aload_n (pc := 195) hx hb dX11_pays_195 rfl (lv_at hl 0 rfl) ?_
  refine zg_DrinkingRoofsModel_w (pc := 196) X hw zw_fl_5_71 dX11_pays_196 ?_
  refine lv_sipush (pc := 199) (v := 815) hx hb dX11_pays_199 (by decide) ?_
  refine lv_iload_n (pc := 202) hx hb dX11_pays_202 rfl (lv_at hl 1 rfl) ?_
  refine lv_iadd (pc := 203) hx hb dX11_pays_203 ?_
  obtain ⟨g1, h⟩ := z_gd h
  refine z_iald (pc := 204) X hw zk_41 zl_41 g1 dX11_pays_204 ?_
  refine lv_aload_n (pc := 205) hx hb dX11_pays_205 rfl (lv_at hl 0 rfl) ?_
  refine zg_DrinkingRoofsModel_w (pc := 206) X hw zw_fl_5_71 dX11_pays_206 ?_
  refine lv_sipush (pc := 209) (v := 835) hx hb dX11_pays_209 (by decide) ?_
  refine lv_iload_n (pc := 212) hx hb dX11_pays_212 rfl (lv_at hl 1 rfl) ?_
  refine lv_iadd (pc := 213) hx hb dX11_pays_213 ?_
  obtain ⟨g2, h⟩ := z_gd h
  refine z_iald (pc := 214) X hw zk_41 zl_41 g2 dX11_pays_214 ?_
  obtain ⟨x3, ex3, h⟩ := z_bd h
  refine z_cvI (pc := 215) (rest := [.int (9999 : Int32), .int (0 : Int32)]) X hw (m_X11_comesTo  ex3) (z_lt zk_40 (by decide)) (z_E11 zk_40) rfl zw_ml_6_147 zw_im_6_149 zw_se_S_63 zw_in_1_12 zw_co_6_150 zd_X11_comesTo (by decide) rfl hl.1 rfl (Nat.le_of_ble_eq_true rfl) dX11_pays_215 ⟨Nat.zero_le _, Nat.zero_le _⟩ (fun Hx3 lx3 wx3 => ?_)
  obtain ⟨x4, ex4, h⟩ := z_bd h
  refine z_csI (pc := 218) (rest := [.int (0 : Int32)]) X wx3 (m_X11_least  ex4) zw_ml_6_129 zw_st_6_130 zw_in_1_12 zw_co_6_131 zd_X11_least (by decide) rfl hl.1 rfl (Nat.le_of_ble_eq_true rfl) dX11_pays_218 ⟨Nat.zero_le _, Nat.zero_le _⟩ (fun Hx4 lx4 wx4 => ?_)
  obtain ⟨x5, ex5, h⟩ := z_bd h
  refine z_csI (pc := 221) (rest := []) X wx4 (m_X11_most  ex5) zw_ml_6_136 zw_st_6_137 zw_in_1_12 zw_co_6_138 zd_X11_most (by decide) rfl hl.1 rfl (Nat.le_of_ble_eq_true rfl) dX11_pays_221 ⟨Nat.zero_le _, Nat.zero_le _⟩ (fun Hx5 lx5 wx5 => ?_)
  obtain rfl := Option.some.inj h
  exact z_ri (pc := 224) X wx5 dX11_pays_224
set_option maxHeartbeats 4000000 in
set_option maxRecDepth 100000 in
theorem w_X11_pays_127 {G : zG} {p : Program} {l : Launch} {e : Env} {s : State} {m : MethodId} {args : Array Value} {below : List Frame} {meth : Method} {c : Code} (X : z_C G p s m args meth c cX11_pays 4 RX11 (some .int)) {r : Int32 × zM} : ∀ (n : Nat) (i3 : Int32) (M : zM) (H : Heap) (locs : List Loc) (ls : Array Slot), z_W G M H locs → lv_has ls 4 [(0, .ref (G.1 40)), (3, .int i3)] → f_X11_pays_127 n i3 M = some r → W p l e (z_rm 2) s m args below meth c H locs 0 0 (z_Q G below args s (some (.int r.1)) r.2) (F0 m 127 ls []) := by
  have hx := X.1
  have hb := X.2.1
  intro n
  induction n with
  | zero =>
    intro i3 M H locs ls  hw hl h
    exact z_no h
  | succ n ih =>
    intro i3 M H locs ls  hw hl h
    rw [f_X11_pays_127] at h
    refine lv_iload_n (pc := 127) hx hb dX11_pays_127 rfl (lv_at hl 1 rfl) ?_
    refine lv_aload_n (pc := 128) hx hb dX11_pays_128 rfl (lv_at hl 0 rfl) ?_
    refine zg_DrinkingRoofsModel_w (pc := 129) X hw zw_fl_5_71 dX11_pays_129 ?_
    refine lv_sipush (pc := 132) (v := 810) hx hb dX11_pays_132 (by decide) ?_
    refine z_iald (pc := 135) X hw zk_41 zl_41 (z_il (by decide)) dX11_pays_135 ?_
    refine lv_icmp_ge (pc := 136) (tgt := 231) hx hb dX11_pays_136 (by decide) (fun c1 => ?_) (fun c1 => ?_)
    · replace h := z_t c1 h
      refine lv_iconst (pc := 231) (v := 0) hx hb dX11_pays_231 (by decide) ?_
      obtain rfl := Option.some.inj h
      exact z_ri (pc := 232) X hw dX11_pays_232
    · replace h := z_f c1 h
      refine lv_aload_n (pc := 139) hx hb dX11_pays_139 rfl (lv_at hl 0 rfl) ?_
      refine zg_DrinkingRoofsModel_w (pc := 140) X hw zw_fl_5_71 dX11_pays_140 ?_
      refine lv_sipush (pc := 143) (v := 855) hx hb dX11_pays_143 (by decide) ?_
      refine lv_iload_n (pc := 146) hx hb dX11_pays_146 rfl (lv_at hl 1 rfl) ?_
      refine lv_iadd (pc := 147) hx hb dX11_pays_147 ?_
      obtain ⟨g2, h⟩ := z_gd h
      refine z_iald (pc := 148) X hw zk_41 zl_41 g2 dX11_pays_148 ?_
      refine lv_aload_n (pc := 149) hx hb dX11_pays_149 rfl (lv_at hl 0 rfl) ?_
      refine zg_DrinkingRoofsModel_w (pc := 150) X hw zw_fl_5_71 dX11_pays_150 ?_
      refine lv_sipush (pc := 153) (v := 835) hx hb dX11_pays_153 (by decide) ?_
      refine lv_iload_n (pc := 156) hx hb dX11_pays_156 rfl (lv_at hl 1 rfl) ?_
      refine lv_iadd (pc := 157) hx hb dX11_pays_157 ?_
      obtain ⟨g3, h⟩ := z_gd h
      refine z_iald (pc := 158) X hw zk_41 zl_41 g3 dX11_pays_158 ?_
      refine lv_icmp_eq (pc := 159) (tgt := 190) hx hb dX11_pays_159 (by decide) (fun c4 => ?_) (fun c4 => ?_)
      · replace h := z_t c4 h
        exact w_X11_pays_190 X ih i3 M H locs ls  hw (lv_sub hl [0, 1] rfl) h
      · replace h := z_f c4 h
        refine lv_aload_n (pc := 162) hx hb dX11_pays_162 rfl (lv_at hl 0 rfl) ?_
        refine lv_aload_n (pc := 163) hx hb dX11_pays_163 rfl (lv_at hl 0 rfl) ?_
        refine zg_DrinkingRoofsModel_w (pc := 164) X hw zw_fl_5_71 dX11_pays_164 ?_
        refine lv_sipush (pc := 167) (v := 835) hx hb dX11_pays_167 (by decide) ?_
        refine lv_iload_n (pc := 170) hx hb dX11_pays_170 rfl (lv_at hl 1 rfl) ?_
        refine lv_iadd (pc := 171) hx hb dX11_pays_171 ?_
        obtain ⟨g5, h⟩ := z_gd h
        refine z_iald (pc := 172) X hw zk_41 zl_41 g5 dX11_pays_172 ?_
        refine lv_aload_n (pc := 173) hx hb dX11_pays_173 rfl (lv_at hl 0 rfl) ?_
        refine zg_DrinkingRoofsModel_w (pc := 174) X hw zw_fl_5_71 dX11_pays_174 ?_
        refine lv_sipush (pc := 177) (v := 855) hx hb dX11_pays_177 (by decide) ?_
        refine lv_iload_n (pc := 180) hx hb dX11_pays_180 rfl (lv_at hl 1 rfl) ?_
        refine lv_iadd (pc := 181) hx hb dX11_pays_181 ?_
        obtain ⟨g6, h⟩ := z_gd h
        refine z_iald (pc := 182) X hw zk_41 zl_41 g6 dX11_pays_182 ?_
        obtain ⟨x7, ex7, h⟩ := z_bd h
        refine z_cvI (pc := 183) (rest := []) X hw (m_X11_comesTo  ex7) (z_lt zk_40 (by decide)) (z_E11 zk_40) rfl zw_ml_6_147 zw_im_6_149 zw_se_S_63 zw_in_1_12 zw_co_6_150 zd_X11_comesTo (by decide) rfl hl.1 rfl (Nat.le_of_ble_eq_true rfl) dX11_pays_183 ⟨Nat.zero_le _, Nat.zero_le _⟩ (fun Hx7 lx7 wx7 => ?_)
        refine lv_iconst (pc := 186) (v := 1) hx hb dX11_pays_186 (by decide) ?_
        refine lv_icmp_ne (pc := 187) (tgt := 225) hx hb dX11_pays_187 (by decide) (fun c8 => ?_) (fun c8 => ?_)
        · replace h := z_f c8 h
          obtain ⟨v9, ev9, h⟩ := z_lo h
          refine lv_iinc (pc := 225) (v := v9) (lv' := [(3, .int v9), (0, .ref (G.1 40))]) hx hb dX11_pays_225 hl (k := 1) rfl (by rw [ev9]; rfl) (by decide) rfl (fun ls hl => ?_)
          refine lv_goto (pc := 228) (tgt := 127) hx hb dX11_pays_228 (by decide) ?_
          exact ih v9 x7.2 Hx7 lx7 ls  wx7 (lv_sub hl [1, 0] rfl) h
        · replace h := z_t c8 h
          exact w_X11_pays_190 X ih i3 x7.2 Hx7 lx7 ls  wx7 (lv_sub hl [0, 1] rfl) h
set_option maxHeartbeats 4000000 in
set_option maxRecDepth 100000 in
theorem w_X11_pays_97 {G : zG} {p : Program} {l : Launch} {e : Env} {s : State} {m : MethodId} {args : Array Value} {below : List Frame} {meth : Method} {c : Code} (X : z_C G p s m args meth c cX11_pays 4 RX11 (some .int)) {r : Int32 × zM} : ∀ (i1 : Int32) (sk0 : Nat) (si1 : Int32) (si2 : Int32) (M : zM) (H : Heap) (locs : List Loc) (ls : Array Slot), z_kd sk0 = 13 → z_W G M H locs → lv_has ls 4 [(0, .ref (G.1 40)), (1, .int i1)] → f_X11_pays_97 i1 sk0 si1 si2 M = some r → W p l e (z_rm 2) s m args below meth c H locs 0 0 (z_Q G below args s (some (.int r.1)) r.2) (F0 m 97 ls [.int si2, .int si1, .ref (G.1 sk0)]) := by
  have hx := X.1
  have hb := X.2.1
  intro i1 sk0 si1 si2 M H locs ls hsk0 hw hl h
  unfold f_X11_pays_97 at h
  obtain ⟨g1, h⟩ := z_gd h
  refine z_iast (pc := 97) X hw hsk0 rfl g1 dX11_pays_97 (fun HM2 lM2 wM2 => ?_)
  obtain ⟨M2, eM2, h⟩ := z_lo h
  rw [← eM2] at wM2
  refine lv_aload_n (pc := 98) hx hb dX11_pays_98 rfl (lv_at hl 0 rfl) ?_
  refine zg_DrinkingRoofsModel_facts (pc := 99) X wM2 zw_fl_5_78 dX11_pays_99 ?_
  refine lv_bipush (pc := 102) (v := 7) hx hb dX11_pays_102 (by decide) ?_
  refine lv_aload_n (pc := 104) hx hb dX11_pays_104 rfl (lv_at hl 0 rfl) ?_
  refine lv_iload_n (pc := 105) hx hb dX11_pays_105 rfl (lv_at hl 1 rfl) ?_
  refine lv_iconst (pc := 106) (v := 0) hx hb dX11_pays_106 (by decide) ?_
  obtain ⟨x3, ex3, h⟩ := z_bd h
  refine z_cvI (pc := 107) (rest := [.int (7 : Int32), .ref (G.1 47)]) X wM2 (m_X11_own  ex3) (z_lt zk_40 (by decide)) (z_E11 zk_40) rfl zw_ml_6_113 zw_im_6_115 zw_se_S_56 zw_in_1_12 zw_co_6_116 zd_X11_own (by decide) rfl hl.1 rfl (Nat.le_of_ble_eq_true rfl) dX11_pays_107 ⟨Nat.zero_le _, Nat.zero_le _⟩ (fun Hx3 lx3 wx3 => ?_)
  refine z_iast (pc := 110) X wx3 zk_47 zl_47 (z_il (by decide)) dX11_pays_110 (fun HM4 lM4 wM4 => ?_)
  obtain ⟨M4, eM4, h⟩ := z_lo h
  rw [← eM4] at wM4
  refine lv_aload_n (pc := 111) hx hb dX11_pays_111 rfl (lv_at hl 0 rfl) ?_
  refine zg_DrinkingRoofsModel_facts (pc := 112) X wM4 zw_fl_5_78 dX11_pays_112 ?_
  refine lv_bipush (pc := 115) (v := 8) hx hb dX11_pays_115 (by decide) ?_
  refine lv_aload_n (pc := 117) hx hb dX11_pays_117 rfl (lv_at hl 0 rfl) ?_
  refine lv_iload_n (pc := 118) hx hb dX11_pays_118 rfl (lv_at hl 1 rfl) ?_
  refine lv_bipush (pc := 119) (v := 8) hx hb dX11_pays_119 (by decide) ?_
  obtain ⟨x5, ex5, h⟩ := z_bd h
  refine z_cvI (pc := 121) (rest := [.int (8 : Int32), .ref (G.1 47)]) X wM4 (m_X11_own  ex5) (z_lt zk_40 (by decide)) (z_E11 zk_40) rfl zw_ml_6_113 zw_im_6_115 zw_se_S_56 zw_in_1_12 zw_co_6_116 zd_X11_own (by decide) rfl hl.1 rfl (Nat.le_of_ble_eq_true rfl) dX11_pays_121 ⟨Nat.zero_le _, Nat.zero_le _⟩ (fun Hx5 lx5 wx5 => ?_)
  refine z_iast (pc := 124) X wx5 zk_47 zl_47 (z_il (by decide)) dX11_pays_124 (fun HM6 lM6 wM6 => ?_)
  obtain ⟨M6, eM6, h⟩ := z_lo h
  rw [← eM6] at wM6
  refine lv_iconst (pc := 125) (v := 0) hx hb dX11_pays_125 (by decide) ?_
  refine lv_istore_n (pc := 126) (lv' := [(3, .int (0 : Int32)), (0, .ref (G.1 40)), (1, .int i1)]) hx hb dX11_pays_126 rfl hl (by decide) rfl (fun ls hl => ?_)
  exact w_X11_pays_127 X z_F (0 : Int32) M6 HM6 lM6 ls  wM6 (lv_sub hl [1, 0] rfl) h
set_option maxHeartbeats 4000000 in
set_option maxRecDepth 100000 in
theorem w_X11_pays_56 {G : zG} {p : Program} {l : Launch} {e : Env} {s : State} {m : MethodId} {args : Array Value} {below : List Frame} {meth : Method} {c : Code} (X : z_C G p s m args meth c cX11_pays 4 RX11 (some .int)) {r : Int32 × zM} : ∀ (i1 : Int32) (i2 : Int32) (sk0 : Nat) (si1 : Int32) (si2 : Int32) (M : zM) (H : Heap) (locs : List Loc) (ls : Array Slot), z_kd sk0 = 13 → z_W G M H locs → lv_has ls 4 [(0, .ref (G.1 40)), (1, .int i1), (2, .int i2)] → f_X11_pays_56 i1 i2 sk0 si1 si2 M = some r → W p l e (z_rm 2) s m args below meth c H locs 0 0 (z_Q G below args s (some (.int r.1)) r.2) (F0 m 56 ls [.int si2, .int si1, .ref (G.1 sk0)]) := by
  have hx := X.1
  have hb := X.2.1
  intro i1 i2 sk0 si1 si2 M H locs ls hsk0 hw hl h
  unfold f_X11_pays_56 at h
  obtain ⟨g1, h⟩ := z_gd h
  refine z_iast (pc := 56) X hw hsk0 rfl g1 dX11_pays_56 (fun HM2 lM2 wM2 => ?_)
  obtain ⟨M2, eM2, h⟩ := z_lo h
  rw [← eM2] at wM2
  refine lv_aload_n (pc := 57) hx hb dX11_pays_57 rfl (lv_at hl 0 rfl) ?_
  refine zg_DrinkingRoofsModel_facts (pc := 58) X wM2 zw_fl_5_78 dX11_pays_58 ?_
  refine lv_iconst (pc := 61) (v := 5) hx hb dX11_pays_61 (by decide) ?_
  refine lv_iload_n (pc := 62) hx hb dX11_pays_62 rfl (lv_at hl 1 rfl) ?_
  refine lv_iload_n (pc := 63) hx hb dX11_pays_63 rfl (lv_at hl 2 rfl) ?_
  refine lv_icmp_ge (pc := 64) (tgt := 75) hx hb dX11_pays_64 (by decide) (fun c3 => ?_) (fun c3 => ?_)
  · replace h := z_t c3 h
    refine lv_iload_n (pc := 75) hx hb dX11_pays_75 rfl (lv_at hl 1 rfl) ?_
    refine lv_iload_n (pc := 76) hx hb dX11_pays_76 rfl (lv_at hl 2 rfl) ?_
    refine lv_isub (pc := 77) hx hb dX11_pays_77 ?_
    refine lv_iconst (pc := 78) (v := 1) hx hb dX11_pays_78 (by decide) ?_
    refine lv_isub (pc := 79) hx hb dX11_pays_79 ?_
    refine z_iast (pc := 80) X wM2 zk_47 zl_47 (z_il (by decide)) dX11_pays_80 (fun HM4 lM4 wM4 => ?_)
    obtain ⟨M4, eM4, h⟩ := z_lo h
    rw [← eM4] at wM4
    refine lv_aload_n (pc := 81) hx hb dX11_pays_81 rfl (lv_at hl 0 rfl) ?_
    refine zg_DrinkingRoofsModel_facts (pc := 82) X wM4 zw_fl_5_78 dX11_pays_82 ?_
    refine lv_bipush (pc := 85) (v := 6) hx hb dX11_pays_85 (by decide) ?_
    refine lv_iload_n (pc := 87) hx hb dX11_pays_87 rfl (lv_at hl 1 rfl) ?_
    refine lv_iload_n (pc := 88) hx hb dX11_pays_88 rfl (lv_at hl 2 rfl) ?_
    refine lv_icmp_ge (pc := 89) (tgt := 96) hx hb dX11_pays_89 (by decide) (fun c5 => ?_) (fun c5 => ?_)
    · replace h := z_t c5 h
      refine lv_iconst (pc := 96) (v := 0) hx hb dX11_pays_96 (by decide) ?_
      exact w_X11_pays_97 X i1 47 (6 : Int32) (0 : Int32) M4 HM4 lM4 ls zk_47 wM4 (lv_sub hl [0, 1] rfl) h
    · replace h := z_f c5 h
      refine lv_iconst (pc := 92) (v := 1) hx hb dX11_pays_92 (by decide) ?_
      refine lv_goto (pc := 93) (tgt := 97) hx hb dX11_pays_93 (by decide) ?_
      exact w_X11_pays_97 X i1 47 (6 : Int32) (1 : Int32) M4 HM4 lM4 ls zk_47 wM4 (lv_sub hl [0, 1] rfl) h
  · replace h := z_f c3 h
    refine lv_iload_n (pc := 67) hx hb dX11_pays_67 rfl (lv_at hl 2 rfl) ?_
    refine lv_iload_n (pc := 68) hx hb dX11_pays_68 rfl (lv_at hl 1 rfl) ?_
    refine lv_isub (pc := 69) hx hb dX11_pays_69 ?_
    refine lv_iconst (pc := 70) (v := 1) hx hb dX11_pays_70 (by decide) ?_
    refine lv_isub (pc := 71) hx hb dX11_pays_71 ?_
    refine lv_goto (pc := 72) (tgt := 80) hx hb dX11_pays_72 (by decide) ?_
    refine z_iast (pc := 80) X wM2 zk_47 zl_47 (z_il (by decide)) dX11_pays_80 (fun HM6 lM6 wM6 => ?_)
    obtain ⟨M6, eM6, h⟩ := z_lo h
    rw [← eM6] at wM6
    refine lv_aload_n (pc := 81) hx hb dX11_pays_81 rfl (lv_at hl 0 rfl) ?_
    refine zg_DrinkingRoofsModel_facts (pc := 82) X wM6 zw_fl_5_78 dX11_pays_82 ?_
    refine lv_bipush (pc := 85) (v := 6) hx hb dX11_pays_85 (by decide) ?_
    refine lv_iload_n (pc := 87) hx hb dX11_pays_87 rfl (lv_at hl 1 rfl) ?_
    refine lv_iload_n (pc := 88) hx hb dX11_pays_88 rfl (lv_at hl 2 rfl) ?_
    refine lv_icmp_ge (pc := 89) (tgt := 96) hx hb dX11_pays_89 (by decide) (fun c7 => ?_) (fun c7 => ?_)
    · replace h := z_t c7 h
      refine lv_iconst (pc := 96) (v := 0) hx hb dX11_pays_96 (by decide) ?_
      exact w_X11_pays_97 X i1 47 (6 : Int32) (0 : Int32) M6 HM6 lM6 ls zk_47 wM6 (lv_sub hl [0, 1] rfl) h
    · replace h := z_f c7 h
      refine lv_iconst (pc := 92) (v := 1) hx hb dX11_pays_92 (by decide) ?_
      refine lv_goto (pc := 93) (tgt := 97) hx hb dX11_pays_93 (by decide) ?_
      exact w_X11_pays_97 X i1 47 (6 : Int32) (1 : Int32) M6 HM6 lM6 ls zk_47 wM6 (lv_sub hl [0, 1] rfl) h
set_option maxHeartbeats 4000000 in
set_option maxRecDepth 100000 in
theorem m_X11_pays {l : Launch} {G : zG} {i1 : Int32} {i2 : Int32} {M : zM} {r : Int32 × zM} (h : f_X11_pays i1 i2 M = some r) : z_T l G 2 yX11_pays (.code yX11_pays cX11_pays 4 (some .int)) [.ref (G.1 40), .int i1, .int i2] M (some (.int r.1)) r.2 := by
  refine z_of rfl ?_
  intro p e s m below meth c X hw
  have hl := lv_entry [.ref (G.1 40), .int i1, .int i2] (n := 4) (Nat.le_of_ble_eq_true rfl)
  rw [lg_entry_eq]
  generalize (lg_sl [.ref (G.1 40), .int i1, .int i2] ++ List.replicate (4 - (lg_sl [.ref (G.1 40), .int i1, .int i2]).length) Slot.unset).toArray = ls at hl ⊢
  have hl : lv_has ls 4 [(0, .ref (G.1 40)), (1, .int i1), (2, .int i2)] := hl
  generalize ([.ref (G.1 40), .int i1, .int i2] : List Value).toArray = args at X ⊢
  have X : z_C G p s m args meth c cX11_pays 4 RX11 (some .int) := X
  have hx := X.1
  have hb := X.2.1
  unfold f_X11_pays at h
  refine lv_aload_n (pc := 0) hx hb dX11_pays_0 rfl (lv_at hl 0 rfl) ?_
  refine zg_DrinkingRoofsModel_facts (pc := 1) X hw zw_fl_5_78 dX11_pays_1 ?_
  refine lv_iconst (pc := 4) (v := 1) hx hb dX11_pays_4 (by decide) ?_
  refine lv_aload_n (pc := 5) hx hb dX11_pays_5 rfl (lv_at hl 0 rfl) ?_
  refine zg_DrinkingRoofsModel_over (pc := 6) X hw zw_fl_5_99 dX11_pays_6 ?_
  refine lv_iload_n (pc := 9) hx hb dX11_pays_9 rfl (lv_at hl 2 rfl) ?_
  obtain ⟨g1, h⟩ := z_gd h
  refine z_iald (pc := 10) X hw zk_56 zl_56 g1 dX11_pays_10 ?_
  refine z_iast (pc := 11) X hw zk_47 zl_47 (z_il (by decide)) dX11_pays_11 (fun HM2 lM2 wM2 => ?_)
  obtain ⟨M2, eM2, h⟩ := z_lo h
  rw [← eM2] at wM2
  refine lv_aload_n (pc := 12) hx hb dX11_pays_12 rfl (lv_at hl 0 rfl) ?_
  refine zg_DrinkingRoofsModel_facts (pc := 13) X wM2 zw_fl_5_78 dX11_pays_13 ?_
  refine lv_iconst (pc := 16) (v := 2) hx hb dX11_pays_16 (by decide) ?_
  refine lv_aload_n (pc := 17) hx hb dX11_pays_17 rfl (lv_at hl 0 rfl) ?_
  refine lv_iload_n (pc := 18) hx hb dX11_pays_18 rfl (lv_at hl 1 rfl) ?_
  refine lv_iconst (pc := 19) (v := 5) hx hb dX11_pays_19 (by decide) ?_
  obtain ⟨x3, ex3, h⟩ := z_bd h
  refine z_cvI (pc := 20) (rest := [.int (2 : Int32), .ref (G.1 47)]) X wM2 (m_X11_own  ex3) (z_lt zk_40 (by decide)) (z_E11 zk_40) rfl zw_ml_6_113 zw_im_6_115 zw_se_S_56 zw_in_1_12 zw_co_6_116 zd_X11_own (by decide) rfl hl.1 rfl (Nat.le_of_ble_eq_true rfl) dX11_pays_20 ⟨Nat.zero_le _, Nat.zero_le _⟩ (fun Hx3 lx3 wx3 => ?_)
  refine z_iast (pc := 23) X wx3 zk_47 zl_47 (z_il (by decide)) dX11_pays_23 (fun HM4 lM4 wM4 => ?_)
  obtain ⟨M4, eM4, h⟩ := z_lo h
  rw [← eM4] at wM4
  refine lv_aload_n (pc := 24) hx hb dX11_pays_24 rfl (lv_at hl 0 rfl) ?_
  refine zg_DrinkingRoofsModel_facts (pc := 25) X wM4 zw_fl_5_78 dX11_pays_25 ?_
  refine lv_iconst (pc := 28) (v := 3) hx hb dX11_pays_28 (by decide) ?_
  refine lv_aload_n (pc := 29) hx hb dX11_pays_29 rfl (lv_at hl 0 rfl) ?_
  refine lv_iload_n (pc := 30) hx hb dX11_pays_30 rfl (lv_at hl 2 rfl) ?_
  refine lv_iconst (pc := 31) (v := 5) hx hb dX11_pays_31 (by decide) ?_
  obtain ⟨x5, ex5, h⟩ := z_bd h
  refine z_cvI (pc := 32) (rest := [.int (3 : Int32), .ref (G.1 47)]) X wM4 (m_X11_own  ex5) (z_lt zk_40 (by decide)) (z_E11 zk_40) rfl zw_ml_6_113 zw_im_6_115 zw_se_S_56 zw_in_1_12 zw_co_6_116 zd_X11_own (by decide) rfl hl.1 rfl (Nat.le_of_ble_eq_true rfl) dX11_pays_32 ⟨Nat.zero_le _, Nat.zero_le _⟩ (fun Hx5 lx5 wx5 => ?_)
  refine z_iast (pc := 35) X wx5 zk_47 zl_47 (z_il (by decide)) dX11_pays_35 (fun HM6 lM6 wM6 => ?_)
  obtain ⟨M6, eM6, h⟩ := z_lo h
  rw [← eM6] at wM6
  refine lv_aload_n (pc := 36) hx hb dX11_pays_36 rfl (lv_at hl 0 rfl) ?_
  refine zg_DrinkingRoofsModel_facts (pc := 37) X wM6 zw_fl_5_78 dX11_pays_37 ?_
  refine lv_iconst (pc := 40) (v := 4) hx hb dX11_pays_40 (by decide) ?_
  refine lv_aload_n (pc := 41) hx hb dX11_pays_41 rfl (lv_at hl 0 rfl) ?_
  refine lv_iload_n (pc := 42) hx hb dX11_pays_42 rfl (lv_at hl 1 rfl) ?_
  refine lv_iconst (pc := 43) (v := 4) hx hb dX11_pays_43 (by decide) ?_
  obtain ⟨x7, ex7, h⟩ := z_bd h
  refine z_cvI (pc := 44) (rest := [.int (4 : Int32), .ref (G.1 47)]) X wM6 (m_X11_own  ex7) (z_lt zk_40 (by decide)) (z_E11 zk_40) rfl zw_ml_6_113 zw_im_6_115 zw_se_S_56 zw_in_1_12 zw_co_6_116 zd_X11_own (by decide) rfl hl.1 rfl (Nat.le_of_ble_eq_true rfl) dX11_pays_44 ⟨Nat.zero_le _, Nat.zero_le _⟩ (fun Hx7 lx7 wx7 => ?_)
  refine lv_iload_n (pc := 47) hx hb dX11_pays_47 rfl (lv_at hl 2 rfl) ?_
  refine lv_icmp_ne (pc := 48) (tgt := 55) hx hb dX11_pays_48 (by decide) (fun c8 => ?_) (fun c8 => ?_)
  · replace h := z_f c8 h
    refine lv_iconst (pc := 55) (v := 0) hx hb dX11_pays_55 (by decide) ?_
    exact w_X11_pays_56 X i1 i2 47 (4 : Int32) (0 : Int32) x7.2 Hx7 lx7 ls zk_47 wx7 (lv_sub hl [0, 1, 2] rfl) h
  · replace h := z_t c8 h
    refine lv_iconst (pc := 51) (v := 1) hx hb dX11_pays_51 (by decide) ?_
    refine lv_goto (pc := 52) (tgt := 56) hx hb dX11_pays_52 (by decide) ?_
    exact w_X11_pays_56 X i1 i2 47 (4 : Int32) (1 : Int32) x7.2 Hx7 lx7 ls zk_47 wx7 (lv_sub hl [0, 1, 2] rfl) h
def f_X11_comes_353 : Nat → Int32 → Int32 → zM → Option (Int32 × zM)
  | 0, _, _, _ => none
  | n + 1, i2, i4, M =>
    if (M.1 40 30) ≤ i4 then (
      some (i2, M)
    ) else (
      (f_X11_own i4 (5 : Int32) M).bind fun x2 =>
      (f_X11_own i4 (2 : Int32) x2.2).bind fun x3 =>
      (f_X11_least (10 : Int32) (x2.1 + x3.1) x3.2).bind fun x4 =>
      (f_X11_gives i4 (5 : Int32) x4.1 x4.2).bind fun x5 =>
      z_l (i4 + (1 : Int32)) fun v6 =>
      f_X11_comes_353 n i2 v6 x5
    )
def f_X11_comes_261 (K249 : Int32 → Int32 → zM → Option (Int32 × zM)) : Nat → Int32 → Int32 → Int32 → zM → Option (Int32 × zM)
  | 0, _, _, _, _ => none
  | n + 1, i2, i4, i5, M =>
    if (M.1 40 30) ≤ i5 then (
      z_l (i4 + (1 : Int32)) fun v2 =>
      K249 i2 v2 M
    ) else (
      z_g (z_ix i4 11) <|
      if (M.1 56 (Int32.toNatClampNeg i4)) ≤ 0 then (
        z_l (i4 + (1 : Int32)) fun v5 =>
        K249 i2 v5 M
      ) else (
        if i5 = i4 then (
          z_l (i5 + (1 : Int32)) fun v13 =>
          f_X11_comes_261 K249 n i2 i4 v13 M
        ) else (
          (f_X11_pays i5 i4 M).bind fun x7 =>
          (f_X11_own i5 (10 : Int32) x7.2).bind fun x8 =>
          (f_X11_gives i5 (10 : Int32) (x8.1 - x7.1) x8.2).bind fun x9 =>
          (f_X11_own i4 (10 : Int32) x9).bind fun x10 =>
          (f_X11_gives i4 (10 : Int32) (x10.1 + x7.1) x10.2).bind fun x11 =>
          z_l (i5 + (1 : Int32)) fun v12 =>
          f_X11_comes_261 K249 n i2 i4 v12 x11
        )
      )
    )
def f_X11_comes_249 : Nat → Int32 → Int32 → zM → Option (Int32 × zM)
  | 0, _, _, _ => none
  | n + 1, i2, i4, M =>
    if (M.1 40 30) ≤ i4 then (
      f_X11_comes_353 z_F i2 (0 : Int32) M
    ) else (
      f_X11_comes_261 (f_X11_comes_249 n) z_F i2 i4 (0 : Int32) M
    )
def f_X11_comes_130 : Nat → Int32 → Int32 → zM → Option (Int32 × zM)
  | 0, _, _, _ => none
  | n + 1, i2, i4, M =>
    if (M.1 40 30) ≤ i4 then (
      f_X11_comes_249 z_F i2 (0 : Int32) M
    ) else (
      z_g (z_ix i4 11) <|
      (f_X11_gives i4 (8 : Int32) (M.1 54 (Int32.toNatClampNeg i4)) M).bind fun x3 =>
      z_g (z_ix i4 11) <|
      (f_X11_gives i4 (9 : Int32) (x3.1 55 (Int32.toNatClampNeg i4)) x3).bind fun x5 =>
      z_g (z_ix i4 11) <|
      (f_X11_gives i4 (12 : Int32) (x5.1 56 (Int32.toNatClampNeg i4)) x5).bind fun x7 =>
      (f_X11_own i4 (11 : Int32) x7).bind fun x8 =>
      z_g (z_ix i4 11) <|
      (f_X11_gives i4 (11 : Int32) (x8.1 + (x8.2.1 56 (Int32.toNatClampNeg i4))) x8.2).bind fun x10 =>
      z_g (z_ix i4 11) <|
      if (x10.1 56 (Int32.toNatClampNeg i4)) = 0 then (
        (f_X11_own i4 (13 : Int32) x10).bind fun x15 =>
        (f_X11_gives i4 (13 : Int32) (x15.1 + (1 : Int32)) x15.2).bind fun x16 =>
        z_l (i4 + (1 : Int32)) fun v17 =>
        f_X11_comes_130 n i2 v17 x16
      ) else (
        (f_X11_gives i4 (13 : Int32) (0 : Int32) x10).bind fun x13 =>
        z_l (i4 + (1 : Int32)) fun v14 =>
        f_X11_comes_130 n i2 v14 x13
      )
    )
def f_X11_comes (i1 : Int32) (M : zM) : Option (Int32 × zM) :=
  (f_X11_isStorm i1 M).bind fun x1 =>
  if x1.1 = 0 then (
    some ((-1 : Int32), x1.2)
  ) else (
    (f_X11_laysHouses  x1.2).bind fun x3 =>
    z_l (z_w x3 40 33 (1 : Int32)) fun M4 =>
    (f_X11_runs i1 M4).bind fun x5 =>
    z_l (z_w x5.2 40 33 (0 : Int32)) fun M6 =>
    (f_X11_hoursOf i1 M6).bind fun x7 =>
    z_l (z_w x7.2 41 (Int32.toNatClampNeg (8 : Int32)) x7.1) fun M8 =>
    z_l (z_w M8 41 (Int32.toNatClampNeg (9 : Int32)) (M8.1 40 30)) fun M9 =>
    z_l (z_w M9 41 (Int32.toNatClampNeg (5 : Int32)) ((M9.1 41 (Int32.toNatClampNeg (5 : Int32))) + (1 : Int32))) fun M10 =>
    z_l (z_w M10 41 (Int32.toNatClampNeg (7 : Int32)) ((M10.1 41 (Int32.toNatClampNeg (7 : Int32))) + (M10.1 40 32))) fun M11 =>
    (f_X11_most (0 : Int32) ((M11.1 41 (Int32.toNatClampNeg (3 : Int32))) - (M11.1 41 (Int32.toNatClampNeg (2 : Int32)))) M11).bind fun x12 =>
    (f_X11_least (M11.1 40 31) x12.1 x12.2).bind fun x13 =>
    z_l (z_w x13.2 41 (Int32.toNatClampNeg (2 : Int32)) ((x13.2.1 41 (Int32.toNatClampNeg (2 : Int32))) + x13.1)) fun M14 =>
    z_l (z_w M14 41 (Int32.toNatClampNeg (4 : Int32)) ((M14.1 41 (Int32.toNatClampNeg (4 : Int32))) + ((M14.1 40 31) - x13.1))) fun M15 =>
    f_X11_comes_130 z_F x5.1 (0 : Int32) M15
  )
set_option maxHeartbeats 4000000 in
set_option maxRecDepth 100000 in
theorem w_X11_comes_353 {G : zG} {p : Program} {l : Launch} {e : Env} {s : State} {m : MethodId} {args : Array Value} {below : List Frame} {meth : Method} {c : Code} (X : z_C G p s m args meth c cX11_comes 7 RX11 (some .int)) {r : Int32 × zM} : ∀ (n : Nat) (i2 : Int32) (i4 : Int32) (M : zM) (H : Heap) (locs : List Loc) (ls : Array Slot), z_W G M H locs → lv_has ls 7 [(0, .ref (G.1 40)), (2, .int i2), (4, .int i4)] → f_X11_comes_353 n i2 i4 M = some r → W p l e (z_rm 3) s m args below meth c H locs 0 0 (z_Q G below args s (some (.int r.1)) r.2) (F0 m 353 ls []) := by
  have hx := X.1
  have hb := X.2.1
  intro n
  induction n with
  | zero =>
    intro i2 i4 M H locs ls  hw hl h
    exact z_no h
  | succ n ih =>
    intro i2 i4 M H locs ls  hw hl h
    rw [f_X11_comes_353] at h
    refine lv_iload (pc := 353) hx hb dX11_comes_353 (lv_at hl 2 rfl) ?_
    refine lv_aload_n (pc := 355) hx hb dX11_comes_355 rfl (lv_at hl 0 rfl) ?_
    refine zg_DrinkingRoofsModel_many (pc := 356) X hw zw_fl_5_101 dX11_comes_356 ?_
    refine lv_icmp_ge (pc := 359) (tgt := 395) hx hb dX11_comes_359 (by decide) (fun c1 => ?_) (fun c1 => ?_)
    · replace h := z_t c1 h
      refine lv_iload_n (pc := 395) hx hb dX11_comes_395 rfl (lv_at hl 1 rfl) ?_
      obtain rfl := Option.some.inj h
      exact z_ri (pc := 396) X hw dX11_comes_396
    · replace h := z_f c1 h
      refine lv_aload_n (pc := 362) hx hb dX11_comes_362 rfl (lv_at hl 0 rfl) ?_
      refine lv_iload (pc := 363) hx hb dX11_comes_363 (lv_at hl 2 rfl) ?_
      refine lv_iconst (pc := 365) (v := 5) hx hb dX11_comes_365 (by decide) ?_
      refine lv_bipush (pc := 366) (v := 10) hx hb dX11_comes_366 (by decide) ?_
      refine lv_aload_n (pc := 368) hx hb dX11_comes_368 rfl (lv_at hl 0 rfl) ?_
      refine lv_iload (pc := 369) hx hb dX11_comes_369 (lv_at hl 2 rfl) ?_
      refine lv_iconst (pc := 371) (v := 5) hx hb dX11_comes_371 (by decide) ?_
      obtain ⟨x2, ex2, h⟩ := z_bd h
      refine z_cvI (pc := 372) (rest := [.int (10 : Int32), .int (5 : Int32), .int i4, .ref (G.1 40)]) X hw (m_X11_own  ex2) (z_lt zk_40 (by decide)) (z_E11 zk_40) rfl zw_ml_6_113 zw_im_6_115 zw_se_S_56 zw_in_1_12 zw_co_6_116 zd_X11_own (by decide) rfl hl.1 rfl (Nat.le_of_ble_eq_true rfl) dX11_comes_372 ⟨Nat.zero_le _, Nat.zero_le _⟩ (fun Hx2 lx2 wx2 => ?_)
      refine lv_aload_n (pc := 375) hx hb dX11_comes_375 rfl (lv_at hl 0 rfl) ?_
      refine lv_iload (pc := 376) hx hb dX11_comes_376 (lv_at hl 2 rfl) ?_
      refine lv_iconst (pc := 378) (v := 2) hx hb dX11_comes_378 (by decide) ?_
      obtain ⟨x3, ex3, h⟩ := z_bd h
      refine z_cvI (pc := 379) (rest := [.int x2.1, .int (10 : Int32), .int (5 : Int32), .int i4, .ref (G.1 40)]) X wx2 (m_X11_own  ex3) (z_lt zk_40 (by decide)) (z_E11 zk_40) rfl zw_ml_6_113 zw_im_6_115 zw_se_S_56 zw_in_1_12 zw_co_6_116 zd_X11_own (by decide) rfl hl.1 rfl (Nat.le_of_ble_eq_true rfl) dX11_comes_379 ⟨Nat.zero_le _, Nat.zero_le _⟩ (fun Hx3 lx3 wx3 => ?_)
      refine lv_iadd (pc := 382) hx hb dX11_comes_382 ?_
      obtain ⟨x4, ex4, h⟩ := z_bd h
      refine z_csI (pc := 383) (rest := [.int (5 : Int32), .int i4, .ref (G.1 40)]) X wx3 (m_X11_least  ex4) zw_ml_6_129 zw_st_6_130 zw_in_1_12 zw_co_6_131 zd_X11_least (by decide) rfl hl.1 rfl (Nat.le_of_ble_eq_true rfl) dX11_comes_383 ⟨Nat.zero_le _, Nat.zero_le _⟩ (fun Hx4 lx4 wx4 => ?_)
      obtain ⟨x5, ex5, h⟩ := z_bd h
      refine z_cvV (pc := 386) (rest := []) X wx4 (m_X11_gives  ex5) (z_lt zk_40 (by decide)) (z_E11 zk_40) rfl zw_ml_5_212 zw_im_5_214 zw_se_S_35 zw_in_1_12 zw_co_5_215 zd_X11_gives (by decide) rfl hl.1 rfl (Nat.le_of_ble_eq_true rfl) dX11_comes_386 ⟨Nat.zero_le _, Nat.zero_le _⟩ (fun Hx5 lx5 wx5 => ?_)
      obtain ⟨v6, ev6, h⟩ := z_lo h
      refine lv_iinc (pc := 389) (v := v6) (lv' := [(4, .int v6), (0, .ref (G.1 40)), (2, .int i2)]) hx hb dX11_comes_389 hl (k := 2) rfl (by rw [ev6]; rfl) (by decide) rfl (fun ls hl => ?_)
      refine lv_goto (pc := 392) (tgt := 353) hx hb dX11_comes_392 (by decide) ?_
      exact ih i2 v6 x5 Hx5 lx5 ls  wx5 (lv_sub hl [1, 2, 0] rfl) h
set_option maxHeartbeats 4000000 in
set_option maxRecDepth 100000 in
theorem w_X11_comes_261 {G : zG} {p : Program} {l : Launch} {e : Env} {s : State} {m : MethodId} {args : Array Value} {below : List Frame} {meth : Method} {c : Code} (X : z_C G p s m args meth c cX11_comes 7 RX11 (some .int)) {r : Int32 × zM} {K249 : Int32 → Int32 → zM → Option (Int32 × zM)} (hK249 : ∀ (i2 : Int32) (i4 : Int32) (M : zM) (H : Heap) (locs : List Loc) (ls : Array Slot), z_W G M H locs → lv_has ls 7 [(0, .ref (G.1 40)), (2, .int i2), (4, .int i4)] → K249 i2 i4 M = some r → W p l e (z_rm 3) s m args below meth c H locs 0 0 (z_Q G below args s (some (.int r.1)) r.2) (F0 m 249 ls [])) : ∀ (n : Nat) (i2 : Int32) (i4 : Int32) (i5 : Int32) (M : zM) (H : Heap) (locs : List Loc) (ls : Array Slot), z_W G M H locs → lv_has ls 7 [(0, .ref (G.1 40)), (2, .int i2), (4, .int i4), (5, .int i5)] → f_X11_comes_261 K249 n i2 i4 i5 M = some r → W p l e (z_rm 3) s m args below meth c H locs 0 0 (z_Q G below args s (some (.int r.1)) r.2) (F0 m 261 ls []) := by
  have hx := X.1
  have hb := X.2.1
  intro n
  induction n with
  | zero =>
    intro i2 i4 i5 M H locs ls  hw hl h
    exact z_no h
  | succ n ih =>
    intro i2 i4 i5 M H locs ls  hw hl h
    rw [f_X11_comes_261] at h
    refine lv_iload (pc := 261) hx hb dX11_comes_261 (lv_at hl 3 rfl) ?_
    refine lv_aload_n (pc := 263) hx hb dX11_comes_263 rfl (lv_at hl 0 rfl) ?_
    refine zg_DrinkingRoofsModel_many (pc := 264) X hw zw_fl_5_101 dX11_comes_264 ?_
    refine lv_icmp_ge (pc := 267) (tgt := 344) hx hb dX11_comes_267 (by decide) (fun c1 => ?_) (fun c1 => ?_)
    · replace h := z_t c1 h
      obtain ⟨v2, ev2, h⟩ := z_lo h
      refine lv_iinc (pc := 344) (v := v2) (lv' := [(4, .int v2), (0, .ref (G.1 40)), (2, .int i2), (5, .int i5)]) hx hb dX11_comes_344 hl (k := 2) rfl (by rw [ev2]; rfl) (by decide) rfl (fun ls hl => ?_)
      refine lv_goto (pc := 347) (tgt := 249) hx hb dX11_comes_347 (by decide) ?_
      exact hK249 i2 v2 M H locs ls  hw (lv_sub hl [1, 2, 0] rfl) h
    · replace h := z_f c1 h
      refine lv_aload_n (pc := 270) hx hb dX11_comes_270 rfl (lv_at hl 0 rfl) ?_
      refine zg_DrinkingRoofsModel_over (pc := 271) X hw zw_fl_5_99 dX11_comes_271 ?_
      refine lv_iload (pc := 274) hx hb dX11_comes_274 (lv_at hl 2 rfl) ?_
      obtain ⟨g3, h⟩ := z_gd h
      refine z_iald (pc := 276) X hw zk_56 zl_56 g3 dX11_comes_276 ?_
      refine lv_if_le (pc := 277) (tgt := 344) hx hb dX11_comes_277 (by decide) (fun c4 => ?_) (fun c4 => ?_)
      · replace h := z_t c4 h
        obtain ⟨v5, ev5, h⟩ := z_lo h
        refine lv_iinc (pc := 344) (v := v5) (lv' := [(4, .int v5), (0, .ref (G.1 40)), (2, .int i2), (5, .int i5)]) hx hb dX11_comes_344 hl (k := 2) rfl (by rw [ev5]; rfl) (by decide) rfl (fun ls hl => ?_)
        refine lv_goto (pc := 347) (tgt := 249) hx hb dX11_comes_347 (by decide) ?_
        exact hK249 i2 v5 M H locs ls  hw (lv_sub hl [1, 2, 0] rfl) h
      · replace h := z_f c4 h
        refine lv_iload (pc := 280) hx hb dX11_comes_280 (lv_at hl 3 rfl) ?_
        refine lv_iload (pc := 282) hx hb dX11_comes_282 (lv_at hl 2 rfl) ?_
        refine lv_icmp_ne (pc := 284) (tgt := 290) hx hb dX11_comes_284 (by decide) (fun c6 => ?_) (fun c6 => ?_)
        · replace h := z_f c6 h
          refine lv_aload_n (pc := 290) hx hb dX11_comes_290 rfl (lv_at hl 0 rfl) ?_
          refine lv_iload (pc := 291) hx hb dX11_comes_291 (lv_at hl 3 rfl) ?_
          refine lv_iload (pc := 293) hx hb dX11_comes_293 (lv_at hl 2 rfl) ?_
          obtain ⟨x7, ex7, h⟩ := z_bd h
          refine z_cvI (pc := 295) (rest := []) X hw (m_X11_pays  ex7) (z_lt zk_40 (by decide)) (z_E11 zk_40) rfl zw_ml_6_143 zw_im_6_145 zw_se_S_62 zw_in_1_12 zw_co_6_146 zd_X11_pays (by decide) rfl hl.1 rfl (Nat.le_of_ble_eq_true rfl) dX11_comes_295 ⟨Nat.zero_le _, Nat.zero_le _⟩ (fun Hx7 lx7 wx7 => ?_)
          refine lv_istore (pc := 298) (lv' := [(6, .int x7.1), (0, .ref (G.1 40)), (2, .int i2), (4, .int i4), (5, .int i5)]) hx hb dX11_comes_298 hl (by decide) rfl (fun ls hl => ?_)
          refine lv_aload_n (pc := 300) hx hb dX11_comes_300 rfl (lv_at hl 1 rfl) ?_
          refine lv_iload (pc := 301) hx hb dX11_comes_301 (lv_at hl 4 rfl) ?_
          refine lv_bipush (pc := 303) (v := 10) hx hb dX11_comes_303 (by decide) ?_
          refine lv_aload_n (pc := 305) hx hb dX11_comes_305 rfl (lv_at hl 1 rfl) ?_
          refine lv_iload (pc := 306) hx hb dX11_comes_306 (lv_at hl 4 rfl) ?_
          refine lv_bipush (pc := 308) (v := 10) hx hb dX11_comes_308 (by decide) ?_
          obtain ⟨x8, ex8, h⟩ := z_bd h
          refine z_cvI (pc := 310) (rest := [.int (10 : Int32), .int i5, .ref (G.1 40)]) X wx7 (m_X11_own  ex8) (z_lt zk_40 (by decide)) (z_E11 zk_40) rfl zw_ml_6_113 zw_im_6_115 zw_se_S_56 zw_in_1_12 zw_co_6_116 zd_X11_own (by decide) rfl hl.1 rfl (Nat.le_of_ble_eq_true rfl) dX11_comes_310 ⟨Nat.zero_le _, Nat.zero_le _⟩ (fun Hx8 lx8 wx8 => ?_)
          refine lv_iload (pc := 313) hx hb dX11_comes_313 (lv_at hl 0 rfl) ?_
          refine lv_isub (pc := 315) hx hb dX11_comes_315 ?_
          obtain ⟨x9, ex9, h⟩ := z_bd h
          refine z_cvV (pc := 316) (rest := []) X wx8 (m_X11_gives  ex9) (z_lt zk_40 (by decide)) (z_E11 zk_40) rfl zw_ml_5_212 zw_im_5_214 zw_se_S_35 zw_in_1_12 zw_co_5_215 zd_X11_gives (by decide) rfl hl.1 rfl (Nat.le_of_ble_eq_true rfl) dX11_comes_316 ⟨Nat.zero_le _, Nat.zero_le _⟩ (fun Hx9 lx9 wx9 => ?_)
          refine lv_aload_n (pc := 319) hx hb dX11_comes_319 rfl (lv_at hl 1 rfl) ?_
          refine lv_iload (pc := 320) hx hb dX11_comes_320 (lv_at hl 3 rfl) ?_
          refine lv_bipush (pc := 322) (v := 10) hx hb dX11_comes_322 (by decide) ?_
          refine lv_aload_n (pc := 324) hx hb dX11_comes_324 rfl (lv_at hl 1 rfl) ?_
          refine lv_iload (pc := 325) hx hb dX11_comes_325 (lv_at hl 3 rfl) ?_
          refine lv_bipush (pc := 327) (v := 10) hx hb dX11_comes_327 (by decide) ?_
          obtain ⟨x10, ex10, h⟩ := z_bd h
          refine z_cvI (pc := 329) (rest := [.int (10 : Int32), .int i4, .ref (G.1 40)]) X wx9 (m_X11_own  ex10) (z_lt zk_40 (by decide)) (z_E11 zk_40) rfl zw_ml_6_113 zw_im_6_115 zw_se_S_56 zw_in_1_12 zw_co_6_116 zd_X11_own (by decide) rfl hl.1 rfl (Nat.le_of_ble_eq_true rfl) dX11_comes_329 ⟨Nat.zero_le _, Nat.zero_le _⟩ (fun Hx10 lx10 wx10 => ?_)
          refine lv_iload (pc := 332) hx hb dX11_comes_332 (lv_at hl 0 rfl) ?_
          refine lv_iadd (pc := 334) hx hb dX11_comes_334 ?_
          obtain ⟨x11, ex11, h⟩ := z_bd h
          refine z_cvV (pc := 335) (rest := []) X wx10 (m_X11_gives  ex11) (z_lt zk_40 (by decide)) (z_E11 zk_40) rfl zw_ml_5_212 zw_im_5_214 zw_se_S_35 zw_in_1_12 zw_co_5_215 zd_X11_gives (by decide) rfl hl.1 rfl (Nat.le_of_ble_eq_true rfl) dX11_comes_335 ⟨Nat.zero_le _, Nat.zero_le _⟩ (fun Hx11 lx11 wx11 => ?_)
          obtain ⟨v12, ev12, h⟩ := z_lo h
          refine lv_iinc (pc := 338) (v := v12) (lv' := [(5, .int v12), (6, .int x7.1), (0, .ref (G.1 40)), (2, .int i2), (4, .int i4)]) hx hb dX11_comes_338 hl (k := 4) rfl (by rw [ev12]; rfl) (by decide) rfl (fun ls hl => ?_)
          refine lv_goto (pc := 341) (tgt := 261) hx hb dX11_comes_341 (by decide) ?_
          exact ih i2 i4 v12 x11 Hx11 lx11 ls  wx11 (lv_sub hl [2, 3, 4, 0] rfl) h
        · replace h := z_t c6 h
          refine lv_goto (pc := 287) (tgt := 338) hx hb dX11_comes_287 (by decide) ?_
          obtain ⟨v13, ev13, h⟩ := z_lo h
          refine lv_iinc (pc := 338) (v := v13) (lv' := [(5, .int v13), (0, .ref (G.1 40)), (2, .int i2), (4, .int i4)]) hx hb dX11_comes_338 hl (k := 3) rfl (by rw [ev13]; rfl) (by decide) rfl (fun ls hl => ?_)
          refine lv_goto (pc := 341) (tgt := 261) hx hb dX11_comes_341 (by decide) ?_
          exact ih i2 i4 v13 M H locs ls  hw (lv_sub hl [1, 2, 3, 0] rfl) h
set_option maxHeartbeats 4000000 in
set_option maxRecDepth 100000 in
theorem w_X11_comes_249 {G : zG} {p : Program} {l : Launch} {e : Env} {s : State} {m : MethodId} {args : Array Value} {below : List Frame} {meth : Method} {c : Code} (X : z_C G p s m args meth c cX11_comes 7 RX11 (some .int)) {r : Int32 × zM} : ∀ (n : Nat) (i2 : Int32) (i4 : Int32) (M : zM) (H : Heap) (locs : List Loc) (ls : Array Slot), z_W G M H locs → lv_has ls 7 [(0, .ref (G.1 40)), (2, .int i2), (4, .int i4)] → f_X11_comes_249 n i2 i4 M = some r → W p l e (z_rm 3) s m args below meth c H locs 0 0 (z_Q G below args s (some (.int r.1)) r.2) (F0 m 249 ls []) := by
  have hx := X.1
  have hb := X.2.1
  intro n
  induction n with
  | zero =>
    intro i2 i4 M H locs ls  hw hl h
    exact z_no h
  | succ n ih =>
    intro i2 i4 M H locs ls  hw hl h
    rw [f_X11_comes_249] at h
    refine lv_iload (pc := 249) hx hb dX11_comes_249 (lv_at hl 2 rfl) ?_
    refine lv_aload_n (pc := 251) hx hb dX11_comes_251 rfl (lv_at hl 0 rfl) ?_
    refine zg_DrinkingRoofsModel_many (pc := 252) X hw zw_fl_5_101 dX11_comes_252 ?_
    refine lv_icmp_ge (pc := 255) (tgt := 350) hx hb dX11_comes_255 (by decide) (fun c1 => ?_) (fun c1 => ?_)
    · replace h := z_t c1 h
      refine lv_iconst (pc := 350) (v := 0) hx hb dX11_comes_350 (by decide) ?_
      refine lv_istore (pc := 351) (lv' := [(4, .int (0 : Int32)), (0, .ref (G.1 40)), (2, .int i2)]) hx hb dX11_comes_351 hl (by decide) rfl (fun ls hl => ?_)
      exact w_X11_comes_353 X z_F i2 (0 : Int32) M H locs ls  hw (lv_sub hl [1, 2, 0] rfl) h
    · replace h := z_f c1 h
      refine lv_iconst (pc := 258) (v := 0) hx hb dX11_comes_258 (by decide) ?_
      refine lv_istore (pc := 259) (lv' := [(5, .int (0 : Int32)), (0, .ref (G.1 40)), (2, .int i2), (4, .int i4)]) hx hb dX11_comes_259 hl (by decide) rfl (fun ls hl => ?_)
      exact w_X11_comes_261 X ih z_F i2 i4 (0 : Int32) M H locs ls  hw (lv_sub hl [1, 2, 3, 0] rfl) h
set_option maxHeartbeats 4000000 in
set_option maxRecDepth 100000 in
theorem w_X11_comes_130 {G : zG} {p : Program} {l : Launch} {e : Env} {s : State} {m : MethodId} {args : Array Value} {below : List Frame} {meth : Method} {c : Code} (X : z_C G p s m args meth c cX11_comes 7 RX11 (some .int)) {r : Int32 × zM} : ∀ (n : Nat) (i2 : Int32) (i4 : Int32) (M : zM) (H : Heap) (locs : List Loc) (ls : Array Slot), z_W G M H locs → lv_has ls 7 [(0, .ref (G.1 40)), (2, .int i2), (4, .int i4)] → f_X11_comes_130 n i2 i4 M = some r → W p l e (z_rm 3) s m args below meth c H locs 0 0 (z_Q G below args s (some (.int r.1)) r.2) (F0 m 130 ls []) := by
  have hx := X.1
  have hb := X.2.1
  intro n
  induction n with
  | zero =>
    intro i2 i4 M H locs ls  hw hl h
    exact z_no h
  | succ n ih =>
    intro i2 i4 M H locs ls  hw hl h
    rw [f_X11_comes_130] at h
    refine lv_iload (pc := 130) hx hb dX11_comes_130 (lv_at hl 2 rfl) ?_
    refine lv_aload_n (pc := 132) hx hb dX11_comes_132 rfl (lv_at hl 0 rfl) ?_
    refine zg_DrinkingRoofsModel_many (pc := 133) X hw zw_fl_5_101 dX11_comes_133 ?_
    refine lv_icmp_ge (pc := 136) (tgt := 246) hx hb dX11_comes_136 (by decide) (fun c1 => ?_) (fun c1 => ?_)
    · replace h := z_t c1 h
      refine lv_iconst (pc := 246) (v := 0) hx hb dX11_comes_246 (by decide) ?_
      refine lv_istore (pc := 247) (lv' := [(4, .int (0 : Int32)), (0, .ref (G.1 40)), (2, .int i2)]) hx hb dX11_comes_247 hl (by decide) rfl (fun ls hl => ?_)
      exact w_X11_comes_249 X z_F i2 (0 : Int32) M H locs ls  hw (lv_sub hl [1, 2, 0] rfl) h
    · replace h := z_f c1 h
      refine lv_aload_n (pc := 139) hx hb dX11_comes_139 rfl (lv_at hl 0 rfl) ?_
      refine lv_iload (pc := 140) hx hb dX11_comes_140 (lv_at hl 2 rfl) ?_
      refine lv_bipush (pc := 142) (v := 8) hx hb dX11_comes_142 (by decide) ?_
      refine lv_aload_n (pc := 144) hx hb dX11_comes_144 rfl (lv_at hl 0 rfl) ?_
      refine zg_DrinkingRoofsModel_held (pc := 145) X hw zw_fl_5_97 dX11_comes_145 ?_
      refine lv_iload (pc := 148) hx hb dX11_comes_148 (lv_at hl 2 rfl) ?_
      obtain ⟨g2, h⟩ := z_gd h
      refine z_iald (pc := 150) X hw zk_54 zl_54 g2 dX11_comes_150 ?_
      obtain ⟨x3, ex3, h⟩ := z_bd h
      refine z_cvV (pc := 151) (rest := []) X hw (m_X11_gives  ex3) (z_lt zk_40 (by decide)) (z_E11 zk_40) rfl zw_ml_5_212 zw_im_5_214 zw_se_S_35 zw_in_1_12 zw_co_5_215 zd_X11_gives (by decide) rfl hl.1 rfl (Nat.le_of_ble_eq_true rfl) dX11_comes_151 ⟨Nat.zero_le _, Nat.zero_le _⟩ (fun Hx3 lx3 wx3 => ?_)
      refine lv_aload_n (pc := 154) hx hb dX11_comes_154 rfl (lv_at hl 0 rfl) ?_
      refine lv_iload (pc := 155) hx hb dX11_comes_155 (lv_at hl 2 rfl) ?_
      refine lv_bipush (pc := 157) (v := 9) hx hb dX11_comes_157 (by decide) ?_
      refine lv_aload_n (pc := 159) hx hb dX11_comes_159 rfl (lv_at hl 0 rfl) ?_
      refine zg_DrinkingRoofsModel_snow (pc := 160) X wx3 zw_fl_5_98 dX11_comes_160 ?_
      refine lv_iload (pc := 163) hx hb dX11_comes_163 (lv_at hl 2 rfl) ?_
      obtain ⟨g4, h⟩ := z_gd h
      refine z_iald (pc := 165) X wx3 zk_55 zl_55 g4 dX11_comes_165 ?_
      obtain ⟨x5, ex5, h⟩ := z_bd h
      refine z_cvV (pc := 166) (rest := []) X wx3 (m_X11_gives  ex5) (z_lt zk_40 (by decide)) (z_E11 zk_40) rfl zw_ml_5_212 zw_im_5_214 zw_se_S_35 zw_in_1_12 zw_co_5_215 zd_X11_gives (by decide) rfl hl.1 rfl (Nat.le_of_ble_eq_true rfl) dX11_comes_166 ⟨Nat.zero_le _, Nat.zero_le _⟩ (fun Hx5 lx5 wx5 => ?_)
      refine lv_aload_n (pc := 169) hx hb dX11_comes_169 rfl (lv_at hl 0 rfl) ?_
      refine lv_iload (pc := 170) hx hb dX11_comes_170 (lv_at hl 2 rfl) ?_
      refine lv_bipush (pc := 172) (v := 12) hx hb dX11_comes_172 (by decide) ?_
      refine lv_aload_n (pc := 174) hx hb dX11_comes_174 rfl (lv_at hl 0 rfl) ?_
      refine zg_DrinkingRoofsModel_over (pc := 175) X wx5 zw_fl_5_99 dX11_comes_175 ?_
      refine lv_iload (pc := 178) hx hb dX11_comes_178 (lv_at hl 2 rfl) ?_
      obtain ⟨g6, h⟩ := z_gd h
      refine z_iald (pc := 180) X wx5 zk_56 zl_56 g6 dX11_comes_180 ?_
      obtain ⟨x7, ex7, h⟩ := z_bd h
      refine z_cvV (pc := 181) (rest := []) X wx5 (m_X11_gives  ex7) (z_lt zk_40 (by decide)) (z_E11 zk_40) rfl zw_ml_5_212 zw_im_5_214 zw_se_S_35 zw_in_1_12 zw_co_5_215 zd_X11_gives (by decide) rfl hl.1 rfl (Nat.le_of_ble_eq_true rfl) dX11_comes_181 ⟨Nat.zero_le _, Nat.zero_le _⟩ (fun Hx7 lx7 wx7 => ?_)
      refine lv_aload_n (pc := 184) hx hb dX11_comes_184 rfl (lv_at hl 0 rfl) ?_
      refine lv_iload (pc := 185) hx hb dX11_comes_185 (lv_at hl 2 rfl) ?_
      refine lv_bipush (pc := 187) (v := 11) hx hb dX11_comes_187 (by decide) ?_
      refine lv_aload_n (pc := 189) hx hb dX11_comes_189 rfl (lv_at hl 0 rfl) ?_
      refine lv_iload (pc := 190) hx hb dX11_comes_190 (lv_at hl 2 rfl) ?_
      refine lv_bipush (pc := 192) (v := 11) hx hb dX11_comes_192 (by decide) ?_
      obtain ⟨x8, ex8, h⟩ := z_bd h
      refine z_cvI (pc := 194) (rest := [.int (11 : Int32), .int i4, .ref (G.1 40)]) X wx7 (m_X11_own  ex8) (z_lt zk_40 (by decide)) (z_E11 zk_40) rfl zw_ml_6_113 zw_im_6_115 zw_se_S_56 zw_in_1_12 zw_co_6_116 zd_X11_own (by decide) rfl hl.1 rfl (Nat.le_of_ble_eq_true rfl) dX11_comes_194 ⟨Nat.zero_le _, Nat.zero_le _⟩ (fun Hx8 lx8 wx8 => ?_)
      refine lv_aload_n (pc := 197) hx hb dX11_comes_197 rfl (lv_at hl 0 rfl) ?_
      refine zg_DrinkingRoofsModel_over (pc := 198) X wx8 zw_fl_5_99 dX11_comes_198 ?_
      refine lv_iload (pc := 201) hx hb dX11_comes_201 (lv_at hl 2 rfl) ?_
      obtain ⟨g9, h⟩ := z_gd h
      refine z_iald (pc := 203) X wx8 zk_56 zl_56 g9 dX11_comes_203 ?_
      refine lv_iadd (pc := 204) hx hb dX11_comes_204 ?_
      obtain ⟨x10, ex10, h⟩ := z_bd h
      refine z_cvV (pc := 205) (rest := []) X wx8 (m_X11_gives  ex10) (z_lt zk_40 (by decide)) (z_E11 zk_40) rfl zw_ml_5_212 zw_im_5_214 zw_se_S_35 zw_in_1_12 zw_co_5_215 zd_X11_gives (by decide) rfl hl.1 rfl (Nat.le_of_ble_eq_true rfl) dX11_comes_205 ⟨Nat.zero_le _, Nat.zero_le _⟩ (fun Hx10 lx10 wx10 => ?_)
      refine lv_aload_n (pc := 208) hx hb dX11_comes_208 rfl (lv_at hl 0 rfl) ?_
      refine lv_iload (pc := 209) hx hb dX11_comes_209 (lv_at hl 2 rfl) ?_
      refine lv_bipush (pc := 211) (v := 13) hx hb dX11_comes_211 (by decide) ?_
      refine lv_aload_n (pc := 213) hx hb dX11_comes_213 rfl (lv_at hl 0 rfl) ?_
      refine zg_DrinkingRoofsModel_over (pc := 214) X wx10 zw_fl_5_99 dX11_comes_214 ?_
      refine lv_iload (pc := 217) hx hb dX11_comes_217 (lv_at hl 2 rfl) ?_
      obtain ⟨g11, h⟩ := z_gd h
      refine z_iald (pc := 219) X wx10 zk_56 zl_56 g11 dX11_comes_219 ?_
      refine lv_if_ne (pc := 220) (tgt := 236) hx hb dX11_comes_220 (by decide) (fun c12 => ?_) (fun c12 => ?_)
      · replace h := z_f c12 h
        refine lv_iconst (pc := 236) (v := 0) hx hb dX11_comes_236 (by decide) ?_
        obtain ⟨x13, ex13, h⟩ := z_bd h
        refine z_cvV (pc := 237) (rest := []) X wx10 (m_X11_gives  ex13) (z_lt zk_40 (by decide)) (z_E11 zk_40) rfl zw_ml_5_212 zw_im_5_214 zw_se_S_35 zw_in_1_12 zw_co_5_215 zd_X11_gives (by decide) rfl hl.1 rfl (Nat.le_of_ble_eq_true rfl) dX11_comes_237 ⟨Nat.zero_le _, Nat.zero_le _⟩ (fun Hx13 lx13 wx13 => ?_)
        obtain ⟨v14, ev14, h⟩ := z_lo h
        refine lv_iinc (pc := 240) (v := v14) (lv' := [(4, .int v14), (0, .ref (G.1 40)), (2, .int i2)]) hx hb dX11_comes_240 hl (k := 2) rfl (by rw [ev14]; rfl) (by decide) rfl (fun ls hl => ?_)
        refine lv_goto (pc := 243) (tgt := 130) hx hb dX11_comes_243 (by decide) ?_
        exact ih i2 v14 x13 Hx13 lx13 ls  wx13 (lv_sub hl [1, 2, 0] rfl) h
      · replace h := z_t c12 h
        refine lv_aload_n (pc := 223) hx hb dX11_comes_223 rfl (lv_at hl 0 rfl) ?_
        refine lv_iload (pc := 224) hx hb dX11_comes_224 (lv_at hl 2 rfl) ?_
        refine lv_bipush (pc := 226) (v := 13) hx hb dX11_comes_226 (by decide) ?_
        obtain ⟨x15, ex15, h⟩ := z_bd h
        refine z_cvI (pc := 228) (rest := [.int (13 : Int32), .int i4, .ref (G.1 40)]) X wx10 (m_X11_own  ex15) (z_lt zk_40 (by decide)) (z_E11 zk_40) rfl zw_ml_6_113 zw_im_6_115 zw_se_S_56 zw_in_1_12 zw_co_6_116 zd_X11_own (by decide) rfl hl.1 rfl (Nat.le_of_ble_eq_true rfl) dX11_comes_228 ⟨Nat.zero_le _, Nat.zero_le _⟩ (fun Hx15 lx15 wx15 => ?_)
        refine lv_iconst (pc := 231) (v := 1) hx hb dX11_comes_231 (by decide) ?_
        refine lv_iadd (pc := 232) hx hb dX11_comes_232 ?_
        refine lv_goto (pc := 233) (tgt := 237) hx hb dX11_comes_233 (by decide) ?_
        obtain ⟨x16, ex16, h⟩ := z_bd h
        refine z_cvV (pc := 237) (rest := []) X wx15 (m_X11_gives  ex16) (z_lt zk_40 (by decide)) (z_E11 zk_40) rfl zw_ml_5_212 zw_im_5_214 zw_se_S_35 zw_in_1_12 zw_co_5_215 zd_X11_gives (by decide) rfl hl.1 rfl (Nat.le_of_ble_eq_true rfl) dX11_comes_237 ⟨Nat.zero_le _, Nat.zero_le _⟩ (fun Hx16 lx16 wx16 => ?_)
        obtain ⟨v17, ev17, h⟩ := z_lo h
        refine lv_iinc (pc := 240) (v := v17) (lv' := [(4, .int v17), (0, .ref (G.1 40)), (2, .int i2)]) hx hb dX11_comes_240 hl (k := 2) rfl (by rw [ev17]; rfl) (by decide) rfl (fun ls hl => ?_)
        refine lv_goto (pc := 243) (tgt := 130) hx hb dX11_comes_243 (by decide) ?_
        exact ih i2 v17 x16 Hx16 lx16 ls  wx16 (lv_sub hl [1, 2, 0] rfl) h
set_option maxHeartbeats 4000000 in
set_option maxRecDepth 100000 in
theorem m_X11_comes {l : Launch} {G : zG} {i1 : Int32} {M : zM} {r : Int32 × zM} (h : f_X11_comes i1 M = some r) : z_T l G 3 yX11_comes (.code yX11_comes cX11_comes 7 (some .int)) [.ref (G.1 40), .int i1] M (some (.int r.1)) r.2 := by
  refine z_of rfl ?_
  intro p e s m below meth c X hw
  have hl := lv_entry [.ref (G.1 40), .int i1] (n := 7) (Nat.le_of_ble_eq_true rfl)
  rw [lg_entry_eq]
  generalize (lg_sl [.ref (G.1 40), .int i1] ++ List.replicate (7 - (lg_sl [.ref (G.1 40), .int i1]).length) Slot.unset).toArray = ls at hl ⊢
  have hl : lv_has ls 7 [(0, .ref (G.1 40)), (1, .int i1)] := hl
  generalize ([.ref (G.1 40), .int i1] : List Value).toArray = args at X ⊢
  have X : z_C G p s m args meth c cX11_comes 7 RX11 (some .int) := X
  have hx := X.1
  have hb := X.2.1
  unfold f_X11_comes at h
  refine lv_aload_n (pc := 0) hx hb dX11_comes_0 rfl (lv_at hl 0 rfl) ?_
  refine lv_iload_n (pc := 1) hx hb dX11_comes_1 rfl (lv_at hl 1 rfl) ?_
  obtain ⟨x1, ex1, h⟩ := z_bd h
  refine z_cvI (pc := 2) (rest := []) X hw (m_X11_isStorm  ex1) (z_lt zk_40 (by decide)) (z_E11 zk_40) rfl zw_ml_5_236 zw_im_5_238 zw_se_S_37 zw_in_1_12 zw_co_5_239 zd_X11_isStorm (by decide) rfl hl.1 rfl (Nat.le_of_ble_eq_true rfl) dX11_comes_2 ⟨Nat.zero_le _, Nat.zero_le _⟩ (fun Hx1 lx1 wx1 => ?_)
  refine lv_if_ne (pc := 5) (tgt := 10) hx hb dX11_comes_5 (by decide) (fun c2 => ?_) (fun c2 => ?_)
  · replace h := z_f c2 h
    refine lv_aload_n (pc := 10) hx hb dX11_comes_10 rfl (lv_at hl 0 rfl) ?_
    obtain ⟨x3, ex3, h⟩ := z_bd h
    refine z_cvV (pc := 11) (rest := []) X wx1 (m_X11_laysHouses  ex3) (z_lt zk_40 (by decide)) (z_E11 zk_40) rfl zw_ml_6_109 zw_im_6_111 zw_se_S_55 zw_in_1_12 zw_co_6_112 zd_X11_laysHouses (by decide) rfl hl.1 rfl (Nat.le_of_ble_eq_true rfl) dX11_comes_11 ⟨Nat.zero_le _, Nat.zero_le _⟩ (fun Hx3 lx3 wx3 => ?_)
    refine lv_aload_n (pc := 14) hx hb dX11_comes_14 rfl (lv_at hl 0 rfl) ?_
    refine lv_iconst (pc := 15) (v := 1) hx hb dX11_comes_15 (by decide) ?_
    refine zp_DrinkingRoofsModel_isWritten (pc := 16) X wx3 zw_fl_5_104 rfl rfl dX11_comes_16 (fun HM4 lM4 wM4 => ?_)
    obtain ⟨M4, eM4, h⟩ := z_lo h
    rw [← eM4] at wM4
    refine lv_aload_n (pc := 19) hx hb dX11_comes_19 rfl (lv_at hl 0 rfl) ?_
    refine lv_iload_n (pc := 20) hx hb dX11_comes_20 rfl (lv_at hl 1 rfl) ?_
    obtain ⟨x5, ex5, h⟩ := z_bd h
    refine z_cvI (pc := 21) (rest := []) X wM4 (m_X11_runs  ex5) (z_lt zk_40 (by decide)) (z_E11 zk_40) rfl zw_ml_6_117 zw_im_6_119 zw_se_S_57 zw_in_1_12 zw_co_6_120 zd_X11_runs (by decide) rfl hl.1 rfl (Nat.le_of_ble_eq_true rfl) dX11_comes_21 ⟨Nat.zero_le _, Nat.zero_le _⟩ (fun Hx5 lx5 wx5 => ?_)
    refine lv_istore_n (pc := 24) (lv' := [(2, .int x5.1), (0, .ref (G.1 40)), (1, .int i1)]) hx hb dX11_comes_24 rfl hl (by decide) rfl (fun ls hl => ?_)
    refine lv_aload_n (pc := 25) hx hb dX11_comes_25 rfl (lv_at hl 1 rfl) ?_
    refine lv_iconst (pc := 26) (v := 0) hx hb dX11_comes_26 (by decide) ?_
    refine zp_DrinkingRoofsModel_isWritten (pc := 27) X wx5 zw_fl_5_104 rfl rfl dX11_comes_27 (fun HM6 lM6 wM6 => ?_)
    obtain ⟨M6, eM6, h⟩ := z_lo h
    rw [← eM6] at wM6
    refine lv_aload_n (pc := 30) hx hb dX11_comes_30 rfl (lv_at hl 1 rfl) ?_
    refine zg_DrinkingRoofsModel_w (pc := 31) X wM6 zw_fl_5_71 dX11_comes_31 ?_
    refine lv_bipush (pc := 34) (v := 8) hx hb dX11_comes_34 (by decide) ?_
    refine lv_aload_n (pc := 36) hx hb dX11_comes_36 rfl (lv_at hl 1 rfl) ?_
    refine lv_iload_n (pc := 37) hx hb dX11_comes_37 rfl (lv_at hl 2 rfl) ?_
    obtain ⟨x7, ex7, h⟩ := z_bd h
    refine z_cvI (pc := 38) (rest := [.int (8 : Int32), .ref (G.1 41)]) X wM6 (m_X11_hoursOf  ex7) (z_lt zk_40 (by decide)) (z_E11 zk_40) rfl zw_ml_6_0 zw_im_6_2 zw_se_S_38 zw_in_1_12 zw_co_6_3 zd_X11_hoursOf (by decide) rfl hl.1 rfl (Nat.le_of_ble_eq_true rfl) dX11_comes_38 ⟨Nat.zero_le _, Nat.zero_le _⟩ (fun Hx7 lx7 wx7 => ?_)
    refine z_iast (pc := 41) X wx7 zk_41 zl_41 (z_il (by decide)) dX11_comes_41 (fun HM8 lM8 wM8 => ?_)
    obtain ⟨M8, eM8, h⟩ := z_lo h
    rw [← eM8] at wM8
    refine lv_aload_n (pc := 42) hx hb dX11_comes_42 rfl (lv_at hl 1 rfl) ?_
    refine zg_DrinkingRoofsModel_w (pc := 43) X wM8 zw_fl_5_71 dX11_comes_43 ?_
    refine lv_bipush (pc := 46) (v := 9) hx hb dX11_comes_46 (by decide) ?_
    refine lv_aload_n (pc := 48) hx hb dX11_comes_48 rfl (lv_at hl 1 rfl) ?_
    refine zg_DrinkingRoofsModel_many (pc := 49) X wM8 zw_fl_5_101 dX11_comes_49 ?_
    refine z_iast (pc := 52) X wM8 zk_41 zl_41 (z_il (by decide)) dX11_comes_52 (fun HM9 lM9 wM9 => ?_)
    obtain ⟨M9, eM9, h⟩ := z_lo h
    rw [← eM9] at wM9
    refine lv_aload_n (pc := 53) hx hb dX11_comes_53 rfl (lv_at hl 1 rfl) ?_
    refine zg_DrinkingRoofsModel_w (pc := 54) X wM9 zw_fl_5_71 dX11_comes_54 ?_
    refine lv_iconst (pc := 57) (v := 5) hx hb dX11_comes_57 (by decide) ?_
    refine lv_dup2_11 (pc := 58) hx hb dX11_comes_58 rfl rfl ?_
    refine z_iald (pc := 59) X wM9 zk_41 zl_41 (z_il (by decide)) dX11_comes_59 ?_
    refine lv_iconst (pc := 60) (v := 1) hx hb dX11_comes_60 (by decide) ?_
    refine lv_iadd (pc := 61) hx hb dX11_comes_61 ?_
    refine z_iast (pc := 62) X wM9 zk_41 zl_41 (z_il (by decide)) dX11_comes_62 (fun HM10 lM10 wM10 => ?_)
    obtain ⟨M10, eM10, h⟩ := z_lo h
    rw [← eM10] at wM10
    refine lv_aload_n (pc := 63) hx hb dX11_comes_63 rfl (lv_at hl 1 rfl) ?_
    refine zg_DrinkingRoofsModel_w (pc := 64) X wM10 zw_fl_5_71 dX11_comes_64 ?_
    refine lv_bipush (pc := 67) (v := 7) hx hb dX11_comes_67 (by decide) ?_
    refine lv_dup2_11 (pc := 69) hx hb dX11_comes_69 rfl rfl ?_
    refine z_iald (pc := 70) X wM10 zk_41 zl_41 (z_il (by decide)) dX11_comes_70 ?_
    refine lv_aload_n (pc := 71) hx hb dX11_comes_71 rfl (lv_at hl 1 rfl) ?_
    refine zg_DrinkingRoofsModel_fell (pc := 72) X wM10 zw_fl_5_103 dX11_comes_72 ?_
    refine lv_iadd (pc := 75) hx hb dX11_comes_75 ?_
    refine z_iast (pc := 76) X wM10 zk_41 zl_41 (z_il (by decide)) dX11_comes_76 (fun HM11 lM11 wM11 => ?_)
    obtain ⟨M11, eM11, h⟩ := z_lo h
    rw [← eM11] at wM11
    refine lv_aload_n (pc := 77) hx hb dX11_comes_77 rfl (lv_at hl 1 rfl) ?_
    refine zg_DrinkingRoofsModel_drained (pc := 78) X wM11 zw_fl_5_102 dX11_comes_78 ?_
    refine lv_iconst (pc := 81) (v := 0) hx hb dX11_comes_81 (by decide) ?_
    refine lv_aload_n (pc := 82) hx hb dX11_comes_82 rfl (lv_at hl 1 rfl) ?_
    refine zg_DrinkingRoofsModel_w (pc := 83) X wM11 zw_fl_5_71 dX11_comes_83 ?_
    refine lv_iconst (pc := 86) (v := 3) hx hb dX11_comes_86 (by decide) ?_
    refine z_iald (pc := 87) X wM11 zk_41 zl_41 (z_il (by decide)) dX11_comes_87 ?_
    refine lv_aload_n (pc := 88) hx hb dX11_comes_88 rfl (lv_at hl 1 rfl) ?_
    refine zg_DrinkingRoofsModel_w (pc := 89) X wM11 zw_fl_5_71 dX11_comes_89 ?_
    refine lv_iconst (pc := 92) (v := 2) hx hb dX11_comes_92 (by decide) ?_
    refine z_iald (pc := 93) X wM11 zk_41 zl_41 (z_il (by decide)) dX11_comes_93 ?_
    refine lv_isub (pc := 94) hx hb dX11_comes_94 ?_
    obtain ⟨x12, ex12, h⟩ := z_bd h
    refine z_csI (pc := 95) (rest := [.int (M11.1 40 31)]) X wM11 (m_X11_most  ex12) zw_ml_6_136 zw_st_6_137 zw_in_1_12 zw_co_6_138 zd_X11_most (by decide) rfl hl.1 rfl (Nat.le_of_ble_eq_true rfl) dX11_comes_95 ⟨Nat.zero_le _, Nat.zero_le _⟩ (fun Hx12 lx12 wx12 => ?_)
    obtain ⟨x13, ex13, h⟩ := z_bd h
    refine z_csI (pc := 98) (rest := []) X wx12 (m_X11_least  ex13) zw_ml_6_129 zw_st_6_130 zw_in_1_12 zw_co_6_131 zd_X11_least (by decide) rfl hl.1 rfl (Nat.le_of_ble_eq_true rfl) dX11_comes_98 ⟨Nat.zero_le _, Nat.zero_le _⟩ (fun Hx13 lx13 wx13 => ?_)
    refine lv_istore_n (pc := 101) (lv' := [(3, .int x13.1), (2, .int x5.1), (0, .ref (G.1 40)), (1, .int i1)]) hx hb dX11_comes_101 rfl hl (by decide) rfl (fun ls hl => ?_)
    refine lv_aload_n (pc := 102) hx hb dX11_comes_102 rfl (lv_at hl 2 rfl) ?_
    refine zg_DrinkingRoofsModel_w (pc := 103) X wx13 zw_fl_5_71 dX11_comes_103 ?_
    refine lv_iconst (pc := 106) (v := 2) hx hb dX11_comes_106 (by decide) ?_
    refine lv_dup2_11 (pc := 107) hx hb dX11_comes_107 rfl rfl ?_
    refine z_iald (pc := 108) X wx13 zk_41 zl_41 (z_il (by decide)) dX11_comes_108 ?_
    refine lv_iload_n (pc := 109) hx hb dX11_comes_109 rfl (lv_at hl 0 rfl) ?_
    refine lv_iadd (pc := 110) hx hb dX11_comes_110 ?_
    refine z_iast (pc := 111) X wx13 zk_41 zl_41 (z_il (by decide)) dX11_comes_111 (fun HM14 lM14 wM14 => ?_)
    obtain ⟨M14, eM14, h⟩ := z_lo h
    rw [← eM14] at wM14
    refine lv_aload_n (pc := 112) hx hb dX11_comes_112 rfl (lv_at hl 2 rfl) ?_
    refine zg_DrinkingRoofsModel_w (pc := 113) X wM14 zw_fl_5_71 dX11_comes_113 ?_
    refine lv_iconst (pc := 116) (v := 4) hx hb dX11_comes_116 (by decide) ?_
    refine lv_dup2_11 (pc := 117) hx hb dX11_comes_117 rfl rfl ?_
    refine z_iald (pc := 118) X wM14 zk_41 zl_41 (z_il (by decide)) dX11_comes_118 ?_
    refine lv_aload_n (pc := 119) hx hb dX11_comes_119 rfl (lv_at hl 2 rfl) ?_
    refine zg_DrinkingRoofsModel_drained (pc := 120) X wM14 zw_fl_5_102 dX11_comes_120 ?_
    refine lv_iload_n (pc := 123) hx hb dX11_comes_123 rfl (lv_at hl 0 rfl) ?_
    refine lv_isub (pc := 124) hx hb dX11_comes_124 ?_
    refine lv_iadd (pc := 125) hx hb dX11_comes_125 ?_
    refine z_iast (pc := 126) X wM14 zk_41 zl_41 (z_il (by decide)) dX11_comes_126 (fun HM15 lM15 wM15 => ?_)
    obtain ⟨M15, eM15, h⟩ := z_lo h
    rw [← eM15] at wM15
    refine lv_iconst (pc := 127) (v := 0) hx hb dX11_comes_127 (by decide) ?_
    refine lv_istore (pc := 128) (lv' := [(4, .int (0 : Int32)), (3, .int x13.1), (2, .int x5.1), (0, .ref (G.1 40)), (1, .int i1)]) hx hb dX11_comes_128 hl (by decide) rfl (fun ls hl => ?_)
    exact w_X11_comes_130 X z_F x5.1 (0 : Int32) M15 HM15 lM15 ls  wM15 (lv_sub hl [3, 2, 0] rfl) h
  · replace h := z_t c2 h
    refine lv_iconst (pc := 8) (v := -1) hx hb dX11_comes_8 (by decide) ?_
    obtain rfl := Option.some.inj h
    exact z_ri (pc := 9) X wx1 dX11_comes_9
def f_X11_of (i1 : Int32) (i2 : Int32) (M : zM) : Option (Int32 × zM) :=
  (f_X11_isHouse i1 M).bind fun x1 =>
  if x1.1 = 0 then (
    some ((-1000000000 : Int32), x1.2)
  ) else (
    (f_X11_isIn i2 (0 : Int32) (13 : Int32) x1.2).bind fun x3 =>
    if x3.1 = 0 then (
      some ((-1000000000 : Int32), x3.2)
    ) else (
      (f_X11_own i1 i2 x3.2).bind fun x5 =>
      some (x5.1, x5.2)
    )
  )
set_option maxHeartbeats 4000000 in
set_option maxRecDepth 100000 in
theorem m_X11_of {l : Launch} {G : zG} {i1 : Int32} {i2 : Int32} {M : zM} {r : Int32 × zM} (h : f_X11_of i1 i2 M = some r) : z_T l G 2 yX11_of (.code yX11_of cX11_of 3 (some .int)) [.ref (G.1 40), .int i1, .int i2] M (some (.int r.1)) r.2 := by
  refine z_of rfl ?_
  intro p e s m below meth c X hw
  have hl := lv_entry [.ref (G.1 40), .int i1, .int i2] (n := 3) (Nat.le_of_ble_eq_true rfl)
  rw [lg_entry_eq]
  generalize (lg_sl [.ref (G.1 40), .int i1, .int i2] ++ List.replicate (3 - (lg_sl [.ref (G.1 40), .int i1, .int i2]).length) Slot.unset).toArray = ls at hl ⊢
  have hl : lv_has ls 3 [(0, .ref (G.1 40)), (1, .int i1), (2, .int i2)] := hl
  generalize ([.ref (G.1 40), .int i1, .int i2] : List Value).toArray = args at X ⊢
  have X : z_C G p s m args meth c cX11_of 3 RX11 (some .int) := X
  have hx := X.1
  have hb := X.2.1
  unfold f_X11_of at h
  refine lv_aload_n (pc := 0) hx hb dX11_of_0 rfl (lv_at hl 0 rfl) ?_
  refine lv_iload_n (pc := 1) hx hb dX11_of_1 rfl (lv_at hl 1 rfl) ?_
  obtain ⟨x1, ex1, h⟩ := z_bd h
  refine z_cvI (pc := 2) (rest := []) X hw (m_X11_isHouse  ex1) (z_lt zk_40 (by decide)) (z_E11 zk_40) rfl zw_ml_5_220 zw_im_5_222 zw_se_S_36 zw_in_1_12 zw_co_5_223 zd_X11_isHouse (by decide) rfl hl.1 rfl (Nat.le_of_ble_eq_true rfl) dX11_of_2 ⟨Nat.zero_le _, Nat.zero_le _⟩ (fun Hx1 lx1 wx1 => ?_)
  refine lv_if_eq (pc := 5) (tgt := 27) hx hb dX11_of_5 (by decide) (fun c2 => ?_) (fun c2 => ?_)
  · replace h := z_t c2 h
    refine lv_ldcw (pc := 27) (v := -1000000000) hx hb X.2.2.2.1 (X.2.2.2.2.1 _ zw_cn_6_158) dX11_of_27 ?_
    obtain rfl := Option.some.inj h
    exact z_ri (pc := 30) X wx1 dX11_of_30
  · replace h := z_f c2 h
    refine lv_iload_n (pc := 8) hx hb dX11_of_8 rfl (lv_at hl 2 rfl) ?_
    refine lv_iconst (pc := 9) (v := 0) hx hb dX11_of_9 (by decide) ?_
    refine lv_bipush (pc := 10) (v := 13) hx hb dX11_of_10 (by decide) ?_
    obtain ⟨x3, ex3, h⟩ := z_bd h
    refine z_csI (pc := 12) (rest := []) X wx1 (m_X11_isIn  ex3) zw_ml_5_209 zw_st_5_210 zw_in_1_12 zw_co_5_211 zd_X11_isIn (by decide) rfl hl.1 rfl (Nat.le_of_ble_eq_true rfl) dX11_of_12 ⟨Nat.zero_le _, Nat.zero_le _⟩ (fun Hx3 lx3 wx3 => ?_)
    refine lv_if_eq (pc := 15) (tgt := 27) hx hb dX11_of_15 (by decide) (fun c4 => ?_) (fun c4 => ?_)
    · replace h := z_t c4 h
      refine lv_ldcw (pc := 27) (v := -1000000000) hx hb X.2.2.2.1 (X.2.2.2.2.1 _ zw_cn_6_158) dX11_of_27 ?_
      obtain rfl := Option.some.inj h
      exact z_ri (pc := 30) X wx3 dX11_of_30
    · replace h := z_f c4 h
      refine lv_aload_n (pc := 18) hx hb dX11_of_18 rfl (lv_at hl 0 rfl) ?_
      refine lv_iload_n (pc := 19) hx hb dX11_of_19 rfl (lv_at hl 1 rfl) ?_
      refine lv_iload_n (pc := 20) hx hb dX11_of_20 rfl (lv_at hl 2 rfl) ?_
      obtain ⟨x5, ex5, h⟩ := z_bd h
      refine z_cvI (pc := 21) (rest := []) X wx3 (m_X11_own  ex5) (z_lt zk_40 (by decide)) (z_E11 zk_40) rfl zw_ml_6_113 zw_im_6_115 zw_se_S_56 zw_in_1_12 zw_co_6_116 zd_X11_own (by decide) rfl hl.1 rfl (Nat.le_of_ble_eq_true rfl) dX11_of_21 ⟨Nat.zero_le _, Nat.zero_le _⟩ (fun Hx5 lx5 wx5 => ?_)
      refine lv_goto (pc := 24) (tgt := 30) hx hb dX11_of_24 (by decide) ?_
      obtain rfl := Option.some.inj h
      exact z_ri (pc := 30) X wx5 dX11_of_30
def f_X11_hour (i1 : Int32) (i2 : Int32) (i3 : Int32) (M : zM) : Option (Int32 × zM) :=
  (f_X11_isIn i2 (0 : Int32) ((M.1 41 (Int32.toNatClampNeg (8 : Int32))) - (1 : Int32)) M).bind fun x1 =>
  if x1.1 = 0 then (
    some ((-1 : Int32), x1.2)
  ) else (
    (f_X11_isIn i1 (0 : Int32) ((x1.2.1 41 (Int32.toNatClampNeg (9 : Int32))) - (1 : Int32)) x1.2).bind fun x3 =>
    if x3.1 = 0 then (
      some ((-1 : Int32), x3.2)
    ) else (
      (f_X11_isIn i3 (0 : Int32) (2 : Int32) x3.2).bind fun x5 =>
      if x5.1 = 0 then (
        some ((-1 : Int32), x5.2)
      ) else (
        z_l (((440 : Int32) + ((3 : Int32) * (((12 : Int32) * i1) + i2))) + i3) fun v7 =>
        z_g (z_ix v7 1700) <|
        some ((x5.2.1 41 (Int32.toNatClampNeg v7)), x5.2)
      )
    )
  )
set_option maxHeartbeats 4000000 in
set_option maxRecDepth 100000 in
theorem m_X11_hour {l : Launch} {G : zG} {i1 : Int32} {i2 : Int32} {i3 : Int32} {M : zM} {r : Int32 × zM} (h : f_X11_hour i1 i2 i3 M = some r) : z_T l G 1 yX11_hour (.code yX11_hour cX11_hour 4 (some .int)) [.ref (G.1 40), .int i1, .int i2, .int i3] M (some (.int r.1)) r.2 := by
  refine z_of rfl ?_
  intro p e s m below meth c X hw
  have hl := lv_entry [.ref (G.1 40), .int i1, .int i2, .int i3] (n := 4) (Nat.le_of_ble_eq_true rfl)
  rw [lg_entry_eq]
  generalize (lg_sl [.ref (G.1 40), .int i1, .int i2, .int i3] ++ List.replicate (4 - (lg_sl [.ref (G.1 40), .int i1, .int i2, .int i3]).length) Slot.unset).toArray = ls at hl ⊢
  have hl : lv_has ls 4 [(0, .ref (G.1 40)), (1, .int i1), (2, .int i2), (3, .int i3)] := hl
  generalize ([.ref (G.1 40), .int i1, .int i2, .int i3] : List Value).toArray = args at X ⊢
  have X : z_C G p s m args meth c cX11_hour 4 RX11 (some .int) := X
  have hx := X.1
  have hb := X.2.1
  unfold f_X11_hour at h
  refine lv_iload_n (pc := 0) hx hb dX11_hour_0 rfl (lv_at hl 2 rfl) ?_
  refine lv_iconst (pc := 1) (v := 0) hx hb dX11_hour_1 (by decide) ?_
  refine lv_aload_n (pc := 2) hx hb dX11_hour_2 rfl (lv_at hl 0 rfl) ?_
  refine zg_DrinkingRoofsModel_w (pc := 3) X hw zw_fl_5_71 dX11_hour_3 ?_
  refine lv_bipush (pc := 6) (v := 8) hx hb dX11_hour_6 (by decide) ?_
  refine z_iald (pc := 8) X hw zk_41 zl_41 (z_il (by decide)) dX11_hour_8 ?_
  refine lv_iconst (pc := 9) (v := 1) hx hb dX11_hour_9 (by decide) ?_
  refine lv_isub (pc := 10) hx hb dX11_hour_10 ?_
  obtain ⟨x1, ex1, h⟩ := z_bd h
  refine z_csI (pc := 11) (rest := []) X hw (m_X11_isIn  ex1) zw_ml_5_209 zw_st_5_210 zw_in_1_12 zw_co_5_211 zd_X11_isIn (by decide) rfl hl.1 rfl (Nat.le_of_ble_eq_true rfl) dX11_hour_11 ⟨Nat.zero_le _, Nat.zero_le _⟩ (fun Hx1 lx1 wx1 => ?_)
  refine lv_if_eq (pc := 14) (tgt := 65) hx hb dX11_hour_14 (by decide) (fun c2 => ?_) (fun c2 => ?_)
  · replace h := z_t c2 h
    refine lv_iconst (pc := 65) (v := -1) hx hb dX11_hour_65 (by decide) ?_
    obtain rfl := Option.some.inj h
    exact z_ri (pc := 66) X wx1 dX11_hour_66
  · replace h := z_f c2 h
    refine lv_iload_n (pc := 17) hx hb dX11_hour_17 rfl (lv_at hl 1 rfl) ?_
    refine lv_iconst (pc := 18) (v := 0) hx hb dX11_hour_18 (by decide) ?_
    refine lv_aload_n (pc := 19) hx hb dX11_hour_19 rfl (lv_at hl 0 rfl) ?_
    refine zg_DrinkingRoofsModel_w (pc := 20) X wx1 zw_fl_5_71 dX11_hour_20 ?_
    refine lv_bipush (pc := 23) (v := 9) hx hb dX11_hour_23 (by decide) ?_
    refine z_iald (pc := 25) X wx1 zk_41 zl_41 (z_il (by decide)) dX11_hour_25 ?_
    refine lv_iconst (pc := 26) (v := 1) hx hb dX11_hour_26 (by decide) ?_
    refine lv_isub (pc := 27) hx hb dX11_hour_27 ?_
    obtain ⟨x3, ex3, h⟩ := z_bd h
    refine z_csI (pc := 28) (rest := []) X wx1 (m_X11_isIn  ex3) zw_ml_5_209 zw_st_5_210 zw_in_1_12 zw_co_5_211 zd_X11_isIn (by decide) rfl hl.1 rfl (Nat.le_of_ble_eq_true rfl) dX11_hour_28 ⟨Nat.zero_le _, Nat.zero_le _⟩ (fun Hx3 lx3 wx3 => ?_)
    refine lv_if_eq (pc := 31) (tgt := 65) hx hb dX11_hour_31 (by decide) (fun c4 => ?_) (fun c4 => ?_)
    · replace h := z_t c4 h
      refine lv_iconst (pc := 65) (v := -1) hx hb dX11_hour_65 (by decide) ?_
      obtain rfl := Option.some.inj h
      exact z_ri (pc := 66) X wx3 dX11_hour_66
    · replace h := z_f c4 h
      refine lv_iload_n (pc := 34) hx hb dX11_hour_34 rfl (lv_at hl 3 rfl) ?_
      refine lv_iconst (pc := 35) (v := 0) hx hb dX11_hour_35 (by decide) ?_
      refine lv_iconst (pc := 36) (v := 2) hx hb dX11_hour_36 (by decide) ?_
      obtain ⟨x5, ex5, h⟩ := z_bd h
      refine z_csI (pc := 37) (rest := []) X wx3 (m_X11_isIn  ex5) zw_ml_5_209 zw_st_5_210 zw_in_1_12 zw_co_5_211 zd_X11_isIn (by decide) rfl hl.1 rfl (Nat.le_of_ble_eq_true rfl) dX11_hour_37 ⟨Nat.zero_le _, Nat.zero_le _⟩ (fun Hx5 lx5 wx5 => ?_)
      refine lv_if_eq (pc := 40) (tgt := 65) hx hb dX11_hour_40 (by decide) (fun c6 => ?_) (fun c6 => ?_)
      · replace h := z_t c6 h
        refine lv_iconst (pc := 65) (v := -1) hx hb dX11_hour_65 (by decide) ?_
        obtain rfl := Option.some.inj h
        exact z_ri (pc := 66) X wx5 dX11_hour_66
      · replace h := z_f c6 h
        refine lv_aload_n (pc := 43) hx hb dX11_hour_43 rfl (lv_at hl 0 rfl) ?_
        refine zg_DrinkingRoofsModel_w (pc := 44) X wx5 zw_fl_5_71 dX11_hour_44 ?_
        refine lv_sipush (pc := 47) (v := 440) hx hb dX11_hour_47 (by decide) ?_
        refine lv_iconst (pc := 50) (v := 3) hx hb dX11_hour_50 (by decide) ?_
        refine lv_bipush (pc := 51) (v := 12) hx hb dX11_hour_51 (by decide) ?_
        refine lv_iload_n (pc := 53) hx hb dX11_hour_53 rfl (lv_at hl 1 rfl) ?_
        refine lv_imul (pc := 54) hx hb dX11_hour_54 ?_
        refine lv_iload_n (pc := 55) hx hb dX11_hour_55 rfl (lv_at hl 2 rfl) ?_
        refine lv_iadd (pc := 56) hx hb dX11_hour_56 ?_
        refine lv_imul (pc := 57) hx hb dX11_hour_57 ?_
        refine lv_iadd (pc := 58) hx hb dX11_hour_58 ?_
        refine lv_iload_n (pc := 59) hx hb dX11_hour_59 rfl (lv_at hl 3 rfl) ?_
        refine lv_iadd (pc := 60) hx hb dX11_hour_60 ?_
        obtain ⟨v7, ev7, h⟩ := z_lo h
        refine z_topi ev7 ?_
        obtain ⟨g8, h⟩ := z_gd h
        refine z_iald (pc := 61) X wx5 zk_41 zl_41 g8 dX11_hour_61 ?_
        refine lv_goto (pc := 62) (tgt := 66) hx hb dX11_hour_62 (by decide) ?_
        obtain rfl := Option.some.inj h
        exact z_ri (pc := 66) X wx5 dX11_hour_66
def f_X11_count_4 : Nat → Int32 → Int32 → Int32 → zM → Option (Int32 × zM)
  | 0, _, _, _, _ => none
  | n + 1, i0, i1, i2, M =>
    if (10 : Int32) ≤ i2 then (
      some (i1, M)
    ) else (
      z_l (i1 + ((i0 >>> (i2 &&& 31)) &&& (1 : Int32))) fun v2 =>
      z_l (i2 + (1 : Int32)) fun v3 =>
      f_X11_count_4 n i0 v2 v3 M
    )
def f_X11_count (i0 : Int32) (M : zM) : Option (Int32 × zM) :=
  f_X11_count_4 z_F i0 (0 : Int32) (0 : Int32) M
set_option maxHeartbeats 4000000 in
set_option maxRecDepth 100000 in
theorem w_X11_count_4 {G : zG} {p : Program} {l : Launch} {e : Env} {s : State} {m : MethodId} {args : Array Value} {below : List Frame} {meth : Method} {c : Code} (X : z_C G p s m args meth c cX11_count 3 RX11 (some .int)) {r : Int32 × zM} : ∀ (n : Nat) (i0 : Int32) (i1 : Int32) (i2 : Int32) (M : zM) (H : Heap) (locs : List Loc) (ls : Array Slot), z_W G M H locs → lv_has ls 3 [(0, .int i0), (1, .int i1), (2, .int i2)] → f_X11_count_4 n i0 i1 i2 M = some r → W p l e (z_rm 0) s m args below meth c H locs 0 0 (z_Q G below args s (some (.int r.1)) r.2) (F0 m 4 ls []) := by
  have hx := X.1
  have hb := X.2.1
  intro n
  induction n with
  | zero =>
    intro i0 i1 i2 M H locs ls  hw hl h
    exact z_no h
  | succ n ih =>
    intro i0 i1 i2 M H locs ls  hw hl h
    rw [f_X11_count_4] at h
    refine lv_iload_n (pc := 4) hx hb dX11_count_4 rfl (lv_at hl 2 rfl) ?_
    refine lv_bipush (pc := 5) (v := 10) hx hb dX11_count_5 (by decide) ?_
    refine lv_icmp_ge (pc := 7) (tgt := 24) hx hb dX11_count_7 (by decide) (fun c1 => ?_) (fun c1 => ?_)
    · replace h := z_t c1 h
      refine lv_iload_n (pc := 24) hx hb dX11_count_24 rfl (lv_at hl 1 rfl) ?_
      obtain rfl := Option.some.inj h
      exact z_ri (pc := 25) X hw dX11_count_25
    · replace h := z_f c1 h
      refine lv_iload_n (pc := 10) hx hb dX11_count_10 rfl (lv_at hl 1 rfl) ?_
      refine lv_iload_n (pc := 11) hx hb dX11_count_11 rfl (lv_at hl 0 rfl) ?_
      refine lv_iload_n (pc := 12) hx hb dX11_count_12 rfl (lv_at hl 2 rfl) ?_
      refine lv_ishr (pc := 13) hx hb dX11_count_13 ?_
      refine lv_iconst (pc := 14) (v := 1) hx hb dX11_count_14 (by decide) ?_
      refine lv_iand (pc := 15) hx hb dX11_count_15 ?_
      refine lv_iadd (pc := 16) hx hb dX11_count_16 ?_
      obtain ⟨v2, ev2, h⟩ := z_lo h
      refine z_topi ev2 ?_
      refine lv_istore_n (pc := 17) (lv' := [(1, .int v2), (0, .int i0), (2, .int i2)]) hx hb dX11_count_17 rfl hl (by decide) rfl (fun ls hl => ?_)
      obtain ⟨v3, ev3, h⟩ := z_lo h
      refine lv_iinc (pc := 18) (v := v3) (lv' := [(2, .int v3), (1, .int v2), (0, .int i0)]) hx hb dX11_count_18 hl (k := 2) rfl (by rw [ev3]; rfl) (by decide) rfl (fun ls hl => ?_)
      refine lv_goto (pc := 21) (tgt := 4) hx hb dX11_count_21 (by decide) ?_
      exact ih i0 v2 v3 M H locs ls  hw (lv_sub hl [2, 1, 0] rfl) h
set_option maxHeartbeats 4000000 in
set_option maxRecDepth 100000 in
theorem m_X11_count {l : Launch} {G : zG} {i0 : Int32} {M : zM} {r : Int32 × zM} (h : f_X11_count i0 M = some r) : z_T l G 0 yX11_count (.code yX11_count cX11_count 3 (some .int)) [.int i0] M (some (.int r.1)) r.2 := by
  refine z_of rfl ?_
  intro p e s m below meth c X hw
  have hl := lv_entry [.int i0] (n := 3) (Nat.le_of_ble_eq_true rfl)
  rw [lg_entry_eq]
  generalize (lg_sl [.int i0] ++ List.replicate (3 - (lg_sl [.int i0]).length) Slot.unset).toArray = ls at hl ⊢
  have hl : lv_has ls 3 [(0, .int i0)] := hl
  generalize ([.int i0] : List Value).toArray = args at X ⊢
  have X : z_C G p s m args meth c cX11_count 3 RX11 (some .int) := X
  have hx := X.1
  have hb := X.2.1
  unfold f_X11_count at h
  refine lv_iconst (pc := 0) (v := 0) hx hb dX11_count_0 (by decide) ?_
  refine lv_istore_n (pc := 1) (lv' := [(1, .int (0 : Int32)), (0, .int i0)]) hx hb dX11_count_1 rfl hl (by decide) rfl (fun ls hl => ?_)
  refine lv_iconst (pc := 2) (v := 0) hx hb dX11_count_2 (by decide) ?_
  refine lv_istore_n (pc := 3) (lv' := [(2, .int (0 : Int32)), (1, .int (0 : Int32)), (0, .int i0)]) hx hb dX11_count_3 rfl hl (by decide) rfl (fun ls hl => ?_)
  exact w_X11_count_4 X z_F i0 (0 : Int32) (0 : Int32) M s.heap [] ls  hw (lv_sub hl [2, 1, 0] rfl) h
def f_X11_orders_b (S : Int32 → zM → Option (Int64 × zM)) (i0 : Int32) (M : zM) : Option (Int64 × zM) :=
  if (2 : Int32) ≤ i0 then (
    (S (i0 - (1 : Int32)) M).bind fun x2 =>
    some (((Int32.toInt64 i0) * x2.1), x2.2)
  ) else (
    some ((1 : Int64), M)
  )
def f_X11_orders : Nat → Int32 → zM → Option (Int64 × zM)
  | 0, _, _ => none
  | d + 1, i0, M => f_X11_orders_b (f_X11_orders d) i0 M
set_option maxHeartbeats 4000000 in
set_option maxRecDepth 100000 in
theorem m_X11_orders_b {l : Launch} {G : zG} {lev : Nat} (hlev : 0 ≤ lev) {S : Int32 → zM → Option (Int64 × zM)} (hS : ∀ (ai0 : Int32) (M : zM) (q : Int64 × zM), S ai0 M = some q → z_T l G lev yX11_orders (.code yX11_orders cX11_orders 1 (some .long)) [.int ai0] M (some (.long q.1)) q.2) {i0 : Int32} {M : zM} {r : Int64 × zM} (h : f_X11_orders_b S i0 M = some r) : z_T l G (lev + 1) yX11_orders (.code yX11_orders cX11_orders 1 (some .long)) [.int i0] M (some (.long r.1)) r.2 := by
  refine z_of rfl ?_
  intro p e s m below meth c X hw
  have hl := lv_entry [.int i0] (n := 1) (Nat.le_of_ble_eq_true rfl)
  rw [lg_entry_eq]
  generalize (lg_sl [.int i0] ++ List.replicate (1 - (lg_sl [.int i0]).length) Slot.unset).toArray = ls at hl ⊢
  have hl : lv_has ls 1 [(0, .int i0)] := hl
  generalize ([.int i0] : List Value).toArray = args at X ⊢
  have X : z_C G p s m args meth c cX11_orders 1 RX11 (some .long) := X
  have hx := X.1
  have hb := X.2.1
  unfold f_X11_orders_b at h
  refine lv_iload_n (pc := 0) hx hb dX11_orders_0 rfl (lv_at hl 0 rfl) ?_
  refine lv_iconst (pc := 1) (v := 2) hx hb dX11_orders_1 (by decide) ?_
  refine lv_icmp_ge (pc := 2) (tgt := 9) hx hb dX11_orders_2 (by decide) (fun c1 => ?_) (fun c1 => ?_)
  · replace h := z_t c1 h
    refine lv_iload_n (pc := 9) hx hb dX11_orders_9 rfl (lv_at hl 0 rfl) ?_
    refine lv_i2l (pc := 10) hx hb dX11_orders_10 rfl ?_
    refine lv_iload_n (pc := 11) hx hb dX11_orders_11 rfl (lv_at hl 0 rfl) ?_
    refine lv_iconst (pc := 12) (v := 1) hx hb dX11_orders_12 (by decide) ?_
    refine lv_isub (pc := 13) hx hb dX11_orders_13 ?_
    obtain ⟨x2, ex2, h⟩ := z_bd h
    refine z_csJ (pc := 14) (rest := [.long (Int32.toInt64 i0)]) X hw (hS _ _ _  ex2) zw_ml_6_175 zw_st_6_176 zw_in_1_12 zw_co_6_177 zd_X11_orders (z_lv (by omega) (by decide)) rfl hl.1 rfl (Nat.le_of_ble_eq_true rfl) dX11_orders_14 ⟨Nat.zero_le _, Nat.zero_le _⟩ (fun Hx2 lx2 wx2 => ?_)
    refine lv_lmul (pc := 17) hx hb dX11_orders_17 ?_
    obtain rfl := Option.some.inj h
    exact z_rj (pc := 18) X wx2 dX11_orders_18
  · replace h := z_f c1 h
    refine lv_lconst (pc := 5) (v := 1) hx hb dX11_orders_5 (by decide) ?_
    refine lv_goto (pc := 6) (tgt := 18) hx hb dX11_orders_6 (by decide) ?_
    obtain rfl := Option.some.inj h
    exact z_rj (pc := 18) X hw dX11_orders_18
set_option maxHeartbeats 4000000 in
set_option maxRecDepth 100000 in
theorem m_X11_orders {l : Launch} {G : zG} : ∀ (d : Nat) (i0 : Int32) (M : zM) (r : Int64 × zM), f_X11_orders d i0 M = some r → z_T l G (0 + 1 * d) yX11_orders (.code yX11_orders cX11_orders 1 (some .long)) [.int i0] M (some (.long r.1)) r.2 := by
  intro d
  induction d with
  | zero =>
    intro i0 M r  h
    exact z_no h
  | succ d ih =>
    intro i0 M r  h
    exact m_X11_orders_b (lev := 0 + 1 * d) (Nat.le_add_right _ _) ih  h
def f_X11_overAt_7 : Nat → Int32 → Int32 → Int32 → Int32 → zM → Option (Int32 × zM)
  | 0, _, _, _, _, _ => none
  | n + 1, i1, i2, i3, i4, M =>
    if (M.1 40 30) ≤ i4 then (
      (f_X11_runs i2 M).bind fun x2 =>
      z_g (z_ix i1 11) <|
      some ((x2.2.1 56 (Int32.toNatClampNeg i1)), x2.2)
    ) else (
      if ((i3 >>> (i4 &&& 31)) &&& (1 : Int32)) = (1 : Int32) then (
        z_g (z_ix i4 11) <|
        z_g (z_ix i4 11) <|
        z_l (z_w M 51 (Int32.toNatClampNeg i4) (M.1 51 (Int32.toNatClampNeg i4))) fun M10 =>
        z_l (i4 + (1 : Int32)) fun v11 =>
        f_X11_overAt_7 n i1 i2 i3 v11 M10
      ) else (
        z_g (z_ix i4 11) <|
        z_l (z_w M 51 (Int32.toNatClampNeg i4) (0 : Int32)) fun M6 =>
        z_l (i4 + (1 : Int32)) fun v7 =>
        f_X11_overAt_7 n i1 i2 i3 v7 M6
      )
    )
def f_X11_overAt (i1 : Int32) (i2 : Int32) (i3 : Int32) (M : zM) : Option (Int32 × zM) :=
  (f_X11_laysHouses  M).bind fun x1 =>
  f_X11_overAt_7 z_F i1 i2 i3 (0 : Int32) x1
set_option maxHeartbeats 4000000 in
set_option maxRecDepth 100000 in
theorem w_X11_overAt_7 {G : zG} {p : Program} {l : Launch} {e : Env} {s : State} {m : MethodId} {args : Array Value} {below : List Frame} {meth : Method} {c : Code} (X : z_C G p s m args meth c cX11_overAt 5 RX11 (some .int)) {r : Int32 × zM} : ∀ (n : Nat) (i1 : Int32) (i2 : Int32) (i3 : Int32) (i4 : Int32) (M : zM) (H : Heap) (locs : List Loc) (ls : Array Slot), z_W G M H locs → lv_has ls 5 [(0, .ref (G.1 40)), (1, .int i1), (2, .int i2), (3, .int i3), (4, .int i4)] → f_X11_overAt_7 n i1 i2 i3 i4 M = some r → W p l e (z_rm 3) s m args below meth c H locs 0 0 (z_Q G below args s (some (.int r.1)) r.2) (F0 m 7 ls []) := by
  have hx := X.1
  have hb := X.2.1
  intro n
  induction n with
  | zero =>
    intro i1 i2 i3 i4 M H locs ls  hw hl h
    exact z_no h
  | succ n ih =>
    intro i1 i2 i3 i4 M H locs ls  hw hl h
    rw [f_X11_overAt_7] at h
    refine lv_iload (pc := 7) hx hb dX11_overAt_7 (lv_at hl 4 rfl) ?_
    refine lv_aload_n (pc := 9) hx hb dX11_overAt_9 rfl (lv_at hl 0 rfl) ?_
    refine zg_DrinkingRoofsModel_many (pc := 10) X hw zw_fl_5_101 dX11_overAt_10 ?_
    refine lv_icmp_ge (pc := 13) (tgt := 50) hx hb dX11_overAt_13 (by decide) (fun c1 => ?_) (fun c1 => ?_)
    · replace h := z_t c1 h
      refine lv_aload_n (pc := 50) hx hb dX11_overAt_50 rfl (lv_at hl 0 rfl) ?_
      refine lv_iload_n (pc := 51) hx hb dX11_overAt_51 rfl (lv_at hl 2 rfl) ?_
      obtain ⟨x2, ex2, h⟩ := z_bd h
      refine z_cvI (pc := 52) (rest := []) X hw (m_X11_runs  ex2) (z_lt zk_40 (by decide)) (z_E11 zk_40) rfl zw_ml_6_117 zw_im_6_119 zw_se_S_57 zw_in_1_12 zw_co_6_120 zd_X11_runs (by decide) rfl hl.1 rfl (Nat.le_of_ble_eq_true rfl) dX11_overAt_52 ⟨Nat.zero_le _, Nat.zero_le _⟩ (fun Hx2 lx2 wx2 => ?_)
      refine lv_pop (pc := 55) hx hb dX11_overAt_55 rfl ?_
      refine lv_aload_n (pc := 56) hx hb dX11_overAt_56 rfl (lv_at hl 0 rfl) ?_
      refine zg_DrinkingRoofsModel_over (pc := 57) X wx2 zw_fl_5_99 dX11_overAt_57 ?_
      refine lv_iload_n (pc := 60) hx hb dX11_overAt_60 rfl (lv_at hl 1 rfl) ?_
      obtain ⟨g3, h⟩ := z_gd h
      refine z_iald (pc := 61) X wx2 zk_56 zl_56 g3 dX11_overAt_61 ?_
      obtain rfl := Option.some.inj h
      exact z_ri (pc := 62) X wx2 dX11_overAt_62
    · replace h := z_f c1 h
      refine lv_aload_n (pc := 16) hx hb dX11_overAt_16 rfl (lv_at hl 0 rfl) ?_
      refine zg_DrinkingRoofsModel_clog (pc := 17) X hw zw_fl_5_94 dX11_overAt_17 ?_
      refine lv_iload (pc := 20) hx hb dX11_overAt_20 (lv_at hl 4 rfl) ?_
      refine lv_iload_n (pc := 22) hx hb dX11_overAt_22 rfl (lv_at hl 3 rfl) ?_
      refine lv_iload (pc := 23) hx hb dX11_overAt_23 (lv_at hl 4 rfl) ?_
      refine lv_ishr (pc := 25) hx hb dX11_overAt_25 ?_
      refine lv_iconst (pc := 26) (v := 1) hx hb dX11_overAt_26 (by decide) ?_
      refine lv_iand (pc := 27) hx hb dX11_overAt_27 ?_
      refine lv_iconst (pc := 28) (v := 1) hx hb dX11_overAt_28 (by decide) ?_
      refine lv_icmp_ne (pc := 29) (tgt := 42) hx hb dX11_overAt_29 (by decide) (fun c4 => ?_) (fun c4 => ?_)
      · replace h := z_f c4 h
        refine lv_iconst (pc := 42) (v := 0) hx hb dX11_overAt_42 (by decide) ?_
        obtain ⟨g5, h⟩ := z_gd h
        refine z_iast (pc := 43) X hw zk_51 zl_51 g5 dX11_overAt_43 (fun HM6 lM6 wM6 => ?_)
        obtain ⟨M6, eM6, h⟩ := z_lo h
        rw [← eM6] at wM6
        obtain ⟨v7, ev7, h⟩ := z_lo h
        refine lv_iinc (pc := 44) (v := v7) (lv' := [(4, .int v7), (0, .ref (G.1 40)), (1, .int i1), (2, .int i2), (3, .int i3)]) hx hb dX11_overAt_44 hl (k := 4) rfl (by rw [ev7]; rfl) (by decide) rfl (fun ls hl => ?_)
        refine lv_goto (pc := 47) (tgt := 7) hx hb dX11_overAt_47 (by decide) ?_
        exact ih i1 i2 i3 v7 M6 HM6 lM6 ls  wM6 (lv_sub hl [1, 2, 3, 4, 0] rfl) h
      · replace h := z_t c4 h
        refine lv_aload_n (pc := 32) hx hb dX11_overAt_32 rfl (lv_at hl 0 rfl) ?_
        refine zg_DrinkingRoofsModel_clog (pc := 33) X hw zw_fl_5_94 dX11_overAt_33 ?_
        refine lv_iload (pc := 36) hx hb dX11_overAt_36 (lv_at hl 4 rfl) ?_
        obtain ⟨g8, h⟩ := z_gd h
        refine z_iald (pc := 38) X hw zk_51 zl_51 g8 dX11_overAt_38 ?_
        refine lv_goto (pc := 39) (tgt := 43) hx hb dX11_overAt_39 (by decide) ?_
        obtain ⟨g9, h⟩ := z_gd h
        refine z_iast (pc := 43) X hw zk_51 zl_51 g9 dX11_overAt_43 (fun HM10 lM10 wM10 => ?_)
        obtain ⟨M10, eM10, h⟩ := z_lo h
        rw [← eM10] at wM10
        obtain ⟨v11, ev11, h⟩ := z_lo h
        refine lv_iinc (pc := 44) (v := v11) (lv' := [(4, .int v11), (0, .ref (G.1 40)), (1, .int i1), (2, .int i2), (3, .int i3)]) hx hb dX11_overAt_44 hl (k := 4) rfl (by rw [ev11]; rfl) (by decide) rfl (fun ls hl => ?_)
        refine lv_goto (pc := 47) (tgt := 7) hx hb dX11_overAt_47 (by decide) ?_
        exact ih i1 i2 i3 v11 M10 HM10 lM10 ls  wM10 (lv_sub hl [1, 2, 3, 4, 0] rfl) h
set_option maxHeartbeats 4000000 in
set_option maxRecDepth 100000 in
theorem m_X11_overAt {l : Launch} {G : zG} {i1 : Int32} {i2 : Int32} {i3 : Int32} {M : zM} {r : Int32 × zM} (h : f_X11_overAt i1 i2 i3 M = some r) : z_T l G 3 yX11_overAt (.code yX11_overAt cX11_overAt 5 (some .int)) [.ref (G.1 40), .int i1, .int i2, .int i3] M (some (.int r.1)) r.2 := by
  refine z_of rfl ?_
  intro p e s m below meth c X hw
  have hl := lv_entry [.ref (G.1 40), .int i1, .int i2, .int i3] (n := 5) (Nat.le_of_ble_eq_true rfl)
  rw [lg_entry_eq]
  generalize (lg_sl [.ref (G.1 40), .int i1, .int i2, .int i3] ++ List.replicate (5 - (lg_sl [.ref (G.1 40), .int i1, .int i2, .int i3]).length) Slot.unset).toArray = ls at hl ⊢
  have hl : lv_has ls 5 [(0, .ref (G.1 40)), (1, .int i1), (2, .int i2), (3, .int i3)] := hl
  generalize ([.ref (G.1 40), .int i1, .int i2, .int i3] : List Value).toArray = args at X ⊢
  have X : z_C G p s m args meth c cX11_overAt 5 RX11 (some .int) := X
  have hx := X.1
  have hb := X.2.1
  unfold f_X11_overAt at h
  refine lv_aload_n (pc := 0) hx hb dX11_overAt_0 rfl (lv_at hl 0 rfl) ?_
  obtain ⟨x1, ex1, h⟩ := z_bd h
  refine z_cvV (pc := 1) (rest := []) X hw (m_X11_laysHouses  ex1) (z_lt zk_40 (by decide)) (z_E11 zk_40) rfl zw_ml_6_109 zw_im_6_111 zw_se_S_55 zw_in_1_12 zw_co_6_112 zd_X11_laysHouses (by decide) rfl hl.1 rfl (Nat.le_of_ble_eq_true rfl) dX11_overAt_1 ⟨Nat.zero_le _, Nat.zero_le _⟩ (fun Hx1 lx1 wx1 => ?_)
  refine lv_iconst (pc := 4) (v := 0) hx hb dX11_overAt_4 (by decide) ?_
  refine lv_istore (pc := 5) (lv' := [(4, .int (0 : Int32)), (0, .ref (G.1 40)), (1, .int i1), (2, .int i2), (3, .int i3)]) hx hb dX11_overAt_5 hl (by decide) rfl (fun ls hl => ?_)
  exact w_X11_overAt_7 X z_F i1 i2 i3 (0 : Int32) x1 Hx1 lx1 ls  wx1 (lv_sub hl [1, 2, 3, 4, 0] rfl) h
