def f_X6_tryHouse_62 (S : Nat → Nat → Int32 → Int32 → zM → Option (zM)) (k1 : Nat) (k2 : Nat) (i3 : Int32) (i4 : Int32) (i5 : Int32) (M : zM) : Option (zM) :=
    (f_X6_runsOver k1 k2 i3 (10 : Int32) M).bind fun x1 =>
    if x1.1 = i5 then (
      (S k1 k2 (i3 + (1 : Int32)) (i4 ||| ((1 : Int32) <<< (i3 &&& 31))) x1.2).bind fun x3 =>
      some x3
    ) else (
      some x1.2
    )
def f_X6_tryHouse_37 (S : Nat → Nat → Int32 → Int32 → zM → Option (zM)) (k1 : Nat) (k2 : Nat) (i3 : Int32) (i4 : Int32) (si0 : Int32) (M : zM) : Option (zM) :=
    (f_X6_runsOver k1 k2 i3 (0 : Int32) M).bind fun x1 =>
    if x1.1 = si0 then (
      (S k1 k2 (i3 + (1 : Int32)) i4 x1.2).bind fun x3 =>
      f_X6_tryHouse_62 S k1 k2 i3 i4 si0 x3
    ) else (
      f_X6_tryHouse_62 S k1 k2 i3 i4 si0 x1.2
    )
def f_X6_tryHouse_b (S : Nat → Nat → Int32 → Int32 → zM → Option (zM)) (k1 : Nat) (k2 : Nat) (i3 : Int32) (i4 : Int32) (M : zM) : Option (zM) :=
  if (M.1 k1 0) ≤ i3 then (
    (f_X6_note i4 M).bind fun x2 =>
    some x2
  ) else (
    if i3 < (8 : Int32) then (
      if (((M.1 39 0) >>> (i3 &&& 31)) &&& (1 : Int32)) = 0 then (
        f_X6_tryHouse_37 S k1 k2 i3 i4 (0 : Int32) M
      ) else (
        f_X6_tryHouse_37 S k1 k2 i3 i4 (1 : Int32) M
      )
    ) else (
      (f_X6_note i4 M).bind fun x5 =>
      some x5
    )
  )
def f_X6_tryHouse : Nat → Nat → Nat → Int32 → Int32 → zM → Option (zM)
  | 0, _, _, _, _, _ => none
  | d + 1, k1, k2, i3, i4, M => f_X6_tryHouse_b (f_X6_tryHouse d) k1 k2 i3 i4 M
set_option maxHeartbeats 4000000 in
set_option maxRecDepth 100000 in
theorem w_X6_tryHouse_62 {G : zG} {p : Program} {l : Launch} {e : Env} {s : State} {m : MethodId} {args : Array Value} {below : List Frame} {meth : Method} {c : Code} (X : z_C G p s m args meth c cX6_tryHouse 6 RX6 none) {lev : Nat} (hlev : 4 ≤ lev) {S : Nat → Nat → Int32 → Int32 → zM → Option (zM)} (hS : ∀ (ak1 : Nat) (ak2 : Nat) (ai3 : Int32) (ai4 : Int32) (M : zM) (q : zM), z_kd ak1 = 5 → z_kd ak2 = 7 → S ak1 ak2 ai3 ai4 M = some q → z_T l G lev yX6_tryHouse (.code yX6_tryHouse cX6_tryHouse 6 none) [.ref (G.1 39), .ref (G.1 ak1), .ref (G.1 ak2), .int ai3, .int ai4] M none q) {r : zM} : ∀ (k1 : Nat) (k2 : Nat) (i3 : Int32) (i4 : Int32) (i5 : Int32) (M : zM) (H : Heap) (locs : List Loc) (ls : Array Slot), z_kd k1 = 5 → z_kd k2 = 7 → z_W G M H locs → lv_has ls 6 [(0, .ref (G.1 39)), (1, .ref (G.1 k1)), (2, .ref (G.1 k2)), (3, .int i3), (4, .int i4), (5, .int i5)] → f_X6_tryHouse_62 S k1 k2 i3 i4 i5 M = some r → W p l e (z_rm (lev + 1)) s m args below meth c H locs 0 0 (z_Q G below args s none r) (F0 m 62 ls []) := by
  have hx := X.1
  have hb := X.2.1
  intro k1 k2 i3 i4 i5 M H locs ls hk1 hk2 hw hl h
  unfold f_X6_tryHouse_62 at h
  refine lv_aload_n (pc := 62) hx hb dX6_tryHouse_62 rfl (lv_at hl 1 rfl) ?_
  refine lv_aload_n (pc := 63) hx hb dX6_tryHouse_63 rfl (lv_at hl 2 rfl) ?_
  refine lv_iload_n (pc := 64) hx hb dX6_tryHouse_64 rfl (lv_at hl 3 rfl) ?_
  refine lv_bipush (pc := 65) (v := 10) hx hb dX6_tryHouse_65 (by decide) ?_
  obtain ⟨x1, ex1, h⟩ := z_bd h
  refine z_csI (pc := 67) (rest := []) X hw (m_X6_runsOver hk1 hk2 ex1) zw_ml_4_236 zw_st_4_237 zw_in_1_11 zw_co_4_238 zd_X6_runsOver (z_lv (by omega) (by decide)) rfl hl.1 rfl (Nat.le_of_ble_eq_true rfl) dX6_tryHouse_67 ⟨Nat.zero_le _, Nat.zero_le _⟩ (fun Hx1 lx1 wx1 => ?_)
  refine lv_iload (pc := 70) hx hb dX6_tryHouse_70 (lv_at hl 5 rfl) ?_
  refine lv_icmp_ne (pc := 72) (tgt := 90) hx hb dX6_tryHouse_72 (by decide) (fun c2 => ?_) (fun c2 => ?_)
  · replace h := z_f c2 h
    obtain rfl := Option.some.inj h
    exact z_rv (pc := 90) X wx1 dX6_tryHouse_90
  · replace h := z_t c2 h
    refine lv_aload_n (pc := 75) hx hb dX6_tryHouse_75 rfl (lv_at hl 0 rfl) ?_
    refine lv_aload_n (pc := 76) hx hb dX6_tryHouse_76 rfl (lv_at hl 1 rfl) ?_
    refine lv_aload_n (pc := 77) hx hb dX6_tryHouse_77 rfl (lv_at hl 2 rfl) ?_
    refine lv_iload_n (pc := 78) hx hb dX6_tryHouse_78 rfl (lv_at hl 3 rfl) ?_
    refine lv_iconst (pc := 79) (v := 1) hx hb dX6_tryHouse_79 (by decide) ?_
    refine lv_iadd (pc := 80) hx hb dX6_tryHouse_80 ?_
    refine lv_iload (pc := 81) hx hb dX6_tryHouse_81 (lv_at hl 4 rfl) ?_
    refine lv_iconst (pc := 83) (v := 1) hx hb dX6_tryHouse_83 (by decide) ?_
    refine lv_iload_n (pc := 84) hx hb dX6_tryHouse_84 rfl (lv_at hl 3 rfl) ?_
    refine lv_ishl (pc := 85) hx hb dX6_tryHouse_85 ?_
    refine lv_ior (pc := 86) hx hb dX6_tryHouse_86 ?_
    obtain ⟨x3, ex3, h⟩ := z_bd h
    refine z_csV (pc := 87) (rest := []) X wx1 (hS _ _ _ _ _ _ hk1 hk2 ex3) zw_ml_4_228 zw_st_4_229 zw_in_1_11 zw_co_4_230 zd_X6_tryHouse (z_lv (by omega) (by decide)) rfl hl.1 rfl (Nat.le_of_ble_eq_true rfl) dX6_tryHouse_87 ⟨Nat.zero_le _, Nat.zero_le _⟩ (fun Hx3 lx3 wx3 => ?_)
    obtain rfl := Option.some.inj h
    exact z_rv (pc := 90) X wx3 dX6_tryHouse_90
set_option maxHeartbeats 4000000 in
set_option maxRecDepth 100000 in
theorem w_X6_tryHouse_37 {G : zG} {p : Program} {l : Launch} {e : Env} {s : State} {m : MethodId} {args : Array Value} {below : List Frame} {meth : Method} {c : Code} (X : z_C G p s m args meth c cX6_tryHouse 6 RX6 none) {lev : Nat} (hlev : 4 ≤ lev) {S : Nat → Nat → Int32 → Int32 → zM → Option (zM)} (hS : ∀ (ak1 : Nat) (ak2 : Nat) (ai3 : Int32) (ai4 : Int32) (M : zM) (q : zM), z_kd ak1 = 5 → z_kd ak2 = 7 → S ak1 ak2 ai3 ai4 M = some q → z_T l G lev yX6_tryHouse (.code yX6_tryHouse cX6_tryHouse 6 none) [.ref (G.1 39), .ref (G.1 ak1), .ref (G.1 ak2), .int ai3, .int ai4] M none q) {r : zM} : ∀ (k1 : Nat) (k2 : Nat) (i3 : Int32) (i4 : Int32) (si0 : Int32) (M : zM) (H : Heap) (locs : List Loc) (ls : Array Slot), z_kd k1 = 5 → z_kd k2 = 7 → z_W G M H locs → lv_has ls 6 [(0, .ref (G.1 39)), (1, .ref (G.1 k1)), (2, .ref (G.1 k2)), (3, .int i3), (4, .int i4)] → f_X6_tryHouse_37 S k1 k2 i3 i4 si0 M = some r → W p l e (z_rm (lev + 1)) s m args below meth c H locs 0 0 (z_Q G below args s none r) (F0 m 37 ls [.int si0]) := by
  have hx := X.1
  have hb := X.2.1
  intro k1 k2 i3 i4 si0 M H locs ls hk1 hk2 hw hl h
  unfold f_X6_tryHouse_37 at h
  refine lv_istore (pc := 37) (lv' := [(5, .int si0), (0, .ref (G.1 39)), (1, .ref (G.1 k1)), (2, .ref (G.1 k2)), (3, .int i3), (4, .int i4)]) hx hb dX6_tryHouse_37 hl (by decide) rfl (fun ls hl => ?_)
  refine lv_aload_n (pc := 39) hx hb dX6_tryHouse_39 rfl (lv_at hl 2 rfl) ?_
  refine lv_aload_n (pc := 40) hx hb dX6_tryHouse_40 rfl (lv_at hl 3 rfl) ?_
  refine lv_iload_n (pc := 41) hx hb dX6_tryHouse_41 rfl (lv_at hl 4 rfl) ?_
  refine lv_iconst (pc := 42) (v := 0) hx hb dX6_tryHouse_42 (by decide) ?_
  obtain ⟨x1, ex1, h⟩ := z_bd h
  refine z_csI (pc := 43) (rest := []) X hw (m_X6_runsOver hk1 hk2 ex1) zw_ml_4_236 zw_st_4_237 zw_in_1_11 zw_co_4_238 zd_X6_runsOver (z_lv (by omega) (by decide)) rfl hl.1 rfl (Nat.le_of_ble_eq_true rfl) dX6_tryHouse_43 ⟨Nat.zero_le _, Nat.zero_le _⟩ (fun Hx1 lx1 wx1 => ?_)
  refine lv_iload (pc := 46) hx hb dX6_tryHouse_46 (lv_at hl 0 rfl) ?_
  refine lv_icmp_ne (pc := 48) (tgt := 62) hx hb dX6_tryHouse_48 (by decide) (fun c2 => ?_) (fun c2 => ?_)
  · replace h := z_f c2 h
    exact w_X6_tryHouse_62 X hlev hS k1 k2 i3 i4 si0 x1.2 Hx1 lx1 ls hk1 hk2 wx1 (lv_sub hl [1, 2, 3, 4, 5, 0] rfl) h
  · replace h := z_t c2 h
    refine lv_aload_n (pc := 51) hx hb dX6_tryHouse_51 rfl (lv_at hl 1 rfl) ?_
    refine lv_aload_n (pc := 52) hx hb dX6_tryHouse_52 rfl (lv_at hl 2 rfl) ?_
    refine lv_aload_n (pc := 53) hx hb dX6_tryHouse_53 rfl (lv_at hl 3 rfl) ?_
    refine lv_iload_n (pc := 54) hx hb dX6_tryHouse_54 rfl (lv_at hl 4 rfl) ?_
    refine lv_iconst (pc := 55) (v := 1) hx hb dX6_tryHouse_55 (by decide) ?_
    refine lv_iadd (pc := 56) hx hb dX6_tryHouse_56 ?_
    refine lv_iload (pc := 57) hx hb dX6_tryHouse_57 (lv_at hl 5 rfl) ?_
    obtain ⟨x3, ex3, h⟩ := z_bd h
    refine z_csV (pc := 59) (rest := []) X wx1 (hS _ _ _ _ _ _ hk1 hk2 ex3) zw_ml_4_228 zw_st_4_229 zw_in_1_11 zw_co_4_230 zd_X6_tryHouse (z_lv (by omega) (by decide)) rfl hl.1 rfl (Nat.le_of_ble_eq_true rfl) dX6_tryHouse_59 ⟨Nat.zero_le _, Nat.zero_le _⟩ (fun Hx3 lx3 wx3 => ?_)
    exact w_X6_tryHouse_62 X hlev hS k1 k2 i3 i4 si0 x3 Hx3 lx3 ls hk1 hk2 wx3 (lv_sub hl [1, 2, 3, 4, 5, 0] rfl) h
set_option maxHeartbeats 4000000 in
set_option maxRecDepth 100000 in
theorem m_X6_tryHouse_b {l : Launch} {G : zG} {lev : Nat} (hlev : 4 ≤ lev) {S : Nat → Nat → Int32 → Int32 → zM → Option (zM)} (hS : ∀ (ak1 : Nat) (ak2 : Nat) (ai3 : Int32) (ai4 : Int32) (M : zM) (q : zM), z_kd ak1 = 5 → z_kd ak2 = 7 → S ak1 ak2 ai3 ai4 M = some q → z_T l G lev yX6_tryHouse (.code yX6_tryHouse cX6_tryHouse 6 none) [.ref (G.1 39), .ref (G.1 ak1), .ref (G.1 ak2), .int ai3, .int ai4] M none q) {k1 : Nat} {k2 : Nat} {i3 : Int32} {i4 : Int32} {M : zM} {r : zM} (hk1 : z_kd k1 = 5) (hk2 : z_kd k2 = 7) (h : f_X6_tryHouse_b S k1 k2 i3 i4 M = some r) : z_T l G (lev + 1) yX6_tryHouse (.code yX6_tryHouse cX6_tryHouse 6 none) [.ref (G.1 39), .ref (G.1 k1), .ref (G.1 k2), .int i3, .int i4] M none r := by
  refine z_of rfl ?_
  intro p e s m below meth c X hw
  have hl := lv_entry [.ref (G.1 39), .ref (G.1 k1), .ref (G.1 k2), .int i3, .int i4] (n := 6) (Nat.le_of_ble_eq_true rfl)
  rw [lg_entry_eq]
  generalize (lg_sl [.ref (G.1 39), .ref (G.1 k1), .ref (G.1 k2), .int i3, .int i4] ++ List.replicate (6 - (lg_sl [.ref (G.1 39), .ref (G.1 k1), .ref (G.1 k2), .int i3, .int i4]).length) Slot.unset).toArray = ls at hl ⊢
  have hl : lv_has ls 6 [(0, .ref (G.1 39)), (1, .ref (G.1 k1)), (2, .ref (G.1 k2)), (3, .int i3), (4, .int i4)] := hl
  generalize ([.ref (G.1 39), .ref (G.1 k1), .ref (G.1 k2), .int i3, .int i4] : List Value).toArray = args at X ⊢
  have X : z_C G p s m args meth c cX6_tryHouse 6 RX6 none := X
  have hx := X.1
  have hb := X.2.1
  unfold f_X6_tryHouse_b at h
  refine lv_iload_n (pc := 0) hx hb dX6_tryHouse_0 rfl (lv_at hl 3 rfl) ?_
  refine lv_aload_n (pc := 1) hx hb dX6_tryHouse_1 rfl (lv_at hl 1 rfl) ?_
  refine zg_Roofs_count (pc := 2) X hw hk1 zw_fl_1_140 dX6_tryHouse_2 ?_
  refine lv_icmp_ge (pc := 5) (tgt := 14) hx hb dX6_tryHouse_5 (by decide) (fun c1 => ?_) (fun c1 => ?_)
  · replace h := z_t c1 h
    refine lv_aload_n (pc := 14) hx hb dX6_tryHouse_14 rfl (lv_at hl 0 rfl) ?_
    refine lv_iload (pc := 15) hx hb dX6_tryHouse_15 (lv_at hl 4 rfl) ?_
    obtain ⟨x2, ex2, h⟩ := z_bd h
    refine z_cvV (pc := 17) (rest := []) X hw (m_X6_note  ex2) (z_lt zk_39 (by decide)) (z_E6 zk_39) rfl zw_ml_4_231 zw_im_4_233 zw_se_S_32 zw_in_1_11 zw_co_4_234 zd_X6_note (z_lv (by omega) (by decide)) rfl hl.1 rfl (Nat.le_of_ble_eq_true rfl) dX6_tryHouse_17 ⟨Nat.zero_le _, Nat.zero_le _⟩ (fun Hx2 lx2 wx2 => ?_)
    obtain rfl := Option.some.inj h
    exact z_rv (pc := 20) X wx2 dX6_tryHouse_20
  · replace h := z_f c1 h
    refine lv_iload_n (pc := 8) hx hb dX6_tryHouse_8 rfl (lv_at hl 3 rfl) ?_
    refine lv_bipush (pc := 9) (v := 8) hx hb dX6_tryHouse_9 (by decide) ?_
    refine lv_icmp_lt (pc := 11) (tgt := 21) hx hb dX6_tryHouse_11 (by decide) (fun c3 => ?_) (fun c3 => ?_)
    · replace h := z_t c3 h
      refine lv_aload_n (pc := 21) hx hb dX6_tryHouse_21 rfl (lv_at hl 0 rfl) ?_
      refine zg_Stains_seen (pc := 22) X hw zw_fl_2_154 dX6_tryHouse_22 ?_
      refine lv_iload_n (pc := 25) hx hb dX6_tryHouse_25 rfl (lv_at hl 3 rfl) ?_
      refine lv_ishr (pc := 26) hx hb dX6_tryHouse_26 ?_
      refine lv_iconst (pc := 27) (v := 1) hx hb dX6_tryHouse_27 (by decide) ?_
      refine lv_iand (pc := 28) hx hb dX6_tryHouse_28 ?_
      refine lv_if_eq (pc := 29) (tgt := 36) hx hb dX6_tryHouse_29 (by decide) (fun c4 => ?_) (fun c4 => ?_)
      · replace h := z_t c4 h
        refine lv_iconst (pc := 36) (v := 0) hx hb dX6_tryHouse_36 (by decide) ?_
        exact w_X6_tryHouse_37 X hlev hS k1 k2 i3 i4 (0 : Int32) M s.heap [] ls hk1 hk2 hw (lv_sub hl [0, 1, 2, 3, 4] rfl) h
      · replace h := z_f c4 h
        refine lv_iconst (pc := 32) (v := 1) hx hb dX6_tryHouse_32 (by decide) ?_
        refine lv_goto (pc := 33) (tgt := 37) hx hb dX6_tryHouse_33 (by decide) ?_
        exact w_X6_tryHouse_37 X hlev hS k1 k2 i3 i4 (1 : Int32) M s.heap [] ls hk1 hk2 hw (lv_sub hl [0, 1, 2, 3, 4] rfl) h
    · replace h := z_f c3 h
      refine lv_aload_n (pc := 14) hx hb dX6_tryHouse_14 rfl (lv_at hl 0 rfl) ?_
      refine lv_iload (pc := 15) hx hb dX6_tryHouse_15 (lv_at hl 4 rfl) ?_
      obtain ⟨x5, ex5, h⟩ := z_bd h
      refine z_cvV (pc := 17) (rest := []) X hw (m_X6_note  ex5) (z_lt zk_39 (by decide)) (z_E6 zk_39) rfl zw_ml_4_231 zw_im_4_233 zw_se_S_32 zw_in_1_11 zw_co_4_234 zd_X6_note (z_lv (by omega) (by decide)) rfl hl.1 rfl (Nat.le_of_ble_eq_true rfl) dX6_tryHouse_17 ⟨Nat.zero_le _, Nat.zero_le _⟩ (fun Hx5 lx5 wx5 => ?_)
      obtain rfl := Option.some.inj h
      exact z_rv (pc := 20) X wx5 dX6_tryHouse_20
set_option maxHeartbeats 4000000 in
set_option maxRecDepth 100000 in
theorem m_X6_tryHouse {l : Launch} {G : zG} : ∀ (d : Nat) (k1 : Nat) (k2 : Nat) (i3 : Int32) (i4 : Int32) (M : zM) (r : zM), z_kd k1 = 5 → z_kd k2 = 7 → f_X6_tryHouse d k1 k2 i3 i4 M = some r → z_T l G (4 + 1 * d) yX6_tryHouse (.code yX6_tryHouse cX6_tryHouse 6 none) [.ref (G.1 39), .ref (G.1 k1), .ref (G.1 k2), .int i3, .int i4] M none r := by
  intro d
  induction d with
  | zero =>
    intro k1 k2 i3 i4 M r hk1 hk2 h
    exact z_no h
  | succ d ih =>
    intro k1 k2 i3 i4 M r hk1 hk2 h
    exact m_X6_tryHouse_b (lev := 4 + 1 * d) (Nat.le_add_right _ _) ih hk1 hk2 h
def f_X6_explain_36 : Nat → Nat → Nat → Int32 → zM → Option (zM)
  | 0, _, _, _, _ => none
  | n + 1, k2, k3, i4, M =>
    if (M.1 k2 1) ≤ i4 then (
      some M
    ) else (
      z_l (z_w M 39 5 i4) fun M2 =>
      z_g (z_ix i4 10) <|
      (f_X6_tryHouse 10 k3 (z_ra (k2 + 8) (Int32.toNatClampNeg i4)) (0 : Int32) (0 : Int32) M2).bind fun x4 =>
      z_l (i4 + (1 : Int32)) fun v5 =>
      f_X6_explain_36 n k2 k3 v5 x4
    )
def f_X6_explain (i1 : Int32) (k2 : Nat) (k3 : Nat) (M : zM) : Option (zM) :=
  z_l (z_w M 39 0 i1) fun M1 =>
  z_l (z_w M1 39 1 (0 : Int32)) fun M2 =>
  z_l (z_w M2 39 2 (-1 : Int32)) fun M3 =>
  z_l (z_w M3 39 3 (-1 : Int32)) fun M4 =>
  z_l (z_w M4 39 4 (0 : Int32)) fun M5 =>
  (f_X5_imagine k3 (k2 + 2) M5).bind fun x6 =>
  f_X6_explain_36 z_F k2 k3 (0 : Int32) x6
set_option maxHeartbeats 4000000 in
set_option maxRecDepth 100000 in
theorem w_X6_explain_36 {G : zG} {p : Program} {l : Launch} {e : Env} {s : State} {m : MethodId} {args : Array Value} {below : List Frame} {meth : Method} {c : Code} (X : z_C G p s m args meth c cX6_explain 5 RX6 none) {r : zM} : ∀ (n : Nat) (k2 : Nat) (k3 : Nat) (i4 : Int32) (M : zM) (H : Heap) (locs : List Loc) (ls : Array Slot), z_kd k2 = 8 → z_kd k3 = 5 → z_W G M H locs → lv_has ls 5 [(0, .ref (G.1 39)), (2, .ref (G.1 k2)), (3, .ref (G.1 k3)), (4, .int i4)] → f_X6_explain_36 n k2 k3 i4 M = some r → W p l e (z_rm 15) s m args below meth c H locs 0 0 (z_Q G below args s none r) (F0 m 36 ls []) := by
  have hx := X.1
  have hb := X.2.1
  intro n
  induction n with
  | zero =>
    intro k2 k3 i4 M H locs ls hk2 hk3 hw hl h
    exact z_no h
  | succ n ih =>
    intro k2 k3 i4 M H locs ls hk2 hk3 hw hl h
    rw [f_X6_explain_36] at h
    refine lv_iload (pc := 36) hx hb dX6_explain_36 (lv_at hl 3 rfl) ?_
    refine lv_aload_n (pc := 38) hx hb dX6_explain_38 rfl (lv_at hl 1 rfl) ?_
    refine zg_Street_stormCount (pc := 39) X hw hk2 zw_fl_1_217 dX6_explain_39 ?_
    refine lv_icmp_ge (pc := 42) (tgt := 71) hx hb dX6_explain_42 (by decide) (fun c1 => ?_) (fun c1 => ?_)
    · replace h := z_t c1 h
      obtain rfl := Option.some.inj h
      exact z_rv (pc := 71) X hw dX6_explain_71
    · replace h := z_f c1 h
      refine lv_aload_n (pc := 45) hx hb dX6_explain_45 rfl (lv_at hl 0 rfl) ?_
      refine lv_iload (pc := 46) hx hb dX6_explain_46 (lv_at hl 3 rfl) ?_
      refine zp_Stains_storm (pc := 48) X hw zw_fl_2_159 dX6_explain_48 (fun HM2 lM2 wM2 => ?_)
      obtain ⟨M2, eM2, h⟩ := z_lo h
      rw [← eM2] at wM2
      refine lv_aload_n (pc := 51) hx hb dX6_explain_51 rfl (lv_at hl 0 rfl) ?_
      refine lv_aload_n (pc := 52) hx hb dX6_explain_52 rfl (lv_at hl 2 rfl) ?_
      refine lv_aload_n (pc := 53) hx hb dX6_explain_53 rfl (lv_at hl 1 rfl) ?_
      refine zg_Street_storms (pc := 54) X wM2 hk2 zw_fl_1_221 dX6_explain_54 ?_
      refine lv_iload (pc := 57) hx hb dX6_explain_57 (lv_at hl 3 rfl) ?_
      obtain ⟨g3, h⟩ := z_gd h
      refine z_aald17 (pc := 59) X wM2 (zk_Street_storms hk2) (zl_Street_storms hk2) g3 dX6_explain_59 ?_
      refine lv_iconst (pc := 60) (v := 0) hx hb dX6_explain_60 (by decide) ?_
      refine lv_iconst (pc := 61) (v := 0) hx hb dX6_explain_61 (by decide) ?_
      obtain ⟨x4, ex4, h⟩ := z_bd h
      refine z_csV (pc := 62) (rest := []) X wM2 (m_X6_tryHouse 10 _ _ _ _ _ _ hk3 (zk_el17 (zk_Street_storms hk2) g3) ex4) zw_ml_4_228 zw_st_4_229 zw_in_1_11 zw_co_4_230 zd_X6_tryHouse (by decide) rfl hl.1 rfl (Nat.le_of_ble_eq_true rfl) dX6_explain_62 ⟨Nat.zero_le _, Nat.zero_le _⟩ (fun Hx4 lx4 wx4 => ?_)
      obtain ⟨v5, ev5, h⟩ := z_lo h
      refine lv_iinc (pc := 65) (v := v5) (lv' := [(4, .int v5), (0, .ref (G.1 39)), (2, .ref (G.1 k2)), (3, .ref (G.1 k3))]) hx hb dX6_explain_65 hl (k := 3) rfl (by rw [ev5]; rfl) (by decide) rfl (fun ls hl => ?_)
      refine lv_goto (pc := 68) (tgt := 36) hx hb dX6_explain_68 (by decide) ?_
      exact ih k2 k3 v5 x4 Hx4 lx4 ls hk2 hk3 wx4 (lv_sub hl [1, 2, 3, 0] rfl) h
set_option maxHeartbeats 4000000 in
set_option maxRecDepth 100000 in
theorem m_X6_explain {l : Launch} {G : zG} {i1 : Int32} {k2 : Nat} {k3 : Nat} {M : zM} {r : zM} (hk2 : z_kd k2 = 8) (hk3 : z_kd k3 = 5) (h : f_X6_explain i1 k2 k3 M = some r) : z_T l G 15 yX6_explain (.code yX6_explain cX6_explain 5 none) [.ref (G.1 39), .int i1, .ref (G.1 k2), .ref (G.1 k3)] M none r := by
  refine z_of rfl ?_
  intro p e s m below meth c X hw
  have hl := lv_entry [.ref (G.1 39), .int i1, .ref (G.1 k2), .ref (G.1 k3)] (n := 5) (Nat.le_of_ble_eq_true rfl)
  rw [lg_entry_eq]
  generalize (lg_sl [.ref (G.1 39), .int i1, .ref (G.1 k2), .ref (G.1 k3)] ++ List.replicate (5 - (lg_sl [.ref (G.1 39), .int i1, .ref (G.1 k2), .ref (G.1 k3)]).length) Slot.unset).toArray = ls at hl ⊢
  have hl : lv_has ls 5 [(0, .ref (G.1 39)), (1, .int i1), (2, .ref (G.1 k2)), (3, .ref (G.1 k3))] := hl
  generalize ([.ref (G.1 39), .int i1, .ref (G.1 k2), .ref (G.1 k3)] : List Value).toArray = args at X ⊢
  have X : z_C G p s m args meth c cX6_explain 5 RX6 none := X
  have hx := X.1
  have hb := X.2.1
  unfold f_X6_explain at h
  refine lv_aload_n (pc := 0) hx hb dX6_explain_0 rfl (lv_at hl 0 rfl) ?_
  refine lv_iload_n (pc := 1) hx hb dX6_explain_1 rfl (lv_at hl 1 rfl) ?_
  refine zp_Stains_seen (pc := 2) X hw zw_fl_2_154 dX6_explain_2 (fun HM1 lM1 wM1 => ?_)
  obtain ⟨M1, eM1, h⟩ := z_lo h
  rw [← eM1] at wM1
  refine lv_aload_n (pc := 5) hx hb dX6_explain_5 rfl (lv_at hl 0 rfl) ?_
  refine lv_iconst (pc := 6) (v := 0) hx hb dX6_explain_6 (by decide) ?_
  refine zp_Stains_count (pc := 7) X wM1 zw_fl_2_155 dX6_explain_7 (fun HM2 lM2 wM2 => ?_)
  obtain ⟨M2, eM2, h⟩ := z_lo h
  rw [← eM2] at wM2
  refine lv_aload_n (pc := 10) hx hb dX6_explain_10 rfl (lv_at hl 0 rfl) ?_
  refine lv_iconst (pc := 11) (v := -1) hx hb dX6_explain_11 (by decide) ?_
  refine zp_Stains_leastStorm (pc := 12) X wM2 zw_fl_2_156 dX6_explain_12 (fun HM3 lM3 wM3 => ?_)
  obtain ⟨M3, eM3, h⟩ := z_lo h
  rw [← eM3] at wM3
  refine lv_aload_n (pc := 15) hx hb dX6_explain_15 rfl (lv_at hl 0 rfl) ?_
  refine lv_iconst (pc := 16) (v := -1) hx hb dX6_explain_16 (by decide) ?_
  refine zp_Stains_leastSet (pc := 17) X wM3 zw_fl_2_157 dX6_explain_17 (fun HM4 lM4 wM4 => ?_)
  obtain ⟨M4, eM4, h⟩ := z_lo h
  rw [← eM4] at wM4
  refine lv_aload_n (pc := 20) hx hb dX6_explain_20 rfl (lv_at hl 0 rfl) ?_
  refine lv_iconst (pc := 21) (v := 0) hx hb dX6_explain_21 (by decide) ?_
  refine zp_Stains_inAll (pc := 22) X wM4 zw_fl_2_158 dX6_explain_22 (fun HM5 lM5 wM5 => ?_)
  obtain ⟨M5, eM5, h⟩ := z_lo h
  rw [← eM5] at wM5
  refine lv_aload_n (pc := 25) hx hb dX6_explain_25 rfl (lv_at hl 3 rfl) ?_
  refine lv_aload_n (pc := 26) hx hb dX6_explain_26 rfl (lv_at hl 2 rfl) ?_
  refine zg_Street_roofs (pc := 27) X wM5 hk2 zw_fl_1_215 dX6_explain_27 ?_
  obtain ⟨x6, ex6, h⟩ := z_bd h
  refine z_cvV (pc := 30) (rest := []) X wM5 (m_X5_imagine hk3 (zk_Street_roofs hk2) ex6) (z_lt hk3 (by decide)) (z_E5 hk3) rfl zw_ml_4_227 zw_im_4_127 zw_se_4_128 zw_in_1_3 zw_co_4_129 zd_X5_imagine (by decide) rfl hl.1 rfl (Nat.le_of_ble_eq_true rfl) dX6_explain_30 ⟨Nat.zero_le _, Nat.zero_le _⟩ (fun Hx6 lx6 wx6 => ?_)
  refine lv_iconst (pc := 33) (v := 0) hx hb dX6_explain_33 (by decide) ?_
  refine lv_istore (pc := 34) (lv' := [(4, .int (0 : Int32)), (0, .ref (G.1 39)), (1, .int i1), (2, .ref (G.1 k2)), (3, .ref (G.1 k3))]) hx hb dX6_explain_34 hl (by decide) rfl (fun ls hl => ?_)
  exact w_X6_explain_36 X z_F k2 k3 (0 : Int32) x6 Hx6 lx6 ls hk2 hk3 wx6 (lv_sub hl [1, 3, 4, 0] rfl) h
def f_X6_told (i1 : Int32) (M : zM) : Option (Int32 × zM) :=
  if i1 = (0 : Int32) then (
    some ((M.1 39 1), M)
  ) else (
  if i1 = (1 : Int32) then (
    some ((M.1 39 2), M)
  ) else (
  if i1 = (2 : Int32) then (
    some ((M.1 39 3), M)
  ) else (
    some ((M.1 39 4), M)
  )))
set_option maxHeartbeats 4000000 in
set_option maxRecDepth 100000 in
theorem m_X6_told {l : Launch} {G : zG} {i1 : Int32} {M : zM} {r : Int32 × zM} (h : f_X6_told i1 M = some r) : z_T l G 0 yX6_told (.code yX6_told cX6_told 2 (some .int)) [.ref (G.1 39), .int i1] M (some (.int r.1)) r.2 := by
  refine z_of rfl ?_
  intro p e s m below meth c X hw
  have hl := lv_entry [.ref (G.1 39), .int i1] (n := 2) (Nat.le_of_ble_eq_true rfl)
  rw [lg_entry_eq]
  generalize (lg_sl [.ref (G.1 39), .int i1] ++ List.replicate (2 - (lg_sl [.ref (G.1 39), .int i1]).length) Slot.unset).toArray = ls at hl ⊢
  have hl : lv_has ls 2 [(0, .ref (G.1 39)), (1, .int i1)] := hl
  generalize ([.ref (G.1 39), .int i1] : List Value).toArray = args at X ⊢
  have X : z_C G p s m args meth c cX6_told 2 RX6 (some .int) := X
  have hx := X.1
  have hb := X.2.1
  unfold f_X6_told at h
  refine lv_iload_n (pc := 0) hx hb dX6_told_0 rfl (lv_at hl 1 rfl) ?_
  by_cases c1 : i1 = (0 : Int32)
  · replace h := z_t c1 h
    refine lv_tableIn (pc := 1) (off := 27) (tgt := 28) hx hb dX6_told_1 (by rw [c1]; decide) (by rw [c1]; decide) (by rw [c1]; rfl) (by decide) ?_
    refine lv_aload_n (pc := 28) hx hb dX6_told_28 rfl (lv_at hl 0 rfl) ?_
    refine zg_Stains_count (pc := 29) X hw zw_fl_2_155 dX6_told_29 ?_
    obtain rfl := Option.some.inj h
    exact z_ri (pc := 32) X hw dX6_told_32
  · replace h := z_f c1 h
    by_cases c2 : i1 = (1 : Int32)
    · replace h := z_t c2 h
      refine lv_tableIn (pc := 1) (off := 32) (tgt := 33) hx hb dX6_told_1 (by rw [c2]; decide) (by rw [c2]; decide) (by rw [c2]; rfl) (by decide) ?_
      refine lv_aload_n (pc := 33) hx hb dX6_told_33 rfl (lv_at hl 0 rfl) ?_
      refine zg_Stains_leastStorm (pc := 34) X hw zw_fl_2_156 dX6_told_34 ?_
      obtain rfl := Option.some.inj h
      exact z_ri (pc := 37) X hw dX6_told_37
    · replace h := z_f c2 h
      by_cases c3 : i1 = (2 : Int32)
      · replace h := z_t c3 h
        refine lv_tableIn (pc := 1) (off := 37) (tgt := 38) hx hb dX6_told_1 (by rw [c3]; decide) (by rw [c3]; decide) (by rw [c3]; rfl) (by decide) ?_
        refine lv_aload_n (pc := 38) hx hb dX6_told_38 rfl (lv_at hl 0 rfl) ?_
        refine zg_Stains_leastSet (pc := 39) X hw zw_fl_2_157 dX6_told_39 ?_
        obtain rfl := Option.some.inj h
        exact z_ri (pc := 42) X hw dX6_told_42
      · replace h := z_f c3 h
        have qc1 : (i1).toInt ≠ 0 := z_ne c1
        have qc2 : (i1).toInt ≠ 1 := z_ne c2
        have qc3 : (i1).toInt ≠ 2 := z_ne c3
        refine lv_tableOut (pc := 1) (tgt := 43) hx hb dX6_told_1 (by omega) (by decide) ?_
        refine lv_aload_n (pc := 43) hx hb dX6_told_43 rfl (lv_at hl 0 rfl) ?_
        refine zg_Stains_inAll (pc := 44) X hw zw_fl_2_158 dX6_told_44 ?_
        obtain rfl := Option.some.inj h
        exact z_ri (pc := 47) X hw dX6_told_47
def f_X7_brew_7 : Nat → Nat → Int32 → zM → Option (zM)
  | 0, _, _, _ => none
  | n + 1, k0, i2, M =>
    if (12 : Int32) ≤ i2 then (
      some M
    ) else (
      z_g (z_ix i2 12) <|
      z_l (z_w M (k0 + 1) (Int32.toNatClampNeg i2) (0 : Int32)) fun M3 =>
      z_g (z_ix i2 12) <|
      z_l (z_w M3 (k0 + 2) (Int32.toNatClampNeg i2) (vp_nar .boolean (0 : Int32))) fun M5 =>
      z_l (i2 + (1 : Int32)) fun v6 =>
      f_X7_brew_7 n k0 v6 M5
    )
def f_X7_brew (k0 : Nat) (i1 : Int32) (M : zM) : Option (zM) :=
  z_l (z_w M k0 0 i1) fun M1 =>
  f_X7_brew_7 z_F k0 (0 : Int32) M1
set_option maxHeartbeats 4000000 in
set_option maxRecDepth 100000 in
theorem w_X7_brew_7 {G : zG} {p : Program} {l : Launch} {e : Env} {s : State} {m : MethodId} {args : Array Value} {below : List Frame} {meth : Method} {c : Code} (X : z_C G p s m args meth c cX7_brew 3 RX7 none) {r : zM} : ∀ (n : Nat) (k0 : Nat) (i2 : Int32) (M : zM) (H : Heap) (locs : List Loc) (ls : Array Slot), z_kd k0 = 7 → z_W G M H locs → lv_has ls 3 [(0, .ref (G.1 k0)), (2, .int i2)] → f_X7_brew_7 n k0 i2 M = some r → W p l e (z_rm 0) s m args below meth c H locs 0 0 (z_Q G below args s none r) (F0 m 7 ls []) := by
  have hx := X.1
  have hb := X.2.1
  intro n
  induction n with
  | zero =>
    intro k0 i2 M H locs ls hk0 hw hl h
    exact z_no h
  | succ n ih =>
    intro k0 i2 M H locs ls hk0 hw hl h
    rw [f_X7_brew_7] at h
    refine lv_iload_n (pc := 7) hx hb dX7_brew_7 rfl (lv_at hl 1 rfl) ?_
    refine lv_bipush (pc := 8) (v := 12) hx hb dX7_brew_8 (by decide) ?_
    refine lv_icmp_ge (pc := 10) (tgt := 33) hx hb dX7_brew_10 (by decide) (fun c1 => ?_) (fun c1 => ?_)
    · replace h := z_t c1 h
      obtain rfl := Option.some.inj h
      exact z_rv (pc := 33) X hw dX7_brew_33
    · replace h := z_f c1 h
      refine lv_aload_n (pc := 13) hx hb dX7_brew_13 rfl (lv_at hl 0 rfl) ?_
      refine zg_Storm_falls (pc := 14) X hw hk0 zw_fl_1_198 dX7_brew_14 ?_
      refine lv_iload_n (pc := 17) hx hb dX7_brew_17 rfl (lv_at hl 1 rfl) ?_
      refine lv_iconst (pc := 18) (v := 0) hx hb dX7_brew_18 (by decide) ?_
      obtain ⟨g2, h⟩ := z_gd h
      refine z_iast (pc := 19) X hw (zk_Storm_falls hk0) (zl_Storm_falls hk0) g2 dX7_brew_19 (fun HM3 lM3 wM3 => ?_)
      obtain ⟨M3, eM3, h⟩ := z_lo h
      rw [← eM3] at wM3
      refine lv_aload_n (pc := 20) hx hb dX7_brew_20 rfl (lv_at hl 0 rfl) ?_
      refine zg_Storm_snows (pc := 21) X wM3 hk0 zw_fl_1_201 dX7_brew_21 ?_
      refine lv_iload_n (pc := 24) hx hb dX7_brew_24 rfl (lv_at hl 1 rfl) ?_
      refine lv_iconst (pc := 25) (v := 0) hx hb dX7_brew_25 (by decide) ?_
      obtain ⟨g4, h⟩ := z_gd h
      refine z_zast (pc := 26) X wM3 (zk_Storm_snows hk0) (zl_Storm_snows hk0) g4 dX7_brew_26 (fun HM5 lM5 wM5 => ?_)
      obtain ⟨M5, eM5, h⟩ := z_lo h
      rw [← eM5] at wM5
      obtain ⟨v6, ev6, h⟩ := z_lo h
      refine lv_iinc (pc := 27) (v := v6) (lv' := [(2, .int v6), (0, .ref (G.1 k0))]) hx hb dX7_brew_27 hl (k := 1) rfl (by rw [ev6]; rfl) (by decide) rfl (fun ls hl => ?_)
      refine lv_goto (pc := 30) (tgt := 7) hx hb dX7_brew_30 (by decide) ?_
      exact ih k0 v6 M5 HM5 lM5 ls hk0 wM5 (lv_sub hl [1, 0] rfl) h
set_option maxHeartbeats 4000000 in
set_option maxRecDepth 100000 in
theorem m_X7_brew {l : Launch} {G : zG} {k0 : Nat} {i1 : Int32} {M : zM} {r : zM} (hk0 : z_kd k0 = 7) (h : f_X7_brew k0 i1 M = some r) : z_T l G 0 yX7_brew (.code yX7_brew cX7_brew 3 none) [.ref (G.1 k0), .int i1] M none r := by
  refine z_of rfl ?_
  intro p e s m below meth c X hw
  have hl := lv_entry [.ref (G.1 k0), .int i1] (n := 3) (Nat.le_of_ble_eq_true rfl)
  rw [lg_entry_eq]
  generalize (lg_sl [.ref (G.1 k0), .int i1] ++ List.replicate (3 - (lg_sl [.ref (G.1 k0), .int i1]).length) Slot.unset).toArray = ls at hl ⊢
  have hl : lv_has ls 3 [(0, .ref (G.1 k0)), (1, .int i1)] := hl
  generalize ([.ref (G.1 k0), .int i1] : List Value).toArray = args at X ⊢
  have X : z_C G p s m args meth c cX7_brew 3 RX7 none := X
  have hx := X.1
  have hb := X.2.1
  unfold f_X7_brew at h
  refine lv_aload_n (pc := 0) hx hb dX7_brew_0 rfl (lv_at hl 0 rfl) ?_
  refine lv_iload_n (pc := 1) hx hb dX7_brew_1 rfl (lv_at hl 1 rfl) ?_
  refine zp_Storm_hours (pc := 2) X hw hk0 zw_fl_1_193 dX7_brew_2 (fun HM1 lM1 wM1 => ?_)
  obtain ⟨M1, eM1, h⟩ := z_lo h
  rw [← eM1] at wM1
  refine lv_iconst (pc := 5) (v := 0) hx hb dX7_brew_5 (by decide) ?_
  refine lv_istore_n (pc := 6) (lv' := [(2, .int (0 : Int32)), (0, .ref (G.1 k0)), (1, .int i1)]) hx hb dX7_brew_6 rfl hl (by decide) rfl (fun ls hl => ?_)
  exact w_X7_brew_7 X z_F k0 (0 : Int32) M1 HM1 lM1 ls hk0 wM1 (lv_sub hl [1, 0] rfl) h
def f_X7_copy_10 : Nat → Nat → Nat → Int32 → zM → Option (zM)
  | 0, _, _, _, _ => none
  | n + 1, k0, k1, i2, M =>
    if (12 : Int32) ≤ i2 then (
      some M
    ) else (
      z_g (z_ix i2 12) <|
      z_g (z_ix i2 12) <|
      z_l (z_w M (k0 + 1) (Int32.toNatClampNeg i2) (M.1 (k1 + 1) (Int32.toNatClampNeg i2))) fun M4 =>
      z_g (z_ix i2 12) <|
      z_g (z_ix i2 12) <|
      z_l (z_w M4 (k0 + 2) (Int32.toNatClampNeg i2) (vp_nar .boolean (M4.1 (k1 + 2) (Int32.toNatClampNeg i2)))) fun M7 =>
      z_l (i2 + (1 : Int32)) fun v8 =>
      f_X7_copy_10 n k0 k1 v8 M7
    )
def f_X7_copy (k0 : Nat) (k1 : Nat) (M : zM) : Option (zM) :=
  z_l (z_w M k0 0 (M.1 k1 0)) fun M1 =>
  f_X7_copy_10 z_F k0 k1 (0 : Int32) M1
set_option maxHeartbeats 4000000 in
set_option maxRecDepth 100000 in
theorem w_X7_copy_10 {G : zG} {p : Program} {l : Launch} {e : Env} {s : State} {m : MethodId} {args : Array Value} {below : List Frame} {meth : Method} {c : Code} (X : z_C G p s m args meth c cX7_copy 3 RX7 none) {r : zM} : ∀ (n : Nat) (k0 : Nat) (k1 : Nat) (i2 : Int32) (M : zM) (H : Heap) (locs : List Loc) (ls : Array Slot), z_kd k0 = 7 → z_kd k1 = 7 → z_W G M H locs → lv_has ls 3 [(0, .ref (G.1 k0)), (1, .ref (G.1 k1)), (2, .int i2)] → f_X7_copy_10 n k0 k1 i2 M = some r → W p l e (z_rm 0) s m args below meth c H locs 0 0 (z_Q G below args s none r) (F0 m 10 ls []) := by
  have hx := X.1
  have hb := X.2.1
  intro n
  induction n with
  | zero =>
    intro k0 k1 i2 M H locs ls hk0 hk1 hw hl h
    exact z_no h
  | succ n ih =>
    intro k0 k1 i2 M H locs ls hk0 hk1 hw hl h
    rw [f_X7_copy_10] at h
    refine lv_iload_n (pc := 10) hx hb dX7_copy_10 rfl (lv_at hl 2 rfl) ?_
    refine lv_bipush (pc := 11) (v := 12) hx hb dX7_copy_11 (by decide) ?_
    refine lv_icmp_ge (pc := 13) (tgt := 46) hx hb dX7_copy_13 (by decide) (fun c1 => ?_) (fun c1 => ?_)
    · replace h := z_t c1 h
      obtain rfl := Option.some.inj h
      exact z_rv (pc := 46) X hw dX7_copy_46
    · replace h := z_f c1 h
      refine lv_aload_n (pc := 16) hx hb dX7_copy_16 rfl (lv_at hl 0 rfl) ?_
      refine zg_Storm_falls (pc := 17) X hw hk0 zw_fl_1_198 dX7_copy_17 ?_
      refine lv_iload_n (pc := 20) hx hb dX7_copy_20 rfl (lv_at hl 2 rfl) ?_
      refine lv_aload_n (pc := 21) hx hb dX7_copy_21 rfl (lv_at hl 1 rfl) ?_
      refine zg_Storm_falls (pc := 22) X hw hk1 zw_fl_1_198 dX7_copy_22 ?_
      refine lv_iload_n (pc := 25) hx hb dX7_copy_25 rfl (lv_at hl 2 rfl) ?_
      obtain ⟨g2, h⟩ := z_gd h
      refine z_iald (pc := 26) X hw (zk_Storm_falls hk1) (zl_Storm_falls hk1) g2 dX7_copy_26 ?_
      obtain ⟨g3, h⟩ := z_gd h
      refine z_iast (pc := 27) X hw (zk_Storm_falls hk0) (zl_Storm_falls hk0) g3 dX7_copy_27 (fun HM4 lM4 wM4 => ?_)
      obtain ⟨M4, eM4, h⟩ := z_lo h
      rw [← eM4] at wM4
      refine lv_aload_n (pc := 28) hx hb dX7_copy_28 rfl (lv_at hl 0 rfl) ?_
      refine zg_Storm_snows (pc := 29) X wM4 hk0 zw_fl_1_201 dX7_copy_29 ?_
      refine lv_iload_n (pc := 32) hx hb dX7_copy_32 rfl (lv_at hl 2 rfl) ?_
      refine lv_aload_n (pc := 33) hx hb dX7_copy_33 rfl (lv_at hl 1 rfl) ?_
      refine zg_Storm_snows (pc := 34) X wM4 hk1 zw_fl_1_201 dX7_copy_34 ?_
      refine lv_iload_n (pc := 37) hx hb dX7_copy_37 rfl (lv_at hl 2 rfl) ?_
      obtain ⟨g5, h⟩ := z_gd h
      refine z_zald (pc := 38) X wM4 (zk_Storm_snows hk1) (zl_Storm_snows hk1) g5 dX7_copy_38 ?_
      obtain ⟨g6, h⟩ := z_gd h
      refine z_zast (pc := 39) X wM4 (zk_Storm_snows hk0) (zl_Storm_snows hk0) g6 dX7_copy_39 (fun HM7 lM7 wM7 => ?_)
      obtain ⟨M7, eM7, h⟩ := z_lo h
      rw [← eM7] at wM7
      obtain ⟨v8, ev8, h⟩ := z_lo h
      refine lv_iinc (pc := 40) (v := v8) (lv' := [(2, .int v8), (0, .ref (G.1 k0)), (1, .ref (G.1 k1))]) hx hb dX7_copy_40 hl (k := 2) rfl (by rw [ev8]; rfl) (by decide) rfl (fun ls hl => ?_)
      refine lv_goto (pc := 43) (tgt := 10) hx hb dX7_copy_43 (by decide) ?_
      exact ih k0 k1 v8 M7 HM7 lM7 ls hk0 hk1 wM7 (lv_sub hl [1, 2, 0] rfl) h
set_option maxHeartbeats 4000000 in
set_option maxRecDepth 100000 in
theorem m_X7_copy {l : Launch} {G : zG} {k0 : Nat} {k1 : Nat} {M : zM} {r : zM} (hk0 : z_kd k0 = 7) (hk1 : z_kd k1 = 7) (h : f_X7_copy k0 k1 M = some r) : z_T l G 0 yX7_copy (.code yX7_copy cX7_copy 3 none) [.ref (G.1 k0), .ref (G.1 k1)] M none r := by
  refine z_of rfl ?_
  intro p e s m below meth c X hw
  have hl := lv_entry [.ref (G.1 k0), .ref (G.1 k1)] (n := 3) (Nat.le_of_ble_eq_true rfl)
  rw [lg_entry_eq]
  generalize (lg_sl [.ref (G.1 k0), .ref (G.1 k1)] ++ List.replicate (3 - (lg_sl [.ref (G.1 k0), .ref (G.1 k1)]).length) Slot.unset).toArray = ls at hl ⊢
  have hl : lv_has ls 3 [(0, .ref (G.1 k0)), (1, .ref (G.1 k1))] := hl
  generalize ([.ref (G.1 k0), .ref (G.1 k1)] : List Value).toArray = args at X ⊢
  have X : z_C G p s m args meth c cX7_copy 3 RX7 none := X
  have hx := X.1
  have hb := X.2.1
  unfold f_X7_copy at h
  refine lv_aload_n (pc := 0) hx hb dX7_copy_0 rfl (lv_at hl 0 rfl) ?_
  refine lv_aload_n (pc := 1) hx hb dX7_copy_1 rfl (lv_at hl 1 rfl) ?_
  refine zg_Storm_hours (pc := 2) X hw hk1 zw_fl_1_193 dX7_copy_2 ?_
  refine zp_Storm_hours (pc := 5) X hw hk0 zw_fl_1_193 dX7_copy_5 (fun HM1 lM1 wM1 => ?_)
  obtain ⟨M1, eM1, h⟩ := z_lo h
  rw [← eM1] at wM1
  refine lv_iconst (pc := 8) (v := 0) hx hb dX7_copy_8 (by decide) ?_
  refine lv_istore_n (pc := 9) (lv' := [(2, .int (0 : Int32)), (0, .ref (G.1 k0)), (1, .ref (G.1 k1))]) hx hb dX7_copy_9 rfl hl (by decide) rfl (fun ls hl => ?_)
  exact w_X7_copy_10 X z_F k0 k1 (0 : Int32) M1 HM1 lM1 ls hk0 hk1 wM1 (lv_sub hl [1, 2, 0] rfl) h
def f_X7_told (k0 : Nat) (i1 : Int32) (M : zM) : Option (Int32 × zM) :=
  (f_X10_within i1 (0 : Int32) ((M.1 k0 0) - (1 : Int32)) M).bind fun x1 =>
  if x1.1 = 0 then (
    some ((-1 : Int32), x1.2)
  ) else (
    z_g (z_ix i1 12) <|
    if (x1.2.1 (k0 + 2) (Int32.toNatClampNeg i1)) = 0 then (
      z_g (z_ix i1 12) <|
      some ((x1.2.1 (k0 + 1) (Int32.toNatClampNeg i1)), x1.2)
    ) else (
      z_g (z_ix i1 12) <|
      some (((100 : Int32) + (x1.2.1 (k0 + 1) (Int32.toNatClampNeg i1))), x1.2)
    )
  )
set_option maxHeartbeats 4000000 in
set_option maxRecDepth 100000 in
theorem m_X7_told {l : Launch} {G : zG} {k0 : Nat} {i1 : Int32} {M : zM} {r : Int32 × zM} (hk0 : z_kd k0 = 7) (h : f_X7_told k0 i1 M = some r) : z_T l G 1 yX7_told (.code yX7_told cX7_told 2 (some .int)) [.ref (G.1 k0), .int i1] M (some (.int r.1)) r.2 := by
  refine z_of rfl ?_
  intro p e s m below meth c X hw
  have hl := lv_entry [.ref (G.1 k0), .int i1] (n := 2) (Nat.le_of_ble_eq_true rfl)
  rw [lg_entry_eq]
  generalize (lg_sl [.ref (G.1 k0), .int i1] ++ List.replicate (2 - (lg_sl [.ref (G.1 k0), .int i1]).length) Slot.unset).toArray = ls at hl ⊢
  have hl : lv_has ls 2 [(0, .ref (G.1 k0)), (1, .int i1)] := hl
  generalize ([.ref (G.1 k0), .int i1] : List Value).toArray = args at X ⊢
  have X : z_C G p s m args meth c cX7_told 2 RX7 (some .int) := X
  have hx := X.1
  have hb := X.2.1
  unfold f_X7_told at h
  refine lv_iload_n (pc := 0) hx hb dX7_told_0 rfl (lv_at hl 1 rfl) ?_
  refine lv_iconst (pc := 1) (v := 0) hx hb dX7_told_1 (by decide) ?_
  refine lv_aload_n (pc := 2) hx hb dX7_told_2 rfl (lv_at hl 0 rfl) ?_
  refine zg_Storm_hours (pc := 3) X hw hk0 zw_fl_1_193 dX7_told_3 ?_
  refine lv_iconst (pc := 6) (v := 1) hx hb dX7_told_6 (by decide) ?_
  refine lv_isub (pc := 7) hx hb dX7_told_7 ?_
  obtain ⟨x1, ex1, h⟩ := z_bd h
  refine z_csnI (pc := 8) (rest := []) X hw (m_X10_within  ex1) zwn_X7_23 zw_st_2_209 zw_in_1_1 zw_co_2_210 zd_X10_within (by decide) rfl hl.1 rfl (Nat.le_of_ble_eq_true rfl) dX7_told_8 ⟨Nat.zero_le _, Nat.zero_le _⟩ (fun Hx1 lx1 wx1 => ?_)
  refine lv_if_ne (pc := 11) (tgt := 16) hx hb dX7_told_11 (by decide) (fun c2 => ?_) (fun c2 => ?_)
  · replace h := z_f c2 h
    refine lv_aload_n (pc := 16) hx hb dX7_told_16 rfl (lv_at hl 0 rfl) ?_
    refine zg_Storm_snows (pc := 17) X wx1 hk0 zw_fl_1_201 dX7_told_17 ?_
    refine lv_iload_n (pc := 20) hx hb dX7_told_20 rfl (lv_at hl 1 rfl) ?_
    obtain ⟨g3, h⟩ := z_gd h
    refine z_zald (pc := 21) X wx1 (zk_Storm_snows hk0) (zl_Storm_snows hk0) g3 dX7_told_21 ?_
    refine lv_if_eq (pc := 22) (tgt := 37) hx hb dX7_told_22 (by decide) (fun c4 => ?_) (fun c4 => ?_)
    · replace h := z_t c4 h
      refine lv_aload_n (pc := 37) hx hb dX7_told_37 rfl (lv_at hl 0 rfl) ?_
      refine zg_Storm_falls (pc := 38) X wx1 hk0 zw_fl_1_198 dX7_told_38 ?_
      refine lv_iload_n (pc := 41) hx hb dX7_told_41 rfl (lv_at hl 1 rfl) ?_
      obtain ⟨g5, h⟩ := z_gd h
      refine z_iald (pc := 42) X wx1 (zk_Storm_falls hk0) (zl_Storm_falls hk0) g5 dX7_told_42 ?_
      obtain rfl := Option.some.inj h
      exact z_ri (pc := 43) X wx1 dX7_told_43
    · replace h := z_f c4 h
      refine lv_bipush (pc := 25) (v := 100) hx hb dX7_told_25 (by decide) ?_
      refine lv_aload_n (pc := 27) hx hb dX7_told_27 rfl (lv_at hl 0 rfl) ?_
      refine zg_Storm_falls (pc := 28) X wx1 hk0 zw_fl_1_198 dX7_told_28 ?_
      refine lv_iload_n (pc := 31) hx hb dX7_told_31 rfl (lv_at hl 1 rfl) ?_
      obtain ⟨g6, h⟩ := z_gd h
      refine z_iald (pc := 32) X wx1 (zk_Storm_falls hk0) (zl_Storm_falls hk0) g6 dX7_told_32 ?_
      refine lv_iadd (pc := 33) hx hb dX7_told_33 ?_
      refine lv_goto (pc := 34) (tgt := 43) hx hb dX7_told_34 (by decide) ?_
      obtain rfl := Option.some.inj h
      exact z_ri (pc := 43) X wx1 dX7_told_43
  · replace h := z_t c2 h
    refine lv_iconst (pc := 14) (v := -1) hx hb dX7_told_14 (by decide) ?_
    obtain rfl := Option.some.inj h
    exact z_ri (pc := 15) X wx1 dX7_told_15
def f_X7_fallInAll_4 : Nat → Nat → Int32 → Int32 → zM → Option (Int32 × zM)
  | 0, _, _, _, _ => none
  | n + 1, k0, i1, i2, M =>
    if (M.1 k0 0) ≤ i2 then (
      some (i1, M)
    ) else (
      z_g (z_ix i2 12) <|
      z_l (i1 + (M.1 (k0 + 1) (Int32.toNatClampNeg i2))) fun v3 =>
      z_l (i2 + (1 : Int32)) fun v4 =>
      f_X7_fallInAll_4 n k0 v3 v4 M
    )
def f_X7_fallInAll (k0 : Nat) (M : zM) : Option (Int32 × zM) :=
  f_X7_fallInAll_4 z_F k0 (0 : Int32) (0 : Int32) M
set_option maxHeartbeats 4000000 in
set_option maxRecDepth 100000 in
theorem w_X7_fallInAll_4 {G : zG} {p : Program} {l : Launch} {e : Env} {s : State} {m : MethodId} {args : Array Value} {below : List Frame} {meth : Method} {c : Code} (X : z_C G p s m args meth c cX7_fallInAll 3 RX7 (some .int)) {r : Int32 × zM} : ∀ (n : Nat) (k0 : Nat) (i1 : Int32) (i2 : Int32) (M : zM) (H : Heap) (locs : List Loc) (ls : Array Slot), z_kd k0 = 7 → z_W G M H locs → lv_has ls 3 [(0, .ref (G.1 k0)), (1, .int i1), (2, .int i2)] → f_X7_fallInAll_4 n k0 i1 i2 M = some r → W p l e (z_rm 0) s m args below meth c H locs 0 0 (z_Q G below args s (some (.int r.1)) r.2) (F0 m 4 ls []) := by
  have hx := X.1
  have hb := X.2.1
  intro n
  induction n with
  | zero =>
    intro k0 i1 i2 M H locs ls hk0 hw hl h
    exact z_no h
  | succ n ih =>
    intro k0 i1 i2 M H locs ls hk0 hw hl h
    rw [f_X7_fallInAll_4] at h
    refine lv_iload_n (pc := 4) hx hb dX7_fallInAll_4 rfl (lv_at hl 2 rfl) ?_
    refine lv_aload_n (pc := 5) hx hb dX7_fallInAll_5 rfl (lv_at hl 0 rfl) ?_
    refine zg_Storm_hours (pc := 6) X hw hk0 zw_fl_1_193 dX7_fallInAll_6 ?_
    refine lv_icmp_ge (pc := 9) (tgt := 27) hx hb dX7_fallInAll_9 (by decide) (fun c1 => ?_) (fun c1 => ?_)
    · replace h := z_t c1 h
      refine lv_iload_n (pc := 27) hx hb dX7_fallInAll_27 rfl (lv_at hl 1 rfl) ?_
      obtain rfl := Option.some.inj h
      exact z_ri (pc := 28) X hw dX7_fallInAll_28
    · replace h := z_f c1 h
      refine lv_iload_n (pc := 12) hx hb dX7_fallInAll_12 rfl (lv_at hl 1 rfl) ?_
      refine lv_aload_n (pc := 13) hx hb dX7_fallInAll_13 rfl (lv_at hl 0 rfl) ?_
      refine zg_Storm_falls (pc := 14) X hw hk0 zw_fl_1_198 dX7_fallInAll_14 ?_
      refine lv_iload_n (pc := 17) hx hb dX7_fallInAll_17 rfl (lv_at hl 2 rfl) ?_
      obtain ⟨g2, h⟩ := z_gd h
      refine z_iald (pc := 18) X hw (zk_Storm_falls hk0) (zl_Storm_falls hk0) g2 dX7_fallInAll_18 ?_
      refine lv_iadd (pc := 19) hx hb dX7_fallInAll_19 ?_
      obtain ⟨v3, ev3, h⟩ := z_lo h
      refine z_topi ev3 ?_
      refine lv_istore_n (pc := 20) (lv' := [(1, .int v3), (0, .ref (G.1 k0)), (2, .int i2)]) hx hb dX7_fallInAll_20 rfl hl (by decide) rfl (fun ls hl => ?_)
      obtain ⟨v4, ev4, h⟩ := z_lo h
      refine lv_iinc (pc := 21) (v := v4) (lv' := [(2, .int v4), (1, .int v3), (0, .ref (G.1 k0))]) hx hb dX7_fallInAll_21 hl (k := 2) rfl (by rw [ev4]; rfl) (by decide) rfl (fun ls hl => ?_)
      refine lv_goto (pc := 24) (tgt := 4) hx hb dX7_fallInAll_24 (by decide) ?_
      exact ih k0 v3 v4 M H locs ls hk0 hw (lv_sub hl [2, 1, 0] rfl) h
set_option maxHeartbeats 4000000 in
set_option maxRecDepth 100000 in
theorem m_X7_fallInAll {l : Launch} {G : zG} {k0 : Nat} {M : zM} {r : Int32 × zM} (hk0 : z_kd k0 = 7) (h : f_X7_fallInAll k0 M = some r) : z_T l G 0 yX7_fallInAll (.code yX7_fallInAll cX7_fallInAll 3 (some .int)) [.ref (G.1 k0)] M (some (.int r.1)) r.2 := by
  refine z_of rfl ?_
  intro p e s m below meth c X hw
  have hl := lv_entry [.ref (G.1 k0)] (n := 3) (Nat.le_of_ble_eq_true rfl)
  rw [lg_entry_eq]
  generalize (lg_sl [.ref (G.1 k0)] ++ List.replicate (3 - (lg_sl [.ref (G.1 k0)]).length) Slot.unset).toArray = ls at hl ⊢
  have hl : lv_has ls 3 [(0, .ref (G.1 k0))] := hl
  generalize ([.ref (G.1 k0)] : List Value).toArray = args at X ⊢
  have X : z_C G p s m args meth c cX7_fallInAll 3 RX7 (some .int) := X
  have hx := X.1
  have hb := X.2.1
  unfold f_X7_fallInAll at h
  refine lv_iconst (pc := 0) (v := 0) hx hb dX7_fallInAll_0 (by decide) ?_
  refine lv_istore_n (pc := 1) (lv' := [(1, .int (0 : Int32)), (0, .ref (G.1 k0))]) hx hb dX7_fallInAll_1 rfl hl (by decide) rfl (fun ls hl => ?_)
  refine lv_iconst (pc := 2) (v := 0) hx hb dX7_fallInAll_2 (by decide) ?_
  refine lv_istore_n (pc := 3) (lv' := [(2, .int (0 : Int32)), (1, .int (0 : Int32)), (0, .ref (G.1 k0))]) hx hb dX7_fallInAll_3 rfl hl (by decide) rfl (fun ls hl => ?_)
  exact w_X7_fallInAll_4 X z_F k0 (0 : Int32) (0 : Int32) M s.heap [] ls hk0 hw (lv_sub hl [2, 1, 0] rfl) h
def f_X8_copy_21 : Nat → Nat → Nat → Int32 → zM → Option (zM)
  | 0, _, _, _, _ => none
  | n + 1, k0, k1, i2, M =>
    if (M.1 k0 1) ≤ i2 then (
      (f_X3_copy (k0 + 12) (k1 + 12) M).bind fun x2 =>
      z_l (z_w x2 k0 4 (x2.1 k1 4)) fun M3 =>
      z_l (z_w M3 k0 5 (M3.1 k1 5)) fun M4 =>
      z_l (z_w M4 k0 6 (M4.1 k1 6)) fun M5 =>
      z_l (z_w M5 k0 7 (M5.1 k1 7)) fun M6 =>
      z_l (z_w M6 k0 8 (M6.1 k1 8)) fun M7 =>
      z_l (z_w M7 k0 9 (M7.1 k1 9)) fun M8 =>
      z_l (z_w M8 k0 10 (M8.1 k1 10)) fun M9 =>
      some M9
    ) else (
      z_g (z_ix i2 10) <|
      z_g (z_ix i2 10) <|
      (f_X7_copy (z_ra (k0 + 8) (Int32.toNatClampNeg i2)) (z_ra (k1 + 8) (Int32.toNatClampNeg i2)) M).bind fun x12 =>
      z_l (i2 + (1 : Int32)) fun v13 =>
      f_X8_copy_21 n k0 k1 v13 x12
    )
def f_X8_copy (k0 : Nat) (k1 : Nat) (M : zM) : Option (zM) :=
  (f_X5_copy (k0 + 2) (k1 + 2) M).bind fun x1 =>
  z_l (z_w x1 k0 1 (x1.1 k1 1)) fun M2 =>
  f_X8_copy_21 z_F k0 k1 (0 : Int32) M2
set_option maxHeartbeats 4000000 in
set_option maxRecDepth 100000 in
theorem w_X8_copy_21 {G : zG} {p : Program} {l : Launch} {e : Env} {s : State} {m : MethodId} {args : Array Value} {below : List Frame} {meth : Method} {c : Code} (X : z_C G p s m args meth c cX8_copy 3 RX8 none) {r : zM} : ∀ (n : Nat) (k0 : Nat) (k1 : Nat) (i2 : Int32) (M : zM) (H : Heap) (locs : List Loc) (ls : Array Slot), z_kd k0 = 8 → z_kd k1 = 8 → z_W G M H locs → lv_has ls 3 [(0, .ref (G.1 k0)), (1, .ref (G.1 k1)), (2, .int i2)] → f_X8_copy_21 n k0 k1 i2 M = some r → W p l e (z_rm 3) s m args below meth c H locs 0 0 (z_Q G below args s none r) (F0 m 21 ls []) := by
  have hx := X.1
  have hb := X.2.1
  intro n
  induction n with
  | zero =>
    intro k0 k1 i2 M H locs ls hk0 hk1 hw hl h
    exact z_no h
  | succ n ih =>
    intro k0 k1 i2 M H locs ls hk0 hk1 hw hl h
    rw [f_X8_copy_21] at h
    refine lv_iload_n (pc := 21) hx hb dX8_copy_21 rfl (lv_at hl 2 rfl) ?_
    refine lv_aload_n (pc := 22) hx hb dX8_copy_22 rfl (lv_at hl 0 rfl) ?_
    refine zg_Street_stormCount (pc := 23) X hw hk0 zw_fl_1_216 dX8_copy_23 ?_
    refine lv_icmp_ge (pc := 26) (tgt := 50) hx hb dX8_copy_26 (by decide) (fun c1 => ?_) (fun c1 => ?_)
    · replace h := z_t c1 h
      refine lv_aload_n (pc := 50) hx hb dX8_copy_50 rfl (lv_at hl 0 rfl) ?_
      refine zg_Street_law (pc := 51) X hw hk0 zw_fl_1_223 dX8_copy_51 ?_
      refine lv_aload_n (pc := 54) hx hb dX8_copy_54 rfl (lv_at hl 1 rfl) ?_
      refine zg_Street_law (pc := 55) X hw hk1 zw_fl_1_223 dX8_copy_55 ?_
      obtain ⟨x2, ex2, h⟩ := z_bd h
      refine z_cvV (pc := 58) (rest := []) X hw (m_X3_copy (zk_Street_law hk0) (zk_Street_law hk1) ex2) (z_lt (zk_Street_law hk0) (by decide)) (z_E3 (zk_Street_law hk0)) rfl zw_ml_5_48 zw_im_4_8 zw_se_4_9 zw_in_1_5 zw_co_4_10 zd_X3_copy (by decide) rfl hl.1 rfl (Nat.le_of_ble_eq_true rfl) dX8_copy_58 ⟨Nat.zero_le _, Nat.zero_le _⟩ (fun Hx2 lx2 wx2 => ?_)
      refine lv_aload_n (pc := 61) hx hb dX8_copy_61 rfl (lv_at hl 0 rfl) ?_
      refine lv_aload_n (pc := 62) hx hb dX8_copy_62 rfl (lv_at hl 1 rfl) ?_
      refine zg_Street_size (pc := 63) X wx2 hk1 zw_fl_1_225 dX8_copy_63 ?_
      refine zp_Street_size (pc := 66) X wx2 hk0 zw_fl_1_225 dX8_copy_66 (fun HM3 lM3 wM3 => ?_)
      obtain ⟨M3, eM3, h⟩ := z_lo h
      rw [← eM3] at wM3
      refine lv_aload_n (pc := 69) hx hb dX8_copy_69 rfl (lv_at hl 0 rfl) ?_
      refine lv_aload_n (pc := 70) hx hb dX8_copy_70 rfl (lv_at hl 1 rfl) ?_
      refine zg_Street_has (pc := 71) X wM3 hk1 zw_fl_1_227 dX8_copy_71 ?_
      refine zp_Street_has (pc := 74) X wM3 hk0 zw_fl_1_227 dX8_copy_74 (fun HM4 lM4 wM4 => ?_)
      obtain ⟨M4, eM4, h⟩ := z_lo h
      rw [← eM4] at wM4
      refine lv_aload_n (pc := 77) hx hb dX8_copy_77 rfl (lv_at hl 0 rfl) ?_
      refine lv_aload_n (pc := 78) hx hb dX8_copy_78 rfl (lv_at hl 1 rfl) ?_
      refine zg_Street_off (pc := 79) X wM4 hk1 zw_fl_1_228 dX8_copy_79 ?_
      refine zp_Street_off (pc := 82) X wM4 hk0 zw_fl_1_228 dX8_copy_82 (fun HM5 lM5 wM5 => ?_)
      obtain ⟨M5, eM5, h⟩ := z_lo h
      rw [← eM5] at wM5
      refine lv_aload_n (pc := 85) hx hb dX8_copy_85 rfl (lv_at hl 0 rfl) ?_
      refine lv_aload_n (pc := 86) hx hb dX8_copy_86 rfl (lv_at hl 1 rfl) ?_
      refine zg_Street_stormsCame (pc := 87) X wM5 hk1 zw_fl_1_229 dX8_copy_87 ?_
      refine zp_Street_stormsCame (pc := 90) X wM5 hk0 zw_fl_1_229 dX8_copy_90 (fun HM6 lM6 wM6 => ?_)
      obtain ⟨M6, eM6, h⟩ := z_lo h
      rw [← eM6] at wM6
      refine lv_aload_n (pc := 93) hx hb dX8_copy_93 rfl (lv_at hl 0 rfl) ?_
      refine lv_aload_n (pc := 94) hx hb dX8_copy_94 rfl (lv_at hl 1 rfl) ?_
      refine zg_Street_fell (pc := 95) X wM6 hk1 zw_fl_1_230 dX8_copy_95 ?_
      refine zp_Street_fell (pc := 98) X wM6 hk0 zw_fl_1_230 dX8_copy_98 (fun HM7 lM7 wM7 => ?_)
      obtain ⟨M7, eM7, h⟩ := z_lo h
      rw [← eM7] at wM7
      refine lv_aload_n (pc := 101) hx hb dX8_copy_101 rfl (lv_at hl 0 rfl) ?_
      refine lv_aload_n (pc := 102) hx hb dX8_copy_102 rfl (lv_at hl 1 rfl) ?_
      refine zg_Street_latestHouses (pc := 103) X wM7 hk1 zw_fl_1_231 dX8_copy_103 ?_
      refine zp_Street_latestHouses (pc := 106) X wM7 hk0 zw_fl_1_231 dX8_copy_106 (fun HM8 lM8 wM8 => ?_)
      obtain ⟨M8, eM8, h⟩ := z_lo h
      rw [← eM8] at wM8
      refine lv_aload_n (pc := 109) hx hb dX8_copy_109 rfl (lv_at hl 0 rfl) ?_
      refine lv_aload_n (pc := 110) hx hb dX8_copy_110 rfl (lv_at hl 1 rfl) ?_
      refine zg_Street_latestHours (pc := 111) X wM8 hk1 zw_fl_1_233 dX8_copy_111 ?_
      refine zp_Street_latestHours (pc := 114) X wM8 hk0 zw_fl_1_233 dX8_copy_114 (fun HM9 lM9 wM9 => ?_)
      obtain ⟨M9, eM9, h⟩ := z_lo h
      rw [← eM9] at wM9
      obtain rfl := Option.some.inj h
      exact z_rv (pc := 117) X wM9 dX8_copy_117
    · replace h := z_f c1 h
      refine lv_aload_n (pc := 29) hx hb dX8_copy_29 rfl (lv_at hl 0 rfl) ?_
      refine zg_Street_storms (pc := 30) X hw hk0 zw_fl_1_219 dX8_copy_30 ?_
      refine lv_iload_n (pc := 33) hx hb dX8_copy_33 rfl (lv_at hl 2 rfl) ?_
      obtain ⟨g10, h⟩ := z_gd h
      refine z_aald17 (pc := 34) X hw (zk_Street_storms hk0) (zl_Street_storms hk0) g10 dX8_copy_34 ?_
      refine lv_aload_n (pc := 35) hx hb dX8_copy_35 rfl (lv_at hl 1 rfl) ?_
      refine zg_Street_storms (pc := 36) X hw hk1 zw_fl_1_219 dX8_copy_36 ?_
      refine lv_iload_n (pc := 39) hx hb dX8_copy_39 rfl (lv_at hl 2 rfl) ?_
      obtain ⟨g11, h⟩ := z_gd h
      refine z_aald17 (pc := 40) X hw (zk_Street_storms hk1) (zl_Street_storms hk1) g11 dX8_copy_40 ?_
      obtain ⟨x12, ex12, h⟩ := z_bd h
      refine z_cvV (pc := 41) (rest := []) X hw (m_X7_copy (zk_el17 (zk_Street_storms hk0) g10) (zk_el17 (zk_Street_storms hk1) g11) ex12) (z_lt (zk_el17 (zk_Street_storms hk0) g10) (by decide)) (z_E7 (zk_el17 (zk_Street_storms hk0) g10)) rfl zw_ml_5_44 zw_im_5_45 zw_se_5_46 zw_in_1_6 zw_co_5_47 zd_X7_copy (by decide) rfl hl.1 rfl (Nat.le_of_ble_eq_true rfl) dX8_copy_41 ⟨Nat.zero_le _, Nat.zero_le _⟩ (fun Hx12 lx12 wx12 => ?_)
      obtain ⟨v13, ev13, h⟩ := z_lo h
      refine lv_iinc (pc := 44) (v := v13) (lv' := [(2, .int v13), (0, .ref (G.1 k0)), (1, .ref (G.1 k1))]) hx hb dX8_copy_44 hl (k := 2) rfl (by rw [ev13]; rfl) (by decide) rfl (fun ls hl => ?_)
      refine lv_goto (pc := 47) (tgt := 21) hx hb dX8_copy_47 (by decide) ?_
      exact ih k0 k1 v13 x12 Hx12 lx12 ls hk0 hk1 wx12 (lv_sub hl [1, 2, 0] rfl) h
set_option maxHeartbeats 4000000 in
set_option maxRecDepth 100000 in
theorem m_X8_copy {l : Launch} {G : zG} {k0 : Nat} {k1 : Nat} {M : zM} {r : zM} (hk0 : z_kd k0 = 8) (hk1 : z_kd k1 = 8) (h : f_X8_copy k0 k1 M = some r) : z_T l G 3 yX8_copy (.code yX8_copy cX8_copy 3 none) [.ref (G.1 k0), .ref (G.1 k1)] M none r := by
  refine z_of rfl ?_
  intro p e s m below meth c X hw
  have hl := lv_entry [.ref (G.1 k0), .ref (G.1 k1)] (n := 3) (Nat.le_of_ble_eq_true rfl)
  rw [lg_entry_eq]
  generalize (lg_sl [.ref (G.1 k0), .ref (G.1 k1)] ++ List.replicate (3 - (lg_sl [.ref (G.1 k0), .ref (G.1 k1)]).length) Slot.unset).toArray = ls at hl ⊢
  have hl : lv_has ls 3 [(0, .ref (G.1 k0)), (1, .ref (G.1 k1))] := hl
  generalize ([.ref (G.1 k0), .ref (G.1 k1)] : List Value).toArray = args at X ⊢
  have X : z_C G p s m args meth c cX8_copy 3 RX8 none := X
  have hx := X.1
  have hb := X.2.1
  unfold f_X8_copy at h
  refine lv_aload_n (pc := 0) hx hb dX8_copy_0 rfl (lv_at hl 0 rfl) ?_
  refine zg_Street_roofs (pc := 1) X hw hk0 zw_fl_1_212 dX8_copy_1 ?_
  refine lv_aload_n (pc := 4) hx hb dX8_copy_4 rfl (lv_at hl 1 rfl) ?_
  refine zg_Street_roofs (pc := 5) X hw hk1 zw_fl_1_212 dX8_copy_5 ?_
  obtain ⟨x1, ex1, h⟩ := z_bd h
  refine z_cvV (pc := 8) (rest := []) X hw (m_X5_copy (zk_Street_roofs hk0) (zk_Street_roofs hk1) ex1) (z_lt (zk_Street_roofs hk0) (by decide)) (z_E5 (zk_Street_roofs hk0)) rfl zw_ml_5_34 zw_im_5_35 zw_se_5_36 zw_in_1_3 zw_co_5_37 zd_X5_copy (by decide) rfl hl.1 rfl (Nat.le_of_ble_eq_true rfl) dX8_copy_8 ⟨Nat.zero_le _, Nat.zero_le _⟩ (fun Hx1 lx1 wx1 => ?_)
  refine lv_aload_n (pc := 11) hx hb dX8_copy_11 rfl (lv_at hl 0 rfl) ?_
  refine lv_aload_n (pc := 12) hx hb dX8_copy_12 rfl (lv_at hl 1 rfl) ?_
  refine zg_Street_stormCount (pc := 13) X wx1 hk1 zw_fl_1_216 dX8_copy_13 ?_
  refine zp_Street_stormCount (pc := 16) X wx1 hk0 zw_fl_1_216 dX8_copy_16 (fun HM2 lM2 wM2 => ?_)
  obtain ⟨M2, eM2, h⟩ := z_lo h
  rw [← eM2] at wM2
  refine lv_iconst (pc := 19) (v := 0) hx hb dX8_copy_19 (by decide) ?_
  refine lv_istore_n (pc := 20) (lv' := [(2, .int (0 : Int32)), (0, .ref (G.1 k0)), (1, .ref (G.1 k1))]) hx hb dX8_copy_20 rfl hl (by decide) rfl (fun ls hl => ?_)
  exact w_X8_copy_21 X z_F k0 k1 (0 : Int32) M2 HM2 lM2 ls hk0 hk1 wM2 (lv_sub hl [1, 2, 0] rfl) h
def f_X8_told (k0 : Nat) (i1 : Int32) (M : zM) : Option (Int32 × zM) :=
  if i1 = (0 : Int32) then (
    some ((M.1 (k0 + 2) 0), M)
  ) else (
  if i1 = (1 : Int32) then (
    some ((M.1 k0 1), M)
  ) else (
  if i1 = (2 : Int32) then (
    some ((M.1 k0 5), M)
  ) else (
  if i1 = (3 : Int32) then (
    some ((M.1 k0 4), M)
  ) else (
  if i1 = (4 : Int32) then (
    some ((M.1 k0 6), M)
  ) else (
  if i1 = (5 : Int32) then (
    some ((M.1 k0 7), M)
  ) else (
  if i1 = (6 : Int32) then (
    some ((M.1 (k0 + 12) 0), M)
  ) else (
  if i1 = (7 : Int32) then (
    some ((M.1 (k0 + 2) 1), M)
  ) else (
  if i1 = (8 : Int32) then (
    some ((M.1 k0 8), M)
  ) else (
    some ((-1 : Int32), M)
  )))))))))
set_option maxHeartbeats 4000000 in
set_option maxRecDepth 100000 in
theorem m_X8_told {l : Launch} {G : zG} {k0 : Nat} {i1 : Int32} {M : zM} {r : Int32 × zM} (hk0 : z_kd k0 = 8) (h : f_X8_told k0 i1 M = some r) : z_T l G 0 yX8_told (.code yX8_told cX8_told 2 (some .int)) [.ref (G.1 k0), .int i1] M (some (.int r.1)) r.2 := by
  refine z_of rfl ?_
  intro p e s m below meth c X hw
  have hl := lv_entry [.ref (G.1 k0), .int i1] (n := 2) (Nat.le_of_ble_eq_true rfl)
  rw [lg_entry_eq]
  generalize (lg_sl [.ref (G.1 k0), .int i1] ++ List.replicate (2 - (lg_sl [.ref (G.1 k0), .int i1]).length) Slot.unset).toArray = ls at hl ⊢
  have hl : lv_has ls 2 [(0, .ref (G.1 k0)), (1, .int i1)] := hl
  generalize ([.ref (G.1 k0), .int i1] : List Value).toArray = args at X ⊢
  have X : z_C G p s m args meth c cX8_told 2 RX8 (some .int) := X
  have hx := X.1
  have hb := X.2.1
  unfold f_X8_told at h
  refine lv_iload_n (pc := 0) hx hb dX8_told_0 rfl (lv_at hl 1 rfl) ?_
  by_cases c1 : i1 = (0 : Int32)
  · replace h := z_t c1 h
    refine lv_tableIn (pc := 1) (off := 51) (tgt := 52) hx hb dX8_told_1 (by rw [c1]; decide) (by rw [c1]; decide) (by rw [c1]; rfl) (by decide) ?_
    refine lv_aload_n (pc := 52) hx hb dX8_told_52 rfl (lv_at hl 0 rfl) ?_
    refine zg_Street_roofs (pc := 53) X hw hk0 zw_fl_1_212 dX8_told_53 ?_
    refine zg_Roofs_count (pc := 56) X hw (zk_Street_roofs hk0) zw_fl_1_139 dX8_told_56 ?_
    obtain rfl := Option.some.inj h
    exact z_ri (pc := 59) X hw dX8_told_59
  · replace h := z_f c1 h
    by_cases c2 : i1 = (1 : Int32)
    · replace h := z_t c2 h
      refine lv_tableIn (pc := 1) (off := 59) (tgt := 60) hx hb dX8_told_1 (by rw [c2]; decide) (by rw [c2]; decide) (by rw [c2]; rfl) (by decide) ?_
      refine lv_aload_n (pc := 60) hx hb dX8_told_60 rfl (lv_at hl 0 rfl) ?_
      refine zg_Street_stormCount (pc := 61) X hw hk0 zw_fl_1_216 dX8_told_61 ?_
      obtain rfl := Option.some.inj h
      exact z_ri (pc := 64) X hw dX8_told_64
    · replace h := z_f c2 h
      by_cases c3 : i1 = (2 : Int32)
      · replace h := z_t c3 h
        refine lv_tableIn (pc := 1) (off := 64) (tgt := 65) hx hb dX8_told_1 (by rw [c3]; decide) (by rw [c3]; decide) (by rw [c3]; rfl) (by decide) ?_
        refine lv_aload_n (pc := 65) hx hb dX8_told_65 rfl (lv_at hl 0 rfl) ?_
        refine zg_Street_has (pc := 66) X hw hk0 zw_fl_1_227 dX8_told_66 ?_
        obtain rfl := Option.some.inj h
        exact z_ri (pc := 69) X hw dX8_told_69
      · replace h := z_f c3 h
        by_cases c4 : i1 = (3 : Int32)
        · replace h := z_t c4 h
          refine lv_tableIn (pc := 1) (off := 69) (tgt := 70) hx hb dX8_told_1 (by rw [c4]; decide) (by rw [c4]; decide) (by rw [c4]; rfl) (by decide) ?_
          refine lv_aload_n (pc := 70) hx hb dX8_told_70 rfl (lv_at hl 0 rfl) ?_
          refine zg_Street_size (pc := 71) X hw hk0 zw_fl_1_225 dX8_told_71 ?_
          obtain rfl := Option.some.inj h
          exact z_ri (pc := 74) X hw dX8_told_74
        · replace h := z_f c4 h
          by_cases c5 : i1 = (4 : Int32)
          · replace h := z_t c5 h
            refine lv_tableIn (pc := 1) (off := 74) (tgt := 75) hx hb dX8_told_1 (by rw [c5]; decide) (by rw [c5]; decide) (by rw [c5]; rfl) (by decide) ?_
            refine lv_aload_n (pc := 75) hx hb dX8_told_75 rfl (lv_at hl 0 rfl) ?_
            refine zg_Street_off (pc := 76) X hw hk0 zw_fl_1_228 dX8_told_76 ?_
            obtain rfl := Option.some.inj h
            exact z_ri (pc := 79) X hw dX8_told_79
          · replace h := z_f c5 h
            by_cases c6 : i1 = (5 : Int32)
            · replace h := z_t c6 h
              refine lv_tableIn (pc := 1) (off := 79) (tgt := 80) hx hb dX8_told_1 (by rw [c6]; decide) (by rw [c6]; decide) (by rw [c6]; rfl) (by decide) ?_
              refine lv_aload_n (pc := 80) hx hb dX8_told_80 rfl (lv_at hl 0 rfl) ?_
              refine zg_Street_stormsCame (pc := 81) X hw hk0 zw_fl_1_229 dX8_told_81 ?_
              obtain rfl := Option.some.inj h
              exact z_ri (pc := 84) X hw dX8_told_84
            · replace h := z_f c6 h
              by_cases c7 : i1 = (6 : Int32)
              · replace h := z_t c7 h
                refine lv_tableIn (pc := 1) (off := 84) (tgt := 85) hx hb dX8_told_1 (by rw [c7]; decide) (by rw [c7]; decide) (by rw [c7]; rfl) (by decide) ?_
                refine lv_aload_n (pc := 85) hx hb dX8_told_85 rfl (lv_at hl 0 rfl) ?_
                refine zg_Street_law (pc := 86) X hw hk0 zw_fl_1_223 dX8_told_86 ?_
                refine zg_Law_lines (pc := 89) X hw (zk_Street_law hk0) zw_fl_1_166 dX8_told_89 ?_
                obtain rfl := Option.some.inj h
                exact z_ri (pc := 92) X hw dX8_told_92
              · replace h := z_f c7 h
                by_cases c8 : i1 = (7 : Int32)
                · replace h := z_t c8 h
                  refine lv_tableIn (pc := 1) (off := 92) (tgt := 93) hx hb dX8_told_1 (by rw [c8]; decide) (by rw [c8]; decide) (by rw [c8]; rfl) (by decide) ?_
                  refine lv_aload_n (pc := 93) hx hb dX8_told_93 rfl (lv_at hl 0 rfl) ?_
                  refine zg_Street_roofs (pc := 94) X hw hk0 zw_fl_1_212 dX8_told_94 ?_
                  refine zg_Roofs_thaw (pc := 97) X hw (zk_Street_roofs hk0) zw_fl_1_142 dX8_told_97 ?_
                  obtain rfl := Option.some.inj h
                  exact z_ri (pc := 100) X hw dX8_told_100
                · replace h := z_f c8 h
                  by_cases c9 : i1 = (8 : Int32)
                  · replace h := z_t c9 h
                    refine lv_tableIn (pc := 1) (off := 100) (tgt := 101) hx hb dX8_told_1 (by rw [c9]; decide) (by rw [c9]; decide) (by rw [c9]; rfl) (by decide) ?_
                    refine lv_aload_n (pc := 101) hx hb dX8_told_101 rfl (lv_at hl 0 rfl) ?_
                    refine zg_Street_fell (pc := 102) X hw hk0 zw_fl_1_230 dX8_told_102 ?_
                    obtain rfl := Option.some.inj h
                    exact z_ri (pc := 105) X hw dX8_told_105
                  · replace h := z_f c9 h
                    have qc1 : (i1).toInt ≠ 0 := z_ne c1
                    have qc2 : (i1).toInt ≠ 1 := z_ne c2
                    have qc3 : (i1).toInt ≠ 2 := z_ne c3
                    have qc4 : (i1).toInt ≠ 3 := z_ne c4
                    have qc5 : (i1).toInt ≠ 4 := z_ne c5
                    have qc6 : (i1).toInt ≠ 5 := z_ne c6
                    have qc7 : (i1).toInt ≠ 6 := z_ne c7
                    have qc8 : (i1).toInt ≠ 7 := z_ne c8
                    have qc9 : (i1).toInt ≠ 8 := z_ne c9
                    refine lv_tableOut (pc := 1) (tgt := 106) hx hb dX8_told_1 (by omega) (by decide) ?_
                    refine lv_iconst (pc := 106) (v := -1) hx hb dX8_told_106 (by decide) ?_
                    obtain rfl := Option.some.inj h
                    exact z_ri (pc := 107) X hw dX8_told_107
def f_X8_store (k0 : Nat) (i1 : Int32) (M : zM) : Option (zM) :=
  z_l (if (if (0 : Int32) < ((M.1 k0 4) - (M.1 k0 5)) then ((M.1 k0 4) - (M.1 k0 5)) else (0 : Int32)) < i1 then (if (0 : Int32) < ((M.1 k0 4) - (M.1 k0 5)) then ((M.1 k0 4) - (M.1 k0 5)) else (0 : Int32)) else i1) fun v1 =>
  z_l (z_w M k0 5 ((M.1 k0 5) + v1)) fun M2 =>
  z_l (z_w M2 k0 6 ((M2.1 k0 6) + (i1 - v1))) fun M3 =>
  some M3
set_option maxHeartbeats 4000000 in
set_option maxRecDepth 100000 in
theorem m_X8_store {l : Launch} {G : zG} {k0 : Nat} {i1 : Int32} {M : zM} {r : zM} (hk0 : z_kd k0 = 8) (h : f_X8_store k0 i1 M = some r) : z_T l G 0 yX8_store (.code yX8_store cX8_store 3 none) [.ref (G.1 k0), .int i1] M none r := by
  refine z_of rfl ?_
  intro p e s m below meth c X hw
  have hl := lv_entry [.ref (G.1 k0), .int i1] (n := 3) (Nat.le_of_ble_eq_true rfl)
  rw [lg_entry_eq]
  generalize (lg_sl [.ref (G.1 k0), .int i1] ++ List.replicate (3 - (lg_sl [.ref (G.1 k0), .int i1]).length) Slot.unset).toArray = ls at hl ⊢
  have hl : lv_has ls 3 [(0, .ref (G.1 k0)), (1, .int i1)] := hl
  generalize ([.ref (G.1 k0), .int i1] : List Value).toArray = args at X ⊢
  have X : z_C G p s m args meth c cX8_store 3 RX8 none := X
  have hx := X.1
  have hb := X.2.1
  unfold f_X8_store at h
  refine lv_iload_n (pc := 0) hx hb dX8_store_0 rfl (lv_at hl 1 rfl) ?_
  refine lv_iconst (pc := 1) (v := 0) hx hb dX8_store_1 (by decide) ?_
  refine lv_aload_n (pc := 2) hx hb dX8_store_2 rfl (lv_at hl 0 rfl) ?_
  refine zg_Street_size (pc := 3) X hw hk0 zw_fl_1_225 dX8_store_3 ?_
  refine lv_aload_n (pc := 6) hx hb dX8_store_6 rfl (lv_at hl 0 rfl) ?_
  refine zg_Street_has (pc := 7) X hw hk0 zw_fl_1_227 dX8_store_7 ?_
  refine lv_isub (pc := 10) hx hb dX8_store_10 ?_
  refine z_max (pc := 11) (rest := [.int i1]) X zw_ml_4_64 zw_st_3_141 zw_in_1_17 zw_co_3_142 hl.1 ⟨Nat.zero_le _, Nat.zero_le _⟩ (z_lm (Nat.le_of_ble_eq_true rfl)) dX8_store_11 ?_
  refine z_min (pc := 14) (rest := []) X zw_ml_4_65 zw_st_3_144 zw_in_1_17 zw_co_3_145 hl.1 ⟨Nat.zero_le _, Nat.zero_le _⟩ (z_lm (Nat.le_of_ble_eq_true rfl)) dX8_store_14 ?_
  obtain ⟨v1, ev1, h⟩ := z_lo h
  refine z_topi ev1 ?_
  refine lv_istore_n (pc := 17) (lv' := [(2, .int v1), (0, .ref (G.1 k0)), (1, .int i1)]) hx hb dX8_store_17 rfl hl (by decide) rfl (fun ls hl => ?_)
  refine lv_aload_n (pc := 18) hx hb dX8_store_18 rfl (lv_at hl 1 rfl) ?_
  refine lv_dup (pc := 19) hx hb dX8_store_19 rfl ?_
  refine zg_Street_has (pc := 20) X hw hk0 zw_fl_1_227 dX8_store_20 ?_
  refine lv_iload_n (pc := 23) hx hb dX8_store_23 rfl (lv_at hl 0 rfl) ?_
  refine lv_iadd (pc := 24) hx hb dX8_store_24 ?_
  refine zp_Street_has (pc := 25) X hw hk0 zw_fl_1_227 dX8_store_25 (fun HM2 lM2 wM2 => ?_)
  obtain ⟨M2, eM2, h⟩ := z_lo h
  rw [← eM2] at wM2
  refine lv_aload_n (pc := 28) hx hb dX8_store_28 rfl (lv_at hl 1 rfl) ?_
  refine lv_dup (pc := 29) hx hb dX8_store_29 rfl ?_
  refine zg_Street_off (pc := 30) X wM2 hk0 zw_fl_1_228 dX8_store_30 ?_
  refine lv_iload_n (pc := 33) hx hb dX8_store_33 rfl (lv_at hl 2 rfl) ?_
  refine lv_iload_n (pc := 34) hx hb dX8_store_34 rfl (lv_at hl 0 rfl) ?_
  refine lv_isub (pc := 35) hx hb dX8_store_35 ?_
  refine lv_iadd (pc := 36) hx hb dX8_store_36 ?_
  refine zp_Street_off (pc := 37) X wM2 hk0 zw_fl_1_228 dX8_store_37 (fun HM3 lM3 wM3 => ?_)
  obtain ⟨M3, eM3, h⟩ := z_lo h
  rw [← eM3] at wM3
  obtain rfl := Option.some.inj h
  exact z_rv (pc := 40) X wM3 dX8_store_40
def f_X8_pay_107 (k0 : Nat) (k3 : Nat) (k4 : Nat) (sk0 : Nat) (si1 : Int32) (si2 : Int32) (M : zM) : Option (zM) :=
    z_g (z_ix si1 (z_ln sk0)) <|
    z_l (z_w M sk0 (Int32.toNatClampNeg si1) si2) fun M2 =>
    z_l (z_w M2 (k0 + 10) (Int32.toNatClampNeg (14 : Int32)) (M2.1 k3 0)) fun M3 =>
    z_l (z_w M3 (k0 + 10) (Int32.toNatClampNeg (15 : Int32)) (M3.1 k3 8)) fun M4 =>
    (f_X3_asks (k0 + 12) (k0 + 10) M4).bind fun x5 =>
    z_l (z_w x5.2 k3 10 ((x5.2.1 k3 10) - x5.1)) fun M6 =>
    z_l (z_w M6 k4 10 ((M6.1 k4 10) + x5.1)) fun M7 =>
    some M7
def f_X8_pay_75 (k0 : Nat) (i1 : Int32) (i2 : Int32) (k3 : Nat) (k4 : Nat) (sk0 : Nat) (si1 : Int32) (si2 : Int32) (M : zM) : Option (zM) :=
    z_g (z_ix si1 (z_ln sk0)) <|
    z_l (z_w M sk0 (Int32.toNatClampNeg si1) si2) fun M2 =>
    z_l (z_w M2 (k0 + 10) (Int32.toNatClampNeg (12 : Int32)) ((if 0 ≤ (i1 - i2) then (i1 - i2) else 0 - (i1 - i2)) - (1 : Int32))) fun M3 =>
    if i2 ≤ i1 then (
      f_X8_pay_107 k0 k3 k4 (k0 + 10) (13 : Int32) (0 : Int32) M3
    ) else (
      f_X8_pay_107 k0 k3 k4 (k0 + 10) (13 : Int32) (1 : Int32) M3
    )
def f_X8_pay (k0 : Nat) (i1 : Int32) (i2 : Int32) (M : zM) : Option (zM) :=
  z_g (z_ix i1 10) <|
  z_l (z_ra ((k0 + 2) + 3) (Int32.toNatClampNeg i1)) fun v2 =>
  z_g (z_ix i2 10) <|
  z_l (z_ra ((k0 + 2) + 3) (Int32.toNatClampNeg i2)) fun v4 =>
  z_l (z_w M (k0 + 10) (Int32.toNatClampNeg (8 : Int32)) (M.1 v4 12)) fun M5 =>
  z_l (z_w M5 (k0 + 10) (Int32.toNatClampNeg (9 : Int32)) (M5.1 v2 5)) fun M6 =>
  z_l (z_w M6 (k0 + 10) (Int32.toNatClampNeg (10 : Int32)) (M6.1 v4 5)) fun M7 =>
  if (M7.1 v2 4) = i2 then (
    f_X8_pay_75 k0 i1 i2 v2 v4 (k0 + 10) (11 : Int32) (1 : Int32) M7
  ) else (
    f_X8_pay_75 k0 i1 i2 v2 v4 (k0 + 10) (11 : Int32) (0 : Int32) M7
  )
set_option maxHeartbeats 4000000 in
set_option maxRecDepth 100000 in
theorem w_X8_pay_107 {G : zG} {p : Program} {l : Launch} {e : Env} {s : State} {m : MethodId} {args : Array Value} {below : List Frame} {meth : Method} {c : Code} (X : z_C G p s m args meth c cX8_pay 6 RX8 none) {r : zM} : ∀ (k0 : Nat) (k3 : Nat) (k4 : Nat) (sk0 : Nat) (si1 : Int32) (si2 : Int32) (M : zM) (H : Heap) (locs : List Loc) (ls : Array Slot), z_kd k0 = 8 → z_kd k3 = 2 → z_kd k4 = 2 → z_kd sk0 = 13 → z_W G M H locs → lv_has ls 6 [(0, .ref (G.1 k0)), (3, .ref (G.1 k3)), (4, .ref (G.1 k4))] → f_X8_pay_107 k0 k3 k4 sk0 si1 si2 M = some r → W p l e (z_rm 3) s m args below meth c H locs 0 0 (z_Q G below args s none r) (F0 m 107 ls [.int si2, .int si1, .ref (G.1 sk0)]) := by
  have hx := X.1
  have hb := X.2.1
  intro k0 k3 k4 sk0 si1 si2 M H locs ls hk0 hk3 hk4 hsk0 hw hl h
  unfold f_X8_pay_107 at h
  obtain ⟨g1, h⟩ := z_gd h
  refine z_iast (pc := 107) X hw hsk0 rfl g1 dX8_pay_107 (fun HM2 lM2 wM2 => ?_)
  obtain ⟨M2, eM2, h⟩ := z_lo h
  rw [← eM2] at wM2
  refine lv_aload_n (pc := 108) hx hb dX8_pay_108 rfl (lv_at hl 0 rfl) ?_
  refine zg_Street_measures (pc := 109) X wM2 hk0 zw_fl_1_235 dX8_pay_109 ?_
  refine lv_bipush (pc := 112) (v := 14) hx hb dX8_pay_112 (by decide) ?_
  refine lv_aload_n (pc := 114) hx hb dX8_pay_114 rfl (lv_at hl 1 rfl) ?_
  refine zg_House_area (pc := 115) X wM2 hk3 zw_fl_1_49 dX8_pay_115 ?_
  refine z_iast (pc := 118) X wM2 (zk_Street_measures hk0) (zl_Street_measures hk0) (z_il (by decide)) dX8_pay_118 (fun HM3 lM3 wM3 => ?_)
  obtain ⟨M3, eM3, h⟩ := z_lo h
  rw [← eM3] at wM3
  refine lv_aload_n (pc := 119) hx hb dX8_pay_119 rfl (lv_at hl 0 rfl) ?_
  refine zg_Street_measures (pc := 120) X wM3 hk0 zw_fl_1_235 dX8_pay_120 ?_
  refine lv_bipush (pc := 123) (v := 15) hx hb dX8_pay_123 (by decide) ?_
  refine lv_aload_n (pc := 125) hx hb dX8_pay_125 rfl (lv_at hl 1 rfl) ?_
  refine zg_House_held (pc := 126) X wM3 hk3 zw_fl_1_73 dX8_pay_126 ?_
  refine z_iast (pc := 129) X wM3 (zk_Street_measures hk0) (zl_Street_measures hk0) (z_il (by decide)) dX8_pay_129 (fun HM4 lM4 wM4 => ?_)
  obtain ⟨M4, eM4, h⟩ := z_lo h
  rw [← eM4] at wM4
  refine lv_aload_n (pc := 130) hx hb dX8_pay_130 rfl (lv_at hl 0 rfl) ?_
  refine zg_Street_law (pc := 131) X wM4 hk0 zw_fl_1_223 dX8_pay_131 ?_
  refine lv_aload_n (pc := 134) hx hb dX8_pay_134 rfl (lv_at hl 0 rfl) ?_
  refine zg_Street_measures (pc := 135) X wM4 hk0 zw_fl_1_235 dX8_pay_135 ?_
  obtain ⟨x5, ex5, h⟩ := z_bd h
  refine z_cvI (pc := 138) (rest := []) X wM4 (m_X3_asks (zk_Street_law hk0) (zk_Street_measures hk0) ex5) (z_lt (zk_Street_law hk0) (by decide)) (z_E3 (zk_Street_law hk0)) rfl zw_ml_4_77 zw_im_4_78 zw_se_4_79 zw_in_1_5 zw_co_4_80 zd_X3_asks (by decide) rfl hl.1 rfl (Nat.le_of_ble_eq_true rfl) dX8_pay_138 ⟨Nat.zero_le _, Nat.zero_le _⟩ (fun Hx5 lx5 wx5 => ?_)
  refine lv_istore (pc := 141) (lv' := [(5, .int x5.1), (0, .ref (G.1 k0)), (3, .ref (G.1 k3)), (4, .ref (G.1 k4))]) hx hb dX8_pay_141 hl (by decide) rfl (fun ls hl => ?_)
  refine lv_aload_n (pc := 143) hx hb dX8_pay_143 rfl (lv_at hl 2 rfl) ?_
  refine lv_dup (pc := 144) hx hb dX8_pay_144 rfl ?_
  refine zg_House_coin (pc := 145) X wx5 hk3 zw_fl_1_78 dX8_pay_145 ?_
  refine lv_iload (pc := 148) hx hb dX8_pay_148 (lv_at hl 0 rfl) ?_
  refine lv_isub (pc := 150) hx hb dX8_pay_150 ?_
  refine zp_House_coin (pc := 151) X wx5 hk3 zw_fl_1_78 dX8_pay_151 (fun HM6 lM6 wM6 => ?_)
  obtain ⟨M6, eM6, h⟩ := z_lo h
  rw [← eM6] at wM6
  refine lv_aload (pc := 154) hx hb dX8_pay_154 (lv_at hl 3 rfl) ?_
  refine lv_dup (pc := 156) hx hb dX8_pay_156 rfl ?_
  refine zg_House_coin (pc := 157) X wM6 hk4 zw_fl_1_78 dX8_pay_157 ?_
  refine lv_iload (pc := 160) hx hb dX8_pay_160 (lv_at hl 0 rfl) ?_
  refine lv_iadd (pc := 162) hx hb dX8_pay_162 ?_
  refine zp_House_coin (pc := 163) X wM6 hk4 zw_fl_1_78 dX8_pay_163 (fun HM7 lM7 wM7 => ?_)
  obtain ⟨M7, eM7, h⟩ := z_lo h
  rw [← eM7] at wM7
  obtain rfl := Option.some.inj h
  exact z_rv (pc := 166) X wM7 dX8_pay_166
set_option maxHeartbeats 4000000 in
set_option maxRecDepth 100000 in
theorem w_X8_pay_75 {G : zG} {p : Program} {l : Launch} {e : Env} {s : State} {m : MethodId} {args : Array Value} {below : List Frame} {meth : Method} {c : Code} (X : z_C G p s m args meth c cX8_pay 6 RX8 none) {r : zM} : ∀ (k0 : Nat) (i1 : Int32) (i2 : Int32) (k3 : Nat) (k4 : Nat) (sk0 : Nat) (si1 : Int32) (si2 : Int32) (M : zM) (H : Heap) (locs : List Loc) (ls : Array Slot), z_kd k0 = 8 → z_kd k3 = 2 → z_kd k4 = 2 → z_kd sk0 = 13 → z_W G M H locs → lv_has ls 6 [(0, .ref (G.1 k0)), (1, .int i1), (2, .int i2), (3, .ref (G.1 k3)), (4, .ref (G.1 k4))] → f_X8_pay_75 k0 i1 i2 k3 k4 sk0 si1 si2 M = some r → W p l e (z_rm 3) s m args below meth c H locs 0 0 (z_Q G below args s none r) (F0 m 75 ls [.int si2, .int si1, .ref (G.1 sk0)]) := by
  have hx := X.1
  have hb := X.2.1
  intro k0 i1 i2 k3 k4 sk0 si1 si2 M H locs ls hk0 hk3 hk4 hsk0 hw hl h
  unfold f_X8_pay_75 at h
  obtain ⟨g1, h⟩ := z_gd h
  refine z_iast (pc := 75) X hw hsk0 rfl g1 dX8_pay_75 (fun HM2 lM2 wM2 => ?_)
  obtain ⟨M2, eM2, h⟩ := z_lo h
  rw [← eM2] at wM2
  refine lv_aload_n (pc := 76) hx hb dX8_pay_76 rfl (lv_at hl 0 rfl) ?_
  refine zg_Street_measures (pc := 77) X wM2 hk0 zw_fl_1_235 dX8_pay_77 ?_
  refine lv_bipush (pc := 80) (v := 12) hx hb dX8_pay_80 (by decide) ?_
  refine lv_iload_n (pc := 82) hx hb dX8_pay_82 rfl (lv_at hl 1 rfl) ?_
  refine lv_iload_n (pc := 83) hx hb dX8_pay_83 rfl (lv_at hl 2 rfl) ?_
  refine lv_isub (pc := 84) hx hb dX8_pay_84 ?_
  refine z_abs (pc := 85) (rest := [.int (12 : Int32), .ref (G.1 (k0 + 10))]) X zw_ml_4_74 zw_st_4_75 zw_in_1_17 zw_co_4_76 hl.1 ⟨Nat.zero_le _, Nat.zero_le _⟩ (z_lm (Nat.le_of_ble_eq_true rfl)) dX8_pay_85 ?_
  refine lv_iconst (pc := 88) (v := 1) hx hb dX8_pay_88 (by decide) ?_
  refine lv_isub (pc := 89) hx hb dX8_pay_89 ?_
  refine z_iast (pc := 90) X wM2 (zk_Street_measures hk0) (zl_Street_measures hk0) (z_il (by decide)) dX8_pay_90 (fun HM3 lM3 wM3 => ?_)
  obtain ⟨M3, eM3, h⟩ := z_lo h
  rw [← eM3] at wM3
  refine lv_aload_n (pc := 91) hx hb dX8_pay_91 rfl (lv_at hl 0 rfl) ?_
  refine zg_Street_measures (pc := 92) X wM3 hk0 zw_fl_1_235 dX8_pay_92 ?_
  refine lv_bipush (pc := 95) (v := 13) hx hb dX8_pay_95 (by decide) ?_
  refine lv_iload_n (pc := 97) hx hb dX8_pay_97 rfl (lv_at hl 1 rfl) ?_
  refine lv_iload_n (pc := 98) hx hb dX8_pay_98 rfl (lv_at hl 2 rfl) ?_
  refine lv_icmp_ge (pc := 99) (tgt := 106) hx hb dX8_pay_99 (by decide) (fun c4 => ?_) (fun c4 => ?_)
  · replace h := z_t c4 h
    refine lv_iconst (pc := 106) (v := 0) hx hb dX8_pay_106 (by decide) ?_
    exact w_X8_pay_107 X k0 k3 k4 (k0 + 10) (13 : Int32) (0 : Int32) M3 HM3 lM3 ls hk0 hk3 hk4 (zk_Street_measures hk0) wM3 (lv_sub hl [0, 3, 4] rfl) h
  · replace h := z_f c4 h
    refine lv_iconst (pc := 102) (v := 1) hx hb dX8_pay_102 (by decide) ?_
    refine lv_goto (pc := 103) (tgt := 107) hx hb dX8_pay_103 (by decide) ?_
    exact w_X8_pay_107 X k0 k3 k4 (k0 + 10) (13 : Int32) (1 : Int32) M3 HM3 lM3 ls hk0 hk3 hk4 (zk_Street_measures hk0) wM3 (lv_sub hl [0, 3, 4] rfl) h
set_option maxHeartbeats 4000000 in
set_option maxRecDepth 100000 in
theorem m_X8_pay {l : Launch} {G : zG} {k0 : Nat} {i1 : Int32} {i2 : Int32} {M : zM} {r : zM} (hk0 : z_kd k0 = 8) (h : f_X8_pay k0 i1 i2 M = some r) : z_T l G 3 yX8_pay (.code yX8_pay cX8_pay 6 none) [.ref (G.1 k0), .int i1, .int i2] M none r := by
  refine z_of rfl ?_
  intro p e s m below meth c X hw
  have hl := lv_entry [.ref (G.1 k0), .int i1, .int i2] (n := 6) (Nat.le_of_ble_eq_true rfl)
  rw [lg_entry_eq]
  generalize (lg_sl [.ref (G.1 k0), .int i1, .int i2] ++ List.replicate (6 - (lg_sl [.ref (G.1 k0), .int i1, .int i2]).length) Slot.unset).toArray = ls at hl ⊢
  have hl : lv_has ls 6 [(0, .ref (G.1 k0)), (1, .int i1), (2, .int i2)] := hl
  generalize ([.ref (G.1 k0), .int i1, .int i2] : List Value).toArray = args at X ⊢
  have X : z_C G p s m args meth c cX8_pay 6 RX8 none := X
  have hx := X.1
  have hb := X.2.1
  unfold f_X8_pay at h
  refine lv_aload_n (pc := 0) hx hb dX8_pay_0 rfl (lv_at hl 0 rfl) ?_
  refine zg_Street_roofs (pc := 1) X hw hk0 zw_fl_1_212 dX8_pay_1 ?_
  refine zg_Roofs_houses (pc := 4) X hw (zk_Street_roofs hk0) zw_fl_1_148 dX8_pay_4 ?_
  refine lv_iload_n (pc := 7) hx hb dX8_pay_7 rfl (lv_at hl 1 rfl) ?_
  obtain ⟨g1, h⟩ := z_gd h
  refine z_aald16 (pc := 8) X hw (zk_Roofs_houses (zk_Street_roofs hk0)) (zl_Roofs_houses (zk_Street_roofs hk0)) g1 dX8_pay_8 ?_
  obtain ⟨v2, ev2, h⟩ := z_lo h
  refine z_topr ev2 ?_
  have hv2 : z_kd v2 = 2 := by rw [ev2]; exact (zk_el16 (zk_Roofs_houses (zk_Street_roofs hk0)) g1)
  refine lv_astore_n (pc := 9) (lv' := [(3, .ref (G.1 v2)), (0, .ref (G.1 k0)), (1, .int i1), (2, .int i2)]) hx hb dX8_pay_9 rfl hl (by decide) rfl (fun ls hl => ?_)
  refine lv_aload_n (pc := 10) hx hb dX8_pay_10 rfl (lv_at hl 1 rfl) ?_
  refine zg_Street_roofs (pc := 11) X hw hk0 zw_fl_1_212 dX8_pay_11 ?_
  refine zg_Roofs_houses (pc := 14) X hw (zk_Street_roofs hk0) zw_fl_1_148 dX8_pay_14 ?_
  refine lv_iload_n (pc := 17) hx hb dX8_pay_17 rfl (lv_at hl 3 rfl) ?_
  obtain ⟨g3, h⟩ := z_gd h
  refine z_aald16 (pc := 18) X hw (zk_Roofs_houses (zk_Street_roofs hk0)) (zl_Roofs_houses (zk_Street_roofs hk0)) g3 dX8_pay_18 ?_
  obtain ⟨v4, ev4, h⟩ := z_lo h
  refine z_topr ev4 ?_
  have hv4 : z_kd v4 = 2 := by rw [ev4]; exact (zk_el16 (zk_Roofs_houses (zk_Street_roofs hk0)) g3)
  refine lv_astore (pc := 19) (lv' := [(4, .ref (G.1 v4)), (3, .ref (G.1 v2)), (0, .ref (G.1 k0)), (1, .int i1), (2, .int i2)]) hx hb dX8_pay_19 hl (by decide) rfl (fun ls hl => ?_)
  refine lv_aload_n (pc := 21) hx hb dX8_pay_21 rfl (lv_at hl 2 rfl) ?_
  refine zg_Street_measures (pc := 22) X hw hk0 zw_fl_1_235 dX8_pay_22 ?_
  refine lv_bipush (pc := 25) (v := 8) hx hb dX8_pay_25 (by decide) ?_
  refine lv_aload (pc := 27) hx hb dX8_pay_27 (lv_at hl 0 rfl) ?_
  refine zg_House_over (pc := 29) X hw hv4 zw_fl_1_83 dX8_pay_29 ?_
  refine z_iast (pc := 32) X hw (zk_Street_measures hk0) (zl_Street_measures hk0) (z_il (by decide)) dX8_pay_32 (fun HM5 lM5 wM5 => ?_)
  obtain ⟨M5, eM5, h⟩ := z_lo h
  rw [← eM5] at wM5
  refine lv_aload_n (pc := 33) hx hb dX8_pay_33 rfl (lv_at hl 2 rfl) ?_
  refine zg_Street_measures (pc := 34) X wM5 hk0 zw_fl_1_235 dX8_pay_34 ?_
  refine lv_bipush (pc := 37) (v := 9) hx hb dX8_pay_37 (by decide) ?_
  refine lv_aload_n (pc := 39) hx hb dX8_pay_39 rfl (lv_at hl 1 rfl) ?_
  refine zg_House_clog (pc := 40) X wM5 hv2 zw_fl_1_66 dX8_pay_40 ?_
  refine z_iast (pc := 43) X wM5 (zk_Street_measures hk0) (zl_Street_measures hk0) (z_il (by decide)) dX8_pay_43 (fun HM6 lM6 wM6 => ?_)
  obtain ⟨M6, eM6, h⟩ := z_lo h
  rw [← eM6] at wM6
  refine lv_aload_n (pc := 44) hx hb dX8_pay_44 rfl (lv_at hl 2 rfl) ?_
  refine zg_Street_measures (pc := 45) X wM6 hk0 zw_fl_1_235 dX8_pay_45 ?_
  refine lv_bipush (pc := 48) (v := 10) hx hb dX8_pay_48 (by decide) ?_
  refine lv_aload (pc := 50) hx hb dX8_pay_50 (lv_at hl 0 rfl) ?_
  refine zg_House_clog (pc := 52) X wM6 hv4 zw_fl_1_66 dX8_pay_52 ?_
  refine z_iast (pc := 55) X wM6 (zk_Street_measures hk0) (zl_Street_measures hk0) (z_il (by decide)) dX8_pay_55 (fun HM7 lM7 wM7 => ?_)
  obtain ⟨M7, eM7, h⟩ := z_lo h
  rw [← eM7] at wM7
  refine lv_aload_n (pc := 56) hx hb dX8_pay_56 rfl (lv_at hl 2 rfl) ?_
  refine zg_Street_measures (pc := 57) X wM7 hk0 zw_fl_1_235 dX8_pay_57 ?_
  refine lv_bipush (pc := 60) (v := 11) hx hb dX8_pay_60 (by decide) ?_
  refine lv_aload_n (pc := 62) hx hb dX8_pay_62 rfl (lv_at hl 1 rfl) ?_
  refine zg_House_empties (pc := 63) X wM7 hv2 zw_fl_1_59 dX8_pay_63 ?_
  refine lv_iload_n (pc := 66) hx hb dX8_pay_66 rfl (lv_at hl 4 rfl) ?_
  refine lv_icmp_ne (pc := 67) (tgt := 74) hx hb dX8_pay_67 (by decide) (fun c8 => ?_) (fun c8 => ?_)
  · replace h := z_f c8 h
    refine lv_iconst (pc := 74) (v := 0) hx hb dX8_pay_74 (by decide) ?_
    exact w_X8_pay_75 X k0 i1 i2 v2 v4 (k0 + 10) (11 : Int32) (0 : Int32) M7 HM7 lM7 ls hk0 hv2 hv4 (zk_Street_measures hk0) wM7 (lv_sub hl [2, 3, 4, 1, 0] rfl) h
  · replace h := z_t c8 h
    refine lv_iconst (pc := 70) (v := 1) hx hb dX8_pay_70 (by decide) ?_
    refine lv_goto (pc := 71) (tgt := 75) hx hb dX8_pay_71 (by decide) ?_
    exact w_X8_pay_75 X k0 i1 i2 v2 v4 (k0 + 10) (11 : Int32) (1 : Int32) M7 HM7 lM7 ls hk0 hv2 hv4 (zk_Street_measures hk0) wM7 (lv_sub hl [2, 3, 4, 1, 0] rfl) h
def f_X8_settle_30 (K2 : Nat → Int32 → zM → Option (zM)) : Nat → Nat → Int32 → Int32 → zM → Option (zM)
  | 0, _, _, _, _ => none
  | n + 1, k0, i1, i2, M =>
    if (M.1 (k0 + 2) 0) ≤ i2 then (
      z_l (i1 + (1 : Int32)) fun v2 =>
      K2 k0 v2 M
    ) else (
      if i2 = i1 then (
        z_l (i2 + (1 : Int32)) fun v4 =>
        f_X8_settle_30 K2 n k0 i1 v4 M
      ) else (
        (f_X8_pay k0 i2 i1 M).bind fun x5 =>
        z_l (i2 + (1 : Int32)) fun v6 =>
        f_X8_settle_30 K2 n k0 i1 v6 x5
      )
    )
def f_X8_settle_2 : Nat → Nat → Int32 → zM → Option (zM)
  | 0, _, _, _ => none
  | n + 1, k0, i1, M =>
    if (M.1 (k0 + 2) 0) ≤ i1 then (
      some M
    ) else (
      z_g (z_ix i1 10) <|
      if (M.1 (z_ra ((k0 + 2) + 3) (Int32.toNatClampNeg i1)) 12) ≤ 0 then (
        z_l (i1 + (1 : Int32)) fun v4 =>
        f_X8_settle_2 n k0 v4 M
      ) else (
        f_X8_settle_30 (f_X8_settle_2 n) z_F k0 i1 (0 : Int32) M
      )
    )
def f_X8_settle (k0 : Nat) (M : zM) : Option (zM) :=
  f_X8_settle_2 z_F k0 (0 : Int32) M
set_option maxHeartbeats 4000000 in
set_option maxRecDepth 100000 in
theorem w_X8_settle_30 {G : zG} {p : Program} {l : Launch} {e : Env} {s : State} {m : MethodId} {args : Array Value} {below : List Frame} {meth : Method} {c : Code} (X : z_C G p s m args meth c cX8_settle 3 RX8 none) {r : zM} {K2 : Nat → Int32 → zM → Option (zM)} (hK2 : ∀ (k0 : Nat) (i1 : Int32) (M : zM) (H : Heap) (locs : List Loc) (ls : Array Slot), z_kd k0 = 8 → z_W G M H locs → lv_has ls 3 [(0, .ref (G.1 k0)), (1, .int i1)] → K2 k0 i1 M = some r → W p l e (z_rm 4) s m args below meth c H locs 0 0 (z_Q G below args s none r) (F0 m 2 ls [])) : ∀ (n : Nat) (k0 : Nat) (i1 : Int32) (i2 : Int32) (M : zM) (H : Heap) (locs : List Loc) (ls : Array Slot), z_kd k0 = 8 → z_W G M H locs → lv_has ls 3 [(0, .ref (G.1 k0)), (1, .int i1), (2, .int i2)] → f_X8_settle_30 K2 n k0 i1 i2 M = some r → W p l e (z_rm 4) s m args below meth c H locs 0 0 (z_Q G below args s none r) (F0 m 30 ls []) := by
  have hx := X.1
  have hb := X.2.1
  intro n
  induction n with
  | zero =>
    intro k0 i1 i2 M H locs ls hk0 hw hl h
    exact z_no h
  | succ n ih =>
    intro k0 i1 i2 M H locs ls hk0 hw hl h
    rw [f_X8_settle_30] at h
    refine lv_iload_n (pc := 30) hx hb dX8_settle_30 rfl (lv_at hl 2 rfl) ?_
    refine lv_aload_n (pc := 31) hx hb dX8_settle_31 rfl (lv_at hl 0 rfl) ?_
    refine zg_Street_roofs (pc := 32) X hw hk0 zw_fl_1_212 dX8_settle_32 ?_
    refine zg_Roofs_count (pc := 35) X hw (zk_Street_roofs hk0) zw_fl_1_139 dX8_settle_35 ?_
    refine lv_icmp_ge (pc := 38) (tgt := 58) hx hb dX8_settle_38 (by decide) (fun c1 => ?_) (fun c1 => ?_)
    · replace h := z_t c1 h
      obtain ⟨v2, ev2, h⟩ := z_lo h
      refine lv_iinc (pc := 58) (v := v2) (lv' := [(1, .int v2), (0, .ref (G.1 k0)), (2, .int i2)]) hx hb dX8_settle_58 hl (k := 1) rfl (by rw [ev2]; rfl) (by decide) rfl (fun ls hl => ?_)
      refine lv_goto (pc := 61) (tgt := 2) hx hb dX8_settle_61 (by decide) ?_
      exact hK2 k0 v2 M H locs ls hk0 hw (lv_sub hl [1, 0] rfl) h
    · replace h := z_f c1 h
      refine lv_iload_n (pc := 41) hx hb dX8_settle_41 rfl (lv_at hl 2 rfl) ?_
      refine lv_iload_n (pc := 42) hx hb dX8_settle_42 rfl (lv_at hl 1 rfl) ?_
      refine lv_icmp_eq (pc := 43) (tgt := 52) hx hb dX8_settle_43 (by decide) (fun c3 => ?_) (fun c3 => ?_)
      · replace h := z_t c3 h
        obtain ⟨v4, ev4, h⟩ := z_lo h
        refine lv_iinc (pc := 52) (v := v4) (lv' := [(2, .int v4), (0, .ref (G.1 k0)), (1, .int i1)]) hx hb dX8_settle_52 hl (k := 2) rfl (by rw [ev4]; rfl) (by decide) rfl (fun ls hl => ?_)
        refine lv_goto (pc := 55) (tgt := 30) hx hb dX8_settle_55 (by decide) ?_
        exact ih k0 i1 v4 M H locs ls hk0 hw (lv_sub hl [1, 2, 0] rfl) h
      · replace h := z_f c3 h
        refine lv_aload_n (pc := 46) hx hb dX8_settle_46 rfl (lv_at hl 0 rfl) ?_
        refine lv_iload_n (pc := 47) hx hb dX8_settle_47 rfl (lv_at hl 2 rfl) ?_
        refine lv_iload_n (pc := 48) hx hb dX8_settle_48 rfl (lv_at hl 1 rfl) ?_
        obtain ⟨x5, ex5, h⟩ := z_bd h
        refine z_cvV (pc := 49) (rest := []) X hw (m_X8_pay hk0 ex5) (z_lt hk0 (by decide)) (z_E8 hk0) rfl zw_ml_4_70 zw_im_4_72 zw_se_S_23 zw_in_1_2 zw_co_4_73 zd_X8_pay (by decide) rfl hl.1 rfl (Nat.le_of_ble_eq_true rfl) dX8_settle_49 ⟨Nat.zero_le _, Nat.zero_le _⟩ (fun Hx5 lx5 wx5 => ?_)
        obtain ⟨v6, ev6, h⟩ := z_lo h
        refine lv_iinc (pc := 52) (v := v6) (lv' := [(2, .int v6), (0, .ref (G.1 k0)), (1, .int i1)]) hx hb dX8_settle_52 hl (k := 2) rfl (by rw [ev6]; rfl) (by decide) rfl (fun ls hl => ?_)
        refine lv_goto (pc := 55) (tgt := 30) hx hb dX8_settle_55 (by decide) ?_
        exact ih k0 i1 v6 x5 Hx5 lx5 ls hk0 wx5 (lv_sub hl [1, 2, 0] rfl) h
set_option maxHeartbeats 4000000 in
set_option maxRecDepth 100000 in
theorem w_X8_settle_2 {G : zG} {p : Program} {l : Launch} {e : Env} {s : State} {m : MethodId} {args : Array Value} {below : List Frame} {meth : Method} {c : Code} (X : z_C G p s m args meth c cX8_settle 3 RX8 none) {r : zM} : ∀ (n : Nat) (k0 : Nat) (i1 : Int32) (M : zM) (H : Heap) (locs : List Loc) (ls : Array Slot), z_kd k0 = 8 → z_W G M H locs → lv_has ls 3 [(0, .ref (G.1 k0)), (1, .int i1)] → f_X8_settle_2 n k0 i1 M = some r → W p l e (z_rm 4) s m args below meth c H locs 0 0 (z_Q G below args s none r) (F0 m 2 ls []) := by
  have hx := X.1
  have hb := X.2.1
  intro n
  induction n with
  | zero =>
    intro k0 i1 M H locs ls hk0 hw hl h
    exact z_no h
  | succ n ih =>
    intro k0 i1 M H locs ls hk0 hw hl h
    rw [f_X8_settle_2] at h
    refine lv_iload_n (pc := 2) hx hb dX8_settle_2 rfl (lv_at hl 1 rfl) ?_
    refine lv_aload_n (pc := 3) hx hb dX8_settle_3 rfl (lv_at hl 0 rfl) ?_
    refine zg_Street_roofs (pc := 4) X hw hk0 zw_fl_1_212 dX8_settle_4 ?_
    refine zg_Roofs_count (pc := 7) X hw (zk_Street_roofs hk0) zw_fl_1_139 dX8_settle_7 ?_
    refine lv_icmp_ge (pc := 10) (tgt := 64) hx hb dX8_settle_10 (by decide) (fun c1 => ?_) (fun c1 => ?_)
    · replace h := z_t c1 h
      obtain rfl := Option.some.inj h
      exact z_rv (pc := 64) X hw dX8_settle_64
    · replace h := z_f c1 h
      refine lv_aload_n (pc := 13) hx hb dX8_settle_13 rfl (lv_at hl 0 rfl) ?_
      refine zg_Street_roofs (pc := 14) X hw hk0 zw_fl_1_212 dX8_settle_14 ?_
      refine zg_Roofs_houses (pc := 17) X hw (zk_Street_roofs hk0) zw_fl_1_148 dX8_settle_17 ?_
      refine lv_iload_n (pc := 20) hx hb dX8_settle_20 rfl (lv_at hl 1 rfl) ?_
      obtain ⟨g2, h⟩ := z_gd h
      refine z_aald16 (pc := 21) X hw (zk_Roofs_houses (zk_Street_roofs hk0)) (zl_Roofs_houses (zk_Street_roofs hk0)) g2 dX8_settle_21 ?_
      refine zg_House_over (pc := 22) X hw (zk_el16 (zk_Roofs_houses (zk_Street_roofs hk0)) g2) zw_fl_1_83 dX8_settle_22 ?_
      refine lv_if_le (pc := 25) (tgt := 58) hx hb dX8_settle_25 (by decide) (fun c3 => ?_) (fun c3 => ?_)
      · replace h := z_t c3 h
        obtain ⟨v4, ev4, h⟩ := z_lo h
        refine lv_iinc (pc := 58) (v := v4) (lv' := [(1, .int v4), (0, .ref (G.1 k0))]) hx hb dX8_settle_58 hl (k := 1) rfl (by rw [ev4]; rfl) (by decide) rfl (fun ls hl => ?_)
        refine lv_goto (pc := 61) (tgt := 2) hx hb dX8_settle_61 (by decide) ?_
        exact ih k0 v4 M H locs ls hk0 hw (lv_sub hl [1, 0] rfl) h
      · replace h := z_f c3 h
        refine lv_iconst (pc := 28) (v := 0) hx hb dX8_settle_28 (by decide) ?_
        refine lv_istore_n (pc := 29) (lv' := [(2, .int (0 : Int32)), (0, .ref (G.1 k0)), (1, .int i1)]) hx hb dX8_settle_29 rfl hl (by decide) rfl (fun ls hl => ?_)
        exact w_X8_settle_30 X ih z_F k0 i1 (0 : Int32) M H locs ls hk0 hw (lv_sub hl [1, 2, 0] rfl) h
set_option maxHeartbeats 4000000 in
set_option maxRecDepth 100000 in
theorem m_X8_settle {l : Launch} {G : zG} {k0 : Nat} {M : zM} {r : zM} (hk0 : z_kd k0 = 8) (h : f_X8_settle k0 M = some r) : z_T l G 4 yX8_settle (.code yX8_settle cX8_settle 3 none) [.ref (G.1 k0)] M none r := by
  refine z_of rfl ?_
  intro p e s m below meth c X hw
  have hl := lv_entry [.ref (G.1 k0)] (n := 3) (Nat.le_of_ble_eq_true rfl)
  rw [lg_entry_eq]
  generalize (lg_sl [.ref (G.1 k0)] ++ List.replicate (3 - (lg_sl [.ref (G.1 k0)]).length) Slot.unset).toArray = ls at hl ⊢
  have hl : lv_has ls 3 [(0, .ref (G.1 k0))] := hl
  generalize ([.ref (G.1 k0)] : List Value).toArray = args at X ⊢
  have X : z_C G p s m args meth c cX8_settle 3 RX8 none := X
  have hx := X.1
  have hb := X.2.1
  unfold f_X8_settle at h
  refine lv_iconst (pc := 0) (v := 0) hx hb dX8_settle_0 (by decide) ?_
  refine lv_istore_n (pc := 1) (lv' := [(1, .int (0 : Int32)), (0, .ref (G.1 k0))]) hx hb dX8_settle_1 rfl hl (by decide) rfl (fun ls hl => ?_)
  exact w_X8_settle_2 X z_F k0 (0 : Int32) M s.heap [] ls hk0 hw (lv_sub hl [1, 0] rfl) h
def f_X8_weather_123 : Nat → Nat → Int32 → Int32 → zM → Option (Int32 × zM)
  | 0, _, _, _, _ => none
  | n + 1, k0, i2, i4, M =>
    if (M.1 (k0 + 2) 0) ≤ i4 then (
      some (i2, M)
    ) else (
      z_g (z_ix i4 10) <|
      (f_X2_closeStorm (z_ra ((k0 + 2) + 3) (Int32.toNatClampNeg i4)) M).bind fun x3 =>
      z_l (i4 + (1 : Int32)) fun v4 =>
      f_X8_weather_123 n k0 i2 v4 x3
    )
def f_X8_weather_19 : Nat → Nat → Nat → Int32 → Int32 → Int32 → zM → Option (Int32 × zM)
  | 0, _, _, _, _, _, _ => none
  | n + 1, k0, k1, i2, i3, i4, M =>
    if (M.1 (k0 + 2) 0) ≤ i4 then (
      z_l (z_w M k0 7 ((M.1 k0 7) + (1 : Int32))) fun M2 =>
      z_l (z_w M2 k0 9 (M2.1 (k0 + 2) 0)) fun M3 =>
      z_l (z_w M3 k0 10 (M3.1 k1 0)) fun M4 =>
      (f_X8_settle k0 M4).bind fun x5 =>
      f_X8_weather_123 z_F k0 i2 (0 : Int32) x5
    ) else (
      z_g (z_ix i4 10) <|
      z_l (z_ra ((k0 + 2) + 3) (Int32.toNatClampNeg i4)) fun v7 =>
      z_l (z_w M k0 8 ((M.1 k0 8) + (i3 * (M.1 v7 0)))) fun M8 =>
      if (M8.1 v7 4) = (-1 : Int32) then (
        (f_X2_carriedInAll v7 (M8.1 k1 0) M8).bind fun x11 =>
        (f_X8_store k0 x11.1 x11.2).bind fun x12 =>
        z_l (i4 + (1 : Int32)) fun v13 =>
        f_X8_weather_19 n k0 k1 i2 i3 v13 x12
      ) else (
        z_l (i4 + (1 : Int32)) fun v10 =>
        f_X8_weather_19 n k0 k1 i2 i3 v10 M8
      )
    )
def f_X8_weather (k0 : Nat) (k1 : Nat) (M : zM) : Option (Int32 × zM) :=
  (f_X5_pour (k0 + 2) k1 (10 : Int32) M).bind fun x1 =>
  (f_X7_fallInAll k1 x1.2).bind fun x2 =>
  f_X8_weather_19 z_F k0 k1 x1.1 x2.1 (0 : Int32) x2.2
set_option maxHeartbeats 4000000 in
set_option maxRecDepth 100000 in
theorem w_X8_weather_123 {G : zG} {p : Program} {l : Launch} {e : Env} {s : State} {m : MethodId} {args : Array Value} {below : List Frame} {meth : Method} {c : Code} (X : z_C G p s m args meth c cX8_weather 6 RX8 (some .int)) {r : Int32 × zM} : ∀ (n : Nat) (k0 : Nat) (i2 : Int32) (i4 : Int32) (M : zM) (H : Heap) (locs : List Loc) (ls : Array Slot), z_kd k0 = 8 → z_W G M H locs → lv_has ls 6 [(0, .ref (G.1 k0)), (2, .int i2), (4, .int i4)] → f_X8_weather_123 n k0 i2 i4 M = some r → W p l e (z_rm 5) s m args below meth c H locs 0 0 (z_Q G below args s (some (.int r.1)) r.2) (F0 m 123 ls []) := by
  have hx := X.1
  have hb := X.2.1
  intro n
  induction n with
  | zero =>
    intro k0 i2 i4 M H locs ls hk0 hw hl h
    exact z_no h
  | succ n ih =>
    intro k0 i2 i4 M H locs ls hk0 hw hl h
    rw [f_X8_weather_123] at h
    refine lv_iload (pc := 123) hx hb dX8_weather_123 (lv_at hl 2 rfl) ?_
    refine lv_aload_n (pc := 125) hx hb dX8_weather_125 rfl (lv_at hl 0 rfl) ?_
    refine zg_Street_roofs (pc := 126) X hw hk0 zw_fl_1_212 dX8_weather_126 ?_
    refine zg_Roofs_count (pc := 129) X hw (zk_Street_roofs hk0) zw_fl_1_139 dX8_weather_129 ?_
    refine lv_icmp_ge (pc := 132) (tgt := 154) hx hb dX8_weather_132 (by decide) (fun c1 => ?_) (fun c1 => ?_)
    · replace h := z_t c1 h
      refine lv_iload_n (pc := 154) hx hb dX8_weather_154 rfl (lv_at hl 1 rfl) ?_
      obtain rfl := Option.some.inj h
      exact z_ri (pc := 155) X hw dX8_weather_155
    · replace h := z_f c1 h
      refine lv_aload_n (pc := 135) hx hb dX8_weather_135 rfl (lv_at hl 0 rfl) ?_
      refine zg_Street_roofs (pc := 136) X hw hk0 zw_fl_1_212 dX8_weather_136 ?_
      refine zg_Roofs_houses (pc := 139) X hw (zk_Street_roofs hk0) zw_fl_1_148 dX8_weather_139 ?_
      refine lv_iload (pc := 142) hx hb dX8_weather_142 (lv_at hl 2 rfl) ?_
      obtain ⟨g2, h⟩ := z_gd h
      refine z_aald16 (pc := 144) X hw (zk_Roofs_houses (zk_Street_roofs hk0)) (zl_Roofs_houses (zk_Street_roofs hk0)) g2 dX8_weather_144 ?_
      obtain ⟨x3, ex3, h⟩ := z_bd h
      refine z_cvV (pc := 145) (rest := []) X hw (m_X2_closeStorm (zk_el16 (zk_Roofs_houses (zk_Street_roofs hk0)) g2) ex3) (z_lt (zk_el16 (zk_Roofs_houses (zk_Street_roofs hk0)) g2) (by decide)) (z_E2 (zk_el16 (zk_Roofs_houses (zk_Street_roofs hk0)) g2)) rfl zw_ml_4_91 zw_im_4_92 zw_se_4_93 zw_in_1_4 zw_co_4_94 zd_X2_closeStorm (by decide) rfl hl.1 rfl (Nat.le_of_ble_eq_true rfl) dX8_weather_145 ⟨Nat.zero_le _, Nat.zero_le _⟩ (fun Hx3 lx3 wx3 => ?_)
      obtain ⟨v4, ev4, h⟩ := z_lo h
      refine lv_iinc (pc := 148) (v := v4) (lv' := [(4, .int v4), (0, .ref (G.1 k0)), (2, .int i2)]) hx hb dX8_weather_148 hl (k := 2) rfl (by rw [ev4]; rfl) (by decide) rfl (fun ls hl => ?_)
      refine lv_goto (pc := 151) (tgt := 123) hx hb dX8_weather_151 (by decide) ?_
      exact ih k0 i2 v4 x3 Hx3 lx3 ls hk0 wx3 (lv_sub hl [1, 2, 0] rfl) h
set_option maxHeartbeats 4000000 in
set_option maxRecDepth 100000 in
theorem w_X8_weather_19 {G : zG} {p : Program} {l : Launch} {e : Env} {s : State} {m : MethodId} {args : Array Value} {below : List Frame} {meth : Method} {c : Code} (X : z_C G p s m args meth c cX8_weather 6 RX8 (some .int)) {r : Int32 × zM} : ∀ (n : Nat) (k0 : Nat) (k1 : Nat) (i2 : Int32) (i3 : Int32) (i4 : Int32) (M : zM) (H : Heap) (locs : List Loc) (ls : Array Slot), z_kd k0 = 8 → z_kd k1 = 7 → z_W G M H locs → lv_has ls 6 [(0, .ref (G.1 k0)), (1, .ref (G.1 k1)), (2, .int i2), (3, .int i3), (4, .int i4)] → f_X8_weather_19 n k0 k1 i2 i3 i4 M = some r → W p l e (z_rm 5) s m args below meth c H locs 0 0 (z_Q G below args s (some (.int r.1)) r.2) (F0 m 19 ls []) := by
  have hx := X.1
  have hb := X.2.1
  intro n
  induction n with
  | zero =>
    intro k0 k1 i2 i3 i4 M H locs ls hk0 hk1 hw hl h
    exact z_no h
  | succ n ih =>
    intro k0 k1 i2 i3 i4 M H locs ls hk0 hk1 hw hl h
    rw [f_X8_weather_19] at h
    refine lv_iload (pc := 19) hx hb dX8_weather_19 (lv_at hl 4 rfl) ?_
    refine lv_aload_n (pc := 21) hx hb dX8_weather_21 rfl (lv_at hl 0 rfl) ?_
    refine zg_Street_roofs (pc := 22) X hw hk0 zw_fl_1_212 dX8_weather_22 ?_
    refine zg_Roofs_count (pc := 25) X hw (zk_Street_roofs hk0) zw_fl_1_139 dX8_weather_25 ?_
    refine lv_icmp_ge (pc := 28) (tgt := 87) hx hb dX8_weather_28 (by decide) (fun c1 => ?_) (fun c1 => ?_)
    · replace h := z_t c1 h
      refine lv_aload_n (pc := 87) hx hb dX8_weather_87 rfl (lv_at hl 0 rfl) ?_
      refine lv_dup (pc := 88) hx hb dX8_weather_88 rfl ?_
      refine zg_Street_stormsCame (pc := 89) X hw hk0 zw_fl_1_229 dX8_weather_89 ?_
      refine lv_iconst (pc := 92) (v := 1) hx hb dX8_weather_92 (by decide) ?_
      refine lv_iadd (pc := 93) hx hb dX8_weather_93 ?_
      refine zp_Street_stormsCame (pc := 94) X hw hk0 zw_fl_1_229 dX8_weather_94 (fun HM2 lM2 wM2 => ?_)
      obtain ⟨M2, eM2, h⟩ := z_lo h
      rw [← eM2] at wM2
      refine lv_aload_n (pc := 97) hx hb dX8_weather_97 rfl (lv_at hl 0 rfl) ?_
      refine lv_aload_n (pc := 98) hx hb dX8_weather_98 rfl (lv_at hl 0 rfl) ?_
      refine zg_Street_roofs (pc := 99) X wM2 hk0 zw_fl_1_212 dX8_weather_99 ?_
      refine zg_Roofs_count (pc := 102) X wM2 (zk_Street_roofs hk0) zw_fl_1_139 dX8_weather_102 ?_
      refine zp_Street_latestHouses (pc := 105) X wM2 hk0 zw_fl_1_231 dX8_weather_105 (fun HM3 lM3 wM3 => ?_)
      obtain ⟨M3, eM3, h⟩ := z_lo h
      rw [← eM3] at wM3
      refine lv_aload_n (pc := 108) hx hb dX8_weather_108 rfl (lv_at hl 0 rfl) ?_
      refine lv_aload_n (pc := 109) hx hb dX8_weather_109 rfl (lv_at hl 1 rfl) ?_
      refine zg_Storm_hours (pc := 110) X wM3 hk1 zw_fl_1_194 dX8_weather_110 ?_
      refine zp_Street_latestHours (pc := 113) X wM3 hk0 zw_fl_1_233 dX8_weather_113 (fun HM4 lM4 wM4 => ?_)
      obtain ⟨M4, eM4, h⟩ := z_lo h
      rw [← eM4] at wM4
      refine lv_aload_n (pc := 116) hx hb dX8_weather_116 rfl (lv_at hl 0 rfl) ?_
      obtain ⟨x5, ex5, h⟩ := z_bd h
      refine z_cvV (pc := 117) (rest := []) X wM4 (m_X8_settle hk0 ex5) (z_lt hk0 (by decide)) (z_E8 hk0) rfl zw_ml_4_66 zw_im_4_68 zw_se_S_22 zw_in_1_2 zw_co_4_69 zd_X8_settle (by decide) rfl hl.1 rfl (Nat.le_of_ble_eq_true rfl) dX8_weather_117 ⟨Nat.zero_le _, Nat.zero_le _⟩ (fun Hx5 lx5 wx5 => ?_)
      refine lv_iconst (pc := 120) (v := 0) hx hb dX8_weather_120 (by decide) ?_
      refine lv_istore (pc := 121) (lv' := [(4, .int (0 : Int32)), (0, .ref (G.1 k0)), (1, .ref (G.1 k1)), (2, .int i2), (3, .int i3)]) hx hb dX8_weather_121 hl (by decide) rfl (fun ls hl => ?_)
      exact w_X8_weather_123 X z_F k0 i2 (0 : Int32) x5 Hx5 lx5 ls hk0 wx5 (lv_sub hl [1, 3, 0] rfl) h
    · replace h := z_f c1 h
      refine lv_aload_n (pc := 31) hx hb dX8_weather_31 rfl (lv_at hl 0 rfl) ?_
      refine zg_Street_roofs (pc := 32) X hw hk0 zw_fl_1_212 dX8_weather_32 ?_
      refine zg_Roofs_houses (pc := 35) X hw (zk_Street_roofs hk0) zw_fl_1_148 dX8_weather_35 ?_
      refine lv_iload (pc := 38) hx hb dX8_weather_38 (lv_at hl 4 rfl) ?_
      obtain ⟨g6, h⟩ := z_gd h
      refine z_aald16 (pc := 40) X hw (zk_Roofs_houses (zk_Street_roofs hk0)) (zl_Roofs_houses (zk_Street_roofs hk0)) g6 dX8_weather_40 ?_
      obtain ⟨v7, ev7, h⟩ := z_lo h
      refine z_topr ev7 ?_
      have hv7 : z_kd v7 = 2 := by rw [ev7]; exact (zk_el16 (zk_Roofs_houses (zk_Street_roofs hk0)) g6)
      refine lv_astore (pc := 41) (lv' := [(5, .ref (G.1 v7)), (0, .ref (G.1 k0)), (1, .ref (G.1 k1)), (2, .int i2), (3, .int i3), (4, .int i4)]) hx hb dX8_weather_41 hl (by decide) rfl (fun ls hl => ?_)
      refine lv_aload_n (pc := 43) hx hb dX8_weather_43 rfl (lv_at hl 1 rfl) ?_
      refine lv_dup (pc := 44) hx hb dX8_weather_44 rfl ?_
      refine zg_Street_fell (pc := 45) X hw hk0 zw_fl_1_230 dX8_weather_45 ?_
      refine lv_iload_n (pc := 48) hx hb dX8_weather_48 rfl (lv_at hl 4 rfl) ?_
      refine lv_aload (pc := 49) hx hb dX8_weather_49 (lv_at hl 0 rfl) ?_
      refine zg_House_area (pc := 51) X hw hv7 zw_fl_1_49 dX8_weather_51 ?_
      refine lv_imul (pc := 54) hx hb dX8_weather_54 ?_
      refine lv_iadd (pc := 55) hx hb dX8_weather_55 ?_
      refine zp_Street_fell (pc := 56) X hw hk0 zw_fl_1_230 dX8_weather_56 (fun HM8 lM8 wM8 => ?_)
      obtain ⟨M8, eM8, h⟩ := z_lo h
      rw [← eM8] at wM8
      refine lv_aload (pc := 59) hx hb dX8_weather_59 (lv_at hl 0 rfl) ?_
      refine zg_House_empties (pc := 61) X wM8 hv7 zw_fl_1_59 dX8_weather_61 ?_
      refine lv_iconst (pc := 64) (v := -1) hx hb dX8_weather_64 (by decide) ?_
      refine lv_icmp_ne (pc := 65) (tgt := 81) hx hb dX8_weather_65 (by decide) (fun c9 => ?_) (fun c9 => ?_)
      · replace h := z_f c9 h
        obtain ⟨v10, ev10, h⟩ := z_lo h
        refine lv_iinc (pc := 81) (v := v10) (lv' := [(4, .int v10), (5, .ref (G.1 v7)), (0, .ref (G.1 k0)), (1, .ref (G.1 k1)), (2, .int i2), (3, .int i3)]) hx hb dX8_weather_81 hl (k := 5) rfl (by rw [ev10]; rfl) (by decide) rfl (fun ls hl => ?_)
        refine lv_goto (pc := 84) (tgt := 19) hx hb dX8_weather_84 (by decide) ?_
        exact ih k0 k1 i2 i3 v10 M8 HM8 lM8 ls hk0 hk1 wM8 (lv_sub hl [2, 3, 4, 5, 0] rfl) h
      · replace h := z_t c9 h
        refine lv_aload_n (pc := 68) hx hb dX8_weather_68 rfl (lv_at hl 1 rfl) ?_
        refine lv_aload (pc := 69) hx hb dX8_weather_69 (lv_at hl 0 rfl) ?_
        refine lv_aload_n (pc := 71) hx hb dX8_weather_71 rfl (lv_at hl 2 rfl) ?_
        refine zg_Storm_hours (pc := 72) X wM8 hk1 zw_fl_1_194 dX8_weather_72 ?_
        obtain ⟨x11, ex11, h⟩ := z_bd h
        refine z_cvI (pc := 75) (rest := [.ref (G.1 k0)]) X wM8 (m_X2_carriedInAll hv7 ex11) (z_lt hv7 (by decide)) (z_E2 hv7) rfl zw_ml_4_56 zw_im_4_57 zw_se_4_58 zw_in_1_4 zw_co_4_59 zd_X2_carriedInAll (by decide) rfl hl.1 rfl (Nat.le_of_ble_eq_true rfl) dX8_weather_75 ⟨Nat.zero_le _, Nat.zero_le _⟩ (fun Hx11 lx11 wx11 => ?_)
        obtain ⟨x12, ex12, h⟩ := z_bd h
        refine z_cvV (pc := 78) (rest := []) X wx11 (m_X8_store hk0 ex12) (z_lt hk0 (by decide)) (z_E8 hk0) rfl zw_ml_4_60 zw_im_4_62 zw_se_S_21 zw_in_1_2 zw_co_4_63 zd_X8_store (by decide) rfl hl.1 rfl (Nat.le_of_ble_eq_true rfl) dX8_weather_78 ⟨Nat.zero_le _, Nat.zero_le _⟩ (fun Hx12 lx12 wx12 => ?_)
        obtain ⟨v13, ev13, h⟩ := z_lo h
        refine lv_iinc (pc := 81) (v := v13) (lv' := [(4, .int v13), (5, .ref (G.1 v7)), (0, .ref (G.1 k0)), (1, .ref (G.1 k1)), (2, .int i2), (3, .int i3)]) hx hb dX8_weather_81 hl (k := 5) rfl (by rw [ev13]; rfl) (by decide) rfl (fun ls hl => ?_)
        refine lv_goto (pc := 84) (tgt := 19) hx hb dX8_weather_84 (by decide) ?_
        exact ih k0 k1 i2 i3 v13 x12 Hx12 lx12 ls hk0 hk1 wx12 (lv_sub hl [2, 3, 4, 5, 0] rfl) h
set_option maxHeartbeats 4000000 in
set_option maxRecDepth 100000 in
theorem m_X8_weather {l : Launch} {G : zG} {k0 : Nat} {k1 : Nat} {M : zM} {r : Int32 × zM} (hk0 : z_kd k0 = 8) (hk1 : z_kd k1 = 7) (h : f_X8_weather k0 k1 M = some r) : z_T l G 5 yX8_weather (.code yX8_weather cX8_weather 6 (some .int)) [.ref (G.1 k0), .ref (G.1 k1)] M (some (.int r.1)) r.2 := by
  refine z_of rfl ?_
  intro p e s m below meth c X hw
  have hl := lv_entry [.ref (G.1 k0), .ref (G.1 k1)] (n := 6) (Nat.le_of_ble_eq_true rfl)
  rw [lg_entry_eq]
  generalize (lg_sl [.ref (G.1 k0), .ref (G.1 k1)] ++ List.replicate (6 - (lg_sl [.ref (G.1 k0), .ref (G.1 k1)]).length) Slot.unset).toArray = ls at hl ⊢
  have hl : lv_has ls 6 [(0, .ref (G.1 k0)), (1, .ref (G.1 k1))] := hl
  generalize ([.ref (G.1 k0), .ref (G.1 k1)] : List Value).toArray = args at X ⊢
  have X : z_C G p s m args meth c cX8_weather 6 RX8 (some .int) := X
  have hx := X.1
  have hb := X.2.1
  unfold f_X8_weather at h
  refine lv_aload_n (pc := 0) hx hb dX8_weather_0 rfl (lv_at hl 0 rfl) ?_
  refine zg_Street_roofs (pc := 1) X hw hk0 zw_fl_1_212 dX8_weather_1 ?_
  refine lv_aload_n (pc := 4) hx hb dX8_weather_4 rfl (lv_at hl 1 rfl) ?_
  refine lv_bipush (pc := 5) (v := 10) hx hb dX8_weather_5 (by decide) ?_
  obtain ⟨x1, ex1, h⟩ := z_bd h
  refine z_cvI (pc := 7) (rest := []) X hw (m_X5_pour (zk_Street_roofs hk0) hk1 ex1) (z_lt (zk_Street_roofs hk0) (by decide)) (z_E5 (zk_Street_roofs hk0)) rfl zw_ml_4_26 zw_im_4_27 zw_se_4_28 zw_in_1_3 zw_co_4_29 zd_X5_pour (by decide) rfl hl.1 rfl (Nat.le_of_ble_eq_true rfl) dX8_weather_7 ⟨Nat.zero_le _, Nat.zero_le _⟩ (fun Hx1 lx1 wx1 => ?_)
  refine lv_istore_n (pc := 10) (lv' := [(2, .int x1.1), (0, .ref (G.1 k0)), (1, .ref (G.1 k1))]) hx hb dX8_weather_10 rfl hl (by decide) rfl (fun ls hl => ?_)
  refine lv_aload_n (pc := 11) hx hb dX8_weather_11 rfl (lv_at hl 2 rfl) ?_
  obtain ⟨x2, ex2, h⟩ := z_bd h
  refine z_cvI (pc := 12) (rest := []) X wx1 (m_X7_fallInAll hk1 ex2) (z_lt hk1 (by decide)) (z_E7 hk1) rfl zw_ml_4_52 zw_im_4_53 zw_se_4_54 zw_in_1_6 zw_co_4_55 zd_X7_fallInAll (by decide) rfl hl.1 rfl (Nat.le_of_ble_eq_true rfl) dX8_weather_12 ⟨Nat.zero_le _, Nat.zero_le _⟩ (fun Hx2 lx2 wx2 => ?_)
  refine lv_istore_n (pc := 15) (lv' := [(3, .int x2.1), (2, .int x1.1), (0, .ref (G.1 k0)), (1, .ref (G.1 k1))]) hx hb dX8_weather_15 rfl hl (by decide) rfl (fun ls hl => ?_)
  refine lv_iconst (pc := 16) (v := 0) hx hb dX8_weather_16 (by decide) ?_
  refine lv_istore (pc := 17) (lv' := [(4, .int (0 : Int32)), (3, .int x2.1), (2, .int x1.1), (0, .ref (G.1 k0)), (1, .ref (G.1 k1))]) hx hb dX8_weather_17 hl (by decide) rfl (fun ls hl => ?_)
  exact w_X8_weather_19 X z_F k0 k1 x1.1 x2.1 (0 : Int32) x2.2 Hx2 lx2 ls hk0 hk1 wx2 (lv_sub hl [3, 4, 2, 1, 0] rfl) h
def f_X9_hasRoom (i1 : Int32) (M : zM) : Option (Int32 × zM) :=
  if (400 : Int32) < ((M.1 28 0) + i1) then (
    some ((0 : Int32), M)
  ) else (
    some ((1 : Int32), M)
  )
set_option maxHeartbeats 4000000 in
set_option maxRecDepth 100000 in
theorem m_X9_hasRoom {l : Launch} {G : zG} {i1 : Int32} {M : zM} {r : Int32 × zM} (h : f_X9_hasRoom i1 M = some r) : z_T l G 0 yX9_hasRoom (.code yX9_hasRoom cX9_hasRoom 2 (some .boolean)) [.ref (G.1 28), .int i1] M (some (.int r.1)) r.2 := by
  refine z_of rfl ?_
  intro p e s m below meth c X hw
  have hl := lv_entry [.ref (G.1 28), .int i1] (n := 2) (Nat.le_of_ble_eq_true rfl)
  rw [lg_entry_eq]
  generalize (lg_sl [.ref (G.1 28), .int i1] ++ List.replicate (2 - (lg_sl [.ref (G.1 28), .int i1]).length) Slot.unset).toArray = ls at hl ⊢
  have hl : lv_has ls 2 [(0, .ref (G.1 28)), (1, .int i1)] := hl
  generalize ([.ref (G.1 28), .int i1] : List Value).toArray = args at X ⊢
  have X : z_C G p s m args meth c cX9_hasRoom 2 RX9 (some .boolean) := X
  have hx := X.1
  have hb := X.2.1
  unfold f_X9_hasRoom at h
  refine lv_aload_n (pc := 0) hx hb dX9_hasRoom_0 rfl (lv_at hl 0 rfl) ?_
  refine zg_Tape_length (pc := 1) X hw zw_fl_2_29 dX9_hasRoom_1 ?_
  refine lv_iload_n (pc := 4) hx hb dX9_hasRoom_4 rfl (lv_at hl 1 rfl) ?_
  refine lv_iadd (pc := 5) hx hb dX9_hasRoom_5 ?_
  refine lv_sipush (pc := 6) (v := 400) hx hb dX9_hasRoom_6 (by decide) ?_
  refine lv_icmp_gt (pc := 9) (tgt := 16) hx hb dX9_hasRoom_9 (by decide) (fun c1 => ?_) (fun c1 => ?_)
  · replace h := z_t c1 h
    refine lv_iconst (pc := 16) (v := 0) hx hb dX9_hasRoom_16 (by decide) ?_
    obtain rfl := Option.some.inj h
    exact z_rz (pc := 17) X hw (z_nb (x := 0) (by decide)) dX9_hasRoom_17
  · replace h := z_f c1 h
    refine lv_iconst (pc := 12) (v := 1) hx hb dX9_hasRoom_12 (by decide) ?_
    refine lv_goto (pc := 13) (tgt := 17) hx hb dX9_hasRoom_13 (by decide) ?_
    obtain rfl := Option.some.inj h
    exact z_rz (pc := 17) X hw (z_nb (x := 1) (by decide)) dX9_hasRoom_17
def f_X9_add_3 : Nat → Int32 → Int32 → zM → Option (zM)
  | 0, _, _, _ => none
  | n + 1, i1, i2, M =>
    if i2 < 0 then (
      some M
    ) else (
      if (400 : Int32) ≤ (M.1 28 0) then (
        some M
      ) else (
        z_g (z_ix (M.1 28 0) 400) <|
        z_l (z_w M 29 (Int32.toNatClampNeg (M.1 28 0)) (vp_nar .byte (Int8.toInt32 (Int32.toInt8 (i1 >>> (i2 &&& 31)))))) fun M4 =>
        z_l (z_w M4 28 0 ((M4.1 28 0) + (1 : Int32))) fun M5 =>
        z_l (i2 + (-8 : Int32)) fun v6 =>
        f_X9_add_3 n i1 v6 M5
      )
    )
def f_X9_add (i1 : Int32) (M : zM) : Option (zM) :=
  f_X9_add_3 z_F i1 (24 : Int32) M
set_option maxHeartbeats 4000000 in
set_option maxRecDepth 100000 in
theorem w_X9_add_3 {G : zG} {p : Program} {l : Launch} {e : Env} {s : State} {m : MethodId} {args : Array Value} {below : List Frame} {meth : Method} {c : Code} (X : z_C G p s m args meth c cX9_add 3 RX9 none) {r : zM} : ∀ (n : Nat) (i1 : Int32) (i2 : Int32) (M : zM) (H : Heap) (locs : List Loc) (ls : Array Slot), z_W G M H locs → lv_has ls 3 [(0, .ref (G.1 28)), (1, .int i1), (2, .int i2)] → f_X9_add_3 n i1 i2 M = some r → W p l e (z_rm 0) s m args below meth c H locs 0 0 (z_Q G below args s none r) (F0 m 3 ls []) := by
  have hx := X.1
  have hb := X.2.1
  intro n
  induction n with
  | zero =>
    intro i1 i2 M H locs ls  hw hl h
    exact z_no h
  | succ n ih =>
    intro i1 i2 M H locs ls  hw hl h
    rw [f_X9_add_3] at h
    refine lv_iload_n (pc := 3) hx hb dX9_add_3 rfl (lv_at hl 2 rfl) ?_
    refine lv_if_lt (pc := 4) (tgt := 46) hx hb dX9_add_4 (by decide) (fun c1 => ?_) (fun c1 => ?_)
    · replace h := z_t c1 h
      obtain rfl := Option.some.inj h
      exact z_rv (pc := 46) X hw dX9_add_46
    · replace h := z_f c1 h
      refine lv_aload_n (pc := 7) hx hb dX9_add_7 rfl (lv_at hl 0 rfl) ?_
      refine zg_Tape_length (pc := 8) X hw zw_fl_2_29 dX9_add_8 ?_
      refine lv_sipush (pc := 11) (v := 400) hx hb dX9_add_11 (by decide) ?_
      refine lv_icmp_ge (pc := 14) (tgt := 46) hx hb dX9_add_14 (by decide) (fun c2 => ?_) (fun c2 => ?_)
      · replace h := z_t c2 h
        obtain rfl := Option.some.inj h
        exact z_rv (pc := 46) X hw dX9_add_46
      · replace h := z_f c2 h
        refine lv_aload_n (pc := 17) hx hb dX9_add_17 rfl (lv_at hl 0 rfl) ?_
        refine zg_Tape_bytes (pc := 18) X hw zw_fl_2_31 dX9_add_18 ?_
        refine lv_aload_n (pc := 21) hx hb dX9_add_21 rfl (lv_at hl 0 rfl) ?_
        refine zg_Tape_length (pc := 22) X hw zw_fl_2_29 dX9_add_22 ?_
        refine lv_iload_n (pc := 25) hx hb dX9_add_25 rfl (lv_at hl 1 rfl) ?_
        refine lv_iload_n (pc := 26) hx hb dX9_add_26 rfl (lv_at hl 2 rfl) ?_
        refine lv_ishr (pc := 27) hx hb dX9_add_27 ?_
        refine lv_i2b (pc := 28) hx hb dX9_add_28 rfl ?_
        obtain ⟨g3, h⟩ := z_gd h
        refine z_bast (pc := 29) X hw zk_29 zl_29 g3 dX9_add_29 (fun HM4 lM4 wM4 => ?_)
        obtain ⟨M4, eM4, h⟩ := z_lo h
        rw [← eM4] at wM4
        refine lv_aload_n (pc := 30) hx hb dX9_add_30 rfl (lv_at hl 0 rfl) ?_
        refine lv_dup (pc := 31) hx hb dX9_add_31 rfl ?_
        refine zg_Tape_length (pc := 32) X wM4 zw_fl_2_29 dX9_add_32 ?_
        refine lv_iconst (pc := 35) (v := 1) hx hb dX9_add_35 (by decide) ?_
        refine lv_iadd (pc := 36) hx hb dX9_add_36 ?_
        refine zp_Tape_length (pc := 37) X wM4 zw_fl_2_29 dX9_add_37 (fun HM5 lM5 wM5 => ?_)
        obtain ⟨M5, eM5, h⟩ := z_lo h
        rw [← eM5] at wM5
        obtain ⟨v6, ev6, h⟩ := z_lo h
        refine lv_iinc (pc := 40) (v := v6) (lv' := [(2, .int v6), (0, .ref (G.1 28)), (1, .int i1)]) hx hb dX9_add_40 hl (k := 2) rfl (by rw [ev6]; rfl) (by decide) rfl (fun ls hl => ?_)
        refine lv_goto (pc := 43) (tgt := 3) hx hb dX9_add_43 (by decide) ?_
        exact ih i1 v6 M5 HM5 lM5 ls  wM5 (lv_sub hl [1, 2, 0] rfl) h
set_option maxHeartbeats 4000000 in
set_option maxRecDepth 100000 in
theorem m_X9_add {l : Launch} {G : zG} {i1 : Int32} {M : zM} {r : zM} (h : f_X9_add i1 M = some r) : z_T l G 0 yX9_add (.code yX9_add cX9_add 3 none) [.ref (G.1 28), .int i1] M none r := by
  refine z_of rfl ?_
  intro p e s m below meth c X hw
  have hl := lv_entry [.ref (G.1 28), .int i1] (n := 3) (Nat.le_of_ble_eq_true rfl)
  rw [lg_entry_eq]
  generalize (lg_sl [.ref (G.1 28), .int i1] ++ List.replicate (3 - (lg_sl [.ref (G.1 28), .int i1]).length) Slot.unset).toArray = ls at hl ⊢
  have hl : lv_has ls 3 [(0, .ref (G.1 28)), (1, .int i1)] := hl
  generalize ([.ref (G.1 28), .int i1] : List Value).toArray = args at X ⊢
  have X : z_C G p s m args meth c cX9_add 3 RX9 none := X
  have hx := X.1
  have hb := X.2.1
  unfold f_X9_add at h
  refine lv_bipush (pc := 0) (v := 24) hx hb dX9_add_0 (by decide) ?_
  refine lv_istore_n (pc := 2) (lv' := [(2, .int (24 : Int32)), (0, .ref (G.1 28)), (1, .int i1)]) hx hb dX9_add_2 rfl hl (by decide) rfl (fun ls hl => ?_)
  exact w_X9_add_3 X z_F i1 (24 : Int32) M s.heap [] ls  hw (lv_sub hl [1, 2, 0] rfl) h
def f_X10_canStand (i0 : Int32) (i1 : Int32) (M : zM) : Option (Int32 × zM) :=
  (f_X10_within i0 (1 : Int32) (99 : Int32) M).bind fun x1 =>
  if x1.1 = 0 then (
    some ((0 : Int32), x1.2)
  ) else (
    (f_X10_within i1 (0 : Int32) (9999 : Int32) x1.2).bind fun x3 =>
    if x3.1 = 0 then (
      some ((0 : Int32), x3.2)
    ) else (
      some ((1 : Int32), x3.2)
    )
  )
set_option maxHeartbeats 4000000 in
set_option maxRecDepth 100000 in
theorem m_X10_canStand {l : Launch} {G : zG} {i0 : Int32} {i1 : Int32} {M : zM} {r : Int32 × zM} (h : f_X10_canStand i0 i1 M = some r) : z_T l G 1 yX10_canStand (.code yX10_canStand cX10_canStand 2 (some .boolean)) [.int i0, .int i1] M (some (.int r.1)) r.2 := by
  refine z_of rfl ?_
  intro p e s m below meth c X hw
  have hl := lv_entry [.int i0, .int i1] (n := 2) (Nat.le_of_ble_eq_true rfl)
  rw [lg_entry_eq]
  generalize (lg_sl [.int i0, .int i1] ++ List.replicate (2 - (lg_sl [.int i0, .int i1]).length) Slot.unset).toArray = ls at hl ⊢
  have hl : lv_has ls 2 [(0, .int i0), (1, .int i1)] := hl
  generalize ([.int i0, .int i1] : List Value).toArray = args at X ⊢
  have X : z_C G p s m args meth c cX10_canStand 2 RX10 (some .boolean) := X
  have hx := X.1
  have hb := X.2.1
  unfold f_X10_canStand at h
  refine lv_iload_n (pc := 0) hx hb dX10_canStand_0 rfl (lv_at hl 0 rfl) ?_
  refine lv_iconst (pc := 1) (v := 1) hx hb dX10_canStand_1 (by decide) ?_
  refine lv_bipush (pc := 2) (v := 99) hx hb dX10_canStand_2 (by decide) ?_
  obtain ⟨x1, ex1, h⟩ := z_bd h
  refine z_csI (pc := 4) (rest := []) X hw (m_X10_within  ex1) zw_ml_2_208 zw_st_2_209 zw_in_1_1 zw_co_2_210 zd_X10_within (by decide) rfl hl.1 rfl (Nat.le_of_ble_eq_true rfl) dX10_canStand_4 ⟨Nat.zero_le _, Nat.zero_le _⟩ (fun Hx1 lx1 wx1 => ?_)
  refine lv_if_eq (pc := 7) (tgt := 25) hx hb dX10_canStand_7 (by decide) (fun c2 => ?_) (fun c2 => ?_)
  · replace h := z_t c2 h
    refine lv_iconst (pc := 25) (v := 0) hx hb dX10_canStand_25 (by decide) ?_
    obtain rfl := Option.some.inj h
    exact z_rz (pc := 26) X wx1 (z_nb (x := 0) (by decide)) dX10_canStand_26
  · replace h := z_f c2 h
    refine lv_iload_n (pc := 10) hx hb dX10_canStand_10 rfl (lv_at hl 1 rfl) ?_
    refine lv_iconst (pc := 11) (v := 0) hx hb dX10_canStand_11 (by decide) ?_
    refine lv_sipush (pc := 12) (v := 9999) hx hb dX10_canStand_12 (by decide) ?_
    obtain ⟨x3, ex3, h⟩ := z_bd h
    refine z_csI (pc := 15) (rest := []) X wx1 (m_X10_within  ex3) zw_ml_2_208 zw_st_2_209 zw_in_1_1 zw_co_2_210 zd_X10_within (by decide) rfl hl.1 rfl (Nat.le_of_ble_eq_true rfl) dX10_canStand_15 ⟨Nat.zero_le _, Nat.zero_le _⟩ (fun Hx3 lx3 wx3 => ?_)
    refine lv_if_eq (pc := 18) (tgt := 25) hx hb dX10_canStand_18 (by decide) (fun c4 => ?_) (fun c4 => ?_)
    · replace h := z_t c4 h
      refine lv_iconst (pc := 25) (v := 0) hx hb dX10_canStand_25 (by decide) ?_
      obtain rfl := Option.some.inj h
      exact z_rz (pc := 26) X wx3 (z_nb (x := 0) (by decide)) dX10_canStand_26
    · replace h := z_f c4 h
      refine lv_iconst (pc := 21) (v := 1) hx hb dX10_canStand_21 (by decide) ?_
      refine lv_goto (pc := 22) (tgt := 26) hx hb dX10_canStand_22 (by decide) ?_
      obtain rfl := Option.some.inj h
      exact z_rz (pc := 26) X wx3 (z_nb (x := 1) (by decide)) dX10_canStand_26
def f_X10_house (i1 : Int32) (i2 : Int32) (i3 : Int32) (i4 : Int32) (M : zM) : Option (Int32 × zM) :=
  if (10 : Int32) ≤ (M.1 3 0) then (
    some ((-1 : Int32), M)
  ) else (
    (f_X10_canStand i1 i2 M).bind fun x2 =>
    if x2.1 = 0 then (
      some ((-1 : Int32), x2.2)
    ) else (
      (f_X10_within i3 (0 : Int32) (10 : Int32) x2.2).bind fun x4 =>
      if x4.1 = 0 then (
        some ((-1 : Int32), x4.2)
      ) else (
        (f_X10_within i4 (0 : Int32) (99 : Int32) x4.2).bind fun x6 =>
        if x6.1 = 0 then (
          some ((-1 : Int32), x6.2)
        ) else (
          z_l (x6.2.1 3 0) fun v8 =>
          z_g (z_ix v8 10) <|
          (f_X2_build (z_ra 6 (Int32.toNatClampNeg v8)) i1 i2 i3 i4 x6.2).bind fun x10 =>
          z_l (z_w x10 3 0 (v8 + (1 : Int32))) fun M11 =>
          some (v8, M11)
        )
      )
    )
  )
set_option maxHeartbeats 4000000 in
set_option maxRecDepth 100000 in
theorem m_X10_house {l : Launch} {G : zG} {i1 : Int32} {i2 : Int32} {i3 : Int32} {i4 : Int32} {M : zM} {r : Int32 × zM} (h : f_X10_house i1 i2 i3 i4 M = some r) : z_T l G 2 yX10_house (.code yX10_house cX10_house 6 (some .int)) [.ref (G.1 0), .int i1, .int i2, .int i3, .int i4] M (some (.int r.1)) r.2 := by
  refine z_of rfl ?_
  intro p e s m below meth c X hw
  have hl := lv_entry [.ref (G.1 0), .int i1, .int i2, .int i3, .int i4] (n := 6) (Nat.le_of_ble_eq_true rfl)
  rw [lg_entry_eq]
  generalize (lg_sl [.ref (G.1 0), .int i1, .int i2, .int i3, .int i4] ++ List.replicate (6 - (lg_sl [.ref (G.1 0), .int i1, .int i2, .int i3, .int i4]).length) Slot.unset).toArray = ls at hl ⊢
  have hl : lv_has ls 6 [(0, .ref (G.1 0)), (1, .int i1), (2, .int i2), (3, .int i3), (4, .int i4)] := hl
  generalize ([.ref (G.1 0), .int i1, .int i2, .int i3, .int i4] : List Value).toArray = args at X ⊢
  have X : z_C G p s m args meth c cX10_house 6 RX10 (some .int) := X
  have hx := X.1
  have hb := X.2.1
  unfold f_X10_house at h
  refine lv_aload_n (pc := 0) hx hb dX10_house_0 rfl (lv_at hl 0 rfl) ?_
  refine zg_DrinkingRoofs_now (pc := 1) X hw zw_fl_2_173 dX10_house_1 ?_
  refine zg_Street_roofs (pc := 4) X hw zk_1 zw_fl_1_214 dX10_house_4 ?_
  refine zg_Roofs_count (pc := 7) X hw zk_3 zw_fl_1_136 dX10_house_7 ?_
  refine lv_bipush (pc := 10) (v := 10) hx hb dX10_house_10 (by decide) ?_
  refine lv_icmp_ge (pc := 12) (tgt := 44) hx hb dX10_house_12 (by decide) (fun c1 => ?_) (fun c1 => ?_)
  · replace h := z_t c1 h
    refine lv_iconst (pc := 44) (v := -1) hx hb dX10_house_44 (by decide) ?_
    obtain rfl := Option.some.inj h
    exact z_ri (pc := 45) X hw dX10_house_45
  · replace h := z_f c1 h
    refine lv_iload_n (pc := 15) hx hb dX10_house_15 rfl (lv_at hl 1 rfl) ?_
    refine lv_iload_n (pc := 16) hx hb dX10_house_16 rfl (lv_at hl 2 rfl) ?_
    obtain ⟨x2, ex2, h⟩ := z_bd h
    refine z_csI (pc := 17) (rest := []) X hw (m_X10_canStand  ex2) zw_ml_2_205 zw_st_2_206 zw_in_1_1 zw_co_2_207 zd_X10_canStand (by decide) rfl hl.1 rfl (Nat.le_of_ble_eq_true rfl) dX10_house_17 ⟨Nat.zero_le _, Nat.zero_le _⟩ (fun Hx2 lx2 wx2 => ?_)
    refine lv_if_eq (pc := 20) (tgt := 44) hx hb dX10_house_20 (by decide) (fun c3 => ?_) (fun c3 => ?_)
    · replace h := z_t c3 h
      refine lv_iconst (pc := 44) (v := -1) hx hb dX10_house_44 (by decide) ?_
      obtain rfl := Option.some.inj h
      exact z_ri (pc := 45) X wx2 dX10_house_45
    · replace h := z_f c3 h
      refine lv_iload_n (pc := 23) hx hb dX10_house_23 rfl (lv_at hl 3 rfl) ?_
      refine lv_iconst (pc := 24) (v := 0) hx hb dX10_house_24 (by decide) ?_
      refine lv_bipush (pc := 25) (v := 10) hx hb dX10_house_25 (by decide) ?_
      obtain ⟨x4, ex4, h⟩ := z_bd h
      refine z_csI (pc := 27) (rest := []) X wx2 (m_X10_within  ex4) zw_ml_2_208 zw_st_2_209 zw_in_1_1 zw_co_2_210 zd_X10_within (by decide) rfl hl.1 rfl (Nat.le_of_ble_eq_true rfl) dX10_house_27 ⟨Nat.zero_le _, Nat.zero_le _⟩ (fun Hx4 lx4 wx4 => ?_)
      refine lv_if_eq (pc := 30) (tgt := 44) hx hb dX10_house_30 (by decide) (fun c5 => ?_) (fun c5 => ?_)
      · replace h := z_t c5 h
        refine lv_iconst (pc := 44) (v := -1) hx hb dX10_house_44 (by decide) ?_
        obtain rfl := Option.some.inj h
        exact z_ri (pc := 45) X wx4 dX10_house_45
      · replace h := z_f c5 h
        refine lv_iload (pc := 33) hx hb dX10_house_33 (lv_at hl 4 rfl) ?_
        refine lv_iconst (pc := 35) (v := 0) hx hb dX10_house_35 (by decide) ?_
        refine lv_bipush (pc := 36) (v := 99) hx hb dX10_house_36 (by decide) ?_
        obtain ⟨x6, ex6, h⟩ := z_bd h
        refine z_csI (pc := 38) (rest := []) X wx4 (m_X10_within  ex6) zw_ml_2_208 zw_st_2_209 zw_in_1_1 zw_co_2_210 zd_X10_within (by decide) rfl hl.1 rfl (Nat.le_of_ble_eq_true rfl) dX10_house_38 ⟨Nat.zero_le _, Nat.zero_le _⟩ (fun Hx6 lx6 wx6 => ?_)
        refine lv_if_ne (pc := 41) (tgt := 46) hx hb dX10_house_41 (by decide) (fun c7 => ?_) (fun c7 => ?_)
        · replace h := z_f c7 h
          refine lv_aload_n (pc := 46) hx hb dX10_house_46 rfl (lv_at hl 0 rfl) ?_
          refine zg_DrinkingRoofs_now (pc := 47) X wx6 zw_fl_2_173 dX10_house_47 ?_
          refine zg_Street_roofs (pc := 50) X wx6 zk_1 zw_fl_1_214 dX10_house_50 ?_
          refine zg_Roofs_count (pc := 53) X wx6 zk_3 zw_fl_1_136 dX10_house_53 ?_
          obtain ⟨v8, ev8, h⟩ := z_lo h
          refine z_topi ev8 ?_
          refine lv_istore (pc := 56) (lv' := [(5, .int v8), (0, .ref (G.1 0)), (1, .int i1), (2, .int i2), (3, .int i3), (4, .int i4)]) hx hb dX10_house_56 hl (by decide) rfl (fun ls hl => ?_)
          refine lv_aload_n (pc := 58) hx hb dX10_house_58 rfl (lv_at hl 1 rfl) ?_
          refine zg_DrinkingRoofs_now (pc := 59) X wx6 zw_fl_2_173 dX10_house_59 ?_
          refine zg_Street_roofs (pc := 62) X wx6 zk_1 zw_fl_1_214 dX10_house_62 ?_
          refine zg_Roofs_houses (pc := 65) X wx6 zk_3 zw_fl_1_146 dX10_house_65 ?_
          refine lv_iload (pc := 68) hx hb dX10_house_68 (lv_at hl 0 rfl) ?_
          obtain ⟨g9, h⟩ := z_gd h
          refine z_aald16 (pc := 70) X wx6 zk_6 zl_6 g9 dX10_house_70 ?_
          refine lv_iload_n (pc := 71) hx hb dX10_house_71 rfl (lv_at hl 2 rfl) ?_
          refine lv_iload_n (pc := 72) hx hb dX10_house_72 rfl (lv_at hl 3 rfl) ?_
          refine lv_iload_n (pc := 73) hx hb dX10_house_73 rfl (lv_at hl 4 rfl) ?_
          refine lv_iload (pc := 74) hx hb dX10_house_74 (lv_at hl 5 rfl) ?_
          obtain ⟨x10, ex10, h⟩ := z_bd h
          refine z_cvV (pc := 76) (rest := []) X wx6 (m_X2_build (zk_el16 zk_6 g9) ex10) (z_lt (zk_el16 zk_6 g9) (by decide)) (z_E2 (zk_el16 zk_6 g9)) rfl zw_ml_2_211 zw_im_2_212 zw_se_2_213 zw_in_1_4 zw_co_2_214 zd_X2_build (by decide) rfl hl.1 rfl (Nat.le_of_ble_eq_true rfl) dX10_house_76 ⟨Nat.zero_le _, Nat.zero_le _⟩ (fun Hx10 lx10 wx10 => ?_)
          refine lv_aload_n (pc := 79) hx hb dX10_house_79 rfl (lv_at hl 1 rfl) ?_
          refine zg_DrinkingRoofs_now (pc := 80) X wx10 zw_fl_2_173 dX10_house_80 ?_
          refine zg_Street_roofs (pc := 83) X wx10 zk_1 zw_fl_1_214 dX10_house_83 ?_
          refine lv_iload (pc := 86) hx hb dX10_house_86 (lv_at hl 0 rfl) ?_
          refine lv_iconst (pc := 88) (v := 1) hx hb dX10_house_88 (by decide) ?_
          refine lv_iadd (pc := 89) hx hb dX10_house_89 ?_
          refine zp_Roofs_count (pc := 90) X wx10 zk_3 zw_fl_1_136 dX10_house_90 (fun HM11 lM11 wM11 => ?_)
          obtain ⟨M11, eM11, h⟩ := z_lo h
          rw [← eM11] at wM11
          refine lv_iload (pc := 93) hx hb dX10_house_93 (lv_at hl 0 rfl) ?_
          obtain rfl := Option.some.inj h
          exact z_ri (pc := 95) X wM11 dX10_house_95
        · replace h := z_t c7 h
          refine lv_iconst (pc := 44) (v := -1) hx hb dX10_house_44 (by decide) ?_
          obtain rfl := Option.some.inj h
          exact z_ri (pc := 45) X wx6 dX10_house_45
def f_X10_isHouse (i1 : Int32) (M : zM) : Option (Int32 × zM) :=
  (f_X10_within i1 (0 : Int32) ((M.1 3 0) - (1 : Int32)) M).bind fun x1 =>
  z_g (vp_nar .boolean x1.1 = x1.1) <|
  some (x1.1, x1.2)
set_option maxHeartbeats 4000000 in
set_option maxRecDepth 100000 in
theorem m_X10_isHouse {l : Launch} {G : zG} {i1 : Int32} {M : zM} {r : Int32 × zM} (h : f_X10_isHouse i1 M = some r) : z_T l G 1 yX10_isHouse (.code yX10_isHouse cX10_isHouse 2 (some .boolean)) [.ref (G.1 0), .int i1] M (some (.int r.1)) r.2 := by
  refine z_of rfl ?_
  intro p e s m below meth c X hw
  have hl := lv_entry [.ref (G.1 0), .int i1] (n := 2) (Nat.le_of_ble_eq_true rfl)
  rw [lg_entry_eq]
  generalize (lg_sl [.ref (G.1 0), .int i1] ++ List.replicate (2 - (lg_sl [.ref (G.1 0), .int i1]).length) Slot.unset).toArray = ls at hl ⊢
  have hl : lv_has ls 2 [(0, .ref (G.1 0)), (1, .int i1)] := hl
  generalize ([.ref (G.1 0), .int i1] : List Value).toArray = args at X ⊢
  have X : z_C G p s m args meth c cX10_isHouse 2 RX10 (some .boolean) := X
  have hx := X.1
  have hb := X.2.1
  unfold f_X10_isHouse at h
  refine lv_iload_n (pc := 0) hx hb dX10_isHouse_0 rfl (lv_at hl 1 rfl) ?_
  refine lv_iconst (pc := 1) (v := 0) hx hb dX10_isHouse_1 (by decide) ?_
  refine lv_aload_n (pc := 2) hx hb dX10_isHouse_2 rfl (lv_at hl 0 rfl) ?_
  refine zg_DrinkingRoofs_now (pc := 3) X hw zw_fl_2_173 dX10_isHouse_3 ?_
  refine zg_Street_roofs (pc := 6) X hw zk_1 zw_fl_1_214 dX10_isHouse_6 ?_
  refine zg_Roofs_count (pc := 9) X hw zk_3 zw_fl_1_136 dX10_isHouse_9 ?_
  refine lv_iconst (pc := 12) (v := 1) hx hb dX10_isHouse_12 (by decide) ?_
  refine lv_isub (pc := 13) hx hb dX10_isHouse_13 ?_
  obtain ⟨x1, ex1, h⟩ := z_bd h
  refine z_csI (pc := 14) (rest := []) X hw (m_X10_within  ex1) zw_ml_2_208 zw_st_2_209 zw_in_1_1 zw_co_2_210 zd_X10_within (by decide) rfl hl.1 rfl (Nat.le_of_ble_eq_true rfl) dX10_isHouse_14 ⟨Nat.zero_le _, Nat.zero_le _⟩ (fun Hx1 lx1 wx1 => ?_)
  obtain ⟨g2, h⟩ := z_gd h
  obtain rfl := Option.some.inj h
  exact z_rz (pc := 17) X wx1 (z_nb g2) dX10_isHouse_17
def f_X10_next (i1 : Int32) (i2 : Int32) (M : zM) : Option (Int32 × zM) :=
  (f_X10_isHouse i1 M).bind fun x1 =>
  if x1.1 = 0 then (
    some ((0 : Int32), x1.2)
  ) else (
    if i2 = (-1 : Int32) then (
      z_g (z_ix i1 10) <|
      z_l (z_w x1.2 (z_ra 6 (Int32.toNatClampNeg i1)) 4 i2) fun M5 =>
      some ((1 : Int32), M5)
    ) else (
      if i2 ≤ i1 then (
        some ((0 : Int32), x1.2)
      ) else (
        (f_X10_isHouse i2 x1.2).bind fun x7 =>
        if x7.1 = 0 then (
          some ((0 : Int32), x7.2)
        ) else (
          z_g (z_ix i1 10) <|
          z_l (z_w x7.2 (z_ra 6 (Int32.toNatClampNeg i1)) 4 i2) fun M10 =>
          some ((1 : Int32), M10)
        )
      )
    )
  )
set_option maxHeartbeats 4000000 in
set_option maxRecDepth 100000 in
theorem m_X10_next {l : Launch} {G : zG} {i1 : Int32} {i2 : Int32} {M : zM} {r : Int32 × zM} (h : f_X10_next i1 i2 M = some r) : z_T l G 2 yX10_next (.code yX10_next cX10_next 3 (some .boolean)) [.ref (G.1 0), .int i1, .int i2] M (some (.int r.1)) r.2 := by
  refine z_of rfl ?_
  intro p e s m below meth c X hw
  have hl := lv_entry [.ref (G.1 0), .int i1, .int i2] (n := 3) (Nat.le_of_ble_eq_true rfl)
  rw [lg_entry_eq]
  generalize (lg_sl [.ref (G.1 0), .int i1, .int i2] ++ List.replicate (3 - (lg_sl [.ref (G.1 0), .int i1, .int i2]).length) Slot.unset).toArray = ls at hl ⊢
  have hl : lv_has ls 3 [(0, .ref (G.1 0)), (1, .int i1), (2, .int i2)] := hl
  generalize ([.ref (G.1 0), .int i1, .int i2] : List Value).toArray = args at X ⊢
  have X : z_C G p s m args meth c cX10_next 3 RX10 (some .boolean) := X
  have hx := X.1
  have hb := X.2.1
  unfold f_X10_next at h
  refine lv_aload_n (pc := 0) hx hb dX10_next_0 rfl (lv_at hl 0 rfl) ?_
  refine lv_iload_n (pc := 1) hx hb dX10_next_1 rfl (lv_at hl 1 rfl) ?_
  obtain ⟨x1, ex1, h⟩ := z_bd h
  refine z_cvI (pc := 2) (rest := []) X hw (m_X10_isHouse  ex1) (z_lt zk_0 (by decide)) (z_E10 zk_0) rfl zw_ml_2_219 zw_im_2_221 zw_se_S_0 zw_in_1_1 zw_co_2_222 zd_X10_isHouse (by decide) rfl hl.1 rfl (Nat.le_of_ble_eq_true rfl) dX10_next_2 ⟨Nat.zero_le _, Nat.zero_le _⟩ (fun Hx1 lx1 wx1 => ?_)
  refine lv_if_eq (pc := 5) (tgt := 26) hx hb dX10_next_5 (by decide) (fun c2 => ?_) (fun c2 => ?_)
  · replace h := z_t c2 h
    refine lv_iconst (pc := 26) (v := 0) hx hb dX10_next_26 (by decide) ?_
    obtain rfl := Option.some.inj h
    exact z_rz (pc := 27) X wx1 (z_nb (x := 0) (by decide)) dX10_next_27
  · replace h := z_f c2 h
    refine lv_iload_n (pc := 8) hx hb dX10_next_8 rfl (lv_at hl 2 rfl) ?_
    refine lv_iconst (pc := 9) (v := -1) hx hb dX10_next_9 (by decide) ?_
    refine lv_icmp_eq (pc := 10) (tgt := 28) hx hb dX10_next_10 (by decide) (fun c3 => ?_) (fun c3 => ?_)
    · replace h := z_t c3 h
      refine lv_aload_n (pc := 28) hx hb dX10_next_28 rfl (lv_at hl 0 rfl) ?_
      refine zg_DrinkingRoofs_now (pc := 29) X wx1 zw_fl_2_173 dX10_next_29 ?_
      refine zg_Street_roofs (pc := 32) X wx1 zk_1 zw_fl_1_214 dX10_next_32 ?_
      refine zg_Roofs_houses (pc := 35) X wx1 zk_3 zw_fl_1_146 dX10_next_35 ?_
      refine lv_iload_n (pc := 38) hx hb dX10_next_38 rfl (lv_at hl 1 rfl) ?_
      obtain ⟨g4, h⟩ := z_gd h
      refine z_aald16 (pc := 39) X wx1 zk_6 zl_6 g4 dX10_next_39 ?_
      refine lv_iload_n (pc := 40) hx hb dX10_next_40 rfl (lv_at hl 2 rfl) ?_
      refine zp_House_empties (pc := 41) X wx1 (zk_el16 zk_6 g4) zw_fl_1_58 dX10_next_41 (fun HM5 lM5 wM5 => ?_)
      obtain ⟨M5, eM5, h⟩ := z_lo h
      rw [← eM5] at wM5
      refine lv_iconst (pc := 44) (v := 1) hx hb dX10_next_44 (by decide) ?_
      obtain rfl := Option.some.inj h
      exact z_rz (pc := 45) X wM5 (z_nb (x := 1) (by decide)) dX10_next_45
    · replace h := z_f c3 h
      refine lv_iload_n (pc := 13) hx hb dX10_next_13 rfl (lv_at hl 2 rfl) ?_
      refine lv_iload_n (pc := 14) hx hb dX10_next_14 rfl (lv_at hl 1 rfl) ?_
      refine lv_icmp_le (pc := 15) (tgt := 26) hx hb dX10_next_15 (by decide) (fun c6 => ?_) (fun c6 => ?_)
      · replace h := z_t c6 h
        refine lv_iconst (pc := 26) (v := 0) hx hb dX10_next_26 (by decide) ?_
        obtain rfl := Option.some.inj h
        exact z_rz (pc := 27) X wx1 (z_nb (x := 0) (by decide)) dX10_next_27
      · replace h := z_f c6 h
        refine lv_aload_n (pc := 18) hx hb dX10_next_18 rfl (lv_at hl 0 rfl) ?_
        refine lv_iload_n (pc := 19) hx hb dX10_next_19 rfl (lv_at hl 2 rfl) ?_
        obtain ⟨x7, ex7, h⟩ := z_bd h
        refine z_cvI (pc := 20) (rest := []) X wx1 (m_X10_isHouse  ex7) (z_lt zk_0 (by decide)) (z_E10 zk_0) rfl zw_ml_2_219 zw_im_2_221 zw_se_S_0 zw_in_1_1 zw_co_2_222 zd_X10_isHouse (by decide) rfl hl.1 rfl (Nat.le_of_ble_eq_true rfl) dX10_next_20 ⟨Nat.zero_le _, Nat.zero_le _⟩ (fun Hx7 lx7 wx7 => ?_)
        refine lv_if_ne (pc := 23) (tgt := 28) hx hb dX10_next_23 (by decide) (fun c8 => ?_) (fun c8 => ?_)
        · replace h := z_f c8 h
          refine lv_aload_n (pc := 28) hx hb dX10_next_28 rfl (lv_at hl 0 rfl) ?_
          refine zg_DrinkingRoofs_now (pc := 29) X wx7 zw_fl_2_173 dX10_next_29 ?_
          refine zg_Street_roofs (pc := 32) X wx7 zk_1 zw_fl_1_214 dX10_next_32 ?_
          refine zg_Roofs_houses (pc := 35) X wx7 zk_3 zw_fl_1_146 dX10_next_35 ?_
          refine lv_iload_n (pc := 38) hx hb dX10_next_38 rfl (lv_at hl 1 rfl) ?_
          obtain ⟨g9, h⟩ := z_gd h
          refine z_aald16 (pc := 39) X wx7 zk_6 zl_6 g9 dX10_next_39 ?_
          refine lv_iload_n (pc := 40) hx hb dX10_next_40 rfl (lv_at hl 2 rfl) ?_
          refine zp_House_empties (pc := 41) X wx7 (zk_el16 zk_6 g9) zw_fl_1_58 dX10_next_41 (fun HM10 lM10 wM10 => ?_)
          obtain ⟨M10, eM10, h⟩ := z_lo h
          rw [← eM10] at wM10
          refine lv_iconst (pc := 44) (v := 1) hx hb dX10_next_44 (by decide) ?_
          obtain rfl := Option.some.inj h
          exact z_rz (pc := 45) X wM10 (z_nb (x := 1) (by decide)) dX10_next_45
        · replace h := z_t c8 h
          refine lv_iconst (pc := 26) (v := 0) hx hb dX10_next_26 (by decide) ?_
          obtain rfl := Option.some.inj h
          exact z_rz (pc := 27) X wx7 (z_nb (x := 0) (by decide)) dX10_next_27
def f_X10_tellSize (i1 : Int32) (M : zM) : Option (Int32 × zM) :=
  (f_X10_within i1 (0 : Int32) (999999 : Int32) M).bind fun x1 =>
  if x1.1 = 0 then (
    some ((0 : Int32), x1.2)
  ) else (
    z_l (z_w x1.2 1 4 i1) fun M3 =>
    some ((1 : Int32), M3)
  )
set_option maxHeartbeats 4000000 in
set_option maxRecDepth 100000 in
theorem m_X10_tellSize {l : Launch} {G : zG} {i1 : Int32} {M : zM} {r : Int32 × zM} (h : f_X10_tellSize i1 M = some r) : z_T l G 1 yX10_tellSize (.code yX10_tellSize cX10_tellSize 2 (some .boolean)) [.ref (G.1 0), .int i1] M (some (.int r.1)) r.2 := by
  refine z_of rfl ?_
  intro p e s m below meth c X hw
  have hl := lv_entry [.ref (G.1 0), .int i1] (n := 2) (Nat.le_of_ble_eq_true rfl)
  rw [lg_entry_eq]
  generalize (lg_sl [.ref (G.1 0), .int i1] ++ List.replicate (2 - (lg_sl [.ref (G.1 0), .int i1]).length) Slot.unset).toArray = ls at hl ⊢
  have hl : lv_has ls 2 [(0, .ref (G.1 0)), (1, .int i1)] := hl
  generalize ([.ref (G.1 0), .int i1] : List Value).toArray = args at X ⊢
  have X : z_C G p s m args meth c cX10_tellSize 2 RX10 (some .boolean) := X
  have hx := X.1
  have hb := X.2.1
  unfold f_X10_tellSize at h
  refine lv_iload_n (pc := 0) hx hb dX10_tellSize_0 rfl (lv_at hl 1 rfl) ?_
  refine lv_iconst (pc := 1) (v := 0) hx hb dX10_tellSize_1 (by decide) ?_
  refine lv_ldcw (pc := 2) (v := 999999) hx hb X.2.2.2.1 (X.2.2.2.2.1 _ zw_cn_2_231) dX10_tellSize_2 ?_
  obtain ⟨x1, ex1, h⟩ := z_bd h
  refine z_csI (pc := 5) (rest := []) X hw (m_X10_within  ex1) zw_ml_2_208 zw_st_2_209 zw_in_1_1 zw_co_2_210 zd_X10_within (by decide) rfl hl.1 rfl (Nat.le_of_ble_eq_true rfl) dX10_tellSize_5 ⟨Nat.zero_le _, Nat.zero_le _⟩ (fun Hx1 lx1 wx1 => ?_)
  refine lv_if_ne (pc := 8) (tgt := 13) hx hb dX10_tellSize_8 (by decide) (fun c2 => ?_) (fun c2 => ?_)
  · replace h := z_f c2 h
    refine lv_aload_n (pc := 13) hx hb dX10_tellSize_13 rfl (lv_at hl 0 rfl) ?_
    refine zg_DrinkingRoofs_now (pc := 14) X wx1 zw_fl_2_173 dX10_tellSize_14 ?_
    refine lv_iload_n (pc := 17) hx hb dX10_tellSize_17 rfl (lv_at hl 1 rfl) ?_
    refine zp_Street_size (pc := 18) X wx1 zk_1 zw_fl_1_226 dX10_tellSize_18 (fun HM3 lM3 wM3 => ?_)
    obtain ⟨M3, eM3, h⟩ := z_lo h
    rw [← eM3] at wM3
    refine lv_iconst (pc := 21) (v := 1) hx hb dX10_tellSize_21 (by decide) ?_
    obtain rfl := Option.some.inj h
    exact z_rz (pc := 22) X wM3 (z_nb (x := 1) (by decide)) dX10_tellSize_22
  · replace h := z_t c2 h
    refine lv_iconst (pc := 11) (v := 0) hx hb dX10_tellSize_11 (by decide) ?_
    obtain rfl := Option.some.inj h
    exact z_rz (pc := 12) X wx1 (z_nb (x := 0) (by decide)) dX10_tellSize_12
def f_X10_tellThaw (i1 : Int32) (M : zM) : Option (Int32 × zM) :=
  (f_X10_within i1 (0 : Int32) (9 : Int32) M).bind fun x1 =>
  if x1.1 = 0 then (
    some ((0 : Int32), x1.2)
  ) else (
    z_l (z_w x1.2 3 1 i1) fun M3 =>
    some ((1 : Int32), M3)
  )
set_option maxHeartbeats 4000000 in
set_option maxRecDepth 100000 in
theorem m_X10_tellThaw {l : Launch} {G : zG} {i1 : Int32} {M : zM} {r : Int32 × zM} (h : f_X10_tellThaw i1 M = some r) : z_T l G 1 yX10_tellThaw (.code yX10_tellThaw cX10_tellThaw 2 (some .boolean)) [.ref (G.1 0), .int i1] M (some (.int r.1)) r.2 := by
  refine z_of rfl ?_
  intro p e s m below meth c X hw
  have hl := lv_entry [.ref (G.1 0), .int i1] (n := 2) (Nat.le_of_ble_eq_true rfl)
  rw [lg_entry_eq]
  generalize (lg_sl [.ref (G.1 0), .int i1] ++ List.replicate (2 - (lg_sl [.ref (G.1 0), .int i1]).length) Slot.unset).toArray = ls at hl ⊢
  have hl : lv_has ls 2 [(0, .ref (G.1 0)), (1, .int i1)] := hl
  generalize ([.ref (G.1 0), .int i1] : List Value).toArray = args at X ⊢
  have X : z_C G p s m args meth c cX10_tellThaw 2 RX10 (some .boolean) := X
  have hx := X.1
  have hb := X.2.1
  unfold f_X10_tellThaw at h
  refine lv_iload_n (pc := 0) hx hb dX10_tellThaw_0 rfl (lv_at hl 1 rfl) ?_
  refine lv_iconst (pc := 1) (v := 0) hx hb dX10_tellThaw_1 (by decide) ?_
  refine lv_bipush (pc := 2) (v := 9) hx hb dX10_tellThaw_2 (by decide) ?_
  obtain ⟨x1, ex1, h⟩ := z_bd h
  refine z_csI (pc := 4) (rest := []) X hw (m_X10_within  ex1) zw_ml_2_208 zw_st_2_209 zw_in_1_1 zw_co_2_210 zd_X10_within (by decide) rfl hl.1 rfl (Nat.le_of_ble_eq_true rfl) dX10_tellThaw_4 ⟨Nat.zero_le _, Nat.zero_le _⟩ (fun Hx1 lx1 wx1 => ?_)
  refine lv_if_ne (pc := 7) (tgt := 12) hx hb dX10_tellThaw_7 (by decide) (fun c2 => ?_) (fun c2 => ?_)
  · replace h := z_f c2 h
    refine lv_aload_n (pc := 12) hx hb dX10_tellThaw_12 rfl (lv_at hl 0 rfl) ?_
    refine zg_DrinkingRoofs_now (pc := 13) X wx1 zw_fl_2_173 dX10_tellThaw_13 ?_
    refine zg_Street_roofs (pc := 16) X wx1 zk_1 zw_fl_1_214 dX10_tellThaw_16 ?_
    refine lv_iload_n (pc := 19) hx hb dX10_tellThaw_19 rfl (lv_at hl 1 rfl) ?_
    refine zp_Roofs_thaw (pc := 20) X wx1 zk_3 zw_fl_1_143 dX10_tellThaw_20 (fun HM3 lM3 wM3 => ?_)
    obtain ⟨M3, eM3, h⟩ := z_lo h
    rw [← eM3] at wM3
    refine lv_iconst (pc := 23) (v := 1) hx hb dX10_tellThaw_23 (by decide) ?_
    obtain rfl := Option.some.inj h
    exact z_rz (pc := 24) X wM3 (z_nb (x := 1) (by decide)) dX10_tellThaw_24
  · replace h := z_t c2 h
    refine lv_iconst (pc := 10) (v := 0) hx hb dX10_tellThaw_10 (by decide) ?_
    obtain rfl := Option.some.inj h
    exact z_rz (pc := 11) X wx1 (z_nb (x := 0) (by decide)) dX10_tellThaw_11
def f_X10_tell (i1 : Int32) (i2 : Int32) (i3 : Int32) (M : zM) : Option (Int32 × zM) :=
  if i2 = (5 : Int32) then (
    (f_X10_tellSize i3 M).bind fun x2 =>
    z_g (vp_nar .boolean x2.1 = x2.1) <|
    some (x2.1, x2.2)
  ) else (
  if i2 = (6 : Int32) then (
    (f_X10_tellThaw i3 M).bind fun x5 =>
    z_g (vp_nar .boolean x5.1 = x5.1) <|
    some (x5.1, x5.2)
  ) else (
    (f_X10_isHouse i1 M).bind fun x7 =>
    if x7.1 = 0 then (
      some ((0 : Int32), x7.2)
    ) else (
      z_g (z_ix i1 10) <|
      (f_X2_change (z_ra 6 (Int32.toNatClampNeg i1)) i2 i3 x7.2).bind fun x10 =>
      if x10.1 = 0 then (
        some ((0 : Int32), x10.2)
      ) else (
        some ((1 : Int32), x10.2)
      )
    )
  ))
set_option maxHeartbeats 4000000 in
set_option maxRecDepth 100000 in
theorem m_X10_tell {l : Launch} {G : zG} {i1 : Int32} {i2 : Int32} {i3 : Int32} {M : zM} {r : Int32 × zM} (h : f_X10_tell i1 i2 i3 M = some r) : z_T l G 2 yX10_tell (.code yX10_tell cX10_tell 4 (some .boolean)) [.ref (G.1 0), .int i1, .int i2, .int i3] M (some (.int r.1)) r.2 := by
  refine z_of rfl ?_
  intro p e s m below meth c X hw
  have hl := lv_entry [.ref (G.1 0), .int i1, .int i2, .int i3] (n := 4) (Nat.le_of_ble_eq_true rfl)
  rw [lg_entry_eq]
  generalize (lg_sl [.ref (G.1 0), .int i1, .int i2, .int i3] ++ List.replicate (4 - (lg_sl [.ref (G.1 0), .int i1, .int i2, .int i3]).length) Slot.unset).toArray = ls at hl ⊢
  have hl : lv_has ls 4 [(0, .ref (G.1 0)), (1, .int i1), (2, .int i2), (3, .int i3)] := hl
  generalize ([.ref (G.1 0), .int i1, .int i2, .int i3] : List Value).toArray = args at X ⊢
  have X : z_C G p s m args meth c cX10_tell 4 RX10 (some .boolean) := X
  have hx := X.1
  have hb := X.2.1
  unfold f_X10_tell at h
  refine lv_iload_n (pc := 0) hx hb dX10_tell_0 rfl (lv_at hl 2 rfl) ?_
  by_cases c1 : i2 = (5 : Int32)
  · replace h := z_t c1 h
    refine lv_lookup (pc := 1) (off := 27) (tgt := 28) hx hb dX10_tell_1 (by decide) (by rw [c1]; rfl) (by decide) ?_
    refine lv_aload_n (pc := 28) hx hb dX10_tell_28 rfl (lv_at hl 0 rfl) ?_
    refine lv_iload_n (pc := 29) hx hb dX10_tell_29 rfl (lv_at hl 3 rfl) ?_
    obtain ⟨x2, ex2, h⟩ := z_bd h
    refine z_cvI (pc := 30) (rest := []) X hw (m_X10_tellSize  ex2) (z_lt zk_0 (by decide)) (z_E10 zk_0) rfl zw_ml_2_227 zw_im_2_229 zw_se_S_1 zw_in_1_1 zw_co_2_230 zd_X10_tellSize (by decide) rfl hl.1 rfl (Nat.le_of_ble_eq_true rfl) dX10_tell_30 ⟨Nat.zero_le _, Nat.zero_le _⟩ (fun Hx2 lx2 wx2 => ?_)
    obtain ⟨g3, h⟩ := z_gd h
    obtain rfl := Option.some.inj h
    exact z_rz (pc := 33) X wx2 (z_nb g3) dX10_tell_33
  · replace h := z_f c1 h
    by_cases c4 : i2 = (6 : Int32)
    · replace h := z_t c4 h
      refine lv_lookup (pc := 1) (off := 33) (tgt := 34) hx hb dX10_tell_1 (by decide) (by rw [c4]; rfl) (by decide) ?_
      refine lv_aload_n (pc := 34) hx hb dX10_tell_34 rfl (lv_at hl 0 rfl) ?_
      refine lv_iload_n (pc := 35) hx hb dX10_tell_35 rfl (lv_at hl 3 rfl) ?_
      obtain ⟨x5, ex5, h⟩ := z_bd h
      refine z_cvI (pc := 36) (rest := []) X hw (m_X10_tellThaw  ex5) (z_lt zk_0 (by decide)) (z_E10 zk_0) rfl zw_ml_2_232 zw_im_2_234 zw_se_S_2 zw_in_1_1 zw_co_2_235 zd_X10_tellThaw (by decide) rfl hl.1 rfl (Nat.le_of_ble_eq_true rfl) dX10_tell_36 ⟨Nat.zero_le _, Nat.zero_le _⟩ (fun Hx5 lx5 wx5 => ?_)
      obtain ⟨g6, h⟩ := z_gd h
      obtain rfl := Option.some.inj h
      exact z_rz (pc := 39) X wx5 (z_nb g6) dX10_tell_39
    · replace h := z_f c4 h
      have qc1 : (i2).toInt ≠ 5 := z_ne c1
      have qc4 : (i2).toInt ≠ 6 := z_ne c4
      refine lv_lookup (pc := 1) (off := 39) (tgt := 40) hx hb dX10_tell_1 (by decide) (by simp [Op.lookupswitch.offset, Ne.symm qc1, Ne.symm qc4]) (by decide) ?_
      refine lv_aload_n (pc := 40) hx hb dX10_tell_40 rfl (lv_at hl 0 rfl) ?_
      refine lv_iload_n (pc := 41) hx hb dX10_tell_41 rfl (lv_at hl 1 rfl) ?_
      obtain ⟨x7, ex7, h⟩ := z_bd h
      refine z_cvI (pc := 42) (rest := []) X hw (m_X10_isHouse  ex7) (z_lt zk_0 (by decide)) (z_E10 zk_0) rfl zw_ml_2_219 zw_im_2_221 zw_se_S_0 zw_in_1_1 zw_co_2_222 zd_X10_isHouse (by decide) rfl hl.1 rfl (Nat.le_of_ble_eq_true rfl) dX10_tell_42 ⟨Nat.zero_le _, Nat.zero_le _⟩ (fun Hx7 lx7 wx7 => ?_)
      refine lv_if_eq (pc := 45) (tgt := 72) hx hb dX10_tell_45 (by decide) (fun c8 => ?_) (fun c8 => ?_)
      · replace h := z_t c8 h
        refine lv_iconst (pc := 72) (v := 0) hx hb dX10_tell_72 (by decide) ?_
        obtain rfl := Option.some.inj h
        exact z_rz (pc := 73) X wx7 (z_nb (x := 0) (by decide)) dX10_tell_73
      · replace h := z_f c8 h
        refine lv_aload_n (pc := 48) hx hb dX10_tell_48 rfl (lv_at hl 0 rfl) ?_
        refine zg_DrinkingRoofs_now (pc := 49) X wx7 zw_fl_2_173 dX10_tell_49 ?_
        refine zg_Street_roofs (pc := 52) X wx7 zk_1 zw_fl_1_214 dX10_tell_52 ?_
        refine zg_Roofs_houses (pc := 55) X wx7 zk_3 zw_fl_1_146 dX10_tell_55 ?_
        refine lv_iload_n (pc := 58) hx hb dX10_tell_58 rfl (lv_at hl 1 rfl) ?_
        obtain ⟨g9, h⟩ := z_gd h
        refine z_aald16 (pc := 59) X wx7 zk_6 zl_6 g9 dX10_tell_59 ?_
        refine lv_iload_n (pc := 60) hx hb dX10_tell_60 rfl (lv_at hl 2 rfl) ?_
        refine lv_iload_n (pc := 61) hx hb dX10_tell_61 rfl (lv_at hl 3 rfl) ?_
        obtain ⟨x10, ex10, h⟩ := z_bd h
        refine z_cvI (pc := 62) (rest := []) X wx7 (m_X2_change (zk_el16 zk_6 g9) ex10) (z_lt (zk_el16 zk_6 g9) (by decide)) (z_E2 (zk_el16 zk_6 g9)) rfl zw_ml_2_236 zw_im_2_237 zw_se_2_238 zw_in_1_4 zw_co_2_239 zd_X2_change (by decide) rfl hl.1 rfl (Nat.le_of_ble_eq_true rfl) dX10_tell_62 ⟨Nat.zero_le _, Nat.zero_le _⟩ (fun Hx10 lx10 wx10 => ?_)
        refine lv_if_eq (pc := 65) (tgt := 72) hx hb dX10_tell_65 (by decide) (fun c11 => ?_) (fun c11 => ?_)
        · replace h := z_t c11 h
          refine lv_iconst (pc := 72) (v := 0) hx hb dX10_tell_72 (by decide) ?_
          obtain rfl := Option.some.inj h
          exact z_rz (pc := 73) X wx10 (z_nb (x := 0) (by decide)) dX10_tell_73
        · replace h := z_f c11 h
          refine lv_iconst (pc := 68) (v := 1) hx hb dX10_tell_68 (by decide) ?_
          refine lv_goto (pc := 69) (tgt := 73) hx hb dX10_tell_69 (by decide) ?_
          obtain rfl := Option.some.inj h
          exact z_rz (pc := 73) X wx10 (z_nb (x := 1) (by decide)) dX10_tell_73
def f_X10_storm (i1 : Int32) (M : zM) : Option (Int32 × zM) :=
  if (10 : Int32) ≤ (M.1 1 1) then (
    some ((-1 : Int32), M)
  ) else (
    (f_X10_within i1 (1 : Int32) (12 : Int32) M).bind fun x2 =>
    if x2.1 = 0 then (
      some ((-1 : Int32), x2.2)
    ) else (
      z_l (x2.2.1 1 1) fun v4 =>
      z_g (z_ix v4 10) <|
      (f_X7_brew (z_ra 9 (Int32.toNatClampNeg v4)) i1 x2.2).bind fun x6 =>
      z_l (z_w x6 1 1 (v4 + (1 : Int32))) fun M7 =>
      some (v4, M7)
    )
  )
set_option maxHeartbeats 4000000 in
set_option maxRecDepth 100000 in
theorem m_X10_storm {l : Launch} {G : zG} {i1 : Int32} {M : zM} {r : Int32 × zM} (h : f_X10_storm i1 M = some r) : z_T l G 1 yX10_storm (.code yX10_storm cX10_storm 3 (some .int)) [.ref (G.1 0), .int i1] M (some (.int r.1)) r.2 := by
  refine z_of rfl ?_
  intro p e s m below meth c X hw
  have hl := lv_entry [.ref (G.1 0), .int i1] (n := 3) (Nat.le_of_ble_eq_true rfl)
  rw [lg_entry_eq]
  generalize (lg_sl [.ref (G.1 0), .int i1] ++ List.replicate (3 - (lg_sl [.ref (G.1 0), .int i1]).length) Slot.unset).toArray = ls at hl ⊢
  have hl : lv_has ls 3 [(0, .ref (G.1 0)), (1, .int i1)] := hl
  generalize ([.ref (G.1 0), .int i1] : List Value).toArray = args at X ⊢
  have X : z_C G p s m args meth c cX10_storm 3 RX10 (some .int) := X
  have hx := X.1
  have hb := X.2.1
  unfold f_X10_storm at h
  refine lv_aload_n (pc := 0) hx hb dX10_storm_0 rfl (lv_at hl 0 rfl) ?_
  refine zg_DrinkingRoofs_now (pc := 1) X hw zw_fl_2_173 dX10_storm_1 ?_
  refine zg_Street_stormCount (pc := 4) X hw zk_1 zw_fl_1_218 dX10_storm_4 ?_
  refine lv_bipush (pc := 7) (v := 10) hx hb dX10_storm_7 (by decide) ?_
  refine lv_icmp_ge (pc := 9) (tgt := 22) hx hb dX10_storm_9 (by decide) (fun c1 => ?_) (fun c1 => ?_)
  · replace h := z_t c1 h
    refine lv_iconst (pc := 22) (v := -1) hx hb dX10_storm_22 (by decide) ?_
    obtain rfl := Option.some.inj h
    exact z_ri (pc := 23) X hw dX10_storm_23
  · replace h := z_f c1 h
    refine lv_iload_n (pc := 12) hx hb dX10_storm_12 rfl (lv_at hl 1 rfl) ?_
    refine lv_iconst (pc := 13) (v := 1) hx hb dX10_storm_13 (by decide) ?_
    refine lv_bipush (pc := 14) (v := 12) hx hb dX10_storm_14 (by decide) ?_
    obtain ⟨x2, ex2, h⟩ := z_bd h
    refine z_csI (pc := 16) (rest := []) X hw (m_X10_within  ex2) zw_ml_2_208 zw_st_2_209 zw_in_1_1 zw_co_2_210 zd_X10_within (by decide) rfl hl.1 rfl (Nat.le_of_ble_eq_true rfl) dX10_storm_16 ⟨Nat.zero_le _, Nat.zero_le _⟩ (fun Hx2 lx2 wx2 => ?_)
    refine lv_if_ne (pc := 19) (tgt := 24) hx hb dX10_storm_19 (by decide) (fun c3 => ?_) (fun c3 => ?_)
    · replace h := z_f c3 h
      refine lv_aload_n (pc := 24) hx hb dX10_storm_24 rfl (lv_at hl 0 rfl) ?_
      refine zg_DrinkingRoofs_now (pc := 25) X wx2 zw_fl_2_173 dX10_storm_25 ?_
      refine zg_Street_stormCount (pc := 28) X wx2 zk_1 zw_fl_1_218 dX10_storm_28 ?_
      obtain ⟨v4, ev4, h⟩ := z_lo h
      refine z_topi ev4 ?_
      refine lv_istore_n (pc := 31) (lv' := [(2, .int v4), (0, .ref (G.1 0)), (1, .int i1)]) hx hb dX10_storm_31 rfl hl (by decide) rfl (fun ls hl => ?_)
      refine lv_aload_n (pc := 32) hx hb dX10_storm_32 rfl (lv_at hl 1 rfl) ?_
      refine zg_DrinkingRoofs_now (pc := 33) X wx2 zw_fl_2_173 dX10_storm_33 ?_
      refine zg_Street_storms (pc := 36) X wx2 zk_1 zw_fl_1_222 dX10_storm_36 ?_
      refine lv_iload_n (pc := 39) hx hb dX10_storm_39 rfl (lv_at hl 0 rfl) ?_
      obtain ⟨g5, h⟩ := z_gd h
      refine z_aald17 (pc := 40) X wx2 zk_9 zl_9 g5 dX10_storm_40 ?_
      refine lv_iload_n (pc := 41) hx hb dX10_storm_41 rfl (lv_at hl 2 rfl) ?_
      obtain ⟨x6, ex6, h⟩ := z_bd h
      refine z_cvV (pc := 42) (rest := []) X wx2 (m_X7_brew (zk_el17 zk_9 g5) ex6) (z_lt (zk_el17 zk_9 g5) (by decide)) (z_E7 (zk_el17 zk_9 g5)) rfl zw_ml_3_8 zw_im_3_9 zw_se_3_10 zw_in_1_6 zw_co_3_11 zd_X7_brew (by decide) rfl hl.1 rfl (Nat.le_of_ble_eq_true rfl) dX10_storm_42 ⟨Nat.zero_le _, Nat.zero_le _⟩ (fun Hx6 lx6 wx6 => ?_)
      refine lv_aload_n (pc := 45) hx hb dX10_storm_45 rfl (lv_at hl 1 rfl) ?_
      refine zg_DrinkingRoofs_now (pc := 46) X wx6 zw_fl_2_173 dX10_storm_46 ?_
      refine lv_iload_n (pc := 49) hx hb dX10_storm_49 rfl (lv_at hl 0 rfl) ?_
      refine lv_iconst (pc := 50) (v := 1) hx hb dX10_storm_50 (by decide) ?_
      refine lv_iadd (pc := 51) hx hb dX10_storm_51 ?_
      refine zp_Street_stormCount (pc := 52) X wx6 zk_1 zw_fl_1_218 dX10_storm_52 (fun HM7 lM7 wM7 => ?_)
      obtain ⟨M7, eM7, h⟩ := z_lo h
      rw [← eM7] at wM7
      refine lv_iload_n (pc := 55) hx hb dX10_storm_55 rfl (lv_at hl 0 rfl) ?_
      obtain rfl := Option.some.inj h
      exact z_ri (pc := 56) X wM7 dX10_storm_56
    · replace h := z_t c3 h
      refine lv_iconst (pc := 22) (v := -1) hx hb dX10_storm_22 (by decide) ?_
      obtain rfl := Option.some.inj h
      exact z_ri (pc := 23) X wx2 dX10_storm_23
def f_X10_isStorm (i1 : Int32) (M : zM) : Option (Int32 × zM) :=
  (f_X10_within i1 (0 : Int32) ((M.1 1 1) - (1 : Int32)) M).bind fun x1 =>
  z_g (vp_nar .boolean x1.1 = x1.1) <|
  some (x1.1, x1.2)
set_option maxHeartbeats 4000000 in
set_option maxRecDepth 100000 in
theorem m_X10_isStorm {l : Launch} {G : zG} {i1 : Int32} {M : zM} {r : Int32 × zM} (h : f_X10_isStorm i1 M = some r) : z_T l G 1 yX10_isStorm (.code yX10_isStorm cX10_isStorm 2 (some .boolean)) [.ref (G.1 0), .int i1] M (some (.int r.1)) r.2 := by
  refine z_of rfl ?_
  intro p e s m below meth c X hw
  have hl := lv_entry [.ref (G.1 0), .int i1] (n := 2) (Nat.le_of_ble_eq_true rfl)
  rw [lg_entry_eq]
  generalize (lg_sl [.ref (G.1 0), .int i1] ++ List.replicate (2 - (lg_sl [.ref (G.1 0), .int i1]).length) Slot.unset).toArray = ls at hl ⊢
  have hl : lv_has ls 2 [(0, .ref (G.1 0)), (1, .int i1)] := hl
  generalize ([.ref (G.1 0), .int i1] : List Value).toArray = args at X ⊢
  have X : z_C G p s m args meth c cX10_isStorm 2 RX10 (some .boolean) := X
  have hx := X.1
  have hb := X.2.1
  unfold f_X10_isStorm at h
  refine lv_iload_n (pc := 0) hx hb dX10_isStorm_0 rfl (lv_at hl 1 rfl) ?_
  refine lv_iconst (pc := 1) (v := 0) hx hb dX10_isStorm_1 (by decide) ?_
  refine lv_aload_n (pc := 2) hx hb dX10_isStorm_2 rfl (lv_at hl 0 rfl) ?_
  refine zg_DrinkingRoofs_now (pc := 3) X hw zw_fl_2_173 dX10_isStorm_3 ?_
  refine zg_Street_stormCount (pc := 6) X hw zk_1 zw_fl_1_218 dX10_isStorm_6 ?_
  refine lv_iconst (pc := 9) (v := 1) hx hb dX10_isStorm_9 (by decide) ?_
  refine lv_isub (pc := 10) hx hb dX10_isStorm_10 ?_
  obtain ⟨x1, ex1, h⟩ := z_bd h
  refine z_csI (pc := 11) (rest := []) X hw (m_X10_within  ex1) zw_ml_2_208 zw_st_2_209 zw_in_1_1 zw_co_2_210 zd_X10_within (by decide) rfl hl.1 rfl (Nat.le_of_ble_eq_true rfl) dX10_isStorm_11 ⟨Nat.zero_le _, Nat.zero_le _⟩ (fun Hx1 lx1 wx1 => ?_)
  obtain ⟨g2, h⟩ := z_gd h
  obtain rfl := Option.some.inj h
  exact z_rz (pc := 14) X wx1 (z_nb g2) dX10_isStorm_14
def f_X10_fall (i1 : Int32) (i2 : Int32) (i3 : Int32) (i4 : Int32) (M : zM) : Option (Int32 × zM) :=
  (f_X10_isStorm i1 M).bind fun x1 =>
  if x1.1 = 0 then (
    some ((0 : Int32), x1.2)
  ) else (
    (f_X10_within i3 (0 : Int32) (99 : Int32) x1.2).bind fun x3 =>
    if x3.1 = 0 then (
      some ((0 : Int32), x3.2)
    ) else (
      z_g (z_ix i1 10) <|
      z_l (z_ra 9 (Int32.toNatClampNeg i1)) fun v6 =>
      (f_X10_within i2 (0 : Int32) ((x3.2.1 v6 0) - (1 : Int32)) x3.2).bind fun x7 =>
      if x7.1 = 0 then (
        some ((0 : Int32), x7.2)
      ) else (
        z_g (z_ix i2 12) <|
        z_l (z_w x7.2 (v6 + 1) (Int32.toNatClampNeg i2) i3) fun M10 =>
        z_g (z_ix i2 12) <|
        z_l (z_w M10 (v6 + 2) (Int32.toNatClampNeg i2) (vp_nar .boolean i4)) fun M12 =>
        some ((1 : Int32), M12)
      )
    )
  )
set_option maxHeartbeats 4000000 in
set_option maxRecDepth 100000 in
theorem m_X10_fall {l : Launch} {G : zG} {i1 : Int32} {i2 : Int32} {i3 : Int32} {i4 : Int32} {M : zM} {r : Int32 × zM} (h : f_X10_fall i1 i2 i3 i4 M = some r) : z_T l G 2 yX10_fall (.code yX10_fall cX10_fall 6 (some .boolean)) [.ref (G.1 0), .int i1, .int i2, .int i3, .int i4] M (some (.int r.1)) r.2 := by
  refine z_of rfl ?_
  intro p e s m below meth c X hw
  have hl := lv_entry [.ref (G.1 0), .int i1, .int i2, .int i3, .int i4] (n := 6) (Nat.le_of_ble_eq_true rfl)
  rw [lg_entry_eq]
  generalize (lg_sl [.ref (G.1 0), .int i1, .int i2, .int i3, .int i4] ++ List.replicate (6 - (lg_sl [.ref (G.1 0), .int i1, .int i2, .int i3, .int i4]).length) Slot.unset).toArray = ls at hl ⊢
  have hl : lv_has ls 6 [(0, .ref (G.1 0)), (1, .int i1), (2, .int i2), (3, .int i3), (4, .int i4)] := hl
  generalize ([.ref (G.1 0), .int i1, .int i2, .int i3, .int i4] : List Value).toArray = args at X ⊢
  have X : z_C G p s m args meth c cX10_fall 6 RX10 (some .boolean) := X
  have hx := X.1
  have hb := X.2.1
  unfold f_X10_fall at h
  refine lv_aload_n (pc := 0) hx hb dX10_fall_0 rfl (lv_at hl 0 rfl) ?_
  refine lv_iload_n (pc := 1) hx hb dX10_fall_1 rfl (lv_at hl 1 rfl) ?_
  obtain ⟨x1, ex1, h⟩ := z_bd h
  refine z_cvI (pc := 2) (rest := []) X hw (m_X10_isStorm  ex1) (z_lt zk_0 (by decide)) (z_E10 zk_0) rfl zw_ml_3_16 zw_im_3_18 zw_se_S_3 zw_in_1_1 zw_co_3_19 zd_X10_isStorm (by decide) rfl hl.1 rfl (Nat.le_of_ble_eq_true rfl) dX10_fall_2 ⟨Nat.zero_le _, Nat.zero_le _⟩ (fun Hx1 lx1 wx1 => ?_)
  refine lv_if_eq (pc := 5) (tgt := 18) hx hb dX10_fall_5 (by decide) (fun c2 => ?_) (fun c2 => ?_)
  · replace h := z_t c2 h
    refine lv_iconst (pc := 18) (v := 0) hx hb dX10_fall_18 (by decide) ?_
    obtain rfl := Option.some.inj h
    exact z_rz (pc := 19) X wx1 (z_nb (x := 0) (by decide)) dX10_fall_19
  · replace h := z_f c2 h
    refine lv_iload_n (pc := 8) hx hb dX10_fall_8 rfl (lv_at hl 3 rfl) ?_
    refine lv_iconst (pc := 9) (v := 0) hx hb dX10_fall_9 (by decide) ?_
    refine lv_bipush (pc := 10) (v := 99) hx hb dX10_fall_10 (by decide) ?_
    obtain ⟨x3, ex3, h⟩ := z_bd h
    refine z_csI (pc := 12) (rest := []) X wx1 (m_X10_within  ex3) zw_ml_2_208 zw_st_2_209 zw_in_1_1 zw_co_2_210 zd_X10_within (by decide) rfl hl.1 rfl (Nat.le_of_ble_eq_true rfl) dX10_fall_12 ⟨Nat.zero_le _, Nat.zero_le _⟩ (fun Hx3 lx3 wx3 => ?_)
    refine lv_if_ne (pc := 15) (tgt := 20) hx hb dX10_fall_15 (by decide) (fun c4 => ?_) (fun c4 => ?_)
    · replace h := z_f c4 h
      refine lv_aload_n (pc := 20) hx hb dX10_fall_20 rfl (lv_at hl 0 rfl) ?_
      refine zg_DrinkingRoofs_now (pc := 21) X wx3 zw_fl_2_173 dX10_fall_21 ?_
      refine zg_Street_storms (pc := 24) X wx3 zk_1 zw_fl_1_222 dX10_fall_24 ?_
      refine lv_iload_n (pc := 27) hx hb dX10_fall_27 rfl (lv_at hl 1 rfl) ?_
      obtain ⟨g5, h⟩ := z_gd h
      refine z_aald17 (pc := 28) X wx3 zk_9 zl_9 g5 dX10_fall_28 ?_
      obtain ⟨v6, ev6, h⟩ := z_lo h
      refine z_topr ev6 ?_
      have hv6 : z_kd v6 = 7 := by rw [ev6]; exact (zk_el17 zk_9 g5)
      refine lv_astore (pc := 29) (lv' := [(5, .ref (G.1 v6)), (0, .ref (G.1 0)), (1, .int i1), (2, .int i2), (3, .int i3), (4, .int i4)]) hx hb dX10_fall_29 hl (by decide) rfl (fun ls hl => ?_)
      refine lv_iload_n (pc := 31) hx hb dX10_fall_31 rfl (lv_at hl 3 rfl) ?_
      refine lv_iconst (pc := 32) (v := 0) hx hb dX10_fall_32 (by decide) ?_
      refine lv_aload (pc := 33) hx hb dX10_fall_33 (lv_at hl 0 rfl) ?_
      refine zg_Storm_hours (pc := 35) X wx3 hv6 zw_fl_1_195 dX10_fall_35 ?_
      refine lv_iconst (pc := 38) (v := 1) hx hb dX10_fall_38 (by decide) ?_
      refine lv_isub (pc := 39) hx hb dX10_fall_39 ?_
      obtain ⟨x7, ex7, h⟩ := z_bd h
      refine z_csI (pc := 40) (rest := []) X wx3 (m_X10_within  ex7) zw_ml_2_208 zw_st_2_209 zw_in_1_1 zw_co_2_210 zd_X10_within (by decide) rfl hl.1 rfl (Nat.le_of_ble_eq_true rfl) dX10_fall_40 ⟨Nat.zero_le _, Nat.zero_le _⟩ (fun Hx7 lx7 wx7 => ?_)
      refine lv_if_ne (pc := 43) (tgt := 48) hx hb dX10_fall_43 (by decide) (fun c8 => ?_) (fun c8 => ?_)
      · replace h := z_f c8 h
        refine lv_aload (pc := 48) hx hb dX10_fall_48 (lv_at hl 0 rfl) ?_
        refine zg_Storm_falls (pc := 50) X wx7 hv6 zw_fl_1_199 dX10_fall_50 ?_
        refine lv_iload_n (pc := 53) hx hb dX10_fall_53 rfl (lv_at hl 3 rfl) ?_
        refine lv_iload_n (pc := 54) hx hb dX10_fall_54 rfl (lv_at hl 4 rfl) ?_
        obtain ⟨g9, h⟩ := z_gd h
        refine z_iast (pc := 55) X wx7 (zk_Storm_falls hv6) (zl_Storm_falls hv6) g9 dX10_fall_55 (fun HM10 lM10 wM10 => ?_)
        obtain ⟨M10, eM10, h⟩ := z_lo h
        rw [← eM10] at wM10
        refine lv_aload (pc := 56) hx hb dX10_fall_56 (lv_at hl 0 rfl) ?_
        refine zg_Storm_snows (pc := 58) X wM10 hv6 zw_fl_1_202 dX10_fall_58 ?_
        refine lv_iload_n (pc := 61) hx hb dX10_fall_61 rfl (lv_at hl 3 rfl) ?_
        refine lv_iload (pc := 62) hx hb dX10_fall_62 (lv_at hl 5 rfl) ?_
        obtain ⟨g11, h⟩ := z_gd h
        refine z_zast (pc := 64) X wM10 (zk_Storm_snows hv6) (zl_Storm_snows hv6) g11 dX10_fall_64 (fun HM12 lM12 wM12 => ?_)
        obtain ⟨M12, eM12, h⟩ := z_lo h
        rw [← eM12] at wM12
        refine lv_iconst (pc := 65) (v := 1) hx hb dX10_fall_65 (by decide) ?_
        obtain rfl := Option.some.inj h
        exact z_rz (pc := 66) X wM12 (z_nb (x := 1) (by decide)) dX10_fall_66
      · replace h := z_t c8 h
        refine lv_iconst (pc := 46) (v := 0) hx hb dX10_fall_46 (by decide) ?_
        obtain rfl := Option.some.inj h
        exact z_rz (pc := 47) X wx7 (z_nb (x := 0) (by decide)) dX10_fall_47
    · replace h := z_t c4 h
      refine lv_iconst (pc := 18) (v := 0) hx hb dX10_fall_18 (by decide) ?_
      obtain rfl := Option.some.inj h
      exact z_rz (pc := 19) X wx3 (z_nb (x := 0) (by decide)) dX10_fall_19
def f_X10_feed (i1 : Int32) (i2 : Int32) (i3 : Int32) (i4 : Int32) (i5 : Int32) (M : zM) : Option (Int32 × zM) :=
  (f_X9_hasRoom (20 : Int32) M).bind fun x1 =>
  if x1.1 = 0 then (
    some ((-1 : Int32), x1.2)
  ) else (
    (f_X9_add i1 x1.2).bind fun x3 =>
    (f_X9_add i2 x3).bind fun x4 =>
    (f_X9_add i3 x4).bind fun x5 =>
    (f_X9_add i4 x5).bind fun x6 =>
    (f_X9_add i5 x6).bind fun x7 =>
    some ((x7.1 28 0), x7)
  )
set_option maxHeartbeats 4000000 in
set_option maxRecDepth 100000 in
theorem m_X10_feed {l : Launch} {G : zG} {i1 : Int32} {i2 : Int32} {i3 : Int32} {i4 : Int32} {i5 : Int32} {M : zM} {r : Int32 × zM} (h : f_X10_feed i1 i2 i3 i4 i5 M = some r) : z_T l G 1 yX10_feed (.code yX10_feed cX10_feed 6 (some .int)) [.ref (G.1 0), .int i1, .int i2, .int i3, .int i4, .int i5] M (some (.int r.1)) r.2 := by
  refine z_of rfl ?_
  intro p e s m below meth c X hw
  have hl := lv_entry [.ref (G.1 0), .int i1, .int i2, .int i3, .int i4, .int i5] (n := 6) (Nat.le_of_ble_eq_true rfl)
  rw [lg_entry_eq]
  generalize (lg_sl [.ref (G.1 0), .int i1, .int i2, .int i3, .int i4, .int i5] ++ List.replicate (6 - (lg_sl [.ref (G.1 0), .int i1, .int i2, .int i3, .int i4, .int i5]).length) Slot.unset).toArray = ls at hl ⊢
  have hl : lv_has ls 6 [(0, .ref (G.1 0)), (1, .int i1), (2, .int i2), (3, .int i3), (4, .int i4), (5, .int i5)] := hl
  generalize ([.ref (G.1 0), .int i1, .int i2, .int i3, .int i4, .int i5] : List Value).toArray = args at X ⊢
  have X : z_C G p s m args meth c cX10_feed 6 RX10 (some .int) := X
  have hx := X.1
  have hb := X.2.1
  unfold f_X10_feed at h
  refine lv_aload_n (pc := 0) hx hb dX10_feed_0 rfl (lv_at hl 0 rfl) ?_
  refine zg_DrinkingRoofs_tape (pc := 1) X hw zw_fl_2_176 dX10_feed_1 ?_
  refine lv_bipush (pc := 4) (v := 20) hx hb dX10_feed_4 (by decide) ?_
  obtain ⟨x1, ex1, h⟩ := z_bd h
  refine z_cvI (pc := 6) (rest := []) X hw (m_X9_hasRoom  ex1) (z_lt zk_28 (by decide)) (z_E9 zk_28) rfl zw_ml_3_24 zw_im_3_25 zw_se_3_26 zw_in_1_7 zw_co_3_27 zd_X9_hasRoom (by decide) rfl hl.1 rfl (Nat.le_of_ble_eq_true rfl) dX10_feed_6 ⟨Nat.zero_le _, Nat.zero_le _⟩ (fun Hx1 lx1 wx1 => ?_)
  refine lv_if_ne (pc := 9) (tgt := 14) hx hb dX10_feed_9 (by decide) (fun c2 => ?_) (fun c2 => ?_)
  · replace h := z_f c2 h
    refine lv_aload_n (pc := 14) hx hb dX10_feed_14 rfl (lv_at hl 0 rfl) ?_
    refine zg_DrinkingRoofs_tape (pc := 15) X wx1 zw_fl_2_176 dX10_feed_15 ?_
    refine lv_iload_n (pc := 18) hx hb dX10_feed_18 rfl (lv_at hl 1 rfl) ?_
    obtain ⟨x3, ex3, h⟩ := z_bd h
    refine z_cvV (pc := 19) (rest := []) X wx1 (m_X9_add  ex3) (z_lt zk_28 (by decide)) (z_E9 zk_28) rfl zw_ml_3_28 zw_im_3_29 zw_se_3_30 zw_in_1_7 zw_co_3_31 zd_X9_add (by decide) rfl hl.1 rfl (Nat.le_of_ble_eq_true rfl) dX10_feed_19 ⟨Nat.zero_le _, Nat.zero_le _⟩ (fun Hx3 lx3 wx3 => ?_)
    refine lv_aload_n (pc := 22) hx hb dX10_feed_22 rfl (lv_at hl 0 rfl) ?_
    refine zg_DrinkingRoofs_tape (pc := 23) X wx3 zw_fl_2_176 dX10_feed_23 ?_
    refine lv_iload_n (pc := 26) hx hb dX10_feed_26 rfl (lv_at hl 2 rfl) ?_
    obtain ⟨x4, ex4, h⟩ := z_bd h
    refine z_cvV (pc := 27) (rest := []) X wx3 (m_X9_add  ex4) (z_lt zk_28 (by decide)) (z_E9 zk_28) rfl zw_ml_3_28 zw_im_3_29 zw_se_3_30 zw_in_1_7 zw_co_3_31 zd_X9_add (by decide) rfl hl.1 rfl (Nat.le_of_ble_eq_true rfl) dX10_feed_27 ⟨Nat.zero_le _, Nat.zero_le _⟩ (fun Hx4 lx4 wx4 => ?_)
    refine lv_aload_n (pc := 30) hx hb dX10_feed_30 rfl (lv_at hl 0 rfl) ?_
    refine zg_DrinkingRoofs_tape (pc := 31) X wx4 zw_fl_2_176 dX10_feed_31 ?_
    refine lv_iload_n (pc := 34) hx hb dX10_feed_34 rfl (lv_at hl 3 rfl) ?_
    obtain ⟨x5, ex5, h⟩ := z_bd h
    refine z_cvV (pc := 35) (rest := []) X wx4 (m_X9_add  ex5) (z_lt zk_28 (by decide)) (z_E9 zk_28) rfl zw_ml_3_28 zw_im_3_29 zw_se_3_30 zw_in_1_7 zw_co_3_31 zd_X9_add (by decide) rfl hl.1 rfl (Nat.le_of_ble_eq_true rfl) dX10_feed_35 ⟨Nat.zero_le _, Nat.zero_le _⟩ (fun Hx5 lx5 wx5 => ?_)
    refine lv_aload_n (pc := 38) hx hb dX10_feed_38 rfl (lv_at hl 0 rfl) ?_
    refine zg_DrinkingRoofs_tape (pc := 39) X wx5 zw_fl_2_176 dX10_feed_39 ?_
    refine lv_iload (pc := 42) hx hb dX10_feed_42 (lv_at hl 4 rfl) ?_
    obtain ⟨x6, ex6, h⟩ := z_bd h
    refine z_cvV (pc := 44) (rest := []) X wx5 (m_X9_add  ex6) (z_lt zk_28 (by decide)) (z_E9 zk_28) rfl zw_ml_3_28 zw_im_3_29 zw_se_3_30 zw_in_1_7 zw_co_3_31 zd_X9_add (by decide) rfl hl.1 rfl (Nat.le_of_ble_eq_true rfl) dX10_feed_44 ⟨Nat.zero_le _, Nat.zero_le _⟩ (fun Hx6 lx6 wx6 => ?_)
    refine lv_aload_n (pc := 47) hx hb dX10_feed_47 rfl (lv_at hl 0 rfl) ?_
    refine zg_DrinkingRoofs_tape (pc := 48) X wx6 zw_fl_2_176 dX10_feed_48 ?_
    refine lv_iload (pc := 51) hx hb dX10_feed_51 (lv_at hl 5 rfl) ?_
    obtain ⟨x7, ex7, h⟩ := z_bd h
    refine z_cvV (pc := 53) (rest := []) X wx6 (m_X9_add  ex7) (z_lt zk_28 (by decide)) (z_E9 zk_28) rfl zw_ml_3_28 zw_im_3_29 zw_se_3_30 zw_in_1_7 zw_co_3_31 zd_X9_add (by decide) rfl hl.1 rfl (Nat.le_of_ble_eq_true rfl) dX10_feed_53 ⟨Nat.zero_le _, Nat.zero_le _⟩ (fun Hx7 lx7 wx7 => ?_)
    refine lv_aload_n (pc := 56) hx hb dX10_feed_56 rfl (lv_at hl 0 rfl) ?_
    refine zg_DrinkingRoofs_tape (pc := 57) X wx7 zw_fl_2_176 dX10_feed_57 ?_
    refine zg_Tape_length (pc := 60) X wx7 zw_fl_2_30 dX10_feed_60 ?_
    obtain rfl := Option.some.inj h
    exact z_ri (pc := 63) X wx7 dX10_feed_63
  · replace h := z_t c2 h
    refine lv_iconst (pc := 12) (v := -1) hx hb dX10_feed_12 (by decide) ?_
    obtain rfl := Option.some.inj h
    exact z_ri (pc := 13) X wx1 dX10_feed_13
def f_X10_end (i1 : Int32) (M : zM) : Option (Int32 × zM) :=
  (f_X10_within i1 (0 : Int32) (M.1 28 0) M).bind fun x1 =>
  if x1.1 = 0 then (
    some ((0 : Int32), x1.2)
  ) else (
    z_l (z_w x1.2 28 0 i1) fun M3 =>
    some ((1 : Int32), M3)
  )
set_option maxHeartbeats 4000000 in
set_option maxRecDepth 100000 in
theorem m_X10_end {l : Launch} {G : zG} {i1 : Int32} {M : zM} {r : Int32 × zM} (h : f_X10_end i1 M = some r) : z_T l G 1 yX10_end (.code yX10_end cX10_end 2 (some .boolean)) [.ref (G.1 0), .int i1] M (some (.int r.1)) r.2 := by
  refine z_of rfl ?_
  intro p e s m below meth c X hw
  have hl := lv_entry [.ref (G.1 0), .int i1] (n := 2) (Nat.le_of_ble_eq_true rfl)
  rw [lg_entry_eq]
  generalize (lg_sl [.ref (G.1 0), .int i1] ++ List.replicate (2 - (lg_sl [.ref (G.1 0), .int i1]).length) Slot.unset).toArray = ls at hl ⊢
  have hl : lv_has ls 2 [(0, .ref (G.1 0)), (1, .int i1)] := hl
  generalize ([.ref (G.1 0), .int i1] : List Value).toArray = args at X ⊢
  have X : z_C G p s m args meth c cX10_end 2 RX10 (some .boolean) := X
  have hx := X.1
  have hb := X.2.1
  unfold f_X10_end at h
  refine lv_iload_n (pc := 0) hx hb dX10_end_0 rfl (lv_at hl 1 rfl) ?_
  refine lv_iconst (pc := 1) (v := 0) hx hb dX10_end_1 (by decide) ?_
  refine lv_aload_n (pc := 2) hx hb dX10_end_2 rfl (lv_at hl 0 rfl) ?_
  refine zg_DrinkingRoofs_tape (pc := 3) X hw zw_fl_2_176 dX10_end_3 ?_
  refine zg_Tape_length (pc := 6) X hw zw_fl_2_30 dX10_end_6 ?_
  obtain ⟨x1, ex1, h⟩ := z_bd h
  refine z_csI (pc := 9) (rest := []) X hw (m_X10_within  ex1) zw_ml_2_208 zw_st_2_209 zw_in_1_1 zw_co_2_210 zd_X10_within (by decide) rfl hl.1 rfl (Nat.le_of_ble_eq_true rfl) dX10_end_9 ⟨Nat.zero_le _, Nat.zero_le _⟩ (fun Hx1 lx1 wx1 => ?_)
  refine lv_if_ne (pc := 12) (tgt := 17) hx hb dX10_end_12 (by decide) (fun c2 => ?_) (fun c2 => ?_)
  · replace h := z_f c2 h
    refine lv_aload_n (pc := 17) hx hb dX10_end_17 rfl (lv_at hl 0 rfl) ?_
    refine zg_DrinkingRoofs_tape (pc := 18) X wx1 zw_fl_2_176 dX10_end_18 ?_
    refine lv_iload_n (pc := 21) hx hb dX10_end_21 rfl (lv_at hl 1 rfl) ?_
    refine zp_Tape_length (pc := 22) X wx1 zw_fl_2_30 dX10_end_22 (fun HM3 lM3 wM3 => ?_)
    obtain ⟨M3, eM3, h⟩ := z_lo h
    rw [← eM3] at wM3
    refine lv_iconst (pc := 25) (v := 1) hx hb dX10_end_25 (by decide) ?_
    obtain rfl := Option.some.inj h
    exact z_rz (pc := 26) X wM3 (z_nb (x := 1) (by decide)) dX10_end_26
  · replace h := z_t c2 h
    refine lv_iconst (pc := 15) (v := 0) hx hb dX10_end_15 (by decide) ?_
    obtain rfl := Option.some.inj h
    exact z_rz (pc := 16) X wx1 (z_nb (x := 0) (by decide)) dX10_end_16
def f_X10_text  (M : zM) : Option (Int32 × zM) :=
  (f_X4_read  M).bind fun x1 =>
  z_l (z_w x1 28 0 (0 : Int32)) fun M2 =>
  if (M2.1 30 0) = 0 then (
    (f_X3_copy 13 15 M2).bind fun x4 =>
    some ((x4.1 13 0), x4)
  ) else (
    some ((-1 : Int32), M2)
  )
set_option maxHeartbeats 4000000 in
set_option maxRecDepth 100000 in
theorem m_X10_text {l : Launch} {G : zG} {M : zM} {r : Int32 × zM} (h : f_X10_text  M = some r) : z_T l G 8 yX10_text (.code yX10_text cX10_text 1 (some .int)) [.ref (G.1 0)] M (some (.int r.1)) r.2 := by
  refine z_of rfl ?_
  intro p e s m below meth c X hw
  have hl := lv_entry [.ref (G.1 0)] (n := 1) (Nat.le_of_ble_eq_true rfl)
  rw [lg_entry_eq]
  generalize (lg_sl [.ref (G.1 0)] ++ List.replicate (1 - (lg_sl [.ref (G.1 0)]).length) Slot.unset).toArray = ls at hl ⊢
  have hl : lv_has ls 1 [(0, .ref (G.1 0))] := hl
  generalize ([.ref (G.1 0)] : List Value).toArray = args at X ⊢
  have X : z_C G p s m args meth c cX10_text 1 RX10 (some .int) := X
  have hx := X.1
  have hb := X.2.1
  unfold f_X10_text at h
  refine lv_aload_n (pc := 0) hx hb dX10_text_0 rfl (lv_at hl 0 rfl) ?_
  refine zg_DrinkingRoofs_reader (pc := 1) X hw zw_fl_2_177 dX10_text_1 ?_
  refine lv_aload_n (pc := 4) hx hb dX10_text_4 rfl (lv_at hl 0 rfl) ?_
  refine zg_DrinkingRoofs_tape (pc := 5) X hw zw_fl_2_176 dX10_text_5 ?_
  obtain ⟨x1, ex1, h⟩ := z_bd h
  refine z_cvV (pc := 8) (rest := []) X hw (m_X4_read  ex1) (z_lt zk_30 (by decide)) (z_E4 zk_30) rfl zw_ml_3_40 zw_im_3_41 zw_se_3_42 zw_in_1_8 zw_co_3_43 zd_X4_read (by decide) rfl hl.1 rfl (Nat.le_of_ble_eq_true rfl) dX10_text_8 ⟨Nat.zero_le _, Nat.zero_le _⟩ (fun Hx1 lx1 wx1 => ?_)
  refine lv_aload_n (pc := 11) hx hb dX10_text_11 rfl (lv_at hl 0 rfl) ?_
  refine zg_DrinkingRoofs_tape (pc := 12) X wx1 zw_fl_2_176 dX10_text_12 ?_
  refine lv_iconst (pc := 15) (v := 0) hx hb dX10_text_15 (by decide) ?_
  refine zp_Tape_length (pc := 16) X wx1 zw_fl_2_30 dX10_text_16 (fun HM2 lM2 wM2 => ?_)
  obtain ⟨M2, eM2, h⟩ := z_lo h
  rw [← eM2] at wM2
  refine lv_aload_n (pc := 19) hx hb dX10_text_19 rfl (lv_at hl 0 rfl) ?_
  refine zg_DrinkingRoofs_reader (pc := 20) X wM2 zw_fl_2_177 dX10_text_20 ?_
  refine zg_Reader_fault (pc := 23) X wM2 zw_fl_2_62 dX10_text_23 ?_
  refine lv_if_eq (pc := 26) (tgt := 31) hx hb dX10_text_26 (by decide) (fun c3 => ?_) (fun c3 => ?_)
  · replace h := z_t c3 h
    refine lv_aload_n (pc := 31) hx hb dX10_text_31 rfl (lv_at hl 0 rfl) ?_
    refine zg_DrinkingRoofs_now (pc := 32) X wM2 zw_fl_2_173 dX10_text_32 ?_
    refine zg_Street_law (pc := 35) X wM2 zk_1 zw_fl_1_224 dX10_text_35 ?_
    refine lv_aload_n (pc := 38) hx hb dX10_text_38 rfl (lv_at hl 0 rfl) ?_
    refine zg_DrinkingRoofs_reader (pc := 39) X wM2 zw_fl_2_177 dX10_text_39 ?_
    refine zg_Reader_law (pc := 42) X wM2 zw_fl_2_74 dX10_text_42 ?_
    obtain ⟨x4, ex4, h⟩ := z_bd h
    refine z_cvV (pc := 45) (rest := []) X wM2 (m_X3_copy zk_13 zk_15 ex4) (z_lt zk_13 (by decide)) (z_E3 zk_13) rfl zw_ml_4_7 zw_im_4_8 zw_se_4_9 zw_in_1_5 zw_co_4_10 zd_X3_copy (by decide) rfl hl.1 rfl (Nat.le_of_ble_eq_true rfl) dX10_text_45 ⟨Nat.zero_le _, Nat.zero_le _⟩ (fun Hx4 lx4 wx4 => ?_)
    refine lv_aload_n (pc := 48) hx hb dX10_text_48 rfl (lv_at hl 0 rfl) ?_
    refine zg_DrinkingRoofs_now (pc := 49) X wx4 zw_fl_2_173 dX10_text_49 ?_
    refine zg_Street_law (pc := 52) X wx4 zk_1 zw_fl_1_224 dX10_text_52 ?_
    refine zg_Law_lines (pc := 55) X wx4 zk_13 zw_fl_1_168 dX10_text_55 ?_
    obtain rfl := Option.some.inj h
    exact z_ri (pc := 58) X wx4 dX10_text_58
  · replace h := z_f c3 h
    refine lv_iconst (pc := 29) (v := -1) hx hb dX10_text_29 (by decide) ?_
    obtain rfl := Option.some.inj h
    exact z_ri (pc := 30) X wM2 dX10_text_30
def f_X10_fault (i1 : Int32) (M : zM) : Option (Int32 × zM) :=
  if i1 = (0 : Int32) then (
    some ((M.1 30 0), M)
  ) else (
  if i1 = (1 : Int32) then (
    some ((M.1 30 1), M)
  ) else (
    some ((-1 : Int32), M)
  ))
set_option maxHeartbeats 4000000 in
set_option maxRecDepth 100000 in
theorem m_X10_fault {l : Launch} {G : zG} {i1 : Int32} {M : zM} {r : Int32 × zM} (h : f_X10_fault i1 M = some r) : z_T l G 0 yX10_fault (.code yX10_fault cX10_fault 2 (some .int)) [.ref (G.1 0), .int i1] M (some (.int r.1)) r.2 := by
  refine z_of rfl ?_
  intro p e s m below meth c X hw
  have hl := lv_entry [.ref (G.1 0), .int i1] (n := 2) (Nat.le_of_ble_eq_true rfl)
  rw [lg_entry_eq]
  generalize (lg_sl [.ref (G.1 0), .int i1] ++ List.replicate (2 - (lg_sl [.ref (G.1 0), .int i1]).length) Slot.unset).toArray = ls at hl ⊢
  have hl : lv_has ls 2 [(0, .ref (G.1 0)), (1, .int i1)] := hl
  generalize ([.ref (G.1 0), .int i1] : List Value).toArray = args at X ⊢
  have X : z_C G p s m args meth c cX10_fault 2 RX10 (some .int) := X
  have hx := X.1
  have hb := X.2.1
  unfold f_X10_fault at h
  refine lv_iload_n (pc := 0) hx hb dX10_fault_0 rfl (lv_at hl 1 rfl) ?_
  by_cases c1 : i1 = (0 : Int32)
  · replace h := z_t c1 h
    refine lv_lookup (pc := 1) (off := 27) (tgt := 28) hx hb dX10_fault_1 (by decide) (by rw [c1]; rfl) (by decide) ?_
    refine lv_aload_n (pc := 28) hx hb dX10_fault_28 rfl (lv_at hl 0 rfl) ?_
    refine zg_DrinkingRoofs_reader (pc := 29) X hw zw_fl_2_177 dX10_fault_29 ?_
    refine zg_Reader_fault (pc := 32) X hw zw_fl_2_62 dX10_fault_32 ?_
    obtain rfl := Option.some.inj h
    exact z_ri (pc := 35) X hw dX10_fault_35
  · replace h := z_f c1 h
    by_cases c2 : i1 = (1 : Int32)
    · replace h := z_t c2 h
      refine lv_lookup (pc := 1) (off := 35) (tgt := 36) hx hb dX10_fault_1 (by decide) (by rw [c2]; rfl) (by decide) ?_
      refine lv_aload_n (pc := 36) hx hb dX10_fault_36 rfl (lv_at hl 0 rfl) ?_
      refine zg_DrinkingRoofs_reader (pc := 37) X hw zw_fl_2_177 dX10_fault_37 ?_
      refine zg_Reader_faultPlace (pc := 40) X hw zw_fl_2_64 dX10_fault_40 ?_
      obtain rfl := Option.some.inj h
      exact z_ri (pc := 43) X hw dX10_fault_43
    · replace h := z_f c2 h
      have qc1 : (i1).toInt ≠ 0 := z_ne c1
      have qc2 : (i1).toInt ≠ 1 := z_ne c2
      refine lv_lookup (pc := 1) (off := 43) (tgt := 44) hx hb dX10_fault_1 (by decide) (by simp [Op.lookupswitch.offset, Ne.symm qc1, Ne.symm qc2]) (by decide) ?_
      refine lv_iconst (pc := 44) (v := -1) hx hb dX10_fault_44 (by decide) ?_
      obtain rfl := Option.some.inj h
      exact z_ri (pc := 45) X hw dX10_fault_45
def f_X10_comes (i1 : Int32) (M : zM) : Option (Int32 × zM) :=
  (f_X10_isStorm i1 M).bind fun x1 =>
  if x1.1 = 0 then (
    some ((-1 : Int32), x1.2)
  ) else (
    z_g (z_ix i1 10) <|
    (f_X8_weather 1 (z_ra 9 (Int32.toNatClampNeg i1)) x1.2).bind fun x4 =>
    some (x4.1, x4.2)
  )
set_option maxHeartbeats 4000000 in
set_option maxRecDepth 100000 in
theorem m_X10_comes {l : Launch} {G : zG} {i1 : Int32} {M : zM} {r : Int32 × zM} (h : f_X10_comes i1 M = some r) : z_T l G 6 yX10_comes (.code yX10_comes cX10_comes 2 (some .int)) [.ref (G.1 0), .int i1] M (some (.int r.1)) r.2 := by
  refine z_of rfl ?_
  intro p e s m below meth c X hw
  have hl := lv_entry [.ref (G.1 0), .int i1] (n := 2) (Nat.le_of_ble_eq_true rfl)
  rw [lg_entry_eq]
  generalize (lg_sl [.ref (G.1 0), .int i1] ++ List.replicate (2 - (lg_sl [.ref (G.1 0), .int i1]).length) Slot.unset).toArray = ls at hl ⊢
  have hl : lv_has ls 2 [(0, .ref (G.1 0)), (1, .int i1)] := hl
  generalize ([.ref (G.1 0), .int i1] : List Value).toArray = args at X ⊢
  have X : z_C G p s m args meth c cX10_comes 2 RX10 (some .int) := X
  have hx := X.1
  have hb := X.2.1
  unfold f_X10_comes at h
  refine lv_aload_n (pc := 0) hx hb dX10_comes_0 rfl (lv_at hl 0 rfl) ?_
  refine lv_iload_n (pc := 1) hx hb dX10_comes_1 rfl (lv_at hl 1 rfl) ?_
  obtain ⟨x1, ex1, h⟩ := z_bd h
  refine z_cvI (pc := 2) (rest := []) X hw (m_X10_isStorm  ex1) (z_lt zk_0 (by decide)) (z_E10 zk_0) rfl zw_ml_3_16 zw_im_3_18 zw_se_S_3 zw_in_1_1 zw_co_3_19 zd_X10_isStorm (by decide) rfl hl.1 rfl (Nat.le_of_ble_eq_true rfl) dX10_comes_2 ⟨Nat.zero_le _, Nat.zero_le _⟩ (fun Hx1 lx1 wx1 => ?_)
  refine lv_if_eq (pc := 5) (tgt := 27) hx hb dX10_comes_5 (by decide) (fun c2 => ?_) (fun c2 => ?_)
  · replace h := z_t c2 h
    refine lv_iconst (pc := 27) (v := -1) hx hb dX10_comes_27 (by decide) ?_
    obtain rfl := Option.some.inj h
    exact z_ri (pc := 28) X wx1 dX10_comes_28
  · replace h := z_f c2 h
    refine lv_aload_n (pc := 8) hx hb dX10_comes_8 rfl (lv_at hl 0 rfl) ?_
    refine zg_DrinkingRoofs_now (pc := 9) X wx1 zw_fl_2_173 dX10_comes_9 ?_
    refine lv_aload_n (pc := 12) hx hb dX10_comes_12 rfl (lv_at hl 0 rfl) ?_
    refine zg_DrinkingRoofs_now (pc := 13) X wx1 zw_fl_2_173 dX10_comes_13 ?_
    refine zg_Street_storms (pc := 16) X wx1 zk_1 zw_fl_1_222 dX10_comes_16 ?_
    refine lv_iload_n (pc := 19) hx hb dX10_comes_19 rfl (lv_at hl 1 rfl) ?_
    obtain ⟨g3, h⟩ := z_gd h
    refine z_aald17 (pc := 20) X wx1 zk_9 zl_9 g3 dX10_comes_20 ?_
    obtain ⟨x4, ex4, h⟩ := z_bd h
    refine z_cvI (pc := 21) (rest := []) X wx1 (m_X8_weather zk_1 (zk_el17 zk_9 g3) ex4) (z_lt zk_1 (by decide)) (z_E8 zk_1) rfl zw_ml_4_22 zw_im_4_23 zw_se_4_24 zw_in_1_2 zw_co_4_25 zd_X8_weather (by decide) rfl hl.1 rfl (Nat.le_of_ble_eq_true rfl) dX10_comes_21 ⟨Nat.zero_le _, Nat.zero_le _⟩ (fun Hx4 lx4 wx4 => ?_)
    refine lv_goto (pc := 24) (tgt := 28) hx hb dX10_comes_24 (by decide) ?_
    obtain rfl := Option.some.inj h
    exact z_ri (pc := 28) X wx4 dX10_comes_28
def f_X10_of (i1 : Int32) (i2 : Int32) (M : zM) : Option (Int32 × zM) :=
  (f_X10_isHouse i1 M).bind fun x1 =>
  if x1.1 = 0 then (
    some ((-1000000000 : Int32), x1.2)
  ) else (
    z_g (z_ix i1 10) <|
    (f_X2_told (z_ra 6 (Int32.toNatClampNeg i1)) i2 x1.2).bind fun x4 =>
    some (x4.1, x4.2)
  )
set_option maxHeartbeats 4000000 in
set_option maxRecDepth 100000 in
theorem m_X10_of {l : Launch} {G : zG} {i1 : Int32} {i2 : Int32} {M : zM} {r : Int32 × zM} (h : f_X10_of i1 i2 M = some r) : z_T l G 2 yX10_of (.code yX10_of cX10_of 3 (some .int)) [.ref (G.1 0), .int i1, .int i2] M (some (.int r.1)) r.2 := by
  refine z_of rfl ?_
  intro p e s m below meth c X hw
  have hl := lv_entry [.ref (G.1 0), .int i1, .int i2] (n := 3) (Nat.le_of_ble_eq_true rfl)
  rw [lg_entry_eq]
  generalize (lg_sl [.ref (G.1 0), .int i1, .int i2] ++ List.replicate (3 - (lg_sl [.ref (G.1 0), .int i1, .int i2]).length) Slot.unset).toArray = ls at hl ⊢
  have hl : lv_has ls 3 [(0, .ref (G.1 0)), (1, .int i1), (2, .int i2)] := hl
  generalize ([.ref (G.1 0), .int i1, .int i2] : List Value).toArray = args at X ⊢
  have X : z_C G p s m args meth c cX10_of 3 RX10 (some .int) := X
  have hx := X.1
  have hb := X.2.1
  unfold f_X10_of at h
  refine lv_aload_n (pc := 0) hx hb dX10_of_0 rfl (lv_at hl 0 rfl) ?_
  refine lv_iload_n (pc := 1) hx hb dX10_of_1 rfl (lv_at hl 1 rfl) ?_
  obtain ⟨x1, ex1, h⟩ := z_bd h
  refine z_cvI (pc := 2) (rest := []) X hw (m_X10_isHouse  ex1) (z_lt zk_0 (by decide)) (z_E10 zk_0) rfl zw_ml_2_219 zw_im_2_221 zw_se_S_0 zw_in_1_1 zw_co_2_222 zd_X10_isHouse (by decide) rfl hl.1 rfl (Nat.le_of_ble_eq_true rfl) dX10_of_2 ⟨Nat.zero_le _, Nat.zero_le _⟩ (fun Hx1 lx1 wx1 => ?_)
  refine lv_if_eq (pc := 5) (tgt := 27) hx hb dX10_of_5 (by decide) (fun c2 => ?_) (fun c2 => ?_)
  · replace h := z_t c2 h
    refine lv_ldc (pc := 27) (v := -1000000000) hx hb X.2.2.2.1 (X.2.2.2.2.1 _ zw_cn_4_104) dX10_of_27 ?_
    obtain rfl := Option.some.inj h
    exact z_ri (pc := 29) X wx1 dX10_of_29
  · replace h := z_f c2 h
    refine lv_aload_n (pc := 8) hx hb dX10_of_8 rfl (lv_at hl 0 rfl) ?_
    refine zg_DrinkingRoofs_now (pc := 9) X wx1 zw_fl_2_173 dX10_of_9 ?_
    refine zg_Street_roofs (pc := 12) X wx1 zk_1 zw_fl_1_214 dX10_of_12 ?_
    refine zg_Roofs_houses (pc := 15) X wx1 zk_3 zw_fl_1_146 dX10_of_15 ?_
    refine lv_iload_n (pc := 18) hx hb dX10_of_18 rfl (lv_at hl 1 rfl) ?_
    obtain ⟨g3, h⟩ := z_gd h
    refine z_aald16 (pc := 19) X wx1 zk_6 zl_6 g3 dX10_of_19 ?_
    refine lv_iload_n (pc := 20) hx hb dX10_of_20 rfl (lv_at hl 2 rfl) ?_
    obtain ⟨x4, ex4, h⟩ := z_bd h
    refine z_cvI (pc := 21) (rest := []) X wx1 (m_X2_told (zk_el16 zk_6 g3) ex4) (z_lt (zk_el16 zk_6 g3) (by decide)) (z_E2 (zk_el16 zk_6 g3)) rfl zw_ml_4_99 zw_im_4_100 zw_se_4_101 zw_in_1_4 zw_co_4_102 zd_X2_told (by decide) rfl hl.1 rfl (Nat.le_of_ble_eq_true rfl) dX10_of_21 ⟨Nat.zero_le _, Nat.zero_le _⟩ (fun Hx4 lx4 wx4 => ?_)
    refine lv_goto (pc := 24) (tgt := 29) hx hb dX10_of_24 (by decide) ?_
    obtain rfl := Option.some.inj h
    exact z_ri (pc := 29) X wx4 dX10_of_29
def f_X10_hour (i1 : Int32) (i2 : Int32) (i3 : Int32) (M : zM) : Option (Int32 × zM) :=
  (f_X10_within i1 (0 : Int32) ((M.1 1 9) - (1 : Int32)) M).bind fun x1 =>
  if x1.1 = 0 then (
    some ((-1 : Int32), x1.2)
  ) else (
    (f_X10_within i2 (0 : Int32) ((x1.2.1 1 10) - (1 : Int32)) x1.2).bind fun x3 =>
    if x3.1 = 0 then (
      some ((-1 : Int32), x3.2)
    ) else (
      z_g (z_ix i1 10) <|
      (f_X2_toldOf (z_ra 6 (Int32.toNatClampNeg i1)) i2 i3 x3.2).bind fun x6 =>
      some (x6.1, x6.2)
    )
  )
set_option maxHeartbeats 4000000 in
set_option maxRecDepth 100000 in
theorem m_X10_hour {l : Launch} {G : zG} {i1 : Int32} {i2 : Int32} {i3 : Int32} {M : zM} {r : Int32 × zM} (h : f_X10_hour i1 i2 i3 M = some r) : z_T l G 1 yX10_hour (.code yX10_hour cX10_hour 4 (some .int)) [.ref (G.1 0), .int i1, .int i2, .int i3] M (some (.int r.1)) r.2 := by
  refine z_of rfl ?_
  intro p e s m below meth c X hw
  have hl := lv_entry [.ref (G.1 0), .int i1, .int i2, .int i3] (n := 4) (Nat.le_of_ble_eq_true rfl)
  rw [lg_entry_eq]
  generalize (lg_sl [.ref (G.1 0), .int i1, .int i2, .int i3] ++ List.replicate (4 - (lg_sl [.ref (G.1 0), .int i1, .int i2, .int i3]).length) Slot.unset).toArray = ls at hl ⊢
  have hl : lv_has ls 4 [(0, .ref (G.1 0)), (1, .int i1), (2, .int i2), (3, .int i3)] := hl
  generalize ([.ref (G.1 0), .int i1, .int i2, .int i3] : List Value).toArray = args at X ⊢
  have X : z_C G p s m args meth c cX10_hour 4 RX10 (some .int) := X
  have hx := X.1
  have hb := X.2.1
  unfold f_X10_hour at h
  refine lv_iload_n (pc := 0) hx hb dX10_hour_0 rfl (lv_at hl 1 rfl) ?_
  refine lv_iconst (pc := 1) (v := 0) hx hb dX10_hour_1 (by decide) ?_
  refine lv_aload_n (pc := 2) hx hb dX10_hour_2 rfl (lv_at hl 0 rfl) ?_
  refine zg_DrinkingRoofs_now (pc := 3) X hw zw_fl_2_173 dX10_hour_3 ?_
  refine zg_Street_latestHouses (pc := 6) X hw zk_1 zw_fl_1_232 dX10_hour_6 ?_
  refine lv_iconst (pc := 9) (v := 1) hx hb dX10_hour_9 (by decide) ?_
  refine lv_isub (pc := 10) hx hb dX10_hour_10 ?_
  obtain ⟨x1, ex1, h⟩ := z_bd h
  refine z_csI (pc := 11) (rest := []) X hw (m_X10_within  ex1) zw_ml_2_208 zw_st_2_209 zw_in_1_1 zw_co_2_210 zd_X10_within (by decide) rfl hl.1 rfl (Nat.le_of_ble_eq_true rfl) dX10_hour_11 ⟨Nat.zero_le _, Nat.zero_le _⟩ (fun Hx1 lx1 wx1 => ?_)
  refine lv_if_eq (pc := 14) (tgt := 34) hx hb dX10_hour_14 (by decide) (fun c2 => ?_) (fun c2 => ?_)
  · replace h := z_t c2 h
    refine lv_iconst (pc := 34) (v := -1) hx hb dX10_hour_34 (by decide) ?_
    obtain rfl := Option.some.inj h
    exact z_ri (pc := 35) X wx1 dX10_hour_35
  · replace h := z_f c2 h
    refine lv_iload_n (pc := 17) hx hb dX10_hour_17 rfl (lv_at hl 2 rfl) ?_
    refine lv_iconst (pc := 18) (v := 0) hx hb dX10_hour_18 (by decide) ?_
    refine lv_aload_n (pc := 19) hx hb dX10_hour_19 rfl (lv_at hl 0 rfl) ?_
    refine zg_DrinkingRoofs_now (pc := 20) X wx1 zw_fl_2_173 dX10_hour_20 ?_
    refine zg_Street_latestHours (pc := 23) X wx1 zk_1 zw_fl_1_234 dX10_hour_23 ?_
    refine lv_iconst (pc := 26) (v := 1) hx hb dX10_hour_26 (by decide) ?_
    refine lv_isub (pc := 27) hx hb dX10_hour_27 ?_
    obtain ⟨x3, ex3, h⟩ := z_bd h
    refine z_csI (pc := 28) (rest := []) X wx1 (m_X10_within  ex3) zw_ml_2_208 zw_st_2_209 zw_in_1_1 zw_co_2_210 zd_X10_within (by decide) rfl hl.1 rfl (Nat.le_of_ble_eq_true rfl) dX10_hour_28 ⟨Nat.zero_le _, Nat.zero_le _⟩ (fun Hx3 lx3 wx3 => ?_)
    refine lv_if_ne (pc := 31) (tgt := 36) hx hb dX10_hour_31 (by decide) (fun c4 => ?_) (fun c4 => ?_)
    · replace h := z_f c4 h
      refine lv_aload_n (pc := 36) hx hb dX10_hour_36 rfl (lv_at hl 0 rfl) ?_
      refine zg_DrinkingRoofs_now (pc := 37) X wx3 zw_fl_2_173 dX10_hour_37 ?_
      refine zg_Street_roofs (pc := 40) X wx3 zk_1 zw_fl_1_214 dX10_hour_40 ?_
      refine zg_Roofs_houses (pc := 43) X wx3 zk_3 zw_fl_1_146 dX10_hour_43 ?_
      refine lv_iload_n (pc := 46) hx hb dX10_hour_46 rfl (lv_at hl 1 rfl) ?_
      obtain ⟨g5, h⟩ := z_gd h
      refine z_aald16 (pc := 47) X wx3 zk_6 zl_6 g5 dX10_hour_47 ?_
      refine lv_iload_n (pc := 48) hx hb dX10_hour_48 rfl (lv_at hl 2 rfl) ?_
      refine lv_iload_n (pc := 49) hx hb dX10_hour_49 rfl (lv_at hl 3 rfl) ?_
      obtain ⟨x6, ex6, h⟩ := z_bd h
      refine z_cvI (pc := 50) (rest := []) X wx3 (m_X2_toldOf (zk_el16 zk_6 g5) ex6) (z_lt (zk_el16 zk_6 g5) (by decide)) (z_E2 (zk_el16 zk_6 g5)) rfl zw_ml_4_109 zw_im_4_110 zw_se_4_111 zw_in_1_4 zw_co_4_112 zd_X2_toldOf (by decide) rfl hl.1 rfl (Nat.le_of_ble_eq_true rfl) dX10_hour_50 ⟨Nat.zero_le _, Nat.zero_le _⟩ (fun Hx6 lx6 wx6 => ?_)
      obtain rfl := Option.some.inj h
      exact z_ri (pc := 53) X wx6 dX10_hour_53
    · replace h := z_t c4 h
      refine lv_iconst (pc := 34) (v := -1) hx hb dX10_hour_34 (by decide) ?_
      obtain rfl := Option.some.inj h
      exact z_ri (pc := 35) X wx3 dX10_hour_35
def f_X10_blame_44 (i1 : Int32) (i2 : Int32) (i3 : Int32) (i4 : Int32) (M : zM) : Option (Int64 × zM) :=
    (f_X0_choose 3 M).bind fun x1 =>
    if x1.1 = 0 then (
      some ((-1 : Int64), x1.2)
    ) else (
      if i4 = (2 : Int32) then (
        z_g (z_ix i3 10) <|
        (f_X0_overWith (0 : Int32) i1 3 5 (z_ra 9 (Int32.toNatClampNeg i3)) x1.2).bind fun x8 =>
        some ((Int32.toInt64 x8.1), x8.2)
      ) else (
        z_g (z_ix i3 10) <|
        (f_X0_weigh i1 i2 3 5 (z_ra 9 (Int32.toNatClampNeg i3)) x1.2).bind fun x5 =>
        if i4 = 0 then (
          some ((x5.2 32 0), x5)
        ) else (
          some ((x5.2 32 1), x5)
        )
      )
    )
def f_X10_blame (i1 : Int32) (i2 : Int32) (i3 : Int32) (i4 : Int32) (M : zM) : Option (Int64 × zM) :=
  (f_X10_isHouse i1 M).bind fun x1 =>
  if x1.1 = 0 then (
    some ((-1 : Int64), x1.2)
  ) else (
    (f_X10_isStorm i3 x1.2).bind fun x3 =>
    if x3.1 = 0 then (
      some ((-1 : Int64), x3.2)
    ) else (
      (f_X10_within i4 (0 : Int32) (2 : Int32) x3.2).bind fun x5 =>
      if x5.1 = 0 then (
        some ((-1 : Int64), x5.2)
      ) else (
        if i4 = (2 : Int32) then (
          f_X10_blame_44 i1 i2 i3 i4 x5.2
        ) else (
          (f_X10_isHouse i2 x5.2).bind fun x8 =>
          if x8.1 = 0 then (
            some ((-1 : Int64), x8.2)
          ) else (
            f_X10_blame_44 i1 i2 i3 i4 x8.2
          )
        )
      )
    )
  )
set_option maxHeartbeats 4000000 in
set_option maxRecDepth 100000 in
theorem w_X10_blame_44 {G : zG} {p : Program} {l : Launch} {e : Env} {s : State} {m : MethodId} {args : Array Value} {below : List Frame} {meth : Method} {c : Code} (X : z_C G p s m args meth c cX10_blame 5 RX10 (some .long)) {r : Int64 × zM} : ∀ (i1 : Int32) (i2 : Int32) (i3 : Int32) (i4 : Int32) (M : zM) (H : Heap) (locs : List Loc) (ls : Array Slot), z_W G M H locs → lv_has ls 5 [(0, .ref (G.1 0)), (1, .int i1), (2, .int i2), (3, .int i3), (4, .int i4)] → f_X10_blame_44 i1 i2 i3 i4 M = some r → W p l e (z_rm 6) s m args below meth c H locs 0 0 (z_Q G below args s (some (.long r.1)) r.2) (F0 m 44 ls []) := by
  have hx := X.1
  have hb := X.2.1
  intro i1 i2 i3 i4 M H locs ls  hw hl h
  unfold f_X10_blame_44 at h
  refine lv_aload_n (pc := 44) hx hb dX10_blame_44 rfl (lv_at hl 0 rfl) ?_
  refine zg_DrinkingRoofs_blame (pc := 45) X hw zw_fl_2_178 dX10_blame_45 ?_
  refine lv_aload_n (pc := 48) hx hb dX10_blame_48 rfl (lv_at hl 0 rfl) ?_
  refine zg_DrinkingRoofs_now (pc := 49) X hw zw_fl_2_173 dX10_blame_49 ?_
  refine zg_Street_roofs (pc := 52) X hw zk_1 zw_fl_1_214 dX10_blame_52 ?_
  obtain ⟨x1, ex1, h⟩ := z_bd h
  refine z_cvI (pc := 55) (rest := []) X hw (m_X0_choose zk_3 ex1) (z_lt zk_32 (by decide)) (z_E0 zk_32) rfl zw_ml_4_118 zw_im_4_119 zw_se_4_120 zw_in_1_9 zw_co_4_121 zd_X0_choose (by decide) rfl hl.1 rfl (Nat.le_of_ble_eq_true rfl) dX10_blame_55 ⟨Nat.zero_le _, Nat.zero_le _⟩ (fun Hx1 lx1 wx1 => ?_)
  refine lv_if_ne (pc := 58) (tgt := 65) hx hb dX10_blame_58 (by decide) (fun c2 => ?_) (fun c2 => ?_)
  · replace h := z_f c2 h
    refine lv_iload (pc := 65) hx hb dX10_blame_65 (lv_at hl 4 rfl) ?_
    refine lv_iconst (pc := 67) (v := 2) hx hb dX10_blame_67 (by decide) ?_
    refine lv_icmp_ne (pc := 68) (tgt := 102) hx hb dX10_blame_68 (by decide) (fun c3 => ?_) (fun c3 => ?_)
    · replace h := z_f c3 h
      refine lv_aload_n (pc := 102) hx hb dX10_blame_102 rfl (lv_at hl 0 rfl) ?_
      refine zg_DrinkingRoofs_blame (pc := 103) X wx1 zw_fl_2_178 dX10_blame_103 ?_
      refine lv_iload_n (pc := 106) hx hb dX10_blame_106 rfl (lv_at hl 1 rfl) ?_
      refine lv_iload_n (pc := 107) hx hb dX10_blame_107 rfl (lv_at hl 2 rfl) ?_
      refine lv_aload_n (pc := 108) hx hb dX10_blame_108 rfl (lv_at hl 0 rfl) ?_
      refine zg_DrinkingRoofs_now (pc := 109) X wx1 zw_fl_2_173 dX10_blame_109 ?_
      refine zg_Street_roofs (pc := 112) X wx1 zk_1 zw_fl_1_214 dX10_blame_112 ?_
      refine lv_aload_n (pc := 115) hx hb dX10_blame_115 rfl (lv_at hl 0 rfl) ?_
      refine zg_DrinkingRoofs_thought (pc := 116) X wx1 zw_fl_2_175 dX10_blame_116 ?_
      refine lv_aload_n (pc := 119) hx hb dX10_blame_119 rfl (lv_at hl 0 rfl) ?_
      refine zg_DrinkingRoofs_now (pc := 120) X wx1 zw_fl_2_173 dX10_blame_120 ?_
      refine zg_Street_storms (pc := 123) X wx1 zk_1 zw_fl_1_222 dX10_blame_123 ?_
      refine lv_iload_n (pc := 126) hx hb dX10_blame_126 rfl (lv_at hl 3 rfl) ?_
      obtain ⟨g4, h⟩ := z_gd h
      refine z_aald17 (pc := 127) X wx1 zk_9 zl_9 g4 dX10_blame_127 ?_
      obtain ⟨x5, ex5, h⟩ := z_bd h
      refine z_cvV (pc := 128) (rest := []) X wx1 (m_X0_weigh zk_3 zk_5 (zk_el17 zk_9 g4) ex5) (z_lt zk_32 (by decide)) (z_E0 zk_32) rfl zw_ml_4_135 zw_im_4_136 zw_se_4_137 zw_in_1_9 zw_co_4_138 zd_X0_weigh (by decide) rfl hl.1 rfl (Nat.le_of_ble_eq_true rfl) dX10_blame_128 ⟨Nat.zero_le _, Nat.zero_le _⟩ (fun Hx5 lx5 wx5 => ?_)
      refine lv_iload (pc := 131) hx hb dX10_blame_131 (lv_at hl 4 rfl) ?_
      refine lv_if_ne (pc := 133) (tgt := 146) hx hb dX10_blame_133 (by decide) (fun c6 => ?_) (fun c6 => ?_)
      · replace h := z_f c6 h
        refine lv_aload_n (pc := 146) hx hb dX10_blame_146 rfl (lv_at hl 0 rfl) ?_
        refine zg_DrinkingRoofs_blame (pc := 147) X wx5 zw_fl_2_178 dX10_blame_147 ?_
        refine zg_Blame_shareBelow (pc := 150) X wx5 zw_fl_2_107 dX10_blame_150 ?_
        obtain rfl := Option.some.inj h
        exact z_rj (pc := 153) X wx5 dX10_blame_153
      · replace h := z_t c6 h
        refine lv_aload_n (pc := 136) hx hb dX10_blame_136 rfl (lv_at hl 0 rfl) ?_
        refine zg_DrinkingRoofs_blame (pc := 137) X wx5 zw_fl_2_178 dX10_blame_137 ?_
        refine zg_Blame_shareAbove (pc := 140) X wx5 zw_fl_2_105 dX10_blame_140 ?_
        refine lv_goto (pc := 143) (tgt := 153) hx hb dX10_blame_143 (by decide) ?_
        obtain rfl := Option.some.inj h
        exact z_rj (pc := 153) X wx5 dX10_blame_153
    · replace h := z_t c3 h
      refine lv_aload_n (pc := 71) hx hb dX10_blame_71 rfl (lv_at hl 0 rfl) ?_
      refine zg_DrinkingRoofs_blame (pc := 72) X wx1 zw_fl_2_178 dX10_blame_72 ?_
      refine lv_iconst (pc := 75) (v := 0) hx hb dX10_blame_75 (by decide) ?_
      refine lv_iload_n (pc := 76) hx hb dX10_blame_76 rfl (lv_at hl 1 rfl) ?_
      refine lv_aload_n (pc := 77) hx hb dX10_blame_77 rfl (lv_at hl 0 rfl) ?_
      refine zg_DrinkingRoofs_now (pc := 78) X wx1 zw_fl_2_173 dX10_blame_78 ?_
      refine zg_Street_roofs (pc := 81) X wx1 zk_1 zw_fl_1_214 dX10_blame_81 ?_
      refine lv_aload_n (pc := 84) hx hb dX10_blame_84 rfl (lv_at hl 0 rfl) ?_
      refine zg_DrinkingRoofs_thought (pc := 85) X wx1 zw_fl_2_175 dX10_blame_85 ?_
      refine lv_aload_n (pc := 88) hx hb dX10_blame_88 rfl (lv_at hl 0 rfl) ?_
      refine zg_DrinkingRoofs_now (pc := 89) X wx1 zw_fl_2_173 dX10_blame_89 ?_
      refine zg_Street_storms (pc := 92) X wx1 zk_1 zw_fl_1_222 dX10_blame_92 ?_
      refine lv_iload_n (pc := 95) hx hb dX10_blame_95 rfl (lv_at hl 3 rfl) ?_
      obtain ⟨g7, h⟩ := z_gd h
      refine z_aald17 (pc := 96) X wx1 zk_9 zl_9 g7 dX10_blame_96 ?_
      obtain ⟨x8, ex8, h⟩ := z_bd h
      refine z_cvI (pc := 97) (rest := []) X wx1 (m_X0_overWith zk_3 zk_5 (zk_el17 zk_9 g7) ex8) (z_lt zk_32 (by decide)) (z_E0 zk_32) rfl zw_ml_4_122 zw_im_4_123 zw_se_4_124 zw_in_1_9 zw_co_4_125 zd_X0_overWith (by decide) rfl hl.1 rfl (Nat.le_of_ble_eq_true rfl) dX10_blame_97 ⟨Nat.zero_le _, Nat.zero_le _⟩ (fun Hx8 lx8 wx8 => ?_)
      refine lv_i2l (pc := 100) hx hb dX10_blame_100 rfl ?_
      obtain rfl := Option.some.inj h
      exact z_rj (pc := 101) X wx8 dX10_blame_101
  · replace h := z_t c2 h
    refine lv_ldc2 (pc := 61) (v := -1) hx hb X.2.2.2.1 (X.2.2.2.2.1 _ zw_cl_4_117) dX10_blame_61 ?_
    obtain rfl := Option.some.inj h
    exact z_rj (pc := 64) X wx1 dX10_blame_64
set_option maxHeartbeats 4000000 in
set_option maxRecDepth 100000 in
theorem m_X10_blame {l : Launch} {G : zG} {i1 : Int32} {i2 : Int32} {i3 : Int32} {i4 : Int32} {M : zM} {r : Int64 × zM} (h : f_X10_blame i1 i2 i3 i4 M = some r) : z_T l G 6 yX10_blame (.code yX10_blame cX10_blame 5 (some .long)) [.ref (G.1 0), .int i1, .int i2, .int i3, .int i4] M (some (.long r.1)) r.2 := by
  refine z_of rfl ?_
  intro p e s m below meth c X hw
  have hl := lv_entry [.ref (G.1 0), .int i1, .int i2, .int i3, .int i4] (n := 5) (Nat.le_of_ble_eq_true rfl)
  rw [lg_entry_eq]
  generalize (lg_sl [.ref (G.1 0), .int i1, .int i2, .int i3, .int i4] ++ List.replicate (5 - (lg_sl [.ref (G.1 0), .int i1, .int i2, .int i3, .int i4]).length) Slot.unset).toArray = ls at hl ⊢
  have hl : lv_has ls 5 [(0, .ref (G.1 0)), (1, .int i1), (2, .int i2), (3, .int i3), (4, .int i4)] := hl
  generalize ([.ref (G.1 0), .int i1, .int i2, .int i3, .int i4] : List Value).toArray = args at X ⊢
  have X : z_C G p s m args meth c cX10_blame 5 RX10 (some .long) := X
  have hx := X.1
  have hb := X.2.1
  unfold f_X10_blame at h
  refine lv_aload_n (pc := 0) hx hb dX10_blame_0 rfl (lv_at hl 0 rfl) ?_
  refine lv_iload_n (pc := 1) hx hb dX10_blame_1 rfl (lv_at hl 1 rfl) ?_
  obtain ⟨x1, ex1, h⟩ := z_bd h
  refine z_cvI (pc := 2) (rest := []) X hw (m_X10_isHouse  ex1) (z_lt zk_0 (by decide)) (z_E10 zk_0) rfl zw_ml_2_219 zw_im_2_221 zw_se_S_0 zw_in_1_1 zw_co_2_222 zd_X10_isHouse (by decide) rfl hl.1 rfl (Nat.le_of_ble_eq_true rfl) dX10_blame_2 ⟨Nat.zero_le _, Nat.zero_le _⟩ (fun Hx1 lx1 wx1 => ?_)
  refine lv_if_eq (pc := 5) (tgt := 40) hx hb dX10_blame_5 (by decide) (fun c2 => ?_) (fun c2 => ?_)
  · replace h := z_t c2 h
    refine lv_ldc2 (pc := 40) (v := -1) hx hb X.2.2.2.1 (X.2.2.2.2.1 _ zw_cl_4_117) dX10_blame_40 ?_
    obtain rfl := Option.some.inj h
    exact z_rj (pc := 43) X wx1 dX10_blame_43
  · replace h := z_f c2 h
    refine lv_aload_n (pc := 8) hx hb dX10_blame_8 rfl (lv_at hl 0 rfl) ?_
    refine lv_iload_n (pc := 9) hx hb dX10_blame_9 rfl (lv_at hl 3 rfl) ?_
    obtain ⟨x3, ex3, h⟩ := z_bd h
    refine z_cvI (pc := 10) (rest := []) X wx1 (m_X10_isStorm  ex3) (z_lt zk_0 (by decide)) (z_E10 zk_0) rfl zw_ml_3_16 zw_im_3_18 zw_se_S_3 zw_in_1_1 zw_co_3_19 zd_X10_isStorm (by decide) rfl hl.1 rfl (Nat.le_of_ble_eq_true rfl) dX10_blame_10 ⟨Nat.zero_le _, Nat.zero_le _⟩ (fun Hx3 lx3 wx3 => ?_)
    refine lv_if_eq (pc := 13) (tgt := 40) hx hb dX10_blame_13 (by decide) (fun c4 => ?_) (fun c4 => ?_)
    · replace h := z_t c4 h
      refine lv_ldc2 (pc := 40) (v := -1) hx hb X.2.2.2.1 (X.2.2.2.2.1 _ zw_cl_4_117) dX10_blame_40 ?_
      obtain rfl := Option.some.inj h
      exact z_rj (pc := 43) X wx3 dX10_blame_43
    · replace h := z_f c4 h
      refine lv_iload (pc := 16) hx hb dX10_blame_16 (lv_at hl 4 rfl) ?_
      refine lv_iconst (pc := 18) (v := 0) hx hb dX10_blame_18 (by decide) ?_
      refine lv_iconst (pc := 19) (v := 2) hx hb dX10_blame_19 (by decide) ?_
      obtain ⟨x5, ex5, h⟩ := z_bd h
      refine z_csI (pc := 20) (rest := []) X wx3 (m_X10_within  ex5) zw_ml_2_208 zw_st_2_209 zw_in_1_1 zw_co_2_210 zd_X10_within (by decide) rfl hl.1 rfl (Nat.le_of_ble_eq_true rfl) dX10_blame_20 ⟨Nat.zero_le _, Nat.zero_le _⟩ (fun Hx5 lx5 wx5 => ?_)
      refine lv_if_eq (pc := 23) (tgt := 40) hx hb dX10_blame_23 (by decide) (fun c6 => ?_) (fun c6 => ?_)
      · replace h := z_t c6 h
        refine lv_ldc2 (pc := 40) (v := -1) hx hb X.2.2.2.1 (X.2.2.2.2.1 _ zw_cl_4_117) dX10_blame_40 ?_
        obtain rfl := Option.some.inj h
        exact z_rj (pc := 43) X wx5 dX10_blame_43
      · replace h := z_f c6 h
        refine lv_iload (pc := 26) hx hb dX10_blame_26 (lv_at hl 4 rfl) ?_
        refine lv_iconst (pc := 28) (v := 2) hx hb dX10_blame_28 (by decide) ?_
        refine lv_icmp_eq (pc := 29) (tgt := 44) hx hb dX10_blame_29 (by decide) (fun c7 => ?_) (fun c7 => ?_)
        · replace h := z_t c7 h
          exact w_X10_blame_44 X i1 i2 i3 i4 x5.2 Hx5 lx5 ls  wx5 (lv_sub hl [0, 1, 2, 3, 4] rfl) h
        · replace h := z_f c7 h
          refine lv_aload_n (pc := 32) hx hb dX10_blame_32 rfl (lv_at hl 0 rfl) ?_
          refine lv_iload_n (pc := 33) hx hb dX10_blame_33 rfl (lv_at hl 2 rfl) ?_
          obtain ⟨x8, ex8, h⟩ := z_bd h
          refine z_cvI (pc := 34) (rest := []) X wx5 (m_X10_isHouse  ex8) (z_lt zk_0 (by decide)) (z_E10 zk_0) rfl zw_ml_2_219 zw_im_2_221 zw_se_S_0 zw_in_1_1 zw_co_2_222 zd_X10_isHouse (by decide) rfl hl.1 rfl (Nat.le_of_ble_eq_true rfl) dX10_blame_34 ⟨Nat.zero_le _, Nat.zero_le _⟩ (fun Hx8 lx8 wx8 => ?_)
          refine lv_if_ne (pc := 37) (tgt := 44) hx hb dX10_blame_37 (by decide) (fun c9 => ?_) (fun c9 => ?_)
          · replace h := z_f c9 h
            exact w_X10_blame_44 X i1 i2 i3 i4 x8.2 Hx8 lx8 ls  wx8 (lv_sub hl [0, 1, 2, 3, 4] rfl) h
          · replace h := z_t c9 h
            refine lv_ldc2 (pc := 40) (v := -1) hx hb X.2.2.2.1 (X.2.2.2.2.1 _ zw_cl_4_117) dX10_blame_40 ?_
            obtain rfl := Option.some.inj h
            exact z_rj (pc := 43) X wx8 dX10_blame_43
def f_X10_planStorm (i1 : Int32) (M : zM) : Option (Int32 × zM) :=
  (f_X10_isStorm i1 M).bind fun x1 =>
  if x1.1 = 0 then (
    some ((0 : Int32), x1.2)
  ) else (
    if (x1.2.1 35 0) < (4 : Int32) then (
      z_g (z_ix (x1.2.1 35 0) 4) <|
      z_l (z_w x1.2 36 (Int32.toNatClampNeg (x1.2.1 35 0)) i1) fun M5 =>
      z_l (z_w M5 35 0 ((M5.1 35 0) + (1 : Int32))) fun M6 =>
      some ((1 : Int32), M6)
    ) else (
      some ((0 : Int32), x1.2)
    )
  )
set_option maxHeartbeats 4000000 in
set_option maxRecDepth 100000 in
theorem m_X10_planStorm {l : Launch} {G : zG} {i1 : Int32} {M : zM} {r : Int32 × zM} (h : f_X10_planStorm i1 M = some r) : z_T l G 2 yX10_planStorm (.code yX10_planStorm cX10_planStorm 2 (some .boolean)) [.ref (G.1 0), .int i1] M (some (.int r.1)) r.2 := by
  refine z_of rfl ?_
  intro p e s m below meth c X hw
  have hl := lv_entry [.ref (G.1 0), .int i1] (n := 2) (Nat.le_of_ble_eq_true rfl)
  rw [lg_entry_eq]
  generalize (lg_sl [.ref (G.1 0), .int i1] ++ List.replicate (2 - (lg_sl [.ref (G.1 0), .int i1]).length) Slot.unset).toArray = ls at hl ⊢
  have hl : lv_has ls 2 [(0, .ref (G.1 0)), (1, .int i1)] := hl
  generalize ([.ref (G.1 0), .int i1] : List Value).toArray = args at X ⊢
  have X : z_C G p s m args meth c cX10_planStorm 2 RX10 (some .boolean) := X
  have hx := X.1
  have hb := X.2.1
  unfold f_X10_planStorm at h
  refine lv_aload_n (pc := 0) hx hb dX10_planStorm_0 rfl (lv_at hl 0 rfl) ?_
  refine lv_iload_n (pc := 1) hx hb dX10_planStorm_1 rfl (lv_at hl 1 rfl) ?_
  obtain ⟨x1, ex1, h⟩ := z_bd h
  refine z_cvI (pc := 2) (rest := []) X hw (m_X10_isStorm  ex1) (z_lt zk_0 (by decide)) (z_E10 zk_0) rfl zw_ml_3_16 zw_im_3_18 zw_se_S_3 zw_in_1_1 zw_co_3_19 zd_X10_isStorm (by decide) rfl hl.1 rfl (Nat.le_of_ble_eq_true rfl) dX10_planStorm_2 ⟨Nat.zero_le _, Nat.zero_le _⟩ (fun Hx1 lx1 wx1 => ?_)
  refine lv_if_eq (pc := 5) (tgt := 19) hx hb dX10_planStorm_5 (by decide) (fun c2 => ?_) (fun c2 => ?_)
  · replace h := z_t c2 h
    refine lv_iconst (pc := 19) (v := 0) hx hb dX10_planStorm_19 (by decide) ?_
    obtain rfl := Option.some.inj h
    exact z_rz (pc := 20) X wx1 (z_nb (x := 0) (by decide)) dX10_planStorm_20
  · replace h := z_f c2 h
    refine lv_aload_n (pc := 8) hx hb dX10_planStorm_8 rfl (lv_at hl 0 rfl) ?_
    refine zg_DrinkingRoofs_cleaning (pc := 9) X wx1 zw_fl_2_179 dX10_planStorm_9 ?_
    refine zg_Cleaning_stormCount (pc := 12) X wx1 zw_fl_2_129 dX10_planStorm_12 ?_
    refine lv_iconst (pc := 15) (v := 4) hx hb dX10_planStorm_15 (by decide) ?_
    refine lv_icmp_lt (pc := 16) (tgt := 21) hx hb dX10_planStorm_16 (by decide) (fun c3 => ?_) (fun c3 => ?_)
    · replace h := z_t c3 h
      refine lv_aload_n (pc := 21) hx hb dX10_planStorm_21 rfl (lv_at hl 0 rfl) ?_
      refine zg_DrinkingRoofs_cleaning (pc := 22) X wx1 zw_fl_2_179 dX10_planStorm_22 ?_
      refine zg_Cleaning_storms (pc := 25) X wx1 zw_fl_2_133 dX10_planStorm_25 ?_
      refine lv_aload_n (pc := 28) hx hb dX10_planStorm_28 rfl (lv_at hl 0 rfl) ?_
      refine zg_DrinkingRoofs_cleaning (pc := 29) X wx1 zw_fl_2_179 dX10_planStorm_29 ?_
      refine zg_Cleaning_stormCount (pc := 32) X wx1 zw_fl_2_129 dX10_planStorm_32 ?_
      refine lv_iload_n (pc := 35) hx hb dX10_planStorm_35 rfl (lv_at hl 1 rfl) ?_
      obtain ⟨g4, h⟩ := z_gd h
      refine z_iast (pc := 36) X wx1 zk_36 zl_36 g4 dX10_planStorm_36 (fun HM5 lM5 wM5 => ?_)
      obtain ⟨M5, eM5, h⟩ := z_lo h
      rw [← eM5] at wM5
      refine lv_aload_n (pc := 37) hx hb dX10_planStorm_37 rfl (lv_at hl 0 rfl) ?_
      refine zg_DrinkingRoofs_cleaning (pc := 38) X wM5 zw_fl_2_179 dX10_planStorm_38 ?_
      refine lv_dup (pc := 41) hx hb dX10_planStorm_41 rfl ?_
      refine zg_Cleaning_stormCount (pc := 42) X wM5 zw_fl_2_129 dX10_planStorm_42 ?_
      refine lv_iconst (pc := 45) (v := 1) hx hb dX10_planStorm_45 (by decide) ?_
      refine lv_iadd (pc := 46) hx hb dX10_planStorm_46 ?_
      refine zp_Cleaning_stormCount (pc := 47) X wM5 zw_fl_2_129 dX10_planStorm_47 (fun HM6 lM6 wM6 => ?_)
      obtain ⟨M6, eM6, h⟩ := z_lo h
      rw [← eM6] at wM6
      refine lv_iconst (pc := 50) (v := 1) hx hb dX10_planStorm_50 (by decide) ?_
      obtain rfl := Option.some.inj h
      exact z_rz (pc := 51) X wM6 (z_nb (x := 1) (by decide)) dX10_planStorm_51
    · replace h := z_f c3 h
      refine lv_iconst (pc := 19) (v := 0) hx hb dX10_planStorm_19 (by decide) ?_
      obtain rfl := Option.some.inj h
      exact z_rz (pc := 20) X wx1 (z_nb (x := 0) (by decide)) dX10_planStorm_20
def f_X10_planStorms (i1 : Int32) (i2 : Int32) (i3 : Int32) (i4 : Int32) (M : zM) : Option (Int32 × zM) :=
  z_l (z_w M 35 0 (0 : Int32)) fun M1 =>
  (f_X10_planStorm i1 M1).bind fun x2 =>
  if x2.1 = 0 then (
    some ((0 : Int32), x2.2)
  ) else (
    if i2 = (-1 : Int32) then (
      some ((1 : Int32), x2.2)
    ) else (
      (f_X10_planStorm i2 x2.2).bind fun x5 =>
      if x5.1 = 0 then (
        some ((0 : Int32), x5.2)
      ) else (
        if i3 = (-1 : Int32) then (
          some ((1 : Int32), x5.2)
        ) else (
          (f_X10_planStorm i3 x5.2).bind fun x8 =>
          if x8.1 = 0 then (
            some ((0 : Int32), x8.2)
          ) else (
            if i4 = (-1 : Int32) then (
              some ((1 : Int32), x8.2)
            ) else (
              (f_X10_planStorm i4 x8.2).bind fun x11 =>
              if x11.1 = 0 then (
                some ((0 : Int32), x11.2)
              ) else (
                some ((1 : Int32), x11.2)
              )
            )
          )
        )
      )
    )
  )
set_option maxHeartbeats 4000000 in
set_option maxRecDepth 100000 in
theorem m_X10_planStorms {l : Launch} {G : zG} {i1 : Int32} {i2 : Int32} {i3 : Int32} {i4 : Int32} {M : zM} {r : Int32 × zM} (h : f_X10_planStorms i1 i2 i3 i4 M = some r) : z_T l G 3 yX10_planStorms (.code yX10_planStorms cX10_planStorms 5 (some .boolean)) [.ref (G.1 0), .int i1, .int i2, .int i3, .int i4] M (some (.int r.1)) r.2 := by
  refine z_of rfl ?_
  intro p e s m below meth c X hw
  have hl := lv_entry [.ref (G.1 0), .int i1, .int i2, .int i3, .int i4] (n := 5) (Nat.le_of_ble_eq_true rfl)
  rw [lg_entry_eq]
  generalize (lg_sl [.ref (G.1 0), .int i1, .int i2, .int i3, .int i4] ++ List.replicate (5 - (lg_sl [.ref (G.1 0), .int i1, .int i2, .int i3, .int i4]).length) Slot.unset).toArray = ls at hl ⊢
  have hl : lv_has ls 5 [(0, .ref (G.1 0)), (1, .int i1), (2, .int i2), (3, .int i3), (4, .int i4)] := hl
  generalize ([.ref (G.1 0), .int i1, .int i2, .int i3, .int i4] : List Value).toArray = args at X ⊢
  have X : z_C G p s m args meth c cX10_planStorms 5 RX10 (some .boolean) := X
  have hx := X.1
  have hb := X.2.1
  unfold f_X10_planStorms at h
  refine lv_aload_n (pc := 0) hx hb dX10_planStorms_0 rfl (lv_at hl 0 rfl) ?_
  refine zg_DrinkingRoofs_cleaning (pc := 1) X hw zw_fl_2_179 dX10_planStorms_1 ?_
  refine lv_iconst (pc := 4) (v := 0) hx hb dX10_planStorms_4 (by decide) ?_
  refine zp_Cleaning_stormCount (pc := 5) X hw zw_fl_2_129 dX10_planStorms_5 (fun HM1 lM1 wM1 => ?_)
  obtain ⟨M1, eM1, h⟩ := z_lo h
  rw [← eM1] at wM1
  refine lv_aload_n (pc := 8) hx hb dX10_planStorms_8 rfl (lv_at hl 0 rfl) ?_
  refine lv_iload_n (pc := 9) hx hb dX10_planStorms_9 rfl (lv_at hl 1 rfl) ?_
  obtain ⟨x2, ex2, h⟩ := z_bd h
  refine z_cvI (pc := 10) (rest := []) X wM1 (m_X10_planStorm  ex2) (z_lt zk_0 (by decide)) (z_E10 zk_0) rfl zw_ml_4_169 zw_im_4_171 zw_se_S_27 zw_in_1_1 zw_co_4_172 zd_X10_planStorm (by decide) rfl hl.1 rfl (Nat.le_of_ble_eq_true rfl) dX10_planStorms_10 ⟨Nat.zero_le _, Nat.zero_le _⟩ (fun Hx2 lx2 wx2 => ?_)
  refine lv_if_eq (pc := 13) (tgt := 61) hx hb dX10_planStorms_13 (by decide) (fun c3 => ?_) (fun c3 => ?_)
  · replace h := z_t c3 h
    refine lv_iconst (pc := 61) (v := 0) hx hb dX10_planStorms_61 (by decide) ?_
    obtain rfl := Option.some.inj h
    exact z_rz (pc := 62) X wx2 (z_nb (x := 0) (by decide)) dX10_planStorms_62
  · replace h := z_f c3 h
    refine lv_iload_n (pc := 16) hx hb dX10_planStorms_16 rfl (lv_at hl 2 rfl) ?_
    refine lv_iconst (pc := 17) (v := -1) hx hb dX10_planStorms_17 (by decide) ?_
    refine lv_icmp_eq (pc := 18) (tgt := 57) hx hb dX10_planStorms_18 (by decide) (fun c4 => ?_) (fun c4 => ?_)
    · replace h := z_t c4 h
      refine lv_iconst (pc := 57) (v := 1) hx hb dX10_planStorms_57 (by decide) ?_
      refine lv_goto (pc := 58) (tgt := 62) hx hb dX10_planStorms_58 (by decide) ?_
      obtain rfl := Option.some.inj h
      exact z_rz (pc := 62) X wx2 (z_nb (x := 1) (by decide)) dX10_planStorms_62
    · replace h := z_f c4 h
      refine lv_aload_n (pc := 21) hx hb dX10_planStorms_21 rfl (lv_at hl 0 rfl) ?_
      refine lv_iload_n (pc := 22) hx hb dX10_planStorms_22 rfl (lv_at hl 2 rfl) ?_
      obtain ⟨x5, ex5, h⟩ := z_bd h
      refine z_cvI (pc := 23) (rest := []) X wx2 (m_X10_planStorm  ex5) (z_lt zk_0 (by decide)) (z_E10 zk_0) rfl zw_ml_4_169 zw_im_4_171 zw_se_S_27 zw_in_1_1 zw_co_4_172 zd_X10_planStorm (by decide) rfl hl.1 rfl (Nat.le_of_ble_eq_true rfl) dX10_planStorms_23 ⟨Nat.zero_le _, Nat.zero_le _⟩ (fun Hx5 lx5 wx5 => ?_)
      refine lv_if_eq (pc := 26) (tgt := 61) hx hb dX10_planStorms_26 (by decide) (fun c6 => ?_) (fun c6 => ?_)
      · replace h := z_t c6 h
        refine lv_iconst (pc := 61) (v := 0) hx hb dX10_planStorms_61 (by decide) ?_
        obtain rfl := Option.some.inj h
        exact z_rz (pc := 62) X wx5 (z_nb (x := 0) (by decide)) dX10_planStorms_62
      · replace h := z_f c6 h
        refine lv_iload_n (pc := 29) hx hb dX10_planStorms_29 rfl (lv_at hl 3 rfl) ?_
        refine lv_iconst (pc := 30) (v := -1) hx hb dX10_planStorms_30 (by decide) ?_
        refine lv_icmp_eq (pc := 31) (tgt := 57) hx hb dX10_planStorms_31 (by decide) (fun c7 => ?_) (fun c7 => ?_)
        · replace h := z_t c7 h
          refine lv_iconst (pc := 57) (v := 1) hx hb dX10_planStorms_57 (by decide) ?_
          refine lv_goto (pc := 58) (tgt := 62) hx hb dX10_planStorms_58 (by decide) ?_
          obtain rfl := Option.some.inj h
          exact z_rz (pc := 62) X wx5 (z_nb (x := 1) (by decide)) dX10_planStorms_62
        · replace h := z_f c7 h
          refine lv_aload_n (pc := 34) hx hb dX10_planStorms_34 rfl (lv_at hl 0 rfl) ?_
          refine lv_iload_n (pc := 35) hx hb dX10_planStorms_35 rfl (lv_at hl 3 rfl) ?_
          obtain ⟨x8, ex8, h⟩ := z_bd h
          refine z_cvI (pc := 36) (rest := []) X wx5 (m_X10_planStorm  ex8) (z_lt zk_0 (by decide)) (z_E10 zk_0) rfl zw_ml_4_169 zw_im_4_171 zw_se_S_27 zw_in_1_1 zw_co_4_172 zd_X10_planStorm (by decide) rfl hl.1 rfl (Nat.le_of_ble_eq_true rfl) dX10_planStorms_36 ⟨Nat.zero_le _, Nat.zero_le _⟩ (fun Hx8 lx8 wx8 => ?_)
          refine lv_if_eq (pc := 39) (tgt := 61) hx hb dX10_planStorms_39 (by decide) (fun c9 => ?_) (fun c9 => ?_)
          · replace h := z_t c9 h
            refine lv_iconst (pc := 61) (v := 0) hx hb dX10_planStorms_61 (by decide) ?_
            obtain rfl := Option.some.inj h
            exact z_rz (pc := 62) X wx8 (z_nb (x := 0) (by decide)) dX10_planStorms_62
          · replace h := z_f c9 h
            refine lv_iload (pc := 42) hx hb dX10_planStorms_42 (lv_at hl 4 rfl) ?_
            refine lv_iconst (pc := 44) (v := -1) hx hb dX10_planStorms_44 (by decide) ?_
            refine lv_icmp_eq (pc := 45) (tgt := 57) hx hb dX10_planStorms_45 (by decide) (fun c10 => ?_) (fun c10 => ?_)
            · replace h := z_t c10 h
              refine lv_iconst (pc := 57) (v := 1) hx hb dX10_planStorms_57 (by decide) ?_
              refine lv_goto (pc := 58) (tgt := 62) hx hb dX10_planStorms_58 (by decide) ?_
              obtain rfl := Option.some.inj h
              exact z_rz (pc := 62) X wx8 (z_nb (x := 1) (by decide)) dX10_planStorms_62
            · replace h := z_f c10 h
              refine lv_aload_n (pc := 48) hx hb dX10_planStorms_48 rfl (lv_at hl 0 rfl) ?_
              refine lv_iload (pc := 49) hx hb dX10_planStorms_49 (lv_at hl 4 rfl) ?_
              obtain ⟨x11, ex11, h⟩ := z_bd h
              refine z_cvI (pc := 51) (rest := []) X wx8 (m_X10_planStorm  ex11) (z_lt zk_0 (by decide)) (z_E10 zk_0) rfl zw_ml_4_169 zw_im_4_171 zw_se_S_27 zw_in_1_1 zw_co_4_172 zd_X10_planStorm (by decide) rfl hl.1 rfl (Nat.le_of_ble_eq_true rfl) dX10_planStorms_51 ⟨Nat.zero_le _, Nat.zero_le _⟩ (fun Hx11 lx11 wx11 => ?_)
              refine lv_if_eq (pc := 54) (tgt := 61) hx hb dX10_planStorms_54 (by decide) (fun c12 => ?_) (fun c12 => ?_)
              · replace h := z_t c12 h
                refine lv_iconst (pc := 61) (v := 0) hx hb dX10_planStorms_61 (by decide) ?_
                obtain rfl := Option.some.inj h
                exact z_rz (pc := 62) X wx11 (z_nb (x := 0) (by decide)) dX10_planStorms_62
              · replace h := z_f c12 h
                refine lv_iconst (pc := 57) (v := 1) hx hb dX10_planStorms_57 (by decide) ?_
                refine lv_goto (pc := 58) (tgt := 62) hx hb dX10_planStorms_58 (by decide) ?_
                obtain rfl := Option.some.inj h
                exact z_rz (pc := 62) X wx11 (z_nb (x := 1) (by decide)) dX10_planStorms_62
def f_X10_cleanings_60 (i5 : Int32) (i6 : Int32) (M : zM) : Option (Int32 × zM) :=
    (f_X1_rain 1 5 M).bind fun x1 =>
    (f_X1_plan 3 x1).bind fun x2 =>
    if x2.1 = 0 then (
      some ((-1 : Int32), x2.2)
    ) else (
      if i5 = 0 then (
        some ((x2.2.1 35 1), x2.2)
      ) else (
        z_g (z_ix i6 4) <|
        some ((x2.2.1 37 (Int32.toNatClampNeg i6)), x2.2)
      )
    )
def f_X10_cleanings (i1 : Int32) (i2 : Int32) (i3 : Int32) (i4 : Int32) (i5 : Int32) (M : zM) : Option (Int32 × zM) :=
  if (4 : Int32) < (M.1 3 0) then (
    some ((-1 : Int32), M)
  ) else (
    (f_X10_planStorms i1 i2 i3 i4 M).bind fun x2 =>
    if x2.1 = 0 then (
      some ((-1 : Int32), x2.2)
    ) else (
      z_l (i5 - (10 : Int32)) fun v4 =>
      if i5 = 0 then (
        f_X10_cleanings_60 i5 v4 x2.2
      ) else (
        (f_X10_within v4 (0 : Int32) ((x2.2.1 35 0) - (1 : Int32)) x2.2).bind fun x6 =>
        if x6.1 = 0 then (
          some ((-1 : Int32), x6.2)
        ) else (
          f_X10_cleanings_60 i5 v4 x6.2
        )
      )
    )
  )
set_option maxHeartbeats 4000000 in
set_option maxRecDepth 100000 in
theorem w_X10_cleanings_60 {G : zG} {p : Program} {l : Launch} {e : Env} {s : State} {m : MethodId} {args : Array Value} {below : List Frame} {meth : Method} {c : Code} (X : z_C G p s m args meth c cX10_cleanings 7 RX10 (some .int)) {r : Int32 × zM} : ∀ (i5 : Int32) (i6 : Int32) (M : zM) (H : Heap) (locs : List Loc) (ls : Array Slot), z_W G M H locs → lv_has ls 7 [(0, .ref (G.1 0)), (5, .int i5), (6, .int i6)] → f_X10_cleanings_60 i5 i6 M = some r → W p l e (z_rm 5) s m args below meth c H locs 0 0 (z_Q G below args s (some (.int r.1)) r.2) (F0 m 60 ls []) := by
  have hx := X.1
  have hb := X.2.1
  intro i5 i6 M H locs ls  hw hl h
  unfold f_X10_cleanings_60 at h
  refine lv_aload_n (pc := 60) hx hb dX10_cleanings_60 rfl (lv_at hl 0 rfl) ?_
  refine zg_DrinkingRoofs_cleaning (pc := 61) X hw zw_fl_2_179 dX10_cleanings_61 ?_
  refine lv_aload_n (pc := 64) hx hb dX10_cleanings_64 rfl (lv_at hl 0 rfl) ?_
  refine zg_DrinkingRoofs_now (pc := 65) X hw zw_fl_2_173 dX10_cleanings_65 ?_
  refine lv_aload_n (pc := 68) hx hb dX10_cleanings_68 rfl (lv_at hl 0 rfl) ?_
  refine zg_DrinkingRoofs_thought (pc := 69) X hw zw_fl_2_175 dX10_cleanings_69 ?_
  obtain ⟨x1, ex1, h⟩ := z_bd h
  refine z_cvV (pc := 72) (rest := []) X hw (m_X1_rain zk_1 zk_5 ex1) (z_lt zk_35 (by decide)) (z_E1 zk_35) rfl zw_ml_4_173 zw_im_4_174 zw_se_4_175 zw_in_1_10 zw_co_4_176 zd_X1_rain (by decide) rfl hl.1 rfl (Nat.le_of_ble_eq_true rfl) dX10_cleanings_72 ⟨Nat.zero_le _, Nat.zero_le _⟩ (fun Hx1 lx1 wx1 => ?_)
  refine lv_aload_n (pc := 75) hx hb dX10_cleanings_75 rfl (lv_at hl 0 rfl) ?_
  refine zg_DrinkingRoofs_cleaning (pc := 76) X wx1 zw_fl_2_179 dX10_cleanings_76 ?_
  refine lv_aload_n (pc := 79) hx hb dX10_cleanings_79 rfl (lv_at hl 0 rfl) ?_
  refine zg_DrinkingRoofs_now (pc := 80) X wx1 zw_fl_2_173 dX10_cleanings_80 ?_
  refine zg_Street_roofs (pc := 83) X wx1 zk_1 zw_fl_1_214 dX10_cleanings_83 ?_
  obtain ⟨x2, ex2, h⟩ := z_bd h
  refine z_cvI (pc := 86) (rest := []) X wx1 (m_X1_plan zk_3 ex2) (z_lt zk_35 (by decide)) (z_E1 zk_35) rfl zw_ml_4_184 zw_im_4_185 zw_se_4_186 zw_in_1_10 zw_co_4_187 zd_X1_plan (by decide) rfl hl.1 rfl (Nat.le_of_ble_eq_true rfl) dX10_cleanings_86 ⟨Nat.zero_le _, Nat.zero_le _⟩ (fun Hx2 lx2 wx2 => ?_)
  refine lv_if_ne (pc := 89) (tgt := 94) hx hb dX10_cleanings_89 (by decide) (fun c3 => ?_) (fun c3 => ?_)
  · replace h := z_f c3 h
    refine lv_iload (pc := 94) hx hb dX10_cleanings_94 (lv_at hl 1 rfl) ?_
    refine lv_if_ne (pc := 96) (tgt := 109) hx hb dX10_cleanings_96 (by decide) (fun c4 => ?_) (fun c4 => ?_)
    · replace h := z_f c4 h
      refine lv_aload_n (pc := 109) hx hb dX10_cleanings_109 rfl (lv_at hl 0 rfl) ?_
      refine zg_DrinkingRoofs_cleaning (pc := 110) X wx2 zw_fl_2_179 dX10_cleanings_110 ?_
      refine zg_Cleaning_sets (pc := 113) X wx2 zw_fl_2_135 dX10_cleanings_113 ?_
      refine lv_iload (pc := 116) hx hb dX10_cleanings_116 (lv_at hl 2 rfl) ?_
      obtain ⟨g5, h⟩ := z_gd h
      refine z_iald (pc := 118) X wx2 zk_37 zl_37 g5 dX10_cleanings_118 ?_
      obtain rfl := Option.some.inj h
      exact z_ri (pc := 119) X wx2 dX10_cleanings_119
    · replace h := z_t c4 h
      refine lv_aload_n (pc := 99) hx hb dX10_cleanings_99 rfl (lv_at hl 0 rfl) ?_
      refine zg_DrinkingRoofs_cleaning (pc := 100) X wx2 zw_fl_2_179 dX10_cleanings_100 ?_
      refine zg_Cleaning_fewest (pc := 103) X wx2 zw_fl_2_131 dX10_cleanings_103 ?_
      refine lv_goto (pc := 106) (tgt := 119) hx hb dX10_cleanings_106 (by decide) ?_
      obtain rfl := Option.some.inj h
      exact z_ri (pc := 119) X wx2 dX10_cleanings_119
  · replace h := z_t c3 h
    refine lv_iconst (pc := 92) (v := -1) hx hb dX10_cleanings_92 (by decide) ?_
    obtain rfl := Option.some.inj h
    exact z_ri (pc := 93) X wx2 dX10_cleanings_93
set_option maxHeartbeats 4000000 in
set_option maxRecDepth 100000 in
theorem m_X10_cleanings {l : Launch} {G : zG} {i1 : Int32} {i2 : Int32} {i3 : Int32} {i4 : Int32} {i5 : Int32} {M : zM} {r : Int32 × zM} (h : f_X10_cleanings i1 i2 i3 i4 i5 M = some r) : z_T l G 5 yX10_cleanings (.code yX10_cleanings cX10_cleanings 7 (some .int)) [.ref (G.1 0), .int i1, .int i2, .int i3, .int i4, .int i5] M (some (.int r.1)) r.2 := by
  refine z_of rfl ?_
  intro p e s m below meth c X hw
  have hl := lv_entry [.ref (G.1 0), .int i1, .int i2, .int i3, .int i4, .int i5] (n := 7) (Nat.le_of_ble_eq_true rfl)
  rw [lg_entry_eq]
  generalize (lg_sl [.ref (G.1 0), .int i1, .int i2, .int i3, .int i4, .int i5] ++ List.replicate (7 - (lg_sl [.ref (G.1 0), .int i1, .int i2, .int i3, .int i4, .int i5]).length) Slot.unset).toArray = ls at hl ⊢
  have hl : lv_has ls 7 [(0, .ref (G.1 0)), (1, .int i1), (2, .int i2), (3, .int i3), (4, .int i4), (5, .int i5)] := hl
  generalize ([.ref (G.1 0), .int i1, .int i2, .int i3, .int i4, .int i5] : List Value).toArray = args at X ⊢
  have X : z_C G p s m args meth c cX10_cleanings 7 RX10 (some .int) := X
  have hx := X.1
  have hb := X.2.1
  unfold f_X10_cleanings at h
  refine lv_aload_n (pc := 0) hx hb dX10_cleanings_0 rfl (lv_at hl 0 rfl) ?_
  refine zg_DrinkingRoofs_now (pc := 1) X hw zw_fl_2_173 dX10_cleanings_1 ?_
  refine zg_Street_roofs (pc := 4) X hw zk_1 zw_fl_1_214 dX10_cleanings_4 ?_
  refine zg_Roofs_count (pc := 7) X hw zk_3 zw_fl_1_136 dX10_cleanings_7 ?_
  refine lv_iconst (pc := 10) (v := 4) hx hb dX10_cleanings_10 (by decide) ?_
  refine lv_icmp_gt (pc := 11) (tgt := 26) hx hb dX10_cleanings_11 (by decide) (fun c1 => ?_) (fun c1 => ?_)
  · replace h := z_t c1 h
    refine lv_iconst (pc := 26) (v := -1) hx hb dX10_cleanings_26 (by decide) ?_
    obtain rfl := Option.some.inj h
    exact z_ri (pc := 27) X hw dX10_cleanings_27
  · replace h := z_f c1 h
    refine lv_aload_n (pc := 14) hx hb dX10_cleanings_14 rfl (lv_at hl 0 rfl) ?_
    refine lv_iload_n (pc := 15) hx hb dX10_cleanings_15 rfl (lv_at hl 1 rfl) ?_
    refine lv_iload_n (pc := 16) hx hb dX10_cleanings_16 rfl (lv_at hl 2 rfl) ?_
    refine lv_iload_n (pc := 17) hx hb dX10_cleanings_17 rfl (lv_at hl 3 rfl) ?_
    refine lv_iload (pc := 18) hx hb dX10_cleanings_18 (lv_at hl 4 rfl) ?_
    obtain ⟨x2, ex2, h⟩ := z_bd h
    refine z_cvI (pc := 20) (rest := []) X hw (m_X10_planStorms  ex2) (z_lt zk_0 (by decide)) (z_E10 zk_0) rfl zw_ml_4_165 zw_im_4_167 zw_se_S_26 zw_in_1_1 zw_co_4_168 zd_X10_planStorms (by decide) rfl hl.1 rfl (Nat.le_of_ble_eq_true rfl) dX10_cleanings_20 ⟨Nat.zero_le _, Nat.zero_le _⟩ (fun Hx2 lx2 wx2 => ?_)
    refine lv_if_ne (pc := 23) (tgt := 28) hx hb dX10_cleanings_23 (by decide) (fun c3 => ?_) (fun c3 => ?_)
    · replace h := z_f c3 h
      refine lv_iload (pc := 28) hx hb dX10_cleanings_28 (lv_at hl 5 rfl) ?_
      refine lv_bipush (pc := 30) (v := 10) hx hb dX10_cleanings_30 (by decide) ?_
      refine lv_isub (pc := 32) hx hb dX10_cleanings_32 ?_
      obtain ⟨v4, ev4, h⟩ := z_lo h
      refine z_topi ev4 ?_
      refine lv_istore (pc := 33) (lv' := [(6, .int v4), (0, .ref (G.1 0)), (1, .int i1), (2, .int i2), (3, .int i3), (4, .int i4), (5, .int i5)]) hx hb dX10_cleanings_33 hl (by decide) rfl (fun ls hl => ?_)
      refine lv_iload (pc := 35) hx hb dX10_cleanings_35 (lv_at hl 6 rfl) ?_
      refine lv_if_eq (pc := 37) (tgt := 60) hx hb dX10_cleanings_37 (by decide) (fun c5 => ?_) (fun c5 => ?_)
      · replace h := z_t c5 h
        exact w_X10_cleanings_60 X i5 v4 x2.2 Hx2 lx2 ls  wx2 (lv_sub hl [1, 6, 0] rfl) h
      · replace h := z_f c5 h
        refine lv_iload (pc := 40) hx hb dX10_cleanings_40 (lv_at hl 0 rfl) ?_
        refine lv_iconst (pc := 42) (v := 0) hx hb dX10_cleanings_42 (by decide) ?_
        refine lv_aload_n (pc := 43) hx hb dX10_cleanings_43 rfl (lv_at hl 1 rfl) ?_
        refine zg_DrinkingRoofs_cleaning (pc := 44) X wx2 zw_fl_2_179 dX10_cleanings_44 ?_
        refine zg_Cleaning_stormCount (pc := 47) X wx2 zw_fl_2_129 dX10_cleanings_47 ?_
        refine lv_iconst (pc := 50) (v := 1) hx hb dX10_cleanings_50 (by decide) ?_
        refine lv_isub (pc := 51) hx hb dX10_cleanings_51 ?_
        obtain ⟨x6, ex6, h⟩ := z_bd h
        refine z_csI (pc := 52) (rest := []) X wx2 (m_X10_within  ex6) zw_ml_2_208 zw_st_2_209 zw_in_1_1 zw_co_2_210 zd_X10_within (by decide) rfl hl.1 rfl (Nat.le_of_ble_eq_true rfl) dX10_cleanings_52 ⟨Nat.zero_le _, Nat.zero_le _⟩ (fun Hx6 lx6 wx6 => ?_)
        refine lv_if_ne (pc := 55) (tgt := 60) hx hb dX10_cleanings_55 (by decide) (fun c7 => ?_) (fun c7 => ?_)
        · replace h := z_f c7 h
          exact w_X10_cleanings_60 X i5 v4 x6.2 Hx6 lx6 ls  wx6 (lv_sub hl [1, 6, 0] rfl) h
        · replace h := z_t c7 h
          refine lv_iconst (pc := 58) (v := -1) hx hb dX10_cleanings_58 (by decide) ?_
          obtain rfl := Option.some.inj h
          exact z_ri (pc := 59) X wx6 dX10_cleanings_59
    · replace h := z_t c3 h
      refine lv_iconst (pc := 26) (v := -1) hx hb dX10_cleanings_26 (by decide) ?_
      obtain rfl := Option.some.inj h
      exact z_ri (pc := 27) X wx2 dX10_cleanings_27
def f_X10_widerPrice_4 : Nat → Int32 → Int32 → zM → Option (Int32 × zM)
  | 0, _, _, _ => none
  | n + 1, i1, i2, M =>
    if (M.1 3 0) ≤ i2 then (
      some (i1, M)
    ) else (
      z_g (z_ix i2 10) <|
      z_l (z_ra 6 (Int32.toNatClampNeg i2)) fun v3 =>
      z_g (z_ix i2 10) <|
      z_l (i1 + ((M.1 v3 3) * (if (0 : Int32) < ((M.1 (z_ra 8 (Int32.toNatClampNeg i2)) 14) - (M.1 v3 1)) then ((M.1 (z_ra 8 (Int32.toNatClampNeg i2)) 14) - (M.1 v3 1)) else (0 : Int32)))) fun v5 =>
      z_l (i2 + (1 : Int32)) fun v6 =>
      f_X10_widerPrice_4 n v5 v6 M
    )
def f_X10_widerPrice  (M : zM) : Option (Int32 × zM) :=
  f_X10_widerPrice_4 z_F (0 : Int32) (0 : Int32) M
set_option maxHeartbeats 4000000 in
set_option maxRecDepth 100000 in
theorem w_X10_widerPrice_4 {G : zG} {p : Program} {l : Launch} {e : Env} {s : State} {m : MethodId} {args : Array Value} {below : List Frame} {meth : Method} {c : Code} (X : z_C G p s m args meth c cX10_widerPrice 4 RX10 (some .int)) {r : Int32 × zM} : ∀ (n : Nat) (i1 : Int32) (i2 : Int32) (M : zM) (H : Heap) (locs : List Loc) (ls : Array Slot), z_W G M H locs → lv_has ls 4 [(0, .ref (G.1 0)), (1, .int i1), (2, .int i2)] → f_X10_widerPrice_4 n i1 i2 M = some r → W p l e (z_rm 0) s m args below meth c H locs 0 0 (z_Q G below args s (some (.int r.1)) r.2) (F0 m 4 ls []) := by
  have hx := X.1
  have hb := X.2.1
  intro n
  induction n with
  | zero =>
    intro i1 i2 M H locs ls  hw hl h
    exact z_no h
  | succ n ih =>
    intro i1 i2 M H locs ls  hw hl h
    rw [f_X10_widerPrice_4] at h
    refine lv_iload_n (pc := 4) hx hb dX10_widerPrice_4 rfl (lv_at hl 2 rfl) ?_
    refine lv_aload_n (pc := 5) hx hb dX10_widerPrice_5 rfl (lv_at hl 0 rfl) ?_
    refine zg_DrinkingRoofs_now (pc := 6) X hw zw_fl_2_173 dX10_widerPrice_6 ?_
    refine zg_Street_roofs (pc := 9) X hw zk_1 zw_fl_1_214 dX10_widerPrice_9 ?_
    refine zg_Roofs_count (pc := 12) X hw zk_3 zw_fl_1_136 dX10_widerPrice_12 ?_
    refine lv_icmp_ge (pc := 15) (tgt := 66) hx hb dX10_widerPrice_15 (by decide) (fun c1 => ?_) (fun c1 => ?_)
    · replace h := z_t c1 h
      refine lv_iload_n (pc := 66) hx hb dX10_widerPrice_66 rfl (lv_at hl 1 rfl) ?_
      obtain rfl := Option.some.inj h
      exact z_ri (pc := 67) X hw dX10_widerPrice_67
    · replace h := z_f c1 h
      refine lv_aload_n (pc := 18) hx hb dX10_widerPrice_18 rfl (lv_at hl 0 rfl) ?_
      refine zg_DrinkingRoofs_now (pc := 19) X hw zw_fl_2_173 dX10_widerPrice_19 ?_
      refine zg_Street_roofs (pc := 22) X hw zk_1 zw_fl_1_214 dX10_widerPrice_22 ?_
      refine zg_Roofs_houses (pc := 25) X hw zk_3 zw_fl_1_146 dX10_widerPrice_25 ?_
      refine lv_iload_n (pc := 28) hx hb dX10_widerPrice_28 rfl (lv_at hl 2 rfl) ?_
      obtain ⟨g2, h⟩ := z_gd h
      refine z_aald16 (pc := 29) X hw zk_6 zl_6 g2 dX10_widerPrice_29 ?_
      obtain ⟨v3, ev3, h⟩ := z_lo h
      refine z_topr ev3 ?_
      have hv3 : z_kd v3 = 2 := by rw [ev3]; exact (zk_el16 zk_6 g2)
      refine lv_astore_n (pc := 30) (lv' := [(3, .ref (G.1 v3)), (0, .ref (G.1 0)), (1, .int i1), (2, .int i2)]) hx hb dX10_widerPrice_30 rfl hl (by decide) rfl (fun ls hl => ?_)
      refine lv_iload_n (pc := 31) hx hb dX10_widerPrice_31 rfl (lv_at hl 2 rfl) ?_
      refine lv_aload_n (pc := 32) hx hb dX10_widerPrice_32 rfl (lv_at hl 0 rfl) ?_
      refine zg_House_price (pc := 33) X hw hv3 zw_fl_1_56 dX10_widerPrice_33 ?_
      refine lv_iconst (pc := 36) (v := 0) hx hb dX10_widerPrice_36 (by decide) ?_
      refine lv_aload_n (pc := 37) hx hb dX10_widerPrice_37 rfl (lv_at hl 1 rfl) ?_
      refine zg_DrinkingRoofs_thought (pc := 38) X hw zw_fl_2_175 dX10_widerPrice_38 ?_
      refine zg_Roofs_houses (pc := 41) X hw zk_5 zw_fl_1_146 dX10_widerPrice_41 ?_
      refine lv_iload_n (pc := 44) hx hb dX10_widerPrice_44 rfl (lv_at hl 3 rfl) ?_
      obtain ⟨g4, h⟩ := z_gd h
      refine z_aald16 (pc := 45) X hw zk_8 zl_8 g4 dX10_widerPrice_45 ?_
      refine zg_House_mostGot (pc := 46) X hw (zk_el16 zk_8 g4) zw_fl_1_88 dX10_widerPrice_46 ?_
      refine lv_aload_n (pc := 49) hx hb dX10_widerPrice_49 rfl (lv_at hl 0 rfl) ?_
      refine zg_House_carries (pc := 50) X hw hv3 zw_fl_1_52 dX10_widerPrice_50 ?_
      refine lv_isub (pc := 53) hx hb dX10_widerPrice_53 ?_
      refine z_max (pc := 54) (rest := [.int (M.1 v3 3), .int i1]) X zw_ml_4_218 zw_st_3_141 zw_in_1_17 zw_co_3_142 hl.1 ⟨Nat.zero_le _, Nat.zero_le _⟩ (z_lm (Nat.le_of_ble_eq_true rfl)) dX10_widerPrice_54 ?_
      refine lv_imul (pc := 57) hx hb dX10_widerPrice_57 ?_
      refine lv_iadd (pc := 58) hx hb dX10_widerPrice_58 ?_
      obtain ⟨v5, ev5, h⟩ := z_lo h
      refine z_topi ev5 ?_
      refine lv_istore_n (pc := 59) (lv' := [(1, .int v5), (3, .ref (G.1 v3)), (0, .ref (G.1 0)), (2, .int i2)]) hx hb dX10_widerPrice_59 rfl hl (by decide) rfl (fun ls hl => ?_)
      obtain ⟨v6, ev6, h⟩ := z_lo h
      refine lv_iinc (pc := 60) (v := v6) (lv' := [(2, .int v6), (1, .int v5), (3, .ref (G.1 v3)), (0, .ref (G.1 0))]) hx hb dX10_widerPrice_60 hl (k := 3) rfl (by rw [ev6]; rfl) (by decide) rfl (fun ls hl => ?_)
      refine lv_goto (pc := 63) (tgt := 4) hx hb dX10_widerPrice_63 (by decide) ?_
      exact ih v5 v6 M H locs ls  hw (lv_sub hl [3, 1, 0] rfl) h
set_option maxHeartbeats 4000000 in
set_option maxRecDepth 100000 in
theorem m_X10_widerPrice {l : Launch} {G : zG} {M : zM} {r : Int32 × zM} (h : f_X10_widerPrice  M = some r) : z_T l G 0 yX10_widerPrice (.code yX10_widerPrice cX10_widerPrice 4 (some .int)) [.ref (G.1 0)] M (some (.int r.1)) r.2 := by
  refine z_of rfl ?_
  intro p e s m below meth c X hw
  have hl := lv_entry [.ref (G.1 0)] (n := 4) (Nat.le_of_ble_eq_true rfl)
  rw [lg_entry_eq]
  generalize (lg_sl [.ref (G.1 0)] ++ List.replicate (4 - (lg_sl [.ref (G.1 0)]).length) Slot.unset).toArray = ls at hl ⊢
  have hl : lv_has ls 4 [(0, .ref (G.1 0))] := hl
  generalize ([.ref (G.1 0)] : List Value).toArray = args at X ⊢
  have X : z_C G p s m args meth c cX10_widerPrice 4 RX10 (some .int) := X
  have hx := X.1
  have hb := X.2.1
  unfold f_X10_widerPrice at h
  refine lv_iconst (pc := 0) (v := 0) hx hb dX10_widerPrice_0 (by decide) ?_
  refine lv_istore_n (pc := 1) (lv' := [(1, .int (0 : Int32)), (0, .ref (G.1 0))]) hx hb dX10_widerPrice_1 rfl hl (by decide) rfl (fun ls hl => ?_)
  refine lv_iconst (pc := 2) (v := 0) hx hb dX10_widerPrice_2 (by decide) ?_
  refine lv_istore_n (pc := 3) (lv' := [(2, .int (0 : Int32)), (1, .int (0 : Int32)), (0, .ref (G.1 0))]) hx hb dX10_widerPrice_3 rfl hl (by decide) rfl (fun ls hl => ?_)
  exact w_X10_widerPrice_4 X z_F (0 : Int32) (0 : Int32) M s.heap [] ls  hw (lv_sub hl [2, 1, 0] rfl) h
def f_X10_gutters_27 (i1 : Int32) (i2 : Int32) (i3 : Int32) (M : zM) : Option (Int32 × zM) :=
    (f_X5_imagine 5 3 M).bind fun x1 =>
    (f_X5_widen 5 x1).bind fun x2 =>
    (f_X5_strip 5 x2).bind fun x3 =>
    z_g (z_ix i1 10) <|
    (f_X5_pour 5 (z_ra 9 (Int32.toNatClampNeg i1)) (10 : Int32) x3).bind fun x5 =>
    if i2 = 0 then (
      (f_X10_widerPrice  x5.2).bind fun x8 =>
      some (x8.1, x8.2)
    ) else (
      z_g (z_ix i3 10) <|
      some ((x5.2.1 (z_ra 8 (Int32.toNatClampNeg i3)) 14), x5.2)
    )
def f_X10_gutters (i1 : Int32) (i2 : Int32) (M : zM) : Option (Int32 × zM) :=
  z_l (i2 - (10 : Int32)) fun v1 =>
  (f_X10_isStorm i1 M).bind fun x2 =>
  if x2.1 = 0 then (
    some ((-1 : Int32), x2.2)
  ) else (
    if i2 = 0 then (
      f_X10_gutters_27 i1 i2 v1 x2.2
    ) else (
      (f_X10_isHouse v1 x2.2).bind fun x5 =>
      if x5.1 = 0 then (
        some ((-1 : Int32), x5.2)
      ) else (
        f_X10_gutters_27 i1 i2 v1 x5.2
      )
    )
  )
set_option maxHeartbeats 4000000 in
set_option maxRecDepth 100000 in
theorem w_X10_gutters_27 {G : zG} {p : Program} {l : Launch} {e : Env} {s : State} {m : MethodId} {args : Array Value} {below : List Frame} {meth : Method} {c : Code} (X : z_C G p s m args meth c cX10_gutters 4 RX10 (some .int)) {r : Int32 × zM} : ∀ (i1 : Int32) (i2 : Int32) (i3 : Int32) (M : zM) (H : Heap) (locs : List Loc) (ls : Array Slot), z_W G M H locs → lv_has ls 4 [(0, .ref (G.1 0)), (1, .int i1), (2, .int i2), (3, .int i3)] → f_X10_gutters_27 i1 i2 i3 M = some r → W p l e (z_rm 4) s m args below meth c H locs 0 0 (z_Q G below args s (some (.int r.1)) r.2) (F0 m 27 ls []) := by
  have hx := X.1
  have hb := X.2.1
  intro i1 i2 i3 M H locs ls  hw hl h
  unfold f_X10_gutters_27 at h
  refine lv_aload_n (pc := 27) hx hb dX10_gutters_27 rfl (lv_at hl 0 rfl) ?_
  refine zg_DrinkingRoofs_thought (pc := 28) X hw zw_fl_2_175 dX10_gutters_28 ?_
  refine lv_aload_n (pc := 31) hx hb dX10_gutters_31 rfl (lv_at hl 0 rfl) ?_
  refine zg_DrinkingRoofs_now (pc := 32) X hw zw_fl_2_173 dX10_gutters_32 ?_
  refine zg_Street_roofs (pc := 35) X hw zk_1 zw_fl_1_214 dX10_gutters_35 ?_
  obtain ⟨x1, ex1, h⟩ := z_bd h
  refine z_cvV (pc := 38) (rest := []) X hw (m_X5_imagine zk_5 zk_3 ex1) (z_lt zk_5 (by decide)) (z_E5 zk_5) rfl zw_ml_4_207 zw_im_4_127 zw_se_4_128 zw_in_1_3 zw_co_4_129 zd_X5_imagine (by decide) rfl hl.1 rfl (Nat.le_of_ble_eq_true rfl) dX10_gutters_38 ⟨Nat.zero_le _, Nat.zero_le _⟩ (fun Hx1 lx1 wx1 => ?_)
  refine lv_aload_n (pc := 41) hx hb dX10_gutters_41 rfl (lv_at hl 0 rfl) ?_
  refine zg_DrinkingRoofs_thought (pc := 42) X wx1 zw_fl_2_175 dX10_gutters_42 ?_
  obtain ⟨x2, ex2, h⟩ := z_bd h
  refine z_cvV (pc := 45) (rest := []) X wx1 (m_X5_widen zk_5 ex2) (z_lt zk_5 (by decide)) (z_E5 zk_5) rfl zw_ml_4_208 zw_im_4_179 zw_se_4_180 zw_in_1_3 zw_co_4_181 zd_X5_widen (by decide) rfl hl.1 rfl (Nat.le_of_ble_eq_true rfl) dX10_gutters_45 ⟨Nat.zero_le _, Nat.zero_le _⟩ (fun Hx2 lx2 wx2 => ?_)
  refine lv_aload_n (pc := 48) hx hb dX10_gutters_48 rfl (lv_at hl 0 rfl) ?_
  refine zg_DrinkingRoofs_thought (pc := 49) X wx2 zw_fl_2_175 dX10_gutters_49 ?_
  obtain ⟨x3, ex3, h⟩ := z_bd h
  refine z_cvV (pc := 52) (rest := []) X wx2 (m_X5_strip zk_5 ex3) (z_lt zk_5 (by decide)) (z_E5 zk_5) rfl zw_ml_4_209 zw_im_4_210 zw_se_4_211 zw_in_1_3 zw_co_4_212 zd_X5_strip (by decide) rfl hl.1 rfl (Nat.le_of_ble_eq_true rfl) dX10_gutters_52 ⟨Nat.zero_le _, Nat.zero_le _⟩ (fun Hx3 lx3 wx3 => ?_)
  refine lv_aload_n (pc := 55) hx hb dX10_gutters_55 rfl (lv_at hl 0 rfl) ?_
  refine zg_DrinkingRoofs_thought (pc := 56) X wx3 zw_fl_2_175 dX10_gutters_56 ?_
  refine lv_aload_n (pc := 59) hx hb dX10_gutters_59 rfl (lv_at hl 0 rfl) ?_
  refine zg_DrinkingRoofs_now (pc := 60) X wx3 zw_fl_2_173 dX10_gutters_60 ?_
  refine zg_Street_storms (pc := 63) X wx3 zk_1 zw_fl_1_222 dX10_gutters_63 ?_
  refine lv_iload_n (pc := 66) hx hb dX10_gutters_66 rfl (lv_at hl 1 rfl) ?_
  obtain ⟨g4, h⟩ := z_gd h
  refine z_aald17 (pc := 67) X wx3 zk_9 zl_9 g4 dX10_gutters_67 ?_
  refine lv_bipush (pc := 68) (v := 10) hx hb dX10_gutters_68 (by decide) ?_
  obtain ⟨x5, ex5, h⟩ := z_bd h
  refine z_cvI (pc := 70) (rest := []) X wx3 (m_X5_pour zk_5 (zk_el17 zk_9 g4) ex5) (z_lt zk_5 (by decide)) (z_E5 zk_5) rfl zw_ml_4_213 zw_im_4_27 zw_se_4_28 zw_in_1_3 zw_co_4_29 zd_X5_pour (by decide) rfl hl.1 rfl (Nat.le_of_ble_eq_true rfl) dX10_gutters_70 ⟨Nat.zero_le _, Nat.zero_le _⟩ (fun Hx5 lx5 wx5 => ?_)
  refine lv_pop (pc := 73) hx hb dX10_gutters_73 rfl ?_
  refine lv_iload_n (pc := 74) hx hb dX10_gutters_74 rfl (lv_at hl 2 rfl) ?_
  refine lv_if_ne (pc := 75) (tgt := 85) hx hb dX10_gutters_75 (by decide) (fun c6 => ?_) (fun c6 => ?_)
  · replace h := z_f c6 h
    refine lv_aload_n (pc := 85) hx hb dX10_gutters_85 rfl (lv_at hl 0 rfl) ?_
    refine zg_DrinkingRoofs_thought (pc := 86) X wx5 zw_fl_2_175 dX10_gutters_86 ?_
    refine zg_Roofs_houses (pc := 89) X wx5 zk_5 zw_fl_1_146 dX10_gutters_89 ?_
    refine lv_iload_n (pc := 92) hx hb dX10_gutters_92 rfl (lv_at hl 3 rfl) ?_
    obtain ⟨g7, h⟩ := z_gd h
    refine z_aald16 (pc := 93) X wx5 zk_8 zl_8 g7 dX10_gutters_93 ?_
    refine zg_House_mostGot (pc := 94) X wx5 (zk_el16 zk_8 g7) zw_fl_1_88 dX10_gutters_94 ?_
    obtain rfl := Option.some.inj h
    exact z_ri (pc := 97) X wx5 dX10_gutters_97
  · replace h := z_t c6 h
    refine lv_aload_n (pc := 78) hx hb dX10_gutters_78 rfl (lv_at hl 0 rfl) ?_
    obtain ⟨x8, ex8, h⟩ := z_bd h
    refine z_cvI (pc := 79) (rest := []) X wx5 (m_X10_widerPrice  ex8) (z_lt zk_0 (by decide)) (z_E10 zk_0) rfl zw_ml_4_214 zw_im_4_216 zw_se_S_31 zw_in_1_1 zw_co_4_217 zd_X10_widerPrice (by decide) rfl hl.1 rfl (Nat.le_of_ble_eq_true rfl) dX10_gutters_79 ⟨Nat.zero_le _, Nat.zero_le _⟩ (fun Hx8 lx8 wx8 => ?_)
    refine lv_goto (pc := 82) (tgt := 97) hx hb dX10_gutters_82 (by decide) ?_
    obtain rfl := Option.some.inj h
    exact z_ri (pc := 97) X wx8 dX10_gutters_97
set_option maxHeartbeats 4000000 in
set_option maxRecDepth 100000 in
theorem m_X10_gutters {l : Launch} {G : zG} {i1 : Int32} {i2 : Int32} {M : zM} {r : Int32 × zM} (h : f_X10_gutters i1 i2 M = some r) : z_T l G 4 yX10_gutters (.code yX10_gutters cX10_gutters 4 (some .int)) [.ref (G.1 0), .int i1, .int i2] M (some (.int r.1)) r.2 := by
  refine z_of rfl ?_
  intro p e s m below meth c X hw
  have hl := lv_entry [.ref (G.1 0), .int i1, .int i2] (n := 4) (Nat.le_of_ble_eq_true rfl)
  rw [lg_entry_eq]
  generalize (lg_sl [.ref (G.1 0), .int i1, .int i2] ++ List.replicate (4 - (lg_sl [.ref (G.1 0), .int i1, .int i2]).length) Slot.unset).toArray = ls at hl ⊢
  have hl : lv_has ls 4 [(0, .ref (G.1 0)), (1, .int i1), (2, .int i2)] := hl
  generalize ([.ref (G.1 0), .int i1, .int i2] : List Value).toArray = args at X ⊢
  have X : z_C G p s m args meth c cX10_gutters 4 RX10 (some .int) := X
  have hx := X.1
  have hb := X.2.1
  unfold f_X10_gutters at h
  refine lv_iload_n (pc := 0) hx hb dX10_gutters_0 rfl (lv_at hl 2 rfl) ?_
  refine lv_bipush (pc := 1) (v := 10) hx hb dX10_gutters_1 (by decide) ?_
  refine lv_isub (pc := 3) hx hb dX10_gutters_3 ?_
  obtain ⟨v1, ev1, h⟩ := z_lo h
  refine z_topi ev1 ?_
  refine lv_istore_n (pc := 4) (lv' := [(3, .int v1), (0, .ref (G.1 0)), (1, .int i1), (2, .int i2)]) hx hb dX10_gutters_4 rfl hl (by decide) rfl (fun ls hl => ?_)
  refine lv_aload_n (pc := 5) hx hb dX10_gutters_5 rfl (lv_at hl 1 rfl) ?_
  refine lv_iload_n (pc := 6) hx hb dX10_gutters_6 rfl (lv_at hl 2 rfl) ?_
  obtain ⟨x2, ex2, h⟩ := z_bd h
  refine z_cvI (pc := 7) (rest := []) X hw (m_X10_isStorm  ex2) (z_lt zk_0 (by decide)) (z_E10 zk_0) rfl zw_ml_3_16 zw_im_3_18 zw_se_S_3 zw_in_1_1 zw_co_3_19 zd_X10_isStorm (by decide) rfl hl.1 rfl (Nat.le_of_ble_eq_true rfl) dX10_gutters_7 ⟨Nat.zero_le _, Nat.zero_le _⟩ (fun Hx2 lx2 wx2 => ?_)
  refine lv_if_eq (pc := 10) (tgt := 25) hx hb dX10_gutters_10 (by decide) (fun c3 => ?_) (fun c3 => ?_)
  · replace h := z_t c3 h
    refine lv_iconst (pc := 25) (v := -1) hx hb dX10_gutters_25 (by decide) ?_
    obtain rfl := Option.some.inj h
    exact z_ri (pc := 26) X wx2 dX10_gutters_26
  · replace h := z_f c3 h
    refine lv_iload_n (pc := 13) hx hb dX10_gutters_13 rfl (lv_at hl 3 rfl) ?_
    refine lv_if_eq (pc := 14) (tgt := 27) hx hb dX10_gutters_14 (by decide) (fun c4 => ?_) (fun c4 => ?_)
    · replace h := z_t c4 h
      exact w_X10_gutters_27 X i1 i2 v1 x2.2 Hx2 lx2 ls  wx2 (lv_sub hl [1, 2, 3, 0] rfl) h
    · replace h := z_f c4 h
      refine lv_aload_n (pc := 17) hx hb dX10_gutters_17 rfl (lv_at hl 1 rfl) ?_
      refine lv_iload_n (pc := 18) hx hb dX10_gutters_18 rfl (lv_at hl 0 rfl) ?_
      obtain ⟨x5, ex5, h⟩ := z_bd h
      refine z_cvI (pc := 19) (rest := []) X wx2 (m_X10_isHouse  ex5) (z_lt zk_0 (by decide)) (z_E10 zk_0) rfl zw_ml_2_219 zw_im_2_221 zw_se_S_0 zw_in_1_1 zw_co_2_222 zd_X10_isHouse (by decide) rfl hl.1 rfl (Nat.le_of_ble_eq_true rfl) dX10_gutters_19 ⟨Nat.zero_le _, Nat.zero_le _⟩ (fun Hx5 lx5 wx5 => ?_)
      refine lv_if_ne (pc := 22) (tgt := 27) hx hb dX10_gutters_22 (by decide) (fun c6 => ?_) (fun c6 => ?_)
      · replace h := z_f c6 h
        exact w_X10_gutters_27 X i1 i2 v1 x5.2 Hx5 lx5 ls  wx5 (lv_sub hl [1, 2, 3, 0] rfl) h
      · replace h := z_t c6 h
        refine lv_iconst (pc := 25) (v := -1) hx hb dX10_gutters_25 (by decide) ?_
        obtain rfl := Option.some.inj h
        exact z_ri (pc := 26) X wx5 dX10_gutters_26
def f_X10_stains (i1 : Int32) (i2 : Int32) (M : zM) : Option (Int32 × zM) :=
  if (8 : Int32) < (M.1 3 0) then (
    some ((-2 : Int32), M)
  ) else (
    (f_X10_within i1 (0 : Int32) (((1 : Int32) <<< ((M.1 3 0) &&& 31)) - (1 : Int32)) M).bind fun x2 =>
    if x2.1 = 0 then (
      some ((-2 : Int32), x2.2)
    ) else (
      (f_X10_within i2 (0 : Int32) (3 : Int32) x2.2).bind fun x4 =>
      if x4.1 = 0 then (
        some ((-2 : Int32), x4.2)
      ) else (
        (f_X6_explain i1 1 5 x4.2).bind fun x6 =>
        (f_X6_told i2 x6).bind fun x7 =>
        some (x7.1, x7.2)
      )
    )
  )
set_option maxHeartbeats 4000000 in
set_option maxRecDepth 100000 in
theorem m_X10_stains {l : Launch} {G : zG} {i1 : Int32} {i2 : Int32} {M : zM} {r : Int32 × zM} (h : f_X10_stains i1 i2 M = some r) : z_T l G 16 yX10_stains (.code yX10_stains cX10_stains 3 (some .int)) [.ref (G.1 0), .int i1, .int i2] M (some (.int r.1)) r.2 := by
  refine z_of rfl ?_
  intro p e s m below meth c X hw
  have hl := lv_entry [.ref (G.1 0), .int i1, .int i2] (n := 3) (Nat.le_of_ble_eq_true rfl)
  rw [lg_entry_eq]
  generalize (lg_sl [.ref (G.1 0), .int i1, .int i2] ++ List.replicate (3 - (lg_sl [.ref (G.1 0), .int i1, .int i2]).length) Slot.unset).toArray = ls at hl ⊢
  have hl : lv_has ls 3 [(0, .ref (G.1 0)), (1, .int i1), (2, .int i2)] := hl
  generalize ([.ref (G.1 0), .int i1, .int i2] : List Value).toArray = args at X ⊢
  have X : z_C G p s m args meth c cX10_stains 3 RX10 (some .int) := X
  have hx := X.1
  have hb := X.2.1
  unfold f_X10_stains at h
  refine lv_aload_n (pc := 0) hx hb dX10_stains_0 rfl (lv_at hl 0 rfl) ?_
  refine zg_DrinkingRoofs_now (pc := 1) X hw zw_fl_2_173 dX10_stains_1 ?_
  refine zg_Street_roofs (pc := 4) X hw zk_1 zw_fl_1_214 dX10_stains_4 ?_
  refine zg_Roofs_count (pc := 7) X hw zk_3 zw_fl_1_136 dX10_stains_7 ?_
  refine lv_bipush (pc := 10) (v := 8) hx hb dX10_stains_10 (by decide) ?_
  refine lv_icmp_gt (pc := 12) (tgt := 46) hx hb dX10_stains_12 (by decide) (fun c1 => ?_) (fun c1 => ?_)
  · replace h := z_t c1 h
    refine lv_bipush (pc := 46) (v := -2) hx hb dX10_stains_46 (by decide) ?_
    obtain rfl := Option.some.inj h
    exact z_ri (pc := 48) X hw dX10_stains_48
  · replace h := z_f c1 h
    refine lv_iload_n (pc := 15) hx hb dX10_stains_15 rfl (lv_at hl 1 rfl) ?_
    refine lv_iconst (pc := 16) (v := 0) hx hb dX10_stains_16 (by decide) ?_
    refine lv_iconst (pc := 17) (v := 1) hx hb dX10_stains_17 (by decide) ?_
    refine lv_aload_n (pc := 18) hx hb dX10_stains_18 rfl (lv_at hl 0 rfl) ?_
    refine zg_DrinkingRoofs_now (pc := 19) X hw zw_fl_2_173 dX10_stains_19 ?_
    refine zg_Street_roofs (pc := 22) X hw zk_1 zw_fl_1_214 dX10_stains_22 ?_
    refine zg_Roofs_count (pc := 25) X hw zk_3 zw_fl_1_136 dX10_stains_25 ?_
    refine lv_ishl (pc := 28) hx hb dX10_stains_28 ?_
    refine lv_iconst (pc := 29) (v := 1) hx hb dX10_stains_29 (by decide) ?_
    refine lv_isub (pc := 30) hx hb dX10_stains_30 ?_
    obtain ⟨x2, ex2, h⟩ := z_bd h
    refine z_csI (pc := 31) (rest := []) X hw (m_X10_within  ex2) zw_ml_2_208 zw_st_2_209 zw_in_1_1 zw_co_2_210 zd_X10_within (by decide) rfl hl.1 rfl (Nat.le_of_ble_eq_true rfl) dX10_stains_31 ⟨Nat.zero_le _, Nat.zero_le _⟩ (fun Hx2 lx2 wx2 => ?_)
    refine lv_if_eq (pc := 34) (tgt := 46) hx hb dX10_stains_34 (by decide) (fun c3 => ?_) (fun c3 => ?_)
    · replace h := z_t c3 h
      refine lv_bipush (pc := 46) (v := -2) hx hb dX10_stains_46 (by decide) ?_
      obtain rfl := Option.some.inj h
      exact z_ri (pc := 48) X wx2 dX10_stains_48
    · replace h := z_f c3 h
      refine lv_iload_n (pc := 37) hx hb dX10_stains_37 rfl (lv_at hl 2 rfl) ?_
      refine lv_iconst (pc := 38) (v := 0) hx hb dX10_stains_38 (by decide) ?_
      refine lv_iconst (pc := 39) (v := 3) hx hb dX10_stains_39 (by decide) ?_
      obtain ⟨x4, ex4, h⟩ := z_bd h
      refine z_csI (pc := 40) (rest := []) X wx2 (m_X10_within  ex4) zw_ml_2_208 zw_st_2_209 zw_in_1_1 zw_co_2_210 zd_X10_within (by decide) rfl hl.1 rfl (Nat.le_of_ble_eq_true rfl) dX10_stains_40 ⟨Nat.zero_le _, Nat.zero_le _⟩ (fun Hx4 lx4 wx4 => ?_)
      refine lv_if_ne (pc := 43) (tgt := 49) hx hb dX10_stains_43 (by decide) (fun c5 => ?_) (fun c5 => ?_)
      · replace h := z_f c5 h
        refine lv_aload_n (pc := 49) hx hb dX10_stains_49 rfl (lv_at hl 0 rfl) ?_
        refine zg_DrinkingRoofs_stains (pc := 50) X wx4 zw_fl_2_180 dX10_stains_50 ?_
        refine lv_iload_n (pc := 53) hx hb dX10_stains_53 rfl (lv_at hl 1 rfl) ?_
        refine lv_aload_n (pc := 54) hx hb dX10_stains_54 rfl (lv_at hl 0 rfl) ?_
        refine zg_DrinkingRoofs_now (pc := 55) X wx4 zw_fl_2_173 dX10_stains_55 ?_
        refine lv_aload_n (pc := 58) hx hb dX10_stains_58 rfl (lv_at hl 0 rfl) ?_
        refine zg_DrinkingRoofs_thought (pc := 59) X wx4 zw_fl_2_175 dX10_stains_59 ?_
        obtain ⟨x6, ex6, h⟩ := z_bd h
        refine z_cvV (pc := 62) (rest := []) X wx4 (m_X6_explain zk_1 zk_5 ex6) (z_lt zk_39 (by decide)) (z_E6 zk_39) rfl zw_ml_4_223 zw_im_4_224 zw_se_4_225 zw_in_1_11 zw_co_4_226 zd_X6_explain (by decide) rfl hl.1 rfl (Nat.le_of_ble_eq_true rfl) dX10_stains_62 ⟨Nat.zero_le _, Nat.zero_le _⟩ (fun Hx6 lx6 wx6 => ?_)
        refine lv_aload_n (pc := 65) hx hb dX10_stains_65 rfl (lv_at hl 0 rfl) ?_
        refine zg_DrinkingRoofs_stains (pc := 66) X wx6 zw_fl_2_180 dX10_stains_66 ?_
        refine lv_iload_n (pc := 69) hx hb dX10_stains_69 rfl (lv_at hl 2 rfl) ?_
        obtain ⟨x7, ex7, h⟩ := z_bd h
        refine z_cvI (pc := 70) (rest := []) X wx6 (m_X6_told  ex7) (z_lt zk_39 (by decide)) (z_E6 zk_39) rfl zw_ml_5_0 zw_im_5_1 zw_se_5_2 zw_in_1_11 zw_co_5_3 zd_X6_told (by decide) rfl hl.1 rfl (Nat.le_of_ble_eq_true rfl) dX10_stains_70 ⟨Nat.zero_le _, Nat.zero_le _⟩ (fun Hx7 lx7 wx7 => ?_)
        obtain rfl := Option.some.inj h
        exact z_ri (pc := 73) X wx7 dX10_stains_73
      · replace h := z_t c5 h
        refine lv_bipush (pc := 46) (v := -2) hx hb dX10_stains_46 (by decide) ?_
        obtain rfl := Option.some.inj h
        exact z_ri (pc := 48) X wx4 dX10_stains_48
def f_X10_overAsNow (k1 : Nat) (M : zM) : Option (Int32 × zM) :=
  (f_X5_imagine 5 3 M).bind fun x1 =>
  (f_X5_pour 5 k1 (10 : Int32) x1).bind fun x2 =>
  some (x2.1, x2.2)
set_option maxHeartbeats 4000000 in
set_option maxRecDepth 100000 in
theorem m_X10_overAsNow {l : Launch} {G : zG} {k1 : Nat} {M : zM} {r : Int32 × zM} (hk1 : z_kd k1 = 7) (h : f_X10_overAsNow k1 M = some r) : z_T l G 4 yX10_overAsNow (.code yX10_overAsNow cX10_overAsNow 2 (some .int)) [.ref (G.1 0), .ref (G.1 k1)] M (some (.int r.1)) r.2 := by
  refine z_of rfl ?_
  intro p e s m below meth c X hw
  have hl := lv_entry [.ref (G.1 0), .ref (G.1 k1)] (n := 2) (Nat.le_of_ble_eq_true rfl)
  rw [lg_entry_eq]
  generalize (lg_sl [.ref (G.1 0), .ref (G.1 k1)] ++ List.replicate (2 - (lg_sl [.ref (G.1 0), .ref (G.1 k1)]).length) Slot.unset).toArray = ls at hl ⊢
  have hl : lv_has ls 2 [(0, .ref (G.1 0)), (1, .ref (G.1 k1))] := hl
  generalize ([.ref (G.1 0), .ref (G.1 k1)] : List Value).toArray = args at X ⊢
  have X : z_C G p s m args meth c cX10_overAsNow 2 RX10 (some .int) := X
  have hx := X.1
  have hb := X.2.1
  unfold f_X10_overAsNow at h
  refine lv_aload_n (pc := 0) hx hb dX10_overAsNow_0 rfl (lv_at hl 0 rfl) ?_
  refine zg_DrinkingRoofs_thought (pc := 1) X hw zw_fl_2_175 dX10_overAsNow_1 ?_
  refine lv_aload_n (pc := 4) hx hb dX10_overAsNow_4 rfl (lv_at hl 0 rfl) ?_
  refine zg_DrinkingRoofs_now (pc := 5) X hw zw_fl_2_173 dX10_overAsNow_5 ?_
  refine zg_Street_roofs (pc := 8) X hw zk_1 zw_fl_1_214 dX10_overAsNow_8 ?_
  obtain ⟨x1, ex1, h⟩ := z_bd h
  refine z_cvV (pc := 11) (rest := []) X hw (m_X5_imagine zk_5 zk_3 ex1) (z_lt zk_5 (by decide)) (z_E5 zk_5) rfl zw_ml_4_207 zw_im_4_127 zw_se_4_128 zw_in_1_3 zw_co_4_129 zd_X5_imagine (by decide) rfl hl.1 rfl (Nat.le_of_ble_eq_true rfl) dX10_overAsNow_11 ⟨Nat.zero_le _, Nat.zero_le _⟩ (fun Hx1 lx1 wx1 => ?_)
  refine lv_aload_n (pc := 14) hx hb dX10_overAsNow_14 rfl (lv_at hl 0 rfl) ?_
  refine zg_DrinkingRoofs_thought (pc := 15) X wx1 zw_fl_2_175 dX10_overAsNow_15 ?_
  refine lv_aload_n (pc := 18) hx hb dX10_overAsNow_18 rfl (lv_at hl 1 rfl) ?_
  refine lv_bipush (pc := 19) (v := 10) hx hb dX10_overAsNow_19 (by decide) ?_
  obtain ⟨x2, ex2, h⟩ := z_bd h
  refine z_cvI (pc := 21) (rest := []) X wx1 (m_X5_pour zk_5 hk1 ex2) (z_lt zk_5 (by decide)) (z_E5 zk_5) rfl zw_ml_4_213 zw_im_4_27 zw_se_4_28 zw_in_1_3 zw_co_4_29 zd_X5_pour (by decide) rfl hl.1 rfl (Nat.le_of_ble_eq_true rfl) dX10_overAsNow_21 ⟨Nat.zero_le _, Nat.zero_le _⟩ (fun Hx2 lx2 wx2 => ?_)
  obtain rfl := Option.some.inj h
  exact z_ri (pc := 24) X wx2 dX10_overAsNow_24
def f_X10_overIfDrained (i1 : Int32) (k2 : Nat) (M : zM) : Option (Int32 × zM) :=
  (f_X5_imagine 5 3 M).bind fun x1 =>
  z_g (z_ix i1 10) <|
  z_l (z_w x1 (z_ra 8 (Int32.toNatClampNeg i1)) 4 (-1 : Int32)) fun M3 =>
  (f_X5_pour 5 k2 (10 : Int32) M3).bind fun x4 =>
  some (x4.1, x4.2)
set_option maxHeartbeats 4000000 in
set_option maxRecDepth 100000 in
theorem m_X10_overIfDrained {l : Launch} {G : zG} {i1 : Int32} {k2 : Nat} {M : zM} {r : Int32 × zM} (hk2 : z_kd k2 = 7) (h : f_X10_overIfDrained i1 k2 M = some r) : z_T l G 4 yX10_overIfDrained (.code yX10_overIfDrained cX10_overIfDrained 3 (some .int)) [.ref (G.1 0), .int i1, .ref (G.1 k2)] M (some (.int r.1)) r.2 := by
  refine z_of rfl ?_
  intro p e s m below meth c X hw
  have hl := lv_entry [.ref (G.1 0), .int i1, .ref (G.1 k2)] (n := 3) (Nat.le_of_ble_eq_true rfl)
  rw [lg_entry_eq]
  generalize (lg_sl [.ref (G.1 0), .int i1, .ref (G.1 k2)] ++ List.replicate (3 - (lg_sl [.ref (G.1 0), .int i1, .ref (G.1 k2)]).length) Slot.unset).toArray = ls at hl ⊢
  have hl : lv_has ls 3 [(0, .ref (G.1 0)), (1, .int i1), (2, .ref (G.1 k2))] := hl
  generalize ([.ref (G.1 0), .int i1, .ref (G.1 k2)] : List Value).toArray = args at X ⊢
  have X : z_C G p s m args meth c cX10_overIfDrained 3 RX10 (some .int) := X
  have hx := X.1
  have hb := X.2.1
  unfold f_X10_overIfDrained at h
  refine lv_aload_n (pc := 0) hx hb dX10_overIfDrained_0 rfl (lv_at hl 0 rfl) ?_
  refine zg_DrinkingRoofs_thought (pc := 1) X hw zw_fl_2_175 dX10_overIfDrained_1 ?_
  refine lv_aload_n (pc := 4) hx hb dX10_overIfDrained_4 rfl (lv_at hl 0 rfl) ?_
  refine zg_DrinkingRoofs_now (pc := 5) X hw zw_fl_2_173 dX10_overIfDrained_5 ?_
  refine zg_Street_roofs (pc := 8) X hw zk_1 zw_fl_1_214 dX10_overIfDrained_8 ?_
  obtain ⟨x1, ex1, h⟩ := z_bd h
  refine z_cvV (pc := 11) (rest := []) X hw (m_X5_imagine zk_5 zk_3 ex1) (z_lt zk_5 (by decide)) (z_E5 zk_5) rfl zw_ml_4_207 zw_im_4_127 zw_se_4_128 zw_in_1_3 zw_co_4_129 zd_X5_imagine (by decide) rfl hl.1 rfl (Nat.le_of_ble_eq_true rfl) dX10_overIfDrained_11 ⟨Nat.zero_le _, Nat.zero_le _⟩ (fun Hx1 lx1 wx1 => ?_)
  refine lv_aload_n (pc := 14) hx hb dX10_overIfDrained_14 rfl (lv_at hl 0 rfl) ?_
  refine zg_DrinkingRoofs_thought (pc := 15) X wx1 zw_fl_2_175 dX10_overIfDrained_15 ?_
  refine zg_Roofs_houses (pc := 18) X wx1 zk_5 zw_fl_1_146 dX10_overIfDrained_18 ?_
  refine lv_iload_n (pc := 21) hx hb dX10_overIfDrained_21 rfl (lv_at hl 1 rfl) ?_
  obtain ⟨g2, h⟩ := z_gd h
  refine z_aald16 (pc := 22) X wx1 zk_8 zl_8 g2 dX10_overIfDrained_22 ?_
  refine lv_iconst (pc := 23) (v := -1) hx hb dX10_overIfDrained_23 (by decide) ?_
  refine zp_House_empties (pc := 24) X wx1 (zk_el16 zk_8 g2) zw_fl_1_58 dX10_overIfDrained_24 (fun HM3 lM3 wM3 => ?_)
  obtain ⟨M3, eM3, h⟩ := z_lo h
  rw [← eM3] at wM3
  refine lv_aload_n (pc := 27) hx hb dX10_overIfDrained_27 rfl (lv_at hl 0 rfl) ?_
  refine zg_DrinkingRoofs_thought (pc := 28) X wM3 zw_fl_2_175 dX10_overIfDrained_28 ?_
  refine lv_aload_n (pc := 31) hx hb dX10_overIfDrained_31 rfl (lv_at hl 2 rfl) ?_
  refine lv_bipush (pc := 32) (v := 10) hx hb dX10_overIfDrained_32 (by decide) ?_
  obtain ⟨x4, ex4, h⟩ := z_bd h
  refine z_cvI (pc := 34) (rest := []) X wM3 (m_X5_pour zk_5 hk2 ex4) (z_lt zk_5 (by decide)) (z_E5 zk_5) rfl zw_ml_4_213 zw_im_4_27 zw_se_4_28 zw_in_1_3 zw_co_4_29 zd_X5_pour (by decide) rfl hl.1 rfl (Nat.le_of_ble_eq_true rfl) dX10_overIfDrained_34 ⟨Nat.zero_le _, Nat.zero_le _⟩ (fun Hx4 lx4 wx4 => ?_)
  obtain rfl := Option.some.inj h
  exact z_ri (pc := 37) X wx4 dX10_overIfDrained_37
