def f_X10_drain_32 : Nat → Nat → Int32 → Int32 → Int32 → zM → Option (Int32 × zM)
  | 0, _, _, _, _, _ => none
  | n + 1, k2, i3, i4, i5, M =>
    if (M.1 3 0) ≤ i5 then (
      some (i3, M)
    ) else (
      z_g (z_ix i5 10) <|
      if (M.1 (z_ra 6 (Int32.toNatClampNeg i5)) 4) = (-1 : Int32) then (
        z_l (i5 + (1 : Int32)) fun v4 =>
        f_X10_drain_32 n k2 i3 i4 v4 M
      ) else (
        (f_X10_overIfDrained i5 k2 M).bind fun x5 =>
        if i4 ≤ x5.1 then (
          z_l (i5 + (1 : Int32)) fun v7 =>
          f_X10_drain_32 n k2 i3 i4 v7 x5.2
        ) else (
          z_l (i5 + (1 : Int32)) fun v8 =>
          f_X10_drain_32 n k2 i5 x5.1 v8 x5.2
        )
      )
    )
def f_X10_drain (i1 : Int32) (M : zM) : Option (Int32 × zM) :=
  (f_X10_isStorm i1 M).bind fun x1 =>
  if x1.1 = 0 then (
    some ((-1 : Int32), x1.2)
  ) else (
    z_g (z_ix i1 10) <|
    z_l (z_ra 9 (Int32.toNatClampNeg i1)) fun v4 =>
    (f_X10_overAsNow v4 x1.2).bind fun x5 =>
    f_X10_drain_32 z_F v4 (-1 : Int32) x5.1 (0 : Int32) x5.2
  )
set_option maxHeartbeats 4000000 in
set_option maxRecDepth 100000 in
theorem w_X10_drain_32 {G : zG} {p : Program} {l : Launch} {e : Env} {s : State} {m : MethodId} {args : Array Value} {below : List Frame} {meth : Method} {c : Code} (X : z_C G p s m args meth c cX10_drain 7 RX10 (some .int)) {r : Int32 × zM} : ∀ (n : Nat) (k2 : Nat) (i3 : Int32) (i4 : Int32) (i5 : Int32) (M : zM) (H : Heap) (locs : List Loc) (ls : Array Slot), z_kd k2 = 7 → z_W G M H locs → lv_has ls 7 [(0, .ref (G.1 0)), (2, .ref (G.1 k2)), (3, .int i3), (4, .int i4), (5, .int i5)] → f_X10_drain_32 n k2 i3 i4 i5 M = some r → W p l e (z_rm 5) s m args below meth c H locs 0 0 (z_Q G below args s (some (.int r.1)) r.2) (F0 m 32 ls []) := by
  have hx := X.1
  have hb := X.2.1
  intro n
  induction n with
  | zero =>
    intro k2 i3 i4 i5 M H locs ls hk2 hw hl h
    exact z_no h
  | succ n ih =>
    intro k2 i3 i4 i5 M H locs ls hk2 hw hl h
    rw [f_X10_drain_32] at h
    refine lv_iload (pc := 32) hx hb dX10_drain_32 (lv_at hl 4 rfl) ?_
    refine lv_aload_n (pc := 34) hx hb dX10_drain_34 rfl (lv_at hl 0 rfl) ?_
    refine zg_DrinkingRoofs_now (pc := 35) X hw zw_fl_2_173 dX10_drain_35 ?_
    refine zg_Street_roofs (pc := 38) X hw zk_1 zw_fl_1_214 dX10_drain_38 ?_
    refine zg_Roofs_count (pc := 41) X hw zk_3 zw_fl_1_136 dX10_drain_41 ?_
    refine lv_icmp_ge (pc := 44) (tgt := 96) hx hb dX10_drain_44 (by decide) (fun c1 => ?_) (fun c1 => ?_)
    · replace h := z_t c1 h
      refine lv_iload_n (pc := 96) hx hb dX10_drain_96 rfl (lv_at hl 2 rfl) ?_
      obtain rfl := Option.some.inj h
      exact z_ri (pc := 97) X hw dX10_drain_97
    · replace h := z_f c1 h
      refine lv_aload_n (pc := 47) hx hb dX10_drain_47 rfl (lv_at hl 0 rfl) ?_
      refine zg_DrinkingRoofs_now (pc := 48) X hw zw_fl_2_173 dX10_drain_48 ?_
      refine zg_Street_roofs (pc := 51) X hw zk_1 zw_fl_1_214 dX10_drain_51 ?_
      refine zg_Roofs_houses (pc := 54) X hw zk_3 zw_fl_1_146 dX10_drain_54 ?_
      refine lv_iload (pc := 57) hx hb dX10_drain_57 (lv_at hl 4 rfl) ?_
      obtain ⟨g2, h⟩ := z_gd h
      refine z_aald16 (pc := 59) X hw zk_6 zl_6 g2 dX10_drain_59 ?_
      refine zg_House_empties (pc := 60) X hw (zk_el16 zk_6 g2) zw_fl_1_58 dX10_drain_60 ?_
      refine lv_iconst (pc := 63) (v := -1) hx hb dX10_drain_63 (by decide) ?_
      refine lv_icmp_eq (pc := 64) (tgt := 90) hx hb dX10_drain_64 (by decide) (fun c3 => ?_) (fun c3 => ?_)
      · replace h := z_t c3 h
        obtain ⟨v4, ev4, h⟩ := z_lo h
        refine lv_iinc (pc := 90) (v := v4) (lv' := [(5, .int v4), (0, .ref (G.1 0)), (2, .ref (G.1 k2)), (3, .int i3), (4, .int i4)]) hx hb dX10_drain_90 hl (k := 4) rfl (by rw [ev4]; rfl) (by decide) rfl (fun ls hl => ?_)
        refine lv_goto (pc := 93) (tgt := 32) hx hb dX10_drain_93 (by decide) ?_
        exact ih k2 i3 i4 v4 M H locs ls hk2 hw (lv_sub hl [1, 2, 3, 4, 0] rfl) h
      · replace h := z_f c3 h
        refine lv_aload_n (pc := 67) hx hb dX10_drain_67 rfl (lv_at hl 0 rfl) ?_
        refine lv_iload (pc := 68) hx hb dX10_drain_68 (lv_at hl 4 rfl) ?_
        refine lv_aload_n (pc := 70) hx hb dX10_drain_70 rfl (lv_at hl 1 rfl) ?_
        obtain ⟨x5, ex5, h⟩ := z_bd h
        refine z_cvI (pc := 71) (rest := []) X hw (m_X10_overIfDrained hk2 ex5) (z_lt zk_0 (by decide)) (z_E10 zk_0) rfl zw_ml_5_12 zw_im_5_14 zw_se_S_34 zw_in_1_1 zw_co_5_15 zd_X10_overIfDrained (by decide) rfl hl.1 rfl (Nat.le_of_ble_eq_true rfl) dX10_drain_71 ⟨Nat.zero_le _, Nat.zero_le _⟩ (fun Hx5 lx5 wx5 => ?_)
        refine lv_istore (pc := 74) (lv' := [(6, .int x5.1), (0, .ref (G.1 0)), (2, .ref (G.1 k2)), (3, .int i3), (4, .int i4), (5, .int i5)]) hx hb dX10_drain_74 hl (by decide) rfl (fun ls hl => ?_)
        refine lv_iload (pc := 76) hx hb dX10_drain_76 (lv_at hl 0 rfl) ?_
        refine lv_iload (pc := 78) hx hb dX10_drain_78 (lv_at hl 4 rfl) ?_
        refine lv_icmp_ge (pc := 80) (tgt := 90) hx hb dX10_drain_80 (by decide) (fun c6 => ?_) (fun c6 => ?_)
        · replace h := z_t c6 h
          obtain ⟨v7, ev7, h⟩ := z_lo h
          refine lv_iinc (pc := 90) (v := v7) (lv' := [(5, .int v7), (6, .int x5.1), (0, .ref (G.1 0)), (2, .ref (G.1 k2)), (3, .int i3), (4, .int i4)]) hx hb dX10_drain_90 hl (k := 5) rfl (by rw [ev7]; rfl) (by decide) rfl (fun ls hl => ?_)
          refine lv_goto (pc := 93) (tgt := 32) hx hb dX10_drain_93 (by decide) ?_
          exact ih k2 i3 i4 v7 x5.2 Hx5 lx5 ls hk2 wx5 (lv_sub hl [2, 3, 4, 5, 0] rfl) h
        · replace h := z_f c6 h
          refine lv_iload (pc := 83) hx hb dX10_drain_83 (lv_at hl 0 rfl) ?_
          refine lv_istore (pc := 85) (lv' := [(4, .int x5.1), (6, .int x5.1), (0, .ref (G.1 0)), (2, .ref (G.1 k2)), (3, .int i3), (5, .int i5)]) hx hb dX10_drain_85 hl (by decide) rfl (fun ls hl => ?_)
          refine lv_iload (pc := 87) hx hb dX10_drain_87 (lv_at hl 5 rfl) ?_
          refine lv_istore_n (pc := 89) (lv' := [(3, .int i5), (4, .int x5.1), (6, .int x5.1), (0, .ref (G.1 0)), (2, .ref (G.1 k2)), (5, .int i5)]) hx hb dX10_drain_89 rfl hl (by decide) rfl (fun ls hl => ?_)
          obtain ⟨v8, ev8, h⟩ := z_lo h
          refine lv_iinc (pc := 90) (v := v8) (lv' := [(5, .int v8), (3, .int i5), (4, .int x5.1), (6, .int x5.1), (0, .ref (G.1 0)), (2, .ref (G.1 k2))]) hx hb dX10_drain_90 hl (k := 5) rfl (by rw [ev8]; rfl) (by decide) rfl (fun ls hl => ?_)
          refine lv_goto (pc := 93) (tgt := 32) hx hb dX10_drain_93 (by decide) ?_
          exact ih k2 i5 x5.1 v8 x5.2 Hx5 lx5 ls hk2 wx5 (lv_sub hl [4, 5, 1, 2, 0] rfl) h
set_option maxHeartbeats 4000000 in
set_option maxRecDepth 100000 in
theorem m_X10_drain {l : Launch} {G : zG} {i1 : Int32} {M : zM} {r : Int32 × zM} (h : f_X10_drain i1 M = some r) : z_T l G 5 yX10_drain (.code yX10_drain cX10_drain 7 (some .int)) [.ref (G.1 0), .int i1] M (some (.int r.1)) r.2 := by
  refine z_of rfl ?_
  intro p e s m below meth c X hw
  have hl := lv_entry [.ref (G.1 0), .int i1] (n := 7) (Nat.le_of_ble_eq_true rfl)
  rw [lg_entry_eq]
  generalize (lg_sl [.ref (G.1 0), .int i1] ++ List.replicate (7 - (lg_sl [.ref (G.1 0), .int i1]).length) Slot.unset).toArray = ls at hl ⊢
  have hl : lv_has ls 7 [(0, .ref (G.1 0)), (1, .int i1)] := hl
  generalize ([.ref (G.1 0), .int i1] : List Value).toArray = args at X ⊢
  have X : z_C G p s m args meth c cX10_drain 7 RX10 (some .int) := X
  have hx := X.1
  have hb := X.2.1
  unfold f_X10_drain at h
  refine lv_aload_n (pc := 0) hx hb dX10_drain_0 rfl (lv_at hl 0 rfl) ?_
  refine lv_iload_n (pc := 1) hx hb dX10_drain_1 rfl (lv_at hl 1 rfl) ?_
  obtain ⟨x1, ex1, h⟩ := z_bd h
  refine z_cvI (pc := 2) (rest := []) X hw (m_X10_isStorm  ex1) (z_lt zk_0 (by decide)) (z_E10 zk_0) rfl zw_ml_3_16 zw_im_3_18 zw_se_S_3 zw_in_1_1 zw_co_3_19 zd_X10_isStorm (by decide) rfl hl.1 rfl (Nat.le_of_ble_eq_true rfl) dX10_drain_2 ⟨Nat.zero_le _, Nat.zero_le _⟩ (fun Hx1 lx1 wx1 => ?_)
  refine lv_if_ne (pc := 5) (tgt := 10) hx hb dX10_drain_5 (by decide) (fun c2 => ?_) (fun c2 => ?_)
  · replace h := z_f c2 h
    refine lv_aload_n (pc := 10) hx hb dX10_drain_10 rfl (lv_at hl 0 rfl) ?_
    refine zg_DrinkingRoofs_now (pc := 11) X wx1 zw_fl_2_173 dX10_drain_11 ?_
    refine zg_Street_storms (pc := 14) X wx1 zk_1 zw_fl_1_222 dX10_drain_14 ?_
    refine lv_iload_n (pc := 17) hx hb dX10_drain_17 rfl (lv_at hl 1 rfl) ?_
    obtain ⟨g3, h⟩ := z_gd h
    refine z_aald17 (pc := 18) X wx1 zk_9 zl_9 g3 dX10_drain_18 ?_
    obtain ⟨v4, ev4, h⟩ := z_lo h
    refine z_topr ev4 ?_
    have hv4 : z_kd v4 = 7 := by rw [ev4]; exact (zk_el17 zk_9 g3)
    refine lv_astore_n (pc := 19) (lv' := [(2, .ref (G.1 v4)), (0, .ref (G.1 0)), (1, .int i1)]) hx hb dX10_drain_19 rfl hl (by decide) rfl (fun ls hl => ?_)
    refine lv_iconst (pc := 20) (v := -1) hx hb dX10_drain_20 (by decide) ?_
    refine lv_istore_n (pc := 21) (lv' := [(3, .int (-1 : Int32)), (2, .ref (G.1 v4)), (0, .ref (G.1 0)), (1, .int i1)]) hx hb dX10_drain_21 rfl hl (by decide) rfl (fun ls hl => ?_)
    refine lv_aload_n (pc := 22) hx hb dX10_drain_22 rfl (lv_at hl 2 rfl) ?_
    refine lv_aload_n (pc := 23) hx hb dX10_drain_23 rfl (lv_at hl 1 rfl) ?_
    obtain ⟨x5, ex5, h⟩ := z_bd h
    refine z_cvI (pc := 24) (rest := []) X wx1 (m_X10_overAsNow hv4 ex5) (z_lt zk_0 (by decide)) (z_E10 zk_0) rfl zw_ml_5_8 zw_im_5_10 zw_se_S_33 zw_in_1_1 zw_co_5_11 zd_X10_overAsNow (by decide) rfl hl.1 rfl (Nat.le_of_ble_eq_true rfl) dX10_drain_24 ⟨Nat.zero_le _, Nat.zero_le _⟩ (fun Hx5 lx5 wx5 => ?_)
    refine lv_istore (pc := 27) (lv' := [(4, .int x5.1), (3, .int (-1 : Int32)), (2, .ref (G.1 v4)), (0, .ref (G.1 0)), (1, .int i1)]) hx hb dX10_drain_27 hl (by decide) rfl (fun ls hl => ?_)
    refine lv_iconst (pc := 29) (v := 0) hx hb dX10_drain_29 (by decide) ?_
    refine lv_istore (pc := 30) (lv' := [(5, .int (0 : Int32)), (4, .int x5.1), (3, .int (-1 : Int32)), (2, .ref (G.1 v4)), (0, .ref (G.1 0)), (1, .int i1)]) hx hb dX10_drain_30 hl (by decide) rfl (fun ls hl => ?_)
    exact w_X10_drain_32 X z_F v4 (-1 : Int32) x5.1 (0 : Int32) x5.2 Hx5 lx5 ls hv4 wx5 (lv_sub hl [4, 3, 2, 1, 0] rfl) h
  · replace h := z_t c2 h
    refine lv_iconst (pc := 8) (v := -1) hx hb dX10_drain_8 (by decide) ?_
    obtain rfl := Option.some.inj h
    exact z_ri (pc := 9) X wx1 dX10_drain_9
def f_X10_added (i1 : Int32) (i2 : Int32) (i3 : Int32) (i4 : Int32) (M : zM) : Option (Int32 × zM) :=
  if (10 : Int32) ≤ (M.1 3 0) then (
    some ((-1000000000 : Int32), M)
  ) else (
    (f_X10_within i1 (0 : Int32) (M.1 3 0) M).bind fun x2 =>
    if x2.1 = 0 then (
      some ((-1000000000 : Int32), x2.2)
    ) else (
      (f_X10_canStand i2 i3 x2.2).bind fun x4 =>
      if x4.1 = 0 then (
        some ((-1000000000 : Int32), x4.2)
      ) else (
        (f_X10_isStorm i4 x4.2).bind fun x6 =>
        if x6.1 = 0 then (
          some ((-1000000000 : Int32), x6.2)
        ) else (
          z_g (z_ix i4 10) <|
          z_l (z_ra 9 (Int32.toNatClampNeg i4)) fun v9 =>
          (f_X10_overAsNow v9 x6.2).bind fun x10 =>
          (f_X5_imagineAdded 5 3 i1 i2 i3 x10.2).bind fun x11 =>
          (f_X5_pour 5 v9 (10 : Int32) x11).bind fun x12 =>
          some ((x12.1 - x10.1), x12.2)
        )
      )
    )
  )
set_option maxHeartbeats 4000000 in
set_option maxRecDepth 100000 in
theorem m_X10_added {l : Launch} {G : zG} {i1 : Int32} {i2 : Int32} {i3 : Int32} {i4 : Int32} {M : zM} {r : Int32 × zM} (h : f_X10_added i1 i2 i3 i4 M = some r) : z_T l G 5 yX10_added (.code yX10_added cX10_added 7 (some .int)) [.ref (G.1 0), .int i1, .int i2, .int i3, .int i4] M (some (.int r.1)) r.2 := by
  refine z_of rfl ?_
  intro p e s m below meth c X hw
  have hl := lv_entry [.ref (G.1 0), .int i1, .int i2, .int i3, .int i4] (n := 7) (Nat.le_of_ble_eq_true rfl)
  rw [lg_entry_eq]
  generalize (lg_sl [.ref (G.1 0), .int i1, .int i2, .int i3, .int i4] ++ List.replicate (7 - (lg_sl [.ref (G.1 0), .int i1, .int i2, .int i3, .int i4]).length) Slot.unset).toArray = ls at hl ⊢
  have hl : lv_has ls 7 [(0, .ref (G.1 0)), (1, .int i1), (2, .int i2), (3, .int i3), (4, .int i4)] := hl
  generalize ([.ref (G.1 0), .int i1, .int i2, .int i3, .int i4] : List Value).toArray = args at X ⊢
  have X : z_C G p s m args meth c cX10_added 7 RX10 (some .int) := X
  have hx := X.1
  have hb := X.2.1
  unfold f_X10_added at h
  refine lv_aload_n (pc := 0) hx hb dX10_added_0 rfl (lv_at hl 0 rfl) ?_
  refine zg_DrinkingRoofs_now (pc := 1) X hw zw_fl_2_173 dX10_added_1 ?_
  refine zg_Street_roofs (pc := 4) X hw zk_1 zw_fl_1_214 dX10_added_4 ?_
  refine zg_Roofs_count (pc := 7) X hw zk_3 zw_fl_1_136 dX10_added_7 ?_
  refine lv_bipush (pc := 10) (v := 10) hx hb dX10_added_10 (by decide) ?_
  refine lv_icmp_ge (pc := 12) (tgt := 50) hx hb dX10_added_12 (by decide) (fun c1 => ?_) (fun c1 => ?_)
  · replace h := z_t c1 h
    refine lv_ldc (pc := 50) (v := -1000000000) hx hb X.2.2.2.1 (X.2.2.2.2.1 _ zw_cn_4_104) dX10_added_50 ?_
    obtain rfl := Option.some.inj h
    exact z_ri (pc := 52) X hw dX10_added_52
  · replace h := z_f c1 h
    refine lv_iload_n (pc := 15) hx hb dX10_added_15 rfl (lv_at hl 1 rfl) ?_
    refine lv_iconst (pc := 16) (v := 0) hx hb dX10_added_16 (by decide) ?_
    refine lv_aload_n (pc := 17) hx hb dX10_added_17 rfl (lv_at hl 0 rfl) ?_
    refine zg_DrinkingRoofs_now (pc := 18) X hw zw_fl_2_173 dX10_added_18 ?_
    refine zg_Street_roofs (pc := 21) X hw zk_1 zw_fl_1_214 dX10_added_21 ?_
    refine zg_Roofs_count (pc := 24) X hw zk_3 zw_fl_1_136 dX10_added_24 ?_
    obtain ⟨x2, ex2, h⟩ := z_bd h
    refine z_csI (pc := 27) (rest := []) X hw (m_X10_within  ex2) zw_ml_2_208 zw_st_2_209 zw_in_1_1 zw_co_2_210 zd_X10_within (by decide) rfl hl.1 rfl (Nat.le_of_ble_eq_true rfl) dX10_added_27 ⟨Nat.zero_le _, Nat.zero_le _⟩ (fun Hx2 lx2 wx2 => ?_)
    refine lv_if_eq (pc := 30) (tgt := 50) hx hb dX10_added_30 (by decide) (fun c3 => ?_) (fun c3 => ?_)
    · replace h := z_t c3 h
      refine lv_ldc (pc := 50) (v := -1000000000) hx hb X.2.2.2.1 (X.2.2.2.2.1 _ zw_cn_4_104) dX10_added_50 ?_
      obtain rfl := Option.some.inj h
      exact z_ri (pc := 52) X wx2 dX10_added_52
    · replace h := z_f c3 h
      refine lv_iload_n (pc := 33) hx hb dX10_added_33 rfl (lv_at hl 2 rfl) ?_
      refine lv_iload_n (pc := 34) hx hb dX10_added_34 rfl (lv_at hl 3 rfl) ?_
      obtain ⟨x4, ex4, h⟩ := z_bd h
      refine z_csI (pc := 35) (rest := []) X wx2 (m_X10_canStand  ex4) zw_ml_2_205 zw_st_2_206 zw_in_1_1 zw_co_2_207 zd_X10_canStand (by decide) rfl hl.1 rfl (Nat.le_of_ble_eq_true rfl) dX10_added_35 ⟨Nat.zero_le _, Nat.zero_le _⟩ (fun Hx4 lx4 wx4 => ?_)
      refine lv_if_eq (pc := 38) (tgt := 50) hx hb dX10_added_38 (by decide) (fun c5 => ?_) (fun c5 => ?_)
      · replace h := z_t c5 h
        refine lv_ldc (pc := 50) (v := -1000000000) hx hb X.2.2.2.1 (X.2.2.2.2.1 _ zw_cn_4_104) dX10_added_50 ?_
        obtain rfl := Option.some.inj h
        exact z_ri (pc := 52) X wx4 dX10_added_52
      · replace h := z_f c5 h
        refine lv_aload_n (pc := 41) hx hb dX10_added_41 rfl (lv_at hl 0 rfl) ?_
        refine lv_iload (pc := 42) hx hb dX10_added_42 (lv_at hl 4 rfl) ?_
        obtain ⟨x6, ex6, h⟩ := z_bd h
        refine z_cvI (pc := 44) (rest := []) X wx4 (m_X10_isStorm  ex6) (z_lt zk_0 (by decide)) (z_E10 zk_0) rfl zw_ml_3_16 zw_im_3_18 zw_se_S_3 zw_in_1_1 zw_co_3_19 zd_X10_isStorm (by decide) rfl hl.1 rfl (Nat.le_of_ble_eq_true rfl) dX10_added_44 ⟨Nat.zero_le _, Nat.zero_le _⟩ (fun Hx6 lx6 wx6 => ?_)
        refine lv_if_ne (pc := 47) (tgt := 53) hx hb dX10_added_47 (by decide) (fun c7 => ?_) (fun c7 => ?_)
        · replace h := z_f c7 h
          refine lv_aload_n (pc := 53) hx hb dX10_added_53 rfl (lv_at hl 0 rfl) ?_
          refine zg_DrinkingRoofs_now (pc := 54) X wx6 zw_fl_2_173 dX10_added_54 ?_
          refine zg_Street_storms (pc := 57) X wx6 zk_1 zw_fl_1_222 dX10_added_57 ?_
          refine lv_iload (pc := 60) hx hb dX10_added_60 (lv_at hl 4 rfl) ?_
          obtain ⟨g8, h⟩ := z_gd h
          refine z_aald17 (pc := 62) X wx6 zk_9 zl_9 g8 dX10_added_62 ?_
          obtain ⟨v9, ev9, h⟩ := z_lo h
          refine z_topr ev9 ?_
          have hv9 : z_kd v9 = 7 := by rw [ev9]; exact (zk_el17 zk_9 g8)
          refine lv_astore (pc := 63) (lv' := [(5, .ref (G.1 v9)), (0, .ref (G.1 0)), (1, .int i1), (2, .int i2), (3, .int i3), (4, .int i4)]) hx hb dX10_added_63 hl (by decide) rfl (fun ls hl => ?_)
          refine lv_aload_n (pc := 65) hx hb dX10_added_65 rfl (lv_at hl 1 rfl) ?_
          refine lv_aload (pc := 66) hx hb dX10_added_66 (lv_at hl 0 rfl) ?_
          obtain ⟨x10, ex10, h⟩ := z_bd h
          refine z_cvI (pc := 68) (rest := []) X wx6 (m_X10_overAsNow hv9 ex10) (z_lt zk_0 (by decide)) (z_E10 zk_0) rfl zw_ml_5_8 zw_im_5_10 zw_se_S_33 zw_in_1_1 zw_co_5_11 zd_X10_overAsNow (by decide) rfl hl.1 rfl (Nat.le_of_ble_eq_true rfl) dX10_added_68 ⟨Nat.zero_le _, Nat.zero_le _⟩ (fun Hx10 lx10 wx10 => ?_)
          refine lv_istore (pc := 71) (lv' := [(6, .int x10.1), (5, .ref (G.1 v9)), (0, .ref (G.1 0)), (1, .int i1), (2, .int i2), (3, .int i3), (4, .int i4)]) hx hb dX10_added_71 hl (by decide) rfl (fun ls hl => ?_)
          refine lv_aload_n (pc := 73) hx hb dX10_added_73 rfl (lv_at hl 2 rfl) ?_
          refine zg_DrinkingRoofs_thought (pc := 74) X wx10 zw_fl_2_175 dX10_added_74 ?_
          refine lv_aload_n (pc := 77) hx hb dX10_added_77 rfl (lv_at hl 2 rfl) ?_
          refine zg_DrinkingRoofs_now (pc := 78) X wx10 zw_fl_2_173 dX10_added_78 ?_
          refine zg_Street_roofs (pc := 81) X wx10 zk_1 zw_fl_1_214 dX10_added_81 ?_
          refine lv_iload_n (pc := 84) hx hb dX10_added_84 rfl (lv_at hl 3 rfl) ?_
          refine lv_iload_n (pc := 85) hx hb dX10_added_85 rfl (lv_at hl 4 rfl) ?_
          refine lv_iload_n (pc := 86) hx hb dX10_added_86 rfl (lv_at hl 5 rfl) ?_
          obtain ⟨x11, ex11, h⟩ := z_bd h
          refine z_cvV (pc := 87) (rest := []) X wx10 (m_X5_imagineAdded zk_5 zk_3 ex11) (z_lt zk_5 (by decide)) (z_E5 zk_5) rfl zw_ml_5_20 zw_im_5_21 zw_se_5_22 zw_in_1_3 zw_co_5_23 zd_X5_imagineAdded (by decide) rfl hl.1 rfl (Nat.le_of_ble_eq_true rfl) dX10_added_87 ⟨Nat.zero_le _, Nat.zero_le _⟩ (fun Hx11 lx11 wx11 => ?_)
          refine lv_aload_n (pc := 90) hx hb dX10_added_90 rfl (lv_at hl 2 rfl) ?_
          refine zg_DrinkingRoofs_thought (pc := 91) X wx11 zw_fl_2_175 dX10_added_91 ?_
          refine lv_aload (pc := 94) hx hb dX10_added_94 (lv_at hl 1 rfl) ?_
          refine lv_bipush (pc := 96) (v := 10) hx hb dX10_added_96 (by decide) ?_
          obtain ⟨x12, ex12, h⟩ := z_bd h
          refine z_cvI (pc := 98) (rest := []) X wx11 (m_X5_pour zk_5 hv9 ex12) (z_lt zk_5 (by decide)) (z_E5 zk_5) rfl zw_ml_4_213 zw_im_4_27 zw_se_4_28 zw_in_1_3 zw_co_4_29 zd_X5_pour (by decide) rfl hl.1 rfl (Nat.le_of_ble_eq_true rfl) dX10_added_98 ⟨Nat.zero_le _, Nat.zero_le _⟩ (fun Hx12 lx12 wx12 => ?_)
          refine lv_iload (pc := 101) hx hb dX10_added_101 (lv_at hl 0 rfl) ?_
          refine lv_isub (pc := 103) hx hb dX10_added_103 ?_
          obtain rfl := Option.some.inj h
          exact z_ri (pc := 104) X wx12 dX10_added_104
        · replace h := z_t c7 h
          refine lv_ldc (pc := 50) (v := -1000000000) hx hb X.2.2.2.1 (X.2.2.2.2.1 _ zw_cn_4_104) dX10_added_50 ?_
          obtain rfl := Option.some.inj h
          exact z_ri (pc := 52) X wx6 dX10_added_52
def f_X10_image (i1 : Int32) (M : zM) : Option (Int32 × zM) :=
  if i1 = 0 then (
    if (M.1 0 8) = 0 then (
      z_g (vp_nar .boolean (M.1 0 8) = (M.1 0 8)) <|
      some ((M.1 0 8), M)
    ) else (
      (f_X8_copy 1 2 M).bind fun x4 =>
      z_g (vp_nar .boolean (x4.1 0 8) = (x4.1 0 8)) <|
      some ((x4.1 0 8), x4)
    )
  ) else (
    (f_X8_copy 2 1 M).bind fun x6 =>
    z_l (z_w x6 0 8 (1 : Int32)) fun M7 =>
    z_g (vp_nar .boolean (M7.1 0 8) = (M7.1 0 8)) <|
    some ((M7.1 0 8), M7)
  )
set_option maxHeartbeats 4000000 in
set_option maxRecDepth 100000 in
theorem m_X10_image {l : Launch} {G : zG} {i1 : Int32} {M : zM} {r : Int32 × zM} (h : f_X10_image i1 M = some r) : z_T l G 4 yX10_image (.code yX10_image cX10_image 2 (some .boolean)) [.ref (G.1 0), .int i1] M (some (.int r.1)) r.2 := by
  refine z_of rfl ?_
  intro p e s m below meth c X hw
  have hl := lv_entry [.ref (G.1 0), .int i1] (n := 2) (Nat.le_of_ble_eq_true rfl)
  rw [lg_entry_eq]
  generalize (lg_sl [.ref (G.1 0), .int i1] ++ List.replicate (2 - (lg_sl [.ref (G.1 0), .int i1]).length) Slot.unset).toArray = ls at hl ⊢
  have hl : lv_has ls 2 [(0, .ref (G.1 0)), (1, .int i1)] := hl
  generalize ([.ref (G.1 0), .int i1] : List Value).toArray = args at X ⊢
  have X : z_C G p s m args meth c cX10_image 2 RX10 (some .boolean) := X
  have hx := X.1
  have hb := X.2.1
  unfold f_X10_image at h
  refine lv_iload_n (pc := 0) hx hb dX10_image_0 rfl (lv_at hl 1 rfl) ?_
  refine lv_if_eq (pc := 1) (tgt := 23) hx hb dX10_image_1 (by decide) (fun c1 => ?_) (fun c1 => ?_)
  · replace h := z_t c1 h
    refine lv_aload_n (pc := 23) hx hb dX10_image_23 rfl (lv_at hl 0 rfl) ?_
    refine zg_DrinkingRoofs_imageTaken (pc := 24) X hw zw_fl_2_181 dX10_image_24 ?_
    refine lv_if_eq (pc := 27) (tgt := 41) hx hb dX10_image_27 (by decide) (fun c2 => ?_) (fun c2 => ?_)
    · replace h := z_t c2 h
      refine lv_aload_n (pc := 41) hx hb dX10_image_41 rfl (lv_at hl 0 rfl) ?_
      refine zg_DrinkingRoofs_imageTaken (pc := 42) X hw zw_fl_2_181 dX10_image_42 ?_
      obtain ⟨g3, h⟩ := z_gd h
      obtain rfl := Option.some.inj h
      exact z_rz (pc := 45) X hw (z_nb g3) dX10_image_45
    · replace h := z_f c2 h
      refine lv_aload_n (pc := 30) hx hb dX10_image_30 rfl (lv_at hl 0 rfl) ?_
      refine zg_DrinkingRoofs_now (pc := 31) X hw zw_fl_2_173 dX10_image_31 ?_
      refine lv_aload_n (pc := 34) hx hb dX10_image_34 rfl (lv_at hl 0 rfl) ?_
      refine zg_DrinkingRoofs_kept (pc := 35) X hw zw_fl_2_174 dX10_image_35 ?_
      obtain ⟨x4, ex4, h⟩ := z_bd h
      refine z_cvV (pc := 38) (rest := []) X hw (m_X8_copy zk_1 zk_2 ex4) (z_lt zk_1 (by decide)) (z_E8 zk_1) rfl zw_ml_5_30 zw_im_5_31 zw_se_5_32 zw_in_1_2 zw_co_5_33 zd_X8_copy (by decide) rfl hl.1 rfl (Nat.le_of_ble_eq_true rfl) dX10_image_38 ⟨Nat.zero_le _, Nat.zero_le _⟩ (fun Hx4 lx4 wx4 => ?_)
      refine lv_aload_n (pc := 41) hx hb dX10_image_41 rfl (lv_at hl 0 rfl) ?_
      refine zg_DrinkingRoofs_imageTaken (pc := 42) X wx4 zw_fl_2_181 dX10_image_42 ?_
      obtain ⟨g5, h⟩ := z_gd h
      obtain rfl := Option.some.inj h
      exact z_rz (pc := 45) X wx4 (z_nb g5) dX10_image_45
  · replace h := z_f c1 h
    refine lv_aload_n (pc := 4) hx hb dX10_image_4 rfl (lv_at hl 0 rfl) ?_
    refine zg_DrinkingRoofs_kept (pc := 5) X hw zw_fl_2_174 dX10_image_5 ?_
    refine lv_aload_n (pc := 8) hx hb dX10_image_8 rfl (lv_at hl 0 rfl) ?_
    refine zg_DrinkingRoofs_now (pc := 9) X hw zw_fl_2_173 dX10_image_9 ?_
    obtain ⟨x6, ex6, h⟩ := z_bd h
    refine z_cvV (pc := 12) (rest := []) X hw (m_X8_copy zk_2 zk_1 ex6) (z_lt zk_2 (by decide)) (z_E8 zk_2) rfl zw_ml_5_30 zw_im_5_31 zw_se_5_32 zw_in_1_2 zw_co_5_33 zd_X8_copy (by decide) rfl hl.1 rfl (Nat.le_of_ble_eq_true rfl) dX10_image_12 ⟨Nat.zero_le _, Nat.zero_le _⟩ (fun Hx6 lx6 wx6 => ?_)
    refine lv_aload_n (pc := 15) hx hb dX10_image_15 rfl (lv_at hl 0 rfl) ?_
    refine lv_iconst (pc := 16) (v := 1) hx hb dX10_image_16 (by decide) ?_
    refine zp_DrinkingRoofs_imageTaken (pc := 17) X wx6 zw_fl_2_181 rfl rfl dX10_image_17 (fun HM7 lM7 wM7 => ?_)
    obtain ⟨M7, eM7, h⟩ := z_lo h
    rw [← eM7] at wM7
    refine lv_goto (pc := 20) (tgt := 41) hx hb dX10_image_20 (by decide) ?_
    refine lv_aload_n (pc := 41) hx hb dX10_image_41 rfl (lv_at hl 0 rfl) ?_
    refine zg_DrinkingRoofs_imageTaken (pc := 42) X wM7 zw_fl_2_181 dX10_image_42 ?_
    obtain ⟨g8, h⟩ := z_gd h
    obtain rfl := Option.some.inj h
    exact z_rz (pc := 45) X wM7 (z_nb g8) dX10_image_45
def f_X10_look (i1 : Int32) (M : zM) : Option (Int32 × zM) :=
  (f_X10_within i1 (10 : Int32) (19 : Int32) M).bind fun x1 =>
  if x1.1 = 0 then (
    (f_X10_within i1 (100 : Int32) (219 : Int32) x1.2).bind fun x3 =>
    if x3.1 = 0 then (
      (f_X8_told 1 i1 x3.2).bind fun x5 =>
      some (x5.1, x5.2)
    ) else (
      z_l ((i1 - (100 : Int32)) / (12 : Int32)) fun v6 =>
      (f_X10_isStorm v6 x3.2).bind fun x7 =>
      if x7.1 = 0 then (
        some ((-1 : Int32), x7.2)
      ) else (
        z_g (z_ix v6 10) <|
        (f_X7_told (z_ra 9 (Int32.toNatClampNeg v6)) ((i1 - (100 : Int32)) - (i1 - (100 : Int32)) / (12 : Int32) * (12 : Int32)) x7.2).bind fun x10 =>
        some (x10.1, x10.2)
      )
    )
  ) else (
    z_l (i1 - (10 : Int32)) fun v11 =>
    (f_X10_isStorm v11 x1.2).bind fun x12 =>
    if x12.1 = 0 then (
      some ((-1 : Int32), x12.2)
    ) else (
      z_g (z_ix v11 10) <|
      some ((x12.2.1 (z_ra 9 (Int32.toNatClampNeg v11)) 0), x12.2)
    )
  )
set_option maxHeartbeats 4000000 in
set_option maxRecDepth 100000 in
theorem m_X10_look {l : Launch} {G : zG} {i1 : Int32} {M : zM} {r : Int32 × zM} (h : f_X10_look i1 M = some r) : z_T l G 2 yX10_look (.code yX10_look cX10_look 3 (some .int)) [.ref (G.1 0), .int i1] M (some (.int r.1)) r.2 := by
  refine z_of rfl ?_
  intro p e s m below meth c X hw
  have hl := lv_entry [.ref (G.1 0), .int i1] (n := 3) (Nat.le_of_ble_eq_true rfl)
  rw [lg_entry_eq]
  generalize (lg_sl [.ref (G.1 0), .int i1] ++ List.replicate (3 - (lg_sl [.ref (G.1 0), .int i1]).length) Slot.unset).toArray = ls at hl ⊢
  have hl : lv_has ls 3 [(0, .ref (G.1 0)), (1, .int i1)] := hl
  generalize ([.ref (G.1 0), .int i1] : List Value).toArray = args at X ⊢
  have X : z_C G p s m args meth c cX10_look 3 RX10 (some .int) := X
  have hx := X.1
  have hb := X.2.1
  unfold f_X10_look at h
  refine lv_iload_n (pc := 0) hx hb dX10_look_0 rfl (lv_at hl 1 rfl) ?_
  refine lv_bipush (pc := 1) (v := 10) hx hb dX10_look_1 (by decide) ?_
  refine lv_bipush (pc := 3) (v := 19) hx hb dX10_look_3 (by decide) ?_
  obtain ⟨x1, ex1, h⟩ := z_bd h
  refine z_csI (pc := 5) (rest := []) X hw (m_X10_within  ex1) zw_ml_2_208 zw_st_2_209 zw_in_1_1 zw_co_2_210 zd_X10_within (by decide) rfl hl.1 rfl (Nat.le_of_ble_eq_true rfl) dX10_look_5 ⟨Nat.zero_le _, Nat.zero_le _⟩ (fun Hx1 lx1 wx1 => ?_)
  refine lv_if_eq (pc := 8) (tgt := 41) hx hb dX10_look_8 (by decide) (fun c2 => ?_) (fun c2 => ?_)
  · replace h := z_t c2 h
    refine lv_iload_n (pc := 41) hx hb dX10_look_41 rfl (lv_at hl 1 rfl) ?_
    refine lv_bipush (pc := 42) (v := 100) hx hb dX10_look_42 (by decide) ?_
    refine lv_sipush (pc := 44) (v := 219) hx hb dX10_look_44 (by decide) ?_
    obtain ⟨x3, ex3, h⟩ := z_bd h
    refine z_csI (pc := 47) (rest := []) X wx1 (m_X10_within  ex3) zw_ml_2_208 zw_st_2_209 zw_in_1_1 zw_co_2_210 zd_X10_within (by decide) rfl hl.1 rfl (Nat.le_of_ble_eq_true rfl) dX10_look_47 ⟨Nat.zero_le _, Nat.zero_le _⟩ (fun Hx3 lx3 wx3 => ?_)
    refine lv_if_eq (pc := 50) (tgt := 93) hx hb dX10_look_50 (by decide) (fun c4 => ?_) (fun c4 => ?_)
    · replace h := z_t c4 h
      refine lv_aload_n (pc := 93) hx hb dX10_look_93 rfl (lv_at hl 0 rfl) ?_
      refine zg_DrinkingRoofs_now (pc := 94) X wx3 zw_fl_2_173 dX10_look_94 ?_
      refine lv_iload_n (pc := 97) hx hb dX10_look_97 rfl (lv_at hl 1 rfl) ?_
      obtain ⟨x5, ex5, h⟩ := z_bd h
      refine z_cvI (pc := 98) (rest := []) X wx3 (m_X8_told zk_1 ex5) (z_lt zk_1 (by decide)) (z_E8 zk_1) rfl zw_ml_5_58 zw_im_5_59 zw_se_5_60 zw_in_1_2 zw_co_5_61 zd_X8_told (by decide) rfl hl.1 rfl (Nat.le_of_ble_eq_true rfl) dX10_look_98 ⟨Nat.zero_le _, Nat.zero_le _⟩ (fun Hx5 lx5 wx5 => ?_)
      obtain rfl := Option.some.inj h
      exact z_ri (pc := 101) X wx5 dX10_look_101
    · replace h := z_f c4 h
      refine lv_iload_n (pc := 53) hx hb dX10_look_53 rfl (lv_at hl 1 rfl) ?_
      refine lv_bipush (pc := 54) (v := 100) hx hb dX10_look_54 (by decide) ?_
      refine lv_isub (pc := 56) hx hb dX10_look_56 ?_
      refine lv_bipush (pc := 57) (v := 12) hx hb dX10_look_57 (by decide) ?_
      refine lv_idiv (pc := 59) hx hb dX10_look_59 (by decide) ?_
      obtain ⟨v6, ev6, h⟩ := z_lo h
      refine z_topi ev6 ?_
      refine lv_istore_n (pc := 60) (lv' := [(2, .int v6), (0, .ref (G.1 0)), (1, .int i1)]) hx hb dX10_look_60 rfl hl (by decide) rfl (fun ls hl => ?_)
      refine lv_aload_n (pc := 61) hx hb dX10_look_61 rfl (lv_at hl 1 rfl) ?_
      refine lv_iload_n (pc := 62) hx hb dX10_look_62 rfl (lv_at hl 0 rfl) ?_
      obtain ⟨x7, ex7, h⟩ := z_bd h
      refine z_cvI (pc := 63) (rest := []) X wx3 (m_X10_isStorm  ex7) (z_lt zk_0 (by decide)) (z_E10 zk_0) rfl zw_ml_3_16 zw_im_3_18 zw_se_S_3 zw_in_1_1 zw_co_3_19 zd_X10_isStorm (by decide) rfl hl.1 rfl (Nat.le_of_ble_eq_true rfl) dX10_look_63 ⟨Nat.zero_le _, Nat.zero_le _⟩ (fun Hx7 lx7 wx7 => ?_)
      refine lv_if_eq (pc := 66) (tgt := 91) hx hb dX10_look_66 (by decide) (fun c8 => ?_) (fun c8 => ?_)
      · replace h := z_t c8 h
        refine lv_iconst (pc := 91) (v := -1) hx hb dX10_look_91 (by decide) ?_
        obtain rfl := Option.some.inj h
        exact z_ri (pc := 92) X wx7 dX10_look_92
      · replace h := z_f c8 h
        refine lv_aload_n (pc := 69) hx hb dX10_look_69 rfl (lv_at hl 1 rfl) ?_
        refine zg_DrinkingRoofs_now (pc := 70) X wx7 zw_fl_2_173 dX10_look_70 ?_
        refine zg_Street_storms (pc := 73) X wx7 zk_1 zw_fl_1_222 dX10_look_73 ?_
        refine lv_iload_n (pc := 76) hx hb dX10_look_76 rfl (lv_at hl 0 rfl) ?_
        obtain ⟨g9, h⟩ := z_gd h
        refine z_aald17 (pc := 77) X wx7 zk_9 zl_9 g9 dX10_look_77 ?_
        refine lv_iload_n (pc := 78) hx hb dX10_look_78 rfl (lv_at hl 2 rfl) ?_
        refine lv_bipush (pc := 79) (v := 100) hx hb dX10_look_79 (by decide) ?_
        refine lv_isub (pc := 81) hx hb dX10_look_81 ?_
        refine lv_bipush (pc := 82) (v := 12) hx hb dX10_look_82 (by decide) ?_
        refine lv_irem (pc := 84) hx hb dX10_look_84 (by decide) ?_
        obtain ⟨x10, ex10, h⟩ := z_bd h
        refine z_cvI (pc := 85) (rest := []) X wx7 (m_X7_told (zk_el17 zk_9 g9) ex10) (z_lt (zk_el17 zk_9 g9) (by decide)) (z_E7 (zk_el17 zk_9 g9)) rfl zw_ml_5_53 zw_im_5_54 zw_se_5_55 zw_in_1_6 zw_co_5_56 zd_X7_told (by decide) rfl hl.1 rfl (Nat.le_of_ble_eq_true rfl) dX10_look_85 ⟨Nat.zero_le _, Nat.zero_le _⟩ (fun Hx10 lx10 wx10 => ?_)
        refine lv_goto (pc := 88) (tgt := 92) hx hb dX10_look_88 (by decide) ?_
        obtain rfl := Option.some.inj h
        exact z_ri (pc := 92) X wx10 dX10_look_92
  · replace h := z_f c2 h
    refine lv_iload_n (pc := 11) hx hb dX10_look_11 rfl (lv_at hl 1 rfl) ?_
    refine lv_bipush (pc := 12) (v := 10) hx hb dX10_look_12 (by decide) ?_
    refine lv_isub (pc := 14) hx hb dX10_look_14 ?_
    obtain ⟨v11, ev11, h⟩ := z_lo h
    refine z_topi ev11 ?_
    refine lv_istore_n (pc := 15) (lv' := [(2, .int v11), (0, .ref (G.1 0)), (1, .int i1)]) hx hb dX10_look_15 rfl hl (by decide) rfl (fun ls hl => ?_)
    refine lv_aload_n (pc := 16) hx hb dX10_look_16 rfl (lv_at hl 1 rfl) ?_
    refine lv_iload_n (pc := 17) hx hb dX10_look_17 rfl (lv_at hl 0 rfl) ?_
    obtain ⟨x12, ex12, h⟩ := z_bd h
    refine z_cvI (pc := 18) (rest := []) X wx1 (m_X10_isStorm  ex12) (z_lt zk_0 (by decide)) (z_E10 zk_0) rfl zw_ml_3_16 zw_im_3_18 zw_se_S_3 zw_in_1_1 zw_co_3_19 zd_X10_isStorm (by decide) rfl hl.1 rfl (Nat.le_of_ble_eq_true rfl) dX10_look_18 ⟨Nat.zero_le _, Nat.zero_le _⟩ (fun Hx12 lx12 wx12 => ?_)
    refine lv_if_eq (pc := 21) (tgt := 39) hx hb dX10_look_21 (by decide) (fun c13 => ?_) (fun c13 => ?_)
    · replace h := z_t c13 h
      refine lv_iconst (pc := 39) (v := -1) hx hb dX10_look_39 (by decide) ?_
      obtain rfl := Option.some.inj h
      exact z_ri (pc := 40) X wx12 dX10_look_40
    · replace h := z_f c13 h
      refine lv_aload_n (pc := 24) hx hb dX10_look_24 rfl (lv_at hl 1 rfl) ?_
      refine zg_DrinkingRoofs_now (pc := 25) X wx12 zw_fl_2_173 dX10_look_25 ?_
      refine zg_Street_storms (pc := 28) X wx12 zk_1 zw_fl_1_222 dX10_look_28 ?_
      refine lv_iload_n (pc := 31) hx hb dX10_look_31 rfl (lv_at hl 0 rfl) ?_
      obtain ⟨g14, h⟩ := z_gd h
      refine z_aald17 (pc := 32) X wx12 zk_9 zl_9 g14 dX10_look_32 ?_
      refine zg_Storm_hours (pc := 33) X wx12 (zk_el17 zk_9 g14) zw_fl_1_195 dX10_look_33 ?_
      refine lv_goto (pc := 36) (tgt := 40) hx hb dX10_look_36 (by decide) ?_
      obtain rfl := Option.some.inj h
      exact z_ri (pc := 40) X wx12 dX10_look_40
def f_X11_isIn (i0 : Int32) (i1 : Int32) (i2 : Int32) (M : zM) : Option (Int32 × zM) :=
  if i0 < i1 then (
    some ((0 : Int32), M)
  ) else (
    if i2 < i0 then (
      some ((0 : Int32), M)
    ) else (
      some ((1 : Int32), M)
    )
  )
set_option maxHeartbeats 4000000 in
set_option maxRecDepth 100000 in
theorem m_X11_isIn {l : Launch} {G : zG} {i0 : Int32} {i1 : Int32} {i2 : Int32} {M : zM} {r : Int32 × zM} (h : f_X11_isIn i0 i1 i2 M = some r) : z_T l G 0 yX11_isIn (.code yX11_isIn cX11_isIn 3 (some .boolean)) [.int i0, .int i1, .int i2] M (some (.int r.1)) r.2 := by
  refine z_of rfl ?_
  intro p e s m below meth c X hw
  have hl := lv_entry [.int i0, .int i1, .int i2] (n := 3) (Nat.le_of_ble_eq_true rfl)
  rw [lg_entry_eq]
  generalize (lg_sl [.int i0, .int i1, .int i2] ++ List.replicate (3 - (lg_sl [.int i0, .int i1, .int i2]).length) Slot.unset).toArray = ls at hl ⊢
  have hl : lv_has ls 3 [(0, .int i0), (1, .int i1), (2, .int i2)] := hl
  generalize ([.int i0, .int i1, .int i2] : List Value).toArray = args at X ⊢
  have X : z_C G p s m args meth c cX11_isIn 3 RX11 (some .boolean) := X
  have hx := X.1
  have hb := X.2.1
  unfold f_X11_isIn at h
  refine lv_iload_n (pc := 0) hx hb dX11_isIn_0 rfl (lv_at hl 0 rfl) ?_
  refine lv_iload_n (pc := 1) hx hb dX11_isIn_1 rfl (lv_at hl 1 rfl) ?_
  refine lv_icmp_lt (pc := 2) (tgt := 14) hx hb dX11_isIn_2 (by decide) (fun c1 => ?_) (fun c1 => ?_)
  · replace h := z_t c1 h
    refine lv_iconst (pc := 14) (v := 0) hx hb dX11_isIn_14 (by decide) ?_
    obtain rfl := Option.some.inj h
    exact z_rz (pc := 15) X hw (z_nb (x := 0) (by decide)) dX11_isIn_15
  · replace h := z_f c1 h
    refine lv_iload_n (pc := 5) hx hb dX11_isIn_5 rfl (lv_at hl 0 rfl) ?_
    refine lv_iload_n (pc := 6) hx hb dX11_isIn_6 rfl (lv_at hl 2 rfl) ?_
    refine lv_icmp_gt (pc := 7) (tgt := 14) hx hb dX11_isIn_7 (by decide) (fun c2 => ?_) (fun c2 => ?_)
    · replace h := z_t c2 h
      refine lv_iconst (pc := 14) (v := 0) hx hb dX11_isIn_14 (by decide) ?_
      obtain rfl := Option.some.inj h
      exact z_rz (pc := 15) X hw (z_nb (x := 0) (by decide)) dX11_isIn_15
    · replace h := z_f c2 h
      refine lv_iconst (pc := 10) (v := 1) hx hb dX11_isIn_10 (by decide) ?_
      refine lv_goto (pc := 11) (tgt := 15) hx hb dX11_isIn_11 (by decide) ?_
      obtain rfl := Option.some.inj h
      exact z_rz (pc := 15) X hw (z_nb (x := 1) (by decide)) dX11_isIn_15
def f_X11_least (i0 : Int32) (i1 : Int32) (M : zM) : Option (Int32 × zM) :=
  if i1 ≤ i0 then (
    some (i1, M)
  ) else (
    some (i0, M)
  )
set_option maxHeartbeats 4000000 in
set_option maxRecDepth 100000 in
theorem m_X11_least {l : Launch} {G : zG} {i0 : Int32} {i1 : Int32} {M : zM} {r : Int32 × zM} (h : f_X11_least i0 i1 M = some r) : z_T l G 0 yX11_least (.code yX11_least cX11_least 2 (some .int)) [.int i0, .int i1] M (some (.int r.1)) r.2 := by
  refine z_of rfl ?_
  intro p e s m below meth c X hw
  have hl := lv_entry [.int i0, .int i1] (n := 2) (Nat.le_of_ble_eq_true rfl)
  rw [lg_entry_eq]
  generalize (lg_sl [.int i0, .int i1] ++ List.replicate (2 - (lg_sl [.int i0, .int i1]).length) Slot.unset).toArray = ls at hl ⊢
  have hl : lv_has ls 2 [(0, .int i0), (1, .int i1)] := hl
  generalize ([.int i0, .int i1] : List Value).toArray = args at X ⊢
  have X : z_C G p s m args meth c cX11_least 2 RX11 (some .int) := X
  have hx := X.1
  have hb := X.2.1
  unfold f_X11_least at h
  refine lv_iload_n (pc := 0) hx hb dX11_least_0 rfl (lv_at hl 0 rfl) ?_
  refine lv_iload_n (pc := 1) hx hb dX11_least_1 rfl (lv_at hl 1 rfl) ?_
  refine lv_icmp_ge (pc := 2) (tgt := 9) hx hb dX11_least_2 (by decide) (fun c1 => ?_) (fun c1 => ?_)
  · replace h := z_t c1 h
    refine lv_iload_n (pc := 9) hx hb dX11_least_9 rfl (lv_at hl 1 rfl) ?_
    obtain rfl := Option.some.inj h
    exact z_ri (pc := 10) X hw dX11_least_10
  · replace h := z_f c1 h
    refine lv_iload_n (pc := 5) hx hb dX11_least_5 rfl (lv_at hl 0 rfl) ?_
    refine lv_goto (pc := 6) (tgt := 10) hx hb dX11_least_6 (by decide) ?_
    obtain rfl := Option.some.inj h
    exact z_ri (pc := 10) X hw dX11_least_10
def f_X11_most (i0 : Int32) (i1 : Int32) (M : zM) : Option (Int32 × zM) :=
  if i0 ≤ i1 then (
    some (i1, M)
  ) else (
    some (i0, M)
  )
set_option maxHeartbeats 4000000 in
set_option maxRecDepth 100000 in
theorem m_X11_most {l : Launch} {G : zG} {i0 : Int32} {i1 : Int32} {M : zM} {r : Int32 × zM} (h : f_X11_most i0 i1 M = some r) : z_T l G 0 yX11_most (.code yX11_most cX11_most 2 (some .int)) [.int i0, .int i1] M (some (.int r.1)) r.2 := by
  refine z_of rfl ?_
  intro p e s m below meth c X hw
  have hl := lv_entry [.int i0, .int i1] (n := 2) (Nat.le_of_ble_eq_true rfl)
  rw [lg_entry_eq]
  generalize (lg_sl [.int i0, .int i1] ++ List.replicate (2 - (lg_sl [.int i0, .int i1]).length) Slot.unset).toArray = ls at hl ⊢
  have hl : lv_has ls 2 [(0, .int i0), (1, .int i1)] := hl
  generalize ([.int i0, .int i1] : List Value).toArray = args at X ⊢
  have X : z_C G p s m args meth c cX11_most 2 RX11 (some .int) := X
  have hx := X.1
  have hb := X.2.1
  unfold f_X11_most at h
  refine lv_iload_n (pc := 0) hx hb dX11_most_0 rfl (lv_at hl 0 rfl) ?_
  refine lv_iload_n (pc := 1) hx hb dX11_most_1 rfl (lv_at hl 1 rfl) ?_
  refine lv_icmp_le (pc := 2) (tgt := 9) hx hb dX11_most_2 (by decide) (fun c1 => ?_) (fun c1 => ?_)
  · replace h := z_t c1 h
    refine lv_iload_n (pc := 9) hx hb dX11_most_9 rfl (lv_at hl 1 rfl) ?_
    obtain rfl := Option.some.inj h
    exact z_ri (pc := 10) X hw dX11_most_10
  · replace h := z_f c1 h
    refine lv_iload_n (pc := 5) hx hb dX11_most_5 rfl (lv_at hl 0 rfl) ?_
    refine lv_goto (pc := 6) (tgt := 10) hx hb dX11_most_6 (by decide) ?_
    obtain rfl := Option.some.inj h
    exact z_ri (pc := 10) X hw dX11_most_10
def f_X11_isHouse (i1 : Int32) (M : zM) : Option (Int32 × zM) :=
  (f_X11_isIn i1 (0 : Int32) ((M.1 41 (Int32.toNatClampNeg (0 : Int32))) - (1 : Int32)) M).bind fun x1 =>
  z_g (vp_nar .boolean x1.1 = x1.1) <|
  some (x1.1, x1.2)
set_option maxHeartbeats 4000000 in
set_option maxRecDepth 100000 in
theorem m_X11_isHouse {l : Launch} {G : zG} {i1 : Int32} {M : zM} {r : Int32 × zM} (h : f_X11_isHouse i1 M = some r) : z_T l G 1 yX11_isHouse (.code yX11_isHouse cX11_isHouse 2 (some .boolean)) [.ref (G.1 40), .int i1] M (some (.int r.1)) r.2 := by
  refine z_of rfl ?_
  intro p e s m below meth c X hw
  have hl := lv_entry [.ref (G.1 40), .int i1] (n := 2) (Nat.le_of_ble_eq_true rfl)
  rw [lg_entry_eq]
  generalize (lg_sl [.ref (G.1 40), .int i1] ++ List.replicate (2 - (lg_sl [.ref (G.1 40), .int i1]).length) Slot.unset).toArray = ls at hl ⊢
  have hl : lv_has ls 2 [(0, .ref (G.1 40)), (1, .int i1)] := hl
  generalize ([.ref (G.1 40), .int i1] : List Value).toArray = args at X ⊢
  have X : z_C G p s m args meth c cX11_isHouse 2 RX11 (some .boolean) := X
  have hx := X.1
  have hb := X.2.1
  unfold f_X11_isHouse at h
  refine lv_iload_n (pc := 0) hx hb dX11_isHouse_0 rfl (lv_at hl 1 rfl) ?_
  refine lv_iconst (pc := 1) (v := 0) hx hb dX11_isHouse_1 (by decide) ?_
  refine lv_aload_n (pc := 2) hx hb dX11_isHouse_2 rfl (lv_at hl 0 rfl) ?_
  refine zg_DrinkingRoofsModel_w (pc := 3) X hw zw_fl_5_71 dX11_isHouse_3 ?_
  refine lv_iconst (pc := 6) (v := 0) hx hb dX11_isHouse_6 (by decide) ?_
  refine z_iald (pc := 7) X hw zk_41 zl_41 (z_il (by decide)) dX11_isHouse_7 ?_
  refine lv_iconst (pc := 8) (v := 1) hx hb dX11_isHouse_8 (by decide) ?_
  refine lv_isub (pc := 9) hx hb dX11_isHouse_9 ?_
  obtain ⟨x1, ex1, h⟩ := z_bd h
  refine z_csI (pc := 10) (rest := []) X hw (m_X11_isIn  ex1) zw_ml_5_209 zw_st_5_210 zw_in_1_12 zw_co_5_211 zd_X11_isIn (by decide) rfl hl.1 rfl (Nat.le_of_ble_eq_true rfl) dX11_isHouse_10 ⟨Nat.zero_le _, Nat.zero_le _⟩ (fun Hx1 lx1 wx1 => ?_)
  obtain ⟨g2, h⟩ := z_gd h
  obtain rfl := Option.some.inj h
  exact z_rz (pc := 13) X wx1 (z_nb g2) dX11_isHouse_13
def f_X11_isStorm (i1 : Int32) (M : zM) : Option (Int32 × zM) :=
  (f_X11_isIn i1 (0 : Int32) ((M.1 41 (Int32.toNatClampNeg (1 : Int32))) - (1 : Int32)) M).bind fun x1 =>
  z_g (vp_nar .boolean x1.1 = x1.1) <|
  some (x1.1, x1.2)
set_option maxHeartbeats 4000000 in
set_option maxRecDepth 100000 in
theorem m_X11_isStorm {l : Launch} {G : zG} {i1 : Int32} {M : zM} {r : Int32 × zM} (h : f_X11_isStorm i1 M = some r) : z_T l G 1 yX11_isStorm (.code yX11_isStorm cX11_isStorm 2 (some .boolean)) [.ref (G.1 40), .int i1] M (some (.int r.1)) r.2 := by
  refine z_of rfl ?_
  intro p e s m below meth c X hw
  have hl := lv_entry [.ref (G.1 40), .int i1] (n := 2) (Nat.le_of_ble_eq_true rfl)
  rw [lg_entry_eq]
  generalize (lg_sl [.ref (G.1 40), .int i1] ++ List.replicate (2 - (lg_sl [.ref (G.1 40), .int i1]).length) Slot.unset).toArray = ls at hl ⊢
  have hl : lv_has ls 2 [(0, .ref (G.1 40)), (1, .int i1)] := hl
  generalize ([.ref (G.1 40), .int i1] : List Value).toArray = args at X ⊢
  have X : z_C G p s m args meth c cX11_isStorm 2 RX11 (some .boolean) := X
  have hx := X.1
  have hb := X.2.1
  unfold f_X11_isStorm at h
  refine lv_iload_n (pc := 0) hx hb dX11_isStorm_0 rfl (lv_at hl 1 rfl) ?_
  refine lv_iconst (pc := 1) (v := 0) hx hb dX11_isStorm_1 (by decide) ?_
  refine lv_aload_n (pc := 2) hx hb dX11_isStorm_2 rfl (lv_at hl 0 rfl) ?_
  refine zg_DrinkingRoofsModel_w (pc := 3) X hw zw_fl_5_71 dX11_isStorm_3 ?_
  refine lv_iconst (pc := 6) (v := 1) hx hb dX11_isStorm_6 (by decide) ?_
  refine z_iald (pc := 7) X hw zk_41 zl_41 (z_il (by decide)) dX11_isStorm_7 ?_
  refine lv_iconst (pc := 8) (v := 1) hx hb dX11_isStorm_8 (by decide) ?_
  refine lv_isub (pc := 9) hx hb dX11_isStorm_9 ?_
  obtain ⟨x1, ex1, h⟩ := z_bd h
  refine z_csI (pc := 10) (rest := []) X hw (m_X11_isIn  ex1) zw_ml_5_209 zw_st_5_210 zw_in_1_12 zw_co_5_211 zd_X11_isIn (by decide) rfl hl.1 rfl (Nat.le_of_ble_eq_true rfl) dX11_isStorm_10 ⟨Nat.zero_le _, Nat.zero_le _⟩ (fun Hx1 lx1 wx1 => ?_)
  obtain ⟨g2, h⟩ := z_gd h
  obtain rfl := Option.some.inj h
  exact z_rz (pc := 13) X wx1 (z_nb g2) dX11_isStorm_13
def f_X11_own (i1 : Int32) (i2 : Int32) (M : zM) : Option (Int32 × zM) :=
  z_l (((20 : Int32) + ((16 : Int32) * i1)) + i2) fun v1 =>
  z_g (z_ix v1 1700) <|
  some ((M.1 41 (Int32.toNatClampNeg v1)), M)
set_option maxHeartbeats 4000000 in
set_option maxRecDepth 100000 in
theorem m_X11_own {l : Launch} {G : zG} {i1 : Int32} {i2 : Int32} {M : zM} {r : Int32 × zM} (h : f_X11_own i1 i2 M = some r) : z_T l G 0 yX11_own (.code yX11_own cX11_own 3 (some .int)) [.ref (G.1 40), .int i1, .int i2] M (some (.int r.1)) r.2 := by
  refine z_of rfl ?_
  intro p e s m below meth c X hw
  have hl := lv_entry [.ref (G.1 40), .int i1, .int i2] (n := 3) (Nat.le_of_ble_eq_true rfl)
  rw [lg_entry_eq]
  generalize (lg_sl [.ref (G.1 40), .int i1, .int i2] ++ List.replicate (3 - (lg_sl [.ref (G.1 40), .int i1, .int i2]).length) Slot.unset).toArray = ls at hl ⊢
  have hl : lv_has ls 3 [(0, .ref (G.1 40)), (1, .int i1), (2, .int i2)] := hl
  generalize ([.ref (G.1 40), .int i1, .int i2] : List Value).toArray = args at X ⊢
  have X : z_C G p s m args meth c cX11_own 3 RX11 (some .int) := X
  have hx := X.1
  have hb := X.2.1
  unfold f_X11_own at h
  refine lv_aload_n (pc := 0) hx hb dX11_own_0 rfl (lv_at hl 0 rfl) ?_
  refine zg_DrinkingRoofsModel_w (pc := 1) X hw zw_fl_5_71 dX11_own_1 ?_
  refine lv_bipush (pc := 4) (v := 20) hx hb dX11_own_4 (by decide) ?_
  refine lv_bipush (pc := 6) (v := 16) hx hb dX11_own_6 (by decide) ?_
  refine lv_iload_n (pc := 8) hx hb dX11_own_8 rfl (lv_at hl 1 rfl) ?_
  refine lv_imul (pc := 9) hx hb dX11_own_9 ?_
  refine lv_iadd (pc := 10) hx hb dX11_own_10 ?_
  refine lv_iload_n (pc := 11) hx hb dX11_own_11 rfl (lv_at hl 2 rfl) ?_
  refine lv_iadd (pc := 12) hx hb dX11_own_12 ?_
  obtain ⟨v1, ev1, h⟩ := z_lo h
  refine z_topi ev1 ?_
  obtain ⟨g2, h⟩ := z_gd h
  refine z_iald (pc := 13) X hw zk_41 zl_41 g2 dX11_own_13 ?_
  obtain rfl := Option.some.inj h
  exact z_ri (pc := 14) X hw dX11_own_14
def f_X11_gives (i1 : Int32) (i2 : Int32) (i3 : Int32) (M : zM) : Option (zM) :=
  z_g (z_ix (((20 : Int32) + ((16 : Int32) * i1)) + i2) 1700) <|
  z_l (z_w M 41 (Int32.toNatClampNeg (((20 : Int32) + ((16 : Int32) * i1)) + i2)) i3) fun M2 =>
  some M2
set_option maxHeartbeats 4000000 in
set_option maxRecDepth 100000 in
theorem m_X11_gives {l : Launch} {G : zG} {i1 : Int32} {i2 : Int32} {i3 : Int32} {M : zM} {r : zM} (h : f_X11_gives i1 i2 i3 M = some r) : z_T l G 0 yX11_gives (.code yX11_gives cX11_gives 4 none) [.ref (G.1 40), .int i1, .int i2, .int i3] M none r := by
  refine z_of rfl ?_
  intro p e s m below meth c X hw
  have hl := lv_entry [.ref (G.1 40), .int i1, .int i2, .int i3] (n := 4) (Nat.le_of_ble_eq_true rfl)
  rw [lg_entry_eq]
  generalize (lg_sl [.ref (G.1 40), .int i1, .int i2, .int i3] ++ List.replicate (4 - (lg_sl [.ref (G.1 40), .int i1, .int i2, .int i3]).length) Slot.unset).toArray = ls at hl ⊢
  have hl : lv_has ls 4 [(0, .ref (G.1 40)), (1, .int i1), (2, .int i2), (3, .int i3)] := hl
  generalize ([.ref (G.1 40), .int i1, .int i2, .int i3] : List Value).toArray = args at X ⊢
  have X : z_C G p s m args meth c cX11_gives 4 RX11 none := X
  have hx := X.1
  have hb := X.2.1
  unfold f_X11_gives at h
  refine lv_aload_n (pc := 0) hx hb dX11_gives_0 rfl (lv_at hl 0 rfl) ?_
  refine zg_DrinkingRoofsModel_w (pc := 1) X hw zw_fl_5_71 dX11_gives_1 ?_
  refine lv_bipush (pc := 4) (v := 20) hx hb dX11_gives_4 (by decide) ?_
  refine lv_bipush (pc := 6) (v := 16) hx hb dX11_gives_6 (by decide) ?_
  refine lv_iload_n (pc := 8) hx hb dX11_gives_8 rfl (lv_at hl 1 rfl) ?_
  refine lv_imul (pc := 9) hx hb dX11_gives_9 ?_
  refine lv_iadd (pc := 10) hx hb dX11_gives_10 ?_
  refine lv_iload_n (pc := 11) hx hb dX11_gives_11 rfl (lv_at hl 2 rfl) ?_
  refine lv_iadd (pc := 12) hx hb dX11_gives_12 ?_
  refine lv_iload_n (pc := 13) hx hb dX11_gives_13 rfl (lv_at hl 3 rfl) ?_
  obtain ⟨g1, h⟩ := z_gd h
  refine z_iast (pc := 14) X hw zk_41 zl_41 g1 dX11_gives_14 (fun HM2 lM2 wM2 => ?_)
  obtain ⟨M2, eM2, h⟩ := z_lo h
  rw [← eM2] at wM2
  obtain rfl := Option.some.inj h
  exact z_rv (pc := 15) X wM2 dX11_gives_15
def f_X11_house_66 : Nat → Int32 → Int32 → Int32 → Int32 → Int32 → Int32 → zM → Option (Int32 × zM)
  | 0, _, _, _, _, _, _, _ => none
  | n + 1, i1, i2, i3, i4, i5, i6, M =>
    if (16 : Int32) ≤ i6 then (
      (f_X11_gives i5 (0 : Int32) i1 M).bind fun x2 =>
      (f_X11_gives i5 (1 : Int32) i2 x2).bind fun x3 =>
      (f_X11_gives i5 (2 : Int32) i3 x3).bind fun x4 =>
      (f_X11_gives i5 (3 : Int32) i4 x4).bind fun x5 =>
      (f_X11_gives i5 (4 : Int32) (-1 : Int32) x5).bind fun x6 =>
      z_l (z_w x6 41 (Int32.toNatClampNeg (0 : Int32)) ((x6.1 41 (Int32.toNatClampNeg (0 : Int32))) + (1 : Int32))) fun M7 =>
      some (i5, M7)
    ) else (
      (f_X11_gives i5 i6 (0 : Int32) M).bind fun x8 =>
      z_l (i6 + (1 : Int32)) fun v9 =>
      f_X11_house_66 n i1 i2 i3 i4 i5 v9 x8
    )
def f_X11_house (i1 : Int32) (i2 : Int32) (i3 : Int32) (i4 : Int32) (M : zM) : Option (Int32 × zM) :=
  (f_X11_isIn i1 (1 : Int32) (99 : Int32) M).bind fun x1 =>
  if x1.1 = 0 then (
    some ((-1 : Int32), x1.2)
  ) else (
    (f_X11_isIn i2 (0 : Int32) (9999 : Int32) x1.2).bind fun x3 =>
    if x3.1 = 0 then (
      some ((-1 : Int32), x3.2)
    ) else (
      (f_X11_isIn i3 (0 : Int32) (10 : Int32) x3.2).bind fun x5 =>
      if x5.1 = 0 then (
        some ((-1 : Int32), x5.2)
      ) else (
        (f_X11_isIn i4 (0 : Int32) (99 : Int32) x5.2).bind fun x7 =>
        if x7.1 = 0 then (
          some ((-1 : Int32), x7.2)
        ) else (
          if (x7.2.1 41 (Int32.toNatClampNeg (0 : Int32))) = (10 : Int32) then (
            some ((-1 : Int32), x7.2)
          ) else (
            z_l (x7.2.1 41 (Int32.toNatClampNeg (0 : Int32))) fun v10 =>
            f_X11_house_66 z_F i1 i2 i3 i4 v10 (0 : Int32) x7.2
          )
        )
      )
    )
  )
set_option maxHeartbeats 4000000 in
set_option maxRecDepth 100000 in
theorem w_X11_house_66 {G : zG} {p : Program} {l : Launch} {e : Env} {s : State} {m : MethodId} {args : Array Value} {below : List Frame} {meth : Method} {c : Code} (X : z_C G p s m args meth c cX11_house 7 RX11 (some .int)) {r : Int32 × zM} : ∀ (n : Nat) (i1 : Int32) (i2 : Int32) (i3 : Int32) (i4 : Int32) (i5 : Int32) (i6 : Int32) (M : zM) (H : Heap) (locs : List Loc) (ls : Array Slot), z_W G M H locs → lv_has ls 7 [(0, .ref (G.1 40)), (1, .int i1), (2, .int i2), (3, .int i3), (4, .int i4), (5, .int i5), (6, .int i6)] → f_X11_house_66 n i1 i2 i3 i4 i5 i6 M = some r → W p l e (z_rm 1) s m args below meth c H locs 0 0 (z_Q G below args s (some (.int r.1)) r.2) (F0 m 66 ls []) := by
  have hx := X.1
  have hb := X.2.1
  intro n
  induction n with
  | zero =>
    intro i1 i2 i3 i4 i5 i6 M H locs ls  hw hl h
    exact z_no h
  | succ n ih =>
    intro i1 i2 i3 i4 i5 i6 M H locs ls  hw hl h
    rw [f_X11_house_66] at h
    refine lv_iload (pc := 66) hx hb dX11_house_66 (lv_at hl 6 rfl) ?_
    refine lv_bipush (pc := 68) (v := 16) hx hb dX11_house_68 (by decide) ?_
    refine lv_icmp_ge (pc := 70) (tgt := 88) hx hb dX11_house_70 (by decide) (fun c1 => ?_) (fun c1 => ?_)
    · replace h := z_t c1 h
      refine lv_aload_n (pc := 88) hx hb dX11_house_88 rfl (lv_at hl 0 rfl) ?_
      refine lv_iload (pc := 89) hx hb dX11_house_89 (lv_at hl 5 rfl) ?_
      refine lv_iconst (pc := 91) (v := 0) hx hb dX11_house_91 (by decide) ?_
      refine lv_iload_n (pc := 92) hx hb dX11_house_92 rfl (lv_at hl 1 rfl) ?_
      obtain ⟨x2, ex2, h⟩ := z_bd h
      refine z_cvV (pc := 93) (rest := []) X hw (m_X11_gives  ex2) (z_lt zk_40 (by decide)) (z_E11 zk_40) rfl zw_ml_5_212 zw_im_5_214 zw_se_S_35 zw_in_1_12 zw_co_5_215 zd_X11_gives (by decide) rfl hl.1 rfl (Nat.le_of_ble_eq_true rfl) dX11_house_93 ⟨Nat.zero_le _, Nat.zero_le _⟩ (fun Hx2 lx2 wx2 => ?_)
      refine lv_aload_n (pc := 96) hx hb dX11_house_96 rfl (lv_at hl 0 rfl) ?_
      refine lv_iload (pc := 97) hx hb dX11_house_97 (lv_at hl 5 rfl) ?_
      refine lv_iconst (pc := 99) (v := 1) hx hb dX11_house_99 (by decide) ?_
      refine lv_iload_n (pc := 100) hx hb dX11_house_100 rfl (lv_at hl 2 rfl) ?_
      obtain ⟨x3, ex3, h⟩ := z_bd h
      refine z_cvV (pc := 101) (rest := []) X wx2 (m_X11_gives  ex3) (z_lt zk_40 (by decide)) (z_E11 zk_40) rfl zw_ml_5_212 zw_im_5_214 zw_se_S_35 zw_in_1_12 zw_co_5_215 zd_X11_gives (by decide) rfl hl.1 rfl (Nat.le_of_ble_eq_true rfl) dX11_house_101 ⟨Nat.zero_le _, Nat.zero_le _⟩ (fun Hx3 lx3 wx3 => ?_)
      refine lv_aload_n (pc := 104) hx hb dX11_house_104 rfl (lv_at hl 0 rfl) ?_
      refine lv_iload (pc := 105) hx hb dX11_house_105 (lv_at hl 5 rfl) ?_
      refine lv_iconst (pc := 107) (v := 2) hx hb dX11_house_107 (by decide) ?_
      refine lv_iload_n (pc := 108) hx hb dX11_house_108 rfl (lv_at hl 3 rfl) ?_
      obtain ⟨x4, ex4, h⟩ := z_bd h
      refine z_cvV (pc := 109) (rest := []) X wx3 (m_X11_gives  ex4) (z_lt zk_40 (by decide)) (z_E11 zk_40) rfl zw_ml_5_212 zw_im_5_214 zw_se_S_35 zw_in_1_12 zw_co_5_215 zd_X11_gives (by decide) rfl hl.1 rfl (Nat.le_of_ble_eq_true rfl) dX11_house_109 ⟨Nat.zero_le _, Nat.zero_le _⟩ (fun Hx4 lx4 wx4 => ?_)
      refine lv_aload_n (pc := 112) hx hb dX11_house_112 rfl (lv_at hl 0 rfl) ?_
      refine lv_iload (pc := 113) hx hb dX11_house_113 (lv_at hl 5 rfl) ?_
      refine lv_iconst (pc := 115) (v := 3) hx hb dX11_house_115 (by decide) ?_
      refine lv_iload (pc := 116) hx hb dX11_house_116 (lv_at hl 4 rfl) ?_
      obtain ⟨x5, ex5, h⟩ := z_bd h
      refine z_cvV (pc := 118) (rest := []) X wx4 (m_X11_gives  ex5) (z_lt zk_40 (by decide)) (z_E11 zk_40) rfl zw_ml_5_212 zw_im_5_214 zw_se_S_35 zw_in_1_12 zw_co_5_215 zd_X11_gives (by decide) rfl hl.1 rfl (Nat.le_of_ble_eq_true rfl) dX11_house_118 ⟨Nat.zero_le _, Nat.zero_le _⟩ (fun Hx5 lx5 wx5 => ?_)
      refine lv_aload_n (pc := 121) hx hb dX11_house_121 rfl (lv_at hl 0 rfl) ?_
      refine lv_iload (pc := 122) hx hb dX11_house_122 (lv_at hl 5 rfl) ?_
      refine lv_iconst (pc := 124) (v := 4) hx hb dX11_house_124 (by decide) ?_
      refine lv_iconst (pc := 125) (v := -1) hx hb dX11_house_125 (by decide) ?_
      obtain ⟨x6, ex6, h⟩ := z_bd h
      refine z_cvV (pc := 126) (rest := []) X wx5 (m_X11_gives  ex6) (z_lt zk_40 (by decide)) (z_E11 zk_40) rfl zw_ml_5_212 zw_im_5_214 zw_se_S_35 zw_in_1_12 zw_co_5_215 zd_X11_gives (by decide) rfl hl.1 rfl (Nat.le_of_ble_eq_true rfl) dX11_house_126 ⟨Nat.zero_le _, Nat.zero_le _⟩ (fun Hx6 lx6 wx6 => ?_)
      refine lv_aload_n (pc := 129) hx hb dX11_house_129 rfl (lv_at hl 0 rfl) ?_
      refine zg_DrinkingRoofsModel_w (pc := 130) X wx6 zw_fl_5_71 dX11_house_130 ?_
      refine lv_iconst (pc := 133) (v := 0) hx hb dX11_house_133 (by decide) ?_
      refine lv_dup2_11 (pc := 134) hx hb dX11_house_134 rfl rfl ?_
      refine z_iald (pc := 135) X wx6 zk_41 zl_41 (z_il (by decide)) dX11_house_135 ?_
      refine lv_iconst (pc := 136) (v := 1) hx hb dX11_house_136 (by decide) ?_
      refine lv_iadd (pc := 137) hx hb dX11_house_137 ?_
      refine z_iast (pc := 138) X wx6 zk_41 zl_41 (z_il (by decide)) dX11_house_138 (fun HM7 lM7 wM7 => ?_)
      obtain ⟨M7, eM7, h⟩ := z_lo h
      rw [← eM7] at wM7
      refine lv_iload (pc := 139) hx hb dX11_house_139 (lv_at hl 5 rfl) ?_
      obtain rfl := Option.some.inj h
      exact z_ri (pc := 141) X wM7 dX11_house_141
    · replace h := z_f c1 h
      refine lv_aload_n (pc := 73) hx hb dX11_house_73 rfl (lv_at hl 0 rfl) ?_
      refine lv_iload (pc := 74) hx hb dX11_house_74 (lv_at hl 5 rfl) ?_
      refine lv_iload (pc := 76) hx hb dX11_house_76 (lv_at hl 6 rfl) ?_
      refine lv_iconst (pc := 78) (v := 0) hx hb dX11_house_78 (by decide) ?_
      obtain ⟨x8, ex8, h⟩ := z_bd h
      refine z_cvV (pc := 79) (rest := []) X hw (m_X11_gives  ex8) (z_lt zk_40 (by decide)) (z_E11 zk_40) rfl zw_ml_5_212 zw_im_5_214 zw_se_S_35 zw_in_1_12 zw_co_5_215 zd_X11_gives (by decide) rfl hl.1 rfl (Nat.le_of_ble_eq_true rfl) dX11_house_79 ⟨Nat.zero_le _, Nat.zero_le _⟩ (fun Hx8 lx8 wx8 => ?_)
      obtain ⟨v9, ev9, h⟩ := z_lo h
      refine lv_iinc (pc := 82) (v := v9) (lv' := [(6, .int v9), (0, .ref (G.1 40)), (1, .int i1), (2, .int i2), (3, .int i3), (4, .int i4), (5, .int i5)]) hx hb dX11_house_82 hl (k := 6) rfl (by rw [ev9]; rfl) (by decide) rfl (fun ls hl => ?_)
      refine lv_goto (pc := 85) (tgt := 66) hx hb dX11_house_85 (by decide) ?_
      exact ih i1 i2 i3 i4 i5 v9 x8 Hx8 lx8 ls  wx8 (lv_sub hl [1, 2, 3, 4, 5, 6, 0] rfl) h
set_option maxHeartbeats 4000000 in
set_option maxRecDepth 100000 in
theorem m_X11_house {l : Launch} {G : zG} {i1 : Int32} {i2 : Int32} {i3 : Int32} {i4 : Int32} {M : zM} {r : Int32 × zM} (h : f_X11_house i1 i2 i3 i4 M = some r) : z_T l G 1 yX11_house (.code yX11_house cX11_house 7 (some .int)) [.ref (G.1 40), .int i1, .int i2, .int i3, .int i4] M (some (.int r.1)) r.2 := by
  refine z_of rfl ?_
  intro p e s m below meth c X hw
  have hl := lv_entry [.ref (G.1 40), .int i1, .int i2, .int i3, .int i4] (n := 7) (Nat.le_of_ble_eq_true rfl)
  rw [lg_entry_eq]
  generalize (lg_sl [.ref (G.1 40), .int i1, .int i2, .int i3, .int i4] ++ List.replicate (7 - (lg_sl [.ref (G.1 40), .int i1, .int i2, .int i3, .int i4]).length) Slot.unset).toArray = ls at hl ⊢
  have hl : lv_has ls 7 [(0, .ref (G.1 40)), (1, .int i1), (2, .int i2), (3, .int i3), (4, .int i4)] := hl
  generalize ([.ref (G.1 40), .int i1, .int i2, .int i3, .int i4] : List Value).toArray = args at X ⊢
  have X : z_C G p s m args meth c cX11_house 7 RX11 (some .int) := X
  have hx := X.1
  have hb := X.2.1
  unfold f_X11_house at h
  refine lv_iload_n (pc := 0) hx hb dX11_house_0 rfl (lv_at hl 1 rfl) ?_
  refine lv_iconst (pc := 1) (v := 1) hx hb dX11_house_1 (by decide) ?_
  refine lv_bipush (pc := 2) (v := 99) hx hb dX11_house_2 (by decide) ?_
  obtain ⟨x1, ex1, h⟩ := z_bd h
  refine z_csI (pc := 4) (rest := []) X hw (m_X11_isIn  ex1) zw_ml_5_209 zw_st_5_210 zw_in_1_12 zw_co_5_211 zd_X11_isIn (by decide) rfl hl.1 rfl (Nat.le_of_ble_eq_true rfl) dX11_house_4 ⟨Nat.zero_le _, Nat.zero_le _⟩ (fun Hx1 lx1 wx1 => ?_)
  refine lv_if_eq (pc := 7) (tgt := 53) hx hb dX11_house_7 (by decide) (fun c2 => ?_) (fun c2 => ?_)
  · replace h := z_t c2 h
    refine lv_iconst (pc := 53) (v := -1) hx hb dX11_house_53 (by decide) ?_
    obtain rfl := Option.some.inj h
    exact z_ri (pc := 54) X wx1 dX11_house_54
  · replace h := z_f c2 h
    refine lv_iload_n (pc := 10) hx hb dX11_house_10 rfl (lv_at hl 2 rfl) ?_
    refine lv_iconst (pc := 11) (v := 0) hx hb dX11_house_11 (by decide) ?_
    refine lv_sipush (pc := 12) (v := 9999) hx hb dX11_house_12 (by decide) ?_
    obtain ⟨x3, ex3, h⟩ := z_bd h
    refine z_csI (pc := 15) (rest := []) X wx1 (m_X11_isIn  ex3) zw_ml_5_209 zw_st_5_210 zw_in_1_12 zw_co_5_211 zd_X11_isIn (by decide) rfl hl.1 rfl (Nat.le_of_ble_eq_true rfl) dX11_house_15 ⟨Nat.zero_le _, Nat.zero_le _⟩ (fun Hx3 lx3 wx3 => ?_)
    refine lv_if_eq (pc := 18) (tgt := 53) hx hb dX11_house_18 (by decide) (fun c4 => ?_) (fun c4 => ?_)
    · replace h := z_t c4 h
      refine lv_iconst (pc := 53) (v := -1) hx hb dX11_house_53 (by decide) ?_
      obtain rfl := Option.some.inj h
      exact z_ri (pc := 54) X wx3 dX11_house_54
    · replace h := z_f c4 h
      refine lv_iload_n (pc := 21) hx hb dX11_house_21 rfl (lv_at hl 3 rfl) ?_
      refine lv_iconst (pc := 22) (v := 0) hx hb dX11_house_22 (by decide) ?_
      refine lv_bipush (pc := 23) (v := 10) hx hb dX11_house_23 (by decide) ?_
      obtain ⟨x5, ex5, h⟩ := z_bd h
      refine z_csI (pc := 25) (rest := []) X wx3 (m_X11_isIn  ex5) zw_ml_5_209 zw_st_5_210 zw_in_1_12 zw_co_5_211 zd_X11_isIn (by decide) rfl hl.1 rfl (Nat.le_of_ble_eq_true rfl) dX11_house_25 ⟨Nat.zero_le _, Nat.zero_le _⟩ (fun Hx5 lx5 wx5 => ?_)
      refine lv_if_eq (pc := 28) (tgt := 53) hx hb dX11_house_28 (by decide) (fun c6 => ?_) (fun c6 => ?_)
      · replace h := z_t c6 h
        refine lv_iconst (pc := 53) (v := -1) hx hb dX11_house_53 (by decide) ?_
        obtain rfl := Option.some.inj h
        exact z_ri (pc := 54) X wx5 dX11_house_54
      · replace h := z_f c6 h
        refine lv_iload (pc := 31) hx hb dX11_house_31 (lv_at hl 4 rfl) ?_
        refine lv_iconst (pc := 33) (v := 0) hx hb dX11_house_33 (by decide) ?_
        refine lv_bipush (pc := 34) (v := 99) hx hb dX11_house_34 (by decide) ?_
        obtain ⟨x7, ex7, h⟩ := z_bd h
        refine z_csI (pc := 36) (rest := []) X wx5 (m_X11_isIn  ex7) zw_ml_5_209 zw_st_5_210 zw_in_1_12 zw_co_5_211 zd_X11_isIn (by decide) rfl hl.1 rfl (Nat.le_of_ble_eq_true rfl) dX11_house_36 ⟨Nat.zero_le _, Nat.zero_le _⟩ (fun Hx7 lx7 wx7 => ?_)
        refine lv_if_eq (pc := 39) (tgt := 53) hx hb dX11_house_39 (by decide) (fun c8 => ?_) (fun c8 => ?_)
        · replace h := z_t c8 h
          refine lv_iconst (pc := 53) (v := -1) hx hb dX11_house_53 (by decide) ?_
          obtain rfl := Option.some.inj h
          exact z_ri (pc := 54) X wx7 dX11_house_54
        · replace h := z_f c8 h
          refine lv_aload_n (pc := 42) hx hb dX11_house_42 rfl (lv_at hl 0 rfl) ?_
          refine zg_DrinkingRoofsModel_w (pc := 43) X wx7 zw_fl_5_71 dX11_house_43 ?_
          refine lv_iconst (pc := 46) (v := 0) hx hb dX11_house_46 (by decide) ?_
          refine z_iald (pc := 47) X wx7 zk_41 zl_41 (z_il (by decide)) dX11_house_47 ?_
          refine lv_bipush (pc := 48) (v := 10) hx hb dX11_house_48 (by decide) ?_
          refine lv_icmp_ne (pc := 50) (tgt := 55) hx hb dX11_house_50 (by decide) (fun c9 => ?_) (fun c9 => ?_)
          · replace h := z_f c9 h
            refine lv_aload_n (pc := 55) hx hb dX11_house_55 rfl (lv_at hl 0 rfl) ?_
            refine zg_DrinkingRoofsModel_w (pc := 56) X wx7 zw_fl_5_71 dX11_house_56 ?_
            refine lv_iconst (pc := 59) (v := 0) hx hb dX11_house_59 (by decide) ?_
            refine z_iald (pc := 60) X wx7 zk_41 zl_41 (z_il (by decide)) dX11_house_60 ?_
            obtain ⟨v10, ev10, h⟩ := z_lo h
            refine z_topi ev10 ?_
            refine lv_istore (pc := 61) (lv' := [(5, .int v10), (0, .ref (G.1 40)), (1, .int i1), (2, .int i2), (3, .int i3), (4, .int i4)]) hx hb dX11_house_61 hl (by decide) rfl (fun ls hl => ?_)
            refine lv_iconst (pc := 63) (v := 0) hx hb dX11_house_63 (by decide) ?_
            refine lv_istore (pc := 64) (lv' := [(6, .int (0 : Int32)), (5, .int v10), (0, .ref (G.1 40)), (1, .int i1), (2, .int i2), (3, .int i3), (4, .int i4)]) hx hb dX11_house_64 hl (by decide) rfl (fun ls hl => ?_)
            exact w_X11_house_66 X z_F i1 i2 i3 i4 v10 (0 : Int32) x7.2 Hx7 lx7 ls  wx7 (lv_sub hl [2, 3, 4, 5, 6, 1, 0] rfl) h
          · replace h := z_t c9 h
            refine lv_iconst (pc := 53) (v := -1) hx hb dX11_house_53 (by decide) ?_
            obtain rfl := Option.some.inj h
            exact z_ri (pc := 54) X wx7 dX11_house_54
def f_X11_next (i1 : Int32) (i2 : Int32) (M : zM) : Option (Int32 × zM) :=
  (f_X11_isHouse i1 M).bind fun x1 =>
  if x1.1 = 0 then (
    some ((0 : Int32), x1.2)
  ) else (
    if i2 = (-1 : Int32) then (
      (f_X11_gives i1 (4 : Int32) i2 x1.2).bind fun x4 =>
      some ((1 : Int32), x4)
    ) else (
      (f_X11_isIn i2 (i1 + (1 : Int32)) ((x1.2.1 41 (Int32.toNatClampNeg (0 : Int32))) - (1 : Int32)) x1.2).bind fun x5 =>
      if x5.1 = 0 then (
        some ((0 : Int32), x5.2)
      ) else (
        (f_X11_gives i1 (4 : Int32) i2 x5.2).bind fun x7 =>
        some ((1 : Int32), x7)
      )
    )
  )
set_option maxHeartbeats 4000000 in
set_option maxRecDepth 100000 in
theorem m_X11_next {l : Launch} {G : zG} {i1 : Int32} {i2 : Int32} {M : zM} {r : Int32 × zM} (h : f_X11_next i1 i2 M = some r) : z_T l G 2 yX11_next (.code yX11_next cX11_next 3 (some .boolean)) [.ref (G.1 40), .int i1, .int i2] M (some (.int r.1)) r.2 := by
  refine z_of rfl ?_
  intro p e s m below meth c X hw
  have hl := lv_entry [.ref (G.1 40), .int i1, .int i2] (n := 3) (Nat.le_of_ble_eq_true rfl)
  rw [lg_entry_eq]
  generalize (lg_sl [.ref (G.1 40), .int i1, .int i2] ++ List.replicate (3 - (lg_sl [.ref (G.1 40), .int i1, .int i2]).length) Slot.unset).toArray = ls at hl ⊢
  have hl : lv_has ls 3 [(0, .ref (G.1 40)), (1, .int i1), (2, .int i2)] := hl
  generalize ([.ref (G.1 40), .int i1, .int i2] : List Value).toArray = args at X ⊢
  have X : z_C G p s m args meth c cX11_next 3 RX11 (some .boolean) := X
  have hx := X.1
  have hb := X.2.1
  unfold f_X11_next at h
  refine lv_aload_n (pc := 0) hx hb dX11_next_0 rfl (lv_at hl 0 rfl) ?_
  refine lv_iload_n (pc := 1) hx hb dX11_next_1 rfl (lv_at hl 1 rfl) ?_
  obtain ⟨x1, ex1, h⟩ := z_bd h
  refine z_cvI (pc := 2) (rest := []) X hw (m_X11_isHouse  ex1) (z_lt zk_40 (by decide)) (z_E11 zk_40) rfl zw_ml_5_220 zw_im_5_222 zw_se_S_36 zw_in_1_12 zw_co_5_223 zd_X11_isHouse (by decide) rfl hl.1 rfl (Nat.le_of_ble_eq_true rfl) dX11_next_2 ⟨Nat.zero_le _, Nat.zero_le _⟩ (fun Hx1 lx1 wx1 => ?_)
  refine lv_if_eq (pc := 5) (tgt := 31) hx hb dX11_next_5 (by decide) (fun c2 => ?_) (fun c2 => ?_)
  · replace h := z_t c2 h
    refine lv_iconst (pc := 31) (v := 0) hx hb dX11_next_31 (by decide) ?_
    obtain rfl := Option.some.inj h
    exact z_rz (pc := 32) X wx1 (z_nb (x := 0) (by decide)) dX11_next_32
  · replace h := z_f c2 h
    refine lv_iload_n (pc := 8) hx hb dX11_next_8 rfl (lv_at hl 2 rfl) ?_
    refine lv_iconst (pc := 9) (v := -1) hx hb dX11_next_9 (by decide) ?_
    refine lv_icmp_eq (pc := 10) (tgt := 33) hx hb dX11_next_10 (by decide) (fun c3 => ?_) (fun c3 => ?_)
    · replace h := z_t c3 h
      refine lv_aload_n (pc := 33) hx hb dX11_next_33 rfl (lv_at hl 0 rfl) ?_
      refine lv_iload_n (pc := 34) hx hb dX11_next_34 rfl (lv_at hl 1 rfl) ?_
      refine lv_iconst (pc := 35) (v := 4) hx hb dX11_next_35 (by decide) ?_
      refine lv_iload_n (pc := 36) hx hb dX11_next_36 rfl (lv_at hl 2 rfl) ?_
      obtain ⟨x4, ex4, h⟩ := z_bd h
      refine z_cvV (pc := 37) (rest := []) X wx1 (m_X11_gives  ex4) (z_lt zk_40 (by decide)) (z_E11 zk_40) rfl zw_ml_5_212 zw_im_5_214 zw_se_S_35 zw_in_1_12 zw_co_5_215 zd_X11_gives (by decide) rfl hl.1 rfl (Nat.le_of_ble_eq_true rfl) dX11_next_37 ⟨Nat.zero_le _, Nat.zero_le _⟩ (fun Hx4 lx4 wx4 => ?_)
      refine lv_iconst (pc := 40) (v := 1) hx hb dX11_next_40 (by decide) ?_
      obtain rfl := Option.some.inj h
      exact z_rz (pc := 41) X wx4 (z_nb (x := 1) (by decide)) dX11_next_41
    · replace h := z_f c3 h
      refine lv_iload_n (pc := 13) hx hb dX11_next_13 rfl (lv_at hl 2 rfl) ?_
      refine lv_iload_n (pc := 14) hx hb dX11_next_14 rfl (lv_at hl 1 rfl) ?_
      refine lv_iconst (pc := 15) (v := 1) hx hb dX11_next_15 (by decide) ?_
      refine lv_iadd (pc := 16) hx hb dX11_next_16 ?_
      refine lv_aload_n (pc := 17) hx hb dX11_next_17 rfl (lv_at hl 0 rfl) ?_
      refine zg_DrinkingRoofsModel_w (pc := 18) X wx1 zw_fl_5_71 dX11_next_18 ?_
      refine lv_iconst (pc := 21) (v := 0) hx hb dX11_next_21 (by decide) ?_
      refine z_iald (pc := 22) X wx1 zk_41 zl_41 (z_il (by decide)) dX11_next_22 ?_
      refine lv_iconst (pc := 23) (v := 1) hx hb dX11_next_23 (by decide) ?_
      refine lv_isub (pc := 24) hx hb dX11_next_24 ?_
      obtain ⟨x5, ex5, h⟩ := z_bd h
      refine z_csI (pc := 25) (rest := []) X wx1 (m_X11_isIn  ex5) zw_ml_5_209 zw_st_5_210 zw_in_1_12 zw_co_5_211 zd_X11_isIn (by decide) rfl hl.1 rfl (Nat.le_of_ble_eq_true rfl) dX11_next_25 ⟨Nat.zero_le _, Nat.zero_le _⟩ (fun Hx5 lx5 wx5 => ?_)
      refine lv_if_ne (pc := 28) (tgt := 33) hx hb dX11_next_28 (by decide) (fun c6 => ?_) (fun c6 => ?_)
      · replace h := z_f c6 h
        refine lv_aload_n (pc := 33) hx hb dX11_next_33 rfl (lv_at hl 0 rfl) ?_
        refine lv_iload_n (pc := 34) hx hb dX11_next_34 rfl (lv_at hl 1 rfl) ?_
        refine lv_iconst (pc := 35) (v := 4) hx hb dX11_next_35 (by decide) ?_
        refine lv_iload_n (pc := 36) hx hb dX11_next_36 rfl (lv_at hl 2 rfl) ?_
        obtain ⟨x7, ex7, h⟩ := z_bd h
        refine z_cvV (pc := 37) (rest := []) X wx5 (m_X11_gives  ex7) (z_lt zk_40 (by decide)) (z_E11 zk_40) rfl zw_ml_5_212 zw_im_5_214 zw_se_S_35 zw_in_1_12 zw_co_5_215 zd_X11_gives (by decide) rfl hl.1 rfl (Nat.le_of_ble_eq_true rfl) dX11_next_37 ⟨Nat.zero_le _, Nat.zero_le _⟩ (fun Hx7 lx7 wx7 => ?_)
        refine lv_iconst (pc := 40) (v := 1) hx hb dX11_next_40 (by decide) ?_
        obtain rfl := Option.some.inj h
        exact z_rz (pc := 41) X wx7 (z_nb (x := 1) (by decide)) dX11_next_41
      · replace h := z_t c6 h
        refine lv_iconst (pc := 31) (v := 0) hx hb dX11_next_31 (by decide) ?_
        obtain rfl := Option.some.inj h
        exact z_rz (pc := 32) X wx5 (z_nb (x := 0) (by decide)) dX11_next_32
def f_X11_tell_97 (i1 : Int32) (i2 : Int32) (i3 : Int32) (si0 : Int32) (M : zM) : Option (Int32 × zM) :=
    (f_X11_isIn i3 (0 : Int32) si0 M).bind fun x1 =>
    if x1.1 = 0 then (
      some ((0 : Int32), x1.2)
    ) else (
      if i2 = 0 then (
        (f_X11_gives i1 (5 : Int32) i3 x1.2).bind fun x11 =>
        some ((1 : Int32), x11)
      ) else (
        if i2 = (1 : Int32) then (
          (f_X11_gives i1 (1 : Int32) i3 x1.2).bind fun x10 =>
          some ((1 : Int32), x10)
        ) else (
          if i2 = (2 : Int32) then (
            (f_X11_gives i1 (2 : Int32) i3 x1.2).bind fun x9 =>
            some ((1 : Int32), x9)
          ) else (
            if i2 = (3 : Int32) then (
              (f_X11_gives i1 (6 : Int32) i3 x1.2).bind fun x8 =>
              some ((1 : Int32), x8)
            ) else (
              (f_X11_gives i1 (7 : Int32) i3 x1.2).bind fun x7 =>
              some ((1 : Int32), x7)
            )
          )
        )
      )
    )
def f_X11_tell_50 (i1 : Int32) (i2 : Int32) (i3 : Int32) (M : zM) : Option (Int32 × zM) :=
    (f_X11_isHouse i1 M).bind fun x1 =>
    if x1.1 = 0 then (
      some ((0 : Int32), x1.2)
    ) else (
      (f_X11_isIn i2 (0 : Int32) (4 : Int32) x1.2).bind fun x3 =>
      if x3.1 = 0 then (
        some ((0 : Int32), x3.2)
      ) else (
        if i2 = 0 then (
          f_X11_tell_97 i1 i2 i3 (10 : Int32) x3.2
        ) else (
          if i2 = (2 : Int32) then (
            f_X11_tell_97 i1 i2 i3 (10 : Int32) x3.2
          ) else (
            if i2 = (1 : Int32) then (
              f_X11_tell_97 i1 i2 i3 (9999 : Int32) x3.2
            ) else (
              f_X11_tell_97 i1 i2 i3 (999 : Int32) x3.2
            )
          )
        )
      )
    )
def f_X11_tell_24 (i1 : Int32) (i2 : Int32) (i3 : Int32) (M : zM) : Option (Int32 × zM) :=
    if i2 = (6 : Int32) then (
      (f_X11_isIn i3 (0 : Int32) (9 : Int32) M).bind fun x2 =>
      if x2.1 = 0 then (
        f_X11_tell_50 i1 i2 i3 x2.2
      ) else (
        z_l (z_w x2.2 41 (Int32.toNatClampNeg (6 : Int32)) i3) fun M4 =>
        some ((1 : Int32), M4)
      )
    ) else (
      f_X11_tell_50 i1 i2 i3 M
    )
def f_X11_tell (i1 : Int32) (i2 : Int32) (i3 : Int32) (M : zM) : Option (Int32 × zM) :=
  if i2 = (5 : Int32) then (
    (f_X11_isIn i3 (0 : Int32) (999999 : Int32) M).bind fun x2 =>
    if x2.1 = 0 then (
      f_X11_tell_24 i1 i2 i3 x2.2
    ) else (
      z_l (z_w x2.2 41 (Int32.toNatClampNeg (3 : Int32)) i3) fun M4 =>
      some ((1 : Int32), M4)
    )
  ) else (
    f_X11_tell_24 i1 i2 i3 M
  )
set_option maxHeartbeats 4000000 in
set_option maxRecDepth 100000 in
theorem w_X11_tell_97 {G : zG} {p : Program} {l : Launch} {e : Env} {s : State} {m : MethodId} {args : Array Value} {below : List Frame} {meth : Method} {c : Code} (X : z_C G p s m args meth c cX11_tell 5 RX11 (some .boolean)) {r : Int32 × zM} : ∀ (i1 : Int32) (i2 : Int32) (i3 : Int32) (si0 : Int32) (M : zM) (H : Heap) (locs : List Loc) (ls : Array Slot), z_W G M H locs → lv_has ls 5 [(0, .ref (G.1 40)), (1, .int i1), (2, .int i2), (3, .int i3)] → f_X11_tell_97 i1 i2 i3 si0 M = some r → W p l e (z_rm 2) s m args below meth c H locs 0 0 (z_Q G below args s (some (.int r.1)) r.2) (F0 m 97 ls [.int si0]) := by
  have hx := X.1
  have hb := X.2.1
  intro i1 i2 i3 si0 M H locs ls  hw hl h
  unfold f_X11_tell_97 at h
  refine lv_istore (pc := 97) (lv' := [(4, .int si0), (0, .ref (G.1 40)), (1, .int i1), (2, .int i2), (3, .int i3)]) hx hb dX11_tell_97 hl (by decide) rfl (fun ls hl => ?_)
  refine lv_iload_n (pc := 99) hx hb dX11_tell_99 rfl (lv_at hl 4 rfl) ?_
  refine lv_iconst (pc := 100) (v := 0) hx hb dX11_tell_100 (by decide) ?_
  refine lv_iload (pc := 101) hx hb dX11_tell_101 (lv_at hl 0 rfl) ?_
  obtain ⟨x1, ex1, h⟩ := z_bd h
  refine z_csI (pc := 103) (rest := []) X hw (m_X11_isIn  ex1) zw_ml_5_209 zw_st_5_210 zw_in_1_12 zw_co_5_211 zd_X11_isIn (by decide) rfl hl.1 rfl (Nat.le_of_ble_eq_true rfl) dX11_tell_103 ⟨Nat.zero_le _, Nat.zero_le _⟩ (fun Hx1 lx1 wx1 => ?_)
  refine lv_if_ne (pc := 106) (tgt := 111) hx hb dX11_tell_106 (by decide) (fun c2 => ?_) (fun c2 => ?_)
  · replace h := z_f c2 h
    refine lv_aload_n (pc := 111) hx hb dX11_tell_111 rfl (lv_at hl 1 rfl) ?_
    refine lv_iload_n (pc := 112) hx hb dX11_tell_112 rfl (lv_at hl 2 rfl) ?_
    refine lv_iload_n (pc := 113) hx hb dX11_tell_113 rfl (lv_at hl 3 rfl) ?_
    refine lv_if_ne (pc := 114) (tgt := 121) hx hb dX11_tell_114 (by decide) (fun c3 => ?_) (fun c3 => ?_)
    · replace h := z_f c3 h
      refine lv_iload_n (pc := 121) hx hb dX11_tell_121 rfl (lv_at hl 3 rfl) ?_
      refine lv_iconst (pc := 122) (v := 1) hx hb dX11_tell_122 (by decide) ?_
      refine lv_icmp_ne (pc := 123) (tgt := 130) hx hb dX11_tell_123 (by decide) (fun c4 => ?_) (fun c4 => ?_)
      · replace h := z_f c4 h
        refine lv_iload_n (pc := 130) hx hb dX11_tell_130 rfl (lv_at hl 3 rfl) ?_
        refine lv_iconst (pc := 131) (v := 2) hx hb dX11_tell_131 (by decide) ?_
        refine lv_icmp_ne (pc := 132) (tgt := 139) hx hb dX11_tell_132 (by decide) (fun c5 => ?_) (fun c5 => ?_)
        · replace h := z_f c5 h
          refine lv_iload_n (pc := 139) hx hb dX11_tell_139 rfl (lv_at hl 3 rfl) ?_
          refine lv_iconst (pc := 140) (v := 3) hx hb dX11_tell_140 (by decide) ?_
          refine lv_icmp_ne (pc := 141) (tgt := 149) hx hb dX11_tell_141 (by decide) (fun c6 => ?_) (fun c6 => ?_)
          · replace h := z_f c6 h
            refine lv_bipush (pc := 149) (v := 7) hx hb dX11_tell_149 (by decide) ?_
            refine lv_iload_n (pc := 151) hx hb dX11_tell_151 rfl (lv_at hl 4 rfl) ?_
            obtain ⟨x7, ex7, h⟩ := z_bd h
            refine z_cvV (pc := 152) (rest := []) X wx1 (m_X11_gives  ex7) (z_lt zk_40 (by decide)) (z_E11 zk_40) rfl zw_ml_5_212 zw_im_5_214 zw_se_S_35 zw_in_1_12 zw_co_5_215 zd_X11_gives (by decide) rfl hl.1 rfl (Nat.le_of_ble_eq_true rfl) dX11_tell_152 ⟨Nat.zero_le _, Nat.zero_le _⟩ (fun Hx7 lx7 wx7 => ?_)
            refine lv_iconst (pc := 155) (v := 1) hx hb dX11_tell_155 (by decide) ?_
            obtain rfl := Option.some.inj h
            exact z_rz (pc := 156) X wx7 (z_nb (x := 1) (by decide)) dX11_tell_156
          · replace h := z_t c6 h
            refine lv_bipush (pc := 144) (v := 6) hx hb dX11_tell_144 (by decide) ?_
            refine lv_goto (pc := 146) (tgt := 151) hx hb dX11_tell_146 (by decide) ?_
            refine lv_iload_n (pc := 151) hx hb dX11_tell_151 rfl (lv_at hl 4 rfl) ?_
            obtain ⟨x8, ex8, h⟩ := z_bd h
            refine z_cvV (pc := 152) (rest := []) X wx1 (m_X11_gives  ex8) (z_lt zk_40 (by decide)) (z_E11 zk_40) rfl zw_ml_5_212 zw_im_5_214 zw_se_S_35 zw_in_1_12 zw_co_5_215 zd_X11_gives (by decide) rfl hl.1 rfl (Nat.le_of_ble_eq_true rfl) dX11_tell_152 ⟨Nat.zero_le _, Nat.zero_le _⟩ (fun Hx8 lx8 wx8 => ?_)
            refine lv_iconst (pc := 155) (v := 1) hx hb dX11_tell_155 (by decide) ?_
            obtain rfl := Option.some.inj h
            exact z_rz (pc := 156) X wx8 (z_nb (x := 1) (by decide)) dX11_tell_156
        · replace h := z_t c5 h
          refine lv_iconst (pc := 135) (v := 2) hx hb dX11_tell_135 (by decide) ?_
          refine lv_goto (pc := 136) (tgt := 151) hx hb dX11_tell_136 (by decide) ?_
          refine lv_iload_n (pc := 151) hx hb dX11_tell_151 rfl (lv_at hl 4 rfl) ?_
          obtain ⟨x9, ex9, h⟩ := z_bd h
          refine z_cvV (pc := 152) (rest := []) X wx1 (m_X11_gives  ex9) (z_lt zk_40 (by decide)) (z_E11 zk_40) rfl zw_ml_5_212 zw_im_5_214 zw_se_S_35 zw_in_1_12 zw_co_5_215 zd_X11_gives (by decide) rfl hl.1 rfl (Nat.le_of_ble_eq_true rfl) dX11_tell_152 ⟨Nat.zero_le _, Nat.zero_le _⟩ (fun Hx9 lx9 wx9 => ?_)
          refine lv_iconst (pc := 155) (v := 1) hx hb dX11_tell_155 (by decide) ?_
          obtain rfl := Option.some.inj h
          exact z_rz (pc := 156) X wx9 (z_nb (x := 1) (by decide)) dX11_tell_156
      · replace h := z_t c4 h
        refine lv_iconst (pc := 126) (v := 1) hx hb dX11_tell_126 (by decide) ?_
        refine lv_goto (pc := 127) (tgt := 151) hx hb dX11_tell_127 (by decide) ?_
        refine lv_iload_n (pc := 151) hx hb dX11_tell_151 rfl (lv_at hl 4 rfl) ?_
        obtain ⟨x10, ex10, h⟩ := z_bd h
        refine z_cvV (pc := 152) (rest := []) X wx1 (m_X11_gives  ex10) (z_lt zk_40 (by decide)) (z_E11 zk_40) rfl zw_ml_5_212 zw_im_5_214 zw_se_S_35 zw_in_1_12 zw_co_5_215 zd_X11_gives (by decide) rfl hl.1 rfl (Nat.le_of_ble_eq_true rfl) dX11_tell_152 ⟨Nat.zero_le _, Nat.zero_le _⟩ (fun Hx10 lx10 wx10 => ?_)
        refine lv_iconst (pc := 155) (v := 1) hx hb dX11_tell_155 (by decide) ?_
        obtain rfl := Option.some.inj h
        exact z_rz (pc := 156) X wx10 (z_nb (x := 1) (by decide)) dX11_tell_156
    · replace h := z_t c3 h
      refine lv_iconst (pc := 117) (v := 5) hx hb dX11_tell_117 (by decide) ?_
      refine lv_goto (pc := 118) (tgt := 151) hx hb dX11_tell_118 (by decide) ?_
      refine lv_iload_n (pc := 151) hx hb dX11_tell_151 rfl (lv_at hl 4 rfl) ?_
      obtain ⟨x11, ex11, h⟩ := z_bd h
      refine z_cvV (pc := 152) (rest := []) X wx1 (m_X11_gives  ex11) (z_lt zk_40 (by decide)) (z_E11 zk_40) rfl zw_ml_5_212 zw_im_5_214 zw_se_S_35 zw_in_1_12 zw_co_5_215 zd_X11_gives (by decide) rfl hl.1 rfl (Nat.le_of_ble_eq_true rfl) dX11_tell_152 ⟨Nat.zero_le _, Nat.zero_le _⟩ (fun Hx11 lx11 wx11 => ?_)
      refine lv_iconst (pc := 155) (v := 1) hx hb dX11_tell_155 (by decide) ?_
      obtain rfl := Option.some.inj h
      exact z_rz (pc := 156) X wx11 (z_nb (x := 1) (by decide)) dX11_tell_156
  · replace h := z_t c2 h
    refine lv_iconst (pc := 109) (v := 0) hx hb dX11_tell_109 (by decide) ?_
    obtain rfl := Option.some.inj h
    exact z_rz (pc := 110) X wx1 (z_nb (x := 0) (by decide)) dX11_tell_110
set_option maxHeartbeats 4000000 in
set_option maxRecDepth 100000 in
theorem w_X11_tell_50 {G : zG} {p : Program} {l : Launch} {e : Env} {s : State} {m : MethodId} {args : Array Value} {below : List Frame} {meth : Method} {c : Code} (X : z_C G p s m args meth c cX11_tell 5 RX11 (some .boolean)) {r : Int32 × zM} : ∀ (i1 : Int32) (i2 : Int32) (i3 : Int32) (M : zM) (H : Heap) (locs : List Loc) (ls : Array Slot), z_W G M H locs → lv_has ls 5 [(0, .ref (G.1 40)), (1, .int i1), (2, .int i2), (3, .int i3)] → f_X11_tell_50 i1 i2 i3 M = some r → W p l e (z_rm 2) s m args below meth c H locs 0 0 (z_Q G below args s (some (.int r.1)) r.2) (F0 m 50 ls []) := by
  have hx := X.1
  have hb := X.2.1
  intro i1 i2 i3 M H locs ls  hw hl h
  unfold f_X11_tell_50 at h
  refine lv_aload_n (pc := 50) hx hb dX11_tell_50 rfl (lv_at hl 0 rfl) ?_
  refine lv_iload_n (pc := 51) hx hb dX11_tell_51 rfl (lv_at hl 1 rfl) ?_
  obtain ⟨x1, ex1, h⟩ := z_bd h
  refine z_cvI (pc := 52) (rest := []) X hw (m_X11_isHouse  ex1) (z_lt zk_40 (by decide)) (z_E11 zk_40) rfl zw_ml_5_220 zw_im_5_222 zw_se_S_36 zw_in_1_12 zw_co_5_223 zd_X11_isHouse (by decide) rfl hl.1 rfl (Nat.le_of_ble_eq_true rfl) dX11_tell_52 ⟨Nat.zero_le _, Nat.zero_le _⟩ (fun Hx1 lx1 wx1 => ?_)
  refine lv_if_eq (pc := 55) (tgt := 67) hx hb dX11_tell_55 (by decide) (fun c2 => ?_) (fun c2 => ?_)
  · replace h := z_t c2 h
    refine lv_iconst (pc := 67) (v := 0) hx hb dX11_tell_67 (by decide) ?_
    obtain rfl := Option.some.inj h
    exact z_rz (pc := 68) X wx1 (z_nb (x := 0) (by decide)) dX11_tell_68
  · replace h := z_f c2 h
    refine lv_iload_n (pc := 58) hx hb dX11_tell_58 rfl (lv_at hl 2 rfl) ?_
    refine lv_iconst (pc := 59) (v := 0) hx hb dX11_tell_59 (by decide) ?_
    refine lv_iconst (pc := 60) (v := 4) hx hb dX11_tell_60 (by decide) ?_
    obtain ⟨x3, ex3, h⟩ := z_bd h
    refine z_csI (pc := 61) (rest := []) X wx1 (m_X11_isIn  ex3) zw_ml_5_209 zw_st_5_210 zw_in_1_12 zw_co_5_211 zd_X11_isIn (by decide) rfl hl.1 rfl (Nat.le_of_ble_eq_true rfl) dX11_tell_61 ⟨Nat.zero_le _, Nat.zero_le _⟩ (fun Hx3 lx3 wx3 => ?_)
    refine lv_if_ne (pc := 64) (tgt := 69) hx hb dX11_tell_64 (by decide) (fun c4 => ?_) (fun c4 => ?_)
    · replace h := z_f c4 h
      refine lv_iload_n (pc := 69) hx hb dX11_tell_69 rfl (lv_at hl 2 rfl) ?_
      refine lv_if_eq (pc := 70) (tgt := 78) hx hb dX11_tell_70 (by decide) (fun c5 => ?_) (fun c5 => ?_)
      · replace h := z_t c5 h
        refine lv_bipush (pc := 78) (v := 10) hx hb dX11_tell_78 (by decide) ?_
        refine lv_goto (pc := 80) (tgt := 97) hx hb dX11_tell_80 (by decide) ?_
        exact w_X11_tell_97 X i1 i2 i3 (10 : Int32) x3.2 Hx3 lx3 ls  wx3 (lv_sub hl [0, 1, 2, 3] rfl) h
      · replace h := z_f c5 h
        refine lv_iload_n (pc := 73) hx hb dX11_tell_73 rfl (lv_at hl 2 rfl) ?_
        refine lv_iconst (pc := 74) (v := 2) hx hb dX11_tell_74 (by decide) ?_
        refine lv_icmp_ne (pc := 75) (tgt := 83) hx hb dX11_tell_75 (by decide) (fun c6 => ?_) (fun c6 => ?_)
        · replace h := z_f c6 h
          refine lv_iload_n (pc := 83) hx hb dX11_tell_83 rfl (lv_at hl 2 rfl) ?_
          refine lv_iconst (pc := 84) (v := 1) hx hb dX11_tell_84 (by decide) ?_
          refine lv_icmp_ne (pc := 85) (tgt := 94) hx hb dX11_tell_85 (by decide) (fun c7 => ?_) (fun c7 => ?_)
          · replace h := z_f c7 h
            refine lv_sipush (pc := 94) (v := 999) hx hb dX11_tell_94 (by decide) ?_
            exact w_X11_tell_97 X i1 i2 i3 (999 : Int32) x3.2 Hx3 lx3 ls  wx3 (lv_sub hl [0, 1, 2, 3] rfl) h
          · replace h := z_t c7 h
            refine lv_sipush (pc := 88) (v := 9999) hx hb dX11_tell_88 (by decide) ?_
            refine lv_goto (pc := 91) (tgt := 97) hx hb dX11_tell_91 (by decide) ?_
            exact w_X11_tell_97 X i1 i2 i3 (9999 : Int32) x3.2 Hx3 lx3 ls  wx3 (lv_sub hl [0, 1, 2, 3] rfl) h
        · replace h := z_t c6 h
          refine lv_bipush (pc := 78) (v := 10) hx hb dX11_tell_78 (by decide) ?_
          refine lv_goto (pc := 80) (tgt := 97) hx hb dX11_tell_80 (by decide) ?_
          exact w_X11_tell_97 X i1 i2 i3 (10 : Int32) x3.2 Hx3 lx3 ls  wx3 (lv_sub hl [0, 1, 2, 3] rfl) h
    · replace h := z_t c4 h
      refine lv_iconst (pc := 67) (v := 0) hx hb dX11_tell_67 (by decide) ?_
      obtain rfl := Option.some.inj h
      exact z_rz (pc := 68) X wx3 (z_nb (x := 0) (by decide)) dX11_tell_68
set_option maxHeartbeats 4000000 in
set_option maxRecDepth 100000 in
theorem w_X11_tell_24 {G : zG} {p : Program} {l : Launch} {e : Env} {s : State} {m : MethodId} {args : Array Value} {below : List Frame} {meth : Method} {c : Code} (X : z_C G p s m args meth c cX11_tell 5 RX11 (some .boolean)) {r : Int32 × zM} : ∀ (i1 : Int32) (i2 : Int32) (i3 : Int32) (M : zM) (H : Heap) (locs : List Loc) (ls : Array Slot), z_W G M H locs → lv_has ls 5 [(0, .ref (G.1 40)), (1, .int i1), (2, .int i2), (3, .int i3)] → f_X11_tell_24 i1 i2 i3 M = some r → W p l e (z_rm 2) s m args below meth c H locs 0 0 (z_Q G below args s (some (.int r.1)) r.2) (F0 m 24 ls []) := by
  have hx := X.1
  have hb := X.2.1
  intro i1 i2 i3 M H locs ls  hw hl h
  unfold f_X11_tell_24 at h
  refine lv_iload_n (pc := 24) hx hb dX11_tell_24 rfl (lv_at hl 2 rfl) ?_
  refine lv_bipush (pc := 25) (v := 6) hx hb dX11_tell_25 (by decide) ?_
  refine lv_icmp_ne (pc := 27) (tgt := 50) hx hb dX11_tell_27 (by decide) (fun c1 => ?_) (fun c1 => ?_)
  · replace h := z_f c1 h
    exact w_X11_tell_50 X i1 i2 i3 M H locs ls  hw (lv_sub hl [0, 1, 2, 3] rfl) h
  · replace h := z_t c1 h
    refine lv_iload_n (pc := 30) hx hb dX11_tell_30 rfl (lv_at hl 3 rfl) ?_
    refine lv_iconst (pc := 31) (v := 0) hx hb dX11_tell_31 (by decide) ?_
    refine lv_bipush (pc := 32) (v := 9) hx hb dX11_tell_32 (by decide) ?_
    obtain ⟨x2, ex2, h⟩ := z_bd h
    refine z_csI (pc := 34) (rest := []) X hw (m_X11_isIn  ex2) zw_ml_5_209 zw_st_5_210 zw_in_1_12 zw_co_5_211 zd_X11_isIn (by decide) rfl hl.1 rfl (Nat.le_of_ble_eq_true rfl) dX11_tell_34 ⟨Nat.zero_le _, Nat.zero_le _⟩ (fun Hx2 lx2 wx2 => ?_)
    refine lv_if_eq (pc := 37) (tgt := 50) hx hb dX11_tell_37 (by decide) (fun c3 => ?_) (fun c3 => ?_)
    · replace h := z_t c3 h
      exact w_X11_tell_50 X i1 i2 i3 x2.2 Hx2 lx2 ls  wx2 (lv_sub hl [0, 1, 2, 3] rfl) h
    · replace h := z_f c3 h
      refine lv_aload_n (pc := 40) hx hb dX11_tell_40 rfl (lv_at hl 0 rfl) ?_
      refine zg_DrinkingRoofsModel_w (pc := 41) X wx2 zw_fl_5_71 dX11_tell_41 ?_
      refine lv_bipush (pc := 44) (v := 6) hx hb dX11_tell_44 (by decide) ?_
      refine lv_iload_n (pc := 46) hx hb dX11_tell_46 rfl (lv_at hl 3 rfl) ?_
      refine z_iast (pc := 47) X wx2 zk_41 zl_41 (z_il (by decide)) dX11_tell_47 (fun HM4 lM4 wM4 => ?_)
      obtain ⟨M4, eM4, h⟩ := z_lo h
      rw [← eM4] at wM4
      refine lv_iconst (pc := 48) (v := 1) hx hb dX11_tell_48 (by decide) ?_
      obtain rfl := Option.some.inj h
      exact z_rz (pc := 49) X wM4 (z_nb (x := 1) (by decide)) dX11_tell_49
set_option maxHeartbeats 4000000 in
set_option maxRecDepth 100000 in
theorem m_X11_tell {l : Launch} {G : zG} {i1 : Int32} {i2 : Int32} {i3 : Int32} {M : zM} {r : Int32 × zM} (h : f_X11_tell i1 i2 i3 M = some r) : z_T l G 2 yX11_tell (.code yX11_tell cX11_tell 5 (some .boolean)) [.ref (G.1 40), .int i1, .int i2, .int i3] M (some (.int r.1)) r.2 := by
  refine z_of rfl ?_
  intro p e s m below meth c X hw
  have hl := lv_entry [.ref (G.1 40), .int i1, .int i2, .int i3] (n := 5) (Nat.le_of_ble_eq_true rfl)
  rw [lg_entry_eq]
  generalize (lg_sl [.ref (G.1 40), .int i1, .int i2, .int i3] ++ List.replicate (5 - (lg_sl [.ref (G.1 40), .int i1, .int i2, .int i3]).length) Slot.unset).toArray = ls at hl ⊢
  have hl : lv_has ls 5 [(0, .ref (G.1 40)), (1, .int i1), (2, .int i2), (3, .int i3)] := hl
  generalize ([.ref (G.1 40), .int i1, .int i2, .int i3] : List Value).toArray = args at X ⊢
  have X : z_C G p s m args meth c cX11_tell 5 RX11 (some .boolean) := X
  have hx := X.1
  have hb := X.2.1
  unfold f_X11_tell at h
  refine lv_iload_n (pc := 0) hx hb dX11_tell_0 rfl (lv_at hl 2 rfl) ?_
  refine lv_iconst (pc := 1) (v := 5) hx hb dX11_tell_1 (by decide) ?_
  refine lv_icmp_ne (pc := 2) (tgt := 24) hx hb dX11_tell_2 (by decide) (fun c1 => ?_) (fun c1 => ?_)
  · replace h := z_f c1 h
    exact w_X11_tell_24 X i1 i2 i3 M s.heap [] ls  hw (lv_sub hl [0, 1, 2, 3] rfl) h
  · replace h := z_t c1 h
    refine lv_iload_n (pc := 5) hx hb dX11_tell_5 rfl (lv_at hl 3 rfl) ?_
    refine lv_iconst (pc := 6) (v := 0) hx hb dX11_tell_6 (by decide) ?_
    refine lv_ldc (pc := 7) (v := 999999) hx hb X.2.2.2.1 (X.2.2.2.2.1 _ zw_cn_5_70) dX11_tell_7 ?_
    obtain ⟨x2, ex2, h⟩ := z_bd h
    refine z_csI (pc := 9) (rest := []) X hw (m_X11_isIn  ex2) zw_ml_5_209 zw_st_5_210 zw_in_1_12 zw_co_5_211 zd_X11_isIn (by decide) rfl hl.1 rfl (Nat.le_of_ble_eq_true rfl) dX11_tell_9 ⟨Nat.zero_le _, Nat.zero_le _⟩ (fun Hx2 lx2 wx2 => ?_)
    refine lv_if_eq (pc := 12) (tgt := 24) hx hb dX11_tell_12 (by decide) (fun c3 => ?_) (fun c3 => ?_)
    · replace h := z_t c3 h
      exact w_X11_tell_24 X i1 i2 i3 x2.2 Hx2 lx2 ls  wx2 (lv_sub hl [0, 1, 2, 3] rfl) h
    · replace h := z_f c3 h
      refine lv_aload_n (pc := 15) hx hb dX11_tell_15 rfl (lv_at hl 0 rfl) ?_
      refine zg_DrinkingRoofsModel_w (pc := 16) X wx2 zw_fl_5_71 dX11_tell_16 ?_
      refine lv_iconst (pc := 19) (v := 3) hx hb dX11_tell_19 (by decide) ?_
      refine lv_iload_n (pc := 20) hx hb dX11_tell_20 rfl (lv_at hl 3 rfl) ?_
      refine z_iast (pc := 21) X wx2 zk_41 zl_41 (z_il (by decide)) dX11_tell_21 (fun HM4 lM4 wM4 => ?_)
      obtain ⟨M4, eM4, h⟩ := z_lo h
      rw [← eM4] at wM4
      refine lv_iconst (pc := 22) (v := 1) hx hb dX11_tell_22 (by decide) ?_
      obtain rfl := Option.some.inj h
      exact z_rz (pc := 23) X wM4 (z_nb (x := 1) (by decide)) dX11_tell_23
def f_X11_storm_39 : Nat → Int32 → Int32 → Int32 → zM → Option (Int32 × zM)
  | 0, _, _, _, _ => none
  | n + 1, i1, i2, i3, M =>
    if (26 : Int32) ≤ i3 then (
      z_g (z_ix i2 1700) <|
      z_l (z_w M 41 (Int32.toNatClampNeg i2) i1) fun M3 =>
      z_l (z_w M3 41 (Int32.toNatClampNeg (1 : Int32)) ((M3.1 41 (Int32.toNatClampNeg (1 : Int32))) + (1 : Int32))) fun M4 =>
      some (((M4.1 41 (Int32.toNatClampNeg (1 : Int32))) - (1 : Int32)), M4)
    ) else (
      z_g (z_ix (i2 + i3) 1700) <|
      z_l (z_w M 41 (Int32.toNatClampNeg (i2 + i3)) (0 : Int32)) fun M6 =>
      z_l (i3 + (1 : Int32)) fun v7 =>
      f_X11_storm_39 n i1 i2 v7 M6
    )
def f_X11_storm (i1 : Int32) (M : zM) : Option (Int32 × zM) :=
  (f_X11_isIn i1 (1 : Int32) (12 : Int32) M).bind fun x1 =>
  if x1.1 = 0 then (
    some ((-1 : Int32), x1.2)
  ) else (
    if (x1.2.1 41 (Int32.toNatClampNeg (1 : Int32))) = (10 : Int32) then (
      some ((-1 : Int32), x1.2)
    ) else (
      z_l ((180 : Int32) + ((26 : Int32) * (x1.2.1 41 (Int32.toNatClampNeg (1 : Int32))))) fun v4 =>
      f_X11_storm_39 z_F i1 v4 (0 : Int32) x1.2
    )
  )
set_option maxHeartbeats 4000000 in
set_option maxRecDepth 100000 in
theorem w_X11_storm_39 {G : zG} {p : Program} {l : Launch} {e : Env} {s : State} {m : MethodId} {args : Array Value} {below : List Frame} {meth : Method} {c : Code} (X : z_C G p s m args meth c cX11_storm 4 RX11 (some .int)) {r : Int32 × zM} : ∀ (n : Nat) (i1 : Int32) (i2 : Int32) (i3 : Int32) (M : zM) (H : Heap) (locs : List Loc) (ls : Array Slot), z_W G M H locs → lv_has ls 4 [(0, .ref (G.1 40)), (1, .int i1), (2, .int i2), (3, .int i3)] → f_X11_storm_39 n i1 i2 i3 M = some r → W p l e (z_rm 1) s m args below meth c H locs 0 0 (z_Q G below args s (some (.int r.1)) r.2) (F0 m 39 ls []) := by
  have hx := X.1
  have hb := X.2.1
  intro n
  induction n with
  | zero =>
    intro i1 i2 i3 M H locs ls  hw hl h
    exact z_no h
  | succ n ih =>
    intro i1 i2 i3 M H locs ls  hw hl h
    rw [f_X11_storm_39] at h
    refine lv_iload_n (pc := 39) hx hb dX11_storm_39 rfl (lv_at hl 3 rfl) ?_
    refine lv_bipush (pc := 40) (v := 26) hx hb dX11_storm_40 (by decide) ?_
    refine lv_icmp_ge (pc := 42) (tgt := 60) hx hb dX11_storm_42 (by decide) (fun c1 => ?_) (fun c1 => ?_)
    · replace h := z_t c1 h
      refine lv_aload_n (pc := 60) hx hb dX11_storm_60 rfl (lv_at hl 0 rfl) ?_
      refine zg_DrinkingRoofsModel_w (pc := 61) X hw zw_fl_5_71 dX11_storm_61 ?_
      refine lv_iload_n (pc := 64) hx hb dX11_storm_64 rfl (lv_at hl 2 rfl) ?_
      refine lv_iload_n (pc := 65) hx hb dX11_storm_65 rfl (lv_at hl 1 rfl) ?_
      obtain ⟨g2, h⟩ := z_gd h
      refine z_iast (pc := 66) X hw zk_41 zl_41 g2 dX11_storm_66 (fun HM3 lM3 wM3 => ?_)
      obtain ⟨M3, eM3, h⟩ := z_lo h
      rw [← eM3] at wM3
      refine lv_aload_n (pc := 67) hx hb dX11_storm_67 rfl (lv_at hl 0 rfl) ?_
      refine zg_DrinkingRoofsModel_w (pc := 68) X wM3 zw_fl_5_71 dX11_storm_68 ?_
      refine lv_iconst (pc := 71) (v := 1) hx hb dX11_storm_71 (by decide) ?_
      refine lv_dup2_11 (pc := 72) hx hb dX11_storm_72 rfl rfl ?_
      refine z_iald (pc := 73) X wM3 zk_41 zl_41 (z_il (by decide)) dX11_storm_73 ?_
      refine lv_iconst (pc := 74) (v := 1) hx hb dX11_storm_74 (by decide) ?_
      refine lv_iadd (pc := 75) hx hb dX11_storm_75 ?_
      refine z_iast (pc := 76) X wM3 zk_41 zl_41 (z_il (by decide)) dX11_storm_76 (fun HM4 lM4 wM4 => ?_)
      obtain ⟨M4, eM4, h⟩ := z_lo h
      rw [← eM4] at wM4
      refine lv_aload_n (pc := 77) hx hb dX11_storm_77 rfl (lv_at hl 0 rfl) ?_
      refine zg_DrinkingRoofsModel_w (pc := 78) X wM4 zw_fl_5_71 dX11_storm_78 ?_
      refine lv_iconst (pc := 81) (v := 1) hx hb dX11_storm_81 (by decide) ?_
      refine z_iald (pc := 82) X wM4 zk_41 zl_41 (z_il (by decide)) dX11_storm_82 ?_
      refine lv_iconst (pc := 83) (v := 1) hx hb dX11_storm_83 (by decide) ?_
      refine lv_isub (pc := 84) hx hb dX11_storm_84 ?_
      obtain rfl := Option.some.inj h
      exact z_ri (pc := 85) X wM4 dX11_storm_85
    · replace h := z_f c1 h
      refine lv_aload_n (pc := 45) hx hb dX11_storm_45 rfl (lv_at hl 0 rfl) ?_
      refine zg_DrinkingRoofsModel_w (pc := 46) X hw zw_fl_5_71 dX11_storm_46 ?_
      refine lv_iload_n (pc := 49) hx hb dX11_storm_49 rfl (lv_at hl 2 rfl) ?_
      refine lv_iload_n (pc := 50) hx hb dX11_storm_50 rfl (lv_at hl 3 rfl) ?_
      refine lv_iadd (pc := 51) hx hb dX11_storm_51 ?_
      refine lv_iconst (pc := 52) (v := 0) hx hb dX11_storm_52 (by decide) ?_
      obtain ⟨g5, h⟩ := z_gd h
      refine z_iast (pc := 53) X hw zk_41 zl_41 g5 dX11_storm_53 (fun HM6 lM6 wM6 => ?_)
      obtain ⟨M6, eM6, h⟩ := z_lo h
      rw [← eM6] at wM6
      obtain ⟨v7, ev7, h⟩ := z_lo h
      refine lv_iinc (pc := 54) (v := v7) (lv' := [(3, .int v7), (0, .ref (G.1 40)), (1, .int i1), (2, .int i2)]) hx hb dX11_storm_54 hl (k := 3) rfl (by rw [ev7]; rfl) (by decide) rfl (fun ls hl => ?_)
      refine lv_goto (pc := 57) (tgt := 39) hx hb dX11_storm_57 (by decide) ?_
      exact ih i1 i2 v7 M6 HM6 lM6 ls  wM6 (lv_sub hl [1, 2, 3, 0] rfl) h
set_option maxHeartbeats 4000000 in
set_option maxRecDepth 100000 in
theorem m_X11_storm {l : Launch} {G : zG} {i1 : Int32} {M : zM} {r : Int32 × zM} (h : f_X11_storm i1 M = some r) : z_T l G 1 yX11_storm (.code yX11_storm cX11_storm 4 (some .int)) [.ref (G.1 40), .int i1] M (some (.int r.1)) r.2 := by
  refine z_of rfl ?_
  intro p e s m below meth c X hw
  have hl := lv_entry [.ref (G.1 40), .int i1] (n := 4) (Nat.le_of_ble_eq_true rfl)
  rw [lg_entry_eq]
  generalize (lg_sl [.ref (G.1 40), .int i1] ++ List.replicate (4 - (lg_sl [.ref (G.1 40), .int i1]).length) Slot.unset).toArray = ls at hl ⊢
  have hl : lv_has ls 4 [(0, .ref (G.1 40)), (1, .int i1)] := hl
  generalize ([.ref (G.1 40), .int i1] : List Value).toArray = args at X ⊢
  have X : z_C G p s m args meth c cX11_storm 4 RX11 (some .int) := X
  have hx := X.1
  have hb := X.2.1
  unfold f_X11_storm at h
  refine lv_iload_n (pc := 0) hx hb dX11_storm_0 rfl (lv_at hl 1 rfl) ?_
  refine lv_iconst (pc := 1) (v := 1) hx hb dX11_storm_1 (by decide) ?_
  refine lv_bipush (pc := 2) (v := 12) hx hb dX11_storm_2 (by decide) ?_
  obtain ⟨x1, ex1, h⟩ := z_bd h
  refine z_csI (pc := 4) (rest := []) X hw (m_X11_isIn  ex1) zw_ml_5_209 zw_st_5_210 zw_in_1_12 zw_co_5_211 zd_X11_isIn (by decide) rfl hl.1 rfl (Nat.le_of_ble_eq_true rfl) dX11_storm_4 ⟨Nat.zero_le _, Nat.zero_le _⟩ (fun Hx1 lx1 wx1 => ?_)
  refine lv_if_eq (pc := 7) (tgt := 21) hx hb dX11_storm_7 (by decide) (fun c2 => ?_) (fun c2 => ?_)
  · replace h := z_t c2 h
    refine lv_iconst (pc := 21) (v := -1) hx hb dX11_storm_21 (by decide) ?_
    obtain rfl := Option.some.inj h
    exact z_ri (pc := 22) X wx1 dX11_storm_22
  · replace h := z_f c2 h
    refine lv_aload_n (pc := 10) hx hb dX11_storm_10 rfl (lv_at hl 0 rfl) ?_
    refine zg_DrinkingRoofsModel_w (pc := 11) X wx1 zw_fl_5_71 dX11_storm_11 ?_
    refine lv_iconst (pc := 14) (v := 1) hx hb dX11_storm_14 (by decide) ?_
    refine z_iald (pc := 15) X wx1 zk_41 zl_41 (z_il (by decide)) dX11_storm_15 ?_
    refine lv_bipush (pc := 16) (v := 10) hx hb dX11_storm_16 (by decide) ?_
    refine lv_icmp_ne (pc := 18) (tgt := 23) hx hb dX11_storm_18 (by decide) (fun c3 => ?_) (fun c3 => ?_)
    · replace h := z_f c3 h
      refine lv_sipush (pc := 23) (v := 180) hx hb dX11_storm_23 (by decide) ?_
      refine lv_bipush (pc := 26) (v := 26) hx hb dX11_storm_26 (by decide) ?_
      refine lv_aload_n (pc := 28) hx hb dX11_storm_28 rfl (lv_at hl 0 rfl) ?_
      refine zg_DrinkingRoofsModel_w (pc := 29) X wx1 zw_fl_5_71 dX11_storm_29 ?_
      refine lv_iconst (pc := 32) (v := 1) hx hb dX11_storm_32 (by decide) ?_
      refine z_iald (pc := 33) X wx1 zk_41 zl_41 (z_il (by decide)) dX11_storm_33 ?_
      refine lv_imul (pc := 34) hx hb dX11_storm_34 ?_
      refine lv_iadd (pc := 35) hx hb dX11_storm_35 ?_
      obtain ⟨v4, ev4, h⟩ := z_lo h
      refine z_topi ev4 ?_
      refine lv_istore_n (pc := 36) (lv' := [(2, .int v4), (0, .ref (G.1 40)), (1, .int i1)]) hx hb dX11_storm_36 rfl hl (by decide) rfl (fun ls hl => ?_)
      refine lv_iconst (pc := 37) (v := 0) hx hb dX11_storm_37 (by decide) ?_
      refine lv_istore_n (pc := 38) (lv' := [(3, .int (0 : Int32)), (2, .int v4), (0, .ref (G.1 40)), (1, .int i1)]) hx hb dX11_storm_38 rfl hl (by decide) rfl (fun ls hl => ?_)
      exact w_X11_storm_39 X z_F i1 v4 (0 : Int32) x1.2 Hx1 lx1 ls  wx1 (lv_sub hl [2, 3, 1, 0] rfl) h
    · replace h := z_t c3 h
      refine lv_iconst (pc := 21) (v := -1) hx hb dX11_storm_21 (by decide) ?_
      obtain rfl := Option.some.inj h
      exact z_ri (pc := 22) X wx1 dX11_storm_22
def f_X11_hoursOf (i1 : Int32) (M : zM) : Option (Int32 × zM) :=
  z_l ((180 : Int32) + ((26 : Int32) * i1)) fun v1 =>
  z_g (z_ix v1 1700) <|
  some ((M.1 41 (Int32.toNatClampNeg v1)), M)
set_option maxHeartbeats 4000000 in
set_option maxRecDepth 100000 in
theorem m_X11_hoursOf {l : Launch} {G : zG} {i1 : Int32} {M : zM} {r : Int32 × zM} (h : f_X11_hoursOf i1 M = some r) : z_T l G 0 yX11_hoursOf (.code yX11_hoursOf cX11_hoursOf 2 (some .int)) [.ref (G.1 40), .int i1] M (some (.int r.1)) r.2 := by
  refine z_of rfl ?_
  intro p e s m below meth c X hw
  have hl := lv_entry [.ref (G.1 40), .int i1] (n := 2) (Nat.le_of_ble_eq_true rfl)
  rw [lg_entry_eq]
  generalize (lg_sl [.ref (G.1 40), .int i1] ++ List.replicate (2 - (lg_sl [.ref (G.1 40), .int i1]).length) Slot.unset).toArray = ls at hl ⊢
  have hl : lv_has ls 2 [(0, .ref (G.1 40)), (1, .int i1)] := hl
  generalize ([.ref (G.1 40), .int i1] : List Value).toArray = args at X ⊢
  have X : z_C G p s m args meth c cX11_hoursOf 2 RX11 (some .int) := X
  have hx := X.1
  have hb := X.2.1
  unfold f_X11_hoursOf at h
  refine lv_aload_n (pc := 0) hx hb dX11_hoursOf_0 rfl (lv_at hl 0 rfl) ?_
  refine zg_DrinkingRoofsModel_w (pc := 1) X hw zw_fl_5_71 dX11_hoursOf_1 ?_
  refine lv_sipush (pc := 4) (v := 180) hx hb dX11_hoursOf_4 (by decide) ?_
  refine lv_bipush (pc := 7) (v := 26) hx hb dX11_hoursOf_7 (by decide) ?_
  refine lv_iload_n (pc := 9) hx hb dX11_hoursOf_9 rfl (lv_at hl 1 rfl) ?_
  refine lv_imul (pc := 10) hx hb dX11_hoursOf_10 ?_
  refine lv_iadd (pc := 11) hx hb dX11_hoursOf_11 ?_
  obtain ⟨v1, ev1, h⟩ := z_lo h
  refine z_topi ev1 ?_
  obtain ⟨g2, h⟩ := z_gd h
  refine z_iald (pc := 12) X hw zk_41 zl_41 g2 dX11_hoursOf_12 ?_
  obtain rfl := Option.some.inj h
  exact z_ri (pc := 13) X hw dX11_hoursOf_13
def f_X11_fallOf (i1 : Int32) (i2 : Int32) (M : zM) : Option (Int32 × zM) :=
  z_l ((((180 : Int32) + ((26 : Int32) * i1)) + (1 : Int32)) + i2) fun v1 =>
  z_g (z_ix v1 1700) <|
  some ((M.1 41 (Int32.toNatClampNeg v1)), M)
set_option maxHeartbeats 4000000 in
set_option maxRecDepth 100000 in
theorem m_X11_fallOf {l : Launch} {G : zG} {i1 : Int32} {i2 : Int32} {M : zM} {r : Int32 × zM} (h : f_X11_fallOf i1 i2 M = some r) : z_T l G 0 yX11_fallOf (.code yX11_fallOf cX11_fallOf 3 (some .int)) [.ref (G.1 40), .int i1, .int i2] M (some (.int r.1)) r.2 := by
  refine z_of rfl ?_
  intro p e s m below meth c X hw
  have hl := lv_entry [.ref (G.1 40), .int i1, .int i2] (n := 3) (Nat.le_of_ble_eq_true rfl)
  rw [lg_entry_eq]
  generalize (lg_sl [.ref (G.1 40), .int i1, .int i2] ++ List.replicate (3 - (lg_sl [.ref (G.1 40), .int i1, .int i2]).length) Slot.unset).toArray = ls at hl ⊢
  have hl : lv_has ls 3 [(0, .ref (G.1 40)), (1, .int i1), (2, .int i2)] := hl
  generalize ([.ref (G.1 40), .int i1, .int i2] : List Value).toArray = args at X ⊢
  have X : z_C G p s m args meth c cX11_fallOf 3 RX11 (some .int) := X
  have hx := X.1
  have hb := X.2.1
  unfold f_X11_fallOf at h
  refine lv_aload_n (pc := 0) hx hb dX11_fallOf_0 rfl (lv_at hl 0 rfl) ?_
  refine zg_DrinkingRoofsModel_w (pc := 1) X hw zw_fl_5_71 dX11_fallOf_1 ?_
  refine lv_sipush (pc := 4) (v := 180) hx hb dX11_fallOf_4 (by decide) ?_
  refine lv_bipush (pc := 7) (v := 26) hx hb dX11_fallOf_7 (by decide) ?_
  refine lv_iload_n (pc := 9) hx hb dX11_fallOf_9 rfl (lv_at hl 1 rfl) ?_
  refine lv_imul (pc := 10) hx hb dX11_fallOf_10 ?_
  refine lv_iadd (pc := 11) hx hb dX11_fallOf_11 ?_
  refine lv_iconst (pc := 12) (v := 1) hx hb dX11_fallOf_12 (by decide) ?_
  refine lv_iadd (pc := 13) hx hb dX11_fallOf_13 ?_
  refine lv_iload_n (pc := 14) hx hb dX11_fallOf_14 rfl (lv_at hl 2 rfl) ?_
  refine lv_iadd (pc := 15) hx hb dX11_fallOf_15 ?_
  obtain ⟨v1, ev1, h⟩ := z_lo h
  refine z_topi ev1 ?_
  obtain ⟨g2, h⟩ := z_gd h
  refine z_iald (pc := 16) X hw zk_41 zl_41 g2 dX11_fallOf_16 ?_
  obtain rfl := Option.some.inj h
  exact z_ri (pc := 17) X hw dX11_fallOf_17
def f_X11_isSnow (i1 : Int32) (i2 : Int32) (M : zM) : Option (Int32 × zM) :=
  z_l ((((180 : Int32) + ((26 : Int32) * i1)) + (13 : Int32)) + i2) fun v1 =>
  z_g (z_ix v1 1700) <|
  if (M.1 41 (Int32.toNatClampNeg v1)) = (1 : Int32) then (
    some ((1 : Int32), M)
  ) else (
    some ((0 : Int32), M)
  )
set_option maxHeartbeats 4000000 in
set_option maxRecDepth 100000 in
theorem m_X11_isSnow {l : Launch} {G : zG} {i1 : Int32} {i2 : Int32} {M : zM} {r : Int32 × zM} (h : f_X11_isSnow i1 i2 M = some r) : z_T l G 0 yX11_isSnow (.code yX11_isSnow cX11_isSnow 3 (some .boolean)) [.ref (G.1 40), .int i1, .int i2] M (some (.int r.1)) r.2 := by
  refine z_of rfl ?_
  intro p e s m below meth c X hw
  have hl := lv_entry [.ref (G.1 40), .int i1, .int i2] (n := 3) (Nat.le_of_ble_eq_true rfl)
  rw [lg_entry_eq]
  generalize (lg_sl [.ref (G.1 40), .int i1, .int i2] ++ List.replicate (3 - (lg_sl [.ref (G.1 40), .int i1, .int i2]).length) Slot.unset).toArray = ls at hl ⊢
  have hl : lv_has ls 3 [(0, .ref (G.1 40)), (1, .int i1), (2, .int i2)] := hl
  generalize ([.ref (G.1 40), .int i1, .int i2] : List Value).toArray = args at X ⊢
  have X : z_C G p s m args meth c cX11_isSnow 3 RX11 (some .boolean) := X
  have hx := X.1
  have hb := X.2.1
  unfold f_X11_isSnow at h
  refine lv_aload_n (pc := 0) hx hb dX11_isSnow_0 rfl (lv_at hl 0 rfl) ?_
  refine zg_DrinkingRoofsModel_w (pc := 1) X hw zw_fl_5_71 dX11_isSnow_1 ?_
  refine lv_sipush (pc := 4) (v := 180) hx hb dX11_isSnow_4 (by decide) ?_
  refine lv_bipush (pc := 7) (v := 26) hx hb dX11_isSnow_7 (by decide) ?_
  refine lv_iload_n (pc := 9) hx hb dX11_isSnow_9 rfl (lv_at hl 1 rfl) ?_
  refine lv_imul (pc := 10) hx hb dX11_isSnow_10 ?_
  refine lv_iadd (pc := 11) hx hb dX11_isSnow_11 ?_
  refine lv_bipush (pc := 12) (v := 13) hx hb dX11_isSnow_12 (by decide) ?_
  refine lv_iadd (pc := 14) hx hb dX11_isSnow_14 ?_
  refine lv_iload_n (pc := 15) hx hb dX11_isSnow_15 rfl (lv_at hl 2 rfl) ?_
  refine lv_iadd (pc := 16) hx hb dX11_isSnow_16 ?_
  obtain ⟨v1, ev1, h⟩ := z_lo h
  refine z_topi ev1 ?_
  obtain ⟨g2, h⟩ := z_gd h
  refine z_iald (pc := 17) X hw zk_41 zl_41 g2 dX11_isSnow_17 ?_
  refine lv_iconst (pc := 18) (v := 1) hx hb dX11_isSnow_18 (by decide) ?_
  refine lv_icmp_ne (pc := 19) (tgt := 26) hx hb dX11_isSnow_19 (by decide) (fun c3 => ?_) (fun c3 => ?_)
  · replace h := z_f c3 h
    refine lv_iconst (pc := 26) (v := 0) hx hb dX11_isSnow_26 (by decide) ?_
    obtain rfl := Option.some.inj h
    exact z_rz (pc := 27) X hw (z_nb (x := 0) (by decide)) dX11_isSnow_27
  · replace h := z_t c3 h
    refine lv_iconst (pc := 22) (v := 1) hx hb dX11_isSnow_22 (by decide) ?_
    refine lv_goto (pc := 23) (tgt := 27) hx hb dX11_isSnow_23 (by decide) ?_
    obtain rfl := Option.some.inj h
    exact z_rz (pc := 27) X hw (z_nb (x := 1) (by decide)) dX11_isSnow_27
def f_X11_fall (i1 : Int32) (i2 : Int32) (i3 : Int32) (i4 : Int32) (M : zM) : Option (Int32 × zM) :=
  (f_X11_isStorm i1 M).bind fun x1 =>
  if x1.1 = 0 then (
    some ((0 : Int32), x1.2)
  ) else (
    (f_X11_hoursOf i1 x1.2).bind fun x3 =>
    (f_X11_isIn i2 (0 : Int32) (x3.1 - (1 : Int32)) x3.2).bind fun x4 =>
    if x4.1 = 0 then (
      some ((0 : Int32), x4.2)
    ) else (
      (f_X11_isIn i3 (0 : Int32) (99 : Int32) x4.2).bind fun x6 =>
      if x6.1 = 0 then (
        some ((0 : Int32), x6.2)
      ) else (
        z_g (z_ix ((((180 : Int32) + ((26 : Int32) * i1)) + (1 : Int32)) + i2) 1700) <|
        z_l (z_w x6.2 41 (Int32.toNatClampNeg ((((180 : Int32) + ((26 : Int32) * i1)) + (1 : Int32)) + i2)) i3) fun M9 =>
        if i4 = 0 then (
          z_g (z_ix ((((180 : Int32) + ((26 : Int32) * i1)) + (13 : Int32)) + i2) 1700) <|
          z_l (z_w M9 41 (Int32.toNatClampNeg ((((180 : Int32) + ((26 : Int32) * i1)) + (13 : Int32)) + i2)) (0 : Int32)) fun M12 =>
          some ((1 : Int32), M12)
        ) else (
          z_g (z_ix ((((180 : Int32) + ((26 : Int32) * i1)) + (13 : Int32)) + i2) 1700) <|
          z_l (z_w M9 41 (Int32.toNatClampNeg ((((180 : Int32) + ((26 : Int32) * i1)) + (13 : Int32)) + i2)) (1 : Int32)) fun M14 =>
          some ((1 : Int32), M14)
        )
      )
    )
  )
set_option maxHeartbeats 4000000 in
set_option maxRecDepth 100000 in
theorem m_X11_fall {l : Launch} {G : zG} {i1 : Int32} {i2 : Int32} {i3 : Int32} {i4 : Int32} {M : zM} {r : Int32 × zM} (h : f_X11_fall i1 i2 i3 i4 M = some r) : z_T l G 2 yX11_fall (.code yX11_fall cX11_fall 5 (some .boolean)) [.ref (G.1 40), .int i1, .int i2, .int i3, .int i4] M (some (.int r.1)) r.2 := by
  refine z_of rfl ?_
  intro p e s m below meth c X hw
  have hl := lv_entry [.ref (G.1 40), .int i1, .int i2, .int i3, .int i4] (n := 5) (Nat.le_of_ble_eq_true rfl)
  rw [lg_entry_eq]
  generalize (lg_sl [.ref (G.1 40), .int i1, .int i2, .int i3, .int i4] ++ List.replicate (5 - (lg_sl [.ref (G.1 40), .int i1, .int i2, .int i3, .int i4]).length) Slot.unset).toArray = ls at hl ⊢
  have hl : lv_has ls 5 [(0, .ref (G.1 40)), (1, .int i1), (2, .int i2), (3, .int i3), (4, .int i4)] := hl
  generalize ([.ref (G.1 40), .int i1, .int i2, .int i3, .int i4] : List Value).toArray = args at X ⊢
  have X : z_C G p s m args meth c cX11_fall 5 RX11 (some .boolean) := X
  have hx := X.1
  have hb := X.2.1
  unfold f_X11_fall at h
  refine lv_aload_n (pc := 0) hx hb dX11_fall_0 rfl (lv_at hl 0 rfl) ?_
  refine lv_iload_n (pc := 1) hx hb dX11_fall_1 rfl (lv_at hl 1 rfl) ?_
  obtain ⟨x1, ex1, h⟩ := z_bd h
  refine z_cvI (pc := 2) (rest := []) X hw (m_X11_isStorm  ex1) (z_lt zk_40 (by decide)) (z_E11 zk_40) rfl zw_ml_5_236 zw_im_5_238 zw_se_S_37 zw_in_1_12 zw_co_5_239 zd_X11_isStorm (by decide) rfl hl.1 rfl (Nat.le_of_ble_eq_true rfl) dX11_fall_2 ⟨Nat.zero_le _, Nat.zero_le _⟩ (fun Hx1 lx1 wx1 => ?_)
  refine lv_if_eq (pc := 5) (tgt := 33) hx hb dX11_fall_5 (by decide) (fun c2 => ?_) (fun c2 => ?_)
  · replace h := z_t c2 h
    refine lv_iconst (pc := 33) (v := 0) hx hb dX11_fall_33 (by decide) ?_
    obtain rfl := Option.some.inj h
    exact z_rz (pc := 34) X wx1 (z_nb (x := 0) (by decide)) dX11_fall_34
  · replace h := z_f c2 h
    refine lv_iload_n (pc := 8) hx hb dX11_fall_8 rfl (lv_at hl 2 rfl) ?_
    refine lv_iconst (pc := 9) (v := 0) hx hb dX11_fall_9 (by decide) ?_
    refine lv_aload_n (pc := 10) hx hb dX11_fall_10 rfl (lv_at hl 0 rfl) ?_
    refine lv_iload_n (pc := 11) hx hb dX11_fall_11 rfl (lv_at hl 1 rfl) ?_
    obtain ⟨x3, ex3, h⟩ := z_bd h
    refine z_cvI (pc := 12) (rest := [.int (0 : Int32), .int i2]) X wx1 (m_X11_hoursOf  ex3) (z_lt zk_40 (by decide)) (z_E11 zk_40) rfl zw_ml_6_0 zw_im_6_2 zw_se_S_38 zw_in_1_12 zw_co_6_3 zd_X11_hoursOf (by decide) rfl hl.1 rfl (Nat.le_of_ble_eq_true rfl) dX11_fall_12 ⟨Nat.zero_le _, Nat.zero_le _⟩ (fun Hx3 lx3 wx3 => ?_)
    refine lv_iconst (pc := 15) (v := 1) hx hb dX11_fall_15 (by decide) ?_
    refine lv_isub (pc := 16) hx hb dX11_fall_16 ?_
    obtain ⟨x4, ex4, h⟩ := z_bd h
    refine z_csI (pc := 17) (rest := []) X wx3 (m_X11_isIn  ex4) zw_ml_5_209 zw_st_5_210 zw_in_1_12 zw_co_5_211 zd_X11_isIn (by decide) rfl hl.1 rfl (Nat.le_of_ble_eq_true rfl) dX11_fall_17 ⟨Nat.zero_le _, Nat.zero_le _⟩ (fun Hx4 lx4 wx4 => ?_)
    refine lv_if_eq (pc := 20) (tgt := 33) hx hb dX11_fall_20 (by decide) (fun c5 => ?_) (fun c5 => ?_)
    · replace h := z_t c5 h
      refine lv_iconst (pc := 33) (v := 0) hx hb dX11_fall_33 (by decide) ?_
      obtain rfl := Option.some.inj h
      exact z_rz (pc := 34) X wx4 (z_nb (x := 0) (by decide)) dX11_fall_34
    · replace h := z_f c5 h
      refine lv_iload_n (pc := 23) hx hb dX11_fall_23 rfl (lv_at hl 3 rfl) ?_
      refine lv_iconst (pc := 24) (v := 0) hx hb dX11_fall_24 (by decide) ?_
      refine lv_bipush (pc := 25) (v := 99) hx hb dX11_fall_25 (by decide) ?_
      obtain ⟨x6, ex6, h⟩ := z_bd h
      refine z_csI (pc := 27) (rest := []) X wx4 (m_X11_isIn  ex6) zw_ml_5_209 zw_st_5_210 zw_in_1_12 zw_co_5_211 zd_X11_isIn (by decide) rfl hl.1 rfl (Nat.le_of_ble_eq_true rfl) dX11_fall_27 ⟨Nat.zero_le _, Nat.zero_le _⟩ (fun Hx6 lx6 wx6 => ?_)
      refine lv_if_ne (pc := 30) (tgt := 35) hx hb dX11_fall_30 (by decide) (fun c7 => ?_) (fun c7 => ?_)
      · replace h := z_f c7 h
        refine lv_aload_n (pc := 35) hx hb dX11_fall_35 rfl (lv_at hl 0 rfl) ?_
        refine zg_DrinkingRoofsModel_w (pc := 36) X wx6 zw_fl_5_71 dX11_fall_36 ?_
        refine lv_sipush (pc := 39) (v := 180) hx hb dX11_fall_39 (by decide) ?_
        refine lv_bipush (pc := 42) (v := 26) hx hb dX11_fall_42 (by decide) ?_
        refine lv_iload_n (pc := 44) hx hb dX11_fall_44 rfl (lv_at hl 1 rfl) ?_
        refine lv_imul (pc := 45) hx hb dX11_fall_45 ?_
        refine lv_iadd (pc := 46) hx hb dX11_fall_46 ?_
        refine lv_iconst (pc := 47) (v := 1) hx hb dX11_fall_47 (by decide) ?_
        refine lv_iadd (pc := 48) hx hb dX11_fall_48 ?_
        refine lv_iload_n (pc := 49) hx hb dX11_fall_49 rfl (lv_at hl 2 rfl) ?_
        refine lv_iadd (pc := 50) hx hb dX11_fall_50 ?_
        refine lv_iload_n (pc := 51) hx hb dX11_fall_51 rfl (lv_at hl 3 rfl) ?_
        obtain ⟨g8, h⟩ := z_gd h
        refine z_iast (pc := 52) X wx6 zk_41 zl_41 g8 dX11_fall_52 (fun HM9 lM9 wM9 => ?_)
        obtain ⟨M9, eM9, h⟩ := z_lo h
        rw [← eM9] at wM9
        refine lv_aload_n (pc := 53) hx hb dX11_fall_53 rfl (lv_at hl 0 rfl) ?_
        refine zg_DrinkingRoofsModel_w (pc := 54) X wM9 zw_fl_5_71 dX11_fall_54 ?_
        refine lv_sipush (pc := 57) (v := 180) hx hb dX11_fall_57 (by decide) ?_
        refine lv_bipush (pc := 60) (v := 26) hx hb dX11_fall_60 (by decide) ?_
        refine lv_iload_n (pc := 62) hx hb dX11_fall_62 rfl (lv_at hl 1 rfl) ?_
        refine lv_imul (pc := 63) hx hb dX11_fall_63 ?_
        refine lv_iadd (pc := 64) hx hb dX11_fall_64 ?_
        refine lv_bipush (pc := 65) (v := 13) hx hb dX11_fall_65 (by decide) ?_
        refine lv_iadd (pc := 67) hx hb dX11_fall_67 ?_
        refine lv_iload_n (pc := 68) hx hb dX11_fall_68 rfl (lv_at hl 2 rfl) ?_
        refine lv_iadd (pc := 69) hx hb dX11_fall_69 ?_
        refine lv_iload (pc := 70) hx hb dX11_fall_70 (lv_at hl 4 rfl) ?_
        refine lv_if_eq (pc := 72) (tgt := 79) hx hb dX11_fall_72 (by decide) (fun c10 => ?_) (fun c10 => ?_)
        · replace h := z_t c10 h
          refine lv_iconst (pc := 79) (v := 0) hx hb dX11_fall_79 (by decide) ?_
          obtain ⟨g11, h⟩ := z_gd h
          refine z_iast (pc := 80) X wM9 zk_41 zl_41 g11 dX11_fall_80 (fun HM12 lM12 wM12 => ?_)
          obtain ⟨M12, eM12, h⟩ := z_lo h
          rw [← eM12] at wM12
          refine lv_iconst (pc := 81) (v := 1) hx hb dX11_fall_81 (by decide) ?_
          obtain rfl := Option.some.inj h
          exact z_rz (pc := 82) X wM12 (z_nb (x := 1) (by decide)) dX11_fall_82
        · replace h := z_f c10 h
          refine lv_iconst (pc := 75) (v := 1) hx hb dX11_fall_75 (by decide) ?_
          refine lv_goto (pc := 76) (tgt := 80) hx hb dX11_fall_76 (by decide) ?_
          obtain ⟨g13, h⟩ := z_gd h
          refine z_iast (pc := 80) X wM9 zk_41 zl_41 g13 dX11_fall_80 (fun HM14 lM14 wM14 => ?_)
          obtain ⟨M14, eM14, h⟩ := z_lo h
          rw [← eM14] at wM14
          refine lv_iconst (pc := 81) (v := 1) hx hb dX11_fall_81 (by decide) ?_
          obtain rfl := Option.some.inj h
          exact z_rz (pc := 82) X wM14 (z_nb (x := 1) (by decide)) dX11_fall_82
      · replace h := z_t c7 h
        refine lv_iconst (pc := 33) (v := 0) hx hb dX11_fall_33 (by decide) ?_
        obtain rfl := Option.some.inj h
        exact z_rz (pc := 34) X wx6 (z_nb (x := 0) (by decide)) dX11_fall_34
def f_X11_feed_71 (K18 : Int32 → Int32 → Int32 → Int32 → Int32 → Int32 → zM → Option (Int32 × zM)) (i1 : Int32) (i2 : Int32) (i3 : Int32) (i4 : Int32) (i5 : Int32) (i6 : Int32) (si0 : Int32) (M : zM) : Option (Int32 × zM) :=
    z_g (z_ix (M.1 40 10) 400) <|
    z_l (z_w M 45 (Int32.toNatClampNeg (M.1 40 10)) ((si0 >>> (((24 : Int32) - ((8 : Int32) * (i6 - i6 / (4 : Int32) * (4 : Int32)))) &&& 31)) &&& (255 : Int32))) fun M2 =>
    z_l (z_w M2 40 10 ((M2.1 40 10) + (1 : Int32))) fun M3 =>
    z_l (i6 + (1 : Int32)) fun v4 =>
    K18 i1 i2 i3 i4 i5 v4 M3
def f_X11_feed_18 : Nat → Int32 → Int32 → Int32 → Int32 → Int32 → Int32 → zM → Option (Int32 × zM)
  | 0, _, _, _, _, _, _, _ => none
  | n + 1, i1, i2, i3, i4, i5, i6, M =>
    if (20 : Int32) ≤ i6 then (
      some ((M.1 40 10), M)
    ) else (
      if (4 : Int32) ≤ i6 then (
        if (8 : Int32) ≤ i6 then (
          if (12 : Int32) ≤ i6 then (
            if (16 : Int32) ≤ i6 then (
              f_X11_feed_71 (f_X11_feed_18 n) i1 i2 i3 i4 i5 i6 i5 M
            ) else (
              f_X11_feed_71 (f_X11_feed_18 n) i1 i2 i3 i4 i5 i6 i4 M
            )
          ) else (
            f_X11_feed_71 (f_X11_feed_18 n) i1 i2 i3 i4 i5 i6 i3 M
          )
        ) else (
          f_X11_feed_71 (f_X11_feed_18 n) i1 i2 i3 i4 i5 i6 i2 M
        )
      ) else (
        f_X11_feed_71 (f_X11_feed_18 n) i1 i2 i3 i4 i5 i6 i1 M
      )
    )
def f_X11_feed (i1 : Int32) (i2 : Int32) (i3 : Int32) (i4 : Int32) (i5 : Int32) (M : zM) : Option (Int32 × zM) :=
  if ((M.1 40 10) + (20 : Int32)) ≤ (400 : Int32) then (
    f_X11_feed_18 z_F i1 i2 i3 i4 i5 (0 : Int32) M
  ) else (
    some ((-1 : Int32), M)
  )
set_option maxHeartbeats 4000000 in
set_option maxRecDepth 100000 in
theorem w_X11_feed_71 {G : zG} {p : Program} {l : Launch} {e : Env} {s : State} {m : MethodId} {args : Array Value} {below : List Frame} {meth : Method} {c : Code} (X : z_C G p s m args meth c cX11_feed 8 RX11 (some .int)) {r : Int32 × zM} {K18 : Int32 → Int32 → Int32 → Int32 → Int32 → Int32 → zM → Option (Int32 × zM)} (hK18 : ∀ (i1 : Int32) (i2 : Int32) (i3 : Int32) (i4 : Int32) (i5 : Int32) (i6 : Int32) (M : zM) (H : Heap) (locs : List Loc) (ls : Array Slot), z_W G M H locs → lv_has ls 8 [(0, .ref (G.1 40)), (1, .int i1), (2, .int i2), (3, .int i3), (4, .int i4), (5, .int i5), (6, .int i6)] → K18 i1 i2 i3 i4 i5 i6 M = some r → W p l e (z_rm 0) s m args below meth c H locs 0 0 (z_Q G below args s (some (.int r.1)) r.2) (F0 m 18 ls [])) : ∀ (i1 : Int32) (i2 : Int32) (i3 : Int32) (i4 : Int32) (i5 : Int32) (i6 : Int32) (si0 : Int32) (M : zM) (H : Heap) (locs : List Loc) (ls : Array Slot), z_W G M H locs → lv_has ls 8 [(0, .ref (G.1 40)), (1, .int i1), (2, .int i2), (3, .int i3), (4, .int i4), (5, .int i5), (6, .int i6)] → f_X11_feed_71 K18 i1 i2 i3 i4 i5 i6 si0 M = some r → W p l e (z_rm 0) s m args below meth c H locs 0 0 (z_Q G below args s (some (.int r.1)) r.2) (F0 m 71 ls [.int si0]) := by
  have hx := X.1
  have hb := X.2.1
  intro i1 i2 i3 i4 i5 i6 si0 M H locs ls  hw hl h
  unfold f_X11_feed_71 at h
  refine lv_istore (pc := 71) (lv' := [(7, .int si0), (0, .ref (G.1 40)), (1, .int i1), (2, .int i2), (3, .int i3), (4, .int i4), (5, .int i5), (6, .int i6)]) hx hb dX11_feed_71 hl (by decide) rfl (fun ls hl => ?_)
  refine lv_aload_n (pc := 73) hx hb dX11_feed_73 rfl (lv_at hl 1 rfl) ?_
  refine zg_DrinkingRoofsModel_tape (pc := 74) X hw zw_fl_5_76 dX11_feed_74 ?_
  refine lv_aload_n (pc := 77) hx hb dX11_feed_77 rfl (lv_at hl 1 rfl) ?_
  refine zg_DrinkingRoofsModel_taped (pc := 78) X hw zw_fl_5_81 dX11_feed_78 ?_
  refine lv_iload (pc := 81) hx hb dX11_feed_81 (lv_at hl 0 rfl) ?_
  refine lv_bipush (pc := 83) (v := 24) hx hb dX11_feed_83 (by decide) ?_
  refine lv_bipush (pc := 85) (v := 8) hx hb dX11_feed_85 (by decide) ?_
  refine lv_iload (pc := 87) hx hb dX11_feed_87 (lv_at hl 7 rfl) ?_
  refine lv_iconst (pc := 89) (v := 4) hx hb dX11_feed_89 (by decide) ?_
  refine lv_irem (pc := 90) hx hb dX11_feed_90 (by decide) ?_
  refine lv_imul (pc := 91) hx hb dX11_feed_91 ?_
  refine lv_isub (pc := 92) hx hb dX11_feed_92 ?_
  refine lv_ishr (pc := 93) hx hb dX11_feed_93 ?_
  refine lv_sipush (pc := 94) (v := 255) hx hb dX11_feed_94 (by decide) ?_
  refine lv_iand (pc := 97) hx hb dX11_feed_97 ?_
  obtain ⟨g1, h⟩ := z_gd h
  refine z_iast (pc := 98) X hw zk_45 zl_45 g1 dX11_feed_98 (fun HM2 lM2 wM2 => ?_)
  obtain ⟨M2, eM2, h⟩ := z_lo h
  rw [← eM2] at wM2
  refine lv_aload_n (pc := 99) hx hb dX11_feed_99 rfl (lv_at hl 1 rfl) ?_
  refine lv_dup (pc := 100) hx hb dX11_feed_100 rfl ?_
  refine zg_DrinkingRoofsModel_taped (pc := 101) X wM2 zw_fl_5_81 dX11_feed_101 ?_
  refine lv_iconst (pc := 104) (v := 1) hx hb dX11_feed_104 (by decide) ?_
  refine lv_iadd (pc := 105) hx hb dX11_feed_105 ?_
  refine zp_DrinkingRoofsModel_taped (pc := 106) X wM2 zw_fl_5_81 dX11_feed_106 (fun HM3 lM3 wM3 => ?_)
  obtain ⟨M3, eM3, h⟩ := z_lo h
  rw [← eM3] at wM3
  obtain ⟨v4, ev4, h⟩ := z_lo h
  refine lv_iinc (pc := 109) (v := v4) (lv' := [(6, .int v4), (7, .int si0), (0, .ref (G.1 40)), (1, .int i1), (2, .int i2), (3, .int i3), (4, .int i4), (5, .int i5)]) hx hb dX11_feed_109 hl (k := 7) rfl (by rw [ev4]; rfl) (by decide) rfl (fun ls hl => ?_)
  refine lv_goto (pc := 112) (tgt := 18) hx hb dX11_feed_112 (by decide) ?_
  exact hK18 i1 i2 i3 i4 i5 v4 M3 HM3 lM3 ls  wM3 (lv_sub hl [2, 3, 4, 5, 6, 7, 0] rfl) h
set_option maxHeartbeats 4000000 in
set_option maxRecDepth 100000 in
theorem w_X11_feed_18 {G : zG} {p : Program} {l : Launch} {e : Env} {s : State} {m : MethodId} {args : Array Value} {below : List Frame} {meth : Method} {c : Code} (X : z_C G p s m args meth c cX11_feed 8 RX11 (some .int)) {r : Int32 × zM} : ∀ (n : Nat) (i1 : Int32) (i2 : Int32) (i3 : Int32) (i4 : Int32) (i5 : Int32) (i6 : Int32) (M : zM) (H : Heap) (locs : List Loc) (ls : Array Slot), z_W G M H locs → lv_has ls 8 [(0, .ref (G.1 40)), (1, .int i1), (2, .int i2), (3, .int i3), (4, .int i4), (5, .int i5), (6, .int i6)] → f_X11_feed_18 n i1 i2 i3 i4 i5 i6 M = some r → W p l e (z_rm 0) s m args below meth c H locs 0 0 (z_Q G below args s (some (.int r.1)) r.2) (F0 m 18 ls []) := by
  have hx := X.1
  have hb := X.2.1
  intro n
  induction n with
  | zero =>
    intro i1 i2 i3 i4 i5 i6 M H locs ls  hw hl h
    exact z_no h
  | succ n ih =>
    intro i1 i2 i3 i4 i5 i6 M H locs ls  hw hl h
    rw [f_X11_feed_18] at h
    refine lv_iload (pc := 18) hx hb dX11_feed_18 (lv_at hl 6 rfl) ?_
    refine lv_bipush (pc := 20) (v := 20) hx hb dX11_feed_20 (by decide) ?_
    refine lv_icmp_ge (pc := 22) (tgt := 115) hx hb dX11_feed_22 (by decide) (fun c1 => ?_) (fun c1 => ?_)
    · replace h := z_t c1 h
      refine lv_aload_n (pc := 115) hx hb dX11_feed_115 rfl (lv_at hl 0 rfl) ?_
      refine zg_DrinkingRoofsModel_taped (pc := 116) X hw zw_fl_5_81 dX11_feed_116 ?_
      obtain rfl := Option.some.inj h
      exact z_ri (pc := 119) X hw dX11_feed_119
    · replace h := z_f c1 h
      refine lv_iload (pc := 25) hx hb dX11_feed_25 (lv_at hl 6 rfl) ?_
      refine lv_iconst (pc := 27) (v := 4) hx hb dX11_feed_27 (by decide) ?_
      refine lv_icmp_ge (pc := 28) (tgt := 35) hx hb dX11_feed_28 (by decide) (fun c2 => ?_) (fun c2 => ?_)
      · replace h := z_t c2 h
        refine lv_iload (pc := 35) hx hb dX11_feed_35 (lv_at hl 6 rfl) ?_
        refine lv_bipush (pc := 37) (v := 8) hx hb dX11_feed_37 (by decide) ?_
        refine lv_icmp_ge (pc := 39) (tgt := 46) hx hb dX11_feed_39 (by decide) (fun c3 => ?_) (fun c3 => ?_)
        · replace h := z_t c3 h
          refine lv_iload (pc := 46) hx hb dX11_feed_46 (lv_at hl 6 rfl) ?_
          refine lv_bipush (pc := 48) (v := 12) hx hb dX11_feed_48 (by decide) ?_
          refine lv_icmp_ge (pc := 50) (tgt := 57) hx hb dX11_feed_50 (by decide) (fun c4 => ?_) (fun c4 => ?_)
          · replace h := z_t c4 h
            refine lv_iload (pc := 57) hx hb dX11_feed_57 (lv_at hl 6 rfl) ?_
            refine lv_bipush (pc := 59) (v := 16) hx hb dX11_feed_59 (by decide) ?_
            refine lv_icmp_ge (pc := 61) (tgt := 69) hx hb dX11_feed_61 (by decide) (fun c5 => ?_) (fun c5 => ?_)
            · replace h := z_t c5 h
              refine lv_iload (pc := 69) hx hb dX11_feed_69 (lv_at hl 5 rfl) ?_
              exact w_X11_feed_71 X ih i1 i2 i3 i4 i5 i6 i5 M H locs ls  hw (lv_sub hl [0, 1, 2, 3, 4, 5, 6] rfl) h
            · replace h := z_f c5 h
              refine lv_iload (pc := 64) hx hb dX11_feed_64 (lv_at hl 4 rfl) ?_
              refine lv_goto (pc := 66) (tgt := 71) hx hb dX11_feed_66 (by decide) ?_
              exact w_X11_feed_71 X ih i1 i2 i3 i4 i5 i6 i4 M H locs ls  hw (lv_sub hl [0, 1, 2, 3, 4, 5, 6] rfl) h
          · replace h := z_f c4 h
            refine lv_iload_n (pc := 53) hx hb dX11_feed_53 rfl (lv_at hl 3 rfl) ?_
            refine lv_goto (pc := 54) (tgt := 71) hx hb dX11_feed_54 (by decide) ?_
            exact w_X11_feed_71 X ih i1 i2 i3 i4 i5 i6 i3 M H locs ls  hw (lv_sub hl [0, 1, 2, 3, 4, 5, 6] rfl) h
        · replace h := z_f c3 h
          refine lv_iload_n (pc := 42) hx hb dX11_feed_42 rfl (lv_at hl 2 rfl) ?_
          refine lv_goto (pc := 43) (tgt := 71) hx hb dX11_feed_43 (by decide) ?_
          exact w_X11_feed_71 X ih i1 i2 i3 i4 i5 i6 i2 M H locs ls  hw (lv_sub hl [0, 1, 2, 3, 4, 5, 6] rfl) h
      · replace h := z_f c2 h
        refine lv_iload_n (pc := 31) hx hb dX11_feed_31 rfl (lv_at hl 1 rfl) ?_
        refine lv_goto (pc := 32) (tgt := 71) hx hb dX11_feed_32 (by decide) ?_
        exact w_X11_feed_71 X ih i1 i2 i3 i4 i5 i6 i1 M H locs ls  hw (lv_sub hl [0, 1, 2, 3, 4, 5, 6] rfl) h
set_option maxHeartbeats 4000000 in
set_option maxRecDepth 100000 in
theorem m_X11_feed {l : Launch} {G : zG} {i1 : Int32} {i2 : Int32} {i3 : Int32} {i4 : Int32} {i5 : Int32} {M : zM} {r : Int32 × zM} (h : f_X11_feed i1 i2 i3 i4 i5 M = some r) : z_T l G 0 yX11_feed (.code yX11_feed cX11_feed 8 (some .int)) [.ref (G.1 40), .int i1, .int i2, .int i3, .int i4, .int i5] M (some (.int r.1)) r.2 := by
  refine z_of rfl ?_
  intro p e s m below meth c X hw
  have hl := lv_entry [.ref (G.1 40), .int i1, .int i2, .int i3, .int i4, .int i5] (n := 8) (Nat.le_of_ble_eq_true rfl)
  rw [lg_entry_eq]
  generalize (lg_sl [.ref (G.1 40), .int i1, .int i2, .int i3, .int i4, .int i5] ++ List.replicate (8 - (lg_sl [.ref (G.1 40), .int i1, .int i2, .int i3, .int i4, .int i5]).length) Slot.unset).toArray = ls at hl ⊢
  have hl : lv_has ls 8 [(0, .ref (G.1 40)), (1, .int i1), (2, .int i2), (3, .int i3), (4, .int i4), (5, .int i5)] := hl
  generalize ([.ref (G.1 40), .int i1, .int i2, .int i3, .int i4, .int i5] : List Value).toArray = args at X ⊢
  have X : z_C G p s m args meth c cX11_feed 8 RX11 (some .int) := X
  have hx := X.1
  have hb := X.2.1
  unfold f_X11_feed at h
  refine lv_aload_n (pc := 0) hx hb dX11_feed_0 rfl (lv_at hl 0 rfl) ?_
  refine zg_DrinkingRoofsModel_taped (pc := 1) X hw zw_fl_5_81 dX11_feed_1 ?_
  refine lv_bipush (pc := 4) (v := 20) hx hb dX11_feed_4 (by decide) ?_
  refine lv_iadd (pc := 6) hx hb dX11_feed_6 ?_
  refine lv_sipush (pc := 7) (v := 400) hx hb dX11_feed_7 (by decide) ?_
  refine lv_icmp_le (pc := 10) (tgt := 15) hx hb dX11_feed_10 (by decide) (fun c1 => ?_) (fun c1 => ?_)
  · replace h := z_t c1 h
    refine lv_iconst (pc := 15) (v := 0) hx hb dX11_feed_15 (by decide) ?_
    refine lv_istore (pc := 16) (lv' := [(6, .int (0 : Int32)), (0, .ref (G.1 40)), (1, .int i1), (2, .int i2), (3, .int i3), (4, .int i4), (5, .int i5)]) hx hb dX11_feed_16 hl (by decide) rfl (fun ls hl => ?_)
    exact w_X11_feed_18 X z_F i1 i2 i3 i4 i5 (0 : Int32) M s.heap [] ls  hw (lv_sub hl [1, 2, 3, 4, 5, 6, 0] rfl) h
  · replace h := z_f c1 h
    refine lv_iconst (pc := 13) (v := -1) hx hb dX11_feed_13 (by decide) ?_
    obtain rfl := Option.some.inj h
    exact z_ri (pc := 14) X hw dX11_feed_14
def f_X11_end (i1 : Int32) (M : zM) : Option (Int32 × zM) :=
  (f_X11_isIn i1 (0 : Int32) (M.1 40 10) M).bind fun x1 =>
  if x1.1 = 0 then (
    some ((0 : Int32), x1.2)
  ) else (
    z_l (z_w x1.2 40 10 i1) fun M3 =>
    some ((1 : Int32), M3)
  )
set_option maxHeartbeats 4000000 in
set_option maxRecDepth 100000 in
theorem m_X11_end {l : Launch} {G : zG} {i1 : Int32} {M : zM} {r : Int32 × zM} (h : f_X11_end i1 M = some r) : z_T l G 1 yX11_end (.code yX11_end cX11_end 2 (some .boolean)) [.ref (G.1 40), .int i1] M (some (.int r.1)) r.2 := by
  refine z_of rfl ?_
  intro p e s m below meth c X hw
  have hl := lv_entry [.ref (G.1 40), .int i1] (n := 2) (Nat.le_of_ble_eq_true rfl)
  rw [lg_entry_eq]
  generalize (lg_sl [.ref (G.1 40), .int i1] ++ List.replicate (2 - (lg_sl [.ref (G.1 40), .int i1]).length) Slot.unset).toArray = ls at hl ⊢
  have hl : lv_has ls 2 [(0, .ref (G.1 40)), (1, .int i1)] := hl
  generalize ([.ref (G.1 40), .int i1] : List Value).toArray = args at X ⊢
  have X : z_C G p s m args meth c cX11_end 2 RX11 (some .boolean) := X
  have hx := X.1
  have hb := X.2.1
  unfold f_X11_end at h
  refine lv_iload_n (pc := 0) hx hb dX11_end_0 rfl (lv_at hl 1 rfl) ?_
  refine lv_iconst (pc := 1) (v := 0) hx hb dX11_end_1 (by decide) ?_
  refine lv_aload_n (pc := 2) hx hb dX11_end_2 rfl (lv_at hl 0 rfl) ?_
  refine zg_DrinkingRoofsModel_taped (pc := 3) X hw zw_fl_5_81 dX11_end_3 ?_
  obtain ⟨x1, ex1, h⟩ := z_bd h
  refine z_csI (pc := 6) (rest := []) X hw (m_X11_isIn  ex1) zw_ml_5_209 zw_st_5_210 zw_in_1_12 zw_co_5_211 zd_X11_isIn (by decide) rfl hl.1 rfl (Nat.le_of_ble_eq_true rfl) dX11_end_6 ⟨Nat.zero_le _, Nat.zero_le _⟩ (fun Hx1 lx1 wx1 => ?_)
  refine lv_if_ne (pc := 9) (tgt := 14) hx hb dX11_end_9 (by decide) (fun c2 => ?_) (fun c2 => ?_)
  · replace h := z_f c2 h
    refine lv_aload_n (pc := 14) hx hb dX11_end_14 rfl (lv_at hl 0 rfl) ?_
    refine lv_iload_n (pc := 15) hx hb dX11_end_15 rfl (lv_at hl 1 rfl) ?_
    refine zp_DrinkingRoofsModel_taped (pc := 16) X wx1 zw_fl_5_81 dX11_end_16 (fun HM3 lM3 wM3 => ?_)
    obtain ⟨M3, eM3, h⟩ := z_lo h
    rw [← eM3] at wM3
    refine lv_iconst (pc := 19) (v := 1) hx hb dX11_end_19 (by decide) ?_
    obtain rfl := Option.some.inj h
    exact z_rz (pc := 20) X wM3 (z_nb (x := 1) (by decide)) dX11_end_20
  · replace h := z_t c2 h
    refine lv_iconst (pc := 12) (v := 0) hx hb dX11_end_12 (by decide) ?_
    obtain rfl := Option.some.inj h
    exact z_rz (pc := 13) X wx1 (z_nb (x := 0) (by decide)) dX11_end_13
def f_X11_see (i1 : Int32) (M : zM) : Option (Int32 × zM) :=
  if (M.1 40 10) ≤ i1 then (
    some ((-1 : Int32), M)
  ) else (
    z_g (z_ix i1 400) <|
    some ((M.1 45 (Int32.toNatClampNeg i1)), M)
  )
set_option maxHeartbeats 4000000 in
set_option maxRecDepth 100000 in
theorem m_X11_see {l : Launch} {G : zG} {i1 : Int32} {M : zM} {r : Int32 × zM} (h : f_X11_see i1 M = some r) : z_T l G 0 yX11_see (.code yX11_see cX11_see 2 (some .int)) [.ref (G.1 40), .int i1] M (some (.int r.1)) r.2 := by
  refine z_of rfl ?_
  intro p e s m below meth c X hw
  have hl := lv_entry [.ref (G.1 40), .int i1] (n := 2) (Nat.le_of_ble_eq_true rfl)
  rw [lg_entry_eq]
  generalize (lg_sl [.ref (G.1 40), .int i1] ++ List.replicate (2 - (lg_sl [.ref (G.1 40), .int i1]).length) Slot.unset).toArray = ls at hl ⊢
  have hl : lv_has ls 2 [(0, .ref (G.1 40)), (1, .int i1)] := hl
  generalize ([.ref (G.1 40), .int i1] : List Value).toArray = args at X ⊢
  have X : z_C G p s m args meth c cX11_see 2 RX11 (some .int) := X
  have hx := X.1
  have hb := X.2.1
  unfold f_X11_see at h
  refine lv_iload_n (pc := 0) hx hb dX11_see_0 rfl (lv_at hl 1 rfl) ?_
  refine lv_aload_n (pc := 1) hx hb dX11_see_1 rfl (lv_at hl 0 rfl) ?_
  refine zg_DrinkingRoofsModel_taped (pc := 2) X hw zw_fl_5_81 dX11_see_2 ?_
  refine lv_icmp_ge (pc := 5) (tgt := 17) hx hb dX11_see_5 (by decide) (fun c1 => ?_) (fun c1 => ?_)
  · replace h := z_t c1 h
    refine lv_iconst (pc := 17) (v := -1) hx hb dX11_see_17 (by decide) ?_
    obtain rfl := Option.some.inj h
    exact z_ri (pc := 18) X hw dX11_see_18
  · replace h := z_f c1 h
    refine lv_aload_n (pc := 8) hx hb dX11_see_8 rfl (lv_at hl 0 rfl) ?_
    refine zg_DrinkingRoofsModel_tape (pc := 9) X hw zw_fl_5_76 dX11_see_9 ?_
    refine lv_iload_n (pc := 12) hx hb dX11_see_12 rfl (lv_at hl 1 rfl) ?_
    obtain ⟨g2, h⟩ := z_gd h
    refine z_iald (pc := 13) X hw zk_45 zl_45 g2 dX11_see_13 ?_
    refine lv_goto (pc := 14) (tgt := 18) hx hb dX11_see_14 (by decide) ?_
    obtain rfl := Option.some.inj h
    exact z_ri (pc := 18) X hw dX11_see_18
def f_X11_isLetter (i0 : Int32) (M : zM) : Option (Int32 × zM) :=
  (f_X11_isIn i0 (97 : Int32) (122 : Int32) M).bind fun x1 =>
  if x1.1 = 0 then (
    (f_X11_isIn i0 (65 : Int32) (90 : Int32) x1.2).bind fun x3 =>
    if x3.1 = 0 then (
      some ((0 : Int32), x3.2)
    ) else (
      some ((1 : Int32), x3.2)
    )
  ) else (
    some ((1 : Int32), x1.2)
  )
set_option maxHeartbeats 4000000 in
set_option maxRecDepth 100000 in
theorem m_X11_isLetter {l : Launch} {G : zG} {i0 : Int32} {M : zM} {r : Int32 × zM} (h : f_X11_isLetter i0 M = some r) : z_T l G 1 yX11_isLetter (.code yX11_isLetter cX11_isLetter 1 (some .boolean)) [.int i0] M (some (.int r.1)) r.2 := by
  refine z_of rfl ?_
  intro p e s m below meth c X hw
  have hl := lv_entry [.int i0] (n := 1) (Nat.le_of_ble_eq_true rfl)
  rw [lg_entry_eq]
  generalize (lg_sl [.int i0] ++ List.replicate (1 - (lg_sl [.int i0]).length) Slot.unset).toArray = ls at hl ⊢
  have hl : lv_has ls 1 [(0, .int i0)] := hl
  generalize ([.int i0] : List Value).toArray = args at X ⊢
  have X : z_C G p s m args meth c cX11_isLetter 1 RX11 (some .boolean) := X
  have hx := X.1
  have hb := X.2.1
  unfold f_X11_isLetter at h
  refine lv_iload_n (pc := 0) hx hb dX11_isLetter_0 rfl (lv_at hl 0 rfl) ?_
  refine lv_bipush (pc := 1) (v := 97) hx hb dX11_isLetter_1 (by decide) ?_
  refine lv_bipush (pc := 3) (v := 122) hx hb dX11_isLetter_3 (by decide) ?_
  obtain ⟨x1, ex1, h⟩ := z_bd h
  refine z_csI (pc := 5) (rest := []) X hw (m_X11_isIn  ex1) zw_ml_5_209 zw_st_5_210 zw_in_1_12 zw_co_5_211 zd_X11_isIn (by decide) rfl hl.1 rfl (Nat.le_of_ble_eq_true rfl) dX11_isLetter_5 ⟨Nat.zero_le _, Nat.zero_le _⟩ (fun Hx1 lx1 wx1 => ?_)
  refine lv_if_ne (pc := 8) (tgt := 22) hx hb dX11_isLetter_8 (by decide) (fun c2 => ?_) (fun c2 => ?_)
  · replace h := z_f c2 h
    refine lv_iconst (pc := 22) (v := 1) hx hb dX11_isLetter_22 (by decide) ?_
    refine lv_goto (pc := 23) (tgt := 27) hx hb dX11_isLetter_23 (by decide) ?_
    obtain rfl := Option.some.inj h
    exact z_rz (pc := 27) X wx1 (z_nb (x := 1) (by decide)) dX11_isLetter_27
  · replace h := z_t c2 h
    refine lv_iload_n (pc := 11) hx hb dX11_isLetter_11 rfl (lv_at hl 0 rfl) ?_
    refine lv_bipush (pc := 12) (v := 65) hx hb dX11_isLetter_12 (by decide) ?_
    refine lv_bipush (pc := 14) (v := 90) hx hb dX11_isLetter_14 (by decide) ?_
    obtain ⟨x3, ex3, h⟩ := z_bd h
    refine z_csI (pc := 16) (rest := []) X wx1 (m_X11_isIn  ex3) zw_ml_5_209 zw_st_5_210 zw_in_1_12 zw_co_5_211 zd_X11_isIn (by decide) rfl hl.1 rfl (Nat.le_of_ble_eq_true rfl) dX11_isLetter_16 ⟨Nat.zero_le _, Nat.zero_le _⟩ (fun Hx3 lx3 wx3 => ?_)
    refine lv_if_eq (pc := 19) (tgt := 26) hx hb dX11_isLetter_19 (by decide) (fun c4 => ?_) (fun c4 => ?_)
    · replace h := z_t c4 h
      refine lv_iconst (pc := 26) (v := 0) hx hb dX11_isLetter_26 (by decide) ?_
      obtain rfl := Option.some.inj h
      exact z_rz (pc := 27) X wx3 (z_nb (x := 0) (by decide)) dX11_isLetter_27
    · replace h := z_f c4 h
      refine lv_iconst (pc := 22) (v := 1) hx hb dX11_isLetter_22 (by decide) ?_
      refine lv_goto (pc := 23) (tgt := 27) hx hb dX11_isLetter_23 (by decide) ?_
      obtain rfl := Option.some.inj h
      exact z_rz (pc := 27) X wx3 (z_nb (x := 1) (by decide)) dX11_isLetter_27
def f_X11_isDigit (i0 : Int32) (M : zM) : Option (Int32 × zM) :=
  (f_X11_isIn i0 (48 : Int32) (57 : Int32) M).bind fun x1 =>
  z_g (vp_nar .boolean x1.1 = x1.1) <|
  some (x1.1, x1.2)
set_option maxHeartbeats 4000000 in
set_option maxRecDepth 100000 in
theorem m_X11_isDigit {l : Launch} {G : zG} {i0 : Int32} {M : zM} {r : Int32 × zM} (h : f_X11_isDigit i0 M = some r) : z_T l G 1 yX11_isDigit (.code yX11_isDigit cX11_isDigit 1 (some .boolean)) [.int i0] M (some (.int r.1)) r.2 := by
  refine z_of rfl ?_
  intro p e s m below meth c X hw
  have hl := lv_entry [.int i0] (n := 1) (Nat.le_of_ble_eq_true rfl)
  rw [lg_entry_eq]
  generalize (lg_sl [.int i0] ++ List.replicate (1 - (lg_sl [.int i0]).length) Slot.unset).toArray = ls at hl ⊢
  have hl : lv_has ls 1 [(0, .int i0)] := hl
  generalize ([.int i0] : List Value).toArray = args at X ⊢
  have X : z_C G p s m args meth c cX11_isDigit 1 RX11 (some .boolean) := X
  have hx := X.1
  have hb := X.2.1
  unfold f_X11_isDigit at h
  refine lv_iload_n (pc := 0) hx hb dX11_isDigit_0 rfl (lv_at hl 0 rfl) ?_
  refine lv_bipush (pc := 1) (v := 48) hx hb dX11_isDigit_1 (by decide) ?_
  refine lv_bipush (pc := 3) (v := 57) hx hb dX11_isDigit_3 (by decide) ?_
  obtain ⟨x1, ex1, h⟩ := z_bd h
  refine z_csI (pc := 5) (rest := []) X hw (m_X11_isIn  ex1) zw_ml_5_209 zw_st_5_210 zw_in_1_12 zw_co_5_211 zd_X11_isIn (by decide) rfl hl.1 rfl (Nat.le_of_ble_eq_true rfl) dX11_isDigit_5 ⟨Nat.zero_le _, Nat.zero_le _⟩ (fun Hx1 lx1 wx1 => ?_)
  obtain ⟨g2, h⟩ := z_gd h
  obtain rfl := Option.some.inj h
  exact z_rz (pc := 8) X wx1 (z_nb g2) dX11_isDigit_8
def f_X11_is_24 : Nat → Nat → Int32 → Int32 → zM → Option (Int32 × zM)
  | 0, _, _, _, _ => none
  | n + 1, t1, i2, i3, M =>
    (f_J0_length_8abf5 t1 M).bind fun x1 =>
    if x1.1 ≤ i3 then (
      z_g (vp_nar .boolean i2 = i2) <|
      some (i2, x1.2)
    ) else (
      if i2 = 0 then (
        z_g (vp_nar .boolean i2 = i2) <|
        some (i2, x1.2)
      ) else (
        z_g (z_ix ((x1.2.1 40 13) + i3) 400) <|
        (f_J0_charAt_5068e t1 i3 x1.2).bind fun x7 =>
        if (x1.2.1 45 (Int32.toNatClampNeg ((x1.2.1 40 13) + i3))) = x7.1 then (
          z_l (i3 + (1 : Int32)) fun v10 =>
          f_X11_is_24 n t1 (1 : Int32) v10 x7.2
        ) else (
          z_l (i3 + (1 : Int32)) fun v9 =>
          f_X11_is_24 n t1 (0 : Int32) v9 x7.2
        )
      )
    )
def f_X11_is (t1 : Nat) (M : zM) : Option (Int32 × zM) :=
  (f_J0_length_8abf5 t1 M).bind fun x1 =>
  if ((M.1 40 11) - (M.1 40 13)) = x1.1 then (
    f_X11_is_24 z_F t1 (1 : Int32) (0 : Int32) x1.2
  ) else (
    f_X11_is_24 z_F t1 (0 : Int32) (0 : Int32) x1.2
  )
set_option maxHeartbeats 4000000 in
set_option maxRecDepth 100000 in
theorem w_X11_is_24 {G : zG} {p : Program} {l : Launch} {e : Env} {s : State} {m : MethodId} {args : Array Value} {below : List Frame} {meth : Method} {c : Code} (X : z_C G p s m args meth c cX11_is 4 RX11 (some .boolean)) {r : Int32 × zM} : ∀ (n : Nat) (t1 : Nat) (i2 : Int32) (i3 : Int32) (M : zM) (H : Heap) (locs : List Loc) (ls : Array Slot), t1 < 15 → z_W G M H locs → lv_has ls 4 [(0, .ref (G.1 40)), (1, .ref (z_ka G t1)), (2, .int i2), (3, .int i3)] → f_X11_is_24 n t1 i2 i3 M = some r → W p l e (z_rm 4) s m args below meth c H locs 0 0 (z_Q G below args s (some (.int r.1)) r.2) (F0 m 24 ls []) := by
  have hx := X.1
  have hb := X.2.1
  intro n
  induction n with
  | zero =>
    intro t1 i2 i3 M H locs ls ht1 hw hl h
    exact z_no h
  | succ n ih =>
    intro t1 i2 i3 M H locs ls ht1 hw hl h
    rw [f_X11_is_24] at h
    refine lv_iload_n (pc := 24) hx hb dX11_is_24 rfl (lv_at hl 3 rfl) ?_
    refine lv_aload_n (pc := 25) hx hb dX11_is_25 rfl (lv_at hl 1 rfl) ?_
    obtain ⟨x1, ex1, h⟩ := z_bd h
    refine z_cvSI (pc := 26) (rest := [.int i3]) X hw (m_J0_length_8abf5 ht1 ex1) ht1 zw_ml_6_36 zw_im_3_66 zw_se_3_67 zw_in_1_13 zw_co_3_68 zd_J0_length_8abf5 (by decide) rfl hl.1 rfl (Nat.le_of_ble_eq_true rfl) dX11_is_26 ⟨Nat.zero_le _, Nat.zero_le _⟩ (fun Hx1 lx1 wx1 => ?_)
    refine lv_icmp_ge (pc := 29) (tgt := 67) hx hb dX11_is_29 (by decide) (fun c2 => ?_) (fun c2 => ?_)
    · replace h := z_t c2 h
      refine lv_iload_n (pc := 67) hx hb dX11_is_67 rfl (lv_at hl 2 rfl) ?_
      obtain ⟨g3, h⟩ := z_gd h
      obtain rfl := Option.some.inj h
      exact z_rz (pc := 68) X wx1 (z_nb g3) dX11_is_68
    · replace h := z_f c2 h
      refine lv_iload_n (pc := 32) hx hb dX11_is_32 rfl (lv_at hl 2 rfl) ?_
      refine lv_if_eq (pc := 33) (tgt := 67) hx hb dX11_is_33 (by decide) (fun c4 => ?_) (fun c4 => ?_)
      · replace h := z_t c4 h
        refine lv_iload_n (pc := 67) hx hb dX11_is_67 rfl (lv_at hl 2 rfl) ?_
        obtain ⟨g5, h⟩ := z_gd h
        obtain rfl := Option.some.inj h
        exact z_rz (pc := 68) X wx1 (z_nb g5) dX11_is_68
      · replace h := z_f c4 h
        refine lv_aload_n (pc := 36) hx hb dX11_is_36 rfl (lv_at hl 0 rfl) ?_
        refine zg_DrinkingRoofsModel_tape (pc := 37) X wx1 zw_fl_5_76 dX11_is_37 ?_
        refine lv_aload_n (pc := 40) hx hb dX11_is_40 rfl (lv_at hl 0 rfl) ?_
        refine zg_DrinkingRoofsModel_tokenAt (pc := 41) X wx1 zw_fl_5_84 dX11_is_41 ?_
        refine lv_iload_n (pc := 44) hx hb dX11_is_44 rfl (lv_at hl 3 rfl) ?_
        refine lv_iadd (pc := 45) hx hb dX11_is_45 ?_
        obtain ⟨g6, h⟩ := z_gd h
        refine z_iald (pc := 46) X wx1 zk_45 zl_45 g6 dX11_is_46 ?_
        refine lv_aload_n (pc := 47) hx hb dX11_is_47 rfl (lv_at hl 1 rfl) ?_
        refine lv_iload_n (pc := 48) hx hb dX11_is_48 rfl (lv_at hl 3 rfl) ?_
        obtain ⟨x7, ex7, h⟩ := z_bd h
        refine z_cvSI (pc := 49) (rest := [.int (x1.2.1 45 (Int32.toNatClampNeg ((x1.2.1 40 13) + i3)))]) X wx1 (m_J0_charAt_5068e ht1 ex7) ht1 zw_ml_6_37 zw_im_3_80 zw_se_3_81 zw_in_1_13 zw_co_3_82 zd_J0_charAt_5068e (by decide) rfl hl.1 rfl (Nat.le_of_ble_eq_true rfl) dX11_is_49 ⟨Nat.zero_le _, Nat.zero_le _⟩ (fun Hx7 lx7 wx7 => ?_)
        refine lv_icmp_ne (pc := 52) (tgt := 59) hx hb dX11_is_52 (by decide) (fun c8 => ?_) (fun c8 => ?_)
        · replace h := z_f c8 h
          refine lv_iconst (pc := 59) (v := 0) hx hb dX11_is_59 (by decide) ?_
          refine lv_istore_n (pc := 60) (lv' := [(2, .int (0 : Int32)), (0, .ref (G.1 40)), (1, .ref (z_ka G t1)), (3, .int i3)]) hx hb dX11_is_60 rfl hl (by decide) rfl (fun ls hl => ?_)
          obtain ⟨v9, ev9, h⟩ := z_lo h
          refine lv_iinc (pc := 61) (v := v9) (lv' := [(3, .int v9), (2, .int (0 : Int32)), (0, .ref (G.1 40)), (1, .ref (z_ka G t1))]) hx hb dX11_is_61 hl (k := 3) rfl (by rw [ev9]; rfl) (by decide) rfl (fun ls hl => ?_)
          refine lv_goto (pc := 64) (tgt := 24) hx hb dX11_is_64 (by decide) ?_
          exact ih t1 (0 : Int32) v9 x7.2 Hx7 lx7 ls ht1 wx7 (lv_sub hl [2, 3, 1, 0] rfl) h
        · replace h := z_t c8 h
          refine lv_iconst (pc := 55) (v := 1) hx hb dX11_is_55 (by decide) ?_
          refine lv_goto (pc := 56) (tgt := 60) hx hb dX11_is_56 (by decide) ?_
          refine lv_istore_n (pc := 60) (lv' := [(2, .int (1 : Int32)), (0, .ref (G.1 40)), (1, .ref (z_ka G t1)), (3, .int i3)]) hx hb dX11_is_60 rfl hl (by decide) rfl (fun ls hl => ?_)
          obtain ⟨v10, ev10, h⟩ := z_lo h
          refine lv_iinc (pc := 61) (v := v10) (lv' := [(3, .int v10), (2, .int (1 : Int32)), (0, .ref (G.1 40)), (1, .ref (z_ka G t1))]) hx hb dX11_is_61 hl (k := 3) rfl (by rw [ev10]; rfl) (by decide) rfl (fun ls hl => ?_)
          refine lv_goto (pc := 64) (tgt := 24) hx hb dX11_is_64 (by decide) ?_
          exact ih t1 (1 : Int32) v10 x7.2 Hx7 lx7 ls ht1 wx7 (lv_sub hl [2, 3, 1, 0] rfl) h
set_option maxHeartbeats 4000000 in
set_option maxRecDepth 100000 in
theorem m_X11_is {l : Launch} {G : zG} {t1 : Nat} {M : zM} {r : Int32 × zM} (ht1 : t1 < 15) (h : f_X11_is t1 M = some r) : z_T l G 4 yX11_is (.code yX11_is cX11_is 4 (some .boolean)) [.ref (G.1 40), .ref (z_ka G t1)] M (some (.int r.1)) r.2 := by
  refine z_of rfl ?_
  intro p e s m below meth c X hw
  have hl := lv_entry [.ref (G.1 40), .ref (z_ka G t1)] (n := 4) (Nat.le_of_ble_eq_true rfl)
  rw [lg_entry_eq]
  generalize (lg_sl [.ref (G.1 40), .ref (z_ka G t1)] ++ List.replicate (4 - (lg_sl [.ref (G.1 40), .ref (z_ka G t1)]).length) Slot.unset).toArray = ls at hl ⊢
  have hl : lv_has ls 4 [(0, .ref (G.1 40)), (1, .ref (z_ka G t1))] := hl
  generalize ([.ref (G.1 40), .ref (z_ka G t1)] : List Value).toArray = args at X ⊢
  have X : z_C G p s m args meth c cX11_is 4 RX11 (some .boolean) := X
  have hx := X.1
  have hb := X.2.1
  unfold f_X11_is at h
  refine lv_aload_n (pc := 0) hx hb dX11_is_0 rfl (lv_at hl 0 rfl) ?_
  refine zg_DrinkingRoofsModel_at (pc := 1) X hw zw_fl_5_82 dX11_is_1 ?_
  refine lv_aload_n (pc := 4) hx hb dX11_is_4 rfl (lv_at hl 0 rfl) ?_
  refine zg_DrinkingRoofsModel_tokenAt (pc := 5) X hw zw_fl_5_84 dX11_is_5 ?_
  refine lv_isub (pc := 8) hx hb dX11_is_8 ?_
  refine lv_aload_n (pc := 9) hx hb dX11_is_9 rfl (lv_at hl 1 rfl) ?_
  obtain ⟨x1, ex1, h⟩ := z_bd h
  refine z_cvSI (pc := 10) (rest := [.int ((M.1 40 11) - (M.1 40 13))]) X hw (m_J0_length_8abf5 ht1 ex1) ht1 zw_ml_6_36 zw_im_3_66 zw_se_3_67 zw_in_1_13 zw_co_3_68 zd_J0_length_8abf5 (by decide) rfl hl.1 rfl (Nat.le_of_ble_eq_true rfl) dX11_is_10 ⟨Nat.zero_le _, Nat.zero_le _⟩ (fun Hx1 lx1 wx1 => ?_)
  refine lv_icmp_ne (pc := 13) (tgt := 20) hx hb dX11_is_13 (by decide) (fun c2 => ?_) (fun c2 => ?_)
  · replace h := z_f c2 h
    refine lv_iconst (pc := 20) (v := 0) hx hb dX11_is_20 (by decide) ?_
    refine lv_istore_n (pc := 21) (lv' := [(2, .int (0 : Int32)), (0, .ref (G.1 40)), (1, .ref (z_ka G t1))]) hx hb dX11_is_21 rfl hl (by decide) rfl (fun ls hl => ?_)
    refine lv_iconst (pc := 22) (v := 0) hx hb dX11_is_22 (by decide) ?_
    refine lv_istore_n (pc := 23) (lv' := [(3, .int (0 : Int32)), (2, .int (0 : Int32)), (0, .ref (G.1 40)), (1, .ref (z_ka G t1))]) hx hb dX11_is_23 rfl hl (by decide) rfl (fun ls hl => ?_)
    exact w_X11_is_24 X z_F t1 (0 : Int32) (0 : Int32) x1.2 Hx1 lx1 ls ht1 wx1 (lv_sub hl [2, 3, 1, 0] rfl) h
  · replace h := z_t c2 h
    refine lv_iconst (pc := 16) (v := 1) hx hb dX11_is_16 (by decide) ?_
    refine lv_goto (pc := 17) (tgt := 21) hx hb dX11_is_17 (by decide) ?_
    refine lv_istore_n (pc := 21) (lv' := [(2, .int (1 : Int32)), (0, .ref (G.1 40)), (1, .ref (z_ka G t1))]) hx hb dX11_is_21 rfl hl (by decide) rfl (fun ls hl => ?_)
    refine lv_iconst (pc := 22) (v := 0) hx hb dX11_is_22 (by decide) ?_
    refine lv_istore_n (pc := 23) (lv' := [(3, .int (0 : Int32)), (2, .int (1 : Int32)), (0, .ref (G.1 40)), (1, .ref (z_ka G t1))]) hx hb dX11_is_23 rfl hl (by decide) rfl (fun ls hl => ?_)
    exact w_X11_is_24 X z_F t1 (1 : Int32) (0 : Int32) x1.2 Hx1 lx1 ls ht1 wx1 (lv_sub hl [2, 3, 1, 0] rfl) h
def f_X11_nameWord  (M : zM) : Option (Int32 × zM) :=
  (f_X11_is 7 M).bind fun x1 =>
  if x1.1 = 0 then (
    (f_X11_is 8 x1.2).bind fun x3 =>
    if x3.1 = 0 then (
      (f_X11_is 9 x3.2).bind fun x5 =>
      if x5.1 = 0 then (
        (f_X11_is 10 x5.2).bind fun x7 =>
        if x7.1 = 0 then (
          (f_X11_is 11 x7.2).bind fun x9 =>
          if x9.1 = 0 then (
            (f_X11_is 12 x9.2).bind fun x11 =>
            if x11.1 = 0 then (
              (f_X11_is 13 x11.2).bind fun x13 =>
              if x13.1 = 0 then (
                (f_X11_is 14 x13.2).bind fun x15 =>
                if x15.1 = 0 then (
                  some ((1 : Int32), x15.2)
                ) else (
                  some ((48 : Int32), x15.2)
                )
              ) else (
                some ((47 : Int32), x13.2)
              )
            ) else (
              some ((46 : Int32), x11.2)
            )
          ) else (
            some ((45 : Int32), x9.2)
          )
        ) else (
          some ((44 : Int32), x7.2)
        )
      ) else (
        some ((43 : Int32), x5.2)
      )
    ) else (
      some ((42 : Int32), x3.2)
    )
  ) else (
    some ((41 : Int32), x1.2)
  )
set_option maxHeartbeats 4000000 in
set_option maxRecDepth 100000 in
theorem m_X11_nameWord {l : Launch} {G : zG} {M : zM} {r : Int32 × zM} (h : f_X11_nameWord  M = some r) : z_T l G 5 yX11_nameWord (.code yX11_nameWord cX11_nameWord 1 (some .int)) [.ref (G.1 40)] M (some (.int r.1)) r.2 := by
  refine z_of rfl ?_
  intro p e s m below meth c X hw
  have hl := lv_entry [.ref (G.1 40)] (n := 1) (Nat.le_of_ble_eq_true rfl)
  rw [lg_entry_eq]
  generalize (lg_sl [.ref (G.1 40)] ++ List.replicate (1 - (lg_sl [.ref (G.1 40)]).length) Slot.unset).toArray = ls at hl ⊢
  have hl : lv_has ls 1 [(0, .ref (G.1 40))] := hl
  generalize ([.ref (G.1 40)] : List Value).toArray = args at X ⊢
  have X : z_C G p s m args meth c cX11_nameWord 1 RX11 (some .int) := X
  have hx := X.1
  have hb := X.2.1
  unfold f_X11_nameWord at h
  refine lv_aload_n (pc := 0) hx hb dX11_nameWord_0 rfl (lv_at hl 0 rfl) ?_
  refine z_ldcS (pc := 1) X 7 (by decide) ⟨rfl, rfl⟩ dX11_nameWord_1 ?_
  obtain ⟨x1, ex1, h⟩ := z_bd h
  refine z_cvI (pc := 3) (rest := []) X hw (m_X11_is (by decide) ex1) (z_lt zk_40 (by decide)) (z_E11 zk_40) rfl zw_ml_6_32 zw_im_6_34 zw_se_S_42 zw_in_1_12 zw_co_6_35 zd_X11_is (by decide) rfl hl.1 rfl (Nat.le_of_ble_eq_true rfl) dX11_nameWord_3 ⟨Nat.zero_le _, Nat.zero_le _⟩ (fun Hx1 lx1 wx1 => ?_)
  refine lv_if_eq (pc := 6) (tgt := 12) hx hb dX11_nameWord_6 (by decide) (fun c2 => ?_) (fun c2 => ?_)
  · replace h := z_t c2 h
    refine lv_aload_n (pc := 12) hx hb dX11_nameWord_12 rfl (lv_at hl 0 rfl) ?_
    refine z_ldcS (pc := 13) X 8 (by decide) ⟨rfl, rfl⟩ dX11_nameWord_13 ?_
    obtain ⟨x3, ex3, h⟩ := z_bd h
    refine z_cvI (pc := 15) (rest := []) X wx1 (m_X11_is (by decide) ex3) (z_lt zk_40 (by decide)) (z_E11 zk_40) rfl zw_ml_6_32 zw_im_6_34 zw_se_S_42 zw_in_1_12 zw_co_6_35 zd_X11_is (by decide) rfl hl.1 rfl (Nat.le_of_ble_eq_true rfl) dX11_nameWord_15 ⟨Nat.zero_le _, Nat.zero_le _⟩ (fun Hx3 lx3 wx3 => ?_)
    refine lv_if_eq (pc := 18) (tgt := 24) hx hb dX11_nameWord_18 (by decide) (fun c4 => ?_) (fun c4 => ?_)
    · replace h := z_t c4 h
      refine lv_aload_n (pc := 24) hx hb dX11_nameWord_24 rfl (lv_at hl 0 rfl) ?_
      refine z_ldcS (pc := 25) X 9 (by decide) ⟨rfl, rfl⟩ dX11_nameWord_25 ?_
      obtain ⟨x5, ex5, h⟩ := z_bd h
      refine z_cvI (pc := 27) (rest := []) X wx3 (m_X11_is (by decide) ex5) (z_lt zk_40 (by decide)) (z_E11 zk_40) rfl zw_ml_6_32 zw_im_6_34 zw_se_S_42 zw_in_1_12 zw_co_6_35 zd_X11_is (by decide) rfl hl.1 rfl (Nat.le_of_ble_eq_true rfl) dX11_nameWord_27 ⟨Nat.zero_le _, Nat.zero_le _⟩ (fun Hx5 lx5 wx5 => ?_)
      refine lv_if_eq (pc := 30) (tgt := 36) hx hb dX11_nameWord_30 (by decide) (fun c6 => ?_) (fun c6 => ?_)
      · replace h := z_t c6 h
        refine lv_aload_n (pc := 36) hx hb dX11_nameWord_36 rfl (lv_at hl 0 rfl) ?_
        refine z_ldcS (pc := 37) X 10 (by decide) ⟨rfl, rfl⟩ dX11_nameWord_37 ?_
        obtain ⟨x7, ex7, h⟩ := z_bd h
        refine z_cvI (pc := 39) (rest := []) X wx5 (m_X11_is (by decide) ex7) (z_lt zk_40 (by decide)) (z_E11 zk_40) rfl zw_ml_6_32 zw_im_6_34 zw_se_S_42 zw_in_1_12 zw_co_6_35 zd_X11_is (by decide) rfl hl.1 rfl (Nat.le_of_ble_eq_true rfl) dX11_nameWord_39 ⟨Nat.zero_le _, Nat.zero_le _⟩ (fun Hx7 lx7 wx7 => ?_)
        refine lv_if_eq (pc := 42) (tgt := 48) hx hb dX11_nameWord_42 (by decide) (fun c8 => ?_) (fun c8 => ?_)
        · replace h := z_t c8 h
          refine lv_aload_n (pc := 48) hx hb dX11_nameWord_48 rfl (lv_at hl 0 rfl) ?_
          refine z_ldcS (pc := 49) X 11 (by decide) ⟨rfl, rfl⟩ dX11_nameWord_49 ?_
          obtain ⟨x9, ex9, h⟩ := z_bd h
          refine z_cvI (pc := 51) (rest := []) X wx7 (m_X11_is (by decide) ex9) (z_lt zk_40 (by decide)) (z_E11 zk_40) rfl zw_ml_6_32 zw_im_6_34 zw_se_S_42 zw_in_1_12 zw_co_6_35 zd_X11_is (by decide) rfl hl.1 rfl (Nat.le_of_ble_eq_true rfl) dX11_nameWord_51 ⟨Nat.zero_le _, Nat.zero_le _⟩ (fun Hx9 lx9 wx9 => ?_)
          refine lv_if_eq (pc := 54) (tgt := 60) hx hb dX11_nameWord_54 (by decide) (fun c10 => ?_) (fun c10 => ?_)
          · replace h := z_t c10 h
            refine lv_aload_n (pc := 60) hx hb dX11_nameWord_60 rfl (lv_at hl 0 rfl) ?_
            refine z_ldcS (pc := 61) X 12 (by decide) ⟨rfl, rfl⟩ dX11_nameWord_61 ?_
            obtain ⟨x11, ex11, h⟩ := z_bd h
            refine z_cvI (pc := 63) (rest := []) X wx9 (m_X11_is (by decide) ex11) (z_lt zk_40 (by decide)) (z_E11 zk_40) rfl zw_ml_6_32 zw_im_6_34 zw_se_S_42 zw_in_1_12 zw_co_6_35 zd_X11_is (by decide) rfl hl.1 rfl (Nat.le_of_ble_eq_true rfl) dX11_nameWord_63 ⟨Nat.zero_le _, Nat.zero_le _⟩ (fun Hx11 lx11 wx11 => ?_)
            refine lv_if_eq (pc := 66) (tgt := 72) hx hb dX11_nameWord_66 (by decide) (fun c12 => ?_) (fun c12 => ?_)
            · replace h := z_t c12 h
              refine lv_aload_n (pc := 72) hx hb dX11_nameWord_72 rfl (lv_at hl 0 rfl) ?_
              refine z_ldcS (pc := 73) X 13 (by decide) ⟨rfl, rfl⟩ dX11_nameWord_73 ?_
              obtain ⟨x13, ex13, h⟩ := z_bd h
              refine z_cvI (pc := 75) (rest := []) X wx11 (m_X11_is (by decide) ex13) (z_lt zk_40 (by decide)) (z_E11 zk_40) rfl zw_ml_6_32 zw_im_6_34 zw_se_S_42 zw_in_1_12 zw_co_6_35 zd_X11_is (by decide) rfl hl.1 rfl (Nat.le_of_ble_eq_true rfl) dX11_nameWord_75 ⟨Nat.zero_le _, Nat.zero_le _⟩ (fun Hx13 lx13 wx13 => ?_)
              refine lv_if_eq (pc := 78) (tgt := 84) hx hb dX11_nameWord_78 (by decide) (fun c14 => ?_) (fun c14 => ?_)
              · replace h := z_t c14 h
                refine lv_aload_n (pc := 84) hx hb dX11_nameWord_84 rfl (lv_at hl 0 rfl) ?_
                refine z_ldcS (pc := 85) X 14 (by decide) ⟨rfl, rfl⟩ dX11_nameWord_85 ?_
                obtain ⟨x15, ex15, h⟩ := z_bd h
                refine z_cvI (pc := 87) (rest := []) X wx13 (m_X11_is (by decide) ex15) (z_lt zk_40 (by decide)) (z_E11 zk_40) rfl zw_ml_6_32 zw_im_6_34 zw_se_S_42 zw_in_1_12 zw_co_6_35 zd_X11_is (by decide) rfl hl.1 rfl (Nat.le_of_ble_eq_true rfl) dX11_nameWord_87 ⟨Nat.zero_le _, Nat.zero_le _⟩ (fun Hx15 lx15 wx15 => ?_)
                refine lv_if_eq (pc := 90) (tgt := 98) hx hb dX11_nameWord_90 (by decide) (fun c16 => ?_) (fun c16 => ?_)
                · replace h := z_t c16 h
                  refine lv_iconst (pc := 98) (v := 1) hx hb dX11_nameWord_98 (by decide) ?_
                  obtain rfl := Option.some.inj h
                  exact z_ri (pc := 99) X wx15 dX11_nameWord_99
                · replace h := z_f c16 h
                  refine lv_bipush (pc := 93) (v := 48) hx hb dX11_nameWord_93 (by decide) ?_
                  refine lv_goto (pc := 95) (tgt := 99) hx hb dX11_nameWord_95 (by decide) ?_
                  obtain rfl := Option.some.inj h
                  exact z_ri (pc := 99) X wx15 dX11_nameWord_99
              · replace h := z_f c14 h
                refine lv_bipush (pc := 81) (v := 47) hx hb dX11_nameWord_81 (by decide) ?_
                obtain rfl := Option.some.inj h
                exact z_ri (pc := 83) X wx13 dX11_nameWord_83
            · replace h := z_f c12 h
              refine lv_bipush (pc := 69) (v := 46) hx hb dX11_nameWord_69 (by decide) ?_
              obtain rfl := Option.some.inj h
              exact z_ri (pc := 71) X wx11 dX11_nameWord_71
          · replace h := z_f c10 h
            refine lv_bipush (pc := 57) (v := 45) hx hb dX11_nameWord_57 (by decide) ?_
            obtain rfl := Option.some.inj h
            exact z_ri (pc := 59) X wx9 dX11_nameWord_59
        · replace h := z_f c8 h
          refine lv_bipush (pc := 45) (v := 44) hx hb dX11_nameWord_45 (by decide) ?_
          obtain rfl := Option.some.inj h
          exact z_ri (pc := 47) X wx7 dX11_nameWord_47
      · replace h := z_f c6 h
        refine lv_bipush (pc := 33) (v := 43) hx hb dX11_nameWord_33 (by decide) ?_
        obtain rfl := Option.some.inj h
        exact z_ri (pc := 35) X wx5 dX11_nameWord_35
    · replace h := z_f c4 h
      refine lv_bipush (pc := 21) (v := 42) hx hb dX11_nameWord_21 (by decide) ?_
      obtain rfl := Option.some.inj h
      exact z_ri (pc := 23) X wx3 dX11_nameWord_23
  · replace h := z_f c2 h
    refine lv_bipush (pc := 9) (v := 41) hx hb dX11_nameWord_9 (by decide) ?_
    obtain rfl := Option.some.inj h
    exact z_ri (pc := 11) X wx1 dX11_nameWord_11
def f_X11_word  (M : zM) : Option (Int32 × zM) :=
  (f_X11_is 2 M).bind fun x1 =>
  if x1.1 = 0 then (
    (f_X11_is 3 x1.2).bind fun x3 =>
    if x3.1 = 0 then (
      (f_X11_is 4 x3.2).bind fun x5 =>
      if x5.1 = 0 then (
        (f_X11_is 5 x5.2).bind fun x7 =>
        if x7.1 = 0 then (
          (f_X11_is 6 x7.2).bind fun x9 =>
          if x9.1 = 0 then (
            (f_X11_nameWord  x9.2).bind fun x11 =>
            some (x11.1, x11.2)
          ) else (
            some ((20 : Int32), x9.2)
          )
        ) else (
          some ((6 : Int32), x7.2)
        )
      ) else (
        some ((5 : Int32), x5.2)
      )
    ) else (
      some ((4 : Int32), x3.2)
    )
  ) else (
    some ((3 : Int32), x1.2)
  )
set_option maxHeartbeats 4000000 in
set_option maxRecDepth 100000 in
theorem m_X11_word {l : Launch} {G : zG} {M : zM} {r : Int32 × zM} (h : f_X11_word  M = some r) : z_T l G 6 yX11_word (.code yX11_word cX11_word 1 (some .int)) [.ref (G.1 40)] M (some (.int r.1)) r.2 := by
  refine z_of rfl ?_
  intro p e s m below meth c X hw
  have hl := lv_entry [.ref (G.1 40)] (n := 1) (Nat.le_of_ble_eq_true rfl)
  rw [lg_entry_eq]
  generalize (lg_sl [.ref (G.1 40)] ++ List.replicate (1 - (lg_sl [.ref (G.1 40)]).length) Slot.unset).toArray = ls at hl ⊢
  have hl : lv_has ls 1 [(0, .ref (G.1 40))] := hl
  generalize ([.ref (G.1 40)] : List Value).toArray = args at X ⊢
  have X : z_C G p s m args meth c cX11_word 1 RX11 (some .int) := X
  have hx := X.1
  have hb := X.2.1
  unfold f_X11_word at h
  refine lv_aload_n (pc := 0) hx hb dX11_word_0 rfl (lv_at hl 0 rfl) ?_
  refine z_ldcS (pc := 1) X 2 (by decide) ⟨rfl, rfl⟩ dX11_word_1 ?_
  obtain ⟨x1, ex1, h⟩ := z_bd h
  refine z_cvI (pc := 3) (rest := []) X hw (m_X11_is (by decide) ex1) (z_lt zk_40 (by decide)) (z_E11 zk_40) rfl zw_ml_6_32 zw_im_6_34 zw_se_S_42 zw_in_1_12 zw_co_6_35 zd_X11_is (by decide) rfl hl.1 rfl (Nat.le_of_ble_eq_true rfl) dX11_word_3 ⟨Nat.zero_le _, Nat.zero_le _⟩ (fun Hx1 lx1 wx1 => ?_)
  refine lv_if_eq (pc := 6) (tgt := 11) hx hb dX11_word_6 (by decide) (fun c2 => ?_) (fun c2 => ?_)
  · replace h := z_t c2 h
    refine lv_aload_n (pc := 11) hx hb dX11_word_11 rfl (lv_at hl 0 rfl) ?_
    refine z_ldcS (pc := 12) X 3 (by decide) ⟨rfl, rfl⟩ dX11_word_12 ?_
    obtain ⟨x3, ex3, h⟩ := z_bd h
    refine z_cvI (pc := 14) (rest := []) X wx1 (m_X11_is (by decide) ex3) (z_lt zk_40 (by decide)) (z_E11 zk_40) rfl zw_ml_6_32 zw_im_6_34 zw_se_S_42 zw_in_1_12 zw_co_6_35 zd_X11_is (by decide) rfl hl.1 rfl (Nat.le_of_ble_eq_true rfl) dX11_word_14 ⟨Nat.zero_le _, Nat.zero_le _⟩ (fun Hx3 lx3 wx3 => ?_)
    refine lv_if_eq (pc := 17) (tgt := 22) hx hb dX11_word_17 (by decide) (fun c4 => ?_) (fun c4 => ?_)
    · replace h := z_t c4 h
      refine lv_aload_n (pc := 22) hx hb dX11_word_22 rfl (lv_at hl 0 rfl) ?_
      refine z_ldcS (pc := 23) X 4 (by decide) ⟨rfl, rfl⟩ dX11_word_23 ?_
      obtain ⟨x5, ex5, h⟩ := z_bd h
      refine z_cvI (pc := 25) (rest := []) X wx3 (m_X11_is (by decide) ex5) (z_lt zk_40 (by decide)) (z_E11 zk_40) rfl zw_ml_6_32 zw_im_6_34 zw_se_S_42 zw_in_1_12 zw_co_6_35 zd_X11_is (by decide) rfl hl.1 rfl (Nat.le_of_ble_eq_true rfl) dX11_word_25 ⟨Nat.zero_le _, Nat.zero_le _⟩ (fun Hx5 lx5 wx5 => ?_)
      refine lv_if_eq (pc := 28) (tgt := 33) hx hb dX11_word_28 (by decide) (fun c6 => ?_) (fun c6 => ?_)
      · replace h := z_t c6 h
        refine lv_aload_n (pc := 33) hx hb dX11_word_33 rfl (lv_at hl 0 rfl) ?_
        refine z_ldcS (pc := 34) X 5 (by decide) ⟨rfl, rfl⟩ dX11_word_34 ?_
        obtain ⟨x7, ex7, h⟩ := z_bd h
        refine z_cvI (pc := 36) (rest := []) X wx5 (m_X11_is (by decide) ex7) (z_lt zk_40 (by decide)) (z_E11 zk_40) rfl zw_ml_6_32 zw_im_6_34 zw_se_S_42 zw_in_1_12 zw_co_6_35 zd_X11_is (by decide) rfl hl.1 rfl (Nat.le_of_ble_eq_true rfl) dX11_word_36 ⟨Nat.zero_le _, Nat.zero_le _⟩ (fun Hx7 lx7 wx7 => ?_)
        refine lv_if_eq (pc := 39) (tgt := 45) hx hb dX11_word_39 (by decide) (fun c8 => ?_) (fun c8 => ?_)
        · replace h := z_t c8 h
          refine lv_aload_n (pc := 45) hx hb dX11_word_45 rfl (lv_at hl 0 rfl) ?_
          refine z_ldcS (pc := 46) X 6 (by decide) ⟨rfl, rfl⟩ dX11_word_46 ?_
          obtain ⟨x9, ex9, h⟩ := z_bd h
          refine z_cvI (pc := 48) (rest := []) X wx7 (m_X11_is (by decide) ex9) (z_lt zk_40 (by decide)) (z_E11 zk_40) rfl zw_ml_6_32 zw_im_6_34 zw_se_S_42 zw_in_1_12 zw_co_6_35 zd_X11_is (by decide) rfl hl.1 rfl (Nat.le_of_ble_eq_true rfl) dX11_word_48 ⟨Nat.zero_le _, Nat.zero_le _⟩ (fun Hx9 lx9 wx9 => ?_)
          refine lv_if_eq (pc := 51) (tgt := 59) hx hb dX11_word_51 (by decide) (fun c10 => ?_) (fun c10 => ?_)
          · replace h := z_t c10 h
            refine lv_aload_n (pc := 59) hx hb dX11_word_59 rfl (lv_at hl 0 rfl) ?_
            obtain ⟨x11, ex11, h⟩ := z_bd h
            refine z_cvI (pc := 60) (rest := []) X wx9 (m_X11_nameWord  ex11) (z_lt zk_40 (by decide)) (z_E11 zk_40) rfl zw_ml_6_42 zw_im_6_44 zw_se_S_43 zw_in_1_12 zw_co_6_45 zd_X11_nameWord (by decide) rfl hl.1 rfl (Nat.le_of_ble_eq_true rfl) dX11_word_60 ⟨Nat.zero_le _, Nat.zero_le _⟩ (fun Hx11 lx11 wx11 => ?_)
            obtain rfl := Option.some.inj h
            exact z_ri (pc := 63) X wx11 dX11_word_63
          · replace h := z_f c10 h
            refine lv_bipush (pc := 54) (v := 20) hx hb dX11_word_54 (by decide) ?_
            refine lv_goto (pc := 56) (tgt := 63) hx hb dX11_word_56 (by decide) ?_
            obtain rfl := Option.some.inj h
            exact z_ri (pc := 63) X wx9 dX11_word_63
        · replace h := z_f c8 h
          refine lv_bipush (pc := 42) (v := 6) hx hb dX11_word_42 (by decide) ?_
          obtain rfl := Option.some.inj h
          exact z_ri (pc := 44) X wx7 dX11_word_44
      · replace h := z_f c6 h
        refine lv_iconst (pc := 31) (v := 5) hx hb dX11_word_31 (by decide) ?_
        obtain rfl := Option.some.inj h
        exact z_ri (pc := 32) X wx5 dX11_word_32
    · replace h := z_f c4 h
      refine lv_iconst (pc := 20) (v := 4) hx hb dX11_word_20 (by decide) ?_
      obtain rfl := Option.some.inj h
      exact z_ri (pc := 21) X wx3 dX11_word_21
  · replace h := z_f c2 h
    refine lv_iconst (pc := 9) (v := 3) hx hb dX11_word_9 (by decide) ?_
    obtain rfl := Option.some.inj h
    exact z_ri (pc := 10) X wx1 dX11_word_10
def f_X11_next0_284 (i1 : Int32) (M : zM) : Option (zM) :=
    if (1 : Int32) = 0 then (
      z_l (z_w M 40 12 (1 : Int32)) fun M2 =>
      some M2
    ) else (
      z_l (z_w M 40 12 ((100 : Int32) + i1)) fun M3 =>
      some M3
    )
def f_X11_next0_126 : Nat → zM → Option (zM)
  | 0, _ => none
  | n + 1, M =>
    (f_X11_see (M.1 40 11) M).bind fun x1 =>
    (f_X11_isDigit x1.1 x1.2).bind fun x2 =>
    if x2.1 = 0 then (
      if (5 : Int32) ≤ ((x2.2.1 40 11) - (x2.2.1 40 13)) then (
        z_l (z_w x2.2 40 12 (1 : Int32)) fun M5 =>
        some M5
      ) else (
        z_l (z_w x2.2 40 12 (2 : Int32)) fun M6 =>
        some M6
      )
    ) else (
      if ((x2.2.1 40 13) + (4 : Int32)) ≤ (x2.2.1 40 11) then (
        z_l (z_w x2.2 40 11 ((x2.2.1 40 11) + (1 : Int32))) fun M8 =>
        f_X11_next0_126 n  M8
      ) else (
        (f_X11_see (x2.2.1 40 11) x2.2).bind fun x9 =>
        z_l (z_w x9.2 40 14 ((((10 : Int32) * (x2.2.1 40 14)) + x9.1) - (48 : Int32))) fun M10 =>
        z_l (z_w M10 40 11 ((M10.1 40 11) + (1 : Int32))) fun M11 =>
        f_X11_next0_126 n  M11
      )
    )
def f_X11_next0_76 : Nat → zM → Option (zM)
  | 0, _ => none
  | n + 1, M =>
    (f_X11_see (M.1 40 11) M).bind fun x1 =>
    (f_X11_isLetter x1.1 x1.2).bind fun x2 =>
    if x2.1 = 0 then (
      (f_X11_word  x2.2).bind fun x4 =>
      z_l (z_w x4.2 40 12 x4.1) fun M5 =>
      some M5
    ) else (
      z_l (z_w x2.2 40 11 ((x2.2.1 40 11) + (1 : Int32))) fun M6 =>
      f_X11_next0_76 n  M6
    )
def f_X11_next0_0 : Nat → zM → Option (zM)
  | 0, _ => none
  | n + 1, M =>
    (f_X11_see (M.1 40 11) M).bind fun x1 =>
    if x1.1 = (32 : Int32) then (
      z_l (z_w x1.2 40 11 ((x1.2.1 40 11) + (1 : Int32))) fun M3 =>
      f_X11_next0_0 n  M3
    ) else (
      (f_X11_see (x1.2.1 40 11) x1.2).bind fun x4 =>
      if x4.1 = (10 : Int32) then (
        z_l (z_w x4.2 40 11 ((x4.2.1 40 11) + (1 : Int32))) fun M29 =>
        f_X11_next0_0 n  M29
      ) else (
        z_l (z_w x4.2 40 13 (x4.2.1 40 11)) fun M6 =>
        (f_X11_see (M6.1 40 11) M6).bind fun x7 =>
        if x7.1 = (-1 : Int32) then (
          z_l (z_w x7.2 40 12 (0 : Int32)) fun M28 =>
          some M28
        ) else (
          (f_X11_isLetter x7.1 x7.2).bind fun x9 =>
          if x9.1 = 0 then (
            (f_X11_isDigit x7.1 x9.2).bind fun x11 =>
            if x11.1 = 0 then (
              z_l (z_w x11.2 40 11 ((x11.2.1 40 11) + (1 : Int32))) fun M13 =>
              if x7.1 = (59 : Int32) then (
                f_X11_next0_284 x7.1 M13
              ) else (
                if x7.1 = (43 : Int32) then (
                  f_X11_next0_284 x7.1 M13
                ) else (
                  if x7.1 = (45 : Int32) then (
                    f_X11_next0_284 x7.1 M13
                  ) else (
                    if x7.1 = (42 : Int32) then (
                      f_X11_next0_284 x7.1 M13
                    ) else (
                      if x7.1 = (47 : Int32) then (
                        f_X11_next0_284 x7.1 M13
                      ) else (
                        if x7.1 = (40 : Int32) then (
                          f_X11_next0_284 x7.1 M13
                        ) else (
                          if x7.1 = (41 : Int32) then (
                            f_X11_next0_284 x7.1 M13
                          ) else (
                            if x7.1 = (60 : Int32) then (
                              f_X11_next0_284 x7.1 M13
                            ) else (
                              if x7.1 = (61 : Int32) then (
                                f_X11_next0_284 x7.1 M13
                              ) else (
                                if x7.1 = (62 : Int32) then (
                                  f_X11_next0_284 x7.1 M13
                                ) else (
                                  if (0 : Int32) = 0 then (
                                    z_l (z_w M13 40 12 (1 : Int32)) fun M25 =>
                                    some M25
                                  ) else (
                                    z_l (z_w M13 40 12 ((100 : Int32) + x7.1)) fun M26 =>
                                    some M26
                                  )
                                )
                              )
                            )
                          )
                        )
                      )
                    )
                  )
                )
              )
            ) else (
              z_l (z_w x11.2 40 14 (0 : Int32)) fun M27 =>
              f_X11_next0_126 z_F  M27
            )
          ) else (
            f_X11_next0_76 z_F  x9.2
          )
        )
      )
    )
def f_X11_next0  (M : zM) : Option (zM) :=
  (f_X11_see (M.1 40 11) M).bind fun x1 =>
  if x1.1 = (32 : Int32) then (
    z_l (z_w x1.2 40 11 ((x1.2.1 40 11) + (1 : Int32))) fun M3 =>
    f_X11_next0_0 z_F  M3
  ) else (
    (f_X11_see (x1.2.1 40 11) x1.2).bind fun x4 =>
    if x4.1 = (10 : Int32) then (
      z_l (z_w x4.2 40 11 ((x4.2.1 40 11) + (1 : Int32))) fun M29 =>
      f_X11_next0_0 z_F  M29
    ) else (
      z_l (z_w x4.2 40 13 (x4.2.1 40 11)) fun M6 =>
      (f_X11_see (M6.1 40 11) M6).bind fun x7 =>
      if x7.1 = (-1 : Int32) then (
        z_l (z_w x7.2 40 12 (0 : Int32)) fun M28 =>
        some M28
      ) else (
        (f_X11_isLetter x7.1 x7.2).bind fun x9 =>
        if x9.1 = 0 then (
          (f_X11_isDigit x7.1 x9.2).bind fun x11 =>
          if x11.1 = 0 then (
            z_l (z_w x11.2 40 11 ((x11.2.1 40 11) + (1 : Int32))) fun M13 =>
            if x7.1 = (59 : Int32) then (
              f_X11_next0_284 x7.1 M13
            ) else (
              if x7.1 = (43 : Int32) then (
                f_X11_next0_284 x7.1 M13
              ) else (
                if x7.1 = (45 : Int32) then (
                  f_X11_next0_284 x7.1 M13
                ) else (
                  if x7.1 = (42 : Int32) then (
                    f_X11_next0_284 x7.1 M13
                  ) else (
                    if x7.1 = (47 : Int32) then (
                      f_X11_next0_284 x7.1 M13
                    ) else (
                      if x7.1 = (40 : Int32) then (
                        f_X11_next0_284 x7.1 M13
                      ) else (
                        if x7.1 = (41 : Int32) then (
                          f_X11_next0_284 x7.1 M13
                        ) else (
                          if x7.1 = (60 : Int32) then (
                            f_X11_next0_284 x7.1 M13
                          ) else (
                            if x7.1 = (61 : Int32) then (
                              f_X11_next0_284 x7.1 M13
                            ) else (
                              if x7.1 = (62 : Int32) then (
                                f_X11_next0_284 x7.1 M13
                              ) else (
                                if (0 : Int32) = 0 then (
                                  z_l (z_w M13 40 12 (1 : Int32)) fun M25 =>
                                  some M25
                                ) else (
                                  z_l (z_w M13 40 12 ((100 : Int32) + x7.1)) fun M26 =>
                                  some M26
                                )
                              )
                            )
                          )
                        )
                      )
                    )
                  )
                )
              )
            )
          ) else (
            z_l (z_w x11.2 40 14 (0 : Int32)) fun M27 =>
            f_X11_next0_126 z_F  M27
          )
        ) else (
          f_X11_next0_76 z_F  x9.2
        )
      )
    )
  )
set_option maxHeartbeats 4000000 in
set_option maxRecDepth 100000 in
theorem w_X11_next0_284 {G : zG} {p : Program} {l : Launch} {e : Env} {s : State} {m : MethodId} {args : Array Value} {below : List Frame} {meth : Method} {c : Code} (X : z_C G p s m args meth c cX11_next0 3 RX11 none) {r : zM} : ∀ (i1 : Int32) (M : zM) (H : Heap) (locs : List Loc) (ls : Array Slot), z_W G M H locs → lv_has ls 3 [(0, .ref (G.1 40)), (1, .int i1)] → f_X11_next0_284 i1 M = some r → W p l e (z_rm 7) s m args below meth c H locs 0 0 (z_Q G below args s none r) (F0 m 284 ls []) := by
  have hx := X.1
  have hb := X.2.1
  intro i1 M H locs ls  hw hl h
  unfold f_X11_next0_284 at h
  refine lv_iconst (pc := 284) (v := 1) hx hb dX11_next0_284 (by decide) ?_
  refine lv_goto (pc := 285) (tgt := 289) hx hb dX11_next0_285 (by decide) ?_
  refine lv_istore_n (pc := 289) (lv' := [(2, .int (1 : Int32)), (0, .ref (G.1 40)), (1, .int i1)]) hx hb dX11_next0_289 rfl hl (by decide) rfl (fun ls hl => ?_)
  refine lv_aload_n (pc := 290) hx hb dX11_next0_290 rfl (lv_at hl 1 rfl) ?_
  refine lv_iload_n (pc := 291) hx hb dX11_next0_291 rfl (lv_at hl 0 rfl) ?_
  refine lv_if_eq (pc := 292) (tgt := 302) hx hb dX11_next0_292 (by decide) (fun c1 => ?_) (fun c1 => ?_)
  · replace h := z_t c1 h
    refine lv_iconst (pc := 302) (v := 1) hx hb dX11_next0_302 (by decide) ?_
    refine zp_DrinkingRoofsModel_token (pc := 303) X hw zw_fl_5_83 dX11_next0_303 (fun HM2 lM2 wM2 => ?_)
    obtain ⟨M2, eM2, h⟩ := z_lo h
    rw [← eM2] at wM2
    obtain rfl := Option.some.inj h
    exact z_rv (pc := 306) X wM2 dX11_next0_306
  · replace h := z_f c1 h
    refine lv_bipush (pc := 295) (v := 100) hx hb dX11_next0_295 (by decide) ?_
    refine lv_iload_n (pc := 297) hx hb dX11_next0_297 rfl (lv_at hl 2 rfl) ?_
    refine lv_iadd (pc := 298) hx hb dX11_next0_298 ?_
    refine lv_goto (pc := 299) (tgt := 303) hx hb dX11_next0_299 (by decide) ?_
    refine zp_DrinkingRoofsModel_token (pc := 303) X hw zw_fl_5_83 dX11_next0_303 (fun HM3 lM3 wM3 => ?_)
    obtain ⟨M3, eM3, h⟩ := z_lo h
    rw [← eM3] at wM3
    obtain rfl := Option.some.inj h
    exact z_rv (pc := 306) X wM3 dX11_next0_306
set_option maxHeartbeats 4000000 in
set_option maxRecDepth 100000 in
theorem w_X11_next0_126 {G : zG} {p : Program} {l : Launch} {e : Env} {s : State} {m : MethodId} {args : Array Value} {below : List Frame} {meth : Method} {c : Code} (X : z_C G p s m args meth c cX11_next0 3 RX11 none) {r : zM} : ∀ (n : Nat)  (M : zM) (H : Heap) (locs : List Loc) (ls : Array Slot), z_W G M H locs → lv_has ls 3 [(0, .ref (G.1 40))] → f_X11_next0_126 n  M = some r → W p l e (z_rm 7) s m args below meth c H locs 0 0 (z_Q G below args s none r) (F0 m 126 ls []) := by
  have hx := X.1
  have hb := X.2.1
  intro n
  induction n with
  | zero =>
    intro  M H locs ls  hw hl h
    exact z_no h
  | succ n ih =>
    intro  M H locs ls  hw hl h
    rw [f_X11_next0_126] at h
    refine lv_aload_n (pc := 126) hx hb dX11_next0_126 rfl (lv_at hl 0 rfl) ?_
    refine lv_aload_n (pc := 127) hx hb dX11_next0_127 rfl (lv_at hl 0 rfl) ?_
    refine zg_DrinkingRoofsModel_at (pc := 128) X hw zw_fl_5_82 dX11_next0_128 ?_
    obtain ⟨x1, ex1, h⟩ := z_bd h
    refine z_cvI (pc := 131) (rest := []) X hw (m_X11_see  ex1) (z_lt zk_40 (by decide)) (z_E11 zk_40) rfl zw_ml_6_20 zw_im_6_22 zw_se_S_40 zw_in_1_12 zw_co_6_23 zd_X11_see (by decide) rfl hl.1 rfl (Nat.le_of_ble_eq_true rfl) dX11_next0_131 ⟨Nat.zero_le _, Nat.zero_le _⟩ (fun Hx1 lx1 wx1 => ?_)
    obtain ⟨x2, ex2, h⟩ := z_bd h
    refine z_csI (pc := 134) (rest := []) X wx1 (m_X11_isDigit  ex2) zw_ml_6_54 zw_st_6_55 zw_in_1_12 zw_co_6_56 zd_X11_isDigit (by decide) rfl hl.1 rfl (Nat.le_of_ble_eq_true rfl) dX11_next0_134 ⟨Nat.zero_le _, Nat.zero_le _⟩ (fun Hx2 lx2 wx2 => ?_)
    refine lv_if_eq (pc := 137) (tgt := 189) hx hb dX11_next0_137 (by decide) (fun c3 => ?_) (fun c3 => ?_)
    · replace h := z_t c3 h
      refine lv_aload_n (pc := 189) hx hb dX11_next0_189 rfl (lv_at hl 0 rfl) ?_
      refine lv_aload_n (pc := 190) hx hb dX11_next0_190 rfl (lv_at hl 0 rfl) ?_
      refine zg_DrinkingRoofsModel_at (pc := 191) X wx2 zw_fl_5_82 dX11_next0_191 ?_
      refine lv_aload_n (pc := 194) hx hb dX11_next0_194 rfl (lv_at hl 0 rfl) ?_
      refine zg_DrinkingRoofsModel_tokenAt (pc := 195) X wx2 zw_fl_5_84 dX11_next0_195 ?_
      refine lv_isub (pc := 198) hx hb dX11_next0_198 ?_
      refine lv_iconst (pc := 199) (v := 5) hx hb dX11_next0_199 (by decide) ?_
      refine lv_icmp_ge (pc := 200) (tgt := 207) hx hb dX11_next0_200 (by decide) (fun c4 => ?_) (fun c4 => ?_)
      · replace h := z_t c4 h
        refine lv_iconst (pc := 207) (v := 1) hx hb dX11_next0_207 (by decide) ?_
        refine zp_DrinkingRoofsModel_token (pc := 208) X wx2 zw_fl_5_83 dX11_next0_208 (fun HM5 lM5 wM5 => ?_)
        obtain ⟨M5, eM5, h⟩ := z_lo h
        rw [← eM5] at wM5
        refine lv_goto (pc := 211) (tgt := 306) hx hb dX11_next0_211 (by decide) ?_
        obtain rfl := Option.some.inj h
        exact z_rv (pc := 306) X wM5 dX11_next0_306
      · replace h := z_f c4 h
        refine lv_iconst (pc := 203) (v := 2) hx hb dX11_next0_203 (by decide) ?_
        refine lv_goto (pc := 204) (tgt := 208) hx hb dX11_next0_204 (by decide) ?_
        refine zp_DrinkingRoofsModel_token (pc := 208) X wx2 zw_fl_5_83 dX11_next0_208 (fun HM6 lM6 wM6 => ?_)
        obtain ⟨M6, eM6, h⟩ := z_lo h
        rw [← eM6] at wM6
        refine lv_goto (pc := 211) (tgt := 306) hx hb dX11_next0_211 (by decide) ?_
        obtain rfl := Option.some.inj h
        exact z_rv (pc := 306) X wM6 dX11_next0_306
    · replace h := z_f c3 h
      refine lv_aload_n (pc := 140) hx hb dX11_next0_140 rfl (lv_at hl 0 rfl) ?_
      refine zg_DrinkingRoofsModel_at (pc := 141) X wx2 zw_fl_5_82 dX11_next0_141 ?_
      refine lv_aload_n (pc := 144) hx hb dX11_next0_144 rfl (lv_at hl 0 rfl) ?_
      refine zg_DrinkingRoofsModel_tokenAt (pc := 145) X wx2 zw_fl_5_84 dX11_next0_145 ?_
      refine lv_iconst (pc := 148) (v := 4) hx hb dX11_next0_148 (by decide) ?_
      refine lv_iadd (pc := 149) hx hb dX11_next0_149 ?_
      refine lv_icmp_ge (pc := 150) (tgt := 176) hx hb dX11_next0_150 (by decide) (fun c7 => ?_) (fun c7 => ?_)
      · replace h := z_t c7 h
        refine lv_aload_n (pc := 176) hx hb dX11_next0_176 rfl (lv_at hl 0 rfl) ?_
        refine lv_dup (pc := 177) hx hb dX11_next0_177 rfl ?_
        refine zg_DrinkingRoofsModel_at (pc := 178) X wx2 zw_fl_5_82 dX11_next0_178 ?_
        refine lv_iconst (pc := 181) (v := 1) hx hb dX11_next0_181 (by decide) ?_
        refine lv_iadd (pc := 182) hx hb dX11_next0_182 ?_
        refine zp_DrinkingRoofsModel_at (pc := 183) X wx2 zw_fl_5_82 dX11_next0_183 (fun HM8 lM8 wM8 => ?_)
        obtain ⟨M8, eM8, h⟩ := z_lo h
        rw [← eM8] at wM8
        refine lv_goto (pc := 186) (tgt := 126) hx hb dX11_next0_186 (by decide) ?_
        exact ih  M8 HM8 lM8 ls  wM8 (lv_sub hl [0] rfl) h
      · replace h := z_f c7 h
        refine lv_aload_n (pc := 153) hx hb dX11_next0_153 rfl (lv_at hl 0 rfl) ?_
        refine lv_bipush (pc := 154) (v := 10) hx hb dX11_next0_154 (by decide) ?_
        refine lv_aload_n (pc := 156) hx hb dX11_next0_156 rfl (lv_at hl 0 rfl) ?_
        refine zg_DrinkingRoofsModel_value (pc := 157) X wx2 zw_fl_5_85 dX11_next0_157 ?_
        refine lv_imul (pc := 160) hx hb dX11_next0_160 ?_
        refine lv_aload_n (pc := 161) hx hb dX11_next0_161 rfl (lv_at hl 0 rfl) ?_
        refine lv_aload_n (pc := 162) hx hb dX11_next0_162 rfl (lv_at hl 0 rfl) ?_
        refine zg_DrinkingRoofsModel_at (pc := 163) X wx2 zw_fl_5_82 dX11_next0_163 ?_
        obtain ⟨x9, ex9, h⟩ := z_bd h
        refine z_cvI (pc := 166) (rest := [.int ((10 : Int32) * (x2.2.1 40 14)), .ref (G.1 40)]) X wx2 (m_X11_see  ex9) (z_lt zk_40 (by decide)) (z_E11 zk_40) rfl zw_ml_6_20 zw_im_6_22 zw_se_S_40 zw_in_1_12 zw_co_6_23 zd_X11_see (by decide) rfl hl.1 rfl (Nat.le_of_ble_eq_true rfl) dX11_next0_166 ⟨Nat.zero_le _, Nat.zero_le _⟩ (fun Hx9 lx9 wx9 => ?_)
        refine lv_iadd (pc := 169) hx hb dX11_next0_169 ?_
        refine lv_bipush (pc := 170) (v := 48) hx hb dX11_next0_170 (by decide) ?_
        refine lv_isub (pc := 172) hx hb dX11_next0_172 ?_
        refine zp_DrinkingRoofsModel_value (pc := 173) X wx9 zw_fl_5_85 dX11_next0_173 (fun HM10 lM10 wM10 => ?_)
        obtain ⟨M10, eM10, h⟩ := z_lo h
        rw [← eM10] at wM10
        refine lv_aload_n (pc := 176) hx hb dX11_next0_176 rfl (lv_at hl 0 rfl) ?_
        refine lv_dup (pc := 177) hx hb dX11_next0_177 rfl ?_
        refine zg_DrinkingRoofsModel_at (pc := 178) X wM10 zw_fl_5_82 dX11_next0_178 ?_
        refine lv_iconst (pc := 181) (v := 1) hx hb dX11_next0_181 (by decide) ?_
        refine lv_iadd (pc := 182) hx hb dX11_next0_182 ?_
        refine zp_DrinkingRoofsModel_at (pc := 183) X wM10 zw_fl_5_82 dX11_next0_183 (fun HM11 lM11 wM11 => ?_)
        obtain ⟨M11, eM11, h⟩ := z_lo h
        rw [← eM11] at wM11
        refine lv_goto (pc := 186) (tgt := 126) hx hb dX11_next0_186 (by decide) ?_
        exact ih  M11 HM11 lM11 ls  wM11 (lv_sub hl [0] rfl) h
set_option maxHeartbeats 4000000 in
set_option maxRecDepth 100000 in
theorem w_X11_next0_76 {G : zG} {p : Program} {l : Launch} {e : Env} {s : State} {m : MethodId} {args : Array Value} {below : List Frame} {meth : Method} {c : Code} (X : z_C G p s m args meth c cX11_next0 3 RX11 none) {r : zM} : ∀ (n : Nat)  (M : zM) (H : Heap) (locs : List Loc) (ls : Array Slot), z_W G M H locs → lv_has ls 3 [(0, .ref (G.1 40))] → f_X11_next0_76 n  M = some r → W p l e (z_rm 7) s m args below meth c H locs 0 0 (z_Q G below args s none r) (F0 m 76 ls []) := by
  have hx := X.1
  have hb := X.2.1
  intro n
  induction n with
  | zero =>
    intro  M H locs ls  hw hl h
    exact z_no h
  | succ n ih =>
    intro  M H locs ls  hw hl h
    rw [f_X11_next0_76] at h
    refine lv_aload_n (pc := 76) hx hb dX11_next0_76 rfl (lv_at hl 0 rfl) ?_
    refine lv_aload_n (pc := 77) hx hb dX11_next0_77 rfl (lv_at hl 0 rfl) ?_
    refine zg_DrinkingRoofsModel_at (pc := 78) X hw zw_fl_5_82 dX11_next0_78 ?_
    obtain ⟨x1, ex1, h⟩ := z_bd h
    refine z_cvI (pc := 81) (rest := []) X hw (m_X11_see  ex1) (z_lt zk_40 (by decide)) (z_E11 zk_40) rfl zw_ml_6_20 zw_im_6_22 zw_se_S_40 zw_in_1_12 zw_co_6_23 zd_X11_see (by decide) rfl hl.1 rfl (Nat.le_of_ble_eq_true rfl) dX11_next0_81 ⟨Nat.zero_le _, Nat.zero_le _⟩ (fun Hx1 lx1 wx1 => ?_)
    obtain ⟨x2, ex2, h⟩ := z_bd h
    refine z_csI (pc := 84) (rest := []) X wx1 (m_X11_isLetter  ex2) zw_ml_6_24 zw_st_6_25 zw_in_1_12 zw_co_6_26 zd_X11_isLetter (by decide) rfl hl.1 rfl (Nat.le_of_ble_eq_true rfl) dX11_next0_84 ⟨Nat.zero_le _, Nat.zero_le _⟩ (fun Hx2 lx2 wx2 => ?_)
    refine lv_if_eq (pc := 87) (tgt := 103) hx hb dX11_next0_87 (by decide) (fun c3 => ?_) (fun c3 => ?_)
    · replace h := z_t c3 h
      refine lv_aload_n (pc := 103) hx hb dX11_next0_103 rfl (lv_at hl 0 rfl) ?_
      refine lv_aload_n (pc := 104) hx hb dX11_next0_104 rfl (lv_at hl 0 rfl) ?_
      obtain ⟨x4, ex4, h⟩ := z_bd h
      refine z_cvI (pc := 105) (rest := [.ref (G.1 40)]) X wx2 (m_X11_word  ex4) (z_lt zk_40 (by decide)) (z_E11 zk_40) rfl zw_ml_6_27 zw_im_6_29 zw_se_S_41 zw_in_1_12 zw_co_6_30 zd_X11_word (by decide) rfl hl.1 rfl (Nat.le_of_ble_eq_true rfl) dX11_next0_105 ⟨Nat.zero_le _, Nat.zero_le _⟩ (fun Hx4 lx4 wx4 => ?_)
      refine zp_DrinkingRoofsModel_token (pc := 108) X wx4 zw_fl_5_83 dX11_next0_108 (fun HM5 lM5 wM5 => ?_)
      obtain ⟨M5, eM5, h⟩ := z_lo h
      rw [← eM5] at wM5
      refine lv_goto (pc := 111) (tgt := 306) hx hb dX11_next0_111 (by decide) ?_
      obtain rfl := Option.some.inj h
      exact z_rv (pc := 306) X wM5 dX11_next0_306
    · replace h := z_f c3 h
      refine lv_aload_n (pc := 90) hx hb dX11_next0_90 rfl (lv_at hl 0 rfl) ?_
      refine lv_dup (pc := 91) hx hb dX11_next0_91 rfl ?_
      refine zg_DrinkingRoofsModel_at (pc := 92) X wx2 zw_fl_5_82 dX11_next0_92 ?_
      refine lv_iconst (pc := 95) (v := 1) hx hb dX11_next0_95 (by decide) ?_
      refine lv_iadd (pc := 96) hx hb dX11_next0_96 ?_
      refine zp_DrinkingRoofsModel_at (pc := 97) X wx2 zw_fl_5_82 dX11_next0_97 (fun HM6 lM6 wM6 => ?_)
      obtain ⟨M6, eM6, h⟩ := z_lo h
      rw [← eM6] at wM6
      refine lv_goto (pc := 100) (tgt := 76) hx hb dX11_next0_100 (by decide) ?_
      exact ih  M6 HM6 lM6 ls  wM6 (lv_sub hl [0] rfl) h
set_option maxHeartbeats 4000000 in
set_option maxRecDepth 100000 in
theorem w_X11_next0_0 {G : zG} {p : Program} {l : Launch} {e : Env} {s : State} {m : MethodId} {args : Array Value} {below : List Frame} {meth : Method} {c : Code} (X : z_C G p s m args meth c cX11_next0 3 RX11 none) {r : zM} : ∀ (n : Nat)  (M : zM) (H : Heap) (locs : List Loc) (ls : Array Slot), z_W G M H locs → lv_has ls 3 [(0, .ref (G.1 40))] → f_X11_next0_0 n  M = some r → W p l e (z_rm 7) s m args below meth c H locs 0 0 (z_Q G below args s none r) (F0 m 0 ls []) := by
  have hx := X.1
  have hb := X.2.1
  intro n
  induction n with
  | zero =>
    intro  M H locs ls  hw hl h
    exact z_no h
  | succ n ih =>
    intro  M H locs ls  hw hl h
    rw [f_X11_next0_0] at h
    refine lv_aload_n (pc := 0) hx hb dX11_next0_0 rfl (lv_at hl 0 rfl) ?_
    refine lv_aload_n (pc := 1) hx hb dX11_next0_1 rfl (lv_at hl 0 rfl) ?_
    refine zg_DrinkingRoofsModel_at (pc := 2) X hw zw_fl_5_82 dX11_next0_2 ?_
    obtain ⟨x1, ex1, h⟩ := z_bd h
    refine z_cvI (pc := 5) (rest := []) X hw (m_X11_see  ex1) (z_lt zk_40 (by decide)) (z_E11 zk_40) rfl zw_ml_6_20 zw_im_6_22 zw_se_S_40 zw_in_1_12 zw_co_6_23 zd_X11_see (by decide) rfl hl.1 rfl (Nat.le_of_ble_eq_true rfl) dX11_next0_5 ⟨Nat.zero_le _, Nat.zero_le _⟩ (fun Hx1 lx1 wx1 => ?_)
    refine lv_bipush (pc := 8) (v := 32) hx hb dX11_next0_8 (by decide) ?_
    refine lv_icmp_eq (pc := 10) (tgt := 26) hx hb dX11_next0_10 (by decide) (fun c2 => ?_) (fun c2 => ?_)
    · replace h := z_t c2 h
      refine lv_aload_n (pc := 26) hx hb dX11_next0_26 rfl (lv_at hl 0 rfl) ?_
      refine lv_dup (pc := 27) hx hb dX11_next0_27 rfl ?_
      refine zg_DrinkingRoofsModel_at (pc := 28) X wx1 zw_fl_5_82 dX11_next0_28 ?_
      refine lv_iconst (pc := 31) (v := 1) hx hb dX11_next0_31 (by decide) ?_
      refine lv_iadd (pc := 32) hx hb dX11_next0_32 ?_
      refine zp_DrinkingRoofsModel_at (pc := 33) X wx1 zw_fl_5_82 dX11_next0_33 (fun HM3 lM3 wM3 => ?_)
      obtain ⟨M3, eM3, h⟩ := z_lo h
      rw [← eM3] at wM3
      refine lv_goto (pc := 36) (tgt := 0) hx hb dX11_next0_36 (by decide) ?_
      exact ih  M3 HM3 lM3 ls  wM3 (lv_sub hl [0] rfl) h
    · replace h := z_f c2 h
      refine lv_aload_n (pc := 13) hx hb dX11_next0_13 rfl (lv_at hl 0 rfl) ?_
      refine lv_aload_n (pc := 14) hx hb dX11_next0_14 rfl (lv_at hl 0 rfl) ?_
      refine zg_DrinkingRoofsModel_at (pc := 15) X wx1 zw_fl_5_82 dX11_next0_15 ?_
      obtain ⟨x4, ex4, h⟩ := z_bd h
      refine z_cvI (pc := 18) (rest := []) X wx1 (m_X11_see  ex4) (z_lt zk_40 (by decide)) (z_E11 zk_40) rfl zw_ml_6_20 zw_im_6_22 zw_se_S_40 zw_in_1_12 zw_co_6_23 zd_X11_see (by decide) rfl hl.1 rfl (Nat.le_of_ble_eq_true rfl) dX11_next0_18 ⟨Nat.zero_le _, Nat.zero_le _⟩ (fun Hx4 lx4 wx4 => ?_)
      refine lv_bipush (pc := 21) (v := 10) hx hb dX11_next0_21 (by decide) ?_
      refine lv_icmp_ne (pc := 23) (tgt := 39) hx hb dX11_next0_23 (by decide) (fun c5 => ?_) (fun c5 => ?_)
      · replace h := z_f c5 h
        refine lv_aload_n (pc := 39) hx hb dX11_next0_39 rfl (lv_at hl 0 rfl) ?_
        refine lv_aload_n (pc := 40) hx hb dX11_next0_40 rfl (lv_at hl 0 rfl) ?_
        refine zg_DrinkingRoofsModel_at (pc := 41) X wx4 zw_fl_5_82 dX11_next0_41 ?_
        refine zp_DrinkingRoofsModel_tokenAt (pc := 44) X wx4 zw_fl_5_84 dX11_next0_44 (fun HM6 lM6 wM6 => ?_)
        obtain ⟨M6, eM6, h⟩ := z_lo h
        rw [← eM6] at wM6
        refine lv_aload_n (pc := 47) hx hb dX11_next0_47 rfl (lv_at hl 0 rfl) ?_
        refine lv_aload_n (pc := 48) hx hb dX11_next0_48 rfl (lv_at hl 0 rfl) ?_
        refine zg_DrinkingRoofsModel_at (pc := 49) X wM6 zw_fl_5_82 dX11_next0_49 ?_
        obtain ⟨x7, ex7, h⟩ := z_bd h
        refine z_cvI (pc := 52) (rest := []) X wM6 (m_X11_see  ex7) (z_lt zk_40 (by decide)) (z_E11 zk_40) rfl zw_ml_6_20 zw_im_6_22 zw_se_S_40 zw_in_1_12 zw_co_6_23 zd_X11_see (by decide) rfl hl.1 rfl (Nat.le_of_ble_eq_true rfl) dX11_next0_52 ⟨Nat.zero_le _, Nat.zero_le _⟩ (fun Hx7 lx7 wx7 => ?_)
        refine lv_istore_n (pc := 55) (lv' := [(1, .int x7.1), (0, .ref (G.1 40))]) hx hb dX11_next0_55 rfl hl (by decide) rfl (fun ls hl => ?_)
        refine lv_iload_n (pc := 56) hx hb dX11_next0_56 rfl (lv_at hl 0 rfl) ?_
        refine lv_iconst (pc := 57) (v := -1) hx hb dX11_next0_57 (by decide) ?_
        refine lv_icmp_ne (pc := 58) (tgt := 69) hx hb dX11_next0_58 (by decide) (fun c8 => ?_) (fun c8 => ?_)
        · replace h := z_f c8 h
          refine lv_iload_n (pc := 69) hx hb dX11_next0_69 rfl (lv_at hl 0 rfl) ?_
          obtain ⟨x9, ex9, h⟩ := z_bd h
          refine z_csI (pc := 70) (rest := []) X wx7 (m_X11_isLetter  ex9) zw_ml_6_24 zw_st_6_25 zw_in_1_12 zw_co_6_26 zd_X11_isLetter (by decide) rfl hl.1 rfl (Nat.le_of_ble_eq_true rfl) dX11_next0_70 ⟨Nat.zero_le _, Nat.zero_le _⟩ (fun Hx9 lx9 wx9 => ?_)
          refine lv_if_eq (pc := 73) (tgt := 114) hx hb dX11_next0_73 (by decide) (fun c10 => ?_) (fun c10 => ?_)
          · replace h := z_t c10 h
            refine lv_iload_n (pc := 114) hx hb dX11_next0_114 rfl (lv_at hl 0 rfl) ?_
            obtain ⟨x11, ex11, h⟩ := z_bd h
            refine z_csI (pc := 115) (rest := []) X wx9 (m_X11_isDigit  ex11) zw_ml_6_54 zw_st_6_55 zw_in_1_12 zw_co_6_56 zd_X11_isDigit (by decide) rfl hl.1 rfl (Nat.le_of_ble_eq_true rfl) dX11_next0_115 ⟨Nat.zero_le _, Nat.zero_le _⟩ (fun Hx11 lx11 wx11 => ?_)
            refine lv_if_eq (pc := 118) (tgt := 214) hx hb dX11_next0_118 (by decide) (fun c12 => ?_) (fun c12 => ?_)
            · replace h := z_t c12 h
              refine lv_aload_n (pc := 214) hx hb dX11_next0_214 rfl (lv_at hl 1 rfl) ?_
              refine lv_dup (pc := 215) hx hb dX11_next0_215 rfl ?_
              refine zg_DrinkingRoofsModel_at (pc := 216) X wx11 zw_fl_5_82 dX11_next0_216 ?_
              refine lv_iconst (pc := 219) (v := 1) hx hb dX11_next0_219 (by decide) ?_
              refine lv_iadd (pc := 220) hx hb dX11_next0_220 ?_
              refine zp_DrinkingRoofsModel_at (pc := 221) X wx11 zw_fl_5_82 dX11_next0_221 (fun HM13 lM13 wM13 => ?_)
              obtain ⟨M13, eM13, h⟩ := z_lo h
              rw [← eM13] at wM13
              refine lv_iload_n (pc := 224) hx hb dX11_next0_224 rfl (lv_at hl 0 rfl) ?_
              refine lv_bipush (pc := 225) (v := 59) hx hb dX11_next0_225 (by decide) ?_
              refine lv_icmp_eq (pc := 227) (tgt := 284) hx hb dX11_next0_227 (by decide) (fun c14 => ?_) (fun c14 => ?_)
              · replace h := z_t c14 h
                exact w_X11_next0_284 X x7.1 M13 HM13 lM13 ls  wM13 (lv_sub hl [1, 0] rfl) h
              · replace h := z_f c14 h
                refine lv_iload_n (pc := 230) hx hb dX11_next0_230 rfl (lv_at hl 0 rfl) ?_
                refine lv_bipush (pc := 231) (v := 43) hx hb dX11_next0_231 (by decide) ?_
                refine lv_icmp_eq (pc := 233) (tgt := 284) hx hb dX11_next0_233 (by decide) (fun c15 => ?_) (fun c15 => ?_)
                · replace h := z_t c15 h
                  exact w_X11_next0_284 X x7.1 M13 HM13 lM13 ls  wM13 (lv_sub hl [1, 0] rfl) h
                · replace h := z_f c15 h
                  refine lv_iload_n (pc := 236) hx hb dX11_next0_236 rfl (lv_at hl 0 rfl) ?_
                  refine lv_bipush (pc := 237) (v := 45) hx hb dX11_next0_237 (by decide) ?_
                  refine lv_icmp_eq (pc := 239) (tgt := 284) hx hb dX11_next0_239 (by decide) (fun c16 => ?_) (fun c16 => ?_)
                  · replace h := z_t c16 h
                    exact w_X11_next0_284 X x7.1 M13 HM13 lM13 ls  wM13 (lv_sub hl [1, 0] rfl) h
                  · replace h := z_f c16 h
                    refine lv_iload_n (pc := 242) hx hb dX11_next0_242 rfl (lv_at hl 0 rfl) ?_
                    refine lv_bipush (pc := 243) (v := 42) hx hb dX11_next0_243 (by decide) ?_
                    refine lv_icmp_eq (pc := 245) (tgt := 284) hx hb dX11_next0_245 (by decide) (fun c17 => ?_) (fun c17 => ?_)
                    · replace h := z_t c17 h
                      exact w_X11_next0_284 X x7.1 M13 HM13 lM13 ls  wM13 (lv_sub hl [1, 0] rfl) h
                    · replace h := z_f c17 h
                      refine lv_iload_n (pc := 248) hx hb dX11_next0_248 rfl (lv_at hl 0 rfl) ?_
                      refine lv_bipush (pc := 249) (v := 47) hx hb dX11_next0_249 (by decide) ?_
                      refine lv_icmp_eq (pc := 251) (tgt := 284) hx hb dX11_next0_251 (by decide) (fun c18 => ?_) (fun c18 => ?_)
                      · replace h := z_t c18 h
                        exact w_X11_next0_284 X x7.1 M13 HM13 lM13 ls  wM13 (lv_sub hl [1, 0] rfl) h
                      · replace h := z_f c18 h
                        refine lv_iload_n (pc := 254) hx hb dX11_next0_254 rfl (lv_at hl 0 rfl) ?_
                        refine lv_bipush (pc := 255) (v := 40) hx hb dX11_next0_255 (by decide) ?_
                        refine lv_icmp_eq (pc := 257) (tgt := 284) hx hb dX11_next0_257 (by decide) (fun c19 => ?_) (fun c19 => ?_)
                        · replace h := z_t c19 h
                          exact w_X11_next0_284 X x7.1 M13 HM13 lM13 ls  wM13 (lv_sub hl [1, 0] rfl) h
                        · replace h := z_f c19 h
                          refine lv_iload_n (pc := 260) hx hb dX11_next0_260 rfl (lv_at hl 0 rfl) ?_
                          refine lv_bipush (pc := 261) (v := 41) hx hb dX11_next0_261 (by decide) ?_
                          refine lv_icmp_eq (pc := 263) (tgt := 284) hx hb dX11_next0_263 (by decide) (fun c20 => ?_) (fun c20 => ?_)
                          · replace h := z_t c20 h
                            exact w_X11_next0_284 X x7.1 M13 HM13 lM13 ls  wM13 (lv_sub hl [1, 0] rfl) h
                          · replace h := z_f c20 h
                            refine lv_iload_n (pc := 266) hx hb dX11_next0_266 rfl (lv_at hl 0 rfl) ?_
                            refine lv_bipush (pc := 267) (v := 60) hx hb dX11_next0_267 (by decide) ?_
                            refine lv_icmp_eq (pc := 269) (tgt := 284) hx hb dX11_next0_269 (by decide) (fun c21 => ?_) (fun c21 => ?_)
                            · replace h := z_t c21 h
                              exact w_X11_next0_284 X x7.1 M13 HM13 lM13 ls  wM13 (lv_sub hl [1, 0] rfl) h
                            · replace h := z_f c21 h
                              refine lv_iload_n (pc := 272) hx hb dX11_next0_272 rfl (lv_at hl 0 rfl) ?_
                              refine lv_bipush (pc := 273) (v := 61) hx hb dX11_next0_273 (by decide) ?_
                              refine lv_icmp_eq (pc := 275) (tgt := 284) hx hb dX11_next0_275 (by decide) (fun c22 => ?_) (fun c22 => ?_)
                              · replace h := z_t c22 h
                                exact w_X11_next0_284 X x7.1 M13 HM13 lM13 ls  wM13 (lv_sub hl [1, 0] rfl) h
                              · replace h := z_f c22 h
                                refine lv_iload_n (pc := 278) hx hb dX11_next0_278 rfl (lv_at hl 0 rfl) ?_
                                refine lv_bipush (pc := 279) (v := 62) hx hb dX11_next0_279 (by decide) ?_
                                refine lv_icmp_ne (pc := 281) (tgt := 288) hx hb dX11_next0_281 (by decide) (fun c23 => ?_) (fun c23 => ?_)
                                · replace h := z_f c23 h
                                  refine lv_iconst (pc := 288) (v := 0) hx hb dX11_next0_288 (by decide) ?_
                                  refine lv_istore_n (pc := 289) (lv' := [(2, .int (0 : Int32)), (1, .int x7.1), (0, .ref (G.1 40))]) hx hb dX11_next0_289 rfl hl (by decide) rfl (fun ls hl => ?_)
                                  refine lv_aload_n (pc := 290) hx hb dX11_next0_290 rfl (lv_at hl 2 rfl) ?_
                                  refine lv_iload_n (pc := 291) hx hb dX11_next0_291 rfl (lv_at hl 0 rfl) ?_
                                  refine lv_if_eq (pc := 292) (tgt := 302) hx hb dX11_next0_292 (by decide) (fun c24 => ?_) (fun c24 => ?_)
                                  · replace h := z_t c24 h
                                    refine lv_iconst (pc := 302) (v := 1) hx hb dX11_next0_302 (by decide) ?_
                                    refine zp_DrinkingRoofsModel_token (pc := 303) X wM13 zw_fl_5_83 dX11_next0_303 (fun HM25 lM25 wM25 => ?_)
                                    obtain ⟨M25, eM25, h⟩ := z_lo h
                                    rw [← eM25] at wM25
                                    obtain rfl := Option.some.inj h
                                    exact z_rv (pc := 306) X wM25 dX11_next0_306
                                  · replace h := z_f c24 h
                                    refine lv_bipush (pc := 295) (v := 100) hx hb dX11_next0_295 (by decide) ?_
                                    refine lv_iload_n (pc := 297) hx hb dX11_next0_297 rfl (lv_at hl 1 rfl) ?_
                                    refine lv_iadd (pc := 298) hx hb dX11_next0_298 ?_
                                    refine lv_goto (pc := 299) (tgt := 303) hx hb dX11_next0_299 (by decide) ?_
                                    refine zp_DrinkingRoofsModel_token (pc := 303) X wM13 zw_fl_5_83 dX11_next0_303 (fun HM26 lM26 wM26 => ?_)
                                    obtain ⟨M26, eM26, h⟩ := z_lo h
                                    rw [← eM26] at wM26
                                    obtain rfl := Option.some.inj h
                                    exact z_rv (pc := 306) X wM26 dX11_next0_306
                                · replace h := z_t c23 h
                                  exact w_X11_next0_284 X x7.1 M13 HM13 lM13 ls  wM13 (lv_sub hl [1, 0] rfl) h
            · replace h := z_f c12 h
              refine lv_aload_n (pc := 121) hx hb dX11_next0_121 rfl (lv_at hl 1 rfl) ?_
              refine lv_iconst (pc := 122) (v := 0) hx hb dX11_next0_122 (by decide) ?_
              refine zp_DrinkingRoofsModel_value (pc := 123) X wx11 zw_fl_5_85 dX11_next0_123 (fun HM27 lM27 wM27 => ?_)
              obtain ⟨M27, eM27, h⟩ := z_lo h
              rw [← eM27] at wM27
              exact w_X11_next0_126 X z_F  M27 HM27 lM27 ls  wM27 (lv_sub hl [1] rfl) h
          · replace h := z_f c10 h
            exact w_X11_next0_76 X z_F  x9.2 Hx9 lx9 ls  wx9 (lv_sub hl [1] rfl) h
        · replace h := z_t c8 h
          refine lv_aload_n (pc := 61) hx hb dX11_next0_61 rfl (lv_at hl 1 rfl) ?_
          refine lv_iconst (pc := 62) (v := 0) hx hb dX11_next0_62 (by decide) ?_
          refine zp_DrinkingRoofsModel_token (pc := 63) X wx7 zw_fl_5_83 dX11_next0_63 (fun HM28 lM28 wM28 => ?_)
          obtain ⟨M28, eM28, h⟩ := z_lo h
          rw [← eM28] at wM28
          refine lv_goto (pc := 66) (tgt := 306) hx hb dX11_next0_66 (by decide) ?_
          obtain rfl := Option.some.inj h
          exact z_rv (pc := 306) X wM28 dX11_next0_306
      · replace h := z_t c5 h
        refine lv_aload_n (pc := 26) hx hb dX11_next0_26 rfl (lv_at hl 0 rfl) ?_
        refine lv_dup (pc := 27) hx hb dX11_next0_27 rfl ?_
        refine zg_DrinkingRoofsModel_at (pc := 28) X wx4 zw_fl_5_82 dX11_next0_28 ?_
        refine lv_iconst (pc := 31) (v := 1) hx hb dX11_next0_31 (by decide) ?_
        refine lv_iadd (pc := 32) hx hb dX11_next0_32 ?_
        refine zp_DrinkingRoofsModel_at (pc := 33) X wx4 zw_fl_5_82 dX11_next0_33 (fun HM29 lM29 wM29 => ?_)
        obtain ⟨M29, eM29, h⟩ := z_lo h
        rw [← eM29] at wM29
        refine lv_goto (pc := 36) (tgt := 0) hx hb dX11_next0_36 (by decide) ?_
        exact ih  M29 HM29 lM29 ls  wM29 (lv_sub hl [0] rfl) h
set_option maxHeartbeats 4000000 in
set_option maxRecDepth 100000 in
theorem m_X11_next0 {l : Launch} {G : zG} {M : zM} {r : zM} (h : f_X11_next0  M = some r) : z_T l G 7 yX11_next0 (.code yX11_next0 cX11_next0 3 none) [.ref (G.1 40)] M none r := by
  refine z_of rfl ?_
  intro p e s m below meth c X hw
  have hl := lv_entry [.ref (G.1 40)] (n := 3) (Nat.le_of_ble_eq_true rfl)
  rw [lg_entry_eq]
  generalize (lg_sl [.ref (G.1 40)] ++ List.replicate (3 - (lg_sl [.ref (G.1 40)]).length) Slot.unset).toArray = ls at hl ⊢
  have hl : lv_has ls 3 [(0, .ref (G.1 40))] := hl
  generalize ([.ref (G.1 40)] : List Value).toArray = args at X ⊢
  have X : z_C G p s m args meth c cX11_next0 3 RX11 none := X
  have hx := X.1
  have hb := X.2.1
  unfold f_X11_next0 at h
  refine lv_aload_n (pc := 0) hx hb dX11_next0_0 rfl (lv_at hl 0 rfl) ?_
  refine lv_aload_n (pc := 1) hx hb dX11_next0_1 rfl (lv_at hl 0 rfl) ?_
  refine zg_DrinkingRoofsModel_at (pc := 2) X hw zw_fl_5_82 dX11_next0_2 ?_
  obtain ⟨x1, ex1, h⟩ := z_bd h
  refine z_cvI (pc := 5) (rest := []) X hw (m_X11_see  ex1) (z_lt zk_40 (by decide)) (z_E11 zk_40) rfl zw_ml_6_20 zw_im_6_22 zw_se_S_40 zw_in_1_12 zw_co_6_23 zd_X11_see (by decide) rfl hl.1 rfl (Nat.le_of_ble_eq_true rfl) dX11_next0_5 ⟨Nat.zero_le _, Nat.zero_le _⟩ (fun Hx1 lx1 wx1 => ?_)
  refine lv_bipush (pc := 8) (v := 32) hx hb dX11_next0_8 (by decide) ?_
  refine lv_icmp_eq (pc := 10) (tgt := 26) hx hb dX11_next0_10 (by decide) (fun c2 => ?_) (fun c2 => ?_)
  · replace h := z_t c2 h
    refine lv_aload_n (pc := 26) hx hb dX11_next0_26 rfl (lv_at hl 0 rfl) ?_
    refine lv_dup (pc := 27) hx hb dX11_next0_27 rfl ?_
    refine zg_DrinkingRoofsModel_at (pc := 28) X wx1 zw_fl_5_82 dX11_next0_28 ?_
    refine lv_iconst (pc := 31) (v := 1) hx hb dX11_next0_31 (by decide) ?_
    refine lv_iadd (pc := 32) hx hb dX11_next0_32 ?_
    refine zp_DrinkingRoofsModel_at (pc := 33) X wx1 zw_fl_5_82 dX11_next0_33 (fun HM3 lM3 wM3 => ?_)
    obtain ⟨M3, eM3, h⟩ := z_lo h
    rw [← eM3] at wM3
    refine lv_goto (pc := 36) (tgt := 0) hx hb dX11_next0_36 (by decide) ?_
    exact w_X11_next0_0 X z_F  M3 HM3 lM3 ls  wM3 (lv_sub hl [0] rfl) h
  · replace h := z_f c2 h
    refine lv_aload_n (pc := 13) hx hb dX11_next0_13 rfl (lv_at hl 0 rfl) ?_
    refine lv_aload_n (pc := 14) hx hb dX11_next0_14 rfl (lv_at hl 0 rfl) ?_
    refine zg_DrinkingRoofsModel_at (pc := 15) X wx1 zw_fl_5_82 dX11_next0_15 ?_
    obtain ⟨x4, ex4, h⟩ := z_bd h
    refine z_cvI (pc := 18) (rest := []) X wx1 (m_X11_see  ex4) (z_lt zk_40 (by decide)) (z_E11 zk_40) rfl zw_ml_6_20 zw_im_6_22 zw_se_S_40 zw_in_1_12 zw_co_6_23 zd_X11_see (by decide) rfl hl.1 rfl (Nat.le_of_ble_eq_true rfl) dX11_next0_18 ⟨Nat.zero_le _, Nat.zero_le _⟩ (fun Hx4 lx4 wx4 => ?_)
    refine lv_bipush (pc := 21) (v := 10) hx hb dX11_next0_21 (by decide) ?_
    refine lv_icmp_ne (pc := 23) (tgt := 39) hx hb dX11_next0_23 (by decide) (fun c5 => ?_) (fun c5 => ?_)
    · replace h := z_f c5 h
      refine lv_aload_n (pc := 39) hx hb dX11_next0_39 rfl (lv_at hl 0 rfl) ?_
      refine lv_aload_n (pc := 40) hx hb dX11_next0_40 rfl (lv_at hl 0 rfl) ?_
      refine zg_DrinkingRoofsModel_at (pc := 41) X wx4 zw_fl_5_82 dX11_next0_41 ?_
      refine zp_DrinkingRoofsModel_tokenAt (pc := 44) X wx4 zw_fl_5_84 dX11_next0_44 (fun HM6 lM6 wM6 => ?_)
      obtain ⟨M6, eM6, h⟩ := z_lo h
      rw [← eM6] at wM6
      refine lv_aload_n (pc := 47) hx hb dX11_next0_47 rfl (lv_at hl 0 rfl) ?_
      refine lv_aload_n (pc := 48) hx hb dX11_next0_48 rfl (lv_at hl 0 rfl) ?_
      refine zg_DrinkingRoofsModel_at (pc := 49) X wM6 zw_fl_5_82 dX11_next0_49 ?_
      obtain ⟨x7, ex7, h⟩ := z_bd h
      refine z_cvI (pc := 52) (rest := []) X wM6 (m_X11_see  ex7) (z_lt zk_40 (by decide)) (z_E11 zk_40) rfl zw_ml_6_20 zw_im_6_22 zw_se_S_40 zw_in_1_12 zw_co_6_23 zd_X11_see (by decide) rfl hl.1 rfl (Nat.le_of_ble_eq_true rfl) dX11_next0_52 ⟨Nat.zero_le _, Nat.zero_le _⟩ (fun Hx7 lx7 wx7 => ?_)
      refine lv_istore_n (pc := 55) (lv' := [(1, .int x7.1), (0, .ref (G.1 40))]) hx hb dX11_next0_55 rfl hl (by decide) rfl (fun ls hl => ?_)
      refine lv_iload_n (pc := 56) hx hb dX11_next0_56 rfl (lv_at hl 0 rfl) ?_
      refine lv_iconst (pc := 57) (v := -1) hx hb dX11_next0_57 (by decide) ?_
      refine lv_icmp_ne (pc := 58) (tgt := 69) hx hb dX11_next0_58 (by decide) (fun c8 => ?_) (fun c8 => ?_)
      · replace h := z_f c8 h
        refine lv_iload_n (pc := 69) hx hb dX11_next0_69 rfl (lv_at hl 0 rfl) ?_
        obtain ⟨x9, ex9, h⟩ := z_bd h
        refine z_csI (pc := 70) (rest := []) X wx7 (m_X11_isLetter  ex9) zw_ml_6_24 zw_st_6_25 zw_in_1_12 zw_co_6_26 zd_X11_isLetter (by decide) rfl hl.1 rfl (Nat.le_of_ble_eq_true rfl) dX11_next0_70 ⟨Nat.zero_le _, Nat.zero_le _⟩ (fun Hx9 lx9 wx9 => ?_)
        refine lv_if_eq (pc := 73) (tgt := 114) hx hb dX11_next0_73 (by decide) (fun c10 => ?_) (fun c10 => ?_)
        · replace h := z_t c10 h
          refine lv_iload_n (pc := 114) hx hb dX11_next0_114 rfl (lv_at hl 0 rfl) ?_
          obtain ⟨x11, ex11, h⟩ := z_bd h
          refine z_csI (pc := 115) (rest := []) X wx9 (m_X11_isDigit  ex11) zw_ml_6_54 zw_st_6_55 zw_in_1_12 zw_co_6_56 zd_X11_isDigit (by decide) rfl hl.1 rfl (Nat.le_of_ble_eq_true rfl) dX11_next0_115 ⟨Nat.zero_le _, Nat.zero_le _⟩ (fun Hx11 lx11 wx11 => ?_)
          refine lv_if_eq (pc := 118) (tgt := 214) hx hb dX11_next0_118 (by decide) (fun c12 => ?_) (fun c12 => ?_)
          · replace h := z_t c12 h
            refine lv_aload_n (pc := 214) hx hb dX11_next0_214 rfl (lv_at hl 1 rfl) ?_
            refine lv_dup (pc := 215) hx hb dX11_next0_215 rfl ?_
            refine zg_DrinkingRoofsModel_at (pc := 216) X wx11 zw_fl_5_82 dX11_next0_216 ?_
            refine lv_iconst (pc := 219) (v := 1) hx hb dX11_next0_219 (by decide) ?_
            refine lv_iadd (pc := 220) hx hb dX11_next0_220 ?_
            refine zp_DrinkingRoofsModel_at (pc := 221) X wx11 zw_fl_5_82 dX11_next0_221 (fun HM13 lM13 wM13 => ?_)
            obtain ⟨M13, eM13, h⟩ := z_lo h
            rw [← eM13] at wM13
            refine lv_iload_n (pc := 224) hx hb dX11_next0_224 rfl (lv_at hl 0 rfl) ?_
            refine lv_bipush (pc := 225) (v := 59) hx hb dX11_next0_225 (by decide) ?_
            refine lv_icmp_eq (pc := 227) (tgt := 284) hx hb dX11_next0_227 (by decide) (fun c14 => ?_) (fun c14 => ?_)
            · replace h := z_t c14 h
              exact w_X11_next0_284 X x7.1 M13 HM13 lM13 ls  wM13 (lv_sub hl [1, 0] rfl) h
            · replace h := z_f c14 h
              refine lv_iload_n (pc := 230) hx hb dX11_next0_230 rfl (lv_at hl 0 rfl) ?_
              refine lv_bipush (pc := 231) (v := 43) hx hb dX11_next0_231 (by decide) ?_
              refine lv_icmp_eq (pc := 233) (tgt := 284) hx hb dX11_next0_233 (by decide) (fun c15 => ?_) (fun c15 => ?_)
              · replace h := z_t c15 h
                exact w_X11_next0_284 X x7.1 M13 HM13 lM13 ls  wM13 (lv_sub hl [1, 0] rfl) h
              · replace h := z_f c15 h
                refine lv_iload_n (pc := 236) hx hb dX11_next0_236 rfl (lv_at hl 0 rfl) ?_
                refine lv_bipush (pc := 237) (v := 45) hx hb dX11_next0_237 (by decide) ?_
                refine lv_icmp_eq (pc := 239) (tgt := 284) hx hb dX11_next0_239 (by decide) (fun c16 => ?_) (fun c16 => ?_)
                · replace h := z_t c16 h
                  exact w_X11_next0_284 X x7.1 M13 HM13 lM13 ls  wM13 (lv_sub hl [1, 0] rfl) h
                · replace h := z_f c16 h
                  refine lv_iload_n (pc := 242) hx hb dX11_next0_242 rfl (lv_at hl 0 rfl) ?_
                  refine lv_bipush (pc := 243) (v := 42) hx hb dX11_next0_243 (by decide) ?_
                  refine lv_icmp_eq (pc := 245) (tgt := 284) hx hb dX11_next0_245 (by decide) (fun c17 => ?_) (fun c17 => ?_)
                  · replace h := z_t c17 h
                    exact w_X11_next0_284 X x7.1 M13 HM13 lM13 ls  wM13 (lv_sub hl [1, 0] rfl) h
                  · replace h := z_f c17 h
                    refine lv_iload_n (pc := 248) hx hb dX11_next0_248 rfl (lv_at hl 0 rfl) ?_
                    refine lv_bipush (pc := 249) (v := 47) hx hb dX11_next0_249 (by decide) ?_
                    refine lv_icmp_eq (pc := 251) (tgt := 284) hx hb dX11_next0_251 (by decide) (fun c18 => ?_) (fun c18 => ?_)
                    · replace h := z_t c18 h
                      exact w_X11_next0_284 X x7.1 M13 HM13 lM13 ls  wM13 (lv_sub hl [1, 0] rfl) h
                    · replace h := z_f c18 h
                      refine lv_iload_n (pc := 254) hx hb dX11_next0_254 rfl (lv_at hl 0 rfl) ?_
                      refine lv_bipush (pc := 255) (v := 40) hx hb dX11_next0_255 (by decide) ?_
                      refine lv_icmp_eq (pc := 257) (tgt := 284) hx hb dX11_next0_257 (by decide) (fun c19 => ?_) (fun c19 => ?_)
                      · replace h := z_t c19 h
                        exact w_X11_next0_284 X x7.1 M13 HM13 lM13 ls  wM13 (lv_sub hl [1, 0] rfl) h
                      · replace h := z_f c19 h
                        refine lv_iload_n (pc := 260) hx hb dX11_next0_260 rfl (lv_at hl 0 rfl) ?_
                        refine lv_bipush (pc := 261) (v := 41) hx hb dX11_next0_261 (by decide) ?_
                        refine lv_icmp_eq (pc := 263) (tgt := 284) hx hb dX11_next0_263 (by decide) (fun c20 => ?_) (fun c20 => ?_)
                        · replace h := z_t c20 h
                          exact w_X11_next0_284 X x7.1 M13 HM13 lM13 ls  wM13 (lv_sub hl [1, 0] rfl) h
                        · replace h := z_f c20 h
                          refine lv_iload_n (pc := 266) hx hb dX11_next0_266 rfl (lv_at hl 0 rfl) ?_
                          refine lv_bipush (pc := 267) (v := 60) hx hb dX11_next0_267 (by decide) ?_
                          refine lv_icmp_eq (pc := 269) (tgt := 284) hx hb dX11_next0_269 (by decide) (fun c21 => ?_) (fun c21 => ?_)
                          · replace h := z_t c21 h
                            exact w_X11_next0_284 X x7.1 M13 HM13 lM13 ls  wM13 (lv_sub hl [1, 0] rfl) h
                          · replace h := z_f c21 h
                            refine lv_iload_n (pc := 272) hx hb dX11_next0_272 rfl (lv_at hl 0 rfl) ?_
                            refine lv_bipush (pc := 273) (v := 61) hx hb dX11_next0_273 (by decide) ?_
                            refine lv_icmp_eq (pc := 275) (tgt := 284) hx hb dX11_next0_275 (by decide) (fun c22 => ?_) (fun c22 => ?_)
                            · replace h := z_t c22 h
                              exact w_X11_next0_284 X x7.1 M13 HM13 lM13 ls  wM13 (lv_sub hl [1, 0] rfl) h
                            · replace h := z_f c22 h
                              refine lv_iload_n (pc := 278) hx hb dX11_next0_278 rfl (lv_at hl 0 rfl) ?_
                              refine lv_bipush (pc := 279) (v := 62) hx hb dX11_next0_279 (by decide) ?_
                              refine lv_icmp_ne (pc := 281) (tgt := 288) hx hb dX11_next0_281 (by decide) (fun c23 => ?_) (fun c23 => ?_)
                              · replace h := z_f c23 h
                                refine lv_iconst (pc := 288) (v := 0) hx hb dX11_next0_288 (by decide) ?_
                                refine lv_istore_n (pc := 289) (lv' := [(2, .int (0 : Int32)), (1, .int x7.1), (0, .ref (G.1 40))]) hx hb dX11_next0_289 rfl hl (by decide) rfl (fun ls hl => ?_)
                                refine lv_aload_n (pc := 290) hx hb dX11_next0_290 rfl (lv_at hl 2 rfl) ?_
                                refine lv_iload_n (pc := 291) hx hb dX11_next0_291 rfl (lv_at hl 0 rfl) ?_
                                refine lv_if_eq (pc := 292) (tgt := 302) hx hb dX11_next0_292 (by decide) (fun c24 => ?_) (fun c24 => ?_)
                                · replace h := z_t c24 h
                                  refine lv_iconst (pc := 302) (v := 1) hx hb dX11_next0_302 (by decide) ?_
                                  refine zp_DrinkingRoofsModel_token (pc := 303) X wM13 zw_fl_5_83 dX11_next0_303 (fun HM25 lM25 wM25 => ?_)
                                  obtain ⟨M25, eM25, h⟩ := z_lo h
                                  rw [← eM25] at wM25
                                  obtain rfl := Option.some.inj h
                                  exact z_rv (pc := 306) X wM25 dX11_next0_306
                                · replace h := z_f c24 h
                                  refine lv_bipush (pc := 295) (v := 100) hx hb dX11_next0_295 (by decide) ?_
                                  refine lv_iload_n (pc := 297) hx hb dX11_next0_297 rfl (lv_at hl 1 rfl) ?_
                                  refine lv_iadd (pc := 298) hx hb dX11_next0_298 ?_
                                  refine lv_goto (pc := 299) (tgt := 303) hx hb dX11_next0_299 (by decide) ?_
                                  refine zp_DrinkingRoofsModel_token (pc := 303) X wM13 zw_fl_5_83 dX11_next0_303 (fun HM26 lM26 wM26 => ?_)
                                  obtain ⟨M26, eM26, h⟩ := z_lo h
                                  rw [← eM26] at wM26
                                  obtain rfl := Option.some.inj h
                                  exact z_rv (pc := 306) X wM26 dX11_next0_306
                              · replace h := z_t c23 h
                                exact w_X11_next0_284 X x7.1 M13 HM13 lM13 ls  wM13 (lv_sub hl [1, 0] rfl) h
          · replace h := z_f c12 h
            refine lv_aload_n (pc := 121) hx hb dX11_next0_121 rfl (lv_at hl 1 rfl) ?_
            refine lv_iconst (pc := 122) (v := 0) hx hb dX11_next0_122 (by decide) ?_
            refine zp_DrinkingRoofsModel_value (pc := 123) X wx11 zw_fl_5_85 dX11_next0_123 (fun HM27 lM27 wM27 => ?_)
            obtain ⟨M27, eM27, h⟩ := z_lo h
            rw [← eM27] at wM27
            exact w_X11_next0_126 X z_F  M27 HM27 lM27 ls  wM27 (lv_sub hl [1] rfl) h
        · replace h := z_f c10 h
          exact w_X11_next0_76 X z_F  x9.2 Hx9 lx9 ls  wx9 (lv_sub hl [1] rfl) h
      · replace h := z_t c8 h
        refine lv_aload_n (pc := 61) hx hb dX11_next0_61 rfl (lv_at hl 1 rfl) ?_
        refine lv_iconst (pc := 62) (v := 0) hx hb dX11_next0_62 (by decide) ?_
        refine zp_DrinkingRoofsModel_token (pc := 63) X wx7 zw_fl_5_83 dX11_next0_63 (fun HM28 lM28 wM28 => ?_)
        obtain ⟨M28, eM28, h⟩ := z_lo h
        rw [← eM28] at wM28
        refine lv_goto (pc := 66) (tgt := 306) hx hb dX11_next0_66 (by decide) ?_
        obtain rfl := Option.some.inj h
        exact z_rv (pc := 306) X wM28 dX11_next0_306
    · replace h := z_t c5 h
      refine lv_aload_n (pc := 26) hx hb dX11_next0_26 rfl (lv_at hl 0 rfl) ?_
      refine lv_dup (pc := 27) hx hb dX11_next0_27 rfl ?_
      refine zg_DrinkingRoofsModel_at (pc := 28) X wx4 zw_fl_5_82 dX11_next0_28 ?_
      refine lv_iconst (pc := 31) (v := 1) hx hb dX11_next0_31 (by decide) ?_
      refine lv_iadd (pc := 32) hx hb dX11_next0_32 ?_
      refine zp_DrinkingRoofsModel_at (pc := 33) X wx4 zw_fl_5_82 dX11_next0_33 (fun HM29 lM29 wM29 => ?_)
      obtain ⟨M29, eM29, h⟩ := z_lo h
      rw [← eM29] at wM29
      refine lv_goto (pc := 36) (tgt := 0) hx hb dX11_next0_36 (by decide) ?_
      exact w_X11_next0_0 X z_F  M29 HM29 lM29 ls  wM29 (lv_sub hl [0] rfl) h
def f_X11_bad (i1 : Int32) (M : zM) : Option (Int32 × zM) :=
  z_l (z_w M 40 15 i1) fun M1 =>
  z_l (z_w M1 40 16 (M1.1 40 13)) fun M2 =>
  some ((0 : Int32), M2)
set_option maxHeartbeats 4000000 in
set_option maxRecDepth 100000 in
theorem m_X11_bad {l : Launch} {G : zG} {i1 : Int32} {M : zM} {r : Int32 × zM} (h : f_X11_bad i1 M = some r) : z_T l G 0 yX11_bad (.code yX11_bad cX11_bad 2 (some .boolean)) [.ref (G.1 40), .int i1] M (some (.int r.1)) r.2 := by
  refine z_of rfl ?_
  intro p e s m below meth c X hw
  have hl := lv_entry [.ref (G.1 40), .int i1] (n := 2) (Nat.le_of_ble_eq_true rfl)
  rw [lg_entry_eq]
  generalize (lg_sl [.ref (G.1 40), .int i1] ++ List.replicate (2 - (lg_sl [.ref (G.1 40), .int i1]).length) Slot.unset).toArray = ls at hl ⊢
  have hl : lv_has ls 2 [(0, .ref (G.1 40)), (1, .int i1)] := hl
  generalize ([.ref (G.1 40), .int i1] : List Value).toArray = args at X ⊢
  have X : z_C G p s m args meth c cX11_bad 2 RX11 (some .boolean) := X
  have hx := X.1
  have hb := X.2.1
  unfold f_X11_bad at h
  refine lv_aload_n (pc := 0) hx hb dX11_bad_0 rfl (lv_at hl 0 rfl) ?_
  refine lv_iload_n (pc := 1) hx hb dX11_bad_1 rfl (lv_at hl 1 rfl) ?_
  refine zp_DrinkingRoofsModel_wrong (pc := 2) X hw zw_fl_5_86 dX11_bad_2 (fun HM1 lM1 wM1 => ?_)
  obtain ⟨M1, eM1, h⟩ := z_lo h
  rw [← eM1] at wM1
  refine lv_aload_n (pc := 5) hx hb dX11_bad_5 rfl (lv_at hl 0 rfl) ?_
  refine lv_aload_n (pc := 6) hx hb dX11_bad_6 rfl (lv_at hl 0 rfl) ?_
  refine zg_DrinkingRoofsModel_tokenAt (pc := 7) X wM1 zw_fl_5_84 dX11_bad_7 ?_
  refine zp_DrinkingRoofsModel_wrongAt (pc := 10) X wM1 zw_fl_5_87 dX11_bad_10 (fun HM2 lM2 wM2 => ?_)
  obtain ⟨M2, eM2, h⟩ := z_lo h
  rw [← eM2] at wM2
  refine lv_iconst (pc := 13) (v := 0) hx hb dX11_bad_13 (by decide) ?_
  obtain rfl := Option.some.inj h
  exact z_rz (pc := 14) X wM2 (z_nb (x := 0) (by decide)) dX11_bad_14
def f_X11_need (i1 : Int32) (M : zM) : Option (Int32 × zM) :=
  if (M.1 40 12) = i1 then (
    (f_X11_next0  M).bind fun x2 =>
    some ((1 : Int32), x2)
  ) else (
    (f_X11_bad (1 : Int32) M).bind fun x3 =>
    z_g (vp_nar .boolean x3.1 = x3.1) <|
    some (x3.1, x3.2)
  )
set_option maxHeartbeats 4000000 in
set_option maxRecDepth 100000 in
theorem m_X11_need {l : Launch} {G : zG} {i1 : Int32} {M : zM} {r : Int32 × zM} (h : f_X11_need i1 M = some r) : z_T l G 8 yX11_need (.code yX11_need cX11_need 2 (some .boolean)) [.ref (G.1 40), .int i1] M (some (.int r.1)) r.2 := by
  refine z_of rfl ?_
  intro p e s m below meth c X hw
  have hl := lv_entry [.ref (G.1 40), .int i1] (n := 2) (Nat.le_of_ble_eq_true rfl)
  rw [lg_entry_eq]
  generalize (lg_sl [.ref (G.1 40), .int i1] ++ List.replicate (2 - (lg_sl [.ref (G.1 40), .int i1]).length) Slot.unset).toArray = ls at hl ⊢
  have hl : lv_has ls 2 [(0, .ref (G.1 40)), (1, .int i1)] := hl
  generalize ([.ref (G.1 40), .int i1] : List Value).toArray = args at X ⊢
  have X : z_C G p s m args meth c cX11_need 2 RX11 (some .boolean) := X
  have hx := X.1
  have hb := X.2.1
  unfold f_X11_need at h
  refine lv_aload_n (pc := 0) hx hb dX11_need_0 rfl (lv_at hl 0 rfl) ?_
  refine zg_DrinkingRoofsModel_token (pc := 1) X hw zw_fl_5_83 dX11_need_1 ?_
  refine lv_iload_n (pc := 4) hx hb dX11_need_4 rfl (lv_at hl 1 rfl) ?_
  refine lv_icmp_eq (pc := 5) (tgt := 14) hx hb dX11_need_5 (by decide) (fun c1 => ?_) (fun c1 => ?_)
  · replace h := z_t c1 h
    refine lv_aload_n (pc := 14) hx hb dX11_need_14 rfl (lv_at hl 0 rfl) ?_
    obtain ⟨x2, ex2, h⟩ := z_bd h
    refine z_cvV (pc := 15) (rest := []) X hw (m_X11_next0  ex2) (z_lt zk_40 (by decide)) (z_E11 zk_40) rfl zw_ml_6_16 zw_im_6_18 zw_se_S_39 zw_in_1_12 zw_co_6_19 zd_X11_next0 (by decide) rfl hl.1 rfl (Nat.le_of_ble_eq_true rfl) dX11_need_15 ⟨Nat.zero_le _, Nat.zero_le _⟩ (fun Hx2 lx2 wx2 => ?_)
    refine lv_iconst (pc := 18) (v := 1) hx hb dX11_need_18 (by decide) ?_
    obtain rfl := Option.some.inj h
    exact z_rz (pc := 19) X wx2 (z_nb (x := 1) (by decide)) dX11_need_19
  · replace h := z_f c1 h
    refine lv_aload_n (pc := 8) hx hb dX11_need_8 rfl (lv_at hl 0 rfl) ?_
    refine lv_iconst (pc := 9) (v := 1) hx hb dX11_need_9 (by decide) ?_
    obtain ⟨x3, ex3, h⟩ := z_bd h
    refine z_cvI (pc := 10) (rest := []) X hw (m_X11_bad  ex3) (z_lt zk_40 (by decide)) (z_E11 zk_40) rfl zw_ml_6_61 zw_im_6_63 zw_se_S_45 zw_in_1_12 zw_co_6_64 zd_X11_bad (by decide) rfl hl.1 rfl (Nat.le_of_ble_eq_true rfl) dX11_need_10 ⟨Nat.zero_le _, Nat.zero_le _⟩ (fun Hx3 lx3 wx3 => ?_)
    obtain ⟨g4, h⟩ := z_gd h
    obtain rfl := Option.some.inj h
    exact z_rz (pc := 13) X wx3 (z_nb g4) dX11_need_13
def f_X11_lay (i1 : Int32) (i2 : Int32) (M : zM) : Option (zM) :=
  z_g (z_ix ((2 : Int32) * (M.1 40 9)) 820) <|
  z_l (z_w M 44 (Int32.toNatClampNeg ((2 : Int32) * (M.1 40 9))) i1) fun M2 =>
  z_g (z_ix (((2 : Int32) * (M2.1 40 9)) + (1 : Int32)) 820) <|
  z_l (z_w M2 44 (Int32.toNatClampNeg (((2 : Int32) * (M2.1 40 9)) + (1 : Int32))) i2) fun M4 =>
  z_l (z_w M4 40 9 ((M4.1 40 9) + (1 : Int32))) fun M5 =>
  some M5
set_option maxHeartbeats 4000000 in
set_option maxRecDepth 100000 in
theorem m_X11_lay {l : Launch} {G : zG} {i1 : Int32} {i2 : Int32} {M : zM} {r : zM} (h : f_X11_lay i1 i2 M = some r) : z_T l G 0 yX11_lay (.code yX11_lay cX11_lay 3 none) [.ref (G.1 40), .int i1, .int i2] M none r := by
  refine z_of rfl ?_
  intro p e s m below meth c X hw
  have hl := lv_entry [.ref (G.1 40), .int i1, .int i2] (n := 3) (Nat.le_of_ble_eq_true rfl)
  rw [lg_entry_eq]
  generalize (lg_sl [.ref (G.1 40), .int i1, .int i2] ++ List.replicate (3 - (lg_sl [.ref (G.1 40), .int i1, .int i2]).length) Slot.unset).toArray = ls at hl ⊢
  have hl : lv_has ls 3 [(0, .ref (G.1 40)), (1, .int i1), (2, .int i2)] := hl
  generalize ([.ref (G.1 40), .int i1, .int i2] : List Value).toArray = args at X ⊢
  have X : z_C G p s m args meth c cX11_lay 3 RX11 none := X
  have hx := X.1
  have hb := X.2.1
  unfold f_X11_lay at h
  refine lv_aload_n (pc := 0) hx hb dX11_lay_0 rfl (lv_at hl 0 rfl) ?_
  refine zg_DrinkingRoofsModel_freshStep (pc := 1) X hw zw_fl_5_75 dX11_lay_1 ?_
  refine lv_iconst (pc := 4) (v := 2) hx hb dX11_lay_4 (by decide) ?_
  refine lv_aload_n (pc := 5) hx hb dX11_lay_5 rfl (lv_at hl 0 rfl) ?_
  refine zg_DrinkingRoofsModel_steps (pc := 6) X hw zw_fl_5_80 dX11_lay_6 ?_
  refine lv_imul (pc := 9) hx hb dX11_lay_9 ?_
  refine lv_iload_n (pc := 10) hx hb dX11_lay_10 rfl (lv_at hl 1 rfl) ?_
  obtain ⟨g1, h⟩ := z_gd h
  refine z_iast (pc := 11) X hw zk_44 zl_44 g1 dX11_lay_11 (fun HM2 lM2 wM2 => ?_)
  obtain ⟨M2, eM2, h⟩ := z_lo h
  rw [← eM2] at wM2
  refine lv_aload_n (pc := 12) hx hb dX11_lay_12 rfl (lv_at hl 0 rfl) ?_
  refine zg_DrinkingRoofsModel_freshStep (pc := 13) X wM2 zw_fl_5_75 dX11_lay_13 ?_
  refine lv_iconst (pc := 16) (v := 2) hx hb dX11_lay_16 (by decide) ?_
  refine lv_aload_n (pc := 17) hx hb dX11_lay_17 rfl (lv_at hl 0 rfl) ?_
  refine zg_DrinkingRoofsModel_steps (pc := 18) X wM2 zw_fl_5_80 dX11_lay_18 ?_
  refine lv_imul (pc := 21) hx hb dX11_lay_21 ?_
  refine lv_iconst (pc := 22) (v := 1) hx hb dX11_lay_22 (by decide) ?_
  refine lv_iadd (pc := 23) hx hb dX11_lay_23 ?_
  refine lv_iload_n (pc := 24) hx hb dX11_lay_24 rfl (lv_at hl 2 rfl) ?_
  obtain ⟨g3, h⟩ := z_gd h
  refine z_iast (pc := 25) X wM2 zk_44 zl_44 g3 dX11_lay_25 (fun HM4 lM4 wM4 => ?_)
  obtain ⟨M4, eM4, h⟩ := z_lo h
  rw [← eM4] at wM4
  refine lv_aload_n (pc := 26) hx hb dX11_lay_26 rfl (lv_at hl 0 rfl) ?_
  refine lv_dup (pc := 27) hx hb dX11_lay_27 rfl ?_
  refine zg_DrinkingRoofsModel_steps (pc := 28) X wM4 zw_fl_5_80 dX11_lay_28 ?_
  refine lv_iconst (pc := 31) (v := 1) hx hb dX11_lay_31 (by decide) ?_
  refine lv_iadd (pc := 32) hx hb dX11_lay_32 ?_
  refine zp_DrinkingRoofsModel_steps (pc := 33) X wM4 zw_fl_5_80 dX11_lay_33 (fun HM5 lM5 wM5 => ?_)
  obtain ⟨M5, eM5, h⟩ := z_lo h
  rw [← eM5] at wM5
  obtain rfl := Option.some.inj h
  exact z_rv (pc := 36) X wM5 dX11_lay_36
def f_X11_opens  (M : zM) : Option (Int32 × zM) :=
  if (M.1 40 18) = (8 : Int32) then (
    (f_X11_bad (3 : Int32) M).bind fun x4 =>
    z_g (vp_nar .boolean x4.1 = x4.1) <|
    some (x4.1, x4.2)
  ) else (
    z_l (z_w M 40 18 ((M.1 40 18) + (1 : Int32))) fun M2 =>
    (f_X11_next0  M2).bind fun x3 =>
    some ((1 : Int32), x3)
  )
set_option maxHeartbeats 4000000 in
set_option maxRecDepth 100000 in
theorem m_X11_opens {l : Launch} {G : zG} {M : zM} {r : Int32 × zM} (h : f_X11_opens  M = some r) : z_T l G 8 yX11_opens (.code yX11_opens cX11_opens 1 (some .boolean)) [.ref (G.1 40)] M (some (.int r.1)) r.2 := by
  refine z_of rfl ?_
  intro p e s m below meth c X hw
  have hl := lv_entry [.ref (G.1 40)] (n := 1) (Nat.le_of_ble_eq_true rfl)
  rw [lg_entry_eq]
  generalize (lg_sl [.ref (G.1 40)] ++ List.replicate (1 - (lg_sl [.ref (G.1 40)]).length) Slot.unset).toArray = ls at hl ⊢
  have hl : lv_has ls 1 [(0, .ref (G.1 40))] := hl
  generalize ([.ref (G.1 40)] : List Value).toArray = args at X ⊢
  have X : z_C G p s m args meth c cX11_opens 1 RX11 (some .boolean) := X
  have hx := X.1
  have hb := X.2.1
  unfold f_X11_opens at h
  refine lv_aload_n (pc := 0) hx hb dX11_opens_0 rfl (lv_at hl 0 rfl) ?_
  refine zg_DrinkingRoofsModel_depth (pc := 1) X hw zw_fl_5_89 dX11_opens_1 ?_
  refine lv_bipush (pc := 4) (v := 8) hx hb dX11_opens_4 (by decide) ?_
  refine lv_icmp_ne (pc := 6) (tgt := 15) hx hb dX11_opens_6 (by decide) (fun c1 => ?_) (fun c1 => ?_)
  · replace h := z_f c1 h
    refine lv_aload_n (pc := 15) hx hb dX11_opens_15 rfl (lv_at hl 0 rfl) ?_
    refine lv_dup (pc := 16) hx hb dX11_opens_16 rfl ?_
    refine zg_DrinkingRoofsModel_depth (pc := 17) X hw zw_fl_5_89 dX11_opens_17 ?_
    refine lv_iconst (pc := 20) (v := 1) hx hb dX11_opens_20 (by decide) ?_
    refine lv_iadd (pc := 21) hx hb dX11_opens_21 ?_
    refine zp_DrinkingRoofsModel_depth (pc := 22) X hw zw_fl_5_89 dX11_opens_22 (fun HM2 lM2 wM2 => ?_)
    obtain ⟨M2, eM2, h⟩ := z_lo h
    rw [← eM2] at wM2
    refine lv_aload_n (pc := 25) hx hb dX11_opens_25 rfl (lv_at hl 0 rfl) ?_
    obtain ⟨x3, ex3, h⟩ := z_bd h
    refine z_cvV (pc := 26) (rest := []) X wM2 (m_X11_next0  ex3) (z_lt zk_40 (by decide)) (z_E11 zk_40) rfl zw_ml_6_16 zw_im_6_18 zw_se_S_39 zw_in_1_12 zw_co_6_19 zd_X11_next0 (by decide) rfl hl.1 rfl (Nat.le_of_ble_eq_true rfl) dX11_opens_26 ⟨Nat.zero_le _, Nat.zero_le _⟩ (fun Hx3 lx3 wx3 => ?_)
    refine lv_iconst (pc := 29) (v := 1) hx hb dX11_opens_29 (by decide) ?_
    obtain rfl := Option.some.inj h
    exact z_rz (pc := 30) X wx3 (z_nb (x := 1) (by decide)) dX11_opens_30
  · replace h := z_t c1 h
    refine lv_aload_n (pc := 9) hx hb dX11_opens_9 rfl (lv_at hl 0 rfl) ?_
    refine lv_iconst (pc := 10) (v := 3) hx hb dX11_opens_10 (by decide) ?_
    obtain ⟨x4, ex4, h⟩ := z_bd h
    refine z_cvI (pc := 11) (rest := []) X hw (m_X11_bad  ex4) (z_lt zk_40 (by decide)) (z_E11 zk_40) rfl zw_ml_6_61 zw_im_6_63 zw_se_S_45 zw_in_1_12 zw_co_6_64 zd_X11_bad (by decide) rfl hl.1 rfl (Nat.le_of_ble_eq_true rfl) dX11_opens_11 ⟨Nat.zero_le _, Nat.zero_le _⟩ (fun Hx4 lx4 wx4 => ?_)
    obtain ⟨g5, h⟩ := z_gd h
    obtain rfl := Option.some.inj h
    exact z_rz (pc := 14) X wx4 (z_nb g5) dX11_opens_14
def f_X11_unit_30 (i1 : Int32) (M : zM) : Option (Int32 × zM) :=
    if i1 = 0 then (
      (f_X11_lay (0 : Int32) (M.1 40 14) M).bind fun x2 =>
      (f_X11_next0  x2).bind fun x3 =>
      some ((1 : Int32), x3)
    ) else (
      (f_X11_lay ((M.1 40 12) - (40 : Int32)) (M.1 40 14) M).bind fun x4 =>
      (f_X11_next0  x4).bind fun x5 =>
      some ((1 : Int32), x5)
    )
def f_X11_unit  (M : zM) : Option (Int32 × zM) :=
  (f_X11_isIn (M.1 40 12) (41 : Int32) (48 : Int32) M).bind fun x1 =>
  if (x1.2.1 40 12) = (2 : Int32) then (
    f_X11_unit_30 x1.1 x1.2
  ) else (
    if x1.1 = 0 then (
      (f_X11_bad (1 : Int32) x1.2).bind fun x4 =>
      z_g (vp_nar .boolean x4.1 = x4.1) <|
      some (x4.1, x4.2)
    ) else (
      f_X11_unit_30 x1.1 x1.2
    )
  )
set_option maxHeartbeats 4000000 in
set_option maxRecDepth 100000 in
theorem w_X11_unit_30 {G : zG} {p : Program} {l : Launch} {e : Env} {s : State} {m : MethodId} {args : Array Value} {below : List Frame} {meth : Method} {c : Code} (X : z_C G p s m args meth c cX11_unit 2 RX11 (some .boolean)) {r : Int32 × zM} : ∀ (i1 : Int32) (M : zM) (H : Heap) (locs : List Loc) (ls : Array Slot), z_W G M H locs → lv_has ls 2 [(0, .ref (G.1 40)), (1, .int i1)] → f_X11_unit_30 i1 M = some r → W p l e (z_rm 8) s m args below meth c H locs 0 0 (z_Q G below args s (some (.int r.1)) r.2) (F0 m 30 ls []) := by
  have hx := X.1
  have hb := X.2.1
  intro i1 M H locs ls  hw hl h
  unfold f_X11_unit_30 at h
  refine lv_aload_n (pc := 30) hx hb dX11_unit_30 rfl (lv_at hl 0 rfl) ?_
  refine lv_iload_n (pc := 31) hx hb dX11_unit_31 rfl (lv_at hl 1 rfl) ?_
  refine lv_if_eq (pc := 32) (tgt := 45) hx hb dX11_unit_32 (by decide) (fun c1 => ?_) (fun c1 => ?_)
  · replace h := z_t c1 h
    refine lv_iconst (pc := 45) (v := 0) hx hb dX11_unit_45 (by decide) ?_
    refine lv_aload_n (pc := 46) hx hb dX11_unit_46 rfl (lv_at hl 0 rfl) ?_
    refine zg_DrinkingRoofsModel_value (pc := 47) X hw zw_fl_5_85 dX11_unit_47 ?_
    obtain ⟨x2, ex2, h⟩ := z_bd h
    refine z_cvV (pc := 50) (rest := []) X hw (m_X11_lay  ex2) (z_lt zk_40 (by decide)) (z_E11 zk_40) rfl zw_ml_6_77 zw_im_6_79 zw_se_S_49 zw_in_1_12 zw_co_6_80 zd_X11_lay (by decide) rfl hl.1 rfl (Nat.le_of_ble_eq_true rfl) dX11_unit_50 ⟨Nat.zero_le _, Nat.zero_le _⟩ (fun Hx2 lx2 wx2 => ?_)
    refine lv_aload_n (pc := 53) hx hb dX11_unit_53 rfl (lv_at hl 0 rfl) ?_
    obtain ⟨x3, ex3, h⟩ := z_bd h
    refine z_cvV (pc := 54) (rest := []) X wx2 (m_X11_next0  ex3) (z_lt zk_40 (by decide)) (z_E11 zk_40) rfl zw_ml_6_16 zw_im_6_18 zw_se_S_39 zw_in_1_12 zw_co_6_19 zd_X11_next0 (by decide) rfl hl.1 rfl (Nat.le_of_ble_eq_true rfl) dX11_unit_54 ⟨Nat.zero_le _, Nat.zero_le _⟩ (fun Hx3 lx3 wx3 => ?_)
    refine lv_iconst (pc := 57) (v := 1) hx hb dX11_unit_57 (by decide) ?_
    obtain rfl := Option.some.inj h
    exact z_rz (pc := 58) X wx3 (z_nb (x := 1) (by decide)) dX11_unit_58
  · replace h := z_f c1 h
    refine lv_aload_n (pc := 35) hx hb dX11_unit_35 rfl (lv_at hl 0 rfl) ?_
    refine zg_DrinkingRoofsModel_token (pc := 36) X hw zw_fl_5_83 dX11_unit_36 ?_
    refine lv_bipush (pc := 39) (v := 40) hx hb dX11_unit_39 (by decide) ?_
    refine lv_isub (pc := 41) hx hb dX11_unit_41 ?_
    refine lv_goto (pc := 42) (tgt := 46) hx hb dX11_unit_42 (by decide) ?_
    refine lv_aload_n (pc := 46) hx hb dX11_unit_46 rfl (lv_at hl 0 rfl) ?_
    refine zg_DrinkingRoofsModel_value (pc := 47) X hw zw_fl_5_85 dX11_unit_47 ?_
    obtain ⟨x4, ex4, h⟩ := z_bd h
    refine z_cvV (pc := 50) (rest := []) X hw (m_X11_lay  ex4) (z_lt zk_40 (by decide)) (z_E11 zk_40) rfl zw_ml_6_77 zw_im_6_79 zw_se_S_49 zw_in_1_12 zw_co_6_80 zd_X11_lay (by decide) rfl hl.1 rfl (Nat.le_of_ble_eq_true rfl) dX11_unit_50 ⟨Nat.zero_le _, Nat.zero_le _⟩ (fun Hx4 lx4 wx4 => ?_)
    refine lv_aload_n (pc := 53) hx hb dX11_unit_53 rfl (lv_at hl 0 rfl) ?_
    obtain ⟨x5, ex5, h⟩ := z_bd h
    refine z_cvV (pc := 54) (rest := []) X wx4 (m_X11_next0  ex5) (z_lt zk_40 (by decide)) (z_E11 zk_40) rfl zw_ml_6_16 zw_im_6_18 zw_se_S_39 zw_in_1_12 zw_co_6_19 zd_X11_next0 (by decide) rfl hl.1 rfl (Nat.le_of_ble_eq_true rfl) dX11_unit_54 ⟨Nat.zero_le _, Nat.zero_le _⟩ (fun Hx5 lx5 wx5 => ?_)
    refine lv_iconst (pc := 57) (v := 1) hx hb dX11_unit_57 (by decide) ?_
    obtain rfl := Option.some.inj h
    exact z_rz (pc := 58) X wx5 (z_nb (x := 1) (by decide)) dX11_unit_58
set_option maxHeartbeats 4000000 in
set_option maxRecDepth 100000 in
theorem m_X11_unit {l : Launch} {G : zG} {M : zM} {r : Int32 × zM} (h : f_X11_unit  M = some r) : z_T l G 8 yX11_unit (.code yX11_unit cX11_unit 2 (some .boolean)) [.ref (G.1 40)] M (some (.int r.1)) r.2 := by
  refine z_of rfl ?_
  intro p e s m below meth c X hw
  have hl := lv_entry [.ref (G.1 40)] (n := 2) (Nat.le_of_ble_eq_true rfl)
  rw [lg_entry_eq]
  generalize (lg_sl [.ref (G.1 40)] ++ List.replicate (2 - (lg_sl [.ref (G.1 40)]).length) Slot.unset).toArray = ls at hl ⊢
  have hl : lv_has ls 2 [(0, .ref (G.1 40))] := hl
  generalize ([.ref (G.1 40)] : List Value).toArray = args at X ⊢
  have X : z_C G p s m args meth c cX11_unit 2 RX11 (some .boolean) := X
  have hx := X.1
  have hb := X.2.1
  unfold f_X11_unit at h
  refine lv_aload_n (pc := 0) hx hb dX11_unit_0 rfl (lv_at hl 0 rfl) ?_
  refine zg_DrinkingRoofsModel_token (pc := 1) X hw zw_fl_5_83 dX11_unit_1 ?_
  refine lv_bipush (pc := 4) (v := 41) hx hb dX11_unit_4 (by decide) ?_
  refine lv_bipush (pc := 6) (v := 48) hx hb dX11_unit_6 (by decide) ?_
  obtain ⟨x1, ex1, h⟩ := z_bd h
  refine z_csI (pc := 8) (rest := []) X hw (m_X11_isIn  ex1) zw_ml_5_209 zw_st_5_210 zw_in_1_12 zw_co_5_211 zd_X11_isIn (by decide) rfl hl.1 rfl (Nat.le_of_ble_eq_true rfl) dX11_unit_8 ⟨Nat.zero_le _, Nat.zero_le _⟩ (fun Hx1 lx1 wx1 => ?_)
  refine lv_istore_n (pc := 11) (lv' := [(1, .int x1.1), (0, .ref (G.1 40))]) hx hb dX11_unit_11 rfl hl (by decide) rfl (fun ls hl => ?_)
  refine lv_aload_n (pc := 12) hx hb dX11_unit_12 rfl (lv_at hl 1 rfl) ?_
  refine zg_DrinkingRoofsModel_token (pc := 13) X wx1 zw_fl_5_83 dX11_unit_13 ?_
  refine lv_iconst (pc := 16) (v := 2) hx hb dX11_unit_16 (by decide) ?_
  refine lv_icmp_eq (pc := 17) (tgt := 30) hx hb dX11_unit_17 (by decide) (fun c2 => ?_) (fun c2 => ?_)
  · replace h := z_t c2 h
    exact w_X11_unit_30 X x1.1 x1.2 Hx1 lx1 ls  wx1 (lv_sub hl [1, 0] rfl) h
  · replace h := z_f c2 h
    refine lv_iload_n (pc := 20) hx hb dX11_unit_20 rfl (lv_at hl 0 rfl) ?_
    refine lv_if_ne (pc := 21) (tgt := 30) hx hb dX11_unit_21 (by decide) (fun c3 => ?_) (fun c3 => ?_)
    · replace h := z_f c3 h
      exact w_X11_unit_30 X x1.1 x1.2 Hx1 lx1 ls  wx1 (lv_sub hl [1, 0] rfl) h
    · replace h := z_t c3 h
      refine lv_aload_n (pc := 24) hx hb dX11_unit_24 rfl (lv_at hl 1 rfl) ?_
      refine lv_iconst (pc := 25) (v := 1) hx hb dX11_unit_25 (by decide) ?_
      obtain ⟨x4, ex4, h⟩ := z_bd h
      refine z_cvI (pc := 26) (rest := []) X wx1 (m_X11_bad  ex4) (z_lt zk_40 (by decide)) (z_E11 zk_40) rfl zw_ml_6_61 zw_im_6_63 zw_se_S_45 zw_in_1_12 zw_co_6_64 zd_X11_bad (by decide) rfl hl.1 rfl (Nat.le_of_ble_eq_true rfl) dX11_unit_26 ⟨Nat.zero_le _, Nat.zero_le _⟩ (fun Hx4 lx4 wx4 => ?_)
      obtain ⟨g5, h⟩ := z_gd h
      obtain rfl := Option.some.inj h
      exact z_rz (pc := 29) X wx4 (z_nb g5) dX11_unit_29
def f_X11_product_44 (K9 : zM → Option (Int32 × zM)) (si0 : Int32) (M : zM) : Option (Int32 × zM) :=
    (f_X11_next0  M).bind fun x1 =>
    if si0 = 0 then (
      (f_X11_unit  x1).bind fun x3 =>
      if x3.1 = 0 then (
        some ((0 : Int32), x3.2)
      ) else (
        (f_X11_lay (15 : Int32) (0 : Int32) x3.2).bind fun x5 =>
        K9  x5
      )
    ) else (
      z_l (x1.1 40 14) fun v6 =>
      if (x1.1 40 12) = (2 : Int32) then (
        if v6 = 0 then (
          (f_X11_bad (2 : Int32) x1).bind fun x11 =>
          z_g (vp_nar .boolean x11.1 = x11.1) <|
          some (x11.1, x11.2)
        ) else (
          (f_X11_next0  x1).bind fun x9 =>
          (f_X11_lay (16 : Int32) v6 x9).bind fun x10 =>
          K9  x10
        )
      ) else (
        (f_X11_bad (1 : Int32) x1).bind fun x13 =>
        z_g (vp_nar .boolean x13.1 = x13.1) <|
        some (x13.1, x13.2)
      )
    )
def f_X11_product_9 : Nat → zM → Option (Int32 × zM)
  | 0, _ => none
  | n + 1, M =>
    if (M.1 40 12) = (142 : Int32) then (
      if (M.1 40 12) = (147 : Int32) then (
        f_X11_product_44 (f_X11_product_9 n) (1 : Int32) M
      ) else (
        f_X11_product_44 (f_X11_product_9 n) (0 : Int32) M
      )
    ) else (
      if (M.1 40 12) = (147 : Int32) then (
        if (M.1 40 12) = (147 : Int32) then (
          f_X11_product_44 (f_X11_product_9 n) (1 : Int32) M
        ) else (
          f_X11_product_44 (f_X11_product_9 n) (0 : Int32) M
        )
      ) else (
        some ((1 : Int32), M)
      )
    )
def f_X11_product  (M : zM) : Option (Int32 × zM) :=
  (f_X11_unit  M).bind fun x1 =>
  if x1.1 = 0 then (
    some ((0 : Int32), x1.2)
  ) else (
    f_X11_product_9 z_F  x1.2
  )
set_option maxHeartbeats 4000000 in
set_option maxRecDepth 100000 in
theorem w_X11_product_44 {G : zG} {p : Program} {l : Launch} {e : Env} {s : State} {m : MethodId} {args : Array Value} {below : List Frame} {meth : Method} {c : Code} (X : z_C G p s m args meth c cX11_product 3 RX11 (some .boolean)) {r : Int32 × zM} {K9 : zM → Option (Int32 × zM)} (hK9 : ∀  (M : zM) (H : Heap) (locs : List Loc) (ls : Array Slot), z_W G M H locs → lv_has ls 3 [(0, .ref (G.1 40))] → K9  M = some r → W p l e (z_rm 9) s m args below meth c H locs 0 0 (z_Q G below args s (some (.int r.1)) r.2) (F0 m 9 ls [])) : ∀ (si0 : Int32) (M : zM) (H : Heap) (locs : List Loc) (ls : Array Slot), z_W G M H locs → lv_has ls 3 [(0, .ref (G.1 40))] → f_X11_product_44 K9 si0 M = some r → W p l e (z_rm 9) s m args below meth c H locs 0 0 (z_Q G below args s (some (.int r.1)) r.2) (F0 m 44 ls [.int si0]) := by
  have hx := X.1
  have hb := X.2.1
  intro si0 M H locs ls  hw hl h
  unfold f_X11_product_44 at h
  refine lv_istore_n (pc := 44) (lv' := [(1, .int si0), (0, .ref (G.1 40))]) hx hb dX11_product_44 rfl hl (by decide) rfl (fun ls hl => ?_)
  refine lv_aload_n (pc := 45) hx hb dX11_product_45 rfl (lv_at hl 1 rfl) ?_
  obtain ⟨x1, ex1, h⟩ := z_bd h
  refine z_cvV (pc := 46) (rest := []) X hw (m_X11_next0  ex1) (z_lt zk_40 (by decide)) (z_E11 zk_40) rfl zw_ml_6_16 zw_im_6_18 zw_se_S_39 zw_in_1_12 zw_co_6_19 zd_X11_next0 (by decide) rfl hl.1 rfl (Nat.le_of_ble_eq_true rfl) dX11_product_46 ⟨Nat.zero_le _, Nat.zero_le _⟩ (fun Hx1 lx1 wx1 => ?_)
  refine lv_iload_n (pc := 49) hx hb dX11_product_49 rfl (lv_at hl 0 rfl) ?_
  refine lv_if_eq (pc := 50) (tgt := 96) hx hb dX11_product_50 (by decide) (fun c2 => ?_) (fun c2 => ?_)
  · replace h := z_t c2 h
    refine lv_aload_n (pc := 96) hx hb dX11_product_96 rfl (lv_at hl 1 rfl) ?_
    obtain ⟨x3, ex3, h⟩ := z_bd h
    refine z_cvI (pc := 97) (rest := []) X wx1 (m_X11_unit  ex3) (z_lt zk_40 (by decide)) (z_E11 zk_40) rfl zw_ml_6_73 zw_im_6_75 zw_se_S_48 zw_in_1_12 zw_co_6_76 zd_X11_unit (by decide) rfl hl.1 rfl (Nat.le_of_ble_eq_true rfl) dX11_product_97 ⟨Nat.zero_le _, Nat.zero_le _⟩ (fun Hx3 lx3 wx3 => ?_)
    refine lv_if_ne (pc := 100) (tgt := 105) hx hb dX11_product_100 (by decide) (fun c4 => ?_) (fun c4 => ?_)
    · replace h := z_f c4 h
      refine lv_aload_n (pc := 105) hx hb dX11_product_105 rfl (lv_at hl 1 rfl) ?_
      refine lv_bipush (pc := 106) (v := 15) hx hb dX11_product_106 (by decide) ?_
      refine lv_iconst (pc := 108) (v := 0) hx hb dX11_product_108 (by decide) ?_
      obtain ⟨x5, ex5, h⟩ := z_bd h
      refine z_cvV (pc := 109) (rest := []) X wx3 (m_X11_lay  ex5) (z_lt zk_40 (by decide)) (z_E11 zk_40) rfl zw_ml_6_77 zw_im_6_79 zw_se_S_49 zw_in_1_12 zw_co_6_80 zd_X11_lay (by decide) rfl hl.1 rfl (Nat.le_of_ble_eq_true rfl) dX11_product_109 ⟨Nat.zero_le _, Nat.zero_le _⟩ (fun Hx5 lx5 wx5 => ?_)
      refine lv_goto (pc := 112) (tgt := 9) hx hb dX11_product_112 (by decide) ?_
      exact hK9  x5 Hx5 lx5 ls  wx5 (lv_sub hl [1] rfl) h
    · replace h := z_t c4 h
      refine lv_iconst (pc := 103) (v := 0) hx hb dX11_product_103 (by decide) ?_
      obtain rfl := Option.some.inj h
      exact z_rz (pc := 104) X wx3 (z_nb (x := 0) (by decide)) dX11_product_104
  · replace h := z_f c2 h
    refine lv_aload_n (pc := 53) hx hb dX11_product_53 rfl (lv_at hl 1 rfl) ?_
    refine zg_DrinkingRoofsModel_value (pc := 54) X wx1 zw_fl_5_85 dX11_product_54 ?_
    obtain ⟨v6, ev6, h⟩ := z_lo h
    refine z_topi ev6 ?_
    refine lv_istore_n (pc := 57) (lv' := [(2, .int v6), (1, .int si0), (0, .ref (G.1 40))]) hx hb dX11_product_57 rfl hl (by decide) rfl (fun ls hl => ?_)
    refine lv_aload_n (pc := 58) hx hb dX11_product_58 rfl (lv_at hl 2 rfl) ?_
    refine zg_DrinkingRoofsModel_token (pc := 59) X wx1 zw_fl_5_83 dX11_product_59 ?_
    refine lv_iconst (pc := 62) (v := 2) hx hb dX11_product_62 (by decide) ?_
    refine lv_icmp_eq (pc := 63) (tgt := 72) hx hb dX11_product_63 (by decide) (fun c7 => ?_) (fun c7 => ?_)
    · replace h := z_t c7 h
      refine lv_iload_n (pc := 72) hx hb dX11_product_72 rfl (lv_at hl 0 rfl) ?_
      refine lv_if_ne (pc := 73) (tgt := 82) hx hb dX11_product_73 (by decide) (fun c8 => ?_) (fun c8 => ?_)
      · replace h := z_f c8 h
        refine lv_aload_n (pc := 82) hx hb dX11_product_82 rfl (lv_at hl 2 rfl) ?_
        obtain ⟨x9, ex9, h⟩ := z_bd h
        refine z_cvV (pc := 83) (rest := []) X wx1 (m_X11_next0  ex9) (z_lt zk_40 (by decide)) (z_E11 zk_40) rfl zw_ml_6_16 zw_im_6_18 zw_se_S_39 zw_in_1_12 zw_co_6_19 zd_X11_next0 (by decide) rfl hl.1 rfl (Nat.le_of_ble_eq_true rfl) dX11_product_83 ⟨Nat.zero_le _, Nat.zero_le _⟩ (fun Hx9 lx9 wx9 => ?_)
        refine lv_aload_n (pc := 86) hx hb dX11_product_86 rfl (lv_at hl 2 rfl) ?_
        refine lv_bipush (pc := 87) (v := 16) hx hb dX11_product_87 (by decide) ?_
        refine lv_iload_n (pc := 89) hx hb dX11_product_89 rfl (lv_at hl 0 rfl) ?_
        obtain ⟨x10, ex10, h⟩ := z_bd h
        refine z_cvV (pc := 90) (rest := []) X wx9 (m_X11_lay  ex10) (z_lt zk_40 (by decide)) (z_E11 zk_40) rfl zw_ml_6_77 zw_im_6_79 zw_se_S_49 zw_in_1_12 zw_co_6_80 zd_X11_lay (by decide) rfl hl.1 rfl (Nat.le_of_ble_eq_true rfl) dX11_product_90 ⟨Nat.zero_le _, Nat.zero_le _⟩ (fun Hx10 lx10 wx10 => ?_)
        refine lv_goto (pc := 93) (tgt := 112) hx hb dX11_product_93 (by decide) ?_
        refine lv_goto (pc := 112) (tgt := 9) hx hb dX11_product_112 (by decide) ?_
        exact hK9  x10 Hx10 lx10 ls  wx10 (lv_sub hl [2] rfl) h
      · replace h := z_t c8 h
        refine lv_aload_n (pc := 76) hx hb dX11_product_76 rfl (lv_at hl 2 rfl) ?_
        refine lv_iconst (pc := 77) (v := 2) hx hb dX11_product_77 (by decide) ?_
        obtain ⟨x11, ex11, h⟩ := z_bd h
        refine z_cvI (pc := 78) (rest := []) X wx1 (m_X11_bad  ex11) (z_lt zk_40 (by decide)) (z_E11 zk_40) rfl zw_ml_6_61 zw_im_6_63 zw_se_S_45 zw_in_1_12 zw_co_6_64 zd_X11_bad (by decide) rfl hl.1 rfl (Nat.le_of_ble_eq_true rfl) dX11_product_78 ⟨Nat.zero_le _, Nat.zero_le _⟩ (fun Hx11 lx11 wx11 => ?_)
        obtain ⟨g12, h⟩ := z_gd h
        obtain rfl := Option.some.inj h
        exact z_rz (pc := 81) X wx11 (z_nb g12) dX11_product_81
    · replace h := z_f c7 h
      refine lv_aload_n (pc := 66) hx hb dX11_product_66 rfl (lv_at hl 2 rfl) ?_
      refine lv_iconst (pc := 67) (v := 1) hx hb dX11_product_67 (by decide) ?_
      obtain ⟨x13, ex13, h⟩ := z_bd h
      refine z_cvI (pc := 68) (rest := []) X wx1 (m_X11_bad  ex13) (z_lt zk_40 (by decide)) (z_E11 zk_40) rfl zw_ml_6_61 zw_im_6_63 zw_se_S_45 zw_in_1_12 zw_co_6_64 zd_X11_bad (by decide) rfl hl.1 rfl (Nat.le_of_ble_eq_true rfl) dX11_product_68 ⟨Nat.zero_le _, Nat.zero_le _⟩ (fun Hx13 lx13 wx13 => ?_)
      obtain ⟨g14, h⟩ := z_gd h
      obtain rfl := Option.some.inj h
      exact z_rz (pc := 71) X wx13 (z_nb g14) dX11_product_71
set_option maxHeartbeats 4000000 in
set_option maxRecDepth 100000 in
theorem w_X11_product_9 {G : zG} {p : Program} {l : Launch} {e : Env} {s : State} {m : MethodId} {args : Array Value} {below : List Frame} {meth : Method} {c : Code} (X : z_C G p s m args meth c cX11_product 3 RX11 (some .boolean)) {r : Int32 × zM} : ∀ (n : Nat)  (M : zM) (H : Heap) (locs : List Loc) (ls : Array Slot), z_W G M H locs → lv_has ls 3 [(0, .ref (G.1 40))] → f_X11_product_9 n  M = some r → W p l e (z_rm 9) s m args below meth c H locs 0 0 (z_Q G below args s (some (.int r.1)) r.2) (F0 m 9 ls []) := by
  have hx := X.1
  have hb := X.2.1
  intro n
  induction n with
  | zero =>
    intro  M H locs ls  hw hl h
    exact z_no h
  | succ n ih =>
    intro  M H locs ls  hw hl h
    rw [f_X11_product_9] at h
    refine lv_aload_n (pc := 9) hx hb dX11_product_9 rfl (lv_at hl 0 rfl) ?_
    refine zg_DrinkingRoofsModel_token (pc := 10) X hw zw_fl_5_83 dX11_product_10 ?_
    refine lv_sipush (pc := 13) (v := 142) hx hb dX11_product_13 (by decide) ?_
    refine lv_icmp_eq (pc := 16) (tgt := 29) hx hb dX11_product_16 (by decide) (fun c1 => ?_) (fun c1 => ?_)
    · replace h := z_t c1 h
      refine lv_aload_n (pc := 29) hx hb dX11_product_29 rfl (lv_at hl 0 rfl) ?_
      refine zg_DrinkingRoofsModel_token (pc := 30) X hw zw_fl_5_83 dX11_product_30 ?_
      refine lv_sipush (pc := 33) (v := 147) hx hb dX11_product_33 (by decide) ?_
      refine lv_icmp_ne (pc := 36) (tgt := 43) hx hb dX11_product_36 (by decide) (fun c2 => ?_) (fun c2 => ?_)
      · replace h := z_f c2 h
        refine lv_iconst (pc := 43) (v := 0) hx hb dX11_product_43 (by decide) ?_
        exact w_X11_product_44 X ih (0 : Int32) M H locs ls  hw (lv_sub hl [0] rfl) h
      · replace h := z_t c2 h
        refine lv_iconst (pc := 39) (v := 1) hx hb dX11_product_39 (by decide) ?_
        refine lv_goto (pc := 40) (tgt := 44) hx hb dX11_product_40 (by decide) ?_
        exact w_X11_product_44 X ih (1 : Int32) M H locs ls  hw (lv_sub hl [0] rfl) h
    · replace h := z_f c1 h
      refine lv_aload_n (pc := 19) hx hb dX11_product_19 rfl (lv_at hl 0 rfl) ?_
      refine zg_DrinkingRoofsModel_token (pc := 20) X hw zw_fl_5_83 dX11_product_20 ?_
      refine lv_sipush (pc := 23) (v := 147) hx hb dX11_product_23 (by decide) ?_
      refine lv_icmp_ne (pc := 26) (tgt := 115) hx hb dX11_product_26 (by decide) (fun c3 => ?_) (fun c3 => ?_)
      · replace h := z_f c3 h
        refine lv_iconst (pc := 115) (v := 1) hx hb dX11_product_115 (by decide) ?_
        obtain rfl := Option.some.inj h
        exact z_rz (pc := 116) X hw (z_nb (x := 1) (by decide)) dX11_product_116
      · replace h := z_t c3 h
        refine lv_aload_n (pc := 29) hx hb dX11_product_29 rfl (lv_at hl 0 rfl) ?_
        refine zg_DrinkingRoofsModel_token (pc := 30) X hw zw_fl_5_83 dX11_product_30 ?_
        refine lv_sipush (pc := 33) (v := 147) hx hb dX11_product_33 (by decide) ?_
        refine lv_icmp_ne (pc := 36) (tgt := 43) hx hb dX11_product_36 (by decide) (fun c4 => ?_) (fun c4 => ?_)
        · replace h := z_f c4 h
          refine lv_iconst (pc := 43) (v := 0) hx hb dX11_product_43 (by decide) ?_
          exact w_X11_product_44 X ih (0 : Int32) M H locs ls  hw (lv_sub hl [0] rfl) h
        · replace h := z_t c4 h
          refine lv_iconst (pc := 39) (v := 1) hx hb dX11_product_39 (by decide) ?_
          refine lv_goto (pc := 40) (tgt := 44) hx hb dX11_product_40 (by decide) ?_
          exact w_X11_product_44 X ih (1 : Int32) M H locs ls  hw (lv_sub hl [0] rfl) h
set_option maxHeartbeats 4000000 in
set_option maxRecDepth 100000 in
theorem m_X11_product {l : Launch} {G : zG} {M : zM} {r : Int32 × zM} (h : f_X11_product  M = some r) : z_T l G 9 yX11_product (.code yX11_product cX11_product 3 (some .boolean)) [.ref (G.1 40)] M (some (.int r.1)) r.2 := by
  refine z_of rfl ?_
  intro p e s m below meth c X hw
  have hl := lv_entry [.ref (G.1 40)] (n := 3) (Nat.le_of_ble_eq_true rfl)
  rw [lg_entry_eq]
  generalize (lg_sl [.ref (G.1 40)] ++ List.replicate (3 - (lg_sl [.ref (G.1 40)]).length) Slot.unset).toArray = ls at hl ⊢
  have hl : lv_has ls 3 [(0, .ref (G.1 40))] := hl
  generalize ([.ref (G.1 40)] : List Value).toArray = args at X ⊢
  have X : z_C G p s m args meth c cX11_product 3 RX11 (some .boolean) := X
  have hx := X.1
  have hb := X.2.1
  unfold f_X11_product at h
  refine lv_aload_n (pc := 0) hx hb dX11_product_0 rfl (lv_at hl 0 rfl) ?_
  obtain ⟨x1, ex1, h⟩ := z_bd h
  refine z_cvI (pc := 1) (rest := []) X hw (m_X11_unit  ex1) (z_lt zk_40 (by decide)) (z_E11 zk_40) rfl zw_ml_6_73 zw_im_6_75 zw_se_S_48 zw_in_1_12 zw_co_6_76 zd_X11_unit (by decide) rfl hl.1 rfl (Nat.le_of_ble_eq_true rfl) dX11_product_1 ⟨Nat.zero_le _, Nat.zero_le _⟩ (fun Hx1 lx1 wx1 => ?_)
  refine lv_if_ne (pc := 4) (tgt := 9) hx hb dX11_product_4 (by decide) (fun c2 => ?_) (fun c2 => ?_)
  · replace h := z_f c2 h
    exact w_X11_product_9 X z_F  x1.2 Hx1 lx1 ls  wx1 (lv_sub hl [0] rfl) h
  · replace h := z_t c2 h
    refine lv_iconst (pc := 7) (v := 0) hx hb dX11_product_7 (by decide) ?_
    obtain rfl := Option.some.inj h
    exact z_rz (pc := 8) X wx1 (z_nb (x := 0) (by decide)) dX11_product_8
def f_X11_sumUp_29 (K9 : zM → Option (Int32 × zM))  (M : zM) : Option (Int32 × zM) :=
    if (M.1 40 12) = (143 : Int32) then (
      (f_X11_next0  M).bind fun x6 =>
      (f_X11_product  x6).bind fun x7 =>
      if x7.1 = 0 then (
        some ((0 : Int32), x7.2)
      ) else (
        (f_X11_lay (13 : Int32) (0 : Int32) x7.2).bind fun x9 =>
        K9  x9
      )
    ) else (
      (f_X11_next0  M).bind fun x2 =>
      (f_X11_product  x2).bind fun x3 =>
      if x3.1 = 0 then (
        some ((0 : Int32), x3.2)
      ) else (
        (f_X11_lay (14 : Int32) (0 : Int32) x3.2).bind fun x5 =>
        K9  x5
      )
    )
def f_X11_sumUp_9 : Nat → zM → Option (Int32 × zM)
  | 0, _ => none
  | n + 1, M =>
    if (M.1 40 12) = (143 : Int32) then (
      f_X11_sumUp_29 (f_X11_sumUp_9 n)  M
    ) else (
      if (M.1 40 12) = (145 : Int32) then (
        f_X11_sumUp_29 (f_X11_sumUp_9 n)  M
      ) else (
        some ((1 : Int32), M)
      )
    )
def f_X11_sumUp  (M : zM) : Option (Int32 × zM) :=
  (f_X11_product  M).bind fun x1 =>
  if x1.1 = 0 then (
    some ((0 : Int32), x1.2)
  ) else (
    f_X11_sumUp_9 z_F  x1.2
  )
set_option maxHeartbeats 4000000 in
set_option maxRecDepth 100000 in
theorem w_X11_sumUp_29 {G : zG} {p : Program} {l : Launch} {e : Env} {s : State} {m : MethodId} {args : Array Value} {below : List Frame} {meth : Method} {c : Code} (X : z_C G p s m args meth c cX11_sumUp 2 RX11 (some .boolean)) {r : Int32 × zM} {K9 : zM → Option (Int32 × zM)} (hK9 : ∀  (M : zM) (H : Heap) (locs : List Loc) (ls : Array Slot), z_W G M H locs → lv_has ls 2 [(0, .ref (G.1 40))] → K9  M = some r → W p l e (z_rm 10) s m args below meth c H locs 0 0 (z_Q G below args s (some (.int r.1)) r.2) (F0 m 9 ls [])) : ∀  (M : zM) (H : Heap) (locs : List Loc) (ls : Array Slot), z_W G M H locs → lv_has ls 2 [(0, .ref (G.1 40))] → f_X11_sumUp_29 K9  M = some r → W p l e (z_rm 10) s m args below meth c H locs 0 0 (z_Q G below args s (some (.int r.1)) r.2) (F0 m 29 ls []) := by
  have hx := X.1
  have hb := X.2.1
  intro  M H locs ls  hw hl h
  unfold f_X11_sumUp_29 at h
  refine lv_aload_n (pc := 29) hx hb dX11_sumUp_29 rfl (lv_at hl 0 rfl) ?_
  refine zg_DrinkingRoofsModel_token (pc := 30) X hw zw_fl_5_83 dX11_sumUp_30 ?_
  refine lv_sipush (pc := 33) (v := 143) hx hb dX11_sumUp_33 (by decide) ?_
  refine lv_icmp_ne (pc := 36) (tgt := 44) hx hb dX11_sumUp_36 (by decide) (fun c1 => ?_) (fun c1 => ?_)
  · replace h := z_f c1 h
    refine lv_bipush (pc := 44) (v := 14) hx hb dX11_sumUp_44 (by decide) ?_
    refine lv_istore_n (pc := 46) (lv' := [(1, .int (14 : Int32)), (0, .ref (G.1 40))]) hx hb dX11_sumUp_46 rfl hl (by decide) rfl (fun ls hl => ?_)
    refine lv_aload_n (pc := 47) hx hb dX11_sumUp_47 rfl (lv_at hl 1 rfl) ?_
    obtain ⟨x2, ex2, h⟩ := z_bd h
    refine z_cvV (pc := 48) (rest := []) X hw (m_X11_next0  ex2) (z_lt zk_40 (by decide)) (z_E11 zk_40) rfl zw_ml_6_16 zw_im_6_18 zw_se_S_39 zw_in_1_12 zw_co_6_19 zd_X11_next0 (by decide) rfl hl.1 rfl (Nat.le_of_ble_eq_true rfl) dX11_sumUp_48 ⟨Nat.zero_le _, Nat.zero_le _⟩ (fun Hx2 lx2 wx2 => ?_)
    refine lv_aload_n (pc := 51) hx hb dX11_sumUp_51 rfl (lv_at hl 1 rfl) ?_
    obtain ⟨x3, ex3, h⟩ := z_bd h
    refine z_cvI (pc := 52) (rest := []) X wx2 (m_X11_product  ex3) (z_lt zk_40 (by decide)) (z_E11 zk_40) rfl zw_ml_6_69 zw_im_6_71 zw_se_S_47 zw_in_1_12 zw_co_6_72 zd_X11_product (by decide) rfl hl.1 rfl (Nat.le_of_ble_eq_true rfl) dX11_sumUp_52 ⟨Nat.zero_le _, Nat.zero_le _⟩ (fun Hx3 lx3 wx3 => ?_)
    refine lv_if_ne (pc := 55) (tgt := 60) hx hb dX11_sumUp_55 (by decide) (fun c4 => ?_) (fun c4 => ?_)
    · replace h := z_f c4 h
      refine lv_aload_n (pc := 60) hx hb dX11_sumUp_60 rfl (lv_at hl 1 rfl) ?_
      refine lv_iload_n (pc := 61) hx hb dX11_sumUp_61 rfl (lv_at hl 0 rfl) ?_
      refine lv_iconst (pc := 62) (v := 0) hx hb dX11_sumUp_62 (by decide) ?_
      obtain ⟨x5, ex5, h⟩ := z_bd h
      refine z_cvV (pc := 63) (rest := []) X wx3 (m_X11_lay  ex5) (z_lt zk_40 (by decide)) (z_E11 zk_40) rfl zw_ml_6_77 zw_im_6_79 zw_se_S_49 zw_in_1_12 zw_co_6_80 zd_X11_lay (by decide) rfl hl.1 rfl (Nat.le_of_ble_eq_true rfl) dX11_sumUp_63 ⟨Nat.zero_le _, Nat.zero_le _⟩ (fun Hx5 lx5 wx5 => ?_)
      refine lv_goto (pc := 66) (tgt := 9) hx hb dX11_sumUp_66 (by decide) ?_
      exact hK9  x5 Hx5 lx5 ls  wx5 (lv_sub hl [1] rfl) h
    · replace h := z_t c4 h
      refine lv_iconst (pc := 58) (v := 0) hx hb dX11_sumUp_58 (by decide) ?_
      obtain rfl := Option.some.inj h
      exact z_rz (pc := 59) X wx3 (z_nb (x := 0) (by decide)) dX11_sumUp_59
  · replace h := z_t c1 h
    refine lv_bipush (pc := 39) (v := 13) hx hb dX11_sumUp_39 (by decide) ?_
    refine lv_goto (pc := 41) (tgt := 46) hx hb dX11_sumUp_41 (by decide) ?_
    refine lv_istore_n (pc := 46) (lv' := [(1, .int (13 : Int32)), (0, .ref (G.1 40))]) hx hb dX11_sumUp_46 rfl hl (by decide) rfl (fun ls hl => ?_)
    refine lv_aload_n (pc := 47) hx hb dX11_sumUp_47 rfl (lv_at hl 1 rfl) ?_
    obtain ⟨x6, ex6, h⟩ := z_bd h
    refine z_cvV (pc := 48) (rest := []) X hw (m_X11_next0  ex6) (z_lt zk_40 (by decide)) (z_E11 zk_40) rfl zw_ml_6_16 zw_im_6_18 zw_se_S_39 zw_in_1_12 zw_co_6_19 zd_X11_next0 (by decide) rfl hl.1 rfl (Nat.le_of_ble_eq_true rfl) dX11_sumUp_48 ⟨Nat.zero_le _, Nat.zero_le _⟩ (fun Hx6 lx6 wx6 => ?_)
    refine lv_aload_n (pc := 51) hx hb dX11_sumUp_51 rfl (lv_at hl 1 rfl) ?_
    obtain ⟨x7, ex7, h⟩ := z_bd h
    refine z_cvI (pc := 52) (rest := []) X wx6 (m_X11_product  ex7) (z_lt zk_40 (by decide)) (z_E11 zk_40) rfl zw_ml_6_69 zw_im_6_71 zw_se_S_47 zw_in_1_12 zw_co_6_72 zd_X11_product (by decide) rfl hl.1 rfl (Nat.le_of_ble_eq_true rfl) dX11_sumUp_52 ⟨Nat.zero_le _, Nat.zero_le _⟩ (fun Hx7 lx7 wx7 => ?_)
    refine lv_if_ne (pc := 55) (tgt := 60) hx hb dX11_sumUp_55 (by decide) (fun c8 => ?_) (fun c8 => ?_)
    · replace h := z_f c8 h
      refine lv_aload_n (pc := 60) hx hb dX11_sumUp_60 rfl (lv_at hl 1 rfl) ?_
      refine lv_iload_n (pc := 61) hx hb dX11_sumUp_61 rfl (lv_at hl 0 rfl) ?_
      refine lv_iconst (pc := 62) (v := 0) hx hb dX11_sumUp_62 (by decide) ?_
      obtain ⟨x9, ex9, h⟩ := z_bd h
      refine z_cvV (pc := 63) (rest := []) X wx7 (m_X11_lay  ex9) (z_lt zk_40 (by decide)) (z_E11 zk_40) rfl zw_ml_6_77 zw_im_6_79 zw_se_S_49 zw_in_1_12 zw_co_6_80 zd_X11_lay (by decide) rfl hl.1 rfl (Nat.le_of_ble_eq_true rfl) dX11_sumUp_63 ⟨Nat.zero_le _, Nat.zero_le _⟩ (fun Hx9 lx9 wx9 => ?_)
      refine lv_goto (pc := 66) (tgt := 9) hx hb dX11_sumUp_66 (by decide) ?_
      exact hK9  x9 Hx9 lx9 ls  wx9 (lv_sub hl [1] rfl) h
    · replace h := z_t c8 h
      refine lv_iconst (pc := 58) (v := 0) hx hb dX11_sumUp_58 (by decide) ?_
      obtain rfl := Option.some.inj h
      exact z_rz (pc := 59) X wx7 (z_nb (x := 0) (by decide)) dX11_sumUp_59
set_option maxHeartbeats 4000000 in
set_option maxRecDepth 100000 in
theorem w_X11_sumUp_9 {G : zG} {p : Program} {l : Launch} {e : Env} {s : State} {m : MethodId} {args : Array Value} {below : List Frame} {meth : Method} {c : Code} (X : z_C G p s m args meth c cX11_sumUp 2 RX11 (some .boolean)) {r : Int32 × zM} : ∀ (n : Nat)  (M : zM) (H : Heap) (locs : List Loc) (ls : Array Slot), z_W G M H locs → lv_has ls 2 [(0, .ref (G.1 40))] → f_X11_sumUp_9 n  M = some r → W p l e (z_rm 10) s m args below meth c H locs 0 0 (z_Q G below args s (some (.int r.1)) r.2) (F0 m 9 ls []) := by
  have hx := X.1
  have hb := X.2.1
  intro n
  induction n with
  | zero =>
    intro  M H locs ls  hw hl h
    exact z_no h
  | succ n ih =>
    intro  M H locs ls  hw hl h
    rw [f_X11_sumUp_9] at h
    refine lv_aload_n (pc := 9) hx hb dX11_sumUp_9 rfl (lv_at hl 0 rfl) ?_
    refine zg_DrinkingRoofsModel_token (pc := 10) X hw zw_fl_5_83 dX11_sumUp_10 ?_
    refine lv_sipush (pc := 13) (v := 143) hx hb dX11_sumUp_13 (by decide) ?_
    refine lv_icmp_eq (pc := 16) (tgt := 29) hx hb dX11_sumUp_16 (by decide) (fun c1 => ?_) (fun c1 => ?_)
    · replace h := z_t c1 h
      exact w_X11_sumUp_29 X ih  M H locs ls  hw (lv_sub hl [0] rfl) h
    · replace h := z_f c1 h
      refine lv_aload_n (pc := 19) hx hb dX11_sumUp_19 rfl (lv_at hl 0 rfl) ?_
      refine zg_DrinkingRoofsModel_token (pc := 20) X hw zw_fl_5_83 dX11_sumUp_20 ?_
      refine lv_sipush (pc := 23) (v := 145) hx hb dX11_sumUp_23 (by decide) ?_
      refine lv_icmp_ne (pc := 26) (tgt := 69) hx hb dX11_sumUp_26 (by decide) (fun c2 => ?_) (fun c2 => ?_)
      · replace h := z_f c2 h
        refine lv_iconst (pc := 69) (v := 1) hx hb dX11_sumUp_69 (by decide) ?_
        obtain rfl := Option.some.inj h
        exact z_rz (pc := 70) X hw (z_nb (x := 1) (by decide)) dX11_sumUp_70
      · replace h := z_t c2 h
        exact w_X11_sumUp_29 X ih  M H locs ls  hw (lv_sub hl [0] rfl) h
set_option maxHeartbeats 4000000 in
set_option maxRecDepth 100000 in
theorem m_X11_sumUp {l : Launch} {G : zG} {M : zM} {r : Int32 × zM} (h : f_X11_sumUp  M = some r) : z_T l G 10 yX11_sumUp (.code yX11_sumUp cX11_sumUp 2 (some .boolean)) [.ref (G.1 40)] M (some (.int r.1)) r.2 := by
  refine z_of rfl ?_
  intro p e s m below meth c X hw
  have hl := lv_entry [.ref (G.1 40)] (n := 2) (Nat.le_of_ble_eq_true rfl)
  rw [lg_entry_eq]
  generalize (lg_sl [.ref (G.1 40)] ++ List.replicate (2 - (lg_sl [.ref (G.1 40)]).length) Slot.unset).toArray = ls at hl ⊢
  have hl : lv_has ls 2 [(0, .ref (G.1 40))] := hl
  generalize ([.ref (G.1 40)] : List Value).toArray = args at X ⊢
  have X : z_C G p s m args meth c cX11_sumUp 2 RX11 (some .boolean) := X
  have hx := X.1
  have hb := X.2.1
  unfold f_X11_sumUp at h
  refine lv_aload_n (pc := 0) hx hb dX11_sumUp_0 rfl (lv_at hl 0 rfl) ?_
  obtain ⟨x1, ex1, h⟩ := z_bd h
  refine z_cvI (pc := 1) (rest := []) X hw (m_X11_product  ex1) (z_lt zk_40 (by decide)) (z_E11 zk_40) rfl zw_ml_6_69 zw_im_6_71 zw_se_S_47 zw_in_1_12 zw_co_6_72 zd_X11_product (by decide) rfl hl.1 rfl (Nat.le_of_ble_eq_true rfl) dX11_sumUp_1 ⟨Nat.zero_le _, Nat.zero_le _⟩ (fun Hx1 lx1 wx1 => ?_)
  refine lv_if_ne (pc := 4) (tgt := 9) hx hb dX11_sumUp_4 (by decide) (fun c2 => ?_) (fun c2 => ?_)
  · replace h := z_f c2 h
    exact w_X11_sumUp_9 X z_F  x1.2 Hx1 lx1 ls  wx1 (lv_sub hl [0] rfl) h
  · replace h := z_t c2 h
    refine lv_iconst (pc := 7) (v := 0) hx hb dX11_sumUp_7 (by decide) ?_
    obtain rfl := Option.some.inj h
    exact z_rz (pc := 8) X wx1 (z_nb (x := 0) (by decide)) dX11_sumUp_8
def f_X11_every_9 (S : zM → Option (Int32 × zM)) : Nat → zM → Option (Int32 × zM)
  | 0, _ => none
  | n + 1, M =>
    if (M.1 40 12) = (5 : Int32) then (
      (f_X11_next0  M).bind fun x2 =>
      (S  x2).bind fun x3 =>
      if x3.1 = 0 then (
        some ((0 : Int32), x3.2)
      ) else (
        (f_X11_lay (21 : Int32) (0 : Int32) x3.2).bind fun x5 =>
        f_X11_every_9 S n  x5
      )
    ) else (
      some ((1 : Int32), M)
    )
def f_X11_every (S : zM → Option (Int32 × zM))  (M : zM) : Option (Int32 × zM) :=
  (S  M).bind fun x1 =>
  if x1.1 = 0 then (
    some ((0 : Int32), x1.2)
  ) else (
    f_X11_every_9 S z_F  x1.2
  )
set_option maxHeartbeats 4000000 in
set_option maxRecDepth 100000 in
theorem w_X11_every_9 {G : zG} {p : Program} {l : Launch} {e : Env} {s : State} {m : MethodId} {args : Array Value} {below : List Frame} {meth : Method} {c : Code} (X : z_C G p s m args meth c cX11_every 1 RX11 (some .boolean)) {lev : Nat} (hlev : 12 ≤ lev) {S : zM → Option (Int32 × zM)} (hS : ∀  (M : zM) (q : Int32 × zM), S  M = some q → z_T l G lev yX11_oneTest (.code yX11_oneTest cX11_oneTest 2 (some .boolean)) [.ref (G.1 40)] M (some (.int q.1)) q.2) {r : Int32 × zM} : ∀ (n : Nat)  (M : zM) (H : Heap) (locs : List Loc) (ls : Array Slot), z_W G M H locs → lv_has ls 1 [(0, .ref (G.1 40))] → f_X11_every_9 S n  M = some r → W p l e (z_rm (lev + 1)) s m args below meth c H locs 0 0 (z_Q G below args s (some (.int r.1)) r.2) (F0 m 9 ls []) := by
  have hx := X.1
  have hb := X.2.1
  intro n
  induction n with
  | zero =>
    intro  M H locs ls  hw hl h
    exact z_no h
  | succ n ih =>
    intro  M H locs ls  hw hl h
    rw [f_X11_every_9] at h
    refine lv_aload_n (pc := 9) hx hb dX11_every_9 rfl (lv_at hl 0 rfl) ?_
    refine zg_DrinkingRoofsModel_token (pc := 10) X hw zw_fl_5_83 dX11_every_10 ?_
    refine lv_iconst (pc := 13) (v := 5) hx hb dX11_every_13 (by decide) ?_
    refine lv_icmp_ne (pc := 14) (tgt := 40) hx hb dX11_every_14 (by decide) (fun c1 => ?_) (fun c1 => ?_)
    · replace h := z_f c1 h
      refine lv_iconst (pc := 40) (v := 1) hx hb dX11_every_40 (by decide) ?_
      obtain rfl := Option.some.inj h
      exact z_rz (pc := 41) X hw (z_nb (x := 1) (by decide)) dX11_every_41
    · replace h := z_t c1 h
      refine lv_aload_n (pc := 17) hx hb dX11_every_17 rfl (lv_at hl 0 rfl) ?_
      obtain ⟨x2, ex2, h⟩ := z_bd h
      refine z_cvV (pc := 18) (rest := []) X hw (m_X11_next0  ex2) (z_lt zk_40 (by decide)) (z_E11 zk_40) rfl zw_ml_6_16 zw_im_6_18 zw_se_S_39 zw_in_1_12 zw_co_6_19 zd_X11_next0 (z_lv (by omega) (by decide)) rfl hl.1 rfl (Nat.le_of_ble_eq_true rfl) dX11_every_18 ⟨Nat.zero_le _, Nat.zero_le _⟩ (fun Hx2 lx2 wx2 => ?_)
      refine lv_aload_n (pc := 21) hx hb dX11_every_21 rfl (lv_at hl 0 rfl) ?_
      obtain ⟨x3, ex3, h⟩ := z_bd h
      refine z_cvI (pc := 22) (rest := []) X wx2 (hS  _ _  ex3) (z_lt zk_40 (by decide)) (z_E11 zk_40) rfl zw_ml_6_89 zw_im_6_91 zw_se_S_52 zw_in_1_12 zw_co_6_92 zd_X11_oneTest (z_lv (by omega) (by decide)) rfl hl.1 rfl (Nat.le_of_ble_eq_true rfl) dX11_every_22 ⟨Nat.zero_le _, Nat.zero_le _⟩ (fun Hx3 lx3 wx3 => ?_)
      refine lv_if_ne (pc := 25) (tgt := 30) hx hb dX11_every_25 (by decide) (fun c4 => ?_) (fun c4 => ?_)
      · replace h := z_f c4 h
        refine lv_aload_n (pc := 30) hx hb dX11_every_30 rfl (lv_at hl 0 rfl) ?_
        refine lv_bipush (pc := 31) (v := 21) hx hb dX11_every_31 (by decide) ?_
        refine lv_iconst (pc := 33) (v := 0) hx hb dX11_every_33 (by decide) ?_
        obtain ⟨x5, ex5, h⟩ := z_bd h
        refine z_cvV (pc := 34) (rest := []) X wx3 (m_X11_lay  ex5) (z_lt zk_40 (by decide)) (z_E11 zk_40) rfl zw_ml_6_77 zw_im_6_79 zw_se_S_49 zw_in_1_12 zw_co_6_80 zd_X11_lay (z_lv (by omega) (by decide)) rfl hl.1 rfl (Nat.le_of_ble_eq_true rfl) dX11_every_34 ⟨Nat.zero_le _, Nat.zero_le _⟩ (fun Hx5 lx5 wx5 => ?_)
        refine lv_goto (pc := 37) (tgt := 9) hx hb dX11_every_37 (by decide) ?_
        exact ih  x5 Hx5 lx5 ls  wx5 (lv_sub hl [0] rfl) h
      · replace h := z_t c4 h
        refine lv_iconst (pc := 28) (v := 0) hx hb dX11_every_28 (by decide) ?_
        obtain rfl := Option.some.inj h
        exact z_rz (pc := 29) X wx3 (z_nb (x := 0) (by decide)) dX11_every_29
set_option maxHeartbeats 4000000 in
set_option maxRecDepth 100000 in
theorem m_X11_every {l : Launch} {G : zG} {lev : Nat} (hlev : 12 ≤ lev) {S : zM → Option (Int32 × zM)} (hS : ∀  (M : zM) (q : Int32 × zM), S  M = some q → z_T l G lev yX11_oneTest (.code yX11_oneTest cX11_oneTest 2 (some .boolean)) [.ref (G.1 40)] M (some (.int q.1)) q.2) {M : zM} {r : Int32 × zM} (h : f_X11_every S  M = some r) : z_T l G (lev + 1) yX11_every (.code yX11_every cX11_every 1 (some .boolean)) [.ref (G.1 40)] M (some (.int r.1)) r.2 := by
  refine z_of rfl ?_
  intro p e s m below meth c X hw
  have hl := lv_entry [.ref (G.1 40)] (n := 1) (Nat.le_of_ble_eq_true rfl)
  rw [lg_entry_eq]
  generalize (lg_sl [.ref (G.1 40)] ++ List.replicate (1 - (lg_sl [.ref (G.1 40)]).length) Slot.unset).toArray = ls at hl ⊢
  have hl : lv_has ls 1 [(0, .ref (G.1 40))] := hl
  generalize ([.ref (G.1 40)] : List Value).toArray = args at X ⊢
  have X : z_C G p s m args meth c cX11_every 1 RX11 (some .boolean) := X
  have hx := X.1
  have hb := X.2.1
  unfold f_X11_every at h
  refine lv_aload_n (pc := 0) hx hb dX11_every_0 rfl (lv_at hl 0 rfl) ?_
  obtain ⟨x1, ex1, h⟩ := z_bd h
  refine z_cvI (pc := 1) (rest := []) X hw (hS  _ _  ex1) (z_lt zk_40 (by decide)) (z_E11 zk_40) rfl zw_ml_6_89 zw_im_6_91 zw_se_S_52 zw_in_1_12 zw_co_6_92 zd_X11_oneTest (z_lv (by omega) (by decide)) rfl hl.1 rfl (Nat.le_of_ble_eq_true rfl) dX11_every_1 ⟨Nat.zero_le _, Nat.zero_le _⟩ (fun Hx1 lx1 wx1 => ?_)
  refine lv_if_ne (pc := 4) (tgt := 9) hx hb dX11_every_4 (by decide) (fun c2 => ?_) (fun c2 => ?_)
  · replace h := z_f c2 h
    exact w_X11_every_9 X hlev hS z_F  x1.2 Hx1 lx1 ls  wx1 (lv_sub hl [0] rfl) h
  · replace h := z_t c2 h
    refine lv_iconst (pc := 7) (v := 0) hx hb dX11_every_7 (by decide) ?_
    obtain rfl := Option.some.inj h
    exact z_rz (pc := 8) X wx1 (z_nb (x := 0) (by decide)) dX11_every_8
