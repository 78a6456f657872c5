def f_X0_choose_7 : Nat → Nat → Int32 → zM → Option (Int32 × zM)
  | 0, _, _, _ => none
  | n + 1, k1, i2, M =>
    if (M.1 k1 0) ≤ i2 then (
      some ((1 : Int32), M)
    ) else (
      z_g (z_ix i2 10) <|
      if (M.1 (z_ra (k1 + 3) (Int32.toNatClampNeg i2)) 5) ≤ 0 then (
        z_l (i2 + (1 : Int32)) fun v4 =>
        f_X0_choose_7 n k1 v4 M
      ) else (
        if (M.1 32 2) < (7 : Int32) then (
          z_g (z_ix (M.1 32 2) 7) <|
          z_l (z_w M 33 (Int32.toNatClampNeg (M.1 32 2)) i2) fun M7 =>
          z_l (z_w M7 32 2 ((M7.1 32 2) + (1 : Int32))) fun M8 =>
          z_l (i2 + (1 : Int32)) fun v9 =>
          f_X0_choose_7 n k1 v9 M8
        ) else (
          some ((0 : Int32), M)
        )
      )
    )
def f_X0_choose (k1 : Nat) (M : zM) : Option (Int32 × zM) :=
  z_l (z_w M 32 2 (0 : Int32)) fun M1 =>
  f_X0_choose_7 z_F k1 (0 : Int32) M1
set_option maxHeartbeats 4000000 in
set_option maxRecDepth 100000 in
theorem w_X0_choose_7 {G : zG} {p : Program} {l : Launch} {e : Env} {s : State} {m : MethodId} {args : Array Value} {below : List Frame} {meth : Method} {c : Code} (X : z_C G p s m args meth c cX0_choose 3 RX0 (some .boolean)) {r : Int32 × zM} : ∀ (n : Nat) (k1 : Nat) (i2 : Int32) (M : zM) (H : Heap) (locs : List Loc) (ls : Array Slot), z_kd k1 = 5 → z_W G M H locs → lv_has ls 3 [(0, .ref (G.1 32)), (1, .ref (G.1 k1)), (2, .int i2)] → f_X0_choose_7 n k1 i2 M = some r → W p l e (z_rm 0) s m args below meth c H locs 0 0 (z_Q G below args s (some (.int r.1)) r.2) (F0 m 7 ls []) := by
  have hx := X.1
  have hb := X.2.1
  intro n
  induction n with
  | zero =>
    intro k1 i2 M H locs ls hk1 hw hl h
    exact z_no h
  | succ n ih =>
    intro k1 i2 M H locs ls hk1 hw hl h
    rw [f_X0_choose_7] at h
    refine lv_iload_n (pc := 7) hx hb dX0_choose_7 rfl (lv_at hl 2 rfl) ?_
    refine lv_aload_n (pc := 8) hx hb dX0_choose_8 rfl (lv_at hl 1 rfl) ?_
    refine zg_Roofs_count (pc := 9) X hw hk1 zw_fl_1_137 dX0_choose_9 ?_
    refine lv_icmp_ge (pc := 12) (tgt := 64) hx hb dX0_choose_12 (by decide) (fun c1 => ?_) (fun c1 => ?_)
    · replace h := z_t c1 h
      refine lv_iconst (pc := 64) (v := 1) hx hb dX0_choose_64 (by decide) ?_
      obtain rfl := Option.some.inj h
      exact z_rz (pc := 65) X hw (z_nb (x := 1) (by decide)) dX0_choose_65
    · replace h := z_f c1 h
      refine lv_aload_n (pc := 15) hx hb dX0_choose_15 rfl (lv_at hl 1 rfl) ?_
      refine zg_Roofs_houses (pc := 16) X hw hk1 zw_fl_1_145 dX0_choose_16 ?_
      refine lv_iload_n (pc := 19) hx hb dX0_choose_19 rfl (lv_at hl 2 rfl) ?_
      obtain ⟨g2, h⟩ := z_gd h
      refine z_aald16 (pc := 20) X hw (zk_Roofs_houses hk1) (zl_Roofs_houses hk1) g2 dX0_choose_20 ?_
      refine zg_House_clog (pc := 21) X hw (zk_el16 (zk_Roofs_houses hk1) g2) zw_fl_1_61 dX0_choose_21 ?_
      refine lv_if_le (pc := 24) (tgt := 58) hx hb dX0_choose_24 (by decide) (fun c3 => ?_) (fun c3 => ?_)
      · replace h := z_t c3 h
        obtain ⟨v4, ev4, h⟩ := z_lo h
        refine lv_iinc (pc := 58) (v := v4) (lv' := [(2, .int v4), (0, .ref (G.1 32)), (1, .ref (G.1 k1))]) hx hb dX0_choose_58 hl (k := 2) rfl (by rw [ev4]; rfl) (by decide) rfl (fun ls hl => ?_)
        refine lv_goto (pc := 61) (tgt := 7) hx hb dX0_choose_61 (by decide) ?_
        exact ih k1 v4 M H locs ls hk1 hw (lv_sub hl [1, 2, 0] rfl) h
      · replace h := z_f c3 h
        refine lv_aload_n (pc := 27) hx hb dX0_choose_27 rfl (lv_at hl 0 rfl) ?_
        refine zg_Blame_count (pc := 28) X hw zw_fl_2_108 dX0_choose_28 ?_
        refine lv_bipush (pc := 31) (v := 7) hx hb dX0_choose_31 (by decide) ?_
        refine lv_icmp_lt (pc := 33) (tgt := 38) hx hb dX0_choose_33 (by decide) (fun c5 => ?_) (fun c5 => ?_)
        · replace h := z_t c5 h
          refine lv_aload_n (pc := 38) hx hb dX0_choose_38 rfl (lv_at hl 0 rfl) ?_
          refine zg_Blame_clogged (pc := 39) X hw zw_fl_2_109 dX0_choose_39 ?_
          refine lv_aload_n (pc := 42) hx hb dX0_choose_42 rfl (lv_at hl 0 rfl) ?_
          refine zg_Blame_count (pc := 43) X hw zw_fl_2_108 dX0_choose_43 ?_
          refine lv_iload_n (pc := 46) hx hb dX0_choose_46 rfl (lv_at hl 2 rfl) ?_
          obtain ⟨g6, h⟩ := z_gd h
          refine z_iast (pc := 47) X hw zk_33 zl_33 g6 dX0_choose_47 (fun HM7 lM7 wM7 => ?_)
          obtain ⟨M7, eM7, h⟩ := z_lo h
          rw [← eM7] at wM7
          refine lv_aload_n (pc := 48) hx hb dX0_choose_48 rfl (lv_at hl 0 rfl) ?_
          refine lv_dup (pc := 49) hx hb dX0_choose_49 rfl ?_
          refine zg_Blame_count (pc := 50) X wM7 zw_fl_2_108 dX0_choose_50 ?_
          refine lv_iconst (pc := 53) (v := 1) hx hb dX0_choose_53 (by decide) ?_
          refine lv_iadd (pc := 54) hx hb dX0_choose_54 ?_
          refine zp_Blame_count (pc := 55) X wM7 zw_fl_2_108 dX0_choose_55 (fun HM8 lM8 wM8 => ?_)
          obtain ⟨M8, eM8, h⟩ := z_lo h
          rw [← eM8] at wM8
          obtain ⟨v9, ev9, h⟩ := z_lo h
          refine lv_iinc (pc := 58) (v := v9) (lv' := [(2, .int v9), (0, .ref (G.1 32)), (1, .ref (G.1 k1))]) hx hb dX0_choose_58 hl (k := 2) rfl (by rw [ev9]; rfl) (by decide) rfl (fun ls hl => ?_)
          refine lv_goto (pc := 61) (tgt := 7) hx hb dX0_choose_61 (by decide) ?_
          exact ih k1 v9 M8 HM8 lM8 ls hk1 wM8 (lv_sub hl [1, 2, 0] rfl) h
        · replace h := z_f c5 h
          refine lv_iconst (pc := 36) (v := 0) hx hb dX0_choose_36 (by decide) ?_
          obtain rfl := Option.some.inj h
          exact z_rz (pc := 37) X hw (z_nb (x := 0) (by decide)) dX0_choose_37
set_option maxHeartbeats 4000000 in
set_option maxRecDepth 100000 in
theorem m_X0_choose {l : Launch} {G : zG} {k1 : Nat} {M : zM} {r : Int32 × zM} (hk1 : z_kd k1 = 5) (h : f_X0_choose k1 M = some r) : z_T l G 0 yX0_choose (.code yX0_choose cX0_choose 3 (some .boolean)) [.ref (G.1 32), .ref (G.1 k1)] M (some (.int r.1)) r.2 := by
  refine z_of rfl ?_
  intro p e s m below meth c X hw
  have hl := lv_entry [.ref (G.1 32), .ref (G.1 k1)] (n := 3) (Nat.le_of_ble_eq_true rfl)
  rw [lg_entry_eq]
  generalize (lg_sl [.ref (G.1 32), .ref (G.1 k1)] ++ List.replicate (3 - (lg_sl [.ref (G.1 32), .ref (G.1 k1)]).length) Slot.unset).toArray = ls at hl ⊢
  have hl : lv_has ls 3 [(0, .ref (G.1 32)), (1, .ref (G.1 k1))] := hl
  generalize ([.ref (G.1 32), .ref (G.1 k1)] : List Value).toArray = args at X ⊢
  have X : z_C G p s m args meth c cX0_choose 3 RX0 (some .boolean) := X
  have hx := X.1
  have hb := X.2.1
  unfold f_X0_choose at h
  refine lv_aload_n (pc := 0) hx hb dX0_choose_0 rfl (lv_at hl 0 rfl) ?_
  refine lv_iconst (pc := 1) (v := 0) hx hb dX0_choose_1 (by decide) ?_
  refine zp_Blame_count (pc := 2) X hw zw_fl_2_108 dX0_choose_2 (fun HM1 lM1 wM1 => ?_)
  obtain ⟨M1, eM1, h⟩ := z_lo h
  rw [← eM1] at wM1
  refine lv_iconst (pc := 5) (v := 0) hx hb dX0_choose_5 (by decide) ?_
  refine lv_istore_n (pc := 6) (lv' := [(2, .int (0 : Int32)), (0, .ref (G.1 32)), (1, .ref (G.1 k1))]) hx hb dX0_choose_6 rfl hl (by decide) rfl (fun ls hl => ?_)
  exact w_X0_choose_7 X z_F k1 (0 : Int32) M1 HM1 lM1 ls hk1 wM1 (lv_sub hl [1, 2, 0] rfl) h
def f_X2_imagine (k0 : Nat) (k1 : Nat) (M : zM) : Option (zM) :=
  z_l (z_w M k0 0 (M.1 k1 0)) fun M1 =>
  z_l (z_w M1 k0 1 (M1.1 k1 1)) fun M2 =>
  z_l (z_w M2 k0 4 (M2.1 k1 4)) fun M3 =>
  z_l (z_w M3 k0 5 (M3.1 k1 5)) fun M4 =>
  z_l (z_w M4 k0 6 (M4.1 k1 6)) fun M5 =>
  z_l (z_w M5 k0 7 (M5.1 k1 7)) fun M6 =>
  z_l (z_w M6 k0 8 (M6.1 k1 8)) fun M7 =>
  z_l (z_w M7 k0 9 (M7.1 k1 9)) fun M8 =>
  some M8
set_option maxHeartbeats 4000000 in
set_option maxRecDepth 100000 in
theorem m_X2_imagine {l : Launch} {G : zG} {k0 : Nat} {k1 : Nat} {M : zM} {r : zM} (hk0 : z_kd k0 = 2) (hk1 : z_kd k1 = 2) (h : f_X2_imagine k0 k1 M = some r) : z_T l G 0 yX2_imagine (.code yX2_imagine cX2_imagine 2 none) [.ref (G.1 k0), .ref (G.1 k1)] M none r := by
  refine z_of rfl ?_
  intro p e s m below meth c X hw
  have hl := lv_entry [.ref (G.1 k0), .ref (G.1 k1)] (n := 2) (Nat.le_of_ble_eq_true rfl)
  rw [lg_entry_eq]
  generalize (lg_sl [.ref (G.1 k0), .ref (G.1 k1)] ++ List.replicate (2 - (lg_sl [.ref (G.1 k0), .ref (G.1 k1)]).length) Slot.unset).toArray = ls at hl ⊢
  have hl : lv_has ls 2 [(0, .ref (G.1 k0)), (1, .ref (G.1 k1))] := hl
  generalize ([.ref (G.1 k0), .ref (G.1 k1)] : List Value).toArray = args at X ⊢
  have X : z_C G p s m args meth c cX2_imagine 2 RX2 none := X
  have hx := X.1
  have hb := X.2.1
  unfold f_X2_imagine at h
  refine lv_aload_n (pc := 0) hx hb dX2_imagine_0 rfl (lv_at hl 0 rfl) ?_
  refine lv_aload_n (pc := 1) hx hb dX2_imagine_1 rfl (lv_at hl 1 rfl) ?_
  refine zg_House_area (pc := 2) X hw hk1 zw_fl_1_48 dX2_imagine_2 ?_
  refine zp_House_area (pc := 5) X hw hk0 zw_fl_1_48 dX2_imagine_5 (fun HM1 lM1 wM1 => ?_)
  obtain ⟨M1, eM1, h⟩ := z_lo h
  rw [← eM1] at wM1
  refine lv_aload_n (pc := 8) hx hb dX2_imagine_8 rfl (lv_at hl 0 rfl) ?_
  refine lv_aload_n (pc := 9) hx hb dX2_imagine_9 rfl (lv_at hl 1 rfl) ?_
  refine zg_House_carries (pc := 10) X wM1 hk1 zw_fl_1_50 dX2_imagine_10 ?_
  refine zp_House_carries (pc := 13) X wM1 hk0 zw_fl_1_50 dX2_imagine_13 (fun HM2 lM2 wM2 => ?_)
  obtain ⟨M2, eM2, h⟩ := z_lo h
  rw [← eM2] at wM2
  refine lv_aload_n (pc := 16) hx hb dX2_imagine_16 rfl (lv_at hl 0 rfl) ?_
  refine lv_aload_n (pc := 17) hx hb dX2_imagine_17 rfl (lv_at hl 1 rfl) ?_
  refine zg_House_empties (pc := 18) X wM2 hk1 zw_fl_1_57 dX2_imagine_18 ?_
  refine zp_House_empties (pc := 21) X wM2 hk0 zw_fl_1_57 dX2_imagine_21 (fun HM3 lM3 wM3 => ?_)
  obtain ⟨M3, eM3, h⟩ := z_lo h
  rw [← eM3] at wM3
  refine lv_aload_n (pc := 24) hx hb dX2_imagine_24 rfl (lv_at hl 0 rfl) ?_
  refine lv_aload_n (pc := 25) hx hb dX2_imagine_25 rfl (lv_at hl 1 rfl) ?_
  refine zg_House_clog (pc := 26) X wM3 hk1 zw_fl_1_62 dX2_imagine_26 ?_
  refine zp_House_clog (pc := 29) X wM3 hk0 zw_fl_1_62 dX2_imagine_29 (fun HM4 lM4 wM4 => ?_)
  obtain ⟨M4, eM4, h⟩ := z_lo h
  rw [← eM4] at wM4
  refine lv_aload_n (pc := 32) hx hb dX2_imagine_32 rfl (lv_at hl 0 rfl) ?_
  refine lv_aload_n (pc := 33) hx hb dX2_imagine_33 rfl (lv_at hl 1 rfl) ?_
  refine zg_House_barrel (pc := 34) X wM4 hk1 zw_fl_1_67 dX2_imagine_34 ?_
  refine zp_House_barrel (pc := 37) X wM4 hk0 zw_fl_1_67 dX2_imagine_37 (fun HM5 lM5 wM5 => ?_)
  obtain ⟨M5, eM5, h⟩ := z_lo h
  rw [← eM5] at wM5
  refine lv_aload_n (pc := 40) hx hb dX2_imagine_40 rfl (lv_at hl 0 rfl) ?_
  refine lv_aload_n (pc := 41) hx hb dX2_imagine_41 rfl (lv_at hl 1 rfl) ?_
  refine zg_House_let (pc := 42) X wM5 hk1 zw_fl_1_69 dX2_imagine_42 ?_
  refine zp_House_let (pc := 45) X wM5 hk0 zw_fl_1_69 dX2_imagine_45 (fun HM6 lM6 wM6 => ?_)
  obtain ⟨M6, eM6, h⟩ := z_lo h
  rw [← eM6] at wM6
  refine lv_aload_n (pc := 48) hx hb dX2_imagine_48 rfl (lv_at hl 0 rfl) ?_
  refine lv_aload_n (pc := 49) hx hb dX2_imagine_49 rfl (lv_at hl 1 rfl) ?_
  refine zg_House_held (pc := 50) X wM6 hk1 zw_fl_1_70 dX2_imagine_50 ?_
  refine zp_House_held (pc := 53) X wM6 hk0 zw_fl_1_70 dX2_imagine_53 (fun HM7 lM7 wM7 => ?_)
  obtain ⟨M7, eM7, h⟩ := z_lo h
  rw [← eM7] at wM7
  refine lv_aload_n (pc := 56) hx hb dX2_imagine_56 rfl (lv_at hl 0 rfl) ?_
  refine lv_aload_n (pc := 57) hx hb dX2_imagine_57 rfl (lv_at hl 1 rfl) ?_
  refine zg_House_snow (pc := 58) X wM7 hk1 zw_fl_1_74 dX2_imagine_58 ?_
  refine zp_House_snow (pc := 61) X wM7 hk0 zw_fl_1_74 dX2_imagine_61 (fun HM8 lM8 wM8 => ?_)
  obtain ⟨M8, eM8, h⟩ := z_lo h
  rw [← eM8] at wM8
  obtain rfl := Option.some.inj h
  exact z_rv (pc := 64) X wM8 dX2_imagine_64
def f_X5_imagine_18 : Nat → Nat → Nat → Int32 → zM → Option (zM)
  | 0, _, _, _, _ => none
  | n + 1, k0, k1, i2, M =>
    if (M.1 k0 0) ≤ i2 then (
      some M
    ) else (
      z_g (z_ix i2 10) <|
      z_g (z_ix i2 10) <|
      (f_X2_imagine (z_ra (k0 + 3) (Int32.toNatClampNeg i2)) (z_ra (k1 + 3) (Int32.toNatClampNeg i2)) M).bind fun x4 =>
      z_l (i2 + (1 : Int32)) fun v5 =>
      f_X5_imagine_18 n k0 k1 v5 x4
    )
def f_X5_imagine (k0 : Nat) (k1 : Nat) (M : zM) : Option (zM) :=
  z_l (z_w M k0 0 (M.1 k1 0)) fun M1 =>
  z_l (z_w M1 k0 1 (M1.1 k1 1)) fun M2 =>
  f_X5_imagine_18 z_F k0 k1 (0 : Int32) M2
set_option maxHeartbeats 4000000 in
set_option maxRecDepth 100000 in
theorem w_X5_imagine_18 {G : zG} {p : Program} {l : Launch} {e : Env} {s : State} {m : MethodId} {args : Array Value} {below : List Frame} {meth : Method} {c : Code} (X : z_C G p s m args meth c cX5_imagine 3 RX5 none) {r : zM} : ∀ (n : Nat) (k0 : Nat) (k1 : Nat) (i2 : Int32) (M : zM) (H : Heap) (locs : List Loc) (ls : Array Slot), z_kd k0 = 5 → z_kd k1 = 5 → z_W G M H locs → lv_has ls 3 [(0, .ref (G.1 k0)), (1, .ref (G.1 k1)), (2, .int i2)] → f_X5_imagine_18 n k0 k1 i2 M = some r → W p l e (z_rm 1) s m args below meth c H locs 0 0 (z_Q G below args s none r) (F0 m 18 ls []) := by
  have hx := X.1
  have hb := X.2.1
  intro n
  induction n with
  | zero =>
    intro k0 k1 i2 M H locs ls hk0 hk1 hw hl h
    exact z_no h
  | succ n ih =>
    intro k0 k1 i2 M H locs ls hk0 hk1 hw hl h
    rw [f_X5_imagine_18] at h
    refine lv_iload_n (pc := 18) hx hb dX5_imagine_18 rfl (lv_at hl 2 rfl) ?_
    refine lv_aload_n (pc := 19) hx hb dX5_imagine_19 rfl (lv_at hl 0 rfl) ?_
    refine zg_Roofs_count (pc := 20) X hw hk0 zw_fl_1_135 dX5_imagine_20 ?_
    refine lv_icmp_ge (pc := 23) (tgt := 47) hx hb dX5_imagine_23 (by decide) (fun c1 => ?_) (fun c1 => ?_)
    · replace h := z_t c1 h
      obtain rfl := Option.some.inj h
      exact z_rv (pc := 47) X hw dX5_imagine_47
    · replace h := z_f c1 h
      refine lv_aload_n (pc := 26) hx hb dX5_imagine_26 rfl (lv_at hl 0 rfl) ?_
      refine zg_Roofs_houses (pc := 27) X hw hk0 zw_fl_1_144 dX5_imagine_27 ?_
      refine lv_iload_n (pc := 30) hx hb dX5_imagine_30 rfl (lv_at hl 2 rfl) ?_
      obtain ⟨g2, h⟩ := z_gd h
      refine z_aald16 (pc := 31) X hw (zk_Roofs_houses hk0) (zl_Roofs_houses hk0) g2 dX5_imagine_31 ?_
      refine lv_aload_n (pc := 32) hx hb dX5_imagine_32 rfl (lv_at hl 1 rfl) ?_
      refine zg_Roofs_houses (pc := 33) X hw hk1 zw_fl_1_144 dX5_imagine_33 ?_
      refine lv_iload_n (pc := 36) hx hb dX5_imagine_36 rfl (lv_at hl 2 rfl) ?_
      obtain ⟨g3, h⟩ := z_gd h
      refine z_aald16 (pc := 37) X hw (zk_Roofs_houses hk1) (zl_Roofs_houses hk1) g3 dX5_imagine_37 ?_
      obtain ⟨x4, ex4, h⟩ := z_bd h
      refine z_cvV (pc := 38) (rest := []) X hw (m_X2_imagine (zk_el16 (zk_Roofs_houses hk0) g2) (zk_el16 (zk_Roofs_houses hk1) g3) ex4) (z_lt (zk_el16 (zk_Roofs_houses hk0) g2) (by decide)) (z_E2 (zk_el16 (zk_Roofs_houses hk0) g2)) rfl zw_ml_4_130 zw_im_4_131 zw_se_4_132 zw_in_1_4 zw_co_4_133 zd_X2_imagine (by decide) rfl hl.1 rfl (Nat.le_of_ble_eq_true rfl) dX5_imagine_38 ⟨Nat.zero_le _, Nat.zero_le _⟩ (fun Hx4 lx4 wx4 => ?_)
      obtain ⟨v5, ev5, h⟩ := z_lo h
      refine lv_iinc (pc := 41) (v := v5) (lv' := [(2, .int v5), (0, .ref (G.1 k0)), (1, .ref (G.1 k1))]) hx hb dX5_imagine_41 hl (k := 2) rfl (by rw [ev5]; rfl) (by decide) rfl (fun ls hl => ?_)
      refine lv_goto (pc := 44) (tgt := 18) hx hb dX5_imagine_44 (by decide) ?_
      exact ih k0 k1 v5 x4 Hx4 lx4 ls hk0 hk1 wx4 (lv_sub hl [1, 2, 0] rfl) h
set_option maxHeartbeats 4000000 in
set_option maxRecDepth 100000 in
theorem m_X5_imagine {l : Launch} {G : zG} {k0 : Nat} {k1 : Nat} {M : zM} {r : zM} (hk0 : z_kd k0 = 5) (hk1 : z_kd k1 = 5) (h : f_X5_imagine k0 k1 M = some r) : z_T l G 1 yX5_imagine (.code yX5_imagine cX5_imagine 3 none) [.ref (G.1 k0), .ref (G.1 k1)] M none r := by
  refine z_of rfl ?_
  intro p e s m below meth c X hw
  have hl := lv_entry [.ref (G.1 k0), .ref (G.1 k1)] (n := 3) (Nat.le_of_ble_eq_true rfl)
  rw [lg_entry_eq]
  generalize (lg_sl [.ref (G.1 k0), .ref (G.1 k1)] ++ List.replicate (3 - (lg_sl [.ref (G.1 k0), .ref (G.1 k1)]).length) Slot.unset).toArray = ls at hl ⊢
  have hl : lv_has ls 3 [(0, .ref (G.1 k0)), (1, .ref (G.1 k1))] := hl
  generalize ([.ref (G.1 k0), .ref (G.1 k1)] : List Value).toArray = args at X ⊢
  have X : z_C G p s m args meth c cX5_imagine 3 RX5 none := X
  have hx := X.1
  have hb := X.2.1
  unfold f_X5_imagine at h
  refine lv_aload_n (pc := 0) hx hb dX5_imagine_0 rfl (lv_at hl 0 rfl) ?_
  refine lv_aload_n (pc := 1) hx hb dX5_imagine_1 rfl (lv_at hl 1 rfl) ?_
  refine zg_Roofs_count (pc := 2) X hw hk1 zw_fl_1_135 dX5_imagine_2 ?_
  refine zp_Roofs_count (pc := 5) X hw hk0 zw_fl_1_135 dX5_imagine_5 (fun HM1 lM1 wM1 => ?_)
  obtain ⟨M1, eM1, h⟩ := z_lo h
  rw [← eM1] at wM1
  refine lv_aload_n (pc := 8) hx hb dX5_imagine_8 rfl (lv_at hl 0 rfl) ?_
  refine lv_aload_n (pc := 9) hx hb dX5_imagine_9 rfl (lv_at hl 1 rfl) ?_
  refine zg_Roofs_thaw (pc := 10) X wM1 hk1 zw_fl_1_141 dX5_imagine_10 ?_
  refine zp_Roofs_thaw (pc := 13) X wM1 hk0 zw_fl_1_141 dX5_imagine_13 (fun HM2 lM2 wM2 => ?_)
  obtain ⟨M2, eM2, h⟩ := z_lo h
  rw [← eM2] at wM2
  refine lv_iconst (pc := 16) (v := 0) hx hb dX5_imagine_16 (by decide) ?_
  refine lv_istore_n (pc := 17) (lv' := [(2, .int (0 : Int32)), (0, .ref (G.1 k0)), (1, .ref (G.1 k1))]) hx hb dX5_imagine_17 rfl hl (by decide) rfl (fun ls hl => ?_)
  exact w_X5_imagine_18 X z_F k0 k1 (0 : Int32) M2 HM2 lM2 ls hk0 hk1 wM2 (lv_sub hl [1, 2, 0] rfl) h
def f_X2_carriesAt (k0 : Nat) (i1 : Int32) (M : zM) : Option (Int32 × zM) :=
  some ((((M.1 k0 1) * ((10 : Int32) - i1)) / (10 : Int32)), M)
set_option maxHeartbeats 4000000 in
set_option maxRecDepth 100000 in
theorem m_X2_carriesAt {l : Launch} {G : zG} {k0 : Nat} {i1 : Int32} {M : zM} {r : Int32 × zM} (hk0 : z_kd k0 = 2) (h : f_X2_carriesAt k0 i1 M = some r) : z_T l G 0 yX2_carriesAt (.code yX2_carriesAt cX2_carriesAt 2 (some .int)) [.ref (G.1 k0), .int i1] M (some (.int r.1)) r.2 := by
  refine z_of rfl ?_
  intro p e s m below meth c X hw
  have hl := lv_entry [.ref (G.1 k0), .int i1] (n := 2) (Nat.le_of_ble_eq_true rfl)
  rw [lg_entry_eq]
  generalize (lg_sl [.ref (G.1 k0), .int i1] ++ List.replicate (2 - (lg_sl [.ref (G.1 k0), .int i1]).length) Slot.unset).toArray = ls at hl ⊢
  have hl : lv_has ls 2 [(0, .ref (G.1 k0)), (1, .int i1)] := hl
  generalize ([.ref (G.1 k0), .int i1] : List Value).toArray = args at X ⊢
  have X : z_C G p s m args meth c cX2_carriesAt 2 RX2 (some .int) := X
  have hx := X.1
  have hb := X.2.1
  unfold f_X2_carriesAt at h
  refine lv_aload_n (pc := 0) hx hb dX2_carriesAt_0 rfl (lv_at hl 0 rfl) ?_
  refine zg_House_carries (pc := 1) X hw hk0 zw_fl_1_50 dX2_carriesAt_1 ?_
  refine lv_bipush (pc := 4) (v := 10) hx hb dX2_carriesAt_4 (by decide) ?_
  refine lv_iload_n (pc := 6) hx hb dX2_carriesAt_6 rfl (lv_at hl 1 rfl) ?_
  refine lv_isub (pc := 7) hx hb dX2_carriesAt_7 ?_
  refine lv_imul (pc := 8) hx hb dX2_carriesAt_8 ?_
  refine lv_bipush (pc := 9) (v := 10) hx hb dX2_carriesAt_9 (by decide) ?_
  refine lv_idiv (pc := 11) hx hb dX2_carriesAt_11 (by decide) ?_
  obtain rfl := Option.some.inj h
  exact z_ri (pc := 12) X hw dX2_carriesAt_12
def f_X2_land (k0 : Nat) (k1 : Nat) (i2 : Int32) (i3 : Int32) (M : zM) : Option (Int32 × zM) :=
  z_g (z_ix i2 12) <|
  z_l ((M.1 (k1 + 1) (Int32.toNatClampNeg i2)) * (M.1 k0 0)) fun v2 =>
  z_g (z_ix i2 12) <|
  if (M.1 (k1 + 2) (Int32.toNatClampNeg i2)) = 0 then (
    z_l (if (i3 * (M.1 k0 0)) < (M.1 k0 9) then (i3 * (M.1 k0 0)) else (M.1 k0 9)) fun v5 =>
    z_l (z_w M k0 9 ((M.1 k0 9) - v5)) fun M6 =>
    some ((v2 + v5), M6)
  ) else (
    z_l (z_w M k0 9 ((M.1 k0 9) + v2)) fun M7 =>
    some ((0 : Int32), M7)
  )
set_option maxHeartbeats 4000000 in
set_option maxRecDepth 100000 in
theorem m_X2_land {l : Launch} {G : zG} {k0 : Nat} {k1 : Nat} {i2 : Int32} {i3 : Int32} {M : zM} {r : Int32 × zM} (hk0 : z_kd k0 = 2) (hk1 : z_kd k1 = 7) (h : f_X2_land k0 k1 i2 i3 M = some r) : z_T l G 0 yX2_land (.code yX2_land cX2_land 6 (some .int)) [.ref (G.1 k0), .ref (G.1 k1), .int i2, .int i3] M (some (.int r.1)) r.2 := by
  refine z_of rfl ?_
  intro p e s m below meth c X hw
  have hl := lv_entry [.ref (G.1 k0), .ref (G.1 k1), .int i2, .int i3] (n := 6) (Nat.le_of_ble_eq_true rfl)
  rw [lg_entry_eq]
  generalize (lg_sl [.ref (G.1 k0), .ref (G.1 k1), .int i2, .int i3] ++ List.replicate (6 - (lg_sl [.ref (G.1 k0), .ref (G.1 k1), .int i2, .int i3]).length) Slot.unset).toArray = ls at hl ⊢
  have hl : lv_has ls 6 [(0, .ref (G.1 k0)), (1, .ref (G.1 k1)), (2, .int i2), (3, .int i3)] := hl
  generalize ([.ref (G.1 k0), .ref (G.1 k1), .int i2, .int i3] : List Value).toArray = args at X ⊢
  have X : z_C G p s m args meth c cX2_land 6 RX2 (some .int) := X
  have hx := X.1
  have hb := X.2.1
  unfold f_X2_land at h
  refine lv_aload_n (pc := 0) hx hb dX2_land_0 rfl (lv_at hl 1 rfl) ?_
  refine zg_Storm_falls (pc := 1) X hw hk1 zw_fl_1_200 dX2_land_1 ?_
  refine lv_iload_n (pc := 4) hx hb dX2_land_4 rfl (lv_at hl 2 rfl) ?_
  obtain ⟨g1, h⟩ := z_gd h
  refine z_iald (pc := 5) X hw (zk_Storm_falls hk1) (zl_Storm_falls hk1) g1 dX2_land_5 ?_
  refine lv_aload_n (pc := 6) hx hb dX2_land_6 rfl (lv_at hl 0 rfl) ?_
  refine zg_House_area (pc := 7) X hw hk0 zw_fl_1_48 dX2_land_7 ?_
  refine lv_imul (pc := 10) hx hb dX2_land_10 ?_
  obtain ⟨v2, ev2, h⟩ := z_lo h
  refine z_topi ev2 ?_
  refine lv_istore (pc := 11) (lv' := [(4, .int v2), (0, .ref (G.1 k0)), (1, .ref (G.1 k1)), (2, .int i2), (3, .int i3)]) hx hb dX2_land_11 hl (by decide) rfl (fun ls hl => ?_)
  refine lv_aload_n (pc := 13) hx hb dX2_land_13 rfl (lv_at hl 2 rfl) ?_
  refine zg_Storm_snows (pc := 14) X hw hk1 zw_fl_1_203 dX2_land_14 ?_
  refine lv_iload_n (pc := 17) hx hb dX2_land_17 rfl (lv_at hl 3 rfl) ?_
  obtain ⟨g3, h⟩ := z_gd h
  refine z_zald (pc := 18) X hw (zk_Storm_snows hk1) (zl_Storm_snows hk1) g3 dX2_land_18 ?_
  refine lv_if_eq (pc := 19) (tgt := 35) hx hb dX2_land_19 (by decide) (fun c4 => ?_) (fun c4 => ?_)
  · replace h := z_t c4 h
    refine lv_aload_n (pc := 35) hx hb dX2_land_35 rfl (lv_at hl 1 rfl) ?_
    refine zg_House_snow (pc := 36) X hw hk0 zw_fl_1_74 dX2_land_36 ?_
    refine lv_iload_n (pc := 39) hx hb dX2_land_39 rfl (lv_at hl 4 rfl) ?_
    refine lv_aload_n (pc := 40) hx hb dX2_land_40 rfl (lv_at hl 1 rfl) ?_
    refine zg_House_area (pc := 41) X hw hk0 zw_fl_1_48 dX2_land_41 ?_
    refine lv_imul (pc := 44) hx hb dX2_land_44 ?_
    refine z_min (pc := 45) (rest := []) X zw_ml_4_46 zw_st_3_144 zw_in_1_17 zw_co_3_145 hl.1 ⟨Nat.zero_le _, Nat.zero_le _⟩ (z_lm (Nat.le_of_ble_eq_true rfl)) dX2_land_45 ?_
    obtain ⟨v5, ev5, h⟩ := z_lo h
    refine z_topi ev5 ?_
    refine lv_istore (pc := 48) (lv' := [(5, .int v5), (4, .int v2), (0, .ref (G.1 k0)), (1, .ref (G.1 k1)), (2, .int i2), (3, .int i3)]) hx hb dX2_land_48 hl (by decide) rfl (fun ls hl => ?_)
    refine lv_aload_n (pc := 50) hx hb dX2_land_50 rfl (lv_at hl 2 rfl) ?_
    refine lv_dup (pc := 51) hx hb dX2_land_51 rfl ?_
    refine zg_House_snow (pc := 52) X hw hk0 zw_fl_1_74 dX2_land_52 ?_
    refine lv_iload (pc := 55) hx hb dX2_land_55 (lv_at hl 0 rfl) ?_
    refine lv_isub (pc := 57) hx hb dX2_land_57 ?_
    refine zp_House_snow (pc := 58) X hw hk0 zw_fl_1_74 dX2_land_58 (fun HM6 lM6 wM6 => ?_)
    obtain ⟨M6, eM6, h⟩ := z_lo h
    rw [← eM6] at wM6
    refine lv_iload (pc := 61) hx hb dX2_land_61 (lv_at hl 1 rfl) ?_
    refine lv_iload (pc := 63) hx hb dX2_land_63 (lv_at hl 0 rfl) ?_
    refine lv_iadd (pc := 65) hx hb dX2_land_65 ?_
    obtain rfl := Option.some.inj h
    exact z_ri (pc := 66) X wM6 dX2_land_66
  · replace h := z_f c4 h
    refine lv_aload_n (pc := 22) hx hb dX2_land_22 rfl (lv_at hl 1 rfl) ?_
    refine lv_dup (pc := 23) hx hb dX2_land_23 rfl ?_
    refine zg_House_snow (pc := 24) X hw hk0 zw_fl_1_74 dX2_land_24 ?_
    refine lv_iload (pc := 27) hx hb dX2_land_27 (lv_at hl 0 rfl) ?_
    refine lv_iadd (pc := 29) hx hb dX2_land_29 ?_
    refine zp_House_snow (pc := 30) X hw hk0 zw_fl_1_74 dX2_land_30 (fun HM7 lM7 wM7 => ?_)
    obtain ⟨M7, eM7, h⟩ := z_lo h
    rw [← eM7] at wM7
    refine lv_iconst (pc := 33) (v := 0) hx hb dX2_land_33 (by decide) ?_
    obtain rfl := Option.some.inj h
    exact z_ri (pc := 34) X wM7 dX2_land_34
def f_X2_passBarrel (k0 : Nat) (i1 : Int32) (M : zM) : Option (Int32 × zM) :=
  if i1 = 0 then (
    z_l (if (M.1 k0 8) < (M.1 k0 7) then (M.1 k0 8) else (M.1 k0 7)) fun v4 =>
    z_l (z_w M k0 8 ((M.1 k0 8) - v4)) fun M5 =>
    some (v4, M5)
  ) else (
    z_l (if (if (0 : Int32) < ((M.1 k0 6) - (M.1 k0 8)) then ((M.1 k0 6) - (M.1 k0 8)) else (0 : Int32)) < i1 then (if (0 : Int32) < ((M.1 k0 6) - (M.1 k0 8)) then ((M.1 k0 6) - (M.1 k0 8)) else (0 : Int32)) else i1) fun v2 =>
    z_l (z_w M k0 8 ((M.1 k0 8) + v2)) fun M3 =>
    some ((i1 - v2), M3)
  )
set_option maxHeartbeats 4000000 in
set_option maxRecDepth 100000 in
theorem m_X2_passBarrel {l : Launch} {G : zG} {k0 : Nat} {i1 : Int32} {M : zM} {r : Int32 × zM} (hk0 : z_kd k0 = 2) (h : f_X2_passBarrel k0 i1 M = some r) : z_T l G 0 yX2_passBarrel (.code yX2_passBarrel cX2_passBarrel 3 (some .int)) [.ref (G.1 k0), .int i1] M (some (.int r.1)) r.2 := by
  refine z_of rfl ?_
  intro p e s m below meth c X hw
  have hl := lv_entry [.ref (G.1 k0), .int i1] (n := 3) (Nat.le_of_ble_eq_true rfl)
  rw [lg_entry_eq]
  generalize (lg_sl [.ref (G.1 k0), .int i1] ++ List.replicate (3 - (lg_sl [.ref (G.1 k0), .int i1]).length) Slot.unset).toArray = ls at hl ⊢
  have hl : lv_has ls 3 [(0, .ref (G.1 k0)), (1, .int i1)] := hl
  generalize ([.ref (G.1 k0), .int i1] : List Value).toArray = args at X ⊢
  have X : z_C G p s m args meth c cX2_passBarrel 3 RX2 (some .int) := X
  have hx := X.1
  have hb := X.2.1
  unfold f_X2_passBarrel at h
  refine lv_iload_n (pc := 0) hx hb dX2_passBarrel_0 rfl (lv_at hl 1 rfl) ?_
  refine lv_if_ne (pc := 1) (tgt := 28) hx hb dX2_passBarrel_1 (by decide) (fun c1 => ?_) (fun c1 => ?_)
  · replace h := z_f c1 h
    refine lv_iload_n (pc := 28) hx hb dX2_passBarrel_28 rfl (lv_at hl 1 rfl) ?_
    refine lv_iconst (pc := 29) (v := 0) hx hb dX2_passBarrel_29 (by decide) ?_
    refine lv_aload_n (pc := 30) hx hb dX2_passBarrel_30 rfl (lv_at hl 0 rfl) ?_
    refine zg_House_barrel (pc := 31) X hw hk0 zw_fl_1_67 dX2_passBarrel_31 ?_
    refine lv_aload_n (pc := 34) hx hb dX2_passBarrel_34 rfl (lv_at hl 0 rfl) ?_
    refine zg_House_held (pc := 35) X hw hk0 zw_fl_1_70 dX2_passBarrel_35 ?_
    refine lv_isub (pc := 38) hx hb dX2_passBarrel_38 ?_
    refine z_max (pc := 39) (rest := [.int i1]) X zw_ml_4_51 zw_st_3_141 zw_in_1_17 zw_co_3_142 hl.1 ⟨Nat.zero_le _, Nat.zero_le _⟩ (z_lm (Nat.le_of_ble_eq_true rfl)) dX2_passBarrel_39 ?_
    refine z_min (pc := 42) (rest := []) X zw_ml_4_46 zw_st_3_144 zw_in_1_17 zw_co_3_145 hl.1 ⟨Nat.zero_le _, Nat.zero_le _⟩ (z_lm (Nat.le_of_ble_eq_true rfl)) dX2_passBarrel_42 ?_
    obtain ⟨v2, ev2, h⟩ := z_lo h
    refine z_topi ev2 ?_
    refine lv_istore_n (pc := 45) (lv' := [(2, .int v2), (0, .ref (G.1 k0)), (1, .int i1)]) hx hb dX2_passBarrel_45 rfl hl (by decide) rfl (fun ls hl => ?_)
    refine lv_aload_n (pc := 46) hx hb dX2_passBarrel_46 rfl (lv_at hl 1 rfl) ?_
    refine lv_dup (pc := 47) hx hb dX2_passBarrel_47 rfl ?_
    refine zg_House_held (pc := 48) X hw hk0 zw_fl_1_70 dX2_passBarrel_48 ?_
    refine lv_iload_n (pc := 51) hx hb dX2_passBarrel_51 rfl (lv_at hl 0 rfl) ?_
    refine lv_iadd (pc := 52) hx hb dX2_passBarrel_52 ?_
    refine zp_House_held (pc := 53) X hw hk0 zw_fl_1_70 dX2_passBarrel_53 (fun HM3 lM3 wM3 => ?_)
    obtain ⟨M3, eM3, h⟩ := z_lo h
    rw [← eM3] at wM3
    refine lv_iload_n (pc := 56) hx hb dX2_passBarrel_56 rfl (lv_at hl 2 rfl) ?_
    refine lv_iload_n (pc := 57) hx hb dX2_passBarrel_57 rfl (lv_at hl 0 rfl) ?_
    refine lv_isub (pc := 58) hx hb dX2_passBarrel_58 ?_
    obtain rfl := Option.some.inj h
    exact z_ri (pc := 59) X wM3 dX2_passBarrel_59
  · replace h := z_t c1 h
    refine lv_aload_n (pc := 4) hx hb dX2_passBarrel_4 rfl (lv_at hl 0 rfl) ?_
    refine zg_House_let (pc := 5) X hw hk0 zw_fl_1_69 dX2_passBarrel_5 ?_
    refine lv_aload_n (pc := 8) hx hb dX2_passBarrel_8 rfl (lv_at hl 0 rfl) ?_
    refine zg_House_held (pc := 9) X hw hk0 zw_fl_1_70 dX2_passBarrel_9 ?_
    refine z_min (pc := 12) (rest := []) X zw_ml_4_46 zw_st_3_144 zw_in_1_17 zw_co_3_145 hl.1 ⟨Nat.zero_le _, Nat.zero_le _⟩ (z_lm (Nat.le_of_ble_eq_true rfl)) dX2_passBarrel_12 ?_
    obtain ⟨v4, ev4, h⟩ := z_lo h
    refine z_topi ev4 ?_
    refine lv_istore_n (pc := 15) (lv' := [(2, .int v4), (0, .ref (G.1 k0)), (1, .int i1)]) hx hb dX2_passBarrel_15 rfl hl (by decide) rfl (fun ls hl => ?_)
    refine lv_aload_n (pc := 16) hx hb dX2_passBarrel_16 rfl (lv_at hl 1 rfl) ?_
    refine lv_dup (pc := 17) hx hb dX2_passBarrel_17 rfl ?_
    refine zg_House_held (pc := 18) X hw hk0 zw_fl_1_70 dX2_passBarrel_18 ?_
    refine lv_iload_n (pc := 21) hx hb dX2_passBarrel_21 rfl (lv_at hl 0 rfl) ?_
    refine lv_isub (pc := 22) hx hb dX2_passBarrel_22 ?_
    refine zp_House_held (pc := 23) X hw hk0 zw_fl_1_70 dX2_passBarrel_23 (fun HM5 lM5 wM5 => ?_)
    obtain ⟨M5, eM5, h⟩ := z_lo h
    rw [← eM5] at wM5
    refine lv_iload_n (pc := 26) hx hb dX2_passBarrel_26 rfl (lv_at hl 0 rfl) ?_
    obtain rfl := Option.some.inj h
    exact z_ri (pc := 27) X wM5 dX2_passBarrel_27
def f_X2_drink_22 : Nat → Nat → Nat → Int32 → Int32 → Int32 → zM → Option (zM)
  | 0, _, _, _, _, _, _ => none
  | n + 1, k0, k1, i2, i3, i4, M =>
    if (M.1 k1 0) ≤ i4 then (
      some M
    ) else (
      z_g (z_ix i4 12) <|
      (f_X2_land k0 k1 i4 i2 M).bind fun x3 =>
      (f_X2_passBarrel k0 ((M.1 (k0 + 1) (Int32.toNatClampNeg i4)) + x3.1) x3.2).bind fun x4 =>
      z_g (z_ix i4 12) <|
      z_l (z_w x4.2 (k0 + 2) (Int32.toNatClampNeg i4) x4.1) fun M6 =>
      z_g (z_ix i4 12) <|
      z_l (z_w M6 (k0 + 3) (Int32.toNatClampNeg i4) (if i3 < x4.1 then i3 else x4.1)) fun M8 =>
      z_g (z_ix i4 12) <|
      z_g (z_ix i4 12) <|
      z_l (z_w M8 (k0 + 4) (Int32.toNatClampNeg i4) (x4.1 - (M8.1 (k0 + 3) (Int32.toNatClampNeg i4)))) fun M11 =>
      z_g (z_ix i4 12) <|
      z_l (z_w M11 k0 12 ((M11.1 k0 12) + (M11.1 (k0 + 4) (Int32.toNatClampNeg i4)))) fun M13 =>
      z_l (z_w M13 k0 14 (if (M13.1 k0 14) < x4.1 then x4.1 else (M13.1 k0 14))) fun M14 =>
      z_l (i4 + (1 : Int32)) fun v15 =>
      f_X2_drink_22 n k0 k1 i2 i3 v15 M14
    )
def f_X2_drink (k0 : Nat) (k1 : Nat) (i2 : Int32) (M : zM) : Option (zM) :=
  (f_X2_carriesAt k0 (M.1 k0 5) M).bind fun x1 =>
  z_l (z_w x1.2 k0 12 (0 : Int32)) fun M2 =>
  z_l (z_w M2 k0 14 (0 : Int32)) fun M3 =>
  f_X2_drink_22 z_F k0 k1 i2 x1.1 (0 : Int32) M3
set_option maxHeartbeats 4000000 in
set_option maxRecDepth 100000 in
theorem w_X2_drink_22 {G : zG} {p : Program} {l : Launch} {e : Env} {s : State} {m : MethodId} {args : Array Value} {below : List Frame} {meth : Method} {c : Code} (X : z_C G p s m args meth c cX2_drink 6 RX2 none) {r : zM} : ∀ (n : Nat) (k0 : Nat) (k1 : Nat) (i2 : Int32) (i3 : Int32) (i4 : Int32) (M : zM) (H : Heap) (locs : List Loc) (ls : Array Slot), z_kd k0 = 2 → z_kd k1 = 7 → z_W G M H locs → lv_has ls 6 [(0, .ref (G.1 k0)), (1, .ref (G.1 k1)), (2, .int i2), (3, .int i3), (4, .int i4)] → f_X2_drink_22 n k0 k1 i2 i3 i4 M = some r → W p l e (z_rm 1) s m args below meth c H locs 0 0 (z_Q G below args s none r) (F0 m 22 ls []) := by
  have hx := X.1
  have hb := X.2.1
  intro n
  induction n with
  | zero =>
    intro k0 k1 i2 i3 i4 M H locs ls hk0 hk1 hw hl h
    exact z_no h
  | succ n ih =>
    intro k0 k1 i2 i3 i4 M H locs ls hk0 hk1 hw hl h
    rw [f_X2_drink_22] at h
    refine lv_iload (pc := 22) hx hb dX2_drink_22 (lv_at hl 4 rfl) ?_
    refine lv_aload_n (pc := 24) hx hb dX2_drink_24 rfl (lv_at hl 1 rfl) ?_
    refine zg_Storm_hours (pc := 25) X hw hk1 zw_fl_1_197 dX2_drink_25 ?_
    refine lv_icmp_ge (pc := 28) (tgt := 127) hx hb dX2_drink_28 (by decide) (fun c1 => ?_) (fun c1 => ?_)
    · replace h := z_t c1 h
      obtain rfl := Option.some.inj h
      exact z_rv (pc := 127) X hw dX2_drink_127
    · replace h := z_f c1 h
      refine lv_aload_n (pc := 31) hx hb dX2_drink_31 rfl (lv_at hl 0 rfl) ?_
      refine lv_aload_n (pc := 32) hx hb dX2_drink_32 rfl (lv_at hl 0 rfl) ?_
      refine zg_House_above (pc := 33) X hw hk0 zw_fl_1_89 dX2_drink_33 ?_
      refine lv_iload (pc := 36) hx hb dX2_drink_36 (lv_at hl 4 rfl) ?_
      obtain ⟨g2, h⟩ := z_gd h
      refine z_iald (pc := 38) X hw (zk_House_above hk0) (zl_House_above hk0) g2 dX2_drink_38 ?_
      refine lv_aload_n (pc := 39) hx hb dX2_drink_39 rfl (lv_at hl 0 rfl) ?_
      refine lv_aload_n (pc := 40) hx hb dX2_drink_40 rfl (lv_at hl 1 rfl) ?_
      refine lv_iload (pc := 41) hx hb dX2_drink_41 (lv_at hl 4 rfl) ?_
      refine lv_iload_n (pc := 43) hx hb dX2_drink_43 rfl (lv_at hl 2 rfl) ?_
      obtain ⟨x3, ex3, h⟩ := z_bd h
      refine z_cvI (pc := 44) (rest := [.int (M.1 (k0 + 1) (Int32.toNatClampNeg i4)), .ref (G.1 k0)]) X hw (m_X2_land hk0 hk1 ex3) (z_lt hk0 (by decide)) (z_E2 hk0) rfl zw_ml_4_42 zw_im_4_44 zw_se_S_19 zw_in_1_4 zw_co_4_45 zd_X2_land (by decide) rfl hl.1 rfl (Nat.le_of_ble_eq_true rfl) dX2_drink_44 ⟨Nat.zero_le _, Nat.zero_le _⟩ (fun Hx3 lx3 wx3 => ?_)
      refine lv_iadd (pc := 47) hx hb dX2_drink_47 ?_
      obtain ⟨x4, ex4, h⟩ := z_bd h
      refine z_cvI (pc := 48) (rest := []) X wx3 (m_X2_passBarrel hk0 ex4) (z_lt hk0 (by decide)) (z_E2 hk0) rfl zw_ml_4_47 zw_im_4_49 zw_se_S_20 zw_in_1_4 zw_co_4_50 zd_X2_passBarrel (by decide) rfl hl.1 rfl (Nat.le_of_ble_eq_true rfl) dX2_drink_48 ⟨Nat.zero_le _, Nat.zero_le _⟩ (fun Hx4 lx4 wx4 => ?_)
      refine lv_istore (pc := 51) (lv' := [(5, .int x4.1), (0, .ref (G.1 k0)), (1, .ref (G.1 k1)), (2, .int i2), (3, .int i3), (4, .int i4)]) hx hb dX2_drink_51 hl (by decide) rfl (fun ls hl => ?_)
      refine lv_aload_n (pc := 53) hx hb dX2_drink_53 rfl (lv_at hl 1 rfl) ?_
      refine zg_House_got (pc := 54) X wx4 hk0 zw_fl_1_91 dX2_drink_54 ?_
      refine lv_iload (pc := 57) hx hb dX2_drink_57 (lv_at hl 5 rfl) ?_
      refine lv_iload (pc := 59) hx hb dX2_drink_59 (lv_at hl 0 rfl) ?_
      obtain ⟨g5, h⟩ := z_gd h
      refine z_iast (pc := 61) X wx4 (zk_House_got hk0) (zl_House_got hk0) g5 dX2_drink_61 (fun HM6 lM6 wM6 => ?_)
      obtain ⟨M6, eM6, h⟩ := z_lo h
      rw [← eM6] at wM6
      refine lv_aload_n (pc := 62) hx hb dX2_drink_62 rfl (lv_at hl 1 rfl) ?_
      refine zg_House_carried (pc := 63) X wM6 hk0 zw_fl_1_92 dX2_drink_63 ?_
      refine lv_iload (pc := 66) hx hb dX2_drink_66 (lv_at hl 5 rfl) ?_
      refine lv_iload (pc := 68) hx hb dX2_drink_68 (lv_at hl 0 rfl) ?_
      refine lv_iload_n (pc := 70) hx hb dX2_drink_70 rfl (lv_at hl 4 rfl) ?_
      refine z_min (pc := 71) (rest := [.int i4, .ref (G.1 (k0 + 3))]) X zw_ml_4_46 zw_st_3_144 zw_in_1_17 zw_co_3_145 hl.1 ⟨Nat.zero_le _, Nat.zero_le _⟩ (z_lm (Nat.le_of_ble_eq_true rfl)) dX2_drink_71 ?_
      obtain ⟨g7, h⟩ := z_gd h
      refine z_iast (pc := 74) X wM6 (zk_House_carried hk0) (zl_House_carried hk0) g7 dX2_drink_74 (fun HM8 lM8 wM8 => ?_)
      obtain ⟨M8, eM8, h⟩ := z_lo h
      rw [← eM8] at wM8
      refine lv_aload_n (pc := 75) hx hb dX2_drink_75 rfl (lv_at hl 1 rfl) ?_
      refine zg_House_spilt (pc := 76) X wM8 hk0 zw_fl_1_94 dX2_drink_76 ?_
      refine lv_iload (pc := 79) hx hb dX2_drink_79 (lv_at hl 5 rfl) ?_
      refine lv_iload (pc := 81) hx hb dX2_drink_81 (lv_at hl 0 rfl) ?_
      refine lv_aload_n (pc := 83) hx hb dX2_drink_83 rfl (lv_at hl 1 rfl) ?_
      refine zg_House_carried (pc := 84) X wM8 hk0 zw_fl_1_92 dX2_drink_84 ?_
      refine lv_iload (pc := 87) hx hb dX2_drink_87 (lv_at hl 5 rfl) ?_
      obtain ⟨g9, h⟩ := z_gd h
      refine z_iald (pc := 89) X wM8 (zk_House_carried hk0) (zl_House_carried hk0) g9 dX2_drink_89 ?_
      refine lv_isub (pc := 90) hx hb dX2_drink_90 ?_
      obtain ⟨g10, h⟩ := z_gd h
      refine z_iast (pc := 91) X wM8 (zk_House_spilt hk0) (zl_House_spilt hk0) g10 dX2_drink_91 (fun HM11 lM11 wM11 => ?_)
      obtain ⟨M11, eM11, h⟩ := z_lo h
      rw [← eM11] at wM11
      refine lv_aload_n (pc := 92) hx hb dX2_drink_92 rfl (lv_at hl 1 rfl) ?_
      refine lv_dup (pc := 93) hx hb dX2_drink_93 rfl ?_
      refine zg_House_over (pc := 94) X wM11 hk0 zw_fl_1_80 dX2_drink_94 ?_
      refine lv_aload_n (pc := 97) hx hb dX2_drink_97 rfl (lv_at hl 1 rfl) ?_
      refine zg_House_spilt (pc := 98) X wM11 hk0 zw_fl_1_94 dX2_drink_98 ?_
      refine lv_iload (pc := 101) hx hb dX2_drink_101 (lv_at hl 5 rfl) ?_
      obtain ⟨g12, h⟩ := z_gd h
      refine z_iald (pc := 103) X wM11 (zk_House_spilt hk0) (zl_House_spilt hk0) g12 dX2_drink_103 ?_
      refine lv_iadd (pc := 104) hx hb dX2_drink_104 ?_
      refine zp_House_over (pc := 105) X wM11 hk0 zw_fl_1_80 dX2_drink_105 (fun HM13 lM13 wM13 => ?_)
      obtain ⟨M13, eM13, h⟩ := z_lo h
      rw [← eM13] at wM13
      refine lv_aload_n (pc := 108) hx hb dX2_drink_108 rfl (lv_at hl 1 rfl) ?_
      refine lv_aload_n (pc := 109) hx hb dX2_drink_109 rfl (lv_at hl 1 rfl) ?_
      refine zg_House_mostGot (pc := 110) X wM13 hk0 zw_fl_1_87 dX2_drink_110 ?_
      refine lv_iload (pc := 113) hx hb dX2_drink_113 (lv_at hl 0 rfl) ?_
      refine z_max (pc := 115) (rest := [.ref (G.1 k0)]) X zw_ml_4_51 zw_st_3_141 zw_in_1_17 zw_co_3_142 hl.1 ⟨Nat.zero_le _, Nat.zero_le _⟩ (z_lm (Nat.le_of_ble_eq_true rfl)) dX2_drink_115 ?_
      refine zp_House_mostGot (pc := 118) X wM13 hk0 zw_fl_1_87 dX2_drink_118 (fun HM14 lM14 wM14 => ?_)
      obtain ⟨M14, eM14, h⟩ := z_lo h
      rw [← eM14] at wM14
      obtain ⟨v15, ev15, h⟩ := z_lo h
      refine lv_iinc (pc := 121) (v := v15) (lv' := [(4, .int v15), (5, .int x4.1), (0, .ref (G.1 k0)), (1, .ref (G.1 k1)), (2, .int i2), (3, .int i3)]) hx hb dX2_drink_121 hl (k := 5) rfl (by rw [ev15]; rfl) (by decide) rfl (fun ls hl => ?_)
      refine lv_goto (pc := 124) (tgt := 22) hx hb dX2_drink_124 (by decide) ?_
      exact ih k0 k1 i2 i3 v15 M14 HM14 lM14 ls hk0 hk1 wM14 (lv_sub hl [2, 3, 4, 5, 0] rfl) h
set_option maxHeartbeats 4000000 in
set_option maxRecDepth 100000 in
theorem m_X2_drink {l : Launch} {G : zG} {k0 : Nat} {k1 : Nat} {i2 : Int32} {M : zM} {r : zM} (hk0 : z_kd k0 = 2) (hk1 : z_kd k1 = 7) (h : f_X2_drink k0 k1 i2 M = some r) : z_T l G 1 yX2_drink (.code yX2_drink cX2_drink 6 none) [.ref (G.1 k0), .ref (G.1 k1), .int i2] M none r := by
  refine z_of rfl ?_
  intro p e s m below meth c X hw
  have hl := lv_entry [.ref (G.1 k0), .ref (G.1 k1), .int i2] (n := 6) (Nat.le_of_ble_eq_true rfl)
  rw [lg_entry_eq]
  generalize (lg_sl [.ref (G.1 k0), .ref (G.1 k1), .int i2] ++ List.replicate (6 - (lg_sl [.ref (G.1 k0), .ref (G.1 k1), .int i2]).length) Slot.unset).toArray = ls at hl ⊢
  have hl : lv_has ls 6 [(0, .ref (G.1 k0)), (1, .ref (G.1 k1)), (2, .int i2)] := hl
  generalize ([.ref (G.1 k0), .ref (G.1 k1), .int i2] : List Value).toArray = args at X ⊢
  have X : z_C G p s m args meth c cX2_drink 6 RX2 none := X
  have hx := X.1
  have hb := X.2.1
  unfold f_X2_drink at h
  refine lv_aload_n (pc := 0) hx hb dX2_drink_0 rfl (lv_at hl 0 rfl) ?_
  refine lv_aload_n (pc := 1) hx hb dX2_drink_1 rfl (lv_at hl 0 rfl) ?_
  refine zg_House_clog (pc := 2) X hw hk0 zw_fl_1_62 dX2_drink_2 ?_
  obtain ⟨x1, ex1, h⟩ := z_bd h
  refine z_cvI (pc := 5) (rest := []) X hw (m_X2_carriesAt hk0 ex1) (z_lt hk0 (by decide)) (z_E2 hk0) rfl zw_ml_4_38 zw_im_4_39 zw_se_4_40 zw_in_1_4 zw_co_4_41 zd_X2_carriesAt (by decide) rfl hl.1 rfl (Nat.le_of_ble_eq_true rfl) dX2_drink_5 ⟨Nat.zero_le _, Nat.zero_le _⟩ (fun Hx1 lx1 wx1 => ?_)
  refine lv_istore_n (pc := 8) (lv' := [(3, .int x1.1), (0, .ref (G.1 k0)), (1, .ref (G.1 k1)), (2, .int i2)]) hx hb dX2_drink_8 rfl hl (by decide) rfl (fun ls hl => ?_)
  refine lv_aload_n (pc := 9) hx hb dX2_drink_9 rfl (lv_at hl 1 rfl) ?_
  refine lv_iconst (pc := 10) (v := 0) hx hb dX2_drink_10 (by decide) ?_
  refine zp_House_over (pc := 11) X wx1 hk0 zw_fl_1_80 dX2_drink_11 (fun HM2 lM2 wM2 => ?_)
  obtain ⟨M2, eM2, h⟩ := z_lo h
  rw [← eM2] at wM2
  refine lv_aload_n (pc := 14) hx hb dX2_drink_14 rfl (lv_at hl 1 rfl) ?_
  refine lv_iconst (pc := 15) (v := 0) hx hb dX2_drink_15 (by decide) ?_
  refine zp_House_mostGot (pc := 16) X wM2 hk0 zw_fl_1_87 dX2_drink_16 (fun HM3 lM3 wM3 => ?_)
  obtain ⟨M3, eM3, h⟩ := z_lo h
  rw [← eM3] at wM3
  refine lv_iconst (pc := 19) (v := 0) hx hb dX2_drink_19 (by decide) ?_
  refine lv_istore (pc := 20) (lv' := [(4, .int (0 : Int32)), (3, .int x1.1), (0, .ref (G.1 k0)), (1, .ref (G.1 k1)), (2, .int i2)]) hx hb dX2_drink_20 hl (by decide) rfl (fun ls hl => ?_)
  exact w_X2_drink_22 X z_F k0 k1 i2 x1.1 (0 : Int32) M3 HM3 lM3 ls hk0 hk1 wM3 (lv_sub hl [2, 3, 4, 1, 0] rfl) h
def f_X5_pass_59 (K36 : Nat → Int32 → Nat → Nat → Int32 → zM → Option (zM)) : Nat → Nat → Int32 → Nat → Nat → Int32 → Int32 → zM → Option (zM)
  | 0, _, _, _, _, _, _, _ => none
  | n + 1, k0, i1, k2, k3, i4, i5, M =>
    if (M.1 k2 0) ≤ i5 then (
      z_l (i4 + (1 : Int32)) fun v2 =>
      K36 k0 i1 k2 k3 v2 M
    ) else (
      z_g (z_ix i5 12) <|
      z_g (z_ix i4 10) <|
      z_g (z_ix i5 12) <|
      z_g (z_ix i5 12) <|
      z_l (z_w M (k3 + 1) (Int32.toNatClampNeg i5) ((M.1 (k3 + 1) (Int32.toNatClampNeg i5)) + (M.1 ((z_ra (k0 + 3) (Int32.toNatClampNeg i4)) + 3) (Int32.toNatClampNeg i5)))) fun M7 =>
      z_l (i5 + (1 : Int32)) fun v8 =>
      f_X5_pass_59 K36 n k0 i1 k2 k3 i4 v8 M7
    )
def f_X5_pass_36 : Nat → Nat → Int32 → Nat → Nat → Int32 → zM → Option (zM)
  | 0, _, _, _, _, _, _ => none
  | n + 1, k0, i1, k2, k3, i4, M =>
    if i1 ≤ i4 then (
      (f_X2_drink k3 k2 (M.1 k0 1) M).bind fun x2 =>
      some x2
    ) else (
      z_g (z_ix i4 10) <|
      if (M.1 (z_ra (k0 + 3) (Int32.toNatClampNeg i4)) 4) = i1 then (
        f_X5_pass_59 (f_X5_pass_36 n) z_F k0 i1 k2 k3 i4 (0 : Int32) M
      ) else (
        z_l (i4 + (1 : Int32)) fun v5 =>
        f_X5_pass_36 n k0 i1 k2 k3 v5 M
      )
    )
def f_X5_pass_10 : Nat → Nat → Int32 → Nat → Nat → Int32 → zM → Option (zM)
  | 0, _, _, _, _, _, _ => none
  | n + 1, k0, i1, k2, k3, i4, M =>
    if (M.1 k2 0) ≤ i4 then (
      f_X5_pass_36 z_F k0 i1 k2 k3 (0 : Int32) M
    ) else (
      z_g (z_ix i4 12) <|
      z_l (z_w M (k3 + 1) (Int32.toNatClampNeg i4) (0 : Int32)) fun M3 =>
      z_l (i4 + (1 : Int32)) fun v4 =>
      f_X5_pass_10 n k0 i1 k2 k3 v4 M3
    )
def f_X5_pass (k0 : Nat) (i1 : Int32) (k2 : Nat) (M : zM) : Option (zM) :=
  z_g (z_ix i1 10) <|
  z_l (z_ra (k0 + 3) (Int32.toNatClampNeg i1)) fun v2 =>
  f_X5_pass_10 z_F k0 i1 k2 v2 (0 : Int32) M
set_option maxHeartbeats 4000000 in
set_option maxRecDepth 100000 in
theorem w_X5_pass_59 {G : zG} {p : Program} {l : Launch} {e : Env} {s : State} {m : MethodId} {args : Array Value} {below : List Frame} {meth : Method} {c : Code} (X : z_C G p s m args meth c cX5_pass 6 RX5 none) {r : zM} {K36 : Nat → Int32 → Nat → Nat → Int32 → zM → Option (zM)} (hK36 : ∀ (k0 : Nat) (i1 : Int32) (k2 : Nat) (k3 : Nat) (i4 : Int32) (M : zM) (H : Heap) (locs : List Loc) (ls : Array Slot), z_kd k0 = 5 → z_kd k2 = 7 → z_kd k3 = 2 → z_W G M H locs → lv_has ls 6 [(0, .ref (G.1 k0)), (1, .int i1), (2, .ref (G.1 k2)), (3, .ref (G.1 k3)), (4, .int i4)] → K36 k0 i1 k2 k3 i4 M = some r → W p l e (z_rm 2) s m args below meth c H locs 0 0 (z_Q G below args s none r) (F0 m 36 ls [])) : ∀ (n : Nat) (k0 : Nat) (i1 : Int32) (k2 : Nat) (k3 : Nat) (i4 : Int32) (i5 : Int32) (M : zM) (H : Heap) (locs : List Loc) (ls : Array Slot), z_kd k0 = 5 → z_kd k2 = 7 → z_kd k3 = 2 → z_W G M H locs → lv_has ls 6 [(0, .ref (G.1 k0)), (1, .int i1), (2, .ref (G.1 k2)), (3, .ref (G.1 k3)), (4, .int i4), (5, .int i5)] → f_X5_pass_59 K36 n k0 i1 k2 k3 i4 i5 M = some r → W p l e (z_rm 2) s m args below meth c H locs 0 0 (z_Q G below args s none r) (F0 m 59 ls []) := by
  have hx := X.1
  have hb := X.2.1
  intro n
  induction n with
  | zero =>
    intro k0 i1 k2 k3 i4 i5 M H locs ls hk0 hk2 hk3 hw hl h
    exact z_no h
  | succ n ih =>
    intro k0 i1 k2 k3 i4 i5 M H locs ls hk0 hk2 hk3 hw hl h
    rw [f_X5_pass_59] at h
    refine lv_iload (pc := 59) hx hb dX5_pass_59 (lv_at hl 5 rfl) ?_
    refine lv_aload_n (pc := 61) hx hb dX5_pass_61 rfl (lv_at hl 2 rfl) ?_
    refine zg_Storm_hours (pc := 62) X hw hk2 zw_fl_1_196 dX5_pass_62 ?_
    refine lv_icmp_ge (pc := 65) (tgt := 97) hx hb dX5_pass_65 (by decide) (fun c1 => ?_) (fun c1 => ?_)
    · replace h := z_t c1 h
      obtain ⟨v2, ev2, h⟩ := z_lo h
      refine lv_iinc (pc := 97) (v := v2) (lv' := [(4, .int v2), (0, .ref (G.1 k0)), (1, .int i1), (2, .ref (G.1 k2)), (3, .ref (G.1 k3)), (5, .int i5)]) hx hb dX5_pass_97 hl (k := 4) rfl (by rw [ev2]; rfl) (by decide) rfl (fun ls hl => ?_)
      refine lv_goto (pc := 100) (tgt := 36) hx hb dX5_pass_100 (by decide) ?_
      exact hK36 k0 i1 k2 k3 v2 M H locs ls hk0 hk2 hk3 hw (lv_sub hl [1, 2, 3, 4, 0] rfl) h
    · replace h := z_f c1 h
      refine lv_aload_n (pc := 68) hx hb dX5_pass_68 rfl (lv_at hl 3 rfl) ?_
      refine zg_House_above (pc := 69) X hw hk3 zw_fl_1_90 dX5_pass_69 ?_
      refine lv_iload (pc := 72) hx hb dX5_pass_72 (lv_at hl 5 rfl) ?_
      refine lv_dup2_11 (pc := 74) hx hb dX5_pass_74 rfl rfl ?_
      obtain ⟨g3, h⟩ := z_gd h
      refine z_iald (pc := 75) X hw (zk_House_above hk3) (zl_House_above hk3) g3 dX5_pass_75 ?_
      refine lv_aload_n (pc := 76) hx hb dX5_pass_76 rfl (lv_at hl 0 rfl) ?_
      refine zg_Roofs_houses (pc := 77) X hw hk0 zw_fl_1_144 dX5_pass_77 ?_
      refine lv_iload (pc := 80) hx hb dX5_pass_80 (lv_at hl 4 rfl) ?_
      obtain ⟨g4, h⟩ := z_gd h
      refine z_aald16 (pc := 82) X hw (zk_Roofs_houses hk0) (zl_Roofs_houses hk0) g4 dX5_pass_82 ?_
      refine zg_House_carried (pc := 83) X hw (zk_el16 (zk_Roofs_houses hk0) g4) zw_fl_1_93 dX5_pass_83 ?_
      refine lv_iload (pc := 86) hx hb dX5_pass_86 (lv_at hl 5 rfl) ?_
      obtain ⟨g5, h⟩ := z_gd h
      refine z_iald (pc := 88) X hw (zk_House_carried (zk_el16 (zk_Roofs_houses hk0) g4)) (zl_House_carried (zk_el16 (zk_Roofs_houses hk0) g4)) g5 dX5_pass_88 ?_
      refine lv_iadd (pc := 89) hx hb dX5_pass_89 ?_
      obtain ⟨g6, h⟩ := z_gd h
      refine z_iast (pc := 90) X hw (zk_House_above hk3) (zl_House_above hk3) g6 dX5_pass_90 (fun HM7 lM7 wM7 => ?_)
      obtain ⟨M7, eM7, h⟩ := z_lo h
      rw [← eM7] at wM7
      obtain ⟨v8, ev8, h⟩ := z_lo h
      refine lv_iinc (pc := 91) (v := v8) (lv' := [(5, .int v8), (0, .ref (G.1 k0)), (1, .int i1), (2, .ref (G.1 k2)), (3, .ref (G.1 k3)), (4, .int i4)]) hx hb dX5_pass_91 hl (k := 5) rfl (by rw [ev8]; rfl) (by decide) rfl (fun ls hl => ?_)
      refine lv_goto (pc := 94) (tgt := 59) hx hb dX5_pass_94 (by decide) ?_
      exact ih k0 i1 k2 k3 i4 v8 M7 HM7 lM7 ls hk0 hk2 hk3 wM7 (lv_sub hl [1, 2, 3, 4, 5, 0] rfl) h
set_option maxHeartbeats 4000000 in
set_option maxRecDepth 100000 in
theorem w_X5_pass_36 {G : zG} {p : Program} {l : Launch} {e : Env} {s : State} {m : MethodId} {args : Array Value} {below : List Frame} {meth : Method} {c : Code} (X : z_C G p s m args meth c cX5_pass 6 RX5 none) {r : zM} : ∀ (n : Nat) (k0 : Nat) (i1 : Int32) (k2 : Nat) (k3 : Nat) (i4 : Int32) (M : zM) (H : Heap) (locs : List Loc) (ls : Array Slot), z_kd k0 = 5 → z_kd k2 = 7 → z_kd k3 = 2 → z_W G M H locs → lv_has ls 6 [(0, .ref (G.1 k0)), (1, .int i1), (2, .ref (G.1 k2)), (3, .ref (G.1 k3)), (4, .int i4)] → f_X5_pass_36 n k0 i1 k2 k3 i4 M = some r → W p l e (z_rm 2) s m args below meth c H locs 0 0 (z_Q G below args s none r) (F0 m 36 ls []) := by
  have hx := X.1
  have hb := X.2.1
  intro n
  induction n with
  | zero =>
    intro k0 i1 k2 k3 i4 M H locs ls hk0 hk2 hk3 hw hl h
    exact z_no h
  | succ n ih =>
    intro k0 i1 k2 k3 i4 M H locs ls hk0 hk2 hk3 hw hl h
    rw [f_X5_pass_36] at h
    refine lv_iload (pc := 36) hx hb dX5_pass_36 (lv_at hl 4 rfl) ?_
    refine lv_iload_n (pc := 38) hx hb dX5_pass_38 rfl (lv_at hl 1 rfl) ?_
    refine lv_icmp_ge (pc := 39) (tgt := 103) hx hb dX5_pass_39 (by decide) (fun c1 => ?_) (fun c1 => ?_)
    · replace h := z_t c1 h
      refine lv_aload_n (pc := 103) hx hb dX5_pass_103 rfl (lv_at hl 3 rfl) ?_
      refine lv_aload_n (pc := 104) hx hb dX5_pass_104 rfl (lv_at hl 2 rfl) ?_
      refine lv_aload_n (pc := 105) hx hb dX5_pass_105 rfl (lv_at hl 0 rfl) ?_
      refine zg_Roofs_thaw (pc := 106) X hw hk0 zw_fl_1_141 dX5_pass_106 ?_
      obtain ⟨x2, ex2, h⟩ := z_bd h
      refine z_cvV (pc := 109) (rest := []) X hw (m_X2_drink hk3 hk2 ex2) (z_lt hk3 (by decide)) (z_E2 hk3) rfl zw_ml_4_34 zw_im_4_35 zw_se_4_36 zw_in_1_4 zw_co_4_37 zd_X2_drink (by decide) rfl hl.1 rfl (Nat.le_of_ble_eq_true rfl) dX5_pass_109 ⟨Nat.zero_le _, Nat.zero_le _⟩ (fun Hx2 lx2 wx2 => ?_)
      obtain rfl := Option.some.inj h
      exact z_rv (pc := 112) X wx2 dX5_pass_112
    · replace h := z_f c1 h
      refine lv_aload_n (pc := 42) hx hb dX5_pass_42 rfl (lv_at hl 0 rfl) ?_
      refine zg_Roofs_houses (pc := 43) X hw hk0 zw_fl_1_144 dX5_pass_43 ?_
      refine lv_iload (pc := 46) hx hb dX5_pass_46 (lv_at hl 4 rfl) ?_
      obtain ⟨g3, h⟩ := z_gd h
      refine z_aald16 (pc := 48) X hw (zk_Roofs_houses hk0) (zl_Roofs_houses hk0) g3 dX5_pass_48 ?_
      refine zg_House_empties (pc := 49) X hw (zk_el16 (zk_Roofs_houses hk0) g3) zw_fl_1_60 dX5_pass_49 ?_
      refine lv_iload_n (pc := 52) hx hb dX5_pass_52 rfl (lv_at hl 1 rfl) ?_
      refine lv_icmp_ne (pc := 53) (tgt := 97) hx hb dX5_pass_53 (by decide) (fun c4 => ?_) (fun c4 => ?_)
      · replace h := z_f c4 h
        obtain ⟨v5, ev5, h⟩ := z_lo h
        refine lv_iinc (pc := 97) (v := v5) (lv' := [(4, .int v5), (0, .ref (G.1 k0)), (1, .int i1), (2, .ref (G.1 k2)), (3, .ref (G.1 k3))]) hx hb dX5_pass_97 hl (k := 4) rfl (by rw [ev5]; rfl) (by decide) rfl (fun ls hl => ?_)
        refine lv_goto (pc := 100) (tgt := 36) hx hb dX5_pass_100 (by decide) ?_
        exact ih k0 i1 k2 k3 v5 M H locs ls hk0 hk2 hk3 hw (lv_sub hl [1, 2, 3, 4, 0] rfl) h
      · replace h := z_t c4 h
        refine lv_iconst (pc := 56) (v := 0) hx hb dX5_pass_56 (by decide) ?_
        refine lv_istore (pc := 57) (lv' := [(5, .int (0 : Int32)), (0, .ref (G.1 k0)), (1, .int i1), (2, .ref (G.1 k2)), (3, .ref (G.1 k3)), (4, .int i4)]) hx hb dX5_pass_57 hl (by decide) rfl (fun ls hl => ?_)
        exact w_X5_pass_59 X ih z_F k0 i1 k2 k3 i4 (0 : Int32) M H locs ls hk0 hk2 hk3 hw (lv_sub hl [1, 2, 3, 4, 5, 0] rfl) h
set_option maxHeartbeats 4000000 in
set_option maxRecDepth 100000 in
theorem w_X5_pass_10 {G : zG} {p : Program} {l : Launch} {e : Env} {s : State} {m : MethodId} {args : Array Value} {below : List Frame} {meth : Method} {c : Code} (X : z_C G p s m args meth c cX5_pass 6 RX5 none) {r : zM} : ∀ (n : Nat) (k0 : Nat) (i1 : Int32) (k2 : Nat) (k3 : Nat) (i4 : Int32) (M : zM) (H : Heap) (locs : List Loc) (ls : Array Slot), z_kd k0 = 5 → z_kd k2 = 7 → z_kd k3 = 2 → z_W G M H locs → lv_has ls 6 [(0, .ref (G.1 k0)), (1, .int i1), (2, .ref (G.1 k2)), (3, .ref (G.1 k3)), (4, .int i4)] → f_X5_pass_10 n k0 i1 k2 k3 i4 M = some r → W p l e (z_rm 2) s m args below meth c H locs 0 0 (z_Q G below args s none r) (F0 m 10 ls []) := by
  have hx := X.1
  have hb := X.2.1
  intro n
  induction n with
  | zero =>
    intro k0 i1 k2 k3 i4 M H locs ls hk0 hk2 hk3 hw hl h
    exact z_no h
  | succ n ih =>
    intro k0 i1 k2 k3 i4 M H locs ls hk0 hk2 hk3 hw hl h
    rw [f_X5_pass_10] at h
    refine lv_iload (pc := 10) hx hb dX5_pass_10 (lv_at hl 4 rfl) ?_
    refine lv_aload_n (pc := 12) hx hb dX5_pass_12 rfl (lv_at hl 2 rfl) ?_
    refine zg_Storm_hours (pc := 13) X hw hk2 zw_fl_1_196 dX5_pass_13 ?_
    refine lv_icmp_ge (pc := 16) (tgt := 33) hx hb dX5_pass_16 (by decide) (fun c1 => ?_) (fun c1 => ?_)
    · replace h := z_t c1 h
      refine lv_iconst (pc := 33) (v := 0) hx hb dX5_pass_33 (by decide) ?_
      refine lv_istore (pc := 34) (lv' := [(4, .int (0 : Int32)), (0, .ref (G.1 k0)), (1, .int i1), (2, .ref (G.1 k2)), (3, .ref (G.1 k3))]) hx hb dX5_pass_34 hl (by decide) rfl (fun ls hl => ?_)
      exact w_X5_pass_36 X z_F k0 i1 k2 k3 (0 : Int32) M H locs ls hk0 hk2 hk3 hw (lv_sub hl [1, 2, 3, 4, 0] rfl) h
    · replace h := z_f c1 h
      refine lv_aload_n (pc := 19) hx hb dX5_pass_19 rfl (lv_at hl 3 rfl) ?_
      refine zg_House_above (pc := 20) X hw hk3 zw_fl_1_90 dX5_pass_20 ?_
      refine lv_iload (pc := 23) hx hb dX5_pass_23 (lv_at hl 4 rfl) ?_
      refine lv_iconst (pc := 25) (v := 0) hx hb dX5_pass_25 (by decide) ?_
      obtain ⟨g2, h⟩ := z_gd h
      refine z_iast (pc := 26) X hw (zk_House_above hk3) (zl_House_above hk3) g2 dX5_pass_26 (fun HM3 lM3 wM3 => ?_)
      obtain ⟨M3, eM3, h⟩ := z_lo h
      rw [← eM3] at wM3
      obtain ⟨v4, ev4, h⟩ := z_lo h
      refine lv_iinc (pc := 27) (v := v4) (lv' := [(4, .int v4), (0, .ref (G.1 k0)), (1, .int i1), (2, .ref (G.1 k2)), (3, .ref (G.1 k3))]) hx hb dX5_pass_27 hl (k := 4) rfl (by rw [ev4]; rfl) (by decide) rfl (fun ls hl => ?_)
      refine lv_goto (pc := 30) (tgt := 10) hx hb dX5_pass_30 (by decide) ?_
      exact ih k0 i1 k2 k3 v4 M3 HM3 lM3 ls hk0 hk2 hk3 wM3 (lv_sub hl [1, 2, 3, 4, 0] rfl) h
set_option maxHeartbeats 4000000 in
set_option maxRecDepth 100000 in
theorem m_X5_pass {l : Launch} {G : zG} {k0 : Nat} {i1 : Int32} {k2 : Nat} {M : zM} {r : zM} (hk0 : z_kd k0 = 5) (hk2 : z_kd k2 = 7) (h : f_X5_pass k0 i1 k2 M = some r) : z_T l G 2 yX5_pass (.code yX5_pass cX5_pass 6 none) [.ref (G.1 k0), .int i1, .ref (G.1 k2)] M none r := by
  refine z_of rfl ?_
  intro p e s m below meth c X hw
  have hl := lv_entry [.ref (G.1 k0), .int i1, .ref (G.1 k2)] (n := 6) (Nat.le_of_ble_eq_true rfl)
  rw [lg_entry_eq]
  generalize (lg_sl [.ref (G.1 k0), .int i1, .ref (G.1 k2)] ++ List.replicate (6 - (lg_sl [.ref (G.1 k0), .int i1, .ref (G.1 k2)]).length) Slot.unset).toArray = ls at hl ⊢
  have hl : lv_has ls 6 [(0, .ref (G.1 k0)), (1, .int i1), (2, .ref (G.1 k2))] := hl
  generalize ([.ref (G.1 k0), .int i1, .ref (G.1 k2)] : List Value).toArray = args at X ⊢
  have X : z_C G p s m args meth c cX5_pass 6 RX5 none := X
  have hx := X.1
  have hb := X.2.1
  unfold f_X5_pass at h
  refine lv_aload_n (pc := 0) hx hb dX5_pass_0 rfl (lv_at hl 0 rfl) ?_
  refine zg_Roofs_houses (pc := 1) X hw hk0 zw_fl_1_144 dX5_pass_1 ?_
  refine lv_iload_n (pc := 4) hx hb dX5_pass_4 rfl (lv_at hl 1 rfl) ?_
  obtain ⟨g1, h⟩ := z_gd h
  refine z_aald16 (pc := 5) X hw (zk_Roofs_houses hk0) (zl_Roofs_houses hk0) g1 dX5_pass_5 ?_
  obtain ⟨v2, ev2, h⟩ := z_lo h
  refine z_topr ev2 ?_
  have hv2 : z_kd v2 = 2 := by rw [ev2]; exact (zk_el16 (zk_Roofs_houses hk0) g1)
  refine lv_astore_n (pc := 6) (lv' := [(3, .ref (G.1 v2)), (0, .ref (G.1 k0)), (1, .int i1), (2, .ref (G.1 k2))]) hx hb dX5_pass_6 rfl hl (by decide) rfl (fun ls hl => ?_)
  refine lv_iconst (pc := 7) (v := 0) hx hb dX5_pass_7 (by decide) ?_
  refine lv_istore (pc := 8) (lv' := [(4, .int (0 : Int32)), (3, .ref (G.1 v2)), (0, .ref (G.1 k0)), (1, .int i1), (2, .ref (G.1 k2))]) hx hb dX5_pass_8 hl (by decide) rfl (fun ls hl => ?_)
  exact w_X5_pass_10 X z_F k0 i1 k2 v2 (0 : Int32) M s.heap [] ls hk0 hk2 hv2 hw (lv_sub hl [2, 3, 4, 1, 0] rfl) h
def f_X5_pour_5 : Nat → Nat → Nat → Int32 → Int32 → Int32 → zM → Option (Int32 × zM)
  | 0, _, _, _, _, _, _ => none
  | n + 1, k0, k1, i2, i3, i4, M =>
    if i2 < i4 then (
      some (i3, M)
    ) else (
      if (M.1 k0 0) ≤ i4 then (
        some (i3, M)
      ) else (
        (f_X5_pass k0 i4 k1 M).bind fun x3 =>
        z_g (z_ix i4 10) <|
        z_l (i3 + (x3.1 (z_ra (k0 + 3) (Int32.toNatClampNeg i4)) 12)) fun v5 =>
        z_l (i4 + (1 : Int32)) fun v6 =>
        f_X5_pour_5 n k0 k1 i2 v5 v6 x3
      )
    )
def f_X5_pour (k0 : Nat) (k1 : Nat) (i2 : Int32) (M : zM) : Option (Int32 × zM) :=
  f_X5_pour_5 z_F k0 k1 i2 (0 : Int32) (0 : Int32) M
set_option maxHeartbeats 4000000 in
set_option maxRecDepth 100000 in
theorem w_X5_pour_5 {G : zG} {p : Program} {l : Launch} {e : Env} {s : State} {m : MethodId} {args : Array Value} {below : List Frame} {meth : Method} {c : Code} (X : z_C G p s m args meth c cX5_pour 5 RX5 (some .int)) {r : Int32 × zM} : ∀ (n : Nat) (k0 : Nat) (k1 : Nat) (i2 : Int32) (i3 : Int32) (i4 : Int32) (M : zM) (H : Heap) (locs : List Loc) (ls : Array Slot), z_kd k0 = 5 → z_kd k1 = 7 → z_W G M H locs → lv_has ls 5 [(0, .ref (G.1 k0)), (1, .ref (G.1 k1)), (2, .int i2), (3, .int i3), (4, .int i4)] → f_X5_pour_5 n k0 k1 i2 i3 i4 M = some r → W p l e (z_rm 3) s m args below meth c H locs 0 0 (z_Q G below args s (some (.int r.1)) r.2) (F0 m 5 ls []) := by
  have hx := X.1
  have hb := X.2.1
  intro n
  induction n with
  | zero =>
    intro k0 k1 i2 i3 i4 M H locs ls hk0 hk1 hw hl h
    exact z_no h
  | succ n ih =>
    intro k0 k1 i2 i3 i4 M H locs ls hk0 hk1 hw hl h
    rw [f_X5_pour_5] at h
    refine lv_iload (pc := 5) hx hb dX5_pour_5 (lv_at hl 4 rfl) ?_
    refine lv_iload_n (pc := 7) hx hb dX5_pour_7 rfl (lv_at hl 2 rfl) ?_
    refine lv_icmp_gt (pc := 8) (tgt := 46) hx hb dX5_pour_8 (by decide) (fun c1 => ?_) (fun c1 => ?_)
    · replace h := z_t c1 h
      refine lv_iload_n (pc := 46) hx hb dX5_pour_46 rfl (lv_at hl 3 rfl) ?_
      obtain rfl := Option.some.inj h
      exact z_ri (pc := 47) X hw dX5_pour_47
    · replace h := z_f c1 h
      refine lv_iload (pc := 11) hx hb dX5_pour_11 (lv_at hl 4 rfl) ?_
      refine lv_aload_n (pc := 13) hx hb dX5_pour_13 rfl (lv_at hl 0 rfl) ?_
      refine zg_Roofs_count (pc := 14) X hw hk0 zw_fl_1_135 dX5_pour_14 ?_
      refine lv_icmp_ge (pc := 17) (tgt := 46) hx hb dX5_pour_17 (by decide) (fun c2 => ?_) (fun c2 => ?_)
      · replace h := z_t c2 h
        refine lv_iload_n (pc := 46) hx hb dX5_pour_46 rfl (lv_at hl 3 rfl) ?_
        obtain rfl := Option.some.inj h
        exact z_ri (pc := 47) X hw dX5_pour_47
      · replace h := z_f c2 h
        refine lv_aload_n (pc := 20) hx hb dX5_pour_20 rfl (lv_at hl 0 rfl) ?_
        refine lv_iload (pc := 21) hx hb dX5_pour_21 (lv_at hl 4 rfl) ?_
        refine lv_aload_n (pc := 23) hx hb dX5_pour_23 rfl (lv_at hl 1 rfl) ?_
        obtain ⟨x3, ex3, h⟩ := z_bd h
        refine z_cvV (pc := 24) (rest := []) X hw (m_X5_pass hk0 hk1 ex3) (z_lt hk0 (by decide)) (z_E5 hk0) rfl zw_ml_4_30 zw_im_4_31 zw_se_4_32 zw_in_1_3 zw_co_4_33 zd_X5_pass (by decide) rfl hl.1 rfl (Nat.le_of_ble_eq_true rfl) dX5_pour_24 ⟨Nat.zero_le _, Nat.zero_le _⟩ (fun Hx3 lx3 wx3 => ?_)
        refine lv_iload_n (pc := 27) hx hb dX5_pour_27 rfl (lv_at hl 3 rfl) ?_
        refine lv_aload_n (pc := 28) hx hb dX5_pour_28 rfl (lv_at hl 0 rfl) ?_
        refine zg_Roofs_houses (pc := 29) X wx3 hk0 zw_fl_1_144 dX5_pour_29 ?_
        refine lv_iload (pc := 32) hx hb dX5_pour_32 (lv_at hl 4 rfl) ?_
        obtain ⟨g4, h⟩ := z_gd h
        refine z_aald16 (pc := 34) X wx3 (zk_Roofs_houses hk0) (zl_Roofs_houses hk0) g4 dX5_pour_34 ?_
        refine zg_House_over (pc := 35) X wx3 (zk_el16 (zk_Roofs_houses hk0) g4) zw_fl_1_84 dX5_pour_35 ?_
        refine lv_iadd (pc := 38) hx hb dX5_pour_38 ?_
        obtain ⟨v5, ev5, h⟩ := z_lo h
        refine z_topi ev5 ?_
        refine lv_istore_n (pc := 39) (lv' := [(3, .int v5), (0, .ref (G.1 k0)), (1, .ref (G.1 k1)), (2, .int i2), (4, .int i4)]) hx hb dX5_pour_39 rfl hl (by decide) rfl (fun ls hl => ?_)
        obtain ⟨v6, ev6, h⟩ := z_lo h
        refine lv_iinc (pc := 40) (v := v6) (lv' := [(4, .int v6), (3, .int v5), (0, .ref (G.1 k0)), (1, .ref (G.1 k1)), (2, .int i2)]) hx hb dX5_pour_40 hl (k := 4) rfl (by rw [ev6]; rfl) (by decide) rfl (fun ls hl => ?_)
        refine lv_goto (pc := 43) (tgt := 5) hx hb dX5_pour_43 (by decide) ?_
        exact ih k0 k1 i2 v5 v6 x3 Hx3 lx3 ls hk0 hk1 wx3 (lv_sub hl [2, 3, 4, 1, 0] rfl) h
set_option maxHeartbeats 4000000 in
set_option maxRecDepth 100000 in
theorem m_X5_pour {l : Launch} {G : zG} {k0 : Nat} {k1 : Nat} {i2 : Int32} {M : zM} {r : Int32 × zM} (hk0 : z_kd k0 = 5) (hk1 : z_kd k1 = 7) (h : f_X5_pour k0 k1 i2 M = some r) : z_T l G 3 yX5_pour (.code yX5_pour cX5_pour 5 (some .int)) [.ref (G.1 k0), .ref (G.1 k1), .int i2] M (some (.int r.1)) r.2 := by
  refine z_of rfl ?_
  intro p e s m below meth c X hw
  have hl := lv_entry [.ref (G.1 k0), .ref (G.1 k1), .int i2] (n := 5) (Nat.le_of_ble_eq_true rfl)
  rw [lg_entry_eq]
  generalize (lg_sl [.ref (G.1 k0), .ref (G.1 k1), .int i2] ++ List.replicate (5 - (lg_sl [.ref (G.1 k0), .ref (G.1 k1), .int i2]).length) Slot.unset).toArray = ls at hl ⊢
  have hl : lv_has ls 5 [(0, .ref (G.1 k0)), (1, .ref (G.1 k1)), (2, .int i2)] := hl
  generalize ([.ref (G.1 k0), .ref (G.1 k1), .int i2] : List Value).toArray = args at X ⊢
  have X : z_C G p s m args meth c cX5_pour 5 RX5 (some .int) := X
  have hx := X.1
  have hb := X.2.1
  unfold f_X5_pour at h
  refine lv_iconst (pc := 0) (v := 0) hx hb dX5_pour_0 (by decide) ?_
  refine lv_istore_n (pc := 1) (lv' := [(3, .int (0 : Int32)), (0, .ref (G.1 k0)), (1, .ref (G.1 k1)), (2, .int i2)]) hx hb dX5_pour_1 rfl hl (by decide) rfl (fun ls hl => ?_)
  refine lv_iconst (pc := 2) (v := 0) hx hb dX5_pour_2 (by decide) ?_
  refine lv_istore (pc := 3) (lv' := [(4, .int (0 : Int32)), (3, .int (0 : Int32)), (0, .ref (G.1 k0)), (1, .ref (G.1 k1)), (2, .int i2)]) hx hb dX5_pour_3 hl (by decide) rfl (fun ls hl => ?_)
  exact w_X5_pour_5 X z_F k0 k1 i2 (0 : Int32) (0 : Int32) M s.heap [] ls hk0 hk1 hw (lv_sub hl [2, 3, 4, 1, 0] rfl) h
def f_X0_overWith_9 : Nat → Int32 → Int32 → Nat → Nat → Int32 → zM → Option (Int32 × zM)
  | 0, _, _, _, _, _, _ => none
  | n + 1, i1, i2, k4, k5, i6, M =>
    if (M.1 32 2) ≤ i6 then (
      (f_X5_pour k4 k5 i2 M).bind fun x2 =>
      z_g (z_ix i2 10) <|
      some ((x2.2.1 (z_ra (k4 + 3) (Int32.toNatClampNeg i2)) 12), x2.2)
    ) else (
      if ((i1 >>> (i6 &&& 31)) &&& (1 : Int32)) = 0 then (
        z_g (z_ix i6 7) <|
        z_l (M.1 33 (Int32.toNatClampNeg i6)) fun v7 =>
        z_g (z_ix v7 10) <|
        z_l (z_w M (z_ra (k4 + 3) (Int32.toNatClampNeg v7)) 5 (0 : Int32)) fun M9 =>
        z_l (i6 + (1 : Int32)) fun v10 =>
        f_X0_overWith_9 n i1 i2 k4 k5 v10 M9
      ) else (
        z_l (i6 + (1 : Int32)) fun v5 =>
        f_X0_overWith_9 n i1 i2 k4 k5 v5 M
      )
    )
def f_X0_overWith (i1 : Int32) (i2 : Int32) (k3 : Nat) (k4 : Nat) (k5 : Nat) (M : zM) : Option (Int32 × zM) :=
  (f_X5_imagine k4 k3 M).bind fun x1 =>
  f_X0_overWith_9 z_F i1 i2 k4 k5 (0 : Int32) x1
set_option maxHeartbeats 4000000 in
set_option maxRecDepth 100000 in
theorem w_X0_overWith_9 {G : zG} {p : Program} {l : Launch} {e : Env} {s : State} {m : MethodId} {args : Array Value} {below : List Frame} {meth : Method} {c : Code} (X : z_C G p s m args meth c cX0_overWith 7 RX0 (some .int)) {r : Int32 × zM} : ∀ (n : Nat) (i1 : Int32) (i2 : Int32) (k4 : Nat) (k5 : Nat) (i6 : Int32) (M : zM) (H : Heap) (locs : List Loc) (ls : Array Slot), z_kd k4 = 5 → z_kd k5 = 7 → z_W G M H locs → lv_has ls 7 [(0, .ref (G.1 32)), (1, .int i1), (2, .int i2), (4, .ref (G.1 k4)), (5, .ref (G.1 k5)), (6, .int i6)] → f_X0_overWith_9 n i1 i2 k4 k5 i6 M = some r → W p l e (z_rm 4) s m args below meth c H locs 0 0 (z_Q G below args s (some (.int r.1)) r.2) (F0 m 9 ls []) := by
  have hx := X.1
  have hb := X.2.1
  intro n
  induction n with
  | zero =>
    intro i1 i2 k4 k5 i6 M H locs ls hk4 hk5 hw hl h
    exact z_no h
  | succ n ih =>
    intro i1 i2 k4 k5 i6 M H locs ls hk4 hk5 hw hl h
    rw [f_X0_overWith_9] at h
    refine lv_iload (pc := 9) hx hb dX0_overWith_9 (lv_at hl 5 rfl) ?_
    refine lv_aload_n (pc := 11) hx hb dX0_overWith_11 rfl (lv_at hl 0 rfl) ?_
    refine zg_Blame_count (pc := 12) X hw zw_fl_2_108 dX0_overWith_12 ?_
    refine lv_icmp_ge (pc := 15) (tgt := 50) hx hb dX0_overWith_15 (by decide) (fun c1 => ?_) (fun c1 => ?_)
    · replace h := z_t c1 h
      refine lv_aload (pc := 50) hx hb dX0_overWith_50 (lv_at hl 3 rfl) ?_
      refine lv_aload (pc := 52) hx hb dX0_overWith_52 (lv_at hl 4 rfl) ?_
      refine lv_iload_n (pc := 54) hx hb dX0_overWith_54 rfl (lv_at hl 2 rfl) ?_
      obtain ⟨x2, ex2, h⟩ := z_bd h
      refine z_cvI (pc := 55) (rest := []) X hw (m_X5_pour hk4 hk5 ex2) (z_lt hk4 (by decide)) (z_E5 hk4) rfl zw_ml_4_134 zw_im_4_27 zw_se_4_28 zw_in_1_3 zw_co_4_29 zd_X5_pour (by decide) rfl hl.1 rfl (Nat.le_of_ble_eq_true rfl) dX0_overWith_55 ⟨Nat.zero_le _, Nat.zero_le _⟩ (fun Hx2 lx2 wx2 => ?_)
      refine lv_pop (pc := 58) hx hb dX0_overWith_58 rfl ?_
      refine lv_aload (pc := 59) hx hb dX0_overWith_59 (lv_at hl 3 rfl) ?_
      refine zg_Roofs_houses (pc := 61) X wx2 hk4 zw_fl_1_145 dX0_overWith_61 ?_
      refine lv_iload_n (pc := 64) hx hb dX0_overWith_64 rfl (lv_at hl 2 rfl) ?_
      obtain ⟨g3, h⟩ := z_gd h
      refine z_aald16 (pc := 65) X wx2 (zk_Roofs_houses hk4) (zl_Roofs_houses hk4) g3 dX0_overWith_65 ?_
      refine zg_House_over (pc := 66) X wx2 (zk_el16 (zk_Roofs_houses hk4) g3) zw_fl_1_81 dX0_overWith_66 ?_
      obtain rfl := Option.some.inj h
      exact z_ri (pc := 69) X wx2 dX0_overWith_69
    · replace h := z_f c1 h
      refine lv_iload_n (pc := 18) hx hb dX0_overWith_18 rfl (lv_at hl 1 rfl) ?_
      refine lv_iload (pc := 19) hx hb dX0_overWith_19 (lv_at hl 5 rfl) ?_
      refine lv_ishr (pc := 21) hx hb dX0_overWith_21 ?_
      refine lv_iconst (pc := 22) (v := 1) hx hb dX0_overWith_22 (by decide) ?_
      refine lv_iand (pc := 23) hx hb dX0_overWith_23 ?_
      refine lv_if_ne (pc := 24) (tgt := 44) hx hb dX0_overWith_24 (by decide) (fun c4 => ?_) (fun c4 => ?_)
      · replace h := z_f c4 h
        obtain ⟨v5, ev5, h⟩ := z_lo h
        refine lv_iinc (pc := 44) (v := v5) (lv' := [(6, .int v5), (0, .ref (G.1 32)), (1, .int i1), (2, .int i2), (4, .ref (G.1 k4)), (5, .ref (G.1 k5))]) hx hb dX0_overWith_44 hl (k := 5) rfl (by rw [ev5]; rfl) (by decide) rfl (fun ls hl => ?_)
        refine lv_goto (pc := 47) (tgt := 9) hx hb dX0_overWith_47 (by decide) ?_
        exact ih i1 i2 k4 k5 v5 M H locs ls hk4 hk5 hw (lv_sub hl [1, 2, 3, 4, 5, 0] rfl) h
      · replace h := z_t c4 h
        refine lv_aload (pc := 27) hx hb dX0_overWith_27 (lv_at hl 3 rfl) ?_
        refine zg_Roofs_houses (pc := 29) X hw hk4 zw_fl_1_145 dX0_overWith_29 ?_
        refine lv_aload_n (pc := 32) hx hb dX0_overWith_32 rfl (lv_at hl 0 rfl) ?_
        refine zg_Blame_clogged (pc := 33) X hw zw_fl_2_109 dX0_overWith_33 ?_
        refine lv_iload (pc := 36) hx hb dX0_overWith_36 (lv_at hl 5 rfl) ?_
        obtain ⟨g6, h⟩ := z_gd h
        refine z_iald (pc := 38) X hw zk_33 zl_33 g6 dX0_overWith_38 ?_
        obtain ⟨v7, ev7, h⟩ := z_lo h
        refine z_topi ev7 ?_
        obtain ⟨g8, h⟩ := z_gd h
        refine z_aald16 (pc := 39) X hw (zk_Roofs_houses hk4) (zl_Roofs_houses hk4) g8 dX0_overWith_39 ?_
        refine lv_iconst (pc := 40) (v := 0) hx hb dX0_overWith_40 (by decide) ?_
        refine zp_House_clog (pc := 41) X hw (zk_el16 (zk_Roofs_houses hk4) g8) zw_fl_1_61 dX0_overWith_41 (fun HM9 lM9 wM9 => ?_)
        obtain ⟨M9, eM9, h⟩ := z_lo h
        rw [← eM9] at wM9
        obtain ⟨v10, ev10, h⟩ := z_lo h
        refine lv_iinc (pc := 44) (v := v10) (lv' := [(6, .int v10), (0, .ref (G.1 32)), (1, .int i1), (2, .int i2), (4, .ref (G.1 k4)), (5, .ref (G.1 k5))]) hx hb dX0_overWith_44 hl (k := 5) rfl (by rw [ev10]; rfl) (by decide) rfl (fun ls hl => ?_)
        refine lv_goto (pc := 47) (tgt := 9) hx hb dX0_overWith_47 (by decide) ?_
        exact ih i1 i2 k4 k5 v10 M9 HM9 lM9 ls hk4 hk5 wM9 (lv_sub hl [1, 2, 3, 4, 5, 0] rfl) h
set_option maxHeartbeats 4000000 in
set_option maxRecDepth 100000 in
theorem m_X0_overWith {l : Launch} {G : zG} {i1 : Int32} {i2 : Int32} {k3 : Nat} {k4 : Nat} {k5 : Nat} {M : zM} {r : Int32 × zM} (hk3 : z_kd k3 = 5) (hk4 : z_kd k4 = 5) (hk5 : z_kd k5 = 7) (h : f_X0_overWith i1 i2 k3 k4 k5 M = some r) : z_T l G 4 yX0_overWith (.code yX0_overWith cX0_overWith 7 (some .int)) [.ref (G.1 32), .int i1, .int i2, .ref (G.1 k3), .ref (G.1 k4), .ref (G.1 k5)] M (some (.int r.1)) r.2 := by
  refine z_of rfl ?_
  intro p e s m below meth c X hw
  have hl := lv_entry [.ref (G.1 32), .int i1, .int i2, .ref (G.1 k3), .ref (G.1 k4), .ref (G.1 k5)] (n := 7) (Nat.le_of_ble_eq_true rfl)
  rw [lg_entry_eq]
  generalize (lg_sl [.ref (G.1 32), .int i1, .int i2, .ref (G.1 k3), .ref (G.1 k4), .ref (G.1 k5)] ++ List.replicate (7 - (lg_sl [.ref (G.1 32), .int i1, .int i2, .ref (G.1 k3), .ref (G.1 k4), .ref (G.1 k5)]).length) Slot.unset).toArray = ls at hl ⊢
  have hl : lv_has ls 7 [(0, .ref (G.1 32)), (1, .int i1), (2, .int i2), (3, .ref (G.1 k3)), (4, .ref (G.1 k4)), (5, .ref (G.1 k5))] := hl
  generalize ([.ref (G.1 32), .int i1, .int i2, .ref (G.1 k3), .ref (G.1 k4), .ref (G.1 k5)] : List Value).toArray = args at X ⊢
  have X : z_C G p s m args meth c cX0_overWith 7 RX0 (some .int) := X
  have hx := X.1
  have hb := X.2.1
  unfold f_X0_overWith at h
  refine lv_aload (pc := 0) hx hb dX0_overWith_0 (lv_at hl 4 rfl) ?_
  refine lv_aload_n (pc := 2) hx hb dX0_overWith_2 rfl (lv_at hl 3 rfl) ?_
  obtain ⟨x1, ex1, h⟩ := z_bd h
  refine z_cvV (pc := 3) (rest := []) X hw (m_X5_imagine hk4 hk3 ex1) (z_lt hk4 (by decide)) (z_E5 hk4) rfl zw_ml_4_126 zw_im_4_127 zw_se_4_128 zw_in_1_3 zw_co_4_129 zd_X5_imagine (by decide) rfl hl.1 rfl (Nat.le_of_ble_eq_true rfl) dX0_overWith_3 ⟨Nat.zero_le _, Nat.zero_le _⟩ (fun Hx1 lx1 wx1 => ?_)
  refine lv_iconst (pc := 6) (v := 0) hx hb dX0_overWith_6 (by decide) ?_
  refine lv_istore (pc := 7) (lv' := [(6, .int (0 : Int32)), (0, .ref (G.1 32)), (1, .int i1), (2, .int i2), (3, .ref (G.1 k3)), (4, .ref (G.1 k4)), (5, .ref (G.1 k5))]) hx hb dX0_overWith_7 hl (by decide) rfl (fun ls hl => ?_)
  exact w_X0_overWith_9 X z_F i1 i2 k4 k5 (0 : Int32) x1 Hx1 lx1 ls hk4 hk5 wx1 (lv_sub hl [1, 2, 3, 5, 6, 0] rfl) h
def f_J6_bitCount_0f7a4 (i0 : Int32) (M : zM) : Option (Int32 × zM) :=
  z_l ((i0).toUInt32 >>> (((1 : Int32)).toUInt32 &&& Int32.toUInt32 31)).toInt32 fun v1 =>
  z_l (i0 - (v1 &&& (1431655765 : Int32))) fun v2 =>
  z_l ((v2).toUInt32 >>> (((2 : Int32)).toUInt32 &&& Int32.toUInt32 31)).toInt32 fun v3 =>
  z_l ((v2 &&& (858993459 : Int32)) + (v3 &&& (858993459 : Int32))) fun v4 =>
  z_l ((v4).toUInt32 >>> (((4 : Int32)).toUInt32 &&& Int32.toUInt32 31)).toInt32 fun v5 =>
  z_l ((v4 + v5) &&& (252645135 : Int32)) fun v6 =>
  z_l ((v6).toUInt32 >>> (((8 : Int32)).toUInt32 &&& Int32.toUInt32 31)).toInt32 fun v7 =>
  z_l (v6 + v7) fun v8 =>
  z_l ((v8).toUInt32 >>> (((16 : Int32)).toUInt32 &&& Int32.toUInt32 31)).toInt32 fun v9 =>
  z_l (v8 + v9) fun v10 =>
  some ((v10 &&& (63 : Int32)), M)
set_option maxHeartbeats 4000000 in
set_option maxRecDepth 100000 in
theorem m_J6_bitCount_0f7a4 {l : Launch} {G : zG} {i0 : Int32} {M : zM} {r : Int32 × zM} (h : f_J6_bitCount_0f7a4 i0 M = some r) : z_T l G 0 yJ6_bitCount_0f7a4 (.code yJ6_bitCount_0f7a4 cJ6_bitCount_0f7a4 1 (some .int)) [.int i0] M (some (.int r.1)) r.2 := by
  refine z_of rfl ?_
  intro p e s m below meth c X hw
  have hl := lv_entry [.int i0] (n := 1) (Nat.le_of_ble_eq_true rfl)
  rw [lg_entry_eq]
  generalize (lg_sl [.int i0] ++ List.replicate (1 - (lg_sl [.int i0]).length) Slot.unset).toArray = ls at hl ⊢
  have hl : lv_has ls 1 [(0, .int i0)] := hl
  generalize ([.int i0] : List Value).toArray = args at X ⊢
  have X : z_C G p s m args meth c cJ6_bitCount_0f7a4 1 RJ6 (some .int) := X
  have hx := X.1
  have hb := X.2.1
  unfold f_J6_bitCount_0f7a4 at h
  refine lv_iload_n (pc := 0) hx hb dJ6_bitCount_0f7a4_0 rfl (lv_at hl 0 rfl) ?_
  refine lv_iload_n (pc := 1) hx hb dJ6_bitCount_0f7a4_1 rfl (lv_at hl 0 rfl) ?_
  refine lv_iconst (pc := 2) (v := 1) hx hb dJ6_bitCount_0f7a4_2 (by decide) ?_
  refine lv_iushr (pc := 3) hx hb dJ6_bitCount_0f7a4_3 rfl ?_
  obtain ⟨v1, ev1, h⟩ := z_lo h
  refine z_topi ev1 ?_
  refine lv_ldcw (pc := 4) (v := 1431655765) hx hb X.2.2.2.1 (X.2.2.2.2.1 _ zw_cn_4_147) dJ6_bitCount_0f7a4_4 ?_
  refine lv_iand (pc := 7) hx hb dJ6_bitCount_0f7a4_7 ?_
  refine lv_isub (pc := 8) hx hb dJ6_bitCount_0f7a4_8 ?_
  obtain ⟨v2, ev2, h⟩ := z_lo h
  refine z_topi ev2 ?_
  refine lv_istore_n (pc := 9) (lv' := [(0, .int v2)]) hx hb dJ6_bitCount_0f7a4_9 rfl hl (by decide) rfl (fun ls hl => ?_)
  refine lv_iload_n (pc := 10) hx hb dJ6_bitCount_0f7a4_10 rfl (lv_at hl 0 rfl) ?_
  refine lv_ldcw (pc := 11) (v := 858993459) hx hb X.2.2.2.1 (X.2.2.2.2.1 _ zw_cn_4_148) dJ6_bitCount_0f7a4_11 ?_
  refine lv_iand (pc := 14) hx hb dJ6_bitCount_0f7a4_14 ?_
  refine lv_iload_n (pc := 15) hx hb dJ6_bitCount_0f7a4_15 rfl (lv_at hl 0 rfl) ?_
  refine lv_iconst (pc := 16) (v := 2) hx hb dJ6_bitCount_0f7a4_16 (by decide) ?_
  refine lv_iushr (pc := 17) hx hb dJ6_bitCount_0f7a4_17 rfl ?_
  obtain ⟨v3, ev3, h⟩ := z_lo h
  refine z_topi ev3 ?_
  refine lv_ldcw (pc := 18) (v := 858993459) hx hb X.2.2.2.1 (X.2.2.2.2.1 _ zw_cn_4_148) dJ6_bitCount_0f7a4_18 ?_
  refine lv_iand (pc := 21) hx hb dJ6_bitCount_0f7a4_21 ?_
  refine lv_iadd (pc := 22) hx hb dJ6_bitCount_0f7a4_22 ?_
  obtain ⟨v4, ev4, h⟩ := z_lo h
  refine z_topi ev4 ?_
  refine lv_istore_n (pc := 23) (lv' := [(0, .int v4)]) hx hb dJ6_bitCount_0f7a4_23 rfl hl (by decide) rfl (fun ls hl => ?_)
  refine lv_iload_n (pc := 24) hx hb dJ6_bitCount_0f7a4_24 rfl (lv_at hl 0 rfl) ?_
  refine lv_iload_n (pc := 25) hx hb dJ6_bitCount_0f7a4_25 rfl (lv_at hl 0 rfl) ?_
  refine lv_iconst (pc := 26) (v := 4) hx hb dJ6_bitCount_0f7a4_26 (by decide) ?_
  refine lv_iushr (pc := 27) hx hb dJ6_bitCount_0f7a4_27 rfl ?_
  obtain ⟨v5, ev5, h⟩ := z_lo h
  refine z_topi ev5 ?_
  refine lv_iadd (pc := 28) hx hb dJ6_bitCount_0f7a4_28 ?_
  refine lv_ldcw (pc := 29) (v := 252645135) hx hb X.2.2.2.1 (X.2.2.2.2.1 _ zw_cn_4_149) dJ6_bitCount_0f7a4_29 ?_
  refine lv_iand (pc := 32) hx hb dJ6_bitCount_0f7a4_32 ?_
  obtain ⟨v6, ev6, h⟩ := z_lo h
  refine z_topi ev6 ?_
  refine lv_istore_n (pc := 33) (lv' := [(0, .int v6)]) hx hb dJ6_bitCount_0f7a4_33 rfl hl (by decide) rfl (fun ls hl => ?_)
  refine lv_iload_n (pc := 34) hx hb dJ6_bitCount_0f7a4_34 rfl (lv_at hl 0 rfl) ?_
  refine lv_iload_n (pc := 35) hx hb dJ6_bitCount_0f7a4_35 rfl (lv_at hl 0 rfl) ?_
  refine lv_bipush (pc := 36) (v := 8) hx hb dJ6_bitCount_0f7a4_36 (by decide) ?_
  refine lv_iushr (pc := 38) hx hb dJ6_bitCount_0f7a4_38 rfl ?_
  obtain ⟨v7, ev7, h⟩ := z_lo h
  refine z_topi ev7 ?_
  refine lv_iadd (pc := 39) hx hb dJ6_bitCount_0f7a4_39 ?_
  obtain ⟨v8, ev8, h⟩ := z_lo h
  refine z_topi ev8 ?_
  refine lv_istore_n (pc := 40) (lv' := [(0, .int v8)]) hx hb dJ6_bitCount_0f7a4_40 rfl hl (by decide) rfl (fun ls hl => ?_)
  refine lv_iload_n (pc := 41) hx hb dJ6_bitCount_0f7a4_41 rfl (lv_at hl 0 rfl) ?_
  refine lv_iload_n (pc := 42) hx hb dJ6_bitCount_0f7a4_42 rfl (lv_at hl 0 rfl) ?_
  refine lv_bipush (pc := 43) (v := 16) hx hb dJ6_bitCount_0f7a4_43 (by decide) ?_
  refine lv_iushr (pc := 45) hx hb dJ6_bitCount_0f7a4_45 rfl ?_
  obtain ⟨v9, ev9, h⟩ := z_lo h
  refine z_topi ev9 ?_
  refine lv_iadd (pc := 46) hx hb dJ6_bitCount_0f7a4_46 ?_
  obtain ⟨v10, ev10, h⟩ := z_lo h
  refine z_topi ev10 ?_
  refine lv_istore_n (pc := 47) (lv' := [(0, .int v10)]) hx hb dJ6_bitCount_0f7a4_47 rfl hl (by decide) rfl (fun ls hl => ?_)
  refine lv_iload_n (pc := 48) hx hb dJ6_bitCount_0f7a4_48 rfl (lv_at hl 0 rfl) ?_
  refine lv_bipush (pc := 49) (v := 63) hx hb dJ6_bitCount_0f7a4_49 (by decide) ?_
  refine lv_iand (pc := 51) hx hb dJ6_bitCount_0f7a4_51 ?_
  obtain rfl := Option.some.inj h
  exact z_ri (pc := 52) X hw dJ6_bitCount_0f7a4_52
def f_X0_addOrders_5 : Nat → Int32 → Int64 → Int32 → zM → Option (Int64 × zM)
  | 0, _, _, _, _ => none
  | n + 1, i1, j2, i4, M =>
    if ((1 : Int32) <<< ((M.1 32 2) &&& 31)) ≤ i4 then (
      some (j2, M)
    ) else (
      if (i4 &&& i1) = 0 then (
        (f_J6_bitCount_0f7a4 i4 M).bind fun x4 =>
        z_g (z_ix x4.1 8) <|
        z_l (((x4.2.1 32 2) - (1 : Int32)) - x4.1) fun v6 =>
        z_g (z_ix v6 8) <|
        z_l ((Int32.toInt64 (z_orL.getD (Int32.toNatClampNeg x4.1) 0)) * (Int32.toInt64 (z_orL.getD (Int32.toNatClampNeg v6) 0))) fun v8 =>
        z_g (z_ix (i4 ||| i1) 128) <|
        z_g (z_ix i4 128) <|
        z_l (j2 + (v8 * (Int32.toInt64 ((x4.2.1 34 (Int32.toNatClampNeg (i4 ||| i1))) - (x4.2.1 34 (Int32.toNatClampNeg i4)))))) fun v11 =>
        z_l (i4 + (1 : Int32)) fun v12 =>
        f_X0_addOrders_5 n i1 v11 v12 x4.2
      ) else (
        z_l (i4 + (1 : Int32)) fun v3 =>
        f_X0_addOrders_5 n i1 j2 v3 M
      )
    )
def f_X0_addOrders (i1 : Int32) (M : zM) : Option (Int64 × zM) :=
  f_X0_addOrders_5 z_F i1 (0 : Int64) (0 : Int32) M
set_option maxHeartbeats 4000000 in
set_option maxRecDepth 100000 in
theorem w_X0_addOrders_5 {G : zG} {p : Program} {l : Launch} {e : Env} {s : State} {m : MethodId} {args : Array Value} {below : List Frame} {meth : Method} {c : Code} (X : z_C G p s m args meth c cX0_addOrders 8 RX0 (some .long)) {r : Int64 × zM} : ∀ (n : Nat) (i1 : Int32) (j2 : Int64) (i4 : Int32) (M : zM) (H : Heap) (locs : List Loc) (ls : Array Slot), z_W G M H locs → lv_has ls 8 [(0, .ref (G.1 32)), (1, .int i1), (2, .long j2), (4, .int i4)] → f_X0_addOrders_5 n i1 j2 i4 M = some r → W p l e (z_rm 1) s m args below meth c H locs 0 0 (z_Q G below args s (some (.long r.1)) r.2) (F0 m 5 ls []) := by
  have hx := X.1
  have hb := X.2.1
  intro n
  induction n with
  | zero =>
    intro i1 j2 i4 M H locs ls  hw hl h
    exact z_no h
  | succ n ih =>
    intro i1 j2 i4 M H locs ls  hw hl h
    rw [f_X0_addOrders_5] at h
    refine lv_iload (pc := 5) hx hb dX0_addOrders_5 (lv_at hl 3 rfl) ?_
    refine lv_iconst (pc := 7) (v := 1) hx hb dX0_addOrders_7 (by decide) ?_
    refine lv_aload_n (pc := 8) hx hb dX0_addOrders_8 rfl (lv_at hl 0 rfl) ?_
    refine zg_Blame_count (pc := 9) X hw zw_fl_2_108 dX0_addOrders_9 ?_
    refine lv_ishl (pc := 12) hx hb dX0_addOrders_12 ?_
    refine lv_icmp_ge (pc := 13) (tgt := 84) hx hb dX0_addOrders_13 (by decide) (fun c1 => ?_) (fun c1 => ?_)
    · replace h := z_t c1 h
      refine lv_lload_n (pc := 84) hx hb dX0_addOrders_84 rfl (lv_at hl 2 rfl) ?_
      obtain rfl := Option.some.inj h
      exact z_rj (pc := 85) X hw dX0_addOrders_85
    · replace h := z_f c1 h
      refine lv_iload (pc := 16) hx hb dX0_addOrders_16 (lv_at hl 3 rfl) ?_
      refine lv_iload_n (pc := 18) hx hb dX0_addOrders_18 rfl (lv_at hl 1 rfl) ?_
      refine lv_iand (pc := 19) hx hb dX0_addOrders_19 ?_
      refine lv_if_ne (pc := 20) (tgt := 78) hx hb dX0_addOrders_20 (by decide) (fun c2 => ?_) (fun c2 => ?_)
      · replace h := z_f c2 h
        obtain ⟨v3, ev3, h⟩ := z_lo h
        refine lv_iinc (pc := 78) (v := v3) (lv' := [(4, .int v3), (0, .ref (G.1 32)), (1, .int i1), (2, .long j2)]) hx hb dX0_addOrders_78 hl (k := 3) rfl (by rw [ev3]; rfl) (by decide) rfl (fun ls hl => ?_)
        refine lv_goto (pc := 81) (tgt := 5) hx hb dX0_addOrders_81 (by decide) ?_
        exact ih i1 j2 v3 M H locs ls  hw (lv_sub hl [1, 2, 3, 0] rfl) h
      · replace h := z_t c2 h
        refine lv_iload (pc := 23) hx hb dX0_addOrders_23 (lv_at hl 3 rfl) ?_
        obtain ⟨x4, ex4, h⟩ := z_bd h
        refine z_csI (pc := 25) (rest := []) X hw (m_J6_bitCount_0f7a4  ex4) zw_ml_4_144 zw_st_4_145 zw_in_1_20 zw_co_4_146 zd_J6_bitCount_0f7a4 (by decide) rfl hl.1 rfl (Nat.le_of_ble_eq_true rfl) dX0_addOrders_25 ⟨Nat.zero_le _, Nat.zero_le _⟩ (fun Hx4 lx4 wx4 => ?_)
        refine lv_istore (pc := 28) (lv' := [(5, .int x4.1), (0, .ref (G.1 32)), (1, .int i1), (2, .long j2), (4, .int i4)]) hx hb dX0_addOrders_28 hl (by decide) rfl (fun ls hl => ?_)
        refine z_gT1 (pc := 30) X wx4 zwn_X0_60 dX0_addOrders_30 ?_
        refine lv_iload (pc := 33) hx hb dX0_addOrders_33 (lv_at hl 0 rfl) ?_
        obtain ⟨g5, h⟩ := z_gd h
        refine z_iaT1 (pc := 35) X wx4 g5 dX0_addOrders_35 ?_
        refine lv_i2l (pc := 36) hx hb dX0_addOrders_36 rfl ?_
        refine z_gT1 (pc := 37) X wx4 zwn_X0_60 dX0_addOrders_37 ?_
        refine lv_aload_n (pc := 40) hx hb dX0_addOrders_40 rfl (lv_at hl 1 rfl) ?_
        refine zg_Blame_count (pc := 41) X wx4 zw_fl_2_108 dX0_addOrders_41 ?_
        refine lv_iconst (pc := 44) (v := 1) hx hb dX0_addOrders_44 (by decide) ?_
        refine lv_isub (pc := 45) hx hb dX0_addOrders_45 ?_
        refine lv_iload (pc := 46) hx hb dX0_addOrders_46 (lv_at hl 0 rfl) ?_
        refine lv_isub (pc := 48) hx hb dX0_addOrders_48 ?_
        obtain ⟨v6, ev6, h⟩ := z_lo h
        refine z_topi ev6 ?_
        obtain ⟨g7, h⟩ := z_gd h
        refine z_iaT1 (pc := 49) X wx4 g7 dX0_addOrders_49 ?_
        refine lv_i2l (pc := 50) hx hb dX0_addOrders_50 rfl ?_
        refine lv_lmul (pc := 51) hx hb dX0_addOrders_51 ?_
        obtain ⟨v8, ev8, h⟩ := z_lo h
        refine z_topl ev8 ?_
        refine lv_lstore (pc := 52) (lv' := [(6, .long v8), (5, .int x4.1), (0, .ref (G.1 32)), (1, .int i1), (2, .long j2), (4, .int i4)]) hx hb dX0_addOrders_52 hl (by decide) rfl (fun ls hl => ?_)
        refine lv_lload_n (pc := 54) hx hb dX0_addOrders_54 rfl (lv_at hl 4 rfl) ?_
        refine lv_lload (pc := 55) hx hb dX0_addOrders_55 (lv_at hl 0 rfl) ?_
        refine lv_aload_n (pc := 57) hx hb dX0_addOrders_57 rfl (lv_at hl 2 rfl) ?_
        refine zg_Blame_overs (pc := 58) X wx4 zw_fl_2_110 dX0_addOrders_58 ?_
        refine lv_iload (pc := 61) hx hb dX0_addOrders_61 (lv_at hl 5 rfl) ?_
        refine lv_iload_n (pc := 63) hx hb dX0_addOrders_63 rfl (lv_at hl 3 rfl) ?_
        refine lv_ior (pc := 64) hx hb dX0_addOrders_64 ?_
        obtain ⟨g9, h⟩ := z_gd h
        refine z_iald (pc := 65) X wx4 zk_34 zl_34 g9 dX0_addOrders_65 ?_
        refine lv_aload_n (pc := 66) hx hb dX0_addOrders_66 rfl (lv_at hl 2 rfl) ?_
        refine zg_Blame_overs (pc := 67) X wx4 zw_fl_2_110 dX0_addOrders_67 ?_
        refine lv_iload (pc := 70) hx hb dX0_addOrders_70 (lv_at hl 5 rfl) ?_
        obtain ⟨g10, h⟩ := z_gd h
        refine z_iald (pc := 72) X wx4 zk_34 zl_34 g10 dX0_addOrders_72 ?_
        refine lv_isub (pc := 73) hx hb dX0_addOrders_73 ?_
        refine lv_i2l (pc := 74) hx hb dX0_addOrders_74 rfl ?_
        refine lv_lmul (pc := 75) hx hb dX0_addOrders_75 ?_
        refine lv_ladd (pc := 76) hx hb dX0_addOrders_76 ?_
        obtain ⟨v11, ev11, h⟩ := z_lo h
        refine z_topl ev11 ?_
        refine lv_lstore_n (pc := 77) (lv' := [(2, .long v11), (6, .long v8), (5, .int x4.1), (0, .ref (G.1 32)), (1, .int i1), (4, .int i4)]) hx hb dX0_addOrders_77 rfl hl (by decide) rfl (fun ls hl => ?_)
        obtain ⟨v12, ev12, h⟩ := z_lo h
        refine lv_iinc (pc := 78) (v := v12) (lv' := [(4, .int v12), (2, .long v11), (6, .long v8), (5, .int x4.1), (0, .ref (G.1 32)), (1, .int i1)]) hx hb dX0_addOrders_78 hl (k := 5) rfl (by rw [ev12]; rfl) (by decide) rfl (fun ls hl => ?_)
        refine lv_goto (pc := 81) (tgt := 5) hx hb dX0_addOrders_81 (by decide) ?_
        exact ih i1 v11 v12 x4.2 Hx4 lx4 ls  wx4 (lv_sub hl [4, 5, 1, 0] rfl) h
set_option maxHeartbeats 4000000 in
set_option maxRecDepth 100000 in
theorem m_X0_addOrders {l : Launch} {G : zG} {i1 : Int32} {M : zM} {r : Int64 × zM} (h : f_X0_addOrders i1 M = some r) : z_T l G 1 yX0_addOrders (.code yX0_addOrders cX0_addOrders 8 (some .long)) [.ref (G.1 32), .int i1] M (some (.long r.1)) r.2 := by
  refine z_of rfl ?_
  intro p e s m below meth c X hw
  have hl := lv_entry [.ref (G.1 32), .int i1] (n := 8) (Nat.le_of_ble_eq_true rfl)
  rw [lg_entry_eq]
  generalize (lg_sl [.ref (G.1 32), .int i1] ++ List.replicate (8 - (lg_sl [.ref (G.1 32), .int i1]).length) Slot.unset).toArray = ls at hl ⊢
  have hl : lv_has ls 8 [(0, .ref (G.1 32)), (1, .int i1)] := hl
  generalize ([.ref (G.1 32), .int i1] : List Value).toArray = args at X ⊢
  have X : z_C G p s m args meth c cX0_addOrders 8 RX0 (some .long) := X
  have hx := X.1
  have hb := X.2.1
  unfold f_X0_addOrders at h
  refine lv_lconst (pc := 0) (v := 0) hx hb dX0_addOrders_0 (by decide) ?_
  refine lv_lstore_n (pc := 1) (lv' := [(2, .long (0 : Int64)), (0, .ref (G.1 32)), (1, .int i1)]) hx hb dX0_addOrders_1 rfl hl (by decide) rfl (fun ls hl => ?_)
  refine lv_iconst (pc := 2) (v := 0) hx hb dX0_addOrders_2 (by decide) ?_
  refine lv_istore (pc := 3) (lv' := [(4, .int (0 : Int32)), (2, .long (0 : Int64)), (0, .ref (G.1 32)), (1, .int i1)]) hx hb dX0_addOrders_3 hl (by decide) rfl (fun ls hl => ?_)
  exact w_X0_addOrders_5 X z_F i1 (0 : Int64) (0 : Int32) M s.heap [] ls  hw (lv_sub hl [2, 3, 1, 0] rfl) h
def f_X0_commonPart_3 : Nat → Int64 → Int64 → Int32 → zM → Option (Int64 × zM)
  | 0, _, _, _, _ => none
  | n + 1, j0, j2, i4, M =>
    if (128 : Int32) ≤ i4 then (
      some ((if j0 < (1 : Int64) then (1 : Int64) else j0), M)
    ) else (
      if (lg_cmp j2 (0 : Int64)) = 0 then (
        some ((if j0 < (1 : Int64) then (1 : Int64) else j0), M)
      ) else (
        z_g (¬ j2 = 0) <|
        z_l (j0 - j0 / j2 * j2) fun v4 =>
        z_l (i4 + (1 : Int32)) fun v5 =>
        f_X0_commonPart_3 n j2 v4 v5 M
      )
    )
def f_X0_commonPart (j0 : Int64) (j2 : Int64) (M : zM) : Option (Int64 × zM) :=
  f_X0_commonPart_3 z_F j0 j2 (0 : Int32) M
set_option maxHeartbeats 4000000 in
set_option maxRecDepth 100000 in
theorem w_X0_commonPart_3 {G : zG} {p : Program} {l : Launch} {e : Env} {s : State} {m : MethodId} {args : Array Value} {below : List Frame} {meth : Method} {c : Code} (X : z_C G p s m args meth c cX0_commonPart 7 RX0 (some .long)) {r : Int64 × zM} : ∀ (n : Nat) (j0 : Int64) (j2 : Int64) (i4 : Int32) (M : zM) (H : Heap) (locs : List Loc) (ls : Array Slot), z_W G M H locs → lv_has ls 7 [(0, .long j0), (2, .long j2), (4, .int i4)] → f_X0_commonPart_3 n j0 j2 i4 M = some r → W p l e (z_rm 0) s m args below meth c H locs 0 0 (z_Q G below args s (some (.long r.1)) r.2) (F0 m 3 ls []) := by
  have hx := X.1
  have hb := X.2.1
  intro n
  induction n with
  | zero =>
    intro j0 j2 i4 M H locs ls  hw hl h
    exact z_no h
  | succ n ih =>
    intro j0 j2 i4 M H locs ls  hw hl h
    rw [f_X0_commonPart_3] at h
    refine lv_iload (pc := 3) hx hb dX0_commonPart_3 (lv_at hl 2 rfl) ?_
    refine lv_sipush (pc := 5) (v := 128) hx hb dX0_commonPart_5 (by decide) ?_
    refine lv_icmp_ge (pc := 8) (tgt := 33) hx hb dX0_commonPart_8 (by decide) (fun c1 => ?_) (fun c1 => ?_)
    · replace h := z_t c1 h
      refine lv_lconst (pc := 33) (v := 1) hx hb dX0_commonPart_33 (by decide) ?_
      refine lv_lload_n (pc := 34) hx hb dX0_commonPart_34 rfl (lv_at hl 0 rfl) ?_
      refine z_maxl (pc := 35) (rest := []) X zw_ml_4_158 zw_st_4_159 zw_in_1_17 zw_co_4_160 hl.1 ⟨Nat.zero_le _, Nat.zero_le _⟩ (z_lm (Nat.le_of_ble_eq_true rfl)) (Nat.le_of_ble_eq_true rfl) dX0_commonPart_35 ?_
      obtain rfl := Option.some.inj h
      exact z_rj (pc := 38) X hw dX0_commonPart_38
    · replace h := z_f c1 h
      refine lv_lload_n (pc := 11) hx hb dX0_commonPart_11 rfl (lv_at hl 1 rfl) ?_
      refine lv_lconst (pc := 12) (v := 0) hx hb dX0_commonPart_12 (by decide) ?_
      refine W.lcmp (pc := 13) hx hb dX0_commonPart_13 ?_
      refine lv_if_eq (pc := 14) (tgt := 33) hx hb dX0_commonPart_14 (by decide) (fun c2 => ?_) (fun c2 => ?_)
      · replace h := z_t c2 h
        refine lv_lconst (pc := 33) (v := 1) hx hb dX0_commonPart_33 (by decide) ?_
        refine lv_lload_n (pc := 34) hx hb dX0_commonPart_34 rfl (lv_at hl 0 rfl) ?_
        refine z_maxl (pc := 35) (rest := []) X zw_ml_4_158 zw_st_4_159 zw_in_1_17 zw_co_4_160 hl.1 ⟨Nat.zero_le _, Nat.zero_le _⟩ (z_lm (Nat.le_of_ble_eq_true rfl)) (Nat.le_of_ble_eq_true rfl) dX0_commonPart_35 ?_
        obtain rfl := Option.some.inj h
        exact z_rj (pc := 38) X hw dX0_commonPart_38
      · replace h := z_f c2 h
        refine lv_lload_n (pc := 17) hx hb dX0_commonPart_17 rfl (lv_at hl 0 rfl) ?_
        refine lv_lload_n (pc := 18) hx hb dX0_commonPart_18 rfl (lv_at hl 1 rfl) ?_
        obtain ⟨g3, h⟩ := z_gd h
        refine lv_lrem (pc := 19) hx hb dX0_commonPart_19 g3 ?_
        obtain ⟨v4, ev4, h⟩ := z_lo h
        refine z_topl ev4 ?_
        refine lv_lstore (pc := 20) (lv' := [(5, .long v4), (0, .long j0), (2, .long j2), (4, .int i4)]) hx hb dX0_commonPart_20 hl (by decide) rfl (fun ls hl => ?_)
        refine lv_lload_n (pc := 22) hx hb dX0_commonPart_22 rfl (lv_at hl 2 rfl) ?_
        refine lv_lstore_n (pc := 23) (lv' := [(0, .long j2), (5, .long v4), (2, .long j2), (4, .int i4)]) hx hb dX0_commonPart_23 rfl hl (by decide) rfl (fun ls hl => ?_)
        refine lv_lload (pc := 24) hx hb dX0_commonPart_24 (lv_at hl 1 rfl) ?_
        refine lv_lstore_n (pc := 26) (lv' := [(2, .long v4), (0, .long j2), (5, .long v4), (4, .int i4)]) hx hb dX0_commonPart_26 rfl hl (by decide) rfl (fun ls hl => ?_)
        obtain ⟨v5, ev5, h⟩ := z_lo h
        refine lv_iinc (pc := 27) (v := v5) (lv' := [(4, .int v5), (2, .long v4), (0, .long j2), (5, .long v4)]) hx hb dX0_commonPart_27 hl (k := 3) rfl (by rw [ev5]; rfl) (by decide) rfl (fun ls hl => ?_)
        refine lv_goto (pc := 30) (tgt := 3) hx hb dX0_commonPart_30 (by decide) ?_
        exact ih j2 v4 v5 M H locs ls  hw (lv_sub hl [2, 1, 0] rfl) h
set_option maxHeartbeats 4000000 in
set_option maxRecDepth 100000 in
theorem m_X0_commonPart {l : Launch} {G : zG} {j0 : Int64} {j2 : Int64} {M : zM} {r : Int64 × zM} (h : f_X0_commonPart j0 j2 M = some r) : z_T l G 0 yX0_commonPart (.code yX0_commonPart cX0_commonPart 7 (some .long)) [.long j0, .long j2] M (some (.long r.1)) r.2 := by
  refine z_of rfl ?_
  intro p e s m below meth c X hw
  have hl := lv_entry [.long j0, .long j2] (n := 7) (Nat.le_of_ble_eq_true rfl)
  rw [lg_entry_eq]
  generalize (lg_sl [.long j0, .long j2] ++ List.replicate (7 - (lg_sl [.long j0, .long j2]).length) Slot.unset).toArray = ls at hl ⊢
  have hl : lv_has ls 7 [(0, .long j0), (2, .long j2)] := hl
  generalize ([.long j0, .long j2] : List Value).toArray = args at X ⊢
  have X : z_C G p s m args meth c cX0_commonPart 7 RX0 (some .long) := X
  have hx := X.1
  have hb := X.2.1
  unfold f_X0_commonPart at h
  refine lv_iconst (pc := 0) (v := 0) hx hb dX0_commonPart_0 (by decide) ?_
  refine lv_istore (pc := 1) (lv' := [(4, .int (0 : Int32)), (0, .long j0), (2, .long j2)]) hx hb dX0_commonPart_1 hl (by decide) rfl (fun ls hl => ?_)
  exact w_X0_commonPart_3 X z_F j0 j2 (0 : Int32) M s.heap [] ls  hw (lv_sub hl [1, 2, 0] rfl) h
def f_X0_weigh_64 : Nat → Int32 → Nat → Nat → Nat → Int32 → Int32 → zM → Option (zM)
  | 0, _, _, _, _, _, _, _ => none
  | n + 1, i1, k3, k4, k5, i6, i7, M =>
    if ((1 : Int32) <<< ((M.1 32 2) &&& 31)) ≤ i7 then (
      (f_X0_addOrders i6 M).bind fun x2 =>
      z_g (z_ix (x2.2.1 32 2) 8) <|
      z_l (Int32.toInt64 (z_orL.getD (Int32.toNatClampNeg (x2.2.1 32 2)) 0)) fun v4 =>
      (f_X0_commonPart (if 0 < x2.1 then x2.1 else -x2.1) v4 x2.2).bind fun x5 =>
      z_g (¬ x5.1 = 0) <|
      z_l (z_wl x5.2 32 0 (x2.1 / x5.1)) fun M7 =>
      z_g (¬ x5.1 = 0) <|
      z_l (z_wl M7 32 1 (v4 / x5.1)) fun M9 =>
      some M9
    ) else (
      (f_X0_overWith i7 i1 k3 k4 k5 M).bind fun x10 =>
      z_g (z_ix i7 128) <|
      z_l (z_w x10.2 34 (Int32.toNatClampNeg i7) x10.1) fun M12 =>
      z_l (i7 + (1 : Int32)) fun v13 =>
      f_X0_weigh_64 n i1 k3 k4 k5 i6 v13 M12
    )
def f_X0_weigh_16 : Nat → Int32 → Int32 → Nat → Nat → Nat → Int32 → Int32 → zM → Option (zM)
  | 0, _, _, _, _, _, _, _, _ => none
  | n + 1, i1, i2, k3, k4, k5, i6, i7, M =>
    if (M.1 32 2) ≤ i7 then (
      if i6 = 0 then (
        some M
      ) else (
        f_X0_weigh_64 z_F i1 k3 k4 k5 i6 (0 : Int32) M
      )
    ) else (
      z_g (z_ix i7 7) <|
      if (M.1 33 (Int32.toNatClampNeg i7)) = i2 then (
        z_l (i6 ||| ((1 : Int32) <<< (i7 &&& 31))) fun v7 =>
        z_l (i7 + (1 : Int32)) fun v8 =>
        f_X0_weigh_16 n i1 i2 k3 k4 k5 v7 v8 M
      ) else (
        z_l (i6 ||| (0 : Int32)) fun v5 =>
        z_l (i7 + (1 : Int32)) fun v6 =>
        f_X0_weigh_16 n i1 i2 k3 k4 k5 v5 v6 M
      )
    )
def f_X0_weigh (i1 : Int32) (i2 : Int32) (k3 : Nat) (k4 : Nat) (k5 : Nat) (M : zM) : Option (zM) :=
  z_l (z_wl M 32 0 (0 : Int64)) fun M1 =>
  z_l (z_wl M1 32 1 (1 : Int64)) fun M2 =>
  f_X0_weigh_16 z_F i1 i2 k3 k4 k5 (0 : Int32) (0 : Int32) M2
set_option maxHeartbeats 4000000 in
set_option maxRecDepth 100000 in
theorem w_X0_weigh_64 {G : zG} {p : Program} {l : Launch} {e : Env} {s : State} {m : MethodId} {args : Array Value} {below : List Frame} {meth : Method} {c : Code} (X : z_C G p s m args meth c cX0_weigh 13 RX0 none) {r : zM} : ∀ (n : Nat) (i1 : Int32) (k3 : Nat) (k4 : Nat) (k5 : Nat) (i6 : Int32) (i7 : Int32) (M : zM) (H : Heap) (locs : List Loc) (ls : Array Slot), z_kd k3 = 5 → z_kd k4 = 5 → z_kd k5 = 7 → z_W G M H locs → lv_has ls 13 [(0, .ref (G.1 32)), (1, .int i1), (3, .ref (G.1 k3)), (4, .ref (G.1 k4)), (5, .ref (G.1 k5)), (6, .int i6), (7, .int i7)] → f_X0_weigh_64 n i1 k3 k4 k5 i6 i7 M = some r → W p l e (z_rm 5) s m args below meth c H locs 0 0 (z_Q G below args s none r) (F0 m 64 ls []) := by
  have hx := X.1
  have hb := X.2.1
  intro n
  induction n with
  | zero =>
    intro i1 k3 k4 k5 i6 i7 M H locs ls hk3 hk4 hk5 hw hl h
    exact z_no h
  | succ n ih =>
    intro i1 k3 k4 k5 i6 i7 M H locs ls hk3 hk4 hk5 hw hl h
    rw [f_X0_weigh_64] at h
    refine lv_iload (pc := 64) hx hb dX0_weigh_64 (lv_at hl 6 rfl) ?_
    refine lv_iconst (pc := 66) (v := 1) hx hb dX0_weigh_66 (by decide) ?_
    refine lv_aload_n (pc := 67) hx hb dX0_weigh_67 rfl (lv_at hl 0 rfl) ?_
    refine zg_Blame_count (pc := 68) X hw zw_fl_2_108 dX0_weigh_68 ?_
    refine lv_ishl (pc := 71) hx hb dX0_weigh_71 ?_
    refine lv_icmp_ge (pc := 72) (tgt := 100) hx hb dX0_weigh_72 (by decide) (fun c1 => ?_) (fun c1 => ?_)
    · replace h := z_t c1 h
      refine lv_aload_n (pc := 100) hx hb dX0_weigh_100 rfl (lv_at hl 0 rfl) ?_
      refine lv_iload (pc := 101) hx hb dX0_weigh_101 (lv_at hl 5 rfl) ?_
      obtain ⟨x2, ex2, h⟩ := z_bd h
      refine z_cvJ (pc := 103) (rest := []) X hw (m_X0_addOrders  ex2) (z_lt zk_32 (by decide)) (z_E0 zk_32) rfl zw_ml_4_140 zw_im_4_142 zw_se_S_25 zw_in_1_9 zw_co_4_143 zd_X0_addOrders (by decide) rfl hl.1 rfl (Nat.le_of_ble_eq_true rfl) dX0_weigh_103 ⟨Nat.zero_le _, Nat.zero_le _⟩ (fun Hx2 lx2 wx2 => ?_)
      refine lv_lstore (pc := 106) (lv' := [(7, .long x2.1), (0, .ref (G.1 32)), (1, .int i1), (3, .ref (G.1 k3)), (4, .ref (G.1 k4)), (5, .ref (G.1 k5)), (6, .int i6)]) hx hb dX0_weigh_106 hl (by decide) rfl (fun ls hl => ?_)
      refine z_gT1 (pc := 108) X wx2 zwn_X0_60 dX0_weigh_108 ?_
      refine lv_aload_n (pc := 111) hx hb dX0_weigh_111 rfl (lv_at hl 1 rfl) ?_
      refine zg_Blame_count (pc := 112) X wx2 zw_fl_2_108 dX0_weigh_112 ?_
      obtain ⟨g3, h⟩ := z_gd h
      refine z_iaT1 (pc := 115) X wx2 g3 dX0_weigh_115 ?_
      refine lv_i2l (pc := 116) hx hb dX0_weigh_116 rfl ?_
      obtain ⟨v4, ev4, h⟩ := z_lo h
      refine z_topl ev4 ?_
      refine lv_lstore (pc := 117) (lv' := [(9, .long v4), (7, .long x2.1), (0, .ref (G.1 32)), (1, .int i1), (3, .ref (G.1 k3)), (4, .ref (G.1 k4)), (5, .ref (G.1 k5)), (6, .int i6)]) hx hb dX0_weigh_117 hl (by decide) rfl (fun ls hl => ?_)
      refine lv_lload (pc := 119) hx hb dX0_weigh_119 (lv_at hl 1 rfl) ?_
      refine z_absl (pc := 121) (rest := []) X zw_ml_4_152 zw_st_4_153 zw_in_1_17 zw_co_4_154 hl.1 ⟨Nat.zero_le _, Nat.zero_le _⟩ (z_lm (Nat.le_of_ble_eq_true rfl)) dX0_weigh_121 ?_
      refine lv_lload (pc := 124) hx hb dX0_weigh_124 (lv_at hl 0 rfl) ?_
      obtain ⟨x5, ex5, h⟩ := z_bd h
      refine z_csJ (pc := 126) (rest := []) X wx2 (m_X0_commonPart  ex5) zw_ml_4_155 zw_st_4_156 zw_in_1_9 zw_co_4_157 zd_X0_commonPart (by decide) rfl hl.1 rfl (Nat.le_of_ble_eq_true rfl) dX0_weigh_126 ⟨Nat.zero_le _, Nat.zero_le _⟩ (fun Hx5 lx5 wx5 => ?_)
      refine lv_lstore (pc := 129) (lv' := [(11, .long x5.1), (9, .long v4), (7, .long x2.1), (0, .ref (G.1 32)), (1, .int i1), (3, .ref (G.1 k3)), (4, .ref (G.1 k4)), (5, .ref (G.1 k5)), (6, .int i6)]) hx hb dX0_weigh_129 hl (by decide) rfl (fun ls hl => ?_)
      refine lv_aload_n (pc := 131) hx hb dX0_weigh_131 rfl (lv_at hl 3 rfl) ?_
      refine lv_lload (pc := 132) hx hb dX0_weigh_132 (lv_at hl 2 rfl) ?_
      refine lv_lload (pc := 134) hx hb dX0_weigh_134 (lv_at hl 0 rfl) ?_
      obtain ⟨g6, h⟩ := z_gd h
      refine lv_ldiv (pc := 136) hx hb dX0_weigh_136 g6 ?_
      refine zp_Blame_shareAbove (pc := 137) X wx5 zw_fl_2_104 dX0_weigh_137 (fun HM7 lM7 wM7 => ?_)
      obtain ⟨M7, eM7, h⟩ := z_lo h
      rw [← eM7] at wM7
      refine lv_aload_n (pc := 140) hx hb dX0_weigh_140 rfl (lv_at hl 3 rfl) ?_
      refine lv_lload (pc := 141) hx hb dX0_weigh_141 (lv_at hl 1 rfl) ?_
      refine lv_lload (pc := 143) hx hb dX0_weigh_143 (lv_at hl 0 rfl) ?_
      obtain ⟨g8, h⟩ := z_gd h
      refine lv_ldiv (pc := 145) hx hb dX0_weigh_145 g8 ?_
      refine zp_Blame_shareBelow (pc := 146) X wM7 zw_fl_2_106 dX0_weigh_146 (fun HM9 lM9 wM9 => ?_)
      obtain ⟨M9, eM9, h⟩ := z_lo h
      rw [← eM9] at wM9
      obtain rfl := Option.some.inj h
      exact z_rv (pc := 149) X wM9 dX0_weigh_149
    · replace h := z_f c1 h
      refine lv_aload_n (pc := 75) hx hb dX0_weigh_75 rfl (lv_at hl 0 rfl) ?_
      refine zg_Blame_overs (pc := 76) X hw zw_fl_2_110 dX0_weigh_76 ?_
      refine lv_iload (pc := 79) hx hb dX0_weigh_79 (lv_at hl 6 rfl) ?_
      refine lv_aload_n (pc := 81) hx hb dX0_weigh_81 rfl (lv_at hl 0 rfl) ?_
      refine lv_iload (pc := 82) hx hb dX0_weigh_82 (lv_at hl 6 rfl) ?_
      refine lv_iload_n (pc := 84) hx hb dX0_weigh_84 rfl (lv_at hl 1 rfl) ?_
      refine lv_aload_n (pc := 85) hx hb dX0_weigh_85 rfl (lv_at hl 2 rfl) ?_
      refine lv_aload (pc := 86) hx hb dX0_weigh_86 (lv_at hl 3 rfl) ?_
      refine lv_aload (pc := 88) hx hb dX0_weigh_88 (lv_at hl 4 rfl) ?_
      obtain ⟨x10, ex10, h⟩ := z_bd h
      refine z_cvI (pc := 90) (rest := [.int i7, .ref (G.1 34)]) X hw (m_X0_overWith hk3 hk4 hk5 ex10) (z_lt zk_32 (by decide)) (z_E0 zk_32) rfl zw_ml_4_139 zw_im_4_123 zw_se_4_124 zw_in_1_9 zw_co_4_125 zd_X0_overWith (by decide) rfl hl.1 rfl (Nat.le_of_ble_eq_true rfl) dX0_weigh_90 ⟨Nat.zero_le _, Nat.zero_le _⟩ (fun Hx10 lx10 wx10 => ?_)
      obtain ⟨g11, h⟩ := z_gd h
      refine z_iast (pc := 93) X wx10 zk_34 zl_34 g11 dX0_weigh_93 (fun HM12 lM12 wM12 => ?_)
      obtain ⟨M12, eM12, h⟩ := z_lo h
      rw [← eM12] at wM12
      obtain ⟨v13, ev13, h⟩ := z_lo h
      refine lv_iinc (pc := 94) (v := v13) (lv' := [(7, .int v13), (0, .ref (G.1 32)), (1, .int i1), (3, .ref (G.1 k3)), (4, .ref (G.1 k4)), (5, .ref (G.1 k5)), (6, .int i6)]) hx hb dX0_weigh_94 hl (k := 6) rfl (by rw [ev13]; rfl) (by decide) rfl (fun ls hl => ?_)
      refine lv_goto (pc := 97) (tgt := 64) hx hb dX0_weigh_97 (by decide) ?_
      exact ih i1 k3 k4 k5 i6 v13 M12 HM12 lM12 ls hk3 hk4 hk5 wM12 (lv_sub hl [1, 2, 3, 4, 5, 6, 0] rfl) h
set_option maxHeartbeats 4000000 in
set_option maxRecDepth 100000 in
theorem w_X0_weigh_16 {G : zG} {p : Program} {l : Launch} {e : Env} {s : State} {m : MethodId} {args : Array Value} {below : List Frame} {meth : Method} {c : Code} (X : z_C G p s m args meth c cX0_weigh 13 RX0 none) {r : zM} : ∀ (n : Nat) (i1 : Int32) (i2 : Int32) (k3 : Nat) (k4 : Nat) (k5 : Nat) (i6 : Int32) (i7 : Int32) (M : zM) (H : Heap) (locs : List Loc) (ls : Array Slot), z_kd k3 = 5 → z_kd k4 = 5 → z_kd k5 = 7 → z_W G M H locs → lv_has ls 13 [(0, .ref (G.1 32)), (1, .int i1), (2, .int i2), (3, .ref (G.1 k3)), (4, .ref (G.1 k4)), (5, .ref (G.1 k5)), (6, .int i6), (7, .int i7)] → f_X0_weigh_16 n i1 i2 k3 k4 k5 i6 i7 M = some r → W p l e (z_rm 5) s m args below meth c H locs 0 0 (z_Q G below args s none r) (F0 m 16 ls []) := by
  have hx := X.1
  have hb := X.2.1
  intro n
  induction n with
  | zero =>
    intro i1 i2 k3 k4 k5 i6 i7 M H locs ls hk3 hk4 hk5 hw hl h
    exact z_no h
  | succ n ih =>
    intro i1 i2 k3 k4 k5 i6 i7 M H locs ls hk3 hk4 hk5 hw hl h
    rw [f_X0_weigh_16] at h
    refine lv_iload (pc := 16) hx hb dX0_weigh_16 (lv_at hl 7 rfl) ?_
    refine lv_aload_n (pc := 18) hx hb dX0_weigh_18 rfl (lv_at hl 0 rfl) ?_
    refine zg_Blame_count (pc := 19) X hw zw_fl_2_108 dX0_weigh_19 ?_
    refine lv_icmp_ge (pc := 22) (tgt := 55) hx hb dX0_weigh_22 (by decide) (fun c1 => ?_) (fun c1 => ?_)
    · replace h := z_t c1 h
      refine lv_iload (pc := 55) hx hb dX0_weigh_55 (lv_at hl 6 rfl) ?_
      refine lv_if_ne (pc := 57) (tgt := 61) hx hb dX0_weigh_57 (by decide) (fun c2 => ?_) (fun c2 => ?_)
      · replace h := z_f c2 h
        refine lv_iconst (pc := 61) (v := 0) hx hb dX0_weigh_61 (by decide) ?_
        refine lv_istore (pc := 62) (lv' := [(7, .int (0 : Int32)), (0, .ref (G.1 32)), (1, .int i1), (2, .int i2), (3, .ref (G.1 k3)), (4, .ref (G.1 k4)), (5, .ref (G.1 k5)), (6, .int i6)]) hx hb dX0_weigh_62 hl (by decide) rfl (fun ls hl => ?_)
        exact w_X0_weigh_64 X z_F i1 k3 k4 k5 i6 (0 : Int32) M H locs ls hk3 hk4 hk5 hw (lv_sub hl [1, 2, 4, 5, 6, 7, 0] rfl) h
      · replace h := z_t c2 h
        obtain rfl := Option.some.inj h
        exact z_rv (pc := 60) X hw dX0_weigh_60
    · replace h := z_f c1 h
      refine lv_iload (pc := 25) hx hb dX0_weigh_25 (lv_at hl 6 rfl) ?_
      refine lv_aload_n (pc := 27) hx hb dX0_weigh_27 rfl (lv_at hl 0 rfl) ?_
      refine zg_Blame_clogged (pc := 28) X hw zw_fl_2_109 dX0_weigh_28 ?_
      refine lv_iload (pc := 31) hx hb dX0_weigh_31 (lv_at hl 7 rfl) ?_
      obtain ⟨g3, h⟩ := z_gd h
      refine z_iald (pc := 33) X hw zk_33 zl_33 g3 dX0_weigh_33 ?_
      refine lv_iload_n (pc := 34) hx hb dX0_weigh_34 rfl (lv_at hl 2 rfl) ?_
      refine lv_icmp_ne (pc := 35) (tgt := 45) hx hb dX0_weigh_35 (by decide) (fun c4 => ?_) (fun c4 => ?_)
      · replace h := z_f c4 h
        refine lv_iconst (pc := 45) (v := 0) hx hb dX0_weigh_45 (by decide) ?_
        refine lv_ior (pc := 46) hx hb dX0_weigh_46 ?_
        obtain ⟨v5, ev5, h⟩ := z_lo h
        refine z_topi ev5 ?_
        refine lv_istore (pc := 47) (lv' := [(6, .int v5), (0, .ref (G.1 32)), (1, .int i1), (2, .int i2), (3, .ref (G.1 k3)), (4, .ref (G.1 k4)), (5, .ref (G.1 k5)), (7, .int i7)]) hx hb dX0_weigh_47 hl (by decide) rfl (fun ls hl => ?_)
        obtain ⟨v6, ev6, h⟩ := z_lo h
        refine lv_iinc (pc := 49) (v := v6) (lv' := [(7, .int v6), (6, .int v5), (0, .ref (G.1 32)), (1, .int i1), (2, .int i2), (3, .ref (G.1 k3)), (4, .ref (G.1 k4)), (5, .ref (G.1 k5))]) hx hb dX0_weigh_49 hl (k := 7) rfl (by rw [ev6]; rfl) (by decide) rfl (fun ls hl => ?_)
        refine lv_goto (pc := 52) (tgt := 16) hx hb dX0_weigh_52 (by decide) ?_
        exact ih i1 i2 k3 k4 k5 v5 v6 M H locs ls hk3 hk4 hk5 hw (lv_sub hl [2, 3, 4, 5, 6, 7, 1, 0] rfl) h
      · replace h := z_t c4 h
        refine lv_iconst (pc := 38) (v := 1) hx hb dX0_weigh_38 (by decide) ?_
        refine lv_iload (pc := 39) hx hb dX0_weigh_39 (lv_at hl 7 rfl) ?_
        refine lv_ishl (pc := 41) hx hb dX0_weigh_41 ?_
        refine lv_goto (pc := 42) (tgt := 46) hx hb dX0_weigh_42 (by decide) ?_
        refine lv_ior (pc := 46) hx hb dX0_weigh_46 ?_
        obtain ⟨v7, ev7, h⟩ := z_lo h
        refine z_topi ev7 ?_
        refine lv_istore (pc := 47) (lv' := [(6, .int v7), (0, .ref (G.1 32)), (1, .int i1), (2, .int i2), (3, .ref (G.1 k3)), (4, .ref (G.1 k4)), (5, .ref (G.1 k5)), (7, .int i7)]) hx hb dX0_weigh_47 hl (by decide) rfl (fun ls hl => ?_)
        obtain ⟨v8, ev8, h⟩ := z_lo h
        refine lv_iinc (pc := 49) (v := v8) (lv' := [(7, .int v8), (6, .int v7), (0, .ref (G.1 32)), (1, .int i1), (2, .int i2), (3, .ref (G.1 k3)), (4, .ref (G.1 k4)), (5, .ref (G.1 k5))]) hx hb dX0_weigh_49 hl (k := 7) rfl (by rw [ev8]; rfl) (by decide) rfl (fun ls hl => ?_)
        refine lv_goto (pc := 52) (tgt := 16) hx hb dX0_weigh_52 (by decide) ?_
        exact ih i1 i2 k3 k4 k5 v7 v8 M H locs ls hk3 hk4 hk5 hw (lv_sub hl [2, 3, 4, 5, 6, 7, 1, 0] rfl) h
set_option maxHeartbeats 4000000 in
set_option maxRecDepth 100000 in
theorem m_X0_weigh {l : Launch} {G : zG} {i1 : Int32} {i2 : Int32} {k3 : Nat} {k4 : Nat} {k5 : Nat} {M : zM} {r : zM} (hk3 : z_kd k3 = 5) (hk4 : z_kd k4 = 5) (hk5 : z_kd k5 = 7) (h : f_X0_weigh i1 i2 k3 k4 k5 M = some r) : z_T l G 5 yX0_weigh (.code yX0_weigh cX0_weigh 13 none) [.ref (G.1 32), .int i1, .int i2, .ref (G.1 k3), .ref (G.1 k4), .ref (G.1 k5)] M none r := by
  refine z_of rfl ?_
  intro p e s m below meth c X hw
  have hl := lv_entry [.ref (G.1 32), .int i1, .int i2, .ref (G.1 k3), .ref (G.1 k4), .ref (G.1 k5)] (n := 13) (Nat.le_of_ble_eq_true rfl)
  rw [lg_entry_eq]
  generalize (lg_sl [.ref (G.1 32), .int i1, .int i2, .ref (G.1 k3), .ref (G.1 k4), .ref (G.1 k5)] ++ List.replicate (13 - (lg_sl [.ref (G.1 32), .int i1, .int i2, .ref (G.1 k3), .ref (G.1 k4), .ref (G.1 k5)]).length) Slot.unset).toArray = ls at hl ⊢
  have hl : lv_has ls 13 [(0, .ref (G.1 32)), (1, .int i1), (2, .int i2), (3, .ref (G.1 k3)), (4, .ref (G.1 k4)), (5, .ref (G.1 k5))] := hl
  generalize ([.ref (G.1 32), .int i1, .int i2, .ref (G.1 k3), .ref (G.1 k4), .ref (G.1 k5)] : List Value).toArray = args at X ⊢
  have X : z_C G p s m args meth c cX0_weigh 13 RX0 none := X
  have hx := X.1
  have hb := X.2.1
  unfold f_X0_weigh at h
  refine lv_aload_n (pc := 0) hx hb dX0_weigh_0 rfl (lv_at hl 0 rfl) ?_
  refine lv_lconst (pc := 1) (v := 0) hx hb dX0_weigh_1 (by decide) ?_
  refine zp_Blame_shareAbove (pc := 2) X hw zw_fl_2_104 dX0_weigh_2 (fun HM1 lM1 wM1 => ?_)
  obtain ⟨M1, eM1, h⟩ := z_lo h
  rw [← eM1] at wM1
  refine lv_aload_n (pc := 5) hx hb dX0_weigh_5 rfl (lv_at hl 0 rfl) ?_
  refine lv_lconst (pc := 6) (v := 1) hx hb dX0_weigh_6 (by decide) ?_
  refine zp_Blame_shareBelow (pc := 7) X wM1 zw_fl_2_106 dX0_weigh_7 (fun HM2 lM2 wM2 => ?_)
  obtain ⟨M2, eM2, h⟩ := z_lo h
  rw [← eM2] at wM2
  refine lv_iconst (pc := 10) (v := 0) hx hb dX0_weigh_10 (by decide) ?_
  refine lv_istore (pc := 11) (lv' := [(6, .int (0 : Int32)), (0, .ref (G.1 32)), (1, .int i1), (2, .int i2), (3, .ref (G.1 k3)), (4, .ref (G.1 k4)), (5, .ref (G.1 k5))]) hx hb dX0_weigh_11 hl (by decide) rfl (fun ls hl => ?_)
  refine lv_iconst (pc := 13) (v := 0) hx hb dX0_weigh_13 (by decide) ?_
  refine lv_istore (pc := 14) (lv' := [(7, .int (0 : Int32)), (6, .int (0 : Int32)), (0, .ref (G.1 32)), (1, .int i1), (2, .int i2), (3, .ref (G.1 k3)), (4, .ref (G.1 k4)), (5, .ref (G.1 k5))]) hx hb dX0_weigh_14 hl (by decide) rfl (fun ls hl => ?_)
  exact w_X0_weigh_16 X z_F i1 i2 k3 k4 k5 (0 : Int32) (0 : Int32) M2 HM2 lM2 ls hk3 hk4 hk5 wM2 (lv_sub hl [2, 3, 4, 5, 6, 7, 1, 0] rfl) h
def f_X5_widen_2 : Nat → Nat → Int32 → zM → Option (zM)
  | 0, _, _, _ => none
  | n + 1, k0, i1, M =>
    if (M.1 k0 0) ≤ i1 then (
      some M
    ) else (
      z_g (z_ix i1 10) <|
      z_l (z_w M (z_ra (k0 + 3) (Int32.toNatClampNeg i1)) 1 (9999999 : Int32)) fun M3 =>
      z_g (z_ix i1 10) <|
      z_l (z_w M3 (z_ra (k0 + 3) (Int32.toNatClampNeg i1)) 5 (0 : Int32)) fun M5 =>
      z_l (i1 + (1 : Int32)) fun v6 =>
      f_X5_widen_2 n k0 v6 M5
    )
def f_X5_widen (k0 : Nat) (M : zM) : Option (zM) :=
  f_X5_widen_2 z_F k0 (0 : Int32) M
set_option maxHeartbeats 4000000 in
set_option maxRecDepth 100000 in
theorem w_X5_widen_2 {G : zG} {p : Program} {l : Launch} {e : Env} {s : State} {m : MethodId} {args : Array Value} {below : List Frame} {meth : Method} {c : Code} (X : z_C G p s m args meth c cX5_widen 2 RX5 none) {r : zM} : ∀ (n : Nat) (k0 : Nat) (i1 : Int32) (M : zM) (H : Heap) (locs : List Loc) (ls : Array Slot), z_kd k0 = 5 → z_W G M H locs → lv_has ls 2 [(0, .ref (G.1 k0)), (1, .int i1)] → f_X5_widen_2 n k0 i1 M = some r → W p l e (z_rm 0) s m args below meth c H locs 0 0 (z_Q G below args s none r) (F0 m 2 ls []) := by
  have hx := X.1
  have hb := X.2.1
  intro n
  induction n with
  | zero =>
    intro k0 i1 M H locs ls hk0 hw hl h
    exact z_no h
  | succ n ih =>
    intro k0 i1 M H locs ls hk0 hw hl h
    rw [f_X5_widen_2] at h
    refine lv_iload_n (pc := 2) hx hb dX5_widen_2 rfl (lv_at hl 1 rfl) ?_
    refine lv_aload_n (pc := 3) hx hb dX5_widen_3 rfl (lv_at hl 0 rfl) ?_
    refine zg_Roofs_count (pc := 4) X hw hk0 zw_fl_1_135 dX5_widen_4 ?_
    refine lv_icmp_ge (pc := 7) (tgt := 37) hx hb dX5_widen_7 (by decide) (fun c1 => ?_) (fun c1 => ?_)
    · replace h := z_t c1 h
      obtain rfl := Option.some.inj h
      exact z_rv (pc := 37) X hw dX5_widen_37
    · replace h := z_f c1 h
      refine lv_aload_n (pc := 10) hx hb dX5_widen_10 rfl (lv_at hl 0 rfl) ?_
      refine zg_Roofs_houses (pc := 11) X hw hk0 zw_fl_1_144 dX5_widen_11 ?_
      refine lv_iload_n (pc := 14) hx hb dX5_widen_14 rfl (lv_at hl 1 rfl) ?_
      obtain ⟨g2, h⟩ := z_gd h
      refine z_aald16 (pc := 15) X hw (zk_Roofs_houses hk0) (zl_Roofs_houses hk0) g2 dX5_widen_15 ?_
      refine lv_ldc (pc := 16) (v := 9999999) hx hb X.2.2.2.1 (X.2.2.2.2.1 _ zw_cn_4_182) dX5_widen_16 ?_
      refine zp_House_carries (pc := 18) X hw (zk_el16 (zk_Roofs_houses hk0) g2) zw_fl_1_51 dX5_widen_18 (fun HM3 lM3 wM3 => ?_)
      obtain ⟨M3, eM3, h⟩ := z_lo h
      rw [← eM3] at wM3
      refine lv_aload_n (pc := 21) hx hb dX5_widen_21 rfl (lv_at hl 0 rfl) ?_
      refine zg_Roofs_houses (pc := 22) X wM3 hk0 zw_fl_1_144 dX5_widen_22 ?_
      refine lv_iload_n (pc := 25) hx hb dX5_widen_25 rfl (lv_at hl 1 rfl) ?_
      obtain ⟨g4, h⟩ := z_gd h
      refine z_aald16 (pc := 26) X wM3 (zk_Roofs_houses hk0) (zl_Roofs_houses hk0) g4 dX5_widen_26 ?_
      refine lv_iconst (pc := 27) (v := 0) hx hb dX5_widen_27 (by decide) ?_
      refine zp_House_clog (pc := 28) X wM3 (zk_el16 (zk_Roofs_houses hk0) g4) zw_fl_1_64 dX5_widen_28 (fun HM5 lM5 wM5 => ?_)
      obtain ⟨M5, eM5, h⟩ := z_lo h
      rw [← eM5] at wM5
      obtain ⟨v6, ev6, h⟩ := z_lo h
      refine lv_iinc (pc := 31) (v := v6) (lv' := [(1, .int v6), (0, .ref (G.1 k0))]) hx hb dX5_widen_31 hl (k := 1) rfl (by rw [ev6]; rfl) (by decide) rfl (fun ls hl => ?_)
      refine lv_goto (pc := 34) (tgt := 2) hx hb dX5_widen_34 (by decide) ?_
      exact ih k0 v6 M5 HM5 lM5 ls hk0 wM5 (lv_sub hl [1, 0] rfl) h
set_option maxHeartbeats 4000000 in
set_option maxRecDepth 100000 in
theorem m_X5_widen {l : Launch} {G : zG} {k0 : Nat} {M : zM} {r : zM} (hk0 : z_kd k0 = 5) (h : f_X5_widen k0 M = some r) : z_T l G 0 yX5_widen (.code yX5_widen cX5_widen 2 none) [.ref (G.1 k0)] M none r := by
  refine z_of rfl ?_
  intro p e s m below meth c X hw
  have hl := lv_entry [.ref (G.1 k0)] (n := 2) (Nat.le_of_ble_eq_true rfl)
  rw [lg_entry_eq]
  generalize (lg_sl [.ref (G.1 k0)] ++ List.replicate (2 - (lg_sl [.ref (G.1 k0)]).length) Slot.unset).toArray = ls at hl ⊢
  have hl : lv_has ls 2 [(0, .ref (G.1 k0))] := hl
  generalize ([.ref (G.1 k0)] : List Value).toArray = args at X ⊢
  have X : z_C G p s m args meth c cX5_widen 2 RX5 none := X
  have hx := X.1
  have hb := X.2.1
  unfold f_X5_widen at h
  refine lv_iconst (pc := 0) (v := 0) hx hb dX5_widen_0 (by decide) ?_
  refine lv_istore_n (pc := 1) (lv' := [(1, .int (0 : Int32)), (0, .ref (G.1 k0))]) hx hb dX5_widen_1 rfl hl (by decide) rfl (fun ls hl => ?_)
  exact w_X5_widen_2 X z_F k0 (0 : Int32) M s.heap [] ls hk0 hw (lv_sub hl [1, 0] rfl) h
def f_X1_rain_43 (K14 : Nat → Nat → Int32 → zM → Option (zM)) : Nat → Nat → Nat → Int32 → Int32 → zM → Option (zM)
  | 0, _, _, _, _, _ => none
  | n + 1, k1, k2, i3, i4, M =>
    if (M.1 k2 0) ≤ i4 then (
      z_l (i3 + (1 : Int32)) fun v2 =>
      K14 k1 k2 v2 M
    ) else (
      if (4 : Int32) ≤ i4 then (
        z_l (i3 + (1 : Int32)) fun v4 =>
        K14 k1 k2 v4 M
      ) else (
        z_g (z_ix i4 10) <|
        z_g (z_ix ((i3 * (4 : Int32)) + i4) 16) <|
        z_l (z_w M 38 (Int32.toNatClampNeg ((i3 * (4 : Int32)) + i4)) (M.1 (z_ra (k2 + 3) (Int32.toNatClampNeg i4)) 14)) fun M7 =>
        z_l (i4 + (1 : Int32)) fun v8 =>
        f_X1_rain_43 K14 n k1 k2 i3 v8 M7
      )
    )
def f_X1_rain_14 : Nat → Nat → Nat → Int32 → zM → Option (zM)
  | 0, _, _, _, _ => none
  | n + 1, k1, k2, i3, M =>
    if (M.1 35 0) ≤ i3 then (
      some M
    ) else (
      z_g (z_ix i3 4) <|
      z_l (M.1 36 (Int32.toNatClampNeg i3)) fun v3 =>
      z_g (z_ix v3 10) <|
      (f_X5_pour k2 (z_ra (k1 + 8) (Int32.toNatClampNeg v3)) (10 : Int32) M).bind fun x5 =>
      f_X1_rain_43 (f_X1_rain_14 n) z_F k1 k2 i3 (0 : Int32) x5.2
    )
def f_X1_rain (k1 : Nat) (k2 : Nat) (M : zM) : Option (zM) :=
  (f_X5_imagine k2 (k1 + 2) M).bind fun x1 =>
  (f_X5_widen k2 x1).bind fun x2 =>
  f_X1_rain_14 z_F k1 k2 (0 : Int32) x2
set_option maxHeartbeats 4000000 in
set_option maxRecDepth 100000 in
theorem w_X1_rain_43 {G : zG} {p : Program} {l : Launch} {e : Env} {s : State} {m : MethodId} {args : Array Value} {below : List Frame} {meth : Method} {c : Code} (X : z_C G p s m args meth c cX1_rain 5 RX1 none) {r : zM} {K14 : Nat → Nat → Int32 → zM → Option (zM)} (hK14 : ∀ (k1 : Nat) (k2 : Nat) (i3 : Int32) (M : zM) (H : Heap) (locs : List Loc) (ls : Array Slot), z_kd k1 = 8 → z_kd k2 = 5 → z_W G M H locs → lv_has ls 5 [(0, .ref (G.1 35)), (1, .ref (G.1 k1)), (2, .ref (G.1 k2)), (3, .int i3)] → K14 k1 k2 i3 M = some r → W p l e (z_rm 4) s m args below meth c H locs 0 0 (z_Q G below args s none r) (F0 m 14 ls [])) : ∀ (n : Nat) (k1 : Nat) (k2 : Nat) (i3 : Int32) (i4 : Int32) (M : zM) (H : Heap) (locs : List Loc) (ls : Array Slot), z_kd k1 = 8 → z_kd k2 = 5 → z_W G M H locs → lv_has ls 5 [(0, .ref (G.1 35)), (1, .ref (G.1 k1)), (2, .ref (G.1 k2)), (3, .int i3), (4, .int i4)] → f_X1_rain_43 K14 n k1 k2 i3 i4 M = some r → W p l e (z_rm 4) s m args below meth c H locs 0 0 (z_Q G below args s none r) (F0 m 43 ls []) := by
  have hx := X.1
  have hb := X.2.1
  intro n
  induction n with
  | zero =>
    intro k1 k2 i3 i4 M H locs ls hk1 hk2 hw hl h
    exact z_no h
  | succ n ih =>
    intro k1 k2 i3 i4 M H locs ls hk1 hk2 hw hl h
    rw [f_X1_rain_43] at h
    refine lv_iload (pc := 43) hx hb dX1_rain_43 (lv_at hl 4 rfl) ?_
    refine lv_aload_n (pc := 45) hx hb dX1_rain_45 rfl (lv_at hl 2 rfl) ?_
    refine zg_Roofs_count (pc := 46) X hw hk2 zw_fl_1_138 dX1_rain_46 ?_
    refine lv_icmp_ge (pc := 49) (tgt := 85) hx hb dX1_rain_49 (by decide) (fun c1 => ?_) (fun c1 => ?_)
    · replace h := z_t c1 h
      obtain ⟨v2, ev2, h⟩ := z_lo h
      refine lv_iinc (pc := 85) (v := v2) (lv' := [(3, .int v2), (0, .ref (G.1 35)), (1, .ref (G.1 k1)), (2, .ref (G.1 k2)), (4, .int i4)]) hx hb dX1_rain_85 hl (k := 3) rfl (by rw [ev2]; rfl) (by decide) rfl (fun ls hl => ?_)
      refine lv_goto (pc := 88) (tgt := 14) hx hb dX1_rain_88 (by decide) ?_
      exact hK14 k1 k2 v2 M H locs ls hk1 hk2 hw (lv_sub hl [1, 2, 3, 0] rfl) h
    · replace h := z_f c1 h
      refine lv_iload (pc := 52) hx hb dX1_rain_52 (lv_at hl 4 rfl) ?_
      refine lv_iconst (pc := 54) (v := 4) hx hb dX1_rain_54 (by decide) ?_
      refine lv_icmp_ge (pc := 55) (tgt := 85) hx hb dX1_rain_55 (by decide) (fun c3 => ?_) (fun c3 => ?_)
      · replace h := z_t c3 h
        obtain ⟨v4, ev4, h⟩ := z_lo h
        refine lv_iinc (pc := 85) (v := v4) (lv' := [(3, .int v4), (0, .ref (G.1 35)), (1, .ref (G.1 k1)), (2, .ref (G.1 k2)), (4, .int i4)]) hx hb dX1_rain_85 hl (k := 3) rfl (by rw [ev4]; rfl) (by decide) rfl (fun ls hl => ?_)
        refine lv_goto (pc := 88) (tgt := 14) hx hb dX1_rain_88 (by decide) ?_
        exact hK14 k1 k2 v4 M H locs ls hk1 hk2 hw (lv_sub hl [1, 2, 3, 0] rfl) h
      · replace h := z_f c3 h
        refine lv_aload_n (pc := 58) hx hb dX1_rain_58 rfl (lv_at hl 0 rfl) ?_
        refine zg_Cleaning_mostGot (pc := 59) X hw zw_fl_2_136 dX1_rain_59 ?_
        refine lv_iload_n (pc := 62) hx hb dX1_rain_62 rfl (lv_at hl 3 rfl) ?_
        refine lv_iconst (pc := 63) (v := 4) hx hb dX1_rain_63 (by decide) ?_
        refine lv_imul (pc := 64) hx hb dX1_rain_64 ?_
        refine lv_iload (pc := 65) hx hb dX1_rain_65 (lv_at hl 4 rfl) ?_
        refine lv_iadd (pc := 67) hx hb dX1_rain_67 ?_
        refine lv_aload_n (pc := 68) hx hb dX1_rain_68 rfl (lv_at hl 2 rfl) ?_
        refine zg_Roofs_houses (pc := 69) X hw hk2 zw_fl_1_147 dX1_rain_69 ?_
        refine lv_iload (pc := 72) hx hb dX1_rain_72 (lv_at hl 4 rfl) ?_
        obtain ⟨g5, h⟩ := z_gd h
        refine z_aald16 (pc := 74) X hw (zk_Roofs_houses hk2) (zl_Roofs_houses hk2) g5 dX1_rain_74 ?_
        refine zg_House_mostGot (pc := 75) X hw (zk_el16 (zk_Roofs_houses hk2) g5) zw_fl_1_86 dX1_rain_75 ?_
        obtain ⟨g6, h⟩ := z_gd h
        refine z_iast (pc := 78) X hw zk_38 zl_38 g6 dX1_rain_78 (fun HM7 lM7 wM7 => ?_)
        obtain ⟨M7, eM7, h⟩ := z_lo h
        rw [← eM7] at wM7
        obtain ⟨v8, ev8, h⟩ := z_lo h
        refine lv_iinc (pc := 79) (v := v8) (lv' := [(4, .int v8), (0, .ref (G.1 35)), (1, .ref (G.1 k1)), (2, .ref (G.1 k2)), (3, .int i3)]) hx hb dX1_rain_79 hl (k := 4) rfl (by rw [ev8]; rfl) (by decide) rfl (fun ls hl => ?_)
        refine lv_goto (pc := 82) (tgt := 43) hx hb dX1_rain_82 (by decide) ?_
        exact ih k1 k2 i3 v8 M7 HM7 lM7 ls hk1 hk2 wM7 (lv_sub hl [1, 2, 3, 4, 0] rfl) h
set_option maxHeartbeats 4000000 in
set_option maxRecDepth 100000 in
theorem w_X1_rain_14 {G : zG} {p : Program} {l : Launch} {e : Env} {s : State} {m : MethodId} {args : Array Value} {below : List Frame} {meth : Method} {c : Code} (X : z_C G p s m args meth c cX1_rain 5 RX1 none) {r : zM} : ∀ (n : Nat) (k1 : Nat) (k2 : Nat) (i3 : Int32) (M : zM) (H : Heap) (locs : List Loc) (ls : Array Slot), z_kd k1 = 8 → z_kd k2 = 5 → z_W G M H locs → lv_has ls 5 [(0, .ref (G.1 35)), (1, .ref (G.1 k1)), (2, .ref (G.1 k2)), (3, .int i3)] → f_X1_rain_14 n k1 k2 i3 M = some r → W p l e (z_rm 4) s m args below meth c H locs 0 0 (z_Q G below args s none r) (F0 m 14 ls []) := by
  have hx := X.1
  have hb := X.2.1
  intro n
  induction n with
  | zero =>
    intro k1 k2 i3 M H locs ls hk1 hk2 hw hl h
    exact z_no h
  | succ n ih =>
    intro k1 k2 i3 M H locs ls hk1 hk2 hw hl h
    rw [f_X1_rain_14] at h
    refine lv_iload_n (pc := 14) hx hb dX1_rain_14 rfl (lv_at hl 3 rfl) ?_
    refine lv_aload_n (pc := 15) hx hb dX1_rain_15 rfl (lv_at hl 0 rfl) ?_
    refine zg_Cleaning_stormCount (pc := 16) X hw zw_fl_2_128 dX1_rain_16 ?_
    refine lv_icmp_ge (pc := 19) (tgt := 91) hx hb dX1_rain_19 (by decide) (fun c1 => ?_) (fun c1 => ?_)
    · replace h := z_t c1 h
      obtain rfl := Option.some.inj h
      exact z_rv (pc := 91) X hw dX1_rain_91
    · replace h := z_f c1 h
      refine lv_aload_n (pc := 22) hx hb dX1_rain_22 rfl (lv_at hl 2 rfl) ?_
      refine lv_aload_n (pc := 23) hx hb dX1_rain_23 rfl (lv_at hl 1 rfl) ?_
      refine zg_Street_storms (pc := 24) X hw hk1 zw_fl_1_220 dX1_rain_24 ?_
      refine lv_aload_n (pc := 27) hx hb dX1_rain_27 rfl (lv_at hl 0 rfl) ?_
      refine zg_Cleaning_storms (pc := 28) X hw zw_fl_2_132 dX1_rain_28 ?_
      refine lv_iload_n (pc := 31) hx hb dX1_rain_31 rfl (lv_at hl 3 rfl) ?_
      obtain ⟨g2, h⟩ := z_gd h
      refine z_iald (pc := 32) X hw zk_36 zl_36 g2 dX1_rain_32 ?_
      obtain ⟨v3, ev3, h⟩ := z_lo h
      refine z_topi ev3 ?_
      obtain ⟨g4, h⟩ := z_gd h
      refine z_aald17 (pc := 33) X hw (zk_Street_storms hk1) (zl_Street_storms hk1) g4 dX1_rain_33 ?_
      refine lv_bipush (pc := 34) (v := 10) hx hb dX1_rain_34 (by decide) ?_
      obtain ⟨x5, ex5, h⟩ := z_bd h
      refine z_cvI (pc := 36) (rest := []) X hw (m_X5_pour hk2 (zk_el17 (zk_Street_storms hk1) g4) ex5) (z_lt hk2 (by decide)) (z_E5 hk2) rfl zw_ml_4_183 zw_im_4_27 zw_se_4_28 zw_in_1_3 zw_co_4_29 zd_X5_pour (by decide) rfl hl.1 rfl (Nat.le_of_ble_eq_true rfl) dX1_rain_36 ⟨Nat.zero_le _, Nat.zero_le _⟩ (fun Hx5 lx5 wx5 => ?_)
      refine lv_pop (pc := 39) hx hb dX1_rain_39 rfl ?_
      refine lv_iconst (pc := 40) (v := 0) hx hb dX1_rain_40 (by decide) ?_
      refine lv_istore (pc := 41) (lv' := [(4, .int (0 : Int32)), (0, .ref (G.1 35)), (1, .ref (G.1 k1)), (2, .ref (G.1 k2)), (3, .int i3)]) hx hb dX1_rain_41 hl (by decide) rfl (fun ls hl => ?_)
      exact w_X1_rain_43 X ih z_F k1 k2 i3 (0 : Int32) x5.2 Hx5 lx5 ls hk1 hk2 wx5 (lv_sub hl [1, 2, 3, 4, 0] rfl) h
set_option maxHeartbeats 4000000 in
set_option maxRecDepth 100000 in
theorem m_X1_rain {l : Launch} {G : zG} {k1 : Nat} {k2 : Nat} {M : zM} {r : zM} (hk1 : z_kd k1 = 8) (hk2 : z_kd k2 = 5) (h : f_X1_rain k1 k2 M = some r) : z_T l G 4 yX1_rain (.code yX1_rain cX1_rain 5 none) [.ref (G.1 35), .ref (G.1 k1), .ref (G.1 k2)] M none r := by
  refine z_of rfl ?_
  intro p e s m below meth c X hw
  have hl := lv_entry [.ref (G.1 35), .ref (G.1 k1), .ref (G.1 k2)] (n := 5) (Nat.le_of_ble_eq_true rfl)
  rw [lg_entry_eq]
  generalize (lg_sl [.ref (G.1 35), .ref (G.1 k1), .ref (G.1 k2)] ++ List.replicate (5 - (lg_sl [.ref (G.1 35), .ref (G.1 k1), .ref (G.1 k2)]).length) Slot.unset).toArray = ls at hl ⊢
  have hl : lv_has ls 5 [(0, .ref (G.1 35)), (1, .ref (G.1 k1)), (2, .ref (G.1 k2))] := hl
  generalize ([.ref (G.1 35), .ref (G.1 k1), .ref (G.1 k2)] : List Value).toArray = args at X ⊢
  have X : z_C G p s m args meth c cX1_rain 5 RX1 none := X
  have hx := X.1
  have hb := X.2.1
  unfold f_X1_rain at h
  refine lv_aload_n (pc := 0) hx hb dX1_rain_0 rfl (lv_at hl 2 rfl) ?_
  refine lv_aload_n (pc := 1) hx hb dX1_rain_1 rfl (lv_at hl 1 rfl) ?_
  refine zg_Street_roofs (pc := 2) X hw hk1 zw_fl_1_213 dX1_rain_2 ?_
  obtain ⟨x1, ex1, h⟩ := z_bd h
  refine z_cvV (pc := 5) (rest := []) X hw (m_X5_imagine hk2 (zk_Street_roofs hk1) ex1) (z_lt hk2 (by decide)) (z_E5 hk2) rfl zw_ml_4_177 zw_im_4_127 zw_se_4_128 zw_in_1_3 zw_co_4_129 zd_X5_imagine (by decide) rfl hl.1 rfl (Nat.le_of_ble_eq_true rfl) dX1_rain_5 ⟨Nat.zero_le _, Nat.zero_le _⟩ (fun Hx1 lx1 wx1 => ?_)
  refine lv_aload_n (pc := 8) hx hb dX1_rain_8 rfl (lv_at hl 2 rfl) ?_
  obtain ⟨x2, ex2, h⟩ := z_bd h
  refine z_cvV (pc := 9) (rest := []) X wx1 (m_X5_widen hk2 ex2) (z_lt hk2 (by decide)) (z_E5 hk2) rfl zw_ml_4_178 zw_im_4_179 zw_se_4_180 zw_in_1_3 zw_co_4_181 zd_X5_widen (by decide) rfl hl.1 rfl (Nat.le_of_ble_eq_true rfl) dX1_rain_9 ⟨Nat.zero_le _, Nat.zero_le _⟩ (fun Hx2 lx2 wx2 => ?_)
  refine lv_iconst (pc := 12) (v := 0) hx hb dX1_rain_12 (by decide) ?_
  refine lv_istore_n (pc := 13) (lv' := [(3, .int (0 : Int32)), (0, .ref (G.1 35)), (1, .ref (G.1 k1)), (2, .ref (G.1 k2))]) hx hb dX1_rain_13 rfl hl (by decide) rfl (fun ls hl => ?_)
  exact w_X1_rain_14 X z_F k1 k2 (0 : Int32) x2 Hx2 lx2 ls hk1 hk2 wx2 (lv_sub hl [1, 2, 3, 0] rfl) h
def f_X1_isAhead (i1 : Int32) (i2 : Int32) (M : zM) : Option (Int32 × zM) :=
  if ((i1 >>> ((((M.1 35 0) - (1 : Int32)) - i2) &&& 31)) &&& (1 : Int32)) = 0 then (
    some ((0 : Int32), M)
  ) else (
    some ((1 : Int32), M)
  )
set_option maxHeartbeats 4000000 in
set_option maxRecDepth 100000 in
theorem m_X1_isAhead {l : Launch} {G : zG} {i1 : Int32} {i2 : Int32} {M : zM} {r : Int32 × zM} (h : f_X1_isAhead i1 i2 M = some r) : z_T l G 0 yX1_isAhead (.code yX1_isAhead cX1_isAhead 3 (some .boolean)) [.ref (G.1 35), .int i1, .int i2] M (some (.int r.1)) r.2 := by
  refine z_of rfl ?_
  intro p e s m below meth c X hw
  have hl := lv_entry [.ref (G.1 35), .int i1, .int i2] (n := 3) (Nat.le_of_ble_eq_true rfl)
  rw [lg_entry_eq]
  generalize (lg_sl [.ref (G.1 35), .int i1, .int i2] ++ List.replicate (3 - (lg_sl [.ref (G.1 35), .int i1, .int i2]).length) Slot.unset).toArray = ls at hl ⊢
  have hl : lv_has ls 3 [(0, .ref (G.1 35)), (1, .int i1), (2, .int i2)] := hl
  generalize ([.ref (G.1 35), .int i1, .int i2] : List Value).toArray = args at X ⊢
  have X : z_C G p s m args meth c cX1_isAhead 3 RX1 (some .boolean) := X
  have hx := X.1
  have hb := X.2.1
  unfold f_X1_isAhead at h
  refine lv_iload_n (pc := 0) hx hb dX1_isAhead_0 rfl (lv_at hl 1 rfl) ?_
  refine lv_aload_n (pc := 1) hx hb dX1_isAhead_1 rfl (lv_at hl 0 rfl) ?_
  refine zg_Cleaning_stormCount (pc := 2) X hw zw_fl_2_128 dX1_isAhead_2 ?_
  refine lv_iconst (pc := 5) (v := 1) hx hb dX1_isAhead_5 (by decide) ?_
  refine lv_isub (pc := 6) hx hb dX1_isAhead_6 ?_
  refine lv_iload_n (pc := 7) hx hb dX1_isAhead_7 rfl (lv_at hl 2 rfl) ?_
  refine lv_isub (pc := 8) hx hb dX1_isAhead_8 ?_
  refine lv_ishr (pc := 9) hx hb dX1_isAhead_9 ?_
  refine lv_iconst (pc := 10) (v := 1) hx hb dX1_isAhead_10 (by decide) ?_
  refine lv_iand (pc := 11) hx hb dX1_isAhead_11 ?_
  refine lv_if_eq (pc := 12) (tgt := 19) hx hb dX1_isAhead_12 (by decide) (fun c1 => ?_) (fun c1 => ?_)
  · replace h := z_t c1 h
    refine lv_iconst (pc := 19) (v := 0) hx hb dX1_isAhead_19 (by decide) ?_
    obtain rfl := Option.some.inj h
    exact z_rz (pc := 20) X hw (z_nb (x := 0) (by decide)) dX1_isAhead_20
  · replace h := z_f c1 h
    refine lv_iconst (pc := 15) (v := 1) hx hb dX1_isAhead_15 (by decide) ?_
    refine lv_goto (pc := 16) (tgt := 20) hx hb dX1_isAhead_16 (by decide) ?_
    obtain rfl := Option.some.inj h
    exact z_rz (pc := 20) X hw (z_nb (x := 1) (by decide)) dX1_isAhead_20
def f_X1_staysDry_34 (K9 : Nat → Int32 → Int32 → Int32 → Int32 → zM → Option (Int32 × zM)) (k1 : Nat) (i2 : Int32) (i3 : Int32) (i5 : Int32) (si0 : Int32) (M : zM) : Option (Int32 × zM) :=
    z_l ((i5 * (4 : Int32)) + i2) fun v1 =>
    z_g (z_ix v1 16) <|
    (f_X2_carriesAt k1 si0 M).bind fun x3 =>
    if (M.1 38 (Int32.toNatClampNeg v1)) ≤ x3.1 then (
      z_l (if (si0 + (x3.2.1 k1 2)) < (10 : Int32) then (si0 + (x3.2.1 k1 2)) else (10 : Int32)) fun v5 =>
      z_l (i5 + (1 : Int32)) fun v6 =>
      K9 k1 i2 i3 v5 v6 x3.2
    ) else (
      some ((0 : Int32), x3.2)
    )
def f_X1_staysDry_9 : Nat → Nat → Int32 → Int32 → Int32 → Int32 → zM → Option (Int32 × zM)
  | 0, _, _, _, _, _, _ => none
  | n + 1, k1, i2, i3, i4, i5, M =>
    if (M.1 35 0) ≤ i5 then (
      some ((1 : Int32), M)
    ) else (
      (f_X1_isAhead i3 i5 M).bind fun x2 =>
      if x2.1 = 0 then (
        f_X1_staysDry_34 (f_X1_staysDry_9 n) k1 i2 i3 i5 i4 x2.2
      ) else (
        f_X1_staysDry_34 (f_X1_staysDry_9 n) k1 i2 i3 i5 (0 : Int32) x2.2
      )
    )
def f_X1_staysDry (k1 : Nat) (i2 : Int32) (i3 : Int32) (M : zM) : Option (Int32 × zM) :=
  z_l (M.1 k1 5) fun v1 =>
  f_X1_staysDry_9 z_F k1 i2 i3 v1 (0 : Int32) M
set_option maxHeartbeats 4000000 in
set_option maxRecDepth 100000 in
theorem w_X1_staysDry_34 {G : zG} {p : Program} {l : Launch} {e : Env} {s : State} {m : MethodId} {args : Array Value} {below : List Frame} {meth : Method} {c : Code} (X : z_C G p s m args meth c cX1_staysDry 6 RX1 (some .boolean)) {r : Int32 × zM} {K9 : Nat → Int32 → Int32 → Int32 → Int32 → zM → Option (Int32 × zM)} (hK9 : ∀ (k1 : Nat) (i2 : Int32) (i3 : Int32) (i4 : Int32) (i5 : Int32) (M : zM) (H : Heap) (locs : List Loc) (ls : Array Slot), z_kd k1 = 2 → z_W G M H locs → lv_has ls 6 [(0, .ref (G.1 35)), (1, .ref (G.1 k1)), (2, .int i2), (3, .int i3), (4, .int i4), (5, .int i5)] → K9 k1 i2 i3 i4 i5 M = some r → W p l e (z_rm 1) s m args below meth c H locs 0 0 (z_Q G below args s (some (.int r.1)) r.2) (F0 m 9 ls [])) : ∀ (k1 : Nat) (i2 : Int32) (i3 : Int32) (i5 : Int32) (si0 : Int32) (M : zM) (H : Heap) (locs : List Loc) (ls : Array Slot), z_kd k1 = 2 → z_W G M H locs → lv_has ls 6 [(0, .ref (G.1 35)), (1, .ref (G.1 k1)), (2, .int i2), (3, .int i3), (5, .int i5)] → f_X1_staysDry_34 K9 k1 i2 i3 i5 si0 M = some r → W p l e (z_rm 1) s m args below meth c H locs 0 0 (z_Q G below args s (some (.int r.1)) r.2) (F0 m 34 ls [.int si0]) := by
  have hx := X.1
  have hb := X.2.1
  intro k1 i2 i3 i5 si0 M H locs ls hk1 hw hl h
  unfold f_X1_staysDry_34 at h
  refine lv_istore (pc := 34) (lv' := [(4, .int si0), (0, .ref (G.1 35)), (1, .ref (G.1 k1)), (2, .int i2), (3, .int i3), (5, .int i5)]) hx hb dX1_staysDry_34 hl (by decide) rfl (fun ls hl => ?_)
  refine lv_aload_n (pc := 36) hx hb dX1_staysDry_36 rfl (lv_at hl 1 rfl) ?_
  refine zg_Cleaning_mostGot (pc := 37) X hw zw_fl_2_136 dX1_staysDry_37 ?_
  refine lv_iload (pc := 40) hx hb dX1_staysDry_40 (lv_at hl 5 rfl) ?_
  refine lv_iconst (pc := 42) (v := 4) hx hb dX1_staysDry_42 (by decide) ?_
  refine lv_imul (pc := 43) hx hb dX1_staysDry_43 ?_
  refine lv_iload_n (pc := 44) hx hb dX1_staysDry_44 rfl (lv_at hl 3 rfl) ?_
  refine lv_iadd (pc := 45) hx hb dX1_staysDry_45 ?_
  obtain ⟨v1, ev1, h⟩ := z_lo h
  refine z_topi ev1 ?_
  obtain ⟨g2, h⟩ := z_gd h
  refine z_iald (pc := 46) X hw zk_38 zl_38 g2 dX1_staysDry_46 ?_
  refine lv_aload_n (pc := 47) hx hb dX1_staysDry_47 rfl (lv_at hl 2 rfl) ?_
  refine lv_iload (pc := 48) hx hb dX1_staysDry_48 (lv_at hl 0 rfl) ?_
  obtain ⟨x3, ex3, h⟩ := z_bd h
  refine z_cvI (pc := 50) (rest := [.int (M.1 38 (Int32.toNatClampNeg v1))]) X hw (m_X2_carriesAt hk1 ex3) (z_lt hk1 (by decide)) (z_E2 hk1) rfl zw_ml_4_201 zw_im_4_39 zw_se_4_40 zw_in_1_4 zw_co_4_41 zd_X2_carriesAt (by decide) rfl hl.1 rfl (Nat.le_of_ble_eq_true rfl) dX1_staysDry_50 ⟨Nat.zero_le _, Nat.zero_le _⟩ (fun Hx3 lx3 wx3 => ?_)
  refine lv_icmp_le (pc := 53) (tgt := 58) hx hb dX1_staysDry_53 (by decide) (fun c4 => ?_) (fun c4 => ?_)
  · replace h := z_t c4 h
    refine lv_bipush (pc := 58) (v := 10) hx hb dX1_staysDry_58 (by decide) ?_
    refine lv_iload (pc := 60) hx hb dX1_staysDry_60 (lv_at hl 0 rfl) ?_
    refine lv_aload_n (pc := 62) hx hb dX1_staysDry_62 rfl (lv_at hl 2 rfl) ?_
    refine zg_House_leaves (pc := 63) X wx3 hk1 zw_fl_1_54 dX1_staysDry_63 ?_
    refine lv_iadd (pc := 66) hx hb dX1_staysDry_66 ?_
    refine z_min (pc := 67) (rest := []) X zw_ml_4_202 zw_st_3_144 zw_in_1_17 zw_co_3_145 hl.1 ⟨Nat.zero_le _, Nat.zero_le _⟩ (z_lm (Nat.le_of_ble_eq_true rfl)) dX1_staysDry_67 ?_
    obtain ⟨v5, ev5, h⟩ := z_lo h
    refine z_topi ev5 ?_
    refine lv_istore (pc := 70) (lv' := [(4, .int v5), (0, .ref (G.1 35)), (1, .ref (G.1 k1)), (2, .int i2), (3, .int i3), (5, .int i5)]) hx hb dX1_staysDry_70 hl (by decide) rfl (fun ls hl => ?_)
    obtain ⟨v6, ev6, h⟩ := z_lo h
    refine lv_iinc (pc := 72) (v := v6) (lv' := [(5, .int v6), (4, .int v5), (0, .ref (G.1 35)), (1, .ref (G.1 k1)), (2, .int i2), (3, .int i3)]) hx hb dX1_staysDry_72 hl (k := 5) rfl (by rw [ev6]; rfl) (by decide) rfl (fun ls hl => ?_)
    refine lv_goto (pc := 75) (tgt := 9) hx hb dX1_staysDry_75 (by decide) ?_
    exact hK9 k1 i2 i3 v5 v6 x3.2 Hx3 lx3 ls hk1 wx3 (lv_sub hl [2, 3, 4, 5, 1, 0] rfl) h
  · replace h := z_f c4 h
    refine lv_iconst (pc := 56) (v := 0) hx hb dX1_staysDry_56 (by decide) ?_
    obtain rfl := Option.some.inj h
    exact z_rz (pc := 57) X wx3 (z_nb (x := 0) (by decide)) dX1_staysDry_57
set_option maxHeartbeats 4000000 in
set_option maxRecDepth 100000 in
theorem w_X1_staysDry_9 {G : zG} {p : Program} {l : Launch} {e : Env} {s : State} {m : MethodId} {args : Array Value} {below : List Frame} {meth : Method} {c : Code} (X : z_C G p s m args meth c cX1_staysDry 6 RX1 (some .boolean)) {r : Int32 × zM} : ∀ (n : Nat) (k1 : Nat) (i2 : Int32) (i3 : Int32) (i4 : Int32) (i5 : Int32) (M : zM) (H : Heap) (locs : List Loc) (ls : Array Slot), z_kd k1 = 2 → z_W G M H locs → lv_has ls 6 [(0, .ref (G.1 35)), (1, .ref (G.1 k1)), (2, .int i2), (3, .int i3), (4, .int i4), (5, .int i5)] → f_X1_staysDry_9 n k1 i2 i3 i4 i5 M = some r → W p l e (z_rm 1) s m args below meth c H locs 0 0 (z_Q G below args s (some (.int r.1)) r.2) (F0 m 9 ls []) := by
  have hx := X.1
  have hb := X.2.1
  intro n
  induction n with
  | zero =>
    intro k1 i2 i3 i4 i5 M H locs ls hk1 hw hl h
    exact z_no h
  | succ n ih =>
    intro k1 i2 i3 i4 i5 M H locs ls hk1 hw hl h
    rw [f_X1_staysDry_9] at h
    refine lv_iload (pc := 9) hx hb dX1_staysDry_9 (lv_at hl 5 rfl) ?_
    refine lv_aload_n (pc := 11) hx hb dX1_staysDry_11 rfl (lv_at hl 0 rfl) ?_
    refine zg_Cleaning_stormCount (pc := 12) X hw zw_fl_2_128 dX1_staysDry_12 ?_
    refine lv_icmp_ge (pc := 15) (tgt := 78) hx hb dX1_staysDry_15 (by decide) (fun c1 => ?_) (fun c1 => ?_)
    · replace h := z_t c1 h
      refine lv_iconst (pc := 78) (v := 1) hx hb dX1_staysDry_78 (by decide) ?_
      obtain rfl := Option.some.inj h
      exact z_rz (pc := 79) X hw (z_nb (x := 1) (by decide)) dX1_staysDry_79
    · replace h := z_f c1 h
      refine lv_aload_n (pc := 18) hx hb dX1_staysDry_18 rfl (lv_at hl 0 rfl) ?_
      refine lv_iload_n (pc := 19) hx hb dX1_staysDry_19 rfl (lv_at hl 3 rfl) ?_
      refine lv_iload (pc := 20) hx hb dX1_staysDry_20 (lv_at hl 5 rfl) ?_
      obtain ⟨x2, ex2, h⟩ := z_bd h
      refine z_cvI (pc := 22) (rest := []) X hw (m_X1_isAhead  ex2) (z_lt zk_35 (by decide)) (z_E1 zk_35) rfl zw_ml_4_197 zw_im_4_199 zw_se_S_30 zw_in_1_10 zw_co_4_200 zd_X1_isAhead (by decide) rfl hl.1 rfl (Nat.le_of_ble_eq_true rfl) dX1_staysDry_22 ⟨Nat.zero_le _, Nat.zero_le _⟩ (fun Hx2 lx2 wx2 => ?_)
      refine lv_if_eq (pc := 25) (tgt := 32) hx hb dX1_staysDry_25 (by decide) (fun c3 => ?_) (fun c3 => ?_)
      · replace h := z_t c3 h
        refine lv_iload (pc := 32) hx hb dX1_staysDry_32 (lv_at hl 4 rfl) ?_
        exact w_X1_staysDry_34 X ih k1 i2 i3 i5 i4 x2.2 Hx2 lx2 ls hk1 wx2 (lv_sub hl [0, 1, 2, 3, 5] rfl) h
      · replace h := z_f c3 h
        refine lv_iconst (pc := 28) (v := 0) hx hb dX1_staysDry_28 (by decide) ?_
        refine lv_goto (pc := 29) (tgt := 34) hx hb dX1_staysDry_29 (by decide) ?_
        exact w_X1_staysDry_34 X ih k1 i2 i3 i5 (0 : Int32) x2.2 Hx2 lx2 ls hk1 wx2 (lv_sub hl [0, 1, 2, 3, 5] rfl) h
set_option maxHeartbeats 4000000 in
set_option maxRecDepth 100000 in
theorem m_X1_staysDry {l : Launch} {G : zG} {k1 : Nat} {i2 : Int32} {i3 : Int32} {M : zM} {r : Int32 × zM} (hk1 : z_kd k1 = 2) (h : f_X1_staysDry k1 i2 i3 M = some r) : z_T l G 1 yX1_staysDry (.code yX1_staysDry cX1_staysDry 6 (some .boolean)) [.ref (G.1 35), .ref (G.1 k1), .int i2, .int i3] M (some (.int r.1)) r.2 := by
  refine z_of rfl ?_
  intro p e s m below meth c X hw
  have hl := lv_entry [.ref (G.1 35), .ref (G.1 k1), .int i2, .int i3] (n := 6) (Nat.le_of_ble_eq_true rfl)
  rw [lg_entry_eq]
  generalize (lg_sl [.ref (G.1 35), .ref (G.1 k1), .int i2, .int i3] ++ List.replicate (6 - (lg_sl [.ref (G.1 35), .ref (G.1 k1), .int i2, .int i3]).length) Slot.unset).toArray = ls at hl ⊢
  have hl : lv_has ls 6 [(0, .ref (G.1 35)), (1, .ref (G.1 k1)), (2, .int i2), (3, .int i3)] := hl
  generalize ([.ref (G.1 35), .ref (G.1 k1), .int i2, .int i3] : List Value).toArray = args at X ⊢
  have X : z_C G p s m args meth c cX1_staysDry 6 RX1 (some .boolean) := X
  have hx := X.1
  have hb := X.2.1
  unfold f_X1_staysDry at h
  refine lv_aload_n (pc := 0) hx hb dX1_staysDry_0 rfl (lv_at hl 1 rfl) ?_
  refine zg_House_clog (pc := 1) X hw hk1 zw_fl_1_65 dX1_staysDry_1 ?_
  obtain ⟨v1, ev1, h⟩ := z_lo h
  refine z_topi ev1 ?_
  refine lv_istore (pc := 4) (lv' := [(4, .int v1), (0, .ref (G.1 35)), (1, .ref (G.1 k1)), (2, .int i2), (3, .int i3)]) hx hb dX1_staysDry_4 hl (by decide) rfl (fun ls hl => ?_)
  refine lv_iconst (pc := 6) (v := 0) hx hb dX1_staysDry_6 (by decide) ?_
  refine lv_istore (pc := 7) (lv' := [(5, .int (0 : Int32)), (4, .int v1), (0, .ref (G.1 35)), (1, .ref (G.1 k1)), (2, .int i2), (3, .int i3)]) hx hb dX1_staysDry_7 hl (by decide) rfl (fun ls hl => ?_)
  exact w_X1_staysDry_9 X z_F k1 i2 i3 v1 (0 : Int32) M s.heap [] ls hk1 hw (lv_sub hl [2, 3, 4, 5, 1, 0] rfl) h
def f_X1_bestTimes_5 : Nat → Nat → Int32 → Int32 → Int32 → zM → Option (Int32 × zM)
  | 0, _, _, _, _, _ => none
  | n + 1, k1, i2, i3, i4, M =>
    if ((1 : Int32) <<< ((M.1 35 0) &&& 31)) ≤ i4 then (
      some (i3, M)
    ) else (
      if i3 = (-1 : Int32) then (
        (f_X1_staysDry k1 i2 i4 M).bind fun x3 =>
        if x3.1 = 0 then (
          z_l (i4 + (1 : Int32)) fun v5 =>
          f_X1_bestTimes_5 n k1 i2 i3 v5 x3.2
        ) else (
          z_l (i4 + (1 : Int32)) fun v6 =>
          f_X1_bestTimes_5 n k1 i2 i4 v6 x3.2
        )
      ) else (
        (f_J6_bitCount_0f7a4 i4 M).bind fun x7 =>
        (f_J6_bitCount_0f7a4 i3 x7.2).bind fun x8 =>
        if x8.1 ≤ x7.1 then (
          z_l (i4 + (1 : Int32)) fun v10 =>
          f_X1_bestTimes_5 n k1 i2 i3 v10 x8.2
        ) else (
          (f_X1_staysDry k1 i2 i4 x8.2).bind fun x11 =>
          if x11.1 = 0 then (
            z_l (i4 + (1 : Int32)) fun v13 =>
            f_X1_bestTimes_5 n k1 i2 i3 v13 x11.2
          ) else (
            z_l (i4 + (1 : Int32)) fun v14 =>
            f_X1_bestTimes_5 n k1 i2 i4 v14 x11.2
          )
        )
      )
    )
def f_X1_bestTimes (k1 : Nat) (i2 : Int32) (M : zM) : Option (Int32 × zM) :=
  f_X1_bestTimes_5 z_F k1 i2 (-1 : Int32) (0 : Int32) M
set_option maxHeartbeats 4000000 in
set_option maxRecDepth 100000 in
theorem w_X1_bestTimes_5 {G : zG} {p : Program} {l : Launch} {e : Env} {s : State} {m : MethodId} {args : Array Value} {below : List Frame} {meth : Method} {c : Code} (X : z_C G p s m args meth c cX1_bestTimes 5 RX1 (some .int)) {r : Int32 × zM} : ∀ (n : Nat) (k1 : Nat) (i2 : Int32) (i3 : Int32) (i4 : Int32) (M : zM) (H : Heap) (locs : List Loc) (ls : Array Slot), z_kd k1 = 2 → z_W G M H locs → lv_has ls 5 [(0, .ref (G.1 35)), (1, .ref (G.1 k1)), (2, .int i2), (3, .int i3), (4, .int i4)] → f_X1_bestTimes_5 n k1 i2 i3 i4 M = some r → W p l e (z_rm 2) s m args below meth c H locs 0 0 (z_Q G below args s (some (.int r.1)) r.2) (F0 m 5 ls []) := by
  have hx := X.1
  have hb := X.2.1
  intro n
  induction n with
  | zero =>
    intro k1 i2 i3 i4 M H locs ls hk1 hw hl h
    exact z_no h
  | succ n ih =>
    intro k1 i2 i3 i4 M H locs ls hk1 hw hl h
    rw [f_X1_bestTimes_5] at h
    refine lv_iload (pc := 5) hx hb dX1_bestTimes_5 (lv_at hl 4 rfl) ?_
    refine lv_iconst (pc := 7) (v := 1) hx hb dX1_bestTimes_7 (by decide) ?_
    refine lv_aload_n (pc := 8) hx hb dX1_bestTimes_8 rfl (lv_at hl 0 rfl) ?_
    refine zg_Cleaning_stormCount (pc := 9) X hw zw_fl_2_128 dX1_bestTimes_9 ?_
    refine lv_ishl (pc := 12) hx hb dX1_bestTimes_12 ?_
    refine lv_icmp_ge (pc := 13) (tgt := 53) hx hb dX1_bestTimes_13 (by decide) (fun c1 => ?_) (fun c1 => ?_)
    · replace h := z_t c1 h
      refine lv_iload_n (pc := 53) hx hb dX1_bestTimes_53 rfl (lv_at hl 3 rfl) ?_
      obtain rfl := Option.some.inj h
      exact z_ri (pc := 54) X hw dX1_bestTimes_54
    · replace h := z_f c1 h
      refine lv_iload_n (pc := 16) hx hb dX1_bestTimes_16 rfl (lv_at hl 3 rfl) ?_
      refine lv_iconst (pc := 17) (v := -1) hx hb dX1_bestTimes_17 (by decide) ?_
      refine lv_icmp_eq (pc := 18) (tgt := 33) hx hb dX1_bestTimes_18 (by decide) (fun c2 => ?_) (fun c2 => ?_)
      · replace h := z_t c2 h
        refine lv_aload_n (pc := 33) hx hb dX1_bestTimes_33 rfl (lv_at hl 0 rfl) ?_
        refine lv_aload_n (pc := 34) hx hb dX1_bestTimes_34 rfl (lv_at hl 1 rfl) ?_
        refine lv_iload_n (pc := 35) hx hb dX1_bestTimes_35 rfl (lv_at hl 2 rfl) ?_
        refine lv_iload (pc := 36) hx hb dX1_bestTimes_36 (lv_at hl 4 rfl) ?_
        obtain ⟨x3, ex3, h⟩ := z_bd h
        refine z_cvI (pc := 38) (rest := []) X hw (m_X1_staysDry hk1 ex3) (z_lt zk_35 (by decide)) (z_E1 zk_35) rfl zw_ml_4_193 zw_im_4_195 zw_se_S_29 zw_in_1_10 zw_co_4_196 zd_X1_staysDry (by decide) rfl hl.1 rfl (Nat.le_of_ble_eq_true rfl) dX1_bestTimes_38 ⟨Nat.zero_le _, Nat.zero_le _⟩ (fun Hx3 lx3 wx3 => ?_)
        refine lv_if_eq (pc := 41) (tgt := 47) hx hb dX1_bestTimes_41 (by decide) (fun c4 => ?_) (fun c4 => ?_)
        · replace h := z_t c4 h
          obtain ⟨v5, ev5, h⟩ := z_lo h
          refine lv_iinc (pc := 47) (v := v5) (lv' := [(4, .int v5), (0, .ref (G.1 35)), (1, .ref (G.1 k1)), (2, .int i2), (3, .int i3)]) hx hb dX1_bestTimes_47 hl (k := 4) rfl (by rw [ev5]; rfl) (by decide) rfl (fun ls hl => ?_)
          refine lv_goto (pc := 50) (tgt := 5) hx hb dX1_bestTimes_50 (by decide) ?_
          exact ih k1 i2 i3 v5 x3.2 Hx3 lx3 ls hk1 wx3 (lv_sub hl [1, 2, 3, 4, 0] rfl) h
        · replace h := z_f c4 h
          refine lv_iload (pc := 44) hx hb dX1_bestTimes_44 (lv_at hl 4 rfl) ?_
          refine lv_istore_n (pc := 46) (lv' := [(3, .int i4), (0, .ref (G.1 35)), (1, .ref (G.1 k1)), (2, .int i2), (4, .int i4)]) hx hb dX1_bestTimes_46 rfl hl (by decide) rfl (fun ls hl => ?_)
          obtain ⟨v6, ev6, h⟩ := z_lo h
          refine lv_iinc (pc := 47) (v := v6) (lv' := [(4, .int v6), (3, .int i4), (0, .ref (G.1 35)), (1, .ref (G.1 k1)), (2, .int i2)]) hx hb dX1_bestTimes_47 hl (k := 4) rfl (by rw [ev6]; rfl) (by decide) rfl (fun ls hl => ?_)
          refine lv_goto (pc := 50) (tgt := 5) hx hb dX1_bestTimes_50 (by decide) ?_
          exact ih k1 i2 i4 v6 x3.2 Hx3 lx3 ls hk1 wx3 (lv_sub hl [2, 3, 4, 1, 0] rfl) h
      · replace h := z_f c2 h
        refine lv_iload (pc := 21) hx hb dX1_bestTimes_21 (lv_at hl 4 rfl) ?_
        obtain ⟨x7, ex7, h⟩ := z_bd h
        refine z_csI (pc := 23) (rest := []) X hw (m_J6_bitCount_0f7a4  ex7) zw_ml_4_192 zw_st_4_145 zw_in_1_20 zw_co_4_146 zd_J6_bitCount_0f7a4 (by decide) rfl hl.1 rfl (Nat.le_of_ble_eq_true rfl) dX1_bestTimes_23 ⟨Nat.zero_le _, Nat.zero_le _⟩ (fun Hx7 lx7 wx7 => ?_)
        refine lv_iload_n (pc := 26) hx hb dX1_bestTimes_26 rfl (lv_at hl 3 rfl) ?_
        obtain ⟨x8, ex8, h⟩ := z_bd h
        refine z_csI (pc := 27) (rest := [.int x7.1]) X wx7 (m_J6_bitCount_0f7a4  ex8) zw_ml_4_192 zw_st_4_145 zw_in_1_20 zw_co_4_146 zd_J6_bitCount_0f7a4 (by decide) rfl hl.1 rfl (Nat.le_of_ble_eq_true rfl) dX1_bestTimes_27 ⟨Nat.zero_le _, Nat.zero_le _⟩ (fun Hx8 lx8 wx8 => ?_)
        refine lv_icmp_ge (pc := 30) (tgt := 47) hx hb dX1_bestTimes_30 (by decide) (fun c9 => ?_) (fun c9 => ?_)
        · replace h := z_t c9 h
          obtain ⟨v10, ev10, h⟩ := z_lo h
          refine lv_iinc (pc := 47) (v := v10) (lv' := [(4, .int v10), (0, .ref (G.1 35)), (1, .ref (G.1 k1)), (2, .int i2), (3, .int i3)]) hx hb dX1_bestTimes_47 hl (k := 4) rfl (by rw [ev10]; rfl) (by decide) rfl (fun ls hl => ?_)
          refine lv_goto (pc := 50) (tgt := 5) hx hb dX1_bestTimes_50 (by decide) ?_
          exact ih k1 i2 i3 v10 x8.2 Hx8 lx8 ls hk1 wx8 (lv_sub hl [1, 2, 3, 4, 0] rfl) h
        · replace h := z_f c9 h
          refine lv_aload_n (pc := 33) hx hb dX1_bestTimes_33 rfl (lv_at hl 0 rfl) ?_
          refine lv_aload_n (pc := 34) hx hb dX1_bestTimes_34 rfl (lv_at hl 1 rfl) ?_
          refine lv_iload_n (pc := 35) hx hb dX1_bestTimes_35 rfl (lv_at hl 2 rfl) ?_
          refine lv_iload (pc := 36) hx hb dX1_bestTimes_36 (lv_at hl 4 rfl) ?_
          obtain ⟨x11, ex11, h⟩ := z_bd h
          refine z_cvI (pc := 38) (rest := []) X wx8 (m_X1_staysDry hk1 ex11) (z_lt zk_35 (by decide)) (z_E1 zk_35) rfl zw_ml_4_193 zw_im_4_195 zw_se_S_29 zw_in_1_10 zw_co_4_196 zd_X1_staysDry (by decide) rfl hl.1 rfl (Nat.le_of_ble_eq_true rfl) dX1_bestTimes_38 ⟨Nat.zero_le _, Nat.zero_le _⟩ (fun Hx11 lx11 wx11 => ?_)
          refine lv_if_eq (pc := 41) (tgt := 47) hx hb dX1_bestTimes_41 (by decide) (fun c12 => ?_) (fun c12 => ?_)
          · replace h := z_t c12 h
            obtain ⟨v13, ev13, h⟩ := z_lo h
            refine lv_iinc (pc := 47) (v := v13) (lv' := [(4, .int v13), (0, .ref (G.1 35)), (1, .ref (G.1 k1)), (2, .int i2), (3, .int i3)]) hx hb dX1_bestTimes_47 hl (k := 4) rfl (by rw [ev13]; rfl) (by decide) rfl (fun ls hl => ?_)
            refine lv_goto (pc := 50) (tgt := 5) hx hb dX1_bestTimes_50 (by decide) ?_
            exact ih k1 i2 i3 v13 x11.2 Hx11 lx11 ls hk1 wx11 (lv_sub hl [1, 2, 3, 4, 0] rfl) h
          · replace h := z_f c12 h
            refine lv_iload (pc := 44) hx hb dX1_bestTimes_44 (lv_at hl 4 rfl) ?_
            refine lv_istore_n (pc := 46) (lv' := [(3, .int i4), (0, .ref (G.1 35)), (1, .ref (G.1 k1)), (2, .int i2), (4, .int i4)]) hx hb dX1_bestTimes_46 rfl hl (by decide) rfl (fun ls hl => ?_)
            obtain ⟨v14, ev14, h⟩ := z_lo h
            refine lv_iinc (pc := 47) (v := v14) (lv' := [(4, .int v14), (3, .int i4), (0, .ref (G.1 35)), (1, .ref (G.1 k1)), (2, .int i2)]) hx hb dX1_bestTimes_47 hl (k := 4) rfl (by rw [ev14]; rfl) (by decide) rfl (fun ls hl => ?_)
            refine lv_goto (pc := 50) (tgt := 5) hx hb dX1_bestTimes_50 (by decide) ?_
            exact ih k1 i2 i4 v14 x11.2 Hx11 lx11 ls hk1 wx11 (lv_sub hl [2, 3, 4, 1, 0] rfl) h
set_option maxHeartbeats 4000000 in
set_option maxRecDepth 100000 in
theorem m_X1_bestTimes {l : Launch} {G : zG} {k1 : Nat} {i2 : Int32} {M : zM} {r : Int32 × zM} (hk1 : z_kd k1 = 2) (h : f_X1_bestTimes k1 i2 M = some r) : z_T l G 2 yX1_bestTimes (.code yX1_bestTimes cX1_bestTimes 5 (some .int)) [.ref (G.1 35), .ref (G.1 k1), .int i2] M (some (.int r.1)) r.2 := by
  refine z_of rfl ?_
  intro p e s m below meth c X hw
  have hl := lv_entry [.ref (G.1 35), .ref (G.1 k1), .int i2] (n := 5) (Nat.le_of_ble_eq_true rfl)
  rw [lg_entry_eq]
  generalize (lg_sl [.ref (G.1 35), .ref (G.1 k1), .int i2] ++ List.replicate (5 - (lg_sl [.ref (G.1 35), .ref (G.1 k1), .int i2]).length) Slot.unset).toArray = ls at hl ⊢
  have hl : lv_has ls 5 [(0, .ref (G.1 35)), (1, .ref (G.1 k1)), (2, .int i2)] := hl
  generalize ([.ref (G.1 35), .ref (G.1 k1), .int i2] : List Value).toArray = args at X ⊢
  have X : z_C G p s m args meth c cX1_bestTimes 5 RX1 (some .int) := X
  have hx := X.1
  have hb := X.2.1
  unfold f_X1_bestTimes at h
  refine lv_iconst (pc := 0) (v := -1) hx hb dX1_bestTimes_0 (by decide) ?_
  refine lv_istore_n (pc := 1) (lv' := [(3, .int (-1 : Int32)), (0, .ref (G.1 35)), (1, .ref (G.1 k1)), (2, .int i2)]) hx hb dX1_bestTimes_1 rfl hl (by decide) rfl (fun ls hl => ?_)
  refine lv_iconst (pc := 2) (v := 0) hx hb dX1_bestTimes_2 (by decide) ?_
  refine lv_istore (pc := 3) (lv' := [(4, .int (0 : Int32)), (3, .int (-1 : Int32)), (0, .ref (G.1 35)), (1, .ref (G.1 k1)), (2, .int i2)]) hx hb dX1_bestTimes_3 hl (by decide) rfl (fun ls hl => ?_)
  exact w_X1_bestTimes_5 X z_F k1 i2 (-1 : Int32) (0 : Int32) M s.heap [] ls hk1 hw (lv_sub hl [2, 3, 4, 1, 0] rfl) h
def f_X1_plan_75 (K27 : Nat → Int32 → zM → Option (Int32 × zM)) : Nat → Nat → Int32 → Int32 → Int32 → zM → Option (Int32 × zM)
  | 0, _, _, _, _, _ => none
  | n + 1, k1, i2, i3, i4, M =>
    if (M.1 35 0) ≤ i4 then (
      z_l (i2 + (1 : Int32)) fun v2 =>
      K27 k1 v2 M
    ) else (
      z_g (z_ix i4 4) <|
      (f_X1_isAhead i3 i4 M).bind fun x4 =>
      if x4.1 = 0 then (
        z_g (z_ix i4 4) <|
        z_l (z_w x4.2 37 (Int32.toNatClampNeg i4) ((M.1 37 (Int32.toNatClampNeg i4)) ||| (0 : Int32))) fun M7 =>
        z_l (i4 + (1 : Int32)) fun v8 =>
        f_X1_plan_75 K27 n k1 i2 i3 v8 M7
      ) else (
        z_g (z_ix i4 4) <|
        z_l (z_w x4.2 37 (Int32.toNatClampNeg i4) ((M.1 37 (Int32.toNatClampNeg i4)) ||| ((1 : Int32) <<< (i2 &&& 31)))) fun M10 =>
        z_l (i4 + (1 : Int32)) fun v11 =>
        f_X1_plan_75 K27 n k1 i2 i3 v11 M10
      )
    )
def f_X1_plan_27 : Nat → Nat → Int32 → zM → Option (Int32 × zM)
  | 0, _, _, _ => none
  | n + 1, k1, i2, M =>
    if (M.1 k1 0) ≤ i2 then (
      some ((1 : Int32), M)
    ) else (
      if (4 : Int32) ≤ i2 then (
        some ((1 : Int32), M)
      ) else (
        z_g (z_ix i2 10) <|
        (f_X1_bestTimes (z_ra (k1 + 3) (Int32.toNatClampNeg i2)) i2 M).bind fun x4 =>
        if x4.1 = (-1 : Int32) then (
          some ((0 : Int32), x4.2)
        ) else (
          (f_J6_bitCount_0f7a4 x4.1 x4.2).bind fun x6 =>
          z_l (z_w x6.2 35 1 ((x4.2.1 35 1) + x6.1)) fun M7 =>
          f_X1_plan_75 (f_X1_plan_27 n) z_F k1 i2 x4.1 (0 : Int32) M7
        )
      )
    )
def f_X1_plan_7 : Nat → Nat → Int32 → zM → Option (Int32 × zM)
  | 0, _, _, _ => none
  | n + 1, k1, i2, M =>
    if (4 : Int32) ≤ i2 then (
      f_X1_plan_27 z_F k1 (0 : Int32) M
    ) else (
      z_g (z_ix i2 4) <|
      z_l (z_w M 37 (Int32.toNatClampNeg i2) (0 : Int32)) fun M3 =>
      z_l (i2 + (1 : Int32)) fun v4 =>
      f_X1_plan_7 n k1 v4 M3
    )
def f_X1_plan (k1 : Nat) (M : zM) : Option (Int32 × zM) :=
  z_l (z_w M 35 1 (0 : Int32)) fun M1 =>
  f_X1_plan_7 z_F k1 (0 : Int32) M1
set_option maxHeartbeats 4000000 in
set_option maxRecDepth 100000 in
theorem w_X1_plan_75 {G : zG} {p : Program} {l : Launch} {e : Env} {s : State} {m : MethodId} {args : Array Value} {below : List Frame} {meth : Method} {c : Code} (X : z_C G p s m args meth c cX1_plan 5 RX1 (some .boolean)) {r : Int32 × zM} {K27 : Nat → Int32 → zM → Option (Int32 × zM)} (hK27 : ∀ (k1 : Nat) (i2 : Int32) (M : zM) (H : Heap) (locs : List Loc) (ls : Array Slot), z_kd k1 = 5 → z_W G M H locs → lv_has ls 5 [(0, .ref (G.1 35)), (1, .ref (G.1 k1)), (2, .int i2)] → K27 k1 i2 M = some r → W p l e (z_rm 3) s m args below meth c H locs 0 0 (z_Q G below args s (some (.int r.1)) r.2) (F0 m 27 ls [])) : ∀ (n : Nat) (k1 : Nat) (i2 : Int32) (i3 : Int32) (i4 : Int32) (M : zM) (H : Heap) (locs : List Loc) (ls : Array Slot), z_kd k1 = 5 → z_W G M H locs → lv_has ls 5 [(0, .ref (G.1 35)), (1, .ref (G.1 k1)), (2, .int i2), (3, .int i3), (4, .int i4)] → f_X1_plan_75 K27 n k1 i2 i3 i4 M = some r → W p l e (z_rm 3) s m args below meth c H locs 0 0 (z_Q G below args s (some (.int r.1)) r.2) (F0 m 75 ls []) := by
  have hx := X.1
  have hb := X.2.1
  intro n
  induction n with
  | zero =>
    intro k1 i2 i3 i4 M H locs ls hk1 hw hl h
    exact z_no h
  | succ n ih =>
    intro k1 i2 i3 i4 M H locs ls hk1 hw hl h
    rw [f_X1_plan_75] at h
    refine lv_iload (pc := 75) hx hb dX1_plan_75 (lv_at hl 4 rfl) ?_
    refine lv_aload_n (pc := 77) hx hb dX1_plan_77 rfl (lv_at hl 0 rfl) ?_
    refine zg_Cleaning_stormCount (pc := 78) X hw zw_fl_2_128 dX1_plan_78 ?_
    refine lv_icmp_ge (pc := 81) (tgt := 117) hx hb dX1_plan_81 (by decide) (fun c1 => ?_) (fun c1 => ?_)
    · replace h := z_t c1 h
      obtain ⟨v2, ev2, h⟩ := z_lo h
      refine lv_iinc (pc := 117) (v := v2) (lv' := [(2, .int v2), (0, .ref (G.1 35)), (1, .ref (G.1 k1)), (3, .int i3), (4, .int i4)]) hx hb dX1_plan_117 hl (k := 2) rfl (by rw [ev2]; rfl) (by decide) rfl (fun ls hl => ?_)
      refine lv_goto (pc := 120) (tgt := 27) hx hb dX1_plan_120 (by decide) ?_
      exact hK27 k1 v2 M H locs ls hk1 hw (lv_sub hl [1, 2, 0] rfl) h
    · replace h := z_f c1 h
      refine lv_aload_n (pc := 84) hx hb dX1_plan_84 rfl (lv_at hl 0 rfl) ?_
      refine zg_Cleaning_sets (pc := 85) X hw zw_fl_2_134 dX1_plan_85 ?_
      refine lv_iload (pc := 88) hx hb dX1_plan_88 (lv_at hl 4 rfl) ?_
      refine lv_dup2_11 (pc := 90) hx hb dX1_plan_90 rfl rfl ?_
      obtain ⟨g3, h⟩ := z_gd h
      refine z_iald (pc := 91) X hw zk_37 zl_37 g3 dX1_plan_91 ?_
      refine lv_aload_n (pc := 92) hx hb dX1_plan_92 rfl (lv_at hl 0 rfl) ?_
      refine lv_iload_n (pc := 93) hx hb dX1_plan_93 rfl (lv_at hl 3 rfl) ?_
      refine lv_iload (pc := 94) hx hb dX1_plan_94 (lv_at hl 4 rfl) ?_
      obtain ⟨x4, ex4, h⟩ := z_bd h
      refine z_cvI (pc := 96) (rest := [.int (M.1 37 (Int32.toNatClampNeg i4)), .int i4, .ref (G.1 37)]) X hw (m_X1_isAhead  ex4) (z_lt zk_35 (by decide)) (z_E1 zk_35) rfl zw_ml_4_197 zw_im_4_199 zw_se_S_30 zw_in_1_10 zw_co_4_200 zd_X1_isAhead (by decide) rfl hl.1 rfl (Nat.le_of_ble_eq_true rfl) dX1_plan_96 ⟨Nat.zero_le _, Nat.zero_le _⟩ (fun Hx4 lx4 wx4 => ?_)
      refine lv_if_eq (pc := 99) (tgt := 108) hx hb dX1_plan_99 (by decide) (fun c5 => ?_) (fun c5 => ?_)
      · replace h := z_t c5 h
        refine lv_iconst (pc := 108) (v := 0) hx hb dX1_plan_108 (by decide) ?_
        refine lv_ior (pc := 109) hx hb dX1_plan_109 ?_
        obtain ⟨g6, h⟩ := z_gd h
        refine z_iast (pc := 110) X wx4 zk_37 zl_37 g6 dX1_plan_110 (fun HM7 lM7 wM7 => ?_)
        obtain ⟨M7, eM7, h⟩ := z_lo h
        rw [← eM7] at wM7
        obtain ⟨v8, ev8, h⟩ := z_lo h
        refine lv_iinc (pc := 111) (v := v8) (lv' := [(4, .int v8), (0, .ref (G.1 35)), (1, .ref (G.1 k1)), (2, .int i2), (3, .int i3)]) hx hb dX1_plan_111 hl (k := 4) rfl (by rw [ev8]; rfl) (by decide) rfl (fun ls hl => ?_)
        refine lv_goto (pc := 114) (tgt := 75) hx hb dX1_plan_114 (by decide) ?_
        exact ih k1 i2 i3 v8 M7 HM7 lM7 ls hk1 wM7 (lv_sub hl [1, 2, 3, 4, 0] rfl) h
      · replace h := z_f c5 h
        refine lv_iconst (pc := 102) (v := 1) hx hb dX1_plan_102 (by decide) ?_
        refine lv_iload_n (pc := 103) hx hb dX1_plan_103 rfl (lv_at hl 2 rfl) ?_
        refine lv_ishl (pc := 104) hx hb dX1_plan_104 ?_
        refine lv_goto (pc := 105) (tgt := 109) hx hb dX1_plan_105 (by decide) ?_
        refine lv_ior (pc := 109) hx hb dX1_plan_109 ?_
        obtain ⟨g9, h⟩ := z_gd h
        refine z_iast (pc := 110) X wx4 zk_37 zl_37 g9 dX1_plan_110 (fun HM10 lM10 wM10 => ?_)
        obtain ⟨M10, eM10, h⟩ := z_lo h
        rw [← eM10] at wM10
        obtain ⟨v11, ev11, h⟩ := z_lo h
        refine lv_iinc (pc := 111) (v := v11) (lv' := [(4, .int v11), (0, .ref (G.1 35)), (1, .ref (G.1 k1)), (2, .int i2), (3, .int i3)]) hx hb dX1_plan_111 hl (k := 4) rfl (by rw [ev11]; rfl) (by decide) rfl (fun ls hl => ?_)
        refine lv_goto (pc := 114) (tgt := 75) hx hb dX1_plan_114 (by decide) ?_
        exact ih k1 i2 i3 v11 M10 HM10 lM10 ls hk1 wM10 (lv_sub hl [1, 2, 3, 4, 0] rfl) h
set_option maxHeartbeats 4000000 in
set_option maxRecDepth 100000 in
theorem w_X1_plan_27 {G : zG} {p : Program} {l : Launch} {e : Env} {s : State} {m : MethodId} {args : Array Value} {below : List Frame} {meth : Method} {c : Code} (X : z_C G p s m args meth c cX1_plan 5 RX1 (some .boolean)) {r : Int32 × zM} : ∀ (n : Nat) (k1 : Nat) (i2 : Int32) (M : zM) (H : Heap) (locs : List Loc) (ls : Array Slot), z_kd k1 = 5 → z_W G M H locs → lv_has ls 5 [(0, .ref (G.1 35)), (1, .ref (G.1 k1)), (2, .int i2)] → f_X1_plan_27 n k1 i2 M = some r → W p l e (z_rm 3) s m args below meth c H locs 0 0 (z_Q G below args s (some (.int r.1)) r.2) (F0 m 27 ls []) := by
  have hx := X.1
  have hb := X.2.1
  intro n
  induction n with
  | zero =>
    intro k1 i2 M H locs ls hk1 hw hl h
    exact z_no h
  | succ n ih =>
    intro k1 i2 M H locs ls hk1 hw hl h
    rw [f_X1_plan_27] at h
    refine lv_iload_n (pc := 27) hx hb dX1_plan_27 rfl (lv_at hl 2 rfl) ?_
    refine lv_aload_n (pc := 28) hx hb dX1_plan_28 rfl (lv_at hl 1 rfl) ?_
    refine zg_Roofs_count (pc := 29) X hw hk1 zw_fl_1_138 dX1_plan_29 ?_
    refine lv_icmp_ge (pc := 32) (tgt := 123) hx hb dX1_plan_32 (by decide) (fun c1 => ?_) (fun c1 => ?_)
    · replace h := z_t c1 h
      refine lv_iconst (pc := 123) (v := 1) hx hb dX1_plan_123 (by decide) ?_
      obtain rfl := Option.some.inj h
      exact z_rz (pc := 124) X hw (z_nb (x := 1) (by decide)) dX1_plan_124
    · replace h := z_f c1 h
      refine lv_iload_n (pc := 35) hx hb dX1_plan_35 rfl (lv_at hl 2 rfl) ?_
      refine lv_iconst (pc := 36) (v := 4) hx hb dX1_plan_36 (by decide) ?_
      refine lv_icmp_ge (pc := 37) (tgt := 123) hx hb dX1_plan_37 (by decide) (fun c2 => ?_) (fun c2 => ?_)
      · replace h := z_t c2 h
        refine lv_iconst (pc := 123) (v := 1) hx hb dX1_plan_123 (by decide) ?_
        obtain rfl := Option.some.inj h
        exact z_rz (pc := 124) X hw (z_nb (x := 1) (by decide)) dX1_plan_124
      · replace h := z_f c2 h
        refine lv_aload_n (pc := 40) hx hb dX1_plan_40 rfl (lv_at hl 0 rfl) ?_
        refine lv_aload_n (pc := 41) hx hb dX1_plan_41 rfl (lv_at hl 1 rfl) ?_
        refine zg_Roofs_houses (pc := 42) X hw hk1 zw_fl_1_147 dX1_plan_42 ?_
        refine lv_iload_n (pc := 45) hx hb dX1_plan_45 rfl (lv_at hl 2 rfl) ?_
        obtain ⟨g3, h⟩ := z_gd h
        refine z_aald16 (pc := 46) X hw (zk_Roofs_houses hk1) (zl_Roofs_houses hk1) g3 dX1_plan_46 ?_
        refine lv_iload_n (pc := 47) hx hb dX1_plan_47 rfl (lv_at hl 2 rfl) ?_
        obtain ⟨x4, ex4, h⟩ := z_bd h
        refine z_cvI (pc := 48) (rest := []) X hw (m_X1_bestTimes (zk_el16 (zk_Roofs_houses hk1) g3) ex4) (z_lt zk_35 (by decide)) (z_E1 zk_35) rfl zw_ml_4_188 zw_im_4_190 zw_se_S_28 zw_in_1_10 zw_co_4_191 zd_X1_bestTimes (by decide) rfl hl.1 rfl (Nat.le_of_ble_eq_true rfl) dX1_plan_48 ⟨Nat.zero_le _, Nat.zero_le _⟩ (fun Hx4 lx4 wx4 => ?_)
        refine lv_istore_n (pc := 51) (lv' := [(3, .int x4.1), (0, .ref (G.1 35)), (1, .ref (G.1 k1)), (2, .int i2)]) hx hb dX1_plan_51 rfl hl (by decide) rfl (fun ls hl => ?_)
        refine lv_iload_n (pc := 52) hx hb dX1_plan_52 rfl (lv_at hl 0 rfl) ?_
        refine lv_iconst (pc := 53) (v := -1) hx hb dX1_plan_53 (by decide) ?_
        refine lv_icmp_ne (pc := 54) (tgt := 59) hx hb dX1_plan_54 (by decide) (fun c5 => ?_) (fun c5 => ?_)
        · replace h := z_f c5 h
          refine lv_aload_n (pc := 59) hx hb dX1_plan_59 rfl (lv_at hl 1 rfl) ?_
          refine lv_dup (pc := 60) hx hb dX1_plan_60 rfl ?_
          refine zg_Cleaning_fewest (pc := 61) X wx4 zw_fl_2_130 dX1_plan_61 ?_
          refine lv_iload_n (pc := 64) hx hb dX1_plan_64 rfl (lv_at hl 0 rfl) ?_
          obtain ⟨x6, ex6, h⟩ := z_bd h
          refine z_csI (pc := 65) (rest := [.int (x4.2.1 35 1), .ref (G.1 35)]) X wx4 (m_J6_bitCount_0f7a4  ex6) zw_ml_4_192 zw_st_4_145 zw_in_1_20 zw_co_4_146 zd_J6_bitCount_0f7a4 (by decide) rfl hl.1 rfl (Nat.le_of_ble_eq_true rfl) dX1_plan_65 ⟨Nat.zero_le _, Nat.zero_le _⟩ (fun Hx6 lx6 wx6 => ?_)
          refine lv_iadd (pc := 68) hx hb dX1_plan_68 ?_
          refine zp_Cleaning_fewest (pc := 69) X wx6 zw_fl_2_130 dX1_plan_69 (fun HM7 lM7 wM7 => ?_)
          obtain ⟨M7, eM7, h⟩ := z_lo h
          rw [← eM7] at wM7
          refine lv_iconst (pc := 72) (v := 0) hx hb dX1_plan_72 (by decide) ?_
          refine lv_istore (pc := 73) (lv' := [(4, .int (0 : Int32)), (3, .int x4.1), (0, .ref (G.1 35)), (1, .ref (G.1 k1)), (2, .int i2)]) hx hb dX1_plan_73 hl (by decide) rfl (fun ls hl => ?_)
          exact w_X1_plan_75 X ih z_F k1 i2 x4.1 (0 : Int32) M7 HM7 lM7 ls hk1 wM7 (lv_sub hl [2, 3, 4, 1, 0] rfl) h
        · replace h := z_t c5 h
          refine lv_iconst (pc := 57) (v := 0) hx hb dX1_plan_57 (by decide) ?_
          obtain rfl := Option.some.inj h
          exact z_rz (pc := 58) X wx4 (z_nb (x := 0) (by decide)) dX1_plan_58
set_option maxHeartbeats 4000000 in
set_option maxRecDepth 100000 in
theorem w_X1_plan_7 {G : zG} {p : Program} {l : Launch} {e : Env} {s : State} {m : MethodId} {args : Array Value} {below : List Frame} {meth : Method} {c : Code} (X : z_C G p s m args meth c cX1_plan 5 RX1 (some .boolean)) {r : Int32 × zM} : ∀ (n : Nat) (k1 : Nat) (i2 : Int32) (M : zM) (H : Heap) (locs : List Loc) (ls : Array Slot), z_kd k1 = 5 → z_W G M H locs → lv_has ls 5 [(0, .ref (G.1 35)), (1, .ref (G.1 k1)), (2, .int i2)] → f_X1_plan_7 n k1 i2 M = some r → W p l e (z_rm 3) s m args below meth c H locs 0 0 (z_Q G below args s (some (.int r.1)) r.2) (F0 m 7 ls []) := by
  have hx := X.1
  have hb := X.2.1
  intro n
  induction n with
  | zero =>
    intro k1 i2 M H locs ls hk1 hw hl h
    exact z_no h
  | succ n ih =>
    intro k1 i2 M H locs ls hk1 hw hl h
    rw [f_X1_plan_7] at h
    refine lv_iload_n (pc := 7) hx hb dX1_plan_7 rfl (lv_at hl 2 rfl) ?_
    refine lv_iconst (pc := 8) (v := 4) hx hb dX1_plan_8 (by decide) ?_
    refine lv_icmp_ge (pc := 9) (tgt := 25) hx hb dX1_plan_9 (by decide) (fun c1 => ?_) (fun c1 => ?_)
    · replace h := z_t c1 h
      refine lv_iconst (pc := 25) (v := 0) hx hb dX1_plan_25 (by decide) ?_
      refine lv_istore_n (pc := 26) (lv' := [(2, .int (0 : Int32)), (0, .ref (G.1 35)), (1, .ref (G.1 k1))]) hx hb dX1_plan_26 rfl hl (by decide) rfl (fun ls hl => ?_)
      exact w_X1_plan_27 X z_F k1 (0 : Int32) M H locs ls hk1 hw (lv_sub hl [1, 2, 0] rfl) h
    · replace h := z_f c1 h
      refine lv_aload_n (pc := 12) hx hb dX1_plan_12 rfl (lv_at hl 0 rfl) ?_
      refine zg_Cleaning_sets (pc := 13) X hw zw_fl_2_134 dX1_plan_13 ?_
      refine lv_iload_n (pc := 16) hx hb dX1_plan_16 rfl (lv_at hl 2 rfl) ?_
      refine lv_iconst (pc := 17) (v := 0) hx hb dX1_plan_17 (by decide) ?_
      obtain ⟨g2, h⟩ := z_gd h
      refine z_iast (pc := 18) X hw zk_37 zl_37 g2 dX1_plan_18 (fun HM3 lM3 wM3 => ?_)
      obtain ⟨M3, eM3, h⟩ := z_lo h
      rw [← eM3] at wM3
      obtain ⟨v4, ev4, h⟩ := z_lo h
      refine lv_iinc (pc := 19) (v := v4) (lv' := [(2, .int v4), (0, .ref (G.1 35)), (1, .ref (G.1 k1))]) hx hb dX1_plan_19 hl (k := 2) rfl (by rw [ev4]; rfl) (by decide) rfl (fun ls hl => ?_)
      refine lv_goto (pc := 22) (tgt := 7) hx hb dX1_plan_22 (by decide) ?_
      exact ih k1 v4 M3 HM3 lM3 ls hk1 wM3 (lv_sub hl [1, 2, 0] rfl) h
set_option maxHeartbeats 4000000 in
set_option maxRecDepth 100000 in
theorem m_X1_plan {l : Launch} {G : zG} {k1 : Nat} {M : zM} {r : Int32 × zM} (hk1 : z_kd k1 = 5) (h : f_X1_plan k1 M = some r) : z_T l G 3 yX1_plan (.code yX1_plan cX1_plan 5 (some .boolean)) [.ref (G.1 35), .ref (G.1 k1)] M (some (.int r.1)) r.2 := by
  refine z_of rfl ?_
  intro p e s m below meth c X hw
  have hl := lv_entry [.ref (G.1 35), .ref (G.1 k1)] (n := 5) (Nat.le_of_ble_eq_true rfl)
  rw [lg_entry_eq]
  generalize (lg_sl [.ref (G.1 35), .ref (G.1 k1)] ++ List.replicate (5 - (lg_sl [.ref (G.1 35), .ref (G.1 k1)]).length) Slot.unset).toArray = ls at hl ⊢
  have hl : lv_has ls 5 [(0, .ref (G.1 35)), (1, .ref (G.1 k1))] := hl
  generalize ([.ref (G.1 35), .ref (G.1 k1)] : List Value).toArray = args at X ⊢
  have X : z_C G p s m args meth c cX1_plan 5 RX1 (some .boolean) := X
  have hx := X.1
  have hb := X.2.1
  unfold f_X1_plan at h
  refine lv_aload_n (pc := 0) hx hb dX1_plan_0 rfl (lv_at hl 0 rfl) ?_
  refine lv_iconst (pc := 1) (v := 0) hx hb dX1_plan_1 (by decide) ?_
  refine zp_Cleaning_fewest (pc := 2) X hw zw_fl_2_130 dX1_plan_2 (fun HM1 lM1 wM1 => ?_)
  obtain ⟨M1, eM1, h⟩ := z_lo h
  rw [← eM1] at wM1
  refine lv_iconst (pc := 5) (v := 0) hx hb dX1_plan_5 (by decide) ?_
  refine lv_istore_n (pc := 6) (lv' := [(2, .int (0 : Int32)), (0, .ref (G.1 35)), (1, .ref (G.1 k1))]) hx hb dX1_plan_6 rfl hl (by decide) rfl (fun ls hl => ?_)
  exact w_X1_plan_7 X z_F k1 (0 : Int32) M1 HM1 lM1 ls hk1 wM1 (lv_sub hl [1, 2, 0] rfl) h
def f_X2_build (k0 : Nat) (i1 : Int32) (i2 : Int32) (i3 : Int32) (i4 : Int32) (M : zM) : Option (zM) :=
  z_l (z_w M k0 0 i1) fun M1 =>
  z_l (z_w M1 k0 1 i2) fun M2 =>
  z_l (z_w M2 k0 2 i3) fun M3 =>
  z_l (z_w M3 k0 3 i4) fun M4 =>
  z_l (z_w M4 k0 4 (-1 : Int32)) fun M5 =>
  z_l (z_w M5 k0 5 (0 : Int32)) fun M6 =>
  z_l (z_w M6 k0 6 (0 : Int32)) fun M7 =>
  z_l (z_w M7 k0 7 (0 : Int32)) fun M8 =>
  z_l (z_w M8 k0 8 (0 : Int32)) fun M9 =>
  z_l (z_w M9 k0 9 (0 : Int32)) fun M10 =>
  z_l (z_w M10 k0 10 (0 : Int32)) fun M11 =>
  z_l (z_w M11 k0 11 (0 : Int32)) fun M12 =>
  z_l (z_w M12 k0 12 (0 : Int32)) fun M13 =>
  z_l (z_w M13 k0 13 (0 : Int32)) fun M14 =>
  some M14
set_option maxHeartbeats 4000000 in
set_option maxRecDepth 100000 in
theorem m_X2_build {l : Launch} {G : zG} {k0 : Nat} {i1 : Int32} {i2 : Int32} {i3 : Int32} {i4 : Int32} {M : zM} {r : zM} (hk0 : z_kd k0 = 2) (h : f_X2_build k0 i1 i2 i3 i4 M = some r) : z_T l G 0 yX2_build (.code yX2_build cX2_build 5 none) [.ref (G.1 k0), .int i1, .int i2, .int i3, .int i4] M none r := by
  refine z_of rfl ?_
  intro p e s m below meth c X hw
  have hl := lv_entry [.ref (G.1 k0), .int i1, .int i2, .int i3, .int i4] (n := 5) (Nat.le_of_ble_eq_true rfl)
  rw [lg_entry_eq]
  generalize (lg_sl [.ref (G.1 k0), .int i1, .int i2, .int i3, .int i4] ++ List.replicate (5 - (lg_sl [.ref (G.1 k0), .int i1, .int i2, .int i3, .int i4]).length) Slot.unset).toArray = ls at hl ⊢
  have hl : lv_has ls 5 [(0, .ref (G.1 k0)), (1, .int i1), (2, .int i2), (3, .int i3), (4, .int i4)] := hl
  generalize ([.ref (G.1 k0), .int i1, .int i2, .int i3, .int i4] : List Value).toArray = args at X ⊢
  have X : z_C G p s m args meth c cX2_build 5 RX2 none := X
  have hx := X.1
  have hb := X.2.1
  unfold f_X2_build at h
  refine lv_aload_n (pc := 0) hx hb dX2_build_0 rfl (lv_at hl 0 rfl) ?_
  refine lv_iload_n (pc := 1) hx hb dX2_build_1 rfl (lv_at hl 1 rfl) ?_
  refine zp_House_area (pc := 2) X hw hk0 zw_fl_1_48 dX2_build_2 (fun HM1 lM1 wM1 => ?_)
  obtain ⟨M1, eM1, h⟩ := z_lo h
  rw [← eM1] at wM1
  refine lv_aload_n (pc := 5) hx hb dX2_build_5 rfl (lv_at hl 0 rfl) ?_
  refine lv_iload_n (pc := 6) hx hb dX2_build_6 rfl (lv_at hl 2 rfl) ?_
  refine zp_House_carries (pc := 7) X wM1 hk0 zw_fl_1_50 dX2_build_7 (fun HM2 lM2 wM2 => ?_)
  obtain ⟨M2, eM2, h⟩ := z_lo h
  rw [← eM2] at wM2
  refine lv_aload_n (pc := 10) hx hb dX2_build_10 rfl (lv_at hl 0 rfl) ?_
  refine lv_iload_n (pc := 11) hx hb dX2_build_11 rfl (lv_at hl 3 rfl) ?_
  refine zp_House_leaves (pc := 12) X wM2 hk0 zw_fl_1_53 dX2_build_12 (fun HM3 lM3 wM3 => ?_)
  obtain ⟨M3, eM3, h⟩ := z_lo h
  rw [← eM3] at wM3
  refine lv_aload_n (pc := 15) hx hb dX2_build_15 rfl (lv_at hl 0 rfl) ?_
  refine lv_iload (pc := 16) hx hb dX2_build_16 (lv_at hl 4 rfl) ?_
  refine zp_House_price (pc := 18) X wM3 hk0 zw_fl_1_55 dX2_build_18 (fun HM4 lM4 wM4 => ?_)
  obtain ⟨M4, eM4, h⟩ := z_lo h
  rw [← eM4] at wM4
  refine lv_aload_n (pc := 21) hx hb dX2_build_21 rfl (lv_at hl 0 rfl) ?_
  refine lv_iconst (pc := 22) (v := -1) hx hb dX2_build_22 (by decide) ?_
  refine zp_House_empties (pc := 23) X wM4 hk0 zw_fl_1_57 dX2_build_23 (fun HM5 lM5 wM5 => ?_)
  obtain ⟨M5, eM5, h⟩ := z_lo h
  rw [← eM5] at wM5
  refine lv_aload_n (pc := 26) hx hb dX2_build_26 rfl (lv_at hl 0 rfl) ?_
  refine lv_iconst (pc := 27) (v := 0) hx hb dX2_build_27 (by decide) ?_
  refine zp_House_clog (pc := 28) X wM5 hk0 zw_fl_1_62 dX2_build_28 (fun HM6 lM6 wM6 => ?_)
  obtain ⟨M6, eM6, h⟩ := z_lo h
  rw [← eM6] at wM6
  refine lv_aload_n (pc := 31) hx hb dX2_build_31 rfl (lv_at hl 0 rfl) ?_
  refine lv_iconst (pc := 32) (v := 0) hx hb dX2_build_32 (by decide) ?_
  refine zp_House_barrel (pc := 33) X wM6 hk0 zw_fl_1_67 dX2_build_33 (fun HM7 lM7 wM7 => ?_)
  obtain ⟨M7, eM7, h⟩ := z_lo h
  rw [← eM7] at wM7
  refine lv_aload_n (pc := 36) hx hb dX2_build_36 rfl (lv_at hl 0 rfl) ?_
  refine lv_iconst (pc := 37) (v := 0) hx hb dX2_build_37 (by decide) ?_
  refine zp_House_let (pc := 38) X wM7 hk0 zw_fl_1_69 dX2_build_38 (fun HM8 lM8 wM8 => ?_)
  obtain ⟨M8, eM8, h⟩ := z_lo h
  rw [← eM8] at wM8
  refine lv_aload_n (pc := 41) hx hb dX2_build_41 rfl (lv_at hl 0 rfl) ?_
  refine lv_iconst (pc := 42) (v := 0) hx hb dX2_build_42 (by decide) ?_
  refine zp_House_held (pc := 43) X wM8 hk0 zw_fl_1_70 dX2_build_43 (fun HM9 lM9 wM9 => ?_)
  obtain ⟨M9, eM9, h⟩ := z_lo h
  rw [← eM9] at wM9
  refine lv_aload_n (pc := 46) hx hb dX2_build_46 rfl (lv_at hl 0 rfl) ?_
  refine lv_iconst (pc := 47) (v := 0) hx hb dX2_build_47 (by decide) ?_
  refine zp_House_snow (pc := 48) X wM9 hk0 zw_fl_1_74 dX2_build_48 (fun HM10 lM10 wM10 => ?_)
  obtain ⟨M10, eM10, h⟩ := z_lo h
  rw [← eM10] at wM10
  refine lv_aload_n (pc := 51) hx hb dX2_build_51 rfl (lv_at hl 0 rfl) ?_
  refine lv_iconst (pc := 52) (v := 0) hx hb dX2_build_52 (by decide) ?_
  refine zp_House_coin (pc := 53) X wM10 hk0 zw_fl_1_77 dX2_build_53 (fun HM11 lM11 wM11 => ?_)
  obtain ⟨M11, eM11, h⟩ := z_lo h
  rw [← eM11] at wM11
  refine lv_aload_n (pc := 56) hx hb dX2_build_56 rfl (lv_at hl 0 rfl) ?_
  refine lv_iconst (pc := 57) (v := 0) hx hb dX2_build_57 (by decide) ?_
  refine zp_House_wet (pc := 58) X wM11 hk0 zw_fl_1_79 dX2_build_58 (fun HM12 lM12 wM12 => ?_)
  obtain ⟨M12, eM12, h⟩ := z_lo h
  rw [← eM12] at wM12
  refine lv_aload_n (pc := 61) hx hb dX2_build_61 rfl (lv_at hl 0 rfl) ?_
  refine lv_iconst (pc := 62) (v := 0) hx hb dX2_build_62 (by decide) ?_
  refine zp_House_over (pc := 63) X wM12 hk0 zw_fl_1_80 dX2_build_63 (fun HM13 lM13 wM13 => ?_)
  obtain ⟨M13, eM13, h⟩ := z_lo h
  rw [← eM13] at wM13
  refine lv_aload_n (pc := 66) hx hb dX2_build_66 rfl (lv_at hl 0 rfl) ?_
  refine lv_iconst (pc := 67) (v := 0) hx hb dX2_build_67 (by decide) ?_
  refine zp_House_dry (pc := 68) X wM13 hk0 zw_fl_1_85 dX2_build_68 (fun HM14 lM14 wM14 => ?_)
  obtain ⟨M14, eM14, h⟩ := z_lo h
  rw [← eM14] at wM14
  obtain rfl := Option.some.inj h
  exact z_rv (pc := 71) X wM14 dX2_build_71
def f_X2_copy (k0 : Nat) (k1 : Nat) (M : zM) : Option (zM) :=
  (f_X2_imagine k0 k1 M).bind fun x1 =>
  z_l (z_w x1 k0 2 (x1.1 k1 2)) fun M2 =>
  z_l (z_w M2 k0 3 (M2.1 k1 3)) fun M3 =>
  z_l (z_w M3 k0 10 (M3.1 k1 10)) fun M4 =>
  z_l (z_w M4 k0 11 (M4.1 k1 11)) fun M5 =>
  z_l (z_w M5 k0 12 (M5.1 k1 12)) fun M6 =>
  z_l (z_w M6 k0 13 (M6.1 k1 13)) fun M7 =>
  z_l (z_cp M7 (k1 + 2) (Int32.toNatClampNeg (0 : Int32)) (k0 + 2) (Int32.toNatClampNeg (0 : Int32)) (Int32.toNatClampNeg (12 : Int32))) fun M8 =>
  z_l (z_cp M8 (k1 + 3) (Int32.toNatClampNeg (0 : Int32)) (k0 + 3) (Int32.toNatClampNeg (0 : Int32)) (Int32.toNatClampNeg (12 : Int32))) fun M9 =>
  z_l (z_cp M9 (k1 + 4) (Int32.toNatClampNeg (0 : Int32)) (k0 + 4) (Int32.toNatClampNeg (0 : Int32)) (Int32.toNatClampNeg (12 : Int32))) fun M10 =>
  some M10
set_option maxHeartbeats 4000000 in
set_option maxRecDepth 100000 in
theorem m_X2_copy {l : Launch} {G : zG} {k0 : Nat} {k1 : Nat} {M : zM} {r : zM} (hk0 : z_kd k0 = 2) (hk1 : z_kd k1 = 2) (h : f_X2_copy k0 k1 M = some r) : z_T l G 1 yX2_copy (.code yX2_copy cX2_copy 2 none) [.ref (G.1 k0), .ref (G.1 k1)] M none r := by
  refine z_of rfl ?_
  intro p e s m below meth c X hw
  have hl := lv_entry [.ref (G.1 k0), .ref (G.1 k1)] (n := 2) (Nat.le_of_ble_eq_true rfl)
  rw [lg_entry_eq]
  generalize (lg_sl [.ref (G.1 k0), .ref (G.1 k1)] ++ List.replicate (2 - (lg_sl [.ref (G.1 k0), .ref (G.1 k1)]).length) Slot.unset).toArray = ls at hl ⊢
  have hl : lv_has ls 2 [(0, .ref (G.1 k0)), (1, .ref (G.1 k1))] := hl
  generalize ([.ref (G.1 k0), .ref (G.1 k1)] : List Value).toArray = args at X ⊢
  have X : z_C G p s m args meth c cX2_copy 2 RX2 none := X
  have hx := X.1
  have hb := X.2.1
  unfold f_X2_copy at h
  refine lv_aload_n (pc := 0) hx hb dX2_copy_0 rfl (lv_at hl 0 rfl) ?_
  refine lv_aload_n (pc := 1) hx hb dX2_copy_1 rfl (lv_at hl 1 rfl) ?_
  obtain ⟨x1, ex1, h⟩ := z_bd h
  refine z_cvV (pc := 2) (rest := []) X hw (m_X2_imagine hk0 hk1 ex1) (z_lt hk0 (by decide)) (z_E2 hk0) rfl zw_ml_5_42 zw_im_4_131 zw_se_4_132 zw_in_1_4 zw_co_4_133 zd_X2_imagine (by decide) rfl hl.1 rfl (Nat.le_of_ble_eq_true rfl) dX2_copy_2 ⟨Nat.zero_le _, Nat.zero_le _⟩ (fun Hx1 lx1 wx1 => ?_)
  refine lv_aload_n (pc := 5) hx hb dX2_copy_5 rfl (lv_at hl 0 rfl) ?_
  refine lv_aload_n (pc := 6) hx hb dX2_copy_6 rfl (lv_at hl 1 rfl) ?_
  refine zg_House_leaves (pc := 7) X wx1 hk1 zw_fl_1_53 dX2_copy_7 ?_
  refine zp_House_leaves (pc := 10) X wx1 hk0 zw_fl_1_53 dX2_copy_10 (fun HM2 lM2 wM2 => ?_)
  obtain ⟨M2, eM2, h⟩ := z_lo h
  rw [← eM2] at wM2
  refine lv_aload_n (pc := 13) hx hb dX2_copy_13 rfl (lv_at hl 0 rfl) ?_
  refine lv_aload_n (pc := 14) hx hb dX2_copy_14 rfl (lv_at hl 1 rfl) ?_
  refine zg_House_price (pc := 15) X wM2 hk1 zw_fl_1_55 dX2_copy_15 ?_
  refine zp_House_price (pc := 18) X wM2 hk0 zw_fl_1_55 dX2_copy_18 (fun HM3 lM3 wM3 => ?_)
  obtain ⟨M3, eM3, h⟩ := z_lo h
  rw [← eM3] at wM3
  refine lv_aload_n (pc := 21) hx hb dX2_copy_21 rfl (lv_at hl 0 rfl) ?_
  refine lv_aload_n (pc := 22) hx hb dX2_copy_22 rfl (lv_at hl 1 rfl) ?_
  refine zg_House_coin (pc := 23) X wM3 hk1 zw_fl_1_77 dX2_copy_23 ?_
  refine zp_House_coin (pc := 26) X wM3 hk0 zw_fl_1_77 dX2_copy_26 (fun HM4 lM4 wM4 => ?_)
  obtain ⟨M4, eM4, h⟩ := z_lo h
  rw [← eM4] at wM4
  refine lv_aload_n (pc := 29) hx hb dX2_copy_29 rfl (lv_at hl 0 rfl) ?_
  refine lv_aload_n (pc := 30) hx hb dX2_copy_30 rfl (lv_at hl 1 rfl) ?_
  refine zg_House_wet (pc := 31) X wM4 hk1 zw_fl_1_79 dX2_copy_31 ?_
  refine zp_House_wet (pc := 34) X wM4 hk0 zw_fl_1_79 dX2_copy_34 (fun HM5 lM5 wM5 => ?_)
  obtain ⟨M5, eM5, h⟩ := z_lo h
  rw [← eM5] at wM5
  refine lv_aload_n (pc := 37) hx hb dX2_copy_37 rfl (lv_at hl 0 rfl) ?_
  refine lv_aload_n (pc := 38) hx hb dX2_copy_38 rfl (lv_at hl 1 rfl) ?_
  refine zg_House_over (pc := 39) X wM5 hk1 zw_fl_1_80 dX2_copy_39 ?_
  refine zp_House_over (pc := 42) X wM5 hk0 zw_fl_1_80 dX2_copy_42 (fun HM6 lM6 wM6 => ?_)
  obtain ⟨M6, eM6, h⟩ := z_lo h
  rw [← eM6] at wM6
  refine lv_aload_n (pc := 45) hx hb dX2_copy_45 rfl (lv_at hl 0 rfl) ?_
  refine lv_aload_n (pc := 46) hx hb dX2_copy_46 rfl (lv_at hl 1 rfl) ?_
  refine zg_House_dry (pc := 47) X wM6 hk1 zw_fl_1_85 dX2_copy_47 ?_
  refine zp_House_dry (pc := 50) X wM6 hk0 zw_fl_1_85 dX2_copy_50 (fun HM7 lM7 wM7 => ?_)
  obtain ⟨M7, eM7, h⟩ := z_lo h
  rw [← eM7] at wM7
  refine lv_aload_n (pc := 53) hx hb dX2_copy_53 rfl (lv_at hl 1 rfl) ?_
  refine zg_House_got (pc := 54) X wM7 hk1 zw_fl_1_91 dX2_copy_54 ?_
  refine lv_iconst (pc := 57) (v := 0) hx hb dX2_copy_57 (by decide) ?_
  refine lv_aload_n (pc := 58) hx hb dX2_copy_58 rfl (lv_at hl 0 rfl) ?_
  refine zg_House_got (pc := 59) X wM7 hk0 zw_fl_1_91 dX2_copy_59 ?_
  refine lv_iconst (pc := 62) (v := 0) hx hb dX2_copy_62 (by decide) ?_
  refine lv_bipush (pc := 63) (v := 12) hx hb dX2_copy_63 (by decide) ?_
  refine z_copy (pc := 65) (rest := []) X wM7 zw_ml_5_43 zw_na_4_13 zw_st_4_12 zw_in_1_19 hl.1 (zk_House_got hk1) (zl_House_got hk1) (zk_House_got hk0) (zl_House_got hk0) (by decide) ⟨z_l1, z_l2⟩ dX2_copy_65 (fun HM8 lM8 wM8 => ?_)
  obtain ⟨M8, eM8, h⟩ := z_lo h
  rw [← eM8] at wM8
  refine lv_aload_n (pc := 68) hx hb dX2_copy_68 rfl (lv_at hl 1 rfl) ?_
  refine zg_House_carried (pc := 69) X wM8 hk1 zw_fl_1_92 dX2_copy_69 ?_
  refine lv_iconst (pc := 72) (v := 0) hx hb dX2_copy_72 (by decide) ?_
  refine lv_aload_n (pc := 73) hx hb dX2_copy_73 rfl (lv_at hl 0 rfl) ?_
  refine zg_House_carried (pc := 74) X wM8 hk0 zw_fl_1_92 dX2_copy_74 ?_
  refine lv_iconst (pc := 77) (v := 0) hx hb dX2_copy_77 (by decide) ?_
  refine lv_bipush (pc := 78) (v := 12) hx hb dX2_copy_78 (by decide) ?_
  refine z_copy (pc := 80) (rest := []) X wM8 zw_ml_5_43 zw_na_4_13 zw_st_4_12 zw_in_1_19 hl.1 (zk_House_carried hk1) (zl_House_carried hk1) (zk_House_carried hk0) (zl_House_carried hk0) (by decide) ⟨z_l1, z_l2⟩ dX2_copy_80 (fun HM9 lM9 wM9 => ?_)
  obtain ⟨M9, eM9, h⟩ := z_lo h
  rw [← eM9] at wM9
  refine lv_aload_n (pc := 83) hx hb dX2_copy_83 rfl (lv_at hl 1 rfl) ?_
  refine zg_House_spilt (pc := 84) X wM9 hk1 zw_fl_1_94 dX2_copy_84 ?_
  refine lv_iconst (pc := 87) (v := 0) hx hb dX2_copy_87 (by decide) ?_
  refine lv_aload_n (pc := 88) hx hb dX2_copy_88 rfl (lv_at hl 0 rfl) ?_
  refine zg_House_spilt (pc := 89) X wM9 hk0 zw_fl_1_94 dX2_copy_89 ?_
  refine lv_iconst (pc := 92) (v := 0) hx hb dX2_copy_92 (by decide) ?_
  refine lv_bipush (pc := 93) (v := 12) hx hb dX2_copy_93 (by decide) ?_
  refine z_copy (pc := 95) (rest := []) X wM9 zw_ml_5_43 zw_na_4_13 zw_st_4_12 zw_in_1_19 hl.1 (zk_House_spilt hk1) (zl_House_spilt hk1) (zk_House_spilt hk0) (zl_House_spilt hk0) (by decide) ⟨z_l1, z_l2⟩ dX2_copy_95 (fun HM10 lM10 wM10 => ?_)
  obtain ⟨M10, eM10, h⟩ := z_lo h
  rw [← eM10] at wM10
  obtain rfl := Option.some.inj h
  exact z_rv (pc := 98) X wM10 dX2_copy_98
def f_X2_mostOf (i0 : Int32) (M : zM) : Option (Int32 × zM) :=
  if i0 = (0 : Int32) then (
    some ((10 : Int32), M)
  ) else (
  if i0 = (1 : Int32) then (
    some ((9999 : Int32), M)
  ) else (
  if i0 = (2 : Int32) then (
    some ((10 : Int32), M)
  ) else (
  if i0 = (3 : Int32) then (
    some ((999 : Int32), M)
  ) else (
  if i0 = (4 : Int32) then (
    some ((999 : Int32), M)
  ) else (
    some ((-1 : Int32), M)
  )))))
set_option maxHeartbeats 4000000 in
set_option maxRecDepth 100000 in
theorem m_X2_mostOf {l : Launch} {G : zG} {i0 : Int32} {M : zM} {r : Int32 × zM} (h : f_X2_mostOf i0 M = some r) : z_T l G 0 yX2_mostOf (.code yX2_mostOf cX2_mostOf 1 (some .int)) [.int i0] M (some (.int r.1)) r.2 := by
  refine z_of rfl ?_
  intro p e s m below meth c X hw
  have hl := lv_entry [.int i0] (n := 1) (Nat.le_of_ble_eq_true rfl)
  rw [lg_entry_eq]
  generalize (lg_sl [.int i0] ++ List.replicate (1 - (lg_sl [.int i0]).length) Slot.unset).toArray = ls at hl ⊢
  have hl : lv_has ls 1 [(0, .int i0)] := hl
  generalize ([.int i0] : List Value).toArray = args at X ⊢
  have X : z_C G p s m args meth c cX2_mostOf 1 RX2 (some .int) := X
  have hx := X.1
  have hb := X.2.1
  unfold f_X2_mostOf at h
  refine lv_iload_n (pc := 0) hx hb dX2_mostOf_0 rfl (lv_at hl 0 rfl) ?_
  by_cases c1 : i0 = (0 : Int32)
  · replace h := z_t c1 h
    refine lv_tableIn (pc := 1) (off := 35) (tgt := 36) hx hb dX2_mostOf_1 (by rw [c1]; decide) (by rw [c1]; decide) (by rw [c1]; rfl) (by decide) ?_
    refine lv_bipush (pc := 36) (v := 10) hx hb dX2_mostOf_36 (by decide) ?_
    obtain rfl := Option.some.inj h
    exact z_ri (pc := 38) X hw dX2_mostOf_38
  · replace h := z_f c1 h
    by_cases c2 : i0 = (1 : Int32)
    · replace h := z_t c2 h
      refine lv_tableIn (pc := 1) (off := 38) (tgt := 39) hx hb dX2_mostOf_1 (by rw [c2]; decide) (by rw [c2]; decide) (by rw [c2]; rfl) (by decide) ?_
      refine lv_sipush (pc := 39) (v := 9999) hx hb dX2_mostOf_39 (by decide) ?_
      obtain rfl := Option.some.inj h
      exact z_ri (pc := 42) X hw dX2_mostOf_42
    · replace h := z_f c2 h
      by_cases c3 : i0 = (2 : Int32)
      · replace h := z_t c3 h
        refine lv_tableIn (pc := 1) (off := 42) (tgt := 43) hx hb dX2_mostOf_1 (by rw [c3]; decide) (by rw [c3]; decide) (by rw [c3]; rfl) (by decide) ?_
        refine lv_bipush (pc := 43) (v := 10) hx hb dX2_mostOf_43 (by decide) ?_
        obtain rfl := Option.some.inj h
        exact z_ri (pc := 45) X hw dX2_mostOf_45
      · replace h := z_f c3 h
        by_cases c4 : i0 = (3 : Int32)
        · replace h := z_t c4 h
          refine lv_tableIn (pc := 1) (off := 45) (tgt := 46) hx hb dX2_mostOf_1 (by rw [c4]; decide) (by rw [c4]; decide) (by rw [c4]; rfl) (by decide) ?_
          refine lv_sipush (pc := 46) (v := 999) hx hb dX2_mostOf_46 (by decide) ?_
          obtain rfl := Option.some.inj h
          exact z_ri (pc := 49) X hw dX2_mostOf_49
        · replace h := z_f c4 h
          by_cases c5 : i0 = (4 : Int32)
          · replace h := z_t c5 h
            refine lv_tableIn (pc := 1) (off := 49) (tgt := 50) hx hb dX2_mostOf_1 (by rw [c5]; decide) (by rw [c5]; decide) (by rw [c5]; rfl) (by decide) ?_
            refine lv_sipush (pc := 50) (v := 999) hx hb dX2_mostOf_50 (by decide) ?_
            obtain rfl := Option.some.inj h
            exact z_ri (pc := 53) X hw dX2_mostOf_53
          · replace h := z_f c5 h
            have qc1 : (i0).toInt ≠ 0 := z_ne c1
            have qc2 : (i0).toInt ≠ 1 := z_ne c2
            have qc3 : (i0).toInt ≠ 2 := z_ne c3
            have qc4 : (i0).toInt ≠ 3 := z_ne c4
            have qc5 : (i0).toInt ≠ 4 := z_ne c5
            refine lv_tableOut (pc := 1) (tgt := 54) hx hb dX2_mostOf_1 (by omega) (by decide) ?_
            refine lv_iconst (pc := 54) (v := -1) hx hb dX2_mostOf_54 (by decide) ?_
            obtain rfl := Option.some.inj h
            exact z_ri (pc := 55) X hw dX2_mostOf_55
def f_X10_within (i0 : Int32) (i1 : Int32) (i2 : Int32) (M : zM) : Option (Int32 × zM) :=
  if i0 < i1 then (
    some ((0 : Int32), M)
  ) else (
    if i2 < i0 then (
      some ((0 : Int32), M)
    ) else (
      some ((1 : Int32), M)
    )
  )
set_option maxHeartbeats 4000000 in
set_option maxRecDepth 100000 in
theorem m_X10_within {l : Launch} {G : zG} {i0 : Int32} {i1 : Int32} {i2 : Int32} {M : zM} {r : Int32 × zM} (h : f_X10_within i0 i1 i2 M = some r) : z_T l G 0 yX10_within (.code yX10_within cX10_within 3 (some .boolean)) [.int i0, .int i1, .int i2] M (some (.int r.1)) r.2 := by
  refine z_of rfl ?_
  intro p e s m below meth c X hw
  have hl := lv_entry [.int i0, .int i1, .int i2] (n := 3) (Nat.le_of_ble_eq_true rfl)
  rw [lg_entry_eq]
  generalize (lg_sl [.int i0, .int i1, .int i2] ++ List.replicate (3 - (lg_sl [.int i0, .int i1, .int i2]).length) Slot.unset).toArray = ls at hl ⊢
  have hl : lv_has ls 3 [(0, .int i0), (1, .int i1), (2, .int i2)] := hl
  generalize ([.int i0, .int i1, .int i2] : List Value).toArray = args at X ⊢
  have X : z_C G p s m args meth c cX10_within 3 RX10 (some .boolean) := X
  have hx := X.1
  have hb := X.2.1
  unfold f_X10_within at h
  refine lv_iload_n (pc := 0) hx hb dX10_within_0 rfl (lv_at hl 0 rfl) ?_
  refine lv_iload_n (pc := 1) hx hb dX10_within_1 rfl (lv_at hl 1 rfl) ?_
  refine lv_icmp_lt (pc := 2) (tgt := 14) hx hb dX10_within_2 (by decide) (fun c1 => ?_) (fun c1 => ?_)
  · replace h := z_t c1 h
    refine lv_iconst (pc := 14) (v := 0) hx hb dX10_within_14 (by decide) ?_
    obtain rfl := Option.some.inj h
    exact z_rz (pc := 15) X hw (z_nb (x := 0) (by decide)) dX10_within_15
  · replace h := z_f c1 h
    refine lv_iload_n (pc := 5) hx hb dX10_within_5 rfl (lv_at hl 0 rfl) ?_
    refine lv_iload_n (pc := 6) hx hb dX10_within_6 rfl (lv_at hl 2 rfl) ?_
    refine lv_icmp_gt (pc := 7) (tgt := 14) hx hb dX10_within_7 (by decide) (fun c2 => ?_) (fun c2 => ?_)
    · replace h := z_t c2 h
      refine lv_iconst (pc := 14) (v := 0) hx hb dX10_within_14 (by decide) ?_
      obtain rfl := Option.some.inj h
      exact z_rz (pc := 15) X hw (z_nb (x := 0) (by decide)) dX10_within_15
    · replace h := z_f c2 h
      refine lv_iconst (pc := 10) (v := 1) hx hb dX10_within_10 (by decide) ?_
      refine lv_goto (pc := 11) (tgt := 15) hx hb dX10_within_11 (by decide) ?_
      obtain rfl := Option.some.inj h
      exact z_rz (pc := 15) X hw (z_nb (x := 1) (by decide)) dX10_within_15
def f_X2_change (k0 : Nat) (i1 : Int32) (i2 : Int32) (M : zM) : Option (Int32 × zM) :=
  (f_X2_mostOf i1 M).bind fun x1 =>
  (f_X10_within i2 (0 : Int32) x1.1 x1.2).bind fun x2 =>
  if x2.1 = 0 then (
    some ((0 : Int32), x2.2)
  ) else (
    if i1 = (0 : Int32) then (
      z_l (z_w x2.2 k0 5 i2) fun M5 =>
      some ((1 : Int32), M5)
    ) else (
    if i1 = (1 : Int32) then (
      z_l (z_w x2.2 k0 1 i2) fun M7 =>
      some ((1 : Int32), M7)
    ) else (
    if i1 = (2 : Int32) then (
      z_l (z_w x2.2 k0 2 i2) fun M9 =>
      some ((1 : Int32), M9)
    ) else (
    if i1 = (3 : Int32) then (
      z_l (z_w x2.2 k0 6 i2) fun M11 =>
      some ((1 : Int32), M11)
    ) else (
      z_l (z_w x2.2 k0 7 i2) fun M12 =>
      some ((1 : Int32), M12)
    ))))
  )
set_option maxHeartbeats 4000000 in
set_option maxRecDepth 100000 in
theorem m_X2_change {l : Launch} {G : zG} {k0 : Nat} {i1 : Int32} {i2 : Int32} {M : zM} {r : Int32 × zM} (hk0 : z_kd k0 = 2) (h : f_X2_change k0 i1 i2 M = some r) : z_T l G 1 yX2_change (.code yX2_change cX2_change 3 (some .boolean)) [.ref (G.1 k0), .int i1, .int i2] M (some (.int r.1)) r.2 := by
  refine z_of rfl ?_
  intro p e s m below meth c X hw
  have hl := lv_entry [.ref (G.1 k0), .int i1, .int i2] (n := 3) (Nat.le_of_ble_eq_true rfl)
  rw [lg_entry_eq]
  generalize (lg_sl [.ref (G.1 k0), .int i1, .int i2] ++ List.replicate (3 - (lg_sl [.ref (G.1 k0), .int i1, .int i2]).length) Slot.unset).toArray = ls at hl ⊢
  have hl : lv_has ls 3 [(0, .ref (G.1 k0)), (1, .int i1), (2, .int i2)] := hl
  generalize ([.ref (G.1 k0), .int i1, .int i2] : List Value).toArray = args at X ⊢
  have X : z_C G p s m args meth c cX2_change 3 RX2 (some .boolean) := X
  have hx := X.1
  have hb := X.2.1
  unfold f_X2_change at h
  refine lv_iload_n (pc := 0) hx hb dX2_change_0 rfl (lv_at hl 2 rfl) ?_
  refine lv_iconst (pc := 1) (v := 0) hx hb dX2_change_1 (by decide) ?_
  refine lv_iload_n (pc := 2) hx hb dX2_change_2 rfl (lv_at hl 1 rfl) ?_
  obtain ⟨x1, ex1, h⟩ := z_bd h
  refine z_csI (pc := 3) (rest := [.int (0 : Int32), .int i2]) X hw (m_X2_mostOf  ex1) zw_ml_3_0 zw_st_3_1 zw_in_1_4 zw_co_3_2 zd_X2_mostOf (by decide) rfl hl.1 rfl (Nat.le_of_ble_eq_true rfl) dX2_change_3 ⟨Nat.zero_le _, Nat.zero_le _⟩ (fun Hx1 lx1 wx1 => ?_)
  obtain ⟨x2, ex2, h⟩ := z_bd h
  refine z_csnI (pc := 6) (rest := []) X wx1 (m_X10_within  ex2) zwn_X2_81 zw_st_2_209 zw_in_1_1 zw_co_2_210 zd_X10_within (by decide) rfl hl.1 rfl (Nat.le_of_ble_eq_true rfl) dX2_change_6 ⟨Nat.zero_le _, Nat.zero_le _⟩ (fun Hx2 lx2 wx2 => ?_)
  refine lv_if_ne (pc := 9) (tgt := 14) hx hb dX2_change_9 (by decide) (fun c3 => ?_) (fun c3 => ?_)
  · replace h := z_f c3 h
    refine lv_iload_n (pc := 14) hx hb dX2_change_14 rfl (lv_at hl 1 rfl) ?_
    by_cases c4 : i1 = (0 : Int32)
    · replace h := z_t c4 h
      refine lv_tableIn (pc := 15) (off := 29) (tgt := 44) hx hb dX2_change_15 (by rw [c4]; decide) (by rw [c4]; decide) (by rw [c4]; rfl) (by decide) ?_
      refine lv_aload_n (pc := 44) hx hb dX2_change_44 rfl (lv_at hl 0 rfl) ?_
      refine lv_iload_n (pc := 45) hx hb dX2_change_45 rfl (lv_at hl 2 rfl) ?_
      refine zp_House_clog (pc := 46) X wx2 hk0 zw_fl_1_62 dX2_change_46 (fun HM5 lM5 wM5 => ?_)
      obtain ⟨M5, eM5, h⟩ := z_lo h
      rw [← eM5] at wM5
      refine lv_goto (pc := 49) (tgt := 81) hx hb dX2_change_49 (by decide) ?_
      refine lv_iconst (pc := 81) (v := 1) hx hb dX2_change_81 (by decide) ?_
      obtain rfl := Option.some.inj h
      exact z_rz (pc := 82) X wM5 (z_nb (x := 1) (by decide)) dX2_change_82
    · replace h := z_f c4 h
      by_cases c6 : i1 = (1 : Int32)
      · replace h := z_t c6 h
        refine lv_tableIn (pc := 15) (off := 37) (tgt := 52) hx hb dX2_change_15 (by rw [c6]; decide) (by rw [c6]; decide) (by rw [c6]; rfl) (by decide) ?_
        refine lv_aload_n (pc := 52) hx hb dX2_change_52 rfl (lv_at hl 0 rfl) ?_
        refine lv_iload_n (pc := 53) hx hb dX2_change_53 rfl (lv_at hl 2 rfl) ?_
        refine zp_House_carries (pc := 54) X wx2 hk0 zw_fl_1_50 dX2_change_54 (fun HM7 lM7 wM7 => ?_)
        obtain ⟨M7, eM7, h⟩ := z_lo h
        rw [← eM7] at wM7
        refine lv_goto (pc := 57) (tgt := 81) hx hb dX2_change_57 (by decide) ?_
        refine lv_iconst (pc := 81) (v := 1) hx hb dX2_change_81 (by decide) ?_
        obtain rfl := Option.some.inj h
        exact z_rz (pc := 82) X wM7 (z_nb (x := 1) (by decide)) dX2_change_82
      · replace h := z_f c6 h
        by_cases c8 : i1 = (2 : Int32)
        · replace h := z_t c8 h
          refine lv_tableIn (pc := 15) (off := 45) (tgt := 60) hx hb dX2_change_15 (by rw [c8]; decide) (by rw [c8]; decide) (by rw [c8]; rfl) (by decide) ?_
          refine lv_aload_n (pc := 60) hx hb dX2_change_60 rfl (lv_at hl 0 rfl) ?_
          refine lv_iload_n (pc := 61) hx hb dX2_change_61 rfl (lv_at hl 2 rfl) ?_
          refine zp_House_leaves (pc := 62) X wx2 hk0 zw_fl_1_53 dX2_change_62 (fun HM9 lM9 wM9 => ?_)
          obtain ⟨M9, eM9, h⟩ := z_lo h
          rw [← eM9] at wM9
          refine lv_goto (pc := 65) (tgt := 81) hx hb dX2_change_65 (by decide) ?_
          refine lv_iconst (pc := 81) (v := 1) hx hb dX2_change_81 (by decide) ?_
          obtain rfl := Option.some.inj h
          exact z_rz (pc := 82) X wM9 (z_nb (x := 1) (by decide)) dX2_change_82
        · replace h := z_f c8 h
          by_cases c10 : i1 = (3 : Int32)
          · replace h := z_t c10 h
            refine lv_tableIn (pc := 15) (off := 53) (tgt := 68) hx hb dX2_change_15 (by rw [c10]; decide) (by rw [c10]; decide) (by rw [c10]; rfl) (by decide) ?_
            refine lv_aload_n (pc := 68) hx hb dX2_change_68 rfl (lv_at hl 0 rfl) ?_
            refine lv_iload_n (pc := 69) hx hb dX2_change_69 rfl (lv_at hl 2 rfl) ?_
            refine zp_House_barrel (pc := 70) X wx2 hk0 zw_fl_1_67 dX2_change_70 (fun HM11 lM11 wM11 => ?_)
            obtain ⟨M11, eM11, h⟩ := z_lo h
            rw [← eM11] at wM11
            refine lv_goto (pc := 73) (tgt := 81) hx hb dX2_change_73 (by decide) ?_
            refine lv_iconst (pc := 81) (v := 1) hx hb dX2_change_81 (by decide) ?_
            obtain rfl := Option.some.inj h
            exact z_rz (pc := 82) X wM11 (z_nb (x := 1) (by decide)) dX2_change_82
          · replace h := z_f c10 h
            have qc4 : (i1).toInt ≠ 0 := z_ne c4
            have qc6 : (i1).toInt ≠ 1 := z_ne c6
            have qc8 : (i1).toInt ≠ 2 := z_ne c8
            have qc10 : (i1).toInt ≠ 3 := z_ne c10
            refine lv_tableOut (pc := 15) (tgt := 76) hx hb dX2_change_15 (by omega) (by decide) ?_
            refine lv_aload_n (pc := 76) hx hb dX2_change_76 rfl (lv_at hl 0 rfl) ?_
            refine lv_iload_n (pc := 77) hx hb dX2_change_77 rfl (lv_at hl 2 rfl) ?_
            refine zp_House_let (pc := 78) X wx2 hk0 zw_fl_1_69 dX2_change_78 (fun HM12 lM12 wM12 => ?_)
            obtain ⟨M12, eM12, h⟩ := z_lo h
            rw [← eM12] at wM12
            refine lv_iconst (pc := 81) (v := 1) hx hb dX2_change_81 (by decide) ?_
            obtain rfl := Option.some.inj h
            exact z_rz (pc := 82) X wM12 (z_nb (x := 1) (by decide)) dX2_change_82
  · replace h := z_t c3 h
    refine lv_iconst (pc := 12) (v := 0) hx hb dX2_change_12 (by decide) ?_
    obtain rfl := Option.some.inj h
    exact z_rz (pc := 13) X wx2 (z_nb (x := 0) (by decide)) dX2_change_13
def f_X2_told (k0 : Nat) (i1 : Int32) (M : zM) : Option (Int32 × zM) :=
  if i1 = (0 : Int32) then (
    some ((M.1 k0 0), M)
  ) else (
  if i1 = (1 : Int32) then (
    some ((M.1 k0 1), M)
  ) else (
  if i1 = (2 : Int32) then (
    some ((M.1 k0 2), M)
  ) else (
  if i1 = (3 : Int32) then (
    some ((M.1 k0 3), M)
  ) else (
  if i1 = (4 : Int32) then (
    some ((M.1 k0 4), M)
  ) else (
  if i1 = (5 : Int32) then (
    some ((M.1 k0 5), M)
  ) else (
  if i1 = (6 : Int32) then (
    some ((M.1 k0 6), M)
  ) else (
  if i1 = (7 : Int32) then (
    some ((M.1 k0 7), M)
  ) else (
  if i1 = (8 : Int32) then (
    some ((M.1 k0 8), M)
  ) else (
  if i1 = (9 : Int32) then (
    some ((M.1 k0 9), M)
  ) else (
  if i1 = (10 : Int32) then (
    some ((M.1 k0 10), M)
  ) else (
  if i1 = (11 : Int32) then (
    some ((M.1 k0 11), M)
  ) else (
  if i1 = (12 : Int32) then (
    some ((M.1 k0 12), M)
  ) else (
  if i1 = (13 : Int32) then (
    some ((M.1 k0 13), M)
  ) else (
    some ((-1000000000 : Int32), M)
  ))))))))))))))
set_option maxHeartbeats 4000000 in
set_option maxRecDepth 100000 in
theorem m_X2_told {l : Launch} {G : zG} {k0 : Nat} {i1 : Int32} {M : zM} {r : Int32 × zM} (hk0 : z_kd k0 = 2) (h : f_X2_told k0 i1 M = some r) : z_T l G 0 yX2_told (.code yX2_told cX2_told 2 (some .int)) [.ref (G.1 k0), .int i1] M (some (.int r.1)) r.2 := by
  refine z_of rfl ?_
  intro p e s m below meth c X hw
  have hl := lv_entry [.ref (G.1 k0), .int i1] (n := 2) (Nat.le_of_ble_eq_true rfl)
  rw [lg_entry_eq]
  generalize (lg_sl [.ref (G.1 k0), .int i1] ++ List.replicate (2 - (lg_sl [.ref (G.1 k0), .int i1]).length) Slot.unset).toArray = ls at hl ⊢
  have hl : lv_has ls 2 [(0, .ref (G.1 k0)), (1, .int i1)] := hl
  generalize ([.ref (G.1 k0), .int i1] : List Value).toArray = args at X ⊢
  have X : z_C G p s m args meth c cX2_told 2 RX2 (some .int) := X
  have hx := X.1
  have hb := X.2.1
  unfold f_X2_told at h
  refine lv_iload_n (pc := 0) hx hb dX2_told_0 rfl (lv_at hl 1 rfl) ?_
  by_cases c1 : i1 = (0 : Int32)
  · replace h := z_t c1 h
    refine lv_tableIn (pc := 1) (off := 71) (tgt := 72) hx hb dX2_told_1 (by rw [c1]; decide) (by rw [c1]; decide) (by rw [c1]; rfl) (by decide) ?_
    refine lv_aload_n (pc := 72) hx hb dX2_told_72 rfl (lv_at hl 0 rfl) ?_
    refine zg_House_area (pc := 73) X hw hk0 zw_fl_1_48 dX2_told_73 ?_
    obtain rfl := Option.some.inj h
    exact z_ri (pc := 76) X hw dX2_told_76
  · replace h := z_f c1 h
    by_cases c2 : i1 = (1 : Int32)
    · replace h := z_t c2 h
      refine lv_tableIn (pc := 1) (off := 76) (tgt := 77) hx hb dX2_told_1 (by rw [c2]; decide) (by rw [c2]; decide) (by rw [c2]; rfl) (by decide) ?_
      refine lv_aload_n (pc := 77) hx hb dX2_told_77 rfl (lv_at hl 0 rfl) ?_
      refine zg_House_carries (pc := 78) X hw hk0 zw_fl_1_50 dX2_told_78 ?_
      obtain rfl := Option.some.inj h
      exact z_ri (pc := 81) X hw dX2_told_81
    · replace h := z_f c2 h
      by_cases c3 : i1 = (2 : Int32)
      · replace h := z_t c3 h
        refine lv_tableIn (pc := 1) (off := 81) (tgt := 82) hx hb dX2_told_1 (by rw [c3]; decide) (by rw [c3]; decide) (by rw [c3]; rfl) (by decide) ?_
        refine lv_aload_n (pc := 82) hx hb dX2_told_82 rfl (lv_at hl 0 rfl) ?_
        refine zg_House_leaves (pc := 83) X hw hk0 zw_fl_1_53 dX2_told_83 ?_
        obtain rfl := Option.some.inj h
        exact z_ri (pc := 86) X hw dX2_told_86
      · replace h := z_f c3 h
        by_cases c4 : i1 = (3 : Int32)
        · replace h := z_t c4 h
          refine lv_tableIn (pc := 1) (off := 86) (tgt := 87) hx hb dX2_told_1 (by rw [c4]; decide) (by rw [c4]; decide) (by rw [c4]; rfl) (by decide) ?_
          refine lv_aload_n (pc := 87) hx hb dX2_told_87 rfl (lv_at hl 0 rfl) ?_
          refine zg_House_price (pc := 88) X hw hk0 zw_fl_1_55 dX2_told_88 ?_
          obtain rfl := Option.some.inj h
          exact z_ri (pc := 91) X hw dX2_told_91
        · replace h := z_f c4 h
          by_cases c5 : i1 = (4 : Int32)
          · replace h := z_t c5 h
            refine lv_tableIn (pc := 1) (off := 91) (tgt := 92) hx hb dX2_told_1 (by rw [c5]; decide) (by rw [c5]; decide) (by rw [c5]; rfl) (by decide) ?_
            refine lv_aload_n (pc := 92) hx hb dX2_told_92 rfl (lv_at hl 0 rfl) ?_
            refine zg_House_empties (pc := 93) X hw hk0 zw_fl_1_57 dX2_told_93 ?_
            obtain rfl := Option.some.inj h
            exact z_ri (pc := 96) X hw dX2_told_96
          · replace h := z_f c5 h
            by_cases c6 : i1 = (5 : Int32)
            · replace h := z_t c6 h
              refine lv_tableIn (pc := 1) (off := 96) (tgt := 97) hx hb dX2_told_1 (by rw [c6]; decide) (by rw [c6]; decide) (by rw [c6]; rfl) (by decide) ?_
              refine lv_aload_n (pc := 97) hx hb dX2_told_97 rfl (lv_at hl 0 rfl) ?_
              refine zg_House_clog (pc := 98) X hw hk0 zw_fl_1_62 dX2_told_98 ?_
              obtain rfl := Option.some.inj h
              exact z_ri (pc := 101) X hw dX2_told_101
            · replace h := z_f c6 h
              by_cases c7 : i1 = (6 : Int32)
              · replace h := z_t c7 h
                refine lv_tableIn (pc := 1) (off := 101) (tgt := 102) hx hb dX2_told_1 (by rw [c7]; decide) (by rw [c7]; decide) (by rw [c7]; rfl) (by decide) ?_
                refine lv_aload_n (pc := 102) hx hb dX2_told_102 rfl (lv_at hl 0 rfl) ?_
                refine zg_House_barrel (pc := 103) X hw hk0 zw_fl_1_67 dX2_told_103 ?_
                obtain rfl := Option.some.inj h
                exact z_ri (pc := 106) X hw dX2_told_106
              · replace h := z_f c7 h
                by_cases c8 : i1 = (7 : Int32)
                · replace h := z_t c8 h
                  refine lv_tableIn (pc := 1) (off := 106) (tgt := 107) hx hb dX2_told_1 (by rw [c8]; decide) (by rw [c8]; decide) (by rw [c8]; rfl) (by decide) ?_
                  refine lv_aload_n (pc := 107) hx hb dX2_told_107 rfl (lv_at hl 0 rfl) ?_
                  refine zg_House_let (pc := 108) X hw hk0 zw_fl_1_69 dX2_told_108 ?_
                  obtain rfl := Option.some.inj h
                  exact z_ri (pc := 111) X hw dX2_told_111
                · replace h := z_f c8 h
                  by_cases c9 : i1 = (8 : Int32)
                  · replace h := z_t c9 h
                    refine lv_tableIn (pc := 1) (off := 111) (tgt := 112) hx hb dX2_told_1 (by rw [c9]; decide) (by rw [c9]; decide) (by rw [c9]; rfl) (by decide) ?_
                    refine lv_aload_n (pc := 112) hx hb dX2_told_112 rfl (lv_at hl 0 rfl) ?_
                    refine zg_House_held (pc := 113) X hw hk0 zw_fl_1_70 dX2_told_113 ?_
                    obtain rfl := Option.some.inj h
                    exact z_ri (pc := 116) X hw dX2_told_116
                  · replace h := z_f c9 h
                    by_cases c10 : i1 = (9 : Int32)
                    · replace h := z_t c10 h
                      refine lv_tableIn (pc := 1) (off := 116) (tgt := 117) hx hb dX2_told_1 (by rw [c10]; decide) (by rw [c10]; decide) (by rw [c10]; rfl) (by decide) ?_
                      refine lv_aload_n (pc := 117) hx hb dX2_told_117 rfl (lv_at hl 0 rfl) ?_
                      refine zg_House_snow (pc := 118) X hw hk0 zw_fl_1_74 dX2_told_118 ?_
                      obtain rfl := Option.some.inj h
                      exact z_ri (pc := 121) X hw dX2_told_121
                    · replace h := z_f c10 h
                      by_cases c11 : i1 = (10 : Int32)
                      · replace h := z_t c11 h
                        refine lv_tableIn (pc := 1) (off := 121) (tgt := 122) hx hb dX2_told_1 (by rw [c11]; decide) (by rw [c11]; decide) (by rw [c11]; rfl) (by decide) ?_
                        refine lv_aload_n (pc := 122) hx hb dX2_told_122 rfl (lv_at hl 0 rfl) ?_
                        refine zg_House_coin (pc := 123) X hw hk0 zw_fl_1_77 dX2_told_123 ?_
                        obtain rfl := Option.some.inj h
                        exact z_ri (pc := 126) X hw dX2_told_126
                      · replace h := z_f c11 h
                        by_cases c12 : i1 = (11 : Int32)
                        · replace h := z_t c12 h
                          refine lv_tableIn (pc := 1) (off := 126) (tgt := 127) hx hb dX2_told_1 (by rw [c12]; decide) (by rw [c12]; decide) (by rw [c12]; rfl) (by decide) ?_
                          refine lv_aload_n (pc := 127) hx hb dX2_told_127 rfl (lv_at hl 0 rfl) ?_
                          refine zg_House_wet (pc := 128) X hw hk0 zw_fl_1_79 dX2_told_128 ?_
                          obtain rfl := Option.some.inj h
                          exact z_ri (pc := 131) X hw dX2_told_131
                        · replace h := z_f c12 h
                          by_cases c13 : i1 = (12 : Int32)
                          · replace h := z_t c13 h
                            refine lv_tableIn (pc := 1) (off := 131) (tgt := 132) hx hb dX2_told_1 (by rw [c13]; decide) (by rw [c13]; decide) (by rw [c13]; rfl) (by decide) ?_
                            refine lv_aload_n (pc := 132) hx hb dX2_told_132 rfl (lv_at hl 0 rfl) ?_
                            refine zg_House_over (pc := 133) X hw hk0 zw_fl_1_80 dX2_told_133 ?_
                            obtain rfl := Option.some.inj h
                            exact z_ri (pc := 136) X hw dX2_told_136
                          · replace h := z_f c13 h
                            by_cases c14 : i1 = (13 : Int32)
                            · replace h := z_t c14 h
                              refine lv_tableIn (pc := 1) (off := 136) (tgt := 137) hx hb dX2_told_1 (by rw [c14]; decide) (by rw [c14]; decide) (by rw [c14]; rfl) (by decide) ?_
                              refine lv_aload_n (pc := 137) hx hb dX2_told_137 rfl (lv_at hl 0 rfl) ?_
                              refine zg_House_dry (pc := 138) X hw hk0 zw_fl_1_85 dX2_told_138 ?_
                              obtain rfl := Option.some.inj h
                              exact z_ri (pc := 141) X hw dX2_told_141
                            · replace h := z_f c14 h
                              have qc1 : (i1).toInt ≠ 0 := z_ne c1
                              have qc2 : (i1).toInt ≠ 1 := z_ne c2
                              have qc3 : (i1).toInt ≠ 2 := z_ne c3
                              have qc4 : (i1).toInt ≠ 3 := z_ne c4
                              have qc5 : (i1).toInt ≠ 4 := z_ne c5
                              have qc6 : (i1).toInt ≠ 5 := z_ne c6
                              have qc7 : (i1).toInt ≠ 6 := z_ne c7
                              have qc8 : (i1).toInt ≠ 7 := z_ne c8
                              have qc9 : (i1).toInt ≠ 8 := z_ne c9
                              have qc10 : (i1).toInt ≠ 9 := z_ne c10
                              have qc11 : (i1).toInt ≠ 10 := z_ne c11
                              have qc12 : (i1).toInt ≠ 11 := z_ne c12
                              have qc13 : (i1).toInt ≠ 12 := z_ne c13
                              have qc14 : (i1).toInt ≠ 13 := z_ne c14
                              refine lv_tableOut (pc := 1) (tgt := 142) hx hb dX2_told_1 (by omega) (by decide) ?_
                              refine lv_ldc (pc := 142) (v := -1000000000) hx hb X.2.2.2.1 (X.2.2.2.2.1 _ zw_cn_4_103) dX2_told_142 ?_
                              obtain rfl := Option.some.inj h
                              exact z_ri (pc := 144) X hw dX2_told_144
def f_X2_toldOf (k0 : Nat) (i1 : Int32) (i2 : Int32) (M : zM) : Option (Int32 × zM) :=
  if i2 = (0 : Int32) then (
    z_g (z_ix i1 12) <|
    some ((M.1 (k0 + 2) (Int32.toNatClampNeg i1)), M)
  ) else (
  if i2 = (1 : Int32) then (
    z_g (z_ix i1 12) <|
    some ((M.1 (k0 + 3) (Int32.toNatClampNeg i1)), M)
  ) else (
  if i2 = (2 : Int32) then (
    z_g (z_ix i1 12) <|
    some ((M.1 (k0 + 4) (Int32.toNatClampNeg i1)), M)
  ) else (
    some ((-1 : Int32), M)
  )))
set_option maxHeartbeats 4000000 in
set_option maxRecDepth 100000 in
theorem m_X2_toldOf {l : Launch} {G : zG} {k0 : Nat} {i1 : Int32} {i2 : Int32} {M : zM} {r : Int32 × zM} (hk0 : z_kd k0 = 2) (h : f_X2_toldOf k0 i1 i2 M = some r) : z_T l G 0 yX2_toldOf (.code yX2_toldOf cX2_toldOf 3 (some .int)) [.ref (G.1 k0), .int i1, .int i2] M (some (.int r.1)) r.2 := by
  refine z_of rfl ?_
  intro p e s m below meth c X hw
  have hl := lv_entry [.ref (G.1 k0), .int i1, .int i2] (n := 3) (Nat.le_of_ble_eq_true rfl)
  rw [lg_entry_eq]
  generalize (lg_sl [.ref (G.1 k0), .int i1, .int i2] ++ List.replicate (3 - (lg_sl [.ref (G.1 k0), .int i1, .int i2]).length) Slot.unset).toArray = ls at hl ⊢
  have hl : lv_has ls 3 [(0, .ref (G.1 k0)), (1, .int i1), (2, .int i2)] := hl
  generalize ([.ref (G.1 k0), .int i1, .int i2] : List Value).toArray = args at X ⊢
  have X : z_C G p s m args meth c cX2_toldOf 3 RX2 (some .int) := X
  have hx := X.1
  have hb := X.2.1
  unfold f_X2_toldOf at h
  refine lv_iload_n (pc := 0) hx hb dX2_toldOf_0 rfl (lv_at hl 2 rfl) ?_
  by_cases c1 : i2 = (0 : Int32)
  · replace h := z_t c1 h
    refine lv_tableIn (pc := 1) (off := 27) (tgt := 28) hx hb dX2_toldOf_1 (by rw [c1]; decide) (by rw [c1]; decide) (by rw [c1]; rfl) (by decide) ?_
    refine lv_aload_n (pc := 28) hx hb dX2_toldOf_28 rfl (lv_at hl 0 rfl) ?_
    refine zg_House_got (pc := 29) X hw hk0 zw_fl_1_91 dX2_toldOf_29 ?_
    refine lv_iload_n (pc := 32) hx hb dX2_toldOf_32 rfl (lv_at hl 1 rfl) ?_
    obtain ⟨g2, h⟩ := z_gd h
    refine z_iald (pc := 33) X hw (zk_House_got hk0) (zl_House_got hk0) g2 dX2_toldOf_33 ?_
    obtain rfl := Option.some.inj h
    exact z_ri (pc := 34) X hw dX2_toldOf_34
  · replace h := z_f c1 h
    by_cases c3 : i2 = (1 : Int32)
    · replace h := z_t c3 h
      refine lv_tableIn (pc := 1) (off := 34) (tgt := 35) hx hb dX2_toldOf_1 (by rw [c3]; decide) (by rw [c3]; decide) (by rw [c3]; rfl) (by decide) ?_
      refine lv_aload_n (pc := 35) hx hb dX2_toldOf_35 rfl (lv_at hl 0 rfl) ?_
      refine zg_House_carried (pc := 36) X hw hk0 zw_fl_1_92 dX2_toldOf_36 ?_
      refine lv_iload_n (pc := 39) hx hb dX2_toldOf_39 rfl (lv_at hl 1 rfl) ?_
      obtain ⟨g4, h⟩ := z_gd h
      refine z_iald (pc := 40) X hw (zk_House_carried hk0) (zl_House_carried hk0) g4 dX2_toldOf_40 ?_
      obtain rfl := Option.some.inj h
      exact z_ri (pc := 41) X hw dX2_toldOf_41
    · replace h := z_f c3 h
      by_cases c5 : i2 = (2 : Int32)
      · replace h := z_t c5 h
        refine lv_tableIn (pc := 1) (off := 41) (tgt := 42) hx hb dX2_toldOf_1 (by rw [c5]; decide) (by rw [c5]; decide) (by rw [c5]; rfl) (by decide) ?_
        refine lv_aload_n (pc := 42) hx hb dX2_toldOf_42 rfl (lv_at hl 0 rfl) ?_
        refine zg_House_spilt (pc := 43) X hw hk0 zw_fl_1_94 dX2_toldOf_43 ?_
        refine lv_iload_n (pc := 46) hx hb dX2_toldOf_46 rfl (lv_at hl 1 rfl) ?_
        obtain ⟨g6, h⟩ := z_gd h
        refine z_iald (pc := 47) X hw (zk_House_spilt hk0) (zl_House_spilt hk0) g6 dX2_toldOf_47 ?_
        obtain rfl := Option.some.inj h
        exact z_ri (pc := 48) X hw dX2_toldOf_48
      · replace h := z_f c5 h
        have qc1 : (i2).toInt ≠ 0 := z_ne c1
        have qc3 : (i2).toInt ≠ 1 := z_ne c3
        have qc5 : (i2).toInt ≠ 2 := z_ne c5
        refine lv_tableOut (pc := 1) (tgt := 49) hx hb dX2_toldOf_1 (by omega) (by decide) ?_
        refine lv_iconst (pc := 49) (v := -1) hx hb dX2_toldOf_49 (by decide) ?_
        obtain rfl := Option.some.inj h
        exact z_ri (pc := 50) X hw dX2_toldOf_50
def f_X2_carriedInAll_4 : Nat → Nat → Int32 → Int32 → Int32 → zM → Option (Int32 × zM)
  | 0, _, _, _, _, _ => none
  | n + 1, k0, i1, i2, i3, M =>
    if i1 ≤ i3 then (
      some (i2, M)
    ) else (
      z_g (z_ix i3 12) <|
      z_l (i2 + (M.1 (k0 + 3) (Int32.toNatClampNeg i3))) fun v3 =>
      z_l (i3 + (1 : Int32)) fun v4 =>
      f_X2_carriedInAll_4 n k0 i1 v3 v4 M
    )
def f_X2_carriedInAll (k0 : Nat) (i1 : Int32) (M : zM) : Option (Int32 × zM) :=
  f_X2_carriedInAll_4 z_F k0 i1 (0 : Int32) (0 : Int32) M
set_option maxHeartbeats 4000000 in
set_option maxRecDepth 100000 in
theorem w_X2_carriedInAll_4 {G : zG} {p : Program} {l : Launch} {e : Env} {s : State} {m : MethodId} {args : Array Value} {below : List Frame} {meth : Method} {c : Code} (X : z_C G p s m args meth c cX2_carriedInAll 4 RX2 (some .int)) {r : Int32 × zM} : ∀ (n : Nat) (k0 : Nat) (i1 : Int32) (i2 : Int32) (i3 : Int32) (M : zM) (H : Heap) (locs : List Loc) (ls : Array Slot), z_kd k0 = 2 → z_W G M H locs → lv_has ls 4 [(0, .ref (G.1 k0)), (1, .int i1), (2, .int i2), (3, .int i3)] → f_X2_carriedInAll_4 n k0 i1 i2 i3 M = some r → W p l e (z_rm 0) s m args below meth c H locs 0 0 (z_Q G below args s (some (.int r.1)) r.2) (F0 m 4 ls []) := by
  have hx := X.1
  have hb := X.2.1
  intro n
  induction n with
  | zero =>
    intro k0 i1 i2 i3 M H locs ls hk0 hw hl h
    exact z_no h
  | succ n ih =>
    intro k0 i1 i2 i3 M H locs ls hk0 hw hl h
    rw [f_X2_carriedInAll_4] at h
    refine lv_iload_n (pc := 4) hx hb dX2_carriedInAll_4 rfl (lv_at hl 3 rfl) ?_
    refine lv_iload_n (pc := 5) hx hb dX2_carriedInAll_5 rfl (lv_at hl 1 rfl) ?_
    refine lv_icmp_ge (pc := 6) (tgt := 24) hx hb dX2_carriedInAll_6 (by decide) (fun c1 => ?_) (fun c1 => ?_)
    · replace h := z_t c1 h
      refine lv_iload_n (pc := 24) hx hb dX2_carriedInAll_24 rfl (lv_at hl 2 rfl) ?_
      obtain rfl := Option.some.inj h
      exact z_ri (pc := 25) X hw dX2_carriedInAll_25
    · replace h := z_f c1 h
      refine lv_iload_n (pc := 9) hx hb dX2_carriedInAll_9 rfl (lv_at hl 2 rfl) ?_
      refine lv_aload_n (pc := 10) hx hb dX2_carriedInAll_10 rfl (lv_at hl 0 rfl) ?_
      refine zg_House_carried (pc := 11) X hw hk0 zw_fl_1_92 dX2_carriedInAll_11 ?_
      refine lv_iload_n (pc := 14) hx hb dX2_carriedInAll_14 rfl (lv_at hl 3 rfl) ?_
      obtain ⟨g2, h⟩ := z_gd h
      refine z_iald (pc := 15) X hw (zk_House_carried hk0) (zl_House_carried hk0) g2 dX2_carriedInAll_15 ?_
      refine lv_iadd (pc := 16) hx hb dX2_carriedInAll_16 ?_
      obtain ⟨v3, ev3, h⟩ := z_lo h
      refine z_topi ev3 ?_
      refine lv_istore_n (pc := 17) (lv' := [(2, .int v3), (0, .ref (G.1 k0)), (1, .int i1), (3, .int i3)]) hx hb dX2_carriedInAll_17 rfl hl (by decide) rfl (fun ls hl => ?_)
      obtain ⟨v4, ev4, h⟩ := z_lo h
      refine lv_iinc (pc := 18) (v := v4) (lv' := [(3, .int v4), (2, .int v3), (0, .ref (G.1 k0)), (1, .int i1)]) hx hb dX2_carriedInAll_18 hl (k := 3) rfl (by rw [ev4]; rfl) (by decide) rfl (fun ls hl => ?_)
      refine lv_goto (pc := 21) (tgt := 4) hx hb dX2_carriedInAll_21 (by decide) ?_
      exact ih k0 i1 v3 v4 M H locs ls hk0 hw (lv_sub hl [2, 3, 1, 0] rfl) h
set_option maxHeartbeats 4000000 in
set_option maxRecDepth 100000 in
theorem m_X2_carriedInAll {l : Launch} {G : zG} {k0 : Nat} {i1 : Int32} {M : zM} {r : Int32 × zM} (hk0 : z_kd k0 = 2) (h : f_X2_carriedInAll k0 i1 M = some r) : z_T l G 0 yX2_carriedInAll (.code yX2_carriedInAll cX2_carriedInAll 4 (some .int)) [.ref (G.1 k0), .int i1] M (some (.int r.1)) r.2 := by
  refine z_of rfl ?_
  intro p e s m below meth c X hw
  have hl := lv_entry [.ref (G.1 k0), .int i1] (n := 4) (Nat.le_of_ble_eq_true rfl)
  rw [lg_entry_eq]
  generalize (lg_sl [.ref (G.1 k0), .int i1] ++ List.replicate (4 - (lg_sl [.ref (G.1 k0), .int i1]).length) Slot.unset).toArray = ls at hl ⊢
  have hl : lv_has ls 4 [(0, .ref (G.1 k0)), (1, .int i1)] := hl
  generalize ([.ref (G.1 k0), .int i1] : List Value).toArray = args at X ⊢
  have X : z_C G p s m args meth c cX2_carriedInAll 4 RX2 (some .int) := X
  have hx := X.1
  have hb := X.2.1
  unfold f_X2_carriedInAll at h
  refine lv_iconst (pc := 0) (v := 0) hx hb dX2_carriedInAll_0 (by decide) ?_
  refine lv_istore_n (pc := 1) (lv' := [(2, .int (0 : Int32)), (0, .ref (G.1 k0)), (1, .int i1)]) hx hb dX2_carriedInAll_1 rfl hl (by decide) rfl (fun ls hl => ?_)
  refine lv_iconst (pc := 2) (v := 0) hx hb dX2_carriedInAll_2 (by decide) ?_
  refine lv_istore_n (pc := 3) (lv' := [(3, .int (0 : Int32)), (2, .int (0 : Int32)), (0, .ref (G.1 k0)), (1, .int i1)]) hx hb dX2_carriedInAll_3 rfl hl (by decide) rfl (fun ls hl => ?_)
  exact w_X2_carriedInAll_4 X z_F k0 i1 (0 : Int32) (0 : Int32) M s.heap [] ls hk0 hw (lv_sub hl [2, 3, 1, 0] rfl) h
def f_X2_closeStorm (k0 : Nat) (M : zM) : Option (zM) :=
  z_l (z_w M k0 5 (if ((M.1 k0 5) + (M.1 k0 2)) < (10 : Int32) then ((M.1 k0 5) + (M.1 k0 2)) else (10 : Int32))) fun M1 =>
  z_l (z_w M1 k0 11 ((M1.1 k0 11) + (M1.1 k0 12))) fun M2 =>
  if (M2.1 k0 12) = 0 then (
    z_l (z_w M2 k0 13 ((M2.1 k0 13) + (1 : Int32))) fun M5 =>
    some M5
  ) else (
    z_l (z_w M2 k0 13 (0 : Int32)) fun M4 =>
    some M4
  )
set_option maxHeartbeats 4000000 in
set_option maxRecDepth 100000 in
theorem m_X2_closeStorm {l : Launch} {G : zG} {k0 : Nat} {M : zM} {r : zM} (hk0 : z_kd k0 = 2) (h : f_X2_closeStorm k0 M = some r) : z_T l G 0 yX2_closeStorm (.code yX2_closeStorm cX2_closeStorm 1 none) [.ref (G.1 k0)] M none r := by
  refine z_of rfl ?_
  intro p e s m below meth c X hw
  have hl := lv_entry [.ref (G.1 k0)] (n := 1) (Nat.le_of_ble_eq_true rfl)
  rw [lg_entry_eq]
  generalize (lg_sl [.ref (G.1 k0)] ++ List.replicate (1 - (lg_sl [.ref (G.1 k0)]).length) Slot.unset).toArray = ls at hl ⊢
  have hl : lv_has ls 1 [(0, .ref (G.1 k0))] := hl
  generalize ([.ref (G.1 k0)] : List Value).toArray = args at X ⊢
  have X : z_C G p s m args meth c cX2_closeStorm 1 RX2 none := X
  have hx := X.1
  have hb := X.2.1
  unfold f_X2_closeStorm at h
  refine lv_aload_n (pc := 0) hx hb dX2_closeStorm_0 rfl (lv_at hl 0 rfl) ?_
  refine lv_bipush (pc := 1) (v := 10) hx hb dX2_closeStorm_1 (by decide) ?_
  refine lv_aload_n (pc := 3) hx hb dX2_closeStorm_3 rfl (lv_at hl 0 rfl) ?_
  refine zg_House_clog (pc := 4) X hw hk0 zw_fl_1_62 dX2_closeStorm_4 ?_
  refine lv_aload_n (pc := 7) hx hb dX2_closeStorm_7 rfl (lv_at hl 0 rfl) ?_
  refine zg_House_leaves (pc := 8) X hw hk0 zw_fl_1_53 dX2_closeStorm_8 ?_
  refine lv_iadd (pc := 11) hx hb dX2_closeStorm_11 ?_
  refine z_min (pc := 12) (rest := [.ref (G.1 k0)]) X zw_ml_4_46 zw_st_3_144 zw_in_1_17 zw_co_3_145 hl.1 ⟨Nat.zero_le _, Nat.zero_le _⟩ (z_lm (Nat.le_of_ble_eq_true rfl)) dX2_closeStorm_12 ?_
  refine zp_House_clog (pc := 15) X hw hk0 zw_fl_1_62 dX2_closeStorm_15 (fun HM1 lM1 wM1 => ?_)
  obtain ⟨M1, eM1, h⟩ := z_lo h
  rw [← eM1] at wM1
  refine lv_aload_n (pc := 18) hx hb dX2_closeStorm_18 rfl (lv_at hl 0 rfl) ?_
  refine lv_dup (pc := 19) hx hb dX2_closeStorm_19 rfl ?_
  refine zg_House_wet (pc := 20) X wM1 hk0 zw_fl_1_79 dX2_closeStorm_20 ?_
  refine lv_aload_n (pc := 23) hx hb dX2_closeStorm_23 rfl (lv_at hl 0 rfl) ?_
  refine zg_House_over (pc := 24) X wM1 hk0 zw_fl_1_80 dX2_closeStorm_24 ?_
  refine lv_iadd (pc := 27) hx hb dX2_closeStorm_27 ?_
  refine zp_House_wet (pc := 28) X wM1 hk0 zw_fl_1_79 dX2_closeStorm_28 (fun HM2 lM2 wM2 => ?_)
  obtain ⟨M2, eM2, h⟩ := z_lo h
  rw [← eM2] at wM2
  refine lv_aload_n (pc := 31) hx hb dX2_closeStorm_31 rfl (lv_at hl 0 rfl) ?_
  refine lv_aload_n (pc := 32) hx hb dX2_closeStorm_32 rfl (lv_at hl 0 rfl) ?_
  refine zg_House_over (pc := 33) X wM2 hk0 zw_fl_1_80 dX2_closeStorm_33 ?_
  refine lv_if_ne (pc := 36) (tgt := 48) hx hb dX2_closeStorm_36 (by decide) (fun c3 => ?_) (fun c3 => ?_)
  · replace h := z_f c3 h
    refine lv_iconst (pc := 48) (v := 0) hx hb dX2_closeStorm_48 (by decide) ?_
    refine zp_House_dry (pc := 49) X wM2 hk0 zw_fl_1_85 dX2_closeStorm_49 (fun HM4 lM4 wM4 => ?_)
    obtain ⟨M4, eM4, h⟩ := z_lo h
    rw [← eM4] at wM4
    obtain rfl := Option.some.inj h
    exact z_rv (pc := 52) X wM4 dX2_closeStorm_52
  · replace h := z_t c3 h
    refine lv_aload_n (pc := 39) hx hb dX2_closeStorm_39 rfl (lv_at hl 0 rfl) ?_
    refine zg_House_dry (pc := 40) X wM2 hk0 zw_fl_1_85 dX2_closeStorm_40 ?_
    refine lv_iconst (pc := 43) (v := 1) hx hb dX2_closeStorm_43 (by decide) ?_
    refine lv_iadd (pc := 44) hx hb dX2_closeStorm_44 ?_
    refine lv_goto (pc := 45) (tgt := 49) hx hb dX2_closeStorm_45 (by decide) ?_
    refine zp_House_dry (pc := 49) X wM2 hk0 zw_fl_1_85 dX2_closeStorm_49 (fun HM5 lM5 wM5 => ?_)
    obtain ⟨M5, eM5, h⟩ := z_lo h
    rw [← eM5] at wM5
    obtain rfl := Option.some.inj h
    exact z_rv (pc := 52) X wM5 dX2_closeStorm_52
def f_X3_clear (k0 : Nat) (M : zM) : Option (zM) :=
  z_l (z_w M k0 0 (0 : Int32)) fun M1 =>
  z_l (z_w M1 k0 1 (0 : Int32)) fun M2 =>
  z_l (z_w M2 (k0 + 6) (Int32.toNatClampNeg (0 : Int32)) (0 : Int32)) fun M3 =>
  some M3
set_option maxHeartbeats 4000000 in
set_option maxRecDepth 100000 in
theorem m_X3_clear {l : Launch} {G : zG} {k0 : Nat} {M : zM} {r : zM} (hk0 : z_kd k0 = 3) (h : f_X3_clear k0 M = some r) : z_T l G 0 yX3_clear (.code yX3_clear cX3_clear 1 none) [.ref (G.1 k0)] M none r := by
  refine z_of rfl ?_
  intro p e s m below meth c X hw
  have hl := lv_entry [.ref (G.1 k0)] (n := 1) (Nat.le_of_ble_eq_true rfl)
  rw [lg_entry_eq]
  generalize (lg_sl [.ref (G.1 k0)] ++ List.replicate (1 - (lg_sl [.ref (G.1 k0)]).length) Slot.unset).toArray = ls at hl ⊢
  have hl : lv_has ls 1 [(0, .ref (G.1 k0))] := hl
  generalize ([.ref (G.1 k0)] : List Value).toArray = args at X ⊢
  have X : z_C G p s m args meth c cX3_clear 1 RX3 none := X
  have hx := X.1
  have hb := X.2.1
  unfold f_X3_clear at h
  refine lv_aload_n (pc := 0) hx hb dX3_clear_0 rfl (lv_at hl 0 rfl) ?_
  refine lv_iconst (pc := 1) (v := 0) hx hb dX3_clear_1 (by decide) ?_
  refine zp_Law_lines (pc := 2) X hw hk0 zw_fl_1_165 dX3_clear_2 (fun HM1 lM1 wM1 => ?_)
  obtain ⟨M1, eM1, h⟩ := z_lo h
  rw [← eM1] at wM1
  refine lv_aload_n (pc := 5) hx hb dX3_clear_5 rfl (lv_at hl 0 rfl) ?_
  refine lv_iconst (pc := 6) (v := 0) hx hb dX3_clear_6 (by decide) ?_
  refine zp_Law_length (pc := 7) X wM1 hk0 zw_fl_1_169 dX3_clear_7 (fun HM2 lM2 wM2 => ?_)
  obtain ⟨M2, eM2, h⟩ := z_lo h
  rw [← eM2] at wM2
  refine lv_aload_n (pc := 10) hx hb dX3_clear_10 rfl (lv_at hl 0 rfl) ?_
  refine zg_Law_sumFrom (pc := 11) X wM2 hk0 zw_fl_1_171 dX3_clear_11 ?_
  refine lv_iconst (pc := 14) (v := 0) hx hb dX3_clear_14 (by decide) ?_
  refine lv_iconst (pc := 15) (v := 0) hx hb dX3_clear_15 (by decide) ?_
  refine z_iast (pc := 16) X wM2 (zk_Law_sumFrom hk0) (zl_Law_sumFrom hk0) (z_il (by decide)) dX3_clear_16 (fun HM3 lM3 wM3 => ?_)
  obtain ⟨M3, eM3, h⟩ := z_lo h
  rw [← eM3] at wM3
  obtain rfl := Option.some.inj h
  exact z_rv (pc := 17) X wM3 dX3_clear_17
def f_X3_copy (k0 : Nat) (k1 : Nat) (M : zM) : Option (zM) :=
  z_l (z_w M k0 0 (M.1 k1 0)) fun M1 =>
  z_l (z_w M1 k0 1 (M1.1 k1 1)) fun M2 =>
  z_l (z_cp M2 (k1 + 3) (Int32.toNatClampNeg (0 : Int32)) (k0 + 3) (Int32.toNatClampNeg (0 : Int32)) (Int32.toNatClampNeg (400 : Int32))) fun M3 =>
  z_l (z_cp M3 (k1 + 6) (Int32.toNatClampNeg (0 : Int32)) (k0 + 6) (Int32.toNatClampNeg (0 : Int32)) (Int32.toNatClampNeg (17 : Int32))) fun M4 =>
  z_l (z_cp M4 (k1 + 9) (Int32.toNatClampNeg (0 : Int32)) (k0 + 9) (Int32.toNatClampNeg (0 : Int32)) (Int32.toNatClampNeg (17 : Int32))) fun M5 =>
  some M5
set_option maxHeartbeats 4000000 in
set_option maxRecDepth 100000 in
theorem m_X3_copy {l : Launch} {G : zG} {k0 : Nat} {k1 : Nat} {M : zM} {r : zM} (hk0 : z_kd k0 = 3) (hk1 : z_kd k1 = 3) (h : f_X3_copy k0 k1 M = some r) : z_T l G 0 yX3_copy (.code yX3_copy cX3_copy 2 none) [.ref (G.1 k0), .ref (G.1 k1)] M none r := by
  refine z_of rfl ?_
  intro p e s m below meth c X hw
  have hl := lv_entry [.ref (G.1 k0), .ref (G.1 k1)] (n := 2) (Nat.le_of_ble_eq_true rfl)
  rw [lg_entry_eq]
  generalize (lg_sl [.ref (G.1 k0), .ref (G.1 k1)] ++ List.replicate (2 - (lg_sl [.ref (G.1 k0), .ref (G.1 k1)]).length) Slot.unset).toArray = ls at hl ⊢
  have hl : lv_has ls 2 [(0, .ref (G.1 k0)), (1, .ref (G.1 k1))] := hl
  generalize ([.ref (G.1 k0), .ref (G.1 k1)] : List Value).toArray = args at X ⊢
  have X : z_C G p s m args meth c cX3_copy 2 RX3 none := X
  have hx := X.1
  have hb := X.2.1
  unfold f_X3_copy at h
  refine lv_aload_n (pc := 0) hx hb dX3_copy_0 rfl (lv_at hl 0 rfl) ?_
  refine lv_aload_n (pc := 1) hx hb dX3_copy_1 rfl (lv_at hl 1 rfl) ?_
  refine zg_Law_lines (pc := 2) X hw hk1 zw_fl_1_165 dX3_copy_2 ?_
  refine zp_Law_lines (pc := 5) X hw hk0 zw_fl_1_165 dX3_copy_5 (fun HM1 lM1 wM1 => ?_)
  obtain ⟨M1, eM1, h⟩ := z_lo h
  rw [← eM1] at wM1
  refine lv_aload_n (pc := 8) hx hb dX3_copy_8 rfl (lv_at hl 0 rfl) ?_
  refine lv_aload_n (pc := 9) hx hb dX3_copy_9 rfl (lv_at hl 1 rfl) ?_
  refine zg_Law_length (pc := 10) X wM1 hk1 zw_fl_1_169 dX3_copy_10 ?_
  refine zp_Law_length (pc := 13) X wM1 hk0 zw_fl_1_169 dX3_copy_13 (fun HM2 lM2 wM2 => ?_)
  obtain ⟨M2, eM2, h⟩ := z_lo h
  rw [← eM2] at wM2
  refine lv_aload_n (pc := 16) hx hb dX3_copy_16 rfl (lv_at hl 1 rfl) ?_
  refine zg_Law_code (pc := 17) X wM2 hk1 zw_fl_1_170 dX3_copy_17 ?_
  refine lv_iconst (pc := 20) (v := 0) hx hb dX3_copy_20 (by decide) ?_
  refine lv_aload_n (pc := 21) hx hb dX3_copy_21 rfl (lv_at hl 0 rfl) ?_
  refine zg_Law_code (pc := 22) X wM2 hk0 zw_fl_1_170 dX3_copy_22 ?_
  refine lv_iconst (pc := 25) (v := 0) hx hb dX3_copy_25 (by decide) ?_
  refine lv_sipush (pc := 26) (v := 400) hx hb dX3_copy_26 (by decide) ?_
  refine z_copy (pc := 29) (rest := []) X wM2 zw_ml_4_11 zw_na_4_13 zw_st_4_12 zw_in_1_19 hl.1 (zk_Law_code hk1) (zl_Law_code hk1) (zk_Law_code hk0) (zl_Law_code hk0) (by decide) ⟨z_l1, z_l2⟩ dX3_copy_29 (fun HM3 lM3 wM3 => ?_)
  obtain ⟨M3, eM3, h⟩ := z_lo h
  rw [← eM3] at wM3
  refine lv_aload_n (pc := 32) hx hb dX3_copy_32 rfl (lv_at hl 1 rfl) ?_
  refine zg_Law_sumFrom (pc := 33) X wM3 hk1 zw_fl_1_171 dX3_copy_33 ?_
  refine lv_iconst (pc := 36) (v := 0) hx hb dX3_copy_36 (by decide) ?_
  refine lv_aload_n (pc := 37) hx hb dX3_copy_37 rfl (lv_at hl 0 rfl) ?_
  refine zg_Law_sumFrom (pc := 38) X wM3 hk0 zw_fl_1_171 dX3_copy_38 ?_
  refine lv_iconst (pc := 41) (v := 0) hx hb dX3_copy_41 (by decide) ?_
  refine lv_bipush (pc := 42) (v := 17) hx hb dX3_copy_42 (by decide) ?_
  refine z_copy (pc := 44) (rest := []) X wM3 zw_ml_4_11 zw_na_4_13 zw_st_4_12 zw_in_1_19 hl.1 (zk_Law_sumFrom hk1) (zl_Law_sumFrom hk1) (zk_Law_sumFrom hk0) (zl_Law_sumFrom hk0) (by decide) ⟨z_l1, z_l2⟩ dX3_copy_44 (fun HM4 lM4 wM4 => ?_)
  obtain ⟨M4, eM4, h⟩ := z_lo h
  rw [← eM4] at wM4
  refine lv_aload_n (pc := 47) hx hb dX3_copy_47 rfl (lv_at hl 1 rfl) ?_
  refine zg_Law_whenFrom (pc := 48) X wM4 hk1 zw_fl_1_172 dX3_copy_48 ?_
  refine lv_iconst (pc := 51) (v := 0) hx hb dX3_copy_51 (by decide) ?_
  refine lv_aload_n (pc := 52) hx hb dX3_copy_52 rfl (lv_at hl 0 rfl) ?_
  refine zg_Law_whenFrom (pc := 53) X wM4 hk0 zw_fl_1_172 dX3_copy_53 ?_
  refine lv_iconst (pc := 56) (v := 0) hx hb dX3_copy_56 (by decide) ?_
  refine lv_bipush (pc := 57) (v := 17) hx hb dX3_copy_57 (by decide) ?_
  refine z_copy (pc := 59) (rest := []) X wM4 zw_ml_4_11 zw_na_4_13 zw_st_4_12 zw_in_1_19 hl.1 (zk_Law_whenFrom hk1) (zl_Law_whenFrom hk1) (zk_Law_whenFrom hk0) (zl_Law_whenFrom hk0) (by decide) ⟨z_l1, z_l2⟩ dX3_copy_59 (fun HM5 lM5 wM5 => ?_)
  obtain ⟨M5, eM5, h⟩ := z_lo h
  rw [← eM5] at wM5
  obtain rfl := Option.some.inj h
  exact z_rv (pc := 62) X wM5 dX3_copy_62
def f_X3_add (k0 : Nat) (i1 : Int32) (M : zM) : Option (zM) :=
  if (400 : Int32) ≤ (M.1 k0 1) then (
    some M
  ) else (
    z_g (z_ix (M.1 k0 1) 400) <|
    z_l (z_w M (k0 + 3) (Int32.toNatClampNeg (M.1 k0 1)) i1) fun M3 =>
    z_l (z_w M3 k0 1 ((M3.1 k0 1) + (1 : Int32))) fun M4 =>
    some M4
  )
set_option maxHeartbeats 4000000 in
set_option maxRecDepth 100000 in
theorem m_X3_add {l : Launch} {G : zG} {k0 : Nat} {i1 : Int32} {M : zM} {r : zM} (hk0 : z_kd k0 = 3) (h : f_X3_add k0 i1 M = some r) : z_T l G 0 yX3_add (.code yX3_add cX3_add 2 none) [.ref (G.1 k0), .int i1] M none r := by
  refine z_of rfl ?_
  intro p e s m below meth c X hw
  have hl := lv_entry [.ref (G.1 k0), .int i1] (n := 2) (Nat.le_of_ble_eq_true rfl)
  rw [lg_entry_eq]
  generalize (lg_sl [.ref (G.1 k0), .int i1] ++ List.replicate (2 - (lg_sl [.ref (G.1 k0), .int i1]).length) Slot.unset).toArray = ls at hl ⊢
  have hl : lv_has ls 2 [(0, .ref (G.1 k0)), (1, .int i1)] := hl
  generalize ([.ref (G.1 k0), .int i1] : List Value).toArray = args at X ⊢
  have X : z_C G p s m args meth c cX3_add 2 RX3 none := X
  have hx := X.1
  have hb := X.2.1
  unfold f_X3_add at h
  refine lv_aload_n (pc := 0) hx hb dX3_add_0 rfl (lv_at hl 0 rfl) ?_
  refine zg_Law_length (pc := 1) X hw hk0 zw_fl_1_169 dX3_add_1 ?_
  refine lv_sipush (pc := 4) (v := 400) hx hb dX3_add_4 (by decide) ?_
  refine lv_icmp_ge (pc := 7) (tgt := 30) hx hb dX3_add_7 (by decide) (fun c1 => ?_) (fun c1 => ?_)
  · replace h := z_t c1 h
    obtain rfl := Option.some.inj h
    exact z_rv (pc := 30) X hw dX3_add_30
  · replace h := z_f c1 h
    refine lv_aload_n (pc := 10) hx hb dX3_add_10 rfl (lv_at hl 0 rfl) ?_
    refine zg_Law_code (pc := 11) X hw hk0 zw_fl_1_170 dX3_add_11 ?_
    refine lv_aload_n (pc := 14) hx hb dX3_add_14 rfl (lv_at hl 0 rfl) ?_
    refine zg_Law_length (pc := 15) X hw hk0 zw_fl_1_169 dX3_add_15 ?_
    refine lv_iload_n (pc := 18) hx hb dX3_add_18 rfl (lv_at hl 1 rfl) ?_
    obtain ⟨g2, h⟩ := z_gd h
    refine z_iast (pc := 19) X hw (zk_Law_code hk0) (zl_Law_code hk0) g2 dX3_add_19 (fun HM3 lM3 wM3 => ?_)
    obtain ⟨M3, eM3, h⟩ := z_lo h
    rw [← eM3] at wM3
    refine lv_aload_n (pc := 20) hx hb dX3_add_20 rfl (lv_at hl 0 rfl) ?_
    refine lv_dup (pc := 21) hx hb dX3_add_21 rfl ?_
    refine zg_Law_length (pc := 22) X wM3 hk0 zw_fl_1_169 dX3_add_22 ?_
    refine lv_iconst (pc := 25) (v := 1) hx hb dX3_add_25 (by decide) ?_
    refine lv_iadd (pc := 26) hx hb dX3_add_26 ?_
    refine zp_Law_length (pc := 27) X wM3 hk0 zw_fl_1_169 dX3_add_27 (fun HM4 lM4 wM4 => ?_)
    obtain ⟨M4, eM4, h⟩ := z_lo h
    rw [← eM4] at wM4
    obtain rfl := Option.some.inj h
    exact z_rv (pc := 30) X wM4 dX3_add_30
def f_X3_closeSum (k0 : Nat) (M : zM) : Option (zM) :=
  if (16 : Int32) ≤ (M.1 k0 0) then (
    some M
  ) else (
    z_g (z_ix (M.1 k0 0) 17) <|
    z_l (z_w M (k0 + 9) (Int32.toNatClampNeg (M.1 k0 0)) (M.1 k0 1)) fun M3 =>
    some M3
  )
set_option maxHeartbeats 4000000 in
set_option maxRecDepth 100000 in
theorem m_X3_closeSum {l : Launch} {G : zG} {k0 : Nat} {M : zM} {r : zM} (hk0 : z_kd k0 = 3) (h : f_X3_closeSum k0 M = some r) : z_T l G 0 yX3_closeSum (.code yX3_closeSum cX3_closeSum 1 none) [.ref (G.1 k0)] M none r := by
  refine z_of rfl ?_
  intro p e s m below meth c X hw
  have hl := lv_entry [.ref (G.1 k0)] (n := 1) (Nat.le_of_ble_eq_true rfl)
  rw [lg_entry_eq]
  generalize (lg_sl [.ref (G.1 k0)] ++ List.replicate (1 - (lg_sl [.ref (G.1 k0)]).length) Slot.unset).toArray = ls at hl ⊢
  have hl : lv_has ls 1 [(0, .ref (G.1 k0))] := hl
  generalize ([.ref (G.1 k0)] : List Value).toArray = args at X ⊢
  have X : z_C G p s m args meth c cX3_closeSum 1 RX3 none := X
  have hx := X.1
  have hb := X.2.1
  unfold f_X3_closeSum at h
  refine lv_aload_n (pc := 0) hx hb dX3_closeSum_0 rfl (lv_at hl 0 rfl) ?_
  refine zg_Law_lines (pc := 1) X hw hk0 zw_fl_1_165 dX3_closeSum_1 ?_
  refine lv_bipush (pc := 4) (v := 16) hx hb dX3_closeSum_4 (by decide) ?_
  refine lv_icmp_ge (pc := 6) (tgt := 22) hx hb dX3_closeSum_6 (by decide) (fun c1 => ?_) (fun c1 => ?_)
  · replace h := z_t c1 h
    obtain rfl := Option.some.inj h
    exact z_rv (pc := 22) X hw dX3_closeSum_22
  · replace h := z_f c1 h
    refine lv_aload_n (pc := 9) hx hb dX3_closeSum_9 rfl (lv_at hl 0 rfl) ?_
    refine zg_Law_whenFrom (pc := 10) X hw hk0 zw_fl_1_172 dX3_closeSum_10 ?_
    refine lv_aload_n (pc := 13) hx hb dX3_closeSum_13 rfl (lv_at hl 0 rfl) ?_
    refine zg_Law_lines (pc := 14) X hw hk0 zw_fl_1_165 dX3_closeSum_14 ?_
    refine lv_aload_n (pc := 17) hx hb dX3_closeSum_17 rfl (lv_at hl 0 rfl) ?_
    refine zg_Law_length (pc := 18) X hw hk0 zw_fl_1_169 dX3_closeSum_18 ?_
    obtain ⟨g2, h⟩ := z_gd h
    refine z_iast (pc := 21) X hw (zk_Law_whenFrom hk0) (zl_Law_whenFrom hk0) g2 dX3_closeSum_21 (fun HM3 lM3 wM3 => ?_)
    obtain ⟨M3, eM3, h⟩ := z_lo h
    rw [← eM3] at wM3
    obtain rfl := Option.some.inj h
    exact z_rv (pc := 22) X wM3 dX3_closeSum_22
def f_X3_closeLine (k0 : Nat) (M : zM) : Option (zM) :=
  if (16 : Int32) ≤ (M.1 k0 0) then (
    some M
  ) else (
    z_l (z_w M k0 0 ((M.1 k0 0) + (1 : Int32))) fun M2 =>
    z_g (z_ix (M2.1 k0 0) 17) <|
    z_l (z_w M2 (k0 + 6) (Int32.toNatClampNeg (M2.1 k0 0)) (M2.1 k0 1)) fun M4 =>
    some M4
  )
set_option maxHeartbeats 4000000 in
set_option maxRecDepth 100000 in
theorem m_X3_closeLine {l : Launch} {G : zG} {k0 : Nat} {M : zM} {r : zM} (hk0 : z_kd k0 = 3) (h : f_X3_closeLine k0 M = some r) : z_T l G 0 yX3_closeLine (.code yX3_closeLine cX3_closeLine 1 none) [.ref (G.1 k0)] M none r := by
  refine z_of rfl ?_
  intro p e s m below meth c X hw
  have hl := lv_entry [.ref (G.1 k0)] (n := 1) (Nat.le_of_ble_eq_true rfl)
  rw [lg_entry_eq]
  generalize (lg_sl [.ref (G.1 k0)] ++ List.replicate (1 - (lg_sl [.ref (G.1 k0)]).length) Slot.unset).toArray = ls at hl ⊢
  have hl : lv_has ls 1 [(0, .ref (G.1 k0))] := hl
  generalize ([.ref (G.1 k0)] : List Value).toArray = args at X ⊢
  have X : z_C G p s m args meth c cX3_closeLine 1 RX3 none := X
  have hx := X.1
  have hb := X.2.1
  unfold f_X3_closeLine at h
  refine lv_aload_n (pc := 0) hx hb dX3_closeLine_0 rfl (lv_at hl 0 rfl) ?_
  refine zg_Law_lines (pc := 1) X hw hk0 zw_fl_1_165 dX3_closeLine_1 ?_
  refine lv_bipush (pc := 4) (v := 16) hx hb dX3_closeLine_4 (by decide) ?_
  refine lv_icmp_ge (pc := 6) (tgt := 32) hx hb dX3_closeLine_6 (by decide) (fun c1 => ?_) (fun c1 => ?_)
  · replace h := z_t c1 h
    obtain rfl := Option.some.inj h
    exact z_rv (pc := 32) X hw dX3_closeLine_32
  · replace h := z_f c1 h
    refine lv_aload_n (pc := 9) hx hb dX3_closeLine_9 rfl (lv_at hl 0 rfl) ?_
    refine lv_dup (pc := 10) hx hb dX3_closeLine_10 rfl ?_
    refine zg_Law_lines (pc := 11) X hw hk0 zw_fl_1_165 dX3_closeLine_11 ?_
    refine lv_iconst (pc := 14) (v := 1) hx hb dX3_closeLine_14 (by decide) ?_
    refine lv_iadd (pc := 15) hx hb dX3_closeLine_15 ?_
    refine zp_Law_lines (pc := 16) X hw hk0 zw_fl_1_165 dX3_closeLine_16 (fun HM2 lM2 wM2 => ?_)
    obtain ⟨M2, eM2, h⟩ := z_lo h
    rw [← eM2] at wM2
    refine lv_aload_n (pc := 19) hx hb dX3_closeLine_19 rfl (lv_at hl 0 rfl) ?_
    refine zg_Law_sumFrom (pc := 20) X wM2 hk0 zw_fl_1_171 dX3_closeLine_20 ?_
    refine lv_aload_n (pc := 23) hx hb dX3_closeLine_23 rfl (lv_at hl 0 rfl) ?_
    refine zg_Law_lines (pc := 24) X wM2 hk0 zw_fl_1_165 dX3_closeLine_24 ?_
    refine lv_aload_n (pc := 27) hx hb dX3_closeLine_27 rfl (lv_at hl 0 rfl) ?_
    refine zg_Law_length (pc := 28) X wM2 hk0 zw_fl_1_169 dX3_closeLine_28 ?_
    obtain ⟨g3, h⟩ := z_gd h
    refine z_iast (pc := 31) X wM2 (zk_Law_sumFrom hk0) (zl_Law_sumFrom hk0) g3 dX3_closeLine_31 (fun HM4 lM4 wM4 => ?_)
    obtain ⟨M4, eM4, h⟩ := z_lo h
    rw [← eM4] at wM4
    obtain rfl := Option.some.inj h
    exact z_rv (pc := 32) X wM4 dX3_closeLine_32
def f_X3_joined (i0 : Int32) (i1 : Int32) (i2 : Int32) (M : zM) : Option (Int32 × zM) :=
  if i0 = (5 : Int32) then (
    some ((i1 ||| i2), M)
  ) else (
  if i0 = (6 : Int32) then (
    some ((i1 &&& i2), M)
  ) else (
  if i0 = (7 : Int32) then (
    some ((0 : Int32), M)
  ) else (
  if i0 = (8 : Int32) then (
    some ((0 : Int32), M)
  ) else (
  if i0 = (9 : Int32) then (
    some ((0 : Int32), M)
  ) else (
  if i0 = (10 : Int32) then (
    some ((0 : Int32), M)
  ) else (
  if i0 = (11 : Int32) then (
    some ((0 : Int32), M)
  ) else (
  if i0 = (12 : Int32) then (
    some ((0 : Int32), M)
  ) else (
  if i0 = (13 : Int32) then (
    some ((0 : Int32), M)
  ) else (
  if i0 = (14 : Int32) then (
    some ((0 : Int32), M)
  ) else (
  if i0 = (15 : Int32) then (
    some ((0 : Int32), M)
  ) else (
  if i0 = (16 : Int32) then (
    some ((0 : Int32), M)
  ) else (
  if i0 = (17 : Int32) then (
    some ((i1 + i2), M)
  ) else (
  if i0 = (18 : Int32) then (
    some ((i1 - i2), M)
  ) else (
  if i0 = (19 : Int32) then (
    some ((i1 * i2), M)
  ) else (
  if i0 = (20 : Int32) then (
    if i2 = 0 then (
      some ((0 : Int32), M)
    ) else (
      z_g (¬ i2 = 0) <|
      some ((i1 / i2), M)
    )
  ) else (
  if i0 = (21 : Int32) then (
    some ((0 : Int32), M)
  ) else (
  if i0 = (22 : Int32) then (
    some ((0 : Int32), M)
  ) else (
  if i0 = (23 : Int32) then (
    if i2 ≤ i1 then (
      some ((0 : Int32), M)
    ) else (
      some ((1 : Int32), M)
    )
  ) else (
  if i0 = (24 : Int32) then (
    if i1 = i2 then (
      some ((1 : Int32), M)
    ) else (
      some ((0 : Int32), M)
    )
  ) else (
  if i0 = (25 : Int32) then (
    if i1 ≤ i2 then (
      some ((0 : Int32), M)
    ) else (
      some ((1 : Int32), M)
    )
  ) else (
    some ((0 : Int32), M)
  )))))))))))))))))))))
set_option maxHeartbeats 4000000 in
set_option maxRecDepth 100000 in
theorem m_X3_joined {l : Launch} {G : zG} {i0 : Int32} {i1 : Int32} {i2 : Int32} {M : zM} {r : Int32 × zM} (h : f_X3_joined i0 i1 i2 M = some r) : z_T l G 0 yX3_joined (.code yX3_joined cX3_joined 3 (some .int)) [.int i0, .int i1, .int i2] M (some (.int r.1)) r.2 := by
  refine z_of rfl ?_
  intro p e s m below meth c X hw
  have hl := lv_entry [.int i0, .int i1, .int i2] (n := 3) (Nat.le_of_ble_eq_true rfl)
  rw [lg_entry_eq]
  generalize (lg_sl [.int i0, .int i1, .int i2] ++ List.replicate (3 - (lg_sl [.int i0, .int i1, .int i2]).length) Slot.unset).toArray = ls at hl ⊢
  have hl : lv_has ls 3 [(0, .int i0), (1, .int i1), (2, .int i2)] := hl
  generalize ([.int i0, .int i1, .int i2] : List Value).toArray = args at X ⊢
  have X : z_C G p s m args meth c cX3_joined 3 RX3 (some .int) := X
  have hx := X.1
  have hb := X.2.1
  unfold f_X3_joined at h
  refine lv_iload_n (pc := 0) hx hb dX3_joined_0 rfl (lv_at hl 0 rfl) ?_
  by_cases c1 : i0 = (5 : Int32)
  · replace h := z_t c1 h
    refine lv_tableIn (pc := 1) (off := 160) (tgt := 161) hx hb dX3_joined_1 (by rw [c1]; decide) (by rw [c1]; decide) (by rw [c1]; rfl) (by decide) ?_
    refine lv_iload_n (pc := 161) hx hb dX3_joined_161 rfl (lv_at hl 1 rfl) ?_
    refine lv_iload_n (pc := 162) hx hb dX3_joined_162 rfl (lv_at hl 2 rfl) ?_
    refine lv_ior (pc := 163) hx hb dX3_joined_163 ?_
    obtain rfl := Option.some.inj h
    exact z_ri (pc := 164) X hw dX3_joined_164
  · replace h := z_f c1 h
    by_cases c2 : i0 = (6 : Int32)
    · replace h := z_t c2 h
      refine lv_tableIn (pc := 1) (off := 156) (tgt := 157) hx hb dX3_joined_1 (by rw [c2]; decide) (by rw [c2]; decide) (by rw [c2]; rfl) (by decide) ?_
      refine lv_iload_n (pc := 157) hx hb dX3_joined_157 rfl (lv_at hl 1 rfl) ?_
      refine lv_iload_n (pc := 158) hx hb dX3_joined_158 rfl (lv_at hl 2 rfl) ?_
      refine lv_iand (pc := 159) hx hb dX3_joined_159 ?_
      obtain rfl := Option.some.inj h
      exact z_ri (pc := 160) X hw dX3_joined_160
    · replace h := z_f c2 h
      by_cases c3 : i0 = (7 : Int32)
      · replace h := z_t c3 h
        refine lv_tableIn (pc := 1) (off := 164) (tgt := 165) hx hb dX3_joined_1 (by rw [c3]; decide) (by rw [c3]; decide) (by rw [c3]; rfl) (by decide) ?_
        refine lv_iconst (pc := 165) (v := 0) hx hb dX3_joined_165 (by decide) ?_
        obtain rfl := Option.some.inj h
        exact z_ri (pc := 166) X hw dX3_joined_166
      · replace h := z_f c3 h
        by_cases c4 : i0 = (8 : Int32)
        · replace h := z_t c4 h
          refine lv_tableIn (pc := 1) (off := 164) (tgt := 165) hx hb dX3_joined_1 (by rw [c4]; decide) (by rw [c4]; decide) (by rw [c4]; rfl) (by decide) ?_
          refine lv_iconst (pc := 165) (v := 0) hx hb dX3_joined_165 (by decide) ?_
          obtain rfl := Option.some.inj h
          exact z_ri (pc := 166) X hw dX3_joined_166
        · replace h := z_f c4 h
          by_cases c5 : i0 = (9 : Int32)
          · replace h := z_t c5 h
            refine lv_tableIn (pc := 1) (off := 164) (tgt := 165) hx hb dX3_joined_1 (by rw [c5]; decide) (by rw [c5]; decide) (by rw [c5]; rfl) (by decide) ?_
            refine lv_iconst (pc := 165) (v := 0) hx hb dX3_joined_165 (by decide) ?_
            obtain rfl := Option.some.inj h
            exact z_ri (pc := 166) X hw dX3_joined_166
          · replace h := z_f c5 h
            by_cases c6 : i0 = (10 : Int32)
            · replace h := z_t c6 h
              refine lv_tableIn (pc := 1) (off := 164) (tgt := 165) hx hb dX3_joined_1 (by rw [c6]; decide) (by rw [c6]; decide) (by rw [c6]; rfl) (by decide) ?_
              refine lv_iconst (pc := 165) (v := 0) hx hb dX3_joined_165 (by decide) ?_
              obtain rfl := Option.some.inj h
              exact z_ri (pc := 166) X hw dX3_joined_166
            · replace h := z_f c6 h
              by_cases c7 : i0 = (11 : Int32)
              · replace h := z_t c7 h
                refine lv_tableIn (pc := 1) (off := 164) (tgt := 165) hx hb dX3_joined_1 (by rw [c7]; decide) (by rw [c7]; decide) (by rw [c7]; rfl) (by decide) ?_
                refine lv_iconst (pc := 165) (v := 0) hx hb dX3_joined_165 (by decide) ?_
                obtain rfl := Option.some.inj h
                exact z_ri (pc := 166) X hw dX3_joined_166
              · replace h := z_f c7 h
                by_cases c8 : i0 = (12 : Int32)
                · replace h := z_t c8 h
                  refine lv_tableIn (pc := 1) (off := 164) (tgt := 165) hx hb dX3_joined_1 (by rw [c8]; decide) (by rw [c8]; decide) (by rw [c8]; rfl) (by decide) ?_
                  refine lv_iconst (pc := 165) (v := 0) hx hb dX3_joined_165 (by decide) ?_
                  obtain rfl := Option.some.inj h
                  exact z_ri (pc := 166) X hw dX3_joined_166
                · replace h := z_f c8 h
                  by_cases c9 : i0 = (13 : Int32)
                  · replace h := z_t c9 h
                    refine lv_tableIn (pc := 1) (off := 164) (tgt := 165) hx hb dX3_joined_1 (by rw [c9]; decide) (by rw [c9]; decide) (by rw [c9]; rfl) (by decide) ?_
                    refine lv_iconst (pc := 165) (v := 0) hx hb dX3_joined_165 (by decide) ?_
                    obtain rfl := Option.some.inj h
                    exact z_ri (pc := 166) X hw dX3_joined_166
                  · replace h := z_f c9 h
                    by_cases c10 : i0 = (14 : Int32)
                    · replace h := z_t c10 h
                      refine lv_tableIn (pc := 1) (off := 164) (tgt := 165) hx hb dX3_joined_1 (by rw [c10]; decide) (by rw [c10]; decide) (by rw [c10]; rfl) (by decide) ?_
                      refine lv_iconst (pc := 165) (v := 0) hx hb dX3_joined_165 (by decide) ?_
                      obtain rfl := Option.some.inj h
                      exact z_ri (pc := 166) X hw dX3_joined_166
                    · replace h := z_f c10 h
                      by_cases c11 : i0 = (15 : Int32)
                      · replace h := z_t c11 h
                        refine lv_tableIn (pc := 1) (off := 164) (tgt := 165) hx hb dX3_joined_1 (by rw [c11]; decide) (by rw [c11]; decide) (by rw [c11]; rfl) (by decide) ?_
                        refine lv_iconst (pc := 165) (v := 0) hx hb dX3_joined_165 (by decide) ?_
                        obtain rfl := Option.some.inj h
                        exact z_ri (pc := 166) X hw dX3_joined_166
                      · replace h := z_f c11 h
                        by_cases c12 : i0 = (16 : Int32)
                        · replace h := z_t c12 h
                          refine lv_tableIn (pc := 1) (off := 164) (tgt := 165) hx hb dX3_joined_1 (by rw [c12]; decide) (by rw [c12]; decide) (by rw [c12]; rfl) (by decide) ?_
                          refine lv_iconst (pc := 165) (v := 0) hx hb dX3_joined_165 (by decide) ?_
                          obtain rfl := Option.some.inj h
                          exact z_ri (pc := 166) X hw dX3_joined_166
                        · replace h := z_f c12 h
                          by_cases c13 : i0 = (17 : Int32)
                          · replace h := z_t c13 h
                            refine lv_tableIn (pc := 1) (off := 99) (tgt := 100) hx hb dX3_joined_1 (by rw [c13]; decide) (by rw [c13]; decide) (by rw [c13]; rfl) (by decide) ?_
                            refine lv_iload_n (pc := 100) hx hb dX3_joined_100 rfl (lv_at hl 1 rfl) ?_
                            refine lv_iload_n (pc := 101) hx hb dX3_joined_101 rfl (lv_at hl 2 rfl) ?_
                            refine lv_iadd (pc := 102) hx hb dX3_joined_102 ?_
                            obtain rfl := Option.some.inj h
                            exact z_ri (pc := 103) X hw dX3_joined_103
                          · replace h := z_f c13 h
                            by_cases c14 : i0 = (18 : Int32)
                            · replace h := z_t c14 h
                              refine lv_tableIn (pc := 1) (off := 103) (tgt := 104) hx hb dX3_joined_1 (by rw [c14]; decide) (by rw [c14]; decide) (by rw [c14]; rfl) (by decide) ?_
                              refine lv_iload_n (pc := 104) hx hb dX3_joined_104 rfl (lv_at hl 1 rfl) ?_
                              refine lv_iload_n (pc := 105) hx hb dX3_joined_105 rfl (lv_at hl 2 rfl) ?_
                              refine lv_isub (pc := 106) hx hb dX3_joined_106 ?_
                              obtain rfl := Option.some.inj h
                              exact z_ri (pc := 107) X hw dX3_joined_107
                            · replace h := z_f c14 h
                              by_cases c15 : i0 = (19 : Int32)
                              · replace h := z_t c15 h
                                refine lv_tableIn (pc := 1) (off := 107) (tgt := 108) hx hb dX3_joined_1 (by rw [c15]; decide) (by rw [c15]; decide) (by rw [c15]; rfl) (by decide) ?_
                                refine lv_iload_n (pc := 108) hx hb dX3_joined_108 rfl (lv_at hl 1 rfl) ?_
                                refine lv_iload_n (pc := 109) hx hb dX3_joined_109 rfl (lv_at hl 2 rfl) ?_
                                refine lv_imul (pc := 110) hx hb dX3_joined_110 ?_
                                obtain rfl := Option.some.inj h
                                exact z_ri (pc := 111) X hw dX3_joined_111
                              · replace h := z_f c15 h
                                by_cases c16 : i0 = (20 : Int32)
                                · replace h := z_t c16 h
                                  refine lv_tableIn (pc := 1) (off := 111) (tgt := 112) hx hb dX3_joined_1 (by rw [c16]; decide) (by rw [c16]; decide) (by rw [c16]; rfl) (by decide) ?_
                                  refine lv_iload_n (pc := 112) hx hb dX3_joined_112 rfl (lv_at hl 2 rfl) ?_
                                  refine lv_if_ne (pc := 113) (tgt := 120) hx hb dX3_joined_113 (by decide) (fun c17 => ?_) (fun c17 => ?_)
                                  · replace h := z_f c17 h
                                    refine lv_iload_n (pc := 120) hx hb dX3_joined_120 rfl (lv_at hl 1 rfl) ?_
                                    refine lv_iload_n (pc := 121) hx hb dX3_joined_121 rfl (lv_at hl 2 rfl) ?_
                                    obtain ⟨g18, h⟩ := z_gd h
                                    refine lv_idiv (pc := 122) hx hb dX3_joined_122 g18 ?_
                                    obtain rfl := Option.some.inj h
                                    exact z_ri (pc := 123) X hw dX3_joined_123
                                  · replace h := z_t c17 h
                                    refine lv_iconst (pc := 116) (v := 0) hx hb dX3_joined_116 (by decide) ?_
                                    refine lv_goto (pc := 117) (tgt := 123) hx hb dX3_joined_117 (by decide) ?_
                                    obtain rfl := Option.some.inj h
                                    exact z_ri (pc := 123) X hw dX3_joined_123
                                · replace h := z_f c16 h
                                  by_cases c19 : i0 = (21 : Int32)
                                  · replace h := z_t c19 h
                                    refine lv_tableIn (pc := 1) (off := 164) (tgt := 165) hx hb dX3_joined_1 (by rw [c19]; decide) (by rw [c19]; decide) (by rw [c19]; rfl) (by decide) ?_
                                    refine lv_iconst (pc := 165) (v := 0) hx hb dX3_joined_165 (by decide) ?_
                                    obtain rfl := Option.some.inj h
                                    exact z_ri (pc := 166) X hw dX3_joined_166
                                  · replace h := z_f c19 h
                                    by_cases c20 : i0 = (22 : Int32)
                                    · replace h := z_t c20 h
                                      refine lv_tableIn (pc := 1) (off := 164) (tgt := 165) hx hb dX3_joined_1 (by rw [c20]; decide) (by rw [c20]; decide) (by rw [c20]; rfl) (by decide) ?_
                                      refine lv_iconst (pc := 165) (v := 0) hx hb dX3_joined_165 (by decide) ?_
                                      obtain rfl := Option.some.inj h
                                      exact z_ri (pc := 166) X hw dX3_joined_166
                                    · replace h := z_f c20 h
                                      by_cases c21 : i0 = (23 : Int32)
                                      · replace h := z_t c21 h
                                        refine lv_tableIn (pc := 1) (off := 123) (tgt := 124) hx hb dX3_joined_1 (by rw [c21]; decide) (by rw [c21]; decide) (by rw [c21]; rfl) (by decide) ?_
                                        refine lv_iload_n (pc := 124) hx hb dX3_joined_124 rfl (lv_at hl 1 rfl) ?_
                                        refine lv_iload_n (pc := 125) hx hb dX3_joined_125 rfl (lv_at hl 2 rfl) ?_
                                        refine lv_icmp_ge (pc := 126) (tgt := 133) hx hb dX3_joined_126 (by decide) (fun c22 => ?_) (fun c22 => ?_)
                                        · replace h := z_t c22 h
                                          refine lv_iconst (pc := 133) (v := 0) hx hb dX3_joined_133 (by decide) ?_
                                          obtain rfl := Option.some.inj h
                                          exact z_ri (pc := 134) X hw dX3_joined_134
                                        · replace h := z_f c22 h
                                          refine lv_iconst (pc := 129) (v := 1) hx hb dX3_joined_129 (by decide) ?_
                                          refine lv_goto (pc := 130) (tgt := 134) hx hb dX3_joined_130 (by decide) ?_
                                          obtain rfl := Option.some.inj h
                                          exact z_ri (pc := 134) X hw dX3_joined_134
                                      · replace h := z_f c21 h
                                        by_cases c23 : i0 = (24 : Int32)
                                        · replace h := z_t c23 h
                                          refine lv_tableIn (pc := 1) (off := 134) (tgt := 135) hx hb dX3_joined_1 (by rw [c23]; decide) (by rw [c23]; decide) (by rw [c23]; rfl) (by decide) ?_
                                          refine lv_iload_n (pc := 135) hx hb dX3_joined_135 rfl (lv_at hl 1 rfl) ?_
                                          refine lv_iload_n (pc := 136) hx hb dX3_joined_136 rfl (lv_at hl 2 rfl) ?_
                                          refine lv_icmp_ne (pc := 137) (tgt := 144) hx hb dX3_joined_137 (by decide) (fun c24 => ?_) (fun c24 => ?_)
                                          · replace h := z_f c24 h
                                            refine lv_iconst (pc := 144) (v := 0) hx hb dX3_joined_144 (by decide) ?_
                                            obtain rfl := Option.some.inj h
                                            exact z_ri (pc := 145) X hw dX3_joined_145
                                          · replace h := z_t c24 h
                                            refine lv_iconst (pc := 140) (v := 1) hx hb dX3_joined_140 (by decide) ?_
                                            refine lv_goto (pc := 141) (tgt := 145) hx hb dX3_joined_141 (by decide) ?_
                                            obtain rfl := Option.some.inj h
                                            exact z_ri (pc := 145) X hw dX3_joined_145
                                        · replace h := z_f c23 h
                                          by_cases c25 : i0 = (25 : Int32)
                                          · replace h := z_t c25 h
                                            refine lv_tableIn (pc := 1) (off := 145) (tgt := 146) hx hb dX3_joined_1 (by rw [c25]; decide) (by rw [c25]; decide) (by rw [c25]; rfl) (by decide) ?_
                                            refine lv_iload_n (pc := 146) hx hb dX3_joined_146 rfl (lv_at hl 1 rfl) ?_
                                            refine lv_iload_n (pc := 147) hx hb dX3_joined_147 rfl (lv_at hl 2 rfl) ?_
                                            refine lv_icmp_le (pc := 148) (tgt := 155) hx hb dX3_joined_148 (by decide) (fun c26 => ?_) (fun c26 => ?_)
                                            · replace h := z_t c26 h
                                              refine lv_iconst (pc := 155) (v := 0) hx hb dX3_joined_155 (by decide) ?_
                                              obtain rfl := Option.some.inj h
                                              exact z_ri (pc := 156) X hw dX3_joined_156
                                            · replace h := z_f c26 h
                                              refine lv_iconst (pc := 151) (v := 1) hx hb dX3_joined_151 (by decide) ?_
                                              refine lv_goto (pc := 152) (tgt := 156) hx hb dX3_joined_152 (by decide) ?_
                                              obtain rfl := Option.some.inj h
                                              exact z_ri (pc := 156) X hw dX3_joined_156
                                          · replace h := z_f c25 h
                                            have qc1 : (i0).toInt ≠ 5 := z_ne c1
                                            have qc2 : (i0).toInt ≠ 6 := z_ne c2
                                            have qc3 : (i0).toInt ≠ 7 := z_ne c3
                                            have qc4 : (i0).toInt ≠ 8 := z_ne c4
                                            have qc5 : (i0).toInt ≠ 9 := z_ne c5
                                            have qc6 : (i0).toInt ≠ 10 := z_ne c6
                                            have qc7 : (i0).toInt ≠ 11 := z_ne c7
                                            have qc8 : (i0).toInt ≠ 12 := z_ne c8
                                            have qc9 : (i0).toInt ≠ 13 := z_ne c9
                                            have qc10 : (i0).toInt ≠ 14 := z_ne c10
                                            have qc11 : (i0).toInt ≠ 15 := z_ne c11
                                            have qc12 : (i0).toInt ≠ 16 := z_ne c12
                                            have qc13 : (i0).toInt ≠ 17 := z_ne c13
                                            have qc14 : (i0).toInt ≠ 18 := z_ne c14
                                            have qc15 : (i0).toInt ≠ 19 := z_ne c15
                                            have qc16 : (i0).toInt ≠ 20 := z_ne c16
                                            have qc19 : (i0).toInt ≠ 21 := z_ne c19
                                            have qc20 : (i0).toInt ≠ 22 := z_ne c20
                                            have qc21 : (i0).toInt ≠ 23 := z_ne c21
                                            have qc23 : (i0).toInt ≠ 24 := z_ne c23
                                            have qc25 : (i0).toInt ≠ 25 := z_ne c25
                                            refine lv_tableOut (pc := 1) (tgt := 165) hx hb dX3_joined_1 (by omega) (by decide) ?_
                                            refine lv_iconst (pc := 165) (v := 0) hx hb dX3_joined_165 (by decide) ?_
                                            obtain rfl := Option.some.inj h
                                            exact z_ri (pc := 166) X hw dX3_joined_166
