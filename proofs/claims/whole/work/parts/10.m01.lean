def f_X3_worth_130 (K6 : Nat → Int32 → Nat → Int32 → Int32 → zM → Option (Int32 × zM)) (k0 : Nat) (i2 : Int32) (k3 : Nat) (i4 : Int32) (i5 : Int32) (i6 : Int32) (M : zM) : Option (Int32 × zM) :=
    if i4 ≤ (1 : Int32) then (
      z_l (i5 + (1 : Int32)) fun v2 =>
      K6 k0 i2 k3 i4 v2 M
    ) else (
      z_l (i4 + (-1 : Int32)) fun v3 =>
      z_g (z_ix (v3 - (1 : Int32)) 40) <|
      z_g (z_ix v3 40) <|
      (f_X3_joined (-i6) (M.1 (k0 + 12) (Int32.toNatClampNeg (v3 - (1 : Int32)))) (M.1 (k0 + 12) (Int32.toNatClampNeg v3)) M).bind fun x6 =>
      z_g (z_ix (v3 - (1 : Int32)) 40) <|
      z_l (z_w x6.2 (k0 + 12) (Int32.toNatClampNeg (v3 - (1 : Int32))) x6.1) fun M8 =>
      z_l (i5 + (1 : Int32)) fun v9 =>
      K6 k0 i2 k3 v3 v9 M8
    )
def f_X3_worth_94 (K6 : Nat → Int32 → Nat → Int32 → Int32 → zM → Option (Int32 × zM)) (k0 : Nat) (i2 : Int32) (k3 : Nat) (i4 : Int32) (i5 : Int32) (i6 : Int32) (M : zM) : Option (Int32 × zM) :=
    if (-i6) = (7 : Int32) then (
      if i4 ≤ 0 then (
        f_X3_worth_130 K6 k0 i2 k3 i4 i5 i6 M
      ) else (
        z_g (z_ix (i4 - (1 : Int32)) 40) <|
        z_g (z_ix (i4 - (1 : Int32)) 40) <|
        z_l (z_w M (k0 + 12) (Int32.toNatClampNeg (i4 - (1 : Int32))) ((1 : Int32) - (M.1 (k0 + 12) (Int32.toNatClampNeg (i4 - (1 : Int32)))))) fun M5 =>
        z_l (i5 + (1 : Int32)) fun v6 =>
        K6 k0 i2 k3 i4 v6 M5
      )
    ) else (
      f_X3_worth_130 K6 k0 i2 k3 i4 i5 i6 M
    )
def f_X3_worth_56 (K6 : Nat → Int32 → Nat → Int32 → Int32 → zM → Option (Int32 × zM)) (k0 : Nat) (i2 : Int32) (k3 : Nat) (i4 : Int32) (i5 : Int32) (i6 : Int32) (M : zM) : Option (Int32 × zM) :=
    (f_X10_within (-i6) (8 : Int32) (15 : Int32) M).bind fun x1 =>
    if x1.1 = 0 then (
      f_X3_worth_94 K6 k0 i2 k3 i4 i5 i6 x1.2
    ) else (
      if (40 : Int32) ≤ i4 then (
        f_X3_worth_94 K6 k0 i2 k3 i4 i5 i6 x1.2
      ) else (
        z_g (z_ix (-i6) (z_ln k3)) <|
        z_g (z_ix i4 40) <|
        z_l (z_w x1.2 (k0 + 12) (Int32.toNatClampNeg i4) (x1.2.1 k3 (Int32.toNatClampNeg (-i6)))) fun M6 =>
        z_l (i4 + (1 : Int32)) fun v7 =>
        z_l (i5 + (1 : Int32)) fun v8 =>
        K6 k0 i2 k3 v7 v8 M6
      )
    )
def f_X3_worth_6 : Nat → Nat → Int32 → Nat → Int32 → Int32 → zM → Option (Int32 × zM)
  | 0, _, _, _, _, _, _ => none
  | n + 1, k0, i2, k3, i4, i5, M =>
    if i2 ≤ i5 then (
      some ((M.1 (k0 + 12) (Int32.toNatClampNeg (0 : Int32))), M)
    ) else (
      if (400 : Int32) ≤ i5 then (
        some ((M.1 (k0 + 12) (Int32.toNatClampNeg (0 : Int32))), M)
      ) else (
        z_g (z_ix i5 400) <|
        z_l (M.1 (k0 + 3) (Int32.toNatClampNeg i5)) fun v4 =>
        if v4 < 0 then (
          f_X3_worth_56 (f_X3_worth_6 n) k0 i2 k3 i4 i5 v4 M
        ) else (
          if (40 : Int32) ≤ i4 then (
            f_X3_worth_56 (f_X3_worth_6 n) k0 i2 k3 i4 i5 v4 M
          ) else (
            z_g (z_ix i4 40) <|
            z_l (z_w M (k0 + 12) (Int32.toNatClampNeg i4) v4) fun M8 =>
            z_l (i4 + (1 : Int32)) fun v9 =>
            z_l (i5 + (1 : Int32)) fun v10 =>
            f_X3_worth_6 n k0 i2 k3 v9 v10 M8
          )
        )
      )
    )
def f_X3_worth (k0 : Nat) (i1 : Int32) (i2 : Int32) (k3 : Nat) (M : zM) : Option (Int32 × zM) :=
  f_X3_worth_6 z_F k0 i2 k3 (0 : Int32) i1 M
set_option maxHeartbeats 4000000 in
set_option maxRecDepth 100000 in
theorem w_X3_worth_130 {G : zG} {p : Program} {l : Launch} {e : Env} {s : State} {m : MethodId} {args : Array Value} {below : List Frame} {meth : Method} {c : Code} (X : z_C G p s m args meth c cX3_worth 7 RX3 (some .int)) {r : Int32 × zM} {K6 : Nat → Int32 → Nat → Int32 → Int32 → zM → Option (Int32 × zM)} (hK6 : ∀ (k0 : Nat) (i2 : Int32) (k3 : Nat) (i4 : Int32) (i5 : Int32) (M : zM) (H : Heap) (locs : List Loc) (ls : Array Slot), z_kd k0 = 3 → z_kd k3 = 13 → z_W G M H locs → lv_has ls 7 [(0, .ref (G.1 k0)), (2, .int i2), (3, .ref (G.1 k3)), (4, .int i4), (5, .int i5)] → K6 k0 i2 k3 i4 i5 M = some r → W p l e (z_rm 1) s m args below meth c H locs 0 0 (z_Q G below args s (some (.int r.1)) r.2) (F0 m 6 ls [])) : ∀ (k0 : Nat) (i2 : Int32) (k3 : Nat) (i4 : Int32) (i5 : Int32) (i6 : Int32) (M : zM) (H : Heap) (locs : List Loc) (ls : Array Slot), z_kd k0 = 3 → z_kd k3 = 13 → z_W G M H locs → lv_has ls 7 [(0, .ref (G.1 k0)), (2, .int i2), (3, .ref (G.1 k3)), (4, .int i4), (5, .int i5), (6, .int i6)] → f_X3_worth_130 K6 k0 i2 k3 i4 i5 i6 M = some r → W p l e (z_rm 1) s m args below meth c H locs 0 0 (z_Q G below args s (some (.int r.1)) r.2) (F0 m 130 ls []) := by
  have hx := X.1
  have hb := X.2.1
  intro k0 i2 k3 i4 i5 i6 M H locs ls hk0 hk3 hw hl h
  unfold f_X3_worth_130 at h
  refine lv_iload (pc := 130) hx hb dX3_worth_130 (lv_at hl 3 rfl) ?_
  refine lv_iconst (pc := 132) (v := 1) hx hb dX3_worth_132 (by decide) ?_
  refine lv_icmp_le (pc := 133) (tgt := 170) hx hb dX3_worth_133 (by decide) (fun c1 => ?_) (fun c1 => ?_)
  · replace h := z_t c1 h
    obtain ⟨v2, ev2, h⟩ := z_lo h
    refine lv_iinc (pc := 170) (v := v2) (lv' := [(5, .int v2), (0, .ref (G.1 k0)), (2, .int i2), (3, .ref (G.1 k3)), (4, .int i4), (6, .int i6)]) hx hb dX3_worth_170 hl (k := 4) rfl (by rw [ev2]; rfl) (by decide) rfl (fun ls hl => ?_)
    refine lv_goto (pc := 173) (tgt := 6) hx hb dX3_worth_173 (by decide) ?_
    exact hK6 k0 i2 k3 i4 v2 M H locs ls hk0 hk3 hw (lv_sub hl [1, 2, 3, 4, 0] rfl) h
  · replace h := z_f c1 h
    obtain ⟨v3, ev3, h⟩ := z_lo h
    refine lv_iinc (pc := 136) (v := v3) (lv' := [(4, .int v3), (0, .ref (G.1 k0)), (2, .int i2), (3, .ref (G.1 k3)), (5, .int i5), (6, .int i6)]) hx hb dX3_worth_136 hl (k := 3) rfl (by rw [ev3]; rfl) (by decide) rfl (fun ls hl => ?_)
    refine lv_aload_n (pc := 139) hx hb dX3_worth_139 rfl (lv_at hl 1 rfl) ?_
    refine zg_Law_stack (pc := 140) X hw hk0 zw_fl_1_173 dX3_worth_140 ?_
    refine lv_iload (pc := 143) hx hb dX3_worth_143 (lv_at hl 0 rfl) ?_
    refine lv_iconst (pc := 145) (v := 1) hx hb dX3_worth_145 (by decide) ?_
    refine lv_isub (pc := 146) hx hb dX3_worth_146 ?_
    refine lv_iload (pc := 147) hx hb dX3_worth_147 (lv_at hl 5 rfl) ?_
    refine lv_ineg (pc := 149) hx hb dX3_worth_149 ?_
    refine lv_aload_n (pc := 150) hx hb dX3_worth_150 rfl (lv_at hl 1 rfl) ?_
    refine zg_Law_stack (pc := 151) X hw hk0 zw_fl_1_173 dX3_worth_151 ?_
    refine lv_iload (pc := 154) hx hb dX3_worth_154 (lv_at hl 0 rfl) ?_
    refine lv_iconst (pc := 156) (v := 1) hx hb dX3_worth_156 (by decide) ?_
    refine lv_isub (pc := 157) hx hb dX3_worth_157 ?_
    obtain ⟨g4, h⟩ := z_gd h
    refine z_iald (pc := 158) X hw (zk_Law_stack hk0) (zl_Law_stack hk0) g4 dX3_worth_158 ?_
    refine lv_aload_n (pc := 159) hx hb dX3_worth_159 rfl (lv_at hl 1 rfl) ?_
    refine zg_Law_stack (pc := 160) X hw hk0 zw_fl_1_173 dX3_worth_160 ?_
    refine lv_iload (pc := 163) hx hb dX3_worth_163 (lv_at hl 0 rfl) ?_
    obtain ⟨g5, h⟩ := z_gd h
    refine z_iald (pc := 165) X hw (zk_Law_stack hk0) (zl_Law_stack hk0) g5 dX3_worth_165 ?_
    obtain ⟨x6, ex6, h⟩ := z_bd h
    refine z_csI (pc := 166) (rest := [.int (v3 - (1 : Int32)), .ref (G.1 (k0 + 12))]) X hw (m_X3_joined  ex6) zw_ml_4_86 zw_st_4_87 zw_in_1_5 zw_co_4_88 zd_X3_joined (by decide) rfl hl.1 rfl (Nat.le_of_ble_eq_true rfl) dX3_worth_166 ⟨Nat.zero_le _, Nat.zero_le _⟩ (fun Hx6 lx6 wx6 => ?_)
    obtain ⟨g7, h⟩ := z_gd h
    refine z_iast (pc := 169) X wx6 (zk_Law_stack hk0) (zl_Law_stack hk0) g7 dX3_worth_169 (fun HM8 lM8 wM8 => ?_)
    obtain ⟨M8, eM8, h⟩ := z_lo h
    rw [← eM8] at wM8
    obtain ⟨v9, ev9, h⟩ := z_lo h
    refine lv_iinc (pc := 170) (v := v9) (lv' := [(5, .int v9), (4, .int v3), (0, .ref (G.1 k0)), (2, .int i2), (3, .ref (G.1 k3)), (6, .int i6)]) hx hb dX3_worth_170 hl (k := 4) rfl (by rw [ev9]; rfl) (by decide) rfl (fun ls hl => ?_)
    refine lv_goto (pc := 173) (tgt := 6) hx hb dX3_worth_173 (by decide) ?_
    exact hK6 k0 i2 k3 v3 v9 M8 HM8 lM8 ls hk0 hk3 wM8 (lv_sub hl [2, 3, 4, 1, 0] rfl) h
set_option maxHeartbeats 4000000 in
set_option maxRecDepth 100000 in
theorem w_X3_worth_94 {G : zG} {p : Program} {l : Launch} {e : Env} {s : State} {m : MethodId} {args : Array Value} {below : List Frame} {meth : Method} {c : Code} (X : z_C G p s m args meth c cX3_worth 7 RX3 (some .int)) {r : Int32 × zM} {K6 : Nat → Int32 → Nat → Int32 → Int32 → zM → Option (Int32 × zM)} (hK6 : ∀ (k0 : Nat) (i2 : Int32) (k3 : Nat) (i4 : Int32) (i5 : Int32) (M : zM) (H : Heap) (locs : List Loc) (ls : Array Slot), z_kd k0 = 3 → z_kd k3 = 13 → z_W G M H locs → lv_has ls 7 [(0, .ref (G.1 k0)), (2, .int i2), (3, .ref (G.1 k3)), (4, .int i4), (5, .int i5)] → K6 k0 i2 k3 i4 i5 M = some r → W p l e (z_rm 1) s m args below meth c H locs 0 0 (z_Q G below args s (some (.int r.1)) r.2) (F0 m 6 ls [])) : ∀ (k0 : Nat) (i2 : Int32) (k3 : Nat) (i4 : Int32) (i5 : Int32) (i6 : Int32) (M : zM) (H : Heap) (locs : List Loc) (ls : Array Slot), z_kd k0 = 3 → z_kd k3 = 13 → z_W G M H locs → lv_has ls 7 [(0, .ref (G.1 k0)), (2, .int i2), (3, .ref (G.1 k3)), (4, .int i4), (5, .int i5), (6, .int i6)] → f_X3_worth_94 K6 k0 i2 k3 i4 i5 i6 M = some r → W p l e (z_rm 1) s m args below meth c H locs 0 0 (z_Q G below args s (some (.int r.1)) r.2) (F0 m 94 ls []) := by
  have hx := X.1
  have hb := X.2.1
  intro k0 i2 k3 i4 i5 i6 M H locs ls hk0 hk3 hw hl h
  unfold f_X3_worth_94 at h
  refine lv_iload (pc := 94) hx hb dX3_worth_94 (lv_at hl 5 rfl) ?_
  refine lv_ineg (pc := 96) hx hb dX3_worth_96 ?_
  refine lv_bipush (pc := 97) (v := 7) hx hb dX3_worth_97 (by decide) ?_
  refine lv_icmp_ne (pc := 99) (tgt := 130) hx hb dX3_worth_99 (by decide) (fun c1 => ?_) (fun c1 => ?_)
  · replace h := z_f c1 h
    exact w_X3_worth_130 X hK6 k0 i2 k3 i4 i5 i6 M H locs ls hk0 hk3 hw (lv_sub hl [0, 1, 2, 3, 4, 5] rfl) h
  · replace h := z_t c1 h
    refine lv_iload (pc := 102) hx hb dX3_worth_102 (lv_at hl 3 rfl) ?_
    refine lv_if_le (pc := 104) (tgt := 130) hx hb dX3_worth_104 (by decide) (fun c2 => ?_) (fun c2 => ?_)
    · replace h := z_t c2 h
      exact w_X3_worth_130 X hK6 k0 i2 k3 i4 i5 i6 M H locs ls hk0 hk3 hw (lv_sub hl [0, 1, 2, 3, 4, 5] rfl) h
    · replace h := z_f c2 h
      refine lv_aload_n (pc := 107) hx hb dX3_worth_107 rfl (lv_at hl 0 rfl) ?_
      refine zg_Law_stack (pc := 108) X hw hk0 zw_fl_1_173 dX3_worth_108 ?_
      refine lv_iload (pc := 111) hx hb dX3_worth_111 (lv_at hl 3 rfl) ?_
      refine lv_iconst (pc := 113) (v := 1) hx hb dX3_worth_113 (by decide) ?_
      refine lv_isub (pc := 114) hx hb dX3_worth_114 ?_
      refine lv_iconst (pc := 115) (v := 1) hx hb dX3_worth_115 (by decide) ?_
      refine lv_aload_n (pc := 116) hx hb dX3_worth_116 rfl (lv_at hl 0 rfl) ?_
      refine zg_Law_stack (pc := 117) X hw hk0 zw_fl_1_173 dX3_worth_117 ?_
      refine lv_iload (pc := 120) hx hb dX3_worth_120 (lv_at hl 3 rfl) ?_
      refine lv_iconst (pc := 122) (v := 1) hx hb dX3_worth_122 (by decide) ?_
      refine lv_isub (pc := 123) hx hb dX3_worth_123 ?_
      obtain ⟨g3, h⟩ := z_gd h
      refine z_iald (pc := 124) X hw (zk_Law_stack hk0) (zl_Law_stack hk0) g3 dX3_worth_124 ?_
      refine lv_isub (pc := 125) hx hb dX3_worth_125 ?_
      obtain ⟨g4, h⟩ := z_gd h
      refine z_iast (pc := 126) X hw (zk_Law_stack hk0) (zl_Law_stack hk0) g4 dX3_worth_126 (fun HM5 lM5 wM5 => ?_)
      obtain ⟨M5, eM5, h⟩ := z_lo h
      rw [← eM5] at wM5
      refine lv_goto (pc := 127) (tgt := 170) hx hb dX3_worth_127 (by decide) ?_
      obtain ⟨v6, ev6, h⟩ := z_lo h
      refine lv_iinc (pc := 170) (v := v6) (lv' := [(5, .int v6), (0, .ref (G.1 k0)), (2, .int i2), (3, .ref (G.1 k3)), (4, .int i4), (6, .int i6)]) hx hb dX3_worth_170 hl (k := 4) rfl (by rw [ev6]; rfl) (by decide) rfl (fun ls hl => ?_)
      refine lv_goto (pc := 173) (tgt := 6) hx hb dX3_worth_173 (by decide) ?_
      exact hK6 k0 i2 k3 i4 v6 M5 HM5 lM5 ls hk0 hk3 wM5 (lv_sub hl [1, 2, 3, 4, 0] rfl) h
set_option maxHeartbeats 4000000 in
set_option maxRecDepth 100000 in
theorem w_X3_worth_56 {G : zG} {p : Program} {l : Launch} {e : Env} {s : State} {m : MethodId} {args : Array Value} {below : List Frame} {meth : Method} {c : Code} (X : z_C G p s m args meth c cX3_worth 7 RX3 (some .int)) {r : Int32 × zM} {K6 : Nat → Int32 → Nat → Int32 → Int32 → zM → Option (Int32 × zM)} (hK6 : ∀ (k0 : Nat) (i2 : Int32) (k3 : Nat) (i4 : Int32) (i5 : Int32) (M : zM) (H : Heap) (locs : List Loc) (ls : Array Slot), z_kd k0 = 3 → z_kd k3 = 13 → z_W G M H locs → lv_has ls 7 [(0, .ref (G.1 k0)), (2, .int i2), (3, .ref (G.1 k3)), (4, .int i4), (5, .int i5)] → K6 k0 i2 k3 i4 i5 M = some r → W p l e (z_rm 1) s m args below meth c H locs 0 0 (z_Q G below args s (some (.int r.1)) r.2) (F0 m 6 ls [])) : ∀ (k0 : Nat) (i2 : Int32) (k3 : Nat) (i4 : Int32) (i5 : Int32) (i6 : Int32) (M : zM) (H : Heap) (locs : List Loc) (ls : Array Slot), z_kd k0 = 3 → z_kd k3 = 13 → z_W G M H locs → lv_has ls 7 [(0, .ref (G.1 k0)), (2, .int i2), (3, .ref (G.1 k3)), (4, .int i4), (5, .int i5), (6, .int i6)] → f_X3_worth_56 K6 k0 i2 k3 i4 i5 i6 M = some r → W p l e (z_rm 1) s m args below meth c H locs 0 0 (z_Q G below args s (some (.int r.1)) r.2) (F0 m 56 ls []) := by
  have hx := X.1
  have hb := X.2.1
  intro k0 i2 k3 i4 i5 i6 M H locs ls hk0 hk3 hw hl h
  unfold f_X3_worth_56 at h
  refine lv_iload (pc := 56) hx hb dX3_worth_56 (lv_at hl 5 rfl) ?_
  refine lv_ineg (pc := 58) hx hb dX3_worth_58 ?_
  refine lv_bipush (pc := 59) (v := 8) hx hb dX3_worth_59 (by decide) ?_
  refine lv_bipush (pc := 61) (v := 15) hx hb dX3_worth_61 (by decide) ?_
  obtain ⟨x1, ex1, h⟩ := z_bd h
  refine z_csnI (pc := 63) (rest := []) X hw (m_X10_within  ex1) zwn_X3_50 zw_st_2_209 zw_in_1_1 zw_co_2_210 zd_X10_within (by decide) rfl hl.1 rfl (Nat.le_of_ble_eq_true rfl) dX3_worth_63 ⟨Nat.zero_le _, Nat.zero_le _⟩ (fun Hx1 lx1 wx1 => ?_)
  refine lv_if_eq (pc := 66) (tgt := 94) hx hb dX3_worth_66 (by decide) (fun c2 => ?_) (fun c2 => ?_)
  · replace h := z_t c2 h
    exact w_X3_worth_94 X hK6 k0 i2 k3 i4 i5 i6 x1.2 Hx1 lx1 ls hk0 hk3 wx1 (lv_sub hl [0, 1, 2, 3, 4, 5] rfl) h
  · replace h := z_f c2 h
    refine lv_iload (pc := 69) hx hb dX3_worth_69 (lv_at hl 3 rfl) ?_
    refine lv_bipush (pc := 71) (v := 40) hx hb dX3_worth_71 (by decide) ?_
    refine lv_icmp_ge (pc := 73) (tgt := 94) hx hb dX3_worth_73 (by decide) (fun c3 => ?_) (fun c3 => ?_)
    · replace h := z_t c3 h
      exact w_X3_worth_94 X hK6 k0 i2 k3 i4 i5 i6 x1.2 Hx1 lx1 ls hk0 hk3 wx1 (lv_sub hl [0, 1, 2, 3, 4, 5] rfl) h
    · replace h := z_f c3 h
      refine lv_aload_n (pc := 76) hx hb dX3_worth_76 rfl (lv_at hl 0 rfl) ?_
      refine zg_Law_stack (pc := 77) X wx1 hk0 zw_fl_1_173 dX3_worth_77 ?_
      refine lv_iload (pc := 80) hx hb dX3_worth_80 (lv_at hl 3 rfl) ?_
      refine lv_aload_n (pc := 82) hx hb dX3_worth_82 rfl (lv_at hl 2 rfl) ?_
      refine lv_iload (pc := 83) hx hb dX3_worth_83 (lv_at hl 5 rfl) ?_
      refine lv_ineg (pc := 85) hx hb dX3_worth_85 ?_
      obtain ⟨g4, h⟩ := z_gd h
      refine z_iald (pc := 86) X wx1 hk3 rfl g4 dX3_worth_86 ?_
      obtain ⟨g5, h⟩ := z_gd h
      refine z_iast (pc := 87) X wx1 (zk_Law_stack hk0) (zl_Law_stack hk0) g5 dX3_worth_87 (fun HM6 lM6 wM6 => ?_)
      obtain ⟨M6, eM6, h⟩ := z_lo h
      rw [← eM6] at wM6
      obtain ⟨v7, ev7, h⟩ := z_lo h
      refine lv_iinc (pc := 88) (v := v7) (lv' := [(4, .int v7), (0, .ref (G.1 k0)), (2, .int i2), (3, .ref (G.1 k3)), (5, .int i5), (6, .int i6)]) hx hb dX3_worth_88 hl (k := 3) rfl (by rw [ev7]; rfl) (by decide) rfl (fun ls hl => ?_)
      refine lv_goto (pc := 91) (tgt := 170) hx hb dX3_worth_91 (by decide) ?_
      obtain ⟨v8, ev8, h⟩ := z_lo h
      refine lv_iinc (pc := 170) (v := v8) (lv' := [(5, .int v8), (4, .int v7), (0, .ref (G.1 k0)), (2, .int i2), (3, .ref (G.1 k3)), (6, .int i6)]) hx hb dX3_worth_170 hl (k := 4) rfl (by rw [ev8]; rfl) (by decide) rfl (fun ls hl => ?_)
      refine lv_goto (pc := 173) (tgt := 6) hx hb dX3_worth_173 (by decide) ?_
      exact hK6 k0 i2 k3 v7 v8 M6 HM6 lM6 ls hk0 hk3 wM6 (lv_sub hl [2, 3, 4, 1, 0] rfl) h
set_option maxHeartbeats 4000000 in
set_option maxRecDepth 100000 in
theorem w_X3_worth_6 {G : zG} {p : Program} {l : Launch} {e : Env} {s : State} {m : MethodId} {args : Array Value} {below : List Frame} {meth : Method} {c : Code} (X : z_C G p s m args meth c cX3_worth 7 RX3 (some .int)) {r : Int32 × zM} : ∀ (n : Nat) (k0 : Nat) (i2 : Int32) (k3 : Nat) (i4 : Int32) (i5 : Int32) (M : zM) (H : Heap) (locs : List Loc) (ls : Array Slot), z_kd k0 = 3 → z_kd k3 = 13 → z_W G M H locs → lv_has ls 7 [(0, .ref (G.1 k0)), (2, .int i2), (3, .ref (G.1 k3)), (4, .int i4), (5, .int i5)] → f_X3_worth_6 n k0 i2 k3 i4 i5 M = some r → W p l e (z_rm 1) s m args below meth c H locs 0 0 (z_Q G below args s (some (.int r.1)) r.2) (F0 m 6 ls []) := by
  have hx := X.1
  have hb := X.2.1
  intro n
  induction n with
  | zero =>
    intro k0 i2 k3 i4 i5 M H locs ls hk0 hk3 hw hl h
    exact z_no h
  | succ n ih =>
    intro k0 i2 k3 i4 i5 M H locs ls hk0 hk3 hw hl h
    rw [f_X3_worth_6] at h
    refine lv_iload (pc := 6) hx hb dX3_worth_6 (lv_at hl 4 rfl) ?_
    refine lv_iload_n (pc := 8) hx hb dX3_worth_8 rfl (lv_at hl 1 rfl) ?_
    refine lv_icmp_ge (pc := 9) (tgt := 176) hx hb dX3_worth_9 (by decide) (fun c1 => ?_) (fun c1 => ?_)
    · replace h := z_t c1 h
      refine lv_aload_n (pc := 176) hx hb dX3_worth_176 rfl (lv_at hl 0 rfl) ?_
      refine zg_Law_stack (pc := 177) X hw hk0 zw_fl_1_173 dX3_worth_177 ?_
      refine lv_iconst (pc := 180) (v := 0) hx hb dX3_worth_180 (by decide) ?_
      refine z_iald (pc := 181) X hw (zk_Law_stack hk0) (zl_Law_stack hk0) (z_il (by decide)) dX3_worth_181 ?_
      obtain rfl := Option.some.inj h
      exact z_ri (pc := 182) X hw dX3_worth_182
    · replace h := z_f c1 h
      refine lv_iload (pc := 12) hx hb dX3_worth_12 (lv_at hl 4 rfl) ?_
      refine lv_sipush (pc := 14) (v := 400) hx hb dX3_worth_14 (by decide) ?_
      refine lv_icmp_ge (pc := 17) (tgt := 176) hx hb dX3_worth_17 (by decide) (fun c2 => ?_) (fun c2 => ?_)
      · replace h := z_t c2 h
        refine lv_aload_n (pc := 176) hx hb dX3_worth_176 rfl (lv_at hl 0 rfl) ?_
        refine zg_Law_stack (pc := 177) X hw hk0 zw_fl_1_173 dX3_worth_177 ?_
        refine lv_iconst (pc := 180) (v := 0) hx hb dX3_worth_180 (by decide) ?_
        refine z_iald (pc := 181) X hw (zk_Law_stack hk0) (zl_Law_stack hk0) (z_il (by decide)) dX3_worth_181 ?_
        obtain rfl := Option.some.inj h
        exact z_ri (pc := 182) X hw dX3_worth_182
      · replace h := z_f c2 h
        refine lv_aload_n (pc := 20) hx hb dX3_worth_20 rfl (lv_at hl 0 rfl) ?_
        refine zg_Law_code (pc := 21) X hw hk0 zw_fl_1_170 dX3_worth_21 ?_
        refine lv_iload (pc := 24) hx hb dX3_worth_24 (lv_at hl 4 rfl) ?_
        obtain ⟨g3, h⟩ := z_gd h
        refine z_iald (pc := 26) X hw (zk_Law_code hk0) (zl_Law_code hk0) g3 dX3_worth_26 ?_
        obtain ⟨v4, ev4, h⟩ := z_lo h
        refine z_topi ev4 ?_
        refine lv_istore (pc := 27) (lv' := [(6, .int v4), (0, .ref (G.1 k0)), (2, .int i2), (3, .ref (G.1 k3)), (4, .int i4), (5, .int i5)]) hx hb dX3_worth_27 hl (by decide) rfl (fun ls hl => ?_)
        refine lv_iload (pc := 29) hx hb dX3_worth_29 (lv_at hl 0 rfl) ?_
        refine lv_if_lt (pc := 31) (tgt := 56) hx hb dX3_worth_31 (by decide) (fun c5 => ?_) (fun c5 => ?_)
        · replace h := z_t c5 h
          exact w_X3_worth_56 X ih k0 i2 k3 i4 i5 v4 M H locs ls hk0 hk3 hw (lv_sub hl [1, 2, 3, 4, 5, 0] rfl) h
        · replace h := z_f c5 h
          refine lv_iload (pc := 34) hx hb dX3_worth_34 (lv_at hl 4 rfl) ?_
          refine lv_bipush (pc := 36) (v := 40) hx hb dX3_worth_36 (by decide) ?_
          refine lv_icmp_ge (pc := 38) (tgt := 56) hx hb dX3_worth_38 (by decide) (fun c6 => ?_) (fun c6 => ?_)
          · replace h := z_t c6 h
            exact w_X3_worth_56 X ih k0 i2 k3 i4 i5 v4 M H locs ls hk0 hk3 hw (lv_sub hl [1, 2, 3, 4, 5, 0] rfl) h
          · replace h := z_f c6 h
            refine lv_aload_n (pc := 41) hx hb dX3_worth_41 rfl (lv_at hl 1 rfl) ?_
            refine zg_Law_stack (pc := 42) X hw hk0 zw_fl_1_173 dX3_worth_42 ?_
            refine lv_iload (pc := 45) hx hb dX3_worth_45 (lv_at hl 4 rfl) ?_
            refine lv_iload (pc := 47) hx hb dX3_worth_47 (lv_at hl 0 rfl) ?_
            obtain ⟨g7, h⟩ := z_gd h
            refine z_iast (pc := 49) X hw (zk_Law_stack hk0) (zl_Law_stack hk0) g7 dX3_worth_49 (fun HM8 lM8 wM8 => ?_)
            obtain ⟨M8, eM8, h⟩ := z_lo h
            rw [← eM8] at wM8
            obtain ⟨v9, ev9, h⟩ := z_lo h
            refine lv_iinc (pc := 50) (v := v9) (lv' := [(4, .int v9), (6, .int v4), (0, .ref (G.1 k0)), (2, .int i2), (3, .ref (G.1 k3)), (5, .int i5)]) hx hb dX3_worth_50 hl (k := 4) rfl (by rw [ev9]; rfl) (by decide) rfl (fun ls hl => ?_)
            refine lv_goto (pc := 53) (tgt := 170) hx hb dX3_worth_53 (by decide) ?_
            obtain ⟨v10, ev10, h⟩ := z_lo h
            refine lv_iinc (pc := 170) (v := v10) (lv' := [(5, .int v10), (4, .int v9), (6, .int v4), (0, .ref (G.1 k0)), (2, .int i2), (3, .ref (G.1 k3))]) hx hb dX3_worth_170 hl (k := 5) rfl (by rw [ev10]; rfl) (by decide) rfl (fun ls hl => ?_)
            refine lv_goto (pc := 173) (tgt := 6) hx hb dX3_worth_173 (by decide) ?_
            exact ih k0 i2 k3 v9 v10 M8 HM8 lM8 ls hk0 hk3 wM8 (lv_sub hl [3, 4, 5, 1, 0] rfl) h
set_option maxHeartbeats 4000000 in
set_option maxRecDepth 100000 in
theorem m_X3_worth {l : Launch} {G : zG} {k0 : Nat} {i1 : Int32} {i2 : Int32} {k3 : Nat} {M : zM} {r : Int32 × zM} (hk0 : z_kd k0 = 3) (hk3 : z_kd k3 = 13) (h : f_X3_worth k0 i1 i2 k3 M = some r) : z_T l G 1 yX3_worth (.code yX3_worth cX3_worth 7 (some .int)) [.ref (G.1 k0), .int i1, .int i2, .ref (G.1 k3)] M (some (.int r.1)) r.2 := by
  refine z_of rfl ?_
  intro p e s m below meth c X hw
  have hl := lv_entry [.ref (G.1 k0), .int i1, .int i2, .ref (G.1 k3)] (n := 7) (Nat.le_of_ble_eq_true rfl)
  rw [lg_entry_eq]
  generalize (lg_sl [.ref (G.1 k0), .int i1, .int i2, .ref (G.1 k3)] ++ List.replicate (7 - (lg_sl [.ref (G.1 k0), .int i1, .int i2, .ref (G.1 k3)]).length) Slot.unset).toArray = ls at hl ⊢
  have hl : lv_has ls 7 [(0, .ref (G.1 k0)), (1, .int i1), (2, .int i2), (3, .ref (G.1 k3))] := hl
  generalize ([.ref (G.1 k0), .int i1, .int i2, .ref (G.1 k3)] : List Value).toArray = args at X ⊢
  have X : z_C G p s m args meth c cX3_worth 7 RX3 (some .int) := X
  have hx := X.1
  have hb := X.2.1
  unfold f_X3_worth at h
  refine lv_iconst (pc := 0) (v := 0) hx hb dX3_worth_0 (by decide) ?_
  refine lv_istore (pc := 1) (lv' := [(4, .int (0 : Int32)), (0, .ref (G.1 k0)), (1, .int i1), (2, .int i2), (3, .ref (G.1 k3))]) hx hb dX3_worth_1 hl (by decide) rfl (fun ls hl => ?_)
  refine lv_iload_n (pc := 3) hx hb dX3_worth_3 rfl (lv_at hl 2 rfl) ?_
  refine lv_istore (pc := 4) (lv' := [(5, .int i1), (4, .int (0 : Int32)), (0, .ref (G.1 k0)), (1, .int i1), (2, .int i2), (3, .ref (G.1 k3))]) hx hb dX3_worth_4 hl (by decide) rfl (fun ls hl => ?_)
  exact w_X3_worth_6 X z_F k0 i2 k3 (0 : Int32) i1 M s.heap [] ls hk0 hk3 hw (lv_sub hl [2, 4, 5, 1, 0] rfl) h
def f_X3_asks_50 (K2 : Nat → Nat → Int32 → zM → Option (Int32 × zM)) (k0 : Nat) (k1 : Nat) (i2 : Int32) (i3 : Int32) (M : zM) : Option (Int32 × zM) :=
    z_g (z_ix i2 17) <|
    (f_X3_worth k0 (M.1 (k0 + 6) (Int32.toNatClampNeg i2)) i3 k1 M).bind fun x2 =>
    some ((if (0 : Int32) < (if x2.1 < (9999 : Int32) then x2.1 else (9999 : Int32)) then (if x2.1 < (9999 : Int32) then x2.1 else (9999 : Int32)) else (0 : Int32)), x2.2)
def f_X3_asks_2 : Nat → Nat → Nat → Int32 → zM → Option (Int32 × zM)
  | 0, _, _, _, _ => none
  | n + 1, k0, k1, i2, M =>
    if (M.1 k0 0) ≤ i2 then (
      some ((0 : Int32), M)
    ) else (
      if (16 : Int32) ≤ i2 then (
        some ((0 : Int32), M)
      ) else (
        z_g (z_ix i2 17) <|
        z_l (M.1 (k0 + 9) (Int32.toNatClampNeg i2)) fun v4 =>
        z_g (z_ix (i2 + (1 : Int32)) 17) <|
        z_l (M.1 (k0 + 6) (Int32.toNatClampNeg (i2 + (1 : Int32)))) fun v6 =>
        if v4 = v6 then (
          f_X3_asks_50 (f_X3_asks_2 n) k0 k1 i2 v4 M
        ) else (
          (f_X3_worth k0 v4 v6 k1 M).bind fun x8 =>
          if x8.1 = 0 then (
            z_l (i2 + (1 : Int32)) fun v10 =>
            f_X3_asks_2 n k0 k1 v10 x8.2
          ) else (
            f_X3_asks_50 (f_X3_asks_2 n) k0 k1 i2 v4 x8.2
          )
        )
      )
    )
def f_X3_asks (k0 : Nat) (k1 : Nat) (M : zM) : Option (Int32 × zM) :=
  f_X3_asks_2 z_F k0 k1 (0 : Int32) M
set_option maxHeartbeats 4000000 in
set_option maxRecDepth 100000 in
theorem w_X3_asks_50 {G : zG} {p : Program} {l : Launch} {e : Env} {s : State} {m : MethodId} {args : Array Value} {below : List Frame} {meth : Method} {c : Code} (X : z_C G p s m args meth c cX3_asks 6 RX3 (some .int)) {r : Int32 × zM} {K2 : Nat → Nat → Int32 → zM → Option (Int32 × zM)} (hK2 : ∀ (k0 : Nat) (k1 : Nat) (i2 : Int32) (M : zM) (H : Heap) (locs : List Loc) (ls : Array Slot), z_kd k0 = 3 → z_kd k1 = 13 → z_W G M H locs → lv_has ls 6 [(0, .ref (G.1 k0)), (1, .ref (G.1 k1)), (2, .int i2)] → K2 k0 k1 i2 M = some r → W p l e (z_rm 2) s m args below meth c H locs 0 0 (z_Q G below args s (some (.int r.1)) r.2) (F0 m 2 ls [])) : ∀ (k0 : Nat) (k1 : Nat) (i2 : Int32) (i3 : Int32) (M : zM) (H : Heap) (locs : List Loc) (ls : Array Slot), z_kd k0 = 3 → z_kd k1 = 13 → z_W G M H locs → lv_has ls 6 [(0, .ref (G.1 k0)), (1, .ref (G.1 k1)), (2, .int i2), (3, .int i3)] → f_X3_asks_50 K2 k0 k1 i2 i3 M = some r → W p l e (z_rm 2) s m args below meth c H locs 0 0 (z_Q G below args s (some (.int r.1)) r.2) (F0 m 50 ls []) := by
  have hx := X.1
  have hb := X.2.1
  intro k0 k1 i2 i3 M H locs ls hk0 hk1 hw hl h
  unfold f_X3_asks_50 at h
  refine lv_aload_n (pc := 50) hx hb dX3_asks_50 rfl (lv_at hl 0 rfl) ?_
  refine lv_aload_n (pc := 51) hx hb dX3_asks_51 rfl (lv_at hl 0 rfl) ?_
  refine zg_Law_sumFrom (pc := 52) X hw hk0 zw_fl_1_171 dX3_asks_52 ?_
  refine lv_iload_n (pc := 55) hx hb dX3_asks_55 rfl (lv_at hl 2 rfl) ?_
  obtain ⟨g1, h⟩ := z_gd h
  refine z_iald (pc := 56) X hw (zk_Law_sumFrom hk0) (zl_Law_sumFrom hk0) g1 dX3_asks_56 ?_
  refine lv_iload_n (pc := 57) hx hb dX3_asks_57 rfl (lv_at hl 3 rfl) ?_
  refine lv_aload_n (pc := 58) hx hb dX3_asks_58 rfl (lv_at hl 1 rfl) ?_
  obtain ⟨x2, ex2, h⟩ := z_bd h
  refine z_cvI (pc := 59) (rest := []) X hw (m_X3_worth hk0 hk1 ex2) (z_lt hk0 (by decide)) (z_E3 hk0) rfl zw_ml_4_81 zw_im_4_83 zw_se_S_24 zw_in_1_5 zw_co_4_84 zd_X3_worth (by decide) rfl hl.1 rfl (Nat.le_of_ble_eq_true rfl) dX3_asks_59 ⟨Nat.zero_le _, Nat.zero_le _⟩ (fun Hx2 lx2 wx2 => ?_)
  refine lv_istore (pc := 62) (lv' := [(5, .int x2.1), (0, .ref (G.1 k0)), (1, .ref (G.1 k1)), (2, .int i2), (3, .int i3)]) hx hb dX3_asks_62 hl (by decide) rfl (fun ls hl => ?_)
  refine lv_iconst (pc := 64) (v := 0) hx hb dX3_asks_64 (by decide) ?_
  refine lv_sipush (pc := 65) (v := 9999) hx hb dX3_asks_65 (by decide) ?_
  refine lv_iload (pc := 68) hx hb dX3_asks_68 (lv_at hl 0 rfl) ?_
  refine z_min (pc := 70) (rest := [.int (0 : Int32)]) X zw_ml_4_89 zw_st_3_144 zw_in_1_17 zw_co_3_145 hl.1 ⟨Nat.zero_le _, Nat.zero_le _⟩ (z_lm (Nat.le_of_ble_eq_true rfl)) dX3_asks_70 ?_
  refine z_max (pc := 73) (rest := []) X zw_ml_4_90 zw_st_3_141 zw_in_1_17 zw_co_3_142 hl.1 ⟨Nat.zero_le _, Nat.zero_le _⟩ (z_lm (Nat.le_of_ble_eq_true rfl)) dX3_asks_73 ?_
  obtain rfl := Option.some.inj h
  exact z_ri (pc := 76) X wx2 dX3_asks_76
set_option maxHeartbeats 4000000 in
set_option maxRecDepth 100000 in
theorem w_X3_asks_2 {G : zG} {p : Program} {l : Launch} {e : Env} {s : State} {m : MethodId} {args : Array Value} {below : List Frame} {meth : Method} {c : Code} (X : z_C G p s m args meth c cX3_asks 6 RX3 (some .int)) {r : Int32 × zM} : ∀ (n : Nat) (k0 : Nat) (k1 : Nat) (i2 : Int32) (M : zM) (H : Heap) (locs : List Loc) (ls : Array Slot), z_kd k0 = 3 → z_kd k1 = 13 → z_W G M H locs → lv_has ls 6 [(0, .ref (G.1 k0)), (1, .ref (G.1 k1)), (2, .int i2)] → f_X3_asks_2 n k0 k1 i2 M = some r → W p l e (z_rm 2) s m args below meth c H locs 0 0 (z_Q G below args s (some (.int r.1)) r.2) (F0 m 2 ls []) := by
  have hx := X.1
  have hb := X.2.1
  intro n
  induction n with
  | zero =>
    intro k0 k1 i2 M H locs ls hk0 hk1 hw hl h
    exact z_no h
  | succ n ih =>
    intro k0 k1 i2 M H locs ls hk0 hk1 hw hl h
    rw [f_X3_asks_2] at h
    refine lv_iload_n (pc := 2) hx hb dX3_asks_2 rfl (lv_at hl 2 rfl) ?_
    refine lv_aload_n (pc := 3) hx hb dX3_asks_3 rfl (lv_at hl 0 rfl) ?_
    refine zg_Law_lines (pc := 4) X hw hk0 zw_fl_1_165 dX3_asks_4 ?_
    refine lv_icmp_ge (pc := 7) (tgt := 83) hx hb dX3_asks_7 (by decide) (fun c1 => ?_) (fun c1 => ?_)
    · replace h := z_t c1 h
      refine lv_iconst (pc := 83) (v := 0) hx hb dX3_asks_83 (by decide) ?_
      obtain rfl := Option.some.inj h
      exact z_ri (pc := 84) X hw dX3_asks_84
    · replace h := z_f c1 h
      refine lv_iload_n (pc := 10) hx hb dX3_asks_10 rfl (lv_at hl 2 rfl) ?_
      refine lv_bipush (pc := 11) (v := 16) hx hb dX3_asks_11 (by decide) ?_
      refine lv_icmp_ge (pc := 13) (tgt := 83) hx hb dX3_asks_13 (by decide) (fun c2 => ?_) (fun c2 => ?_)
      · replace h := z_t c2 h
        refine lv_iconst (pc := 83) (v := 0) hx hb dX3_asks_83 (by decide) ?_
        obtain rfl := Option.some.inj h
        exact z_ri (pc := 84) X hw dX3_asks_84
      · replace h := z_f c2 h
        refine lv_aload_n (pc := 16) hx hb dX3_asks_16 rfl (lv_at hl 0 rfl) ?_
        refine zg_Law_whenFrom (pc := 17) X hw hk0 zw_fl_1_172 dX3_asks_17 ?_
        refine lv_iload_n (pc := 20) hx hb dX3_asks_20 rfl (lv_at hl 2 rfl) ?_
        obtain ⟨g3, h⟩ := z_gd h
        refine z_iald (pc := 21) X hw (zk_Law_whenFrom hk0) (zl_Law_whenFrom hk0) g3 dX3_asks_21 ?_
        obtain ⟨v4, ev4, h⟩ := z_lo h
        refine z_topi ev4 ?_
        refine lv_istore_n (pc := 22) (lv' := [(3, .int v4), (0, .ref (G.1 k0)), (1, .ref (G.1 k1)), (2, .int i2)]) hx hb dX3_asks_22 rfl hl (by decide) rfl (fun ls hl => ?_)
        refine lv_aload_n (pc := 23) hx hb dX3_asks_23 rfl (lv_at hl 1 rfl) ?_
        refine zg_Law_sumFrom (pc := 24) X hw hk0 zw_fl_1_171 dX3_asks_24 ?_
        refine lv_iload_n (pc := 27) hx hb dX3_asks_27 rfl (lv_at hl 3 rfl) ?_
        refine lv_iconst (pc := 28) (v := 1) hx hb dX3_asks_28 (by decide) ?_
        refine lv_iadd (pc := 29) hx hb dX3_asks_29 ?_
        obtain ⟨g5, h⟩ := z_gd h
        refine z_iald (pc := 30) X hw (zk_Law_sumFrom hk0) (zl_Law_sumFrom hk0) g5 dX3_asks_30 ?_
        obtain ⟨v6, ev6, h⟩ := z_lo h
        refine z_topi ev6 ?_
        refine lv_istore (pc := 31) (lv' := [(4, .int v6), (3, .int v4), (0, .ref (G.1 k0)), (1, .ref (G.1 k1)), (2, .int i2)]) hx hb dX3_asks_31 hl (by decide) rfl (fun ls hl => ?_)
        refine lv_iload_n (pc := 33) hx hb dX3_asks_33 rfl (lv_at hl 1 rfl) ?_
        refine lv_iload (pc := 34) hx hb dX3_asks_34 (lv_at hl 0 rfl) ?_
        refine lv_icmp_eq (pc := 36) (tgt := 50) hx hb dX3_asks_36 (by decide) (fun c7 => ?_) (fun c7 => ?_)
        · replace h := z_t c7 h
          exact w_X3_asks_50 X ih k0 k1 i2 v4 M H locs ls hk0 hk1 hw (lv_sub hl [2, 3, 4, 1] rfl) h
        · replace h := z_f c7 h
          refine lv_aload_n (pc := 39) hx hb dX3_asks_39 rfl (lv_at hl 2 rfl) ?_
          refine lv_iload_n (pc := 40) hx hb dX3_asks_40 rfl (lv_at hl 1 rfl) ?_
          refine lv_iload (pc := 41) hx hb dX3_asks_41 (lv_at hl 0 rfl) ?_
          refine lv_aload_n (pc := 43) hx hb dX3_asks_43 rfl (lv_at hl 3 rfl) ?_
          obtain ⟨x8, ex8, h⟩ := z_bd h
          refine z_cvI (pc := 44) (rest := []) X hw (m_X3_worth hk0 hk1 ex8) (z_lt hk0 (by decide)) (z_E3 hk0) rfl zw_ml_4_81 zw_im_4_83 zw_se_S_24 zw_in_1_5 zw_co_4_84 zd_X3_worth (by decide) rfl hl.1 rfl (Nat.le_of_ble_eq_true rfl) dX3_asks_44 ⟨Nat.zero_le _, Nat.zero_le _⟩ (fun Hx8 lx8 wx8 => ?_)
          refine lv_if_eq (pc := 47) (tgt := 77) hx hb dX3_asks_47 (by decide) (fun c9 => ?_) (fun c9 => ?_)
          · replace h := z_t c9 h
            obtain ⟨v10, ev10, h⟩ := z_lo h
            refine lv_iinc (pc := 77) (v := v10) (lv' := [(2, .int v10), (4, .int v6), (3, .int v4), (0, .ref (G.1 k0)), (1, .ref (G.1 k1))]) hx hb dX3_asks_77 hl (k := 4) rfl (by rw [ev10]; rfl) (by decide) rfl (fun ls hl => ?_)
            refine lv_goto (pc := 80) (tgt := 2) hx hb dX3_asks_80 (by decide) ?_
            exact ih k0 k1 v10 x8.2 Hx8 lx8 ls hk0 hk1 wx8 (lv_sub hl [3, 4, 0] rfl) h
          · replace h := z_f c9 h
            exact w_X3_asks_50 X ih k0 k1 i2 v4 x8.2 Hx8 lx8 ls hk0 hk1 wx8 (lv_sub hl [2, 3, 4, 1] rfl) h
set_option maxHeartbeats 4000000 in
set_option maxRecDepth 100000 in
theorem m_X3_asks {l : Launch} {G : zG} {k0 : Nat} {k1 : Nat} {M : zM} {r : Int32 × zM} (hk0 : z_kd k0 = 3) (hk1 : z_kd k1 = 13) (h : f_X3_asks k0 k1 M = some r) : z_T l G 2 yX3_asks (.code yX3_asks cX3_asks 6 (some .int)) [.ref (G.1 k0), .ref (G.1 k1)] M (some (.int r.1)) r.2 := by
  refine z_of rfl ?_
  intro p e s m below meth c X hw
  have hl := lv_entry [.ref (G.1 k0), .ref (G.1 k1)] (n := 6) (Nat.le_of_ble_eq_true rfl)
  rw [lg_entry_eq]
  generalize (lg_sl [.ref (G.1 k0), .ref (G.1 k1)] ++ List.replicate (6 - (lg_sl [.ref (G.1 k0), .ref (G.1 k1)]).length) Slot.unset).toArray = ls at hl ⊢
  have hl : lv_has ls 6 [(0, .ref (G.1 k0)), (1, .ref (G.1 k1))] := hl
  generalize ([.ref (G.1 k0), .ref (G.1 k1)] : List Value).toArray = args at X ⊢
  have X : z_C G p s m args meth c cX3_asks 6 RX3 (some .int) := X
  have hx := X.1
  have hb := X.2.1
  unfold f_X3_asks at h
  refine lv_iconst (pc := 0) (v := 0) hx hb dX3_asks_0 (by decide) ?_
  refine lv_istore_n (pc := 1) (lv' := [(2, .int (0 : Int32)), (0, .ref (G.1 k0)), (1, .ref (G.1 k1))]) hx hb dX3_asks_1 rfl hl (by decide) rfl (fun ls hl => ?_)
  exact w_X3_asks_2 X z_F k0 k1 (0 : Int32) M s.heap [] ls hk0 hk1 hw (lv_sub hl [1, 2, 0] rfl) h
def f_X9_rewind  (M : zM) : Option (zM) :=
  z_l (z_w M 28 2 (0 : Int32)) fun M1 =>
  some M1
set_option maxHeartbeats 4000000 in
set_option maxRecDepth 100000 in
theorem m_X9_rewind {l : Launch} {G : zG} {M : zM} {r : zM} (h : f_X9_rewind  M = some r) : z_T l G 0 yX9_rewind (.code yX9_rewind cX9_rewind 1 none) [.ref (G.1 28)] M none r := by
  refine z_of rfl ?_
  intro p e s m below meth c X hw
  have hl := lv_entry [.ref (G.1 28)] (n := 1) (Nat.le_of_ble_eq_true rfl)
  rw [lg_entry_eq]
  generalize (lg_sl [.ref (G.1 28)] ++ List.replicate (1 - (lg_sl [.ref (G.1 28)]).length) Slot.unset).toArray = ls at hl ⊢
  have hl : lv_has ls 1 [(0, .ref (G.1 28))] := hl
  generalize ([.ref (G.1 28)] : List Value).toArray = args at X ⊢
  have X : z_C G p s m args meth c cX9_rewind 1 RX9 none := X
  have hx := X.1
  have hb := X.2.1
  unfold f_X9_rewind at h
  refine lv_aload_n (pc := 0) hx hb dX9_rewind_0 rfl (lv_at hl 0 rfl) ?_
  refine lv_iconst (pc := 1) (v := 0) hx hb dX9_rewind_1 (by decide) ?_
  refine zp_Tape_at (pc := 2) X hw zw_fl_2_32 dX9_rewind_2 (fun HM1 lM1 wM1 => ?_)
  obtain ⟨M1, eM1, h⟩ := z_lo h
  rw [← eM1] at wM1
  obtain rfl := Option.some.inj h
  exact z_rv (pc := 5) X wM1 dX9_rewind_5
def f_X9_isLetter (i0 : Int32) (M : zM) : Option (Int32 × zM) :=
  (f_X10_within i0 (97 : Int32) (122 : Int32) M).bind fun x1 =>
  if x1.1 = 0 then (
    (f_X10_within i0 (65 : Int32) (90 : Int32) x1.2).bind fun x3 =>
    if x3.1 = 0 then (
      some ((0 : Int32), x3.2)
    ) else (
      some ((1 : Int32), x3.2)
    )
  ) else (
    some ((1 : Int32), x1.2)
  )
set_option maxHeartbeats 4000000 in
set_option maxRecDepth 100000 in
theorem m_X9_isLetter {l : Launch} {G : zG} {i0 : Int32} {M : zM} {r : Int32 × zM} (h : f_X9_isLetter i0 M = some r) : z_T l G 1 yX9_isLetter (.code yX9_isLetter cX9_isLetter 1 (some .boolean)) [.int i0] M (some (.int r.1)) r.2 := by
  refine z_of rfl ?_
  intro p e s m below meth c X hw
  have hl := lv_entry [.int i0] (n := 1) (Nat.le_of_ble_eq_true rfl)
  rw [lg_entry_eq]
  generalize (lg_sl [.int i0] ++ List.replicate (1 - (lg_sl [.int i0]).length) Slot.unset).toArray = ls at hl ⊢
  have hl : lv_has ls 1 [(0, .int i0)] := hl
  generalize ([.int i0] : List Value).toArray = args at X ⊢
  have X : z_C G p s m args meth c cX9_isLetter 1 RX9 (some .boolean) := X
  have hx := X.1
  have hb := X.2.1
  unfold f_X9_isLetter at h
  refine lv_iload_n (pc := 0) hx hb dX9_isLetter_0 rfl (lv_at hl 0 rfl) ?_
  refine lv_bipush (pc := 1) (v := 97) hx hb dX9_isLetter_1 (by decide) ?_
  refine lv_bipush (pc := 3) (v := 122) hx hb dX9_isLetter_3 (by decide) ?_
  obtain ⟨x1, ex1, h⟩ := z_bd h
  refine z_csnI (pc := 5) (rest := []) X hw (m_X10_within  ex1) zwn_X9_64 zw_st_2_209 zw_in_1_1 zw_co_2_210 zd_X10_within (by decide) rfl hl.1 rfl (Nat.le_of_ble_eq_true rfl) dX9_isLetter_5 ⟨Nat.zero_le _, Nat.zero_le _⟩ (fun Hx1 lx1 wx1 => ?_)
  refine lv_if_ne (pc := 8) (tgt := 22) hx hb dX9_isLetter_8 (by decide) (fun c2 => ?_) (fun c2 => ?_)
  · replace h := z_f c2 h
    refine lv_iconst (pc := 22) (v := 1) hx hb dX9_isLetter_22 (by decide) ?_
    refine lv_goto (pc := 23) (tgt := 27) hx hb dX9_isLetter_23 (by decide) ?_
    obtain rfl := Option.some.inj h
    exact z_rz (pc := 27) X wx1 (z_nb (x := 1) (by decide)) dX9_isLetter_27
  · replace h := z_t c2 h
    refine lv_iload_n (pc := 11) hx hb dX9_isLetter_11 rfl (lv_at hl 0 rfl) ?_
    refine lv_bipush (pc := 12) (v := 65) hx hb dX9_isLetter_12 (by decide) ?_
    refine lv_bipush (pc := 14) (v := 90) hx hb dX9_isLetter_14 (by decide) ?_
    obtain ⟨x3, ex3, h⟩ := z_bd h
    refine z_csnI (pc := 16) (rest := []) X wx1 (m_X10_within  ex3) zwn_X9_64 zw_st_2_209 zw_in_1_1 zw_co_2_210 zd_X10_within (by decide) rfl hl.1 rfl (Nat.le_of_ble_eq_true rfl) dX9_isLetter_16 ⟨Nat.zero_le _, Nat.zero_le _⟩ (fun Hx3 lx3 wx3 => ?_)
    refine lv_if_eq (pc := 19) (tgt := 26) hx hb dX9_isLetter_19 (by decide) (fun c4 => ?_) (fun c4 => ?_)
    · replace h := z_t c4 h
      refine lv_iconst (pc := 26) (v := 0) hx hb dX9_isLetter_26 (by decide) ?_
      obtain rfl := Option.some.inj h
      exact z_rz (pc := 27) X wx3 (z_nb (x := 0) (by decide)) dX9_isLetter_27
    · replace h := z_f c4 h
      refine lv_iconst (pc := 22) (v := 1) hx hb dX9_isLetter_22 (by decide) ?_
      refine lv_goto (pc := 23) (tgt := 27) hx hb dX9_isLetter_23 (by decide) ?_
      obtain rfl := Option.some.inj h
      exact z_rz (pc := 27) X wx3 (z_nb (x := 1) (by decide)) dX9_isLetter_27
def f_J0_coder_7d493 (t0 : Nat) (M : zM) : Option (Int32 × zM) :=
  if (1 : Int32) = 0 then (
    some ((1 : Int32), M)
  ) else (
    some ((0 : Int32), M)
  )
set_option maxHeartbeats 4000000 in
set_option maxRecDepth 100000 in
theorem m_J0_coder_7d493 {l : Launch} {G : zG} {t0 : Nat} {M : zM} {r : Int32 × zM} (ht0 : t0 < 15) (h : f_J0_coder_7d493 t0 M = some r) : z_T l G 0 yJ0_coder_7d493 (.code yJ0_coder_7d493 cJ0_coder_7d493 1 (some .byte)) [.ref (z_ka G t0)] M (some (.int r.1)) r.2 := by
  refine z_of rfl ?_
  intro p e s m below meth c X hw
  have hl := lv_entry [.ref (z_ka G t0)] (n := 1) (Nat.le_of_ble_eq_true rfl)
  rw [lg_entry_eq]
  generalize (lg_sl [.ref (z_ka G t0)] ++ List.replicate (1 - (lg_sl [.ref (z_ka G t0)]).length) Slot.unset).toArray = ls at hl ⊢
  have hl : lv_has ls 1 [(0, .ref (z_ka G t0))] := hl
  generalize ([.ref (z_ka G t0)] : List Value).toArray = args at X ⊢
  have X : z_C G p s m args meth c cJ0_coder_7d493 1 RJ0 (some .byte) := X
  have hx := X.1
  have hb := X.2.1
  unfold f_J0_coder_7d493 at h
  refine z_gCS (pc := 0) X hw zw_fl_3_73 dJ0_coder_7d493_0 ?_
  refine lv_if_eq (pc := 3) (tgt := 13) hx hb dJ0_coder_7d493_3 (by decide) (fun c1 => ?_) (fun c1 => ?_)
  · replace h := z_t c1 h
    refine lv_iconst (pc := 13) (v := 1) hx hb dJ0_coder_7d493_13 (by decide) ?_
    obtain rfl := Option.some.inj h
    exact z_rz (pc := 14) X hw (z_ny (x := 1) (by decide)) dJ0_coder_7d493_14
  · replace h := z_f c1 h
    refine lv_aload_n (pc := 6) hx hb dJ0_coder_7d493_6 rfl (lv_at hl 0 rfl) ?_
    refine z_gS_coder (pc := 7) X hw ht0 zw_fl_6_215 dJ0_coder_7d493_7 ?_
    refine lv_goto (pc := 10) (tgt := 14) hx hb dJ0_coder_7d493_10 (by decide) ?_
    obtain rfl := Option.some.inj h
    exact z_rz (pc := 14) X hw (z_ny (x := 0) (by decide)) dJ0_coder_7d493_14
def f_J0_length_8abf5 (t0 : Nat) (M : zM) : Option (Int32 × zM) :=
  (f_J0_coder_7d493 t0 M).bind fun x1 =>
  some (((Int32.ofNat (z_len.getD t0 0)) >>> (x1.1 &&& 31)), x1.2)
set_option maxHeartbeats 4000000 in
set_option maxRecDepth 100000 in
theorem m_J0_length_8abf5 {l : Launch} {G : zG} {t0 : Nat} {M : zM} {r : Int32 × zM} (ht0 : t0 < 15) (h : f_J0_length_8abf5 t0 M = some r) : z_T l G 1 yJ0_length_8abf5 (.code yJ0_length_8abf5 cJ0_length_8abf5 1 (some .int)) [.ref (z_ka G t0)] M (some (.int r.1)) r.2 := by
  refine z_of rfl ?_
  intro p e s m below meth c X hw
  have hl := lv_entry [.ref (z_ka G t0)] (n := 1) (Nat.le_of_ble_eq_true rfl)
  rw [lg_entry_eq]
  generalize (lg_sl [.ref (z_ka G t0)] ++ List.replicate (1 - (lg_sl [.ref (z_ka G t0)]).length) Slot.unset).toArray = ls at hl ⊢
  have hl : lv_has ls 1 [(0, .ref (z_ka G t0))] := hl
  generalize ([.ref (z_ka G t0)] : List Value).toArray = args at X ⊢
  have X : z_C G p s m args meth c cJ0_length_8abf5 1 RJ0 (some .int) := X
  have hx := X.1
  have hb := X.2.1
  unfold f_J0_length_8abf5 at h
  refine lv_aload_n (pc := 0) hx hb dJ0_length_8abf5_0 rfl (lv_at hl 0 rfl) ?_
  refine z_gS_value (pc := 1) X hw ht0 zw_fl_6_214 dJ0_length_8abf5_1 ?_
  refine z_lenS (pc := 4) X hw ht0 dJ0_length_8abf5_4 ?_
  refine lv_aload_n (pc := 5) hx hb dJ0_length_8abf5_5 rfl (lv_at hl 0 rfl) ?_
  obtain ⟨x1, ex1, h⟩ := z_bd h
  refine z_cvSI (pc := 6) (rest := [.int (Int32.ofNat (z_len.getD t0 0))]) X hw (m_J0_coder_7d493 ht0 ex1) ht0 zw_ml_3_69 zw_im_3_70 zw_se_3_71 zw_in_1_13 zw_co_3_72 zd_J0_coder_7d493 (by decide) rfl hl.1 rfl (Nat.le_of_ble_eq_true rfl) dJ0_length_8abf5_6 ⟨Nat.zero_le _, Nat.zero_le _⟩ (fun Hx1 lx1 wx1 => ?_)
  refine lv_ishr (pc := 9) hx hb dJ0_length_8abf5_9 ?_
  obtain rfl := Option.some.inj h
  exact z_ri (pc := 10) X wx1 dJ0_length_8abf5_10
def f_J0_isLatin1_aae02 (t0 : Nat) (M : zM) : Option (Int32 × zM) :=
  if (1 : Int32) = 0 then (
    some ((0 : Int32), M)
  ) else (
    if (0 : Int32) = 0 then (
      some ((1 : Int32), M)
    ) else (
      some ((0 : Int32), M)
    )
  )
set_option maxHeartbeats 4000000 in
set_option maxRecDepth 100000 in
theorem m_J0_isLatin1_aae02 {l : Launch} {G : zG} {t0 : Nat} {M : zM} {r : Int32 × zM} (ht0 : t0 < 15) (h : f_J0_isLatin1_aae02 t0 M = some r) : z_T l G 0 yJ0_isLatin1_aae02 (.code yJ0_isLatin1_aae02 cJ0_isLatin1_aae02 1 (some .boolean)) [.ref (z_ka G t0)] M (some (.int r.1)) r.2 := by
  refine z_of rfl ?_
  intro p e s m below meth c X hw
  have hl := lv_entry [.ref (z_ka G t0)] (n := 1) (Nat.le_of_ble_eq_true rfl)
  rw [lg_entry_eq]
  generalize (lg_sl [.ref (z_ka G t0)] ++ List.replicate (1 - (lg_sl [.ref (z_ka G t0)]).length) Slot.unset).toArray = ls at hl ⊢
  have hl : lv_has ls 1 [(0, .ref (z_ka G t0))] := hl
  generalize ([.ref (z_ka G t0)] : List Value).toArray = args at X ⊢
  have X : z_C G p s m args meth c cJ0_isLatin1_aae02 1 RJ0 (some .boolean) := X
  have hx := X.1
  have hb := X.2.1
  unfold f_J0_isLatin1_aae02 at h
  refine z_gCS (pc := 0) X hw zw_fl_3_73 dJ0_isLatin1_aae02_0 ?_
  refine lv_if_eq (pc := 3) (tgt := 17) hx hb dJ0_isLatin1_aae02_3 (by decide) (fun c1 => ?_) (fun c1 => ?_)
  · replace h := z_t c1 h
    refine lv_iconst (pc := 17) (v := 0) hx hb dJ0_isLatin1_aae02_17 (by decide) ?_
    obtain rfl := Option.some.inj h
    exact z_rz (pc := 18) X hw (z_nb (x := 0) (by decide)) dJ0_isLatin1_aae02_18
  · replace h := z_f c1 h
    refine lv_aload_n (pc := 6) hx hb dJ0_isLatin1_aae02_6 rfl (lv_at hl 0 rfl) ?_
    refine z_gS_coder (pc := 7) X hw ht0 zw_fl_6_215 dJ0_isLatin1_aae02_7 ?_
    refine lv_if_ne (pc := 10) (tgt := 17) hx hb dJ0_isLatin1_aae02_10 (by decide) (fun c2 => ?_) (fun c2 => ?_)
    · replace h := z_f c2 h
      refine lv_iconst (pc := 17) (v := 0) hx hb dJ0_isLatin1_aae02_17 (by decide) ?_
      obtain rfl := Option.some.inj h
      exact z_rz (pc := 18) X hw (z_nb (x := 0) (by decide)) dJ0_isLatin1_aae02_18
    · replace h := z_t c2 h
      refine lv_iconst (pc := 13) (v := 1) hx hb dJ0_isLatin1_aae02_13 (by decide) ?_
      refine lv_goto (pc := 14) (tgt := 18) hx hb dJ0_isLatin1_aae02_14 (by decide) ?_
      obtain rfl := Option.some.inj h
      exact z_rz (pc := 18) X hw (z_nb (x := 1) (by decide)) dJ0_isLatin1_aae02_18
def f_J1_charAt_3b067 (t0 : Nat) (i1 : Int32) (M : zM) : Option (Int32 × zM) :=
  (f_J0_checkIndex_df160 i1 (Int32.ofNat (z_len.getD t0 0)) M).bind fun x1 =>
  z_g (z_ix i1 (z_len.getD t0 0)) <|
  z_g (vp_nar .char (UInt32.toInt32 (Int32.toUInt32 (((z_byt.getD t0 []).getD (Int32.toNatClampNeg i1) 0) &&& (255 : Int32)) % 65536)) = (UInt32.toInt32 (Int32.toUInt32 (((z_byt.getD t0 []).getD (Int32.toNatClampNeg i1) 0) &&& (255 : Int32)) % 65536))) <|
  some ((UInt32.toInt32 (Int32.toUInt32 (((z_byt.getD t0 []).getD (Int32.toNatClampNeg i1) 0) &&& (255 : Int32)) % 65536)), x1)
set_option maxHeartbeats 4000000 in
set_option maxRecDepth 100000 in
theorem m_J1_charAt_3b067 {l : Launch} {G : zG} {t0 : Nat} {i1 : Int32} {M : zM} {r : Int32 × zM} (ht0 : t0 < 15) (h : f_J1_charAt_3b067 t0 i1 M = some r) : z_T l G 2 yJ1_charAt_3b067 (.code yJ1_charAt_3b067 cJ1_charAt_3b067 2 (some .char)) [.ref (z_va G t0), .int i1] M (some (.int r.1)) r.2 := by
  refine z_of rfl ?_
  intro p e s m below meth c X hw
  have hl := lv_entry [.ref (z_va G t0), .int i1] (n := 2) (Nat.le_of_ble_eq_true rfl)
  rw [lg_entry_eq]
  generalize (lg_sl [.ref (z_va G t0), .int i1] ++ List.replicate (2 - (lg_sl [.ref (z_va G t0), .int i1]).length) Slot.unset).toArray = ls at hl ⊢
  have hl : lv_has ls 2 [(0, .ref (z_va G t0)), (1, .int i1)] := hl
  generalize ([.ref (z_va G t0), .int i1] : List Value).toArray = args at X ⊢
  have X : z_C G p s m args meth c cJ1_charAt_3b067 2 RJ1 (some .char) := X
  have hx := X.1
  have hb := X.2.1
  unfold f_J1_charAt_3b067 at h
  refine lv_iload_n (pc := 0) hx hb dJ1_charAt_3b067_0 rfl (lv_at hl 1 rfl) ?_
  refine lv_aload_n (pc := 1) hx hb dJ1_charAt_3b067_1 rfl (lv_at hl 0 rfl) ?_
  refine z_lenS (pc := 2) X hw ht0 dJ1_charAt_3b067_2 ?_
  obtain ⟨x1, ex1, h⟩ := z_bd h
  refine z_csV (pc := 3) (rest := []) X hw (m_J0_checkIndex_df160  ex1) zw_ml_3_90 zw_st_3_91 zw_in_1_13 zw_co_3_92 zd_J0_checkIndex_df160 (by decide) rfl hl.1 rfl (Nat.le_of_ble_eq_true rfl) dJ1_charAt_3b067_3 ⟨Nat.zero_le _, Nat.zero_le _⟩ (fun Hx1 lx1 wx1 => ?_)
  refine lv_aload_n (pc := 6) hx hb dJ1_charAt_3b067_6 rfl (lv_at hl 0 rfl) ?_
  refine lv_iload_n (pc := 7) hx hb dJ1_charAt_3b067_7 rfl (lv_at hl 1 rfl) ?_
  obtain ⟨g2, h⟩ := z_gd h
  refine z_baldS (pc := 8) X wx1 ht0 g2 dJ1_charAt_3b067_8 ?_
  refine lv_sipush (pc := 9) (v := 255) hx hb dJ1_charAt_3b067_9 (by decide) ?_
  refine lv_iand (pc := 12) hx hb dJ1_charAt_3b067_12 ?_
  refine lv_i2c (pc := 13) hx hb dJ1_charAt_3b067_13 rfl ?_
  obtain ⟨g3, h⟩ := z_gd h
  obtain rfl := Option.some.inj h
  exact z_rz (pc := 14) X wx1 (z_nc g3) dJ1_charAt_3b067_14
def f_J0_charAt_5068e (t0 : Nat) (i1 : Int32) (M : zM) : Option (Int32 × zM) :=
  (f_J0_isLatin1_aae02 t0 M).bind fun x1 =>
  if x1.1 = 0 then (
    none
  ) else (
    (f_J1_charAt_3b067 t0 i1 x1.2).bind fun x3 =>
    z_g (vp_nar .char x3.1 = x3.1) <|
    some (x3.1, x3.2)
  )
set_option maxHeartbeats 4000000 in
set_option maxRecDepth 100000 in
theorem m_J0_charAt_5068e {l : Launch} {G : zG} {t0 : Nat} {i1 : Int32} {M : zM} {r : Int32 × zM} (ht0 : t0 < 15) (h : f_J0_charAt_5068e t0 i1 M = some r) : z_T l G 3 yJ0_charAt_5068e (.code yJ0_charAt_5068e cJ0_charAt_5068e 2 (some .char)) [.ref (z_ka G t0), .int i1] M (some (.int r.1)) r.2 := by
  refine z_of rfl ?_
  intro p e s m below meth c X hw
  have hl := lv_entry [.ref (z_ka G t0), .int i1] (n := 2) (Nat.le_of_ble_eq_true rfl)
  rw [lg_entry_eq]
  generalize (lg_sl [.ref (z_ka G t0), .int i1] ++ List.replicate (2 - (lg_sl [.ref (z_ka G t0), .int i1]).length) Slot.unset).toArray = ls at hl ⊢
  have hl : lv_has ls 2 [(0, .ref (z_ka G t0)), (1, .int i1)] := hl
  generalize ([.ref (z_ka G t0), .int i1] : List Value).toArray = args at X ⊢
  have X : z_C G p s m args meth c cJ0_charAt_5068e 2 RJ0 (some .char) := X
  have hx := X.1
  have hb := X.2.1
  unfold f_J0_charAt_5068e at h
  refine lv_aload_n (pc := 0) hx hb dJ0_charAt_5068e_0 rfl (lv_at hl 0 rfl) ?_
  obtain ⟨x1, ex1, h⟩ := z_bd h
  refine z_cvSI (pc := 1) (rest := []) X hw (m_J0_isLatin1_aae02 ht0 ex1) ht0 zw_ml_3_83 zw_im_3_84 zw_se_3_85 zw_in_1_13 zw_co_3_86 zd_J0_isLatin1_aae02 (by decide) rfl hl.1 rfl (Nat.le_of_ble_eq_true rfl) dJ0_charAt_5068e_1 ⟨Nat.zero_le _, Nat.zero_le _⟩ (fun Hx1 lx1 wx1 => ?_)
  refine lv_if_eq (pc := 4) (tgt := 16) hx hb dJ0_charAt_5068e_4 (by decide) (fun c2 => ?_) (fun c2 => ?_)
  · replace h := z_t c2 h
    refine lv_aload_n (pc := 16) hx hb dJ0_charAt_5068e_16 rfl (lv_at hl 0 rfl) ?_
    refine z_gS_value (pc := 17) X wx1 ht0 zw_fl_6_214 dJ0_charAt_5068e_17 ?_
    refine lv_iload_n (pc := 20) hx hb dJ0_charAt_5068e_20 rfl (lv_at hl 1 rfl) ?_
    exact z_no h
  · replace h := z_f c2 h
    refine lv_aload_n (pc := 7) hx hb dJ0_charAt_5068e_7 rfl (lv_at hl 0 rfl) ?_
    refine z_gS_value (pc := 8) X wx1 ht0 zw_fl_6_214 dJ0_charAt_5068e_8 ?_
    refine lv_iload_n (pc := 11) hx hb dJ0_charAt_5068e_11 rfl (lv_at hl 1 rfl) ?_
    obtain ⟨x3, ex3, h⟩ := z_bd h
    refine z_csI (pc := 12) (rest := []) X wx1 (m_J1_charAt_3b067 ht0 ex3) zw_ml_3_87 zw_st_3_88 zw_in_1_14 zw_co_3_89 zd_J1_charAt_3b067 (by decide) rfl hl.1 rfl (Nat.le_of_ble_eq_true rfl) dJ0_charAt_5068e_12 ⟨Nat.zero_le _, Nat.zero_le _⟩ (fun Hx3 lx3 wx3 => ?_)
    obtain ⟨g4, h⟩ := z_gd h
    obtain rfl := Option.some.inj h
    exact z_rz (pc := 15) X wx3 (z_nc g4) dJ0_charAt_5068e_15
def f_X9_isWord_19 : Nat → Int32 → Int32 → Int32 → zM → Option (Int32 × zM)
  | 0, _, _, _, _ => none
  | n + 1, i1, i2, i3, M =>
    if (5 : Int32) ≤ i3 then (
      some ((1 : Int32), M)
    ) else (
      if i2 ≤ i3 then (
        (f_J0_charAt_5068e 0 (i1 + i3) M).bind fun x3 =>
        if x3.1 = (32 : Int32) then (
          z_l (i3 + (1 : Int32)) fun v5 =>
          f_X9_isWord_19 n i1 i2 v5 x3.2
        ) else (
          some ((0 : Int32), x3.2)
        )
      ) else (
        z_g (z_ix ((M.1 28 5) + i3) 400) <|
        z_l (M.1 29 (Int32.toNatClampNeg ((M.1 28 5) + i3))) fun v7 =>
        (f_J0_charAt_5068e 0 (i1 + i3) M).bind fun x8 =>
        if x8.1 = v7 then (
          z_l (i3 + (1 : Int32)) fun v10 =>
          f_X9_isWord_19 n i1 i2 v10 x8.2
        ) else (
          some ((0 : Int32), x8.2)
        )
      )
    )
def f_X9_isWord (i1 : Int32) (M : zM) : Option (Int32 × zM) :=
  z_l ((M.1 28 2) - (M.1 28 5)) fun v1 =>
  if v1 ≤ (5 : Int32) then (
    f_X9_isWord_19 z_F i1 v1 (0 : Int32) M
  ) else (
    some ((0 : Int32), M)
  )
set_option maxHeartbeats 4000000 in
set_option maxRecDepth 100000 in
theorem w_X9_isWord_19 {G : zG} {p : Program} {l : Launch} {e : Env} {s : State} {m : MethodId} {args : Array Value} {below : List Frame} {meth : Method} {c : Code} (X : z_C G p s m args meth c cX9_isWord 5 RX9 (some .boolean)) {r : Int32 × zM} : ∀ (n : Nat) (i1 : Int32) (i2 : Int32) (i3 : Int32) (M : zM) (H : Heap) (locs : List Loc) (ls : Array Slot), z_W G M H locs → lv_has ls 5 [(0, .ref (G.1 28)), (1, .int i1), (2, .int i2), (3, .int i3)] → f_X9_isWord_19 n i1 i2 i3 M = some r → W p l e (z_rm 4) s m args below meth c H locs 0 0 (z_Q G below args s (some (.int r.1)) r.2) (F0 m 19 ls []) := by
  have hx := X.1
  have hb := X.2.1
  intro n
  induction n with
  | zero =>
    intro i1 i2 i3 M H locs ls  hw hl h
    exact z_no h
  | succ n ih =>
    intro i1 i2 i3 M H locs ls  hw hl h
    rw [f_X9_isWord_19] at h
    refine lv_iload_n (pc := 19) hx hb dX9_isWord_19 rfl (lv_at hl 3 rfl) ?_
    refine lv_iconst (pc := 20) (v := 5) hx hb dX9_isWord_20 (by decide) ?_
    refine lv_icmp_ge (pc := 21) (tgt := 68) hx hb dX9_isWord_21 (by decide) (fun c1 => ?_) (fun c1 => ?_)
    · replace h := z_t c1 h
      refine lv_iconst (pc := 68) (v := 1) hx hb dX9_isWord_68 (by decide) ?_
      obtain rfl := Option.some.inj h
      exact z_rz (pc := 69) X hw (z_nb (x := 1) (by decide)) dX9_isWord_69
    · replace h := z_f c1 h
      refine lv_iload_n (pc := 24) hx hb dX9_isWord_24 rfl (lv_at hl 3 rfl) ?_
      refine lv_iload_n (pc := 25) hx hb dX9_isWord_25 rfl (lv_at hl 2 rfl) ?_
      refine lv_icmp_ge (pc := 26) (tgt := 43) hx hb dX9_isWord_26 (by decide) (fun c2 => ?_) (fun c2 => ?_)
      · replace h := z_t c2 h
        refine lv_bipush (pc := 43) (v := 32) hx hb dX9_isWord_43 (by decide) ?_
        refine lv_istore (pc := 45) (lv' := [(4, .int (32 : Int32)), (0, .ref (G.1 28)), (1, .int i1), (2, .int i2), (3, .int i3)]) hx hb dX9_isWord_45 hl (by decide) rfl (fun ls hl => ?_)
        refine z_ldcS (pc := 47) X 0 (by decide) ⟨rfl, rfl⟩ dX9_isWord_47 ?_
        refine lv_iload_n (pc := 49) hx hb dX9_isWord_49 rfl (lv_at hl 2 rfl) ?_
        refine lv_iload_n (pc := 50) hx hb dX9_isWord_50 rfl (lv_at hl 4 rfl) ?_
        refine lv_iadd (pc := 51) hx hb dX9_isWord_51 ?_
        obtain ⟨x3, ex3, h⟩ := z_bd h
        refine z_cvSI (pc := 52) (rest := []) X hw (m_J0_charAt_5068e (by decide) ex3) (by decide) zw_ml_3_79 zw_im_3_80 zw_se_3_81 zw_in_1_13 zw_co_3_82 zd_J0_charAt_5068e (by decide) rfl hl.1 rfl (Nat.le_of_ble_eq_true rfl) dX9_isWord_52 ⟨Nat.zero_le _, Nat.zero_le _⟩ (fun Hx3 lx3 wx3 => ?_)
        refine lv_iload (pc := 55) hx hb dX9_isWord_55 (lv_at hl 0 rfl) ?_
        refine lv_icmp_eq (pc := 57) (tgt := 62) hx hb dX9_isWord_57 (by decide) (fun c4 => ?_) (fun c4 => ?_)
        · replace h := z_t c4 h
          obtain ⟨v5, ev5, h⟩ := z_lo h
          refine lv_iinc (pc := 62) (v := v5) (lv' := [(3, .int v5), (4, .int (32 : Int32)), (0, .ref (G.1 28)), (1, .int i1), (2, .int i2)]) hx hb dX9_isWord_62 hl (k := 4) rfl (by rw [ev5]; rfl) (by decide) rfl (fun ls hl => ?_)
          refine lv_goto (pc := 65) (tgt := 19) hx hb dX9_isWord_65 (by decide) ?_
          exact ih i1 i2 v5 x3.2 Hx3 lx3 ls  wx3 (lv_sub hl [2, 3, 4, 0] rfl) h
        · replace h := z_f c4 h
          refine lv_iconst (pc := 60) (v := 0) hx hb dX9_isWord_60 (by decide) ?_
          obtain rfl := Option.some.inj h
          exact z_rz (pc := 61) X wx3 (z_nb (x := 0) (by decide)) dX9_isWord_61
      · replace h := z_f c2 h
        refine lv_aload_n (pc := 29) hx hb dX9_isWord_29 rfl (lv_at hl 0 rfl) ?_
        refine zg_Tape_bytes (pc := 30) X hw zw_fl_2_31 dX9_isWord_30 ?_
        refine lv_aload_n (pc := 33) hx hb dX9_isWord_33 rfl (lv_at hl 0 rfl) ?_
        refine zg_Tape_place (pc := 34) X hw zw_fl_2_38 dX9_isWord_34 ?_
        refine lv_iload_n (pc := 37) hx hb dX9_isWord_37 rfl (lv_at hl 3 rfl) ?_
        refine lv_iadd (pc := 38) hx hb dX9_isWord_38 ?_
        obtain ⟨g6, h⟩ := z_gd h
        refine z_bald (pc := 39) X hw zk_29 zl_29 g6 dX9_isWord_39 ?_
        refine lv_goto (pc := 40) (tgt := 45) hx hb dX9_isWord_40 (by decide) ?_
        obtain ⟨v7, ev7, h⟩ := z_lo h
        refine z_topi ev7 ?_
        refine lv_istore (pc := 45) (lv' := [(4, .int v7), (0, .ref (G.1 28)), (1, .int i1), (2, .int i2), (3, .int i3)]) hx hb dX9_isWord_45 hl (by decide) rfl (fun ls hl => ?_)
        refine z_ldcS (pc := 47) X 0 (by decide) ⟨rfl, rfl⟩ dX9_isWord_47 ?_
        refine lv_iload_n (pc := 49) hx hb dX9_isWord_49 rfl (lv_at hl 2 rfl) ?_
        refine lv_iload_n (pc := 50) hx hb dX9_isWord_50 rfl (lv_at hl 4 rfl) ?_
        refine lv_iadd (pc := 51) hx hb dX9_isWord_51 ?_
        obtain ⟨x8, ex8, h⟩ := z_bd h
        refine z_cvSI (pc := 52) (rest := []) X hw (m_J0_charAt_5068e (by decide) ex8) (by decide) zw_ml_3_79 zw_im_3_80 zw_se_3_81 zw_in_1_13 zw_co_3_82 zd_J0_charAt_5068e (by decide) rfl hl.1 rfl (Nat.le_of_ble_eq_true rfl) dX9_isWord_52 ⟨Nat.zero_le _, Nat.zero_le _⟩ (fun Hx8 lx8 wx8 => ?_)
        refine lv_iload (pc := 55) hx hb dX9_isWord_55 (lv_at hl 0 rfl) ?_
        refine lv_icmp_eq (pc := 57) (tgt := 62) hx hb dX9_isWord_57 (by decide) (fun c9 => ?_) (fun c9 => ?_)
        · replace h := z_t c9 h
          obtain ⟨v10, ev10, h⟩ := z_lo h
          refine lv_iinc (pc := 62) (v := v10) (lv' := [(3, .int v10), (4, .int v7), (0, .ref (G.1 28)), (1, .int i1), (2, .int i2)]) hx hb dX9_isWord_62 hl (k := 4) rfl (by rw [ev10]; rfl) (by decide) rfl (fun ls hl => ?_)
          refine lv_goto (pc := 65) (tgt := 19) hx hb dX9_isWord_65 (by decide) ?_
          exact ih i1 i2 v10 x8.2 Hx8 lx8 ls  wx8 (lv_sub hl [2, 3, 4, 0] rfl) h
        · replace h := z_f c9 h
          refine lv_iconst (pc := 60) (v := 0) hx hb dX9_isWord_60 (by decide) ?_
          obtain rfl := Option.some.inj h
          exact z_rz (pc := 61) X wx8 (z_nb (x := 0) (by decide)) dX9_isWord_61
set_option maxHeartbeats 4000000 in
set_option maxRecDepth 100000 in
theorem m_X9_isWord {l : Launch} {G : zG} {i1 : Int32} {M : zM} {r : Int32 × zM} (h : f_X9_isWord i1 M = some r) : z_T l G 4 yX9_isWord (.code yX9_isWord cX9_isWord 5 (some .boolean)) [.ref (G.1 28), .int i1] M (some (.int r.1)) r.2 := by
  refine z_of rfl ?_
  intro p e s m below meth c X hw
  have hl := lv_entry [.ref (G.1 28), .int i1] (n := 5) (Nat.le_of_ble_eq_true rfl)
  rw [lg_entry_eq]
  generalize (lg_sl [.ref (G.1 28), .int i1] ++ List.replicate (5 - (lg_sl [.ref (G.1 28), .int i1]).length) Slot.unset).toArray = ls at hl ⊢
  have hl : lv_has ls 5 [(0, .ref (G.1 28)), (1, .int i1)] := hl
  generalize ([.ref (G.1 28), .int i1] : List Value).toArray = args at X ⊢
  have X : z_C G p s m args meth c cX9_isWord 5 RX9 (some .boolean) := X
  have hx := X.1
  have hb := X.2.1
  unfold f_X9_isWord at h
  refine lv_aload_n (pc := 0) hx hb dX9_isWord_0 rfl (lv_at hl 0 rfl) ?_
  refine zg_Tape_at (pc := 1) X hw zw_fl_2_32 dX9_isWord_1 ?_
  refine lv_aload_n (pc := 4) hx hb dX9_isWord_4 rfl (lv_at hl 0 rfl) ?_
  refine zg_Tape_place (pc := 5) X hw zw_fl_2_38 dX9_isWord_5 ?_
  refine lv_isub (pc := 8) hx hb dX9_isWord_8 ?_
  obtain ⟨v1, ev1, h⟩ := z_lo h
  refine z_topi ev1 ?_
  refine lv_istore_n (pc := 9) (lv' := [(2, .int v1), (0, .ref (G.1 28)), (1, .int i1)]) hx hb dX9_isWord_9 rfl hl (by decide) rfl (fun ls hl => ?_)
  refine lv_iload_n (pc := 10) hx hb dX9_isWord_10 rfl (lv_at hl 0 rfl) ?_
  refine lv_iconst (pc := 11) (v := 5) hx hb dX9_isWord_11 (by decide) ?_
  refine lv_icmp_le (pc := 12) (tgt := 17) hx hb dX9_isWord_12 (by decide) (fun c2 => ?_) (fun c2 => ?_)
  · replace h := z_t c2 h
    refine lv_iconst (pc := 17) (v := 0) hx hb dX9_isWord_17 (by decide) ?_
    refine lv_istore_n (pc := 18) (lv' := [(3, .int (0 : Int32)), (2, .int v1), (0, .ref (G.1 28)), (1, .int i1)]) hx hb dX9_isWord_18 rfl hl (by decide) rfl (fun ls hl => ?_)
    exact w_X9_isWord_19 X z_F i1 v1 (0 : Int32) M s.heap [] ls  hw (lv_sub hl [2, 3, 1, 0] rfl) h
  · replace h := z_f c2 h
    refine lv_iconst (pc := 15) (v := 0) hx hb dX9_isWord_15 (by decide) ?_
    obtain rfl := Option.some.inj h
    exact z_rz (pc := 16) X hw (z_nb (x := 0) (by decide)) dX9_isWord_16
def f_X9_scanWord_46 : Nat → Int32 → zM → Option (zM)
  | 0, _, _ => none
  | n + 1, i1, M =>
    (f_J0_length_8abf5 0 M).bind fun x1 =>
    if x1.1 ≤ i1 then (
      some x1.2
    ) else (
      (f_X9_isWord i1 x1.2).bind fun x3 =>
      if x3.1 = 0 then (
        z_l (i1 + (5 : Int32)) fun v5 =>
        f_X9_scanWord_46 n v5 x3.2
      ) else (
        z_l (z_w x3.2 28 3 ((3 : Int32) + (i1 / (5 : Int32)))) fun M6 =>
        z_l (i1 + (5 : Int32)) fun v7 =>
        f_X9_scanWord_46 n v7 M6
      )
    )
def f_X9_scanWord_0 : Nat → zM → Option (zM)
  | 0, _ => none
  | n + 1, M =>
    if (M.1 28 0) ≤ (M.1 28 2) then (
      z_l (z_w M 28 3 (1 : Int32)) fun M2 =>
      f_X9_scanWord_46 z_F (0 : Int32) M2
    ) else (
      z_g (z_ix (M.1 28 2) 400) <|
      (f_X9_isLetter (M.1 29 (Int32.toNatClampNeg (M.1 28 2))) M).bind fun x4 =>
      if x4.1 = 0 then (
        z_l (z_w x4.2 28 3 (1 : Int32)) fun M6 =>
        f_X9_scanWord_46 z_F (0 : Int32) M6
      ) else (
        z_l (z_w x4.2 28 2 ((x4.2.1 28 2) + (1 : Int32))) fun M7 =>
        f_X9_scanWord_0 n  M7
      )
    )
def f_X9_scanWord  (M : zM) : Option (zM) :=
  if (M.1 28 0) ≤ (M.1 28 2) then (
    z_l (z_w M 28 3 (1 : Int32)) fun M2 =>
    f_X9_scanWord_46 z_F (0 : Int32) M2
  ) else (
    z_g (z_ix (M.1 28 2) 400) <|
    (f_X9_isLetter (M.1 29 (Int32.toNatClampNeg (M.1 28 2))) M).bind fun x4 =>
    if x4.1 = 0 then (
      z_l (z_w x4.2 28 3 (1 : Int32)) fun M6 =>
      f_X9_scanWord_46 z_F (0 : Int32) M6
    ) else (
      z_l (z_w x4.2 28 2 ((x4.2.1 28 2) + (1 : Int32))) fun M7 =>
      f_X9_scanWord_0 z_F  M7
    )
  )
set_option maxHeartbeats 4000000 in
set_option maxRecDepth 100000 in
theorem w_X9_scanWord_46 {G : zG} {p : Program} {l : Launch} {e : Env} {s : State} {m : MethodId} {args : Array Value} {below : List Frame} {meth : Method} {c : Code} (X : z_C G p s m args meth c cX9_scanWord 2 RX9 none) {r : zM} : ∀ (n : Nat) (i1 : Int32) (M : zM) (H : Heap) (locs : List Loc) (ls : Array Slot), z_W G M H locs → lv_has ls 2 [(0, .ref (G.1 28)), (1, .int i1)] → f_X9_scanWord_46 n i1 M = some r → W p l e (z_rm 5) s m args below meth c H locs 0 0 (z_Q G below args s none r) (F0 m 46 ls []) := by
  have hx := X.1
  have hb := X.2.1
  intro n
  induction n with
  | zero =>
    intro i1 M H locs ls  hw hl h
    exact z_no h
  | succ n ih =>
    intro i1 M H locs ls  hw hl h
    rw [f_X9_scanWord_46] at h
    refine lv_iload_n (pc := 46) hx hb dX9_scanWord_46 rfl (lv_at hl 1 rfl) ?_
    refine z_ldcS (pc := 47) X 0 (by decide) ⟨rfl, rfl⟩ dX9_scanWord_47 ?_
    obtain ⟨x1, ex1, h⟩ := z_bd h
    refine z_cvSI (pc := 49) (rest := [.int i1]) X hw (m_J0_length_8abf5 (by decide) ex1) (by decide) zw_ml_3_65 zw_im_3_66 zw_se_3_67 zw_in_1_13 zw_co_3_68 zd_J0_length_8abf5 (by decide) rfl hl.1 rfl (Nat.le_of_ble_eq_true rfl) dX9_scanWord_49 ⟨Nat.zero_le _, Nat.zero_le _⟩ (fun Hx1 lx1 wx1 => ?_)
    refine lv_icmp_ge (pc := 52) (tgt := 78) hx hb dX9_scanWord_52 (by decide) (fun c2 => ?_) (fun c2 => ?_)
    · replace h := z_t c2 h
      obtain rfl := Option.some.inj h
      exact z_rv (pc := 78) X wx1 dX9_scanWord_78
    · replace h := z_f c2 h
      refine lv_aload_n (pc := 55) hx hb dX9_scanWord_55 rfl (lv_at hl 0 rfl) ?_
      refine lv_iload_n (pc := 56) hx hb dX9_scanWord_56 rfl (lv_at hl 1 rfl) ?_
      obtain ⟨x3, ex3, h⟩ := z_bd h
      refine z_cvI (pc := 57) (rest := []) X wx1 (m_X9_isWord  ex3) (z_lt zk_28 (by decide)) (z_E9 zk_28) rfl zw_ml_3_75 zw_im_3_77 zw_se_S_5 zw_in_1_7 zw_co_3_78 zd_X9_isWord (by decide) rfl hl.1 rfl (Nat.le_of_ble_eq_true rfl) dX9_scanWord_57 ⟨Nat.zero_le _, Nat.zero_le _⟩ (fun Hx3 lx3 wx3 => ?_)
      refine lv_if_eq (pc := 60) (tgt := 72) hx hb dX9_scanWord_60 (by decide) (fun c4 => ?_) (fun c4 => ?_)
      · replace h := z_t c4 h
        obtain ⟨v5, ev5, h⟩ := z_lo h
        refine lv_iinc (pc := 72) (v := v5) (lv' := [(1, .int v5), (0, .ref (G.1 28))]) hx hb dX9_scanWord_72 hl (k := 1) rfl (by rw [ev5]; rfl) (by decide) rfl (fun ls hl => ?_)
        refine lv_goto (pc := 75) (tgt := 46) hx hb dX9_scanWord_75 (by decide) ?_
        exact ih v5 x3.2 Hx3 lx3 ls  wx3 (lv_sub hl [1, 0] rfl) h
      · replace h := z_f c4 h
        refine lv_aload_n (pc := 63) hx hb dX9_scanWord_63 rfl (lv_at hl 0 rfl) ?_
        refine lv_iconst (pc := 64) (v := 3) hx hb dX9_scanWord_64 (by decide) ?_
        refine lv_iload_n (pc := 65) hx hb dX9_scanWord_65 rfl (lv_at hl 1 rfl) ?_
        refine lv_iconst (pc := 66) (v := 5) hx hb dX9_scanWord_66 (by decide) ?_
        refine lv_idiv (pc := 67) hx hb dX9_scanWord_67 (by decide) ?_
        refine lv_iadd (pc := 68) hx hb dX9_scanWord_68 ?_
        refine zp_Tape_kind (pc := 69) X wx3 zw_fl_2_34 dX9_scanWord_69 (fun HM6 lM6 wM6 => ?_)
        obtain ⟨M6, eM6, h⟩ := z_lo h
        rw [← eM6] at wM6
        obtain ⟨v7, ev7, h⟩ := z_lo h
        refine lv_iinc (pc := 72) (v := v7) (lv' := [(1, .int v7), (0, .ref (G.1 28))]) hx hb dX9_scanWord_72 hl (k := 1) rfl (by rw [ev7]; rfl) (by decide) rfl (fun ls hl => ?_)
        refine lv_goto (pc := 75) (tgt := 46) hx hb dX9_scanWord_75 (by decide) ?_
        exact ih v7 M6 HM6 lM6 ls  wM6 (lv_sub hl [1, 0] rfl) h
set_option maxHeartbeats 4000000 in
set_option maxRecDepth 100000 in
theorem w_X9_scanWord_0 {G : zG} {p : Program} {l : Launch} {e : Env} {s : State} {m : MethodId} {args : Array Value} {below : List Frame} {meth : Method} {c : Code} (X : z_C G p s m args meth c cX9_scanWord 2 RX9 none) {r : zM} : ∀ (n : Nat)  (M : zM) (H : Heap) (locs : List Loc) (ls : Array Slot), z_W G M H locs → lv_has ls 2 [(0, .ref (G.1 28))] → f_X9_scanWord_0 n  M = some r → W p l e (z_rm 5) s m args below meth c H locs 0 0 (z_Q G below args s none r) (F0 m 0 ls []) := by
  have hx := X.1
  have hb := X.2.1
  intro n
  induction n with
  | zero =>
    intro  M H locs ls  hw hl h
    exact z_no h
  | succ n ih =>
    intro  M H locs ls  hw hl h
    rw [f_X9_scanWord_0] at h
    refine lv_aload_n (pc := 0) hx hb dX9_scanWord_0 rfl (lv_at hl 0 rfl) ?_
    refine zg_Tape_at (pc := 1) X hw zw_fl_2_32 dX9_scanWord_1 ?_
    refine lv_aload_n (pc := 4) hx hb dX9_scanWord_4 rfl (lv_at hl 0 rfl) ?_
    refine zg_Tape_length (pc := 5) X hw zw_fl_2_29 dX9_scanWord_5 ?_
    refine lv_icmp_ge (pc := 8) (tgt := 39) hx hb dX9_scanWord_8 (by decide) (fun c1 => ?_) (fun c1 => ?_)
    · replace h := z_t c1 h
      refine lv_aload_n (pc := 39) hx hb dX9_scanWord_39 rfl (lv_at hl 0 rfl) ?_
      refine lv_iconst (pc := 40) (v := 1) hx hb dX9_scanWord_40 (by decide) ?_
      refine zp_Tape_kind (pc := 41) X hw zw_fl_2_34 dX9_scanWord_41 (fun HM2 lM2 wM2 => ?_)
      obtain ⟨M2, eM2, h⟩ := z_lo h
      rw [← eM2] at wM2
      refine lv_iconst (pc := 44) (v := 0) hx hb dX9_scanWord_44 (by decide) ?_
      refine lv_istore_n (pc := 45) (lv' := [(1, .int (0 : Int32)), (0, .ref (G.1 28))]) hx hb dX9_scanWord_45 rfl hl (by decide) rfl (fun ls hl => ?_)
      exact w_X9_scanWord_46 X z_F (0 : Int32) M2 HM2 lM2 ls  wM2 (lv_sub hl [1, 0] rfl) h
    · replace h := z_f c1 h
      refine lv_aload_n (pc := 11) hx hb dX9_scanWord_11 rfl (lv_at hl 0 rfl) ?_
      refine zg_Tape_bytes (pc := 12) X hw zw_fl_2_31 dX9_scanWord_12 ?_
      refine lv_aload_n (pc := 15) hx hb dX9_scanWord_15 rfl (lv_at hl 0 rfl) ?_
      refine zg_Tape_at (pc := 16) X hw zw_fl_2_32 dX9_scanWord_16 ?_
      obtain ⟨g3, h⟩ := z_gd h
      refine z_bald (pc := 19) X hw zk_29 zl_29 g3 dX9_scanWord_19 ?_
      obtain ⟨x4, ex4, h⟩ := z_bd h
      refine z_csI (pc := 20) (rest := []) X hw (m_X9_isLetter  ex4) zw_ml_3_56 zw_st_3_57 zw_in_1_7 zw_co_3_58 zd_X9_isLetter (by decide) rfl hl.1 rfl (Nat.le_of_ble_eq_true rfl) dX9_scanWord_20 ⟨Nat.zero_le _, Nat.zero_le _⟩ (fun Hx4 lx4 wx4 => ?_)
      refine lv_if_eq (pc := 23) (tgt := 39) hx hb dX9_scanWord_23 (by decide) (fun c5 => ?_) (fun c5 => ?_)
      · replace h := z_t c5 h
        refine lv_aload_n (pc := 39) hx hb dX9_scanWord_39 rfl (lv_at hl 0 rfl) ?_
        refine lv_iconst (pc := 40) (v := 1) hx hb dX9_scanWord_40 (by decide) ?_
        refine zp_Tape_kind (pc := 41) X wx4 zw_fl_2_34 dX9_scanWord_41 (fun HM6 lM6 wM6 => ?_)
        obtain ⟨M6, eM6, h⟩ := z_lo h
        rw [← eM6] at wM6
        refine lv_iconst (pc := 44) (v := 0) hx hb dX9_scanWord_44 (by decide) ?_
        refine lv_istore_n (pc := 45) (lv' := [(1, .int (0 : Int32)), (0, .ref (G.1 28))]) hx hb dX9_scanWord_45 rfl hl (by decide) rfl (fun ls hl => ?_)
        exact w_X9_scanWord_46 X z_F (0 : Int32) M6 HM6 lM6 ls  wM6 (lv_sub hl [1, 0] rfl) h
      · replace h := z_f c5 h
        refine lv_aload_n (pc := 26) hx hb dX9_scanWord_26 rfl (lv_at hl 0 rfl) ?_
        refine lv_dup (pc := 27) hx hb dX9_scanWord_27 rfl ?_
        refine zg_Tape_at (pc := 28) X wx4 zw_fl_2_32 dX9_scanWord_28 ?_
        refine lv_iconst (pc := 31) (v := 1) hx hb dX9_scanWord_31 (by decide) ?_
        refine lv_iadd (pc := 32) hx hb dX9_scanWord_32 ?_
        refine zp_Tape_at (pc := 33) X wx4 zw_fl_2_32 dX9_scanWord_33 (fun HM7 lM7 wM7 => ?_)
        obtain ⟨M7, eM7, h⟩ := z_lo h
        rw [← eM7] at wM7
        refine lv_goto (pc := 36) (tgt := 0) hx hb dX9_scanWord_36 (by decide) ?_
        exact ih  M7 HM7 lM7 ls  wM7 (lv_sub hl [0] rfl) h
set_option maxHeartbeats 4000000 in
set_option maxRecDepth 100000 in
theorem m_X9_scanWord {l : Launch} {G : zG} {M : zM} {r : zM} (h : f_X9_scanWord  M = some r) : z_T l G 5 yX9_scanWord (.code yX9_scanWord cX9_scanWord 2 none) [.ref (G.1 28)] M none r := by
  refine z_of rfl ?_
  intro p e s m below meth c X hw
  have hl := lv_entry [.ref (G.1 28)] (n := 2) (Nat.le_of_ble_eq_true rfl)
  rw [lg_entry_eq]
  generalize (lg_sl [.ref (G.1 28)] ++ List.replicate (2 - (lg_sl [.ref (G.1 28)]).length) Slot.unset).toArray = ls at hl ⊢
  have hl : lv_has ls 2 [(0, .ref (G.1 28))] := hl
  generalize ([.ref (G.1 28)] : List Value).toArray = args at X ⊢
  have X : z_C G p s m args meth c cX9_scanWord 2 RX9 none := X
  have hx := X.1
  have hb := X.2.1
  unfold f_X9_scanWord at h
  refine lv_aload_n (pc := 0) hx hb dX9_scanWord_0 rfl (lv_at hl 0 rfl) ?_
  refine zg_Tape_at (pc := 1) X hw zw_fl_2_32 dX9_scanWord_1 ?_
  refine lv_aload_n (pc := 4) hx hb dX9_scanWord_4 rfl (lv_at hl 0 rfl) ?_
  refine zg_Tape_length (pc := 5) X hw zw_fl_2_29 dX9_scanWord_5 ?_
  refine lv_icmp_ge (pc := 8) (tgt := 39) hx hb dX9_scanWord_8 (by decide) (fun c1 => ?_) (fun c1 => ?_)
  · replace h := z_t c1 h
    refine lv_aload_n (pc := 39) hx hb dX9_scanWord_39 rfl (lv_at hl 0 rfl) ?_
    refine lv_iconst (pc := 40) (v := 1) hx hb dX9_scanWord_40 (by decide) ?_
    refine zp_Tape_kind (pc := 41) X hw zw_fl_2_34 dX9_scanWord_41 (fun HM2 lM2 wM2 => ?_)
    obtain ⟨M2, eM2, h⟩ := z_lo h
    rw [← eM2] at wM2
    refine lv_iconst (pc := 44) (v := 0) hx hb dX9_scanWord_44 (by decide) ?_
    refine lv_istore_n (pc := 45) (lv' := [(1, .int (0 : Int32)), (0, .ref (G.1 28))]) hx hb dX9_scanWord_45 rfl hl (by decide) rfl (fun ls hl => ?_)
    exact w_X9_scanWord_46 X z_F (0 : Int32) M2 HM2 lM2 ls  wM2 (lv_sub hl [1, 0] rfl) h
  · replace h := z_f c1 h
    refine lv_aload_n (pc := 11) hx hb dX9_scanWord_11 rfl (lv_at hl 0 rfl) ?_
    refine zg_Tape_bytes (pc := 12) X hw zw_fl_2_31 dX9_scanWord_12 ?_
    refine lv_aload_n (pc := 15) hx hb dX9_scanWord_15 rfl (lv_at hl 0 rfl) ?_
    refine zg_Tape_at (pc := 16) X hw zw_fl_2_32 dX9_scanWord_16 ?_
    obtain ⟨g3, h⟩ := z_gd h
    refine z_bald (pc := 19) X hw zk_29 zl_29 g3 dX9_scanWord_19 ?_
    obtain ⟨x4, ex4, h⟩ := z_bd h
    refine z_csI (pc := 20) (rest := []) X hw (m_X9_isLetter  ex4) zw_ml_3_56 zw_st_3_57 zw_in_1_7 zw_co_3_58 zd_X9_isLetter (by decide) rfl hl.1 rfl (Nat.le_of_ble_eq_true rfl) dX9_scanWord_20 ⟨Nat.zero_le _, Nat.zero_le _⟩ (fun Hx4 lx4 wx4 => ?_)
    refine lv_if_eq (pc := 23) (tgt := 39) hx hb dX9_scanWord_23 (by decide) (fun c5 => ?_) (fun c5 => ?_)
    · replace h := z_t c5 h
      refine lv_aload_n (pc := 39) hx hb dX9_scanWord_39 rfl (lv_at hl 0 rfl) ?_
      refine lv_iconst (pc := 40) (v := 1) hx hb dX9_scanWord_40 (by decide) ?_
      refine zp_Tape_kind (pc := 41) X wx4 zw_fl_2_34 dX9_scanWord_41 (fun HM6 lM6 wM6 => ?_)
      obtain ⟨M6, eM6, h⟩ := z_lo h
      rw [← eM6] at wM6
      refine lv_iconst (pc := 44) (v := 0) hx hb dX9_scanWord_44 (by decide) ?_
      refine lv_istore_n (pc := 45) (lv' := [(1, .int (0 : Int32)), (0, .ref (G.1 28))]) hx hb dX9_scanWord_45 rfl hl (by decide) rfl (fun ls hl => ?_)
      exact w_X9_scanWord_46 X z_F (0 : Int32) M6 HM6 lM6 ls  wM6 (lv_sub hl [1, 0] rfl) h
    · replace h := z_f c5 h
      refine lv_aload_n (pc := 26) hx hb dX9_scanWord_26 rfl (lv_at hl 0 rfl) ?_
      refine lv_dup (pc := 27) hx hb dX9_scanWord_27 rfl ?_
      refine zg_Tape_at (pc := 28) X wx4 zw_fl_2_32 dX9_scanWord_28 ?_
      refine lv_iconst (pc := 31) (v := 1) hx hb dX9_scanWord_31 (by decide) ?_
      refine lv_iadd (pc := 32) hx hb dX9_scanWord_32 ?_
      refine zp_Tape_at (pc := 33) X wx4 zw_fl_2_32 dX9_scanWord_33 (fun HM7 lM7 wM7 => ?_)
      obtain ⟨M7, eM7, h⟩ := z_lo h
      rw [← eM7] at wM7
      refine lv_goto (pc := 36) (tgt := 0) hx hb dX9_scanWord_36 (by decide) ?_
      exact w_X9_scanWord_0 X z_F  M7 HM7 lM7 ls  wM7 (lv_sub hl [0] rfl) h
def f_X9_isDigit (i0 : Int32) (M : zM) : Option (Int32 × zM) :=
  (f_X10_within i0 (48 : Int32) (57 : Int32) M).bind fun x1 =>
  z_g (vp_nar .boolean x1.1 = x1.1) <|
  some (x1.1, x1.2)
set_option maxHeartbeats 4000000 in
set_option maxRecDepth 100000 in
theorem m_X9_isDigit {l : Launch} {G : zG} {i0 : Int32} {M : zM} {r : Int32 × zM} (h : f_X9_isDigit i0 M = some r) : z_T l G 1 yX9_isDigit (.code yX9_isDigit cX9_isDigit 1 (some .boolean)) [.int i0] M (some (.int r.1)) r.2 := by
  refine z_of rfl ?_
  intro p e s m below meth c X hw
  have hl := lv_entry [.int i0] (n := 1) (Nat.le_of_ble_eq_true rfl)
  rw [lg_entry_eq]
  generalize (lg_sl [.int i0] ++ List.replicate (1 - (lg_sl [.int i0]).length) Slot.unset).toArray = ls at hl ⊢
  have hl : lv_has ls 1 [(0, .int i0)] := hl
  generalize ([.int i0] : List Value).toArray = args at X ⊢
  have X : z_C G p s m args meth c cX9_isDigit 1 RX9 (some .boolean) := X
  have hx := X.1
  have hb := X.2.1
  unfold f_X9_isDigit at h
  refine lv_iload_n (pc := 0) hx hb dX9_isDigit_0 rfl (lv_at hl 0 rfl) ?_
  refine lv_bipush (pc := 1) (v := 48) hx hb dX9_isDigit_1 (by decide) ?_
  refine lv_bipush (pc := 3) (v := 57) hx hb dX9_isDigit_3 (by decide) ?_
  obtain ⟨x1, ex1, h⟩ := z_bd h
  refine z_csnI (pc := 5) (rest := []) X hw (m_X10_within  ex1) zwn_X9_64 zw_st_2_209 zw_in_1_1 zw_co_2_210 zd_X10_within (by decide) rfl hl.1 rfl (Nat.le_of_ble_eq_true rfl) dX9_isDigit_5 ⟨Nat.zero_le _, Nat.zero_le _⟩ (fun Hx1 lx1 wx1 => ?_)
  obtain ⟨g2, h⟩ := z_gd h
  obtain rfl := Option.some.inj h
  exact z_rz (pc := 8) X wx1 (z_nb g2) dX9_isDigit_8
def f_X9_scanNumber_68  (M : zM) : Option (zM) :=
    if (4 : Int32) < ((M.1 28 2) - (M.1 28 5)) then (
      z_l (z_w M 28 3 (1 : Int32)) fun M2 =>
      some M2
    ) else (
      z_l (z_w M 28 3 (2 : Int32)) fun M3 =>
      some M3
    )
def f_X9_scanNumber_5 : Nat → zM → Option (zM)
  | 0, _ => none
  | n + 1, M =>
    if (M.1 28 0) ≤ (M.1 28 2) then (
      f_X9_scanNumber_68  M
    ) else (
      z_g (z_ix (M.1 28 2) 400) <|
      (f_X9_isDigit (M.1 29 (Int32.toNatClampNeg (M.1 28 2))) M).bind fun x3 =>
      if x3.1 = 0 then (
        f_X9_scanNumber_68  x3.2
      ) else (
        z_g (z_ix (x3.2.1 28 2) 400) <|
        z_l (z_w x3.2 28 4 ((((x3.2.1 28 4) * (10 : Int32)) + (x3.2.1 29 (Int32.toNatClampNeg (x3.2.1 28 2)))) - (48 : Int32))) fun M6 =>
        z_l (z_w M6 28 2 ((M6.1 28 2) + (1 : Int32))) fun M7 =>
        f_X9_scanNumber_5 n  M7
      )
    )
def f_X9_scanNumber  (M : zM) : Option (zM) :=
  z_l (z_w M 28 4 (0 : Int32)) fun M1 =>
  f_X9_scanNumber_5 z_F  M1
set_option maxHeartbeats 4000000 in
set_option maxRecDepth 100000 in
theorem w_X9_scanNumber_68 {G : zG} {p : Program} {l : Launch} {e : Env} {s : State} {m : MethodId} {args : Array Value} {below : List Frame} {meth : Method} {c : Code} (X : z_C G p s m args meth c cX9_scanNumber 1 RX9 none) {r : zM} : ∀  (M : zM) (H : Heap) (locs : List Loc) (ls : Array Slot), z_W G M H locs → lv_has ls 1 [(0, .ref (G.1 28))] → f_X9_scanNumber_68  M = some r → W p l e (z_rm 2) s m args below meth c H locs 0 0 (z_Q G below args s none r) (F0 m 68 ls []) := by
  have hx := X.1
  have hb := X.2.1
  intro  M H locs ls  hw hl h
  unfold f_X9_scanNumber_68 at h
  refine lv_aload_n (pc := 68) hx hb dX9_scanNumber_68 rfl (lv_at hl 0 rfl) ?_
  refine lv_aload_n (pc := 69) hx hb dX9_scanNumber_69 rfl (lv_at hl 0 rfl) ?_
  refine zg_Tape_at (pc := 70) X hw zw_fl_2_32 dX9_scanNumber_70 ?_
  refine lv_aload_n (pc := 73) hx hb dX9_scanNumber_73 rfl (lv_at hl 0 rfl) ?_
  refine zg_Tape_place (pc := 74) X hw zw_fl_2_38 dX9_scanNumber_74 ?_
  refine lv_isub (pc := 77) hx hb dX9_scanNumber_77 ?_
  refine lv_iconst (pc := 78) (v := 4) hx hb dX9_scanNumber_78 (by decide) ?_
  refine lv_icmp_gt (pc := 79) (tgt := 86) hx hb dX9_scanNumber_79 (by decide) (fun c1 => ?_) (fun c1 => ?_)
  · replace h := z_t c1 h
    refine lv_iconst (pc := 86) (v := 1) hx hb dX9_scanNumber_86 (by decide) ?_
    refine zp_Tape_kind (pc := 87) X hw zw_fl_2_34 dX9_scanNumber_87 (fun HM2 lM2 wM2 => ?_)
    obtain ⟨M2, eM2, h⟩ := z_lo h
    rw [← eM2] at wM2
    obtain rfl := Option.some.inj h
    exact z_rv (pc := 90) X wM2 dX9_scanNumber_90
  · replace h := z_f c1 h
    refine lv_iconst (pc := 82) (v := 2) hx hb dX9_scanNumber_82 (by decide) ?_
    refine lv_goto (pc := 83) (tgt := 87) hx hb dX9_scanNumber_83 (by decide) ?_
    refine zp_Tape_kind (pc := 87) X hw zw_fl_2_34 dX9_scanNumber_87 (fun HM3 lM3 wM3 => ?_)
    obtain ⟨M3, eM3, h⟩ := z_lo h
    rw [← eM3] at wM3
    obtain rfl := Option.some.inj h
    exact z_rv (pc := 90) X wM3 dX9_scanNumber_90
set_option maxHeartbeats 4000000 in
set_option maxRecDepth 100000 in
theorem w_X9_scanNumber_5 {G : zG} {p : Program} {l : Launch} {e : Env} {s : State} {m : MethodId} {args : Array Value} {below : List Frame} {meth : Method} {c : Code} (X : z_C G p s m args meth c cX9_scanNumber 1 RX9 none) {r : zM} : ∀ (n : Nat)  (M : zM) (H : Heap) (locs : List Loc) (ls : Array Slot), z_W G M H locs → lv_has ls 1 [(0, .ref (G.1 28))] → f_X9_scanNumber_5 n  M = some r → W p l e (z_rm 2) s m args below meth c H locs 0 0 (z_Q G below args s none r) (F0 m 5 ls []) := by
  have hx := X.1
  have hb := X.2.1
  intro n
  induction n with
  | zero =>
    intro  M H locs ls  hw hl h
    exact z_no h
  | succ n ih =>
    intro  M H locs ls  hw hl h
    rw [f_X9_scanNumber_5] at h
    refine lv_aload_n (pc := 5) hx hb dX9_scanNumber_5 rfl (lv_at hl 0 rfl) ?_
    refine zg_Tape_at (pc := 6) X hw zw_fl_2_32 dX9_scanNumber_6 ?_
    refine lv_aload_n (pc := 9) hx hb dX9_scanNumber_9 rfl (lv_at hl 0 rfl) ?_
    refine zg_Tape_length (pc := 10) X hw zw_fl_2_29 dX9_scanNumber_10 ?_
    refine lv_icmp_ge (pc := 13) (tgt := 68) hx hb dX9_scanNumber_13 (by decide) (fun c1 => ?_) (fun c1 => ?_)
    · replace h := z_t c1 h
      exact w_X9_scanNumber_68 X  M H locs ls  hw (lv_sub hl [0] rfl) h
    · replace h := z_f c1 h
      refine lv_aload_n (pc := 16) hx hb dX9_scanNumber_16 rfl (lv_at hl 0 rfl) ?_
      refine zg_Tape_bytes (pc := 17) X hw zw_fl_2_31 dX9_scanNumber_17 ?_
      refine lv_aload_n (pc := 20) hx hb dX9_scanNumber_20 rfl (lv_at hl 0 rfl) ?_
      refine zg_Tape_at (pc := 21) X hw zw_fl_2_32 dX9_scanNumber_21 ?_
      obtain ⟨g2, h⟩ := z_gd h
      refine z_bald (pc := 24) X hw zk_29 zl_29 g2 dX9_scanNumber_24 ?_
      obtain ⟨x3, ex3, h⟩ := z_bd h
      refine z_csI (pc := 25) (rest := []) X hw (m_X9_isDigit  ex3) zw_ml_3_117 zw_st_3_118 zw_in_1_7 zw_co_3_119 zd_X9_isDigit (by decide) rfl hl.1 rfl (Nat.le_of_ble_eq_true rfl) dX9_scanNumber_25 ⟨Nat.zero_le _, Nat.zero_le _⟩ (fun Hx3 lx3 wx3 => ?_)
      refine lv_if_eq (pc := 28) (tgt := 68) hx hb dX9_scanNumber_28 (by decide) (fun c4 => ?_) (fun c4 => ?_)
      · replace h := z_t c4 h
        exact w_X9_scanNumber_68 X  x3.2 Hx3 lx3 ls  wx3 (lv_sub hl [0] rfl) h
      · replace h := z_f c4 h
        refine lv_aload_n (pc := 31) hx hb dX9_scanNumber_31 rfl (lv_at hl 0 rfl) ?_
        refine lv_aload_n (pc := 32) hx hb dX9_scanNumber_32 rfl (lv_at hl 0 rfl) ?_
        refine zg_Tape_value (pc := 33) X wx3 zw_fl_2_36 dX9_scanNumber_33 ?_
        refine lv_bipush (pc := 36) (v := 10) hx hb dX9_scanNumber_36 (by decide) ?_
        refine lv_imul (pc := 38) hx hb dX9_scanNumber_38 ?_
        refine lv_aload_n (pc := 39) hx hb dX9_scanNumber_39 rfl (lv_at hl 0 rfl) ?_
        refine zg_Tape_bytes (pc := 40) X wx3 zw_fl_2_31 dX9_scanNumber_40 ?_
        refine lv_aload_n (pc := 43) hx hb dX9_scanNumber_43 rfl (lv_at hl 0 rfl) ?_
        refine zg_Tape_at (pc := 44) X wx3 zw_fl_2_32 dX9_scanNumber_44 ?_
        obtain ⟨g5, h⟩ := z_gd h
        refine z_bald (pc := 47) X wx3 zk_29 zl_29 g5 dX9_scanNumber_47 ?_
        refine lv_iadd (pc := 48) hx hb dX9_scanNumber_48 ?_
        refine lv_bipush (pc := 49) (v := 48) hx hb dX9_scanNumber_49 (by decide) ?_
        refine lv_isub (pc := 51) hx hb dX9_scanNumber_51 ?_
        refine zp_Tape_value (pc := 52) X wx3 zw_fl_2_36 dX9_scanNumber_52 (fun HM6 lM6 wM6 => ?_)
        obtain ⟨M6, eM6, h⟩ := z_lo h
        rw [← eM6] at wM6
        refine lv_aload_n (pc := 55) hx hb dX9_scanNumber_55 rfl (lv_at hl 0 rfl) ?_
        refine lv_dup (pc := 56) hx hb dX9_scanNumber_56 rfl ?_
        refine zg_Tape_at (pc := 57) X wM6 zw_fl_2_32 dX9_scanNumber_57 ?_
        refine lv_iconst (pc := 60) (v := 1) hx hb dX9_scanNumber_60 (by decide) ?_
        refine lv_iadd (pc := 61) hx hb dX9_scanNumber_61 ?_
        refine zp_Tape_at (pc := 62) X wM6 zw_fl_2_32 dX9_scanNumber_62 (fun HM7 lM7 wM7 => ?_)
        obtain ⟨M7, eM7, h⟩ := z_lo h
        rw [← eM7] at wM7
        refine lv_goto (pc := 65) (tgt := 5) hx hb dX9_scanNumber_65 (by decide) ?_
        exact ih  M7 HM7 lM7 ls  wM7 (lv_sub hl [0] rfl) h
set_option maxHeartbeats 4000000 in
set_option maxRecDepth 100000 in
theorem m_X9_scanNumber {l : Launch} {G : zG} {M : zM} {r : zM} (h : f_X9_scanNumber  M = some r) : z_T l G 2 yX9_scanNumber (.code yX9_scanNumber cX9_scanNumber 1 none) [.ref (G.1 28)] M none r := by
  refine z_of rfl ?_
  intro p e s m below meth c X hw
  have hl := lv_entry [.ref (G.1 28)] (n := 1) (Nat.le_of_ble_eq_true rfl)
  rw [lg_entry_eq]
  generalize (lg_sl [.ref (G.1 28)] ++ List.replicate (1 - (lg_sl [.ref (G.1 28)]).length) Slot.unset).toArray = ls at hl ⊢
  have hl : lv_has ls 1 [(0, .ref (G.1 28))] := hl
  generalize ([.ref (G.1 28)] : List Value).toArray = args at X ⊢
  have X : z_C G p s m args meth c cX9_scanNumber 1 RX9 none := X
  have hx := X.1
  have hb := X.2.1
  unfold f_X9_scanNumber at h
  refine lv_aload_n (pc := 0) hx hb dX9_scanNumber_0 rfl (lv_at hl 0 rfl) ?_
  refine lv_iconst (pc := 1) (v := 0) hx hb dX9_scanNumber_1 (by decide) ?_
  refine zp_Tape_value (pc := 2) X hw zw_fl_2_36 dX9_scanNumber_2 (fun HM1 lM1 wM1 => ?_)
  obtain ⟨M1, eM1, h⟩ := z_lo h
  rw [← eM1] at wM1
  exact w_X9_scanNumber_5 X z_F  M1 HM1 lM1 ls  wM1 (lv_sub hl [0] rfl) h
def f_J1_canEncode_9a6ad (i0 : Int32) (M : zM) : Option (Int32 × zM) :=
  if i0 < 0 then (
    some ((0 : Int32), M)
  ) else (
    if (255 : Int32) < i0 then (
      some ((0 : Int32), M)
    ) else (
      some ((1 : Int32), M)
    )
  )
set_option maxHeartbeats 4000000 in
set_option maxRecDepth 100000 in
theorem m_J1_canEncode_9a6ad {l : Launch} {G : zG} {i0 : Int32} {M : zM} {r : Int32 × zM} (h : f_J1_canEncode_9a6ad i0 M = some r) : z_T l G 0 yJ1_canEncode_9a6ad (.code yJ1_canEncode_9a6ad cJ1_canEncode_9a6ad 1 (some .boolean)) [.int i0] M (some (.int r.1)) r.2 := by
  refine z_of rfl ?_
  intro p e s m below meth c X hw
  have hl := lv_entry [.int i0] (n := 1) (Nat.le_of_ble_eq_true rfl)
  rw [lg_entry_eq]
  generalize (lg_sl [.int i0] ++ List.replicate (1 - (lg_sl [.int i0]).length) Slot.unset).toArray = ls at hl ⊢
  have hl : lv_has ls 1 [(0, .int i0)] := hl
  generalize ([.int i0] : List Value).toArray = args at X ⊢
  have X : z_C G p s m args meth c cJ1_canEncode_9a6ad 1 RJ1 (some .boolean) := X
  have hx := X.1
  have hb := X.2.1
  unfold f_J1_canEncode_9a6ad at h
  refine lv_iload_n (pc := 0) hx hb dJ1_canEncode_9a6ad_0 rfl (lv_at hl 0 rfl) ?_
  refine lv_if_lt (pc := 1) (tgt := 15) hx hb dJ1_canEncode_9a6ad_1 (by decide) (fun c1 => ?_) (fun c1 => ?_)
  · replace h := z_t c1 h
    refine lv_iconst (pc := 15) (v := 0) hx hb dJ1_canEncode_9a6ad_15 (by decide) ?_
    obtain rfl := Option.some.inj h
    exact z_rz (pc := 16) X hw (z_nb (x := 0) (by decide)) dJ1_canEncode_9a6ad_16
  · replace h := z_f c1 h
    refine lv_iload_n (pc := 4) hx hb dJ1_canEncode_9a6ad_4 rfl (lv_at hl 0 rfl) ?_
    refine lv_sipush (pc := 5) (v := 255) hx hb dJ1_canEncode_9a6ad_5 (by decide) ?_
    refine lv_icmp_gt (pc := 8) (tgt := 15) hx hb dJ1_canEncode_9a6ad_8 (by decide) (fun c2 => ?_) (fun c2 => ?_)
    · replace h := z_t c2 h
      refine lv_iconst (pc := 15) (v := 0) hx hb dJ1_canEncode_9a6ad_15 (by decide) ?_
      obtain rfl := Option.some.inj h
      exact z_rz (pc := 16) X hw (z_nb (x := 0) (by decide)) dJ1_canEncode_9a6ad_16
    · replace h := z_f c2 h
      refine lv_iconst (pc := 11) (v := 1) hx hb dJ1_canEncode_9a6ad_11 (by decide) ?_
      refine lv_goto (pc := 12) (tgt := 16) hx hb dJ1_canEncode_9a6ad_12 (by decide) ?_
      obtain rfl := Option.some.inj h
      exact z_rz (pc := 16) X hw (z_nb (x := 1) (by decide)) dJ1_canEncode_9a6ad_16
def f_J1_indexOfChar_4cfef_7 : Nat → Nat → Int32 → Int32 → Int32 → zM → Option (Int32 × zM)
  | 0, _, _, _, _, _ => none
  | n + 1, t0, i3, i4, i5, M =>
    if i3 ≤ i5 then (
      some ((-1 : Int32), M)
    ) else (
      z_g (z_ix i5 (z_len.getD t0 0)) <|
      if ((z_byt.getD t0 []).getD (Int32.toNatClampNeg i5) 0) = i4 then (
        some (i5, M)
      ) else (
        z_l (i5 + (1 : Int32)) fun v4 =>
        f_J1_indexOfChar_4cfef_7 n t0 i3 i4 v4 M
      )
    )
def f_J1_indexOfChar_4cfef (t0 : Nat) (i1 : Int32) (i2 : Int32) (i3 : Int32) (M : zM) : Option (Int32 × zM) :=
  z_l (Int8.toInt32 (Int32.toInt8 i1)) fun v1 =>
  f_J1_indexOfChar_4cfef_7 z_F t0 i3 v1 i2 M
set_option maxHeartbeats 4000000 in
set_option maxRecDepth 100000 in
theorem w_J1_indexOfChar_4cfef_7 {G : zG} {p : Program} {l : Launch} {e : Env} {s : State} {m : MethodId} {args : Array Value} {below : List Frame} {meth : Method} {c : Code} (X : z_C G p s m args meth c cJ1_indexOfChar_4cfef 6 RJ1 (some .int)) {r : Int32 × zM} : ∀ (n : Nat) (t0 : Nat) (i3 : Int32) (i4 : Int32) (i5 : Int32) (M : zM) (H : Heap) (locs : List Loc) (ls : Array Slot), t0 < 15 → z_W G M H locs → lv_has ls 6 [(0, .ref (z_va G t0)), (3, .int i3), (4, .int i4), (5, .int i5)] → f_J1_indexOfChar_4cfef_7 n t0 i3 i4 i5 M = some r → W p l e (z_rm 0) s m args below meth c H locs 0 0 (z_Q G below args s (some (.int r.1)) r.2) (F0 m 7 ls []) := by
  have hx := X.1
  have hb := X.2.1
  intro n
  induction n with
  | zero =>
    intro t0 i3 i4 i5 M H locs ls ht0 hw hl h
    exact z_no h
  | succ n ih =>
    intro t0 i3 i4 i5 M H locs ls ht0 hw hl h
    rw [f_J1_indexOfChar_4cfef_7] at h
    refine lv_iload (pc := 7) hx hb dJ1_indexOfChar_4cfef_7 (lv_at hl 3 rfl) ?_
    refine lv_iload_n (pc := 9) hx hb dJ1_indexOfChar_4cfef_9 rfl (lv_at hl 1 rfl) ?_
    refine lv_icmp_ge (pc := 10) (tgt := 31) hx hb dJ1_indexOfChar_4cfef_10 (by decide) (fun c1 => ?_) (fun c1 => ?_)
    · replace h := z_t c1 h
      refine lv_iconst (pc := 31) (v := -1) hx hb dJ1_indexOfChar_4cfef_31 (by decide) ?_
      obtain rfl := Option.some.inj h
      exact z_ri (pc := 32) X hw dJ1_indexOfChar_4cfef_32
    · replace h := z_f c1 h
      refine lv_aload_n (pc := 13) hx hb dJ1_indexOfChar_4cfef_13 rfl (lv_at hl 0 rfl) ?_
      refine lv_iload (pc := 14) hx hb dJ1_indexOfChar_4cfef_14 (lv_at hl 3 rfl) ?_
      obtain ⟨g2, h⟩ := z_gd h
      refine z_baldS (pc := 16) X hw ht0 g2 dJ1_indexOfChar_4cfef_16 ?_
      refine lv_iload (pc := 17) hx hb dJ1_indexOfChar_4cfef_17 (lv_at hl 2 rfl) ?_
      refine lv_icmp_ne (pc := 19) (tgt := 25) hx hb dJ1_indexOfChar_4cfef_19 (by decide) (fun c3 => ?_) (fun c3 => ?_)
      · replace h := z_f c3 h
        obtain ⟨v4, ev4, h⟩ := z_lo h
        refine lv_iinc (pc := 25) (v := v4) (lv' := [(5, .int v4), (0, .ref (z_va G t0)), (3, .int i3), (4, .int i4)]) hx hb dJ1_indexOfChar_4cfef_25 hl (k := 3) rfl (by rw [ev4]; rfl) (by decide) rfl (fun ls hl => ?_)
        refine lv_goto (pc := 28) (tgt := 7) hx hb dJ1_indexOfChar_4cfef_28 (by decide) ?_
        exact ih t0 i3 i4 v4 M H locs ls ht0 hw (lv_sub hl [1, 2, 3, 0] rfl) h
      · replace h := z_t c3 h
        refine lv_iload (pc := 22) hx hb dJ1_indexOfChar_4cfef_22 (lv_at hl 3 rfl) ?_
        obtain rfl := Option.some.inj h
        exact z_ri (pc := 24) X hw dJ1_indexOfChar_4cfef_24
set_option maxHeartbeats 4000000 in
set_option maxRecDepth 100000 in
theorem m_J1_indexOfChar_4cfef {l : Launch} {G : zG} {t0 : Nat} {i1 : Int32} {i2 : Int32} {i3 : Int32} {M : zM} {r : Int32 × zM} (ht0 : t0 < 15) (h : f_J1_indexOfChar_4cfef t0 i1 i2 i3 M = some r) : z_T l G 0 yJ1_indexOfChar_4cfef (.code yJ1_indexOfChar_4cfef cJ1_indexOfChar_4cfef 6 (some .int)) [.ref (z_va G t0), .int i1, .int i2, .int i3] M (some (.int r.1)) r.2 := by
  refine z_of rfl ?_
  intro p e s m below meth c X hw
  have hl := lv_entry [.ref (z_va G t0), .int i1, .int i2, .int i3] (n := 6) (Nat.le_of_ble_eq_true rfl)
  rw [lg_entry_eq]
  generalize (lg_sl [.ref (z_va G t0), .int i1, .int i2, .int i3] ++ List.replicate (6 - (lg_sl [.ref (z_va G t0), .int i1, .int i2, .int i3]).length) Slot.unset).toArray = ls at hl ⊢
  have hl : lv_has ls 6 [(0, .ref (z_va G t0)), (1, .int i1), (2, .int i2), (3, .int i3)] := hl
  generalize ([.ref (z_va G t0), .int i1, .int i2, .int i3] : List Value).toArray = args at X ⊢
  have X : z_C G p s m args meth c cJ1_indexOfChar_4cfef 6 RJ1 (some .int) := X
  have hx := X.1
  have hb := X.2.1
  unfold f_J1_indexOfChar_4cfef at h
  refine lv_iload_n (pc := 0) hx hb dJ1_indexOfChar_4cfef_0 rfl (lv_at hl 1 rfl) ?_
  refine lv_i2b (pc := 1) hx hb dJ1_indexOfChar_4cfef_1 rfl ?_
  obtain ⟨v1, ev1, h⟩ := z_lo h
  refine z_topi ev1 ?_
  refine lv_istore (pc := 2) (lv' := [(4, .int v1), (0, .ref (z_va G t0)), (1, .int i1), (2, .int i2), (3, .int i3)]) hx hb dJ1_indexOfChar_4cfef_2 hl (by decide) rfl (fun ls hl => ?_)
  refine lv_iload_n (pc := 4) hx hb dJ1_indexOfChar_4cfef_4 rfl (lv_at hl 3 rfl) ?_
  refine lv_istore (pc := 5) (lv' := [(5, .int i2), (4, .int v1), (0, .ref (z_va G t0)), (1, .int i1), (2, .int i2), (3, .int i3)]) hx hb dJ1_indexOfChar_4cfef_5 hl (by decide) rfl (fun ls hl => ?_)
  exact w_J1_indexOfChar_4cfef_7 X z_F t0 i3 v1 i2 M s.heap [] ls ht0 hw (lv_sub hl [2, 5, 1, 0] rfl) h
def f_J1_indexOf_4cfef (t0 : Nat) (i1 : Int32) (i2 : Int32) (i3 : Int32) (M : zM) : Option (Int32 × zM) :=
  (f_J1_canEncode_9a6ad i1 M).bind fun x1 =>
  if x1.1 = 0 then (
    some ((-1 : Int32), x1.2)
  ) else (
    z_l (if i2 < (0 : Int32) then (0 : Int32) else i2) fun v3 =>
    z_l (if (Int32.ofNat (z_len.getD t0 0)) < i3 then (Int32.ofNat (z_len.getD t0 0)) else i3) fun v4 =>
    if v3 < v4 then (
      (f_J1_indexOfChar_4cfef t0 i1 v3 v4 x1.2).bind fun x6 =>
      some (x6.1, x6.2)
    ) else (
      some ((-1 : Int32), x1.2)
    )
  )
set_option maxHeartbeats 4000000 in
set_option maxRecDepth 100000 in
theorem m_J1_indexOf_4cfef {l : Launch} {G : zG} {t0 : Nat} {i1 : Int32} {i2 : Int32} {i3 : Int32} {M : zM} {r : Int32 × zM} (ht0 : t0 < 15) (h : f_J1_indexOf_4cfef t0 i1 i2 i3 M = some r) : z_T l G 1 yJ1_indexOf_4cfef (.code yJ1_indexOf_4cfef cJ1_indexOf_4cfef 4 (some .int)) [.ref (z_va G t0), .int i1, .int i2, .int i3] M (some (.int r.1)) r.2 := by
  refine z_of rfl ?_
  intro p e s m below meth c X hw
  have hl := lv_entry [.ref (z_va G t0), .int i1, .int i2, .int i3] (n := 4) (Nat.le_of_ble_eq_true rfl)
  rw [lg_entry_eq]
  generalize (lg_sl [.ref (z_va G t0), .int i1, .int i2, .int i3] ++ List.replicate (4 - (lg_sl [.ref (z_va G t0), .int i1, .int i2, .int i3]).length) Slot.unset).toArray = ls at hl ⊢
  have hl : lv_has ls 4 [(0, .ref (z_va G t0)), (1, .int i1), (2, .int i2), (3, .int i3)] := hl
  generalize ([.ref (z_va G t0), .int i1, .int i2, .int i3] : List Value).toArray = args at X ⊢
  have X : z_C G p s m args meth c cJ1_indexOf_4cfef 4 RJ1 (some .int) := X
  have hx := X.1
  have hb := X.2.1
  unfold f_J1_indexOf_4cfef at h
  refine lv_iload_n (pc := 0) hx hb dJ1_indexOf_4cfef_0 rfl (lv_at hl 1 rfl) ?_
  obtain ⟨x1, ex1, h⟩ := z_bd h
  refine z_csI (pc := 1) (rest := []) X hw (m_J1_canEncode_9a6ad  ex1) zw_ml_3_137 zw_st_3_138 zw_in_1_14 zw_co_3_139 zd_J1_canEncode_9a6ad (by decide) rfl hl.1 rfl (Nat.le_of_ble_eq_true rfl) dJ1_indexOf_4cfef_1 ⟨Nat.zero_le _, Nat.zero_le _⟩ (fun Hx1 lx1 wx1 => ?_)
  refine lv_if_ne (pc := 4) (tgt := 9) hx hb dJ1_indexOf_4cfef_4 (by decide) (fun c2 => ?_) (fun c2 => ?_)
  · replace h := z_f c2 h
    refine lv_iload_n (pc := 9) hx hb dJ1_indexOf_4cfef_9 rfl (lv_at hl 2 rfl) ?_
    refine lv_iconst (pc := 10) (v := 0) hx hb dJ1_indexOf_4cfef_10 (by decide) ?_
    refine z_max (pc := 11) (rest := []) X zw_ml_3_140 zw_st_3_141 zw_in_1_17 zw_co_3_142 hl.1 ⟨Nat.zero_le _, Nat.zero_le _⟩ (z_lm (Nat.le_of_ble_eq_true rfl)) dJ1_indexOf_4cfef_11 ?_
    obtain ⟨v3, ev3, h⟩ := z_lo h
    refine z_topi ev3 ?_
    refine lv_istore_n (pc := 14) (lv' := [(2, .int v3), (0, .ref (z_va G t0)), (1, .int i1), (3, .int i3)]) hx hb dJ1_indexOf_4cfef_14 rfl hl (by decide) rfl (fun ls hl => ?_)
    refine lv_iload_n (pc := 15) hx hb dJ1_indexOf_4cfef_15 rfl (lv_at hl 3 rfl) ?_
    refine lv_aload_n (pc := 16) hx hb dJ1_indexOf_4cfef_16 rfl (lv_at hl 1 rfl) ?_
    refine z_lenS (pc := 17) X wx1 ht0 dJ1_indexOf_4cfef_17 ?_
    refine z_min (pc := 18) (rest := []) X zw_ml_3_143 zw_st_3_144 zw_in_1_17 zw_co_3_145 hl.1 ⟨Nat.zero_le _, Nat.zero_le _⟩ (z_lm (Nat.le_of_ble_eq_true rfl)) dJ1_indexOf_4cfef_18 ?_
    obtain ⟨v4, ev4, h⟩ := z_lo h
    refine z_topi ev4 ?_
    refine lv_istore_n (pc := 21) (lv' := [(3, .int v4), (2, .int v3), (0, .ref (z_va G t0)), (1, .int i1)]) hx hb dJ1_indexOf_4cfef_21 rfl hl (by decide) rfl (fun ls hl => ?_)
    refine lv_iload_n (pc := 22) hx hb dJ1_indexOf_4cfef_22 rfl (lv_at hl 1 rfl) ?_
    refine lv_iload_n (pc := 23) hx hb dJ1_indexOf_4cfef_23 rfl (lv_at hl 0 rfl) ?_
    refine lv_icmp_lt (pc := 24) (tgt := 29) hx hb dJ1_indexOf_4cfef_24 (by decide) (fun c5 => ?_) (fun c5 => ?_)
    · replace h := z_t c5 h
      refine lv_aload_n (pc := 29) hx hb dJ1_indexOf_4cfef_29 rfl (lv_at hl 2 rfl) ?_
      refine lv_iload_n (pc := 30) hx hb dJ1_indexOf_4cfef_30 rfl (lv_at hl 3 rfl) ?_
      refine lv_iload_n (pc := 31) hx hb dJ1_indexOf_4cfef_31 rfl (lv_at hl 1 rfl) ?_
      refine lv_iload_n (pc := 32) hx hb dJ1_indexOf_4cfef_32 rfl (lv_at hl 0 rfl) ?_
      obtain ⟨x6, ex6, h⟩ := z_bd h
      refine z_csI (pc := 33) (rest := []) X wx1 (m_J1_indexOfChar_4cfef ht0 ex6) zw_ml_3_146 zw_st_3_147 zw_in_1_14 zw_co_3_148 zd_J1_indexOfChar_4cfef (by decide) rfl hl.1 rfl (Nat.le_of_ble_eq_true rfl) dJ1_indexOf_4cfef_33 ⟨Nat.zero_le _, Nat.zero_le _⟩ (fun Hx6 lx6 wx6 => ?_)
      obtain rfl := Option.some.inj h
      exact z_ri (pc := 36) X wx6 dJ1_indexOf_4cfef_36
    · replace h := z_f c5 h
      refine lv_iconst (pc := 27) (v := -1) hx hb dJ1_indexOf_4cfef_27 (by decide) ?_
      obtain rfl := Option.some.inj h
      exact z_ri (pc := 28) X wx1 dJ1_indexOf_4cfef_28
  · replace h := z_t c2 h
    refine lv_iconst (pc := 7) (v := -1) hx hb dJ1_indexOf_4cfef_7 (by decide) ?_
    obtain rfl := Option.some.inj h
    exact z_ri (pc := 8) X wx1 dJ1_indexOf_4cfef_8
def f_J0_indexOf_7cf53 (t0 : Nat) (i1 : Int32) (i2 : Int32) (M : zM) : Option (Int32 × zM) :=
  (f_J0_isLatin1_aae02 t0 M).bind fun x1 =>
  if x1.1 = 0 then (
    (f_J0_length_8abf5 t0 x1.2).bind fun x3 =>
    none
  ) else (
    (f_J0_length_8abf5 t0 x1.2).bind fun x4 =>
    (f_J1_indexOf_4cfef t0 i1 i2 x4.1 x4.2).bind fun x5 =>
    some (x5.1, x5.2)
  )
set_option maxHeartbeats 4000000 in
set_option maxRecDepth 100000 in
theorem m_J0_indexOf_7cf53 {l : Launch} {G : zG} {t0 : Nat} {i1 : Int32} {i2 : Int32} {M : zM} {r : Int32 × zM} (ht0 : t0 < 15) (h : f_J0_indexOf_7cf53 t0 i1 i2 M = some r) : z_T l G 2 yJ0_indexOf_7cf53 (.code yJ0_indexOf_7cf53 cJ0_indexOf_7cf53 3 (some .int)) [.ref (z_ka G t0), .int i1, .int i2] M (some (.int r.1)) r.2 := by
  refine z_of rfl ?_
  intro p e s m below meth c X hw
  have hl := lv_entry [.ref (z_ka G t0), .int i1, .int i2] (n := 3) (Nat.le_of_ble_eq_true rfl)
  rw [lg_entry_eq]
  generalize (lg_sl [.ref (z_ka G t0), .int i1, .int i2] ++ List.replicate (3 - (lg_sl [.ref (z_ka G t0), .int i1, .int i2]).length) Slot.unset).toArray = ls at hl ⊢
  have hl : lv_has ls 3 [(0, .ref (z_ka G t0)), (1, .int i1), (2, .int i2)] := hl
  generalize ([.ref (z_ka G t0), .int i1, .int i2] : List Value).toArray = args at X ⊢
  have X : z_C G p s m args meth c cJ0_indexOf_7cf53 3 RJ0 (some .int) := X
  have hx := X.1
  have hb := X.2.1
  unfold f_J0_indexOf_7cf53 at h
  refine lv_aload_n (pc := 0) hx hb dJ0_indexOf_7cf53_0 rfl (lv_at hl 0 rfl) ?_
  obtain ⟨x1, ex1, h⟩ := z_bd h
  refine z_cvSI (pc := 1) (rest := []) X hw (m_J0_isLatin1_aae02 ht0 ex1) ht0 zw_ml_3_83 zw_im_3_84 zw_se_3_85 zw_in_1_13 zw_co_3_86 zd_J0_isLatin1_aae02 (by decide) rfl hl.1 rfl (Nat.le_of_ble_eq_true rfl) dJ0_indexOf_7cf53_1 ⟨Nat.zero_le _, Nat.zero_le _⟩ (fun Hx1 lx1 wx1 => ?_)
  refine lv_if_eq (pc := 4) (tgt := 23) hx hb dJ0_indexOf_7cf53_4 (by decide) (fun c2 => ?_) (fun c2 => ?_)
  · replace h := z_t c2 h
    refine lv_aload_n (pc := 23) hx hb dJ0_indexOf_7cf53_23 rfl (lv_at hl 0 rfl) ?_
    refine z_gS_value (pc := 24) X wx1 ht0 zw_fl_6_214 dJ0_indexOf_7cf53_24 ?_
    refine lv_iload_n (pc := 27) hx hb dJ0_indexOf_7cf53_27 rfl (lv_at hl 1 rfl) ?_
    refine lv_iload_n (pc := 28) hx hb dJ0_indexOf_7cf53_28 rfl (lv_at hl 2 rfl) ?_
    refine lv_aload_n (pc := 29) hx hb dJ0_indexOf_7cf53_29 rfl (lv_at hl 0 rfl) ?_
    obtain ⟨x3, ex3, h⟩ := z_bd h
    refine z_cvSI (pc := 30) (rest := [.int i2, .int i1, .ref (z_va G t0)]) X wx1 (m_J0_length_8abf5 ht0 ex3) ht0 zw_ml_3_133 zw_im_3_66 zw_se_3_67 zw_in_1_13 zw_co_3_68 zd_J0_length_8abf5 (by decide) rfl hl.1 rfl (Nat.le_of_ble_eq_true rfl) dJ0_indexOf_7cf53_30 ⟨Nat.zero_le _, Nat.zero_le _⟩ (fun Hx3 lx3 wx3 => ?_)
    exact z_no h
  · replace h := z_f c2 h
    refine lv_aload_n (pc := 7) hx hb dJ0_indexOf_7cf53_7 rfl (lv_at hl 0 rfl) ?_
    refine z_gS_value (pc := 8) X wx1 ht0 zw_fl_6_214 dJ0_indexOf_7cf53_8 ?_
    refine lv_iload_n (pc := 11) hx hb dJ0_indexOf_7cf53_11 rfl (lv_at hl 1 rfl) ?_
    refine lv_iload_n (pc := 12) hx hb dJ0_indexOf_7cf53_12 rfl (lv_at hl 2 rfl) ?_
    refine lv_aload_n (pc := 13) hx hb dJ0_indexOf_7cf53_13 rfl (lv_at hl 0 rfl) ?_
    obtain ⟨x4, ex4, h⟩ := z_bd h
    refine z_cvSI (pc := 14) (rest := [.int i2, .int i1, .ref (z_va G t0)]) X wx1 (m_J0_length_8abf5 ht0 ex4) ht0 zw_ml_3_133 zw_im_3_66 zw_se_3_67 zw_in_1_13 zw_co_3_68 zd_J0_length_8abf5 (by decide) rfl hl.1 rfl (Nat.le_of_ble_eq_true rfl) dJ0_indexOf_7cf53_14 ⟨Nat.zero_le _, Nat.zero_le _⟩ (fun Hx4 lx4 wx4 => ?_)
    obtain ⟨x5, ex5, h⟩ := z_bd h
    refine z_csI (pc := 17) (rest := []) X wx4 (m_J1_indexOf_4cfef ht0 ex5) zw_ml_3_134 zw_st_3_135 zw_in_1_14 zw_co_3_136 zd_J1_indexOf_4cfef (by decide) rfl hl.1 rfl (Nat.le_of_ble_eq_true rfl) dJ0_indexOf_7cf53_17 ⟨Nat.zero_le _, Nat.zero_le _⟩ (fun Hx5 lx5 wx5 => ?_)
    refine lv_goto (pc := 20) (tgt := 36) hx hb dJ0_indexOf_7cf53_20 (by decide) ?_
    obtain rfl := Option.some.inj h
    exact z_ri (pc := 36) X wx5 dJ0_indexOf_7cf53_36
def f_J0_indexOf_0f7a4 (t0 : Nat) (i1 : Int32) (M : zM) : Option (Int32 × zM) :=
  (f_J0_indexOf_7cf53 t0 i1 (0 : Int32) M).bind fun x1 =>
  some (x1.1, x1.2)
set_option maxHeartbeats 4000000 in
set_option maxRecDepth 100000 in
theorem m_J0_indexOf_0f7a4 {l : Launch} {G : zG} {t0 : Nat} {i1 : Int32} {M : zM} {r : Int32 × zM} (ht0 : t0 < 15) (h : f_J0_indexOf_0f7a4 t0 i1 M = some r) : z_T l G 3 yJ0_indexOf_0f7a4 (.code yJ0_indexOf_0f7a4 cJ0_indexOf_0f7a4 2 (some .int)) [.ref (z_ka G t0), .int i1] M (some (.int r.1)) r.2 := by
  refine z_of rfl ?_
  intro p e s m below meth c X hw
  have hl := lv_entry [.ref (z_ka G t0), .int i1] (n := 2) (Nat.le_of_ble_eq_true rfl)
  rw [lg_entry_eq]
  generalize (lg_sl [.ref (z_ka G t0), .int i1] ++ List.replicate (2 - (lg_sl [.ref (z_ka G t0), .int i1]).length) Slot.unset).toArray = ls at hl ⊢
  have hl : lv_has ls 2 [(0, .ref (z_ka G t0)), (1, .int i1)] := hl
  generalize ([.ref (z_ka G t0), .int i1] : List Value).toArray = args at X ⊢
  have X : z_C G p s m args meth c cJ0_indexOf_0f7a4 2 RJ0 (some .int) := X
  have hx := X.1
  have hb := X.2.1
  unfold f_J0_indexOf_0f7a4 at h
  refine lv_aload_n (pc := 0) hx hb dJ0_indexOf_0f7a4_0 rfl (lv_at hl 0 rfl) ?_
  refine lv_iload_n (pc := 1) hx hb dJ0_indexOf_0f7a4_1 rfl (lv_at hl 1 rfl) ?_
  refine lv_iconst (pc := 2) (v := 0) hx hb dJ0_indexOf_0f7a4_2 (by decide) ?_
  obtain ⟨x1, ex1, h⟩ := z_bd h
  refine z_cvSI (pc := 3) (rest := []) X hw (m_J0_indexOf_7cf53 ht0 ex1) ht0 zw_ml_3_129 zw_im_3_130 zw_se_3_131 zw_in_1_13 zw_co_3_132 zd_J0_indexOf_7cf53 (by decide) rfl hl.1 rfl (Nat.le_of_ble_eq_true rfl) dJ0_indexOf_0f7a4_3 ⟨Nat.zero_le _, Nat.zero_le _⟩ (fun Hx1 lx1 wx1 => ?_)
  obtain rfl := Option.some.inj h
  exact z_ri (pc := 6) X wx1 dJ0_indexOf_0f7a4_6
def f_X9_scan_154 (si0 : Int32) (M : zM) : Option (zM) :=
    if 0 ≤ si0 then (
      z_l (z_w M 28 3 ((16 : Int32) + si0)) fun M2 =>
      z_l (z_w M2 28 2 ((M2.1 28 2) + (1 : Int32))) fun M3 =>
      some M3
    ) else (
      z_l (z_w M 28 3 (1 : Int32)) fun M4 =>
      z_l (z_w M4 28 2 ((M4.1 28 2) + (1 : Int32))) fun M5 =>
      some M5
    )
def f_X9_scan_52  (M : zM) : Option (zM) :=
    z_l (z_w M 28 5 (M.1 28 2)) fun M1 =>
    if (M1.1 28 2) < (M1.1 28 0) then (
      z_g (z_ix (M1.1 28 2) 400) <|
      (f_X9_isLetter (M1.1 29 (Int32.toNatClampNeg (M1.1 28 2))) M1).bind fun x4 =>
      if x4.1 = 0 then (
        z_g (z_ix (x4.2.1 28 2) 400) <|
        (f_X9_isDigit (x4.2.1 29 (Int32.toNatClampNeg (x4.2.1 28 2))) x4.2).bind fun x7 =>
        if x7.1 = 0 then (
          z_g (z_ix (x7.2.1 28 2) 400) <|
          if (x7.2.1 29 (Int32.toNatClampNeg (x7.2.1 28 2))) ≤ 0 then (
            f_X9_scan_154 (-1 : Int32) x7.2
          ) else (
            z_g (z_ix (x7.2.1 28 2) 400) <|
            (f_J0_indexOf_0f7a4 1 (UInt32.toInt32 (Int32.toUInt32 (x7.2.1 29 (Int32.toNatClampNeg (x7.2.1 28 2))) % 65536)) x7.2).bind fun x12 =>
            f_X9_scan_154 x12.1 x12.2
          )
        ) else (
          (f_X9_scanNumber  x7.2).bind fun x13 =>
          some x13
        )
      ) else (
        (f_X9_scanWord  x4.2).bind fun x14 =>
        some x14
      )
    ) else (
      z_l (z_w M1 28 3 (0 : Int32)) fun M15 =>
      some M15
    )
def f_X9_scan_0 : Nat → zM → Option (zM)
  | 0, _ => none
  | n + 1, M =>
    if (M.1 28 0) ≤ (M.1 28 2) then (
      f_X9_scan_52  M
    ) else (
      z_g (z_ix (M.1 28 2) 400) <|
      if (M.1 29 (Int32.toNatClampNeg (M.1 28 2))) = (32 : Int32) then (
        z_l (z_w M 28 2 ((M.1 28 2) + (1 : Int32))) fun M4 =>
        f_X9_scan_0 n  M4
      ) else (
        z_g (z_ix (M.1 28 2) 400) <|
        if (M.1 29 (Int32.toNatClampNeg (M.1 28 2))) = (10 : Int32) then (
          z_l (z_w M 28 2 ((M.1 28 2) + (1 : Int32))) fun M7 =>
          f_X9_scan_0 n  M7
        ) else (
          f_X9_scan_52  M
        )
      )
    )
def f_X9_scan  (M : zM) : Option (zM) :=
  if (M.1 28 0) ≤ (M.1 28 2) then (
    f_X9_scan_52  M
  ) else (
    z_g (z_ix (M.1 28 2) 400) <|
    if (M.1 29 (Int32.toNatClampNeg (M.1 28 2))) = (32 : Int32) then (
      z_l (z_w M 28 2 ((M.1 28 2) + (1 : Int32))) fun M4 =>
      f_X9_scan_0 z_F  M4
    ) else (
      z_g (z_ix (M.1 28 2) 400) <|
      if (M.1 29 (Int32.toNatClampNeg (M.1 28 2))) = (10 : Int32) then (
        z_l (z_w M 28 2 ((M.1 28 2) + (1 : Int32))) fun M7 =>
        f_X9_scan_0 z_F  M7
      ) else (
        f_X9_scan_52  M
      )
    )
  )
set_option maxHeartbeats 4000000 in
set_option maxRecDepth 100000 in
theorem w_X9_scan_154 {G : zG} {p : Program} {l : Launch} {e : Env} {s : State} {m : MethodId} {args : Array Value} {below : List Frame} {meth : Method} {c : Code} (X : z_C G p s m args meth c cX9_scan 2 RX9 none) {r : zM} : ∀ (si0 : Int32) (M : zM) (H : Heap) (locs : List Loc) (ls : Array Slot), z_W G M H locs → lv_has ls 2 [(0, .ref (G.1 28))] → f_X9_scan_154 si0 M = some r → W p l e (z_rm 6) s m args below meth c H locs 0 0 (z_Q G below args s none r) (F0 m 154 ls [.int si0]) := by
  have hx := X.1
  have hb := X.2.1
  intro si0 M H locs ls  hw hl h
  unfold f_X9_scan_154 at h
  refine lv_istore_n (pc := 154) (lv' := [(1, .int si0), (0, .ref (G.1 28))]) hx hb dX9_scan_154 rfl hl (by decide) rfl (fun ls hl => ?_)
  refine lv_aload_n (pc := 155) hx hb dX9_scan_155 rfl (lv_at hl 1 rfl) ?_
  refine lv_iload_n (pc := 156) hx hb dX9_scan_156 rfl (lv_at hl 0 rfl) ?_
  refine lv_if_ge (pc := 157) (tgt := 164) hx hb dX9_scan_157 (by decide) (fun c1 => ?_) (fun c1 => ?_)
  · replace h := z_t c1 h
    refine lv_bipush (pc := 164) (v := 16) hx hb dX9_scan_164 (by decide) ?_
    refine lv_iload_n (pc := 166) hx hb dX9_scan_166 rfl (lv_at hl 0 rfl) ?_
    refine lv_iadd (pc := 167) hx hb dX9_scan_167 ?_
    refine zp_Tape_kind (pc := 168) X hw zw_fl_2_34 dX9_scan_168 (fun HM2 lM2 wM2 => ?_)
    obtain ⟨M2, eM2, h⟩ := z_lo h
    rw [← eM2] at wM2
    refine lv_aload_n (pc := 171) hx hb dX9_scan_171 rfl (lv_at hl 1 rfl) ?_
    refine lv_dup (pc := 172) hx hb dX9_scan_172 rfl ?_
    refine zg_Tape_at (pc := 173) X wM2 zw_fl_2_32 dX9_scan_173 ?_
    refine lv_iconst (pc := 176) (v := 1) hx hb dX9_scan_176 (by decide) ?_
    refine lv_iadd (pc := 177) hx hb dX9_scan_177 ?_
    refine zp_Tape_at (pc := 178) X wM2 zw_fl_2_32 dX9_scan_178 (fun HM3 lM3 wM3 => ?_)
    obtain ⟨M3, eM3, h⟩ := z_lo h
    rw [← eM3] at wM3
    obtain rfl := Option.some.inj h
    exact z_rv (pc := 181) X wM3 dX9_scan_181
  · replace h := z_f c1 h
    refine lv_iconst (pc := 160) (v := 1) hx hb dX9_scan_160 (by decide) ?_
    refine lv_goto (pc := 161) (tgt := 168) hx hb dX9_scan_161 (by decide) ?_
    refine zp_Tape_kind (pc := 168) X hw zw_fl_2_34 dX9_scan_168 (fun HM4 lM4 wM4 => ?_)
    obtain ⟨M4, eM4, h⟩ := z_lo h
    rw [← eM4] at wM4
    refine lv_aload_n (pc := 171) hx hb dX9_scan_171 rfl (lv_at hl 1 rfl) ?_
    refine lv_dup (pc := 172) hx hb dX9_scan_172 rfl ?_
    refine zg_Tape_at (pc := 173) X wM4 zw_fl_2_32 dX9_scan_173 ?_
    refine lv_iconst (pc := 176) (v := 1) hx hb dX9_scan_176 (by decide) ?_
    refine lv_iadd (pc := 177) hx hb dX9_scan_177 ?_
    refine zp_Tape_at (pc := 178) X wM4 zw_fl_2_32 dX9_scan_178 (fun HM5 lM5 wM5 => ?_)
    obtain ⟨M5, eM5, h⟩ := z_lo h
    rw [← eM5] at wM5
    obtain rfl := Option.some.inj h
    exact z_rv (pc := 181) X wM5 dX9_scan_181
set_option maxHeartbeats 4000000 in
set_option maxRecDepth 100000 in
theorem w_X9_scan_52 {G : zG} {p : Program} {l : Launch} {e : Env} {s : State} {m : MethodId} {args : Array Value} {below : List Frame} {meth : Method} {c : Code} (X : z_C G p s m args meth c cX9_scan 2 RX9 none) {r : zM} : ∀  (M : zM) (H : Heap) (locs : List Loc) (ls : Array Slot), z_W G M H locs → lv_has ls 2 [(0, .ref (G.1 28))] → f_X9_scan_52  M = some r → W p l e (z_rm 6) s m args below meth c H locs 0 0 (z_Q G below args s none r) (F0 m 52 ls []) := by
  have hx := X.1
  have hb := X.2.1
  intro  M H locs ls  hw hl h
  unfold f_X9_scan_52 at h
  refine lv_aload_n (pc := 52) hx hb dX9_scan_52 rfl (lv_at hl 0 rfl) ?_
  refine lv_aload_n (pc := 53) hx hb dX9_scan_53 rfl (lv_at hl 0 rfl) ?_
  refine zg_Tape_at (pc := 54) X hw zw_fl_2_32 dX9_scan_54 ?_
  refine zp_Tape_place (pc := 57) X hw zw_fl_2_38 dX9_scan_57 (fun HM1 lM1 wM1 => ?_)
  obtain ⟨M1, eM1, h⟩ := z_lo h
  rw [← eM1] at wM1
  refine lv_aload_n (pc := 60) hx hb dX9_scan_60 rfl (lv_at hl 0 rfl) ?_
  refine zg_Tape_at (pc := 61) X wM1 zw_fl_2_32 dX9_scan_61 ?_
  refine lv_aload_n (pc := 64) hx hb dX9_scan_64 rfl (lv_at hl 0 rfl) ?_
  refine zg_Tape_length (pc := 65) X wM1 zw_fl_2_29 dX9_scan_65 ?_
  refine lv_icmp_lt (pc := 68) (tgt := 79) hx hb dX9_scan_68 (by decide) (fun c2 => ?_) (fun c2 => ?_)
  · replace h := z_t c2 h
    refine lv_aload_n (pc := 79) hx hb dX9_scan_79 rfl (lv_at hl 0 rfl) ?_
    refine zg_Tape_bytes (pc := 80) X wM1 zw_fl_2_31 dX9_scan_80 ?_
    refine lv_aload_n (pc := 83) hx hb dX9_scan_83 rfl (lv_at hl 0 rfl) ?_
    refine zg_Tape_at (pc := 84) X wM1 zw_fl_2_32 dX9_scan_84 ?_
    obtain ⟨g3, h⟩ := z_gd h
    refine z_bald (pc := 87) X wM1 zk_29 zl_29 g3 dX9_scan_87 ?_
    obtain ⟨x4, ex4, h⟩ := z_bd h
    refine z_csI (pc := 88) (rest := []) X wM1 (m_X9_isLetter  ex4) zw_ml_3_56 zw_st_3_57 zw_in_1_7 zw_co_3_58 zd_X9_isLetter (by decide) rfl hl.1 rfl (Nat.le_of_ble_eq_true rfl) dX9_scan_88 ⟨Nat.zero_le _, Nat.zero_le _⟩ (fun Hx4 lx4 wx4 => ?_)
    refine lv_if_eq (pc := 91) (tgt := 101) hx hb dX9_scan_91 (by decide) (fun c5 => ?_) (fun c5 => ?_)
    · replace h := z_t c5 h
      refine lv_aload_n (pc := 101) hx hb dX9_scan_101 rfl (lv_at hl 0 rfl) ?_
      refine zg_Tape_bytes (pc := 102) X wx4 zw_fl_2_31 dX9_scan_102 ?_
      refine lv_aload_n (pc := 105) hx hb dX9_scan_105 rfl (lv_at hl 0 rfl) ?_
      refine zg_Tape_at (pc := 106) X wx4 zw_fl_2_32 dX9_scan_106 ?_
      obtain ⟨g6, h⟩ := z_gd h
      refine z_bald (pc := 109) X wx4 zk_29 zl_29 g6 dX9_scan_109 ?_
      obtain ⟨x7, ex7, h⟩ := z_bd h
      refine z_csI (pc := 110) (rest := []) X wx4 (m_X9_isDigit  ex7) zw_ml_3_117 zw_st_3_118 zw_in_1_7 zw_co_3_119 zd_X9_isDigit (by decide) rfl hl.1 rfl (Nat.le_of_ble_eq_true rfl) dX9_scan_110 ⟨Nat.zero_le _, Nat.zero_le _⟩ (fun Hx7 lx7 wx7 => ?_)
      refine lv_if_eq (pc := 113) (tgt := 123) hx hb dX9_scan_113 (by decide) (fun c8 => ?_) (fun c8 => ?_)
      · replace h := z_t c8 h
        refine lv_aload_n (pc := 123) hx hb dX9_scan_123 rfl (lv_at hl 0 rfl) ?_
        refine zg_Tape_bytes (pc := 124) X wx7 zw_fl_2_31 dX9_scan_124 ?_
        refine lv_aload_n (pc := 127) hx hb dX9_scan_127 rfl (lv_at hl 0 rfl) ?_
        refine zg_Tape_at (pc := 128) X wx7 zw_fl_2_32 dX9_scan_128 ?_
        obtain ⟨g9, h⟩ := z_gd h
        refine z_bald (pc := 131) X wx7 zk_29 zl_29 g9 dX9_scan_131 ?_
        refine lv_if_le (pc := 132) (tgt := 153) hx hb dX9_scan_132 (by decide) (fun c10 => ?_) (fun c10 => ?_)
        · replace h := z_t c10 h
          refine lv_iconst (pc := 153) (v := -1) hx hb dX9_scan_153 (by decide) ?_
          exact w_X9_scan_154 X (-1 : Int32) x7.2 Hx7 lx7 ls  wx7 (lv_sub hl [0] rfl) h
        · replace h := z_f c10 h
          refine z_ldcS (pc := 135) X 1 (by decide) ⟨rfl, rfl⟩ dX9_scan_135 ?_
          refine lv_aload_n (pc := 137) hx hb dX9_scan_137 rfl (lv_at hl 0 rfl) ?_
          refine zg_Tape_bytes (pc := 138) X wx7 zw_fl_2_31 dX9_scan_138 ?_
          refine lv_aload_n (pc := 141) hx hb dX9_scan_141 rfl (lv_at hl 0 rfl) ?_
          refine zg_Tape_at (pc := 142) X wx7 zw_fl_2_32 dX9_scan_142 ?_
          obtain ⟨g11, h⟩ := z_gd h
          refine z_bald (pc := 145) X wx7 zk_29 zl_29 g11 dX9_scan_145 ?_
          refine lv_i2c (pc := 146) hx hb dX9_scan_146 rfl ?_
          obtain ⟨x12, ex12, h⟩ := z_bd h
          refine z_cvSI (pc := 147) (rest := []) X wx7 (m_J0_indexOf_0f7a4 (by decide) ex12) (by decide) zw_ml_3_125 zw_im_3_126 zw_se_3_127 zw_in_1_13 zw_co_3_128 zd_J0_indexOf_0f7a4 (by decide) rfl hl.1 rfl (Nat.le_of_ble_eq_true rfl) dX9_scan_147 ⟨Nat.zero_le _, Nat.zero_le _⟩ (fun Hx12 lx12 wx12 => ?_)
          refine lv_goto (pc := 150) (tgt := 154) hx hb dX9_scan_150 (by decide) ?_
          exact w_X9_scan_154 X x12.1 x12.2 Hx12 lx12 ls  wx12 (lv_sub hl [0] rfl) h
      · replace h := z_f c8 h
        refine lv_aload_n (pc := 116) hx hb dX9_scan_116 rfl (lv_at hl 0 rfl) ?_
        obtain ⟨x13, ex13, h⟩ := z_bd h
        refine z_cvV (pc := 117) (rest := []) X wx7 (m_X9_scanNumber  ex13) (z_lt zk_28 (by decide)) (z_E9 zk_28) rfl zw_ml_3_120 zw_im_3_122 zw_se_S_6 zw_in_1_7 zw_co_3_123 zd_X9_scanNumber (by decide) rfl hl.1 rfl (Nat.le_of_ble_eq_true rfl) dX9_scan_117 ⟨Nat.zero_le _, Nat.zero_le _⟩ (fun Hx13 lx13 wx13 => ?_)
        refine lv_goto (pc := 120) (tgt := 181) hx hb dX9_scan_120 (by decide) ?_
        obtain rfl := Option.some.inj h
        exact z_rv (pc := 181) X wx13 dX9_scan_181
    · replace h := z_f c5 h
      refine lv_aload_n (pc := 94) hx hb dX9_scan_94 rfl (lv_at hl 0 rfl) ?_
      obtain ⟨x14, ex14, h⟩ := z_bd h
      refine z_cvV (pc := 95) (rest := []) X wx4 (m_X9_scanWord  ex14) (z_lt zk_28 (by decide)) (z_E9 zk_28) rfl zw_ml_3_60 zw_im_3_62 zw_se_S_4 zw_in_1_7 zw_co_3_63 zd_X9_scanWord (by decide) rfl hl.1 rfl (Nat.le_of_ble_eq_true rfl) dX9_scan_95 ⟨Nat.zero_le _, Nat.zero_le _⟩ (fun Hx14 lx14 wx14 => ?_)
      refine lv_goto (pc := 98) (tgt := 181) hx hb dX9_scan_98 (by decide) ?_
      obtain rfl := Option.some.inj h
      exact z_rv (pc := 181) X wx14 dX9_scan_181
  · replace h := z_f c2 h
    refine lv_aload_n (pc := 71) hx hb dX9_scan_71 rfl (lv_at hl 0 rfl) ?_
    refine lv_iconst (pc := 72) (v := 0) hx hb dX9_scan_72 (by decide) ?_
    refine zp_Tape_kind (pc := 73) X wM1 zw_fl_2_34 dX9_scan_73 (fun HM15 lM15 wM15 => ?_)
    obtain ⟨M15, eM15, h⟩ := z_lo h
    rw [← eM15] at wM15
    refine lv_goto (pc := 76) (tgt := 181) hx hb dX9_scan_76 (by decide) ?_
    obtain rfl := Option.some.inj h
    exact z_rv (pc := 181) X wM15 dX9_scan_181
set_option maxHeartbeats 4000000 in
set_option maxRecDepth 100000 in
theorem w_X9_scan_0 {G : zG} {p : Program} {l : Launch} {e : Env} {s : State} {m : MethodId} {args : Array Value} {below : List Frame} {meth : Method} {c : Code} (X : z_C G p s m args meth c cX9_scan 2 RX9 none) {r : zM} : ∀ (n : Nat)  (M : zM) (H : Heap) (locs : List Loc) (ls : Array Slot), z_W G M H locs → lv_has ls 2 [(0, .ref (G.1 28))] → f_X9_scan_0 n  M = some r → W p l e (z_rm 6) s m args below meth c H locs 0 0 (z_Q G below args s none r) (F0 m 0 ls []) := by
  have hx := X.1
  have hb := X.2.1
  intro n
  induction n with
  | zero =>
    intro  M H locs ls  hw hl h
    exact z_no h
  | succ n ih =>
    intro  M H locs ls  hw hl h
    rw [f_X9_scan_0] at h
    refine lv_aload_n (pc := 0) hx hb dX9_scan_0 rfl (lv_at hl 0 rfl) ?_
    refine zg_Tape_at (pc := 1) X hw zw_fl_2_32 dX9_scan_1 ?_
    refine lv_aload_n (pc := 4) hx hb dX9_scan_4 rfl (lv_at hl 0 rfl) ?_
    refine zg_Tape_length (pc := 5) X hw zw_fl_2_29 dX9_scan_5 ?_
    refine lv_icmp_ge (pc := 8) (tgt := 52) hx hb dX9_scan_8 (by decide) (fun c1 => ?_) (fun c1 => ?_)
    · replace h := z_t c1 h
      exact w_X9_scan_52 X  M H locs ls  hw (lv_sub hl [0] rfl) h
    · replace h := z_f c1 h
      refine lv_aload_n (pc := 11) hx hb dX9_scan_11 rfl (lv_at hl 0 rfl) ?_
      refine zg_Tape_bytes (pc := 12) X hw zw_fl_2_31 dX9_scan_12 ?_
      refine lv_aload_n (pc := 15) hx hb dX9_scan_15 rfl (lv_at hl 0 rfl) ?_
      refine zg_Tape_at (pc := 16) X hw zw_fl_2_32 dX9_scan_16 ?_
      obtain ⟨g2, h⟩ := z_gd h
      refine z_bald (pc := 19) X hw zk_29 zl_29 g2 dX9_scan_19 ?_
      refine lv_bipush (pc := 20) (v := 32) hx hb dX9_scan_20 (by decide) ?_
      refine lv_icmp_eq (pc := 22) (tgt := 39) hx hb dX9_scan_22 (by decide) (fun c3 => ?_) (fun c3 => ?_)
      · replace h := z_t c3 h
        refine lv_aload_n (pc := 39) hx hb dX9_scan_39 rfl (lv_at hl 0 rfl) ?_
        refine lv_dup (pc := 40) hx hb dX9_scan_40 rfl ?_
        refine zg_Tape_at (pc := 41) X hw zw_fl_2_32 dX9_scan_41 ?_
        refine lv_iconst (pc := 44) (v := 1) hx hb dX9_scan_44 (by decide) ?_
        refine lv_iadd (pc := 45) hx hb dX9_scan_45 ?_
        refine zp_Tape_at (pc := 46) X hw zw_fl_2_32 dX9_scan_46 (fun HM4 lM4 wM4 => ?_)
        obtain ⟨M4, eM4, h⟩ := z_lo h
        rw [← eM4] at wM4
        refine lv_goto (pc := 49) (tgt := 0) hx hb dX9_scan_49 (by decide) ?_
        exact ih  M4 HM4 lM4 ls  wM4 (lv_sub hl [0] rfl) h
      · replace h := z_f c3 h
        refine lv_aload_n (pc := 25) hx hb dX9_scan_25 rfl (lv_at hl 0 rfl) ?_
        refine zg_Tape_bytes (pc := 26) X hw zw_fl_2_31 dX9_scan_26 ?_
        refine lv_aload_n (pc := 29) hx hb dX9_scan_29 rfl (lv_at hl 0 rfl) ?_
        refine zg_Tape_at (pc := 30) X hw zw_fl_2_32 dX9_scan_30 ?_
        obtain ⟨g5, h⟩ := z_gd h
        refine z_bald (pc := 33) X hw zk_29 zl_29 g5 dX9_scan_33 ?_
        refine lv_bipush (pc := 34) (v := 10) hx hb dX9_scan_34 (by decide) ?_
        refine lv_icmp_ne (pc := 36) (tgt := 52) hx hb dX9_scan_36 (by decide) (fun c6 => ?_) (fun c6 => ?_)
        · replace h := z_f c6 h
          exact w_X9_scan_52 X  M H locs ls  hw (lv_sub hl [0] rfl) h
        · replace h := z_t c6 h
          refine lv_aload_n (pc := 39) hx hb dX9_scan_39 rfl (lv_at hl 0 rfl) ?_
          refine lv_dup (pc := 40) hx hb dX9_scan_40 rfl ?_
          refine zg_Tape_at (pc := 41) X hw zw_fl_2_32 dX9_scan_41 ?_
          refine lv_iconst (pc := 44) (v := 1) hx hb dX9_scan_44 (by decide) ?_
          refine lv_iadd (pc := 45) hx hb dX9_scan_45 ?_
          refine zp_Tape_at (pc := 46) X hw zw_fl_2_32 dX9_scan_46 (fun HM7 lM7 wM7 => ?_)
          obtain ⟨M7, eM7, h⟩ := z_lo h
          rw [← eM7] at wM7
          refine lv_goto (pc := 49) (tgt := 0) hx hb dX9_scan_49 (by decide) ?_
          exact ih  M7 HM7 lM7 ls  wM7 (lv_sub hl [0] rfl) h
set_option maxHeartbeats 4000000 in
set_option maxRecDepth 100000 in
theorem m_X9_scan {l : Launch} {G : zG} {M : zM} {r : zM} (h : f_X9_scan  M = some r) : z_T l G 6 yX9_scan (.code yX9_scan cX9_scan 2 none) [.ref (G.1 28)] M none r := by
  refine z_of rfl ?_
  intro p e s m below meth c X hw
  have hl := lv_entry [.ref (G.1 28)] (n := 2) (Nat.le_of_ble_eq_true rfl)
  rw [lg_entry_eq]
  generalize (lg_sl [.ref (G.1 28)] ++ List.replicate (2 - (lg_sl [.ref (G.1 28)]).length) Slot.unset).toArray = ls at hl ⊢
  have hl : lv_has ls 2 [(0, .ref (G.1 28))] := hl
  generalize ([.ref (G.1 28)] : List Value).toArray = args at X ⊢
  have X : z_C G p s m args meth c cX9_scan 2 RX9 none := X
  have hx := X.1
  have hb := X.2.1
  unfold f_X9_scan at h
  refine lv_aload_n (pc := 0) hx hb dX9_scan_0 rfl (lv_at hl 0 rfl) ?_
  refine zg_Tape_at (pc := 1) X hw zw_fl_2_32 dX9_scan_1 ?_
  refine lv_aload_n (pc := 4) hx hb dX9_scan_4 rfl (lv_at hl 0 rfl) ?_
  refine zg_Tape_length (pc := 5) X hw zw_fl_2_29 dX9_scan_5 ?_
  refine lv_icmp_ge (pc := 8) (tgt := 52) hx hb dX9_scan_8 (by decide) (fun c1 => ?_) (fun c1 => ?_)
  · replace h := z_t c1 h
    exact w_X9_scan_52 X  M s.heap [] ls  hw (lv_sub hl [0] rfl) h
  · replace h := z_f c1 h
    refine lv_aload_n (pc := 11) hx hb dX9_scan_11 rfl (lv_at hl 0 rfl) ?_
    refine zg_Tape_bytes (pc := 12) X hw zw_fl_2_31 dX9_scan_12 ?_
    refine lv_aload_n (pc := 15) hx hb dX9_scan_15 rfl (lv_at hl 0 rfl) ?_
    refine zg_Tape_at (pc := 16) X hw zw_fl_2_32 dX9_scan_16 ?_
    obtain ⟨g2, h⟩ := z_gd h
    refine z_bald (pc := 19) X hw zk_29 zl_29 g2 dX9_scan_19 ?_
    refine lv_bipush (pc := 20) (v := 32) hx hb dX9_scan_20 (by decide) ?_
    refine lv_icmp_eq (pc := 22) (tgt := 39) hx hb dX9_scan_22 (by decide) (fun c3 => ?_) (fun c3 => ?_)
    · replace h := z_t c3 h
      refine lv_aload_n (pc := 39) hx hb dX9_scan_39 rfl (lv_at hl 0 rfl) ?_
      refine lv_dup (pc := 40) hx hb dX9_scan_40 rfl ?_
      refine zg_Tape_at (pc := 41) X hw zw_fl_2_32 dX9_scan_41 ?_
      refine lv_iconst (pc := 44) (v := 1) hx hb dX9_scan_44 (by decide) ?_
      refine lv_iadd (pc := 45) hx hb dX9_scan_45 ?_
      refine zp_Tape_at (pc := 46) X hw zw_fl_2_32 dX9_scan_46 (fun HM4 lM4 wM4 => ?_)
      obtain ⟨M4, eM4, h⟩ := z_lo h
      rw [← eM4] at wM4
      refine lv_goto (pc := 49) (tgt := 0) hx hb dX9_scan_49 (by decide) ?_
      exact w_X9_scan_0 X z_F  M4 HM4 lM4 ls  wM4 (lv_sub hl [0] rfl) h
    · replace h := z_f c3 h
      refine lv_aload_n (pc := 25) hx hb dX9_scan_25 rfl (lv_at hl 0 rfl) ?_
      refine zg_Tape_bytes (pc := 26) X hw zw_fl_2_31 dX9_scan_26 ?_
      refine lv_aload_n (pc := 29) hx hb dX9_scan_29 rfl (lv_at hl 0 rfl) ?_
      refine zg_Tape_at (pc := 30) X hw zw_fl_2_32 dX9_scan_30 ?_
      obtain ⟨g5, h⟩ := z_gd h
      refine z_bald (pc := 33) X hw zk_29 zl_29 g5 dX9_scan_33 ?_
      refine lv_bipush (pc := 34) (v := 10) hx hb dX9_scan_34 (by decide) ?_
      refine lv_icmp_ne (pc := 36) (tgt := 52) hx hb dX9_scan_36 (by decide) (fun c6 => ?_) (fun c6 => ?_)
      · replace h := z_f c6 h
        exact w_X9_scan_52 X  M s.heap [] ls  hw (lv_sub hl [0] rfl) h
      · replace h := z_t c6 h
        refine lv_aload_n (pc := 39) hx hb dX9_scan_39 rfl (lv_at hl 0 rfl) ?_
        refine lv_dup (pc := 40) hx hb dX9_scan_40 rfl ?_
        refine zg_Tape_at (pc := 41) X hw zw_fl_2_32 dX9_scan_41 ?_
        refine lv_iconst (pc := 44) (v := 1) hx hb dX9_scan_44 (by decide) ?_
        refine lv_iadd (pc := 45) hx hb dX9_scan_45 ?_
        refine zp_Tape_at (pc := 46) X hw zw_fl_2_32 dX9_scan_46 (fun HM7 lM7 wM7 => ?_)
        obtain ⟨M7, eM7, h⟩ := z_lo h
        rw [← eM7] at wM7
        refine lv_goto (pc := 49) (tgt := 0) hx hb dX9_scan_49 (by decide) ?_
        exact w_X9_scan_0 X z_F  M7 HM7 lM7 ls  wM7 (lv_sub hl [0] rfl) h
def f_X4_takeLine (i1 : Int32) (M : zM) : Option (zM) :=
  if i1 = 0 then (
    z_l (z_w M 30 8 (1 : Int32)) fun M10 =>
    some M10
  ) else (
    if i1 = (3 : Int32) then (
      if (M.1 15 0) < (16 : Int32) then (
        z_l (z_w M 30 2 (1 : Int32)) fun M4 =>
        z_l (z_w M4 30 3 (0 : Int32)) fun M5 =>
        z_l (z_w M5 30 4 (0 : Int32)) fun M6 =>
        z_l (z_w M6 30 5 (0 : Int32)) fun M7 =>
        some M7
      ) else (
        z_l (z_w M 30 0 (3 : Int32)) fun M8 =>
        some M8
      )
    ) else (
      z_l (z_w M 30 0 (1 : Int32)) fun M9 =>
      some M9
    )
  )
set_option maxHeartbeats 4000000 in
set_option maxRecDepth 100000 in
theorem m_X4_takeLine {l : Launch} {G : zG} {i1 : Int32} {M : zM} {r : zM} (h : f_X4_takeLine i1 M = some r) : z_T l G 0 yX4_takeLine (.code yX4_takeLine cX4_takeLine 2 none) [.ref (G.1 30), .int i1] M none r := by
  refine z_of rfl ?_
  intro p e s m below meth c X hw
  have hl := lv_entry [.ref (G.1 30), .int i1] (n := 2) (Nat.le_of_ble_eq_true rfl)
  rw [lg_entry_eq]
  generalize (lg_sl [.ref (G.1 30), .int i1] ++ List.replicate (2 - (lg_sl [.ref (G.1 30), .int i1]).length) Slot.unset).toArray = ls at hl ⊢
  have hl : lv_has ls 2 [(0, .ref (G.1 30)), (1, .int i1)] := hl
  generalize ([.ref (G.1 30), .int i1] : List Value).toArray = args at X ⊢
  have X : z_C G p s m args meth c cX4_takeLine 2 RX4 none := X
  have hx := X.1
  have hb := X.2.1
  unfold f_X4_takeLine at h
  refine lv_iload_n (pc := 0) hx hb dX4_takeLine_0 rfl (lv_at hl 1 rfl) ?_
  refine lv_if_ne (pc := 1) (tgt := 12) hx hb dX4_takeLine_1 (by decide) (fun c1 => ?_) (fun c1 => ?_)
  · replace h := z_f c1 h
    refine lv_iload_n (pc := 12) hx hb dX4_takeLine_12 rfl (lv_at hl 1 rfl) ?_
    refine lv_iconst (pc := 13) (v := 3) hx hb dX4_takeLine_13 (by decide) ?_
    refine lv_icmp_eq (pc := 14) (tgt := 25) hx hb dX4_takeLine_14 (by decide) (fun c2 => ?_) (fun c2 => ?_)
    · replace h := z_t c2 h
      refine lv_aload_n (pc := 25) hx hb dX4_takeLine_25 rfl (lv_at hl 0 rfl) ?_
      refine zg_Reader_law (pc := 26) X hw zw_fl_2_73 dX4_takeLine_26 ?_
      refine zg_Law_lines (pc := 29) X hw zk_15 zw_fl_1_167 dX4_takeLine_29 ?_
      refine lv_bipush (pc := 32) (v := 16) hx hb dX4_takeLine_32 (by decide) ?_
      refine lv_icmp_lt (pc := 34) (tgt := 45) hx hb dX4_takeLine_34 (by decide) (fun c3 => ?_) (fun c3 => ?_)
      · replace h := z_t c3 h
        refine lv_aload_n (pc := 45) hx hb dX4_takeLine_45 rfl (lv_at hl 0 rfl) ?_
        refine lv_iconst (pc := 46) (v := 1) hx hb dX4_takeLine_46 (by decide) ?_
        refine zp_Reader_state (pc := 47) X hw zw_fl_2_65 dX4_takeLine_47 (fun HM4 lM4 wM4 => ?_)
        obtain ⟨M4, eM4, h⟩ := z_lo h
        rw [← eM4] at wM4
        refine lv_aload_n (pc := 50) hx hb dX4_takeLine_50 rfl (lv_at hl 0 rfl) ?_
        refine lv_iconst (pc := 51) (v := 0) hx hb dX4_takeLine_51 (by decide) ?_
        refine zp_Reader_side (pc := 52) X wM4 zw_fl_2_66 dX4_takeLine_52 (fun HM5 lM5 wM5 => ?_)
        obtain ⟨M5, eM5, h⟩ := z_lo h
        rw [← eM5] at wM5
        refine lv_aload_n (pc := 55) hx hb dX4_takeLine_55 rfl (lv_at hl 0 rfl) ?_
        refine lv_iconst (pc := 56) (v := 0) hx hb dX4_takeLine_56 (by decide) ?_
        refine zp_Reader_open (pc := 57) X wM5 zw_fl_2_67 dX4_takeLine_57 (fun HM6 lM6 wM6 => ?_)
        obtain ⟨M6, eM6, h⟩ := z_lo h
        rw [← eM6] at wM6
        refine lv_aload_n (pc := 60) hx hb dX4_takeLine_60 rfl (lv_at hl 0 rfl) ?_
        refine lv_iconst (pc := 61) (v := 0) hx hb dX4_takeLine_61 (by decide) ?_
        refine zp_Reader_brackets (pc := 62) X wM6 zw_fl_2_68 dX4_takeLine_62 (fun HM7 lM7 wM7 => ?_)
        obtain ⟨M7, eM7, h⟩ := z_lo h
        rw [← eM7] at wM7
        obtain rfl := Option.some.inj h
        exact z_rv (pc := 65) X wM7 dX4_takeLine_65
      · replace h := z_f c3 h
        refine lv_aload_n (pc := 37) hx hb dX4_takeLine_37 rfl (lv_at hl 0 rfl) ?_
        refine lv_iconst (pc := 38) (v := 3) hx hb dX4_takeLine_38 (by decide) ?_
        refine zp_Reader_fault (pc := 39) X hw zw_fl_2_61 dX4_takeLine_39 (fun HM8 lM8 wM8 => ?_)
        obtain ⟨M8, eM8, h⟩ := z_lo h
        rw [← eM8] at wM8
        refine lv_goto (pc := 42) (tgt := 65) hx hb dX4_takeLine_42 (by decide) ?_
        obtain rfl := Option.some.inj h
        exact z_rv (pc := 65) X wM8 dX4_takeLine_65
    · replace h := z_f c2 h
      refine lv_aload_n (pc := 17) hx hb dX4_takeLine_17 rfl (lv_at hl 0 rfl) ?_
      refine lv_iconst (pc := 18) (v := 1) hx hb dX4_takeLine_18 (by decide) ?_
      refine zp_Reader_fault (pc := 19) X hw zw_fl_2_61 dX4_takeLine_19 (fun HM9 lM9 wM9 => ?_)
      obtain ⟨M9, eM9, h⟩ := z_lo h
      rw [← eM9] at wM9
      refine lv_goto (pc := 22) (tgt := 65) hx hb dX4_takeLine_22 (by decide) ?_
      obtain rfl := Option.some.inj h
      exact z_rv (pc := 65) X wM9 dX4_takeLine_65
  · replace h := z_t c1 h
    refine lv_aload_n (pc := 4) hx hb dX4_takeLine_4 rfl (lv_at hl 0 rfl) ?_
    refine lv_iconst (pc := 5) (v := 1) hx hb dX4_takeLine_5 (by decide) ?_
    refine zp_Reader_ended (pc := 6) X hw zw_fl_2_71 rfl rfl dX4_takeLine_6 (fun HM10 lM10 wM10 => ?_)
    obtain ⟨M10, eM10, h⟩ := z_lo h
    rw [← eM10] at wM10
    refine lv_goto (pc := 9) (tgt := 65) hx hb dX4_takeLine_9 (by decide) ?_
    obtain rfl := Option.some.inj h
    exact z_rv (pc := 65) X wM10 dX4_takeLine_65
def f_X4_takeUnit (i1 : Int32) (M : zM) : Option (zM) :=
  if i1 = (2 : Int32) then (
    (f_X3_add 15 (M.1 30 9) M).bind fun x7 =>
    z_l (z_w x7 30 2 (4 : Int32)) fun M8 =>
    some M8
  ) else (
    (f_X10_within i1 (8 : Int32) (15 : Int32) M).bind fun x2 =>
    if x2.1 = 0 then (
      z_l (z_w x2.2 30 0 (1 : Int32)) fun M4 =>
      some M4
    ) else (
      (f_X3_add 15 (-i1) x2.2).bind fun x5 =>
      z_l (z_w x5 30 2 (4 : Int32)) fun M6 =>
      some M6
    )
  )
set_option maxHeartbeats 4000000 in
set_option maxRecDepth 100000 in
theorem m_X4_takeUnit {l : Launch} {G : zG} {i1 : Int32} {M : zM} {r : zM} (h : f_X4_takeUnit i1 M = some r) : z_T l G 1 yX4_takeUnit (.code yX4_takeUnit cX4_takeUnit 2 none) [.ref (G.1 30), .int i1] M none r := by
  refine z_of rfl ?_
  intro p e s m below meth c X hw
  have hl := lv_entry [.ref (G.1 30), .int i1] (n := 2) (Nat.le_of_ble_eq_true rfl)
  rw [lg_entry_eq]
  generalize (lg_sl [.ref (G.1 30), .int i1] ++ List.replicate (2 - (lg_sl [.ref (G.1 30), .int i1]).length) Slot.unset).toArray = ls at hl ⊢
  have hl : lv_has ls 2 [(0, .ref (G.1 30)), (1, .int i1)] := hl
  generalize ([.ref (G.1 30), .int i1] : List Value).toArray = args at X ⊢
  have X : z_C G p s m args meth c cX4_takeUnit 2 RX4 none := X
  have hx := X.1
  have hb := X.2.1
  unfold f_X4_takeUnit at h
  refine lv_iload_n (pc := 0) hx hb dX4_takeUnit_0 rfl (lv_at hl 1 rfl) ?_
  refine lv_iconst (pc := 1) (v := 2) hx hb dX4_takeUnit_1 (by decide) ?_
  refine lv_icmp_ne (pc := 2) (tgt := 24) hx hb dX4_takeUnit_2 (by decide) (fun c1 => ?_) (fun c1 => ?_)
  · replace h := z_f c1 h
    refine lv_iload_n (pc := 24) hx hb dX4_takeUnit_24 rfl (lv_at hl 1 rfl) ?_
    refine lv_bipush (pc := 25) (v := 8) hx hb dX4_takeUnit_25 (by decide) ?_
    refine lv_bipush (pc := 27) (v := 15) hx hb dX4_takeUnit_27 (by decide) ?_
    obtain ⟨x2, ex2, h⟩ := z_bd h
    refine z_csnI (pc := 29) (rest := []) X hw (m_X10_within  ex2) zwn_X4_79 zw_st_2_209 zw_in_1_1 zw_co_2_210 zd_X10_within (by decide) rfl hl.1 rfl (Nat.le_of_ble_eq_true rfl) dX4_takeUnit_29 ⟨Nat.zero_le _, Nat.zero_le _⟩ (fun Hx2 lx2 wx2 => ?_)
    refine lv_if_eq (pc := 32) (tgt := 52) hx hb dX4_takeUnit_32 (by decide) (fun c3 => ?_) (fun c3 => ?_)
    · replace h := z_t c3 h
      refine lv_aload_n (pc := 52) hx hb dX4_takeUnit_52 rfl (lv_at hl 0 rfl) ?_
      refine lv_iconst (pc := 53) (v := 1) hx hb dX4_takeUnit_53 (by decide) ?_
      refine zp_Reader_fault (pc := 54) X wx2 zw_fl_2_61 dX4_takeUnit_54 (fun HM4 lM4 wM4 => ?_)
      obtain ⟨M4, eM4, h⟩ := z_lo h
      rw [← eM4] at wM4
      obtain rfl := Option.some.inj h
      exact z_rv (pc := 57) X wM4 dX4_takeUnit_57
    · replace h := z_f c3 h
      refine lv_aload_n (pc := 35) hx hb dX4_takeUnit_35 rfl (lv_at hl 0 rfl) ?_
      refine zg_Reader_law (pc := 36) X wx2 zw_fl_2_73 dX4_takeUnit_36 ?_
      refine lv_iload_n (pc := 39) hx hb dX4_takeUnit_39 rfl (lv_at hl 1 rfl) ?_
      refine lv_ineg (pc := 40) hx hb dX4_takeUnit_40 ?_
      obtain ⟨x5, ex5, h⟩ := z_bd h
      refine z_cvV (pc := 41) (rest := []) X wx2 (m_X3_add zk_15 ex5) (z_lt zk_15 (by decide)) (z_E3 zk_15) rfl zw_ml_3_196 zw_im_3_197 zw_se_3_198 zw_in_1_5 zw_co_3_199 zd_X3_add (by decide) rfl hl.1 rfl (Nat.le_of_ble_eq_true rfl) dX4_takeUnit_41 ⟨Nat.zero_le _, Nat.zero_le _⟩ (fun Hx5 lx5 wx5 => ?_)
      refine lv_aload_n (pc := 44) hx hb dX4_takeUnit_44 rfl (lv_at hl 0 rfl) ?_
      refine lv_iconst (pc := 45) (v := 4) hx hb dX4_takeUnit_45 (by decide) ?_
      refine zp_Reader_state (pc := 46) X wx5 zw_fl_2_65 dX4_takeUnit_46 (fun HM6 lM6 wM6 => ?_)
      obtain ⟨M6, eM6, h⟩ := z_lo h
      rw [← eM6] at wM6
      refine lv_goto (pc := 49) (tgt := 57) hx hb dX4_takeUnit_49 (by decide) ?_
      obtain rfl := Option.some.inj h
      exact z_rv (pc := 57) X wM6 dX4_takeUnit_57
  · replace h := z_t c1 h
    refine lv_aload_n (pc := 5) hx hb dX4_takeUnit_5 rfl (lv_at hl 0 rfl) ?_
    refine zg_Reader_law (pc := 6) X hw zw_fl_2_73 dX4_takeUnit_6 ?_
    refine lv_aload_n (pc := 9) hx hb dX4_takeUnit_9 rfl (lv_at hl 0 rfl) ?_
    refine zg_Reader_value (pc := 10) X hw zw_fl_2_72 dX4_takeUnit_10 ?_
    obtain ⟨x7, ex7, h⟩ := z_bd h
    refine z_cvV (pc := 13) (rest := []) X hw (m_X3_add zk_15 ex7) (z_lt zk_15 (by decide)) (z_E3 zk_15) rfl zw_ml_3_196 zw_im_3_197 zw_se_3_198 zw_in_1_5 zw_co_3_199 zd_X3_add (by decide) rfl hl.1 rfl (Nat.le_of_ble_eq_true rfl) dX4_takeUnit_13 ⟨Nat.zero_le _, Nat.zero_le _⟩ (fun Hx7 lx7 wx7 => ?_)
    refine lv_aload_n (pc := 16) hx hb dX4_takeUnit_16 rfl (lv_at hl 0 rfl) ?_
    refine lv_iconst (pc := 17) (v := 4) hx hb dX4_takeUnit_17 (by decide) ?_
    refine zp_Reader_state (pc := 18) X wx7 zw_fl_2_65 dX4_takeUnit_18 (fun HM8 lM8 wM8 => ?_)
    obtain ⟨M8, eM8, h⟩ := z_lo h
    rw [← eM8] at wM8
    refine lv_goto (pc := 21) (tgt := 57) hx hb dX4_takeUnit_21 (by decide) ?_
    obtain rfl := Option.some.inj h
    exact z_rv (pc := 57) X wM8 dX4_takeUnit_57
def f_X4_takePart (i1 : Int32) (M : zM) : Option (zM) :=
  if i1 = (2 : Int32) then (
    if (M.1 30 9) = 0 then (
      z_l (z_w M 30 0 (2 : Int32)) fun M9 =>
      some M9
    ) else (
      if i1 = (2 : Int32) then (
        (f_X4_takeUnit i1 M).bind fun x8 =>
        some x8
      ) else (
        z_l (z_w M 30 0 (1 : Int32)) fun M7 =>
        some M7
      )
    )
  ) else (
    if i1 = (2 : Int32) then (
      (f_X4_takeUnit i1 M).bind fun x4 =>
      some x4
    ) else (
      z_l (z_w M 30 0 (1 : Int32)) fun M3 =>
      some M3
    )
  )
set_option maxHeartbeats 4000000 in
set_option maxRecDepth 100000 in
theorem m_X4_takePart {l : Launch} {G : zG} {i1 : Int32} {M : zM} {r : zM} (h : f_X4_takePart i1 M = some r) : z_T l G 2 yX4_takePart (.code yX4_takePart cX4_takePart 2 none) [.ref (G.1 30), .int i1] M none r := by
  refine z_of rfl ?_
  intro p e s m below meth c X hw
  have hl := lv_entry [.ref (G.1 30), .int i1] (n := 2) (Nat.le_of_ble_eq_true rfl)
  rw [lg_entry_eq]
  generalize (lg_sl [.ref (G.1 30), .int i1] ++ List.replicate (2 - (lg_sl [.ref (G.1 30), .int i1]).length) Slot.unset).toArray = ls at hl ⊢
  have hl : lv_has ls 2 [(0, .ref (G.1 30)), (1, .int i1)] := hl
  generalize ([.ref (G.1 30), .int i1] : List Value).toArray = args at X ⊢
  have X : z_C G p s m args meth c cX4_takePart 2 RX4 none := X
  have hx := X.1
  have hb := X.2.1
  unfold f_X4_takePart at h
  refine lv_iload_n (pc := 0) hx hb dX4_takePart_0 rfl (lv_at hl 1 rfl) ?_
  refine lv_iconst (pc := 1) (v := 2) hx hb dX4_takePart_1 (by decide) ?_
  refine lv_icmp_ne (pc := 2) (tgt := 20) hx hb dX4_takePart_2 (by decide) (fun c1 => ?_) (fun c1 => ?_)
  · replace h := z_f c1 h
    refine lv_iload_n (pc := 20) hx hb dX4_takePart_20 rfl (lv_at hl 1 rfl) ?_
    refine lv_iconst (pc := 21) (v := 2) hx hb dX4_takePart_21 (by decide) ?_
    refine lv_icmp_ne (pc := 22) (tgt := 33) hx hb dX4_takePart_22 (by decide) (fun c2 => ?_) (fun c2 => ?_)
    · replace h := z_f c2 h
      refine lv_aload_n (pc := 33) hx hb dX4_takePart_33 rfl (lv_at hl 0 rfl) ?_
      refine lv_iconst (pc := 34) (v := 1) hx hb dX4_takePart_34 (by decide) ?_
      refine zp_Reader_fault (pc := 35) X hw zw_fl_2_61 dX4_takePart_35 (fun HM3 lM3 wM3 => ?_)
      obtain ⟨M3, eM3, h⟩ := z_lo h
      rw [← eM3] at wM3
      obtain rfl := Option.some.inj h
      exact z_rv (pc := 38) X wM3 dX4_takePart_38
    · replace h := z_t c2 h
      refine lv_aload_n (pc := 25) hx hb dX4_takePart_25 rfl (lv_at hl 0 rfl) ?_
      refine lv_iload_n (pc := 26) hx hb dX4_takePart_26 rfl (lv_at hl 1 rfl) ?_
      obtain ⟨x4, ex4, h⟩ := z_bd h
      refine z_cvV (pc := 27) (rest := []) X hw (m_X4_takeUnit  ex4) (z_lt zk_30 (by decide)) (z_E4 zk_30) rfl zw_ml_3_192 zw_im_3_194 zw_se_S_9 zw_in_1_8 zw_co_3_195 zd_X4_takeUnit (by decide) rfl hl.1 rfl (Nat.le_of_ble_eq_true rfl) dX4_takePart_27 ⟨Nat.zero_le _, Nat.zero_le _⟩ (fun Hx4 lx4 wx4 => ?_)
      refine lv_goto (pc := 30) (tgt := 38) hx hb dX4_takePart_30 (by decide) ?_
      obtain rfl := Option.some.inj h
      exact z_rv (pc := 38) X wx4 dX4_takePart_38
  · replace h := z_t c1 h
    refine lv_aload_n (pc := 5) hx hb dX4_takePart_5 rfl (lv_at hl 0 rfl) ?_
    refine zg_Reader_value (pc := 6) X hw zw_fl_2_72 dX4_takePart_6 ?_
    refine lv_if_ne (pc := 9) (tgt := 20) hx hb dX4_takePart_9 (by decide) (fun c5 => ?_) (fun c5 => ?_)
    · replace h := z_f c5 h
      refine lv_iload_n (pc := 20) hx hb dX4_takePart_20 rfl (lv_at hl 1 rfl) ?_
      refine lv_iconst (pc := 21) (v := 2) hx hb dX4_takePart_21 (by decide) ?_
      refine lv_icmp_ne (pc := 22) (tgt := 33) hx hb dX4_takePart_22 (by decide) (fun c6 => ?_) (fun c6 => ?_)
      · replace h := z_f c6 h
        refine lv_aload_n (pc := 33) hx hb dX4_takePart_33 rfl (lv_at hl 0 rfl) ?_
        refine lv_iconst (pc := 34) (v := 1) hx hb dX4_takePart_34 (by decide) ?_
        refine zp_Reader_fault (pc := 35) X hw zw_fl_2_61 dX4_takePart_35 (fun HM7 lM7 wM7 => ?_)
        obtain ⟨M7, eM7, h⟩ := z_lo h
        rw [← eM7] at wM7
        obtain rfl := Option.some.inj h
        exact z_rv (pc := 38) X wM7 dX4_takePart_38
      · replace h := z_t c6 h
        refine lv_aload_n (pc := 25) hx hb dX4_takePart_25 rfl (lv_at hl 0 rfl) ?_
        refine lv_iload_n (pc := 26) hx hb dX4_takePart_26 rfl (lv_at hl 1 rfl) ?_
        obtain ⟨x8, ex8, h⟩ := z_bd h
        refine z_cvV (pc := 27) (rest := []) X hw (m_X4_takeUnit  ex8) (z_lt zk_30 (by decide)) (z_E4 zk_30) rfl zw_ml_3_192 zw_im_3_194 zw_se_S_9 zw_in_1_8 zw_co_3_195 zd_X4_takeUnit (by decide) rfl hl.1 rfl (Nat.le_of_ble_eq_true rfl) dX4_takePart_27 ⟨Nat.zero_le _, Nat.zero_le _⟩ (fun Hx8 lx8 wx8 => ?_)
        refine lv_goto (pc := 30) (tgt := 38) hx hb dX4_takePart_30 (by decide) ?_
        obtain rfl := Option.some.inj h
        exact z_rv (pc := 38) X wx8 dX4_takePart_38
    · replace h := z_t c5 h
      refine lv_aload_n (pc := 12) hx hb dX4_takePart_12 rfl (lv_at hl 0 rfl) ?_
      refine lv_iconst (pc := 13) (v := 2) hx hb dX4_takePart_13 (by decide) ?_
      refine zp_Reader_fault (pc := 14) X hw zw_fl_2_61 dX4_takePart_14 (fun HM9 lM9 wM9 => ?_)
      obtain ⟨M9, eM9, h⟩ := z_lo h
      rw [← eM9] at wM9
      refine lv_goto (pc := 17) (tgt := 38) hx hb dX4_takePart_17 (by decide) ?_
      obtain rfl := Option.some.inj h
      exact z_rv (pc := 38) X wM9 dX4_takePart_38
def f_X4_await (i1 : Int32) (M : zM) : Option (zM) :=
  if (40 : Int32) ≤ (M.1 30 6) then (
    some M
  ) else (
    z_g (z_ix (M.1 30 6) 40) <|
    z_l (z_w M 31 (Int32.toNatClampNeg (M.1 30 6)) i1) fun M3 =>
    z_l (z_w M3 30 6 ((M3.1 30 6) + (1 : Int32))) fun M4 =>
    some M4
  )
set_option maxHeartbeats 4000000 in
set_option maxRecDepth 100000 in
theorem m_X4_await {l : Launch} {G : zG} {i1 : Int32} {M : zM} {r : zM} (h : f_X4_await i1 M = some r) : z_T l G 0 yX4_await (.code yX4_await cX4_await 2 none) [.ref (G.1 30), .int i1] M none r := by
  refine z_of rfl ?_
  intro p e s m below meth c X hw
  have hl := lv_entry [.ref (G.1 30), .int i1] (n := 2) (Nat.le_of_ble_eq_true rfl)
  rw [lg_entry_eq]
  generalize (lg_sl [.ref (G.1 30), .int i1] ++ List.replicate (2 - (lg_sl [.ref (G.1 30), .int i1]).length) Slot.unset).toArray = ls at hl ⊢
  have hl : lv_has ls 2 [(0, .ref (G.1 30)), (1, .int i1)] := hl
  generalize ([.ref (G.1 30), .int i1] : List Value).toArray = args at X ⊢
  have X : z_C G p s m args meth c cX4_await 2 RX4 none := X
  have hx := X.1
  have hb := X.2.1
  unfold f_X4_await at h
  refine lv_aload_n (pc := 0) hx hb dX4_await_0 rfl (lv_at hl 0 rfl) ?_
  refine zg_Reader_waits (pc := 1) X hw zw_fl_2_69 dX4_await_1 ?_
  refine lv_bipush (pc := 4) (v := 40) hx hb dX4_await_4 (by decide) ?_
  refine lv_icmp_ge (pc := 6) (tgt := 29) hx hb dX4_await_6 (by decide) (fun c1 => ?_) (fun c1 => ?_)
  · replace h := z_t c1 h
    obtain rfl := Option.some.inj h
    exact z_rv (pc := 29) X hw dX4_await_29
  · replace h := z_f c1 h
    refine lv_aload_n (pc := 9) hx hb dX4_await_9 rfl (lv_at hl 0 rfl) ?_
    refine zg_Reader_waiting (pc := 10) X hw zw_fl_2_70 dX4_await_10 ?_
    refine lv_aload_n (pc := 13) hx hb dX4_await_13 rfl (lv_at hl 0 rfl) ?_
    refine zg_Reader_waits (pc := 14) X hw zw_fl_2_69 dX4_await_14 ?_
    refine lv_iload_n (pc := 17) hx hb dX4_await_17 rfl (lv_at hl 1 rfl) ?_
    obtain ⟨g2, h⟩ := z_gd h
    refine z_iast (pc := 18) X hw zk_31 zl_31 g2 dX4_await_18 (fun HM3 lM3 wM3 => ?_)
    obtain ⟨M3, eM3, h⟩ := z_lo h
    rw [← eM3] at wM3
    refine lv_aload_n (pc := 19) hx hb dX4_await_19 rfl (lv_at hl 0 rfl) ?_
    refine lv_dup (pc := 20) hx hb dX4_await_20 rfl ?_
    refine zg_Reader_waits (pc := 21) X wM3 zw_fl_2_69 dX4_await_21 ?_
    refine lv_iconst (pc := 24) (v := 1) hx hb dX4_await_24 (by decide) ?_
    refine lv_iadd (pc := 25) hx hb dX4_await_25 ?_
    refine zp_Reader_waits (pc := 26) X wM3 zw_fl_2_69 dX4_await_26 (fun HM4 lM4 wM4 => ?_)
    obtain ⟨M4, eM4, h⟩ := z_lo h
    rw [← eM4] at wM4
    obtain rfl := Option.some.inj h
    exact z_rv (pc := 29) X wM4 dX4_await_29
def f_X4_takeCase_25 (i1 : Int32) (M : zM) : Option (zM) :=
    if (M.1 30 4) < (8 : Int32) then (
      z_l (z_w M 30 4 ((M.1 30 4) + (1 : Int32))) fun M2 =>
      if i1 = (21 : Int32) then (
        z_l (z_w M2 30 5 ((M2.1 30 5) + (1 : Int32))) fun M6 =>
        (f_X4_await i1 M6).bind fun x7 =>
        some x7
      ) else (
        z_l (z_w M2 30 5 ((M2.1 30 5) + (0 : Int32))) fun M4 =>
        (f_X4_await i1 M4).bind fun x5 =>
        some x5
      )
    ) else (
      z_l (z_w M 30 0 (3 : Int32)) fun M8 =>
      some M8
    )
def f_X4_takeCase (i1 : Int32) (M : zM) : Option (zM) :=
  if i1 = (7 : Int32) then (
    f_X4_takeCase_25 i1 M
  ) else (
    if i1 = (21 : Int32) then (
      f_X4_takeCase_25 i1 M
    ) else (
      z_l (z_w M 30 3 (1 : Int32)) fun M3 =>
      (f_X4_takeUnit i1 M3).bind fun x4 =>
      some x4
    )
  )
set_option maxHeartbeats 4000000 in
set_option maxRecDepth 100000 in
theorem w_X4_takeCase_25 {G : zG} {p : Program} {l : Launch} {e : Env} {s : State} {m : MethodId} {args : Array Value} {below : List Frame} {meth : Method} {c : Code} (X : z_C G p s m args meth c cX4_takeCase 2 RX4 none) {r : zM} : ∀ (i1 : Int32) (M : zM) (H : Heap) (locs : List Loc) (ls : Array Slot), z_W G M H locs → lv_has ls 2 [(0, .ref (G.1 30)), (1, .int i1)] → f_X4_takeCase_25 i1 M = some r → W p l e (z_rm 2) s m args below meth c H locs 0 0 (z_Q G below args s none r) (F0 m 25 ls []) := by
  have hx := X.1
  have hb := X.2.1
  intro i1 M H locs ls  hw hl h
  unfold f_X4_takeCase_25 at h
  refine lv_aload_n (pc := 25) hx hb dX4_takeCase_25 rfl (lv_at hl 0 rfl) ?_
  refine zg_Reader_open (pc := 26) X hw zw_fl_2_67 dX4_takeCase_26 ?_
  refine lv_bipush (pc := 29) (v := 8) hx hb dX4_takeCase_29 (by decide) ?_
  refine lv_icmp_lt (pc := 31) (tgt := 42) hx hb dX4_takeCase_31 (by decide) (fun c1 => ?_) (fun c1 => ?_)
  · replace h := z_t c1 h
    refine lv_aload_n (pc := 42) hx hb dX4_takeCase_42 rfl (lv_at hl 0 rfl) ?_
    refine lv_dup (pc := 43) hx hb dX4_takeCase_43 rfl ?_
    refine zg_Reader_open (pc := 44) X hw zw_fl_2_67 dX4_takeCase_44 ?_
    refine lv_iconst (pc := 47) (v := 1) hx hb dX4_takeCase_47 (by decide) ?_
    refine lv_iadd (pc := 48) hx hb dX4_takeCase_48 ?_
    refine zp_Reader_open (pc := 49) X hw zw_fl_2_67 dX4_takeCase_49 (fun HM2 lM2 wM2 => ?_)
    obtain ⟨M2, eM2, h⟩ := z_lo h
    rw [← eM2] at wM2
    refine lv_aload_n (pc := 52) hx hb dX4_takeCase_52 rfl (lv_at hl 0 rfl) ?_
    refine lv_dup (pc := 53) hx hb dX4_takeCase_53 rfl ?_
    refine zg_Reader_brackets (pc := 54) X wM2 zw_fl_2_68 dX4_takeCase_54 ?_
    refine lv_iload_n (pc := 57) hx hb dX4_takeCase_57 rfl (lv_at hl 1 rfl) ?_
    refine lv_bipush (pc := 58) (v := 21) hx hb dX4_takeCase_58 (by decide) ?_
    refine lv_icmp_ne (pc := 60) (tgt := 67) hx hb dX4_takeCase_60 (by decide) (fun c3 => ?_) (fun c3 => ?_)
    · replace h := z_f c3 h
      refine lv_iconst (pc := 67) (v := 0) hx hb dX4_takeCase_67 (by decide) ?_
      refine lv_iadd (pc := 68) hx hb dX4_takeCase_68 ?_
      refine zp_Reader_brackets (pc := 69) X wM2 zw_fl_2_68 dX4_takeCase_69 (fun HM4 lM4 wM4 => ?_)
      obtain ⟨M4, eM4, h⟩ := z_lo h
      rw [← eM4] at wM4
      refine lv_aload_n (pc := 72) hx hb dX4_takeCase_72 rfl (lv_at hl 0 rfl) ?_
      refine lv_iload_n (pc := 73) hx hb dX4_takeCase_73 rfl (lv_at hl 1 rfl) ?_
      obtain ⟨x5, ex5, h⟩ := z_bd h
      refine z_cvV (pc := 74) (rest := []) X wM4 (m_X4_await  ex5) (z_lt zk_30 (by decide)) (z_E4 zk_30) rfl zw_ml_3_209 zw_im_3_211 zw_se_S_12 zw_in_1_8 zw_co_3_212 zd_X4_await (by decide) rfl hl.1 rfl (Nat.le_of_ble_eq_true rfl) dX4_takeCase_74 ⟨Nat.zero_le _, Nat.zero_le _⟩ (fun Hx5 lx5 wx5 => ?_)
      obtain rfl := Option.some.inj h
      exact z_rv (pc := 77) X wx5 dX4_takeCase_77
    · replace h := z_t c3 h
      refine lv_iconst (pc := 63) (v := 1) hx hb dX4_takeCase_63 (by decide) ?_
      refine lv_goto (pc := 64) (tgt := 68) hx hb dX4_takeCase_64 (by decide) ?_
      refine lv_iadd (pc := 68) hx hb dX4_takeCase_68 ?_
      refine zp_Reader_brackets (pc := 69) X wM2 zw_fl_2_68 dX4_takeCase_69 (fun HM6 lM6 wM6 => ?_)
      obtain ⟨M6, eM6, h⟩ := z_lo h
      rw [← eM6] at wM6
      refine lv_aload_n (pc := 72) hx hb dX4_takeCase_72 rfl (lv_at hl 0 rfl) ?_
      refine lv_iload_n (pc := 73) hx hb dX4_takeCase_73 rfl (lv_at hl 1 rfl) ?_
      obtain ⟨x7, ex7, h⟩ := z_bd h
      refine z_cvV (pc := 74) (rest := []) X wM6 (m_X4_await  ex7) (z_lt zk_30 (by decide)) (z_E4 zk_30) rfl zw_ml_3_209 zw_im_3_211 zw_se_S_12 zw_in_1_8 zw_co_3_212 zd_X4_await (by decide) rfl hl.1 rfl (Nat.le_of_ble_eq_true rfl) dX4_takeCase_74 ⟨Nat.zero_le _, Nat.zero_le _⟩ (fun Hx7 lx7 wx7 => ?_)
      obtain rfl := Option.some.inj h
      exact z_rv (pc := 77) X wx7 dX4_takeCase_77
  · replace h := z_f c1 h
    refine lv_aload_n (pc := 34) hx hb dX4_takeCase_34 rfl (lv_at hl 0 rfl) ?_
    refine lv_iconst (pc := 35) (v := 3) hx hb dX4_takeCase_35 (by decide) ?_
    refine zp_Reader_fault (pc := 36) X hw zw_fl_2_61 dX4_takeCase_36 (fun HM8 lM8 wM8 => ?_)
    obtain ⟨M8, eM8, h⟩ := z_lo h
    rw [← eM8] at wM8
    refine lv_goto (pc := 39) (tgt := 77) hx hb dX4_takeCase_39 (by decide) ?_
    obtain rfl := Option.some.inj h
    exact z_rv (pc := 77) X wM8 dX4_takeCase_77
set_option maxHeartbeats 4000000 in
set_option maxRecDepth 100000 in
theorem m_X4_takeCase {l : Launch} {G : zG} {i1 : Int32} {M : zM} {r : zM} (h : f_X4_takeCase i1 M = some r) : z_T l G 2 yX4_takeCase (.code yX4_takeCase cX4_takeCase 2 none) [.ref (G.1 30), .int i1] M none r := by
  refine z_of rfl ?_
  intro p e s m below meth c X hw
  have hl := lv_entry [.ref (G.1 30), .int i1] (n := 2) (Nat.le_of_ble_eq_true rfl)
  rw [lg_entry_eq]
  generalize (lg_sl [.ref (G.1 30), .int i1] ++ List.replicate (2 - (lg_sl [.ref (G.1 30), .int i1]).length) Slot.unset).toArray = ls at hl ⊢
  have hl : lv_has ls 2 [(0, .ref (G.1 30)), (1, .int i1)] := hl
  generalize ([.ref (G.1 30), .int i1] : List Value).toArray = args at X ⊢
  have X : z_C G p s m args meth c cX4_takeCase 2 RX4 none := X
  have hx := X.1
  have hb := X.2.1
  unfold f_X4_takeCase at h
  refine lv_iload_n (pc := 0) hx hb dX4_takeCase_0 rfl (lv_at hl 1 rfl) ?_
  refine lv_bipush (pc := 1) (v := 7) hx hb dX4_takeCase_1 (by decide) ?_
  refine lv_icmp_eq (pc := 3) (tgt := 25) hx hb dX4_takeCase_3 (by decide) (fun c1 => ?_) (fun c1 => ?_)
  · replace h := z_t c1 h
    exact w_X4_takeCase_25 X i1 M s.heap [] ls  hw (lv_sub hl [0, 1] rfl) h
  · replace h := z_f c1 h
    refine lv_iload_n (pc := 6) hx hb dX4_takeCase_6 rfl (lv_at hl 1 rfl) ?_
    refine lv_bipush (pc := 7) (v := 21) hx hb dX4_takeCase_7 (by decide) ?_
    refine lv_icmp_eq (pc := 9) (tgt := 25) hx hb dX4_takeCase_9 (by decide) (fun c2 => ?_) (fun c2 => ?_)
    · replace h := z_t c2 h
      exact w_X4_takeCase_25 X i1 M s.heap [] ls  hw (lv_sub hl [0, 1] rfl) h
    · replace h := z_f c2 h
      refine lv_aload_n (pc := 12) hx hb dX4_takeCase_12 rfl (lv_at hl 0 rfl) ?_
      refine lv_iconst (pc := 13) (v := 1) hx hb dX4_takeCase_13 (by decide) ?_
      refine zp_Reader_side (pc := 14) X hw zw_fl_2_66 dX4_takeCase_14 (fun HM3 lM3 wM3 => ?_)
      obtain ⟨M3, eM3, h⟩ := z_lo h
      rw [← eM3] at wM3
      refine lv_aload_n (pc := 17) hx hb dX4_takeCase_17 rfl (lv_at hl 0 rfl) ?_
      refine lv_iload_n (pc := 18) hx hb dX4_takeCase_18 rfl (lv_at hl 1 rfl) ?_
      obtain ⟨x4, ex4, h⟩ := z_bd h
      refine z_cvV (pc := 19) (rest := []) X wM3 (m_X4_takeUnit  ex4) (z_lt zk_30 (by decide)) (z_E4 zk_30) rfl zw_ml_3_192 zw_im_3_194 zw_se_S_9 zw_in_1_8 zw_co_3_195 zd_X4_takeUnit (by decide) rfl hl.1 rfl (Nat.le_of_ble_eq_true rfl) dX4_takeCase_19 ⟨Nat.zero_le _, Nat.zero_le _⟩ (fun Hx4 lx4 wx4 => ?_)
      refine lv_goto (pc := 22) (tgt := 77) hx hb dX4_takeCase_22 (by decide) ?_
      obtain rfl := Option.some.inj h
      exact z_rv (pc := 77) X wx4 dX4_takeCase_77
def f_X4_writeDownTo_0 : Nat → Int32 → zM → Option (zM)
  | 0, _, _ => none
  | n + 1, i1, M =>
    if (M.1 30 6) ≤ 0 then (
      some M
    ) else (
      z_l ((M.1 30 6) - (1 : Int32)) fun v2 =>
      z_g (z_ix v2 40) <|
      if (M.1 31 (Int32.toNatClampNeg v2)) = (21 : Int32) then (
        some M
      ) else (
        z_l ((M.1 30 6) - (1 : Int32)) fun v5 =>
        z_g (z_ix v5 40) <|
        z_l (M.1 31 (Int32.toNatClampNeg v5)) fun v7 =>
        z_g (z_ix v7 26) <|
        if (z_stL.getD (Int32.toNatClampNeg v7) 0) < i1 then (
          some M
        ) else (
          z_l (z_w M 30 6 ((M.1 30 6) - (1 : Int32))) fun M10 =>
          z_g (z_ix (M10.1 30 6) 40) <|
          if (M10.1 31 (Int32.toNatClampNeg (M10.1 30 6))) = (7 : Int32) then (
            z_l (z_w M10 30 4 ((M10.1 30 4) - (1 : Int32))) fun M16 =>
            z_g (z_ix (M16.1 30 6) 40) <|
            (f_X3_add 15 (-(M16.1 31 (Int32.toNatClampNeg (M16.1 30 6)))) M16).bind fun x18 =>
            f_X4_writeDownTo_0 n i1 x18
          ) else (
            z_l (z_w M10 30 4 ((M10.1 30 4) - (0 : Int32))) fun M13 =>
            z_g (z_ix (M13.1 30 6) 40) <|
            (f_X3_add 15 (-(M13.1 31 (Int32.toNatClampNeg (M13.1 30 6)))) M13).bind fun x15 =>
            f_X4_writeDownTo_0 n i1 x15
          )
        )
      )
    )
def f_X4_writeDownTo (i1 : Int32) (M : zM) : Option (zM) :=
  if (M.1 30 6) ≤ 0 then (
    some M
  ) else (
    z_l ((M.1 30 6) - (1 : Int32)) fun v2 =>
    z_g (z_ix v2 40) <|
    if (M.1 31 (Int32.toNatClampNeg v2)) = (21 : Int32) then (
      some M
    ) else (
      z_l ((M.1 30 6) - (1 : Int32)) fun v5 =>
      z_g (z_ix v5 40) <|
      z_l (M.1 31 (Int32.toNatClampNeg v5)) fun v7 =>
      z_g (z_ix v7 26) <|
      if (z_stL.getD (Int32.toNatClampNeg v7) 0) < i1 then (
        some M
      ) else (
        z_l (z_w M 30 6 ((M.1 30 6) - (1 : Int32))) fun M10 =>
        z_g (z_ix (M10.1 30 6) 40) <|
        if (M10.1 31 (Int32.toNatClampNeg (M10.1 30 6))) = (7 : Int32) then (
          z_l (z_w M10 30 4 ((M10.1 30 4) - (1 : Int32))) fun M16 =>
          z_g (z_ix (M16.1 30 6) 40) <|
          (f_X3_add 15 (-(M16.1 31 (Int32.toNatClampNeg (M16.1 30 6)))) M16).bind fun x18 =>
          f_X4_writeDownTo_0 z_F i1 x18
        ) else (
          z_l (z_w M10 30 4 ((M10.1 30 4) - (0 : Int32))) fun M13 =>
          z_g (z_ix (M13.1 30 6) 40) <|
          (f_X3_add 15 (-(M13.1 31 (Int32.toNatClampNeg (M13.1 30 6)))) M13).bind fun x15 =>
          f_X4_writeDownTo_0 z_F i1 x15
        )
      )
    )
  )
set_option maxHeartbeats 4000000 in
set_option maxRecDepth 100000 in
theorem w_X4_writeDownTo_0 {G : zG} {p : Program} {l : Launch} {e : Env} {s : State} {m : MethodId} {args : Array Value} {below : List Frame} {meth : Method} {c : Code} (X : z_C G p s m args meth c cX4_writeDownTo 2 RX4 none) {r : zM} : ∀ (n : Nat) (i1 : Int32) (M : zM) (H : Heap) (locs : List Loc) (ls : Array Slot), z_W G M H locs → lv_has ls 2 [(0, .ref (G.1 30)), (1, .int i1)] → f_X4_writeDownTo_0 n i1 M = some r → W p l e (z_rm 1) s m args below meth c H locs 0 0 (z_Q G below args s none r) (F0 m 0 ls []) := by
  have hx := X.1
  have hb := X.2.1
  intro n
  induction n with
  | zero =>
    intro i1 M H locs ls  hw hl h
    exact z_no h
  | succ n ih =>
    intro i1 M H locs ls  hw hl h
    rw [f_X4_writeDownTo_0] at h
    refine lv_aload_n (pc := 0) hx hb dX4_writeDownTo_0 rfl (lv_at hl 0 rfl) ?_
    refine zg_Reader_waits (pc := 1) X hw zw_fl_2_69 dX4_writeDownTo_1 ?_
    refine lv_if_le (pc := 4) (tgt := 100) hx hb dX4_writeDownTo_4 (by decide) (fun c1 => ?_) (fun c1 => ?_)
    · replace h := z_t c1 h
      obtain rfl := Option.some.inj h
      exact z_rv (pc := 100) X hw dX4_writeDownTo_100
    · replace h := z_f c1 h
      refine lv_aload_n (pc := 7) hx hb dX4_writeDownTo_7 rfl (lv_at hl 0 rfl) ?_
      refine zg_Reader_waiting (pc := 8) X hw zw_fl_2_70 dX4_writeDownTo_8 ?_
      refine lv_aload_n (pc := 11) hx hb dX4_writeDownTo_11 rfl (lv_at hl 0 rfl) ?_
      refine zg_Reader_waits (pc := 12) X hw zw_fl_2_69 dX4_writeDownTo_12 ?_
      refine lv_iconst (pc := 15) (v := 1) hx hb dX4_writeDownTo_15 (by decide) ?_
      refine lv_isub (pc := 16) hx hb dX4_writeDownTo_16 ?_
      obtain ⟨v2, ev2, h⟩ := z_lo h
      refine z_topi ev2 ?_
      obtain ⟨g3, h⟩ := z_gd h
      refine z_iald (pc := 17) X hw zk_31 zl_31 g3 dX4_writeDownTo_17 ?_
      refine lv_bipush (pc := 18) (v := 21) hx hb dX4_writeDownTo_18 (by decide) ?_
      refine lv_icmp_eq (pc := 20) (tgt := 100) hx hb dX4_writeDownTo_20 (by decide) (fun c4 => ?_) (fun c4 => ?_)
      · replace h := z_t c4 h
        obtain rfl := Option.some.inj h
        exact z_rv (pc := 100) X hw dX4_writeDownTo_100
      · replace h := z_f c4 h
        refine z_gT0 (pc := 23) X hw zwn_X4_120 dX4_writeDownTo_23 ?_
        refine lv_aload_n (pc := 26) hx hb dX4_writeDownTo_26 rfl (lv_at hl 0 rfl) ?_
        refine zg_Reader_waiting (pc := 27) X hw zw_fl_2_70 dX4_writeDownTo_27 ?_
        refine lv_aload_n (pc := 30) hx hb dX4_writeDownTo_30 rfl (lv_at hl 0 rfl) ?_
        refine zg_Reader_waits (pc := 31) X hw zw_fl_2_69 dX4_writeDownTo_31 ?_
        refine lv_iconst (pc := 34) (v := 1) hx hb dX4_writeDownTo_34 (by decide) ?_
        refine lv_isub (pc := 35) hx hb dX4_writeDownTo_35 ?_
        obtain ⟨v5, ev5, h⟩ := z_lo h
        refine z_topi ev5 ?_
        obtain ⟨g6, h⟩ := z_gd h
        refine z_iald (pc := 36) X hw zk_31 zl_31 g6 dX4_writeDownTo_36 ?_
        obtain ⟨v7, ev7, h⟩ := z_lo h
        refine z_topi ev7 ?_
        obtain ⟨g8, h⟩ := z_gd h
        refine z_iaT0 (pc := 37) X hw g8 dX4_writeDownTo_37 ?_
        refine lv_iload_n (pc := 38) hx hb dX4_writeDownTo_38 rfl (lv_at hl 1 rfl) ?_
        refine lv_icmp_lt (pc := 39) (tgt := 100) hx hb dX4_writeDownTo_39 (by decide) (fun c9 => ?_) (fun c9 => ?_)
        · replace h := z_t c9 h
          obtain rfl := Option.some.inj h
          exact z_rv (pc := 100) X hw dX4_writeDownTo_100
        · replace h := z_f c9 h
          refine lv_aload_n (pc := 42) hx hb dX4_writeDownTo_42 rfl (lv_at hl 0 rfl) ?_
          refine lv_dup (pc := 43) hx hb dX4_writeDownTo_43 rfl ?_
          refine zg_Reader_waits (pc := 44) X hw zw_fl_2_69 dX4_writeDownTo_44 ?_
          refine lv_iconst (pc := 47) (v := 1) hx hb dX4_writeDownTo_47 (by decide) ?_
          refine lv_isub (pc := 48) hx hb dX4_writeDownTo_48 ?_
          refine zp_Reader_waits (pc := 49) X hw zw_fl_2_69 dX4_writeDownTo_49 (fun HM10 lM10 wM10 => ?_)
          obtain ⟨M10, eM10, h⟩ := z_lo h
          rw [← eM10] at wM10
          refine lv_aload_n (pc := 52) hx hb dX4_writeDownTo_52 rfl (lv_at hl 0 rfl) ?_
          refine lv_dup (pc := 53) hx hb dX4_writeDownTo_53 rfl ?_
          refine zg_Reader_open (pc := 54) X wM10 zw_fl_2_67 dX4_writeDownTo_54 ?_
          refine lv_aload_n (pc := 57) hx hb dX4_writeDownTo_57 rfl (lv_at hl 0 rfl) ?_
          refine zg_Reader_waiting (pc := 58) X wM10 zw_fl_2_70 dX4_writeDownTo_58 ?_
          refine lv_aload_n (pc := 61) hx hb dX4_writeDownTo_61 rfl (lv_at hl 0 rfl) ?_
          refine zg_Reader_waits (pc := 62) X wM10 zw_fl_2_69 dX4_writeDownTo_62 ?_
          obtain ⟨g11, h⟩ := z_gd h
          refine z_iald (pc := 65) X wM10 zk_31 zl_31 g11 dX4_writeDownTo_65 ?_
          refine lv_bipush (pc := 66) (v := 7) hx hb dX4_writeDownTo_66 (by decide) ?_
          refine lv_icmp_ne (pc := 68) (tgt := 75) hx hb dX4_writeDownTo_68 (by decide) (fun c12 => ?_) (fun c12 => ?_)
          · replace h := z_f c12 h
            refine lv_iconst (pc := 75) (v := 0) hx hb dX4_writeDownTo_75 (by decide) ?_
            refine lv_isub (pc := 76) hx hb dX4_writeDownTo_76 ?_
            refine zp_Reader_open (pc := 77) X wM10 zw_fl_2_67 dX4_writeDownTo_77 (fun HM13 lM13 wM13 => ?_)
            obtain ⟨M13, eM13, h⟩ := z_lo h
            rw [← eM13] at wM13
            refine lv_aload_n (pc := 80) hx hb dX4_writeDownTo_80 rfl (lv_at hl 0 rfl) ?_
            refine zg_Reader_law (pc := 81) X wM13 zw_fl_2_73 dX4_writeDownTo_81 ?_
            refine lv_aload_n (pc := 84) hx hb dX4_writeDownTo_84 rfl (lv_at hl 0 rfl) ?_
            refine zg_Reader_waiting (pc := 85) X wM13 zw_fl_2_70 dX4_writeDownTo_85 ?_
            refine lv_aload_n (pc := 88) hx hb dX4_writeDownTo_88 rfl (lv_at hl 0 rfl) ?_
            refine zg_Reader_waits (pc := 89) X wM13 zw_fl_2_69 dX4_writeDownTo_89 ?_
            obtain ⟨g14, h⟩ := z_gd h
            refine z_iald (pc := 92) X wM13 zk_31 zl_31 g14 dX4_writeDownTo_92 ?_
            refine lv_ineg (pc := 93) hx hb dX4_writeDownTo_93 ?_
            obtain ⟨x15, ex15, h⟩ := z_bd h
            refine z_cvV (pc := 94) (rest := []) X wM13 (m_X3_add zk_15 ex15) (z_lt zk_15 (by decide)) (z_E3 zk_15) rfl zw_ml_3_196 zw_im_3_197 zw_se_3_198 zw_in_1_5 zw_co_3_199 zd_X3_add (by decide) rfl hl.1 rfl (Nat.le_of_ble_eq_true rfl) dX4_writeDownTo_94 ⟨Nat.zero_le _, Nat.zero_le _⟩ (fun Hx15 lx15 wx15 => ?_)
            refine lv_goto (pc := 97) (tgt := 0) hx hb dX4_writeDownTo_97 (by decide) ?_
            exact ih i1 x15 Hx15 lx15 ls  wx15 (lv_sub hl [0, 1] rfl) h
          · replace h := z_t c12 h
            refine lv_iconst (pc := 71) (v := 1) hx hb dX4_writeDownTo_71 (by decide) ?_
            refine lv_goto (pc := 72) (tgt := 76) hx hb dX4_writeDownTo_72 (by decide) ?_
            refine lv_isub (pc := 76) hx hb dX4_writeDownTo_76 ?_
            refine zp_Reader_open (pc := 77) X wM10 zw_fl_2_67 dX4_writeDownTo_77 (fun HM16 lM16 wM16 => ?_)
            obtain ⟨M16, eM16, h⟩ := z_lo h
            rw [← eM16] at wM16
            refine lv_aload_n (pc := 80) hx hb dX4_writeDownTo_80 rfl (lv_at hl 0 rfl) ?_
            refine zg_Reader_law (pc := 81) X wM16 zw_fl_2_73 dX4_writeDownTo_81 ?_
            refine lv_aload_n (pc := 84) hx hb dX4_writeDownTo_84 rfl (lv_at hl 0 rfl) ?_
            refine zg_Reader_waiting (pc := 85) X wM16 zw_fl_2_70 dX4_writeDownTo_85 ?_
            refine lv_aload_n (pc := 88) hx hb dX4_writeDownTo_88 rfl (lv_at hl 0 rfl) ?_
            refine zg_Reader_waits (pc := 89) X wM16 zw_fl_2_69 dX4_writeDownTo_89 ?_
            obtain ⟨g17, h⟩ := z_gd h
            refine z_iald (pc := 92) X wM16 zk_31 zl_31 g17 dX4_writeDownTo_92 ?_
            refine lv_ineg (pc := 93) hx hb dX4_writeDownTo_93 ?_
            obtain ⟨x18, ex18, h⟩ := z_bd h
            refine z_cvV (pc := 94) (rest := []) X wM16 (m_X3_add zk_15 ex18) (z_lt zk_15 (by decide)) (z_E3 zk_15) rfl zw_ml_3_196 zw_im_3_197 zw_se_3_198 zw_in_1_5 zw_co_3_199 zd_X3_add (by decide) rfl hl.1 rfl (Nat.le_of_ble_eq_true rfl) dX4_writeDownTo_94 ⟨Nat.zero_le _, Nat.zero_le _⟩ (fun Hx18 lx18 wx18 => ?_)
            refine lv_goto (pc := 97) (tgt := 0) hx hb dX4_writeDownTo_97 (by decide) ?_
            exact ih i1 x18 Hx18 lx18 ls  wx18 (lv_sub hl [0, 1] rfl) h
set_option maxHeartbeats 4000000 in
set_option maxRecDepth 100000 in
theorem m_X4_writeDownTo {l : Launch} {G : zG} {i1 : Int32} {M : zM} {r : zM} (h : f_X4_writeDownTo i1 M = some r) : z_T l G 1 yX4_writeDownTo (.code yX4_writeDownTo cX4_writeDownTo 2 none) [.ref (G.1 30), .int i1] M none r := by
  refine z_of rfl ?_
  intro p e s m below meth c X hw
  have hl := lv_entry [.ref (G.1 30), .int i1] (n := 2) (Nat.le_of_ble_eq_true rfl)
  rw [lg_entry_eq]
  generalize (lg_sl [.ref (G.1 30), .int i1] ++ List.replicate (2 - (lg_sl [.ref (G.1 30), .int i1]).length) Slot.unset).toArray = ls at hl ⊢
  have hl : lv_has ls 2 [(0, .ref (G.1 30)), (1, .int i1)] := hl
  generalize ([.ref (G.1 30), .int i1] : List Value).toArray = args at X ⊢
  have X : z_C G p s m args meth c cX4_writeDownTo 2 RX4 none := X
  have hx := X.1
  have hb := X.2.1
  unfold f_X4_writeDownTo at h
  refine lv_aload_n (pc := 0) hx hb dX4_writeDownTo_0 rfl (lv_at hl 0 rfl) ?_
  refine zg_Reader_waits (pc := 1) X hw zw_fl_2_69 dX4_writeDownTo_1 ?_
  refine lv_if_le (pc := 4) (tgt := 100) hx hb dX4_writeDownTo_4 (by decide) (fun c1 => ?_) (fun c1 => ?_)
  · replace h := z_t c1 h
    obtain rfl := Option.some.inj h
    exact z_rv (pc := 100) X hw dX4_writeDownTo_100
  · replace h := z_f c1 h
    refine lv_aload_n (pc := 7) hx hb dX4_writeDownTo_7 rfl (lv_at hl 0 rfl) ?_
    refine zg_Reader_waiting (pc := 8) X hw zw_fl_2_70 dX4_writeDownTo_8 ?_
    refine lv_aload_n (pc := 11) hx hb dX4_writeDownTo_11 rfl (lv_at hl 0 rfl) ?_
    refine zg_Reader_waits (pc := 12) X hw zw_fl_2_69 dX4_writeDownTo_12 ?_
    refine lv_iconst (pc := 15) (v := 1) hx hb dX4_writeDownTo_15 (by decide) ?_
    refine lv_isub (pc := 16) hx hb dX4_writeDownTo_16 ?_
    obtain ⟨v2, ev2, h⟩ := z_lo h
    refine z_topi ev2 ?_
    obtain ⟨g3, h⟩ := z_gd h
    refine z_iald (pc := 17) X hw zk_31 zl_31 g3 dX4_writeDownTo_17 ?_
    refine lv_bipush (pc := 18) (v := 21) hx hb dX4_writeDownTo_18 (by decide) ?_
    refine lv_icmp_eq (pc := 20) (tgt := 100) hx hb dX4_writeDownTo_20 (by decide) (fun c4 => ?_) (fun c4 => ?_)
    · replace h := z_t c4 h
      obtain rfl := Option.some.inj h
      exact z_rv (pc := 100) X hw dX4_writeDownTo_100
    · replace h := z_f c4 h
      refine z_gT0 (pc := 23) X hw zwn_X4_120 dX4_writeDownTo_23 ?_
      refine lv_aload_n (pc := 26) hx hb dX4_writeDownTo_26 rfl (lv_at hl 0 rfl) ?_
      refine zg_Reader_waiting (pc := 27) X hw zw_fl_2_70 dX4_writeDownTo_27 ?_
      refine lv_aload_n (pc := 30) hx hb dX4_writeDownTo_30 rfl (lv_at hl 0 rfl) ?_
      refine zg_Reader_waits (pc := 31) X hw zw_fl_2_69 dX4_writeDownTo_31 ?_
      refine lv_iconst (pc := 34) (v := 1) hx hb dX4_writeDownTo_34 (by decide) ?_
      refine lv_isub (pc := 35) hx hb dX4_writeDownTo_35 ?_
      obtain ⟨v5, ev5, h⟩ := z_lo h
      refine z_topi ev5 ?_
      obtain ⟨g6, h⟩ := z_gd h
      refine z_iald (pc := 36) X hw zk_31 zl_31 g6 dX4_writeDownTo_36 ?_
      obtain ⟨v7, ev7, h⟩ := z_lo h
      refine z_topi ev7 ?_
      obtain ⟨g8, h⟩ := z_gd h
      refine z_iaT0 (pc := 37) X hw g8 dX4_writeDownTo_37 ?_
      refine lv_iload_n (pc := 38) hx hb dX4_writeDownTo_38 rfl (lv_at hl 1 rfl) ?_
      refine lv_icmp_lt (pc := 39) (tgt := 100) hx hb dX4_writeDownTo_39 (by decide) (fun c9 => ?_) (fun c9 => ?_)
      · replace h := z_t c9 h
        obtain rfl := Option.some.inj h
        exact z_rv (pc := 100) X hw dX4_writeDownTo_100
      · replace h := z_f c9 h
        refine lv_aload_n (pc := 42) hx hb dX4_writeDownTo_42 rfl (lv_at hl 0 rfl) ?_
        refine lv_dup (pc := 43) hx hb dX4_writeDownTo_43 rfl ?_
        refine zg_Reader_waits (pc := 44) X hw zw_fl_2_69 dX4_writeDownTo_44 ?_
        refine lv_iconst (pc := 47) (v := 1) hx hb dX4_writeDownTo_47 (by decide) ?_
        refine lv_isub (pc := 48) hx hb dX4_writeDownTo_48 ?_
        refine zp_Reader_waits (pc := 49) X hw zw_fl_2_69 dX4_writeDownTo_49 (fun HM10 lM10 wM10 => ?_)
        obtain ⟨M10, eM10, h⟩ := z_lo h
        rw [← eM10] at wM10
        refine lv_aload_n (pc := 52) hx hb dX4_writeDownTo_52 rfl (lv_at hl 0 rfl) ?_
        refine lv_dup (pc := 53) hx hb dX4_writeDownTo_53 rfl ?_
        refine zg_Reader_open (pc := 54) X wM10 zw_fl_2_67 dX4_writeDownTo_54 ?_
        refine lv_aload_n (pc := 57) hx hb dX4_writeDownTo_57 rfl (lv_at hl 0 rfl) ?_
        refine zg_Reader_waiting (pc := 58) X wM10 zw_fl_2_70 dX4_writeDownTo_58 ?_
        refine lv_aload_n (pc := 61) hx hb dX4_writeDownTo_61 rfl (lv_at hl 0 rfl) ?_
        refine zg_Reader_waits (pc := 62) X wM10 zw_fl_2_69 dX4_writeDownTo_62 ?_
        obtain ⟨g11, h⟩ := z_gd h
        refine z_iald (pc := 65) X wM10 zk_31 zl_31 g11 dX4_writeDownTo_65 ?_
        refine lv_bipush (pc := 66) (v := 7) hx hb dX4_writeDownTo_66 (by decide) ?_
        refine lv_icmp_ne (pc := 68) (tgt := 75) hx hb dX4_writeDownTo_68 (by decide) (fun c12 => ?_) (fun c12 => ?_)
        · replace h := z_f c12 h
          refine lv_iconst (pc := 75) (v := 0) hx hb dX4_writeDownTo_75 (by decide) ?_
          refine lv_isub (pc := 76) hx hb dX4_writeDownTo_76 ?_
          refine zp_Reader_open (pc := 77) X wM10 zw_fl_2_67 dX4_writeDownTo_77 (fun HM13 lM13 wM13 => ?_)
          obtain ⟨M13, eM13, h⟩ := z_lo h
          rw [← eM13] at wM13
          refine lv_aload_n (pc := 80) hx hb dX4_writeDownTo_80 rfl (lv_at hl 0 rfl) ?_
          refine zg_Reader_law (pc := 81) X wM13 zw_fl_2_73 dX4_writeDownTo_81 ?_
          refine lv_aload_n (pc := 84) hx hb dX4_writeDownTo_84 rfl (lv_at hl 0 rfl) ?_
          refine zg_Reader_waiting (pc := 85) X wM13 zw_fl_2_70 dX4_writeDownTo_85 ?_
          refine lv_aload_n (pc := 88) hx hb dX4_writeDownTo_88 rfl (lv_at hl 0 rfl) ?_
          refine zg_Reader_waits (pc := 89) X wM13 zw_fl_2_69 dX4_writeDownTo_89 ?_
          obtain ⟨g14, h⟩ := z_gd h
          refine z_iald (pc := 92) X wM13 zk_31 zl_31 g14 dX4_writeDownTo_92 ?_
          refine lv_ineg (pc := 93) hx hb dX4_writeDownTo_93 ?_
          obtain ⟨x15, ex15, h⟩ := z_bd h
          refine z_cvV (pc := 94) (rest := []) X wM13 (m_X3_add zk_15 ex15) (z_lt zk_15 (by decide)) (z_E3 zk_15) rfl zw_ml_3_196 zw_im_3_197 zw_se_3_198 zw_in_1_5 zw_co_3_199 zd_X3_add (by decide) rfl hl.1 rfl (Nat.le_of_ble_eq_true rfl) dX4_writeDownTo_94 ⟨Nat.zero_le _, Nat.zero_le _⟩ (fun Hx15 lx15 wx15 => ?_)
          refine lv_goto (pc := 97) (tgt := 0) hx hb dX4_writeDownTo_97 (by decide) ?_
          exact w_X4_writeDownTo_0 X z_F i1 x15 Hx15 lx15 ls  wx15 (lv_sub hl [0, 1] rfl) h
        · replace h := z_t c12 h
          refine lv_iconst (pc := 71) (v := 1) hx hb dX4_writeDownTo_71 (by decide) ?_
          refine lv_goto (pc := 72) (tgt := 76) hx hb dX4_writeDownTo_72 (by decide) ?_
          refine lv_isub (pc := 76) hx hb dX4_writeDownTo_76 ?_
          refine zp_Reader_open (pc := 77) X wM10 zw_fl_2_67 dX4_writeDownTo_77 (fun HM16 lM16 wM16 => ?_)
          obtain ⟨M16, eM16, h⟩ := z_lo h
          rw [← eM16] at wM16
          refine lv_aload_n (pc := 80) hx hb dX4_writeDownTo_80 rfl (lv_at hl 0 rfl) ?_
          refine zg_Reader_law (pc := 81) X wM16 zw_fl_2_73 dX4_writeDownTo_81 ?_
          refine lv_aload_n (pc := 84) hx hb dX4_writeDownTo_84 rfl (lv_at hl 0 rfl) ?_
          refine zg_Reader_waiting (pc := 85) X wM16 zw_fl_2_70 dX4_writeDownTo_85 ?_
          refine lv_aload_n (pc := 88) hx hb dX4_writeDownTo_88 rfl (lv_at hl 0 rfl) ?_
          refine zg_Reader_waits (pc := 89) X wM16 zw_fl_2_69 dX4_writeDownTo_89 ?_
          obtain ⟨g17, h⟩ := z_gd h
          refine z_iald (pc := 92) X wM16 zk_31 zl_31 g17 dX4_writeDownTo_92 ?_
          refine lv_ineg (pc := 93) hx hb dX4_writeDownTo_93 ?_
          obtain ⟨x18, ex18, h⟩ := z_bd h
          refine z_cvV (pc := 94) (rest := []) X wM16 (m_X3_add zk_15 ex18) (z_lt zk_15 (by decide)) (z_E3 zk_15) rfl zw_ml_3_196 zw_im_3_197 zw_se_3_198 zw_in_1_5 zw_co_3_199 zd_X3_add (by decide) rfl hl.1 rfl (Nat.le_of_ble_eq_true rfl) dX4_writeDownTo_94 ⟨Nat.zero_le _, Nat.zero_le _⟩ (fun Hx18 lx18 wx18 => ?_)
          refine lv_goto (pc := 97) (tgt := 0) hx hb dX4_writeDownTo_97 (by decide) ?_
          exact w_X4_writeDownTo_0 X z_F i1 x18 Hx18 lx18 ls  wx18 (lv_sub hl [0, 1] rfl) h
def f_X4_join (i1 : Int32) (M : zM) : Option (zM) :=
  z_g (z_ix i1 26) <|
  (f_X4_writeDownTo (z_stL.getD (Int32.toNatClampNeg i1) 0) M).bind fun x2 =>
  (f_X4_await i1 x2).bind fun x3 =>
  some x3
set_option maxHeartbeats 4000000 in
set_option maxRecDepth 100000 in
theorem m_X4_join {l : Launch} {G : zG} {i1 : Int32} {M : zM} {r : zM} (h : f_X4_join i1 M = some r) : z_T l G 2 yX4_join (.code yX4_join cX4_join 2 none) [.ref (G.1 30), .int i1] M none r := by
  refine z_of rfl ?_
  intro p e s m below meth c X hw
  have hl := lv_entry [.ref (G.1 30), .int i1] (n := 2) (Nat.le_of_ble_eq_true rfl)
  rw [lg_entry_eq]
  generalize (lg_sl [.ref (G.1 30), .int i1] ++ List.replicate (2 - (lg_sl [.ref (G.1 30), .int i1]).length) Slot.unset).toArray = ls at hl ⊢
  have hl : lv_has ls 2 [(0, .ref (G.1 30)), (1, .int i1)] := hl
  generalize ([.ref (G.1 30), .int i1] : List Value).toArray = args at X ⊢
  have X : z_C G p s m args meth c cX4_join 2 RX4 none := X
  have hx := X.1
  have hb := X.2.1
  unfold f_X4_join at h
  refine lv_aload_n (pc := 0) hx hb dX4_join_0 rfl (lv_at hl 0 rfl) ?_
  refine z_gT0 (pc := 1) X hw zwn_X4_120 dX4_join_1 ?_
  refine lv_iload_n (pc := 4) hx hb dX4_join_4 rfl (lv_at hl 1 rfl) ?_
  obtain ⟨g1, h⟩ := z_gd h
  refine z_iaT0 (pc := 5) X hw g1 dX4_join_5 ?_
  obtain ⟨x2, ex2, h⟩ := z_bd h
  refine z_cvV (pc := 6) (rest := []) X hw (m_X4_writeDownTo  ex2) (z_lt zk_30 (by decide)) (z_E4 zk_30) rfl zw_ml_3_223 zw_im_3_225 zw_se_S_15 zw_in_1_8 zw_co_3_226 zd_X4_writeDownTo (by decide) rfl hl.1 rfl (Nat.le_of_ble_eq_true rfl) dX4_join_6 ⟨Nat.zero_le _, Nat.zero_le _⟩ (fun Hx2 lx2 wx2 => ?_)
  refine lv_aload_n (pc := 9) hx hb dX4_join_9 rfl (lv_at hl 0 rfl) ?_
  refine lv_iload_n (pc := 10) hx hb dX4_join_10 rfl (lv_at hl 1 rfl) ?_
  obtain ⟨x3, ex3, h⟩ := z_bd h
  refine z_cvV (pc := 11) (rest := []) X wx2 (m_X4_await  ex3) (z_lt zk_30 (by decide)) (z_E4 zk_30) rfl zw_ml_3_209 zw_im_3_211 zw_se_S_12 zw_in_1_8 zw_co_3_212 zd_X4_await (by decide) rfl hl.1 rfl (Nat.le_of_ble_eq_true rfl) dX4_join_11 ⟨Nat.zero_le _, Nat.zero_le _⟩ (fun Hx3 lx3 wx3 => ?_)
  obtain rfl := Option.some.inj h
  exact z_rv (pc := 14) X wx3 dX4_join_14
def f_X4_closeBracket  (M : zM) : Option (zM) :=
  (f_X4_writeDownTo (0 : Int32) M).bind fun x1 =>
  if (x1.1 30 6) ≤ 0 then (
    some x1
  ) else (
    z_l (z_w x1 30 6 ((x1.1 30 6) - (1 : Int32))) fun M3 =>
    z_l (z_w M3 30 4 ((M3.1 30 4) - (1 : Int32))) fun M4 =>
    z_l (z_w M4 30 5 ((M4.1 30 5) - (1 : Int32))) fun M5 =>
    some M5
  )
set_option maxHeartbeats 4000000 in
set_option maxRecDepth 100000 in
theorem m_X4_closeBracket {l : Launch} {G : zG} {M : zM} {r : zM} (h : f_X4_closeBracket  M = some r) : z_T l G 2 yX4_closeBracket (.code yX4_closeBracket cX4_closeBracket 1 none) [.ref (G.1 30)] M none r := by
  refine z_of rfl ?_
  intro p e s m below meth c X hw
  have hl := lv_entry [.ref (G.1 30)] (n := 1) (Nat.le_of_ble_eq_true rfl)
  rw [lg_entry_eq]
  generalize (lg_sl [.ref (G.1 30)] ++ List.replicate (1 - (lg_sl [.ref (G.1 30)]).length) Slot.unset).toArray = ls at hl ⊢
  have hl : lv_has ls 1 [(0, .ref (G.1 30))] := hl
  generalize ([.ref (G.1 30)] : List Value).toArray = args at X ⊢
  have X : z_C G p s m args meth c cX4_closeBracket 1 RX4 none := X
  have hx := X.1
  have hb := X.2.1
  unfold f_X4_closeBracket at h
  refine lv_aload_n (pc := 0) hx hb dX4_closeBracket_0 rfl (lv_at hl 0 rfl) ?_
  refine lv_iconst (pc := 1) (v := 0) hx hb dX4_closeBracket_1 (by decide) ?_
  obtain ⟨x1, ex1, h⟩ := z_bd h
  refine z_cvV (pc := 2) (rest := []) X hw (m_X4_writeDownTo  ex1) (z_lt zk_30 (by decide)) (z_E4 zk_30) rfl zw_ml_3_223 zw_im_3_225 zw_se_S_15 zw_in_1_8 zw_co_3_226 zd_X4_writeDownTo (by decide) rfl hl.1 rfl (Nat.le_of_ble_eq_true rfl) dX4_closeBracket_2 ⟨Nat.zero_le _, Nat.zero_le _⟩ (fun Hx1 lx1 wx1 => ?_)
  refine lv_aload_n (pc := 5) hx hb dX4_closeBracket_5 rfl (lv_at hl 0 rfl) ?_
  refine zg_Reader_waits (pc := 6) X wx1 zw_fl_2_69 dX4_closeBracket_6 ?_
  refine lv_if_le (pc := 9) (tgt := 42) hx hb dX4_closeBracket_9 (by decide) (fun c2 => ?_) (fun c2 => ?_)
  · replace h := z_t c2 h
    obtain rfl := Option.some.inj h
    exact z_rv (pc := 42) X wx1 dX4_closeBracket_42
  · replace h := z_f c2 h
    refine lv_aload_n (pc := 12) hx hb dX4_closeBracket_12 rfl (lv_at hl 0 rfl) ?_
    refine lv_dup (pc := 13) hx hb dX4_closeBracket_13 rfl ?_
    refine zg_Reader_waits (pc := 14) X wx1 zw_fl_2_69 dX4_closeBracket_14 ?_
    refine lv_iconst (pc := 17) (v := 1) hx hb dX4_closeBracket_17 (by decide) ?_
    refine lv_isub (pc := 18) hx hb dX4_closeBracket_18 ?_
    refine zp_Reader_waits (pc := 19) X wx1 zw_fl_2_69 dX4_closeBracket_19 (fun HM3 lM3 wM3 => ?_)
    obtain ⟨M3, eM3, h⟩ := z_lo h
    rw [← eM3] at wM3
    refine lv_aload_n (pc := 22) hx hb dX4_closeBracket_22 rfl (lv_at hl 0 rfl) ?_
    refine lv_dup (pc := 23) hx hb dX4_closeBracket_23 rfl ?_
    refine zg_Reader_open (pc := 24) X wM3 zw_fl_2_67 dX4_closeBracket_24 ?_
    refine lv_iconst (pc := 27) (v := 1) hx hb dX4_closeBracket_27 (by decide) ?_
    refine lv_isub (pc := 28) hx hb dX4_closeBracket_28 ?_
    refine zp_Reader_open (pc := 29) X wM3 zw_fl_2_67 dX4_closeBracket_29 (fun HM4 lM4 wM4 => ?_)
    obtain ⟨M4, eM4, h⟩ := z_lo h
    rw [← eM4] at wM4
    refine lv_aload_n (pc := 32) hx hb dX4_closeBracket_32 rfl (lv_at hl 0 rfl) ?_
    refine lv_dup (pc := 33) hx hb dX4_closeBracket_33 rfl ?_
    refine zg_Reader_brackets (pc := 34) X wM4 zw_fl_2_68 dX4_closeBracket_34 ?_
    refine lv_iconst (pc := 37) (v := 1) hx hb dX4_closeBracket_37 (by decide) ?_
    refine lv_isub (pc := 38) hx hb dX4_closeBracket_38 ?_
    refine zp_Reader_brackets (pc := 39) X wM4 zw_fl_2_68 dX4_closeBracket_39 (fun HM5 lM5 wM5 => ?_)
    obtain ⟨M5, eM5, h⟩ := z_lo h
    rw [← eM5] at wM5
    obtain rfl := Option.some.inj h
    exact z_rv (pc := 42) X wM5 dX4_closeBracket_42
def f_X4_closeLine  (M : zM) : Option (zM) :=
  (f_X4_writeDownTo (0 : Int32) M).bind fun x1 =>
  (f_X3_closeLine 15 x1).bind fun x2 =>
  z_l (z_w x2 30 2 (0 : Int32)) fun M3 =>
  some M3
set_option maxHeartbeats 4000000 in
set_option maxRecDepth 100000 in
theorem m_X4_closeLine {l : Launch} {G : zG} {M : zM} {r : zM} (h : f_X4_closeLine  M = some r) : z_T l G 2 yX4_closeLine (.code yX4_closeLine cX4_closeLine 1 none) [.ref (G.1 30)] M none r := by
  refine z_of rfl ?_
  intro p e s m below meth c X hw
  have hl := lv_entry [.ref (G.1 30)] (n := 1) (Nat.le_of_ble_eq_true rfl)
  rw [lg_entry_eq]
  generalize (lg_sl [.ref (G.1 30)] ++ List.replicate (1 - (lg_sl [.ref (G.1 30)]).length) Slot.unset).toArray = ls at hl ⊢
  have hl : lv_has ls 1 [(0, .ref (G.1 30))] := hl
  generalize ([.ref (G.1 30)] : List Value).toArray = args at X ⊢
  have X : z_C G p s m args meth c cX4_closeLine 1 RX4 none := X
  have hx := X.1
  have hb := X.2.1
  unfold f_X4_closeLine at h
  refine lv_aload_n (pc := 0) hx hb dX4_closeLine_0 rfl (lv_at hl 0 rfl) ?_
  refine lv_iconst (pc := 1) (v := 0) hx hb dX4_closeLine_1 (by decide) ?_
  obtain ⟨x1, ex1, h⟩ := z_bd h
  refine z_cvV (pc := 2) (rest := []) X hw (m_X4_writeDownTo  ex1) (z_lt zk_30 (by decide)) (z_E4 zk_30) rfl zw_ml_3_223 zw_im_3_225 zw_se_S_15 zw_in_1_8 zw_co_3_226 zd_X4_writeDownTo (by decide) rfl hl.1 rfl (Nat.le_of_ble_eq_true rfl) dX4_closeLine_2 ⟨Nat.zero_le _, Nat.zero_le _⟩ (fun Hx1 lx1 wx1 => ?_)
  refine lv_aload_n (pc := 5) hx hb dX4_closeLine_5 rfl (lv_at hl 0 rfl) ?_
  refine zg_Reader_law (pc := 6) X wx1 zw_fl_2_73 dX4_closeLine_6 ?_
  obtain ⟨x2, ex2, h⟩ := z_bd h
  refine z_cvV (pc := 9) (rest := []) X wx1 (m_X3_closeLine zk_15 ex2) (z_lt zk_15 (by decide)) (z_E3 zk_15) rfl zw_ml_3_235 zw_im_3_236 zw_se_3_237 zw_in_1_5 zw_co_3_238 zd_X3_closeLine (by decide) rfl hl.1 rfl (Nat.le_of_ble_eq_true rfl) dX4_closeLine_9 ⟨Nat.zero_le _, Nat.zero_le _⟩ (fun Hx2 lx2 wx2 => ?_)
  refine lv_aload_n (pc := 12) hx hb dX4_closeLine_12 rfl (lv_at hl 0 rfl) ?_
  refine lv_iconst (pc := 13) (v := 0) hx hb dX4_closeLine_13 (by decide) ?_
  refine zp_Reader_state (pc := 14) X wx2 zw_fl_2_65 dX4_closeLine_14 (fun HM3 lM3 wM3 => ?_)
  obtain ⟨M3, eM3, h⟩ := z_lo h
  rw [← eM3] at wM3
  obtain rfl := Option.some.inj h
  exact z_rv (pc := 17) X wM3 dX4_closeLine_17
def f_X4_takeBehindCase_49 (i1 : Int32) (M : zM) : Option (zM) :=
    if i1 = (16 : Int32) then (
      if (M.1 30 5) = 0 then (
        (f_X4_closeLine  M).bind fun x5 =>
        some x5
      ) else (
        z_l (z_w M 30 0 (1 : Int32)) fun M4 =>
        some M4
      )
    ) else (
      z_l (z_w M 30 0 (1 : Int32)) fun M2 =>
      some M2
    )
def f_X4_takeBehindCase (i1 : Int32) (M : zM) : Option (zM) :=
  if i1 = (6 : Int32) then (
    (f_X4_join i1 M).bind fun x2 =>
    z_l (z_w x2 30 2 (3 : Int32)) fun M3 =>
    some M3
  ) else (
    if i1 = (5 : Int32) then (
      (f_X4_join i1 M).bind fun x9 =>
      z_l (z_w x9 30 2 (3 : Int32)) fun M10 =>
      some M10
    ) else (
      if i1 = (22 : Int32) then (
        if (M.1 30 5) ≤ 0 then (
          f_X4_takeBehindCase_49 i1 M
        ) else (
          (f_X4_closeBracket  M).bind fun x7 =>
          z_l (z_w x7 30 2 (5 : Int32)) fun M8 =>
          some M8
        )
      ) else (
        f_X4_takeBehindCase_49 i1 M
      )
    )
  )
set_option maxHeartbeats 4000000 in
set_option maxRecDepth 100000 in
theorem w_X4_takeBehindCase_49 {G : zG} {p : Program} {l : Launch} {e : Env} {s : State} {m : MethodId} {args : Array Value} {below : List Frame} {meth : Method} {c : Code} (X : z_C G p s m args meth c cX4_takeBehindCase 2 RX4 none) {r : zM} : ∀ (i1 : Int32) (M : zM) (H : Heap) (locs : List Loc) (ls : Array Slot), z_W G M H locs → lv_has ls 2 [(0, .ref (G.1 30)), (1, .int i1)] → f_X4_takeBehindCase_49 i1 M = some r → W p l e (z_rm 3) s m args below meth c H locs 0 0 (z_Q G below args s none r) (F0 m 49 ls []) := by
  have hx := X.1
  have hb := X.2.1
  intro i1 M H locs ls  hw hl h
  unfold f_X4_takeBehindCase_49 at h
  refine lv_iload_n (pc := 49) hx hb dX4_takeBehindCase_49 rfl (lv_at hl 1 rfl) ?_
  refine lv_bipush (pc := 50) (v := 16) hx hb dX4_takeBehindCase_50 (by decide) ?_
  refine lv_icmp_ne (pc := 52) (tgt := 69) hx hb dX4_takeBehindCase_52 (by decide) (fun c1 => ?_) (fun c1 => ?_)
  · replace h := z_f c1 h
    refine lv_aload_n (pc := 69) hx hb dX4_takeBehindCase_69 rfl (lv_at hl 0 rfl) ?_
    refine lv_iconst (pc := 70) (v := 1) hx hb dX4_takeBehindCase_70 (by decide) ?_
    refine zp_Reader_fault (pc := 71) X hw zw_fl_2_61 dX4_takeBehindCase_71 (fun HM2 lM2 wM2 => ?_)
    obtain ⟨M2, eM2, h⟩ := z_lo h
    rw [← eM2] at wM2
    obtain rfl := Option.some.inj h
    exact z_rv (pc := 74) X wM2 dX4_takeBehindCase_74
  · replace h := z_t c1 h
    refine lv_aload_n (pc := 55) hx hb dX4_takeBehindCase_55 rfl (lv_at hl 0 rfl) ?_
    refine zg_Reader_brackets (pc := 56) X hw zw_fl_2_68 dX4_takeBehindCase_56 ?_
    refine lv_if_ne (pc := 59) (tgt := 69) hx hb dX4_takeBehindCase_59 (by decide) (fun c3 => ?_) (fun c3 => ?_)
    · replace h := z_f c3 h
      refine lv_aload_n (pc := 69) hx hb dX4_takeBehindCase_69 rfl (lv_at hl 0 rfl) ?_
      refine lv_iconst (pc := 70) (v := 1) hx hb dX4_takeBehindCase_70 (by decide) ?_
      refine zp_Reader_fault (pc := 71) X hw zw_fl_2_61 dX4_takeBehindCase_71 (fun HM4 lM4 wM4 => ?_)
      obtain ⟨M4, eM4, h⟩ := z_lo h
      rw [← eM4] at wM4
      obtain rfl := Option.some.inj h
      exact z_rv (pc := 74) X wM4 dX4_takeBehindCase_74
    · replace h := z_t c3 h
      refine lv_aload_n (pc := 62) hx hb dX4_takeBehindCase_62 rfl (lv_at hl 0 rfl) ?_
      obtain ⟨x5, ex5, h⟩ := z_bd h
      refine z_cvV (pc := 63) (rest := []) X hw (m_X4_closeLine  ex5) (z_lt zk_30 (by decide)) (z_E4 zk_30) rfl zw_ml_3_231 zw_im_3_233 zw_se_S_17 zw_in_1_8 zw_co_3_234 zd_X4_closeLine (by decide) rfl hl.1 rfl (Nat.le_of_ble_eq_true rfl) dX4_takeBehindCase_63 ⟨Nat.zero_le _, Nat.zero_le _⟩ (fun Hx5 lx5 wx5 => ?_)
      refine lv_goto (pc := 66) (tgt := 74) hx hb dX4_takeBehindCase_66 (by decide) ?_
      obtain rfl := Option.some.inj h
      exact z_rv (pc := 74) X wx5 dX4_takeBehindCase_74
set_option maxHeartbeats 4000000 in
set_option maxRecDepth 100000 in
theorem m_X4_takeBehindCase {l : Launch} {G : zG} {i1 : Int32} {M : zM} {r : zM} (h : f_X4_takeBehindCase i1 M = some r) : z_T l G 3 yX4_takeBehindCase (.code yX4_takeBehindCase cX4_takeBehindCase 2 none) [.ref (G.1 30), .int i1] M none r := by
  refine z_of rfl ?_
  intro p e s m below meth c X hw
  have hl := lv_entry [.ref (G.1 30), .int i1] (n := 2) (Nat.le_of_ble_eq_true rfl)
  rw [lg_entry_eq]
  generalize (lg_sl [.ref (G.1 30), .int i1] ++ List.replicate (2 - (lg_sl [.ref (G.1 30), .int i1]).length) Slot.unset).toArray = ls at hl ⊢
  have hl : lv_has ls 2 [(0, .ref (G.1 30)), (1, .int i1)] := hl
  generalize ([.ref (G.1 30), .int i1] : List Value).toArray = args at X ⊢
  have X : z_C G p s m args meth c cX4_takeBehindCase 2 RX4 none := X
  have hx := X.1
  have hb := X.2.1
  unfold f_X4_takeBehindCase at h
  refine lv_iload_n (pc := 0) hx hb dX4_takeBehindCase_0 rfl (lv_at hl 1 rfl) ?_
  refine lv_bipush (pc := 1) (v := 6) hx hb dX4_takeBehindCase_1 (by decide) ?_
  refine lv_icmp_eq (pc := 3) (tgt := 11) hx hb dX4_takeBehindCase_3 (by decide) (fun c1 => ?_) (fun c1 => ?_)
  · replace h := z_t c1 h
    refine lv_aload_n (pc := 11) hx hb dX4_takeBehindCase_11 rfl (lv_at hl 0 rfl) ?_
    refine lv_iload_n (pc := 12) hx hb dX4_takeBehindCase_12 rfl (lv_at hl 1 rfl) ?_
    obtain ⟨x2, ex2, h⟩ := z_bd h
    refine z_cvV (pc := 13) (rest := []) X hw (m_X4_join  ex2) (z_lt zk_30 (by decide)) (z_E4 zk_30) rfl zw_ml_3_217 zw_im_3_219 zw_se_S_14 zw_in_1_8 zw_co_3_220 zd_X4_join (by decide) rfl hl.1 rfl (Nat.le_of_ble_eq_true rfl) dX4_takeBehindCase_13 ⟨Nat.zero_le _, Nat.zero_le _⟩ (fun Hx2 lx2 wx2 => ?_)
    refine lv_aload_n (pc := 16) hx hb dX4_takeBehindCase_16 rfl (lv_at hl 0 rfl) ?_
    refine lv_iconst (pc := 17) (v := 3) hx hb dX4_takeBehindCase_17 (by decide) ?_
    refine zp_Reader_state (pc := 18) X wx2 zw_fl_2_65 dX4_takeBehindCase_18 (fun HM3 lM3 wM3 => ?_)
    obtain ⟨M3, eM3, h⟩ := z_lo h
    rw [← eM3] at wM3
    refine lv_goto (pc := 21) (tgt := 74) hx hb dX4_takeBehindCase_21 (by decide) ?_
    obtain rfl := Option.some.inj h
    exact z_rv (pc := 74) X wM3 dX4_takeBehindCase_74
  · replace h := z_f c1 h
    refine lv_iload_n (pc := 6) hx hb dX4_takeBehindCase_6 rfl (lv_at hl 1 rfl) ?_
    refine lv_iconst (pc := 7) (v := 5) hx hb dX4_takeBehindCase_7 (by decide) ?_
    refine lv_icmp_ne (pc := 8) (tgt := 24) hx hb dX4_takeBehindCase_8 (by decide) (fun c4 => ?_) (fun c4 => ?_)
    · replace h := z_f c4 h
      refine lv_iload_n (pc := 24) hx hb dX4_takeBehindCase_24 rfl (lv_at hl 1 rfl) ?_
      refine lv_bipush (pc := 25) (v := 22) hx hb dX4_takeBehindCase_25 (by decide) ?_
      refine lv_icmp_ne (pc := 27) (tgt := 49) hx hb dX4_takeBehindCase_27 (by decide) (fun c5 => ?_) (fun c5 => ?_)
      · replace h := z_f c5 h
        exact w_X4_takeBehindCase_49 X i1 M s.heap [] ls  hw (lv_sub hl [0, 1] rfl) h
      · replace h := z_t c5 h
        refine lv_aload_n (pc := 30) hx hb dX4_takeBehindCase_30 rfl (lv_at hl 0 rfl) ?_
        refine zg_Reader_brackets (pc := 31) X hw zw_fl_2_68 dX4_takeBehindCase_31 ?_
        refine lv_if_le (pc := 34) (tgt := 49) hx hb dX4_takeBehindCase_34 (by decide) (fun c6 => ?_) (fun c6 => ?_)
        · replace h := z_t c6 h
          exact w_X4_takeBehindCase_49 X i1 M s.heap [] ls  hw (lv_sub hl [0, 1] rfl) h
        · replace h := z_f c6 h
          refine lv_aload_n (pc := 37) hx hb dX4_takeBehindCase_37 rfl (lv_at hl 0 rfl) ?_
          obtain ⟨x7, ex7, h⟩ := z_bd h
          refine z_cvV (pc := 38) (rest := []) X hw (m_X4_closeBracket  ex7) (z_lt zk_30 (by decide)) (z_E4 zk_30) rfl zw_ml_3_227 zw_im_3_229 zw_se_S_16 zw_in_1_8 zw_co_3_230 zd_X4_closeBracket (by decide) rfl hl.1 rfl (Nat.le_of_ble_eq_true rfl) dX4_takeBehindCase_38 ⟨Nat.zero_le _, Nat.zero_le _⟩ (fun Hx7 lx7 wx7 => ?_)
          refine lv_aload_n (pc := 41) hx hb dX4_takeBehindCase_41 rfl (lv_at hl 0 rfl) ?_
          refine lv_iconst (pc := 42) (v := 5) hx hb dX4_takeBehindCase_42 (by decide) ?_
          refine zp_Reader_state (pc := 43) X wx7 zw_fl_2_65 dX4_takeBehindCase_43 (fun HM8 lM8 wM8 => ?_)
          obtain ⟨M8, eM8, h⟩ := z_lo h
          rw [← eM8] at wM8
          refine lv_goto (pc := 46) (tgt := 74) hx hb dX4_takeBehindCase_46 (by decide) ?_
          obtain rfl := Option.some.inj h
          exact z_rv (pc := 74) X wM8 dX4_takeBehindCase_74
    · replace h := z_t c4 h
      refine lv_aload_n (pc := 11) hx hb dX4_takeBehindCase_11 rfl (lv_at hl 0 rfl) ?_
      refine lv_iload_n (pc := 12) hx hb dX4_takeBehindCase_12 rfl (lv_at hl 1 rfl) ?_
      obtain ⟨x9, ex9, h⟩ := z_bd h
      refine z_cvV (pc := 13) (rest := []) X hw (m_X4_join  ex9) (z_lt zk_30 (by decide)) (z_E4 zk_30) rfl zw_ml_3_217 zw_im_3_219 zw_se_S_14 zw_in_1_8 zw_co_3_220 zd_X4_join (by decide) rfl hl.1 rfl (Nat.le_of_ble_eq_true rfl) dX4_takeBehindCase_13 ⟨Nat.zero_le _, Nat.zero_le _⟩ (fun Hx9 lx9 wx9 => ?_)
      refine lv_aload_n (pc := 16) hx hb dX4_takeBehindCase_16 rfl (lv_at hl 0 rfl) ?_
      refine lv_iconst (pc := 17) (v := 3) hx hb dX4_takeBehindCase_17 (by decide) ?_
      refine zp_Reader_state (pc := 18) X wx9 zw_fl_2_65 dX4_takeBehindCase_18 (fun HM10 lM10 wM10 => ?_)
      obtain ⟨M10, eM10, h⟩ := z_lo h
      rw [← eM10] at wM10
      refine lv_goto (pc := 21) (tgt := 74) hx hb dX4_takeBehindCase_21 (by decide) ?_
      obtain rfl := Option.some.inj h
      exact z_rv (pc := 74) X wM10 dX4_takeBehindCase_74
def f_X4_takeBehindUnit_89 (i1 : Int32) (M : zM) : Option (zM) :=
    (f_X4_writeDownTo (0 : Int32) M).bind fun x1 =>
    (f_X3_closeSum 15 x1).bind fun x2 =>
    z_l (z_w x2 30 2 (3 : Int32)) fun M3 =>
    if i1 = (16 : Int32) then (
      (f_X4_closeLine  M3).bind fun x5 =>
      some x5
    ) else (
      some M3
    )
def f_X4_takeBehindUnit_71 (i1 : Int32) (M : zM) : Option (zM) :=
    if (M.1 30 3) = 0 then (
      if i1 = (4 : Int32) then (
        f_X4_takeBehindUnit_89 i1 M
      ) else (
        if i1 = (16 : Int32) then (
          f_X4_takeBehindUnit_89 i1 M
        ) else (
          z_l (z_w M 30 0 (1 : Int32)) fun M5 =>
          some M5
        )
      )
    ) else (
      z_l (z_w M 30 0 (1 : Int32)) fun M2 =>
      some M2
    )
def f_X4_takeBehindUnit (i1 : Int32) (M : zM) : Option (zM) :=
  (f_X10_within i1 (17 : Int32) (20 : Int32) M).bind fun x1 =>
  if x1.1 = 0 then (
    if (x1.2.1 30 3) = (1 : Int32) then (
      (f_X10_within i1 (23 : Int32) (25 : Int32) x1.2).bind fun x4 =>
      if x4.1 = 0 then (
        f_X4_takeBehindUnit_71 i1 x4.2
      ) else (
        (f_X4_join i1 x4.2).bind fun x6 =>
        z_l (z_w x6 30 3 (2 : Int32)) fun M7 =>
        z_l (z_w M7 30 2 (1 : Int32)) fun M8 =>
        some M8
      )
    ) else (
      f_X4_takeBehindUnit_71 i1 x1.2
    )
  ) else (
    (f_X4_join i1 x1.2).bind fun x9 =>
    if i1 = (20 : Int32) then (
      z_l (z_w x9 30 2 (2 : Int32)) fun M12 =>
      some M12
    ) else (
      z_l (z_w x9 30 2 (1 : Int32)) fun M11 =>
      some M11
    )
  )
set_option maxHeartbeats 4000000 in
set_option maxRecDepth 100000 in
theorem w_X4_takeBehindUnit_89 {G : zG} {p : Program} {l : Launch} {e : Env} {s : State} {m : MethodId} {args : Array Value} {below : List Frame} {meth : Method} {c : Code} (X : z_C G p s m args meth c cX4_takeBehindUnit 2 RX4 none) {r : zM} : ∀ (i1 : Int32) (M : zM) (H : Heap) (locs : List Loc) (ls : Array Slot), z_W G M H locs → lv_has ls 2 [(0, .ref (G.1 30)), (1, .int i1)] → f_X4_takeBehindUnit_89 i1 M = some r → W p l e (z_rm 3) s m args below meth c H locs 0 0 (z_Q G below args s none r) (F0 m 89 ls []) := by
  have hx := X.1
  have hb := X.2.1
  intro i1 M H locs ls  hw hl h
  unfold f_X4_takeBehindUnit_89 at h
  refine lv_aload_n (pc := 89) hx hb dX4_takeBehindUnit_89 rfl (lv_at hl 0 rfl) ?_
  refine lv_iconst (pc := 90) (v := 0) hx hb dX4_takeBehindUnit_90 (by decide) ?_
  obtain ⟨x1, ex1, h⟩ := z_bd h
  refine z_cvV (pc := 91) (rest := []) X hw (m_X4_writeDownTo  ex1) (z_lt zk_30 (by decide)) (z_E4 zk_30) rfl zw_ml_3_223 zw_im_3_225 zw_se_S_15 zw_in_1_8 zw_co_3_226 zd_X4_writeDownTo (by decide) rfl hl.1 rfl (Nat.le_of_ble_eq_true rfl) dX4_takeBehindUnit_91 ⟨Nat.zero_le _, Nat.zero_le _⟩ (fun Hx1 lx1 wx1 => ?_)
  refine lv_aload_n (pc := 94) hx hb dX4_takeBehindUnit_94 rfl (lv_at hl 0 rfl) ?_
  refine zg_Reader_law (pc := 95) X wx1 zw_fl_2_73 dX4_takeBehindUnit_95 ?_
  obtain ⟨x2, ex2, h⟩ := z_bd h
  refine z_cvV (pc := 98) (rest := []) X wx1 (m_X3_closeSum zk_15 ex2) (z_lt zk_15 (by decide)) (z_E3 zk_15) rfl zw_ml_4_3 zw_im_4_4 zw_se_4_5 zw_in_1_5 zw_co_4_6 zd_X3_closeSum (by decide) rfl hl.1 rfl (Nat.le_of_ble_eq_true rfl) dX4_takeBehindUnit_98 ⟨Nat.zero_le _, Nat.zero_le _⟩ (fun Hx2 lx2 wx2 => ?_)
  refine lv_aload_n (pc := 101) hx hb dX4_takeBehindUnit_101 rfl (lv_at hl 0 rfl) ?_
  refine lv_iconst (pc := 102) (v := 3) hx hb dX4_takeBehindUnit_102 (by decide) ?_
  refine zp_Reader_state (pc := 103) X wx2 zw_fl_2_65 dX4_takeBehindUnit_103 (fun HM3 lM3 wM3 => ?_)
  obtain ⟨M3, eM3, h⟩ := z_lo h
  rw [← eM3] at wM3
  refine lv_iload_n (pc := 106) hx hb dX4_takeBehindUnit_106 rfl (lv_at hl 1 rfl) ?_
  refine lv_bipush (pc := 107) (v := 16) hx hb dX4_takeBehindUnit_107 (by decide) ?_
  refine lv_icmp_ne (pc := 109) (tgt := 124) hx hb dX4_takeBehindUnit_109 (by decide) (fun c4 => ?_) (fun c4 => ?_)
  · replace h := z_f c4 h
    obtain rfl := Option.some.inj h
    exact z_rv (pc := 124) X wM3 dX4_takeBehindUnit_124
  · replace h := z_t c4 h
    refine lv_aload_n (pc := 112) hx hb dX4_takeBehindUnit_112 rfl (lv_at hl 0 rfl) ?_
    obtain ⟨x5, ex5, h⟩ := z_bd h
    refine z_cvV (pc := 113) (rest := []) X wM3 (m_X4_closeLine  ex5) (z_lt zk_30 (by decide)) (z_E4 zk_30) rfl zw_ml_3_231 zw_im_3_233 zw_se_S_17 zw_in_1_8 zw_co_3_234 zd_X4_closeLine (by decide) rfl hl.1 rfl (Nat.le_of_ble_eq_true rfl) dX4_takeBehindUnit_113 ⟨Nat.zero_le _, Nat.zero_le _⟩ (fun Hx5 lx5 wx5 => ?_)
    refine lv_goto (pc := 116) (tgt := 124) hx hb dX4_takeBehindUnit_116 (by decide) ?_
    obtain rfl := Option.some.inj h
    exact z_rv (pc := 124) X wx5 dX4_takeBehindUnit_124
set_option maxHeartbeats 4000000 in
set_option maxRecDepth 100000 in
theorem w_X4_takeBehindUnit_71 {G : zG} {p : Program} {l : Launch} {e : Env} {s : State} {m : MethodId} {args : Array Value} {below : List Frame} {meth : Method} {c : Code} (X : z_C G p s m args meth c cX4_takeBehindUnit 2 RX4 none) {r : zM} : ∀ (i1 : Int32) (M : zM) (H : Heap) (locs : List Loc) (ls : Array Slot), z_W G M H locs → lv_has ls 2 [(0, .ref (G.1 30)), (1, .int i1)] → f_X4_takeBehindUnit_71 i1 M = some r → W p l e (z_rm 3) s m args below meth c H locs 0 0 (z_Q G below args s none r) (F0 m 71 ls []) := by
  have hx := X.1
  have hb := X.2.1
  intro i1 M H locs ls  hw hl h
  unfold f_X4_takeBehindUnit_71 at h
  refine lv_aload_n (pc := 71) hx hb dX4_takeBehindUnit_71 rfl (lv_at hl 0 rfl) ?_
  refine zg_Reader_side (pc := 72) X hw zw_fl_2_66 dX4_takeBehindUnit_72 ?_
  refine lv_if_ne (pc := 75) (tgt := 119) hx hb dX4_takeBehindUnit_75 (by decide) (fun c1 => ?_) (fun c1 => ?_)
  · replace h := z_f c1 h
    refine lv_aload_n (pc := 119) hx hb dX4_takeBehindUnit_119 rfl (lv_at hl 0 rfl) ?_
    refine lv_iconst (pc := 120) (v := 1) hx hb dX4_takeBehindUnit_120 (by decide) ?_
    refine zp_Reader_fault (pc := 121) X hw zw_fl_2_61 dX4_takeBehindUnit_121 (fun HM2 lM2 wM2 => ?_)
    obtain ⟨M2, eM2, h⟩ := z_lo h
    rw [← eM2] at wM2
    obtain rfl := Option.some.inj h
    exact z_rv (pc := 124) X wM2 dX4_takeBehindUnit_124
  · replace h := z_t c1 h
    refine lv_iload_n (pc := 78) hx hb dX4_takeBehindUnit_78 rfl (lv_at hl 1 rfl) ?_
    refine lv_iconst (pc := 79) (v := 4) hx hb dX4_takeBehindUnit_79 (by decide) ?_
    refine lv_icmp_eq (pc := 80) (tgt := 89) hx hb dX4_takeBehindUnit_80 (by decide) (fun c3 => ?_) (fun c3 => ?_)
    · replace h := z_t c3 h
      exact w_X4_takeBehindUnit_89 X i1 M H locs ls  hw (lv_sub hl [0, 1] rfl) h
    · replace h := z_f c3 h
      refine lv_iload_n (pc := 83) hx hb dX4_takeBehindUnit_83 rfl (lv_at hl 1 rfl) ?_
      refine lv_bipush (pc := 84) (v := 16) hx hb dX4_takeBehindUnit_84 (by decide) ?_
      refine lv_icmp_ne (pc := 86) (tgt := 119) hx hb dX4_takeBehindUnit_86 (by decide) (fun c4 => ?_) (fun c4 => ?_)
      · replace h := z_f c4 h
        refine lv_aload_n (pc := 119) hx hb dX4_takeBehindUnit_119 rfl (lv_at hl 0 rfl) ?_
        refine lv_iconst (pc := 120) (v := 1) hx hb dX4_takeBehindUnit_120 (by decide) ?_
        refine zp_Reader_fault (pc := 121) X hw zw_fl_2_61 dX4_takeBehindUnit_121 (fun HM5 lM5 wM5 => ?_)
        obtain ⟨M5, eM5, h⟩ := z_lo h
        rw [← eM5] at wM5
        obtain rfl := Option.some.inj h
        exact z_rv (pc := 124) X wM5 dX4_takeBehindUnit_124
      · replace h := z_t c4 h
        exact w_X4_takeBehindUnit_89 X i1 M H locs ls  hw (lv_sub hl [0, 1] rfl) h
set_option maxHeartbeats 4000000 in
set_option maxRecDepth 100000 in
theorem m_X4_takeBehindUnit {l : Launch} {G : zG} {i1 : Int32} {M : zM} {r : zM} (h : f_X4_takeBehindUnit i1 M = some r) : z_T l G 3 yX4_takeBehindUnit (.code yX4_takeBehindUnit cX4_takeBehindUnit 2 none) [.ref (G.1 30), .int i1] M none r := by
  refine z_of rfl ?_
  intro p e s m below meth c X hw
  have hl := lv_entry [.ref (G.1 30), .int i1] (n := 2) (Nat.le_of_ble_eq_true rfl)
  rw [lg_entry_eq]
  generalize (lg_sl [.ref (G.1 30), .int i1] ++ List.replicate (2 - (lg_sl [.ref (G.1 30), .int i1]).length) Slot.unset).toArray = ls at hl ⊢
  have hl : lv_has ls 2 [(0, .ref (G.1 30)), (1, .int i1)] := hl
  generalize ([.ref (G.1 30), .int i1] : List Value).toArray = args at X ⊢
  have X : z_C G p s m args meth c cX4_takeBehindUnit 2 RX4 none := X
  have hx := X.1
  have hb := X.2.1
  unfold f_X4_takeBehindUnit at h
  refine lv_iload_n (pc := 0) hx hb dX4_takeBehindUnit_0 rfl (lv_at hl 1 rfl) ?_
  refine lv_bipush (pc := 1) (v := 17) hx hb dX4_takeBehindUnit_1 (by decide) ?_
  refine lv_bipush (pc := 3) (v := 20) hx hb dX4_takeBehindUnit_3 (by decide) ?_
  obtain ⟨x1, ex1, h⟩ := z_bd h
  refine z_csnI (pc := 5) (rest := []) X hw (m_X10_within  ex1) zwn_X4_79 zw_st_2_209 zw_in_1_1 zw_co_2_210 zd_X10_within (by decide) rfl hl.1 rfl (Nat.le_of_ble_eq_true rfl) dX4_takeBehindUnit_5 ⟨Nat.zero_le _, Nat.zero_le _⟩ (fun Hx1 lx1 wx1 => ?_)
  refine lv_if_eq (pc := 8) (tgt := 34) hx hb dX4_takeBehindUnit_8 (by decide) (fun c2 => ?_) (fun c2 => ?_)
  · replace h := z_t c2 h
    refine lv_aload_n (pc := 34) hx hb dX4_takeBehindUnit_34 rfl (lv_at hl 0 rfl) ?_
    refine zg_Reader_side (pc := 35) X wx1 zw_fl_2_66 dX4_takeBehindUnit_35 ?_
    refine lv_iconst (pc := 38) (v := 1) hx hb dX4_takeBehindUnit_38 (by decide) ?_
    refine lv_icmp_ne (pc := 39) (tgt := 71) hx hb dX4_takeBehindUnit_39 (by decide) (fun c3 => ?_) (fun c3 => ?_)
    · replace h := z_f c3 h
      exact w_X4_takeBehindUnit_71 X i1 x1.2 Hx1 lx1 ls  wx1 (lv_sub hl [0, 1] rfl) h
    · replace h := z_t c3 h
      refine lv_iload_n (pc := 42) hx hb dX4_takeBehindUnit_42 rfl (lv_at hl 1 rfl) ?_
      refine lv_bipush (pc := 43) (v := 23) hx hb dX4_takeBehindUnit_43 (by decide) ?_
      refine lv_bipush (pc := 45) (v := 25) hx hb dX4_takeBehindUnit_45 (by decide) ?_
      obtain ⟨x4, ex4, h⟩ := z_bd h
      refine z_csnI (pc := 47) (rest := []) X wx1 (m_X10_within  ex4) zwn_X4_79 zw_st_2_209 zw_in_1_1 zw_co_2_210 zd_X10_within (by decide) rfl hl.1 rfl (Nat.le_of_ble_eq_true rfl) dX4_takeBehindUnit_47 ⟨Nat.zero_le _, Nat.zero_le _⟩ (fun Hx4 lx4 wx4 => ?_)
      refine lv_if_eq (pc := 50) (tgt := 71) hx hb dX4_takeBehindUnit_50 (by decide) (fun c5 => ?_) (fun c5 => ?_)
      · replace h := z_t c5 h
        exact w_X4_takeBehindUnit_71 X i1 x4.2 Hx4 lx4 ls  wx4 (lv_sub hl [0, 1] rfl) h
      · replace h := z_f c5 h
        refine lv_aload_n (pc := 53) hx hb dX4_takeBehindUnit_53 rfl (lv_at hl 0 rfl) ?_
        refine lv_iload_n (pc := 54) hx hb dX4_takeBehindUnit_54 rfl (lv_at hl 1 rfl) ?_
        obtain ⟨x6, ex6, h⟩ := z_bd h
        refine z_cvV (pc := 55) (rest := []) X wx4 (m_X4_join  ex6) (z_lt zk_30 (by decide)) (z_E4 zk_30) rfl zw_ml_3_217 zw_im_3_219 zw_se_S_14 zw_in_1_8 zw_co_3_220 zd_X4_join (by decide) rfl hl.1 rfl (Nat.le_of_ble_eq_true rfl) dX4_takeBehindUnit_55 ⟨Nat.zero_le _, Nat.zero_le _⟩ (fun Hx6 lx6 wx6 => ?_)
        refine lv_aload_n (pc := 58) hx hb dX4_takeBehindUnit_58 rfl (lv_at hl 0 rfl) ?_
        refine lv_iconst (pc := 59) (v := 2) hx hb dX4_takeBehindUnit_59 (by decide) ?_
        refine zp_Reader_side (pc := 60) X wx6 zw_fl_2_66 dX4_takeBehindUnit_60 (fun HM7 lM7 wM7 => ?_)
        obtain ⟨M7, eM7, h⟩ := z_lo h
        rw [← eM7] at wM7
        refine lv_aload_n (pc := 63) hx hb dX4_takeBehindUnit_63 rfl (lv_at hl 0 rfl) ?_
        refine lv_iconst (pc := 64) (v := 1) hx hb dX4_takeBehindUnit_64 (by decide) ?_
        refine zp_Reader_state (pc := 65) X wM7 zw_fl_2_65 dX4_takeBehindUnit_65 (fun HM8 lM8 wM8 => ?_)
        obtain ⟨M8, eM8, h⟩ := z_lo h
        rw [← eM8] at wM8
        refine lv_goto (pc := 68) (tgt := 124) hx hb dX4_takeBehindUnit_68 (by decide) ?_
        obtain rfl := Option.some.inj h
        exact z_rv (pc := 124) X wM8 dX4_takeBehindUnit_124
  · replace h := z_f c2 h
    refine lv_aload_n (pc := 11) hx hb dX4_takeBehindUnit_11 rfl (lv_at hl 0 rfl) ?_
    refine lv_iload_n (pc := 12) hx hb dX4_takeBehindUnit_12 rfl (lv_at hl 1 rfl) ?_
    obtain ⟨x9, ex9, h⟩ := z_bd h
    refine z_cvV (pc := 13) (rest := []) X wx1 (m_X4_join  ex9) (z_lt zk_30 (by decide)) (z_E4 zk_30) rfl zw_ml_3_217 zw_im_3_219 zw_se_S_14 zw_in_1_8 zw_co_3_220 zd_X4_join (by decide) rfl hl.1 rfl (Nat.le_of_ble_eq_true rfl) dX4_takeBehindUnit_13 ⟨Nat.zero_le _, Nat.zero_le _⟩ (fun Hx9 lx9 wx9 => ?_)
    refine lv_aload_n (pc := 16) hx hb dX4_takeBehindUnit_16 rfl (lv_at hl 0 rfl) ?_
    refine lv_iload_n (pc := 17) hx hb dX4_takeBehindUnit_17 rfl (lv_at hl 1 rfl) ?_
    refine lv_bipush (pc := 18) (v := 20) hx hb dX4_takeBehindUnit_18 (by decide) ?_
    refine lv_icmp_ne (pc := 20) (tgt := 27) hx hb dX4_takeBehindUnit_20 (by decide) (fun c10 => ?_) (fun c10 => ?_)
    · replace h := z_f c10 h
      refine lv_iconst (pc := 27) (v := 1) hx hb dX4_takeBehindUnit_27 (by decide) ?_
      refine zp_Reader_state (pc := 28) X wx9 zw_fl_2_65 dX4_takeBehindUnit_28 (fun HM11 lM11 wM11 => ?_)
      obtain ⟨M11, eM11, h⟩ := z_lo h
      rw [← eM11] at wM11
      refine lv_goto (pc := 31) (tgt := 124) hx hb dX4_takeBehindUnit_31 (by decide) ?_
      obtain rfl := Option.some.inj h
      exact z_rv (pc := 124) X wM11 dX4_takeBehindUnit_124
    · replace h := z_t c10 h
      refine lv_iconst (pc := 23) (v := 2) hx hb dX4_takeBehindUnit_23 (by decide) ?_
      refine lv_goto (pc := 24) (tgt := 28) hx hb dX4_takeBehindUnit_24 (by decide) ?_
      refine zp_Reader_state (pc := 28) X wx9 zw_fl_2_65 dX4_takeBehindUnit_28 (fun HM12 lM12 wM12 => ?_)
      obtain ⟨M12, eM12, h⟩ := z_lo h
      rw [← eM12] at wM12
      refine lv_goto (pc := 31) (tgt := 124) hx hb dX4_takeBehindUnit_31 (by decide) ?_
      obtain rfl := Option.some.inj h
      exact z_rv (pc := 124) X wM12 dX4_takeBehindUnit_124
def f_X4_take (i1 : Int32) (M : zM) : Option (zM) :=
  z_l (M.1 30 2) fun v1 =>
  if v1 = (0 : Int32) then (
    (f_X4_takeLine i1 M).bind fun x3 =>
    some x3
  ) else (
  if v1 = (1 : Int32) then (
    (f_X4_takeUnit i1 M).bind fun x5 =>
    some x5
  ) else (
  if v1 = (2 : Int32) then (
    (f_X4_takePart i1 M).bind fun x7 =>
    some x7
  ) else (
  if v1 = (3 : Int32) then (
    (f_X4_takeCase i1 M).bind fun x9 =>
    some x9
  ) else (
  if v1 = (4 : Int32) then (
    if (M.1 30 3) = (2 : Int32) then (
      (f_X10_within i1 (17 : Int32) (20 : Int32) M).bind fun x13 =>
      if x13.1 = 0 then (
        (f_X4_takeBehindCase i1 x13.2).bind fun x16 =>
        some x16
      ) else (
        (f_X4_takeBehindUnit i1 x13.2).bind fun x15 =>
        some x15
      )
    ) else (
      (f_X4_takeBehindUnit i1 M).bind fun x12 =>
      some x12
    )
  ) else (
    (f_X4_takeBehindCase i1 M).bind fun x17 =>
    some x17
  )))))
set_option maxHeartbeats 4000000 in
set_option maxRecDepth 100000 in
theorem m_X4_take {l : Launch} {G : zG} {i1 : Int32} {M : zM} {r : zM} (h : f_X4_take i1 M = some r) : z_T l G 4 yX4_take (.code yX4_take cX4_take 2 none) [.ref (G.1 30), .int i1] M none r := by
  refine z_of rfl ?_
  intro p e s m below meth c X hw
  have hl := lv_entry [.ref (G.1 30), .int i1] (n := 2) (Nat.le_of_ble_eq_true rfl)
  rw [lg_entry_eq]
  generalize (lg_sl [.ref (G.1 30), .int i1] ++ List.replicate (2 - (lg_sl [.ref (G.1 30), .int i1]).length) Slot.unset).toArray = ls at hl ⊢
  have hl : lv_has ls 2 [(0, .ref (G.1 30)), (1, .int i1)] := hl
  generalize ([.ref (G.1 30), .int i1] : List Value).toArray = args at X ⊢
  have X : z_C G p s m args meth c cX4_take 2 RX4 none := X
  have hx := X.1
  have hb := X.2.1
  unfold f_X4_take at h
  refine lv_aload_n (pc := 0) hx hb dX4_take_0 rfl (lv_at hl 0 rfl) ?_
  refine zg_Reader_state (pc := 1) X hw zw_fl_2_65 dX4_take_1 ?_
  obtain ⟨v1, ev1, h⟩ := z_lo h
  refine z_topi ev1 ?_
  by_cases c2 : v1 = (0 : Int32)
  · replace h := z_t c2 h
    refine lv_tableIn (pc := 4) (off := 36) (tgt := 40) hx hb dX4_take_4 (by rw [c2]; decide) (by rw [c2]; decide) (by rw [c2]; rfl) (by decide) ?_
    refine lv_aload_n (pc := 40) hx hb dX4_take_40 rfl (lv_at hl 0 rfl) ?_
    refine lv_iload_n (pc := 41) hx hb dX4_take_41 rfl (lv_at hl 1 rfl) ?_
    obtain ⟨x3, ex3, h⟩ := z_bd h
    refine z_cvV (pc := 42) (rest := []) X hw (m_X4_takeLine  ex3) (z_lt zk_30 (by decide)) (z_E4 zk_30) rfl zw_ml_3_188 zw_im_3_190 zw_se_S_8 zw_in_1_8 zw_co_3_191 zd_X4_takeLine (by decide) rfl hl.1 rfl (Nat.le_of_ble_eq_true rfl) dX4_take_42 ⟨Nat.zero_le _, Nat.zero_le _⟩ (fun Hx3 lx3 wx3 => ?_)
    refine lv_goto (pc := 45) (tgt := 112) hx hb dX4_take_45 (by decide) ?_
    obtain rfl := Option.some.inj h
    exact z_rv (pc := 112) X wx3 dX4_take_112
  · replace h := z_f c2 h
    by_cases c4 : v1 = (1 : Int32)
    · replace h := z_t c4 h
      refine lv_tableIn (pc := 4) (off := 44) (tgt := 48) hx hb dX4_take_4 (by rw [c4]; decide) (by rw [c4]; decide) (by rw [c4]; rfl) (by decide) ?_
      refine lv_aload_n (pc := 48) hx hb dX4_take_48 rfl (lv_at hl 0 rfl) ?_
      refine lv_iload_n (pc := 49) hx hb dX4_take_49 rfl (lv_at hl 1 rfl) ?_
      obtain ⟨x5, ex5, h⟩ := z_bd h
      refine z_cvV (pc := 50) (rest := []) X hw (m_X4_takeUnit  ex5) (z_lt zk_30 (by decide)) (z_E4 zk_30) rfl zw_ml_3_192 zw_im_3_194 zw_se_S_9 zw_in_1_8 zw_co_3_195 zd_X4_takeUnit (by decide) rfl hl.1 rfl (Nat.le_of_ble_eq_true rfl) dX4_take_50 ⟨Nat.zero_le _, Nat.zero_le _⟩ (fun Hx5 lx5 wx5 => ?_)
      refine lv_goto (pc := 53) (tgt := 112) hx hb dX4_take_53 (by decide) ?_
      obtain rfl := Option.some.inj h
      exact z_rv (pc := 112) X wx5 dX4_take_112
    · replace h := z_f c4 h
      by_cases c6 : v1 = (2 : Int32)
      · replace h := z_t c6 h
        refine lv_tableIn (pc := 4) (off := 52) (tgt := 56) hx hb dX4_take_4 (by rw [c6]; decide) (by rw [c6]; decide) (by rw [c6]; rfl) (by decide) ?_
        refine lv_aload_n (pc := 56) hx hb dX4_take_56 rfl (lv_at hl 0 rfl) ?_
        refine lv_iload_n (pc := 57) hx hb dX4_take_57 rfl (lv_at hl 1 rfl) ?_
        obtain ⟨x7, ex7, h⟩ := z_bd h
        refine z_cvV (pc := 58) (rest := []) X hw (m_X4_takePart  ex7) (z_lt zk_30 (by decide)) (z_E4 zk_30) rfl zw_ml_3_201 zw_im_3_203 zw_se_S_10 zw_in_1_8 zw_co_3_204 zd_X4_takePart (by decide) rfl hl.1 rfl (Nat.le_of_ble_eq_true rfl) dX4_take_58 ⟨Nat.zero_le _, Nat.zero_le _⟩ (fun Hx7 lx7 wx7 => ?_)
        refine lv_goto (pc := 61) (tgt := 112) hx hb dX4_take_61 (by decide) ?_
        obtain rfl := Option.some.inj h
        exact z_rv (pc := 112) X wx7 dX4_take_112
      · replace h := z_f c6 h
        by_cases c8 : v1 = (3 : Int32)
        · replace h := z_t c8 h
          refine lv_tableIn (pc := 4) (off := 60) (tgt := 64) hx hb dX4_take_4 (by rw [c8]; decide) (by rw [c8]; decide) (by rw [c8]; rfl) (by decide) ?_
          refine lv_aload_n (pc := 64) hx hb dX4_take_64 rfl (lv_at hl 0 rfl) ?_
          refine lv_iload_n (pc := 65) hx hb dX4_take_65 rfl (lv_at hl 1 rfl) ?_
          obtain ⟨x9, ex9, h⟩ := z_bd h
          refine z_cvV (pc := 66) (rest := []) X hw (m_X4_takeCase  ex9) (z_lt zk_30 (by decide)) (z_E4 zk_30) rfl zw_ml_3_205 zw_im_3_207 zw_se_S_11 zw_in_1_8 zw_co_3_208 zd_X4_takeCase (by decide) rfl hl.1 rfl (Nat.le_of_ble_eq_true rfl) dX4_take_66 ⟨Nat.zero_le _, Nat.zero_le _⟩ (fun Hx9 lx9 wx9 => ?_)
          refine lv_goto (pc := 69) (tgt := 112) hx hb dX4_take_69 (by decide) ?_
          obtain rfl := Option.some.inj h
          exact z_rv (pc := 112) X wx9 dX4_take_112
        · replace h := z_f c8 h
          by_cases c10 : v1 = (4 : Int32)
          · replace h := z_t c10 h
            refine lv_tableIn (pc := 4) (off := 68) (tgt := 72) hx hb dX4_take_4 (by rw [c10]; decide) (by rw [c10]; decide) (by rw [c10]; rfl) (by decide) ?_
            refine lv_aload_n (pc := 72) hx hb dX4_take_72 rfl (lv_at hl 0 rfl) ?_
            refine zg_Reader_side (pc := 73) X hw zw_fl_2_66 dX4_take_73 ?_
            refine lv_iconst (pc := 76) (v := 2) hx hb dX4_take_76 (by decide) ?_
            refine lv_icmp_ne (pc := 77) (tgt := 99) hx hb dX4_take_77 (by decide) (fun c11 => ?_) (fun c11 => ?_)
            · replace h := z_f c11 h
              refine lv_aload_n (pc := 99) hx hb dX4_take_99 rfl (lv_at hl 0 rfl) ?_
              refine lv_iload_n (pc := 100) hx hb dX4_take_100 rfl (lv_at hl 1 rfl) ?_
              obtain ⟨x12, ex12, h⟩ := z_bd h
              refine z_cvV (pc := 101) (rest := []) X hw (m_X4_takeBehindUnit  ex12) (z_lt zk_30 (by decide)) (z_E4 zk_30) rfl zw_ml_3_239 zw_im_4_1 zw_se_S_18 zw_in_1_8 zw_co_4_2 zd_X4_takeBehindUnit (by decide) rfl hl.1 rfl (Nat.le_of_ble_eq_true rfl) dX4_take_101 ⟨Nat.zero_le _, Nat.zero_le _⟩ (fun Hx12 lx12 wx12 => ?_)
              refine lv_goto (pc := 104) (tgt := 112) hx hb dX4_take_104 (by decide) ?_
              obtain rfl := Option.some.inj h
              exact z_rv (pc := 112) X wx12 dX4_take_112
            · replace h := z_t c11 h
              refine lv_iload_n (pc := 80) hx hb dX4_take_80 rfl (lv_at hl 1 rfl) ?_
              refine lv_bipush (pc := 81) (v := 17) hx hb dX4_take_81 (by decide) ?_
              refine lv_bipush (pc := 83) (v := 20) hx hb dX4_take_83 (by decide) ?_
              obtain ⟨x13, ex13, h⟩ := z_bd h
              refine z_csnI (pc := 85) (rest := []) X hw (m_X10_within  ex13) zwn_X4_79 zw_st_2_209 zw_in_1_1 zw_co_2_210 zd_X10_within (by decide) rfl hl.1 rfl (Nat.le_of_ble_eq_true rfl) dX4_take_85 ⟨Nat.zero_le _, Nat.zero_le _⟩ (fun Hx13 lx13 wx13 => ?_)
              refine lv_if_ne (pc := 88) (tgt := 99) hx hb dX4_take_88 (by decide) (fun c14 => ?_) (fun c14 => ?_)
              · replace h := z_f c14 h
                refine lv_aload_n (pc := 99) hx hb dX4_take_99 rfl (lv_at hl 0 rfl) ?_
                refine lv_iload_n (pc := 100) hx hb dX4_take_100 rfl (lv_at hl 1 rfl) ?_
                obtain ⟨x15, ex15, h⟩ := z_bd h
                refine z_cvV (pc := 101) (rest := []) X wx13 (m_X4_takeBehindUnit  ex15) (z_lt zk_30 (by decide)) (z_E4 zk_30) rfl zw_ml_3_239 zw_im_4_1 zw_se_S_18 zw_in_1_8 zw_co_4_2 zd_X4_takeBehindUnit (by decide) rfl hl.1 rfl (Nat.le_of_ble_eq_true rfl) dX4_take_101 ⟨Nat.zero_le _, Nat.zero_le _⟩ (fun Hx15 lx15 wx15 => ?_)
                refine lv_goto (pc := 104) (tgt := 112) hx hb dX4_take_104 (by decide) ?_
                obtain rfl := Option.some.inj h
                exact z_rv (pc := 112) X wx15 dX4_take_112
              · replace h := z_t c14 h
                refine lv_aload_n (pc := 91) hx hb dX4_take_91 rfl (lv_at hl 0 rfl) ?_
                refine lv_iload_n (pc := 92) hx hb dX4_take_92 rfl (lv_at hl 1 rfl) ?_
                obtain ⟨x16, ex16, h⟩ := z_bd h
                refine z_cvV (pc := 93) (rest := []) X wx13 (m_X4_takeBehindCase  ex16) (z_lt zk_30 (by decide)) (z_E4 zk_30) rfl zw_ml_3_213 zw_im_3_215 zw_se_S_13 zw_in_1_8 zw_co_3_216 zd_X4_takeBehindCase (by decide) rfl hl.1 rfl (Nat.le_of_ble_eq_true rfl) dX4_take_93 ⟨Nat.zero_le _, Nat.zero_le _⟩ (fun Hx16 lx16 wx16 => ?_)
                refine lv_goto (pc := 96) (tgt := 112) hx hb dX4_take_96 (by decide) ?_
                obtain rfl := Option.some.inj h
                exact z_rv (pc := 112) X wx16 dX4_take_112
          · replace h := z_f c10 h
            have qc2 : (v1).toInt ≠ 0 := z_ne c2
            have qc4 : (v1).toInt ≠ 1 := z_ne c4
            have qc6 : (v1).toInt ≠ 2 := z_ne c6
            have qc8 : (v1).toInt ≠ 3 := z_ne c8
            have qc10 : (v1).toInt ≠ 4 := z_ne c10
            refine lv_tableOut (pc := 4) (tgt := 107) hx hb dX4_take_4 (by omega) (by decide) ?_
            refine lv_aload_n (pc := 107) hx hb dX4_take_107 rfl (lv_at hl 0 rfl) ?_
            refine lv_iload_n (pc := 108) hx hb dX4_take_108 rfl (lv_at hl 1 rfl) ?_
            obtain ⟨x17, ex17, h⟩ := z_bd h
            refine z_cvV (pc := 109) (rest := []) X hw (m_X4_takeBehindCase  ex17) (z_lt zk_30 (by decide)) (z_E4 zk_30) rfl zw_ml_3_213 zw_im_3_215 zw_se_S_13 zw_in_1_8 zw_co_3_216 zd_X4_takeBehindCase (by decide) rfl hl.1 rfl (Nat.le_of_ble_eq_true rfl) dX4_take_109 ⟨Nat.zero_le _, Nat.zero_le _⟩ (fun Hx17 lx17 wx17 => ?_)
            obtain rfl := Option.some.inj h
            exact z_rv (pc := 112) X wx17 dX4_take_112
def f_X4_read_33 : Nat → Int32 → zM → Option (zM)
  | 0, _, _ => none
  | n + 1, i2, M =>
    if (400 : Int32) < i2 then (
      if (M.1 30 0) = 0 then (
        z_l (z_w M 30 1 (-1 : Int32)) fun M4 =>
        some M4
      ) else (
        z_l (z_w M 30 1 (M.1 28 5)) fun M3 =>
        some M3
      )
    ) else (
      if (M.1 30 8) = 0 then (
        if (M.1 30 0) = 0 then (
          (f_X9_scan  M).bind fun x13 =>
          z_l (z_w x13 30 9 (x13.1 28 4)) fun M14 =>
          (f_X4_take (M14.1 28 3) M14).bind fun x15 =>
          z_l (i2 + (1 : Int32)) fun v16 =>
          f_X4_read_33 n v16 x15
        ) else (
          if (M.1 30 0) = 0 then (
            z_l (z_w M 30 1 (-1 : Int32)) fun M12 =>
            some M12
          ) else (
            z_l (z_w M 30 1 (M.1 28 5)) fun M11 =>
            some M11
          )
        )
      ) else (
        if (M.1 30 0) = 0 then (
          z_l (z_w M 30 1 (-1 : Int32)) fun M8 =>
          some M8
        ) else (
          z_l (z_w M 30 1 (M.1 28 5)) fun M7 =>
          some M7
        )
      )
    )
def f_X4_read  (M : zM) : Option (zM) :=
  (f_X3_clear 15 M).bind fun x1 =>
  (f_X9_rewind  x1).bind fun x2 =>
  z_l (z_w x2 30 0 (0 : Int32)) fun M3 =>
  z_l (z_w M3 30 2 (0 : Int32)) fun M4 =>
  z_l (z_w M4 30 6 (0 : Int32)) fun M5 =>
  z_l (z_w M5 30 8 (0 : Int32)) fun M6 =>
  f_X4_read_33 z_F (0 : Int32) M6
set_option maxHeartbeats 4000000 in
set_option maxRecDepth 100000 in
theorem w_X4_read_33 {G : zG} {p : Program} {l : Launch} {e : Env} {s : State} {m : MethodId} {args : Array Value} {below : List Frame} {meth : Method} {c : Code} (X : z_C G p s m args meth c cX4_read 3 RX4 none) {r : zM} : ∀ (n : Nat) (i2 : Int32) (M : zM) (H : Heap) (locs : List Loc) (ls : Array Slot), z_W G M H locs → lv_has ls 3 [(0, .ref (G.1 30)), (1, .ref (G.1 28)), (2, .int i2)] → f_X4_read_33 n i2 M = some r → W p l e (z_rm 7) s m args below meth c H locs 0 0 (z_Q G below args s none r) (F0 m 33 ls []) := by
  have hx := X.1
  have hb := X.2.1
  intro n
  induction n with
  | zero =>
    intro i2 M H locs ls  hw hl h
    exact z_no h
  | succ n ih =>
    intro i2 M H locs ls  hw hl h
    rw [f_X4_read_33] at h
    refine lv_iload_n (pc := 33) hx hb dX4_read_33 rfl (lv_at hl 2 rfl) ?_
    refine lv_sipush (pc := 34) (v := 400) hx hb dX4_read_34 (by decide) ?_
    refine lv_icmp_gt (pc := 37) (tgt := 80) hx hb dX4_read_37 (by decide) (fun c1 => ?_) (fun c1 => ?_)
    · replace h := z_t c1 h
      refine lv_aload_n (pc := 80) hx hb dX4_read_80 rfl (lv_at hl 0 rfl) ?_
      refine lv_aload_n (pc := 81) hx hb dX4_read_81 rfl (lv_at hl 0 rfl) ?_
      refine zg_Reader_fault (pc := 82) X hw zw_fl_2_61 dX4_read_82 ?_
      refine lv_if_ne (pc := 85) (tgt := 92) hx hb dX4_read_85 (by decide) (fun c2 => ?_) (fun c2 => ?_)
      · replace h := z_f c2 h
        refine lv_aload_n (pc := 92) hx hb dX4_read_92 rfl (lv_at hl 1 rfl) ?_
        refine zg_Tape_place (pc := 93) X hw zw_fl_2_37 dX4_read_93 ?_
        refine zp_Reader_faultPlace (pc := 96) X hw zw_fl_2_63 dX4_read_96 (fun HM3 lM3 wM3 => ?_)
        obtain ⟨M3, eM3, h⟩ := z_lo h
        rw [← eM3] at wM3
        obtain rfl := Option.some.inj h
        exact z_rv (pc := 99) X wM3 dX4_read_99
      · replace h := z_t c2 h
        refine lv_iconst (pc := 88) (v := -1) hx hb dX4_read_88 (by decide) ?_
        refine lv_goto (pc := 89) (tgt := 96) hx hb dX4_read_89 (by decide) ?_
        refine zp_Reader_faultPlace (pc := 96) X hw zw_fl_2_63 dX4_read_96 (fun HM4 lM4 wM4 => ?_)
        obtain ⟨M4, eM4, h⟩ := z_lo h
        rw [← eM4] at wM4
        obtain rfl := Option.some.inj h
        exact z_rv (pc := 99) X wM4 dX4_read_99
    · replace h := z_f c1 h
      refine lv_aload_n (pc := 40) hx hb dX4_read_40 rfl (lv_at hl 0 rfl) ?_
      refine zg_Reader_ended (pc := 41) X hw zw_fl_2_71 dX4_read_41 ?_
      refine lv_if_ne (pc := 44) (tgt := 80) hx hb dX4_read_44 (by decide) (fun c5 => ?_) (fun c5 => ?_)
      · replace h := z_f c5 h
        refine lv_aload_n (pc := 80) hx hb dX4_read_80 rfl (lv_at hl 0 rfl) ?_
        refine lv_aload_n (pc := 81) hx hb dX4_read_81 rfl (lv_at hl 0 rfl) ?_
        refine zg_Reader_fault (pc := 82) X hw zw_fl_2_61 dX4_read_82 ?_
        refine lv_if_ne (pc := 85) (tgt := 92) hx hb dX4_read_85 (by decide) (fun c6 => ?_) (fun c6 => ?_)
        · replace h := z_f c6 h
          refine lv_aload_n (pc := 92) hx hb dX4_read_92 rfl (lv_at hl 1 rfl) ?_
          refine zg_Tape_place (pc := 93) X hw zw_fl_2_37 dX4_read_93 ?_
          refine zp_Reader_faultPlace (pc := 96) X hw zw_fl_2_63 dX4_read_96 (fun HM7 lM7 wM7 => ?_)
          obtain ⟨M7, eM7, h⟩ := z_lo h
          rw [← eM7] at wM7
          obtain rfl := Option.some.inj h
          exact z_rv (pc := 99) X wM7 dX4_read_99
        · replace h := z_t c6 h
          refine lv_iconst (pc := 88) (v := -1) hx hb dX4_read_88 (by decide) ?_
          refine lv_goto (pc := 89) (tgt := 96) hx hb dX4_read_89 (by decide) ?_
          refine zp_Reader_faultPlace (pc := 96) X hw zw_fl_2_63 dX4_read_96 (fun HM8 lM8 wM8 => ?_)
          obtain ⟨M8, eM8, h⟩ := z_lo h
          rw [← eM8] at wM8
          obtain rfl := Option.some.inj h
          exact z_rv (pc := 99) X wM8 dX4_read_99
      · replace h := z_t c5 h
        refine lv_aload_n (pc := 47) hx hb dX4_read_47 rfl (lv_at hl 0 rfl) ?_
        refine zg_Reader_fault (pc := 48) X hw zw_fl_2_61 dX4_read_48 ?_
        refine lv_if_ne (pc := 51) (tgt := 80) hx hb dX4_read_51 (by decide) (fun c9 => ?_) (fun c9 => ?_)
        · replace h := z_f c9 h
          refine lv_aload_n (pc := 80) hx hb dX4_read_80 rfl (lv_at hl 0 rfl) ?_
          refine lv_aload_n (pc := 81) hx hb dX4_read_81 rfl (lv_at hl 0 rfl) ?_
          refine zg_Reader_fault (pc := 82) X hw zw_fl_2_61 dX4_read_82 ?_
          refine lv_if_ne (pc := 85) (tgt := 92) hx hb dX4_read_85 (by decide) (fun c10 => ?_) (fun c10 => ?_)
          · replace h := z_f c10 h
            refine lv_aload_n (pc := 92) hx hb dX4_read_92 rfl (lv_at hl 1 rfl) ?_
            refine zg_Tape_place (pc := 93) X hw zw_fl_2_37 dX4_read_93 ?_
            refine zp_Reader_faultPlace (pc := 96) X hw zw_fl_2_63 dX4_read_96 (fun HM11 lM11 wM11 => ?_)
            obtain ⟨M11, eM11, h⟩ := z_lo h
            rw [← eM11] at wM11
            obtain rfl := Option.some.inj h
            exact z_rv (pc := 99) X wM11 dX4_read_99
          · replace h := z_t c10 h
            refine lv_iconst (pc := 88) (v := -1) hx hb dX4_read_88 (by decide) ?_
            refine lv_goto (pc := 89) (tgt := 96) hx hb dX4_read_89 (by decide) ?_
            refine zp_Reader_faultPlace (pc := 96) X hw zw_fl_2_63 dX4_read_96 (fun HM12 lM12 wM12 => ?_)
            obtain ⟨M12, eM12, h⟩ := z_lo h
            rw [← eM12] at wM12
            obtain rfl := Option.some.inj h
            exact z_rv (pc := 99) X wM12 dX4_read_99
        · replace h := z_t c9 h
          refine lv_aload_n (pc := 54) hx hb dX4_read_54 rfl (lv_at hl 1 rfl) ?_
          obtain ⟨x13, ex13, h⟩ := z_bd h
          refine z_cvV (pc := 55) (rest := []) X hw (m_X9_scan  ex13) (z_lt zk_28 (by decide)) (z_E9 zk_28) rfl zw_ml_3_52 zw_im_3_53 zw_se_3_54 zw_in_1_7 zw_co_3_55 zd_X9_scan (by decide) rfl hl.1 rfl (Nat.le_of_ble_eq_true rfl) dX4_read_55 ⟨Nat.zero_le _, Nat.zero_le _⟩ (fun Hx13 lx13 wx13 => ?_)
          refine lv_aload_n (pc := 58) hx hb dX4_read_58 rfl (lv_at hl 0 rfl) ?_
          refine lv_aload_n (pc := 59) hx hb dX4_read_59 rfl (lv_at hl 1 rfl) ?_
          refine zg_Tape_value (pc := 60) X wx13 zw_fl_2_35 dX4_read_60 ?_
          refine zp_Reader_value (pc := 63) X wx13 zw_fl_2_72 dX4_read_63 (fun HM14 lM14 wM14 => ?_)
          obtain ⟨M14, eM14, h⟩ := z_lo h
          rw [← eM14] at wM14
          refine lv_aload_n (pc := 66) hx hb dX4_read_66 rfl (lv_at hl 0 rfl) ?_
          refine lv_aload_n (pc := 67) hx hb dX4_read_67 rfl (lv_at hl 1 rfl) ?_
          refine zg_Tape_kind (pc := 68) X wM14 zw_fl_2_33 dX4_read_68 ?_
          obtain ⟨x15, ex15, h⟩ := z_bd h
          refine z_cvV (pc := 71) (rest := []) X wM14 (m_X4_take  ex15) (z_lt zk_30 (by decide)) (z_E4 zk_30) rfl zw_ml_3_184 zw_im_3_186 zw_se_S_7 zw_in_1_8 zw_co_3_187 zd_X4_take (by decide) rfl hl.1 rfl (Nat.le_of_ble_eq_true rfl) dX4_read_71 ⟨Nat.zero_le _, Nat.zero_le _⟩ (fun Hx15 lx15 wx15 => ?_)
          obtain ⟨v16, ev16, h⟩ := z_lo h
          refine lv_iinc (pc := 74) (v := v16) (lv' := [(2, .int v16), (0, .ref (G.1 30)), (1, .ref (G.1 28))]) hx hb dX4_read_74 hl (k := 2) rfl (by rw [ev16]; rfl) (by decide) rfl (fun ls hl => ?_)
          refine lv_goto (pc := 77) (tgt := 33) hx hb dX4_read_77 (by decide) ?_
          exact ih v16 x15 Hx15 lx15 ls  wx15 (lv_sub hl [1, 2, 0] rfl) h
set_option maxHeartbeats 4000000 in
set_option maxRecDepth 100000 in
theorem m_X4_read {l : Launch} {G : zG} {M : zM} {r : zM} (h : f_X4_read  M = some r) : z_T l G 7 yX4_read (.code yX4_read cX4_read 3 none) [.ref (G.1 30), .ref (G.1 28)] M none r := by
  refine z_of rfl ?_
  intro p e s m below meth c X hw
  have hl := lv_entry [.ref (G.1 30), .ref (G.1 28)] (n := 3) (Nat.le_of_ble_eq_true rfl)
  rw [lg_entry_eq]
  generalize (lg_sl [.ref (G.1 30), .ref (G.1 28)] ++ List.replicate (3 - (lg_sl [.ref (G.1 30), .ref (G.1 28)]).length) Slot.unset).toArray = ls at hl ⊢
  have hl : lv_has ls 3 [(0, .ref (G.1 30)), (1, .ref (G.1 28))] := hl
  generalize ([.ref (G.1 30), .ref (G.1 28)] : List Value).toArray = args at X ⊢
  have X : z_C G p s m args meth c cX4_read 3 RX4 none := X
  have hx := X.1
  have hb := X.2.1
  unfold f_X4_read at h
  refine lv_aload_n (pc := 0) hx hb dX4_read_0 rfl (lv_at hl 0 rfl) ?_
  refine zg_Reader_law (pc := 1) X hw zw_fl_2_73 dX4_read_1 ?_
  obtain ⟨x1, ex1, h⟩ := z_bd h
  refine z_cvV (pc := 4) (rest := []) X hw (m_X3_clear zk_15 ex1) (z_lt zk_15 (by decide)) (z_E3 zk_15) rfl zw_ml_3_44 zw_im_3_45 zw_se_3_46 zw_in_1_5 zw_co_3_47 zd_X3_clear (by decide) rfl hl.1 rfl (Nat.le_of_ble_eq_true rfl) dX4_read_4 ⟨Nat.zero_le _, Nat.zero_le _⟩ (fun Hx1 lx1 wx1 => ?_)
  refine lv_aload_n (pc := 7) hx hb dX4_read_7 rfl (lv_at hl 1 rfl) ?_
  obtain ⟨x2, ex2, h⟩ := z_bd h
  refine z_cvV (pc := 8) (rest := []) X wx1 (m_X9_rewind  ex2) (z_lt zk_28 (by decide)) (z_E9 zk_28) rfl zw_ml_3_48 zw_im_3_49 zw_se_3_50 zw_in_1_7 zw_co_3_51 zd_X9_rewind (by decide) rfl hl.1 rfl (Nat.le_of_ble_eq_true rfl) dX4_read_8 ⟨Nat.zero_le _, Nat.zero_le _⟩ (fun Hx2 lx2 wx2 => ?_)
  refine lv_aload_n (pc := 11) hx hb dX4_read_11 rfl (lv_at hl 0 rfl) ?_
  refine lv_iconst (pc := 12) (v := 0) hx hb dX4_read_12 (by decide) ?_
  refine zp_Reader_fault (pc := 13) X wx2 zw_fl_2_61 dX4_read_13 (fun HM3 lM3 wM3 => ?_)
  obtain ⟨M3, eM3, h⟩ := z_lo h
  rw [← eM3] at wM3
  refine lv_aload_n (pc := 16) hx hb dX4_read_16 rfl (lv_at hl 0 rfl) ?_
  refine lv_iconst (pc := 17) (v := 0) hx hb dX4_read_17 (by decide) ?_
  refine zp_Reader_state (pc := 18) X wM3 zw_fl_2_65 dX4_read_18 (fun HM4 lM4 wM4 => ?_)
  obtain ⟨M4, eM4, h⟩ := z_lo h
  rw [← eM4] at wM4
  refine lv_aload_n (pc := 21) hx hb dX4_read_21 rfl (lv_at hl 0 rfl) ?_
  refine lv_iconst (pc := 22) (v := 0) hx hb dX4_read_22 (by decide) ?_
  refine zp_Reader_waits (pc := 23) X wM4 zw_fl_2_69 dX4_read_23 (fun HM5 lM5 wM5 => ?_)
  obtain ⟨M5, eM5, h⟩ := z_lo h
  rw [← eM5] at wM5
  refine lv_aload_n (pc := 26) hx hb dX4_read_26 rfl (lv_at hl 0 rfl) ?_
  refine lv_iconst (pc := 27) (v := 0) hx hb dX4_read_27 (by decide) ?_
  refine zp_Reader_ended (pc := 28) X wM5 zw_fl_2_71 rfl rfl dX4_read_28 (fun HM6 lM6 wM6 => ?_)
  obtain ⟨M6, eM6, h⟩ := z_lo h
  rw [← eM6] at wM6
  refine lv_iconst (pc := 31) (v := 0) hx hb dX4_read_31 (by decide) ?_
  refine lv_istore_n (pc := 32) (lv' := [(2, .int (0 : Int32)), (0, .ref (G.1 30)), (1, .ref (G.1 28))]) hx hb dX4_read_32 rfl hl (by decide) rfl (fun ls hl => ?_)
  exact w_X4_read_33 X z_F (0 : Int32) M6 HM6 lM6 ls  wM6 (lv_sub hl [1, 2, 0] rfl) h
def f_X5_copy_18 : Nat → Nat → Nat → Int32 → zM → Option (zM)
  | 0, _, _, _, _ => none
  | n + 1, k0, k1, i2, M =>
    if (M.1 k0 0) ≤ i2 then (
      some M
    ) else (
      z_g (z_ix i2 10) <|
      z_g (z_ix i2 10) <|
      (f_X2_copy (z_ra (k0 + 3) (Int32.toNatClampNeg i2)) (z_ra (k1 + 3) (Int32.toNatClampNeg i2)) M).bind fun x4 =>
      z_l (i2 + (1 : Int32)) fun v5 =>
      f_X5_copy_18 n k0 k1 v5 x4
    )
def f_X5_copy (k0 : Nat) (k1 : Nat) (M : zM) : Option (zM) :=
  z_l (z_w M k0 0 (M.1 k1 0)) fun M1 =>
  z_l (z_w M1 k0 1 (M1.1 k1 1)) fun M2 =>
  f_X5_copy_18 z_F k0 k1 (0 : Int32) M2
set_option maxHeartbeats 4000000 in
set_option maxRecDepth 100000 in
theorem w_X5_copy_18 {G : zG} {p : Program} {l : Launch} {e : Env} {s : State} {m : MethodId} {args : Array Value} {below : List Frame} {meth : Method} {c : Code} (X : z_C G p s m args meth c cX5_copy 3 RX5 none) {r : zM} : ∀ (n : Nat) (k0 : Nat) (k1 : Nat) (i2 : Int32) (M : zM) (H : Heap) (locs : List Loc) (ls : Array Slot), z_kd k0 = 5 → z_kd k1 = 5 → z_W G M H locs → lv_has ls 3 [(0, .ref (G.1 k0)), (1, .ref (G.1 k1)), (2, .int i2)] → f_X5_copy_18 n k0 k1 i2 M = some r → W p l e (z_rm 2) s m args below meth c H locs 0 0 (z_Q G below args s none r) (F0 m 18 ls []) := by
  have hx := X.1
  have hb := X.2.1
  intro n
  induction n with
  | zero =>
    intro k0 k1 i2 M H locs ls hk0 hk1 hw hl h
    exact z_no h
  | succ n ih =>
    intro k0 k1 i2 M H locs ls hk0 hk1 hw hl h
    rw [f_X5_copy_18] at h
    refine lv_iload_n (pc := 18) hx hb dX5_copy_18 rfl (lv_at hl 2 rfl) ?_
    refine lv_aload_n (pc := 19) hx hb dX5_copy_19 rfl (lv_at hl 0 rfl) ?_
    refine zg_Roofs_count (pc := 20) X hw hk0 zw_fl_1_135 dX5_copy_20 ?_
    refine lv_icmp_ge (pc := 23) (tgt := 47) hx hb dX5_copy_23 (by decide) (fun c1 => ?_) (fun c1 => ?_)
    · replace h := z_t c1 h
      obtain rfl := Option.some.inj h
      exact z_rv (pc := 47) X hw dX5_copy_47
    · replace h := z_f c1 h
      refine lv_aload_n (pc := 26) hx hb dX5_copy_26 rfl (lv_at hl 0 rfl) ?_
      refine zg_Roofs_houses (pc := 27) X hw hk0 zw_fl_1_144 dX5_copy_27 ?_
      refine lv_iload_n (pc := 30) hx hb dX5_copy_30 rfl (lv_at hl 2 rfl) ?_
      obtain ⟨g2, h⟩ := z_gd h
      refine z_aald16 (pc := 31) X hw (zk_Roofs_houses hk0) (zl_Roofs_houses hk0) g2 dX5_copy_31 ?_
      refine lv_aload_n (pc := 32) hx hb dX5_copy_32 rfl (lv_at hl 1 rfl) ?_
      refine zg_Roofs_houses (pc := 33) X hw hk1 zw_fl_1_144 dX5_copy_33 ?_
      refine lv_iload_n (pc := 36) hx hb dX5_copy_36 rfl (lv_at hl 2 rfl) ?_
      obtain ⟨g3, h⟩ := z_gd h
      refine z_aald16 (pc := 37) X hw (zk_Roofs_houses hk1) (zl_Roofs_houses hk1) g3 dX5_copy_37 ?_
      obtain ⟨x4, ex4, h⟩ := z_bd h
      refine z_cvV (pc := 38) (rest := []) X hw (m_X2_copy (zk_el16 (zk_Roofs_houses hk0) g2) (zk_el16 (zk_Roofs_houses hk1) g3) ex4) (z_lt (zk_el16 (zk_Roofs_houses hk0) g2) (by decide)) (z_E2 (zk_el16 (zk_Roofs_houses hk0) g2)) rfl zw_ml_5_38 zw_im_5_39 zw_se_5_40 zw_in_1_4 zw_co_5_41 zd_X2_copy (by decide) rfl hl.1 rfl (Nat.le_of_ble_eq_true rfl) dX5_copy_38 ⟨Nat.zero_le _, Nat.zero_le _⟩ (fun Hx4 lx4 wx4 => ?_)
      obtain ⟨v5, ev5, h⟩ := z_lo h
      refine lv_iinc (pc := 41) (v := v5) (lv' := [(2, .int v5), (0, .ref (G.1 k0)), (1, .ref (G.1 k1))]) hx hb dX5_copy_41 hl (k := 2) rfl (by rw [ev5]; rfl) (by decide) rfl (fun ls hl => ?_)
      refine lv_goto (pc := 44) (tgt := 18) hx hb dX5_copy_44 (by decide) ?_
      exact ih k0 k1 v5 x4 Hx4 lx4 ls hk0 hk1 wx4 (lv_sub hl [1, 2, 0] rfl) h
set_option maxHeartbeats 4000000 in
set_option maxRecDepth 100000 in
theorem m_X5_copy {l : Launch} {G : zG} {k0 : Nat} {k1 : Nat} {M : zM} {r : zM} (hk0 : z_kd k0 = 5) (hk1 : z_kd k1 = 5) (h : f_X5_copy k0 k1 M = some r) : z_T l G 2 yX5_copy (.code yX5_copy cX5_copy 3 none) [.ref (G.1 k0), .ref (G.1 k1)] M none r := by
  refine z_of rfl ?_
  intro p e s m below meth c X hw
  have hl := lv_entry [.ref (G.1 k0), .ref (G.1 k1)] (n := 3) (Nat.le_of_ble_eq_true rfl)
  rw [lg_entry_eq]
  generalize (lg_sl [.ref (G.1 k0), .ref (G.1 k1)] ++ List.replicate (3 - (lg_sl [.ref (G.1 k0), .ref (G.1 k1)]).length) Slot.unset).toArray = ls at hl ⊢
  have hl : lv_has ls 3 [(0, .ref (G.1 k0)), (1, .ref (G.1 k1))] := hl
  generalize ([.ref (G.1 k0), .ref (G.1 k1)] : List Value).toArray = args at X ⊢
  have X : z_C G p s m args meth c cX5_copy 3 RX5 none := X
  have hx := X.1
  have hb := X.2.1
  unfold f_X5_copy at h
  refine lv_aload_n (pc := 0) hx hb dX5_copy_0 rfl (lv_at hl 0 rfl) ?_
  refine lv_aload_n (pc := 1) hx hb dX5_copy_1 rfl (lv_at hl 1 rfl) ?_
  refine zg_Roofs_count (pc := 2) X hw hk1 zw_fl_1_135 dX5_copy_2 ?_
  refine zp_Roofs_count (pc := 5) X hw hk0 zw_fl_1_135 dX5_copy_5 (fun HM1 lM1 wM1 => ?_)
  obtain ⟨M1, eM1, h⟩ := z_lo h
  rw [← eM1] at wM1
  refine lv_aload_n (pc := 8) hx hb dX5_copy_8 rfl (lv_at hl 0 rfl) ?_
  refine lv_aload_n (pc := 9) hx hb dX5_copy_9 rfl (lv_at hl 1 rfl) ?_
  refine zg_Roofs_thaw (pc := 10) X wM1 hk1 zw_fl_1_141 dX5_copy_10 ?_
  refine zp_Roofs_thaw (pc := 13) X wM1 hk0 zw_fl_1_141 dX5_copy_13 (fun HM2 lM2 wM2 => ?_)
  obtain ⟨M2, eM2, h⟩ := z_lo h
  rw [← eM2] at wM2
  refine lv_iconst (pc := 16) (v := 0) hx hb dX5_copy_16 (by decide) ?_
  refine lv_istore_n (pc := 17) (lv' := [(2, .int (0 : Int32)), (0, .ref (G.1 k0)), (1, .ref (G.1 k1))]) hx hb dX5_copy_17 rfl hl (by decide) rfl (fun ls hl => ?_)
  exact w_X5_copy_18 X z_F k0 k1 (0 : Int32) M2 HM2 lM2 ls hk0 hk1 wM2 (lv_sub hl [1, 2, 0] rfl) h
def f_X5_imagineAdded_56 (K30 : Nat → Nat → Int32 → Int32 → Int32 → Int32 → Int32 → zM → Option (zM)) (k0 : Nat) (k1 : Nat) (i2 : Int32) (i3 : Int32) (i4 : Int32) (i5 : Int32) (i6 : Int32) (sk0 : Nat) (si1 : Int32) (M : zM) : Option (zM) :=
    z_g (z_ix si1 10) <|
    z_l (z_ra sk0 (Int32.toNatClampNeg si1)) fun v2 =>
    z_g (z_ix i6 10) <|
    (f_X2_imagine v2 (z_ra (k1 + 3) (Int32.toNatClampNeg i6)) M).bind fun x4 =>
    if (x4.1 v2 4) ≤ i2 then (
      z_l (i6 + (1 : Int32)) fun v6 =>
      K30 k0 k1 i2 i3 i4 i5 v6 x4
    ) else (
      z_l (z_w x4 v2 4 ((x4.1 v2 4) + (1 : Int32))) fun M7 =>
      z_l (i6 + (1 : Int32)) fun v8 =>
      K30 k0 k1 i2 i3 i4 i5 v8 M7
    )
def f_X5_imagineAdded_30 : Nat → Nat → Nat → Int32 → Int32 → Int32 → Int32 → Int32 → zM → Option (zM)
  | 0, _, _, _, _, _, _, _, _ => none
  | n + 1, k0, k1, i2, i3, i4, i5, i6, M =>
    if i5 ≤ i6 then (
      z_g (z_ix i2 10) <|
      (f_X2_build (z_ra (k0 + 3) (Int32.toNatClampNeg i2)) i3 i4 (0 : Int32) (0 : Int32) M).bind fun x3 =>
      if i5 ≤ i2 then (
        some x3
      ) else (
        z_g (z_ix i2 10) <|
        z_l (z_w x3 (z_ra (k0 + 3) (Int32.toNatClampNeg i2)) 4 (i2 + (1 : Int32))) fun M6 =>
        some M6
      )
    ) else (
      if i2 ≤ i6 then (
        f_X5_imagineAdded_56 (f_X5_imagineAdded_30 n) k0 k1 i2 i3 i4 i5 i6 (k0 + 3) (i6 + (1 : Int32)) M
      ) else (
        f_X5_imagineAdded_56 (f_X5_imagineAdded_30 n) k0 k1 i2 i3 i4 i5 i6 (k0 + 3) i6 M
      )
    )
def f_X5_imagineAdded (k0 : Nat) (k1 : Nat) (i2 : Int32) (i3 : Int32) (i4 : Int32) (M : zM) : Option (zM) :=
  z_l (if (9 : Int32) < (M.1 k1 0) then (9 : Int32) else (M.1 k1 0)) fun v1 =>
  z_l (z_w M k0 0 (v1 + (1 : Int32))) fun M2 =>
  z_l (z_w M2 k0 1 (M2.1 k1 1)) fun M3 =>
  f_X5_imagineAdded_30 z_F k0 k1 i2 i3 i4 v1 (0 : Int32) M3
set_option maxHeartbeats 4000000 in
set_option maxRecDepth 100000 in
theorem w_X5_imagineAdded_56 {G : zG} {p : Program} {l : Launch} {e : Env} {s : State} {m : MethodId} {args : Array Value} {below : List Frame} {meth : Method} {c : Code} (X : z_C G p s m args meth c cX5_imagineAdded 8 RX5 none) {r : zM} {K30 : Nat → Nat → Int32 → Int32 → Int32 → Int32 → Int32 → zM → Option (zM)} (hK30 : ∀ (k0 : Nat) (k1 : Nat) (i2 : Int32) (i3 : Int32) (i4 : Int32) (i5 : Int32) (i6 : Int32) (M : zM) (H : Heap) (locs : List Loc) (ls : Array Slot), z_kd k0 = 5 → z_kd k1 = 5 → z_W G M H locs → lv_has ls 8 [(0, .ref (G.1 k0)), (1, .ref (G.1 k1)), (2, .int i2), (3, .int i3), (4, .int i4), (5, .int i5), (6, .int i6)] → K30 k0 k1 i2 i3 i4 i5 i6 M = some r → W p l e (z_rm 1) s m args below meth c H locs 0 0 (z_Q G below args s none r) (F0 m 30 ls [])) : ∀ (k0 : Nat) (k1 : Nat) (i2 : Int32) (i3 : Int32) (i4 : Int32) (i5 : Int32) (i6 : Int32) (sk0 : Nat) (si1 : Int32) (M : zM) (H : Heap) (locs : List Loc) (ls : Array Slot), z_kd k0 = 5 → z_kd k1 = 5 → z_kd sk0 = 16 → z_W G M H locs → lv_has ls 8 [(0, .ref (G.1 k0)), (1, .ref (G.1 k1)), (2, .int i2), (3, .int i3), (4, .int i4), (5, .int i5), (6, .int i6)] → f_X5_imagineAdded_56 K30 k0 k1 i2 i3 i4 i5 i6 sk0 si1 M = some r → W p l e (z_rm 1) s m args below meth c H locs 0 0 (z_Q G below args s none r) (F0 m 56 ls [.int si1, .ref (G.1 sk0)]) := by
  have hx := X.1
  have hb := X.2.1
  intro k0 k1 i2 i3 i4 i5 i6 sk0 si1 M H locs ls hk0 hk1 hsk0 hw hl h
  unfold f_X5_imagineAdded_56 at h
  obtain ⟨g1, h⟩ := z_gd h
  refine z_aald16 (pc := 56) X hw hsk0 (zl_k16 hsk0) g1 dX5_imagineAdded_56 ?_
  obtain ⟨v2, ev2, h⟩ := z_lo h
  refine z_topr ev2 ?_
  have hv2 : z_kd v2 = 2 := by rw [ev2]; exact (zk_el16 hsk0 g1)
  refine lv_astore (pc := 57) (lv' := [(7, .ref (G.1 v2)), (0, .ref (G.1 k0)), (1, .ref (G.1 k1)), (2, .int i2), (3, .int i3), (4, .int i4), (5, .int i5), (6, .int i6)]) hx hb dX5_imagineAdded_57 hl (by decide) rfl (fun ls hl => ?_)
  refine lv_aload (pc := 59) hx hb dX5_imagineAdded_59 (lv_at hl 0 rfl) ?_
  refine lv_aload_n (pc := 61) hx hb dX5_imagineAdded_61 rfl (lv_at hl 2 rfl) ?_
  refine zg_Roofs_houses (pc := 62) X hw hk1 zw_fl_1_144 dX5_imagineAdded_62 ?_
  refine lv_iload (pc := 65) hx hb dX5_imagineAdded_65 (lv_at hl 7 rfl) ?_
  obtain ⟨g3, h⟩ := z_gd h
  refine z_aald16 (pc := 67) X hw (zk_Roofs_houses hk1) (zl_Roofs_houses hk1) g3 dX5_imagineAdded_67 ?_
  obtain ⟨x4, ex4, h⟩ := z_bd h
  refine z_cvV (pc := 68) (rest := []) X hw (m_X2_imagine hv2 (zk_el16 (zk_Roofs_houses hk1) g3) ex4) (z_lt hv2 (by decide)) (z_E2 hv2) rfl zw_ml_4_130 zw_im_4_131 zw_se_4_132 zw_in_1_4 zw_co_4_133 zd_X2_imagine (by decide) rfl hl.1 rfl (Nat.le_of_ble_eq_true rfl) dX5_imagineAdded_68 ⟨Nat.zero_le _, Nat.zero_le _⟩ (fun Hx4 lx4 wx4 => ?_)
  refine lv_aload (pc := 71) hx hb dX5_imagineAdded_71 (lv_at hl 0 rfl) ?_
  refine zg_House_empties (pc := 73) X wx4 hv2 zw_fl_1_60 dX5_imagineAdded_73 ?_
  refine lv_iload_n (pc := 76) hx hb dX5_imagineAdded_76 rfl (lv_at hl 3 rfl) ?_
  refine lv_icmp_le (pc := 77) (tgt := 91) hx hb dX5_imagineAdded_77 (by decide) (fun c5 => ?_) (fun c5 => ?_)
  · replace h := z_t c5 h
    obtain ⟨v6, ev6, h⟩ := z_lo h
    refine lv_iinc (pc := 91) (v := v6) (lv' := [(6, .int v6), (7, .ref (G.1 v2)), (0, .ref (G.1 k0)), (1, .ref (G.1 k1)), (2, .int i2), (3, .int i3), (4, .int i4), (5, .int i5)]) hx hb dX5_imagineAdded_91 hl (k := 7) rfl (by rw [ev6]; rfl) (by decide) rfl (fun ls hl => ?_)
    refine lv_goto (pc := 94) (tgt := 30) hx hb dX5_imagineAdded_94 (by decide) ?_
    exact hK30 k0 k1 i2 i3 i4 i5 v6 x4 Hx4 lx4 ls hk0 hk1 wx4 (lv_sub hl [2, 3, 4, 5, 6, 7, 0] rfl) h
  · replace h := z_f c5 h
    refine lv_aload (pc := 80) hx hb dX5_imagineAdded_80 (lv_at hl 0 rfl) ?_
    refine lv_dup (pc := 82) hx hb dX5_imagineAdded_82 rfl ?_
    refine zg_House_empties (pc := 83) X wx4 hv2 zw_fl_1_60 dX5_imagineAdded_83 ?_
    refine lv_iconst (pc := 86) (v := 1) hx hb dX5_imagineAdded_86 (by decide) ?_
    refine lv_iadd (pc := 87) hx hb dX5_imagineAdded_87 ?_
    refine zp_House_empties (pc := 88) X wx4 hv2 zw_fl_1_60 dX5_imagineAdded_88 (fun HM7 lM7 wM7 => ?_)
    obtain ⟨M7, eM7, h⟩ := z_lo h
    rw [← eM7] at wM7
    obtain ⟨v8, ev8, h⟩ := z_lo h
    refine lv_iinc (pc := 91) (v := v8) (lv' := [(6, .int v8), (7, .ref (G.1 v2)), (0, .ref (G.1 k0)), (1, .ref (G.1 k1)), (2, .int i2), (3, .int i3), (4, .int i4), (5, .int i5)]) hx hb dX5_imagineAdded_91 hl (k := 7) rfl (by rw [ev8]; rfl) (by decide) rfl (fun ls hl => ?_)
    refine lv_goto (pc := 94) (tgt := 30) hx hb dX5_imagineAdded_94 (by decide) ?_
    exact hK30 k0 k1 i2 i3 i4 i5 v8 M7 HM7 lM7 ls hk0 hk1 wM7 (lv_sub hl [2, 3, 4, 5, 6, 7, 0] rfl) h
set_option maxHeartbeats 4000000 in
set_option maxRecDepth 100000 in
theorem w_X5_imagineAdded_30 {G : zG} {p : Program} {l : Launch} {e : Env} {s : State} {m : MethodId} {args : Array Value} {below : List Frame} {meth : Method} {c : Code} (X : z_C G p s m args meth c cX5_imagineAdded 8 RX5 none) {r : zM} : ∀ (n : Nat) (k0 : Nat) (k1 : Nat) (i2 : Int32) (i3 : Int32) (i4 : Int32) (i5 : Int32) (i6 : Int32) (M : zM) (H : Heap) (locs : List Loc) (ls : Array Slot), z_kd k0 = 5 → z_kd k1 = 5 → z_W G M H locs → lv_has ls 8 [(0, .ref (G.1 k0)), (1, .ref (G.1 k1)), (2, .int i2), (3, .int i3), (4, .int i4), (5, .int i5), (6, .int i6)] → f_X5_imagineAdded_30 n k0 k1 i2 i3 i4 i5 i6 M = some r → W p l e (z_rm 1) s m args below meth c H locs 0 0 (z_Q G below args s none r) (F0 m 30 ls []) := by
  have hx := X.1
  have hb := X.2.1
  intro n
  induction n with
  | zero =>
    intro k0 k1 i2 i3 i4 i5 i6 M H locs ls hk0 hk1 hw hl h
    exact z_no h
  | succ n ih =>
    intro k0 k1 i2 i3 i4 i5 i6 M H locs ls hk0 hk1 hw hl h
    rw [f_X5_imagineAdded_30] at h
    refine lv_iload (pc := 30) hx hb dX5_imagineAdded_30 (lv_at hl 6 rfl) ?_
    refine lv_iload (pc := 32) hx hb dX5_imagineAdded_32 (lv_at hl 5 rfl) ?_
    refine lv_icmp_ge (pc := 34) (tgt := 97) hx hb dX5_imagineAdded_34 (by decide) (fun c1 => ?_) (fun c1 => ?_)
    · replace h := z_t c1 h
      refine lv_aload_n (pc := 97) hx hb dX5_imagineAdded_97 rfl (lv_at hl 0 rfl) ?_
      refine zg_Roofs_houses (pc := 98) X hw hk0 zw_fl_1_144 dX5_imagineAdded_98 ?_
      refine lv_iload_n (pc := 101) hx hb dX5_imagineAdded_101 rfl (lv_at hl 2 rfl) ?_
      obtain ⟨g2, h⟩ := z_gd h
      refine z_aald16 (pc := 102) X hw (zk_Roofs_houses hk0) (zl_Roofs_houses hk0) g2 dX5_imagineAdded_102 ?_
      refine lv_iload_n (pc := 103) hx hb dX5_imagineAdded_103 rfl (lv_at hl 3 rfl) ?_
      refine lv_iload (pc := 104) hx hb dX5_imagineAdded_104 (lv_at hl 4 rfl) ?_
      refine lv_iconst (pc := 106) (v := 0) hx hb dX5_imagineAdded_106 (by decide) ?_
      refine lv_iconst (pc := 107) (v := 0) hx hb dX5_imagineAdded_107 (by decide) ?_
      obtain ⟨x3, ex3, h⟩ := z_bd h
      refine z_cvV (pc := 108) (rest := []) X hw (m_X2_build (zk_el16 (zk_Roofs_houses hk0) g2) ex3) (z_lt (zk_el16 (zk_Roofs_houses hk0) g2) (by decide)) (z_E2 (zk_el16 (zk_Roofs_houses hk0) g2)) rfl zw_ml_5_25 zw_im_2_212 zw_se_2_213 zw_in_1_4 zw_co_2_214 zd_X2_build (by decide) rfl hl.1 rfl (Nat.le_of_ble_eq_true rfl) dX5_imagineAdded_108 ⟨Nat.zero_le _, Nat.zero_le _⟩ (fun Hx3 lx3 wx3 => ?_)
      refine lv_iload_n (pc := 111) hx hb dX5_imagineAdded_111 rfl (lv_at hl 2 rfl) ?_
      refine lv_iload (pc := 112) hx hb dX5_imagineAdded_112 (lv_at hl 5 rfl) ?_
      refine lv_icmp_ge (pc := 114) (tgt := 129) hx hb dX5_imagineAdded_114 (by decide) (fun c4 => ?_) (fun c4 => ?_)
      · replace h := z_t c4 h
        obtain rfl := Option.some.inj h
        exact z_rv (pc := 129) X wx3 dX5_imagineAdded_129
      · replace h := z_f c4 h
        refine lv_aload_n (pc := 117) hx hb dX5_imagineAdded_117 rfl (lv_at hl 0 rfl) ?_
        refine zg_Roofs_houses (pc := 118) X wx3 hk0 zw_fl_1_144 dX5_imagineAdded_118 ?_
        refine lv_iload_n (pc := 121) hx hb dX5_imagineAdded_121 rfl (lv_at hl 2 rfl) ?_
        obtain ⟨g5, h⟩ := z_gd h
        refine z_aald16 (pc := 122) X wx3 (zk_Roofs_houses hk0) (zl_Roofs_houses hk0) g5 dX5_imagineAdded_122 ?_
        refine lv_iload_n (pc := 123) hx hb dX5_imagineAdded_123 rfl (lv_at hl 2 rfl) ?_
        refine lv_iconst (pc := 124) (v := 1) hx hb dX5_imagineAdded_124 (by decide) ?_
        refine lv_iadd (pc := 125) hx hb dX5_imagineAdded_125 ?_
        refine zp_House_empties (pc := 126) X wx3 (zk_el16 (zk_Roofs_houses hk0) g5) zw_fl_1_60 dX5_imagineAdded_126 (fun HM6 lM6 wM6 => ?_)
        obtain ⟨M6, eM6, h⟩ := z_lo h
        rw [← eM6] at wM6
        obtain rfl := Option.some.inj h
        exact z_rv (pc := 129) X wM6 dX5_imagineAdded_129
    · replace h := z_f c1 h
      refine lv_aload_n (pc := 37) hx hb dX5_imagineAdded_37 rfl (lv_at hl 0 rfl) ?_
      refine zg_Roofs_houses (pc := 38) X hw hk0 zw_fl_1_144 dX5_imagineAdded_38 ?_
      refine lv_iload (pc := 41) hx hb dX5_imagineAdded_41 (lv_at hl 6 rfl) ?_
      refine lv_iload_n (pc := 43) hx hb dX5_imagineAdded_43 rfl (lv_at hl 2 rfl) ?_
      refine lv_icmp_ge (pc := 44) (tgt := 52) hx hb dX5_imagineAdded_44 (by decide) (fun c7 => ?_) (fun c7 => ?_)
      · replace h := z_t c7 h
        refine lv_iload (pc := 52) hx hb dX5_imagineAdded_52 (lv_at hl 6 rfl) ?_
        refine lv_iconst (pc := 54) (v := 1) hx hb dX5_imagineAdded_54 (by decide) ?_
        refine lv_iadd (pc := 55) hx hb dX5_imagineAdded_55 ?_
        exact w_X5_imagineAdded_56 X ih k0 k1 i2 i3 i4 i5 i6 (k0 + 3) (i6 + (1 : Int32)) M H locs ls hk0 hk1 (zk_Roofs_houses hk0) hw (lv_sub hl [0, 1, 2, 3, 4, 5, 6] rfl) h
      · replace h := z_f c7 h
        refine lv_iload (pc := 47) hx hb dX5_imagineAdded_47 (lv_at hl 6 rfl) ?_
        refine lv_goto (pc := 49) (tgt := 56) hx hb dX5_imagineAdded_49 (by decide) ?_
        exact w_X5_imagineAdded_56 X ih k0 k1 i2 i3 i4 i5 i6 (k0 + 3) i6 M H locs ls hk0 hk1 (zk_Roofs_houses hk0) hw (lv_sub hl [0, 1, 2, 3, 4, 5, 6] rfl) h
set_option maxHeartbeats 4000000 in
set_option maxRecDepth 100000 in
theorem m_X5_imagineAdded {l : Launch} {G : zG} {k0 : Nat} {k1 : Nat} {i2 : Int32} {i3 : Int32} {i4 : Int32} {M : zM} {r : zM} (hk0 : z_kd k0 = 5) (hk1 : z_kd k1 = 5) (h : f_X5_imagineAdded k0 k1 i2 i3 i4 M = some r) : z_T l G 1 yX5_imagineAdded (.code yX5_imagineAdded cX5_imagineAdded 8 none) [.ref (G.1 k0), .ref (G.1 k1), .int i2, .int i3, .int i4] M none r := by
  refine z_of rfl ?_
  intro p e s m below meth c X hw
  have hl := lv_entry [.ref (G.1 k0), .ref (G.1 k1), .int i2, .int i3, .int i4] (n := 8) (Nat.le_of_ble_eq_true rfl)
  rw [lg_entry_eq]
  generalize (lg_sl [.ref (G.1 k0), .ref (G.1 k1), .int i2, .int i3, .int i4] ++ List.replicate (8 - (lg_sl [.ref (G.1 k0), .ref (G.1 k1), .int i2, .int i3, .int i4]).length) Slot.unset).toArray = ls at hl ⊢
  have hl : lv_has ls 8 [(0, .ref (G.1 k0)), (1, .ref (G.1 k1)), (2, .int i2), (3, .int i3), (4, .int i4)] := hl
  generalize ([.ref (G.1 k0), .ref (G.1 k1), .int i2, .int i3, .int i4] : List Value).toArray = args at X ⊢
  have X : z_C G p s m args meth c cX5_imagineAdded 8 RX5 none := X
  have hx := X.1
  have hb := X.2.1
  unfold f_X5_imagineAdded at h
  refine lv_aload_n (pc := 0) hx hb dX5_imagineAdded_0 rfl (lv_at hl 1 rfl) ?_
  refine zg_Roofs_count (pc := 1) X hw hk1 zw_fl_1_135 dX5_imagineAdded_1 ?_
  refine lv_bipush (pc := 4) (v := 9) hx hb dX5_imagineAdded_4 (by decide) ?_
  refine z_min (pc := 6) (rest := []) X zw_ml_5_24 zw_st_3_144 zw_in_1_17 zw_co_3_145 hl.1 ⟨Nat.zero_le _, Nat.zero_le _⟩ (z_lm (Nat.le_of_ble_eq_true rfl)) dX5_imagineAdded_6 ?_
  obtain ⟨v1, ev1, h⟩ := z_lo h
  refine z_topi ev1 ?_
  refine lv_istore (pc := 9) (lv' := [(5, .int v1), (0, .ref (G.1 k0)), (1, .ref (G.1 k1)), (2, .int i2), (3, .int i3), (4, .int i4)]) hx hb dX5_imagineAdded_9 hl (by decide) rfl (fun ls hl => ?_)
  refine lv_aload_n (pc := 11) hx hb dX5_imagineAdded_11 rfl (lv_at hl 1 rfl) ?_
  refine lv_iload (pc := 12) hx hb dX5_imagineAdded_12 (lv_at hl 0 rfl) ?_
  refine lv_iconst (pc := 14) (v := 1) hx hb dX5_imagineAdded_14 (by decide) ?_
  refine lv_iadd (pc := 15) hx hb dX5_imagineAdded_15 ?_
  refine zp_Roofs_count (pc := 16) X hw hk0 zw_fl_1_135 dX5_imagineAdded_16 (fun HM2 lM2 wM2 => ?_)
  obtain ⟨M2, eM2, h⟩ := z_lo h
  rw [← eM2] at wM2
  refine lv_aload_n (pc := 19) hx hb dX5_imagineAdded_19 rfl (lv_at hl 1 rfl) ?_
  refine lv_aload_n (pc := 20) hx hb dX5_imagineAdded_20 rfl (lv_at hl 2 rfl) ?_
  refine zg_Roofs_thaw (pc := 21) X wM2 hk1 zw_fl_1_141 dX5_imagineAdded_21 ?_
  refine zp_Roofs_thaw (pc := 24) X wM2 hk0 zw_fl_1_141 dX5_imagineAdded_24 (fun HM3 lM3 wM3 => ?_)
  obtain ⟨M3, eM3, h⟩ := z_lo h
  rw [← eM3] at wM3
  refine lv_iconst (pc := 27) (v := 0) hx hb dX5_imagineAdded_27 (by decide) ?_
  refine lv_istore (pc := 28) (lv' := [(6, .int (0 : Int32)), (5, .int v1), (0, .ref (G.1 k0)), (1, .ref (G.1 k1)), (2, .int i2), (3, .int i3), (4, .int i4)]) hx hb dX5_imagineAdded_28 hl (by decide) rfl (fun ls hl => ?_)
  exact w_X5_imagineAdded_30 X z_F k0 k1 i2 i3 i4 v1 (0 : Int32) M3 HM3 lM3 ls hk0 hk1 wM3 (lv_sub hl [2, 3, 4, 5, 6, 1, 0] rfl) h
def f_X5_strip_2 : Nat → Nat → Int32 → zM → Option (zM)
  | 0, _, _, _ => none
  | n + 1, k0, i1, M =>
    if (M.1 k0 0) ≤ i1 then (
      some M
    ) else (
      z_g (z_ix i1 10) <|
      z_l (z_w M (z_ra (k0 + 3) (Int32.toNatClampNeg i1)) 6 (0 : Int32)) fun M3 =>
      z_g (z_ix i1 10) <|
      z_l (z_w M3 (z_ra (k0 + 3) (Int32.toNatClampNeg i1)) 8 (0 : Int32)) fun M5 =>
      z_g (z_ix i1 10) <|
      z_l (z_w M5 (z_ra (k0 + 3) (Int32.toNatClampNeg i1)) 9 (0 : Int32)) fun M7 =>
      z_l (i1 + (1 : Int32)) fun v8 =>
      f_X5_strip_2 n k0 v8 M7
    )
def f_X5_strip (k0 : Nat) (M : zM) : Option (zM) :=
  f_X5_strip_2 z_F k0 (0 : Int32) M
set_option maxHeartbeats 4000000 in
set_option maxRecDepth 100000 in
theorem w_X5_strip_2 {G : zG} {p : Program} {l : Launch} {e : Env} {s : State} {m : MethodId} {args : Array Value} {below : List Frame} {meth : Method} {c : Code} (X : z_C G p s m args meth c cX5_strip 2 RX5 none) {r : zM} : ∀ (n : Nat) (k0 : Nat) (i1 : Int32) (M : zM) (H : Heap) (locs : List Loc) (ls : Array Slot), z_kd k0 = 5 → z_W G M H locs → lv_has ls 2 [(0, .ref (G.1 k0)), (1, .int i1)] → f_X5_strip_2 n k0 i1 M = some r → W p l e (z_rm 0) s m args below meth c H locs 0 0 (z_Q G below args s none r) (F0 m 2 ls []) := by
  have hx := X.1
  have hb := X.2.1
  intro n
  induction n with
  | zero =>
    intro k0 i1 M H locs ls hk0 hw hl h
    exact z_no h
  | succ n ih =>
    intro k0 i1 M H locs ls hk0 hw hl h
    rw [f_X5_strip_2] at h
    refine lv_iload_n (pc := 2) hx hb dX5_strip_2 rfl (lv_at hl 1 rfl) ?_
    refine lv_aload_n (pc := 3) hx hb dX5_strip_3 rfl (lv_at hl 0 rfl) ?_
    refine zg_Roofs_count (pc := 4) X hw hk0 zw_fl_1_135 dX5_strip_4 ?_
    refine lv_icmp_ge (pc := 7) (tgt := 46) hx hb dX5_strip_7 (by decide) (fun c1 => ?_) (fun c1 => ?_)
    · replace h := z_t c1 h
      obtain rfl := Option.some.inj h
      exact z_rv (pc := 46) X hw dX5_strip_46
    · replace h := z_f c1 h
      refine lv_aload_n (pc := 10) hx hb dX5_strip_10 rfl (lv_at hl 0 rfl) ?_
      refine zg_Roofs_houses (pc := 11) X hw hk0 zw_fl_1_144 dX5_strip_11 ?_
      refine lv_iload_n (pc := 14) hx hb dX5_strip_14 rfl (lv_at hl 1 rfl) ?_
      obtain ⟨g2, h⟩ := z_gd h
      refine z_aald16 (pc := 15) X hw (zk_Roofs_houses hk0) (zl_Roofs_houses hk0) g2 dX5_strip_15 ?_
      refine lv_iconst (pc := 16) (v := 0) hx hb dX5_strip_16 (by decide) ?_
      refine zp_House_barrel (pc := 17) X hw (zk_el16 (zk_Roofs_houses hk0) g2) zw_fl_1_68 dX5_strip_17 (fun HM3 lM3 wM3 => ?_)
      obtain ⟨M3, eM3, h⟩ := z_lo h
      rw [← eM3] at wM3
      refine lv_aload_n (pc := 20) hx hb dX5_strip_20 rfl (lv_at hl 0 rfl) ?_
      refine zg_Roofs_houses (pc := 21) X wM3 hk0 zw_fl_1_144 dX5_strip_21 ?_
      refine lv_iload_n (pc := 24) hx hb dX5_strip_24 rfl (lv_at hl 1 rfl) ?_
      obtain ⟨g4, h⟩ := z_gd h
      refine z_aald16 (pc := 25) X wM3 (zk_Roofs_houses hk0) (zl_Roofs_houses hk0) g4 dX5_strip_25 ?_
      refine lv_iconst (pc := 26) (v := 0) hx hb dX5_strip_26 (by decide) ?_
      refine zp_House_held (pc := 27) X wM3 (zk_el16 (zk_Roofs_houses hk0) g4) zw_fl_1_72 dX5_strip_27 (fun HM5 lM5 wM5 => ?_)
      obtain ⟨M5, eM5, h⟩ := z_lo h
      rw [← eM5] at wM5
      refine lv_aload_n (pc := 30) hx hb dX5_strip_30 rfl (lv_at hl 0 rfl) ?_
      refine zg_Roofs_houses (pc := 31) X wM5 hk0 zw_fl_1_144 dX5_strip_31 ?_
      refine lv_iload_n (pc := 34) hx hb dX5_strip_34 rfl (lv_at hl 1 rfl) ?_
      obtain ⟨g6, h⟩ := z_gd h
      refine z_aald16 (pc := 35) X wM5 (zk_Roofs_houses hk0) (zl_Roofs_houses hk0) g6 dX5_strip_35 ?_
      refine lv_iconst (pc := 36) (v := 0) hx hb dX5_strip_36 (by decide) ?_
      refine zp_House_snow (pc := 37) X wM5 (zk_el16 (zk_Roofs_houses hk0) g6) zw_fl_1_76 dX5_strip_37 (fun HM7 lM7 wM7 => ?_)
      obtain ⟨M7, eM7, h⟩ := z_lo h
      rw [← eM7] at wM7
      obtain ⟨v8, ev8, h⟩ := z_lo h
      refine lv_iinc (pc := 40) (v := v8) (lv' := [(1, .int v8), (0, .ref (G.1 k0))]) hx hb dX5_strip_40 hl (k := 1) rfl (by rw [ev8]; rfl) (by decide) rfl (fun ls hl => ?_)
      refine lv_goto (pc := 43) (tgt := 2) hx hb dX5_strip_43 (by decide) ?_
      exact ih k0 v8 M7 HM7 lM7 ls hk0 wM7 (lv_sub hl [1, 0] rfl) h
set_option maxHeartbeats 4000000 in
set_option maxRecDepth 100000 in
theorem m_X5_strip {l : Launch} {G : zG} {k0 : Nat} {M : zM} {r : zM} (hk0 : z_kd k0 = 5) (h : f_X5_strip k0 M = some r) : z_T l G 0 yX5_strip (.code yX5_strip cX5_strip 2 none) [.ref (G.1 k0)] M none r := by
  refine z_of rfl ?_
  intro p e s m below meth c X hw
  have hl := lv_entry [.ref (G.1 k0)] (n := 2) (Nat.le_of_ble_eq_true rfl)
  rw [lg_entry_eq]
  generalize (lg_sl [.ref (G.1 k0)] ++ List.replicate (2 - (lg_sl [.ref (G.1 k0)]).length) Slot.unset).toArray = ls at hl ⊢
  have hl : lv_has ls 2 [(0, .ref (G.1 k0))] := hl
  generalize ([.ref (G.1 k0)] : List Value).toArray = args at X ⊢
  have X : z_C G p s m args meth c cX5_strip 2 RX5 none := X
  have hx := X.1
  have hb := X.2.1
  unfold f_X5_strip at h
  refine lv_iconst (pc := 0) (v := 0) hx hb dX5_strip_0 (by decide) ?_
  refine lv_istore_n (pc := 1) (lv' := [(1, .int (0 : Int32)), (0, .ref (G.1 k0))]) hx hb dX5_strip_1 rfl hl (by decide) rfl (fun ls hl => ?_)
  exact w_X5_strip_2 X z_F k0 (0 : Int32) M s.heap [] ls hk0 hw (lv_sub hl [1, 0] rfl) h
def f_X6_note_18 (i1 : Int32) (si1 : Int32) (M : zM) : Option (zM) :=
    z_l (z_w M 39 4 si1) fun M1 =>
    z_l (z_w M1 39 1 ((M1.1 39 1) + (1 : Int32))) fun M2 =>
    if (M2.1 39 2) = (-1 : Int32) then (
      z_l (z_w M2 39 2 (M2.1 39 5)) fun M6 =>
      z_l (z_w M6 39 3 i1) fun M7 =>
      some M7
    ) else (
      if (M2.1 39 2) = (M2.1 39 5) then (
        z_l (z_w M2 39 3 (if i1 < (M2.1 39 3) then i1 else (M2.1 39 3))) fun M5 =>
        some M5
      ) else (
        some M2
      )
    )
def f_X6_note (i1 : Int32) (M : zM) : Option (zM) :=
  if (M.1 39 1) = 0 then (
    f_X6_note_18 i1 i1 M
  ) else (
    f_X6_note_18 i1 ((M.1 39 4) &&& i1) M
  )
set_option maxHeartbeats 4000000 in
set_option maxRecDepth 100000 in
theorem w_X6_note_18 {G : zG} {p : Program} {l : Launch} {e : Env} {s : State} {m : MethodId} {args : Array Value} {below : List Frame} {meth : Method} {c : Code} (X : z_C G p s m args meth c cX6_note 2 RX6 none) {r : zM} : ∀ (i1 : Int32) (si1 : Int32) (M : zM) (H : Heap) (locs : List Loc) (ls : Array Slot), z_W G M H locs → lv_has ls 2 [(0, .ref (G.1 39)), (1, .int i1)] → f_X6_note_18 i1 si1 M = some r → W p l e (z_rm 0) s m args below meth c H locs 0 0 (z_Q G below args s none r) (F0 m 18 ls [.int si1, .ref (G.1 39)]) := by
  have hx := X.1
  have hb := X.2.1
  intro i1 si1 M H locs ls  hw hl h
  unfold f_X6_note_18 at h
  refine zp_Stains_inAll (pc := 18) X hw zw_fl_2_158 dX6_note_18 (fun HM1 lM1 wM1 => ?_)
  obtain ⟨M1, eM1, h⟩ := z_lo h
  rw [← eM1] at wM1
  refine lv_aload_n (pc := 21) hx hb dX6_note_21 rfl (lv_at hl 0 rfl) ?_
  refine lv_dup (pc := 22) hx hb dX6_note_22 rfl ?_
  refine zg_Stains_count (pc := 23) X wM1 zw_fl_2_155 dX6_note_23 ?_
  refine lv_iconst (pc := 26) (v := 1) hx hb dX6_note_26 (by decide) ?_
  refine lv_iadd (pc := 27) hx hb dX6_note_27 ?_
  refine zp_Stains_count (pc := 28) X wM1 zw_fl_2_155 dX6_note_28 (fun HM2 lM2 wM2 => ?_)
  obtain ⟨M2, eM2, h⟩ := z_lo h
  rw [← eM2] at wM2
  refine lv_aload_n (pc := 31) hx hb dX6_note_31 rfl (lv_at hl 0 rfl) ?_
  refine zg_Stains_leastStorm (pc := 32) X wM2 zw_fl_2_156 dX6_note_32 ?_
  refine lv_iconst (pc := 35) (v := -1) hx hb dX6_note_35 (by decide) ?_
  refine lv_icmp_ne (pc := 36) (tgt := 55) hx hb dX6_note_36 (by decide) (fun c3 => ?_) (fun c3 => ?_)
  · replace h := z_f c3 h
    refine lv_aload_n (pc := 55) hx hb dX6_note_55 rfl (lv_at hl 0 rfl) ?_
    refine zg_Stains_leastStorm (pc := 56) X wM2 zw_fl_2_156 dX6_note_56 ?_
    refine lv_aload_n (pc := 59) hx hb dX6_note_59 rfl (lv_at hl 0 rfl) ?_
    refine zg_Stains_storm (pc := 60) X wM2 zw_fl_2_159 dX6_note_60 ?_
    refine lv_icmp_ne (pc := 63) (tgt := 78) hx hb dX6_note_63 (by decide) (fun c4 => ?_) (fun c4 => ?_)
    · replace h := z_f c4 h
      obtain rfl := Option.some.inj h
      exact z_rv (pc := 78) X wM2 dX6_note_78
    · replace h := z_t c4 h
      refine lv_aload_n (pc := 66) hx hb dX6_note_66 rfl (lv_at hl 0 rfl) ?_
      refine lv_aload_n (pc := 67) hx hb dX6_note_67 rfl (lv_at hl 0 rfl) ?_
      refine zg_Stains_leastSet (pc := 68) X wM2 zw_fl_2_157 dX6_note_68 ?_
      refine lv_iload_n (pc := 71) hx hb dX6_note_71 rfl (lv_at hl 1 rfl) ?_
      refine z_min (pc := 72) (rest := [.ref (G.1 39)]) X zw_ml_4_235 zw_st_3_144 zw_in_1_17 zw_co_3_145 hl.1 ⟨Nat.zero_le _, Nat.zero_le _⟩ (z_lm (Nat.le_of_ble_eq_true rfl)) dX6_note_72 ?_
      refine zp_Stains_leastSet (pc := 75) X wM2 zw_fl_2_157 dX6_note_75 (fun HM5 lM5 wM5 => ?_)
      obtain ⟨M5, eM5, h⟩ := z_lo h
      rw [← eM5] at wM5
      obtain rfl := Option.some.inj h
      exact z_rv (pc := 78) X wM5 dX6_note_78
  · replace h := z_t c3 h
    refine lv_aload_n (pc := 39) hx hb dX6_note_39 rfl (lv_at hl 0 rfl) ?_
    refine lv_aload_n (pc := 40) hx hb dX6_note_40 rfl (lv_at hl 0 rfl) ?_
    refine zg_Stains_storm (pc := 41) X wM2 zw_fl_2_159 dX6_note_41 ?_
    refine zp_Stains_leastStorm (pc := 44) X wM2 zw_fl_2_156 dX6_note_44 (fun HM6 lM6 wM6 => ?_)
    obtain ⟨M6, eM6, h⟩ := z_lo h
    rw [← eM6] at wM6
    refine lv_aload_n (pc := 47) hx hb dX6_note_47 rfl (lv_at hl 0 rfl) ?_
    refine lv_iload_n (pc := 48) hx hb dX6_note_48 rfl (lv_at hl 1 rfl) ?_
    refine zp_Stains_leastSet (pc := 49) X wM6 zw_fl_2_157 dX6_note_49 (fun HM7 lM7 wM7 => ?_)
    obtain ⟨M7, eM7, h⟩ := z_lo h
    rw [← eM7] at wM7
    refine lv_goto (pc := 52) (tgt := 78) hx hb dX6_note_52 (by decide) ?_
    obtain rfl := Option.some.inj h
    exact z_rv (pc := 78) X wM7 dX6_note_78
set_option maxHeartbeats 4000000 in
set_option maxRecDepth 100000 in
theorem m_X6_note {l : Launch} {G : zG} {i1 : Int32} {M : zM} {r : zM} (h : f_X6_note i1 M = some r) : z_T l G 0 yX6_note (.code yX6_note cX6_note 2 none) [.ref (G.1 39), .int i1] M none r := by
  refine z_of rfl ?_
  intro p e s m below meth c X hw
  have hl := lv_entry [.ref (G.1 39), .int i1] (n := 2) (Nat.le_of_ble_eq_true rfl)
  rw [lg_entry_eq]
  generalize (lg_sl [.ref (G.1 39), .int i1] ++ List.replicate (2 - (lg_sl [.ref (G.1 39), .int i1]).length) Slot.unset).toArray = ls at hl ⊢
  have hl : lv_has ls 2 [(0, .ref (G.1 39)), (1, .int i1)] := hl
  generalize ([.ref (G.1 39), .int i1] : List Value).toArray = args at X ⊢
  have X : z_C G p s m args meth c cX6_note 2 RX6 none := X
  have hx := X.1
  have hb := X.2.1
  unfold f_X6_note at h
  refine lv_aload_n (pc := 0) hx hb dX6_note_0 rfl (lv_at hl 0 rfl) ?_
  refine lv_aload_n (pc := 1) hx hb dX6_note_1 rfl (lv_at hl 0 rfl) ?_
  refine zg_Stains_count (pc := 2) X hw zw_fl_2_155 dX6_note_2 ?_
  refine lv_if_ne (pc := 5) (tgt := 12) hx hb dX6_note_5 (by decide) (fun c1 => ?_) (fun c1 => ?_)
  · replace h := z_f c1 h
    refine lv_aload_n (pc := 12) hx hb dX6_note_12 rfl (lv_at hl 0 rfl) ?_
    refine zg_Stains_inAll (pc := 13) X hw zw_fl_2_158 dX6_note_13 ?_
    refine lv_iload_n (pc := 16) hx hb dX6_note_16 rfl (lv_at hl 1 rfl) ?_
    refine lv_iand (pc := 17) hx hb dX6_note_17 ?_
    exact w_X6_note_18 X i1 ((M.1 39 4) &&& i1) M s.heap [] ls  hw (lv_sub hl [0, 1] rfl) h
  · replace h := z_t c1 h
    refine lv_iload_n (pc := 8) hx hb dX6_note_8 rfl (lv_at hl 1 rfl) ?_
    refine lv_goto (pc := 9) (tgt := 18) hx hb dX6_note_9 (by decide) ?_
    exact w_X6_note_18 X i1 i1 M s.heap [] ls  hw (lv_sub hl [0, 1] rfl) h
def f_X6_runsOver (k0 : Nat) (k1 : Nat) (i2 : Int32) (i3 : Int32) (M : zM) : Option (Int32 × zM) :=
  z_g (z_ix i2 10) <|
  z_l (z_ra (k0 + 3) (Int32.toNatClampNeg i2)) fun v2 =>
  z_l (z_w M v2 5 i3) fun M3 =>
  z_l (z_w M3 v2 8 (0 : Int32)) fun M4 =>
  z_l (z_w M4 v2 9 (0 : Int32)) fun M5 =>
  (f_X5_pass k0 i2 k1 M5).bind fun x6 =>
  if (x6.1 v2 12) ≤ 0 then (
    some ((0 : Int32), x6)
  ) else (
    some ((1 : Int32), x6)
  )
set_option maxHeartbeats 4000000 in
set_option maxRecDepth 100000 in
theorem m_X6_runsOver {l : Launch} {G : zG} {k0 : Nat} {k1 : Nat} {i2 : Int32} {i3 : Int32} {M : zM} {r : Int32 × zM} (hk0 : z_kd k0 = 5) (hk1 : z_kd k1 = 7) (h : f_X6_runsOver k0 k1 i2 i3 M = some r) : z_T l G 3 yX6_runsOver (.code yX6_runsOver cX6_runsOver 5 (some .boolean)) [.ref (G.1 k0), .ref (G.1 k1), .int i2, .int i3] M (some (.int r.1)) r.2 := by
  refine z_of rfl ?_
  intro p e s m below meth c X hw
  have hl := lv_entry [.ref (G.1 k0), .ref (G.1 k1), .int i2, .int i3] (n := 5) (Nat.le_of_ble_eq_true rfl)
  rw [lg_entry_eq]
  generalize (lg_sl [.ref (G.1 k0), .ref (G.1 k1), .int i2, .int i3] ++ List.replicate (5 - (lg_sl [.ref (G.1 k0), .ref (G.1 k1), .int i2, .int i3]).length) Slot.unset).toArray = ls at hl ⊢
  have hl : lv_has ls 5 [(0, .ref (G.1 k0)), (1, .ref (G.1 k1)), (2, .int i2), (3, .int i3)] := hl
  generalize ([.ref (G.1 k0), .ref (G.1 k1), .int i2, .int i3] : List Value).toArray = args at X ⊢
  have X : z_C G p s m args meth c cX6_runsOver 5 RX6 (some .boolean) := X
  have hx := X.1
  have hb := X.2.1
  unfold f_X6_runsOver at h
  refine lv_aload_n (pc := 0) hx hb dX6_runsOver_0 rfl (lv_at hl 0 rfl) ?_
  refine zg_Roofs_houses (pc := 1) X hw hk0 zw_fl_1_149 dX6_runsOver_1 ?_
  refine lv_iload_n (pc := 4) hx hb dX6_runsOver_4 rfl (lv_at hl 2 rfl) ?_
  obtain ⟨g1, h⟩ := z_gd h
  refine z_aald16 (pc := 5) X hw (zk_Roofs_houses hk0) (zl_Roofs_houses hk0) g1 dX6_runsOver_5 ?_
  obtain ⟨v2, ev2, h⟩ := z_lo h
  refine z_topr ev2 ?_
  have hv2 : z_kd v2 = 2 := by rw [ev2]; exact (zk_el16 (zk_Roofs_houses hk0) g1)
  refine lv_astore (pc := 6) (lv' := [(4, .ref (G.1 v2)), (0, .ref (G.1 k0)), (1, .ref (G.1 k1)), (2, .int i2), (3, .int i3)]) hx hb dX6_runsOver_6 hl (by decide) rfl (fun ls hl => ?_)
  refine lv_aload (pc := 8) hx hb dX6_runsOver_8 (lv_at hl 0 rfl) ?_
  refine lv_iload_n (pc := 10) hx hb dX6_runsOver_10 rfl (lv_at hl 4 rfl) ?_
  refine zp_House_clog (pc := 11) X hw hv2 zw_fl_1_63 dX6_runsOver_11 (fun HM3 lM3 wM3 => ?_)
  obtain ⟨M3, eM3, h⟩ := z_lo h
  rw [← eM3] at wM3
  refine lv_aload (pc := 14) hx hb dX6_runsOver_14 (lv_at hl 0 rfl) ?_
  refine lv_iconst (pc := 16) (v := 0) hx hb dX6_runsOver_16 (by decide) ?_
  refine zp_House_held (pc := 17) X wM3 hv2 zw_fl_1_71 dX6_runsOver_17 (fun HM4 lM4 wM4 => ?_)
  obtain ⟨M4, eM4, h⟩ := z_lo h
  rw [← eM4] at wM4
  refine lv_aload (pc := 20) hx hb dX6_runsOver_20 (lv_at hl 0 rfl) ?_
  refine lv_iconst (pc := 22) (v := 0) hx hb dX6_runsOver_22 (by decide) ?_
  refine zp_House_snow (pc := 23) X wM4 hv2 zw_fl_1_75 dX6_runsOver_23 (fun HM5 lM5 wM5 => ?_)
  obtain ⟨M5, eM5, h⟩ := z_lo h
  rw [← eM5] at wM5
  refine lv_aload_n (pc := 26) hx hb dX6_runsOver_26 rfl (lv_at hl 1 rfl) ?_
  refine lv_iload_n (pc := 27) hx hb dX6_runsOver_27 rfl (lv_at hl 3 rfl) ?_
  refine lv_aload_n (pc := 28) hx hb dX6_runsOver_28 rfl (lv_at hl 2 rfl) ?_
  obtain ⟨x6, ex6, h⟩ := z_bd h
  refine z_cvV (pc := 29) (rest := []) X wM5 (m_X5_pass hk0 hk1 ex6) (z_lt hk0 (by decide)) (z_E5 hk0) rfl zw_ml_4_239 zw_im_4_31 zw_se_4_32 zw_in_1_3 zw_co_4_33 zd_X5_pass (by decide) rfl hl.1 rfl (Nat.le_of_ble_eq_true rfl) dX6_runsOver_29 ⟨Nat.zero_le _, Nat.zero_le _⟩ (fun Hx6 lx6 wx6 => ?_)
  refine lv_aload (pc := 32) hx hb dX6_runsOver_32 (lv_at hl 0 rfl) ?_
  refine zg_House_over (pc := 34) X wx6 hv2 zw_fl_1_82 dX6_runsOver_34 ?_
  refine lv_if_le (pc := 37) (tgt := 44) hx hb dX6_runsOver_37 (by decide) (fun c7 => ?_) (fun c7 => ?_)
  · replace h := z_t c7 h
    refine lv_iconst (pc := 44) (v := 0) hx hb dX6_runsOver_44 (by decide) ?_
    obtain rfl := Option.some.inj h
    exact z_rz (pc := 45) X wx6 (z_nb (x := 0) (by decide)) dX6_runsOver_45
  · replace h := z_f c7 h
    refine lv_iconst (pc := 40) (v := 1) hx hb dX6_runsOver_40 (by decide) ?_
    refine lv_goto (pc := 41) (tgt := 45) hx hb dX6_runsOver_41 (by decide) ?_
    obtain rfl := Option.some.inj h
    exact z_rz (pc := 45) X wx6 (z_nb (x := 1) (by decide)) dX6_runsOver_45
