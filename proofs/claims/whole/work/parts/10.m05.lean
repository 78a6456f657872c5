def f_X11_blame_307 : Nat → Int32 → Int64 → Int64 → Int64 → Int64 → zM → Option (Int64 × zM)
  | 0, _, _, _, _, _, _ => none
  | n + 1, i4, j7, j9, j11, j13, M =>
    if (lg_cmp j13 (0 : Int64)) ≤ 0 then (
      if i4 = 0 then (
        z_g (¬ j11 = 0) <|
        some ((j7 / j11), M)
      ) else (
        z_g (¬ j11 = 0) <|
        some ((j9 / j11), M)
      )
    ) else (
      z_g (¬ j13 = 0) <|
      z_l (j11 - j11 / j13 * j13) fun v6 =>
      f_X11_blame_307 n i4 j7 j9 j13 v6 M
    )
def f_X11_blame_190 : Nat → Int32 → Int32 → Int32 → Int32 → Int64 → Int32 → zM → Option (Int64 × zM)
  | 0, _, _, _, _, _, _, _ => none
  | n + 1, i2, i4, i5, i6, j7, i9, M =>
    if ((1 : Int32) <<< ((M.1 41 (Int32.toNatClampNeg (0 : Int32))) &&& 31)) ≤ i9 then (
      (f_X11_orders 12 i6 M).bind fun x2 =>
      if 0 ≤ (lg_cmp j7 (0 : Int64)) then (
        f_X11_blame_307 z_F i4 j7 x2.1 j7 x2.1 x2.2
      ) else (
        z_l (-j7) fun v4 =>
        f_X11_blame_307 z_F i4 j7 x2.1 v4 x2.1 x2.2
      )
    ) else (
      if (i9 &&& (i5 ^^^ (-1 : Int32))) = 0 then (
        if ((i9 >>> (i2 &&& 31)) &&& (1 : Int32)) = (1 : Int32) then (
          z_l (i9 + (1 : Int32)) fun v17 =>
          f_X11_blame_190 n i2 i4 i5 i6 j7 v17 M
        ) else (
          (f_X11_count i9 M).bind fun x8 =>
          (f_X11_orders 12 x8.1 x8.2).bind fun x9 =>
          (f_X11_count i9 x9.2).bind fun x10 =>
          (f_X11_orders 12 ((i6 - (1 : Int32)) - x10.1) x10.2).bind fun x11 =>
          z_l (i9 ||| ((1 : Int32) <<< (i2 &&& 31))) fun v12 =>
          z_g (z_ix v12 1024) <|
          z_g (z_ix i9 1024) <|
          z_l (j7 + ((x9.1 * x11.1) * ((x11.2.2 58 (Int32.toNatClampNeg v12)) - (x11.2.2 58 (Int32.toNatClampNeg i9))))) fun v15 =>
          z_l (i9 + (1 : Int32)) fun v16 =>
          f_X11_blame_190 n i2 i4 i5 i6 v15 v16 x11.2
        )
      ) else (
        z_l (i9 + (1 : Int32)) fun v6 =>
        f_X11_blame_190 n i2 i4 i5 i6 j7 v6 M
      )
    )
def f_X11_blame_139 : Nat → Int32 → Int32 → Int32 → Int32 → Int32 → Int32 → Int32 → zM → Option (Int64 × zM)
  | 0, _, _, _, _, _, _, _, _ => none
  | n + 1, i1, i2, i3, i4, i5, i6, i7, M =>
    if ((1 : Int32) <<< ((M.1 41 (Int32.toNatClampNeg (0 : Int32))) &&& 31)) ≤ i7 then (
      f_X11_blame_190 z_F i2 i4 i5 i6 (0 : Int64) (0 : Int32) M
    ) else (
      if (i7 &&& (i5 ^^^ (-1 : Int32))) = 0 then (
        (f_X11_overAt i1 i3 i7 M).bind fun x4 =>
        z_g (z_ix i7 1024) <|
        z_l (z_wl x4.2 58 (Int32.toNatClampNeg i7) (Int32.toInt64 x4.1)) fun M6 =>
        z_l (i7 + (1 : Int32)) fun v7 =>
        f_X11_blame_139 n i1 i2 i3 i4 i5 i6 v7 M6
      ) else (
        z_l (i7 + (1 : Int32)) fun v3 =>
        f_X11_blame_139 n i1 i2 i3 i4 i5 i6 v3 M
      )
    )
def f_X11_blame_50 : Nat → Int32 → Int32 → Int32 → Int32 → Int32 → Int32 → zM → Option (Int64 × zM)
  | 0, _, _, _, _, _, _, _ => none
  | n + 1, i1, i2, i3, i4, i5, i6, M =>
    if (M.1 41 (Int32.toNatClampNeg (0 : Int32))) ≤ i6 then (
      (f_X11_count i5 M).bind fun x2 =>
      if x2.1 ≤ (7 : Int32) then (
        if i4 = (2 : Int32) then (
          (f_X11_overAt i1 i3 (0 : Int32) x2.2).bind fun x6 =>
          some ((Int32.toInt64 x6.1), x6.2)
        ) else (
          if ((i5 >>> (i2 &&& 31)) &&& (1 : Int32)) = 0 then (
            some ((Int32.toInt64 i4), x2.2)
          ) else (
            f_X11_blame_139 z_F i1 i2 i3 i4 i5 x2.1 (0 : Int32) x2.2
          )
        )
      ) else (
        some ((-1 : Int64), x2.2)
      )
    ) else (
      (f_X11_own i6 (5 : Int32) M).bind fun x7 =>
      if x7.1 ≤ 0 then (
        z_l (i5 ||| (0 : Int32)) fun v9 =>
        z_l (i6 + (1 : Int32)) fun v10 =>
        f_X11_blame_50 n i1 i2 i3 i4 v9 v10 x7.2
      ) else (
        z_l (i5 ||| ((1 : Int32) <<< (i6 &&& 31))) fun v11 =>
        z_l (i6 + (1 : Int32)) fun v12 =>
        f_X11_blame_50 n i1 i2 i3 i4 v11 v12 x7.2
      )
    )
def f_X11_blame (i1 : Int32) (i2 : Int32) (i3 : Int32) (i4 : Int32) (M : zM) : Option (Int64 × zM) :=
  (f_X11_isHouse i1 M).bind fun x1 =>
  if x1.1 = 0 then (
    some ((-1 : Int64), x1.2)
  ) else (
    (f_X11_isStorm i3 x1.2).bind fun x3 =>
    if x3.1 = 0 then (
      some ((-1 : Int64), x3.2)
    ) else (
      (f_X11_isIn i4 (0 : Int32) (2 : Int32) x3.2).bind fun x5 =>
      if x5.1 = 0 then (
        some ((-1 : Int64), x5.2)
      ) else (
        if (2 : Int32) ≤ i4 then (
          f_X11_blame_50 z_F i1 i2 i3 i4 (0 : Int32) (0 : Int32) x5.2
        ) else (
          (f_X11_isHouse i2 x5.2).bind fun x8 =>
          if x8.1 = 0 then (
            some ((-1 : Int64), x8.2)
          ) else (
            f_X11_blame_50 z_F i1 i2 i3 i4 (0 : Int32) (0 : Int32) x8.2
          )
        )
      )
    )
  )
set_option maxHeartbeats 4000000 in
set_option maxRecDepth 100000 in
theorem w_X11_blame_307 {G : zG} {p : Program} {l : Launch} {e : Env} {s : State} {m : MethodId} {args : Array Value} {below : List Frame} {meth : Method} {c : Code} (X : z_C G p s m args meth c cX11_blame 17 RX11 (some .long)) {r : Int64 × zM} : ∀ (n : Nat) (i4 : Int32) (j7 : Int64) (j9 : Int64) (j11 : Int64) (j13 : Int64) (M : zM) (H : Heap) (locs : List Loc) (ls : Array Slot), z_W G M H locs → lv_has ls 17 [(4, .int i4), (7, .long j7), (9, .long j9), (11, .long j11), (13, .long j13)] → f_X11_blame_307 n i4 j7 j9 j11 j13 M = some r → W p l e (z_rm 13) s m args below meth c H locs 0 0 (z_Q G below args s (some (.long r.1)) r.2) (F0 m 307 ls []) := by
  have hx := X.1
  have hb := X.2.1
  intro n
  induction n with
  | zero =>
    intro i4 j7 j9 j11 j13 M H locs ls  hw hl h
    exact z_no h
  | succ n ih =>
    intro i4 j7 j9 j11 j13 M H locs ls  hw hl h
    rw [f_X11_blame_307] at h
    refine lv_lload (pc := 307) hx hb dX11_blame_307 (lv_at hl 4 rfl) ?_
    refine lv_lconst (pc := 309) (v := 0) hx hb dX11_blame_309 (by decide) ?_
    refine W.lcmp (pc := 310) hx hb dX11_blame_310 ?_
    refine lv_if_le (pc := 311) (tgt := 332) hx hb dX11_blame_311 (by decide) (fun c1 => ?_) (fun c1 => ?_)
    · replace h := z_t c1 h
      refine lv_iload (pc := 332) hx hb dX11_blame_332 (lv_at hl 0 rfl) ?_
      refine lv_if_ne (pc := 334) (tgt := 345) hx hb dX11_blame_334 (by decide) (fun c2 => ?_) (fun c2 => ?_)
      · replace h := z_f c2 h
        refine lv_lload (pc := 345) hx hb dX11_blame_345 (lv_at hl 2 rfl) ?_
        refine lv_lload (pc := 347) hx hb dX11_blame_347 (lv_at hl 3 rfl) ?_
        obtain ⟨g3, h⟩ := z_gd h
        refine lv_ldiv (pc := 349) hx hb dX11_blame_349 g3 ?_
        obtain rfl := Option.some.inj h
        exact z_rj (pc := 350) X hw dX11_blame_350
      · replace h := z_t c2 h
        refine lv_lload (pc := 337) hx hb dX11_blame_337 (lv_at hl 1 rfl) ?_
        refine lv_lload (pc := 339) hx hb dX11_blame_339 (lv_at hl 3 rfl) ?_
        obtain ⟨g4, h⟩ := z_gd h
        refine lv_ldiv (pc := 341) hx hb dX11_blame_341 g4 ?_
        refine lv_goto (pc := 342) (tgt := 350) hx hb dX11_blame_342 (by decide) ?_
        obtain rfl := Option.some.inj h
        exact z_rj (pc := 350) X hw dX11_blame_350
    · replace h := z_f c1 h
      refine lv_lload (pc := 314) hx hb dX11_blame_314 (lv_at hl 3 rfl) ?_
      refine lv_lload (pc := 316) hx hb dX11_blame_316 (lv_at hl 4 rfl) ?_
      obtain ⟨g5, h⟩ := z_gd h
      refine lv_lrem (pc := 318) hx hb dX11_blame_318 g5 ?_
      obtain ⟨v6, ev6, h⟩ := z_lo h
      refine z_topl ev6 ?_
      refine lv_lstore (pc := 319) (lv' := [(15, .long v6), (4, .int i4), (7, .long j7), (9, .long j9), (11, .long j11), (13, .long j13)]) hx hb dX11_blame_319 hl (by decide) rfl (fun ls hl => ?_)
      refine lv_lload (pc := 321) hx hb dX11_blame_321 (lv_at hl 5 rfl) ?_
      refine lv_lstore (pc := 323) (lv' := [(11, .long j13), (15, .long v6), (4, .int i4), (7, .long j7), (9, .long j9), (13, .long j13)]) hx hb dX11_blame_323 hl (by decide) rfl (fun ls hl => ?_)
      refine lv_lload (pc := 325) hx hb dX11_blame_325 (lv_at hl 1 rfl) ?_
      refine lv_lstore (pc := 327) (lv' := [(13, .long v6), (11, .long j13), (15, .long v6), (4, .int i4), (7, .long j7), (9, .long j9)]) hx hb dX11_blame_327 hl (by decide) rfl (fun ls hl => ?_)
      refine lv_goto (pc := 329) (tgt := 307) hx hb dX11_blame_329 (by decide) ?_
      exact ih i4 j7 j9 j13 v6 M H locs ls  hw (lv_sub hl [3, 4, 5, 1, 0] rfl) h
set_option maxHeartbeats 4000000 in
set_option maxRecDepth 100000 in
theorem w_X11_blame_190 {G : zG} {p : Program} {l : Launch} {e : Env} {s : State} {m : MethodId} {args : Array Value} {below : List Frame} {meth : Method} {c : Code} (X : z_C G p s m args meth c cX11_blame 17 RX11 (some .long)) {r : Int64 × zM} : ∀ (n : Nat) (i2 : Int32) (i4 : Int32) (i5 : Int32) (i6 : Int32) (j7 : Int64) (i9 : Int32) (M : zM) (H : Heap) (locs : List Loc) (ls : Array Slot), z_W G M H locs → lv_has ls 17 [(0, .ref (G.1 40)), (2, .int i2), (4, .int i4), (5, .int i5), (6, .int i6), (7, .long j7), (9, .int i9)] → f_X11_blame_190 n i2 i4 i5 i6 j7 i9 M = some r → W p l e (z_rm 13) s m args below meth c H locs 0 0 (z_Q G below args s (some (.long r.1)) r.2) (F0 m 190 ls []) := by
  have hx := X.1
  have hb := X.2.1
  intro n
  induction n with
  | zero =>
    intro i2 i4 i5 i6 j7 i9 M H locs ls  hw hl h
    exact z_no h
  | succ n ih =>
    intro i2 i4 i5 i6 j7 i9 M H locs ls  hw hl h
    rw [f_X11_blame_190] at h
    refine lv_iload (pc := 190) hx hb dX11_blame_190 (lv_at hl 6 rfl) ?_
    refine lv_iconst (pc := 192) (v := 1) hx hb dX11_blame_192 (by decide) ?_
    refine lv_aload_n (pc := 193) hx hb dX11_blame_193 rfl (lv_at hl 0 rfl) ?_
    refine zg_DrinkingRoofsModel_w (pc := 194) X hw zw_fl_5_71 dX11_blame_194 ?_
    refine lv_iconst (pc := 197) (v := 0) hx hb dX11_blame_197 (by decide) ?_
    refine z_iald (pc := 198) X hw zk_41 zl_41 (z_il (by decide)) dX11_blame_198 ?_
    refine lv_ishl (pc := 199) hx hb dX11_blame_199 ?_
    refine lv_icmp_ge (pc := 200) (tgt := 279) hx hb dX11_blame_200 (by decide) (fun c1 => ?_) (fun c1 => ?_)
    · replace h := z_t c1 h
      refine lv_iload (pc := 279) hx hb dX11_blame_279 (lv_at hl 4 rfl) ?_
      obtain ⟨x2, ex2, h⟩ := z_bd h
      refine z_csJ (pc := 281) (rest := []) X hw (m_X11_orders 12 _ _ _  ex2) zw_ml_6_175 zw_st_6_176 zw_in_1_12 zw_co_6_177 zd_X11_orders (by decide) rfl hl.1 rfl (Nat.le_of_ble_eq_true rfl) dX11_blame_281 ⟨Nat.zero_le _, Nat.zero_le _⟩ (fun Hx2 lx2 wx2 => ?_)
      refine lv_lstore (pc := 284) (lv' := [(9, .long x2.1), (0, .ref (G.1 40)), (2, .int i2), (4, .int i4), (5, .int i5), (6, .int i6), (7, .long j7)]) hx hb dX11_blame_284 hl (by decide) rfl (fun ls hl => ?_)
      refine lv_lload (pc := 286) hx hb dX11_blame_286 (lv_at hl 6 rfl) ?_
      refine lv_lconst (pc := 288) (v := 0) hx hb dX11_blame_288 (by decide) ?_
      refine W.lcmp (pc := 289) hx hb dX11_blame_289 ?_
      refine lv_if_ge (pc := 290) (tgt := 299) hx hb dX11_blame_290 (by decide) (fun c3 => ?_) (fun c3 => ?_)
      · replace h := z_t c3 h
        refine lv_lload (pc := 299) hx hb dX11_blame_299 (lv_at hl 6 rfl) ?_
        refine lv_lstore (pc := 301) (lv' := [(11, .long j7), (9, .long x2.1), (0, .ref (G.1 40)), (2, .int i2), (4, .int i4), (5, .int i5), (6, .int i6), (7, .long j7)]) hx hb dX11_blame_301 hl (by decide) rfl (fun ls hl => ?_)
        refine lv_lload (pc := 303) hx hb dX11_blame_303 (lv_at hl 1 rfl) ?_
        refine lv_lstore (pc := 305) (lv' := [(13, .long x2.1), (11, .long j7), (9, .long x2.1), (0, .ref (G.1 40)), (2, .int i2), (4, .int i4), (5, .int i5), (6, .int i6), (7, .long j7)]) hx hb dX11_blame_305 hl (by decide) rfl (fun ls hl => ?_)
        exact w_X11_blame_307 X z_F i4 j7 x2.1 j7 x2.1 x2.2 Hx2 lx2 ls  wx2 (lv_sub hl [5, 8, 2, 1, 0] rfl) h
      · replace h := z_f c3 h
        refine lv_lload (pc := 293) hx hb dX11_blame_293 (lv_at hl 6 rfl) ?_
        refine lv_lneg (pc := 295) hx hb dX11_blame_295 ?_
        refine lv_goto (pc := 296) (tgt := 301) hx hb dX11_blame_296 (by decide) ?_
        obtain ⟨v4, ev4, h⟩ := z_lo h
        refine z_topl ev4 ?_
        refine lv_lstore (pc := 301) (lv' := [(11, .long v4), (9, .long x2.1), (0, .ref (G.1 40)), (2, .int i2), (4, .int i4), (5, .int i5), (6, .int i6), (7, .long j7)]) hx hb dX11_blame_301 hl (by decide) rfl (fun ls hl => ?_)
        refine lv_lload (pc := 303) hx hb dX11_blame_303 (lv_at hl 1 rfl) ?_
        refine lv_lstore (pc := 305) (lv' := [(13, .long x2.1), (11, .long v4), (9, .long x2.1), (0, .ref (G.1 40)), (2, .int i2), (4, .int i4), (5, .int i5), (6, .int i6), (7, .long j7)]) hx hb dX11_blame_305 hl (by decide) rfl (fun ls hl => ?_)
        exact w_X11_blame_307 X z_F i4 j7 x2.1 v4 x2.1 x2.2 Hx2 lx2 ls  wx2 (lv_sub hl [5, 8, 2, 1, 0] rfl) h
    · replace h := z_f c1 h
      refine lv_iload (pc := 203) hx hb dX11_blame_203 (lv_at hl 6 rfl) ?_
      refine lv_iload (pc := 205) hx hb dX11_blame_205 (lv_at hl 3 rfl) ?_
      refine lv_iconst (pc := 207) (v := -1) hx hb dX11_blame_207 (by decide) ?_
      refine lv_ixor (pc := 208) hx hb dX11_blame_208 ?_
      refine lv_iand (pc := 209) hx hb dX11_blame_209 ?_
      refine lv_if_ne (pc := 210) (tgt := 273) hx hb dX11_blame_210 (by decide) (fun c5 => ?_) (fun c5 => ?_)
      · replace h := z_f c5 h
        obtain ⟨v6, ev6, h⟩ := z_lo h
        refine lv_iinc (pc := 273) (v := v6) (lv' := [(9, .int v6), (0, .ref (G.1 40)), (2, .int i2), (4, .int i4), (5, .int i5), (6, .int i6), (7, .long j7)]) hx hb dX11_blame_273 hl (k := 6) rfl (by rw [ev6]; rfl) (by decide) rfl (fun ls hl => ?_)
        refine lv_goto (pc := 276) (tgt := 190) hx hb dX11_blame_276 (by decide) ?_
        exact ih i2 i4 i5 i6 j7 v6 M H locs ls  hw (lv_sub hl [1, 2, 3, 4, 5, 6, 0] rfl) h
      · replace h := z_t c5 h
        refine lv_iload (pc := 213) hx hb dX11_blame_213 (lv_at hl 6 rfl) ?_
        refine lv_iload_n (pc := 215) hx hb dX11_blame_215 rfl (lv_at hl 1 rfl) ?_
        refine lv_ishr (pc := 216) hx hb dX11_blame_216 ?_
        refine lv_iconst (pc := 217) (v := 1) hx hb dX11_blame_217 (by decide) ?_
        refine lv_iand (pc := 218) hx hb dX11_blame_218 ?_
        refine lv_iconst (pc := 219) (v := 1) hx hb dX11_blame_219 (by decide) ?_
        refine lv_icmp_ne (pc := 220) (tgt := 226) hx hb dX11_blame_220 (by decide) (fun c7 => ?_) (fun c7 => ?_)
        · replace h := z_f c7 h
          refine lv_lload (pc := 226) hx hb dX11_blame_226 (lv_at hl 5 rfl) ?_
          refine lv_iload (pc := 228) hx hb dX11_blame_228 (lv_at hl 6 rfl) ?_
          obtain ⟨x8, ex8, h⟩ := z_bd h
          refine z_csI (pc := 230) (rest := [.long j7]) X hw (m_X11_count  ex8) zw_ml_6_168 zw_st_6_169 zw_in_1_12 zw_co_6_170 zd_X11_count (by decide) rfl hl.1 rfl (Nat.le_of_ble_eq_true rfl) dX11_blame_230 ⟨Nat.zero_le _, Nat.zero_le _⟩ (fun Hx8 lx8 wx8 => ?_)
          obtain ⟨x9, ex9, h⟩ := z_bd h
          refine z_csJ (pc := 233) (rest := [.long j7]) X wx8 (m_X11_orders 12 _ _ _  ex9) zw_ml_6_175 zw_st_6_176 zw_in_1_12 zw_co_6_177 zd_X11_orders (by decide) rfl hl.1 rfl (Nat.le_of_ble_eq_true rfl) dX11_blame_233 ⟨Nat.zero_le _, Nat.zero_le _⟩ (fun Hx9 lx9 wx9 => ?_)
          refine lv_iload (pc := 236) hx hb dX11_blame_236 (lv_at hl 4 rfl) ?_
          refine lv_iconst (pc := 238) (v := 1) hx hb dX11_blame_238 (by decide) ?_
          refine lv_isub (pc := 239) hx hb dX11_blame_239 ?_
          refine lv_iload (pc := 240) hx hb dX11_blame_240 (lv_at hl 6 rfl) ?_
          obtain ⟨x10, ex10, h⟩ := z_bd h
          refine z_csI (pc := 242) (rest := [.int (i6 - (1 : Int32)), .long x9.1, .long j7]) X wx9 (m_X11_count  ex10) zw_ml_6_168 zw_st_6_169 zw_in_1_12 zw_co_6_170 zd_X11_count (by decide) rfl hl.1 rfl (Nat.le_of_ble_eq_true rfl) dX11_blame_242 ⟨Nat.zero_le _, Nat.zero_le _⟩ (fun Hx10 lx10 wx10 => ?_)
          refine lv_isub (pc := 245) hx hb dX11_blame_245 ?_
          obtain ⟨x11, ex11, h⟩ := z_bd h
          refine z_csJ (pc := 246) (rest := [.long x9.1, .long j7]) X wx10 (m_X11_orders 12 _ _ _  ex11) zw_ml_6_175 zw_st_6_176 zw_in_1_12 zw_co_6_177 zd_X11_orders (by decide) rfl hl.1 rfl (Nat.le_of_ble_eq_true rfl) dX11_blame_246 ⟨Nat.zero_le _, Nat.zero_le _⟩ (fun Hx11 lx11 wx11 => ?_)
          refine lv_lmul (pc := 249) hx hb dX11_blame_249 ?_
          refine lv_aload_n (pc := 250) hx hb dX11_blame_250 rfl (lv_at hl 0 rfl) ?_
          refine zg_DrinkingRoofsModel_overWith (pc := 251) X wx11 zw_fl_5_105 dX11_blame_251 ?_
          refine lv_iload (pc := 254) hx hb dX11_blame_254 (lv_at hl 6 rfl) ?_
          refine lv_iconst (pc := 256) (v := 1) hx hb dX11_blame_256 (by decide) ?_
          refine lv_iload_n (pc := 257) hx hb dX11_blame_257 rfl (lv_at hl 1 rfl) ?_
          refine lv_ishl (pc := 258) hx hb dX11_blame_258 ?_
          refine lv_ior (pc := 259) hx hb dX11_blame_259 ?_
          obtain ⟨v12, ev12, h⟩ := z_lo h
          refine z_topi ev12 ?_
          obtain ⟨g13, h⟩ := z_gd h
          refine z_lald (pc := 260) X wx11 zk_58 zl_58 g13 dX11_blame_260 ?_
          refine lv_aload_n (pc := 261) hx hb dX11_blame_261 rfl (lv_at hl 0 rfl) ?_
          refine zg_DrinkingRoofsModel_overWith (pc := 262) X wx11 zw_fl_5_105 dX11_blame_262 ?_
          refine lv_iload (pc := 265) hx hb dX11_blame_265 (lv_at hl 6 rfl) ?_
          obtain ⟨g14, h⟩ := z_gd h
          refine z_lald (pc := 267) X wx11 zk_58 zl_58 g14 dX11_blame_267 ?_
          refine lv_lsub (pc := 268) hx hb dX11_blame_268 ?_
          refine lv_lmul (pc := 269) hx hb dX11_blame_269 ?_
          refine lv_ladd (pc := 270) hx hb dX11_blame_270 ?_
          obtain ⟨v15, ev15, h⟩ := z_lo h
          refine z_topl ev15 ?_
          refine lv_lstore (pc := 271) (lv' := [(7, .long v15), (0, .ref (G.1 40)), (2, .int i2), (4, .int i4), (5, .int i5), (6, .int i6), (9, .int i9)]) hx hb dX11_blame_271 hl (by decide) rfl (fun ls hl => ?_)
          obtain ⟨v16, ev16, h⟩ := z_lo h
          refine lv_iinc (pc := 273) (v := v16) (lv' := [(9, .int v16), (7, .long v15), (0, .ref (G.1 40)), (2, .int i2), (4, .int i4), (5, .int i5), (6, .int i6)]) hx hb dX11_blame_273 hl (k := 6) rfl (by rw [ev16]; rfl) (by decide) rfl (fun ls hl => ?_)
          refine lv_goto (pc := 276) (tgt := 190) hx hb dX11_blame_276 (by decide) ?_
          exact ih i2 i4 i5 i6 v15 v16 x11.2 Hx11 lx11 ls  wx11 (lv_sub hl [2, 3, 4, 5, 6, 1, 0] rfl) h
        · replace h := z_t c7 h
          refine lv_goto (pc := 223) (tgt := 273) hx hb dX11_blame_223 (by decide) ?_
          obtain ⟨v17, ev17, h⟩ := z_lo h
          refine lv_iinc (pc := 273) (v := v17) (lv' := [(9, .int v17), (0, .ref (G.1 40)), (2, .int i2), (4, .int i4), (5, .int i5), (6, .int i6), (7, .long j7)]) hx hb dX11_blame_273 hl (k := 6) rfl (by rw [ev17]; rfl) (by decide) rfl (fun ls hl => ?_)
          refine lv_goto (pc := 276) (tgt := 190) hx hb dX11_blame_276 (by decide) ?_
          exact ih i2 i4 i5 i6 j7 v17 M H locs ls  hw (lv_sub hl [1, 2, 3, 4, 5, 6, 0] rfl) h
set_option maxHeartbeats 4000000 in
set_option maxRecDepth 100000 in
theorem w_X11_blame_139 {G : zG} {p : Program} {l : Launch} {e : Env} {s : State} {m : MethodId} {args : Array Value} {below : List Frame} {meth : Method} {c : Code} (X : z_C G p s m args meth c cX11_blame 17 RX11 (some .long)) {r : Int64 × zM} : ∀ (n : Nat) (i1 : Int32) (i2 : Int32) (i3 : Int32) (i4 : Int32) (i5 : Int32) (i6 : Int32) (i7 : Int32) (M : zM) (H : Heap) (locs : List Loc) (ls : Array Slot), z_W G M H locs → lv_has ls 17 [(0, .ref (G.1 40)), (1, .int i1), (2, .int i2), (3, .int i3), (4, .int i4), (5, .int i5), (6, .int i6), (7, .int i7)] → f_X11_blame_139 n i1 i2 i3 i4 i5 i6 i7 M = some r → W p l e (z_rm 13) s m args below meth c H locs 0 0 (z_Q G below args s (some (.long r.1)) r.2) (F0 m 139 ls []) := by
  have hx := X.1
  have hb := X.2.1
  intro n
  induction n with
  | zero =>
    intro i1 i2 i3 i4 i5 i6 i7 M H locs ls  hw hl h
    exact z_no h
  | succ n ih =>
    intro i1 i2 i3 i4 i5 i6 i7 M H locs ls  hw hl h
    rw [f_X11_blame_139] at h
    refine lv_iload (pc := 139) hx hb dX11_blame_139 (lv_at hl 7 rfl) ?_
    refine lv_iconst (pc := 141) (v := 1) hx hb dX11_blame_141 (by decide) ?_
    refine lv_aload_n (pc := 142) hx hb dX11_blame_142 rfl (lv_at hl 0 rfl) ?_
    refine zg_DrinkingRoofsModel_w (pc := 143) X hw zw_fl_5_71 dX11_blame_143 ?_
    refine lv_iconst (pc := 146) (v := 0) hx hb dX11_blame_146 (by decide) ?_
    refine z_iald (pc := 147) X hw zk_41 zl_41 (z_il (by decide)) dX11_blame_147 ?_
    refine lv_ishl (pc := 148) hx hb dX11_blame_148 ?_
    refine lv_icmp_ge (pc := 149) (tgt := 184) hx hb dX11_blame_149 (by decide) (fun c1 => ?_) (fun c1 => ?_)
    · replace h := z_t c1 h
      refine lv_lconst (pc := 184) (v := 0) hx hb dX11_blame_184 (by decide) ?_
      refine lv_lstore (pc := 185) (lv' := [(7, .long (0 : Int64)), (0, .ref (G.1 40)), (1, .int i1), (2, .int i2), (3, .int i3), (4, .int i4), (5, .int i5), (6, .int i6)]) hx hb dX11_blame_185 hl (by decide) rfl (fun ls hl => ?_)
      refine lv_iconst (pc := 187) (v := 0) hx hb dX11_blame_187 (by decide) ?_
      refine lv_istore (pc := 188) (lv' := [(9, .int (0 : Int32)), (7, .long (0 : Int64)), (0, .ref (G.1 40)), (1, .int i1), (2, .int i2), (3, .int i3), (4, .int i4), (5, .int i5), (6, .int i6)]) hx hb dX11_blame_188 hl (by decide) rfl (fun ls hl => ?_)
      exact w_X11_blame_190 X z_F i2 i4 i5 i6 (0 : Int64) (0 : Int32) M H locs ls  hw (lv_sub hl [2, 4, 6, 7, 8, 1, 0] rfl) h
    · replace h := z_f c1 h
      refine lv_iload (pc := 152) hx hb dX11_blame_152 (lv_at hl 7 rfl) ?_
      refine lv_iload (pc := 154) hx hb dX11_blame_154 (lv_at hl 5 rfl) ?_
      refine lv_iconst (pc := 156) (v := -1) hx hb dX11_blame_156 (by decide) ?_
      refine lv_ixor (pc := 157) hx hb dX11_blame_157 ?_
      refine lv_iand (pc := 158) hx hb dX11_blame_158 ?_
      refine lv_if_ne (pc := 159) (tgt := 178) hx hb dX11_blame_159 (by decide) (fun c2 => ?_) (fun c2 => ?_)
      · replace h := z_f c2 h
        obtain ⟨v3, ev3, h⟩ := z_lo h
        refine lv_iinc (pc := 178) (v := v3) (lv' := [(7, .int v3), (0, .ref (G.1 40)), (1, .int i1), (2, .int i2), (3, .int i3), (4, .int i4), (5, .int i5), (6, .int i6)]) hx hb dX11_blame_178 hl (k := 7) rfl (by rw [ev3]; rfl) (by decide) rfl (fun ls hl => ?_)
        refine lv_goto (pc := 181) (tgt := 139) hx hb dX11_blame_181 (by decide) ?_
        exact ih i1 i2 i3 i4 i5 i6 v3 M H locs ls  hw (lv_sub hl [1, 2, 3, 4, 5, 6, 7, 0] rfl) h
      · replace h := z_t c2 h
        refine lv_aload_n (pc := 162) hx hb dX11_blame_162 rfl (lv_at hl 0 rfl) ?_
        refine zg_DrinkingRoofsModel_overWith (pc := 163) X hw zw_fl_5_105 dX11_blame_163 ?_
        refine lv_iload (pc := 166) hx hb dX11_blame_166 (lv_at hl 7 rfl) ?_
        refine lv_aload_n (pc := 168) hx hb dX11_blame_168 rfl (lv_at hl 0 rfl) ?_
        refine lv_iload_n (pc := 169) hx hb dX11_blame_169 rfl (lv_at hl 1 rfl) ?_
        refine lv_iload_n (pc := 170) hx hb dX11_blame_170 rfl (lv_at hl 3 rfl) ?_
        refine lv_iload (pc := 171) hx hb dX11_blame_171 (lv_at hl 7 rfl) ?_
        obtain ⟨x4, ex4, h⟩ := z_bd h
        refine z_cvI (pc := 173) (rest := [.int i7, .ref (G.1 58)]) X hw (m_X11_overAt  ex4) (z_lt zk_40 (by decide)) (z_E11 zk_40) rfl zw_ml_6_171 zw_im_6_173 zw_se_S_64 zw_in_1_12 zw_co_6_174 zd_X11_overAt (by decide) rfl hl.1 rfl (Nat.le_of_ble_eq_true rfl) dX11_blame_173 ⟨Nat.zero_le _, Nat.zero_le _⟩ (fun Hx4 lx4 wx4 => ?_)
        refine lv_i2l (pc := 176) hx hb dX11_blame_176 rfl ?_
        obtain ⟨g5, h⟩ := z_gd h
        refine z_last (pc := 177) X wx4 zk_58 zl_58 g5 dX11_blame_177 (fun HM6 lM6 wM6 => ?_)
        obtain ⟨M6, eM6, h⟩ := z_lo h
        rw [← eM6] at wM6
        obtain ⟨v7, ev7, h⟩ := z_lo h
        refine lv_iinc (pc := 178) (v := v7) (lv' := [(7, .int v7), (0, .ref (G.1 40)), (1, .int i1), (2, .int i2), (3, .int i3), (4, .int i4), (5, .int i5), (6, .int i6)]) hx hb dX11_blame_178 hl (k := 7) rfl (by rw [ev7]; rfl) (by decide) rfl (fun ls hl => ?_)
        refine lv_goto (pc := 181) (tgt := 139) hx hb dX11_blame_181 (by decide) ?_
        exact ih i1 i2 i3 i4 i5 i6 v7 M6 HM6 lM6 ls  wM6 (lv_sub hl [1, 2, 3, 4, 5, 6, 7, 0] rfl) h
set_option maxHeartbeats 4000000 in
set_option maxRecDepth 100000 in
theorem w_X11_blame_50 {G : zG} {p : Program} {l : Launch} {e : Env} {s : State} {m : MethodId} {args : Array Value} {below : List Frame} {meth : Method} {c : Code} (X : z_C G p s m args meth c cX11_blame 17 RX11 (some .long)) {r : Int64 × zM} : ∀ (n : Nat) (i1 : Int32) (i2 : Int32) (i3 : Int32) (i4 : Int32) (i5 : Int32) (i6 : Int32) (M : zM) (H : Heap) (locs : List Loc) (ls : Array Slot), z_W G M H locs → lv_has ls 17 [(0, .ref (G.1 40)), (1, .int i1), (2, .int i2), (3, .int i3), (4, .int i4), (5, .int i5), (6, .int i6)] → f_X11_blame_50 n i1 i2 i3 i4 i5 i6 M = some r → W p l e (z_rm 13) s m args below meth c H locs 0 0 (z_Q G below args s (some (.long r.1)) r.2) (F0 m 50 ls []) := by
  have hx := X.1
  have hb := X.2.1
  intro n
  induction n with
  | zero =>
    intro i1 i2 i3 i4 i5 i6 M H locs ls  hw hl h
    exact z_no h
  | succ n ih =>
    intro i1 i2 i3 i4 i5 i6 M H locs ls  hw hl h
    rw [f_X11_blame_50] at h
    refine lv_iload (pc := 50) hx hb dX11_blame_50 (lv_at hl 6 rfl) ?_
    refine lv_aload_n (pc := 52) hx hb dX11_blame_52 rfl (lv_at hl 0 rfl) ?_
    refine zg_DrinkingRoofsModel_w (pc := 53) X hw zw_fl_5_71 dX11_blame_53 ?_
    refine lv_iconst (pc := 56) (v := 0) hx hb dX11_blame_56 (by decide) ?_
    refine z_iald (pc := 57) X hw zk_41 zl_41 (z_il (by decide)) dX11_blame_57 ?_
    refine lv_icmp_ge (pc := 58) (tgt := 90) hx hb dX11_blame_58 (by decide) (fun c1 => ?_) (fun c1 => ?_)
    · replace h := z_t c1 h
      refine lv_iload (pc := 90) hx hb dX11_blame_90 (lv_at hl 5 rfl) ?_
      obtain ⟨x2, ex2, h⟩ := z_bd h
      refine z_csI (pc := 92) (rest := []) X hw (m_X11_count  ex2) zw_ml_6_168 zw_st_6_169 zw_in_1_12 zw_co_6_170 zd_X11_count (by decide) rfl hl.1 rfl (Nat.le_of_ble_eq_true rfl) dX11_blame_92 ⟨Nat.zero_le _, Nat.zero_le _⟩ (fun Hx2 lx2 wx2 => ?_)
      refine lv_istore (pc := 95) (lv' := [(6, .int x2.1), (0, .ref (G.1 40)), (1, .int i1), (2, .int i2), (3, .int i3), (4, .int i4), (5, .int i5)]) hx hb dX11_blame_95 hl (by decide) rfl (fun ls hl => ?_)
      refine lv_iload (pc := 97) hx hb dX11_blame_97 (lv_at hl 0 rfl) ?_
      refine lv_bipush (pc := 99) (v := 7) hx hb dX11_blame_99 (by decide) ?_
      refine lv_icmp_le (pc := 101) (tgt := 108) hx hb dX11_blame_101 (by decide) (fun c3 => ?_) (fun c3 => ?_)
      · replace h := z_t c3 h
        refine lv_iload (pc := 108) hx hb dX11_blame_108 (lv_at hl 5 rfl) ?_
        refine lv_iconst (pc := 110) (v := 2) hx hb dX11_blame_110 (by decide) ?_
        refine lv_icmp_ne (pc := 111) (tgt := 123) hx hb dX11_blame_111 (by decide) (fun c4 => ?_) (fun c4 => ?_)
        · replace h := z_f c4 h
          refine lv_iload (pc := 123) hx hb dX11_blame_123 (lv_at hl 6 rfl) ?_
          refine lv_iload_n (pc := 125) hx hb dX11_blame_125 rfl (lv_at hl 3 rfl) ?_
          refine lv_ishr (pc := 126) hx hb dX11_blame_126 ?_
          refine lv_iconst (pc := 127) (v := 1) hx hb dX11_blame_127 (by decide) ?_
          refine lv_iand (pc := 128) hx hb dX11_blame_128 ?_
          refine lv_if_ne (pc := 129) (tgt := 136) hx hb dX11_blame_129 (by decide) (fun c5 => ?_) (fun c5 => ?_)
          · replace h := z_f c5 h
            refine lv_iconst (pc := 136) (v := 0) hx hb dX11_blame_136 (by decide) ?_
            refine lv_istore (pc := 137) (lv' := [(7, .int (0 : Int32)), (6, .int x2.1), (0, .ref (G.1 40)), (1, .int i1), (2, .int i2), (3, .int i3), (4, .int i4), (5, .int i5)]) hx hb dX11_blame_137 hl (by decide) rfl (fun ls hl => ?_)
            exact w_X11_blame_139 X z_F i1 i2 i3 i4 i5 x2.1 (0 : Int32) x2.2 Hx2 lx2 ls  wx2 (lv_sub hl [2, 3, 4, 5, 6, 7, 1, 0] rfl) h
          · replace h := z_t c5 h
            refine lv_iload (pc := 132) hx hb dX11_blame_132 (lv_at hl 5 rfl) ?_
            refine lv_i2l (pc := 134) hx hb dX11_blame_134 rfl ?_
            obtain rfl := Option.some.inj h
            exact z_rj (pc := 135) X wx2 dX11_blame_135
        · replace h := z_t c4 h
          refine lv_aload_n (pc := 114) hx hb dX11_blame_114 rfl (lv_at hl 1 rfl) ?_
          refine lv_iload_n (pc := 115) hx hb dX11_blame_115 rfl (lv_at hl 2 rfl) ?_
          refine lv_iload_n (pc := 116) hx hb dX11_blame_116 rfl (lv_at hl 4 rfl) ?_
          refine lv_iconst (pc := 117) (v := 0) hx hb dX11_blame_117 (by decide) ?_
          obtain ⟨x6, ex6, h⟩ := z_bd h
          refine z_cvI (pc := 118) (rest := []) X wx2 (m_X11_overAt  ex6) (z_lt zk_40 (by decide)) (z_E11 zk_40) rfl zw_ml_6_171 zw_im_6_173 zw_se_S_64 zw_in_1_12 zw_co_6_174 zd_X11_overAt (by decide) rfl hl.1 rfl (Nat.le_of_ble_eq_true rfl) dX11_blame_118 ⟨Nat.zero_le _, Nat.zero_le _⟩ (fun Hx6 lx6 wx6 => ?_)
          refine lv_i2l (pc := 121) hx hb dX11_blame_121 rfl ?_
          obtain rfl := Option.some.inj h
          exact z_rj (pc := 122) X wx6 dX11_blame_122
      · replace h := z_f c3 h
        refine lv_ldc2 (pc := 104) (v := -1) hx hb X.2.2.2.1 (X.2.2.2.2.1 _ zw_cl_6_167) dX11_blame_104 ?_
        obtain rfl := Option.some.inj h
        exact z_rj (pc := 107) X wx2 dX11_blame_107
    · replace h := z_f c1 h
      refine lv_iload (pc := 61) hx hb dX11_blame_61 (lv_at hl 5 rfl) ?_
      refine lv_aload_n (pc := 63) hx hb dX11_blame_63 rfl (lv_at hl 0 rfl) ?_
      refine lv_iload (pc := 64) hx hb dX11_blame_64 (lv_at hl 6 rfl) ?_
      refine lv_iconst (pc := 66) (v := 5) hx hb dX11_blame_66 (by decide) ?_
      obtain ⟨x7, ex7, h⟩ := z_bd h
      refine z_cvI (pc := 67) (rest := [.int i5]) X hw (m_X11_own  ex7) (z_lt zk_40 (by decide)) (z_E11 zk_40) rfl zw_ml_6_113 zw_im_6_115 zw_se_S_56 zw_in_1_12 zw_co_6_116 zd_X11_own (by decide) rfl hl.1 rfl (Nat.le_of_ble_eq_true rfl) dX11_blame_67 ⟨Nat.zero_le _, Nat.zero_le _⟩ (fun Hx7 lx7 wx7 => ?_)
      refine lv_if_le (pc := 70) (tgt := 80) hx hb dX11_blame_70 (by decide) (fun c8 => ?_) (fun c8 => ?_)
      · replace h := z_t c8 h
        refine lv_iconst (pc := 80) (v := 0) hx hb dX11_blame_80 (by decide) ?_
        refine lv_ior (pc := 81) hx hb dX11_blame_81 ?_
        obtain ⟨v9, ev9, h⟩ := z_lo h
        refine z_topi ev9 ?_
        refine lv_istore (pc := 82) (lv' := [(5, .int v9), (0, .ref (G.1 40)), (1, .int i1), (2, .int i2), (3, .int i3), (4, .int i4), (6, .int i6)]) hx hb dX11_blame_82 hl (by decide) rfl (fun ls hl => ?_)
        obtain ⟨v10, ev10, h⟩ := z_lo h
        refine lv_iinc (pc := 84) (v := v10) (lv' := [(6, .int v10), (5, .int v9), (0, .ref (G.1 40)), (1, .int i1), (2, .int i2), (3, .int i3), (4, .int i4)]) hx hb dX11_blame_84 hl (k := 6) rfl (by rw [ev10]; rfl) (by decide) rfl (fun ls hl => ?_)
        refine lv_goto (pc := 87) (tgt := 50) hx hb dX11_blame_87 (by decide) ?_
        exact ih i1 i2 i3 i4 v9 v10 x7.2 Hx7 lx7 ls  wx7 (lv_sub hl [2, 3, 4, 5, 6, 1, 0] rfl) h
      · replace h := z_f c8 h
        refine lv_iconst (pc := 73) (v := 1) hx hb dX11_blame_73 (by decide) ?_
        refine lv_iload (pc := 74) hx hb dX11_blame_74 (lv_at hl 6 rfl) ?_
        refine lv_ishl (pc := 76) hx hb dX11_blame_76 ?_
        refine lv_goto (pc := 77) (tgt := 81) hx hb dX11_blame_77 (by decide) ?_
        refine lv_ior (pc := 81) hx hb dX11_blame_81 ?_
        obtain ⟨v11, ev11, h⟩ := z_lo h
        refine z_topi ev11 ?_
        refine lv_istore (pc := 82) (lv' := [(5, .int v11), (0, .ref (G.1 40)), (1, .int i1), (2, .int i2), (3, .int i3), (4, .int i4), (6, .int i6)]) hx hb dX11_blame_82 hl (by decide) rfl (fun ls hl => ?_)
        obtain ⟨v12, ev12, h⟩ := z_lo h
        refine lv_iinc (pc := 84) (v := v12) (lv' := [(6, .int v12), (5, .int v11), (0, .ref (G.1 40)), (1, .int i1), (2, .int i2), (3, .int i3), (4, .int i4)]) hx hb dX11_blame_84 hl (k := 6) rfl (by rw [ev12]; rfl) (by decide) rfl (fun ls hl => ?_)
        refine lv_goto (pc := 87) (tgt := 50) hx hb dX11_blame_87 (by decide) ?_
        exact ih i1 i2 i3 i4 v11 v12 x7.2 Hx7 lx7 ls  wx7 (lv_sub hl [2, 3, 4, 5, 6, 1, 0] rfl) h
set_option maxHeartbeats 4000000 in
set_option maxRecDepth 100000 in
theorem m_X11_blame {l : Launch} {G : zG} {i1 : Int32} {i2 : Int32} {i3 : Int32} {i4 : Int32} {M : zM} {r : Int64 × zM} (h : f_X11_blame i1 i2 i3 i4 M = some r) : z_T l G 13 yX11_blame (.code yX11_blame cX11_blame 17 (some .long)) [.ref (G.1 40), .int i1, .int i2, .int i3, .int i4] M (some (.long r.1)) r.2 := by
  refine z_of rfl ?_
  intro p e s m below meth c X hw
  have hl := lv_entry [.ref (G.1 40), .int i1, .int i2, .int i3, .int i4] (n := 17) (Nat.le_of_ble_eq_true rfl)
  rw [lg_entry_eq]
  generalize (lg_sl [.ref (G.1 40), .int i1, .int i2, .int i3, .int i4] ++ List.replicate (17 - (lg_sl [.ref (G.1 40), .int i1, .int i2, .int i3, .int i4]).length) Slot.unset).toArray = ls at hl ⊢
  have hl : lv_has ls 17 [(0, .ref (G.1 40)), (1, .int i1), (2, .int i2), (3, .int i3), (4, .int i4)] := hl
  generalize ([.ref (G.1 40), .int i1, .int i2, .int i3, .int i4] : List Value).toArray = args at X ⊢
  have X : z_C G p s m args meth c cX11_blame 17 RX11 (some .long) := X
  have hx := X.1
  have hb := X.2.1
  unfold f_X11_blame at h
  refine lv_aload_n (pc := 0) hx hb dX11_blame_0 rfl (lv_at hl 0 rfl) ?_
  refine lv_iload_n (pc := 1) hx hb dX11_blame_1 rfl (lv_at hl 1 rfl) ?_
  obtain ⟨x1, ex1, h⟩ := z_bd h
  refine z_cvI (pc := 2) (rest := []) X hw (m_X11_isHouse  ex1) (z_lt zk_40 (by decide)) (z_E11 zk_40) rfl zw_ml_5_220 zw_im_5_222 zw_se_S_36 zw_in_1_12 zw_co_5_223 zd_X11_isHouse (by decide) rfl hl.1 rfl (Nat.le_of_ble_eq_true rfl) dX11_blame_2 ⟨Nat.zero_le _, Nat.zero_le _⟩ (fun Hx1 lx1 wx1 => ?_)
  refine lv_if_eq (pc := 5) (tgt := 40) hx hb dX11_blame_5 (by decide) (fun c2 => ?_) (fun c2 => ?_)
  · replace h := z_t c2 h
    refine lv_ldc2 (pc := 40) (v := -1) hx hb X.2.2.2.1 (X.2.2.2.2.1 _ zw_cl_6_167) dX11_blame_40 ?_
    obtain rfl := Option.some.inj h
    exact z_rj (pc := 43) X wx1 dX11_blame_43
  · replace h := z_f c2 h
    refine lv_aload_n (pc := 8) hx hb dX11_blame_8 rfl (lv_at hl 0 rfl) ?_
    refine lv_iload_n (pc := 9) hx hb dX11_blame_9 rfl (lv_at hl 3 rfl) ?_
    obtain ⟨x3, ex3, h⟩ := z_bd h
    refine z_cvI (pc := 10) (rest := []) X wx1 (m_X11_isStorm  ex3) (z_lt zk_40 (by decide)) (z_E11 zk_40) rfl zw_ml_5_236 zw_im_5_238 zw_se_S_37 zw_in_1_12 zw_co_5_239 zd_X11_isStorm (by decide) rfl hl.1 rfl (Nat.le_of_ble_eq_true rfl) dX11_blame_10 ⟨Nat.zero_le _, Nat.zero_le _⟩ (fun Hx3 lx3 wx3 => ?_)
    refine lv_if_eq (pc := 13) (tgt := 40) hx hb dX11_blame_13 (by decide) (fun c4 => ?_) (fun c4 => ?_)
    · replace h := z_t c4 h
      refine lv_ldc2 (pc := 40) (v := -1) hx hb X.2.2.2.1 (X.2.2.2.2.1 _ zw_cl_6_167) dX11_blame_40 ?_
      obtain rfl := Option.some.inj h
      exact z_rj (pc := 43) X wx3 dX11_blame_43
    · replace h := z_f c4 h
      refine lv_iload (pc := 16) hx hb dX11_blame_16 (lv_at hl 4 rfl) ?_
      refine lv_iconst (pc := 18) (v := 0) hx hb dX11_blame_18 (by decide) ?_
      refine lv_iconst (pc := 19) (v := 2) hx hb dX11_blame_19 (by decide) ?_
      obtain ⟨x5, ex5, h⟩ := z_bd h
      refine z_csI (pc := 20) (rest := []) X wx3 (m_X11_isIn  ex5) zw_ml_5_209 zw_st_5_210 zw_in_1_12 zw_co_5_211 zd_X11_isIn (by decide) rfl hl.1 rfl (Nat.le_of_ble_eq_true rfl) dX11_blame_20 ⟨Nat.zero_le _, Nat.zero_le _⟩ (fun Hx5 lx5 wx5 => ?_)
      refine lv_if_eq (pc := 23) (tgt := 40) hx hb dX11_blame_23 (by decide) (fun c6 => ?_) (fun c6 => ?_)
      · replace h := z_t c6 h
        refine lv_ldc2 (pc := 40) (v := -1) hx hb X.2.2.2.1 (X.2.2.2.2.1 _ zw_cl_6_167) dX11_blame_40 ?_
        obtain rfl := Option.some.inj h
        exact z_rj (pc := 43) X wx5 dX11_blame_43
      · replace h := z_f c6 h
        refine lv_iload (pc := 26) hx hb dX11_blame_26 (lv_at hl 4 rfl) ?_
        refine lv_iconst (pc := 28) (v := 2) hx hb dX11_blame_28 (by decide) ?_
        refine lv_icmp_ge (pc := 29) (tgt := 44) hx hb dX11_blame_29 (by decide) (fun c7 => ?_) (fun c7 => ?_)
        · replace h := z_t c7 h
          refine lv_iconst (pc := 44) (v := 0) hx hb dX11_blame_44 (by decide) ?_
          refine lv_istore (pc := 45) (lv' := [(5, .int (0 : Int32)), (0, .ref (G.1 40)), (1, .int i1), (2, .int i2), (3, .int i3), (4, .int i4)]) hx hb dX11_blame_45 hl (by decide) rfl (fun ls hl => ?_)
          refine lv_iconst (pc := 47) (v := 0) hx hb dX11_blame_47 (by decide) ?_
          refine lv_istore (pc := 48) (lv' := [(6, .int (0 : Int32)), (5, .int (0 : Int32)), (0, .ref (G.1 40)), (1, .int i1), (2, .int i2), (3, .int i3), (4, .int i4)]) hx hb dX11_blame_48 hl (by decide) rfl (fun ls hl => ?_)
          exact w_X11_blame_50 X z_F i1 i2 i3 i4 (0 : Int32) (0 : Int32) x5.2 Hx5 lx5 ls  wx5 (lv_sub hl [2, 3, 4, 5, 6, 1, 0] rfl) h
        · replace h := z_f c7 h
          refine lv_aload_n (pc := 32) hx hb dX11_blame_32 rfl (lv_at hl 0 rfl) ?_
          refine lv_iload_n (pc := 33) hx hb dX11_blame_33 rfl (lv_at hl 2 rfl) ?_
          obtain ⟨x8, ex8, h⟩ := z_bd h
          refine z_cvI (pc := 34) (rest := []) X wx5 (m_X11_isHouse  ex8) (z_lt zk_40 (by decide)) (z_E11 zk_40) rfl zw_ml_5_220 zw_im_5_222 zw_se_S_36 zw_in_1_12 zw_co_5_223 zd_X11_isHouse (by decide) rfl hl.1 rfl (Nat.le_of_ble_eq_true rfl) dX11_blame_34 ⟨Nat.zero_le _, Nat.zero_le _⟩ (fun Hx8 lx8 wx8 => ?_)
          refine lv_if_ne (pc := 37) (tgt := 44) hx hb dX11_blame_37 (by decide) (fun c9 => ?_) (fun c9 => ?_)
          · replace h := z_f c9 h
            refine lv_iconst (pc := 44) (v := 0) hx hb dX11_blame_44 (by decide) ?_
            refine lv_istore (pc := 45) (lv' := [(5, .int (0 : Int32)), (0, .ref (G.1 40)), (1, .int i1), (2, .int i2), (3, .int i3), (4, .int i4)]) hx hb dX11_blame_45 hl (by decide) rfl (fun ls hl => ?_)
            refine lv_iconst (pc := 47) (v := 0) hx hb dX11_blame_47 (by decide) ?_
            refine lv_istore (pc := 48) (lv' := [(6, .int (0 : Int32)), (5, .int (0 : Int32)), (0, .ref (G.1 40)), (1, .int i1), (2, .int i2), (3, .int i3), (4, .int i4)]) hx hb dX11_blame_48 hl (by decide) rfl (fun ls hl => ?_)
            exact w_X11_blame_50 X z_F i1 i2 i3 i4 (0 : Int32) (0 : Int32) x8.2 Hx8 lx8 ls  wx8 (lv_sub hl [2, 3, 4, 5, 6, 1, 0] rfl) h
          · replace h := z_t c9 h
            refine lv_ldc2 (pc := 40) (v := -1) hx hb X.2.2.2.1 (X.2.2.2.2.1 _ zw_cl_6_167) dX11_blame_40 ?_
            obtain rfl := Option.some.inj h
            exact z_rj (pc := 43) X wx8 dX11_blame_43
def f_X11_goesOn_174 (S : Int32 → Int32 → zM → Option (zM)) (K58 : Int32 → Int32 → Int32 → zM → Option (zM)) : Nat → Int32 → Int32 → Int32 → Int32 → zM → Option (zM)
  | 0, _, _, _, _, _ => none
  | n + 1, i1, i2, i3, i4, M =>
    if (M.1 40 30) ≤ i4 then (
      (f_X11_count i3 M).bind fun x2 =>
      (S (i1 + (1 : Int32)) (i2 + x2.1) x2.2).bind fun x3 =>
      z_l (i3 + (1 : Int32)) fun v4 =>
      K58 i1 i2 v4 x3
    ) else (
      z_g (z_ix (i1 + (1 : Int32)) 5) <|
      z_g (z_ix i4 11) <|
      (f_X11_own i4 (2 : Int32) M).bind fun x7 =>
      (f_X11_least (10 : Int32) ((M.1 51 (Int32.toNatClampNeg i4)) + x7.1) x7.2).bind fun x8 =>
      z_g (z_ix i4 4) <|
      z_l (z_w x8.2 (z_ra 63 (Int32.toNatClampNeg (i1 + (1 : Int32)))) (Int32.toNatClampNeg i4) x8.1) fun M10 =>
      z_g (z_ix (i1 + (1 : Int32)) 5) <|
      z_g (z_ix i4 11) <|
      z_g (z_ix i4 4) <|
      z_l (z_w M10 (z_ra 64 (Int32.toNatClampNeg (i1 + (1 : Int32)))) (Int32.toNatClampNeg i4) (M10.1 54 (Int32.toNatClampNeg i4))) fun M14 =>
      z_g (z_ix (i1 + (1 : Int32)) 5) <|
      z_g (z_ix i4 11) <|
      z_g (z_ix i4 4) <|
      z_l (z_w M14 (z_ra 65 (Int32.toNatClampNeg (i1 + (1 : Int32)))) (Int32.toNatClampNeg i4) (M14.1 55 (Int32.toNatClampNeg i4))) fun M18 =>
      z_l (i4 + (1 : Int32)) fun v19 =>
      f_X11_goesOn_174 S K58 n i1 i2 i3 v19 M18
    )
def f_X11_goesOn_109 (S : Int32 → Int32 → zM → Option (zM)) (K58 : Int32 → Int32 → Int32 → zM → Option (zM)) (K71 : Int32 → Int32 → Int32 → Int32 → zM → Option (zM)) (i1 : Int32) (i2 : Int32) (i3 : Int32) (i4 : Int32) (sk0 : Nat) (si1 : Int32) (si2 : Int32) (M : zM) : Option (zM) :=
    z_g (z_ix si1 (z_ln sk0)) <|
    z_l (z_w M sk0 (Int32.toNatClampNeg si1) si2) fun M2 =>
    z_g (z_ix i1 5) <|
    z_g (z_ix i4 4) <|
    z_g (z_ix i4 11) <|
    z_l (z_w M2 54 (Int32.toNatClampNeg i4) (M2.1 (z_ra 64 (Int32.toNatClampNeg i1)) (Int32.toNatClampNeg i4))) fun M6 =>
    z_g (z_ix i1 5) <|
    z_g (z_ix i4 4) <|
    z_g (z_ix i4 11) <|
    z_l (z_w M6 55 (Int32.toNatClampNeg i4) (M6.1 (z_ra 65 (Int32.toNatClampNeg i1)) (Int32.toNatClampNeg i4))) fun M10 =>
    z_l (i4 + (1 : Int32)) fun v11 =>
    K71 i1 i2 i3 v11 M10
def f_X11_goesOn_71 (S : Int32 → Int32 → zM → Option (zM)) (K58 : Int32 → Int32 → Int32 → zM → Option (zM)) : Nat → Int32 → Int32 → Int32 → Int32 → zM → Option (zM)
  | 0, _, _, _, _, _ => none
  | n + 1, i1, i2, i3, i4, M =>
    if (M.1 40 30) ≤ i4 then (
      z_g (z_ix i1 4) <|
      (f_X11_runs (M.1 59 (Int32.toNatClampNeg i1)) M).bind fun x3 =>
      if x3.1 ≤ 0 then (
        z_g (z_ix i1 4) <|
        z_l (z_w x3.2 60 (Int32.toNatClampNeg i1) i3) fun M6 =>
        f_X11_goesOn_174 S K58 z_F i1 i2 i3 (0 : Int32) M6
      ) else (
        z_l (i3 + (1 : Int32)) fun v7 =>
        K58 i1 i2 v7 x3.2
      )
    ) else (
      if ((i3 >>> (i4 &&& 31)) &&& (1 : Int32)) = (1 : Int32) then (
        f_X11_goesOn_109 S K58 (f_X11_goesOn_71 S K58 n) i1 i2 i3 i4 51 i4 (0 : Int32) M
      ) else (
        z_g (z_ix i1 5) <|
        z_g (z_ix i4 4) <|
        f_X11_goesOn_109 S K58 (f_X11_goesOn_71 S K58 n) i1 i2 i3 i4 51 i4 (M.1 (z_ra 63 (Int32.toNatClampNeg i1)) (Int32.toNatClampNeg i4)) M
      )
    )
def f_X11_goesOn_58 (S : Int32 → Int32 → zM → Option (zM)) : Nat → Int32 → Int32 → Int32 → zM → Option (zM)
  | 0, _, _, _, _ => none
  | n + 1, i1, i2, i3, M =>
    if ((1 : Int32) <<< ((M.1 40 30) &&& 31)) ≤ i3 then (
      some M
    ) else (
      f_X11_goesOn_71 S (f_X11_goesOn_58 S n) z_F i1 i2 i3 (0 : Int32) M
    )
def f_X11_goesOn_32 (S : Int32 → Int32 → zM → Option (zM)) : Nat → Int32 → Int32 → zM → Option (zM)
  | 0, _, _, _ => none
  | n + 1, i1, i3, M =>
    if i1 ≤ i3 then (
      some M
    ) else (
      z_g (z_ix i3 4) <|
      z_g (z_ix i3 4) <|
      z_l (z_w M 61 (Int32.toNatClampNeg i3) (M.1 60 (Int32.toNatClampNeg i3))) fun M4 =>
      z_l (i3 + (1 : Int32)) fun v5 =>
      f_X11_goesOn_32 S n i1 v5 M4
    )
def f_X11_goesOn_b (S : Int32 → Int32 → zM → Option (zM)) (i1 : Int32) (i2 : Int32) (M : zM) : Option (zM) :=
  if (M.1 40 42) = (-1 : Int32) then (
    if i1 = (M.1 40 41) then (
      z_l (z_w M 40 42 i2) fun M3 =>
      f_X11_goesOn_32 S z_F i1 (0 : Int32) M3
    ) else (
      f_X11_goesOn_58 S z_F i1 i2 (0 : Int32) M
    )
  ) else (
    if i2 < (M.1 40 42) then (
      if i1 = (M.1 40 41) then (
        z_l (z_w M 40 42 i2) fun M6 =>
        f_X11_goesOn_32 S z_F i1 (0 : Int32) M6
      ) else (
        f_X11_goesOn_58 S z_F i1 i2 (0 : Int32) M
      )
    ) else (
      some M
    )
  )
def f_X11_goesOn : Nat → Int32 → Int32 → zM → Option (zM)
  | 0, _, _, _ => none
  | d + 1, i1, i2, M => f_X11_goesOn_b (f_X11_goesOn d) i1 i2 M
set_option maxHeartbeats 4000000 in
set_option maxRecDepth 100000 in
theorem w_X11_goesOn_174 {G : zG} {p : Program} {l : Launch} {e : Env} {s : State} {m : MethodId} {args : Array Value} {below : List Frame} {meth : Method} {c : Code} (X : z_C G p s m args meth c cX11_goesOn 5 RX11 none) {lev : Nat} (hlev : 3 ≤ lev) {S : Int32 → Int32 → zM → Option (zM)} (hS : ∀ (ai1 : Int32) (ai2 : Int32) (M : zM) (q : zM), S ai1 ai2 M = some q → z_T l G lev yX11_goesOn (.code yX11_goesOn cX11_goesOn 5 none) [.ref (G.1 40), .int ai1, .int ai2] M none q) {r : zM} {K58 : Int32 → Int32 → Int32 → zM → Option (zM)} (hK58 : ∀ (i1 : Int32) (i2 : Int32) (i3 : Int32) (M : zM) (H : Heap) (locs : List Loc) (ls : Array Slot), z_W G M H locs → lv_has ls 5 [(0, .ref (G.1 40)), (1, .int i1), (2, .int i2), (3, .int i3)] → K58 i1 i2 i3 M = some r → W p l e (z_rm (lev + 1)) s m args below meth c H locs 0 0 (z_Q G below args s none r) (F0 m 58 ls [])) : ∀ (n : Nat) (i1 : Int32) (i2 : Int32) (i3 : Int32) (i4 : Int32) (M : zM) (H : Heap) (locs : List Loc) (ls : Array Slot), z_W G M H locs → lv_has ls 5 [(0, .ref (G.1 40)), (1, .int i1), (2, .int i2), (3, .int i3), (4, .int i4)] → f_X11_goesOn_174 S K58 n i1 i2 i3 i4 M = some r → W p l e (z_rm (lev + 1)) s m args below meth c H locs 0 0 (z_Q G below args s none r) (F0 m 174 ls []) := by
  have hx := X.1
  have hb := X.2.1
  intro n
  induction n with
  | zero =>
    intro i1 i2 i3 i4 M H locs ls  hw hl h
    exact z_no h
  | succ n ih =>
    intro i1 i2 i3 i4 M H locs ls  hw hl h
    rw [f_X11_goesOn_174] at h
    refine lv_iload (pc := 174) hx hb dX11_goesOn_174 (lv_at hl 4 rfl) ?_
    refine lv_aload_n (pc := 176) hx hb dX11_goesOn_176 rfl (lv_at hl 0 rfl) ?_
    refine zg_DrinkingRoofsModel_many (pc := 177) X hw zw_fl_5_101 dX11_goesOn_177 ?_
    refine lv_icmp_ge (pc := 180) (tgt := 256) hx hb dX11_goesOn_180 (by decide) (fun c1 => ?_) (fun c1 => ?_)
    · replace h := z_t c1 h
      refine lv_aload_n (pc := 256) hx hb dX11_goesOn_256 rfl (lv_at hl 0 rfl) ?_
      refine lv_iload_n (pc := 257) hx hb dX11_goesOn_257 rfl (lv_at hl 1 rfl) ?_
      refine lv_iconst (pc := 258) (v := 1) hx hb dX11_goesOn_258 (by decide) ?_
      refine lv_iadd (pc := 259) hx hb dX11_goesOn_259 ?_
      refine lv_iload_n (pc := 260) hx hb dX11_goesOn_260 rfl (lv_at hl 2 rfl) ?_
      refine lv_iload_n (pc := 261) hx hb dX11_goesOn_261 rfl (lv_at hl 3 rfl) ?_
      obtain ⟨x2, ex2, h⟩ := z_bd h
      refine z_csI (pc := 262) (rest := [.int i2, .int (i1 + (1 : Int32)), .ref (G.1 40)]) X hw (m_X11_count  ex2) zw_ml_6_168 zw_st_6_169 zw_in_1_12 zw_co_6_170 zd_X11_count (z_lv (by omega) (by decide)) rfl hl.1 rfl (Nat.le_of_ble_eq_true rfl) dX11_goesOn_262 ⟨Nat.zero_le _, Nat.zero_le _⟩ (fun Hx2 lx2 wx2 => ?_)
      refine lv_iadd (pc := 265) hx hb dX11_goesOn_265 ?_
      obtain ⟨x3, ex3, h⟩ := z_bd h
      refine z_cvV (pc := 266) (rest := []) X wx2 (hS _ _ _ _  ex3) (z_lt zk_40 (by decide)) (z_E11 zk_40) rfl zw_ml_6_182 zw_im_6_184 zw_se_S_65 zw_in_1_12 zw_co_6_185 zd_X11_goesOn (z_lv (by omega) (by decide)) rfl hl.1 rfl (Nat.le_of_ble_eq_true rfl) dX11_goesOn_266 ⟨Nat.zero_le _, Nat.zero_le _⟩ (fun Hx3 lx3 wx3 => ?_)
      obtain ⟨v4, ev4, h⟩ := z_lo h
      refine lv_iinc (pc := 269) (v := v4) (lv' := [(3, .int v4), (0, .ref (G.1 40)), (1, .int i1), (2, .int i2), (4, .int i4)]) hx hb dX11_goesOn_269 hl (k := 3) rfl (by rw [ev4]; rfl) (by decide) rfl (fun ls hl => ?_)
      refine lv_goto (pc := 272) (tgt := 58) hx hb dX11_goesOn_272 (by decide) ?_
      exact hK58 i1 i2 v4 x3 Hx3 lx3 ls  wx3 (lv_sub hl [1, 2, 3, 0] rfl) h
    · replace h := z_f c1 h
      refine lv_aload_n (pc := 183) hx hb dX11_goesOn_183 rfl (lv_at hl 0 rfl) ?_
      refine zg_DrinkingRoofsModel_clogAt (pc := 184) X hw zw_fl_5_109 dX11_goesOn_184 ?_
      refine lv_iload_n (pc := 187) hx hb dX11_goesOn_187 rfl (lv_at hl 1 rfl) ?_
      refine lv_iconst (pc := 188) (v := 1) hx hb dX11_goesOn_188 (by decide) ?_
      refine lv_iadd (pc := 189) hx hb dX11_goesOn_189 ?_
      obtain ⟨g5, h⟩ := z_gd h
      refine z_aald18 (pc := 190) X hw zk_63 zl_63 g5 dX11_goesOn_190 ?_
      refine lv_iload (pc := 191) hx hb dX11_goesOn_191 (lv_at hl 4 rfl) ?_
      refine lv_bipush (pc := 193) (v := 10) hx hb dX11_goesOn_193 (by decide) ?_
      refine lv_aload_n (pc := 195) hx hb dX11_goesOn_195 rfl (lv_at hl 0 rfl) ?_
      refine zg_DrinkingRoofsModel_clog (pc := 196) X hw zw_fl_5_94 dX11_goesOn_196 ?_
      refine lv_iload (pc := 199) hx hb dX11_goesOn_199 (lv_at hl 4 rfl) ?_
      obtain ⟨g6, h⟩ := z_gd h
      refine z_iald (pc := 201) X hw zk_51 zl_51 g6 dX11_goesOn_201 ?_
      refine lv_aload_n (pc := 202) hx hb dX11_goesOn_202 rfl (lv_at hl 0 rfl) ?_
      refine lv_iload (pc := 203) hx hb dX11_goesOn_203 (lv_at hl 4 rfl) ?_
      refine lv_iconst (pc := 205) (v := 2) hx hb dX11_goesOn_205 (by decide) ?_
      obtain ⟨x7, ex7, h⟩ := z_bd h
      refine z_cvI (pc := 206) (rest := [.int (M.1 51 (Int32.toNatClampNeg i4)), .int (10 : Int32), .int i4, .ref (G.1 (z_ra 63 (Int32.toNatClampNeg (i1 + (1 : Int32)))))]) X hw (m_X11_own  ex7) (z_lt zk_40 (by decide)) (z_E11 zk_40) rfl zw_ml_6_113 zw_im_6_115 zw_se_S_56 zw_in_1_12 zw_co_6_116 zd_X11_own (z_lv (by omega) (by decide)) rfl hl.1 rfl (Nat.le_of_ble_eq_true rfl) dX11_goesOn_206 ⟨Nat.zero_le _, Nat.zero_le _⟩ (fun Hx7 lx7 wx7 => ?_)
      refine lv_iadd (pc := 209) hx hb dX11_goesOn_209 ?_
      obtain ⟨x8, ex8, h⟩ := z_bd h
      refine z_csI (pc := 210) (rest := [.int i4, .ref (G.1 (z_ra 63 (Int32.toNatClampNeg (i1 + (1 : Int32)))))]) X wx7 (m_X11_least  ex8) zw_ml_6_129 zw_st_6_130 zw_in_1_12 zw_co_6_131 zd_X11_least (z_lv (by omega) (by decide)) rfl hl.1 rfl (Nat.le_of_ble_eq_true rfl) dX11_goesOn_210 ⟨Nat.zero_le _, Nat.zero_le _⟩ (fun Hx8 lx8 wx8 => ?_)
      obtain ⟨g9, h⟩ := z_gd h
      refine z_iast (pc := 213) X wx8 (zk_el18 zk_63 g5) (zl_el18 zk_63 g5) g9 dX11_goesOn_213 (fun HM10 lM10 wM10 => ?_)
      obtain ⟨M10, eM10, h⟩ := z_lo h
      rw [← eM10] at wM10
      refine lv_aload_n (pc := 214) hx hb dX11_goesOn_214 rfl (lv_at hl 0 rfl) ?_
      refine zg_DrinkingRoofsModel_heldAt (pc := 215) X wM10 zw_fl_5_110 dX11_goesOn_215 ?_
      refine lv_iload_n (pc := 218) hx hb dX11_goesOn_218 rfl (lv_at hl 1 rfl) ?_
      refine lv_iconst (pc := 219) (v := 1) hx hb dX11_goesOn_219 (by decide) ?_
      refine lv_iadd (pc := 220) hx hb dX11_goesOn_220 ?_
      obtain ⟨g11, h⟩ := z_gd h
      refine z_aald18 (pc := 221) X wM10 zk_64 zl_64 g11 dX11_goesOn_221 ?_
      refine lv_iload (pc := 222) hx hb dX11_goesOn_222 (lv_at hl 4 rfl) ?_
      refine lv_aload_n (pc := 224) hx hb dX11_goesOn_224 rfl (lv_at hl 0 rfl) ?_
      refine zg_DrinkingRoofsModel_held (pc := 225) X wM10 zw_fl_5_97 dX11_goesOn_225 ?_
      refine lv_iload (pc := 228) hx hb dX11_goesOn_228 (lv_at hl 4 rfl) ?_
      obtain ⟨g12, h⟩ := z_gd h
      refine z_iald (pc := 230) X wM10 zk_54 zl_54 g12 dX11_goesOn_230 ?_
      obtain ⟨g13, h⟩ := z_gd h
      refine z_iast (pc := 231) X wM10 (zk_el18 zk_64 g11) (zl_el18 zk_64 g11) g13 dX11_goesOn_231 (fun HM14 lM14 wM14 => ?_)
      obtain ⟨M14, eM14, h⟩ := z_lo h
      rw [← eM14] at wM14
      refine lv_aload_n (pc := 232) hx hb dX11_goesOn_232 rfl (lv_at hl 0 rfl) ?_
      refine zg_DrinkingRoofsModel_snowAt (pc := 233) X wM14 zw_fl_5_111 dX11_goesOn_233 ?_
      refine lv_iload_n (pc := 236) hx hb dX11_goesOn_236 rfl (lv_at hl 1 rfl) ?_
      refine lv_iconst (pc := 237) (v := 1) hx hb dX11_goesOn_237 (by decide) ?_
      refine lv_iadd (pc := 238) hx hb dX11_goesOn_238 ?_
      obtain ⟨g15, h⟩ := z_gd h
      refine z_aald18 (pc := 239) X wM14 zk_65 zl_65 g15 dX11_goesOn_239 ?_
      refine lv_iload (pc := 240) hx hb dX11_goesOn_240 (lv_at hl 4 rfl) ?_
      refine lv_aload_n (pc := 242) hx hb dX11_goesOn_242 rfl (lv_at hl 0 rfl) ?_
      refine zg_DrinkingRoofsModel_snow (pc := 243) X wM14 zw_fl_5_98 dX11_goesOn_243 ?_
      refine lv_iload (pc := 246) hx hb dX11_goesOn_246 (lv_at hl 4 rfl) ?_
      obtain ⟨g16, h⟩ := z_gd h
      refine z_iald (pc := 248) X wM14 zk_55 zl_55 g16 dX11_goesOn_248 ?_
      obtain ⟨g17, h⟩ := z_gd h
      refine z_iast (pc := 249) X wM14 (zk_el18 zk_65 g15) (zl_el18 zk_65 g15) g17 dX11_goesOn_249 (fun HM18 lM18 wM18 => ?_)
      obtain ⟨M18, eM18, h⟩ := z_lo h
      rw [← eM18] at wM18
      obtain ⟨v19, ev19, h⟩ := z_lo h
      refine lv_iinc (pc := 250) (v := v19) (lv' := [(4, .int v19), (0, .ref (G.1 40)), (1, .int i1), (2, .int i2), (3, .int i3)]) hx hb dX11_goesOn_250 hl (k := 4) rfl (by rw [ev19]; rfl) (by decide) rfl (fun ls hl => ?_)
      refine lv_goto (pc := 253) (tgt := 174) hx hb dX11_goesOn_253 (by decide) ?_
      exact ih i1 i2 i3 v19 M18 HM18 lM18 ls  wM18 (lv_sub hl [1, 2, 3, 4, 0] rfl) h
set_option maxHeartbeats 4000000 in
set_option maxRecDepth 100000 in
theorem w_X11_goesOn_109 {G : zG} {p : Program} {l : Launch} {e : Env} {s : State} {m : MethodId} {args : Array Value} {below : List Frame} {meth : Method} {c : Code} (X : z_C G p s m args meth c cX11_goesOn 5 RX11 none) {lev : Nat} (hlev : 3 ≤ lev) {S : Int32 → Int32 → zM → Option (zM)} (hS : ∀ (ai1 : Int32) (ai2 : Int32) (M : zM) (q : zM), S ai1 ai2 M = some q → z_T l G lev yX11_goesOn (.code yX11_goesOn cX11_goesOn 5 none) [.ref (G.1 40), .int ai1, .int ai2] M none q) {r : zM} {K58 : Int32 → Int32 → Int32 → zM → Option (zM)} (hK58 : ∀ (i1 : Int32) (i2 : Int32) (i3 : Int32) (M : zM) (H : Heap) (locs : List Loc) (ls : Array Slot), z_W G M H locs → lv_has ls 5 [(0, .ref (G.1 40)), (1, .int i1), (2, .int i2), (3, .int i3)] → K58 i1 i2 i3 M = some r → W p l e (z_rm (lev + 1)) s m args below meth c H locs 0 0 (z_Q G below args s none r) (F0 m 58 ls [])) {K71 : Int32 → Int32 → Int32 → Int32 → zM → Option (zM)} (hK71 : ∀ (i1 : Int32) (i2 : Int32) (i3 : Int32) (i4 : Int32) (M : zM) (H : Heap) (locs : List Loc) (ls : Array Slot), z_W G M H locs → lv_has ls 5 [(0, .ref (G.1 40)), (1, .int i1), (2, .int i2), (3, .int i3), (4, .int i4)] → K71 i1 i2 i3 i4 M = some r → W p l e (z_rm (lev + 1)) s m args below meth c H locs 0 0 (z_Q G below args s none r) (F0 m 71 ls [])) : ∀ (i1 : Int32) (i2 : Int32) (i3 : Int32) (i4 : Int32) (sk0 : Nat) (si1 : Int32) (si2 : Int32) (M : zM) (H : Heap) (locs : List Loc) (ls : Array Slot), z_kd sk0 = 13 → z_W G M H locs → lv_has ls 5 [(0, .ref (G.1 40)), (1, .int i1), (2, .int i2), (3, .int i3), (4, .int i4)] → f_X11_goesOn_109 S K58 K71 i1 i2 i3 i4 sk0 si1 si2 M = some r → W p l e (z_rm (lev + 1)) s m args below meth c H locs 0 0 (z_Q G below args s none r) (F0 m 109 ls [.int si2, .int si1, .ref (G.1 sk0)]) := by
  have hx := X.1
  have hb := X.2.1
  intro i1 i2 i3 i4 sk0 si1 si2 M H locs ls hsk0 hw hl h
  unfold f_X11_goesOn_109 at h
  obtain ⟨g1, h⟩ := z_gd h
  refine z_iast (pc := 109) X hw hsk0 rfl g1 dX11_goesOn_109 (fun HM2 lM2 wM2 => ?_)
  obtain ⟨M2, eM2, h⟩ := z_lo h
  rw [← eM2] at wM2
  refine lv_aload_n (pc := 110) hx hb dX11_goesOn_110 rfl (lv_at hl 0 rfl) ?_
  refine zg_DrinkingRoofsModel_held (pc := 111) X wM2 zw_fl_5_97 dX11_goesOn_111 ?_
  refine lv_iload (pc := 114) hx hb dX11_goesOn_114 (lv_at hl 4 rfl) ?_
  refine lv_aload_n (pc := 116) hx hb dX11_goesOn_116 rfl (lv_at hl 0 rfl) ?_
  refine zg_DrinkingRoofsModel_heldAt (pc := 117) X wM2 zw_fl_5_110 dX11_goesOn_117 ?_
  refine lv_iload_n (pc := 120) hx hb dX11_goesOn_120 rfl (lv_at hl 1 rfl) ?_
  obtain ⟨g3, h⟩ := z_gd h
  refine z_aald18 (pc := 121) X wM2 zk_64 zl_64 g3 dX11_goesOn_121 ?_
  refine lv_iload (pc := 122) hx hb dX11_goesOn_122 (lv_at hl 4 rfl) ?_
  obtain ⟨g4, h⟩ := z_gd h
  refine z_iald (pc := 124) X wM2 (zk_el18 zk_64 g3) (zl_el18 zk_64 g3) g4 dX11_goesOn_124 ?_
  obtain ⟨g5, h⟩ := z_gd h
  refine z_iast (pc := 125) X wM2 zk_54 zl_54 g5 dX11_goesOn_125 (fun HM6 lM6 wM6 => ?_)
  obtain ⟨M6, eM6, h⟩ := z_lo h
  rw [← eM6] at wM6
  refine lv_aload_n (pc := 126) hx hb dX11_goesOn_126 rfl (lv_at hl 0 rfl) ?_
  refine zg_DrinkingRoofsModel_snow (pc := 127) X wM6 zw_fl_5_98 dX11_goesOn_127 ?_
  refine lv_iload (pc := 130) hx hb dX11_goesOn_130 (lv_at hl 4 rfl) ?_
  refine lv_aload_n (pc := 132) hx hb dX11_goesOn_132 rfl (lv_at hl 0 rfl) ?_
  refine zg_DrinkingRoofsModel_snowAt (pc := 133) X wM6 zw_fl_5_111 dX11_goesOn_133 ?_
  refine lv_iload_n (pc := 136) hx hb dX11_goesOn_136 rfl (lv_at hl 1 rfl) ?_
  obtain ⟨g7, h⟩ := z_gd h
  refine z_aald18 (pc := 137) X wM6 zk_65 zl_65 g7 dX11_goesOn_137 ?_
  refine lv_iload (pc := 138) hx hb dX11_goesOn_138 (lv_at hl 4 rfl) ?_
  obtain ⟨g8, h⟩ := z_gd h
  refine z_iald (pc := 140) X wM6 (zk_el18 zk_65 g7) (zl_el18 zk_65 g7) g8 dX11_goesOn_140 ?_
  obtain ⟨g9, h⟩ := z_gd h
  refine z_iast (pc := 141) X wM6 zk_55 zl_55 g9 dX11_goesOn_141 (fun HM10 lM10 wM10 => ?_)
  obtain ⟨M10, eM10, h⟩ := z_lo h
  rw [← eM10] at wM10
  obtain ⟨v11, ev11, h⟩ := z_lo h
  refine lv_iinc (pc := 142) (v := v11) (lv' := [(4, .int v11), (0, .ref (G.1 40)), (1, .int i1), (2, .int i2), (3, .int i3)]) hx hb dX11_goesOn_142 hl (k := 4) rfl (by rw [ev11]; rfl) (by decide) rfl (fun ls hl => ?_)
  refine lv_goto (pc := 145) (tgt := 71) hx hb dX11_goesOn_145 (by decide) ?_
  exact hK71 i1 i2 i3 v11 M10 HM10 lM10 ls  wM10 (lv_sub hl [1, 2, 3, 4, 0] rfl) h
set_option maxHeartbeats 4000000 in
set_option maxRecDepth 100000 in
theorem w_X11_goesOn_71 {G : zG} {p : Program} {l : Launch} {e : Env} {s : State} {m : MethodId} {args : Array Value} {below : List Frame} {meth : Method} {c : Code} (X : z_C G p s m args meth c cX11_goesOn 5 RX11 none) {lev : Nat} (hlev : 3 ≤ lev) {S : Int32 → Int32 → zM → Option (zM)} (hS : ∀ (ai1 : Int32) (ai2 : Int32) (M : zM) (q : zM), S ai1 ai2 M = some q → z_T l G lev yX11_goesOn (.code yX11_goesOn cX11_goesOn 5 none) [.ref (G.1 40), .int ai1, .int ai2] M none q) {r : zM} {K58 : Int32 → Int32 → Int32 → zM → Option (zM)} (hK58 : ∀ (i1 : Int32) (i2 : Int32) (i3 : Int32) (M : zM) (H : Heap) (locs : List Loc) (ls : Array Slot), z_W G M H locs → lv_has ls 5 [(0, .ref (G.1 40)), (1, .int i1), (2, .int i2), (3, .int i3)] → K58 i1 i2 i3 M = some r → W p l e (z_rm (lev + 1)) s m args below meth c H locs 0 0 (z_Q G below args s none r) (F0 m 58 ls [])) : ∀ (n : Nat) (i1 : Int32) (i2 : Int32) (i3 : Int32) (i4 : Int32) (M : zM) (H : Heap) (locs : List Loc) (ls : Array Slot), z_W G M H locs → lv_has ls 5 [(0, .ref (G.1 40)), (1, .int i1), (2, .int i2), (3, .int i3), (4, .int i4)] → f_X11_goesOn_71 S K58 n i1 i2 i3 i4 M = some r → W p l e (z_rm (lev + 1)) s m args below meth c H locs 0 0 (z_Q G below args s none r) (F0 m 71 ls []) := by
  have hx := X.1
  have hb := X.2.1
  intro n
  induction n with
  | zero =>
    intro i1 i2 i3 i4 M H locs ls  hw hl h
    exact z_no h
  | succ n ih =>
    intro i1 i2 i3 i4 M H locs ls  hw hl h
    rw [f_X11_goesOn_71] at h
    refine lv_iload (pc := 71) hx hb dX11_goesOn_71 (lv_at hl 4 rfl) ?_
    refine lv_aload_n (pc := 73) hx hb dX11_goesOn_73 rfl (lv_at hl 0 rfl) ?_
    refine zg_DrinkingRoofsModel_many (pc := 74) X hw zw_fl_5_101 dX11_goesOn_74 ?_
    refine lv_icmp_ge (pc := 77) (tgt := 148) hx hb dX11_goesOn_77 (by decide) (fun c1 => ?_) (fun c1 => ?_)
    · replace h := z_t c1 h
      refine lv_aload_n (pc := 148) hx hb dX11_goesOn_148 rfl (lv_at hl 0 rfl) ?_
      refine lv_aload_n (pc := 149) hx hb dX11_goesOn_149 rfl (lv_at hl 0 rfl) ?_
      refine zg_DrinkingRoofsModel_rowOf (pc := 150) X hw zw_fl_5_106 dX11_goesOn_150 ?_
      refine lv_iload_n (pc := 153) hx hb dX11_goesOn_153 rfl (lv_at hl 1 rfl) ?_
      obtain ⟨g2, h⟩ := z_gd h
      refine z_iald (pc := 154) X hw zk_59 zl_59 g2 dX11_goesOn_154 ?_
      obtain ⟨x3, ex3, h⟩ := z_bd h
      refine z_cvI (pc := 155) (rest := []) X hw (m_X11_runs  ex3) (z_lt zk_40 (by decide)) (z_E11 zk_40) rfl zw_ml_6_117 zw_im_6_119 zw_se_S_57 zw_in_1_12 zw_co_6_120 zd_X11_runs (z_lv (by omega) (by decide)) rfl hl.1 rfl (Nat.le_of_ble_eq_true rfl) dX11_goesOn_155 ⟨Nat.zero_le _, Nat.zero_le _⟩ (fun Hx3 lx3 wx3 => ?_)
      refine lv_if_le (pc := 158) (tgt := 164) hx hb dX11_goesOn_158 (by decide) (fun c4 => ?_) (fun c4 => ?_)
      · replace h := z_t c4 h
        refine lv_aload_n (pc := 164) hx hb dX11_goesOn_164 rfl (lv_at hl 0 rfl) ?_
        refine zg_DrinkingRoofsModel_triedSet (pc := 165) X wx3 zw_fl_5_107 dX11_goesOn_165 ?_
        refine lv_iload_n (pc := 168) hx hb dX11_goesOn_168 rfl (lv_at hl 1 rfl) ?_
        refine lv_iload_n (pc := 169) hx hb dX11_goesOn_169 rfl (lv_at hl 3 rfl) ?_
        obtain ⟨g5, h⟩ := z_gd h
        refine z_iast (pc := 170) X wx3 zk_60 zl_60 g5 dX11_goesOn_170 (fun HM6 lM6 wM6 => ?_)
        obtain ⟨M6, eM6, h⟩ := z_lo h
        rw [← eM6] at wM6
        refine lv_iconst (pc := 171) (v := 0) hx hb dX11_goesOn_171 (by decide) ?_
        refine lv_istore (pc := 172) (lv' := [(4, .int (0 : Int32)), (0, .ref (G.1 40)), (1, .int i1), (2, .int i2), (3, .int i3)]) hx hb dX11_goesOn_172 hl (by decide) rfl (fun ls hl => ?_)
        exact w_X11_goesOn_174 X hlev hS hK58 z_F i1 i2 i3 (0 : Int32) M6 HM6 lM6 ls  wM6 (lv_sub hl [1, 2, 3, 4, 0] rfl) h
      · replace h := z_f c4 h
        refine lv_goto (pc := 161) (tgt := 269) hx hb dX11_goesOn_161 (by decide) ?_
        obtain ⟨v7, ev7, h⟩ := z_lo h
        refine lv_iinc (pc := 269) (v := v7) (lv' := [(3, .int v7), (0, .ref (G.1 40)), (1, .int i1), (2, .int i2), (4, .int i4)]) hx hb dX11_goesOn_269 hl (k := 3) rfl (by rw [ev7]; rfl) (by decide) rfl (fun ls hl => ?_)
        refine lv_goto (pc := 272) (tgt := 58) hx hb dX11_goesOn_272 (by decide) ?_
        exact hK58 i1 i2 v7 x3.2 Hx3 lx3 ls  wx3 (lv_sub hl [1, 2, 3, 0] rfl) h
    · replace h := z_f c1 h
      refine lv_aload_n (pc := 80) hx hb dX11_goesOn_80 rfl (lv_at hl 0 rfl) ?_
      refine zg_DrinkingRoofsModel_clog (pc := 81) X hw zw_fl_5_94 dX11_goesOn_81 ?_
      refine lv_iload (pc := 84) hx hb dX11_goesOn_84 (lv_at hl 4 rfl) ?_
      refine lv_iload_n (pc := 86) hx hb dX11_goesOn_86 rfl (lv_at hl 3 rfl) ?_
      refine lv_iload (pc := 87) hx hb dX11_goesOn_87 (lv_at hl 4 rfl) ?_
      refine lv_ishr (pc := 89) hx hb dX11_goesOn_89 ?_
      refine lv_iconst (pc := 90) (v := 1) hx hb dX11_goesOn_90 (by decide) ?_
      refine lv_iand (pc := 91) hx hb dX11_goesOn_91 ?_
      refine lv_iconst (pc := 92) (v := 1) hx hb dX11_goesOn_92 (by decide) ?_
      refine lv_icmp_ne (pc := 93) (tgt := 100) hx hb dX11_goesOn_93 (by decide) (fun c8 => ?_) (fun c8 => ?_)
      · replace h := z_f c8 h
        refine lv_aload_n (pc := 100) hx hb dX11_goesOn_100 rfl (lv_at hl 0 rfl) ?_
        refine zg_DrinkingRoofsModel_clogAt (pc := 101) X hw zw_fl_5_109 dX11_goesOn_101 ?_
        refine lv_iload_n (pc := 104) hx hb dX11_goesOn_104 rfl (lv_at hl 1 rfl) ?_
        obtain ⟨g9, h⟩ := z_gd h
        refine z_aald18 (pc := 105) X hw zk_63 zl_63 g9 dX11_goesOn_105 ?_
        refine lv_iload (pc := 106) hx hb dX11_goesOn_106 (lv_at hl 4 rfl) ?_
        obtain ⟨g10, h⟩ := z_gd h
        refine z_iald (pc := 108) X hw (zk_el18 zk_63 g9) (zl_el18 zk_63 g9) g10 dX11_goesOn_108 ?_
        exact w_X11_goesOn_109 X hlev hS hK58 ih i1 i2 i3 i4 51 i4 (M.1 (z_ra 63 (Int32.toNatClampNeg i1)) (Int32.toNatClampNeg i4)) M H locs ls zk_51 hw (lv_sub hl [0, 1, 2, 3, 4] rfl) h
      · replace h := z_t c8 h
        refine lv_iconst (pc := 96) (v := 0) hx hb dX11_goesOn_96 (by decide) ?_
        refine lv_goto (pc := 97) (tgt := 109) hx hb dX11_goesOn_97 (by decide) ?_
        exact w_X11_goesOn_109 X hlev hS hK58 ih i1 i2 i3 i4 51 i4 (0 : Int32) M H locs ls zk_51 hw (lv_sub hl [0, 1, 2, 3, 4] rfl) h
set_option maxHeartbeats 4000000 in
set_option maxRecDepth 100000 in
theorem w_X11_goesOn_58 {G : zG} {p : Program} {l : Launch} {e : Env} {s : State} {m : MethodId} {args : Array Value} {below : List Frame} {meth : Method} {c : Code} (X : z_C G p s m args meth c cX11_goesOn 5 RX11 none) {lev : Nat} (hlev : 3 ≤ lev) {S : Int32 → Int32 → zM → Option (zM)} (hS : ∀ (ai1 : Int32) (ai2 : Int32) (M : zM) (q : zM), S ai1 ai2 M = some q → z_T l G lev yX11_goesOn (.code yX11_goesOn cX11_goesOn 5 none) [.ref (G.1 40), .int ai1, .int ai2] M none q) {r : zM} : ∀ (n : Nat) (i1 : Int32) (i2 : Int32) (i3 : Int32) (M : zM) (H : Heap) (locs : List Loc) (ls : Array Slot), z_W G M H locs → lv_has ls 5 [(0, .ref (G.1 40)), (1, .int i1), (2, .int i2), (3, .int i3)] → f_X11_goesOn_58 S n i1 i2 i3 M = some r → W p l e (z_rm (lev + 1)) s m args below meth c H locs 0 0 (z_Q G below args s none r) (F0 m 58 ls []) := by
  have hx := X.1
  have hb := X.2.1
  intro n
  induction n with
  | zero =>
    intro i1 i2 i3 M H locs ls  hw hl h
    exact z_no h
  | succ n ih =>
    intro i1 i2 i3 M H locs ls  hw hl h
    rw [f_X11_goesOn_58] at h
    refine lv_iload_n (pc := 58) hx hb dX11_goesOn_58 rfl (lv_at hl 3 rfl) ?_
    refine lv_iconst (pc := 59) (v := 1) hx hb dX11_goesOn_59 (by decide) ?_
    refine lv_aload_n (pc := 60) hx hb dX11_goesOn_60 rfl (lv_at hl 0 rfl) ?_
    refine zg_DrinkingRoofsModel_many (pc := 61) X hw zw_fl_5_101 dX11_goesOn_61 ?_
    refine lv_ishl (pc := 64) hx hb dX11_goesOn_64 ?_
    refine lv_icmp_ge (pc := 65) (tgt := 275) hx hb dX11_goesOn_65 (by decide) (fun c1 => ?_) (fun c1 => ?_)
    · replace h := z_t c1 h
      obtain rfl := Option.some.inj h
      exact z_rv (pc := 275) X hw dX11_goesOn_275
    · replace h := z_f c1 h
      refine lv_iconst (pc := 68) (v := 0) hx hb dX11_goesOn_68 (by decide) ?_
      refine lv_istore (pc := 69) (lv' := [(4, .int (0 : Int32)), (0, .ref (G.1 40)), (1, .int i1), (2, .int i2), (3, .int i3)]) hx hb dX11_goesOn_69 hl (by decide) rfl (fun ls hl => ?_)
      exact w_X11_goesOn_71 X hlev hS ih z_F i1 i2 i3 (0 : Int32) M H locs ls  hw (lv_sub hl [1, 2, 3, 4, 0] rfl) h
set_option maxHeartbeats 4000000 in
set_option maxRecDepth 100000 in
theorem w_X11_goesOn_32 {G : zG} {p : Program} {l : Launch} {e : Env} {s : State} {m : MethodId} {args : Array Value} {below : List Frame} {meth : Method} {c : Code} (X : z_C G p s m args meth c cX11_goesOn 5 RX11 none) {lev : Nat} (hlev : 3 ≤ lev) {S : Int32 → Int32 → zM → Option (zM)} (hS : ∀ (ai1 : Int32) (ai2 : Int32) (M : zM) (q : zM), S ai1 ai2 M = some q → z_T l G lev yX11_goesOn (.code yX11_goesOn cX11_goesOn 5 none) [.ref (G.1 40), .int ai1, .int ai2] M none q) {r : zM} : ∀ (n : Nat) (i1 : Int32) (i3 : Int32) (M : zM) (H : Heap) (locs : List Loc) (ls : Array Slot), z_W G M H locs → lv_has ls 5 [(0, .ref (G.1 40)), (1, .int i1), (3, .int i3)] → f_X11_goesOn_32 S n i1 i3 M = some r → W p l e (z_rm (lev + 1)) s m args below meth c H locs 0 0 (z_Q G below args s none r) (F0 m 32 ls []) := by
  have hx := X.1
  have hb := X.2.1
  intro n
  induction n with
  | zero =>
    intro i1 i3 M H locs ls  hw hl h
    exact z_no h
  | succ n ih =>
    intro i1 i3 M H locs ls  hw hl h
    rw [f_X11_goesOn_32] at h
    refine lv_iload_n (pc := 32) hx hb dX11_goesOn_32 rfl (lv_at hl 2 rfl) ?_
    refine lv_iload_n (pc := 33) hx hb dX11_goesOn_33 rfl (lv_at hl 1 rfl) ?_
    refine lv_icmp_ge (pc := 34) (tgt := 55) hx hb dX11_goesOn_34 (by decide) (fun c1 => ?_) (fun c1 => ?_)
    · replace h := z_t c1 h
      obtain rfl := Option.some.inj h
      exact z_rv (pc := 55) X hw dX11_goesOn_55
    · replace h := z_f c1 h
      refine lv_aload_n (pc := 37) hx hb dX11_goesOn_37 rfl (lv_at hl 0 rfl) ?_
      refine zg_DrinkingRoofsModel_bestSet (pc := 38) X hw zw_fl_5_108 dX11_goesOn_38 ?_
      refine lv_iload_n (pc := 41) hx hb dX11_goesOn_41 rfl (lv_at hl 2 rfl) ?_
      refine lv_aload_n (pc := 42) hx hb dX11_goesOn_42 rfl (lv_at hl 0 rfl) ?_
      refine zg_DrinkingRoofsModel_triedSet (pc := 43) X hw zw_fl_5_107 dX11_goesOn_43 ?_
      refine lv_iload_n (pc := 46) hx hb dX11_goesOn_46 rfl (lv_at hl 2 rfl) ?_
      obtain ⟨g2, h⟩ := z_gd h
      refine z_iald (pc := 47) X hw zk_60 zl_60 g2 dX11_goesOn_47 ?_
      obtain ⟨g3, h⟩ := z_gd h
      refine z_iast (pc := 48) X hw zk_61 zl_61 g3 dX11_goesOn_48 (fun HM4 lM4 wM4 => ?_)
      obtain ⟨M4, eM4, h⟩ := z_lo h
      rw [← eM4] at wM4
      obtain ⟨v5, ev5, h⟩ := z_lo h
      refine lv_iinc (pc := 49) (v := v5) (lv' := [(3, .int v5), (0, .ref (G.1 40)), (1, .int i1)]) hx hb dX11_goesOn_49 hl (k := 2) rfl (by rw [ev5]; rfl) (by decide) rfl (fun ls hl => ?_)
      refine lv_goto (pc := 52) (tgt := 32) hx hb dX11_goesOn_52 (by decide) ?_
      exact ih i1 v5 M4 HM4 lM4 ls  wM4 (lv_sub hl [1, 2, 0] rfl) h
set_option maxHeartbeats 4000000 in
set_option maxRecDepth 100000 in
theorem m_X11_goesOn_b {l : Launch} {G : zG} {lev : Nat} (hlev : 3 ≤ lev) {S : Int32 → Int32 → zM → Option (zM)} (hS : ∀ (ai1 : Int32) (ai2 : Int32) (M : zM) (q : zM), S ai1 ai2 M = some q → z_T l G lev yX11_goesOn (.code yX11_goesOn cX11_goesOn 5 none) [.ref (G.1 40), .int ai1, .int ai2] M none q) {i1 : Int32} {i2 : Int32} {M : zM} {r : zM} (h : f_X11_goesOn_b S i1 i2 M = some r) : z_T l G (lev + 1) yX11_goesOn (.code yX11_goesOn cX11_goesOn 5 none) [.ref (G.1 40), .int i1, .int i2] M none r := by
  refine z_of rfl ?_
  intro p e s m below meth c X hw
  have hl := lv_entry [.ref (G.1 40), .int i1, .int i2] (n := 5) (Nat.le_of_ble_eq_true rfl)
  rw [lg_entry_eq]
  generalize (lg_sl [.ref (G.1 40), .int i1, .int i2] ++ List.replicate (5 - (lg_sl [.ref (G.1 40), .int i1, .int i2]).length) Slot.unset).toArray = ls at hl ⊢
  have hl : lv_has ls 5 [(0, .ref (G.1 40)), (1, .int i1), (2, .int i2)] := hl
  generalize ([.ref (G.1 40), .int i1, .int i2] : List Value).toArray = args at X ⊢
  have X : z_C G p s m args meth c cX11_goesOn 5 RX11 none := X
  have hx := X.1
  have hb := X.2.1
  unfold f_X11_goesOn_b at h
  refine lv_aload_n (pc := 0) hx hb dX11_goesOn_0 rfl (lv_at hl 0 rfl) ?_
  refine zg_DrinkingRoofsModel_leastCleaned (pc := 1) X hw zw_fl_5_113 dX11_goesOn_1 ?_
  refine lv_iconst (pc := 4) (v := -1) hx hb dX11_goesOn_4 (by decide) ?_
  refine lv_icmp_eq (pc := 5) (tgt := 17) hx hb dX11_goesOn_5 (by decide) (fun c1 => ?_) (fun c1 => ?_)
  · replace h := z_t c1 h
    refine lv_iload_n (pc := 17) hx hb dX11_goesOn_17 rfl (lv_at hl 1 rfl) ?_
    refine lv_aload_n (pc := 18) hx hb dX11_goesOn_18 rfl (lv_at hl 0 rfl) ?_
    refine zg_DrinkingRoofsModel_rowMany (pc := 19) X hw zw_fl_5_112 dX11_goesOn_19 ?_
    refine lv_icmp_ne (pc := 22) (tgt := 56) hx hb dX11_goesOn_22 (by decide) (fun c2 => ?_) (fun c2 => ?_)
    · replace h := z_f c2 h
      refine lv_iconst (pc := 56) (v := 0) hx hb dX11_goesOn_56 (by decide) ?_
      refine lv_istore_n (pc := 57) (lv' := [(3, .int (0 : Int32)), (0, .ref (G.1 40)), (1, .int i1), (2, .int i2)]) hx hb dX11_goesOn_57 rfl hl (by decide) rfl (fun ls hl => ?_)
      exact w_X11_goesOn_58 X hlev hS z_F i1 i2 (0 : Int32) M s.heap [] ls  hw (lv_sub hl [1, 2, 3, 0] rfl) h
    · replace h := z_t c2 h
      refine lv_aload_n (pc := 25) hx hb dX11_goesOn_25 rfl (lv_at hl 0 rfl) ?_
      refine lv_iload_n (pc := 26) hx hb dX11_goesOn_26 rfl (lv_at hl 2 rfl) ?_
      refine zp_DrinkingRoofsModel_leastCleaned (pc := 27) X hw zw_fl_5_113 dX11_goesOn_27 (fun HM3 lM3 wM3 => ?_)
      obtain ⟨M3, eM3, h⟩ := z_lo h
      rw [← eM3] at wM3
      refine lv_iconst (pc := 30) (v := 0) hx hb dX11_goesOn_30 (by decide) ?_
      refine lv_istore_n (pc := 31) (lv' := [(3, .int (0 : Int32)), (0, .ref (G.1 40)), (1, .int i1), (2, .int i2)]) hx hb dX11_goesOn_31 rfl hl (by decide) rfl (fun ls hl => ?_)
      exact w_X11_goesOn_32 X hlev hS z_F i1 (0 : Int32) M3 HM3 lM3 ls  wM3 (lv_sub hl [1, 2, 0] rfl) h
  · replace h := z_f c1 h
    refine lv_iload_n (pc := 8) hx hb dX11_goesOn_8 rfl (lv_at hl 2 rfl) ?_
    refine lv_aload_n (pc := 9) hx hb dX11_goesOn_9 rfl (lv_at hl 0 rfl) ?_
    refine zg_DrinkingRoofsModel_leastCleaned (pc := 10) X hw zw_fl_5_113 dX11_goesOn_10 ?_
    refine lv_icmp_lt (pc := 13) (tgt := 17) hx hb dX11_goesOn_13 (by decide) (fun c4 => ?_) (fun c4 => ?_)
    · replace h := z_t c4 h
      refine lv_iload_n (pc := 17) hx hb dX11_goesOn_17 rfl (lv_at hl 1 rfl) ?_
      refine lv_aload_n (pc := 18) hx hb dX11_goesOn_18 rfl (lv_at hl 0 rfl) ?_
      refine zg_DrinkingRoofsModel_rowMany (pc := 19) X hw zw_fl_5_112 dX11_goesOn_19 ?_
      refine lv_icmp_ne (pc := 22) (tgt := 56) hx hb dX11_goesOn_22 (by decide) (fun c5 => ?_) (fun c5 => ?_)
      · replace h := z_f c5 h
        refine lv_iconst (pc := 56) (v := 0) hx hb dX11_goesOn_56 (by decide) ?_
        refine lv_istore_n (pc := 57) (lv' := [(3, .int (0 : Int32)), (0, .ref (G.1 40)), (1, .int i1), (2, .int i2)]) hx hb dX11_goesOn_57 rfl hl (by decide) rfl (fun ls hl => ?_)
        exact w_X11_goesOn_58 X hlev hS z_F i1 i2 (0 : Int32) M s.heap [] ls  hw (lv_sub hl [1, 2, 3, 0] rfl) h
      · replace h := z_t c5 h
        refine lv_aload_n (pc := 25) hx hb dX11_goesOn_25 rfl (lv_at hl 0 rfl) ?_
        refine lv_iload_n (pc := 26) hx hb dX11_goesOn_26 rfl (lv_at hl 2 rfl) ?_
        refine zp_DrinkingRoofsModel_leastCleaned (pc := 27) X hw zw_fl_5_113 dX11_goesOn_27 (fun HM6 lM6 wM6 => ?_)
        obtain ⟨M6, eM6, h⟩ := z_lo h
        rw [← eM6] at wM6
        refine lv_iconst (pc := 30) (v := 0) hx hb dX11_goesOn_30 (by decide) ?_
        refine lv_istore_n (pc := 31) (lv' := [(3, .int (0 : Int32)), (0, .ref (G.1 40)), (1, .int i1), (2, .int i2)]) hx hb dX11_goesOn_31 rfl hl (by decide) rfl (fun ls hl => ?_)
        exact w_X11_goesOn_32 X hlev hS z_F i1 (0 : Int32) M6 HM6 lM6 ls  wM6 (lv_sub hl [1, 2, 0] rfl) h
    · replace h := z_f c4 h
      obtain rfl := Option.some.inj h
      exact z_rv (pc := 16) X hw dX11_goesOn_16
set_option maxHeartbeats 4000000 in
set_option maxRecDepth 100000 in
theorem m_X11_goesOn {l : Launch} {G : zG} : ∀ (d : Nat) (i1 : Int32) (i2 : Int32) (M : zM) (r : zM), f_X11_goesOn d i1 i2 M = some r → z_T l G (3 + 1 * d) yX11_goesOn (.code yX11_goesOn cX11_goesOn 5 none) [.ref (G.1 40), .int i1, .int i2] M none r := by
  intro d
  induction d with
  | zero =>
    intro i1 i2 M r  h
    exact z_no h
  | succ d ih =>
    intro i1 i2 M r  h
    exact m_X11_goesOn_b (lev := 3 + 1 * d) (Nat.le_add_right _ _) ih  h
def f_X11_cleanings_134 : Nat → Int32 → Int32 → zM → Option (Int32 × zM)
  | 0, _, _, _ => none
  | n + 1, i5, i6, M =>
    if (M.1 40 30) ≤ i6 then (
      z_l (z_w M 40 42 (-1 : Int32)) fun M2 =>
      (f_X11_goesOn 6 (0 : Int32) (0 : Int32) M2).bind fun x3 =>
      if (x3.1 40 42) = (-1 : Int32) then (
        some ((x3.1 40 42), x3)
      ) else (
        if i5 = 0 then (
          some ((x3.1 40 42), x3)
        ) else (
          z_g (z_ix (i5 - (10 : Int32)) 4) <|
          some ((x3.1 61 (Int32.toNatClampNeg (i5 - (10 : Int32)))), x3)
        )
      )
    ) else (
      z_g (z_ix i6 11) <|
      z_g (z_ix i6 4) <|
      z_l (z_w M (z_ra 63 (Int32.toNatClampNeg (0 : Int32))) (Int32.toNatClampNeg i6) (M.1 51 (Int32.toNatClampNeg i6))) fun M9 =>
      z_g (z_ix i6 11) <|
      z_g (z_ix i6 4) <|
      z_l (z_w M9 (z_ra 64 (Int32.toNatClampNeg (0 : Int32))) (Int32.toNatClampNeg i6) (M9.1 54 (Int32.toNatClampNeg i6))) fun M12 =>
      z_g (z_ix i6 11) <|
      z_g (z_ix i6 4) <|
      z_l (z_w M12 (z_ra 65 (Int32.toNatClampNeg (0 : Int32))) (Int32.toNatClampNeg i6) (M12.1 55 (Int32.toNatClampNeg i6))) fun M15 =>
      z_l (i6 + (1 : Int32)) fun v16 =>
      f_X11_cleanings_134 n i5 v16 M15
    )
def f_X11_cleanings_86 (i5 : Int32) (M : zM) : Option (Int32 × zM) :=
    if (M.1 40 41) = 0 then (
      some ((-1 : Int32), M)
    ) else (
      if (4 : Int32) < (M.1 41 (Int32.toNatClampNeg (0 : Int32))) then (
        some ((-1 : Int32), M)
      ) else (
        if i5 = 0 then (
          (f_X11_laysHouses  M).bind fun x4 =>
          f_X11_cleanings_134 z_F i5 (0 : Int32) x4
        ) else (
          (f_X11_isIn i5 (10 : Int32) ((9 : Int32) + (M.1 40 41)) M).bind fun x5 =>
          if x5.1 = 0 then (
            some ((-1 : Int32), x5.2)
          ) else (
            (f_X11_laysHouses  x5.2).bind fun x7 =>
            f_X11_cleanings_134 z_F i5 (0 : Int32) x7
          )
        )
      )
    )
def f_X11_cleanings_34 : Nat → Int32 → zM → Option (Int32 × zM)
  | 0, _, _ => none
  | n + 1, i5, M =>
    if (4 : Int32) ≤ (M.1 40 41) then (
      f_X11_cleanings_86 i5 M
    ) else (
      z_g (z_ix (M.1 40 41) 4) <|
      if (M.1 59 (Int32.toNatClampNeg (M.1 40 41))) = (-1 : Int32) then (
        f_X11_cleanings_86 i5 M
      ) else (
        z_g (z_ix (M.1 40 41) 4) <|
        (f_X11_isStorm (M.1 59 (Int32.toNatClampNeg (M.1 40 41))) M).bind fun x5 =>
        if x5.1 = 0 then (
          some ((-1 : Int32), x5.2)
        ) else (
          z_l (z_w x5.2 40 41 ((x5.2.1 40 41) + (1 : Int32))) fun M7 =>
          f_X11_cleanings_34 n i5 M7
        )
      )
    )
def f_X11_cleanings (i1 : Int32) (i2 : Int32) (i3 : Int32) (i4 : Int32) (i5 : Int32) (M : zM) : Option (Int32 × zM) :=
  z_l (z_w M 59 (Int32.toNatClampNeg (0 : Int32)) i1) fun M1 =>
  z_l (z_w M1 59 (Int32.toNatClampNeg (1 : Int32)) i2) fun M2 =>
  z_l (z_w M2 59 (Int32.toNatClampNeg (2 : Int32)) i3) fun M3 =>
  z_l (z_w M3 59 (Int32.toNatClampNeg (3 : Int32)) i4) fun M4 =>
  z_l (z_w M4 40 41 (0 : Int32)) fun M5 =>
  f_X11_cleanings_34 z_F i5 M5
set_option maxHeartbeats 4000000 in
set_option maxRecDepth 100000 in
theorem w_X11_cleanings_134 {G : zG} {p : Program} {l : Launch} {e : Env} {s : State} {m : MethodId} {args : Array Value} {below : List Frame} {meth : Method} {c : Code} (X : z_C G p s m args meth c cX11_cleanings 7 RX11 (some .int)) {r : Int32 × zM} : ∀ (n : Nat) (i5 : Int32) (i6 : Int32) (M : zM) (H : Heap) (locs : List Loc) (ls : Array Slot), z_W G M H locs → lv_has ls 7 [(0, .ref (G.1 40)), (5, .int i5), (6, .int i6)] → f_X11_cleanings_134 n i5 i6 M = some r → W p l e (z_rm 10) s m args below meth c H locs 0 0 (z_Q G below args s (some (.int r.1)) r.2) (F0 m 134 ls []) := by
  have hx := X.1
  have hb := X.2.1
  intro n
  induction n with
  | zero =>
    intro i5 i6 M H locs ls  hw hl h
    exact z_no h
  | succ n ih =>
    intro i5 i6 M H locs ls  hw hl h
    rw [f_X11_cleanings_134] at h
    refine lv_iload (pc := 134) hx hb dX11_cleanings_134 (lv_at hl 2 rfl) ?_
    refine lv_aload_n (pc := 136) hx hb dX11_cleanings_136 rfl (lv_at hl 0 rfl) ?_
    refine zg_DrinkingRoofsModel_many (pc := 137) X hw zw_fl_5_101 dX11_cleanings_137 ?_
    refine lv_icmp_ge (pc := 140) (tgt := 197) hx hb dX11_cleanings_140 (by decide) (fun c1 => ?_) (fun c1 => ?_)
    · replace h := z_t c1 h
      refine lv_aload_n (pc := 197) hx hb dX11_cleanings_197 rfl (lv_at hl 0 rfl) ?_
      refine lv_iconst (pc := 198) (v := -1) hx hb dX11_cleanings_198 (by decide) ?_
      refine zp_DrinkingRoofsModel_leastCleaned (pc := 199) X hw zw_fl_5_113 dX11_cleanings_199 (fun HM2 lM2 wM2 => ?_)
      obtain ⟨M2, eM2, h⟩ := z_lo h
      rw [← eM2] at wM2
      refine lv_aload_n (pc := 202) hx hb dX11_cleanings_202 rfl (lv_at hl 0 rfl) ?_
      refine lv_iconst (pc := 203) (v := 0) hx hb dX11_cleanings_203 (by decide) ?_
      refine lv_iconst (pc := 204) (v := 0) hx hb dX11_cleanings_204 (by decide) ?_
      obtain ⟨x3, ex3, h⟩ := z_bd h
      refine z_cvV (pc := 205) (rest := []) X wM2 (m_X11_goesOn 6 _ _ _ _  ex3) (z_lt zk_40 (by decide)) (z_E11 zk_40) rfl zw_ml_6_182 zw_im_6_184 zw_se_S_65 zw_in_1_12 zw_co_6_185 zd_X11_goesOn (by decide) rfl hl.1 rfl (Nat.le_of_ble_eq_true rfl) dX11_cleanings_205 ⟨Nat.zero_le _, Nat.zero_le _⟩ (fun Hx3 lx3 wx3 => ?_)
      refine lv_aload_n (pc := 208) hx hb dX11_cleanings_208 rfl (lv_at hl 0 rfl) ?_
      refine zg_DrinkingRoofsModel_leastCleaned (pc := 209) X wx3 zw_fl_5_113 dX11_cleanings_209 ?_
      refine lv_iconst (pc := 212) (v := -1) hx hb dX11_cleanings_212 (by decide) ?_
      refine lv_icmp_eq (pc := 213) (tgt := 221) hx hb dX11_cleanings_213 (by decide) (fun c4 => ?_) (fun c4 => ?_)
      · replace h := z_t c4 h
        refine lv_aload_n (pc := 221) hx hb dX11_cleanings_221 rfl (lv_at hl 0 rfl) ?_
        refine zg_DrinkingRoofsModel_leastCleaned (pc := 222) X wx3 zw_fl_5_113 dX11_cleanings_222 ?_
        refine lv_goto (pc := 225) (tgt := 238) hx hb dX11_cleanings_225 (by decide) ?_
        obtain rfl := Option.some.inj h
        exact z_ri (pc := 238) X wx3 dX11_cleanings_238
      · replace h := z_f c4 h
        refine lv_iload (pc := 216) hx hb dX11_cleanings_216 (lv_at hl 1 rfl) ?_
        refine lv_if_ne (pc := 218) (tgt := 228) hx hb dX11_cleanings_218 (by decide) (fun c5 => ?_) (fun c5 => ?_)
        · replace h := z_f c5 h
          refine lv_aload_n (pc := 228) hx hb dX11_cleanings_228 rfl (lv_at hl 0 rfl) ?_
          refine zg_DrinkingRoofsModel_bestSet (pc := 229) X wx3 zw_fl_5_108 dX11_cleanings_229 ?_
          refine lv_iload (pc := 232) hx hb dX11_cleanings_232 (lv_at hl 1 rfl) ?_
          refine lv_bipush (pc := 234) (v := 10) hx hb dX11_cleanings_234 (by decide) ?_
          refine lv_isub (pc := 236) hx hb dX11_cleanings_236 ?_
          obtain ⟨g6, h⟩ := z_gd h
          refine z_iald (pc := 237) X wx3 zk_61 zl_61 g6 dX11_cleanings_237 ?_
          obtain rfl := Option.some.inj h
          exact z_ri (pc := 238) X wx3 dX11_cleanings_238
        · replace h := z_t c5 h
          refine lv_aload_n (pc := 221) hx hb dX11_cleanings_221 rfl (lv_at hl 0 rfl) ?_
          refine zg_DrinkingRoofsModel_leastCleaned (pc := 222) X wx3 zw_fl_5_113 dX11_cleanings_222 ?_
          refine lv_goto (pc := 225) (tgt := 238) hx hb dX11_cleanings_225 (by decide) ?_
          obtain rfl := Option.some.inj h
          exact z_ri (pc := 238) X wx3 dX11_cleanings_238
    · replace h := z_f c1 h
      refine lv_aload_n (pc := 143) hx hb dX11_cleanings_143 rfl (lv_at hl 0 rfl) ?_
      refine zg_DrinkingRoofsModel_clogAt (pc := 144) X hw zw_fl_5_109 dX11_cleanings_144 ?_
      refine lv_iconst (pc := 147) (v := 0) hx hb dX11_cleanings_147 (by decide) ?_
      refine z_aald18 (pc := 148) X hw zk_63 zl_63 (z_il (by decide)) dX11_cleanings_148 ?_
      refine lv_iload (pc := 149) hx hb dX11_cleanings_149 (lv_at hl 2 rfl) ?_
      refine lv_aload_n (pc := 151) hx hb dX11_cleanings_151 rfl (lv_at hl 0 rfl) ?_
      refine zg_DrinkingRoofsModel_clog (pc := 152) X hw zw_fl_5_94 dX11_cleanings_152 ?_
      refine lv_iload (pc := 155) hx hb dX11_cleanings_155 (lv_at hl 2 rfl) ?_
      obtain ⟨g7, h⟩ := z_gd h
      refine z_iald (pc := 157) X hw zk_51 zl_51 g7 dX11_cleanings_157 ?_
      obtain ⟨g8, h⟩ := z_gd h
      refine z_iast (pc := 158) X hw (zk_el18 zk_63 (z_il (by decide))) (zl_el18 zk_63 (z_il (by decide))) g8 dX11_cleanings_158 (fun HM9 lM9 wM9 => ?_)
      obtain ⟨M9, eM9, h⟩ := z_lo h
      rw [← eM9] at wM9
      refine lv_aload_n (pc := 159) hx hb dX11_cleanings_159 rfl (lv_at hl 0 rfl) ?_
      refine zg_DrinkingRoofsModel_heldAt (pc := 160) X wM9 zw_fl_5_110 dX11_cleanings_160 ?_
      refine lv_iconst (pc := 163) (v := 0) hx hb dX11_cleanings_163 (by decide) ?_
      refine z_aald18 (pc := 164) X wM9 zk_64 zl_64 (z_il (by decide)) dX11_cleanings_164 ?_
      refine lv_iload (pc := 165) hx hb dX11_cleanings_165 (lv_at hl 2 rfl) ?_
      refine lv_aload_n (pc := 167) hx hb dX11_cleanings_167 rfl (lv_at hl 0 rfl) ?_
      refine zg_DrinkingRoofsModel_held (pc := 168) X wM9 zw_fl_5_97 dX11_cleanings_168 ?_
      refine lv_iload (pc := 171) hx hb dX11_cleanings_171 (lv_at hl 2 rfl) ?_
      obtain ⟨g10, h⟩ := z_gd h
      refine z_iald (pc := 173) X wM9 zk_54 zl_54 g10 dX11_cleanings_173 ?_
      obtain ⟨g11, h⟩ := z_gd h
      refine z_iast (pc := 174) X wM9 (zk_el18 zk_64 (z_il (by decide))) (zl_el18 zk_64 (z_il (by decide))) g11 dX11_cleanings_174 (fun HM12 lM12 wM12 => ?_)
      obtain ⟨M12, eM12, h⟩ := z_lo h
      rw [← eM12] at wM12
      refine lv_aload_n (pc := 175) hx hb dX11_cleanings_175 rfl (lv_at hl 0 rfl) ?_
      refine zg_DrinkingRoofsModel_snowAt (pc := 176) X wM12 zw_fl_5_111 dX11_cleanings_176 ?_
      refine lv_iconst (pc := 179) (v := 0) hx hb dX11_cleanings_179 (by decide) ?_
      refine z_aald18 (pc := 180) X wM12 zk_65 zl_65 (z_il (by decide)) dX11_cleanings_180 ?_
      refine lv_iload (pc := 181) hx hb dX11_cleanings_181 (lv_at hl 2 rfl) ?_
      refine lv_aload_n (pc := 183) hx hb dX11_cleanings_183 rfl (lv_at hl 0 rfl) ?_
      refine zg_DrinkingRoofsModel_snow (pc := 184) X wM12 zw_fl_5_98 dX11_cleanings_184 ?_
      refine lv_iload (pc := 187) hx hb dX11_cleanings_187 (lv_at hl 2 rfl) ?_
      obtain ⟨g13, h⟩ := z_gd h
      refine z_iald (pc := 189) X wM12 zk_55 zl_55 g13 dX11_cleanings_189 ?_
      obtain ⟨g14, h⟩ := z_gd h
      refine z_iast (pc := 190) X wM12 (zk_el18 zk_65 (z_il (by decide))) (zl_el18 zk_65 (z_il (by decide))) g14 dX11_cleanings_190 (fun HM15 lM15 wM15 => ?_)
      obtain ⟨M15, eM15, h⟩ := z_lo h
      rw [← eM15] at wM15
      obtain ⟨v16, ev16, h⟩ := z_lo h
      refine lv_iinc (pc := 191) (v := v16) (lv' := [(6, .int v16), (0, .ref (G.1 40)), (5, .int i5)]) hx hb dX11_cleanings_191 hl (k := 2) rfl (by rw [ev16]; rfl) (by decide) rfl (fun ls hl => ?_)
      refine lv_goto (pc := 194) (tgt := 134) hx hb dX11_cleanings_194 (by decide) ?_
      exact ih i5 v16 M15 HM15 lM15 ls  wM15 (lv_sub hl [1, 2, 0] rfl) h
set_option maxHeartbeats 4000000 in
set_option maxRecDepth 100000 in
theorem w_X11_cleanings_86 {G : zG} {p : Program} {l : Launch} {e : Env} {s : State} {m : MethodId} {args : Array Value} {below : List Frame} {meth : Method} {c : Code} (X : z_C G p s m args meth c cX11_cleanings 7 RX11 (some .int)) {r : Int32 × zM} : ∀ (i5 : Int32) (M : zM) (H : Heap) (locs : List Loc) (ls : Array Slot), z_W G M H locs → lv_has ls 7 [(0, .ref (G.1 40)), (5, .int i5)] → f_X11_cleanings_86 i5 M = some r → W p l e (z_rm 10) s m args below meth c H locs 0 0 (z_Q G below args s (some (.int r.1)) r.2) (F0 m 86 ls []) := by
  have hx := X.1
  have hb := X.2.1
  intro i5 M H locs ls  hw hl h
  unfold f_X11_cleanings_86 at h
  refine lv_aload_n (pc := 86) hx hb dX11_cleanings_86 rfl (lv_at hl 0 rfl) ?_
  refine zg_DrinkingRoofsModel_rowMany (pc := 87) X hw zw_fl_5_112 dX11_cleanings_87 ?_
  refine lv_if_eq (pc := 90) (tgt := 125) hx hb dX11_cleanings_90 (by decide) (fun c1 => ?_) (fun c1 => ?_)
  · replace h := z_t c1 h
    refine lv_iconst (pc := 125) (v := -1) hx hb dX11_cleanings_125 (by decide) ?_
    obtain rfl := Option.some.inj h
    exact z_ri (pc := 126) X hw dX11_cleanings_126
  · replace h := z_f c1 h
    refine lv_aload_n (pc := 93) hx hb dX11_cleanings_93 rfl (lv_at hl 0 rfl) ?_
    refine zg_DrinkingRoofsModel_w (pc := 94) X hw zw_fl_5_71 dX11_cleanings_94 ?_
    refine lv_iconst (pc := 97) (v := 0) hx hb dX11_cleanings_97 (by decide) ?_
    refine z_iald (pc := 98) X hw zk_41 zl_41 (z_il (by decide)) dX11_cleanings_98 ?_
    refine lv_iconst (pc := 99) (v := 4) hx hb dX11_cleanings_99 (by decide) ?_
    refine lv_icmp_gt (pc := 100) (tgt := 125) hx hb dX11_cleanings_100 (by decide) (fun c2 => ?_) (fun c2 => ?_)
    · replace h := z_t c2 h
      refine lv_iconst (pc := 125) (v := -1) hx hb dX11_cleanings_125 (by decide) ?_
      obtain rfl := Option.some.inj h
      exact z_ri (pc := 126) X hw dX11_cleanings_126
    · replace h := z_f c2 h
      refine lv_iload (pc := 103) hx hb dX11_cleanings_103 (lv_at hl 1 rfl) ?_
      refine lv_if_eq (pc := 105) (tgt := 127) hx hb dX11_cleanings_105 (by decide) (fun c3 => ?_) (fun c3 => ?_)
      · replace h := z_t c3 h
        refine lv_aload_n (pc := 127) hx hb dX11_cleanings_127 rfl (lv_at hl 0 rfl) ?_
        obtain ⟨x4, ex4, h⟩ := z_bd h
        refine z_cvV (pc := 128) (rest := []) X hw (m_X11_laysHouses  ex4) (z_lt zk_40 (by decide)) (z_E11 zk_40) rfl zw_ml_6_109 zw_im_6_111 zw_se_S_55 zw_in_1_12 zw_co_6_112 zd_X11_laysHouses (by decide) rfl hl.1 rfl (Nat.le_of_ble_eq_true rfl) dX11_cleanings_128 ⟨Nat.zero_le _, Nat.zero_le _⟩ (fun Hx4 lx4 wx4 => ?_)
        refine lv_iconst (pc := 131) (v := 0) hx hb dX11_cleanings_131 (by decide) ?_
        refine lv_istore (pc := 132) (lv' := [(6, .int (0 : Int32)), (0, .ref (G.1 40)), (5, .int i5)]) hx hb dX11_cleanings_132 hl (by decide) rfl (fun ls hl => ?_)
        exact w_X11_cleanings_134 X z_F i5 (0 : Int32) x4 Hx4 lx4 ls  wx4 (lv_sub hl [1, 2, 0] rfl) h
      · replace h := z_f c3 h
        refine lv_iload (pc := 108) hx hb dX11_cleanings_108 (lv_at hl 1 rfl) ?_
        refine lv_bipush (pc := 110) (v := 10) hx hb dX11_cleanings_110 (by decide) ?_
        refine lv_bipush (pc := 112) (v := 9) hx hb dX11_cleanings_112 (by decide) ?_
        refine lv_aload_n (pc := 114) hx hb dX11_cleanings_114 rfl (lv_at hl 0 rfl) ?_
        refine zg_DrinkingRoofsModel_rowMany (pc := 115) X hw zw_fl_5_112 dX11_cleanings_115 ?_
        refine lv_iadd (pc := 118) hx hb dX11_cleanings_118 ?_
        obtain ⟨x5, ex5, h⟩ := z_bd h
        refine z_csI (pc := 119) (rest := []) X hw (m_X11_isIn  ex5) zw_ml_5_209 zw_st_5_210 zw_in_1_12 zw_co_5_211 zd_X11_isIn (by decide) rfl hl.1 rfl (Nat.le_of_ble_eq_true rfl) dX11_cleanings_119 ⟨Nat.zero_le _, Nat.zero_le _⟩ (fun Hx5 lx5 wx5 => ?_)
        refine lv_if_ne (pc := 122) (tgt := 127) hx hb dX11_cleanings_122 (by decide) (fun c6 => ?_) (fun c6 => ?_)
        · replace h := z_f c6 h
          refine lv_aload_n (pc := 127) hx hb dX11_cleanings_127 rfl (lv_at hl 0 rfl) ?_
          obtain ⟨x7, ex7, h⟩ := z_bd h
          refine z_cvV (pc := 128) (rest := []) X wx5 (m_X11_laysHouses  ex7) (z_lt zk_40 (by decide)) (z_E11 zk_40) rfl zw_ml_6_109 zw_im_6_111 zw_se_S_55 zw_in_1_12 zw_co_6_112 zd_X11_laysHouses (by decide) rfl hl.1 rfl (Nat.le_of_ble_eq_true rfl) dX11_cleanings_128 ⟨Nat.zero_le _, Nat.zero_le _⟩ (fun Hx7 lx7 wx7 => ?_)
          refine lv_iconst (pc := 131) (v := 0) hx hb dX11_cleanings_131 (by decide) ?_
          refine lv_istore (pc := 132) (lv' := [(6, .int (0 : Int32)), (0, .ref (G.1 40)), (5, .int i5)]) hx hb dX11_cleanings_132 hl (by decide) rfl (fun ls hl => ?_)
          exact w_X11_cleanings_134 X z_F i5 (0 : Int32) x7 Hx7 lx7 ls  wx7 (lv_sub hl [1, 2, 0] rfl) h
        · replace h := z_t c6 h
          refine lv_iconst (pc := 125) (v := -1) hx hb dX11_cleanings_125 (by decide) ?_
          obtain rfl := Option.some.inj h
          exact z_ri (pc := 126) X wx5 dX11_cleanings_126
set_option maxHeartbeats 4000000 in
set_option maxRecDepth 100000 in
theorem w_X11_cleanings_34 {G : zG} {p : Program} {l : Launch} {e : Env} {s : State} {m : MethodId} {args : Array Value} {below : List Frame} {meth : Method} {c : Code} (X : z_C G p s m args meth c cX11_cleanings 7 RX11 (some .int)) {r : Int32 × zM} : ∀ (n : Nat) (i5 : Int32) (M : zM) (H : Heap) (locs : List Loc) (ls : Array Slot), z_W G M H locs → lv_has ls 7 [(0, .ref (G.1 40)), (5, .int i5)] → f_X11_cleanings_34 n i5 M = some r → W p l e (z_rm 10) s m args below meth c H locs 0 0 (z_Q G below args s (some (.int r.1)) r.2) (F0 m 34 ls []) := by
  have hx := X.1
  have hb := X.2.1
  intro n
  induction n with
  | zero =>
    intro i5 M H locs ls  hw hl h
    exact z_no h
  | succ n ih =>
    intro i5 M H locs ls  hw hl h
    rw [f_X11_cleanings_34] at h
    refine lv_aload_n (pc := 34) hx hb dX11_cleanings_34 rfl (lv_at hl 0 rfl) ?_
    refine zg_DrinkingRoofsModel_rowMany (pc := 35) X hw zw_fl_5_112 dX11_cleanings_35 ?_
    refine lv_iconst (pc := 38) (v := 4) hx hb dX11_cleanings_38 (by decide) ?_
    refine lv_icmp_ge (pc := 39) (tgt := 86) hx hb dX11_cleanings_39 (by decide) (fun c1 => ?_) (fun c1 => ?_)
    · replace h := z_t c1 h
      exact w_X11_cleanings_86 X i5 M H locs ls  hw (lv_sub hl [0, 1] rfl) h
    · replace h := z_f c1 h
      refine lv_aload_n (pc := 42) hx hb dX11_cleanings_42 rfl (lv_at hl 0 rfl) ?_
      refine zg_DrinkingRoofsModel_rowOf (pc := 43) X hw zw_fl_5_106 dX11_cleanings_43 ?_
      refine lv_aload_n (pc := 46) hx hb dX11_cleanings_46 rfl (lv_at hl 0 rfl) ?_
      refine zg_DrinkingRoofsModel_rowMany (pc := 47) X hw zw_fl_5_112 dX11_cleanings_47 ?_
      obtain ⟨g2, h⟩ := z_gd h
      refine z_iald (pc := 50) X hw zk_59 zl_59 g2 dX11_cleanings_50 ?_
      refine lv_iconst (pc := 51) (v := -1) hx hb dX11_cleanings_51 (by decide) ?_
      refine lv_icmp_eq (pc := 52) (tgt := 86) hx hb dX11_cleanings_52 (by decide) (fun c3 => ?_) (fun c3 => ?_)
      · replace h := z_t c3 h
        exact w_X11_cleanings_86 X i5 M H locs ls  hw (lv_sub hl [0, 1] rfl) h
      · replace h := z_f c3 h
        refine lv_aload_n (pc := 55) hx hb dX11_cleanings_55 rfl (lv_at hl 0 rfl) ?_
        refine lv_aload_n (pc := 56) hx hb dX11_cleanings_56 rfl (lv_at hl 0 rfl) ?_
        refine zg_DrinkingRoofsModel_rowOf (pc := 57) X hw zw_fl_5_106 dX11_cleanings_57 ?_
        refine lv_aload_n (pc := 60) hx hb dX11_cleanings_60 rfl (lv_at hl 0 rfl) ?_
        refine zg_DrinkingRoofsModel_rowMany (pc := 61) X hw zw_fl_5_112 dX11_cleanings_61 ?_
        obtain ⟨g4, h⟩ := z_gd h
        refine z_iald (pc := 64) X hw zk_59 zl_59 g4 dX11_cleanings_64 ?_
        obtain ⟨x5, ex5, h⟩ := z_bd h
        refine z_cvI (pc := 65) (rest := []) X hw (m_X11_isStorm  ex5) (z_lt zk_40 (by decide)) (z_E11 zk_40) rfl zw_ml_5_236 zw_im_5_238 zw_se_S_37 zw_in_1_12 zw_co_5_239 zd_X11_isStorm (by decide) rfl hl.1 rfl (Nat.le_of_ble_eq_true rfl) dX11_cleanings_65 ⟨Nat.zero_le _, Nat.zero_le _⟩ (fun Hx5 lx5 wx5 => ?_)
        refine lv_if_ne (pc := 68) (tgt := 73) hx hb dX11_cleanings_68 (by decide) (fun c6 => ?_) (fun c6 => ?_)
        · replace h := z_f c6 h
          refine lv_aload_n (pc := 73) hx hb dX11_cleanings_73 rfl (lv_at hl 0 rfl) ?_
          refine lv_dup (pc := 74) hx hb dX11_cleanings_74 rfl ?_
          refine zg_DrinkingRoofsModel_rowMany (pc := 75) X wx5 zw_fl_5_112 dX11_cleanings_75 ?_
          refine lv_iconst (pc := 78) (v := 1) hx hb dX11_cleanings_78 (by decide) ?_
          refine lv_iadd (pc := 79) hx hb dX11_cleanings_79 ?_
          refine zp_DrinkingRoofsModel_rowMany (pc := 80) X wx5 zw_fl_5_112 dX11_cleanings_80 (fun HM7 lM7 wM7 => ?_)
          obtain ⟨M7, eM7, h⟩ := z_lo h
          rw [← eM7] at wM7
          refine lv_goto (pc := 83) (tgt := 34) hx hb dX11_cleanings_83 (by decide) ?_
          exact ih i5 M7 HM7 lM7 ls  wM7 (lv_sub hl [0, 1] rfl) h
        · replace h := z_t c6 h
          refine lv_iconst (pc := 71) (v := -1) hx hb dX11_cleanings_71 (by decide) ?_
          obtain rfl := Option.some.inj h
          exact z_ri (pc := 72) X wx5 dX11_cleanings_72
set_option maxHeartbeats 4000000 in
set_option maxRecDepth 100000 in
theorem m_X11_cleanings {l : Launch} {G : zG} {i1 : Int32} {i2 : Int32} {i3 : Int32} {i4 : Int32} {i5 : Int32} {M : zM} {r : Int32 × zM} (h : f_X11_cleanings i1 i2 i3 i4 i5 M = some r) : z_T l G 10 yX11_cleanings (.code yX11_cleanings cX11_cleanings 7 (some .int)) [.ref (G.1 40), .int i1, .int i2, .int i3, .int i4, .int i5] M (some (.int r.1)) r.2 := by
  refine z_of rfl ?_
  intro p e s m below meth c X hw
  have hl := lv_entry [.ref (G.1 40), .int i1, .int i2, .int i3, .int i4, .int i5] (n := 7) (Nat.le_of_ble_eq_true rfl)
  rw [lg_entry_eq]
  generalize (lg_sl [.ref (G.1 40), .int i1, .int i2, .int i3, .int i4, .int i5] ++ List.replicate (7 - (lg_sl [.ref (G.1 40), .int i1, .int i2, .int i3, .int i4, .int i5]).length) Slot.unset).toArray = ls at hl ⊢
  have hl : lv_has ls 7 [(0, .ref (G.1 40)), (1, .int i1), (2, .int i2), (3, .int i3), (4, .int i4), (5, .int i5)] := hl
  generalize ([.ref (G.1 40), .int i1, .int i2, .int i3, .int i4, .int i5] : List Value).toArray = args at X ⊢
  have X : z_C G p s m args meth c cX11_cleanings 7 RX11 (some .int) := X
  have hx := X.1
  have hb := X.2.1
  unfold f_X11_cleanings at h
  refine lv_aload_n (pc := 0) hx hb dX11_cleanings_0 rfl (lv_at hl 0 rfl) ?_
  refine zg_DrinkingRoofsModel_rowOf (pc := 1) X hw zw_fl_5_106 dX11_cleanings_1 ?_
  refine lv_iconst (pc := 4) (v := 0) hx hb dX11_cleanings_4 (by decide) ?_
  refine lv_iload_n (pc := 5) hx hb dX11_cleanings_5 rfl (lv_at hl 1 rfl) ?_
  refine z_iast (pc := 6) X hw zk_59 zl_59 (z_il (by decide)) dX11_cleanings_6 (fun HM1 lM1 wM1 => ?_)
  obtain ⟨M1, eM1, h⟩ := z_lo h
  rw [← eM1] at wM1
  refine lv_aload_n (pc := 7) hx hb dX11_cleanings_7 rfl (lv_at hl 0 rfl) ?_
  refine zg_DrinkingRoofsModel_rowOf (pc := 8) X wM1 zw_fl_5_106 dX11_cleanings_8 ?_
  refine lv_iconst (pc := 11) (v := 1) hx hb dX11_cleanings_11 (by decide) ?_
  refine lv_iload_n (pc := 12) hx hb dX11_cleanings_12 rfl (lv_at hl 2 rfl) ?_
  refine z_iast (pc := 13) X wM1 zk_59 zl_59 (z_il (by decide)) dX11_cleanings_13 (fun HM2 lM2 wM2 => ?_)
  obtain ⟨M2, eM2, h⟩ := z_lo h
  rw [← eM2] at wM2
  refine lv_aload_n (pc := 14) hx hb dX11_cleanings_14 rfl (lv_at hl 0 rfl) ?_
  refine zg_DrinkingRoofsModel_rowOf (pc := 15) X wM2 zw_fl_5_106 dX11_cleanings_15 ?_
  refine lv_iconst (pc := 18) (v := 2) hx hb dX11_cleanings_18 (by decide) ?_
  refine lv_iload_n (pc := 19) hx hb dX11_cleanings_19 rfl (lv_at hl 3 rfl) ?_
  refine z_iast (pc := 20) X wM2 zk_59 zl_59 (z_il (by decide)) dX11_cleanings_20 (fun HM3 lM3 wM3 => ?_)
  obtain ⟨M3, eM3, h⟩ := z_lo h
  rw [← eM3] at wM3
  refine lv_aload_n (pc := 21) hx hb dX11_cleanings_21 rfl (lv_at hl 0 rfl) ?_
  refine zg_DrinkingRoofsModel_rowOf (pc := 22) X wM3 zw_fl_5_106 dX11_cleanings_22 ?_
  refine lv_iconst (pc := 25) (v := 3) hx hb dX11_cleanings_25 (by decide) ?_
  refine lv_iload (pc := 26) hx hb dX11_cleanings_26 (lv_at hl 4 rfl) ?_
  refine z_iast (pc := 28) X wM3 zk_59 zl_59 (z_il (by decide)) dX11_cleanings_28 (fun HM4 lM4 wM4 => ?_)
  obtain ⟨M4, eM4, h⟩ := z_lo h
  rw [← eM4] at wM4
  refine lv_aload_n (pc := 29) hx hb dX11_cleanings_29 rfl (lv_at hl 0 rfl) ?_
  refine lv_iconst (pc := 30) (v := 0) hx hb dX11_cleanings_30 (by decide) ?_
  refine zp_DrinkingRoofsModel_rowMany (pc := 31) X wM4 zw_fl_5_112 dX11_cleanings_31 (fun HM5 lM5 wM5 => ?_)
  obtain ⟨M5, eM5, h⟩ := z_lo h
  rw [← eM5] at wM5
  exact w_X11_cleanings_34 X z_F i5 M5 HM5 lM5 ls  wM5 (lv_sub hl [0, 5] rfl) h
def f_X11_gutters_310 : Nat → Int32 → Int32 → Int32 → zM → Option (Int32 × zM)
  | 0, _, _, _, _ => none
  | n + 1, i3, i4, i5, M =>
    if i3 ≤ i5 then (
      some (i4, M)
    ) else (
      z_g (z_ix i5 10) <|
      (f_X11_own i5 (1 : Int32) M).bind fun x3 =>
      (f_X11_most (0 : Int32) ((M.1 62 (Int32.toNatClampNeg i5)) - x3.1) x3.2).bind fun x4 =>
      (f_X11_own i5 (3 : Int32) x4.2).bind fun x5 =>
      z_l (i4 + (x4.1 * x5.1)) fun v6 =>
      z_l (i5 + (1 : Int32)) fun v7 =>
      f_X11_gutters_310 n i3 v6 v7 x5.2
    )
def f_X11_gutters_228 (K73 : Int32 → Int32 → Int32 → Int32 → zM → Option (Int32 × zM)) (K109 : Int32 → Int32 → Int32 → Int32 → Int32 → zM → Option (Int32 × zM)) (i1 : Int32) (i2 : Int32) (i3 : Int32) (i4 : Int32) (i5 : Int32) (si0 : Int32) (si1 : Int32) (M : zM) : Option (Int32 × zM) :=
    z_l (si0 + si1) fun v1 =>
    z_g (z_ix i5 10) <|
    (f_X11_most (M.1 62 (Int32.toNatClampNeg i5)) v1 M).bind fun x3 =>
    z_g (z_ix i5 10) <|
    z_l (z_w x3.2 62 (Int32.toNatClampNeg i5) x3.1) fun M5 =>
    (f_X11_own i5 (4 : Int32) M5).bind fun x6 =>
    if x6.1 = (-1 : Int32) then (
      z_l (i5 + (1 : Int32)) fun v8 =>
      K109 i1 i2 i3 i4 v8 x6.2
    ) else (
      (f_X11_own i5 (4 : Int32) x6.2).bind fun x9 =>
      z_g (z_ix x9.1 11) <|
      z_g (z_ix x9.1 11) <|
      z_l (z_w x9.2 57 (Int32.toNatClampNeg x9.1) ((x9.2.1 57 (Int32.toNatClampNeg x9.1)) + v1)) fun M12 =>
      z_l (i5 + (1 : Int32)) fun v13 =>
      K109 i1 i2 i3 i4 v13 M12
    )
def f_X11_gutters_197 (K73 : Int32 → Int32 → Int32 → Int32 → zM → Option (Int32 × zM)) (K109 : Int32 → Int32 → Int32 → Int32 → Int32 → zM → Option (Int32 × zM)) (i1 : Int32) (i2 : Int32) (i3 : Int32) (i4 : Int32) (i5 : Int32) (i6 : Int32) (i7 : Int32) (sk0 : Nat) (si1 : Int32) (si2 : Int32) (si3 : Int32) (M : zM) : Option (Int32 × zM) :=
    z_g (z_ix si1 (z_ln sk0)) <|
    z_l (z_w M sk0 (Int32.toNatClampNeg si1) (si2 + (si3 - i7))) fun M2 =>
    z_g (z_ix i5 11) <|
    (f_X11_isSnow i1 i4 M2).bind fun x4 =>
    if x4.1 = 0 then (
      f_X11_gutters_228 K73 K109 i1 i2 i3 i4 i5 ((M2.1 57 (Int32.toNatClampNeg i5)) + i7) i6 x4.2
    ) else (
      f_X11_gutters_228 K73 K109 i1 i2 i3 i4 i5 ((M2.1 57 (Int32.toNatClampNeg i5)) + i7) (0 : Int32) x4.2
    )
def f_X11_gutters_171 (K73 : Int32 → Int32 → Int32 → Int32 → zM → Option (Int32 × zM)) (K109 : Int32 → Int32 → Int32 → Int32 → Int32 → zM → Option (Int32 × zM)) (i1 : Int32) (i2 : Int32) (i3 : Int32) (i4 : Int32) (i5 : Int32) (i6 : Int32) (si0 : Int32) (M : zM) : Option (Int32 × zM) :=
    z_g (z_ix i5 11) <|
    (f_X11_isSnow i1 i4 M).bind fun x2 =>
    if x2.1 = 0 then (
      f_X11_gutters_197 K73 K109 i1 i2 i3 i4 i5 i6 si0 55 i5 (M.1 55 (Int32.toNatClampNeg i5)) (0 : Int32) x2.2
    ) else (
      f_X11_gutters_197 K73 K109 i1 i2 i3 i4 i5 i6 si0 55 i5 (M.1 55 (Int32.toNatClampNeg i5)) i6 x2.2
    )
def f_X11_gutters_109 (K73 : Int32 → Int32 → Int32 → Int32 → zM → Option (Int32 × zM)) : Nat → Int32 → Int32 → Int32 → Int32 → Int32 → zM → Option (Int32 × zM)
  | 0, _, _, _, _, _, _ => none
  | n + 1, i1, i2, i3, i4, i5, M =>
    if i3 ≤ i5 then (
      z_l (i4 + (1 : Int32)) fun v2 =>
      K73 i1 i2 i3 v2 M
    ) else (
      (f_X11_fallOf i1 i4 M).bind fun x3 =>
      (f_X11_own i5 (0 : Int32) x3.2).bind fun x4 =>
      z_l (x3.1 * x4.1) fun v5 =>
      (f_X11_isSnow i1 i4 x4.2).bind fun x6 =>
      if x6.1 = 0 then (
        z_g (z_ix i5 11) <|
        (f_X11_own i5 (0 : Int32) x6.2).bind fun x9 =>
        (f_X11_least (x6.2.1 55 (Int32.toNatClampNeg i5)) ((x6.2.1 41 (Int32.toNatClampNeg (6 : Int32))) * x9.1) x9.2).bind fun x10 =>
        f_X11_gutters_171 K73 (f_X11_gutters_109 K73 n) i1 i2 i3 i4 i5 v5 x10.1 x10.2
      ) else (
        f_X11_gutters_171 K73 (f_X11_gutters_109 K73 n) i1 i2 i3 i4 i5 v5 (0 : Int32) x6.2
      )
    )
def f_X11_gutters_86 (K73 : Int32 → Int32 → Int32 → Int32 → zM → Option (Int32 × zM)) : Nat → Int32 → Int32 → Int32 → Int32 → Int32 → zM → Option (Int32 × zM)
  | 0, _, _, _, _, _, _ => none
  | n + 1, i1, i2, i3, i4, i5, M =>
    if i3 ≤ i5 then (
      f_X11_gutters_109 K73 z_F i1 i2 i3 i4 (0 : Int32) M
    ) else (
      z_g (z_ix i5 11) <|
      z_l (z_w M 57 (Int32.toNatClampNeg i5) (0 : Int32)) fun M3 =>
      z_l (i5 + (1 : Int32)) fun v4 =>
      f_X11_gutters_86 K73 n i1 i2 i3 i4 v4 M3
    )
def f_X11_gutters_73 : Nat → Int32 → Int32 → Int32 → Int32 → zM → Option (Int32 × zM)
  | 0, _, _, _, _, _ => none
  | n + 1, i1, i2, i3, i4, M =>
    (f_X11_hoursOf i1 M).bind fun x1 =>
    if x1.1 ≤ i4 then (
      if i2 ≤ 0 then (
        f_X11_gutters_310 z_F i3 (0 : Int32) (0 : Int32) x1.2
      ) else (
        z_g (z_ix (i2 - (10 : Int32)) 10) <|
        some ((x1.2.1 62 (Int32.toNatClampNeg (i2 - (10 : Int32)))), x1.2)
      )
    ) else (
      f_X11_gutters_86 (f_X11_gutters_73 n) z_F i1 i2 i3 i4 (0 : Int32) x1.2
    )
def f_X11_gutters_42 : Nat → Int32 → Int32 → Int32 → Int32 → zM → Option (Int32 × zM)
  | 0, _, _, _, _, _ => none
  | n + 1, i1, i2, i3, i4, M =>
    if i3 ≤ i4 then (
      f_X11_gutters_73 z_F i1 i2 i3 (0 : Int32) M
    ) else (
      z_g (z_ix i4 10) <|
      z_l (z_w M 62 (Int32.toNatClampNeg i4) (0 : Int32)) fun M3 =>
      z_g (z_ix i4 11) <|
      z_l (z_w M3 55 (Int32.toNatClampNeg i4) (0 : Int32)) fun M5 =>
      z_l (i4 + (1 : Int32)) fun v6 =>
      f_X11_gutters_42 n i1 i2 i3 v6 M5
    )
def f_X11_gutters (i1 : Int32) (i2 : Int32) (M : zM) : Option (Int32 × zM) :=
  (f_X11_isStorm i1 M).bind fun x1 =>
  if x1.1 = 0 then (
    some ((-1 : Int32), x1.2)
  ) else (
    if i2 = 0 then (
      z_l (x1.2.1 41 (Int32.toNatClampNeg (0 : Int32))) fun v4 =>
      f_X11_gutters_42 z_F i1 i2 v4 (0 : Int32) x1.2
    ) else (
      (f_X11_isIn i2 (10 : Int32) ((9 : Int32) + (x1.2.1 41 (Int32.toNatClampNeg (0 : Int32)))) x1.2).bind fun x5 =>
      if x5.1 = 0 then (
        some ((-1 : Int32), x5.2)
      ) else (
        z_l (x5.2.1 41 (Int32.toNatClampNeg (0 : Int32))) fun v7 =>
        f_X11_gutters_42 z_F i1 i2 v7 (0 : Int32) x5.2
      )
    )
  )
set_option maxHeartbeats 4000000 in
set_option maxRecDepth 100000 in
theorem w_X11_gutters_310 {G : zG} {p : Program} {l : Launch} {e : Env} {s : State} {m : MethodId} {args : Array Value} {below : List Frame} {meth : Method} {c : Code} (X : z_C G p s m args meth c cX11_gutters 9 RX11 (some .int)) {r : Int32 × zM} : ∀ (n : Nat) (i3 : Int32) (i4 : Int32) (i5 : Int32) (M : zM) (H : Heap) (locs : List Loc) (ls : Array Slot), z_W G M H locs → lv_has ls 9 [(0, .ref (G.1 40)), (3, .int i3), (4, .int i4), (5, .int i5)] → f_X11_gutters_310 n i3 i4 i5 M = some r → W p l e (z_rm 2) s m args below meth c H locs 0 0 (z_Q G below args s (some (.int r.1)) r.2) (F0 m 310 ls []) := by
  have hx := X.1
  have hb := X.2.1
  intro n
  induction n with
  | zero =>
    intro i3 i4 i5 M H locs ls  hw hl h
    exact z_no h
  | succ n ih =>
    intro i3 i4 i5 M H locs ls  hw hl h
    rw [f_X11_gutters_310] at h
    refine lv_iload (pc := 310) hx hb dX11_gutters_310 (lv_at hl 3 rfl) ?_
    refine lv_iload_n (pc := 312) hx hb dX11_gutters_312 rfl (lv_at hl 1 rfl) ?_
    refine lv_icmp_ge (pc := 313) (tgt := 354) hx hb dX11_gutters_313 (by decide) (fun c1 => ?_) (fun c1 => ?_)
    · replace h := z_t c1 h
      refine lv_iload (pc := 354) hx hb dX11_gutters_354 (lv_at hl 2 rfl) ?_
      obtain rfl := Option.some.inj h
      exact z_ri (pc := 356) X hw dX11_gutters_356
    · replace h := z_f c1 h
      refine lv_iload (pc := 316) hx hb dX11_gutters_316 (lv_at hl 2 rfl) ?_
      refine lv_iconst (pc := 318) (v := 0) hx hb dX11_gutters_318 (by decide) ?_
      refine lv_aload_n (pc := 319) hx hb dX11_gutters_319 rfl (lv_at hl 0 rfl) ?_
      refine zg_DrinkingRoofsModel_must (pc := 320) X hw zw_fl_5_114 dX11_gutters_320 ?_
      refine lv_iload (pc := 323) hx hb dX11_gutters_323 (lv_at hl 3 rfl) ?_
      obtain ⟨g2, h⟩ := z_gd h
      refine z_iald (pc := 325) X hw zk_62 zl_62 g2 dX11_gutters_325 ?_
      refine lv_aload_n (pc := 326) hx hb dX11_gutters_326 rfl (lv_at hl 0 rfl) ?_
      refine lv_iload (pc := 327) hx hb dX11_gutters_327 (lv_at hl 3 rfl) ?_
      refine lv_iconst (pc := 329) (v := 1) hx hb dX11_gutters_329 (by decide) ?_
      obtain ⟨x3, ex3, h⟩ := z_bd h
      refine z_cvI (pc := 330) (rest := [.int (M.1 62 (Int32.toNatClampNeg i5)), .int (0 : Int32), .int i4]) X hw (m_X11_own  ex3) (z_lt zk_40 (by decide)) (z_E11 zk_40) rfl zw_ml_6_113 zw_im_6_115 zw_se_S_56 zw_in_1_12 zw_co_6_116 zd_X11_own (by decide) rfl hl.1 rfl (Nat.le_of_ble_eq_true rfl) dX11_gutters_330 ⟨Nat.zero_le _, Nat.zero_le _⟩ (fun Hx3 lx3 wx3 => ?_)
      refine lv_isub (pc := 333) hx hb dX11_gutters_333 ?_
      obtain ⟨x4, ex4, h⟩ := z_bd h
      refine z_csI (pc := 334) (rest := [.int i4]) X wx3 (m_X11_most  ex4) zw_ml_6_136 zw_st_6_137 zw_in_1_12 zw_co_6_138 zd_X11_most (by decide) rfl hl.1 rfl (Nat.le_of_ble_eq_true rfl) dX11_gutters_334 ⟨Nat.zero_le _, Nat.zero_le _⟩ (fun Hx4 lx4 wx4 => ?_)
      refine lv_aload_n (pc := 337) hx hb dX11_gutters_337 rfl (lv_at hl 0 rfl) ?_
      refine lv_iload (pc := 338) hx hb dX11_gutters_338 (lv_at hl 3 rfl) ?_
      refine lv_iconst (pc := 340) (v := 3) hx hb dX11_gutters_340 (by decide) ?_
      obtain ⟨x5, ex5, h⟩ := z_bd h
      refine z_cvI (pc := 341) (rest := [.int x4.1, .int i4]) X wx4 (m_X11_own  ex5) (z_lt zk_40 (by decide)) (z_E11 zk_40) rfl zw_ml_6_113 zw_im_6_115 zw_se_S_56 zw_in_1_12 zw_co_6_116 zd_X11_own (by decide) rfl hl.1 rfl (Nat.le_of_ble_eq_true rfl) dX11_gutters_341 ⟨Nat.zero_le _, Nat.zero_le _⟩ (fun Hx5 lx5 wx5 => ?_)
      refine lv_imul (pc := 344) hx hb dX11_gutters_344 ?_
      refine lv_iadd (pc := 345) hx hb dX11_gutters_345 ?_
      obtain ⟨v6, ev6, h⟩ := z_lo h
      refine z_topi ev6 ?_
      refine lv_istore (pc := 346) (lv' := [(4, .int v6), (0, .ref (G.1 40)), (3, .int i3), (5, .int i5)]) hx hb dX11_gutters_346 hl (by decide) rfl (fun ls hl => ?_)
      obtain ⟨v7, ev7, h⟩ := z_lo h
      refine lv_iinc (pc := 348) (v := v7) (lv' := [(5, .int v7), (4, .int v6), (0, .ref (G.1 40)), (3, .int i3)]) hx hb dX11_gutters_348 hl (k := 3) rfl (by rw [ev7]; rfl) (by decide) rfl (fun ls hl => ?_)
      refine lv_goto (pc := 351) (tgt := 310) hx hb dX11_gutters_351 (by decide) ?_
      exact ih i3 v6 v7 x5.2 Hx5 lx5 ls  wx5 (lv_sub hl [2, 3, 1, 0] rfl) h
set_option maxHeartbeats 4000000 in
set_option maxRecDepth 100000 in
theorem w_X11_gutters_228 {G : zG} {p : Program} {l : Launch} {e : Env} {s : State} {m : MethodId} {args : Array Value} {below : List Frame} {meth : Method} {c : Code} (X : z_C G p s m args meth c cX11_gutters 9 RX11 (some .int)) {r : Int32 × zM} {K73 : Int32 → Int32 → Int32 → Int32 → zM → Option (Int32 × zM)} (hK73 : ∀ (i1 : Int32) (i2 : Int32) (i3 : Int32) (i4 : Int32) (M : zM) (H : Heap) (locs : List Loc) (ls : Array Slot), z_W G M H locs → lv_has ls 9 [(0, .ref (G.1 40)), (1, .int i1), (2, .int i2), (3, .int i3), (4, .int i4)] → K73 i1 i2 i3 i4 M = some r → W p l e (z_rm 2) s m args below meth c H locs 0 0 (z_Q G below args s (some (.int r.1)) r.2) (F0 m 73 ls [])) {K109 : Int32 → Int32 → Int32 → Int32 → Int32 → zM → Option (Int32 × zM)} (hK109 : ∀ (i1 : Int32) (i2 : Int32) (i3 : Int32) (i4 : Int32) (i5 : Int32) (M : zM) (H : Heap) (locs : List Loc) (ls : Array Slot), z_W G M H locs → lv_has ls 9 [(0, .ref (G.1 40)), (1, .int i1), (2, .int i2), (3, .int i3), (4, .int i4), (5, .int i5)] → K109 i1 i2 i3 i4 i5 M = some r → W p l e (z_rm 2) s m args below meth c H locs 0 0 (z_Q G below args s (some (.int r.1)) r.2) (F0 m 109 ls [])) : ∀ (i1 : Int32) (i2 : Int32) (i3 : Int32) (i4 : Int32) (i5 : Int32) (si0 : Int32) (si1 : Int32) (M : zM) (H : Heap) (locs : List Loc) (ls : Array Slot), z_W G M H locs → lv_has ls 9 [(0, .ref (G.1 40)), (1, .int i1), (2, .int i2), (3, .int i3), (4, .int i4), (5, .int i5)] → f_X11_gutters_228 K73 K109 i1 i2 i3 i4 i5 si0 si1 M = some r → W p l e (z_rm 2) s m args below meth c H locs 0 0 (z_Q G below args s (some (.int r.1)) r.2) (F0 m 228 ls [.int si1, .int si0]) := by
  have hx := X.1
  have hb := X.2.1
  intro i1 i2 i3 i4 i5 si0 si1 M H locs ls  hw hl h
  unfold f_X11_gutters_228 at h
  refine lv_iadd (pc := 228) hx hb dX11_gutters_228 ?_
  obtain ⟨v1, ev1, h⟩ := z_lo h
  refine z_topi ev1 ?_
  refine lv_istore (pc := 229) (lv' := [(8, .int v1), (0, .ref (G.1 40)), (1, .int i1), (2, .int i2), (3, .int i3), (4, .int i4), (5, .int i5)]) hx hb dX11_gutters_229 hl (by decide) rfl (fun ls hl => ?_)
  refine lv_aload_n (pc := 231) hx hb dX11_gutters_231 rfl (lv_at hl 1 rfl) ?_
  refine zg_DrinkingRoofsModel_must (pc := 232) X hw zw_fl_5_114 dX11_gutters_232 ?_
  refine lv_iload (pc := 235) hx hb dX11_gutters_235 (lv_at hl 6 rfl) ?_
  refine lv_aload_n (pc := 237) hx hb dX11_gutters_237 rfl (lv_at hl 1 rfl) ?_
  refine zg_DrinkingRoofsModel_must (pc := 238) X hw zw_fl_5_114 dX11_gutters_238 ?_
  refine lv_iload (pc := 241) hx hb dX11_gutters_241 (lv_at hl 6 rfl) ?_
  obtain ⟨g2, h⟩ := z_gd h
  refine z_iald (pc := 243) X hw zk_62 zl_62 g2 dX11_gutters_243 ?_
  refine lv_iload (pc := 244) hx hb dX11_gutters_244 (lv_at hl 0 rfl) ?_
  obtain ⟨x3, ex3, h⟩ := z_bd h
  refine z_csI (pc := 246) (rest := [.int i5, .ref (G.1 62)]) X hw (m_X11_most  ex3) zw_ml_6_136 zw_st_6_137 zw_in_1_12 zw_co_6_138 zd_X11_most (by decide) rfl hl.1 rfl (Nat.le_of_ble_eq_true rfl) dX11_gutters_246 ⟨Nat.zero_le _, Nat.zero_le _⟩ (fun Hx3 lx3 wx3 => ?_)
  obtain ⟨g4, h⟩ := z_gd h
  refine z_iast (pc := 249) X wx3 zk_62 zl_62 g4 dX11_gutters_249 (fun HM5 lM5 wM5 => ?_)
  obtain ⟨M5, eM5, h⟩ := z_lo h
  rw [← eM5] at wM5
  refine lv_aload_n (pc := 250) hx hb dX11_gutters_250 rfl (lv_at hl 1 rfl) ?_
  refine lv_iload (pc := 251) hx hb dX11_gutters_251 (lv_at hl 6 rfl) ?_
  refine lv_iconst (pc := 253) (v := 4) hx hb dX11_gutters_253 (by decide) ?_
  obtain ⟨x6, ex6, h⟩ := z_bd h
  refine z_cvI (pc := 254) (rest := []) X wM5 (m_X11_own  ex6) (z_lt zk_40 (by decide)) (z_E11 zk_40) rfl zw_ml_6_113 zw_im_6_115 zw_se_S_56 zw_in_1_12 zw_co_6_116 zd_X11_own (by decide) rfl hl.1 rfl (Nat.le_of_ble_eq_true rfl) dX11_gutters_254 ⟨Nat.zero_le _, Nat.zero_le _⟩ (fun Hx6 lx6 wx6 => ?_)
  refine lv_iconst (pc := 257) (v := -1) hx hb dX11_gutters_257 (by decide) ?_
  refine lv_icmp_eq (pc := 258) (tgt := 278) hx hb dX11_gutters_258 (by decide) (fun c7 => ?_) (fun c7 => ?_)
  · replace h := z_t c7 h
    obtain ⟨v8, ev8, h⟩ := z_lo h
    refine lv_iinc (pc := 278) (v := v8) (lv' := [(5, .int v8), (8, .int v1), (0, .ref (G.1 40)), (1, .int i1), (2, .int i2), (3, .int i3), (4, .int i4)]) hx hb dX11_gutters_278 hl (k := 6) rfl (by rw [ev8]; rfl) (by decide) rfl (fun ls hl => ?_)
    refine lv_goto (pc := 281) (tgt := 109) hx hb dX11_gutters_281 (by decide) ?_
    exact hK109 i1 i2 i3 i4 v8 x6.2 Hx6 lx6 ls  wx6 (lv_sub hl [2, 3, 4, 5, 6, 0] rfl) h
  · replace h := z_f c7 h
    refine lv_aload_n (pc := 261) hx hb dX11_gutters_261 rfl (lv_at hl 1 rfl) ?_
    refine zg_DrinkingRoofsModel_above (pc := 262) X wx6 zw_fl_5_100 dX11_gutters_262 ?_
    refine lv_aload_n (pc := 265) hx hb dX11_gutters_265 rfl (lv_at hl 1 rfl) ?_
    refine lv_iload (pc := 266) hx hb dX11_gutters_266 (lv_at hl 6 rfl) ?_
    refine lv_iconst (pc := 268) (v := 4) hx hb dX11_gutters_268 (by decide) ?_
    obtain ⟨x9, ex9, h⟩ := z_bd h
    refine z_cvI (pc := 269) (rest := [.ref (G.1 57)]) X wx6 (m_X11_own  ex9) (z_lt zk_40 (by decide)) (z_E11 zk_40) rfl zw_ml_6_113 zw_im_6_115 zw_se_S_56 zw_in_1_12 zw_co_6_116 zd_X11_own (by decide) rfl hl.1 rfl (Nat.le_of_ble_eq_true rfl) dX11_gutters_269 ⟨Nat.zero_le _, Nat.zero_le _⟩ (fun Hx9 lx9 wx9 => ?_)
    refine lv_dup2_11 (pc := 272) hx hb dX11_gutters_272 rfl rfl ?_
    obtain ⟨g10, h⟩ := z_gd h
    refine z_iald (pc := 273) X wx9 zk_57 zl_57 g10 dX11_gutters_273 ?_
    refine lv_iload (pc := 274) hx hb dX11_gutters_274 (lv_at hl 0 rfl) ?_
    refine lv_iadd (pc := 276) hx hb dX11_gutters_276 ?_
    obtain ⟨g11, h⟩ := z_gd h
    refine z_iast (pc := 277) X wx9 zk_57 zl_57 g11 dX11_gutters_277 (fun HM12 lM12 wM12 => ?_)
    obtain ⟨M12, eM12, h⟩ := z_lo h
    rw [← eM12] at wM12
    obtain ⟨v13, ev13, h⟩ := z_lo h
    refine lv_iinc (pc := 278) (v := v13) (lv' := [(5, .int v13), (8, .int v1), (0, .ref (G.1 40)), (1, .int i1), (2, .int i2), (3, .int i3), (4, .int i4)]) hx hb dX11_gutters_278 hl (k := 6) rfl (by rw [ev13]; rfl) (by decide) rfl (fun ls hl => ?_)
    refine lv_goto (pc := 281) (tgt := 109) hx hb dX11_gutters_281 (by decide) ?_
    exact hK109 i1 i2 i3 i4 v13 M12 HM12 lM12 ls  wM12 (lv_sub hl [2, 3, 4, 5, 6, 0] rfl) h
set_option maxHeartbeats 4000000 in
set_option maxRecDepth 100000 in
theorem w_X11_gutters_197 {G : zG} {p : Program} {l : Launch} {e : Env} {s : State} {m : MethodId} {args : Array Value} {below : List Frame} {meth : Method} {c : Code} (X : z_C G p s m args meth c cX11_gutters 9 RX11 (some .int)) {r : Int32 × zM} {K73 : Int32 → Int32 → Int32 → Int32 → zM → Option (Int32 × zM)} (hK73 : ∀ (i1 : Int32) (i2 : Int32) (i3 : Int32) (i4 : Int32) (M : zM) (H : Heap) (locs : List Loc) (ls : Array Slot), z_W G M H locs → lv_has ls 9 [(0, .ref (G.1 40)), (1, .int i1), (2, .int i2), (3, .int i3), (4, .int i4)] → K73 i1 i2 i3 i4 M = some r → W p l e (z_rm 2) s m args below meth c H locs 0 0 (z_Q G below args s (some (.int r.1)) r.2) (F0 m 73 ls [])) {K109 : Int32 → Int32 → Int32 → Int32 → Int32 → zM → Option (Int32 × zM)} (hK109 : ∀ (i1 : Int32) (i2 : Int32) (i3 : Int32) (i4 : Int32) (i5 : Int32) (M : zM) (H : Heap) (locs : List Loc) (ls : Array Slot), z_W G M H locs → lv_has ls 9 [(0, .ref (G.1 40)), (1, .int i1), (2, .int i2), (3, .int i3), (4, .int i4), (5, .int i5)] → K109 i1 i2 i3 i4 i5 M = some r → W p l e (z_rm 2) s m args below meth c H locs 0 0 (z_Q G below args s (some (.int r.1)) r.2) (F0 m 109 ls [])) : ∀ (i1 : Int32) (i2 : Int32) (i3 : Int32) (i4 : Int32) (i5 : Int32) (i6 : Int32) (i7 : Int32) (sk0 : Nat) (si1 : Int32) (si2 : Int32) (si3 : Int32) (M : zM) (H : Heap) (locs : List Loc) (ls : Array Slot), z_kd sk0 = 13 → z_W G M H locs → lv_has ls 9 [(0, .ref (G.1 40)), (1, .int i1), (2, .int i2), (3, .int i3), (4, .int i4), (5, .int i5), (6, .int i6), (7, .int i7)] → f_X11_gutters_197 K73 K109 i1 i2 i3 i4 i5 i6 i7 sk0 si1 si2 si3 M = some r → W p l e (z_rm 2) s m args below meth c H locs 0 0 (z_Q G below args s (some (.int r.1)) r.2) (F0 m 197 ls [.int si3, .int si2, .int si1, .ref (G.1 sk0)]) := by
  have hx := X.1
  have hb := X.2.1
  intro i1 i2 i3 i4 i5 i6 i7 sk0 si1 si2 si3 M H locs ls hsk0 hw hl h
  unfold f_X11_gutters_197 at h
  refine lv_iload (pc := 197) hx hb dX11_gutters_197 (lv_at hl 7 rfl) ?_
  refine lv_isub (pc := 199) hx hb dX11_gutters_199 ?_
  refine lv_iadd (pc := 200) hx hb dX11_gutters_200 ?_
  obtain ⟨g1, h⟩ := z_gd h
  refine z_iast (pc := 201) X hw hsk0 rfl g1 dX11_gutters_201 (fun HM2 lM2 wM2 => ?_)
  obtain ⟨M2, eM2, h⟩ := z_lo h
  rw [← eM2] at wM2
  refine lv_aload_n (pc := 202) hx hb dX11_gutters_202 rfl (lv_at hl 0 rfl) ?_
  refine zg_DrinkingRoofsModel_above (pc := 203) X wM2 zw_fl_5_100 dX11_gutters_203 ?_
  refine lv_iload (pc := 206) hx hb dX11_gutters_206 (lv_at hl 5 rfl) ?_
  obtain ⟨g3, h⟩ := z_gd h
  refine z_iald (pc := 208) X wM2 zk_57 zl_57 g3 dX11_gutters_208 ?_
  refine lv_iload (pc := 209) hx hb dX11_gutters_209 (lv_at hl 7 rfl) ?_
  refine lv_iadd (pc := 211) hx hb dX11_gutters_211 ?_
  refine lv_aload_n (pc := 212) hx hb dX11_gutters_212 rfl (lv_at hl 0 rfl) ?_
  refine lv_iload_n (pc := 213) hx hb dX11_gutters_213 rfl (lv_at hl 1 rfl) ?_
  refine lv_iload (pc := 214) hx hb dX11_gutters_214 (lv_at hl 4 rfl) ?_
  obtain ⟨x4, ex4, h⟩ := z_bd h
  refine z_cvI (pc := 216) (rest := [.int ((M2.1 57 (Int32.toNatClampNeg i5)) + i7)]) X wM2 (m_X11_isSnow  ex4) (z_lt zk_40 (by decide)) (z_E11 zk_40) rfl zw_ml_6_125 zw_im_6_127 zw_se_S_59 zw_in_1_12 zw_co_6_128 zd_X11_isSnow (by decide) rfl hl.1 rfl (Nat.le_of_ble_eq_true rfl) dX11_gutters_216 ⟨Nat.zero_le _, Nat.zero_le _⟩ (fun Hx4 lx4 wx4 => ?_)
  refine lv_if_eq (pc := 219) (tgt := 226) hx hb dX11_gutters_219 (by decide) (fun c5 => ?_) (fun c5 => ?_)
  · replace h := z_t c5 h
    refine lv_iload (pc := 226) hx hb dX11_gutters_226 (lv_at hl 6 rfl) ?_
    exact w_X11_gutters_228 X hK73 hK109 i1 i2 i3 i4 i5 ((M2.1 57 (Int32.toNatClampNeg i5)) + i7) i6 x4.2 Hx4 lx4 ls  wx4 (lv_sub hl [0, 1, 2, 3, 4, 5] rfl) h
  · replace h := z_f c5 h
    refine lv_iconst (pc := 222) (v := 0) hx hb dX11_gutters_222 (by decide) ?_
    refine lv_goto (pc := 223) (tgt := 228) hx hb dX11_gutters_223 (by decide) ?_
    exact w_X11_gutters_228 X hK73 hK109 i1 i2 i3 i4 i5 ((M2.1 57 (Int32.toNatClampNeg i5)) + i7) (0 : Int32) x4.2 Hx4 lx4 ls  wx4 (lv_sub hl [0, 1, 2, 3, 4, 5] rfl) h
set_option maxHeartbeats 4000000 in
set_option maxRecDepth 100000 in
theorem w_X11_gutters_171 {G : zG} {p : Program} {l : Launch} {e : Env} {s : State} {m : MethodId} {args : Array Value} {below : List Frame} {meth : Method} {c : Code} (X : z_C G p s m args meth c cX11_gutters 9 RX11 (some .int)) {r : Int32 × zM} {K73 : Int32 → Int32 → Int32 → Int32 → zM → Option (Int32 × zM)} (hK73 : ∀ (i1 : Int32) (i2 : Int32) (i3 : Int32) (i4 : Int32) (M : zM) (H : Heap) (locs : List Loc) (ls : Array Slot), z_W G M H locs → lv_has ls 9 [(0, .ref (G.1 40)), (1, .int i1), (2, .int i2), (3, .int i3), (4, .int i4)] → K73 i1 i2 i3 i4 M = some r → W p l e (z_rm 2) s m args below meth c H locs 0 0 (z_Q G below args s (some (.int r.1)) r.2) (F0 m 73 ls [])) {K109 : Int32 → Int32 → Int32 → Int32 → Int32 → zM → Option (Int32 × zM)} (hK109 : ∀ (i1 : Int32) (i2 : Int32) (i3 : Int32) (i4 : Int32) (i5 : Int32) (M : zM) (H : Heap) (locs : List Loc) (ls : Array Slot), z_W G M H locs → lv_has ls 9 [(0, .ref (G.1 40)), (1, .int i1), (2, .int i2), (3, .int i3), (4, .int i4), (5, .int i5)] → K109 i1 i2 i3 i4 i5 M = some r → W p l e (z_rm 2) s m args below meth c H locs 0 0 (z_Q G below args s (some (.int r.1)) r.2) (F0 m 109 ls [])) : ∀ (i1 : Int32) (i2 : Int32) (i3 : Int32) (i4 : Int32) (i5 : Int32) (i6 : Int32) (si0 : Int32) (M : zM) (H : Heap) (locs : List Loc) (ls : Array Slot), z_W G M H locs → lv_has ls 9 [(0, .ref (G.1 40)), (1, .int i1), (2, .int i2), (3, .int i3), (4, .int i4), (5, .int i5), (6, .int i6)] → f_X11_gutters_171 K73 K109 i1 i2 i3 i4 i5 i6 si0 M = some r → W p l e (z_rm 2) s m args below meth c H locs 0 0 (z_Q G below args s (some (.int r.1)) r.2) (F0 m 171 ls [.int si0]) := by
  have hx := X.1
  have hb := X.2.1
  intro i1 i2 i3 i4 i5 i6 si0 M H locs ls  hw hl h
  unfold f_X11_gutters_171 at h
  refine lv_istore (pc := 171) (lv' := [(7, .int si0), (0, .ref (G.1 40)), (1, .int i1), (2, .int i2), (3, .int i3), (4, .int i4), (5, .int i5), (6, .int i6)]) hx hb dX11_gutters_171 hl (by decide) rfl (fun ls hl => ?_)
  refine lv_aload_n (pc := 173) hx hb dX11_gutters_173 rfl (lv_at hl 1 rfl) ?_
  refine zg_DrinkingRoofsModel_snow (pc := 174) X hw zw_fl_5_98 dX11_gutters_174 ?_
  refine lv_iload (pc := 177) hx hb dX11_gutters_177 (lv_at hl 6 rfl) ?_
  refine lv_dup2_11 (pc := 179) hx hb dX11_gutters_179 rfl rfl ?_
  obtain ⟨g1, h⟩ := z_gd h
  refine z_iald (pc := 180) X hw zk_55 zl_55 g1 dX11_gutters_180 ?_
  refine lv_aload_n (pc := 181) hx hb dX11_gutters_181 rfl (lv_at hl 1 rfl) ?_
  refine lv_iload_n (pc := 182) hx hb dX11_gutters_182 rfl (lv_at hl 2 rfl) ?_
  refine lv_iload (pc := 183) hx hb dX11_gutters_183 (lv_at hl 5 rfl) ?_
  obtain ⟨x2, ex2, h⟩ := z_bd h
  refine z_cvI (pc := 185) (rest := [.int (M.1 55 (Int32.toNatClampNeg i5)), .int i5, .ref (G.1 55)]) X hw (m_X11_isSnow  ex2) (z_lt zk_40 (by decide)) (z_E11 zk_40) rfl zw_ml_6_125 zw_im_6_127 zw_se_S_59 zw_in_1_12 zw_co_6_128 zd_X11_isSnow (by decide) rfl hl.1 rfl (Nat.le_of_ble_eq_true rfl) dX11_gutters_185 ⟨Nat.zero_le _, Nat.zero_le _⟩ (fun Hx2 lx2 wx2 => ?_)
  refine lv_if_eq (pc := 188) (tgt := 196) hx hb dX11_gutters_188 (by decide) (fun c3 => ?_) (fun c3 => ?_)
  · replace h := z_t c3 h
    refine lv_iconst (pc := 196) (v := 0) hx hb dX11_gutters_196 (by decide) ?_
    exact w_X11_gutters_197 X hK73 hK109 i1 i2 i3 i4 i5 i6 si0 55 i5 (M.1 55 (Int32.toNatClampNeg i5)) (0 : Int32) x2.2 Hx2 lx2 ls zk_55 wx2 (lv_sub hl [1, 2, 3, 4, 5, 6, 7, 0] rfl) h
  · replace h := z_f c3 h
    refine lv_iload (pc := 191) hx hb dX11_gutters_191 (lv_at hl 7 rfl) ?_
    refine lv_goto (pc := 193) (tgt := 197) hx hb dX11_gutters_193 (by decide) ?_
    exact w_X11_gutters_197 X hK73 hK109 i1 i2 i3 i4 i5 i6 si0 55 i5 (M.1 55 (Int32.toNatClampNeg i5)) i6 x2.2 Hx2 lx2 ls zk_55 wx2 (lv_sub hl [1, 2, 3, 4, 5, 6, 7, 0] rfl) h
set_option maxHeartbeats 4000000 in
set_option maxRecDepth 100000 in
theorem w_X11_gutters_109 {G : zG} {p : Program} {l : Launch} {e : Env} {s : State} {m : MethodId} {args : Array Value} {below : List Frame} {meth : Method} {c : Code} (X : z_C G p s m args meth c cX11_gutters 9 RX11 (some .int)) {r : Int32 × zM} {K73 : Int32 → Int32 → Int32 → Int32 → zM → Option (Int32 × zM)} (hK73 : ∀ (i1 : Int32) (i2 : Int32) (i3 : Int32) (i4 : Int32) (M : zM) (H : Heap) (locs : List Loc) (ls : Array Slot), z_W G M H locs → lv_has ls 9 [(0, .ref (G.1 40)), (1, .int i1), (2, .int i2), (3, .int i3), (4, .int i4)] → K73 i1 i2 i3 i4 M = some r → W p l e (z_rm 2) s m args below meth c H locs 0 0 (z_Q G below args s (some (.int r.1)) r.2) (F0 m 73 ls [])) : ∀ (n : Nat) (i1 : Int32) (i2 : Int32) (i3 : Int32) (i4 : Int32) (i5 : Int32) (M : zM) (H : Heap) (locs : List Loc) (ls : Array Slot), z_W G M H locs → lv_has ls 9 [(0, .ref (G.1 40)), (1, .int i1), (2, .int i2), (3, .int i3), (4, .int i4), (5, .int i5)] → f_X11_gutters_109 K73 n i1 i2 i3 i4 i5 M = some r → W p l e (z_rm 2) s m args below meth c H locs 0 0 (z_Q G below args s (some (.int r.1)) r.2) (F0 m 109 ls []) := by
  have hx := X.1
  have hb := X.2.1
  intro n
  induction n with
  | zero =>
    intro i1 i2 i3 i4 i5 M H locs ls  hw hl h
    exact z_no h
  | succ n ih =>
    intro i1 i2 i3 i4 i5 M H locs ls  hw hl h
    rw [f_X11_gutters_109] at h
    refine lv_iload (pc := 109) hx hb dX11_gutters_109 (lv_at hl 5 rfl) ?_
    refine lv_iload_n (pc := 111) hx hb dX11_gutters_111 rfl (lv_at hl 3 rfl) ?_
    refine lv_icmp_ge (pc := 112) (tgt := 284) hx hb dX11_gutters_112 (by decide) (fun c1 => ?_) (fun c1 => ?_)
    · replace h := z_t c1 h
      obtain ⟨v2, ev2, h⟩ := z_lo h
      refine lv_iinc (pc := 284) (v := v2) (lv' := [(4, .int v2), (0, .ref (G.1 40)), (1, .int i1), (2, .int i2), (3, .int i3), (5, .int i5)]) hx hb dX11_gutters_284 hl (k := 4) rfl (by rw [ev2]; rfl) (by decide) rfl (fun ls hl => ?_)
      refine lv_goto (pc := 287) (tgt := 73) hx hb dX11_gutters_287 (by decide) ?_
      exact hK73 i1 i2 i3 v2 M H locs ls  hw (lv_sub hl [1, 2, 3, 4, 0] rfl) h
    · replace h := z_f c1 h
      refine lv_aload_n (pc := 115) hx hb dX11_gutters_115 rfl (lv_at hl 0 rfl) ?_
      refine lv_iload_n (pc := 116) hx hb dX11_gutters_116 rfl (lv_at hl 1 rfl) ?_
      refine lv_iload (pc := 117) hx hb dX11_gutters_117 (lv_at hl 4 rfl) ?_
      obtain ⟨x3, ex3, h⟩ := z_bd h
      refine z_cvI (pc := 119) (rest := []) X hw (m_X11_fallOf  ex3) (z_lt zk_40 (by decide)) (z_E11 zk_40) rfl zw_ml_6_121 zw_im_6_123 zw_se_S_58 zw_in_1_12 zw_co_6_124 zd_X11_fallOf (by decide) rfl hl.1 rfl (Nat.le_of_ble_eq_true rfl) dX11_gutters_119 ⟨Nat.zero_le _, Nat.zero_le _⟩ (fun Hx3 lx3 wx3 => ?_)
      refine lv_aload_n (pc := 122) hx hb dX11_gutters_122 rfl (lv_at hl 0 rfl) ?_
      refine lv_iload (pc := 123) hx hb dX11_gutters_123 (lv_at hl 5 rfl) ?_
      refine lv_iconst (pc := 125) (v := 0) hx hb dX11_gutters_125 (by decide) ?_
      obtain ⟨x4, ex4, h⟩ := z_bd h
      refine z_cvI (pc := 126) (rest := [.int x3.1]) X wx3 (m_X11_own  ex4) (z_lt zk_40 (by decide)) (z_E11 zk_40) rfl zw_ml_6_113 zw_im_6_115 zw_se_S_56 zw_in_1_12 zw_co_6_116 zd_X11_own (by decide) rfl hl.1 rfl (Nat.le_of_ble_eq_true rfl) dX11_gutters_126 ⟨Nat.zero_le _, Nat.zero_le _⟩ (fun Hx4 lx4 wx4 => ?_)
      refine lv_imul (pc := 129) hx hb dX11_gutters_129 ?_
      obtain ⟨v5, ev5, h⟩ := z_lo h
      refine z_topi ev5 ?_
      refine lv_istore (pc := 130) (lv' := [(6, .int v5), (0, .ref (G.1 40)), (1, .int i1), (2, .int i2), (3, .int i3), (4, .int i4), (5, .int i5)]) hx hb dX11_gutters_130 hl (by decide) rfl (fun ls hl => ?_)
      refine lv_aload_n (pc := 132) hx hb dX11_gutters_132 rfl (lv_at hl 1 rfl) ?_
      refine lv_iload_n (pc := 133) hx hb dX11_gutters_133 rfl (lv_at hl 2 rfl) ?_
      refine lv_iload (pc := 134) hx hb dX11_gutters_134 (lv_at hl 5 rfl) ?_
      obtain ⟨x6, ex6, h⟩ := z_bd h
      refine z_cvI (pc := 136) (rest := []) X wx4 (m_X11_isSnow  ex6) (z_lt zk_40 (by decide)) (z_E11 zk_40) rfl zw_ml_6_125 zw_im_6_127 zw_se_S_59 zw_in_1_12 zw_co_6_128 zd_X11_isSnow (by decide) rfl hl.1 rfl (Nat.le_of_ble_eq_true rfl) dX11_gutters_136 ⟨Nat.zero_le _, Nat.zero_le _⟩ (fun Hx6 lx6 wx6 => ?_)
      refine lv_if_eq (pc := 139) (tgt := 146) hx hb dX11_gutters_139 (by decide) (fun c7 => ?_) (fun c7 => ?_)
      · replace h := z_t c7 h
        refine lv_aload_n (pc := 146) hx hb dX11_gutters_146 rfl (lv_at hl 1 rfl) ?_
        refine zg_DrinkingRoofsModel_snow (pc := 147) X wx6 zw_fl_5_98 dX11_gutters_147 ?_
        refine lv_iload (pc := 150) hx hb dX11_gutters_150 (lv_at hl 6 rfl) ?_
        obtain ⟨g8, h⟩ := z_gd h
        refine z_iald (pc := 152) X wx6 zk_55 zl_55 g8 dX11_gutters_152 ?_
        refine lv_aload_n (pc := 153) hx hb dX11_gutters_153 rfl (lv_at hl 1 rfl) ?_
        refine zg_DrinkingRoofsModel_w (pc := 154) X wx6 zw_fl_5_71 dX11_gutters_154 ?_
        refine lv_bipush (pc := 157) (v := 6) hx hb dX11_gutters_157 (by decide) ?_
        refine z_iald (pc := 159) X wx6 zk_41 zl_41 (z_il (by decide)) dX11_gutters_159 ?_
        refine lv_aload_n (pc := 160) hx hb dX11_gutters_160 rfl (lv_at hl 1 rfl) ?_
        refine lv_iload (pc := 161) hx hb dX11_gutters_161 (lv_at hl 6 rfl) ?_
        refine lv_iconst (pc := 163) (v := 0) hx hb dX11_gutters_163 (by decide) ?_
        obtain ⟨x9, ex9, h⟩ := z_bd h
        refine z_cvI (pc := 164) (rest := [.int (x6.2.1 41 (Int32.toNatClampNeg (6 : Int32))), .int (x6.2.1 55 (Int32.toNatClampNeg i5))]) X wx6 (m_X11_own  ex9) (z_lt zk_40 (by decide)) (z_E11 zk_40) rfl zw_ml_6_113 zw_im_6_115 zw_se_S_56 zw_in_1_12 zw_co_6_116 zd_X11_own (by decide) rfl hl.1 rfl (Nat.le_of_ble_eq_true rfl) dX11_gutters_164 ⟨Nat.zero_le _, Nat.zero_le _⟩ (fun Hx9 lx9 wx9 => ?_)
        refine lv_imul (pc := 167) hx hb dX11_gutters_167 ?_
        obtain ⟨x10, ex10, h⟩ := z_bd h
        refine z_csI (pc := 168) (rest := []) X wx9 (m_X11_least  ex10) zw_ml_6_129 zw_st_6_130 zw_in_1_12 zw_co_6_131 zd_X11_least (by decide) rfl hl.1 rfl (Nat.le_of_ble_eq_true rfl) dX11_gutters_168 ⟨Nat.zero_le _, Nat.zero_le _⟩ (fun Hx10 lx10 wx10 => ?_)
        exact w_X11_gutters_171 X hK73 ih i1 i2 i3 i4 i5 v5 x10.1 x10.2 Hx10 lx10 ls  wx10 (lv_sub hl [1, 2, 3, 4, 5, 6, 0] rfl) h
      · replace h := z_f c7 h
        refine lv_iconst (pc := 142) (v := 0) hx hb dX11_gutters_142 (by decide) ?_
        refine lv_goto (pc := 143) (tgt := 171) hx hb dX11_gutters_143 (by decide) ?_
        exact w_X11_gutters_171 X hK73 ih i1 i2 i3 i4 i5 v5 (0 : Int32) x6.2 Hx6 lx6 ls  wx6 (lv_sub hl [1, 2, 3, 4, 5, 6, 0] rfl) h
set_option maxHeartbeats 4000000 in
set_option maxRecDepth 100000 in
theorem w_X11_gutters_86 {G : zG} {p : Program} {l : Launch} {e : Env} {s : State} {m : MethodId} {args : Array Value} {below : List Frame} {meth : Method} {c : Code} (X : z_C G p s m args meth c cX11_gutters 9 RX11 (some .int)) {r : Int32 × zM} {K73 : Int32 → Int32 → Int32 → Int32 → zM → Option (Int32 × zM)} (hK73 : ∀ (i1 : Int32) (i2 : Int32) (i3 : Int32) (i4 : Int32) (M : zM) (H : Heap) (locs : List Loc) (ls : Array Slot), z_W G M H locs → lv_has ls 9 [(0, .ref (G.1 40)), (1, .int i1), (2, .int i2), (3, .int i3), (4, .int i4)] → K73 i1 i2 i3 i4 M = some r → W p l e (z_rm 2) s m args below meth c H locs 0 0 (z_Q G below args s (some (.int r.1)) r.2) (F0 m 73 ls [])) : ∀ (n : Nat) (i1 : Int32) (i2 : Int32) (i3 : Int32) (i4 : Int32) (i5 : Int32) (M : zM) (H : Heap) (locs : List Loc) (ls : Array Slot), z_W G M H locs → lv_has ls 9 [(0, .ref (G.1 40)), (1, .int i1), (2, .int i2), (3, .int i3), (4, .int i4), (5, .int i5)] → f_X11_gutters_86 K73 n i1 i2 i3 i4 i5 M = some r → W p l e (z_rm 2) s m args below meth c H locs 0 0 (z_Q G below args s (some (.int r.1)) r.2) (F0 m 86 ls []) := by
  have hx := X.1
  have hb := X.2.1
  intro n
  induction n with
  | zero =>
    intro i1 i2 i3 i4 i5 M H locs ls  hw hl h
    exact z_no h
  | succ n ih =>
    intro i1 i2 i3 i4 i5 M H locs ls  hw hl h
    rw [f_X11_gutters_86] at h
    refine lv_iload (pc := 86) hx hb dX11_gutters_86 (lv_at hl 5 rfl) ?_
    refine lv_iload_n (pc := 88) hx hb dX11_gutters_88 rfl (lv_at hl 3 rfl) ?_
    refine lv_icmp_ge (pc := 89) (tgt := 106) hx hb dX11_gutters_89 (by decide) (fun c1 => ?_) (fun c1 => ?_)
    · replace h := z_t c1 h
      refine lv_iconst (pc := 106) (v := 0) hx hb dX11_gutters_106 (by decide) ?_
      refine lv_istore (pc := 107) (lv' := [(5, .int (0 : Int32)), (0, .ref (G.1 40)), (1, .int i1), (2, .int i2), (3, .int i3), (4, .int i4)]) hx hb dX11_gutters_107 hl (by decide) rfl (fun ls hl => ?_)
      exact w_X11_gutters_109 X hK73 z_F i1 i2 i3 i4 (0 : Int32) M H locs ls  hw (lv_sub hl [1, 2, 3, 4, 5, 0] rfl) h
    · replace h := z_f c1 h
      refine lv_aload_n (pc := 92) hx hb dX11_gutters_92 rfl (lv_at hl 0 rfl) ?_
      refine zg_DrinkingRoofsModel_above (pc := 93) X hw zw_fl_5_100 dX11_gutters_93 ?_
      refine lv_iload (pc := 96) hx hb dX11_gutters_96 (lv_at hl 5 rfl) ?_
      refine lv_iconst (pc := 98) (v := 0) hx hb dX11_gutters_98 (by decide) ?_
      obtain ⟨g2, h⟩ := z_gd h
      refine z_iast (pc := 99) X hw zk_57 zl_57 g2 dX11_gutters_99 (fun HM3 lM3 wM3 => ?_)
      obtain ⟨M3, eM3, h⟩ := z_lo h
      rw [← eM3] at wM3
      obtain ⟨v4, ev4, h⟩ := z_lo h
      refine lv_iinc (pc := 100) (v := v4) (lv' := [(5, .int v4), (0, .ref (G.1 40)), (1, .int i1), (2, .int i2), (3, .int i3), (4, .int i4)]) hx hb dX11_gutters_100 hl (k := 5) rfl (by rw [ev4]; rfl) (by decide) rfl (fun ls hl => ?_)
      refine lv_goto (pc := 103) (tgt := 86) hx hb dX11_gutters_103 (by decide) ?_
      exact ih i1 i2 i3 i4 v4 M3 HM3 lM3 ls  wM3 (lv_sub hl [1, 2, 3, 4, 5, 0] rfl) h
set_option maxHeartbeats 4000000 in
set_option maxRecDepth 100000 in
theorem w_X11_gutters_73 {G : zG} {p : Program} {l : Launch} {e : Env} {s : State} {m : MethodId} {args : Array Value} {below : List Frame} {meth : Method} {c : Code} (X : z_C G p s m args meth c cX11_gutters 9 RX11 (some .int)) {r : Int32 × zM} : ∀ (n : Nat) (i1 : Int32) (i2 : Int32) (i3 : Int32) (i4 : Int32) (M : zM) (H : Heap) (locs : List Loc) (ls : Array Slot), z_W G M H locs → lv_has ls 9 [(0, .ref (G.1 40)), (1, .int i1), (2, .int i2), (3, .int i3), (4, .int i4)] → f_X11_gutters_73 n i1 i2 i3 i4 M = some r → W p l e (z_rm 2) s m args below meth c H locs 0 0 (z_Q G below args s (some (.int r.1)) r.2) (F0 m 73 ls []) := by
  have hx := X.1
  have hb := X.2.1
  intro n
  induction n with
  | zero =>
    intro i1 i2 i3 i4 M H locs ls  hw hl h
    exact z_no h
  | succ n ih =>
    intro i1 i2 i3 i4 M H locs ls  hw hl h
    rw [f_X11_gutters_73] at h
    refine lv_iload (pc := 73) hx hb dX11_gutters_73 (lv_at hl 4 rfl) ?_
    refine lv_aload_n (pc := 75) hx hb dX11_gutters_75 rfl (lv_at hl 0 rfl) ?_
    refine lv_iload_n (pc := 76) hx hb dX11_gutters_76 rfl (lv_at hl 1 rfl) ?_
    obtain ⟨x1, ex1, h⟩ := z_bd h
    refine z_cvI (pc := 77) (rest := [.int i4]) X hw (m_X11_hoursOf  ex1) (z_lt zk_40 (by decide)) (z_E11 zk_40) rfl zw_ml_6_0 zw_im_6_2 zw_se_S_38 zw_in_1_12 zw_co_6_3 zd_X11_hoursOf (by decide) rfl hl.1 rfl (Nat.le_of_ble_eq_true rfl) dX11_gutters_77 ⟨Nat.zero_le _, Nat.zero_le _⟩ (fun Hx1 lx1 wx1 => ?_)
    refine lv_icmp_ge (pc := 80) (tgt := 290) hx hb dX11_gutters_80 (by decide) (fun c2 => ?_) (fun c2 => ?_)
    · replace h := z_t c2 h
      refine lv_iload_n (pc := 290) hx hb dX11_gutters_290 rfl (lv_at hl 2 rfl) ?_
      refine lv_if_le (pc := 291) (tgt := 304) hx hb dX11_gutters_291 (by decide) (fun c3 => ?_) (fun c3 => ?_)
      · replace h := z_t c3 h
        refine lv_iconst (pc := 304) (v := 0) hx hb dX11_gutters_304 (by decide) ?_
        refine lv_istore (pc := 305) (lv' := [(4, .int (0 : Int32)), (0, .ref (G.1 40)), (1, .int i1), (2, .int i2), (3, .int i3)]) hx hb dX11_gutters_305 hl (by decide) rfl (fun ls hl => ?_)
        refine lv_iconst (pc := 307) (v := 0) hx hb dX11_gutters_307 (by decide) ?_
        refine lv_istore (pc := 308) (lv' := [(5, .int (0 : Int32)), (4, .int (0 : Int32)), (0, .ref (G.1 40)), (1, .int i1), (2, .int i2), (3, .int i3)]) hx hb dX11_gutters_308 hl (by decide) rfl (fun ls hl => ?_)
        exact w_X11_gutters_310 X z_F i3 (0 : Int32) (0 : Int32) x1.2 Hx1 lx1 ls  wx1 (lv_sub hl [2, 5, 1, 0] rfl) h
      · replace h := z_f c3 h
        refine lv_aload_n (pc := 294) hx hb dX11_gutters_294 rfl (lv_at hl 0 rfl) ?_
        refine zg_DrinkingRoofsModel_must (pc := 295) X wx1 zw_fl_5_114 dX11_gutters_295 ?_
        refine lv_iload_n (pc := 298) hx hb dX11_gutters_298 rfl (lv_at hl 2 rfl) ?_
        refine lv_bipush (pc := 299) (v := 10) hx hb dX11_gutters_299 (by decide) ?_
        refine lv_isub (pc := 301) hx hb dX11_gutters_301 ?_
        obtain ⟨g4, h⟩ := z_gd h
        refine z_iald (pc := 302) X wx1 zk_62 zl_62 g4 dX11_gutters_302 ?_
        obtain rfl := Option.some.inj h
        exact z_ri (pc := 303) X wx1 dX11_gutters_303
    · replace h := z_f c2 h
      refine lv_iconst (pc := 83) (v := 0) hx hb dX11_gutters_83 (by decide) ?_
      refine lv_istore (pc := 84) (lv' := [(5, .int (0 : Int32)), (0, .ref (G.1 40)), (1, .int i1), (2, .int i2), (3, .int i3), (4, .int i4)]) hx hb dX11_gutters_84 hl (by decide) rfl (fun ls hl => ?_)
      exact w_X11_gutters_86 X ih z_F i1 i2 i3 i4 (0 : Int32) x1.2 Hx1 lx1 ls  wx1 (lv_sub hl [1, 2, 3, 4, 5, 0] rfl) h
set_option maxHeartbeats 4000000 in
set_option maxRecDepth 100000 in
theorem w_X11_gutters_42 {G : zG} {p : Program} {l : Launch} {e : Env} {s : State} {m : MethodId} {args : Array Value} {below : List Frame} {meth : Method} {c : Code} (X : z_C G p s m args meth c cX11_gutters 9 RX11 (some .int)) {r : Int32 × zM} : ∀ (n : Nat) (i1 : Int32) (i2 : Int32) (i3 : Int32) (i4 : Int32) (M : zM) (H : Heap) (locs : List Loc) (ls : Array Slot), z_W G M H locs → lv_has ls 9 [(0, .ref (G.1 40)), (1, .int i1), (2, .int i2), (3, .int i3), (4, .int i4)] → f_X11_gutters_42 n i1 i2 i3 i4 M = some r → W p l e (z_rm 2) s m args below meth c H locs 0 0 (z_Q G below args s (some (.int r.1)) r.2) (F0 m 42 ls []) := by
  have hx := X.1
  have hb := X.2.1
  intro n
  induction n with
  | zero =>
    intro i1 i2 i3 i4 M H locs ls  hw hl h
    exact z_no h
  | succ n ih =>
    intro i1 i2 i3 i4 M H locs ls  hw hl h
    rw [f_X11_gutters_42] at h
    refine lv_iload (pc := 42) hx hb dX11_gutters_42 (lv_at hl 4 rfl) ?_
    refine lv_iload_n (pc := 44) hx hb dX11_gutters_44 rfl (lv_at hl 3 rfl) ?_
    refine lv_icmp_ge (pc := 45) (tgt := 70) hx hb dX11_gutters_45 (by decide) (fun c1 => ?_) (fun c1 => ?_)
    · replace h := z_t c1 h
      refine lv_iconst (pc := 70) (v := 0) hx hb dX11_gutters_70 (by decide) ?_
      refine lv_istore (pc := 71) (lv' := [(4, .int (0 : Int32)), (0, .ref (G.1 40)), (1, .int i1), (2, .int i2), (3, .int i3)]) hx hb dX11_gutters_71 hl (by decide) rfl (fun ls hl => ?_)
      exact w_X11_gutters_73 X z_F i1 i2 i3 (0 : Int32) M H locs ls  hw (lv_sub hl [1, 2, 3, 4, 0] rfl) h
    · replace h := z_f c1 h
      refine lv_aload_n (pc := 48) hx hb dX11_gutters_48 rfl (lv_at hl 0 rfl) ?_
      refine zg_DrinkingRoofsModel_must (pc := 49) X hw zw_fl_5_114 dX11_gutters_49 ?_
      refine lv_iload (pc := 52) hx hb dX11_gutters_52 (lv_at hl 4 rfl) ?_
      refine lv_iconst (pc := 54) (v := 0) hx hb dX11_gutters_54 (by decide) ?_
      obtain ⟨g2, h⟩ := z_gd h
      refine z_iast (pc := 55) X hw zk_62 zl_62 g2 dX11_gutters_55 (fun HM3 lM3 wM3 => ?_)
      obtain ⟨M3, eM3, h⟩ := z_lo h
      rw [← eM3] at wM3
      refine lv_aload_n (pc := 56) hx hb dX11_gutters_56 rfl (lv_at hl 0 rfl) ?_
      refine zg_DrinkingRoofsModel_snow (pc := 57) X wM3 zw_fl_5_98 dX11_gutters_57 ?_
      refine lv_iload (pc := 60) hx hb dX11_gutters_60 (lv_at hl 4 rfl) ?_
      refine lv_iconst (pc := 62) (v := 0) hx hb dX11_gutters_62 (by decide) ?_
      obtain ⟨g4, h⟩ := z_gd h
      refine z_iast (pc := 63) X wM3 zk_55 zl_55 g4 dX11_gutters_63 (fun HM5 lM5 wM5 => ?_)
      obtain ⟨M5, eM5, h⟩ := z_lo h
      rw [← eM5] at wM5
      obtain ⟨v6, ev6, h⟩ := z_lo h
      refine lv_iinc (pc := 64) (v := v6) (lv' := [(4, .int v6), (0, .ref (G.1 40)), (1, .int i1), (2, .int i2), (3, .int i3)]) hx hb dX11_gutters_64 hl (k := 4) rfl (by rw [ev6]; rfl) (by decide) rfl (fun ls hl => ?_)
      refine lv_goto (pc := 67) (tgt := 42) hx hb dX11_gutters_67 (by decide) ?_
      exact ih i1 i2 i3 v6 M5 HM5 lM5 ls  wM5 (lv_sub hl [1, 2, 3, 4, 0] rfl) h
set_option maxHeartbeats 4000000 in
set_option maxRecDepth 100000 in
theorem m_X11_gutters {l : Launch} {G : zG} {i1 : Int32} {i2 : Int32} {M : zM} {r : Int32 × zM} (h : f_X11_gutters i1 i2 M = some r) : z_T l G 2 yX11_gutters (.code yX11_gutters cX11_gutters 9 (some .int)) [.ref (G.1 40), .int i1, .int i2] M (some (.int r.1)) r.2 := by
  refine z_of rfl ?_
  intro p e s m below meth c X hw
  have hl := lv_entry [.ref (G.1 40), .int i1, .int i2] (n := 9) (Nat.le_of_ble_eq_true rfl)
  rw [lg_entry_eq]
  generalize (lg_sl [.ref (G.1 40), .int i1, .int i2] ++ List.replicate (9 - (lg_sl [.ref (G.1 40), .int i1, .int i2]).length) Slot.unset).toArray = ls at hl ⊢
  have hl : lv_has ls 9 [(0, .ref (G.1 40)), (1, .int i1), (2, .int i2)] := hl
  generalize ([.ref (G.1 40), .int i1, .int i2] : List Value).toArray = args at X ⊢
  have X : z_C G p s m args meth c cX11_gutters 9 RX11 (some .int) := X
  have hx := X.1
  have hb := X.2.1
  unfold f_X11_gutters at h
  refine lv_aload_n (pc := 0) hx hb dX11_gutters_0 rfl (lv_at hl 0 rfl) ?_
  refine lv_iload_n (pc := 1) hx hb dX11_gutters_1 rfl (lv_at hl 1 rfl) ?_
  obtain ⟨x1, ex1, h⟩ := z_bd h
  refine z_cvI (pc := 2) (rest := []) X hw (m_X11_isStorm  ex1) (z_lt zk_40 (by decide)) (z_E11 zk_40) rfl zw_ml_5_236 zw_im_5_238 zw_se_S_37 zw_in_1_12 zw_co_5_239 zd_X11_isStorm (by decide) rfl hl.1 rfl (Nat.le_of_ble_eq_true rfl) dX11_gutters_2 ⟨Nat.zero_le _, Nat.zero_le _⟩ (fun Hx1 lx1 wx1 => ?_)
  refine lv_if_eq (pc := 5) (tgt := 30) hx hb dX11_gutters_5 (by decide) (fun c2 => ?_) (fun c2 => ?_)
  · replace h := z_t c2 h
    refine lv_iconst (pc := 30) (v := -1) hx hb dX11_gutters_30 (by decide) ?_
    obtain rfl := Option.some.inj h
    exact z_ri (pc := 31) X wx1 dX11_gutters_31
  · replace h := z_f c2 h
    refine lv_iload_n (pc := 8) hx hb dX11_gutters_8 rfl (lv_at hl 2 rfl) ?_
    refine lv_if_eq (pc := 9) (tgt := 32) hx hb dX11_gutters_9 (by decide) (fun c3 => ?_) (fun c3 => ?_)
    · replace h := z_t c3 h
      refine lv_aload_n (pc := 32) hx hb dX11_gutters_32 rfl (lv_at hl 0 rfl) ?_
      refine zg_DrinkingRoofsModel_w (pc := 33) X wx1 zw_fl_5_71 dX11_gutters_33 ?_
      refine lv_iconst (pc := 36) (v := 0) hx hb dX11_gutters_36 (by decide) ?_
      refine z_iald (pc := 37) X wx1 zk_41 zl_41 (z_il (by decide)) dX11_gutters_37 ?_
      obtain ⟨v4, ev4, h⟩ := z_lo h
      refine z_topi ev4 ?_
      refine lv_istore_n (pc := 38) (lv' := [(3, .int v4), (0, .ref (G.1 40)), (1, .int i1), (2, .int i2)]) hx hb dX11_gutters_38 rfl hl (by decide) rfl (fun ls hl => ?_)
      refine lv_iconst (pc := 39) (v := 0) hx hb dX11_gutters_39 (by decide) ?_
      refine lv_istore (pc := 40) (lv' := [(4, .int (0 : Int32)), (3, .int v4), (0, .ref (G.1 40)), (1, .int i1), (2, .int i2)]) hx hb dX11_gutters_40 hl (by decide) rfl (fun ls hl => ?_)
      exact w_X11_gutters_42 X z_F i1 i2 v4 (0 : Int32) x1.2 Hx1 lx1 ls  wx1 (lv_sub hl [2, 3, 4, 1, 0] rfl) h
    · replace h := z_f c3 h
      refine lv_iload_n (pc := 12) hx hb dX11_gutters_12 rfl (lv_at hl 2 rfl) ?_
      refine lv_bipush (pc := 13) (v := 10) hx hb dX11_gutters_13 (by decide) ?_
      refine lv_bipush (pc := 15) (v := 9) hx hb dX11_gutters_15 (by decide) ?_
      refine lv_aload_n (pc := 17) hx hb dX11_gutters_17 rfl (lv_at hl 0 rfl) ?_
      refine zg_DrinkingRoofsModel_w (pc := 18) X wx1 zw_fl_5_71 dX11_gutters_18 ?_
      refine lv_iconst (pc := 21) (v := 0) hx hb dX11_gutters_21 (by decide) ?_
      refine z_iald (pc := 22) X wx1 zk_41 zl_41 (z_il (by decide)) dX11_gutters_22 ?_
      refine lv_iadd (pc := 23) hx hb dX11_gutters_23 ?_
      obtain ⟨x5, ex5, h⟩ := z_bd h
      refine z_csI (pc := 24) (rest := []) X wx1 (m_X11_isIn  ex5) zw_ml_5_209 zw_st_5_210 zw_in_1_12 zw_co_5_211 zd_X11_isIn (by decide) rfl hl.1 rfl (Nat.le_of_ble_eq_true rfl) dX11_gutters_24 ⟨Nat.zero_le _, Nat.zero_le _⟩ (fun Hx5 lx5 wx5 => ?_)
      refine lv_if_ne (pc := 27) (tgt := 32) hx hb dX11_gutters_27 (by decide) (fun c6 => ?_) (fun c6 => ?_)
      · replace h := z_f c6 h
        refine lv_aload_n (pc := 32) hx hb dX11_gutters_32 rfl (lv_at hl 0 rfl) ?_
        refine zg_DrinkingRoofsModel_w (pc := 33) X wx5 zw_fl_5_71 dX11_gutters_33 ?_
        refine lv_iconst (pc := 36) (v := 0) hx hb dX11_gutters_36 (by decide) ?_
        refine z_iald (pc := 37) X wx5 zk_41 zl_41 (z_il (by decide)) dX11_gutters_37 ?_
        obtain ⟨v7, ev7, h⟩ := z_lo h
        refine z_topi ev7 ?_
        refine lv_istore_n (pc := 38) (lv' := [(3, .int v7), (0, .ref (G.1 40)), (1, .int i1), (2, .int i2)]) hx hb dX11_gutters_38 rfl hl (by decide) rfl (fun ls hl => ?_)
        refine lv_iconst (pc := 39) (v := 0) hx hb dX11_gutters_39 (by decide) ?_
        refine lv_istore (pc := 40) (lv' := [(4, .int (0 : Int32)), (3, .int v7), (0, .ref (G.1 40)), (1, .int i1), (2, .int i2)]) hx hb dX11_gutters_40 hl (by decide) rfl (fun ls hl => ?_)
        exact w_X11_gutters_42 X z_F i1 i2 v7 (0 : Int32) x5.2 Hx5 lx5 ls  wx5 (lv_sub hl [2, 3, 4, 1, 0] rfl) h
      · replace h := z_t c6 h
        refine lv_iconst (pc := 30) (v := -1) hx hb dX11_gutters_30 (by decide) ?_
        obtain rfl := Option.some.inj h
        exact z_ri (pc := 31) X wx5 dX11_gutters_31
def f_X11_stains_220 (K53 : Int32 → Int32 → Int32 → Int32 → Int32 → Int32 → Int32 → Int32 → zM → Option (Int32 × zM)) (K67 : Int32 → Int32 → Int32 → Int32 → Int32 → Int32 → Int32 → Int32 → Int32 → zM → Option (Int32 × zM)) (i1 : Int32) (i2 : Int32) (i3 : Int32) (i4 : Int32) (i6 : Int32) (i7 : Int32) (i8 : Int32) (i9 : Int32) (si0 : Int32) (M : zM) : Option (Int32 × zM) :=
    if i4 = 0 then (
      z_l (i4 + (1 : Int32)) fun v4 =>
      z_l (i9 + (1 : Int32)) fun v5 =>
      K67 i1 i2 i3 v4 si0 i9 i7 i8 v5 M
    ) else (
      z_l (i4 + (1 : Int32)) fun v2 =>
      z_l (i9 + (1 : Int32)) fun v3 =>
      K67 i1 i2 i3 v2 si0 i6 i7 i8 v3 M
    )
def f_X11_stains_147 (K53 : Int32 → Int32 → Int32 → Int32 → Int32 → Int32 → Int32 → Int32 → zM → Option (Int32 × zM)) (K67 : Int32 → Int32 → Int32 → Int32 → Int32 → Int32 → Int32 → Int32 → Int32 → zM → Option (Int32 × zM)) : Nat → Int32 → Int32 → Int32 → Int32 → Int32 → Int32 → Int32 → Int32 → Int32 → Int32 → Int32 → zM → Option (Int32 × zM)
  | 0, _, _, _, _, _, _, _, _, _, _, _, _ => none
  | n + 1, i1, i2, i3, i4, i5, i6, i7, i8, i9, i10, i11, M =>
    if i3 ≤ i11 then (
      if i10 = i1 then (
        if i4 = 0 then (
          if i4 = 0 then (
            f_X11_stains_220 K53 K67 i1 i2 i3 i4 i6 i9 i8 i9 i8 M
          ) else (
            f_X11_stains_220 K53 K67 i1 i2 i3 i4 i6 i9 i8 i9 i5 M
          )
        ) else (
          z_l (i7 &&& i9) fun v4 =>
          if i4 = 0 then (
            f_X11_stains_220 K53 K67 i1 i2 i3 i4 i6 v4 i8 i9 i8 M
          ) else (
            f_X11_stains_220 K53 K67 i1 i2 i3 i4 i6 v4 i8 i9 i5 M
          )
        )
      ) else (
        z_l (i9 + (1 : Int32)) fun v7 =>
        K67 i1 i2 i3 i4 i5 i6 i7 i8 v7 M
      )
    ) else (
      z_g (z_ix i11 11) <|
      if (M.1 56 (Int32.toNatClampNeg i11)) ≤ 0 then (
        z_l (i10 ||| (0 : Int32)) fun v10 =>
        z_l (i11 + (1 : Int32)) fun v11 =>
        f_X11_stains_147 K53 K67 n i1 i2 i3 i4 i5 i6 i7 i8 i9 v10 v11 M
      ) else (
        z_l (i10 ||| ((1 : Int32) <<< (i11 &&& 31))) fun v12 =>
        z_l (i11 + (1 : Int32)) fun v13 =>
        f_X11_stains_147 K53 K67 n i1 i2 i3 i4 i5 i6 i7 i8 i9 v12 v13 M
      )
    )
def f_X11_stains_82 (K53 : Int32 → Int32 → Int32 → Int32 → Int32 → Int32 → Int32 → Int32 → zM → Option (Int32 × zM)) (K67 : Int32 → Int32 → Int32 → Int32 → Int32 → Int32 → Int32 → Int32 → Int32 → zM → Option (Int32 × zM)) : Nat → Int32 → Int32 → Int32 → Int32 → Int32 → Int32 → Int32 → Int32 → Int32 → Int32 → zM → Option (Int32 × zM)
  | 0, _, _, _, _, _, _, _, _, _, _, _ => none
  | n + 1, i1, i2, i3, i4, i5, i6, i7, i8, i9, i10, M =>
    if i3 ≤ i10 then (
      (f_X11_runs i8 M).bind fun x2 =>
      f_X11_stains_147 K53 K67 z_F i1 i2 i3 i4 i5 i6 i7 i8 i9 (0 : Int32) (0 : Int32) x2.2
    ) else (
      if ((i9 >>> (i10 &&& 31)) &&& (1 : Int32)) = (1 : Int32) then (
        z_g (z_ix i10 11) <|
        z_l (z_w M 51 (Int32.toNatClampNeg i10) (10 : Int32)) fun M12 =>
        z_g (z_ix i10 11) <|
        z_l (z_w M12 54 (Int32.toNatClampNeg i10) (0 : Int32)) fun M14 =>
        z_g (z_ix i10 11) <|
        z_l (z_w M14 55 (Int32.toNatClampNeg i10) (0 : Int32)) fun M16 =>
        z_l (i10 + (1 : Int32)) fun v17 =>
        f_X11_stains_82 K53 K67 n i1 i2 i3 i4 i5 i6 i7 i8 i9 v17 M16
      ) else (
        z_g (z_ix i10 11) <|
        z_l (z_w M 51 (Int32.toNatClampNeg i10) (0 : Int32)) fun M5 =>
        z_g (z_ix i10 11) <|
        z_l (z_w M5 54 (Int32.toNatClampNeg i10) (0 : Int32)) fun M7 =>
        z_g (z_ix i10 11) <|
        z_l (z_w M7 55 (Int32.toNatClampNeg i10) (0 : Int32)) fun M9 =>
        z_l (i10 + (1 : Int32)) fun v10 =>
        f_X11_stains_82 K53 K67 n i1 i2 i3 i4 i5 i6 i7 i8 i9 v10 M9
      )
    )
def f_X11_stains_67 (K53 : Int32 → Int32 → Int32 → Int32 → Int32 → Int32 → Int32 → Int32 → zM → Option (Int32 × zM)) : Nat → Int32 → Int32 → Int32 → Int32 → Int32 → Int32 → Int32 → Int32 → Int32 → zM → Option (Int32 × zM)
  | 0, _, _, _, _, _, _, _, _, _, _ => none
  | n + 1, i1, i2, i3, i4, i5, i6, i7, i8, i9, M =>
    if ((1 : Int32) <<< (i3 &&& 31)) ≤ i9 then (
      z_l (i8 + (1 : Int32)) fun v2 =>
      K53 i1 i2 i3 i4 i5 i6 i7 v2 M
    ) else (
      (f_X11_laysHouses  M).bind fun x3 =>
      f_X11_stains_82 K53 (f_X11_stains_67 K53 n) z_F i1 i2 i3 i4 i5 i6 i7 i8 i9 (0 : Int32) x3
    )
def f_X11_stains_53 : Nat → Int32 → Int32 → Int32 → Int32 → Int32 → Int32 → Int32 → Int32 → zM → Option (Int32 × zM)
  | 0, _, _, _, _, _, _, _, _, _ => none
  | n + 1, i1, i2, i3, i4, i5, i6, i7, i8, M =>
    if (M.1 41 (Int32.toNatClampNeg (1 : Int32))) ≤ i8 then (
      if i2 = 0 then (
        some (i4, M)
      ) else (
        if i2 = (1 : Int32) then (
          some (i5, M)
        ) else (
          if i2 = (2 : Int32) then (
            some (i6, M)
          ) else (
            some (i7, M)
          )
        )
      )
    ) else (
      f_X11_stains_67 (f_X11_stains_53 n) z_F i1 i2 i3 i4 i5 i6 i7 i8 (0 : Int32) M
    )
def f_X11_stains (i1 : Int32) (i2 : Int32) (M : zM) : Option (Int32 × zM) :=
  z_l (M.1 41 (Int32.toNatClampNeg (0 : Int32))) fun v1 =>
  if (8 : Int32) < v1 then (
    some ((-2 : Int32), M)
  ) else (
    (f_X11_isIn i1 (0 : Int32) (((1 : Int32) <<< (v1 &&& 31)) - (1 : Int32)) M).bind fun x3 =>
    if x3.1 = 0 then (
      some ((-2 : Int32), x3.2)
    ) else (
      (f_X11_isIn i2 (0 : Int32) (3 : Int32) x3.2).bind fun x5 =>
      if x5.1 = 0 then (
        some ((-2 : Int32), x5.2)
      ) else (
        f_X11_stains_53 z_F i1 i2 v1 (0 : Int32) (-1 : Int32) (-1 : Int32) (0 : Int32) (0 : Int32) x5.2
      )
    )
  )
set_option maxHeartbeats 4000000 in
set_option maxRecDepth 100000 in
theorem w_X11_stains_220 {G : zG} {p : Program} {l : Launch} {e : Env} {s : State} {m : MethodId} {args : Array Value} {below : List Frame} {meth : Method} {c : Code} (X : z_C G p s m args meth c cX11_stains 12 RX11 (some .int)) {r : Int32 × zM} {K53 : Int32 → Int32 → Int32 → Int32 → Int32 → Int32 → Int32 → Int32 → zM → Option (Int32 × zM)} (hK53 : ∀ (i1 : Int32) (i2 : Int32) (i3 : Int32) (i4 : Int32) (i5 : Int32) (i6 : Int32) (i7 : Int32) (i8 : Int32) (M : zM) (H : Heap) (locs : List Loc) (ls : Array Slot), z_W G M H locs → lv_has ls 12 [(0, .ref (G.1 40)), (1, .int i1), (2, .int i2), (3, .int i3), (4, .int i4), (5, .int i5), (6, .int i6), (7, .int i7), (8, .int i8)] → K53 i1 i2 i3 i4 i5 i6 i7 i8 M = some r → W p l e (z_rm 3) s m args below meth c H locs 0 0 (z_Q G below args s (some (.int r.1)) r.2) (F0 m 53 ls [])) {K67 : Int32 → Int32 → Int32 → Int32 → Int32 → Int32 → Int32 → Int32 → Int32 → zM → Option (Int32 × zM)} (hK67 : ∀ (i1 : Int32) (i2 : Int32) (i3 : Int32) (i4 : Int32) (i5 : Int32) (i6 : Int32) (i7 : Int32) (i8 : Int32) (i9 : Int32) (M : zM) (H : Heap) (locs : List Loc) (ls : Array Slot), z_W G M H locs → lv_has ls 12 [(0, .ref (G.1 40)), (1, .int i1), (2, .int i2), (3, .int i3), (4, .int i4), (5, .int i5), (6, .int i6), (7, .int i7), (8, .int i8), (9, .int i9)] → K67 i1 i2 i3 i4 i5 i6 i7 i8 i9 M = some r → W p l e (z_rm 3) s m args below meth c H locs 0 0 (z_Q G below args s (some (.int r.1)) r.2) (F0 m 67 ls [])) : ∀ (i1 : Int32) (i2 : Int32) (i3 : Int32) (i4 : Int32) (i6 : Int32) (i7 : Int32) (i8 : Int32) (i9 : Int32) (si0 : Int32) (M : zM) (H : Heap) (locs : List Loc) (ls : Array Slot), z_W G M H locs → lv_has ls 12 [(0, .ref (G.1 40)), (1, .int i1), (2, .int i2), (3, .int i3), (4, .int i4), (6, .int i6), (7, .int i7), (8, .int i8), (9, .int i9)] → f_X11_stains_220 K53 K67 i1 i2 i3 i4 i6 i7 i8 i9 si0 M = some r → W p l e (z_rm 3) s m args below meth c H locs 0 0 (z_Q G below args s (some (.int r.1)) r.2) (F0 m 220 ls [.int si0]) := by
  have hx := X.1
  have hb := X.2.1
  intro i1 i2 i3 i4 i6 i7 i8 i9 si0 M H locs ls  hw hl h
  unfold f_X11_stains_220 at h
  refine lv_istore (pc := 220) (lv' := [(5, .int si0), (0, .ref (G.1 40)), (1, .int i1), (2, .int i2), (3, .int i3), (4, .int i4), (6, .int i6), (7, .int i7), (8, .int i8), (9, .int i9)]) hx hb dX11_stains_220 hl (by decide) rfl (fun ls hl => ?_)
  refine lv_iload (pc := 222) hx hb dX11_stains_222 (lv_at hl 5 rfl) ?_
  refine lv_if_ne (pc := 224) (tgt := 232) hx hb dX11_stains_224 (by decide) (fun c1 => ?_) (fun c1 => ?_)
  · replace h := z_f c1 h
    refine lv_iload (pc := 232) hx hb dX11_stains_232 (lv_at hl 6 rfl) ?_
    refine lv_istore (pc := 234) (lv' := [(6, .int i6), (5, .int si0), (0, .ref (G.1 40)), (1, .int i1), (2, .int i2), (3, .int i3), (4, .int i4), (7, .int i7), (8, .int i8), (9, .int i9)]) hx hb dX11_stains_234 hl (by decide) rfl (fun ls hl => ?_)
    obtain ⟨v2, ev2, h⟩ := z_lo h
    refine lv_iinc (pc := 236) (v := v2) (lv' := [(4, .int v2), (6, .int i6), (5, .int si0), (0, .ref (G.1 40)), (1, .int i1), (2, .int i2), (3, .int i3), (7, .int i7), (8, .int i8), (9, .int i9)]) hx hb dX11_stains_236 hl (k := 6) rfl (by rw [ev2]; rfl) (by decide) rfl (fun ls hl => ?_)
    obtain ⟨v3, ev3, h⟩ := z_lo h
    refine lv_iinc (pc := 239) (v := v3) (lv' := [(9, .int v3), (4, .int v2), (6, .int i6), (5, .int si0), (0, .ref (G.1 40)), (1, .int i1), (2, .int i2), (3, .int i3), (7, .int i7), (8, .int i8)]) hx hb dX11_stains_239 hl (k := 9) rfl (by rw [ev3]; rfl) (by decide) rfl (fun ls hl => ?_)
    refine lv_goto (pc := 242) (tgt := 67) hx hb dX11_stains_242 (by decide) ?_
    exact hK67 i1 i2 i3 v2 si0 i6 i7 i8 v3 M H locs ls  hw (lv_sub hl [4, 5, 6, 7, 1, 3, 2, 8, 9, 0] rfl) h
  · replace h := z_t c1 h
    refine lv_iload (pc := 227) hx hb dX11_stains_227 (lv_at hl 9 rfl) ?_
    refine lv_goto (pc := 229) (tgt := 234) hx hb dX11_stains_229 (by decide) ?_
    refine lv_istore (pc := 234) (lv' := [(6, .int i9), (5, .int si0), (0, .ref (G.1 40)), (1, .int i1), (2, .int i2), (3, .int i3), (4, .int i4), (7, .int i7), (8, .int i8), (9, .int i9)]) hx hb dX11_stains_234 hl (by decide) rfl (fun ls hl => ?_)
    obtain ⟨v4, ev4, h⟩ := z_lo h
    refine lv_iinc (pc := 236) (v := v4) (lv' := [(4, .int v4), (6, .int i9), (5, .int si0), (0, .ref (G.1 40)), (1, .int i1), (2, .int i2), (3, .int i3), (7, .int i7), (8, .int i8), (9, .int i9)]) hx hb dX11_stains_236 hl (k := 6) rfl (by rw [ev4]; rfl) (by decide) rfl (fun ls hl => ?_)
    obtain ⟨v5, ev5, h⟩ := z_lo h
    refine lv_iinc (pc := 239) (v := v5) (lv' := [(9, .int v5), (4, .int v4), (6, .int i9), (5, .int si0), (0, .ref (G.1 40)), (1, .int i1), (2, .int i2), (3, .int i3), (7, .int i7), (8, .int i8)]) hx hb dX11_stains_239 hl (k := 9) rfl (by rw [ev5]; rfl) (by decide) rfl (fun ls hl => ?_)
    refine lv_goto (pc := 242) (tgt := 67) hx hb dX11_stains_242 (by decide) ?_
    exact hK67 i1 i2 i3 v4 si0 i9 i7 i8 v5 M H locs ls  hw (lv_sub hl [4, 5, 6, 7, 1, 3, 2, 8, 9, 0] rfl) h
set_option maxHeartbeats 4000000 in
set_option maxRecDepth 100000 in
theorem w_X11_stains_147 {G : zG} {p : Program} {l : Launch} {e : Env} {s : State} {m : MethodId} {args : Array Value} {below : List Frame} {meth : Method} {c : Code} (X : z_C G p s m args meth c cX11_stains 12 RX11 (some .int)) {r : Int32 × zM} {K53 : Int32 → Int32 → Int32 → Int32 → Int32 → Int32 → Int32 → Int32 → zM → Option (Int32 × zM)} (hK53 : ∀ (i1 : Int32) (i2 : Int32) (i3 : Int32) (i4 : Int32) (i5 : Int32) (i6 : Int32) (i7 : Int32) (i8 : Int32) (M : zM) (H : Heap) (locs : List Loc) (ls : Array Slot), z_W G M H locs → lv_has ls 12 [(0, .ref (G.1 40)), (1, .int i1), (2, .int i2), (3, .int i3), (4, .int i4), (5, .int i5), (6, .int i6), (7, .int i7), (8, .int i8)] → K53 i1 i2 i3 i4 i5 i6 i7 i8 M = some r → W p l e (z_rm 3) s m args below meth c H locs 0 0 (z_Q G below args s (some (.int r.1)) r.2) (F0 m 53 ls [])) {K67 : Int32 → Int32 → Int32 → Int32 → Int32 → Int32 → Int32 → Int32 → Int32 → zM → Option (Int32 × zM)} (hK67 : ∀ (i1 : Int32) (i2 : Int32) (i3 : Int32) (i4 : Int32) (i5 : Int32) (i6 : Int32) (i7 : Int32) (i8 : Int32) (i9 : Int32) (M : zM) (H : Heap) (locs : List Loc) (ls : Array Slot), z_W G M H locs → lv_has ls 12 [(0, .ref (G.1 40)), (1, .int i1), (2, .int i2), (3, .int i3), (4, .int i4), (5, .int i5), (6, .int i6), (7, .int i7), (8, .int i8), (9, .int i9)] → K67 i1 i2 i3 i4 i5 i6 i7 i8 i9 M = some r → W p l e (z_rm 3) s m args below meth c H locs 0 0 (z_Q G below args s (some (.int r.1)) r.2) (F0 m 67 ls [])) : ∀ (n : Nat) (i1 : Int32) (i2 : Int32) (i3 : Int32) (i4 : Int32) (i5 : Int32) (i6 : Int32) (i7 : Int32) (i8 : Int32) (i9 : Int32) (i10 : Int32) (i11 : Int32) (M : zM) (H : Heap) (locs : List Loc) (ls : Array Slot), z_W G M H locs → lv_has ls 12 [(0, .ref (G.1 40)), (1, .int i1), (2, .int i2), (3, .int i3), (4, .int i4), (5, .int i5), (6, .int i6), (7, .int i7), (8, .int i8), (9, .int i9), (10, .int i10), (11, .int i11)] → f_X11_stains_147 K53 K67 n i1 i2 i3 i4 i5 i6 i7 i8 i9 i10 i11 M = some r → W p l e (z_rm 3) s m args below meth c H locs 0 0 (z_Q G below args s (some (.int r.1)) r.2) (F0 m 147 ls []) := by
  have hx := X.1
  have hb := X.2.1
  intro n
  induction n with
  | zero =>
    intro i1 i2 i3 i4 i5 i6 i7 i8 i9 i10 i11 M H locs ls  hw hl h
    exact z_no h
  | succ n ih =>
    intro i1 i2 i3 i4 i5 i6 i7 i8 i9 i10 i11 M H locs ls  hw hl h
    rw [f_X11_stains_147] at h
    refine lv_iload (pc := 147) hx hb dX11_stains_147 (lv_at hl 11 rfl) ?_
    refine lv_iload_n (pc := 149) hx hb dX11_stains_149 rfl (lv_at hl 3 rfl) ?_
    refine lv_icmp_ge (pc := 150) (tgt := 182) hx hb dX11_stains_150 (by decide) (fun c1 => ?_) (fun c1 => ?_)
    · replace h := z_t c1 h
      refine lv_iload (pc := 182) hx hb dX11_stains_182 (lv_at hl 10 rfl) ?_
      refine lv_iload_n (pc := 184) hx hb dX11_stains_184 rfl (lv_at hl 1 rfl) ?_
      refine lv_icmp_eq (pc := 185) (tgt := 191) hx hb dX11_stains_185 (by decide) (fun c2 => ?_) (fun c2 => ?_)
      · replace h := z_t c2 h
        refine lv_iload (pc := 191) hx hb dX11_stains_191 (lv_at hl 4 rfl) ?_
        refine lv_if_ne (pc := 193) (tgt := 201) hx hb dX11_stains_193 (by decide) (fun c3 => ?_) (fun c3 => ?_)
        · replace h := z_f c3 h
          refine lv_iload (pc := 201) hx hb dX11_stains_201 (lv_at hl 7 rfl) ?_
          refine lv_iload (pc := 203) hx hb dX11_stains_203 (lv_at hl 9 rfl) ?_
          refine lv_iand (pc := 205) hx hb dX11_stains_205 ?_
          obtain ⟨v4, ev4, h⟩ := z_lo h
          refine z_topi ev4 ?_
          refine lv_istore (pc := 206) (lv' := [(7, .int v4), (0, .ref (G.1 40)), (1, .int i1), (2, .int i2), (3, .int i3), (4, .int i4), (5, .int i5), (6, .int i6), (8, .int i8), (9, .int i9), (10, .int i10), (11, .int i11)]) hx hb dX11_stains_206 hl (by decide) rfl (fun ls hl => ?_)
          refine lv_iload (pc := 208) hx hb dX11_stains_208 (lv_at hl 5 rfl) ?_
          refine lv_if_ne (pc := 210) (tgt := 218) hx hb dX11_stains_210 (by decide) (fun c5 => ?_) (fun c5 => ?_)
          · replace h := z_f c5 h
            refine lv_iload (pc := 218) hx hb dX11_stains_218 (lv_at hl 6 rfl) ?_
            exact w_X11_stains_220 X hK53 hK67 i1 i2 i3 i4 i6 v4 i8 i9 i5 M H locs ls  hw (lv_sub hl [1, 2, 3, 4, 5, 7, 0, 8, 9] rfl) h
          · replace h := z_t c5 h
            refine lv_iload (pc := 213) hx hb dX11_stains_213 (lv_at hl 8 rfl) ?_
            refine lv_goto (pc := 215) (tgt := 220) hx hb dX11_stains_215 (by decide) ?_
            exact w_X11_stains_220 X hK53 hK67 i1 i2 i3 i4 i6 v4 i8 i9 i8 M H locs ls  hw (lv_sub hl [1, 2, 3, 4, 5, 7, 0, 8, 9] rfl) h
        · replace h := z_t c3 h
          refine lv_iload (pc := 196) hx hb dX11_stains_196 (lv_at hl 9 rfl) ?_
          refine lv_goto (pc := 198) (tgt := 206) hx hb dX11_stains_198 (by decide) ?_
          refine lv_istore (pc := 206) (lv' := [(7, .int i9), (0, .ref (G.1 40)), (1, .int i1), (2, .int i2), (3, .int i3), (4, .int i4), (5, .int i5), (6, .int i6), (8, .int i8), (9, .int i9), (10, .int i10), (11, .int i11)]) hx hb dX11_stains_206 hl (by decide) rfl (fun ls hl => ?_)
          refine lv_iload (pc := 208) hx hb dX11_stains_208 (lv_at hl 5 rfl) ?_
          refine lv_if_ne (pc := 210) (tgt := 218) hx hb dX11_stains_210 (by decide) (fun c6 => ?_) (fun c6 => ?_)
          · replace h := z_f c6 h
            refine lv_iload (pc := 218) hx hb dX11_stains_218 (lv_at hl 6 rfl) ?_
            exact w_X11_stains_220 X hK53 hK67 i1 i2 i3 i4 i6 i9 i8 i9 i5 M H locs ls  hw (lv_sub hl [1, 2, 3, 4, 5, 7, 0, 8, 9] rfl) h
          · replace h := z_t c6 h
            refine lv_iload (pc := 213) hx hb dX11_stains_213 (lv_at hl 8 rfl) ?_
            refine lv_goto (pc := 215) (tgt := 220) hx hb dX11_stains_215 (by decide) ?_
            exact w_X11_stains_220 X hK53 hK67 i1 i2 i3 i4 i6 i9 i8 i9 i8 M H locs ls  hw (lv_sub hl [1, 2, 3, 4, 5, 7, 0, 8, 9] rfl) h
      · replace h := z_f c2 h
        refine lv_goto (pc := 188) (tgt := 239) hx hb dX11_stains_188 (by decide) ?_
        obtain ⟨v7, ev7, h⟩ := z_lo h
        refine lv_iinc (pc := 239) (v := v7) (lv' := [(9, .int v7), (0, .ref (G.1 40)), (1, .int i1), (2, .int i2), (3, .int i3), (4, .int i4), (5, .int i5), (6, .int i6), (7, .int i7), (8, .int i8), (10, .int i10), (11, .int i11)]) hx hb dX11_stains_239 hl (k := 9) rfl (by rw [ev7]; rfl) (by decide) rfl (fun ls hl => ?_)
        refine lv_goto (pc := 242) (tgt := 67) hx hb dX11_stains_242 (by decide) ?_
        exact hK67 i1 i2 i3 i4 i5 i6 i7 i8 v7 M H locs ls  hw (lv_sub hl [1, 2, 3, 4, 5, 6, 7, 8, 9, 0] rfl) h
    · replace h := z_f c1 h
      refine lv_iload (pc := 153) hx hb dX11_stains_153 (lv_at hl 10 rfl) ?_
      refine lv_aload_n (pc := 155) hx hb dX11_stains_155 rfl (lv_at hl 0 rfl) ?_
      refine zg_DrinkingRoofsModel_over (pc := 156) X hw zw_fl_5_99 dX11_stains_156 ?_
      refine lv_iload (pc := 159) hx hb dX11_stains_159 (lv_at hl 11 rfl) ?_
      obtain ⟨g8, h⟩ := z_gd h
      refine z_iald (pc := 161) X hw zk_56 zl_56 g8 dX11_stains_161 ?_
      refine lv_if_le (pc := 162) (tgt := 172) hx hb dX11_stains_162 (by decide) (fun c9 => ?_) (fun c9 => ?_)
      · replace h := z_t c9 h
        refine lv_iconst (pc := 172) (v := 0) hx hb dX11_stains_172 (by decide) ?_
        refine lv_ior (pc := 173) hx hb dX11_stains_173 ?_
        obtain ⟨v10, ev10, h⟩ := z_lo h
        refine z_topi ev10 ?_
        refine lv_istore (pc := 174) (lv' := [(10, .int v10), (0, .ref (G.1 40)), (1, .int i1), (2, .int i2), (3, .int i3), (4, .int i4), (5, .int i5), (6, .int i6), (7, .int i7), (8, .int i8), (9, .int i9), (11, .int i11)]) hx hb dX11_stains_174 hl (by decide) rfl (fun ls hl => ?_)
        obtain ⟨v11, ev11, h⟩ := z_lo h
        refine lv_iinc (pc := 176) (v := v11) (lv' := [(11, .int v11), (10, .int v10), (0, .ref (G.1 40)), (1, .int i1), (2, .int i2), (3, .int i3), (4, .int i4), (5, .int i5), (6, .int i6), (7, .int i7), (8, .int i8), (9, .int i9)]) hx hb dX11_stains_176 hl (k := 11) rfl (by rw [ev11]; rfl) (by decide) rfl (fun ls hl => ?_)
        refine lv_goto (pc := 179) (tgt := 147) hx hb dX11_stains_179 (by decide) ?_
        exact ih i1 i2 i3 i4 i5 i6 i7 i8 i9 v10 v11 M H locs ls  hw (lv_sub hl [2, 3, 4, 5, 6, 7, 8, 9, 10, 11, 1, 0] rfl) h
      · replace h := z_f c9 h
        refine lv_iconst (pc := 165) (v := 1) hx hb dX11_stains_165 (by decide) ?_
        refine lv_iload (pc := 166) hx hb dX11_stains_166 (lv_at hl 11 rfl) ?_
        refine lv_ishl (pc := 168) hx hb dX11_stains_168 ?_
        refine lv_goto (pc := 169) (tgt := 173) hx hb dX11_stains_169 (by decide) ?_
        refine lv_ior (pc := 173) hx hb dX11_stains_173 ?_
        obtain ⟨v12, ev12, h⟩ := z_lo h
        refine z_topi ev12 ?_
        refine lv_istore (pc := 174) (lv' := [(10, .int v12), (0, .ref (G.1 40)), (1, .int i1), (2, .int i2), (3, .int i3), (4, .int i4), (5, .int i5), (6, .int i6), (7, .int i7), (8, .int i8), (9, .int i9), (11, .int i11)]) hx hb dX11_stains_174 hl (by decide) rfl (fun ls hl => ?_)
        obtain ⟨v13, ev13, h⟩ := z_lo h
        refine lv_iinc (pc := 176) (v := v13) (lv' := [(11, .int v13), (10, .int v12), (0, .ref (G.1 40)), (1, .int i1), (2, .int i2), (3, .int i3), (4, .int i4), (5, .int i5), (6, .int i6), (7, .int i7), (8, .int i8), (9, .int i9)]) hx hb dX11_stains_176 hl (k := 11) rfl (by rw [ev13]; rfl) (by decide) rfl (fun ls hl => ?_)
        refine lv_goto (pc := 179) (tgt := 147) hx hb dX11_stains_179 (by decide) ?_
        exact ih i1 i2 i3 i4 i5 i6 i7 i8 i9 v12 v13 M H locs ls  hw (lv_sub hl [2, 3, 4, 5, 6, 7, 8, 9, 10, 11, 1, 0] rfl) h
set_option maxHeartbeats 4000000 in
set_option maxRecDepth 100000 in
theorem w_X11_stains_82 {G : zG} {p : Program} {l : Launch} {e : Env} {s : State} {m : MethodId} {args : Array Value} {below : List Frame} {meth : Method} {c : Code} (X : z_C G p s m args meth c cX11_stains 12 RX11 (some .int)) {r : Int32 × zM} {K53 : Int32 → Int32 → Int32 → Int32 → Int32 → Int32 → Int32 → Int32 → zM → Option (Int32 × zM)} (hK53 : ∀ (i1 : Int32) (i2 : Int32) (i3 : Int32) (i4 : Int32) (i5 : Int32) (i6 : Int32) (i7 : Int32) (i8 : Int32) (M : zM) (H : Heap) (locs : List Loc) (ls : Array Slot), z_W G M H locs → lv_has ls 12 [(0, .ref (G.1 40)), (1, .int i1), (2, .int i2), (3, .int i3), (4, .int i4), (5, .int i5), (6, .int i6), (7, .int i7), (8, .int i8)] → K53 i1 i2 i3 i4 i5 i6 i7 i8 M = some r → W p l e (z_rm 3) s m args below meth c H locs 0 0 (z_Q G below args s (some (.int r.1)) r.2) (F0 m 53 ls [])) {K67 : Int32 → Int32 → Int32 → Int32 → Int32 → Int32 → Int32 → Int32 → Int32 → zM → Option (Int32 × zM)} (hK67 : ∀ (i1 : Int32) (i2 : Int32) (i3 : Int32) (i4 : Int32) (i5 : Int32) (i6 : Int32) (i7 : Int32) (i8 : Int32) (i9 : Int32) (M : zM) (H : Heap) (locs : List Loc) (ls : Array Slot), z_W G M H locs → lv_has ls 12 [(0, .ref (G.1 40)), (1, .int i1), (2, .int i2), (3, .int i3), (4, .int i4), (5, .int i5), (6, .int i6), (7, .int i7), (8, .int i8), (9, .int i9)] → K67 i1 i2 i3 i4 i5 i6 i7 i8 i9 M = some r → W p l e (z_rm 3) s m args below meth c H locs 0 0 (z_Q G below args s (some (.int r.1)) r.2) (F0 m 67 ls [])) : ∀ (n : Nat) (i1 : Int32) (i2 : Int32) (i3 : Int32) (i4 : Int32) (i5 : Int32) (i6 : Int32) (i7 : Int32) (i8 : Int32) (i9 : Int32) (i10 : Int32) (M : zM) (H : Heap) (locs : List Loc) (ls : Array Slot), z_W G M H locs → lv_has ls 12 [(0, .ref (G.1 40)), (1, .int i1), (2, .int i2), (3, .int i3), (4, .int i4), (5, .int i5), (6, .int i6), (7, .int i7), (8, .int i8), (9, .int i9), (10, .int i10)] → f_X11_stains_82 K53 K67 n i1 i2 i3 i4 i5 i6 i7 i8 i9 i10 M = some r → W p l e (z_rm 3) s m args below meth c H locs 0 0 (z_Q G below args s (some (.int r.1)) r.2) (F0 m 82 ls []) := by
  have hx := X.1
  have hb := X.2.1
  intro n
  induction n with
  | zero =>
    intro i1 i2 i3 i4 i5 i6 i7 i8 i9 i10 M H locs ls  hw hl h
    exact z_no h
  | succ n ih =>
    intro i1 i2 i3 i4 i5 i6 i7 i8 i9 i10 M H locs ls  hw hl h
    rw [f_X11_stains_82] at h
    refine lv_iload (pc := 82) hx hb dX11_stains_82 (lv_at hl 10 rfl) ?_
    refine lv_iload_n (pc := 84) hx hb dX11_stains_84 rfl (lv_at hl 3 rfl) ?_
    refine lv_icmp_ge (pc := 85) (tgt := 134) hx hb dX11_stains_85 (by decide) (fun c1 => ?_) (fun c1 => ?_)
    · replace h := z_t c1 h
      refine lv_aload_n (pc := 134) hx hb dX11_stains_134 rfl (lv_at hl 0 rfl) ?_
      refine lv_iload (pc := 135) hx hb dX11_stains_135 (lv_at hl 8 rfl) ?_
      obtain ⟨x2, ex2, h⟩ := z_bd h
      refine z_cvI (pc := 137) (rest := []) X hw (m_X11_runs  ex2) (z_lt zk_40 (by decide)) (z_E11 zk_40) rfl zw_ml_6_117 zw_im_6_119 zw_se_S_57 zw_in_1_12 zw_co_6_120 zd_X11_runs (by decide) rfl hl.1 rfl (Nat.le_of_ble_eq_true rfl) dX11_stains_137 ⟨Nat.zero_le _, Nat.zero_le _⟩ (fun Hx2 lx2 wx2 => ?_)
      refine lv_pop (pc := 140) hx hb dX11_stains_140 rfl ?_
      refine lv_iconst (pc := 141) (v := 0) hx hb dX11_stains_141 (by decide) ?_
      refine lv_istore (pc := 142) (lv' := [(10, .int (0 : Int32)), (0, .ref (G.1 40)), (1, .int i1), (2, .int i2), (3, .int i3), (4, .int i4), (5, .int i5), (6, .int i6), (7, .int i7), (8, .int i8), (9, .int i9)]) hx hb dX11_stains_142 hl (by decide) rfl (fun ls hl => ?_)
      refine lv_iconst (pc := 144) (v := 0) hx hb dX11_stains_144 (by decide) ?_
      refine lv_istore (pc := 145) (lv' := [(11, .int (0 : Int32)), (10, .int (0 : Int32)), (0, .ref (G.1 40)), (1, .int i1), (2, .int i2), (3, .int i3), (4, .int i4), (5, .int i5), (6, .int i6), (7, .int i7), (8, .int i8), (9, .int i9)]) hx hb dX11_stains_145 hl (by decide) rfl (fun ls hl => ?_)
      exact w_X11_stains_147 X hK53 hK67 z_F i1 i2 i3 i4 i5 i6 i7 i8 i9 (0 : Int32) (0 : Int32) x2.2 Hx2 lx2 ls  wx2 (lv_sub hl [2, 3, 4, 5, 6, 7, 8, 9, 10, 11, 1, 0] rfl) h
    · replace h := z_f c1 h
      refine lv_aload_n (pc := 88) hx hb dX11_stains_88 rfl (lv_at hl 0 rfl) ?_
      refine zg_DrinkingRoofsModel_clog (pc := 89) X hw zw_fl_5_94 dX11_stains_89 ?_
      refine lv_iload (pc := 92) hx hb dX11_stains_92 (lv_at hl 10 rfl) ?_
      refine lv_iload (pc := 94) hx hb dX11_stains_94 (lv_at hl 9 rfl) ?_
      refine lv_iload (pc := 96) hx hb dX11_stains_96 (lv_at hl 10 rfl) ?_
      refine lv_ishr (pc := 98) hx hb dX11_stains_98 ?_
      refine lv_iconst (pc := 99) (v := 1) hx hb dX11_stains_99 (by decide) ?_
      refine lv_iand (pc := 100) hx hb dX11_stains_100 ?_
      refine lv_iconst (pc := 101) (v := 1) hx hb dX11_stains_101 (by decide) ?_
      refine lv_icmp_ne (pc := 102) (tgt := 110) hx hb dX11_stains_102 (by decide) (fun c3 => ?_) (fun c3 => ?_)
      · replace h := z_f c3 h
        refine lv_iconst (pc := 110) (v := 0) hx hb dX11_stains_110 (by decide) ?_
        obtain ⟨g4, h⟩ := z_gd h
        refine z_iast (pc := 111) X hw zk_51 zl_51 g4 dX11_stains_111 (fun HM5 lM5 wM5 => ?_)
        obtain ⟨M5, eM5, h⟩ := z_lo h
        rw [← eM5] at wM5
        refine lv_aload_n (pc := 112) hx hb dX11_stains_112 rfl (lv_at hl 0 rfl) ?_
        refine zg_DrinkingRoofsModel_held (pc := 113) X wM5 zw_fl_5_97 dX11_stains_113 ?_
        refine lv_iload (pc := 116) hx hb dX11_stains_116 (lv_at hl 10 rfl) ?_
        refine lv_iconst (pc := 118) (v := 0) hx hb dX11_stains_118 (by decide) ?_
        obtain ⟨g6, h⟩ := z_gd h
        refine z_iast (pc := 119) X wM5 zk_54 zl_54 g6 dX11_stains_119 (fun HM7 lM7 wM7 => ?_)
        obtain ⟨M7, eM7, h⟩ := z_lo h
        rw [← eM7] at wM7
        refine lv_aload_n (pc := 120) hx hb dX11_stains_120 rfl (lv_at hl 0 rfl) ?_
        refine zg_DrinkingRoofsModel_snow (pc := 121) X wM7 zw_fl_5_98 dX11_stains_121 ?_
        refine lv_iload (pc := 124) hx hb dX11_stains_124 (lv_at hl 10 rfl) ?_
        refine lv_iconst (pc := 126) (v := 0) hx hb dX11_stains_126 (by decide) ?_
        obtain ⟨g8, h⟩ := z_gd h
        refine z_iast (pc := 127) X wM7 zk_55 zl_55 g8 dX11_stains_127 (fun HM9 lM9 wM9 => ?_)
        obtain ⟨M9, eM9, h⟩ := z_lo h
        rw [← eM9] at wM9
        obtain ⟨v10, ev10, h⟩ := z_lo h
        refine lv_iinc (pc := 128) (v := v10) (lv' := [(10, .int v10), (0, .ref (G.1 40)), (1, .int i1), (2, .int i2), (3, .int i3), (4, .int i4), (5, .int i5), (6, .int i6), (7, .int i7), (8, .int i8), (9, .int i9)]) hx hb dX11_stains_128 hl (k := 10) rfl (by rw [ev10]; rfl) (by decide) rfl (fun ls hl => ?_)
        refine lv_goto (pc := 131) (tgt := 82) hx hb dX11_stains_131 (by decide) ?_
        exact ih i1 i2 i3 i4 i5 i6 i7 i8 i9 v10 M9 HM9 lM9 ls  wM9 (lv_sub hl [1, 2, 3, 4, 5, 6, 7, 8, 9, 10, 0] rfl) h
      · replace h := z_t c3 h
        refine lv_bipush (pc := 105) (v := 10) hx hb dX11_stains_105 (by decide) ?_
        refine lv_goto (pc := 107) (tgt := 111) hx hb dX11_stains_107 (by decide) ?_
        obtain ⟨g11, h⟩ := z_gd h
        refine z_iast (pc := 111) X hw zk_51 zl_51 g11 dX11_stains_111 (fun HM12 lM12 wM12 => ?_)
        obtain ⟨M12, eM12, h⟩ := z_lo h
        rw [← eM12] at wM12
        refine lv_aload_n (pc := 112) hx hb dX11_stains_112 rfl (lv_at hl 0 rfl) ?_
        refine zg_DrinkingRoofsModel_held (pc := 113) X wM12 zw_fl_5_97 dX11_stains_113 ?_
        refine lv_iload (pc := 116) hx hb dX11_stains_116 (lv_at hl 10 rfl) ?_
        refine lv_iconst (pc := 118) (v := 0) hx hb dX11_stains_118 (by decide) ?_
        obtain ⟨g13, h⟩ := z_gd h
        refine z_iast (pc := 119) X wM12 zk_54 zl_54 g13 dX11_stains_119 (fun HM14 lM14 wM14 => ?_)
        obtain ⟨M14, eM14, h⟩ := z_lo h
        rw [← eM14] at wM14
        refine lv_aload_n (pc := 120) hx hb dX11_stains_120 rfl (lv_at hl 0 rfl) ?_
        refine zg_DrinkingRoofsModel_snow (pc := 121) X wM14 zw_fl_5_98 dX11_stains_121 ?_
        refine lv_iload (pc := 124) hx hb dX11_stains_124 (lv_at hl 10 rfl) ?_
        refine lv_iconst (pc := 126) (v := 0) hx hb dX11_stains_126 (by decide) ?_
        obtain ⟨g15, h⟩ := z_gd h
        refine z_iast (pc := 127) X wM14 zk_55 zl_55 g15 dX11_stains_127 (fun HM16 lM16 wM16 => ?_)
        obtain ⟨M16, eM16, h⟩ := z_lo h
        rw [← eM16] at wM16
        obtain ⟨v17, ev17, h⟩ := z_lo h
        refine lv_iinc (pc := 128) (v := v17) (lv' := [(10, .int v17), (0, .ref (G.1 40)), (1, .int i1), (2, .int i2), (3, .int i3), (4, .int i4), (5, .int i5), (6, .int i6), (7, .int i7), (8, .int i8), (9, .int i9)]) hx hb dX11_stains_128 hl (k := 10) rfl (by rw [ev17]; rfl) (by decide) rfl (fun ls hl => ?_)
        refine lv_goto (pc := 131) (tgt := 82) hx hb dX11_stains_131 (by decide) ?_
        exact ih i1 i2 i3 i4 i5 i6 i7 i8 i9 v17 M16 HM16 lM16 ls  wM16 (lv_sub hl [1, 2, 3, 4, 5, 6, 7, 8, 9, 10, 0] rfl) h
set_option maxHeartbeats 4000000 in
set_option maxRecDepth 100000 in
theorem w_X11_stains_67 {G : zG} {p : Program} {l : Launch} {e : Env} {s : State} {m : MethodId} {args : Array Value} {below : List Frame} {meth : Method} {c : Code} (X : z_C G p s m args meth c cX11_stains 12 RX11 (some .int)) {r : Int32 × zM} {K53 : Int32 → Int32 → Int32 → Int32 → Int32 → Int32 → Int32 → Int32 → zM → Option (Int32 × zM)} (hK53 : ∀ (i1 : Int32) (i2 : Int32) (i3 : Int32) (i4 : Int32) (i5 : Int32) (i6 : Int32) (i7 : Int32) (i8 : Int32) (M : zM) (H : Heap) (locs : List Loc) (ls : Array Slot), z_W G M H locs → lv_has ls 12 [(0, .ref (G.1 40)), (1, .int i1), (2, .int i2), (3, .int i3), (4, .int i4), (5, .int i5), (6, .int i6), (7, .int i7), (8, .int i8)] → K53 i1 i2 i3 i4 i5 i6 i7 i8 M = some r → W p l e (z_rm 3) s m args below meth c H locs 0 0 (z_Q G below args s (some (.int r.1)) r.2) (F0 m 53 ls [])) : ∀ (n : Nat) (i1 : Int32) (i2 : Int32) (i3 : Int32) (i4 : Int32) (i5 : Int32) (i6 : Int32) (i7 : Int32) (i8 : Int32) (i9 : Int32) (M : zM) (H : Heap) (locs : List Loc) (ls : Array Slot), z_W G M H locs → lv_has ls 12 [(0, .ref (G.1 40)), (1, .int i1), (2, .int i2), (3, .int i3), (4, .int i4), (5, .int i5), (6, .int i6), (7, .int i7), (8, .int i8), (9, .int i9)] → f_X11_stains_67 K53 n i1 i2 i3 i4 i5 i6 i7 i8 i9 M = some r → W p l e (z_rm 3) s m args below meth c H locs 0 0 (z_Q G below args s (some (.int r.1)) r.2) (F0 m 67 ls []) := by
  have hx := X.1
  have hb := X.2.1
  intro n
  induction n with
  | zero =>
    intro i1 i2 i3 i4 i5 i6 i7 i8 i9 M H locs ls  hw hl h
    exact z_no h
  | succ n ih =>
    intro i1 i2 i3 i4 i5 i6 i7 i8 i9 M H locs ls  hw hl h
    rw [f_X11_stains_67] at h
    refine lv_iload (pc := 67) hx hb dX11_stains_67 (lv_at hl 9 rfl) ?_
    refine lv_iconst (pc := 69) (v := 1) hx hb dX11_stains_69 (by decide) ?_
    refine lv_iload_n (pc := 70) hx hb dX11_stains_70 rfl (lv_at hl 3 rfl) ?_
    refine lv_ishl (pc := 71) hx hb dX11_stains_71 ?_
    refine lv_icmp_ge (pc := 72) (tgt := 245) hx hb dX11_stains_72 (by decide) (fun c1 => ?_) (fun c1 => ?_)
    · replace h := z_t c1 h
      obtain ⟨v2, ev2, h⟩ := z_lo h
      refine lv_iinc (pc := 245) (v := v2) (lv' := [(8, .int v2), (0, .ref (G.1 40)), (1, .int i1), (2, .int i2), (3, .int i3), (4, .int i4), (5, .int i5), (6, .int i6), (7, .int i7), (9, .int i9)]) hx hb dX11_stains_245 hl (k := 8) rfl (by rw [ev2]; rfl) (by decide) rfl (fun ls hl => ?_)
      refine lv_goto (pc := 248) (tgt := 53) hx hb dX11_stains_248 (by decide) ?_
      exact hK53 i1 i2 i3 i4 i5 i6 i7 v2 M H locs ls  hw (lv_sub hl [1, 2, 3, 4, 5, 6, 7, 8, 0] rfl) h
    · replace h := z_f c1 h
      refine lv_aload_n (pc := 75) hx hb dX11_stains_75 rfl (lv_at hl 0 rfl) ?_
      obtain ⟨x3, ex3, h⟩ := z_bd h
      refine z_cvV (pc := 76) (rest := []) X hw (m_X11_laysHouses  ex3) (z_lt zk_40 (by decide)) (z_E11 zk_40) rfl zw_ml_6_109 zw_im_6_111 zw_se_S_55 zw_in_1_12 zw_co_6_112 zd_X11_laysHouses (by decide) rfl hl.1 rfl (Nat.le_of_ble_eq_true rfl) dX11_stains_76 ⟨Nat.zero_le _, Nat.zero_le _⟩ (fun Hx3 lx3 wx3 => ?_)
      refine lv_iconst (pc := 79) (v := 0) hx hb dX11_stains_79 (by decide) ?_
      refine lv_istore (pc := 80) (lv' := [(10, .int (0 : Int32)), (0, .ref (G.1 40)), (1, .int i1), (2, .int i2), (3, .int i3), (4, .int i4), (5, .int i5), (6, .int i6), (7, .int i7), (8, .int i8), (9, .int i9)]) hx hb dX11_stains_80 hl (by decide) rfl (fun ls hl => ?_)
      exact w_X11_stains_82 X hK53 ih z_F i1 i2 i3 i4 i5 i6 i7 i8 i9 (0 : Int32) x3 Hx3 lx3 ls  wx3 (lv_sub hl [1, 2, 3, 4, 5, 6, 7, 8, 9, 10, 0] rfl) h
set_option maxHeartbeats 4000000 in
set_option maxRecDepth 100000 in
theorem w_X11_stains_53 {G : zG} {p : Program} {l : Launch} {e : Env} {s : State} {m : MethodId} {args : Array Value} {below : List Frame} {meth : Method} {c : Code} (X : z_C G p s m args meth c cX11_stains 12 RX11 (some .int)) {r : Int32 × zM} : ∀ (n : Nat) (i1 : Int32) (i2 : Int32) (i3 : Int32) (i4 : Int32) (i5 : Int32) (i6 : Int32) (i7 : Int32) (i8 : Int32) (M : zM) (H : Heap) (locs : List Loc) (ls : Array Slot), z_W G M H locs → lv_has ls 12 [(0, .ref (G.1 40)), (1, .int i1), (2, .int i2), (3, .int i3), (4, .int i4), (5, .int i5), (6, .int i6), (7, .int i7), (8, .int i8)] → f_X11_stains_53 n i1 i2 i3 i4 i5 i6 i7 i8 M = some r → W p l e (z_rm 3) s m args below meth c H locs 0 0 (z_Q G below args s (some (.int r.1)) r.2) (F0 m 53 ls []) := by
  have hx := X.1
  have hb := X.2.1
  intro n
  induction n with
  | zero =>
    intro i1 i2 i3 i4 i5 i6 i7 i8 M H locs ls  hw hl h
    exact z_no h
  | succ n ih =>
    intro i1 i2 i3 i4 i5 i6 i7 i8 M H locs ls  hw hl h
    rw [f_X11_stains_53] at h
    refine lv_iload (pc := 53) hx hb dX11_stains_53 (lv_at hl 8 rfl) ?_
    refine lv_aload_n (pc := 55) hx hb dX11_stains_55 rfl (lv_at hl 0 rfl) ?_
    refine zg_DrinkingRoofsModel_w (pc := 56) X hw zw_fl_5_71 dX11_stains_56 ?_
    refine lv_iconst (pc := 59) (v := 1) hx hb dX11_stains_59 (by decide) ?_
    refine z_iald (pc := 60) X hw zk_41 zl_41 (z_il (by decide)) dX11_stains_60 ?_
    refine lv_icmp_ge (pc := 61) (tgt := 251) hx hb dX11_stains_61 (by decide) (fun c1 => ?_) (fun c1 => ?_)
    · replace h := z_t c1 h
      refine lv_iload_n (pc := 251) hx hb dX11_stains_251 rfl (lv_at hl 2 rfl) ?_
      refine lv_if_ne (pc := 252) (tgt := 260) hx hb dX11_stains_252 (by decide) (fun c2 => ?_) (fun c2 => ?_)
      · replace h := z_f c2 h
        refine lv_iload_n (pc := 260) hx hb dX11_stains_260 rfl (lv_at hl 2 rfl) ?_
        refine lv_iconst (pc := 261) (v := 1) hx hb dX11_stains_261 (by decide) ?_
        refine lv_icmp_ne (pc := 262) (tgt := 270) hx hb dX11_stains_262 (by decide) (fun c3 => ?_) (fun c3 => ?_)
        · replace h := z_f c3 h
          refine lv_iload_n (pc := 270) hx hb dX11_stains_270 rfl (lv_at hl 2 rfl) ?_
          refine lv_iconst (pc := 271) (v := 2) hx hb dX11_stains_271 (by decide) ?_
          refine lv_icmp_ne (pc := 272) (tgt := 280) hx hb dX11_stains_272 (by decide) (fun c4 => ?_) (fun c4 => ?_)
          · replace h := z_f c4 h
            refine lv_iload (pc := 280) hx hb dX11_stains_280 (lv_at hl 7 rfl) ?_
            obtain rfl := Option.some.inj h
            exact z_ri (pc := 282) X hw dX11_stains_282
          · replace h := z_t c4 h
            refine lv_iload (pc := 275) hx hb dX11_stains_275 (lv_at hl 6 rfl) ?_
            refine lv_goto (pc := 277) (tgt := 282) hx hb dX11_stains_277 (by decide) ?_
            obtain rfl := Option.some.inj h
            exact z_ri (pc := 282) X hw dX11_stains_282
        · replace h := z_t c3 h
          refine lv_iload (pc := 265) hx hb dX11_stains_265 (lv_at hl 5 rfl) ?_
          refine lv_goto (pc := 267) (tgt := 282) hx hb dX11_stains_267 (by decide) ?_
          obtain rfl := Option.some.inj h
          exact z_ri (pc := 282) X hw dX11_stains_282
      · replace h := z_t c2 h
        refine lv_iload (pc := 255) hx hb dX11_stains_255 (lv_at hl 4 rfl) ?_
        refine lv_goto (pc := 257) (tgt := 282) hx hb dX11_stains_257 (by decide) ?_
        obtain rfl := Option.some.inj h
        exact z_ri (pc := 282) X hw dX11_stains_282
    · replace h := z_f c1 h
      refine lv_iconst (pc := 64) (v := 0) hx hb dX11_stains_64 (by decide) ?_
      refine lv_istore (pc := 65) (lv' := [(9, .int (0 : Int32)), (0, .ref (G.1 40)), (1, .int i1), (2, .int i2), (3, .int i3), (4, .int i4), (5, .int i5), (6, .int i6), (7, .int i7), (8, .int i8)]) hx hb dX11_stains_65 hl (by decide) rfl (fun ls hl => ?_)
      exact w_X11_stains_67 X ih z_F i1 i2 i3 i4 i5 i6 i7 i8 (0 : Int32) M H locs ls  hw (lv_sub hl [1, 2, 3, 4, 5, 6, 7, 8, 9, 0] rfl) h
set_option maxHeartbeats 4000000 in
set_option maxRecDepth 100000 in
theorem m_X11_stains {l : Launch} {G : zG} {i1 : Int32} {i2 : Int32} {M : zM} {r : Int32 × zM} (h : f_X11_stains i1 i2 M = some r) : z_T l G 3 yX11_stains (.code yX11_stains cX11_stains 12 (some .int)) [.ref (G.1 40), .int i1, .int i2] M (some (.int r.1)) r.2 := by
  refine z_of rfl ?_
  intro p e s m below meth c X hw
  have hl := lv_entry [.ref (G.1 40), .int i1, .int i2] (n := 12) (Nat.le_of_ble_eq_true rfl)
  rw [lg_entry_eq]
  generalize (lg_sl [.ref (G.1 40), .int i1, .int i2] ++ List.replicate (12 - (lg_sl [.ref (G.1 40), .int i1, .int i2]).length) Slot.unset).toArray = ls at hl ⊢
  have hl : lv_has ls 12 [(0, .ref (G.1 40)), (1, .int i1), (2, .int i2)] := hl
  generalize ([.ref (G.1 40), .int i1, .int i2] : List Value).toArray = args at X ⊢
  have X : z_C G p s m args meth c cX11_stains 12 RX11 (some .int) := X
  have hx := X.1
  have hb := X.2.1
  unfold f_X11_stains at h
  refine lv_aload_n (pc := 0) hx hb dX11_stains_0 rfl (lv_at hl 0 rfl) ?_
  refine zg_DrinkingRoofsModel_w (pc := 1) X hw zw_fl_5_71 dX11_stains_1 ?_
  refine lv_iconst (pc := 4) (v := 0) hx hb dX11_stains_4 (by decide) ?_
  refine z_iald (pc := 5) X hw zk_41 zl_41 (z_il (by decide)) dX11_stains_5 ?_
  obtain ⟨v1, ev1, h⟩ := z_lo h
  refine z_topi ev1 ?_
  refine lv_istore_n (pc := 6) (lv' := [(3, .int v1), (0, .ref (G.1 40)), (1, .int i1), (2, .int i2)]) hx hb dX11_stains_6 rfl hl (by decide) rfl (fun ls hl => ?_)
  refine lv_iload_n (pc := 7) hx hb dX11_stains_7 rfl (lv_at hl 0 rfl) ?_
  refine lv_bipush (pc := 8) (v := 8) hx hb dX11_stains_8 (by decide) ?_
  refine lv_icmp_gt (pc := 10) (tgt := 35) hx hb dX11_stains_10 (by decide) (fun c2 => ?_) (fun c2 => ?_)
  · replace h := z_t c2 h
    refine lv_bipush (pc := 35) (v := -2) hx hb dX11_stains_35 (by decide) ?_
    obtain rfl := Option.some.inj h
    exact z_ri (pc := 37) X hw dX11_stains_37
  · replace h := z_f c2 h
    refine lv_iload_n (pc := 13) hx hb dX11_stains_13 rfl (lv_at hl 2 rfl) ?_
    refine lv_iconst (pc := 14) (v := 0) hx hb dX11_stains_14 (by decide) ?_
    refine lv_iconst (pc := 15) (v := 1) hx hb dX11_stains_15 (by decide) ?_
    refine lv_iload_n (pc := 16) hx hb dX11_stains_16 rfl (lv_at hl 0 rfl) ?_
    refine lv_ishl (pc := 17) hx hb dX11_stains_17 ?_
    refine lv_iconst (pc := 18) (v := 1) hx hb dX11_stains_18 (by decide) ?_
    refine lv_isub (pc := 19) hx hb dX11_stains_19 ?_
    obtain ⟨x3, ex3, h⟩ := z_bd h
    refine z_csI (pc := 20) (rest := []) X hw (m_X11_isIn  ex3) zw_ml_5_209 zw_st_5_210 zw_in_1_12 zw_co_5_211 zd_X11_isIn (by decide) rfl hl.1 rfl (Nat.le_of_ble_eq_true rfl) dX11_stains_20 ⟨Nat.zero_le _, Nat.zero_le _⟩ (fun Hx3 lx3 wx3 => ?_)
    refine lv_if_eq (pc := 23) (tgt := 35) hx hb dX11_stains_23 (by decide) (fun c4 => ?_) (fun c4 => ?_)
    · replace h := z_t c4 h
      refine lv_bipush (pc := 35) (v := -2) hx hb dX11_stains_35 (by decide) ?_
      obtain rfl := Option.some.inj h
      exact z_ri (pc := 37) X wx3 dX11_stains_37
    · replace h := z_f c4 h
      refine lv_iload_n (pc := 26) hx hb dX11_stains_26 rfl (lv_at hl 3 rfl) ?_
      refine lv_iconst (pc := 27) (v := 0) hx hb dX11_stains_27 (by decide) ?_
      refine lv_iconst (pc := 28) (v := 3) hx hb dX11_stains_28 (by decide) ?_
      obtain ⟨x5, ex5, h⟩ := z_bd h
      refine z_csI (pc := 29) (rest := []) X wx3 (m_X11_isIn  ex5) zw_ml_5_209 zw_st_5_210 zw_in_1_12 zw_co_5_211 zd_X11_isIn (by decide) rfl hl.1 rfl (Nat.le_of_ble_eq_true rfl) dX11_stains_29 ⟨Nat.zero_le _, Nat.zero_le _⟩ (fun Hx5 lx5 wx5 => ?_)
      refine lv_if_ne (pc := 32) (tgt := 38) hx hb dX11_stains_32 (by decide) (fun c6 => ?_) (fun c6 => ?_)
      · replace h := z_f c6 h
        refine lv_iconst (pc := 38) (v := 0) hx hb dX11_stains_38 (by decide) ?_
        refine lv_istore (pc := 39) (lv' := [(4, .int (0 : Int32)), (3, .int v1), (0, .ref (G.1 40)), (1, .int i1), (2, .int i2)]) hx hb dX11_stains_39 hl (by decide) rfl (fun ls hl => ?_)
        refine lv_iconst (pc := 41) (v := -1) hx hb dX11_stains_41 (by decide) ?_
        refine lv_istore (pc := 42) (lv' := [(5, .int (-1 : Int32)), (4, .int (0 : Int32)), (3, .int v1), (0, .ref (G.1 40)), (1, .int i1), (2, .int i2)]) hx hb dX11_stains_42 hl (by decide) rfl (fun ls hl => ?_)
        refine lv_iconst (pc := 44) (v := -1) hx hb dX11_stains_44 (by decide) ?_
        refine lv_istore (pc := 45) (lv' := [(6, .int (-1 : Int32)), (5, .int (-1 : Int32)), (4, .int (0 : Int32)), (3, .int v1), (0, .ref (G.1 40)), (1, .int i1), (2, .int i2)]) hx hb dX11_stains_45 hl (by decide) rfl (fun ls hl => ?_)
        refine lv_iconst (pc := 47) (v := 0) hx hb dX11_stains_47 (by decide) ?_
        refine lv_istore (pc := 48) (lv' := [(7, .int (0 : Int32)), (6, .int (-1 : Int32)), (5, .int (-1 : Int32)), (4, .int (0 : Int32)), (3, .int v1), (0, .ref (G.1 40)), (1, .int i1), (2, .int i2)]) hx hb dX11_stains_48 hl (by decide) rfl (fun ls hl => ?_)
        refine lv_iconst (pc := 50) (v := 0) hx hb dX11_stains_50 (by decide) ?_
        refine lv_istore (pc := 51) (lv' := [(8, .int (0 : Int32)), (7, .int (0 : Int32)), (6, .int (-1 : Int32)), (5, .int (-1 : Int32)), (4, .int (0 : Int32)), (3, .int v1), (0, .ref (G.1 40)), (1, .int i1), (2, .int i2)]) hx hb dX11_stains_51 hl (by decide) rfl (fun ls hl => ?_)
        exact w_X11_stains_53 X z_F i1 i2 v1 (0 : Int32) (-1 : Int32) (-1 : Int32) (0 : Int32) (0 : Int32) x5.2 Hx5 lx5 ls  wx5 (lv_sub hl [6, 7, 8, 5, 4, 3, 2, 1, 0] rfl) h
      · replace h := z_t c6 h
        refine lv_bipush (pc := 35) (v := -2) hx hb dX11_stains_35 (by decide) ?_
        obtain rfl := Option.some.inj h
        exact z_ri (pc := 37) X wx5 dX11_stains_37
def f_X11_drain_25 : Nat → Int32 → Int32 → Int32 → Int32 → zM → Option (Int32 × zM)
  | 0, _, _, _, _, _ => none
  | n + 1, i1, i2, i3, i4, M =>
    if (M.1 41 (Int32.toNatClampNeg (0 : Int32))) ≤ i4 then (
      some (i2, M)
    ) else (
      (f_X11_own i4 (4 : Int32) M).bind fun x2 =>
      if x2.1 = (-1 : Int32) then (
        z_l (i4 + (1 : Int32)) fun v11 =>
        f_X11_drain_25 n i1 i2 i3 v11 x2.2
      ) else (
        (f_X11_laysHouses  x2.2).bind fun x4 =>
        z_g (z_ix i4 11) <|
        z_l (z_w x4 50 (Int32.toNatClampNeg i4) (-1 : Int32)) fun M6 =>
        (f_X11_runs i1 M6).bind fun x7 =>
        if x7.1 < i3 then (
          z_l (i4 + (1 : Int32)) fun v9 =>
          f_X11_drain_25 n i1 i4 x7.1 v9 x7.2
        ) else (
          z_l (i4 + (1 : Int32)) fun v10 =>
          f_X11_drain_25 n i1 i2 i3 v10 x7.2
        )
      )
    )
def f_X11_drain (i1 : Int32) (M : zM) : Option (Int32 × zM) :=
  (f_X11_isStorm i1 M).bind fun x1 =>
  if x1.1 = 0 then (
    some ((-1 : Int32), x1.2)
  ) else (
    (f_X11_laysHouses  x1.2).bind fun x3 =>
    (f_X11_runs i1 x3).bind fun x4 =>
    f_X11_drain_25 z_F i1 (-1 : Int32) x4.1 (0 : Int32) x4.2
  )
set_option maxHeartbeats 4000000 in
set_option maxRecDepth 100000 in
theorem w_X11_drain_25 {G : zG} {p : Program} {l : Launch} {e : Env} {s : State} {m : MethodId} {args : Array Value} {below : List Frame} {meth : Method} {c : Code} (X : z_C G p s m args meth c cX11_drain 6 RX11 (some .int)) {r : Int32 × zM} : ∀ (n : Nat) (i1 : Int32) (i2 : Int32) (i3 : Int32) (i4 : Int32) (M : zM) (H : Heap) (locs : List Loc) (ls : Array Slot), z_W G M H locs → lv_has ls 6 [(0, .ref (G.1 40)), (1, .int i1), (2, .int i2), (3, .int i3), (4, .int i4)] → f_X11_drain_25 n i1 i2 i3 i4 M = some r → W p l e (z_rm 3) s m args below meth c H locs 0 0 (z_Q G below args s (some (.int r.1)) r.2) (F0 m 25 ls []) := by
  have hx := X.1
  have hb := X.2.1
  intro n
  induction n with
  | zero =>
    intro i1 i2 i3 i4 M H locs ls  hw hl h
    exact z_no h
  | succ n ih =>
    intro i1 i2 i3 i4 M H locs ls  hw hl h
    rw [f_X11_drain_25] at h
    refine lv_iload (pc := 25) hx hb dX11_drain_25 (lv_at hl 4 rfl) ?_
    refine lv_aload_n (pc := 27) hx hb dX11_drain_27 rfl (lv_at hl 0 rfl) ?_
    refine zg_DrinkingRoofsModel_w (pc := 28) X hw zw_fl_5_71 dX11_drain_28 ?_
    refine lv_iconst (pc := 31) (v := 0) hx hb dX11_drain_31 (by decide) ?_
    refine z_iald (pc := 32) X hw zk_41 zl_41 (z_il (by decide)) dX11_drain_32 ?_
    refine lv_icmp_ge (pc := 33) (tgt := 90) hx hb dX11_drain_33 (by decide) (fun c1 => ?_) (fun c1 => ?_)
    · replace h := z_t c1 h
      refine lv_iload_n (pc := 90) hx hb dX11_drain_90 rfl (lv_at hl 2 rfl) ?_
      obtain rfl := Option.some.inj h
      exact z_ri (pc := 91) X hw dX11_drain_91
    · replace h := z_f c1 h
      refine lv_aload_n (pc := 36) hx hb dX11_drain_36 rfl (lv_at hl 0 rfl) ?_
      refine lv_iload (pc := 37) hx hb dX11_drain_37 (lv_at hl 4 rfl) ?_
      refine lv_iconst (pc := 39) (v := 4) hx hb dX11_drain_39 (by decide) ?_
      obtain ⟨x2, ex2, h⟩ := z_bd h
      refine z_cvI (pc := 40) (rest := []) X hw (m_X11_own  ex2) (z_lt zk_40 (by decide)) (z_E11 zk_40) rfl zw_ml_6_113 zw_im_6_115 zw_se_S_56 zw_in_1_12 zw_co_6_116 zd_X11_own (by decide) rfl hl.1 rfl (Nat.le_of_ble_eq_true rfl) dX11_drain_40 ⟨Nat.zero_le _, Nat.zero_le _⟩ (fun Hx2 lx2 wx2 => ?_)
      refine lv_iconst (pc := 43) (v := -1) hx hb dX11_drain_43 (by decide) ?_
      refine lv_icmp_ne (pc := 44) (tgt := 50) hx hb dX11_drain_44 (by decide) (fun c3 => ?_) (fun c3 => ?_)
      · replace h := z_f c3 h
        refine lv_aload_n (pc := 50) hx hb dX11_drain_50 rfl (lv_at hl 0 rfl) ?_
        obtain ⟨x4, ex4, h⟩ := z_bd h
        refine z_cvV (pc := 51) (rest := []) X wx2 (m_X11_laysHouses  ex4) (z_lt zk_40 (by decide)) (z_E11 zk_40) rfl zw_ml_6_109 zw_im_6_111 zw_se_S_55 zw_in_1_12 zw_co_6_112 zd_X11_laysHouses (by decide) rfl hl.1 rfl (Nat.le_of_ble_eq_true rfl) dX11_drain_51 ⟨Nat.zero_le _, Nat.zero_le _⟩ (fun Hx4 lx4 wx4 => ?_)
        refine lv_aload_n (pc := 54) hx hb dX11_drain_54 rfl (lv_at hl 0 rfl) ?_
        refine zg_DrinkingRoofsModel_next (pc := 55) X wx4 zw_fl_5_93 dX11_drain_55 ?_
        refine lv_iload (pc := 58) hx hb dX11_drain_58 (lv_at hl 4 rfl) ?_
        refine lv_iconst (pc := 60) (v := -1) hx hb dX11_drain_60 (by decide) ?_
        obtain ⟨g5, h⟩ := z_gd h
        refine z_iast (pc := 61) X wx4 zk_50 zl_50 g5 dX11_drain_61 (fun HM6 lM6 wM6 => ?_)
        obtain ⟨M6, eM6, h⟩ := z_lo h
        rw [← eM6] at wM6
        refine lv_aload_n (pc := 62) hx hb dX11_drain_62 rfl (lv_at hl 0 rfl) ?_
        refine lv_iload_n (pc := 63) hx hb dX11_drain_63 rfl (lv_at hl 1 rfl) ?_
        obtain ⟨x7, ex7, h⟩ := z_bd h
        refine z_cvI (pc := 64) (rest := []) X wM6 (m_X11_runs  ex7) (z_lt zk_40 (by decide)) (z_E11 zk_40) rfl zw_ml_6_117 zw_im_6_119 zw_se_S_57 zw_in_1_12 zw_co_6_120 zd_X11_runs (by decide) rfl hl.1 rfl (Nat.le_of_ble_eq_true rfl) dX11_drain_64 ⟨Nat.zero_le _, Nat.zero_le _⟩ (fun Hx7 lx7 wx7 => ?_)
        refine lv_istore (pc := 67) (lv' := [(5, .int x7.1), (0, .ref (G.1 40)), (1, .int i1), (2, .int i2), (3, .int i3), (4, .int i4)]) hx hb dX11_drain_67 hl (by decide) rfl (fun ls hl => ?_)
        refine lv_iload (pc := 69) hx hb dX11_drain_69 (lv_at hl 0 rfl) ?_
        refine lv_iload_n (pc := 71) hx hb dX11_drain_71 rfl (lv_at hl 4 rfl) ?_
        refine lv_icmp_lt (pc := 72) (tgt := 78) hx hb dX11_drain_72 (by decide) (fun c8 => ?_) (fun c8 => ?_)
        · replace h := z_t c8 h
          refine lv_iload (pc := 78) hx hb dX11_drain_78 (lv_at hl 5 rfl) ?_
          refine lv_istore_n (pc := 80) (lv' := [(2, .int i4), (5, .int x7.1), (0, .ref (G.1 40)), (1, .int i1), (3, .int i3), (4, .int i4)]) hx hb dX11_drain_80 rfl hl (by decide) rfl (fun ls hl => ?_)
          refine lv_iload (pc := 81) hx hb dX11_drain_81 (lv_at hl 1 rfl) ?_
          refine lv_istore_n (pc := 83) (lv' := [(3, .int x7.1), (2, .int i4), (5, .int x7.1), (0, .ref (G.1 40)), (1, .int i1), (4, .int i4)]) hx hb dX11_drain_83 rfl hl (by decide) rfl (fun ls hl => ?_)
          obtain ⟨v9, ev9, h⟩ := z_lo h
          refine lv_iinc (pc := 84) (v := v9) (lv' := [(4, .int v9), (3, .int x7.1), (2, .int i4), (5, .int x7.1), (0, .ref (G.1 40)), (1, .int i1)]) hx hb dX11_drain_84 hl (k := 5) rfl (by rw [ev9]; rfl) (by decide) rfl (fun ls hl => ?_)
          refine lv_goto (pc := 87) (tgt := 25) hx hb dX11_drain_87 (by decide) ?_
          exact ih i1 i4 x7.1 v9 x7.2 Hx7 lx7 ls  wx7 (lv_sub hl [4, 5, 2, 1, 0] rfl) h
        · replace h := z_f c8 h
          refine lv_goto (pc := 75) (tgt := 84) hx hb dX11_drain_75 (by decide) ?_
          obtain ⟨v10, ev10, h⟩ := z_lo h
          refine lv_iinc (pc := 84) (v := v10) (lv' := [(4, .int v10), (5, .int x7.1), (0, .ref (G.1 40)), (1, .int i1), (2, .int i2), (3, .int i3)]) hx hb dX11_drain_84 hl (k := 5) rfl (by rw [ev10]; rfl) (by decide) rfl (fun ls hl => ?_)
          refine lv_goto (pc := 87) (tgt := 25) hx hb dX11_drain_87 (by decide) ?_
          exact ih i1 i2 i3 v10 x7.2 Hx7 lx7 ls  wx7 (lv_sub hl [2, 3, 4, 5, 0] rfl) h
      · replace h := z_t c3 h
        refine lv_goto (pc := 47) (tgt := 84) hx hb dX11_drain_47 (by decide) ?_
        obtain ⟨v11, ev11, h⟩ := z_lo h
        refine lv_iinc (pc := 84) (v := v11) (lv' := [(4, .int v11), (0, .ref (G.1 40)), (1, .int i1), (2, .int i2), (3, .int i3)]) hx hb dX11_drain_84 hl (k := 4) rfl (by rw [ev11]; rfl) (by decide) rfl (fun ls hl => ?_)
        refine lv_goto (pc := 87) (tgt := 25) hx hb dX11_drain_87 (by decide) ?_
        exact ih i1 i2 i3 v11 x2.2 Hx2 lx2 ls  wx2 (lv_sub hl [1, 2, 3, 4, 0] rfl) h
set_option maxHeartbeats 4000000 in
set_option maxRecDepth 100000 in
theorem m_X11_drain {l : Launch} {G : zG} {i1 : Int32} {M : zM} {r : Int32 × zM} (h : f_X11_drain i1 M = some r) : z_T l G 3 yX11_drain (.code yX11_drain cX11_drain 6 (some .int)) [.ref (G.1 40), .int i1] M (some (.int r.1)) r.2 := by
  refine z_of rfl ?_
  intro p e s m below meth c X hw
  have hl := lv_entry [.ref (G.1 40), .int i1] (n := 6) (Nat.le_of_ble_eq_true rfl)
  rw [lg_entry_eq]
  generalize (lg_sl [.ref (G.1 40), .int i1] ++ List.replicate (6 - (lg_sl [.ref (G.1 40), .int i1]).length) Slot.unset).toArray = ls at hl ⊢
  have hl : lv_has ls 6 [(0, .ref (G.1 40)), (1, .int i1)] := hl
  generalize ([.ref (G.1 40), .int i1] : List Value).toArray = args at X ⊢
  have X : z_C G p s m args meth c cX11_drain 6 RX11 (some .int) := X
  have hx := X.1
  have hb := X.2.1
  unfold f_X11_drain at h
  refine lv_aload_n (pc := 0) hx hb dX11_drain_0 rfl (lv_at hl 0 rfl) ?_
  refine lv_iload_n (pc := 1) hx hb dX11_drain_1 rfl (lv_at hl 1 rfl) ?_
  obtain ⟨x1, ex1, h⟩ := z_bd h
  refine z_cvI (pc := 2) (rest := []) X hw (m_X11_isStorm  ex1) (z_lt zk_40 (by decide)) (z_E11 zk_40) rfl zw_ml_5_236 zw_im_5_238 zw_se_S_37 zw_in_1_12 zw_co_5_239 zd_X11_isStorm (by decide) rfl hl.1 rfl (Nat.le_of_ble_eq_true rfl) dX11_drain_2 ⟨Nat.zero_le _, Nat.zero_le _⟩ (fun Hx1 lx1 wx1 => ?_)
  refine lv_if_ne (pc := 5) (tgt := 10) hx hb dX11_drain_5 (by decide) (fun c2 => ?_) (fun c2 => ?_)
  · replace h := z_f c2 h
    refine lv_aload_n (pc := 10) hx hb dX11_drain_10 rfl (lv_at hl 0 rfl) ?_
    obtain ⟨x3, ex3, h⟩ := z_bd h
    refine z_cvV (pc := 11) (rest := []) X wx1 (m_X11_laysHouses  ex3) (z_lt zk_40 (by decide)) (z_E11 zk_40) rfl zw_ml_6_109 zw_im_6_111 zw_se_S_55 zw_in_1_12 zw_co_6_112 zd_X11_laysHouses (by decide) rfl hl.1 rfl (Nat.le_of_ble_eq_true rfl) dX11_drain_11 ⟨Nat.zero_le _, Nat.zero_le _⟩ (fun Hx3 lx3 wx3 => ?_)
    refine lv_iconst (pc := 14) (v := -1) hx hb dX11_drain_14 (by decide) ?_
    refine lv_istore_n (pc := 15) (lv' := [(2, .int (-1 : Int32)), (0, .ref (G.1 40)), (1, .int i1)]) hx hb dX11_drain_15 rfl hl (by decide) rfl (fun ls hl => ?_)
    refine lv_aload_n (pc := 16) hx hb dX11_drain_16 rfl (lv_at hl 1 rfl) ?_
    refine lv_iload_n (pc := 17) hx hb dX11_drain_17 rfl (lv_at hl 2 rfl) ?_
    obtain ⟨x4, ex4, h⟩ := z_bd h
    refine z_cvI (pc := 18) (rest := []) X wx3 (m_X11_runs  ex4) (z_lt zk_40 (by decide)) (z_E11 zk_40) rfl zw_ml_6_117 zw_im_6_119 zw_se_S_57 zw_in_1_12 zw_co_6_120 zd_X11_runs (by decide) rfl hl.1 rfl (Nat.le_of_ble_eq_true rfl) dX11_drain_18 ⟨Nat.zero_le _, Nat.zero_le _⟩ (fun Hx4 lx4 wx4 => ?_)
    refine lv_istore_n (pc := 21) (lv' := [(3, .int x4.1), (2, .int (-1 : Int32)), (0, .ref (G.1 40)), (1, .int i1)]) hx hb dX11_drain_21 rfl hl (by decide) rfl (fun ls hl => ?_)
    refine lv_iconst (pc := 22) (v := 0) hx hb dX11_drain_22 (by decide) ?_
    refine lv_istore (pc := 23) (lv' := [(4, .int (0 : Int32)), (3, .int x4.1), (2, .int (-1 : Int32)), (0, .ref (G.1 40)), (1, .int i1)]) hx hb dX11_drain_23 hl (by decide) rfl (fun ls hl => ?_)
    exact w_X11_drain_25 X z_F i1 (-1 : Int32) x4.1 (0 : Int32) x4.2 Hx4 lx4 ls  wx4 (lv_sub hl [3, 4, 2, 1, 0] rfl) h
  · replace h := z_t c2 h
    refine lv_iconst (pc := 8) (v := -1) hx hb dX11_drain_8 (by decide) ?_
    obtain rfl := Option.some.inj h
    exact z_ri (pc := 9) X wx1 dX11_drain_9
def f_X11_movesDown (i1 : Int32) (M : zM) : Option (zM) :=
  z_g (z_ix i1 11) <|
  z_g (z_ix (i1 + (1 : Int32)) 11) <|
  z_l (z_w M 48 (Int32.toNatClampNeg (i1 + (1 : Int32))) (M.1 48 (Int32.toNatClampNeg i1))) fun M3 =>
  z_g (z_ix i1 11) <|
  z_g (z_ix (i1 + (1 : Int32)) 11) <|
  z_l (z_w M3 49 (Int32.toNatClampNeg (i1 + (1 : Int32))) (M3.1 49 (Int32.toNatClampNeg i1))) fun M6 =>
  z_g (z_ix i1 11) <|
  z_g (z_ix (i1 + (1 : Int32)) 11) <|
  z_l (z_w M6 50 (Int32.toNatClampNeg (i1 + (1 : Int32))) (M6.1 50 (Int32.toNatClampNeg i1))) fun M9 =>
  z_g (z_ix i1 11) <|
  z_g (z_ix (i1 + (1 : Int32)) 11) <|
  z_l (z_w M9 51 (Int32.toNatClampNeg (i1 + (1 : Int32))) (M9.1 51 (Int32.toNatClampNeg i1))) fun M12 =>
  z_g (z_ix i1 11) <|
  z_g (z_ix (i1 + (1 : Int32)) 11) <|
  z_l (z_w M12 52 (Int32.toNatClampNeg (i1 + (1 : Int32))) (M12.1 52 (Int32.toNatClampNeg i1))) fun M15 =>
  z_g (z_ix i1 11) <|
  z_g (z_ix (i1 + (1 : Int32)) 11) <|
  z_l (z_w M15 53 (Int32.toNatClampNeg (i1 + (1 : Int32))) (M15.1 53 (Int32.toNatClampNeg i1))) fun M18 =>
  z_g (z_ix i1 11) <|
  z_g (z_ix (i1 + (1 : Int32)) 11) <|
  z_l (z_w M18 54 (Int32.toNatClampNeg (i1 + (1 : Int32))) (M18.1 54 (Int32.toNatClampNeg i1))) fun M21 =>
  z_g (z_ix i1 11) <|
  z_g (z_ix (i1 + (1 : Int32)) 11) <|
  z_l (z_w M21 55 (Int32.toNatClampNeg (i1 + (1 : Int32))) (M21.1 55 (Int32.toNatClampNeg i1))) fun M24 =>
  some M24
set_option maxHeartbeats 4000000 in
set_option maxRecDepth 100000 in
theorem m_X11_movesDown {l : Launch} {G : zG} {i1 : Int32} {M : zM} {r : zM} (h : f_X11_movesDown i1 M = some r) : z_T l G 0 yX11_movesDown (.code yX11_movesDown cX11_movesDown 2 none) [.ref (G.1 40), .int i1] M none r := by
  refine z_of rfl ?_
  intro p e s m below meth c X hw
  have hl := lv_entry [.ref (G.1 40), .int i1] (n := 2) (Nat.le_of_ble_eq_true rfl)
  rw [lg_entry_eq]
  generalize (lg_sl [.ref (G.1 40), .int i1] ++ List.replicate (2 - (lg_sl [.ref (G.1 40), .int i1]).length) Slot.unset).toArray = ls at hl ⊢
  have hl : lv_has ls 2 [(0, .ref (G.1 40)), (1, .int i1)] := hl
  generalize ([.ref (G.1 40), .int i1] : List Value).toArray = args at X ⊢
  have X : z_C G p s m args meth c cX11_movesDown 2 RX11 none := X
  have hx := X.1
  have hb := X.2.1
  unfold f_X11_movesDown at h
  refine lv_aload_n (pc := 0) hx hb dX11_movesDown_0 rfl (lv_at hl 0 rfl) ?_
  refine zg_DrinkingRoofsModel_area (pc := 1) X hw zw_fl_5_91 dX11_movesDown_1 ?_
  refine lv_iload_n (pc := 4) hx hb dX11_movesDown_4 rfl (lv_at hl 1 rfl) ?_
  refine lv_iconst (pc := 5) (v := 1) hx hb dX11_movesDown_5 (by decide) ?_
  refine lv_iadd (pc := 6) hx hb dX11_movesDown_6 ?_
  refine lv_aload_n (pc := 7) hx hb dX11_movesDown_7 rfl (lv_at hl 0 rfl) ?_
  refine zg_DrinkingRoofsModel_area (pc := 8) X hw zw_fl_5_91 dX11_movesDown_8 ?_
  refine lv_iload_n (pc := 11) hx hb dX11_movesDown_11 rfl (lv_at hl 1 rfl) ?_
  obtain ⟨g1, h⟩ := z_gd h
  refine z_iald (pc := 12) X hw zk_48 zl_48 g1 dX11_movesDown_12 ?_
  obtain ⟨g2, h⟩ := z_gd h
  refine z_iast (pc := 13) X hw zk_48 zl_48 g2 dX11_movesDown_13 (fun HM3 lM3 wM3 => ?_)
  obtain ⟨M3, eM3, h⟩ := z_lo h
  rw [← eM3] at wM3
  refine lv_aload_n (pc := 14) hx hb dX11_movesDown_14 rfl (lv_at hl 0 rfl) ?_
  refine zg_DrinkingRoofsModel_carries (pc := 15) X wM3 zw_fl_5_92 dX11_movesDown_15 ?_
  refine lv_iload_n (pc := 18) hx hb dX11_movesDown_18 rfl (lv_at hl 1 rfl) ?_
  refine lv_iconst (pc := 19) (v := 1) hx hb dX11_movesDown_19 (by decide) ?_
  refine lv_iadd (pc := 20) hx hb dX11_movesDown_20 ?_
  refine lv_aload_n (pc := 21) hx hb dX11_movesDown_21 rfl (lv_at hl 0 rfl) ?_
  refine zg_DrinkingRoofsModel_carries (pc := 22) X wM3 zw_fl_5_92 dX11_movesDown_22 ?_
  refine lv_iload_n (pc := 25) hx hb dX11_movesDown_25 rfl (lv_at hl 1 rfl) ?_
  obtain ⟨g4, h⟩ := z_gd h
  refine z_iald (pc := 26) X wM3 zk_49 zl_49 g4 dX11_movesDown_26 ?_
  obtain ⟨g5, h⟩ := z_gd h
  refine z_iast (pc := 27) X wM3 zk_49 zl_49 g5 dX11_movesDown_27 (fun HM6 lM6 wM6 => ?_)
  obtain ⟨M6, eM6, h⟩ := z_lo h
  rw [← eM6] at wM6
  refine lv_aload_n (pc := 28) hx hb dX11_movesDown_28 rfl (lv_at hl 0 rfl) ?_
  refine zg_DrinkingRoofsModel_next (pc := 29) X wM6 zw_fl_5_93 dX11_movesDown_29 ?_
  refine lv_iload_n (pc := 32) hx hb dX11_movesDown_32 rfl (lv_at hl 1 rfl) ?_
  refine lv_iconst (pc := 33) (v := 1) hx hb dX11_movesDown_33 (by decide) ?_
  refine lv_iadd (pc := 34) hx hb dX11_movesDown_34 ?_
  refine lv_aload_n (pc := 35) hx hb dX11_movesDown_35 rfl (lv_at hl 0 rfl) ?_
  refine zg_DrinkingRoofsModel_next (pc := 36) X wM6 zw_fl_5_93 dX11_movesDown_36 ?_
  refine lv_iload_n (pc := 39) hx hb dX11_movesDown_39 rfl (lv_at hl 1 rfl) ?_
  obtain ⟨g7, h⟩ := z_gd h
  refine z_iald (pc := 40) X wM6 zk_50 zl_50 g7 dX11_movesDown_40 ?_
  obtain ⟨g8, h⟩ := z_gd h
  refine z_iast (pc := 41) X wM6 zk_50 zl_50 g8 dX11_movesDown_41 (fun HM9 lM9 wM9 => ?_)
  obtain ⟨M9, eM9, h⟩ := z_lo h
  rw [← eM9] at wM9
  refine lv_aload_n (pc := 42) hx hb dX11_movesDown_42 rfl (lv_at hl 0 rfl) ?_
  refine zg_DrinkingRoofsModel_clog (pc := 43) X wM9 zw_fl_5_94 dX11_movesDown_43 ?_
  refine lv_iload_n (pc := 46) hx hb dX11_movesDown_46 rfl (lv_at hl 1 rfl) ?_
  refine lv_iconst (pc := 47) (v := 1) hx hb dX11_movesDown_47 (by decide) ?_
  refine lv_iadd (pc := 48) hx hb dX11_movesDown_48 ?_
  refine lv_aload_n (pc := 49) hx hb dX11_movesDown_49 rfl (lv_at hl 0 rfl) ?_
  refine zg_DrinkingRoofsModel_clog (pc := 50) X wM9 zw_fl_5_94 dX11_movesDown_50 ?_
  refine lv_iload_n (pc := 53) hx hb dX11_movesDown_53 rfl (lv_at hl 1 rfl) ?_
  obtain ⟨g10, h⟩ := z_gd h
  refine z_iald (pc := 54) X wM9 zk_51 zl_51 g10 dX11_movesDown_54 ?_
  obtain ⟨g11, h⟩ := z_gd h
  refine z_iast (pc := 55) X wM9 zk_51 zl_51 g11 dX11_movesDown_55 (fun HM12 lM12 wM12 => ?_)
  obtain ⟨M12, eM12, h⟩ := z_lo h
  rw [← eM12] at wM12
  refine lv_aload_n (pc := 56) hx hb dX11_movesDown_56 rfl (lv_at hl 0 rfl) ?_
  refine zg_DrinkingRoofsModel_barrel (pc := 57) X wM12 zw_fl_5_95 dX11_movesDown_57 ?_
  refine lv_iload_n (pc := 60) hx hb dX11_movesDown_60 rfl (lv_at hl 1 rfl) ?_
  refine lv_iconst (pc := 61) (v := 1) hx hb dX11_movesDown_61 (by decide) ?_
  refine lv_iadd (pc := 62) hx hb dX11_movesDown_62 ?_
  refine lv_aload_n (pc := 63) hx hb dX11_movesDown_63 rfl (lv_at hl 0 rfl) ?_
  refine zg_DrinkingRoofsModel_barrel (pc := 64) X wM12 zw_fl_5_95 dX11_movesDown_64 ?_
  refine lv_iload_n (pc := 67) hx hb dX11_movesDown_67 rfl (lv_at hl 1 rfl) ?_
  obtain ⟨g13, h⟩ := z_gd h
  refine z_iald (pc := 68) X wM12 zk_52 zl_52 g13 dX11_movesDown_68 ?_
  obtain ⟨g14, h⟩ := z_gd h
  refine z_iast (pc := 69) X wM12 zk_52 zl_52 g14 dX11_movesDown_69 (fun HM15 lM15 wM15 => ?_)
  obtain ⟨M15, eM15, h⟩ := z_lo h
  rw [← eM15] at wM15
  refine lv_aload_n (pc := 70) hx hb dX11_movesDown_70 rfl (lv_at hl 0 rfl) ?_
  refine zg_DrinkingRoofsModel_lets (pc := 71) X wM15 zw_fl_5_96 dX11_movesDown_71 ?_
  refine lv_iload_n (pc := 74) hx hb dX11_movesDown_74 rfl (lv_at hl 1 rfl) ?_
  refine lv_iconst (pc := 75) (v := 1) hx hb dX11_movesDown_75 (by decide) ?_
  refine lv_iadd (pc := 76) hx hb dX11_movesDown_76 ?_
  refine lv_aload_n (pc := 77) hx hb dX11_movesDown_77 rfl (lv_at hl 0 rfl) ?_
  refine zg_DrinkingRoofsModel_lets (pc := 78) X wM15 zw_fl_5_96 dX11_movesDown_78 ?_
  refine lv_iload_n (pc := 81) hx hb dX11_movesDown_81 rfl (lv_at hl 1 rfl) ?_
  obtain ⟨g16, h⟩ := z_gd h
  refine z_iald (pc := 82) X wM15 zk_53 zl_53 g16 dX11_movesDown_82 ?_
  obtain ⟨g17, h⟩ := z_gd h
  refine z_iast (pc := 83) X wM15 zk_53 zl_53 g17 dX11_movesDown_83 (fun HM18 lM18 wM18 => ?_)
  obtain ⟨M18, eM18, h⟩ := z_lo h
  rw [← eM18] at wM18
  refine lv_aload_n (pc := 84) hx hb dX11_movesDown_84 rfl (lv_at hl 0 rfl) ?_
  refine zg_DrinkingRoofsModel_held (pc := 85) X wM18 zw_fl_5_97 dX11_movesDown_85 ?_
  refine lv_iload_n (pc := 88) hx hb dX11_movesDown_88 rfl (lv_at hl 1 rfl) ?_
  refine lv_iconst (pc := 89) (v := 1) hx hb dX11_movesDown_89 (by decide) ?_
  refine lv_iadd (pc := 90) hx hb dX11_movesDown_90 ?_
  refine lv_aload_n (pc := 91) hx hb dX11_movesDown_91 rfl (lv_at hl 0 rfl) ?_
  refine zg_DrinkingRoofsModel_held (pc := 92) X wM18 zw_fl_5_97 dX11_movesDown_92 ?_
  refine lv_iload_n (pc := 95) hx hb dX11_movesDown_95 rfl (lv_at hl 1 rfl) ?_
  obtain ⟨g19, h⟩ := z_gd h
  refine z_iald (pc := 96) X wM18 zk_54 zl_54 g19 dX11_movesDown_96 ?_
  obtain ⟨g20, h⟩ := z_gd h
  refine z_iast (pc := 97) X wM18 zk_54 zl_54 g20 dX11_movesDown_97 (fun HM21 lM21 wM21 => ?_)
  obtain ⟨M21, eM21, h⟩ := z_lo h
  rw [← eM21] at wM21
  refine lv_aload_n (pc := 98) hx hb dX11_movesDown_98 rfl (lv_at hl 0 rfl) ?_
  refine zg_DrinkingRoofsModel_snow (pc := 99) X wM21 zw_fl_5_98 dX11_movesDown_99 ?_
  refine lv_iload_n (pc := 102) hx hb dX11_movesDown_102 rfl (lv_at hl 1 rfl) ?_
  refine lv_iconst (pc := 103) (v := 1) hx hb dX11_movesDown_103 (by decide) ?_
  refine lv_iadd (pc := 104) hx hb dX11_movesDown_104 ?_
  refine lv_aload_n (pc := 105) hx hb dX11_movesDown_105 rfl (lv_at hl 0 rfl) ?_
  refine zg_DrinkingRoofsModel_snow (pc := 106) X wM21 zw_fl_5_98 dX11_movesDown_106 ?_
  refine lv_iload_n (pc := 109) hx hb dX11_movesDown_109 rfl (lv_at hl 1 rfl) ?_
  obtain ⟨g22, h⟩ := z_gd h
  refine z_iald (pc := 110) X wM21 zk_55 zl_55 g22 dX11_movesDown_110 ?_
  obtain ⟨g23, h⟩ := z_gd h
  refine z_iast (pc := 111) X wM21 zk_55 zl_55 g23 dX11_movesDown_111 (fun HM24 lM24 wM24 => ?_)
  obtain ⟨M24, eM24, h⟩ := z_lo h
  rw [← eM24] at wM24
  obtain rfl := Option.some.inj h
  exact z_rv (pc := 112) X wM24 dX11_movesDown_112
def f_X11_added_193 (i1 : Int32) (i4 : Int32) (i5 : Int32) (sk0 : Nat) (si1 : Int32) (si2 : Int32) (M : zM) : Option (Int32 × zM) :=
    z_g (z_ix si1 (z_ln sk0)) <|
    z_l (z_w M sk0 (Int32.toNatClampNeg si1) si2) fun M2 =>
    z_g (z_ix i1 11) <|
    z_l (z_w M2 51 (Int32.toNatClampNeg i1) (0 : Int32)) fun M4 =>
    z_g (z_ix i1 11) <|
    z_l (z_w M4 52 (Int32.toNatClampNeg i1) (0 : Int32)) fun M6 =>
    z_g (z_ix i1 11) <|
    z_l (z_w M6 53 (Int32.toNatClampNeg i1) (0 : Int32)) fun M8 =>
    z_g (z_ix i1 11) <|
    z_l (z_w M8 54 (Int32.toNatClampNeg i1) (0 : Int32)) fun M10 =>
    z_g (z_ix i1 11) <|
    z_l (z_w M10 55 (Int32.toNatClampNeg i1) (0 : Int32)) fun M12 =>
    (f_X11_runs i4 M12).bind fun x13 =>
    some ((x13.1 - i5), x13.2)
def f_X11_added_114 : Nat → Int32 → Int32 → Int32 → Int32 → Int32 → Int32 → zM → Option (Int32 × zM)
  | 0, _, _, _, _, _, _, _ => none
  | n + 1, i1, i2, i3, i4, i5, i6, M =>
    if (M.1 40 30) ≤ i6 then (
      z_g (z_ix i1 11) <|
      z_l (z_w M 48 (Int32.toNatClampNeg i1) i2) fun M3 =>
      z_g (z_ix i1 11) <|
      z_l (z_w M3 49 (Int32.toNatClampNeg i1) i3) fun M5 =>
      if i1 = ((M5.1 40 30) - (1 : Int32)) then (
        f_X11_added_193 i1 i4 i5 50 i1 (-1 : Int32) M5
      ) else (
        f_X11_added_193 i1 i4 i5 50 i1 (i1 + (1 : Int32)) M5
      )
    ) else (
      if i6 = i1 then (
        z_l (i6 + (1 : Int32)) fun v8 =>
        f_X11_added_114 n i1 i2 i3 i4 i5 v8 M
      ) else (
        z_g (z_ix i6 11) <|
        if (M.1 50 (Int32.toNatClampNeg i6)) ≤ i1 then (
          z_l (i6 + (1 : Int32)) fun v11 =>
          f_X11_added_114 n i1 i2 i3 i4 i5 v11 M
        ) else (
          z_g (z_ix i6 11) <|
          z_g (z_ix i6 11) <|
          z_l (z_w M 50 (Int32.toNatClampNeg i6) ((M.1 50 (Int32.toNatClampNeg i6)) + (1 : Int32))) fun M14 =>
          z_l (i6 + (1 : Int32)) fun v15 =>
          f_X11_added_114 n i1 i2 i3 i4 i5 v15 M14
        )
      )
    )
def f_X11_added_83 : Nat → Int32 → Int32 → Int32 → Int32 → Int32 → Int32 → zM → Option (Int32 × zM)
  | 0, _, _, _, _, _, _, _ => none
  | n + 1, i1, i2, i3, i4, i5, i6, M =>
    if i6 < i1 then (
      z_l (z_w M 40 30 ((M.1 40 30) + (1 : Int32))) fun M2 =>
      f_X11_added_114 z_F i1 i2 i3 i4 i5 (0 : Int32) M2
    ) else (
      (f_X11_movesDown i6 M).bind fun x3 =>
      z_l (i6 + (-1 : Int32)) fun v4 =>
      f_X11_added_83 n i1 i2 i3 i4 i5 v4 x3
    )
def f_X11_added (i1 : Int32) (i2 : Int32) (i3 : Int32) (i4 : Int32) (M : zM) : Option (Int32 × zM) :=
  (f_X11_isIn i1 (0 : Int32) (M.1 41 (Int32.toNatClampNeg (0 : Int32))) M).bind fun x1 =>
  if x1.1 = 0 then (
    some ((-1000000000 : Int32), x1.2)
  ) else (
    (f_X11_isIn i2 (1 : Int32) (99 : Int32) x1.2).bind fun x3 =>
    if x3.1 = 0 then (
      some ((-1000000000 : Int32), x3.2)
    ) else (
      (f_X11_isIn i3 (0 : Int32) (9999 : Int32) x3.2).bind fun x5 =>
      if x5.1 = 0 then (
        some ((-1000000000 : Int32), x5.2)
      ) else (
        (f_X11_isStorm i4 x5.2).bind fun x7 =>
        if x7.1 = 0 then (
          some ((-1000000000 : Int32), x7.2)
        ) else (
          if (x7.2.1 41 (Int32.toNatClampNeg (0 : Int32))) = (10 : Int32) then (
            some ((-1000000000 : Int32), x7.2)
          ) else (
            (f_X11_laysHouses  x7.2).bind fun x10 =>
            (f_X11_runs i4 x10).bind fun x11 =>
            (f_X11_laysHouses  x11.2).bind fun x12 =>
            z_l ((x12.1 40 30) - (1 : Int32)) fun v13 =>
            f_X11_added_83 z_F i1 i2 i3 i4 x11.1 v13 x12
          )
        )
      )
    )
  )
set_option maxHeartbeats 4000000 in
set_option maxRecDepth 100000 in
theorem w_X11_added_193 {G : zG} {p : Program} {l : Launch} {e : Env} {s : State} {m : MethodId} {args : Array Value} {below : List Frame} {meth : Method} {c : Code} (X : z_C G p s m args meth c cX11_added 7 RX11 (some .int)) {r : Int32 × zM} : ∀ (i1 : Int32) (i4 : Int32) (i5 : Int32) (sk0 : Nat) (si1 : Int32) (si2 : Int32) (M : zM) (H : Heap) (locs : List Loc) (ls : Array Slot), z_kd sk0 = 13 → z_W G M H locs → lv_has ls 7 [(0, .ref (G.1 40)), (1, .int i1), (4, .int i4), (5, .int i5)] → f_X11_added_193 i1 i4 i5 sk0 si1 si2 M = some r → W p l e (z_rm 3) s m args below meth c H locs 0 0 (z_Q G below args s (some (.int r.1)) r.2) (F0 m 193 ls [.int si2, .int si1, .ref (G.1 sk0)]) := by
  have hx := X.1
  have hb := X.2.1
  intro i1 i4 i5 sk0 si1 si2 M H locs ls hsk0 hw hl h
  unfold f_X11_added_193 at h
  obtain ⟨g1, h⟩ := z_gd h
  refine z_iast (pc := 193) X hw hsk0 rfl g1 dX11_added_193 (fun HM2 lM2 wM2 => ?_)
  obtain ⟨M2, eM2, h⟩ := z_lo h
  rw [← eM2] at wM2
  refine lv_aload_n (pc := 194) hx hb dX11_added_194 rfl (lv_at hl 0 rfl) ?_
  refine zg_DrinkingRoofsModel_clog (pc := 195) X wM2 zw_fl_5_94 dX11_added_195 ?_
  refine lv_iload_n (pc := 198) hx hb dX11_added_198 rfl (lv_at hl 1 rfl) ?_
  refine lv_iconst (pc := 199) (v := 0) hx hb dX11_added_199 (by decide) ?_
  obtain ⟨g3, h⟩ := z_gd h
  refine z_iast (pc := 200) X wM2 zk_51 zl_51 g3 dX11_added_200 (fun HM4 lM4 wM4 => ?_)
  obtain ⟨M4, eM4, h⟩ := z_lo h
  rw [← eM4] at wM4
  refine lv_aload_n (pc := 201) hx hb dX11_added_201 rfl (lv_at hl 0 rfl) ?_
  refine zg_DrinkingRoofsModel_barrel (pc := 202) X wM4 zw_fl_5_95 dX11_added_202 ?_
  refine lv_iload_n (pc := 205) hx hb dX11_added_205 rfl (lv_at hl 1 rfl) ?_
  refine lv_iconst (pc := 206) (v := 0) hx hb dX11_added_206 (by decide) ?_
  obtain ⟨g5, h⟩ := z_gd h
  refine z_iast (pc := 207) X wM4 zk_52 zl_52 g5 dX11_added_207 (fun HM6 lM6 wM6 => ?_)
  obtain ⟨M6, eM6, h⟩ := z_lo h
  rw [← eM6] at wM6
  refine lv_aload_n (pc := 208) hx hb dX11_added_208 rfl (lv_at hl 0 rfl) ?_
  refine zg_DrinkingRoofsModel_lets (pc := 209) X wM6 zw_fl_5_96 dX11_added_209 ?_
  refine lv_iload_n (pc := 212) hx hb dX11_added_212 rfl (lv_at hl 1 rfl) ?_
  refine lv_iconst (pc := 213) (v := 0) hx hb dX11_added_213 (by decide) ?_
  obtain ⟨g7, h⟩ := z_gd h
  refine z_iast (pc := 214) X wM6 zk_53 zl_53 g7 dX11_added_214 (fun HM8 lM8 wM8 => ?_)
  obtain ⟨M8, eM8, h⟩ := z_lo h
  rw [← eM8] at wM8
  refine lv_aload_n (pc := 215) hx hb dX11_added_215 rfl (lv_at hl 0 rfl) ?_
  refine zg_DrinkingRoofsModel_held (pc := 216) X wM8 zw_fl_5_97 dX11_added_216 ?_
  refine lv_iload_n (pc := 219) hx hb dX11_added_219 rfl (lv_at hl 1 rfl) ?_
  refine lv_iconst (pc := 220) (v := 0) hx hb dX11_added_220 (by decide) ?_
  obtain ⟨g9, h⟩ := z_gd h
  refine z_iast (pc := 221) X wM8 zk_54 zl_54 g9 dX11_added_221 (fun HM10 lM10 wM10 => ?_)
  obtain ⟨M10, eM10, h⟩ := z_lo h
  rw [← eM10] at wM10
  refine lv_aload_n (pc := 222) hx hb dX11_added_222 rfl (lv_at hl 0 rfl) ?_
  refine zg_DrinkingRoofsModel_snow (pc := 223) X wM10 zw_fl_5_98 dX11_added_223 ?_
  refine lv_iload_n (pc := 226) hx hb dX11_added_226 rfl (lv_at hl 1 rfl) ?_
  refine lv_iconst (pc := 227) (v := 0) hx hb dX11_added_227 (by decide) ?_
  obtain ⟨g11, h⟩ := z_gd h
  refine z_iast (pc := 228) X wM10 zk_55 zl_55 g11 dX11_added_228 (fun HM12 lM12 wM12 => ?_)
  obtain ⟨M12, eM12, h⟩ := z_lo h
  rw [← eM12] at wM12
  refine lv_aload_n (pc := 229) hx hb dX11_added_229 rfl (lv_at hl 0 rfl) ?_
  refine lv_iload (pc := 230) hx hb dX11_added_230 (lv_at hl 2 rfl) ?_
  obtain ⟨x13, ex13, h⟩ := z_bd h
  refine z_cvI (pc := 232) (rest := []) X wM12 (m_X11_runs  ex13) (z_lt zk_40 (by decide)) (z_E11 zk_40) rfl zw_ml_6_117 zw_im_6_119 zw_se_S_57 zw_in_1_12 zw_co_6_120 zd_X11_runs (by decide) rfl hl.1 rfl (Nat.le_of_ble_eq_true rfl) dX11_added_232 ⟨Nat.zero_le _, Nat.zero_le _⟩ (fun Hx13 lx13 wx13 => ?_)
  refine lv_iload (pc := 235) hx hb dX11_added_235 (lv_at hl 3 rfl) ?_
  refine lv_isub (pc := 237) hx hb dX11_added_237 ?_
  obtain rfl := Option.some.inj h
  exact z_ri (pc := 238) X wx13 dX11_added_238
set_option maxHeartbeats 4000000 in
set_option maxRecDepth 100000 in
theorem w_X11_added_114 {G : zG} {p : Program} {l : Launch} {e : Env} {s : State} {m : MethodId} {args : Array Value} {below : List Frame} {meth : Method} {c : Code} (X : z_C G p s m args meth c cX11_added 7 RX11 (some .int)) {r : Int32 × zM} : ∀ (n : Nat) (i1 : Int32) (i2 : Int32) (i3 : Int32) (i4 : Int32) (i5 : Int32) (i6 : Int32) (M : zM) (H : Heap) (locs : List Loc) (ls : Array Slot), z_W G M H locs → lv_has ls 7 [(0, .ref (G.1 40)), (1, .int i1), (2, .int i2), (3, .int i3), (4, .int i4), (5, .int i5), (6, .int i6)] → f_X11_added_114 n i1 i2 i3 i4 i5 i6 M = some r → W p l e (z_rm 3) s m args below meth c H locs 0 0 (z_Q G below args s (some (.int r.1)) r.2) (F0 m 114 ls []) := by
  have hx := X.1
  have hb := X.2.1
  intro n
  induction n with
  | zero =>
    intro i1 i2 i3 i4 i5 i6 M H locs ls  hw hl h
    exact z_no h
  | succ n ih =>
    intro i1 i2 i3 i4 i5 i6 M H locs ls  hw hl h
    rw [f_X11_added_114] at h
    refine lv_iload (pc := 114) hx hb dX11_added_114 (lv_at hl 6 rfl) ?_
    refine lv_aload_n (pc := 116) hx hb dX11_added_116 rfl (lv_at hl 0 rfl) ?_
    refine zg_DrinkingRoofsModel_many (pc := 117) X hw zw_fl_5_101 dX11_added_117 ?_
    refine lv_icmp_ge (pc := 120) (tgt := 157) hx hb dX11_added_120 (by decide) (fun c1 => ?_) (fun c1 => ?_)
    · replace h := z_t c1 h
      refine lv_aload_n (pc := 157) hx hb dX11_added_157 rfl (lv_at hl 0 rfl) ?_
      refine zg_DrinkingRoofsModel_area (pc := 158) X hw zw_fl_5_91 dX11_added_158 ?_
      refine lv_iload_n (pc := 161) hx hb dX11_added_161 rfl (lv_at hl 1 rfl) ?_
      refine lv_iload_n (pc := 162) hx hb dX11_added_162 rfl (lv_at hl 2 rfl) ?_
      obtain ⟨g2, h⟩ := z_gd h
      refine z_iast (pc := 163) X hw zk_48 zl_48 g2 dX11_added_163 (fun HM3 lM3 wM3 => ?_)
      obtain ⟨M3, eM3, h⟩ := z_lo h
      rw [← eM3] at wM3
      refine lv_aload_n (pc := 164) hx hb dX11_added_164 rfl (lv_at hl 0 rfl) ?_
      refine zg_DrinkingRoofsModel_carries (pc := 165) X wM3 zw_fl_5_92 dX11_added_165 ?_
      refine lv_iload_n (pc := 168) hx hb dX11_added_168 rfl (lv_at hl 1 rfl) ?_
      refine lv_iload_n (pc := 169) hx hb dX11_added_169 rfl (lv_at hl 3 rfl) ?_
      obtain ⟨g4, h⟩ := z_gd h
      refine z_iast (pc := 170) X wM3 zk_49 zl_49 g4 dX11_added_170 (fun HM5 lM5 wM5 => ?_)
      obtain ⟨M5, eM5, h⟩ := z_lo h
      rw [← eM5] at wM5
      refine lv_aload_n (pc := 171) hx hb dX11_added_171 rfl (lv_at hl 0 rfl) ?_
      refine zg_DrinkingRoofsModel_next (pc := 172) X wM5 zw_fl_5_93 dX11_added_172 ?_
      refine lv_iload_n (pc := 175) hx hb dX11_added_175 rfl (lv_at hl 1 rfl) ?_
      refine lv_iload_n (pc := 176) hx hb dX11_added_176 rfl (lv_at hl 1 rfl) ?_
      refine lv_aload_n (pc := 177) hx hb dX11_added_177 rfl (lv_at hl 0 rfl) ?_
      refine zg_DrinkingRoofsModel_many (pc := 178) X wM5 zw_fl_5_101 dX11_added_178 ?_
      refine lv_iconst (pc := 181) (v := 1) hx hb dX11_added_181 (by decide) ?_
      refine lv_isub (pc := 182) hx hb dX11_added_182 ?_
      refine lv_icmp_ne (pc := 183) (tgt := 190) hx hb dX11_added_183 (by decide) (fun c6 => ?_) (fun c6 => ?_)
      · replace h := z_f c6 h
        refine lv_iload_n (pc := 190) hx hb dX11_added_190 rfl (lv_at hl 1 rfl) ?_
        refine lv_iconst (pc := 191) (v := 1) hx hb dX11_added_191 (by decide) ?_
        refine lv_iadd (pc := 192) hx hb dX11_added_192 ?_
        exact w_X11_added_193 X i1 i4 i5 50 i1 (i1 + (1 : Int32)) M5 HM5 lM5 ls zk_50 wM5 (lv_sub hl [0, 1, 4, 5] rfl) h
      · replace h := z_t c6 h
        refine lv_iconst (pc := 186) (v := -1) hx hb dX11_added_186 (by decide) ?_
        refine lv_goto (pc := 187) (tgt := 193) hx hb dX11_added_187 (by decide) ?_
        exact w_X11_added_193 X i1 i4 i5 50 i1 (-1 : Int32) M5 HM5 lM5 ls zk_50 wM5 (lv_sub hl [0, 1, 4, 5] rfl) h
    · replace h := z_f c1 h
      refine lv_iload (pc := 123) hx hb dX11_added_123 (lv_at hl 6 rfl) ?_
      refine lv_iload_n (pc := 125) hx hb dX11_added_125 rfl (lv_at hl 1 rfl) ?_
      refine lv_icmp_eq (pc := 126) (tgt := 151) hx hb dX11_added_126 (by decide) (fun c7 => ?_) (fun c7 => ?_)
      · replace h := z_t c7 h
        obtain ⟨v8, ev8, h⟩ := z_lo h
        refine lv_iinc (pc := 151) (v := v8) (lv' := [(6, .int v8), (0, .ref (G.1 40)), (1, .int i1), (2, .int i2), (3, .int i3), (4, .int i4), (5, .int i5)]) hx hb dX11_added_151 hl (k := 6) rfl (by rw [ev8]; rfl) (by decide) rfl (fun ls hl => ?_)
        refine lv_goto (pc := 154) (tgt := 114) hx hb dX11_added_154 (by decide) ?_
        exact ih i1 i2 i3 i4 i5 v8 M H locs ls  hw (lv_sub hl [1, 2, 3, 4, 5, 6, 0] rfl) h
      · replace h := z_f c7 h
        refine lv_aload_n (pc := 129) hx hb dX11_added_129 rfl (lv_at hl 0 rfl) ?_
        refine zg_DrinkingRoofsModel_next (pc := 130) X hw zw_fl_5_93 dX11_added_130 ?_
        refine lv_iload (pc := 133) hx hb dX11_added_133 (lv_at hl 6 rfl) ?_
        obtain ⟨g9, h⟩ := z_gd h
        refine z_iald (pc := 135) X hw zk_50 zl_50 g9 dX11_added_135 ?_
        refine lv_iload_n (pc := 136) hx hb dX11_added_136 rfl (lv_at hl 1 rfl) ?_
        refine lv_icmp_le (pc := 137) (tgt := 151) hx hb dX11_added_137 (by decide) (fun c10 => ?_) (fun c10 => ?_)
        · replace h := z_t c10 h
          obtain ⟨v11, ev11, h⟩ := z_lo h
          refine lv_iinc (pc := 151) (v := v11) (lv' := [(6, .int v11), (0, .ref (G.1 40)), (1, .int i1), (2, .int i2), (3, .int i3), (4, .int i4), (5, .int i5)]) hx hb dX11_added_151 hl (k := 6) rfl (by rw [ev11]; rfl) (by decide) rfl (fun ls hl => ?_)
          refine lv_goto (pc := 154) (tgt := 114) hx hb dX11_added_154 (by decide) ?_
          exact ih i1 i2 i3 i4 i5 v11 M H locs ls  hw (lv_sub hl [1, 2, 3, 4, 5, 6, 0] rfl) h
        · replace h := z_f c10 h
          refine lv_aload_n (pc := 140) hx hb dX11_added_140 rfl (lv_at hl 0 rfl) ?_
          refine zg_DrinkingRoofsModel_next (pc := 141) X hw zw_fl_5_93 dX11_added_141 ?_
          refine lv_iload (pc := 144) hx hb dX11_added_144 (lv_at hl 6 rfl) ?_
          refine lv_dup2_11 (pc := 146) hx hb dX11_added_146 rfl rfl ?_
          obtain ⟨g12, h⟩ := z_gd h
          refine z_iald (pc := 147) X hw zk_50 zl_50 g12 dX11_added_147 ?_
          refine lv_iconst (pc := 148) (v := 1) hx hb dX11_added_148 (by decide) ?_
          refine lv_iadd (pc := 149) hx hb dX11_added_149 ?_
          obtain ⟨g13, h⟩ := z_gd h
          refine z_iast (pc := 150) X hw zk_50 zl_50 g13 dX11_added_150 (fun HM14 lM14 wM14 => ?_)
          obtain ⟨M14, eM14, h⟩ := z_lo h
          rw [← eM14] at wM14
          obtain ⟨v15, ev15, h⟩ := z_lo h
          refine lv_iinc (pc := 151) (v := v15) (lv' := [(6, .int v15), (0, .ref (G.1 40)), (1, .int i1), (2, .int i2), (3, .int i3), (4, .int i4), (5, .int i5)]) hx hb dX11_added_151 hl (k := 6) rfl (by rw [ev15]; rfl) (by decide) rfl (fun ls hl => ?_)
          refine lv_goto (pc := 154) (tgt := 114) hx hb dX11_added_154 (by decide) ?_
          exact ih i1 i2 i3 i4 i5 v15 M14 HM14 lM14 ls  wM14 (lv_sub hl [1, 2, 3, 4, 5, 6, 0] rfl) h
set_option maxHeartbeats 4000000 in
set_option maxRecDepth 100000 in
theorem w_X11_added_83 {G : zG} {p : Program} {l : Launch} {e : Env} {s : State} {m : MethodId} {args : Array Value} {below : List Frame} {meth : Method} {c : Code} (X : z_C G p s m args meth c cX11_added 7 RX11 (some .int)) {r : Int32 × zM} : ∀ (n : Nat) (i1 : Int32) (i2 : Int32) (i3 : Int32) (i4 : Int32) (i5 : Int32) (i6 : Int32) (M : zM) (H : Heap) (locs : List Loc) (ls : Array Slot), z_W G M H locs → lv_has ls 7 [(0, .ref (G.1 40)), (1, .int i1), (2, .int i2), (3, .int i3), (4, .int i4), (5, .int i5), (6, .int i6)] → f_X11_added_83 n i1 i2 i3 i4 i5 i6 M = some r → W p l e (z_rm 3) s m args below meth c H locs 0 0 (z_Q G below args s (some (.int r.1)) r.2) (F0 m 83 ls []) := by
  have hx := X.1
  have hb := X.2.1
  intro n
  induction n with
  | zero =>
    intro i1 i2 i3 i4 i5 i6 M H locs ls  hw hl h
    exact z_no h
  | succ n ih =>
    intro i1 i2 i3 i4 i5 i6 M H locs ls  hw hl h
    rw [f_X11_added_83] at h
    refine lv_iload (pc := 83) hx hb dX11_added_83 (lv_at hl 6 rfl) ?_
    refine lv_iload_n (pc := 85) hx hb dX11_added_85 rfl (lv_at hl 1 rfl) ?_
    refine lv_icmp_lt (pc := 86) (tgt := 101) hx hb dX11_added_86 (by decide) (fun c1 => ?_) (fun c1 => ?_)
    · replace h := z_t c1 h
      refine lv_aload_n (pc := 101) hx hb dX11_added_101 rfl (lv_at hl 0 rfl) ?_
      refine lv_dup (pc := 102) hx hb dX11_added_102 rfl ?_
      refine zg_DrinkingRoofsModel_many (pc := 103) X hw zw_fl_5_101 dX11_added_103 ?_
      refine lv_iconst (pc := 106) (v := 1) hx hb dX11_added_106 (by decide) ?_
      refine lv_iadd (pc := 107) hx hb dX11_added_107 ?_
      refine zp_DrinkingRoofsModel_many (pc := 108) X hw zw_fl_5_101 dX11_added_108 (fun HM2 lM2 wM2 => ?_)
      obtain ⟨M2, eM2, h⟩ := z_lo h
      rw [← eM2] at wM2
      refine lv_iconst (pc := 111) (v := 0) hx hb dX11_added_111 (by decide) ?_
      refine lv_istore (pc := 112) (lv' := [(6, .int (0 : Int32)), (0, .ref (G.1 40)), (1, .int i1), (2, .int i2), (3, .int i3), (4, .int i4), (5, .int i5)]) hx hb dX11_added_112 hl (by decide) rfl (fun ls hl => ?_)
      exact w_X11_added_114 X z_F i1 i2 i3 i4 i5 (0 : Int32) M2 HM2 lM2 ls  wM2 (lv_sub hl [1, 2, 3, 4, 5, 6, 0] rfl) h
    · replace h := z_f c1 h
      refine lv_aload_n (pc := 89) hx hb dX11_added_89 rfl (lv_at hl 0 rfl) ?_
      refine lv_iload (pc := 90) hx hb dX11_added_90 (lv_at hl 6 rfl) ?_
      obtain ⟨x3, ex3, h⟩ := z_bd h
      refine z_cvV (pc := 92) (rest := []) X hw (m_X11_movesDown  ex3) (z_lt zk_40 (by decide)) (z_E11 zk_40) rfl zw_ml_6_202 zw_im_6_204 zw_se_S_66 zw_in_1_12 zw_co_6_205 zd_X11_movesDown (by decide) rfl hl.1 rfl (Nat.le_of_ble_eq_true rfl) dX11_added_92 ⟨Nat.zero_le _, Nat.zero_le _⟩ (fun Hx3 lx3 wx3 => ?_)
      obtain ⟨v4, ev4, h⟩ := z_lo h
      refine lv_iinc (pc := 95) (v := v4) (lv' := [(6, .int v4), (0, .ref (G.1 40)), (1, .int i1), (2, .int i2), (3, .int i3), (4, .int i4), (5, .int i5)]) hx hb dX11_added_95 hl (k := 6) rfl (by rw [ev4]; rfl) (by decide) rfl (fun ls hl => ?_)
      refine lv_goto (pc := 98) (tgt := 83) hx hb dX11_added_98 (by decide) ?_
      exact ih i1 i2 i3 i4 i5 v4 x3 Hx3 lx3 ls  wx3 (lv_sub hl [1, 2, 3, 4, 5, 6, 0] rfl) h
set_option maxHeartbeats 4000000 in
set_option maxRecDepth 100000 in
theorem m_X11_added {l : Launch} {G : zG} {i1 : Int32} {i2 : Int32} {i3 : Int32} {i4 : Int32} {M : zM} {r : Int32 × zM} (h : f_X11_added i1 i2 i3 i4 M = some r) : z_T l G 3 yX11_added (.code yX11_added cX11_added 7 (some .int)) [.ref (G.1 40), .int i1, .int i2, .int i3, .int i4] M (some (.int r.1)) r.2 := by
  refine z_of rfl ?_
  intro p e s m below meth c X hw
  have hl := lv_entry [.ref (G.1 40), .int i1, .int i2, .int i3, .int i4] (n := 7) (Nat.le_of_ble_eq_true rfl)
  rw [lg_entry_eq]
  generalize (lg_sl [.ref (G.1 40), .int i1, .int i2, .int i3, .int i4] ++ List.replicate (7 - (lg_sl [.ref (G.1 40), .int i1, .int i2, .int i3, .int i4]).length) Slot.unset).toArray = ls at hl ⊢
  have hl : lv_has ls 7 [(0, .ref (G.1 40)), (1, .int i1), (2, .int i2), (3, .int i3), (4, .int i4)] := hl
  generalize ([.ref (G.1 40), .int i1, .int i2, .int i3, .int i4] : List Value).toArray = args at X ⊢
  have X : z_C G p s m args meth c cX11_added 7 RX11 (some .int) := X
  have hx := X.1
  have hb := X.2.1
  unfold f_X11_added at h
  refine lv_iload_n (pc := 0) hx hb dX11_added_0 rfl (lv_at hl 1 rfl) ?_
  refine lv_iconst (pc := 1) (v := 0) hx hb dX11_added_1 (by decide) ?_
  refine lv_aload_n (pc := 2) hx hb dX11_added_2 rfl (lv_at hl 0 rfl) ?_
  refine zg_DrinkingRoofsModel_w (pc := 3) X hw zw_fl_5_71 dX11_added_3 ?_
  refine lv_iconst (pc := 6) (v := 0) hx hb dX11_added_6 (by decide) ?_
  refine z_iald (pc := 7) X hw zk_41 zl_41 (z_il (by decide)) dX11_added_7 ?_
  obtain ⟨x1, ex1, h⟩ := z_bd h
  refine z_csI (pc := 8) (rest := []) X hw (m_X11_isIn  ex1) zw_ml_5_209 zw_st_5_210 zw_in_1_12 zw_co_5_211 zd_X11_isIn (by decide) rfl hl.1 rfl (Nat.le_of_ble_eq_true rfl) dX11_added_8 ⟨Nat.zero_le _, Nat.zero_le _⟩ (fun Hx1 lx1 wx1 => ?_)
  refine lv_if_eq (pc := 11) (tgt := 55) hx hb dX11_added_11 (by decide) (fun c2 => ?_) (fun c2 => ?_)
  · replace h := z_t c2 h
    refine lv_ldcw (pc := 55) (v := -1000000000) hx hb X.2.2.2.1 (X.2.2.2.2.1 _ zw_cn_6_158) dX11_added_55 ?_
    obtain rfl := Option.some.inj h
    exact z_ri (pc := 58) X wx1 dX11_added_58
  · replace h := z_f c2 h
    refine lv_iload_n (pc := 14) hx hb dX11_added_14 rfl (lv_at hl 2 rfl) ?_
    refine lv_iconst (pc := 15) (v := 1) hx hb dX11_added_15 (by decide) ?_
    refine lv_bipush (pc := 16) (v := 99) hx hb dX11_added_16 (by decide) ?_
    obtain ⟨x3, ex3, h⟩ := z_bd h
    refine z_csI (pc := 18) (rest := []) X wx1 (m_X11_isIn  ex3) zw_ml_5_209 zw_st_5_210 zw_in_1_12 zw_co_5_211 zd_X11_isIn (by decide) rfl hl.1 rfl (Nat.le_of_ble_eq_true rfl) dX11_added_18 ⟨Nat.zero_le _, Nat.zero_le _⟩ (fun Hx3 lx3 wx3 => ?_)
    refine lv_if_eq (pc := 21) (tgt := 55) hx hb dX11_added_21 (by decide) (fun c4 => ?_) (fun c4 => ?_)
    · replace h := z_t c4 h
      refine lv_ldcw (pc := 55) (v := -1000000000) hx hb X.2.2.2.1 (X.2.2.2.2.1 _ zw_cn_6_158) dX11_added_55 ?_
      obtain rfl := Option.some.inj h
      exact z_ri (pc := 58) X wx3 dX11_added_58
    · replace h := z_f c4 h
      refine lv_iload_n (pc := 24) hx hb dX11_added_24 rfl (lv_at hl 3 rfl) ?_
      refine lv_iconst (pc := 25) (v := 0) hx hb dX11_added_25 (by decide) ?_
      refine lv_sipush (pc := 26) (v := 9999) hx hb dX11_added_26 (by decide) ?_
      obtain ⟨x5, ex5, h⟩ := z_bd h
      refine z_csI (pc := 29) (rest := []) X wx3 (m_X11_isIn  ex5) zw_ml_5_209 zw_st_5_210 zw_in_1_12 zw_co_5_211 zd_X11_isIn (by decide) rfl hl.1 rfl (Nat.le_of_ble_eq_true rfl) dX11_added_29 ⟨Nat.zero_le _, Nat.zero_le _⟩ (fun Hx5 lx5 wx5 => ?_)
      refine lv_if_eq (pc := 32) (tgt := 55) hx hb dX11_added_32 (by decide) (fun c6 => ?_) (fun c6 => ?_)
      · replace h := z_t c6 h
        refine lv_ldcw (pc := 55) (v := -1000000000) hx hb X.2.2.2.1 (X.2.2.2.2.1 _ zw_cn_6_158) dX11_added_55 ?_
        obtain rfl := Option.some.inj h
        exact z_ri (pc := 58) X wx5 dX11_added_58
      · replace h := z_f c6 h
        refine lv_aload_n (pc := 35) hx hb dX11_added_35 rfl (lv_at hl 0 rfl) ?_
        refine lv_iload (pc := 36) hx hb dX11_added_36 (lv_at hl 4 rfl) ?_
        obtain ⟨x7, ex7, h⟩ := z_bd h
        refine z_cvI (pc := 38) (rest := []) X wx5 (m_X11_isStorm  ex7) (z_lt zk_40 (by decide)) (z_E11 zk_40) rfl zw_ml_5_236 zw_im_5_238 zw_se_S_37 zw_in_1_12 zw_co_5_239 zd_X11_isStorm (by decide) rfl hl.1 rfl (Nat.le_of_ble_eq_true rfl) dX11_added_38 ⟨Nat.zero_le _, Nat.zero_le _⟩ (fun Hx7 lx7 wx7 => ?_)
        refine lv_if_eq (pc := 41) (tgt := 55) hx hb dX11_added_41 (by decide) (fun c8 => ?_) (fun c8 => ?_)
        · replace h := z_t c8 h
          refine lv_ldcw (pc := 55) (v := -1000000000) hx hb X.2.2.2.1 (X.2.2.2.2.1 _ zw_cn_6_158) dX11_added_55 ?_
          obtain rfl := Option.some.inj h
          exact z_ri (pc := 58) X wx7 dX11_added_58
        · replace h := z_f c8 h
          refine lv_aload_n (pc := 44) hx hb dX11_added_44 rfl (lv_at hl 0 rfl) ?_
          refine zg_DrinkingRoofsModel_w (pc := 45) X wx7 zw_fl_5_71 dX11_added_45 ?_
          refine lv_iconst (pc := 48) (v := 0) hx hb dX11_added_48 (by decide) ?_
          refine z_iald (pc := 49) X wx7 zk_41 zl_41 (z_il (by decide)) dX11_added_49 ?_
          refine lv_bipush (pc := 50) (v := 10) hx hb dX11_added_50 (by decide) ?_
          refine lv_icmp_ne (pc := 52) (tgt := 59) hx hb dX11_added_52 (by decide) (fun c9 => ?_) (fun c9 => ?_)
          · replace h := z_f c9 h
            refine lv_aload_n (pc := 59) hx hb dX11_added_59 rfl (lv_at hl 0 rfl) ?_
            obtain ⟨x10, ex10, h⟩ := z_bd h
            refine z_cvV (pc := 60) (rest := []) X wx7 (m_X11_laysHouses  ex10) (z_lt zk_40 (by decide)) (z_E11 zk_40) rfl zw_ml_6_109 zw_im_6_111 zw_se_S_55 zw_in_1_12 zw_co_6_112 zd_X11_laysHouses (by decide) rfl hl.1 rfl (Nat.le_of_ble_eq_true rfl) dX11_added_60 ⟨Nat.zero_le _, Nat.zero_le _⟩ (fun Hx10 lx10 wx10 => ?_)
            refine lv_aload_n (pc := 63) hx hb dX11_added_63 rfl (lv_at hl 0 rfl) ?_
            refine lv_iload (pc := 64) hx hb dX11_added_64 (lv_at hl 4 rfl) ?_
            obtain ⟨x11, ex11, h⟩ := z_bd h
            refine z_cvI (pc := 66) (rest := []) X wx10 (m_X11_runs  ex11) (z_lt zk_40 (by decide)) (z_E11 zk_40) rfl zw_ml_6_117 zw_im_6_119 zw_se_S_57 zw_in_1_12 zw_co_6_120 zd_X11_runs (by decide) rfl hl.1 rfl (Nat.le_of_ble_eq_true rfl) dX11_added_66 ⟨Nat.zero_le _, Nat.zero_le _⟩ (fun Hx11 lx11 wx11 => ?_)
            refine lv_istore (pc := 69) (lv' := [(5, .int x11.1), (0, .ref (G.1 40)), (1, .int i1), (2, .int i2), (3, .int i3), (4, .int i4)]) hx hb dX11_added_69 hl (by decide) rfl (fun ls hl => ?_)
            refine lv_aload_n (pc := 71) hx hb dX11_added_71 rfl (lv_at hl 1 rfl) ?_
            obtain ⟨x12, ex12, h⟩ := z_bd h
            refine z_cvV (pc := 72) (rest := []) X wx11 (m_X11_laysHouses  ex12) (z_lt zk_40 (by decide)) (z_E11 zk_40) rfl zw_ml_6_109 zw_im_6_111 zw_se_S_55 zw_in_1_12 zw_co_6_112 zd_X11_laysHouses (by decide) rfl hl.1 rfl (Nat.le_of_ble_eq_true rfl) dX11_added_72 ⟨Nat.zero_le _, Nat.zero_le _⟩ (fun Hx12 lx12 wx12 => ?_)
            refine lv_aload_n (pc := 75) hx hb dX11_added_75 rfl (lv_at hl 1 rfl) ?_
            refine zg_DrinkingRoofsModel_many (pc := 76) X wx12 zw_fl_5_101 dX11_added_76 ?_
            refine lv_iconst (pc := 79) (v := 1) hx hb dX11_added_79 (by decide) ?_
            refine lv_isub (pc := 80) hx hb dX11_added_80 ?_
            obtain ⟨v13, ev13, h⟩ := z_lo h
            refine z_topi ev13 ?_
            refine lv_istore (pc := 81) (lv' := [(6, .int v13), (5, .int x11.1), (0, .ref (G.1 40)), (1, .int i1), (2, .int i2), (3, .int i3), (4, .int i4)]) hx hb dX11_added_81 hl (by decide) rfl (fun ls hl => ?_)
            exact w_X11_added_83 X z_F i1 i2 i3 i4 x11.1 v13 x12 Hx12 lx12 ls  wx12 (lv_sub hl [2, 3, 4, 5, 6, 1, 0] rfl) h
          · replace h := z_t c9 h
            refine lv_ldcw (pc := 55) (v := -1000000000) hx hb X.2.2.2.1 (X.2.2.2.2.1 _ zw_cn_6_158) dX11_added_55 ?_
            obtain rfl := Option.some.inj h
            exact z_ri (pc := 58) X wx7 dX11_added_58
def f_X11_image_15 : Nat → Int32 → Int32 → zM → Option (Int32 × zM)
  | 0, _, _, _ => none
  | n + 1, i1, i2, M =>
    if (1700 : Int32) ≤ i2 then (
      z_l (z_w M 40 2 (1 : Int32)) fun M2 =>
      some ((1 : Int32), M2)
    ) else (
      if i1 = 0 then (
        z_g (z_ix i2 1700) <|
        z_g (z_ix i2 1700) <|
        z_l (z_w M 41 (Int32.toNatClampNeg i2) (M.1 42 (Int32.toNatClampNeg i2))) fun M6 =>
        z_l (i2 + (1 : Int32)) fun v7 =>
        f_X11_image_15 n i1 v7 M6
      ) else (
        z_g (z_ix i2 1700) <|
        z_g (z_ix i2 1700) <|
        z_l (z_w M 42 (Int32.toNatClampNeg i2) (M.1 41 (Int32.toNatClampNeg i2))) fun M10 =>
        z_l (i2 + (1 : Int32)) fun v11 =>
        f_X11_image_15 n i1 v11 M10
      )
    )
def f_X11_image (i1 : Int32) (M : zM) : Option (Int32 × zM) :=
  if i1 = 0 then (
    if (M.1 40 2) = 0 then (
      some ((0 : Int32), M)
    ) else (
      f_X11_image_15 z_F i1 (0 : Int32) M
    )
  ) else (
    f_X11_image_15 z_F i1 (0 : Int32) M
  )
set_option maxHeartbeats 4000000 in
set_option maxRecDepth 100000 in
theorem w_X11_image_15 {G : zG} {p : Program} {l : Launch} {e : Env} {s : State} {m : MethodId} {args : Array Value} {below : List Frame} {meth : Method} {c : Code} (X : z_C G p s m args meth c cX11_image 3 RX11 (some .boolean)) {r : Int32 × zM} : ∀ (n : Nat) (i1 : Int32) (i2 : Int32) (M : zM) (H : Heap) (locs : List Loc) (ls : Array Slot), z_W G M H locs → lv_has ls 3 [(0, .ref (G.1 40)), (1, .int i1), (2, .int i2)] → f_X11_image_15 n i1 i2 M = some r → W p l e (z_rm 0) s m args below meth c H locs 0 0 (z_Q G below args s (some (.int r.1)) r.2) (F0 m 15 ls []) := by
  have hx := X.1
  have hb := X.2.1
  intro n
  induction n with
  | zero =>
    intro i1 i2 M H locs ls  hw hl h
    exact z_no h
  | succ n ih =>
    intro i1 i2 M H locs ls  hw hl h
    rw [f_X11_image_15] at h
    refine lv_iload_n (pc := 15) hx hb dX11_image_15 rfl (lv_at hl 2 rfl) ?_
    refine lv_sipush (pc := 16) (v := 1700) hx hb dX11_image_16 (by decide) ?_
    refine lv_icmp_ge (pc := 19) (tgt := 59) hx hb dX11_image_19 (by decide) (fun c1 => ?_) (fun c1 => ?_)
    · replace h := z_t c1 h
      refine lv_aload_n (pc := 59) hx hb dX11_image_59 rfl (lv_at hl 0 rfl) ?_
      refine lv_iconst (pc := 60) (v := 1) hx hb dX11_image_60 (by decide) ?_
      refine zp_DrinkingRoofsModel_hasImage (pc := 61) X hw zw_fl_5_73 rfl rfl dX11_image_61 (fun HM2 lM2 wM2 => ?_)
      obtain ⟨M2, eM2, h⟩ := z_lo h
      rw [← eM2] at wM2
      refine lv_iconst (pc := 64) (v := 1) hx hb dX11_image_64 (by decide) ?_
      obtain rfl := Option.some.inj h
      exact z_rz (pc := 65) X wM2 (z_nb (x := 1) (by decide)) dX11_image_65
    · replace h := z_f c1 h
      refine lv_iload_n (pc := 22) hx hb dX11_image_22 rfl (lv_at hl 1 rfl) ?_
      refine lv_if_eq (pc := 23) (tgt := 41) hx hb dX11_image_23 (by decide) (fun c3 => ?_) (fun c3 => ?_)
      · replace h := z_t c3 h
        refine lv_aload_n (pc := 41) hx hb dX11_image_41 rfl (lv_at hl 0 rfl) ?_
        refine zg_DrinkingRoofsModel_w (pc := 42) X hw zw_fl_5_71 dX11_image_42 ?_
        refine lv_iload_n (pc := 45) hx hb dX11_image_45 rfl (lv_at hl 2 rfl) ?_
        refine lv_aload_n (pc := 46) hx hb dX11_image_46 rfl (lv_at hl 0 rfl) ?_
        refine zg_DrinkingRoofsModel_kept (pc := 47) X hw zw_fl_5_72 dX11_image_47 ?_
        refine lv_iload_n (pc := 50) hx hb dX11_image_50 rfl (lv_at hl 2 rfl) ?_
        obtain ⟨g4, h⟩ := z_gd h
        refine z_iald (pc := 51) X hw zk_42 zl_42 g4 dX11_image_51 ?_
        obtain ⟨g5, h⟩ := z_gd h
        refine z_iast (pc := 52) X hw zk_41 zl_41 g5 dX11_image_52 (fun HM6 lM6 wM6 => ?_)
        obtain ⟨M6, eM6, h⟩ := z_lo h
        rw [← eM6] at wM6
        obtain ⟨v7, ev7, h⟩ := z_lo h
        refine lv_iinc (pc := 53) (v := v7) (lv' := [(2, .int v7), (0, .ref (G.1 40)), (1, .int i1)]) hx hb dX11_image_53 hl (k := 2) rfl (by rw [ev7]; rfl) (by decide) rfl (fun ls hl => ?_)
        refine lv_goto (pc := 56) (tgt := 15) hx hb dX11_image_56 (by decide) ?_
        exact ih i1 v7 M6 HM6 lM6 ls  wM6 (lv_sub hl [1, 2, 0] rfl) h
      · replace h := z_f c3 h
        refine lv_aload_n (pc := 26) hx hb dX11_image_26 rfl (lv_at hl 0 rfl) ?_
        refine zg_DrinkingRoofsModel_kept (pc := 27) X hw zw_fl_5_72 dX11_image_27 ?_
        refine lv_iload_n (pc := 30) hx hb dX11_image_30 rfl (lv_at hl 2 rfl) ?_
        refine lv_aload_n (pc := 31) hx hb dX11_image_31 rfl (lv_at hl 0 rfl) ?_
        refine zg_DrinkingRoofsModel_w (pc := 32) X hw zw_fl_5_71 dX11_image_32 ?_
        refine lv_iload_n (pc := 35) hx hb dX11_image_35 rfl (lv_at hl 2 rfl) ?_
        obtain ⟨g8, h⟩ := z_gd h
        refine z_iald (pc := 36) X hw zk_41 zl_41 g8 dX11_image_36 ?_
        obtain ⟨g9, h⟩ := z_gd h
        refine z_iast (pc := 37) X hw zk_42 zl_42 g9 dX11_image_37 (fun HM10 lM10 wM10 => ?_)
        obtain ⟨M10, eM10, h⟩ := z_lo h
        rw [← eM10] at wM10
        refine lv_goto (pc := 38) (tgt := 53) hx hb dX11_image_38 (by decide) ?_
        obtain ⟨v11, ev11, h⟩ := z_lo h
        refine lv_iinc (pc := 53) (v := v11) (lv' := [(2, .int v11), (0, .ref (G.1 40)), (1, .int i1)]) hx hb dX11_image_53 hl (k := 2) rfl (by rw [ev11]; rfl) (by decide) rfl (fun ls hl => ?_)
        refine lv_goto (pc := 56) (tgt := 15) hx hb dX11_image_56 (by decide) ?_
        exact ih i1 v11 M10 HM10 lM10 ls  wM10 (lv_sub hl [1, 2, 0] rfl) h
set_option maxHeartbeats 4000000 in
set_option maxRecDepth 100000 in
theorem m_X11_image {l : Launch} {G : zG} {i1 : Int32} {M : zM} {r : Int32 × zM} (h : f_X11_image i1 M = some r) : z_T l G 0 yX11_image (.code yX11_image cX11_image 3 (some .boolean)) [.ref (G.1 40), .int i1] M (some (.int r.1)) r.2 := by
  refine z_of rfl ?_
  intro p e s m below meth c X hw
  have hl := lv_entry [.ref (G.1 40), .int i1] (n := 3) (Nat.le_of_ble_eq_true rfl)
  rw [lg_entry_eq]
  generalize (lg_sl [.ref (G.1 40), .int i1] ++ List.replicate (3 - (lg_sl [.ref (G.1 40), .int i1]).length) Slot.unset).toArray = ls at hl ⊢
  have hl : lv_has ls 3 [(0, .ref (G.1 40)), (1, .int i1)] := hl
  generalize ([.ref (G.1 40), .int i1] : List Value).toArray = args at X ⊢
  have X : z_C G p s m args meth c cX11_image 3 RX11 (some .boolean) := X
  have hx := X.1
  have hb := X.2.1
  unfold f_X11_image at h
  refine lv_iload_n (pc := 0) hx hb dX11_image_0 rfl (lv_at hl 1 rfl) ?_
  refine lv_if_ne (pc := 1) (tgt := 13) hx hb dX11_image_1 (by decide) (fun c1 => ?_) (fun c1 => ?_)
  · replace h := z_f c1 h
    refine lv_iconst (pc := 13) (v := 0) hx hb dX11_image_13 (by decide) ?_
    refine lv_istore_n (pc := 14) (lv' := [(2, .int (0 : Int32)), (0, .ref (G.1 40)), (1, .int i1)]) hx hb dX11_image_14 rfl hl (by decide) rfl (fun ls hl => ?_)
    exact w_X11_image_15 X z_F i1 (0 : Int32) M s.heap [] ls  hw (lv_sub hl [1, 2, 0] rfl) h
  · replace h := z_t c1 h
    refine lv_aload_n (pc := 4) hx hb dX11_image_4 rfl (lv_at hl 0 rfl) ?_
    refine zg_DrinkingRoofsModel_hasImage (pc := 5) X hw zw_fl_5_73 dX11_image_5 ?_
    refine lv_if_ne (pc := 8) (tgt := 13) hx hb dX11_image_8 (by decide) (fun c2 => ?_) (fun c2 => ?_)
    · replace h := z_f c2 h
      refine lv_iconst (pc := 13) (v := 0) hx hb dX11_image_13 (by decide) ?_
      refine lv_istore_n (pc := 14) (lv' := [(2, .int (0 : Int32)), (0, .ref (G.1 40)), (1, .int i1)]) hx hb dX11_image_14 rfl hl (by decide) rfl (fun ls hl => ?_)
      exact w_X11_image_15 X z_F i1 (0 : Int32) M s.heap [] ls  hw (lv_sub hl [1, 2, 0] rfl) h
    · replace h := z_t c2 h
      refine lv_iconst (pc := 11) (v := 0) hx hb dX11_image_11 (by decide) ?_
      obtain rfl := Option.some.inj h
      exact z_rz (pc := 12) X hw (z_nb (x := 0) (by decide)) dX11_image_12
