def f_X11_look (i1 : Int32) (M : zM) : Option (Int32 × zM) :=
  if i1 = (0 : Int32) then (
    some ((M.1 41 (Int32.toNatClampNeg (0 : Int32))), M)
  ) else (
  if i1 = (1 : Int32) then (
    some ((M.1 41 (Int32.toNatClampNeg (1 : Int32))), M)
  ) else (
  if i1 = (2 : Int32) then (
    some ((M.1 41 (Int32.toNatClampNeg (2 : Int32))), M)
  ) else (
  if i1 = (3 : Int32) then (
    some ((M.1 41 (Int32.toNatClampNeg (3 : Int32))), M)
  ) else (
  if i1 = (4 : Int32) then (
    some ((M.1 41 (Int32.toNatClampNeg (4 : Int32))), M)
  ) else (
  if i1 = (5 : Int32) then (
    some ((M.1 41 (Int32.toNatClampNeg (5 : Int32))), M)
  ) else (
  if i1 = (6 : Int32) then (
    some ((M.1 41 (Int32.toNatClampNeg (810 : Int32))), M)
  ) else (
  if i1 = (7 : Int32) then (
    some ((M.1 41 (Int32.toNatClampNeg (6 : Int32))), M)
  ) else (
  if i1 = (8 : Int32) then (
    some ((M.1 41 (Int32.toNatClampNeg (7 : Int32))), M)
  ) else (
    (f_X11_isIn i1 (10 : Int32) ((9 : Int32) + (M.1 41 (Int32.toNatClampNeg (1 : Int32)))) M).bind fun x10 =>
    if x10.1 = 0 then (
      (f_X11_isIn i1 (100 : Int32) ((99 : Int32) + ((12 : Int32) * (x10.2.1 41 (Int32.toNatClampNeg (1 : Int32))))) x10.2).bind fun x12 =>
      if x12.1 = 0 then (
        some ((-1 : Int32), x12.2)
      ) else (
        (f_X11_hoursOf ((i1 - (100 : Int32)) / (12 : Int32)) x12.2).bind fun x14 =>
        if ((i1 - (100 : Int32)) - (i1 - (100 : Int32)) / (12 : Int32) * (12 : Int32)) < x14.1 then (
          z_l ((i1 - (100 : Int32)) / (12 : Int32)) fun v16 =>
          (f_X11_fallOf v16 ((i1 - (100 : Int32)) - (i1 - (100 : Int32)) / (12 : Int32) * (12 : Int32)) x14.2).bind fun x17 =>
          (f_X11_isSnow v16 ((i1 - (100 : Int32)) - (i1 - (100 : Int32)) / (12 : Int32) * (12 : Int32)) x17.2).bind fun x18 =>
          if x18.1 = 0 then (
            some ((x17.1 + (0 : Int32)), x18.2)
          ) else (
            some ((x17.1 + (100 : Int32)), x18.2)
          )
        ) else (
          some ((-1 : Int32), x14.2)
        )
      )
    ) else (
      (f_X11_hoursOf (i1 - (10 : Int32)) x10.2).bind fun x20 =>
      some (x20.1, x20.2)
    )
  )))))))))
set_option maxHeartbeats 4000000 in
set_option maxRecDepth 100000 in
theorem m_X11_look {l : Launch} {G : zG} {i1 : Int32} {M : zM} {r : Int32 × zM} (h : f_X11_look i1 M = some r) : z_T l G 1 yX11_look (.code yX11_look cX11_look 3 (some .int)) [.ref (G.1 40), .int i1] M (some (.int r.1)) r.2 := by
  refine z_of rfl ?_
  intro p e s m below meth c X hw
  have hl := lv_entry [.ref (G.1 40), .int i1] (n := 3) (Nat.le_of_ble_eq_true rfl)
  rw [lg_entry_eq]
  generalize (lg_sl [.ref (G.1 40), .int i1] ++ List.replicate (3 - (lg_sl [.ref (G.1 40), .int i1]).length) Slot.unset).toArray = ls at hl ⊢
  have hl : lv_has ls 3 [(0, .ref (G.1 40)), (1, .int i1)] := hl
  generalize ([.ref (G.1 40), .int i1] : List Value).toArray = args at X ⊢
  have X : z_C G p s m args meth c cX11_look 3 RX11 (some .int) := X
  have hx := X.1
  have hb := X.2.1
  unfold f_X11_look at h
  refine lv_iload_n (pc := 0) hx hb dX11_look_0 rfl (lv_at hl 1 rfl) ?_
  by_cases c1 : i1 = (0 : Int32)
  · replace h := z_t c1 h
    refine lv_tableIn (pc := 1) (off := 51) (tgt := 52) hx hb dX11_look_1 (by rw [c1]; decide) (by rw [c1]; decide) (by rw [c1]; rfl) (by decide) ?_
    refine lv_aload_n (pc := 52) hx hb dX11_look_52 rfl (lv_at hl 0 rfl) ?_
    refine zg_DrinkingRoofsModel_w (pc := 53) X hw zw_fl_5_71 dX11_look_53 ?_
    refine lv_iconst (pc := 56) (v := 0) hx hb dX11_look_56 (by decide) ?_
    refine z_iald (pc := 57) X hw zk_41 zl_41 (z_il (by decide)) dX11_look_57 ?_
    obtain rfl := Option.some.inj h
    exact z_ri (pc := 58) X hw dX11_look_58
  · replace h := z_f c1 h
    by_cases c2 : i1 = (1 : Int32)
    · replace h := z_t c2 h
      refine lv_tableIn (pc := 1) (off := 58) (tgt := 59) hx hb dX11_look_1 (by rw [c2]; decide) (by rw [c2]; decide) (by rw [c2]; rfl) (by decide) ?_
      refine lv_aload_n (pc := 59) hx hb dX11_look_59 rfl (lv_at hl 0 rfl) ?_
      refine zg_DrinkingRoofsModel_w (pc := 60) X hw zw_fl_5_71 dX11_look_60 ?_
      refine lv_iconst (pc := 63) (v := 1) hx hb dX11_look_63 (by decide) ?_
      refine z_iald (pc := 64) X hw zk_41 zl_41 (z_il (by decide)) dX11_look_64 ?_
      obtain rfl := Option.some.inj h
      exact z_ri (pc := 65) X hw dX11_look_65
    · replace h := z_f c2 h
      by_cases c3 : i1 = (2 : Int32)
      · replace h := z_t c3 h
        refine lv_tableIn (pc := 1) (off := 65) (tgt := 66) hx hb dX11_look_1 (by rw [c3]; decide) (by rw [c3]; decide) (by rw [c3]; rfl) (by decide) ?_
        refine lv_aload_n (pc := 66) hx hb dX11_look_66 rfl (lv_at hl 0 rfl) ?_
        refine zg_DrinkingRoofsModel_w (pc := 67) X hw zw_fl_5_71 dX11_look_67 ?_
        refine lv_iconst (pc := 70) (v := 2) hx hb dX11_look_70 (by decide) ?_
        refine z_iald (pc := 71) X hw zk_41 zl_41 (z_il (by decide)) dX11_look_71 ?_
        obtain rfl := Option.some.inj h
        exact z_ri (pc := 72) X hw dX11_look_72
      · replace h := z_f c3 h
        by_cases c4 : i1 = (3 : Int32)
        · replace h := z_t c4 h
          refine lv_tableIn (pc := 1) (off := 72) (tgt := 73) hx hb dX11_look_1 (by rw [c4]; decide) (by rw [c4]; decide) (by rw [c4]; rfl) (by decide) ?_
          refine lv_aload_n (pc := 73) hx hb dX11_look_73 rfl (lv_at hl 0 rfl) ?_
          refine zg_DrinkingRoofsModel_w (pc := 74) X hw zw_fl_5_71 dX11_look_74 ?_
          refine lv_iconst (pc := 77) (v := 3) hx hb dX11_look_77 (by decide) ?_
          refine z_iald (pc := 78) X hw zk_41 zl_41 (z_il (by decide)) dX11_look_78 ?_
          obtain rfl := Option.some.inj h
          exact z_ri (pc := 79) X hw dX11_look_79
        · replace h := z_f c4 h
          by_cases c5 : i1 = (4 : Int32)
          · replace h := z_t c5 h
            refine lv_tableIn (pc := 1) (off := 79) (tgt := 80) hx hb dX11_look_1 (by rw [c5]; decide) (by rw [c5]; decide) (by rw [c5]; rfl) (by decide) ?_
            refine lv_aload_n (pc := 80) hx hb dX11_look_80 rfl (lv_at hl 0 rfl) ?_
            refine zg_DrinkingRoofsModel_w (pc := 81) X hw zw_fl_5_71 dX11_look_81 ?_
            refine lv_iconst (pc := 84) (v := 4) hx hb dX11_look_84 (by decide) ?_
            refine z_iald (pc := 85) X hw zk_41 zl_41 (z_il (by decide)) dX11_look_85 ?_
            obtain rfl := Option.some.inj h
            exact z_ri (pc := 86) X hw dX11_look_86
          · replace h := z_f c5 h
            by_cases c6 : i1 = (5 : Int32)
            · replace h := z_t c6 h
              refine lv_tableIn (pc := 1) (off := 86) (tgt := 87) hx hb dX11_look_1 (by rw [c6]; decide) (by rw [c6]; decide) (by rw [c6]; rfl) (by decide) ?_
              refine lv_aload_n (pc := 87) hx hb dX11_look_87 rfl (lv_at hl 0 rfl) ?_
              refine zg_DrinkingRoofsModel_w (pc := 88) X hw zw_fl_5_71 dX11_look_88 ?_
              refine lv_iconst (pc := 91) (v := 5) hx hb dX11_look_91 (by decide) ?_
              refine z_iald (pc := 92) X hw zk_41 zl_41 (z_il (by decide)) dX11_look_92 ?_
              obtain rfl := Option.some.inj h
              exact z_ri (pc := 93) X hw dX11_look_93
            · replace h := z_f c6 h
              by_cases c7 : i1 = (6 : Int32)
              · replace h := z_t c7 h
                refine lv_tableIn (pc := 1) (off := 93) (tgt := 94) hx hb dX11_look_1 (by rw [c7]; decide) (by rw [c7]; decide) (by rw [c7]; rfl) (by decide) ?_
                refine lv_aload_n (pc := 94) hx hb dX11_look_94 rfl (lv_at hl 0 rfl) ?_
                refine zg_DrinkingRoofsModel_w (pc := 95) X hw zw_fl_5_71 dX11_look_95 ?_
                refine lv_sipush (pc := 98) (v := 810) hx hb dX11_look_98 (by decide) ?_
                refine z_iald (pc := 101) X hw zk_41 zl_41 (z_il (by decide)) dX11_look_101 ?_
                obtain rfl := Option.some.inj h
                exact z_ri (pc := 102) X hw dX11_look_102
              · replace h := z_f c7 h
                by_cases c8 : i1 = (7 : Int32)
                · replace h := z_t c8 h
                  refine lv_tableIn (pc := 1) (off := 102) (tgt := 103) hx hb dX11_look_1 (by rw [c8]; decide) (by rw [c8]; decide) (by rw [c8]; rfl) (by decide) ?_
                  refine lv_aload_n (pc := 103) hx hb dX11_look_103 rfl (lv_at hl 0 rfl) ?_
                  refine zg_DrinkingRoofsModel_w (pc := 104) X hw zw_fl_5_71 dX11_look_104 ?_
                  refine lv_bipush (pc := 107) (v := 6) hx hb dX11_look_107 (by decide) ?_
                  refine z_iald (pc := 109) X hw zk_41 zl_41 (z_il (by decide)) dX11_look_109 ?_
                  obtain rfl := Option.some.inj h
                  exact z_ri (pc := 110) X hw dX11_look_110
                · replace h := z_f c8 h
                  by_cases c9 : i1 = (8 : Int32)
                  · replace h := z_t c9 h
                    refine lv_tableIn (pc := 1) (off := 110) (tgt := 111) hx hb dX11_look_1 (by rw [c9]; decide) (by rw [c9]; decide) (by rw [c9]; rfl) (by decide) ?_
                    refine lv_aload_n (pc := 111) hx hb dX11_look_111 rfl (lv_at hl 0 rfl) ?_
                    refine zg_DrinkingRoofsModel_w (pc := 112) X hw zw_fl_5_71 dX11_look_112 ?_
                    refine lv_bipush (pc := 115) (v := 7) hx hb dX11_look_115 (by decide) ?_
                    refine z_iald (pc := 117) X hw zk_41 zl_41 (z_il (by decide)) dX11_look_117 ?_
                    obtain rfl := Option.some.inj h
                    exact z_ri (pc := 118) X hw dX11_look_118
                  · replace h := z_f c9 h
                    have qc1 : (i1).toInt ≠ 0 := z_ne c1
                    have qc2 : (i1).toInt ≠ 1 := z_ne c2
                    have qc3 : (i1).toInt ≠ 2 := z_ne c3
                    have qc4 : (i1).toInt ≠ 3 := z_ne c4
                    have qc5 : (i1).toInt ≠ 4 := z_ne c5
                    have qc6 : (i1).toInt ≠ 5 := z_ne c6
                    have qc7 : (i1).toInt ≠ 6 := z_ne c7
                    have qc8 : (i1).toInt ≠ 7 := z_ne c8
                    have qc9 : (i1).toInt ≠ 8 := z_ne c9
                    refine lv_tableOut (pc := 1) (tgt := 119) hx hb dX11_look_1 (by omega) (by decide) ?_
                    refine lv_iload_n (pc := 119) hx hb dX11_look_119 rfl (lv_at hl 1 rfl) ?_
                    refine lv_bipush (pc := 120) (v := 10) hx hb dX11_look_120 (by decide) ?_
                    refine lv_bipush (pc := 122) (v := 9) hx hb dX11_look_122 (by decide) ?_
                    refine lv_aload_n (pc := 124) hx hb dX11_look_124 rfl (lv_at hl 0 rfl) ?_
                    refine zg_DrinkingRoofsModel_w (pc := 125) X hw zw_fl_5_71 dX11_look_125 ?_
                    refine lv_iconst (pc := 128) (v := 1) hx hb dX11_look_128 (by decide) ?_
                    refine z_iald (pc := 129) X hw zk_41 zl_41 (z_il (by decide)) dX11_look_129 ?_
                    refine lv_iadd (pc := 130) hx hb dX11_look_130 ?_
                    obtain ⟨x10, ex10, h⟩ := z_bd h
                    refine z_csI (pc := 131) (rest := []) X hw (m_X11_isIn  ex10) zw_ml_5_209 zw_st_5_210 zw_in_1_12 zw_co_5_211 zd_X11_isIn (by decide) rfl hl.1 rfl (Nat.le_of_ble_eq_true rfl) dX11_look_131 ⟨Nat.zero_le _, Nat.zero_le _⟩ (fun Hx10 lx10 wx10 => ?_)
                    refine lv_if_eq (pc := 134) (tgt := 146) hx hb dX11_look_134 (by decide) (fun c11 => ?_) (fun c11 => ?_)
                    · replace h := z_t c11 h
                      refine lv_iload_n (pc := 146) hx hb dX11_look_146 rfl (lv_at hl 1 rfl) ?_
                      refine lv_bipush (pc := 147) (v := 100) hx hb dX11_look_147 (by decide) ?_
                      refine lv_bipush (pc := 149) (v := 99) hx hb dX11_look_149 (by decide) ?_
                      refine lv_bipush (pc := 151) (v := 12) hx hb dX11_look_151 (by decide) ?_
                      refine lv_aload_n (pc := 153) hx hb dX11_look_153 rfl (lv_at hl 0 rfl) ?_
                      refine zg_DrinkingRoofsModel_w (pc := 154) X wx10 zw_fl_5_71 dX11_look_154 ?_
                      refine lv_iconst (pc := 157) (v := 1) hx hb dX11_look_157 (by decide) ?_
                      refine z_iald (pc := 158) X wx10 zk_41 zl_41 (z_il (by decide)) dX11_look_158 ?_
                      refine lv_imul (pc := 159) hx hb dX11_look_159 ?_
                      refine lv_iadd (pc := 160) hx hb dX11_look_160 ?_
                      obtain ⟨x12, ex12, h⟩ := z_bd h
                      refine z_csI (pc := 161) (rest := []) X wx10 (m_X11_isIn  ex12) zw_ml_5_209 zw_st_5_210 zw_in_1_12 zw_co_5_211 zd_X11_isIn (by decide) rfl hl.1 rfl (Nat.le_of_ble_eq_true rfl) dX11_look_161 ⟨Nat.zero_le _, Nat.zero_le _⟩ (fun Hx12 lx12 wx12 => ?_)
                      refine lv_if_eq (pc := 164) (tgt := 188) hx hb dX11_look_164 (by decide) (fun c13 => ?_) (fun c13 => ?_)
                      · replace h := z_t c13 h
                        refine lv_iconst (pc := 188) (v := -1) hx hb dX11_look_188 (by decide) ?_
                        obtain rfl := Option.some.inj h
                        exact z_ri (pc := 189) X wx12 dX11_look_189
                      · replace h := z_f c13 h
                        refine lv_iload_n (pc := 167) hx hb dX11_look_167 rfl (lv_at hl 1 rfl) ?_
                        refine lv_bipush (pc := 168) (v := 100) hx hb dX11_look_168 (by decide) ?_
                        refine lv_isub (pc := 170) hx hb dX11_look_170 ?_
                        refine lv_bipush (pc := 171) (v := 12) hx hb dX11_look_171 (by decide) ?_
                        refine lv_irem (pc := 173) hx hb dX11_look_173 (by decide) ?_
                        refine lv_aload_n (pc := 174) hx hb dX11_look_174 rfl (lv_at hl 0 rfl) ?_
                        refine lv_iload_n (pc := 175) hx hb dX11_look_175 rfl (lv_at hl 1 rfl) ?_
                        refine lv_bipush (pc := 176) (v := 100) hx hb dX11_look_176 (by decide) ?_
                        refine lv_isub (pc := 178) hx hb dX11_look_178 ?_
                        refine lv_bipush (pc := 179) (v := 12) hx hb dX11_look_179 (by decide) ?_
                        refine lv_idiv (pc := 181) hx hb dX11_look_181 (by decide) ?_
                        obtain ⟨x14, ex14, h⟩ := z_bd h
                        refine z_cvI (pc := 182) (rest := [.int ((i1 - (100 : Int32)) - (i1 - (100 : Int32)) / (12 : Int32) * (12 : Int32))]) X wx12 (m_X11_hoursOf  ex14) (z_lt zk_40 (by decide)) (z_E11 zk_40) rfl zw_ml_6_0 zw_im_6_2 zw_se_S_38 zw_in_1_12 zw_co_6_3 zd_X11_hoursOf (by decide) rfl hl.1 rfl (Nat.le_of_ble_eq_true rfl) dX11_look_182 ⟨Nat.zero_le _, Nat.zero_le _⟩ (fun Hx14 lx14 wx14 => ?_)
                        refine lv_icmp_lt (pc := 185) (tgt := 190) hx hb dX11_look_185 (by decide) (fun c15 => ?_) (fun c15 => ?_)
                        · replace h := z_t c15 h
                          refine lv_iload_n (pc := 190) hx hb dX11_look_190 rfl (lv_at hl 1 rfl) ?_
                          refine lv_bipush (pc := 191) (v := 100) hx hb dX11_look_191 (by decide) ?_
                          refine lv_isub (pc := 193) hx hb dX11_look_193 ?_
                          refine lv_bipush (pc := 194) (v := 12) hx hb dX11_look_194 (by decide) ?_
                          refine lv_idiv (pc := 196) hx hb dX11_look_196 (by decide) ?_
                          obtain ⟨v16, ev16, h⟩ := z_lo h
                          refine z_topi ev16 ?_
                          refine lv_istore_n (pc := 197) (lv' := [(2, .int v16), (0, .ref (G.1 40)), (1, .int i1)]) hx hb dX11_look_197 rfl hl (by decide) rfl (fun ls hl => ?_)
                          refine lv_aload_n (pc := 198) hx hb dX11_look_198 rfl (lv_at hl 1 rfl) ?_
                          refine lv_iload_n (pc := 199) hx hb dX11_look_199 rfl (lv_at hl 0 rfl) ?_
                          refine lv_iload_n (pc := 200) hx hb dX11_look_200 rfl (lv_at hl 2 rfl) ?_
                          refine lv_bipush (pc := 201) (v := 100) hx hb dX11_look_201 (by decide) ?_
                          refine lv_isub (pc := 203) hx hb dX11_look_203 ?_
                          refine lv_bipush (pc := 204) (v := 12) hx hb dX11_look_204 (by decide) ?_
                          refine lv_irem (pc := 206) hx hb dX11_look_206 (by decide) ?_
                          obtain ⟨x17, ex17, h⟩ := z_bd h
                          refine z_cvI (pc := 207) (rest := []) X wx14 (m_X11_fallOf  ex17) (z_lt zk_40 (by decide)) (z_E11 zk_40) rfl zw_ml_6_121 zw_im_6_123 zw_se_S_58 zw_in_1_12 zw_co_6_124 zd_X11_fallOf (by decide) rfl hl.1 rfl (Nat.le_of_ble_eq_true rfl) dX11_look_207 ⟨Nat.zero_le _, Nat.zero_le _⟩ (fun Hx17 lx17 wx17 => ?_)
                          refine lv_aload_n (pc := 210) hx hb dX11_look_210 rfl (lv_at hl 1 rfl) ?_
                          refine lv_iload_n (pc := 211) hx hb dX11_look_211 rfl (lv_at hl 0 rfl) ?_
                          refine lv_iload_n (pc := 212) hx hb dX11_look_212 rfl (lv_at hl 2 rfl) ?_
                          refine lv_bipush (pc := 213) (v := 100) hx hb dX11_look_213 (by decide) ?_
                          refine lv_isub (pc := 215) hx hb dX11_look_215 ?_
                          refine lv_bipush (pc := 216) (v := 12) hx hb dX11_look_216 (by decide) ?_
                          refine lv_irem (pc := 218) hx hb dX11_look_218 (by decide) ?_
                          obtain ⟨x18, ex18, h⟩ := z_bd h
                          refine z_cvI (pc := 219) (rest := [.int x17.1]) X wx17 (m_X11_isSnow  ex18) (z_lt zk_40 (by decide)) (z_E11 zk_40) rfl zw_ml_6_125 zw_im_6_127 zw_se_S_59 zw_in_1_12 zw_co_6_128 zd_X11_isSnow (by decide) rfl hl.1 rfl (Nat.le_of_ble_eq_true rfl) dX11_look_219 ⟨Nat.zero_le _, Nat.zero_le _⟩ (fun Hx18 lx18 wx18 => ?_)
                          refine lv_if_eq (pc := 222) (tgt := 230) hx hb dX11_look_222 (by decide) (fun c19 => ?_) (fun c19 => ?_)
                          · replace h := z_t c19 h
                            refine lv_iconst (pc := 230) (v := 0) hx hb dX11_look_230 (by decide) ?_
                            refine lv_iadd (pc := 231) hx hb dX11_look_231 ?_
                            obtain rfl := Option.some.inj h
                            exact z_ri (pc := 232) X wx18 dX11_look_232
                          · replace h := z_f c19 h
                            refine lv_bipush (pc := 225) (v := 100) hx hb dX11_look_225 (by decide) ?_
                            refine lv_goto (pc := 227) (tgt := 231) hx hb dX11_look_227 (by decide) ?_
                            refine lv_iadd (pc := 231) hx hb dX11_look_231 ?_
                            obtain rfl := Option.some.inj h
                            exact z_ri (pc := 232) X wx18 dX11_look_232
                        · replace h := z_f c15 h
                          refine lv_iconst (pc := 188) (v := -1) hx hb dX11_look_188 (by decide) ?_
                          obtain rfl := Option.some.inj h
                          exact z_ri (pc := 189) X wx14 dX11_look_189
                    · replace h := z_f c11 h
                      refine lv_aload_n (pc := 137) hx hb dX11_look_137 rfl (lv_at hl 0 rfl) ?_
                      refine lv_iload_n (pc := 138) hx hb dX11_look_138 rfl (lv_at hl 1 rfl) ?_
                      refine lv_bipush (pc := 139) (v := 10) hx hb dX11_look_139 (by decide) ?_
                      refine lv_isub (pc := 141) hx hb dX11_look_141 ?_
                      obtain ⟨x20, ex20, h⟩ := z_bd h
                      refine z_cvI (pc := 142) (rest := []) X wx10 (m_X11_hoursOf  ex20) (z_lt zk_40 (by decide)) (z_E11 zk_40) rfl zw_ml_6_0 zw_im_6_2 zw_se_S_38 zw_in_1_12 zw_co_6_3 zd_X11_hoursOf (by decide) rfl hl.1 rfl (Nat.le_of_ble_eq_true rfl) dX11_look_142 ⟨Nat.zero_le _, Nat.zero_le _⟩ (fun Hx20 lx20 wx20 => ?_)
                      obtain rfl := Option.some.inj h
                      exact z_ri (pc := 145) X wx20 dX11_look_145
