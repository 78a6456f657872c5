theorem Lzd_X10_added : yX10_added.cls = RX10 ∧ yX10_added.cls ≠ "java/lang/invoke/MethodHandle" ∧ yX10_added.cls ≠ "java/lang/invoke/VarHandle" ∧ (parseMethodDescriptor yX10_added.desc).map (fun d => d.parameters.length) = some 4 := by decide +kernel
theorem Lzd_X10_blame : yX10_blame.cls = RX10 ∧ yX10_blame.cls ≠ "java/lang/invoke/MethodHandle" ∧ yX10_blame.cls ≠ "java/lang/invoke/VarHandle" ∧ (parseMethodDescriptor yX10_blame.desc).map (fun d => d.parameters.length) = some 4 := by decide +kernel
theorem Lzd_X10_cleanings : yX10_cleanings.cls = RX10 ∧ yX10_cleanings.cls ≠ "java/lang/invoke/MethodHandle" ∧ yX10_cleanings.cls ≠ "java/lang/invoke/VarHandle" ∧ (parseMethodDescriptor yX10_cleanings.desc).map (fun d => d.parameters.length) = some 5 := by decide +kernel
theorem Lzd_X10_comes : yX10_comes.cls = RX10 ∧ yX10_comes.cls ≠ "java/lang/invoke/MethodHandle" ∧ yX10_comes.cls ≠ "java/lang/invoke/VarHandle" ∧ (parseMethodDescriptor yX10_comes.desc).map (fun d => d.parameters.length) = some 1 := by decide +kernel
theorem Lzd_X10_drain : yX10_drain.cls = RX10 ∧ yX10_drain.cls ≠ "java/lang/invoke/MethodHandle" ∧ yX10_drain.cls ≠ "java/lang/invoke/VarHandle" ∧ (parseMethodDescriptor yX10_drain.desc).map (fun d => d.parameters.length) = some 1 := by decide +kernel
theorem Lzd_X10_end : yX10_end.cls = RX10 ∧ yX10_end.cls ≠ "java/lang/invoke/MethodHandle" ∧ yX10_end.cls ≠ "java/lang/invoke/VarHandle" ∧ (parseMethodDescriptor yX10_end.desc).map (fun d => d.parameters.length) = some 1 := by decide +kernel
theorem Lzd_X10_fall : yX10_fall.cls = RX10 ∧ yX10_fall.cls ≠ "java/lang/invoke/MethodHandle" ∧ yX10_fall.cls ≠ "java/lang/invoke/VarHandle" ∧ (parseMethodDescriptor yX10_fall.desc).map (fun d => d.parameters.length) = some 4 := by decide +kernel
theorem Lzd_X10_fault : yX10_fault.cls = RX10 ∧ yX10_fault.cls ≠ "java/lang/invoke/MethodHandle" ∧ yX10_fault.cls ≠ "java/lang/invoke/VarHandle" ∧ (parseMethodDescriptor yX10_fault.desc).map (fun d => d.parameters.length) = some 1 := by decide +kernel
theorem Lzd_X10_feed : yX10_feed.cls = RX10 ∧ yX10_feed.cls ≠ "java/lang/invoke/MethodHandle" ∧ yX10_feed.cls ≠ "java/lang/invoke/VarHandle" ∧ (parseMethodDescriptor yX10_feed.desc).map (fun d => d.parameters.length) = some 5 := by decide +kernel
theorem Lzd_X10_gutters : yX10_gutters.cls = RX10 ∧ yX10_gutters.cls ≠ "java/lang/invoke/MethodHandle" ∧ yX10_gutters.cls ≠ "java/lang/invoke/VarHandle" ∧ (parseMethodDescriptor yX10_gutters.desc).map (fun d => d.parameters.length) = some 2 := by decide +kernel
theorem Lzd_X10_hour : yX10_hour.cls = RX10 ∧ yX10_hour.cls ≠ "java/lang/invoke/MethodHandle" ∧ yX10_hour.cls ≠ "java/lang/invoke/VarHandle" ∧ (parseMethodDescriptor yX10_hour.desc).map (fun d => d.parameters.length) = some 3 := by decide +kernel
theorem Lzd_X10_house : yX10_house.cls = RX10 ∧ yX10_house.cls ≠ "java/lang/invoke/MethodHandle" ∧ yX10_house.cls ≠ "java/lang/invoke/VarHandle" ∧ (parseMethodDescriptor yX10_house.desc).map (fun d => d.parameters.length) = some 4 := by decide +kernel
theorem Lzd_X10_image : yX10_image.cls = RX10 ∧ yX10_image.cls ≠ "java/lang/invoke/MethodHandle" ∧ yX10_image.cls ≠ "java/lang/invoke/VarHandle" ∧ (parseMethodDescriptor yX10_image.desc).map (fun d => d.parameters.length) = some 1 := by decide +kernel
theorem Lzd_X10_look : yX10_look.cls = RX10 ∧ yX10_look.cls ≠ "java/lang/invoke/MethodHandle" ∧ yX10_look.cls ≠ "java/lang/invoke/VarHandle" ∧ (parseMethodDescriptor yX10_look.desc).map (fun d => d.parameters.length) = some 1 := by decide +kernel
theorem Lzd_X10_next : yX10_next.cls = RX10 ∧ yX10_next.cls ≠ "java/lang/invoke/MethodHandle" ∧ yX10_next.cls ≠ "java/lang/invoke/VarHandle" ∧ (parseMethodDescriptor yX10_next.desc).map (fun d => d.parameters.length) = some 2 := by decide +kernel
theorem Lzd_X10_of : yX10_of.cls = RX10 ∧ yX10_of.cls ≠ "java/lang/invoke/MethodHandle" ∧ yX10_of.cls ≠ "java/lang/invoke/VarHandle" ∧ (parseMethodDescriptor yX10_of.desc).map (fun d => d.parameters.length) = some 2 := by decide +kernel
theorem Lzd_X10_stains : yX10_stains.cls = RX10 ∧ yX10_stains.cls ≠ "java/lang/invoke/MethodHandle" ∧ yX10_stains.cls ≠ "java/lang/invoke/VarHandle" ∧ (parseMethodDescriptor yX10_stains.desc).map (fun d => d.parameters.length) = some 2 := by decide +kernel
theorem Lzd_X10_storm : yX10_storm.cls = RX10 ∧ yX10_storm.cls ≠ "java/lang/invoke/MethodHandle" ∧ yX10_storm.cls ≠ "java/lang/invoke/VarHandle" ∧ (parseMethodDescriptor yX10_storm.desc).map (fun d => d.parameters.length) = some 1 := by decide +kernel
theorem Lzd_X10_tell : yX10_tell.cls = RX10 ∧ yX10_tell.cls ≠ "java/lang/invoke/MethodHandle" ∧ yX10_tell.cls ≠ "java/lang/invoke/VarHandle" ∧ (parseMethodDescriptor yX10_tell.desc).map (fun d => d.parameters.length) = some 3 := by decide +kernel
theorem Lzd_X10_text : yX10_text.cls = RX10 ∧ yX10_text.cls ≠ "java/lang/invoke/MethodHandle" ∧ yX10_text.cls ≠ "java/lang/invoke/VarHandle" ∧ (parseMethodDescriptor yX10_text.desc).map (fun d => d.parameters.length) = some 0 := by decide +kernel
theorem Lzd_X11_added : yX11_added.cls = RX11 ∧ yX11_added.cls ≠ "java/lang/invoke/MethodHandle" ∧ yX11_added.cls ≠ "java/lang/invoke/VarHandle" ∧ (parseMethodDescriptor yX11_added.desc).map (fun d => d.parameters.length) = some 4 := by decide +kernel
theorem Lzd_X11_blame : yX11_blame.cls = RX11 ∧ yX11_blame.cls ≠ "java/lang/invoke/MethodHandle" ∧ yX11_blame.cls ≠ "java/lang/invoke/VarHandle" ∧ (parseMethodDescriptor yX11_blame.desc).map (fun d => d.parameters.length) = some 4 := by decide +kernel
theorem Lzd_X11_cleanings : yX11_cleanings.cls = RX11 ∧ yX11_cleanings.cls ≠ "java/lang/invoke/MethodHandle" ∧ yX11_cleanings.cls ≠ "java/lang/invoke/VarHandle" ∧ (parseMethodDescriptor yX11_cleanings.desc).map (fun d => d.parameters.length) = some 5 := by decide +kernel
theorem Lzd_X11_comes : yX11_comes.cls = RX11 ∧ yX11_comes.cls ≠ "java/lang/invoke/MethodHandle" ∧ yX11_comes.cls ≠ "java/lang/invoke/VarHandle" ∧ (parseMethodDescriptor yX11_comes.desc).map (fun d => d.parameters.length) = some 1 := by decide +kernel
theorem Lzd_X11_drain : yX11_drain.cls = RX11 ∧ yX11_drain.cls ≠ "java/lang/invoke/MethodHandle" ∧ yX11_drain.cls ≠ "java/lang/invoke/VarHandle" ∧ (parseMethodDescriptor yX11_drain.desc).map (fun d => d.parameters.length) = some 1 := by decide +kernel
theorem Lzd_X11_end : yX11_end.cls = RX11 ∧ yX11_end.cls ≠ "java/lang/invoke/MethodHandle" ∧ yX11_end.cls ≠ "java/lang/invoke/VarHandle" ∧ (parseMethodDescriptor yX11_end.desc).map (fun d => d.parameters.length) = some 1 := by decide +kernel
theorem Lzd_X11_fall : yX11_fall.cls = RX11 ∧ yX11_fall.cls ≠ "java/lang/invoke/MethodHandle" ∧ yX11_fall.cls ≠ "java/lang/invoke/VarHandle" ∧ (parseMethodDescriptor yX11_fall.desc).map (fun d => d.parameters.length) = some 4 := by decide +kernel
theorem Lzd_X11_fault : yX11_fault.cls = RX11 ∧ yX11_fault.cls ≠ "java/lang/invoke/MethodHandle" ∧ yX11_fault.cls ≠ "java/lang/invoke/VarHandle" ∧ (parseMethodDescriptor yX11_fault.desc).map (fun d => d.parameters.length) = some 1 := by decide +kernel
theorem Lzd_X11_feed : yX11_feed.cls = RX11 ∧ yX11_feed.cls ≠ "java/lang/invoke/MethodHandle" ∧ yX11_feed.cls ≠ "java/lang/invoke/VarHandle" ∧ (parseMethodDescriptor yX11_feed.desc).map (fun d => d.parameters.length) = some 5 := by decide +kernel
theorem Lzd_X11_gutters : yX11_gutters.cls = RX11 ∧ yX11_gutters.cls ≠ "java/lang/invoke/MethodHandle" ∧ yX11_gutters.cls ≠ "java/lang/invoke/VarHandle" ∧ (parseMethodDescriptor yX11_gutters.desc).map (fun d => d.parameters.length) = some 2 := by decide +kernel
theorem Lzd_X11_hour : yX11_hour.cls = RX11 ∧ yX11_hour.cls ≠ "java/lang/invoke/MethodHandle" ∧ yX11_hour.cls ≠ "java/lang/invoke/VarHandle" ∧ (parseMethodDescriptor yX11_hour.desc).map (fun d => d.parameters.length) = some 3 := by decide +kernel
theorem Lzd_X11_house : yX11_house.cls = RX11 ∧ yX11_house.cls ≠ "java/lang/invoke/MethodHandle" ∧ yX11_house.cls ≠ "java/lang/invoke/VarHandle" ∧ (parseMethodDescriptor yX11_house.desc).map (fun d => d.parameters.length) = some 4 := by decide +kernel
theorem Lzd_X11_image : yX11_image.cls = RX11 ∧ yX11_image.cls ≠ "java/lang/invoke/MethodHandle" ∧ yX11_image.cls ≠ "java/lang/invoke/VarHandle" ∧ (parseMethodDescriptor yX11_image.desc).map (fun d => d.parameters.length) = some 1 := by decide +kernel
theorem Lzd_X11_look : yX11_look.cls = RX11 ∧ yX11_look.cls ≠ "java/lang/invoke/MethodHandle" ∧ yX11_look.cls ≠ "java/lang/invoke/VarHandle" ∧ (parseMethodDescriptor yX11_look.desc).map (fun d => d.parameters.length) = some 1 := by decide +kernel
theorem Lzd_X11_next : yX11_next.cls = RX11 ∧ yX11_next.cls ≠ "java/lang/invoke/MethodHandle" ∧ yX11_next.cls ≠ "java/lang/invoke/VarHandle" ∧ (parseMethodDescriptor yX11_next.desc).map (fun d => d.parameters.length) = some 2 := by decide +kernel
theorem Lzd_X11_of : yX11_of.cls = RX11 ∧ yX11_of.cls ≠ "java/lang/invoke/MethodHandle" ∧ yX11_of.cls ≠ "java/lang/invoke/VarHandle" ∧ (parseMethodDescriptor yX11_of.desc).map (fun d => d.parameters.length) = some 2 := by decide +kernel
theorem Lzd_X11_stains : yX11_stains.cls = RX11 ∧ yX11_stains.cls ≠ "java/lang/invoke/MethodHandle" ∧ yX11_stains.cls ≠ "java/lang/invoke/VarHandle" ∧ (parseMethodDescriptor yX11_stains.desc).map (fun d => d.parameters.length) = some 2 := by decide +kernel
theorem Lzd_X11_storm : yX11_storm.cls = RX11 ∧ yX11_storm.cls ≠ "java/lang/invoke/MethodHandle" ∧ yX11_storm.cls ≠ "java/lang/invoke/VarHandle" ∧ (parseMethodDescriptor yX11_storm.desc).map (fun d => d.parameters.length) = some 1 := by decide +kernel
theorem Lzd_X11_tell : yX11_tell.cls = RX11 ∧ yX11_tell.cls ≠ "java/lang/invoke/MethodHandle" ∧ yX11_tell.cls ≠ "java/lang/invoke/VarHandle" ∧ (parseMethodDescriptor yX11_tell.desc).map (fun d => d.parameters.length) = some 3 := by decide +kernel
theorem Lzd_X11_text : yX11_text.cls = RX11 ∧ yX11_text.cls ≠ "java/lang/invoke/MethodHandle" ∧ yX11_text.cls ≠ "java/lang/invoke/VarHandle" ∧ (parseMethodDescriptor yX11_text.desc).map (fun d => d.parameters.length) = some 0 := by decide +kernel
theorem Lzw_co_2_204 : Cond.code yX10_house cX10_house 6 (some .int) ∈ z_om := z_in2 204 rfl rfl
theorem Lzw_co_2_218 : Cond.code yX10_next cX10_next 3 (some .boolean) ∈ z_om := z_in2 218 rfl rfl
theorem Lzw_co_2_226 : Cond.code yX10_tell cX10_tell 4 (some .boolean) ∈ z_om := z_in2 226 rfl rfl
theorem Lzw_co_3_15 : Cond.code yX10_fall cX10_fall 6 (some .boolean) ∈ z_om := z_in3 15 rfl rfl
theorem Lzw_co_3_23 : Cond.code yX10_feed cX10_feed 6 (some .int) ∈ z_om := z_in3 23 rfl rfl
theorem Lzw_co_3_35 : Cond.code yX10_end cX10_end 2 (some .boolean) ∈ z_om := z_in3 35 rfl rfl
theorem Lzw_co_3_39 : Cond.code yX10_text cX10_text 1 (some .int) ∈ z_om := z_in3 39 rfl rfl
theorem Lzw_co_3_7 : Cond.code yX10_storm cX10_storm 3 (some .int) ∈ z_om := z_in3 7 rfl rfl
theorem Lzw_co_4_108 : Cond.code yX10_hour cX10_hour 4 (some .int) ∈ z_om := z_in4 108 rfl rfl
theorem Lzw_co_4_116 : Cond.code yX10_blame cX10_blame 5 (some .long) ∈ z_om := z_in4 116 rfl rfl
theorem Lzw_co_4_164 : Cond.code yX10_cleanings cX10_cleanings 7 (some .int) ∈ z_om := z_in4 164 rfl rfl
theorem Lzw_co_4_17 : Cond.code yX10_fault cX10_fault 2 (some .int) ∈ z_om := z_in4 17 rfl rfl
theorem Lzw_co_4_206 : Cond.code yX10_gutters cX10_gutters 4 (some .int) ∈ z_om := z_in4 206 rfl rfl
theorem Lzw_co_4_21 : Cond.code yX10_comes cX10_comes 2 (some .int) ∈ z_om := z_in4 21 rfl rfl
theorem Lzw_co_4_222 : Cond.code yX10_stains cX10_stains 3 (some .int) ∈ z_om := z_in4 222 rfl rfl
theorem Lzw_co_4_98 : Cond.code yX10_of cX10_of 3 (some .int) ∈ z_om := z_in4 98 rfl rfl
theorem Lzw_co_5_19 : Cond.code yX10_added cX10_added 7 (some .int) ∈ z_om := z_in5 19 rfl rfl
theorem Lzw_co_5_208 : Cond.code yX11_house cX11_house 7 (some .int) ∈ z_om := z_in5 208 rfl rfl
theorem Lzw_co_5_219 : Cond.code yX11_next cX11_next 3 (some .boolean) ∈ z_om := z_in5 219 rfl rfl
theorem Lzw_co_5_227 : Cond.code yX11_tell cX11_tell 5 (some .boolean) ∈ z_om := z_in5 227 rfl rfl
theorem Lzw_co_5_231 : Cond.code yX11_storm cX11_storm 4 (some .int) ∈ z_om := z_in5 231 rfl rfl
theorem Lzw_co_5_235 : Cond.code yX11_fall cX11_fall 5 (some .boolean) ∈ z_om := z_in5 235 rfl rfl
theorem Lzw_co_5_29 : Cond.code yX10_image cX10_image 2 (some .boolean) ∈ z_om := z_in5 29 rfl rfl
theorem Lzw_co_5_52 : Cond.code yX10_look cX10_look 3 (some .int) ∈ z_om := z_in5 52 rfl rfl
theorem Lzw_co_5_7 : Cond.code yX10_drain cX10_drain 7 (some .int) ∈ z_om := z_in5 7 rfl rfl
theorem Lzw_co_6_104 : Cond.code yX11_fault cX11_fault 2 (some .int) ∈ z_om := z_in6 104 rfl rfl
theorem Lzw_co_6_108 : Cond.code yX11_comes cX11_comes 7 (some .int) ∈ z_om := z_in6 108 rfl rfl
theorem Lzw_co_6_11 : Cond.code yX11_end cX11_end 2 (some .boolean) ∈ z_om := z_in6 11 rfl rfl
theorem Lzw_co_6_15 : Cond.code yX11_text cX11_text 3 (some .int) ∈ z_om := z_in6 15 rfl rfl
theorem Lzw_co_6_157 : Cond.code yX11_of cX11_of 3 (some .int) ∈ z_om := z_in6 157 rfl rfl
theorem Lzw_co_6_162 : Cond.code yX11_hour cX11_hour 4 (some .int) ∈ z_om := z_in6 162 rfl rfl
theorem Lzw_co_6_166 : Cond.code yX11_blame cX11_blame 17 (some .long) ∈ z_om := z_in6 166 rfl rfl
theorem Lzw_co_6_181 : Cond.code yX11_cleanings cX11_cleanings 7 (some .int) ∈ z_om := z_in6 181 rfl rfl
theorem Lzw_co_6_189 : Cond.code yX11_gutters cX11_gutters 9 (some .int) ∈ z_om := z_in6 189 rfl rfl
theorem Lzw_co_6_193 : Cond.code yX11_stains cX11_stains 12 (some .int) ∈ z_om := z_in6 193 rfl rfl
theorem Lzw_co_6_197 : Cond.code yX11_drain cX11_drain 6 (some .int) ∈ z_om := z_in6 197 rfl rfl
theorem Lzw_co_6_201 : Cond.code yX11_added cX11_added 7 (some .int) ∈ z_om := z_in6 201 rfl rfl
theorem Lzw_co_6_209 : Cond.code yX11_image cX11_image 3 (some .boolean) ∈ z_om := z_in6 209 rfl rfl
theorem Lzw_co_6_213 : Cond.code yX11_look cX11_look 3 (some .int) ∈ z_om := z_in6 213 rfl rfl
theorem Lzw_co_6_7 : Cond.code yX11_feed cX11_feed 8 (some .int) ∈ z_om := z_in6 7 rfl rfl
theorem Lzw_im_2_202 : Cond.instanceMethod yX10_house ∈ z_om := z_in2 202 rfl rfl
theorem Lzw_im_2_216 : Cond.instanceMethod yX10_next ∈ z_om := z_in2 216 rfl rfl
theorem Lzw_im_2_224 : Cond.instanceMethod yX10_tell ∈ z_om := z_in2 224 rfl rfl
theorem Lzw_im_3_13 : Cond.instanceMethod yX10_fall ∈ z_om := z_in3 13 rfl rfl
theorem Lzw_im_3_21 : Cond.instanceMethod yX10_feed ∈ z_om := z_in3 21 rfl rfl
theorem Lzw_im_3_33 : Cond.instanceMethod yX10_end ∈ z_om := z_in3 33 rfl rfl
theorem Lzw_im_3_37 : Cond.instanceMethod yX10_text ∈ z_om := z_in3 37 rfl rfl
theorem Lzw_im_3_5 : Cond.instanceMethod yX10_storm ∈ z_om := z_in3 5 rfl rfl
theorem Lzw_im_4_106 : Cond.instanceMethod yX10_hour ∈ z_om := z_in4 106 rfl rfl
theorem Lzw_im_4_114 : Cond.instanceMethod yX10_blame ∈ z_om := z_in4 114 rfl rfl
theorem Lzw_im_4_15 : Cond.instanceMethod yX10_fault ∈ z_om := z_in4 15 rfl rfl
theorem Lzw_im_4_162 : Cond.instanceMethod yX10_cleanings ∈ z_om := z_in4 162 rfl rfl
theorem Lzw_im_4_19 : Cond.instanceMethod yX10_comes ∈ z_om := z_in4 19 rfl rfl
theorem Lzw_im_4_204 : Cond.instanceMethod yX10_gutters ∈ z_om := z_in4 204 rfl rfl
theorem Lzw_im_4_220 : Cond.instanceMethod yX10_stains ∈ z_om := z_in4 220 rfl rfl
theorem Lzw_im_4_96 : Cond.instanceMethod yX10_of ∈ z_om := z_in4 96 rfl rfl
theorem Lzw_im_5_17 : Cond.instanceMethod yX10_added ∈ z_om := z_in5 17 rfl rfl
theorem Lzw_im_5_206 : Cond.instanceMethod yX11_house ∈ z_om := z_in5 206 rfl rfl
theorem Lzw_im_5_217 : Cond.instanceMethod yX11_next ∈ z_om := z_in5 217 rfl rfl
theorem Lzw_im_5_225 : Cond.instanceMethod yX11_tell ∈ z_om := z_in5 225 rfl rfl
theorem Lzw_im_5_229 : Cond.instanceMethod yX11_storm ∈ z_om := z_in5 229 rfl rfl
theorem Lzw_im_5_233 : Cond.instanceMethod yX11_fall ∈ z_om := z_in5 233 rfl rfl
theorem Lzw_im_5_27 : Cond.instanceMethod yX10_image ∈ z_om := z_in5 27 rfl rfl
theorem Lzw_im_5_5 : Cond.instanceMethod yX10_drain ∈ z_om := z_in5 5 rfl rfl
theorem Lzw_im_5_50 : Cond.instanceMethod yX10_look ∈ z_om := z_in5 50 rfl rfl
theorem Lzw_im_6_102 : Cond.instanceMethod yX11_fault ∈ z_om := z_in6 102 rfl rfl
theorem Lzw_im_6_106 : Cond.instanceMethod yX11_comes ∈ z_om := z_in6 106 rfl rfl
theorem Lzw_im_6_13 : Cond.instanceMethod yX11_text ∈ z_om := z_in6 13 rfl rfl
theorem Lzw_im_6_155 : Cond.instanceMethod yX11_of ∈ z_om := z_in6 155 rfl rfl
theorem Lzw_im_6_160 : Cond.instanceMethod yX11_hour ∈ z_om := z_in6 160 rfl rfl
theorem Lzw_im_6_164 : Cond.instanceMethod yX11_blame ∈ z_om := z_in6 164 rfl rfl
theorem Lzw_im_6_179 : Cond.instanceMethod yX11_cleanings ∈ z_om := z_in6 179 rfl rfl
theorem Lzw_im_6_187 : Cond.instanceMethod yX11_gutters ∈ z_om := z_in6 187 rfl rfl
theorem Lzw_im_6_191 : Cond.instanceMethod yX11_stains ∈ z_om := z_in6 191 rfl rfl
theorem Lzw_im_6_195 : Cond.instanceMethod yX11_drain ∈ z_om := z_in6 195 rfl rfl
theorem Lzw_im_6_199 : Cond.instanceMethod yX11_added ∈ z_om := z_in6 199 rfl rfl
theorem Lzw_im_6_207 : Cond.instanceMethod yX11_image ∈ z_om := z_in6 207 rfl rfl
theorem Lzw_im_6_211 : Cond.instanceMethod yX11_look ∈ z_om := z_in6 211 rfl rfl
theorem Lzw_im_6_5 : Cond.instanceMethod yX11_feed ∈ z_om := z_in6 5 rfl rfl
theorem Lzw_im_6_9 : Cond.instanceMethod yX11_end ∈ z_om := z_in6 9 rfl rfl
theorem Lzw_in_1_1 : Cond.initialized RX10 ∈ z_om := z_in1 1 rfl rfl
theorem Lzw_in_1_12 : Cond.initialized RX11 ∈ z_om := z_in1 12 rfl rfl
theorem Lzw_ml_2_201 : Cond.methodLink RL 13 yX10_house ∈ z_om := z_in2 201 rfl rfl
theorem Lzw_ml_2_215 : Cond.methodLink RL 18 yX10_next ∈ z_om := z_in2 215 rfl rfl
theorem Lzw_ml_2_223 : Cond.methodLink RL 23 yX10_tell ∈ z_om := z_in2 223 rfl rfl
theorem Lzw_ml_3_12 : Cond.methodLink RL 33 yX10_fall ∈ z_om := z_in3 12 rfl rfl
theorem Lzw_ml_3_20 : Cond.methodLink RL 38 yX10_feed ∈ z_om := z_in3 20 rfl rfl
theorem Lzw_ml_3_32 : Cond.methodLink RL 43 yX10_end ∈ z_om := z_in3 32 rfl rfl
theorem Lzw_ml_3_36 : Cond.methodLink RL 48 yX10_text ∈ z_om := z_in3 36 rfl rfl
theorem Lzw_ml_3_4 : Cond.methodLink RL 28 yX10_storm ∈ z_om := z_in3 4 rfl rfl
theorem Lzw_ml_4_105 : Cond.methodLink RL 66 yX10_hour ∈ z_om := z_in4 105 rfl rfl
theorem Lzw_ml_4_113 : Cond.methodLink RL 71 yX10_blame ∈ z_om := z_in4 113 rfl rfl
theorem Lzw_ml_4_14 : Cond.methodLink RL 53 yX10_fault ∈ z_om := z_in4 14 rfl rfl
theorem Lzw_ml_4_161 : Cond.methodLink RL 76 yX10_cleanings ∈ z_om := z_in4 161 rfl rfl
theorem Lzw_ml_4_18 : Cond.methodLink RL 57 yX10_comes ∈ z_om := z_in4 18 rfl rfl
theorem Lzw_ml_4_203 : Cond.methodLink RL 80 yX10_gutters ∈ z_om := z_in4 203 rfl rfl
theorem Lzw_ml_4_219 : Cond.methodLink RL 84 yX10_stains ∈ z_om := z_in4 219 rfl rfl
theorem Lzw_ml_4_95 : Cond.methodLink RL 61 yX10_of ∈ z_om := z_in4 95 rfl rfl
theorem Lzw_ml_5_16 : Cond.methodLink RL 92 yX10_added ∈ z_om := z_in5 16 rfl rfl
theorem Lzw_ml_5_205 : Cond.methodLink RL 17 yX11_house ∈ z_om := z_in5 205 rfl rfl
theorem Lzw_ml_5_216 : Cond.methodLink RL 22 yX11_next ∈ z_om := z_in5 216 rfl rfl
theorem Lzw_ml_5_224 : Cond.methodLink RL 27 yX11_tell ∈ z_om := z_in5 224 rfl rfl
theorem Lzw_ml_5_228 : Cond.methodLink RL 32 yX11_storm ∈ z_om := z_in5 228 rfl rfl
theorem Lzw_ml_5_232 : Cond.methodLink RL 37 yX11_fall ∈ z_om := z_in5 232 rfl rfl
theorem Lzw_ml_5_26 : Cond.methodLink RL 96 yX10_image ∈ z_om := z_in5 26 rfl rfl
theorem Lzw_ml_5_4 : Cond.methodLink RL 88 yX10_drain ∈ z_om := z_in5 4 rfl rfl
theorem Lzw_ml_5_49 : Cond.methodLink RL 101 yX10_look ∈ z_om := z_in5 49 rfl rfl
theorem Lzw_ml_6_101 : Cond.methodLink RL 56 yX11_fault ∈ z_om := z_in6 101 rfl rfl
theorem Lzw_ml_6_105 : Cond.methodLink RL 60 yX11_comes ∈ z_om := z_in6 105 rfl rfl
theorem Lzw_ml_6_12 : Cond.methodLink RL 52 yX11_text ∈ z_om := z_in6 12 rfl rfl
theorem Lzw_ml_6_154 : Cond.methodLink RL 65 yX11_of ∈ z_om := z_in6 154 rfl rfl
theorem Lzw_ml_6_159 : Cond.methodLink RL 70 yX11_hour ∈ z_om := z_in6 159 rfl rfl
theorem Lzw_ml_6_163 : Cond.methodLink RL 75 yX11_blame ∈ z_om := z_in6 163 rfl rfl
theorem Lzw_ml_6_178 : Cond.methodLink RL 79 yX11_cleanings ∈ z_om := z_in6 178 rfl rfl
theorem Lzw_ml_6_186 : Cond.methodLink RL 83 yX11_gutters ∈ z_om := z_in6 186 rfl rfl
theorem Lzw_ml_6_190 : Cond.methodLink RL 87 yX11_stains ∈ z_om := z_in6 190 rfl rfl
theorem Lzw_ml_6_194 : Cond.methodLink RL 91 yX11_drain ∈ z_om := z_in6 194 rfl rfl
theorem Lzw_ml_6_198 : Cond.methodLink RL 95 yX11_added ∈ z_om := z_in6 198 rfl rfl
theorem Lzw_ml_6_206 : Cond.methodLink RL 100 yX11_image ∈ z_om := z_in6 206 rfl rfl
theorem Lzw_ml_6_210 : Cond.methodLink RL 104 yX11_look ∈ z_om := z_in6 210 rfl rfl
theorem Lzw_ml_6_4 : Cond.methodLink RL 42 yX11_feed ∈ z_om := z_in6 4 rfl rfl
theorem Lzw_ml_6_8 : Cond.methodLink RL 47 yX11_end ∈ z_om := z_in6 8 rfl rfl
theorem Lzw_se_2_203 : Cond.selects RX10 yX10_house yX10_house ∈ z_om := z_in2 203 rfl rfl
theorem Lzw_se_2_217 : Cond.selects RX10 yX10_next yX10_next ∈ z_om := z_in2 217 rfl rfl
theorem Lzw_se_2_225 : Cond.selects RX10 yX10_tell yX10_tell ∈ z_om := z_in2 225 rfl rfl
theorem Lzw_se_3_14 : Cond.selects RX10 yX10_fall yX10_fall ∈ z_om := z_in3 14 rfl rfl
theorem Lzw_se_3_22 : Cond.selects RX10 yX10_feed yX10_feed ∈ z_om := z_in3 22 rfl rfl
theorem Lzw_se_3_34 : Cond.selects RX10 yX10_end yX10_end ∈ z_om := z_in3 34 rfl rfl
theorem Lzw_se_3_38 : Cond.selects RX10 yX10_text yX10_text ∈ z_om := z_in3 38 rfl rfl
theorem Lzw_se_3_6 : Cond.selects RX10 yX10_storm yX10_storm ∈ z_om := z_in3 6 rfl rfl
theorem Lzw_se_4_107 : Cond.selects RX10 yX10_hour yX10_hour ∈ z_om := z_in4 107 rfl rfl
theorem Lzw_se_4_115 : Cond.selects RX10 yX10_blame yX10_blame ∈ z_om := z_in4 115 rfl rfl
theorem Lzw_se_4_16 : Cond.selects RX10 yX10_fault yX10_fault ∈ z_om := z_in4 16 rfl rfl
theorem Lzw_se_4_163 : Cond.selects RX10 yX10_cleanings yX10_cleanings ∈ z_om := z_in4 163 rfl rfl
theorem Lzw_se_4_20 : Cond.selects RX10 yX10_comes yX10_comes ∈ z_om := z_in4 20 rfl rfl
theorem Lzw_se_4_205 : Cond.selects RX10 yX10_gutters yX10_gutters ∈ z_om := z_in4 205 rfl rfl
theorem Lzw_se_4_221 : Cond.selects RX10 yX10_stains yX10_stains ∈ z_om := z_in4 221 rfl rfl
theorem Lzw_se_4_97 : Cond.selects RX10 yX10_of yX10_of ∈ z_om := z_in4 97 rfl rfl
theorem Lzw_se_5_18 : Cond.selects RX10 yX10_added yX10_added ∈ z_om := z_in5 18 rfl rfl
theorem Lzw_se_5_207 : Cond.selects RX11 yX11_house yX11_house ∈ z_om := z_in5 207 rfl rfl
theorem Lzw_se_5_218 : Cond.selects RX11 yX11_next yX11_next ∈ z_om := z_in5 218 rfl rfl
theorem Lzw_se_5_226 : Cond.selects RX11 yX11_tell yX11_tell ∈ z_om := z_in5 226 rfl rfl
theorem Lzw_se_5_230 : Cond.selects RX11 yX11_storm yX11_storm ∈ z_om := z_in5 230 rfl rfl
theorem Lzw_se_5_234 : Cond.selects RX11 yX11_fall yX11_fall ∈ z_om := z_in5 234 rfl rfl
theorem Lzw_se_5_28 : Cond.selects RX10 yX10_image yX10_image ∈ z_om := z_in5 28 rfl rfl
theorem Lzw_se_5_51 : Cond.selects RX10 yX10_look yX10_look ∈ z_om := z_in5 51 rfl rfl
theorem Lzw_se_5_6 : Cond.selects RX10 yX10_drain yX10_drain ∈ z_om := z_in5 6 rfl rfl
theorem Lzw_se_6_10 : Cond.selects RX11 yX11_end yX11_end ∈ z_om := z_in6 10 rfl rfl
theorem Lzw_se_6_103 : Cond.selects RX11 yX11_fault yX11_fault ∈ z_om := z_in6 103 rfl rfl
theorem Lzw_se_6_107 : Cond.selects RX11 yX11_comes yX11_comes ∈ z_om := z_in6 107 rfl rfl
theorem Lzw_se_6_14 : Cond.selects RX11 yX11_text yX11_text ∈ z_om := z_in6 14 rfl rfl
theorem Lzw_se_6_156 : Cond.selects RX11 yX11_of yX11_of ∈ z_om := z_in6 156 rfl rfl
theorem Lzw_se_6_161 : Cond.selects RX11 yX11_hour yX11_hour ∈ z_om := z_in6 161 rfl rfl
theorem Lzw_se_6_165 : Cond.selects RX11 yX11_blame yX11_blame ∈ z_om := z_in6 165 rfl rfl
theorem Lzw_se_6_180 : Cond.selects RX11 yX11_cleanings yX11_cleanings ∈ z_om := z_in6 180 rfl rfl
theorem Lzw_se_6_188 : Cond.selects RX11 yX11_gutters yX11_gutters ∈ z_om := z_in6 188 rfl rfl
theorem Lzw_se_6_192 : Cond.selects RX11 yX11_stains yX11_stains ∈ z_om := z_in6 192 rfl rfl
theorem Lzw_se_6_196 : Cond.selects RX11 yX11_drain yX11_drain ∈ z_om := z_in6 196 rfl rfl
theorem Lzw_se_6_200 : Cond.selects RX11 yX11_added yX11_added ∈ z_om := z_in6 200 rfl rfl
theorem Lzw_se_6_208 : Cond.selects RX11 yX11_image yX11_image ∈ z_om := z_in6 208 rfl rfl
theorem Lzw_se_6_212 : Cond.selects RX11 yX11_look yX11_look ∈ z_om := z_in6 212 rfl rfl
theorem Lzw_se_6_6 : Cond.selects RX11 yX11_feed yX11_feed ∈ z_om := z_in6 6 rfl rfl
def f_L_law_18 (xs : Nat → Int32) (Ln : Nat) : Nat → Int32 → zM → Option Unit
  | 0, _, _ => none
  | n + 1, i3, M =>
    if ((Int32.ofNat Ln) - (6 : Int32)) < i3 then (
      some ()
    ) else (
      z_g (z_ix i3 Ln) <|
      z_l ((xs (Int32.toNatClampNeg i3)) &&& (31 : Int32)) fun v3 =>
      if v3 = (0 : Int32) then (
        z_g (z_ix (i3 + (1 : Int32)) Ln) <|
        z_g (z_ix (i3 + (2 : Int32)) Ln) <|
        z_g (z_ix (i3 + (3 : Int32)) Ln) <|
        z_g (z_ix (i3 + (4 : Int32)) Ln) <|
        (f_X10_house (xs (Int32.toNatClampNeg (i3 + (1 : Int32)))) (xs (Int32.toNatClampNeg (i3 + (2 : Int32)))) (xs (Int32.toNatClampNeg (i3 + (3 : Int32)))) (xs (Int32.toNatClampNeg (i3 + (4 : Int32)))) M).bind fun x9 =>
        z_g (z_ix (i3 + (1 : Int32)) Ln) <|
        z_g (z_ix (i3 + (2 : Int32)) Ln) <|
        z_g (z_ix (i3 + (3 : Int32)) Ln) <|
        z_g (z_ix (i3 + (4 : Int32)) Ln) <|
        (f_X11_house (xs (Int32.toNatClampNeg (i3 + (1 : Int32)))) (xs (Int32.toNatClampNeg (i3 + (2 : Int32)))) (xs (Int32.toNatClampNeg (i3 + (3 : Int32)))) (xs (Int32.toNatClampNeg (i3 + (4 : Int32)))) x9.2).bind fun x14 =>
        if x9.1 = x14.1 then (
          z_l (i3 + (6 : Int32)) fun v16 =>
          f_L_law_18 xs Ln n v16 x14.2
        ) else (
          none
        )
      ) else (
      if v3 = (1 : Int32) then (
        z_g (z_ix (i3 + (1 : Int32)) Ln) <|
        z_g (z_ix (i3 + (2 : Int32)) Ln) <|
        (f_X10_next (xs (Int32.toNatClampNeg (i3 + (1 : Int32)))) (xs (Int32.toNatClampNeg (i3 + (2 : Int32)))) M).bind fun x20 =>
        z_g (z_ix (i3 + (1 : Int32)) Ln) <|
        z_g (z_ix (i3 + (2 : Int32)) Ln) <|
        (f_X11_next (xs (Int32.toNatClampNeg (i3 + (1 : Int32)))) (xs (Int32.toNatClampNeg (i3 + (2 : Int32)))) x20.2).bind fun x23 =>
        if x20.1 = x23.1 then (
          z_l (i3 + (6 : Int32)) fun v25 =>
          f_L_law_18 xs Ln n v25 x23.2
        ) else (
          none
        )
      ) else (
      if v3 = (2 : Int32) then (
        z_g (z_ix (i3 + (1 : Int32)) Ln) <|
        z_g (z_ix (i3 + (2 : Int32)) Ln) <|
        z_g (z_ix (i3 + (3 : Int32)) Ln) <|
        (f_X10_tell (xs (Int32.toNatClampNeg (i3 + (1 : Int32)))) (xs (Int32.toNatClampNeg (i3 + (2 : Int32)))) (xs (Int32.toNatClampNeg (i3 + (3 : Int32)))) M).bind fun x30 =>
        z_g (z_ix (i3 + (1 : Int32)) Ln) <|
        z_g (z_ix (i3 + (2 : Int32)) Ln) <|
        z_g (z_ix (i3 + (3 : Int32)) Ln) <|
        (f_X11_tell (xs (Int32.toNatClampNeg (i3 + (1 : Int32)))) (xs (Int32.toNatClampNeg (i3 + (2 : Int32)))) (xs (Int32.toNatClampNeg (i3 + (3 : Int32)))) x30.2).bind fun x34 =>
        if x30.1 = x34.1 then (
          z_l (i3 + (6 : Int32)) fun v36 =>
          f_L_law_18 xs Ln n v36 x34.2
        ) else (
          none
        )
      ) else (
      if v3 = (3 : Int32) then (
        z_g (z_ix (i3 + (1 : Int32)) Ln) <|
        (f_X10_storm (xs (Int32.toNatClampNeg (i3 + (1 : Int32)))) M).bind fun x39 =>
        z_g (z_ix (i3 + (1 : Int32)) Ln) <|
        (f_X11_storm (xs (Int32.toNatClampNeg (i3 + (1 : Int32)))) x39.2).bind fun x41 =>
        if x39.1 = x41.1 then (
          z_l (i3 + (6 : Int32)) fun v43 =>
          f_L_law_18 xs Ln n v43 x41.2
        ) else (
          none
        )
      ) else (
      if v3 = (4 : Int32) then (
        z_g (z_ix (i3 + (1 : Int32)) Ln) <|
        z_g (z_ix (i3 + (2 : Int32)) Ln) <|
        z_g (z_ix (i3 + (3 : Int32)) Ln) <|
        z_g (z_ix (i3 + (4 : Int32)) Ln) <|
        if (xs (Int32.toNatClampNeg (i3 + (4 : Int32)))) = 0 then (
          (f_X10_fall (xs (Int32.toNatClampNeg (i3 + (1 : Int32)))) (xs (Int32.toNatClampNeg (i3 + (2 : Int32)))) (xs (Int32.toNatClampNeg (i3 + (3 : Int32)))) (0 : Int32) M).bind fun x50 =>
          z_g (z_ix (i3 + (1 : Int32)) Ln) <|
          z_g (z_ix (i3 + (2 : Int32)) Ln) <|
          z_g (z_ix (i3 + (3 : Int32)) Ln) <|
          z_g (z_ix (i3 + (4 : Int32)) Ln) <|
          if (xs (Int32.toNatClampNeg (i3 + (4 : Int32)))) = 0 then (
            (f_X11_fall (xs (Int32.toNatClampNeg (i3 + (1 : Int32)))) (xs (Int32.toNatClampNeg (i3 + (2 : Int32)))) (xs (Int32.toNatClampNeg (i3 + (3 : Int32)))) (0 : Int32) x50.2).bind fun x56 =>
            if x50.1 = x56.1 then (
              z_l (i3 + (6 : Int32)) fun v58 =>
              f_L_law_18 xs Ln n v58 x56.2
            ) else (
              none
            )
          ) else (
            (f_X11_fall (xs (Int32.toNatClampNeg (i3 + (1 : Int32)))) (xs (Int32.toNatClampNeg (i3 + (2 : Int32)))) (xs (Int32.toNatClampNeg (i3 + (3 : Int32)))) (1 : Int32) x50.2).bind fun x59 =>
            if x50.1 = x59.1 then (
              z_l (i3 + (6 : Int32)) fun v61 =>
              f_L_law_18 xs Ln n v61 x59.2
            ) else (
              none
            )
          )
        ) else (
          (f_X10_fall (xs (Int32.toNatClampNeg (i3 + (1 : Int32)))) (xs (Int32.toNatClampNeg (i3 + (2 : Int32)))) (xs (Int32.toNatClampNeg (i3 + (3 : Int32)))) (1 : Int32) M).bind fun x62 =>
          z_g (z_ix (i3 + (1 : Int32)) Ln) <|
          z_g (z_ix (i3 + (2 : Int32)) Ln) <|
          z_g (z_ix (i3 + (3 : Int32)) Ln) <|
          z_g (z_ix (i3 + (4 : Int32)) Ln) <|
          if (xs (Int32.toNatClampNeg (i3 + (4 : Int32)))) = 0 then (
            (f_X11_fall (xs (Int32.toNatClampNeg (i3 + (1 : Int32)))) (xs (Int32.toNatClampNeg (i3 + (2 : Int32)))) (xs (Int32.toNatClampNeg (i3 + (3 : Int32)))) (0 : Int32) x62.2).bind fun x68 =>
            if x62.1 = x68.1 then (
              z_l (i3 + (6 : Int32)) fun v70 =>
              f_L_law_18 xs Ln n v70 x68.2
            ) else (
              none
            )
          ) else (
            (f_X11_fall (xs (Int32.toNatClampNeg (i3 + (1 : Int32)))) (xs (Int32.toNatClampNeg (i3 + (2 : Int32)))) (xs (Int32.toNatClampNeg (i3 + (3 : Int32)))) (1 : Int32) x62.2).bind fun x71 =>
            if x62.1 = x71.1 then (
              z_l (i3 + (6 : Int32)) fun v73 =>
              f_L_law_18 xs Ln n v73 x71.2
            ) else (
              none
            )
          )
        )
      ) else (
      if v3 = (5 : Int32) then (
        z_g (z_ix (i3 + (1 : Int32)) Ln) <|
        z_g (z_ix (i3 + (2 : Int32)) Ln) <|
        z_g (z_ix (i3 + (3 : Int32)) Ln) <|
        z_g (z_ix (i3 + (4 : Int32)) Ln) <|
        z_g (z_ix (i3 + (5 : Int32)) Ln) <|
        (f_X10_feed (xs (Int32.toNatClampNeg (i3 + (1 : Int32)))) (xs (Int32.toNatClampNeg (i3 + (2 : Int32)))) (xs (Int32.toNatClampNeg (i3 + (3 : Int32)))) (xs (Int32.toNatClampNeg (i3 + (4 : Int32)))) (xs (Int32.toNatClampNeg (i3 + (5 : Int32)))) M).bind fun x80 =>
        z_g (z_ix (i3 + (1 : Int32)) Ln) <|
        z_g (z_ix (i3 + (2 : Int32)) Ln) <|
        z_g (z_ix (i3 + (3 : Int32)) Ln) <|
        z_g (z_ix (i3 + (4 : Int32)) Ln) <|
        z_g (z_ix (i3 + (5 : Int32)) Ln) <|
        (f_X11_feed (xs (Int32.toNatClampNeg (i3 + (1 : Int32)))) (xs (Int32.toNatClampNeg (i3 + (2 : Int32)))) (xs (Int32.toNatClampNeg (i3 + (3 : Int32)))) (xs (Int32.toNatClampNeg (i3 + (4 : Int32)))) (xs (Int32.toNatClampNeg (i3 + (5 : Int32)))) x80.2).bind fun x86 =>
        if x80.1 = x86.1 then (
          z_l (i3 + (6 : Int32)) fun v88 =>
          f_L_law_18 xs Ln n v88 x86.2
        ) else (
          none
        )
      ) else (
      if v3 = (6 : Int32) then (
        z_g (z_ix (i3 + (1 : Int32)) Ln) <|
        (f_X10_end (xs (Int32.toNatClampNeg (i3 + (1 : Int32)))) M).bind fun x91 =>
        z_g (z_ix (i3 + (1 : Int32)) Ln) <|
        (f_X11_end (xs (Int32.toNatClampNeg (i3 + (1 : Int32)))) x91.2).bind fun x93 =>
        if x91.1 = x93.1 then (
          z_l (i3 + (6 : Int32)) fun v95 =>
          f_L_law_18 xs Ln n v95 x93.2
        ) else (
          none
        )
      ) else (
      if v3 = (7 : Int32) then (
        (f_X10_text  M).bind fun x97 =>
        (f_X11_text  x97.2).bind fun x98 =>
        if x97.1 = x98.1 then (
          z_l (i3 + (6 : Int32)) fun v100 =>
          f_L_law_18 xs Ln n v100 x98.2
        ) else (
          none
        )
      ) else (
      if v3 = (8 : Int32) then (
        z_g (z_ix (i3 + (1 : Int32)) Ln) <|
        (f_X10_fault (xs (Int32.toNatClampNeg (i3 + (1 : Int32)))) M).bind fun x103 =>
        z_g (z_ix (i3 + (1 : Int32)) Ln) <|
        (f_X11_fault (xs (Int32.toNatClampNeg (i3 + (1 : Int32)))) x103.2).bind fun x105 =>
        if x103.1 = x105.1 then (
          z_l (i3 + (6 : Int32)) fun v107 =>
          f_L_law_18 xs Ln n v107 x105.2
        ) else (
          none
        )
      ) else (
      if v3 = (9 : Int32) then (
        z_g (z_ix (i3 + (1 : Int32)) Ln) <|
        (f_X10_comes (xs (Int32.toNatClampNeg (i3 + (1 : Int32)))) M).bind fun x110 =>
        z_g (z_ix (i3 + (1 : Int32)) Ln) <|
        (f_X11_comes (xs (Int32.toNatClampNeg (i3 + (1 : Int32)))) x110.2).bind fun x112 =>
        if x110.1 = x112.1 then (
          z_l (i3 + (6 : Int32)) fun v114 =>
          f_L_law_18 xs Ln n v114 x112.2
        ) else (
          none
        )
      ) else (
      if v3 = (10 : Int32) then (
        z_g (z_ix (i3 + (1 : Int32)) Ln) <|
        z_g (z_ix (i3 + (2 : Int32)) Ln) <|
        (f_X10_of (xs (Int32.toNatClampNeg (i3 + (1 : Int32)))) (xs (Int32.toNatClampNeg (i3 + (2 : Int32)))) M).bind fun x118 =>
        z_g (z_ix (i3 + (1 : Int32)) Ln) <|
        z_g (z_ix (i3 + (2 : Int32)) Ln) <|
        (f_X11_of (xs (Int32.toNatClampNeg (i3 + (1 : Int32)))) (xs (Int32.toNatClampNeg (i3 + (2 : Int32)))) x118.2).bind fun x121 =>
        if x118.1 = x121.1 then (
          z_l (i3 + (6 : Int32)) fun v123 =>
          f_L_law_18 xs Ln n v123 x121.2
        ) else (
          none
        )
      ) else (
      if v3 = (11 : Int32) then (
        z_g (z_ix (i3 + (1 : Int32)) Ln) <|
        z_g (z_ix (i3 + (2 : Int32)) Ln) <|
        z_g (z_ix (i3 + (3 : Int32)) Ln) <|
        (f_X10_hour (xs (Int32.toNatClampNeg (i3 + (1 : Int32)))) (xs (Int32.toNatClampNeg (i3 + (2 : Int32)))) (xs (Int32.toNatClampNeg (i3 + (3 : Int32)))) M).bind fun x128 =>
        z_g (z_ix (i3 + (1 : Int32)) Ln) <|
        z_g (z_ix (i3 + (2 : Int32)) Ln) <|
        z_g (z_ix (i3 + (3 : Int32)) Ln) <|
        (f_X11_hour (xs (Int32.toNatClampNeg (i3 + (1 : Int32)))) (xs (Int32.toNatClampNeg (i3 + (2 : Int32)))) (xs (Int32.toNatClampNeg (i3 + (3 : Int32)))) x128.2).bind fun x132 =>
        if x128.1 = x132.1 then (
          z_l (i3 + (6 : Int32)) fun v134 =>
          f_L_law_18 xs Ln n v134 x132.2
        ) else (
          none
        )
      ) else (
      if v3 = (12 : Int32) then (
        z_g (z_ix (i3 + (1 : Int32)) Ln) <|
        z_g (z_ix (i3 + (2 : Int32)) Ln) <|
        z_g (z_ix (i3 + (3 : Int32)) Ln) <|
        z_g (z_ix (i3 + (4 : Int32)) Ln) <|
        (f_X10_blame (xs (Int32.toNatClampNeg (i3 + (1 : Int32)))) (xs (Int32.toNatClampNeg (i3 + (2 : Int32)))) (xs (Int32.toNatClampNeg (i3 + (3 : Int32)))) (xs (Int32.toNatClampNeg (i3 + (4 : Int32)))) M).bind fun x140 =>
        z_g (z_ix (i3 + (1 : Int32)) Ln) <|
        z_g (z_ix (i3 + (2 : Int32)) Ln) <|
        z_g (z_ix (i3 + (3 : Int32)) Ln) <|
        z_g (z_ix (i3 + (4 : Int32)) Ln) <|
        (f_X11_blame (xs (Int32.toNatClampNeg (i3 + (1 : Int32)))) (xs (Int32.toNatClampNeg (i3 + (2 : Int32)))) (xs (Int32.toNatClampNeg (i3 + (3 : Int32)))) (xs (Int32.toNatClampNeg (i3 + (4 : Int32)))) x140.2).bind fun x145 =>
        if (lg_cmp x140.1 x145.1) = 0 then (
          z_l (i3 + (6 : Int32)) fun v147 =>
          f_L_law_18 xs Ln n v147 x145.2
        ) else (
          none
        )
      ) else (
      if v3 = (13 : Int32) then (
        z_g (z_ix (i3 + (1 : Int32)) Ln) <|
        z_g (z_ix (i3 + (2 : Int32)) Ln) <|
        z_g (z_ix (i3 + (3 : Int32)) Ln) <|
        z_g (z_ix (i3 + (4 : Int32)) Ln) <|
        z_g (z_ix (i3 + (5 : Int32)) Ln) <|
        (f_X10_cleanings (xs (Int32.toNatClampNeg (i3 + (1 : Int32)))) (xs (Int32.toNatClampNeg (i3 + (2 : Int32)))) (xs (Int32.toNatClampNeg (i3 + (3 : Int32)))) (xs (Int32.toNatClampNeg (i3 + (4 : Int32)))) (xs (Int32.toNatClampNeg (i3 + (5 : Int32)))) M).bind fun x154 =>
        z_g (z_ix (i3 + (1 : Int32)) Ln) <|
        z_g (z_ix (i3 + (2 : Int32)) Ln) <|
        z_g (z_ix (i3 + (3 : Int32)) Ln) <|
        z_g (z_ix (i3 + (4 : Int32)) Ln) <|
        z_g (z_ix (i3 + (5 : Int32)) Ln) <|
        (f_X11_cleanings (xs (Int32.toNatClampNeg (i3 + (1 : Int32)))) (xs (Int32.toNatClampNeg (i3 + (2 : Int32)))) (xs (Int32.toNatClampNeg (i3 + (3 : Int32)))) (xs (Int32.toNatClampNeg (i3 + (4 : Int32)))) (xs (Int32.toNatClampNeg (i3 + (5 : Int32)))) x154.2).bind fun x160 =>
        if x154.1 = x160.1 then (
          z_l (i3 + (6 : Int32)) fun v162 =>
          f_L_law_18 xs Ln n v162 x160.2
        ) else (
          none
        )
      ) else (
      if v3 = (14 : Int32) then (
        z_g (z_ix (i3 + (1 : Int32)) Ln) <|
        z_g (z_ix (i3 + (2 : Int32)) Ln) <|
        (f_X10_gutters (xs (Int32.toNatClampNeg (i3 + (1 : Int32)))) (xs (Int32.toNatClampNeg (i3 + (2 : Int32)))) M).bind fun x166 =>
        z_g (z_ix (i3 + (1 : Int32)) Ln) <|
        z_g (z_ix (i3 + (2 : Int32)) Ln) <|
        (f_X11_gutters (xs (Int32.toNatClampNeg (i3 + (1 : Int32)))) (xs (Int32.toNatClampNeg (i3 + (2 : Int32)))) x166.2).bind fun x169 =>
        if x166.1 = x169.1 then (
          z_l (i3 + (6 : Int32)) fun v171 =>
          f_L_law_18 xs Ln n v171 x169.2
        ) else (
          none
        )
      ) else (
      if v3 = (15 : Int32) then (
        z_g (z_ix (i3 + (1 : Int32)) Ln) <|
        z_g (z_ix (i3 + (2 : Int32)) Ln) <|
        (f_X10_stains (xs (Int32.toNatClampNeg (i3 + (1 : Int32)))) (xs (Int32.toNatClampNeg (i3 + (2 : Int32)))) M).bind fun x175 =>
        z_g (z_ix (i3 + (1 : Int32)) Ln) <|
        z_g (z_ix (i3 + (2 : Int32)) Ln) <|
        (f_X11_stains (xs (Int32.toNatClampNeg (i3 + (1 : Int32)))) (xs (Int32.toNatClampNeg (i3 + (2 : Int32)))) x175.2).bind fun x178 =>
        if x175.1 = x178.1 then (
          z_l (i3 + (6 : Int32)) fun v180 =>
          f_L_law_18 xs Ln n v180 x178.2
        ) else (
          none
        )
      ) else (
      if v3 = (16 : Int32) then (
        z_g (z_ix (i3 + (1 : Int32)) Ln) <|
        (f_X10_drain (xs (Int32.toNatClampNeg (i3 + (1 : Int32)))) M).bind fun x183 =>
        z_g (z_ix (i3 + (1 : Int32)) Ln) <|
        (f_X11_drain (xs (Int32.toNatClampNeg (i3 + (1 : Int32)))) x183.2).bind fun x185 =>
        if x183.1 = x185.1 then (
          z_l (i3 + (6 : Int32)) fun v187 =>
          f_L_law_18 xs Ln n v187 x185.2
        ) else (
          none
        )
      ) else (
      if v3 = (17 : Int32) then (
        z_g (z_ix (i3 + (1 : Int32)) Ln) <|
        z_g (z_ix (i3 + (2 : Int32)) Ln) <|
        z_g (z_ix (i3 + (3 : Int32)) Ln) <|
        z_g (z_ix (i3 + (4 : Int32)) Ln) <|
        (f_X10_added (xs (Int32.toNatClampNeg (i3 + (1 : Int32)))) (xs (Int32.toNatClampNeg (i3 + (2 : Int32)))) (xs (Int32.toNatClampNeg (i3 + (3 : Int32)))) (xs (Int32.toNatClampNeg (i3 + (4 : Int32)))) M).bind fun x193 =>
        z_g (z_ix (i3 + (1 : Int32)) Ln) <|
        z_g (z_ix (i3 + (2 : Int32)) Ln) <|
        z_g (z_ix (i3 + (3 : Int32)) Ln) <|
        z_g (z_ix (i3 + (4 : Int32)) Ln) <|
        (f_X11_added (xs (Int32.toNatClampNeg (i3 + (1 : Int32)))) (xs (Int32.toNatClampNeg (i3 + (2 : Int32)))) (xs (Int32.toNatClampNeg (i3 + (3 : Int32)))) (xs (Int32.toNatClampNeg (i3 + (4 : Int32)))) x193.2).bind fun x198 =>
        if x193.1 = x198.1 then (
          z_l (i3 + (6 : Int32)) fun v200 =>
          f_L_law_18 xs Ln n v200 x198.2
        ) else (
          none
        )
      ) else (
      if v3 = (18 : Int32) then (
        z_g (z_ix (i3 + (1 : Int32)) Ln) <|
        if (xs (Int32.toNatClampNeg (i3 + (1 : Int32)))) = 0 then (
          (f_X10_image (0 : Int32) M).bind fun x204 =>
          z_g (z_ix (i3 + (1 : Int32)) Ln) <|
          if (xs (Int32.toNatClampNeg (i3 + (1 : Int32)))) = 0 then (
            (f_X11_image (0 : Int32) x204.2).bind fun x207 =>
            if x204.1 = x207.1 then (
              z_l (i3 + (6 : Int32)) fun v209 =>
              f_L_law_18 xs Ln n v209 x207.2
            ) else (
              none
            )
          ) else (
            (f_X11_image (1 : Int32) x204.2).bind fun x210 =>
            if x204.1 = x210.1 then (
              z_l (i3 + (6 : Int32)) fun v212 =>
              f_L_law_18 xs Ln n v212 x210.2
            ) else (
              none
            )
          )
        ) else (
          (f_X10_image (1 : Int32) M).bind fun x213 =>
          z_g (z_ix (i3 + (1 : Int32)) Ln) <|
          if (xs (Int32.toNatClampNeg (i3 + (1 : Int32)))) = 0 then (
            (f_X11_image (0 : Int32) x213.2).bind fun x216 =>
            if x213.1 = x216.1 then (
              z_l (i3 + (6 : Int32)) fun v218 =>
              f_L_law_18 xs Ln n v218 x216.2
            ) else (
              none
            )
          ) else (
            (f_X11_image (1 : Int32) x213.2).bind fun x219 =>
            if x213.1 = x219.1 then (
              z_l (i3 + (6 : Int32)) fun v221 =>
              f_L_law_18 xs Ln n v221 x219.2
            ) else (
              none
            )
          )
        )
      ) else (
      if v3 = (19 : Int32) then (
        z_g (z_ix (i3 + (1 : Int32)) Ln) <|
        (f_X10_look (xs (Int32.toNatClampNeg (i3 + (1 : Int32)))) M).bind fun x224 =>
        z_g (z_ix (i3 + (1 : Int32)) Ln) <|
        (f_X11_look (xs (Int32.toNatClampNeg (i3 + (1 : Int32)))) x224.2).bind fun x226 =>
        if x224.1 = x226.1 then (
          z_l (i3 + (6 : Int32)) fun v228 =>
          f_L_law_18 xs Ln n v228 x226.2
        ) else (
          none
        )
      ) else (
        z_l (i3 + (6 : Int32)) fun v229 =>
        f_L_law_18 xs Ln n v229 M
      ))))))))))))))))))))
    )
set_option maxHeartbeats 40000000 in
set_option maxRecDepth 100000 in
theorem w_L_law_18 {G : zG} {p : Program} {l : Launch} {e : Env} {s : State} {m : MethodId} {below : List Frame} {meth : Method} {c : Code} {b Ln : Nat} {xs : Nat → Int32} (X : z_C G p s m #[Value.ref b] meth c cL_law 4 RL ret) (hG : G.2.2.2.1 = s.heap) (hX : va_X b Ln xs s G.2.2.2.1) (hbl : b < G.2.2.2.1.size) : ∀ (n : Nat) (i3 : Int32) (M : zM) (H : Heap) (locs : List Loc) (ls : Array Slot), z_W G M H locs → lv_has ls 4 [(0, .ref b), (1, .ref (G.1 0)), (2, .ref (G.1 40)), (3, .int i3)] → f_L_law_18 xs Ln n i3 M = some () → W p l e room_1 s m #[Value.ref b] below meth c H locs 291 11118 (lw_Z below #[Value.ref b] s) (F0 m 18 ls []) := by
  have hx := X.1
  have hb := X.2.1
  have hbA : ¬ z_A G b := Nat.not_le.mpr hbl
  intro n
  induction n with
  | zero =>
    intro i3 M H locs ls hw hl h
    exact z_no h
  | succ n ih =>
    intro i3 M H locs ls hw hl h
    rw [f_L_law_18] at h
    refine lv_iload_n (pc := 18) hx hb dL_law_18 rfl (lv_at hl 3 rfl) ?_
    refine lv_aload_n (pc := 19) hx hb dL_law_19 rfl (lv_at hl 0 rfl) ?_
    refine va_slen (pc := 20) hx hb hX hbl hbA hw.2.2 dL_law_20 ?_
    refine lv_bipush (pc := 21) (v := 6) hx hb dL_law_21 (by decide) ?_
    refine lv_isub (pc := 23) hx hb dL_law_23 ?_
    refine lv_icmp_gt (pc := 24) (tgt := 897) hx hb dL_law_24 (by decide) (fun c1 => ?_) (fun c1 => ?_)
    · replace h := z_t c1 h
      refine lv_iconst (pc := 897) (v := 1) hx hb dL_law_897 (by decide) ?_
      refine va_forget (fun q hq => by rw [← hG]; exact hw.2.2.2.2 q hq) ?_
      refine W.widen (k := 600000) (n := 7302250) (by decide) (by decide) ?_
      exact lw_ret hx hb X.2.2.2.2.2.1 X.2.2.2.2.2.2.1 dL_law_898
    · replace h := z_f c1 h
      refine lv_aload_n (pc := 27) hx hb dL_law_27 rfl (lv_at hl 0 rfl) ?_
      refine lv_iload_n (pc := 28) hx hb dL_law_28 rfl (lv_at hl 3 rfl) ?_
      obtain ⟨g2, h⟩ := z_gd h
      refine va_sld (pc := 29) hx hb hX hbl hbA hw.2.2 g2 dL_law_29 ?_
      refine lv_bipush (pc := 30) (v := 31) hx hb dL_law_30 (by decide) ?_
      refine lv_iand (pc := 32) hx hb dL_law_32 ?_
      obtain ⟨v3, ev3, h⟩ := z_lo h
      refine z_topi ev3 ?_
      by_cases c4 : v3 = (0 : Int32)
      · replace h := z_t c4 h
        refine lv_tableIn (pc := 33) (off := 95) (tgt := 128) hx hb dL_law_33 (by rw [c4]; decide) (by rw [c4]; decide) (by rw [c4]; rfl) (by decide) ?_
        refine lv_aload_n (pc := 128) hx hb dL_law_128 rfl (lv_at hl 1 rfl) ?_
        refine lv_aload_n (pc := 129) hx hb dL_law_129 rfl (lv_at hl 0 rfl) ?_
        refine lv_iload_n (pc := 130) hx hb dL_law_130 rfl (lv_at hl 3 rfl) ?_
        refine lv_iconst (pc := 131) (v := 1) hx hb dL_law_131 (by decide) ?_
        refine lv_iadd (pc := 132) hx hb dL_law_132 ?_
        obtain ⟨g5, h⟩ := z_gd h
        refine va_sld (pc := 133) hx hb hX hbl hbA hw.2.2 g5 dL_law_133 ?_
        refine lv_aload_n (pc := 134) hx hb dL_law_134 rfl (lv_at hl 0 rfl) ?_
        refine lv_iload_n (pc := 135) hx hb dL_law_135 rfl (lv_at hl 3 rfl) ?_
        refine lv_iconst (pc := 136) (v := 2) hx hb dL_law_136 (by decide) ?_
        refine lv_iadd (pc := 137) hx hb dL_law_137 ?_
        obtain ⟨g6, h⟩ := z_gd h
        refine va_sld (pc := 138) hx hb hX hbl hbA hw.2.2 g6 dL_law_138 ?_
        refine lv_aload_n (pc := 139) hx hb dL_law_139 rfl (lv_at hl 0 rfl) ?_
        refine lv_iload_n (pc := 140) hx hb dL_law_140 rfl (lv_at hl 3 rfl) ?_
        refine lv_iconst (pc := 141) (v := 3) hx hb dL_law_141 (by decide) ?_
        refine lv_iadd (pc := 142) hx hb dL_law_142 ?_
        obtain ⟨g7, h⟩ := z_gd h
        refine va_sld (pc := 143) hx hb hX hbl hbA hw.2.2 g7 dL_law_143 ?_
        refine lv_aload_n (pc := 144) hx hb dL_law_144 rfl (lv_at hl 0 rfl) ?_
        refine lv_iload_n (pc := 145) hx hb dL_law_145 rfl (lv_at hl 3 rfl) ?_
        refine lv_iconst (pc := 146) (v := 4) hx hb dL_law_146 (by decide) ?_
        refine lv_iadd (pc := 147) hx hb dL_law_147 ?_
        obtain ⟨g8, h⟩ := z_gd h
        refine va_sld (pc := 148) hx hb hX hbl hbA hw.2.2 g8 dL_law_148 ?_
        obtain ⟨x9, ex9, h⟩ := z_bd h
        refine z_cvI (pc := 149) (rest := []) X hw (m_X10_house  ex9) (z_lt zk_0 (by decide)) (z_E10 zk_0) rfl Lzw_ml_2_201 Lzw_im_2_202 Lzw_se_2_203 Lzw_in_1_1 Lzw_co_2_204 Lzd_X10_house (by decide) rfl hl.1 rfl (Nat.le_of_ble_eq_true rfl) dL_law_149 (by decide) (fun Hx9 lx9 wx9 => ?_)
        refine lv_aload_n (pc := 152) hx hb dL_law_152 rfl (lv_at hl 2 rfl) ?_
        refine lv_aload_n (pc := 153) hx hb dL_law_153 rfl (lv_at hl 0 rfl) ?_
        refine lv_iload_n (pc := 154) hx hb dL_law_154 rfl (lv_at hl 3 rfl) ?_
        refine lv_iconst (pc := 155) (v := 1) hx hb dL_law_155 (by decide) ?_
        refine lv_iadd (pc := 156) hx hb dL_law_156 ?_
        obtain ⟨g10, h⟩ := z_gd h
        refine va_sld (pc := 157) hx hb hX hbl hbA wx9.2.2 g10 dL_law_157 ?_
        refine lv_aload_n (pc := 158) hx hb dL_law_158 rfl (lv_at hl 0 rfl) ?_
        refine lv_iload_n (pc := 159) hx hb dL_law_159 rfl (lv_at hl 3 rfl) ?_
        refine lv_iconst (pc := 160) (v := 2) hx hb dL_law_160 (by decide) ?_
        refine lv_iadd (pc := 161) hx hb dL_law_161 ?_
        obtain ⟨g11, h⟩ := z_gd h
        refine va_sld (pc := 162) hx hb hX hbl hbA wx9.2.2 g11 dL_law_162 ?_
        refine lv_aload_n (pc := 163) hx hb dL_law_163 rfl (lv_at hl 0 rfl) ?_
        refine lv_iload_n (pc := 164) hx hb dL_law_164 rfl (lv_at hl 3 rfl) ?_
        refine lv_iconst (pc := 165) (v := 3) hx hb dL_law_165 (by decide) ?_
        refine lv_iadd (pc := 166) hx hb dL_law_166 ?_
        obtain ⟨g12, h⟩ := z_gd h
        refine va_sld (pc := 167) hx hb hX hbl hbA wx9.2.2 g12 dL_law_167 ?_
        refine lv_aload_n (pc := 168) hx hb dL_law_168 rfl (lv_at hl 0 rfl) ?_
        refine lv_iload_n (pc := 169) hx hb dL_law_169 rfl (lv_at hl 3 rfl) ?_
        refine lv_iconst (pc := 170) (v := 4) hx hb dL_law_170 (by decide) ?_
        refine lv_iadd (pc := 171) hx hb dL_law_171 ?_
        obtain ⟨g13, h⟩ := z_gd h
        refine va_sld (pc := 172) hx hb hX hbl hbA wx9.2.2 g13 dL_law_172 ?_
        obtain ⟨x14, ex14, h⟩ := z_bd h
        refine z_cvI (pc := 173) (rest := [.int x9.1]) X wx9 (m_X11_house  ex14) (z_lt zk_40 (by decide)) (z_E11 zk_40) rfl Lzw_ml_5_205 Lzw_im_5_206 Lzw_se_5_207 Lzw_in_1_12 Lzw_co_5_208 Lzd_X11_house (by decide) rfl hl.1 rfl (Nat.le_of_ble_eq_true rfl) dL_law_173 (by decide) (fun Hx14 lx14 wx14 => ?_)
        refine lv_icmp_eq (pc := 176) (tgt := 891) hx hb dL_law_176 (by decide) (fun c15 => ?_) (fun c15 => ?_)
        · replace h := z_t c15 h
          obtain ⟨v16, ev16, h⟩ := z_lo h
          refine lv_iinc (pc := 891) (v := v16) (lv' := [(3, .int v16), (0, .ref b), (1, .ref (G.1 0)), (2, .ref (G.1 40))]) hx hb dL_law_891 hl (k := 3) rfl (by rw [ev16]; rfl) (by decide) rfl (fun ls hl => ?_)
          refine lv_goto (pc := 894) (tgt := 18) hx hb dL_law_894 (by decide) ?_
          exact ih v16 x14.2 Hx14 lx14 ls  wx14 (lv_sub hl [1, 2, 3, 0] rfl) h
        · replace h := z_f c15 h
          refine lv_iconst (pc := 179) (v := 0) hx hb dL_law_179 (by decide) ?_
          exact z_no h
      · replace h := z_f c4 h
        by_cases c17 : v3 = (1 : Int32)
        · replace h := z_t c17 h
          refine lv_tableIn (pc := 33) (off := 148) (tgt := 181) hx hb dL_law_33 (by rw [c17]; decide) (by rw [c17]; decide) (by rw [c17]; rfl) (by decide) ?_
          refine lv_aload_n (pc := 181) hx hb dL_law_181 rfl (lv_at hl 1 rfl) ?_
          refine lv_aload_n (pc := 182) hx hb dL_law_182 rfl (lv_at hl 0 rfl) ?_
          refine lv_iload_n (pc := 183) hx hb dL_law_183 rfl (lv_at hl 3 rfl) ?_
          refine lv_iconst (pc := 184) (v := 1) hx hb dL_law_184 (by decide) ?_
          refine lv_iadd (pc := 185) hx hb dL_law_185 ?_
          obtain ⟨g18, h⟩ := z_gd h
          refine va_sld (pc := 186) hx hb hX hbl hbA hw.2.2 g18 dL_law_186 ?_
          refine lv_aload_n (pc := 187) hx hb dL_law_187 rfl (lv_at hl 0 rfl) ?_
          refine lv_iload_n (pc := 188) hx hb dL_law_188 rfl (lv_at hl 3 rfl) ?_
          refine lv_iconst (pc := 189) (v := 2) hx hb dL_law_189 (by decide) ?_
          refine lv_iadd (pc := 190) hx hb dL_law_190 ?_
          obtain ⟨g19, h⟩ := z_gd h
          refine va_sld (pc := 191) hx hb hX hbl hbA hw.2.2 g19 dL_law_191 ?_
          obtain ⟨x20, ex20, h⟩ := z_bd h
          refine z_cvI (pc := 192) (rest := []) X hw (m_X10_next  ex20) (z_lt zk_0 (by decide)) (z_E10 zk_0) rfl Lzw_ml_2_215 Lzw_im_2_216 Lzw_se_2_217 Lzw_in_1_1 Lzw_co_2_218 Lzd_X10_next (by decide) rfl hl.1 rfl (Nat.le_of_ble_eq_true rfl) dL_law_192 (by decide) (fun Hx20 lx20 wx20 => ?_)
          refine lv_aload_n (pc := 195) hx hb dL_law_195 rfl (lv_at hl 2 rfl) ?_
          refine lv_aload_n (pc := 196) hx hb dL_law_196 rfl (lv_at hl 0 rfl) ?_
          refine lv_iload_n (pc := 197) hx hb dL_law_197 rfl (lv_at hl 3 rfl) ?_
          refine lv_iconst (pc := 198) (v := 1) hx hb dL_law_198 (by decide) ?_
          refine lv_iadd (pc := 199) hx hb dL_law_199 ?_
          obtain ⟨g21, h⟩ := z_gd h
          refine va_sld (pc := 200) hx hb hX hbl hbA wx20.2.2 g21 dL_law_200 ?_
          refine lv_aload_n (pc := 201) hx hb dL_law_201 rfl (lv_at hl 0 rfl) ?_
          refine lv_iload_n (pc := 202) hx hb dL_law_202 rfl (lv_at hl 3 rfl) ?_
          refine lv_iconst (pc := 203) (v := 2) hx hb dL_law_203 (by decide) ?_
          refine lv_iadd (pc := 204) hx hb dL_law_204 ?_
          obtain ⟨g22, h⟩ := z_gd h
          refine va_sld (pc := 205) hx hb hX hbl hbA wx20.2.2 g22 dL_law_205 ?_
          obtain ⟨x23, ex23, h⟩ := z_bd h
          refine z_cvI (pc := 206) (rest := [.int x20.1]) X wx20 (m_X11_next  ex23) (z_lt zk_40 (by decide)) (z_E11 zk_40) rfl Lzw_ml_5_216 Lzw_im_5_217 Lzw_se_5_218 Lzw_in_1_12 Lzw_co_5_219 Lzd_X11_next (by decide) rfl hl.1 rfl (Nat.le_of_ble_eq_true rfl) dL_law_206 (by decide) (fun Hx23 lx23 wx23 => ?_)
          refine lv_icmp_eq (pc := 209) (tgt := 891) hx hb dL_law_209 (by decide) (fun c24 => ?_) (fun c24 => ?_)
          · replace h := z_t c24 h
            obtain ⟨v25, ev25, h⟩ := z_lo h
            refine lv_iinc (pc := 891) (v := v25) (lv' := [(3, .int v25), (0, .ref b), (1, .ref (G.1 0)), (2, .ref (G.1 40))]) hx hb dL_law_891 hl (k := 3) rfl (by rw [ev25]; rfl) (by decide) rfl (fun ls hl => ?_)
            refine lv_goto (pc := 894) (tgt := 18) hx hb dL_law_894 (by decide) ?_
            exact ih v25 x23.2 Hx23 lx23 ls  wx23 (lv_sub hl [1, 2, 3, 0] rfl) h
          · replace h := z_f c24 h
            refine lv_iconst (pc := 212) (v := 0) hx hb dL_law_212 (by decide) ?_
            exact z_no h
        · replace h := z_f c17 h
          by_cases c26 : v3 = (2 : Int32)
          · replace h := z_t c26 h
            refine lv_tableIn (pc := 33) (off := 181) (tgt := 214) hx hb dL_law_33 (by rw [c26]; decide) (by rw [c26]; decide) (by rw [c26]; rfl) (by decide) ?_
            refine lv_aload_n (pc := 214) hx hb dL_law_214 rfl (lv_at hl 1 rfl) ?_
            refine lv_aload_n (pc := 215) hx hb dL_law_215 rfl (lv_at hl 0 rfl) ?_
            refine lv_iload_n (pc := 216) hx hb dL_law_216 rfl (lv_at hl 3 rfl) ?_
            refine lv_iconst (pc := 217) (v := 1) hx hb dL_law_217 (by decide) ?_
            refine lv_iadd (pc := 218) hx hb dL_law_218 ?_
            obtain ⟨g27, h⟩ := z_gd h
            refine va_sld (pc := 219) hx hb hX hbl hbA hw.2.2 g27 dL_law_219 ?_
            refine lv_aload_n (pc := 220) hx hb dL_law_220 rfl (lv_at hl 0 rfl) ?_
            refine lv_iload_n (pc := 221) hx hb dL_law_221 rfl (lv_at hl 3 rfl) ?_
            refine lv_iconst (pc := 222) (v := 2) hx hb dL_law_222 (by decide) ?_
            refine lv_iadd (pc := 223) hx hb dL_law_223 ?_
            obtain ⟨g28, h⟩ := z_gd h
            refine va_sld (pc := 224) hx hb hX hbl hbA hw.2.2 g28 dL_law_224 ?_
            refine lv_aload_n (pc := 225) hx hb dL_law_225 rfl (lv_at hl 0 rfl) ?_
            refine lv_iload_n (pc := 226) hx hb dL_law_226 rfl (lv_at hl 3 rfl) ?_
            refine lv_iconst (pc := 227) (v := 3) hx hb dL_law_227 (by decide) ?_
            refine lv_iadd (pc := 228) hx hb dL_law_228 ?_
            obtain ⟨g29, h⟩ := z_gd h
            refine va_sld (pc := 229) hx hb hX hbl hbA hw.2.2 g29 dL_law_229 ?_
            obtain ⟨x30, ex30, h⟩ := z_bd h
            refine z_cvI (pc := 230) (rest := []) X hw (m_X10_tell  ex30) (z_lt zk_0 (by decide)) (z_E10 zk_0) rfl Lzw_ml_2_223 Lzw_im_2_224 Lzw_se_2_225 Lzw_in_1_1 Lzw_co_2_226 Lzd_X10_tell (by decide) rfl hl.1 rfl (Nat.le_of_ble_eq_true rfl) dL_law_230 (by decide) (fun Hx30 lx30 wx30 => ?_)
            refine lv_aload_n (pc := 233) hx hb dL_law_233 rfl (lv_at hl 2 rfl) ?_
            refine lv_aload_n (pc := 234) hx hb dL_law_234 rfl (lv_at hl 0 rfl) ?_
            refine lv_iload_n (pc := 235) hx hb dL_law_235 rfl (lv_at hl 3 rfl) ?_
            refine lv_iconst (pc := 236) (v := 1) hx hb dL_law_236 (by decide) ?_
            refine lv_iadd (pc := 237) hx hb dL_law_237 ?_
            obtain ⟨g31, h⟩ := z_gd h
            refine va_sld (pc := 238) hx hb hX hbl hbA wx30.2.2 g31 dL_law_238 ?_
            refine lv_aload_n (pc := 239) hx hb dL_law_239 rfl (lv_at hl 0 rfl) ?_
            refine lv_iload_n (pc := 240) hx hb dL_law_240 rfl (lv_at hl 3 rfl) ?_
            refine lv_iconst (pc := 241) (v := 2) hx hb dL_law_241 (by decide) ?_
            refine lv_iadd (pc := 242) hx hb dL_law_242 ?_
            obtain ⟨g32, h⟩ := z_gd h
            refine va_sld (pc := 243) hx hb hX hbl hbA wx30.2.2 g32 dL_law_243 ?_
            refine lv_aload_n (pc := 244) hx hb dL_law_244 rfl (lv_at hl 0 rfl) ?_
            refine lv_iload_n (pc := 245) hx hb dL_law_245 rfl (lv_at hl 3 rfl) ?_
            refine lv_iconst (pc := 246) (v := 3) hx hb dL_law_246 (by decide) ?_
            refine lv_iadd (pc := 247) hx hb dL_law_247 ?_
            obtain ⟨g33, h⟩ := z_gd h
            refine va_sld (pc := 248) hx hb hX hbl hbA wx30.2.2 g33 dL_law_248 ?_
            obtain ⟨x34, ex34, h⟩ := z_bd h
            refine z_cvI (pc := 249) (rest := [.int x30.1]) X wx30 (m_X11_tell  ex34) (z_lt zk_40 (by decide)) (z_E11 zk_40) rfl Lzw_ml_5_224 Lzw_im_5_225 Lzw_se_5_226 Lzw_in_1_12 Lzw_co_5_227 Lzd_X11_tell (by decide) rfl hl.1 rfl (Nat.le_of_ble_eq_true rfl) dL_law_249 (by decide) (fun Hx34 lx34 wx34 => ?_)
            refine lv_icmp_eq (pc := 252) (tgt := 891) hx hb dL_law_252 (by decide) (fun c35 => ?_) (fun c35 => ?_)
            · replace h := z_t c35 h
              obtain ⟨v36, ev36, h⟩ := z_lo h
              refine lv_iinc (pc := 891) (v := v36) (lv' := [(3, .int v36), (0, .ref b), (1, .ref (G.1 0)), (2, .ref (G.1 40))]) hx hb dL_law_891 hl (k := 3) rfl (by rw [ev36]; rfl) (by decide) rfl (fun ls hl => ?_)
              refine lv_goto (pc := 894) (tgt := 18) hx hb dL_law_894 (by decide) ?_
              exact ih v36 x34.2 Hx34 lx34 ls  wx34 (lv_sub hl [1, 2, 3, 0] rfl) h
            · replace h := z_f c35 h
              refine lv_iconst (pc := 255) (v := 0) hx hb dL_law_255 (by decide) ?_
              exact z_no h
          · replace h := z_f c26 h
            by_cases c37 : v3 = (3 : Int32)
            · replace h := z_t c37 h
              refine lv_tableIn (pc := 33) (off := 224) (tgt := 257) hx hb dL_law_33 (by rw [c37]; decide) (by rw [c37]; decide) (by rw [c37]; rfl) (by decide) ?_
              refine lv_aload_n (pc := 257) hx hb dL_law_257 rfl (lv_at hl 1 rfl) ?_
              refine lv_aload_n (pc := 258) hx hb dL_law_258 rfl (lv_at hl 0 rfl) ?_
              refine lv_iload_n (pc := 259) hx hb dL_law_259 rfl (lv_at hl 3 rfl) ?_
              refine lv_iconst (pc := 260) (v := 1) hx hb dL_law_260 (by decide) ?_
              refine lv_iadd (pc := 261) hx hb dL_law_261 ?_
              obtain ⟨g38, h⟩ := z_gd h
              refine va_sld (pc := 262) hx hb hX hbl hbA hw.2.2 g38 dL_law_262 ?_
              obtain ⟨x39, ex39, h⟩ := z_bd h
              refine z_cvI (pc := 263) (rest := []) X hw (m_X10_storm  ex39) (z_lt zk_0 (by decide)) (z_E10 zk_0) rfl Lzw_ml_3_4 Lzw_im_3_5 Lzw_se_3_6 Lzw_in_1_1 Lzw_co_3_7 Lzd_X10_storm (by decide) rfl hl.1 rfl (Nat.le_of_ble_eq_true rfl) dL_law_263 (by decide) (fun Hx39 lx39 wx39 => ?_)
              refine lv_aload_n (pc := 266) hx hb dL_law_266 rfl (lv_at hl 2 rfl) ?_
              refine lv_aload_n (pc := 267) hx hb dL_law_267 rfl (lv_at hl 0 rfl) ?_
              refine lv_iload_n (pc := 268) hx hb dL_law_268 rfl (lv_at hl 3 rfl) ?_
              refine lv_iconst (pc := 269) (v := 1) hx hb dL_law_269 (by decide) ?_
              refine lv_iadd (pc := 270) hx hb dL_law_270 ?_
              obtain ⟨g40, h⟩ := z_gd h
              refine va_sld (pc := 271) hx hb hX hbl hbA wx39.2.2 g40 dL_law_271 ?_
              obtain ⟨x41, ex41, h⟩ := z_bd h
              refine z_cvI (pc := 272) (rest := [.int x39.1]) X wx39 (m_X11_storm  ex41) (z_lt zk_40 (by decide)) (z_E11 zk_40) rfl Lzw_ml_5_228 Lzw_im_5_229 Lzw_se_5_230 Lzw_in_1_12 Lzw_co_5_231 Lzd_X11_storm (by decide) rfl hl.1 rfl (Nat.le_of_ble_eq_true rfl) dL_law_272 (by decide) (fun Hx41 lx41 wx41 => ?_)
              refine lv_icmp_eq (pc := 275) (tgt := 891) hx hb dL_law_275 (by decide) (fun c42 => ?_) (fun c42 => ?_)
              · replace h := z_t c42 h
                obtain ⟨v43, ev43, h⟩ := z_lo h
                refine lv_iinc (pc := 891) (v := v43) (lv' := [(3, .int v43), (0, .ref b), (1, .ref (G.1 0)), (2, .ref (G.1 40))]) hx hb dL_law_891 hl (k := 3) rfl (by rw [ev43]; rfl) (by decide) rfl (fun ls hl => ?_)
                refine lv_goto (pc := 894) (tgt := 18) hx hb dL_law_894 (by decide) ?_
                exact ih v43 x41.2 Hx41 lx41 ls  wx41 (lv_sub hl [1, 2, 3, 0] rfl) h
              · replace h := z_f c42 h
                refine lv_iconst (pc := 278) (v := 0) hx hb dL_law_278 (by decide) ?_
                exact z_no h
            · replace h := z_f c37 h
              by_cases c44 : v3 = (4 : Int32)
              · replace h := z_t c44 h
                refine lv_tableIn (pc := 33) (off := 247) (tgt := 280) hx hb dL_law_33 (by rw [c44]; decide) (by rw [c44]; decide) (by rw [c44]; rfl) (by decide) ?_
                refine lv_aload_n (pc := 280) hx hb dL_law_280 rfl (lv_at hl 1 rfl) ?_
                refine lv_aload_n (pc := 281) hx hb dL_law_281 rfl (lv_at hl 0 rfl) ?_
                refine lv_iload_n (pc := 282) hx hb dL_law_282 rfl (lv_at hl 3 rfl) ?_
                refine lv_iconst (pc := 283) (v := 1) hx hb dL_law_283 (by decide) ?_
                refine lv_iadd (pc := 284) hx hb dL_law_284 ?_
                obtain ⟨g45, h⟩ := z_gd h
                refine va_sld (pc := 285) hx hb hX hbl hbA hw.2.2 g45 dL_law_285 ?_
                refine lv_aload_n (pc := 286) hx hb dL_law_286 rfl (lv_at hl 0 rfl) ?_
                refine lv_iload_n (pc := 287) hx hb dL_law_287 rfl (lv_at hl 3 rfl) ?_
                refine lv_iconst (pc := 288) (v := 2) hx hb dL_law_288 (by decide) ?_
                refine lv_iadd (pc := 289) hx hb dL_law_289 ?_
                obtain ⟨g46, h⟩ := z_gd h
                refine va_sld (pc := 290) hx hb hX hbl hbA hw.2.2 g46 dL_law_290 ?_
                refine lv_aload_n (pc := 291) hx hb dL_law_291 rfl (lv_at hl 0 rfl) ?_
                refine lv_iload_n (pc := 292) hx hb dL_law_292 rfl (lv_at hl 3 rfl) ?_
                refine lv_iconst (pc := 293) (v := 3) hx hb dL_law_293 (by decide) ?_
                refine lv_iadd (pc := 294) hx hb dL_law_294 ?_
                obtain ⟨g47, h⟩ := z_gd h
                refine va_sld (pc := 295) hx hb hX hbl hbA hw.2.2 g47 dL_law_295 ?_
                refine lv_aload_n (pc := 296) hx hb dL_law_296 rfl (lv_at hl 0 rfl) ?_
                refine lv_iload_n (pc := 297) hx hb dL_law_297 rfl (lv_at hl 3 rfl) ?_
                refine lv_iconst (pc := 298) (v := 4) hx hb dL_law_298 (by decide) ?_
                refine lv_iadd (pc := 299) hx hb dL_law_299 ?_
                obtain ⟨g48, h⟩ := z_gd h
                refine va_sld (pc := 300) hx hb hX hbl hbA hw.2.2 g48 dL_law_300 ?_
                refine lv_if_eq (pc := 301) (tgt := 308) hx hb dL_law_301 (by decide) (fun c49 => ?_) (fun c49 => ?_)
                · replace h := z_t c49 h
                  refine lv_iconst (pc := 308) (v := 0) hx hb dL_law_308 (by decide) ?_
                  obtain ⟨x50, ex50, h⟩ := z_bd h
                  refine z_cvI (pc := 309) (rest := []) X hw (m_X10_fall  ex50) (z_lt zk_0 (by decide)) (z_E10 zk_0) rfl Lzw_ml_3_12 Lzw_im_3_13 Lzw_se_3_14 Lzw_in_1_1 Lzw_co_3_15 Lzd_X10_fall (by decide) rfl hl.1 rfl (Nat.le_of_ble_eq_true rfl) dL_law_309 (by decide) (fun Hx50 lx50 wx50 => ?_)
                  refine lv_aload_n (pc := 312) hx hb dL_law_312 rfl (lv_at hl 2 rfl) ?_
                  refine lv_aload_n (pc := 313) hx hb dL_law_313 rfl (lv_at hl 0 rfl) ?_
                  refine lv_iload_n (pc := 314) hx hb dL_law_314 rfl (lv_at hl 3 rfl) ?_
                  refine lv_iconst (pc := 315) (v := 1) hx hb dL_law_315 (by decide) ?_
                  refine lv_iadd (pc := 316) hx hb dL_law_316 ?_
                  obtain ⟨g51, h⟩ := z_gd h
                  refine va_sld (pc := 317) hx hb hX hbl hbA wx50.2.2 g51 dL_law_317 ?_
                  refine lv_aload_n (pc := 318) hx hb dL_law_318 rfl (lv_at hl 0 rfl) ?_
                  refine lv_iload_n (pc := 319) hx hb dL_law_319 rfl (lv_at hl 3 rfl) ?_
                  refine lv_iconst (pc := 320) (v := 2) hx hb dL_law_320 (by decide) ?_
                  refine lv_iadd (pc := 321) hx hb dL_law_321 ?_
                  obtain ⟨g52, h⟩ := z_gd h
                  refine va_sld (pc := 322) hx hb hX hbl hbA wx50.2.2 g52 dL_law_322 ?_
                  refine lv_aload_n (pc := 323) hx hb dL_law_323 rfl (lv_at hl 0 rfl) ?_
                  refine lv_iload_n (pc := 324) hx hb dL_law_324 rfl (lv_at hl 3 rfl) ?_
                  refine lv_iconst (pc := 325) (v := 3) hx hb dL_law_325 (by decide) ?_
                  refine lv_iadd (pc := 326) hx hb dL_law_326 ?_
                  obtain ⟨g53, h⟩ := z_gd h
                  refine va_sld (pc := 327) hx hb hX hbl hbA wx50.2.2 g53 dL_law_327 ?_
                  refine lv_aload_n (pc := 328) hx hb dL_law_328 rfl (lv_at hl 0 rfl) ?_
                  refine lv_iload_n (pc := 329) hx hb dL_law_329 rfl (lv_at hl 3 rfl) ?_
                  refine lv_iconst (pc := 330) (v := 4) hx hb dL_law_330 (by decide) ?_
                  refine lv_iadd (pc := 331) hx hb dL_law_331 ?_
                  obtain ⟨g54, h⟩ := z_gd h
                  refine va_sld (pc := 332) hx hb hX hbl hbA wx50.2.2 g54 dL_law_332 ?_
                  refine lv_if_eq (pc := 333) (tgt := 340) hx hb dL_law_333 (by decide) (fun c55 => ?_) (fun c55 => ?_)
                  · replace h := z_t c55 h
                    refine lv_iconst (pc := 340) (v := 0) hx hb dL_law_340 (by decide) ?_
                    obtain ⟨x56, ex56, h⟩ := z_bd h
                    refine z_cvI (pc := 341) (rest := [.int x50.1]) X wx50 (m_X11_fall  ex56) (z_lt zk_40 (by decide)) (z_E11 zk_40) rfl Lzw_ml_5_232 Lzw_im_5_233 Lzw_se_5_234 Lzw_in_1_12 Lzw_co_5_235 Lzd_X11_fall (by decide) rfl hl.1 rfl (Nat.le_of_ble_eq_true rfl) dL_law_341 (by decide) (fun Hx56 lx56 wx56 => ?_)
                    refine lv_icmp_eq (pc := 344) (tgt := 891) hx hb dL_law_344 (by decide) (fun c57 => ?_) (fun c57 => ?_)
                    · replace h := z_t c57 h
                      obtain ⟨v58, ev58, h⟩ := z_lo h
                      refine lv_iinc (pc := 891) (v := v58) (lv' := [(3, .int v58), (0, .ref b), (1, .ref (G.1 0)), (2, .ref (G.1 40))]) hx hb dL_law_891 hl (k := 3) rfl (by rw [ev58]; rfl) (by decide) rfl (fun ls hl => ?_)
                      refine lv_goto (pc := 894) (tgt := 18) hx hb dL_law_894 (by decide) ?_
                      exact ih v58 x56.2 Hx56 lx56 ls  wx56 (lv_sub hl [1, 2, 3, 0] rfl) h
                    · replace h := z_f c57 h
                      refine lv_iconst (pc := 347) (v := 0) hx hb dL_law_347 (by decide) ?_
                      exact z_no h
                  · replace h := z_f c55 h
                    refine lv_iconst (pc := 336) (v := 1) hx hb dL_law_336 (by decide) ?_
                    refine lv_goto (pc := 337) (tgt := 341) hx hb dL_law_337 (by decide) ?_
                    obtain ⟨x59, ex59, h⟩ := z_bd h
                    refine z_cvI (pc := 341) (rest := [.int x50.1]) X wx50 (m_X11_fall  ex59) (z_lt zk_40 (by decide)) (z_E11 zk_40) rfl Lzw_ml_5_232 Lzw_im_5_233 Lzw_se_5_234 Lzw_in_1_12 Lzw_co_5_235 Lzd_X11_fall (by decide) rfl hl.1 rfl (Nat.le_of_ble_eq_true rfl) dL_law_341 (by decide) (fun Hx59 lx59 wx59 => ?_)
                    refine lv_icmp_eq (pc := 344) (tgt := 891) hx hb dL_law_344 (by decide) (fun c60 => ?_) (fun c60 => ?_)
                    · replace h := z_t c60 h
                      obtain ⟨v61, ev61, h⟩ := z_lo h
                      refine lv_iinc (pc := 891) (v := v61) (lv' := [(3, .int v61), (0, .ref b), (1, .ref (G.1 0)), (2, .ref (G.1 40))]) hx hb dL_law_891 hl (k := 3) rfl (by rw [ev61]; rfl) (by decide) rfl (fun ls hl => ?_)
                      refine lv_goto (pc := 894) (tgt := 18) hx hb dL_law_894 (by decide) ?_
                      exact ih v61 x59.2 Hx59 lx59 ls  wx59 (lv_sub hl [1, 2, 3, 0] rfl) h
                    · replace h := z_f c60 h
                      refine lv_iconst (pc := 347) (v := 0) hx hb dL_law_347 (by decide) ?_
                      exact z_no h
                · replace h := z_f c49 h
                  refine lv_iconst (pc := 304) (v := 1) hx hb dL_law_304 (by decide) ?_
                  refine lv_goto (pc := 305) (tgt := 309) hx hb dL_law_305 (by decide) ?_
                  obtain ⟨x62, ex62, h⟩ := z_bd h
                  refine z_cvI (pc := 309) (rest := []) X hw (m_X10_fall  ex62) (z_lt zk_0 (by decide)) (z_E10 zk_0) rfl Lzw_ml_3_12 Lzw_im_3_13 Lzw_se_3_14 Lzw_in_1_1 Lzw_co_3_15 Lzd_X10_fall (by decide) rfl hl.1 rfl (Nat.le_of_ble_eq_true rfl) dL_law_309 (by decide) (fun Hx62 lx62 wx62 => ?_)
                  refine lv_aload_n (pc := 312) hx hb dL_law_312 rfl (lv_at hl 2 rfl) ?_
                  refine lv_aload_n (pc := 313) hx hb dL_law_313 rfl (lv_at hl 0 rfl) ?_
                  refine lv_iload_n (pc := 314) hx hb dL_law_314 rfl (lv_at hl 3 rfl) ?_
                  refine lv_iconst (pc := 315) (v := 1) hx hb dL_law_315 (by decide) ?_
                  refine lv_iadd (pc := 316) hx hb dL_law_316 ?_
                  obtain ⟨g63, h⟩ := z_gd h
                  refine va_sld (pc := 317) hx hb hX hbl hbA wx62.2.2 g63 dL_law_317 ?_
                  refine lv_aload_n (pc := 318) hx hb dL_law_318 rfl (lv_at hl 0 rfl) ?_
                  refine lv_iload_n (pc := 319) hx hb dL_law_319 rfl (lv_at hl 3 rfl) ?_
                  refine lv_iconst (pc := 320) (v := 2) hx hb dL_law_320 (by decide) ?_
                  refine lv_iadd (pc := 321) hx hb dL_law_321 ?_
                  obtain ⟨g64, h⟩ := z_gd h
                  refine va_sld (pc := 322) hx hb hX hbl hbA wx62.2.2 g64 dL_law_322 ?_
                  refine lv_aload_n (pc := 323) hx hb dL_law_323 rfl (lv_at hl 0 rfl) ?_
                  refine lv_iload_n (pc := 324) hx hb dL_law_324 rfl (lv_at hl 3 rfl) ?_
                  refine lv_iconst (pc := 325) (v := 3) hx hb dL_law_325 (by decide) ?_
                  refine lv_iadd (pc := 326) hx hb dL_law_326 ?_
                  obtain ⟨g65, h⟩ := z_gd h
                  refine va_sld (pc := 327) hx hb hX hbl hbA wx62.2.2 g65 dL_law_327 ?_
                  refine lv_aload_n (pc := 328) hx hb dL_law_328 rfl (lv_at hl 0 rfl) ?_
                  refine lv_iload_n (pc := 329) hx hb dL_law_329 rfl (lv_at hl 3 rfl) ?_
                  refine lv_iconst (pc := 330) (v := 4) hx hb dL_law_330 (by decide) ?_
                  refine lv_iadd (pc := 331) hx hb dL_law_331 ?_
                  obtain ⟨g66, h⟩ := z_gd h
                  refine va_sld (pc := 332) hx hb hX hbl hbA wx62.2.2 g66 dL_law_332 ?_
                  refine lv_if_eq (pc := 333) (tgt := 340) hx hb dL_law_333 (by decide) (fun c67 => ?_) (fun c67 => ?_)
                  · replace h := z_t c67 h
                    refine lv_iconst (pc := 340) (v := 0) hx hb dL_law_340 (by decide) ?_
                    obtain ⟨x68, ex68, h⟩ := z_bd h
                    refine z_cvI (pc := 341) (rest := [.int x62.1]) X wx62 (m_X11_fall  ex68) (z_lt zk_40 (by decide)) (z_E11 zk_40) rfl Lzw_ml_5_232 Lzw_im_5_233 Lzw_se_5_234 Lzw_in_1_12 Lzw_co_5_235 Lzd_X11_fall (by decide) rfl hl.1 rfl (Nat.le_of_ble_eq_true rfl) dL_law_341 (by decide) (fun Hx68 lx68 wx68 => ?_)
                    refine lv_icmp_eq (pc := 344) (tgt := 891) hx hb dL_law_344 (by decide) (fun c69 => ?_) (fun c69 => ?_)
                    · replace h := z_t c69 h
                      obtain ⟨v70, ev70, h⟩ := z_lo h
                      refine lv_iinc (pc := 891) (v := v70) (lv' := [(3, .int v70), (0, .ref b), (1, .ref (G.1 0)), (2, .ref (G.1 40))]) hx hb dL_law_891 hl (k := 3) rfl (by rw [ev70]; rfl) (by decide) rfl (fun ls hl => ?_)
                      refine lv_goto (pc := 894) (tgt := 18) hx hb dL_law_894 (by decide) ?_
                      exact ih v70 x68.2 Hx68 lx68 ls  wx68 (lv_sub hl [1, 2, 3, 0] rfl) h
                    · replace h := z_f c69 h
                      refine lv_iconst (pc := 347) (v := 0) hx hb dL_law_347 (by decide) ?_
                      exact z_no h
                  · replace h := z_f c67 h
                    refine lv_iconst (pc := 336) (v := 1) hx hb dL_law_336 (by decide) ?_
                    refine lv_goto (pc := 337) (tgt := 341) hx hb dL_law_337 (by decide) ?_
                    obtain ⟨x71, ex71, h⟩ := z_bd h
                    refine z_cvI (pc := 341) (rest := [.int x62.1]) X wx62 (m_X11_fall  ex71) (z_lt zk_40 (by decide)) (z_E11 zk_40) rfl Lzw_ml_5_232 Lzw_im_5_233 Lzw_se_5_234 Lzw_in_1_12 Lzw_co_5_235 Lzd_X11_fall (by decide) rfl hl.1 rfl (Nat.le_of_ble_eq_true rfl) dL_law_341 (by decide) (fun Hx71 lx71 wx71 => ?_)
                    refine lv_icmp_eq (pc := 344) (tgt := 891) hx hb dL_law_344 (by decide) (fun c72 => ?_) (fun c72 => ?_)
                    · replace h := z_t c72 h
                      obtain ⟨v73, ev73, h⟩ := z_lo h
                      refine lv_iinc (pc := 891) (v := v73) (lv' := [(3, .int v73), (0, .ref b), (1, .ref (G.1 0)), (2, .ref (G.1 40))]) hx hb dL_law_891 hl (k := 3) rfl (by rw [ev73]; rfl) (by decide) rfl (fun ls hl => ?_)
                      refine lv_goto (pc := 894) (tgt := 18) hx hb dL_law_894 (by decide) ?_
                      exact ih v73 x71.2 Hx71 lx71 ls  wx71 (lv_sub hl [1, 2, 3, 0] rfl) h
                    · replace h := z_f c72 h
                      refine lv_iconst (pc := 347) (v := 0) hx hb dL_law_347 (by decide) ?_
                      exact z_no h
              · replace h := z_f c44 h
                by_cases c74 : v3 = (5 : Int32)
                · replace h := z_t c74 h
                  refine lv_tableIn (pc := 33) (off := 316) (tgt := 349) hx hb dL_law_33 (by rw [c74]; decide) (by rw [c74]; decide) (by rw [c74]; rfl) (by decide) ?_
                  refine lv_aload_n (pc := 349) hx hb dL_law_349 rfl (lv_at hl 1 rfl) ?_
                  refine lv_aload_n (pc := 350) hx hb dL_law_350 rfl (lv_at hl 0 rfl) ?_
                  refine lv_iload_n (pc := 351) hx hb dL_law_351 rfl (lv_at hl 3 rfl) ?_
                  refine lv_iconst (pc := 352) (v := 1) hx hb dL_law_352 (by decide) ?_
                  refine lv_iadd (pc := 353) hx hb dL_law_353 ?_
                  obtain ⟨g75, h⟩ := z_gd h
                  refine va_sld (pc := 354) hx hb hX hbl hbA hw.2.2 g75 dL_law_354 ?_
                  refine lv_aload_n (pc := 355) hx hb dL_law_355 rfl (lv_at hl 0 rfl) ?_
                  refine lv_iload_n (pc := 356) hx hb dL_law_356 rfl (lv_at hl 3 rfl) ?_
                  refine lv_iconst (pc := 357) (v := 2) hx hb dL_law_357 (by decide) ?_
                  refine lv_iadd (pc := 358) hx hb dL_law_358 ?_
                  obtain ⟨g76, h⟩ := z_gd h
                  refine va_sld (pc := 359) hx hb hX hbl hbA hw.2.2 g76 dL_law_359 ?_
                  refine lv_aload_n (pc := 360) hx hb dL_law_360 rfl (lv_at hl 0 rfl) ?_
                  refine lv_iload_n (pc := 361) hx hb dL_law_361 rfl (lv_at hl 3 rfl) ?_
                  refine lv_iconst (pc := 362) (v := 3) hx hb dL_law_362 (by decide) ?_
                  refine lv_iadd (pc := 363) hx hb dL_law_363 ?_
                  obtain ⟨g77, h⟩ := z_gd h
                  refine va_sld (pc := 364) hx hb hX hbl hbA hw.2.2 g77 dL_law_364 ?_
                  refine lv_aload_n (pc := 365) hx hb dL_law_365 rfl (lv_at hl 0 rfl) ?_
                  refine lv_iload_n (pc := 366) hx hb dL_law_366 rfl (lv_at hl 3 rfl) ?_
                  refine lv_iconst (pc := 367) (v := 4) hx hb dL_law_367 (by decide) ?_
                  refine lv_iadd (pc := 368) hx hb dL_law_368 ?_
                  obtain ⟨g78, h⟩ := z_gd h
                  refine va_sld (pc := 369) hx hb hX hbl hbA hw.2.2 g78 dL_law_369 ?_
                  refine lv_aload_n (pc := 370) hx hb dL_law_370 rfl (lv_at hl 0 rfl) ?_
                  refine lv_iload_n (pc := 371) hx hb dL_law_371 rfl (lv_at hl 3 rfl) ?_
                  refine lv_iconst (pc := 372) (v := 5) hx hb dL_law_372 (by decide) ?_
                  refine lv_iadd (pc := 373) hx hb dL_law_373 ?_
                  obtain ⟨g79, h⟩ := z_gd h
                  refine va_sld (pc := 374) hx hb hX hbl hbA hw.2.2 g79 dL_law_374 ?_
                  obtain ⟨x80, ex80, h⟩ := z_bd h
                  refine z_cvI (pc := 375) (rest := []) X hw (m_X10_feed  ex80) (z_lt zk_0 (by decide)) (z_E10 zk_0) rfl Lzw_ml_3_20 Lzw_im_3_21 Lzw_se_3_22 Lzw_in_1_1 Lzw_co_3_23 Lzd_X10_feed (by decide) rfl hl.1 rfl (Nat.le_of_ble_eq_true rfl) dL_law_375 (by decide) (fun Hx80 lx80 wx80 => ?_)
                  refine lv_aload_n (pc := 378) hx hb dL_law_378 rfl (lv_at hl 2 rfl) ?_
                  refine lv_aload_n (pc := 379) hx hb dL_law_379 rfl (lv_at hl 0 rfl) ?_
                  refine lv_iload_n (pc := 380) hx hb dL_law_380 rfl (lv_at hl 3 rfl) ?_
                  refine lv_iconst (pc := 381) (v := 1) hx hb dL_law_381 (by decide) ?_
                  refine lv_iadd (pc := 382) hx hb dL_law_382 ?_
                  obtain ⟨g81, h⟩ := z_gd h
                  refine va_sld (pc := 383) hx hb hX hbl hbA wx80.2.2 g81 dL_law_383 ?_
                  refine lv_aload_n (pc := 384) hx hb dL_law_384 rfl (lv_at hl 0 rfl) ?_
                  refine lv_iload_n (pc := 385) hx hb dL_law_385 rfl (lv_at hl 3 rfl) ?_
                  refine lv_iconst (pc := 386) (v := 2) hx hb dL_law_386 (by decide) ?_
                  refine lv_iadd (pc := 387) hx hb dL_law_387 ?_
                  obtain ⟨g82, h⟩ := z_gd h
                  refine va_sld (pc := 388) hx hb hX hbl hbA wx80.2.2 g82 dL_law_388 ?_
                  refine lv_aload_n (pc := 389) hx hb dL_law_389 rfl (lv_at hl 0 rfl) ?_
                  refine lv_iload_n (pc := 390) hx hb dL_law_390 rfl (lv_at hl 3 rfl) ?_
                  refine lv_iconst (pc := 391) (v := 3) hx hb dL_law_391 (by decide) ?_
                  refine lv_iadd (pc := 392) hx hb dL_law_392 ?_
                  obtain ⟨g83, h⟩ := z_gd h
                  refine va_sld (pc := 393) hx hb hX hbl hbA wx80.2.2 g83 dL_law_393 ?_
                  refine lv_aload_n (pc := 394) hx hb dL_law_394 rfl (lv_at hl 0 rfl) ?_
                  refine lv_iload_n (pc := 395) hx hb dL_law_395 rfl (lv_at hl 3 rfl) ?_
                  refine lv_iconst (pc := 396) (v := 4) hx hb dL_law_396 (by decide) ?_
                  refine lv_iadd (pc := 397) hx hb dL_law_397 ?_
                  obtain ⟨g84, h⟩ := z_gd h
                  refine va_sld (pc := 398) hx hb hX hbl hbA wx80.2.2 g84 dL_law_398 ?_
                  refine lv_aload_n (pc := 399) hx hb dL_law_399 rfl (lv_at hl 0 rfl) ?_
                  refine lv_iload_n (pc := 400) hx hb dL_law_400 rfl (lv_at hl 3 rfl) ?_
                  refine lv_iconst (pc := 401) (v := 5) hx hb dL_law_401 (by decide) ?_
                  refine lv_iadd (pc := 402) hx hb dL_law_402 ?_
                  obtain ⟨g85, h⟩ := z_gd h
                  refine va_sld (pc := 403) hx hb hX hbl hbA wx80.2.2 g85 dL_law_403 ?_
                  obtain ⟨x86, ex86, h⟩ := z_bd h
                  refine z_cvI (pc := 404) (rest := [.int x80.1]) X wx80 (m_X11_feed  ex86) (z_lt zk_40 (by decide)) (z_E11 zk_40) rfl Lzw_ml_6_4 Lzw_im_6_5 Lzw_se_6_6 Lzw_in_1_12 Lzw_co_6_7 Lzd_X11_feed (by decide) rfl hl.1 rfl (Nat.le_of_ble_eq_true rfl) dL_law_404 (by decide) (fun Hx86 lx86 wx86 => ?_)
                  refine lv_icmp_eq (pc := 407) (tgt := 891) hx hb dL_law_407 (by decide) (fun c87 => ?_) (fun c87 => ?_)
                  · replace h := z_t c87 h
                    obtain ⟨v88, ev88, h⟩ := z_lo h
                    refine lv_iinc (pc := 891) (v := v88) (lv' := [(3, .int v88), (0, .ref b), (1, .ref (G.1 0)), (2, .ref (G.1 40))]) hx hb dL_law_891 hl (k := 3) rfl (by rw [ev88]; rfl) (by decide) rfl (fun ls hl => ?_)
                    refine lv_goto (pc := 894) (tgt := 18) hx hb dL_law_894 (by decide) ?_
                    exact ih v88 x86.2 Hx86 lx86 ls  wx86 (lv_sub hl [1, 2, 3, 0] rfl) h
                  · replace h := z_f c87 h
                    refine lv_iconst (pc := 410) (v := 0) hx hb dL_law_410 (by decide) ?_
                    exact z_no h
                · replace h := z_f c74 h
                  by_cases c89 : v3 = (6 : Int32)
                  · replace h := z_t c89 h
                    refine lv_tableIn (pc := 33) (off := 379) (tgt := 412) hx hb dL_law_33 (by rw [c89]; decide) (by rw [c89]; decide) (by rw [c89]; rfl) (by decide) ?_
                    refine lv_aload_n (pc := 412) hx hb dL_law_412 rfl (lv_at hl 1 rfl) ?_
                    refine lv_aload_n (pc := 413) hx hb dL_law_413 rfl (lv_at hl 0 rfl) ?_
                    refine lv_iload_n (pc := 414) hx hb dL_law_414 rfl (lv_at hl 3 rfl) ?_
                    refine lv_iconst (pc := 415) (v := 1) hx hb dL_law_415 (by decide) ?_
                    refine lv_iadd (pc := 416) hx hb dL_law_416 ?_
                    obtain ⟨g90, h⟩ := z_gd h
                    refine va_sld (pc := 417) hx hb hX hbl hbA hw.2.2 g90 dL_law_417 ?_
                    obtain ⟨x91, ex91, h⟩ := z_bd h
                    refine z_cvI (pc := 418) (rest := []) X hw (m_X10_end  ex91) (z_lt zk_0 (by decide)) (z_E10 zk_0) rfl Lzw_ml_3_32 Lzw_im_3_33 Lzw_se_3_34 Lzw_in_1_1 Lzw_co_3_35 Lzd_X10_end (by decide) rfl hl.1 rfl (Nat.le_of_ble_eq_true rfl) dL_law_418 (by decide) (fun Hx91 lx91 wx91 => ?_)
                    refine lv_aload_n (pc := 421) hx hb dL_law_421 rfl (lv_at hl 2 rfl) ?_
                    refine lv_aload_n (pc := 422) hx hb dL_law_422 rfl (lv_at hl 0 rfl) ?_
                    refine lv_iload_n (pc := 423) hx hb dL_law_423 rfl (lv_at hl 3 rfl) ?_
                    refine lv_iconst (pc := 424) (v := 1) hx hb dL_law_424 (by decide) ?_
                    refine lv_iadd (pc := 425) hx hb dL_law_425 ?_
                    obtain ⟨g92, h⟩ := z_gd h
                    refine va_sld (pc := 426) hx hb hX hbl hbA wx91.2.2 g92 dL_law_426 ?_
                    obtain ⟨x93, ex93, h⟩ := z_bd h
                    refine z_cvI (pc := 427) (rest := [.int x91.1]) X wx91 (m_X11_end  ex93) (z_lt zk_40 (by decide)) (z_E11 zk_40) rfl Lzw_ml_6_8 Lzw_im_6_9 Lzw_se_6_10 Lzw_in_1_12 Lzw_co_6_11 Lzd_X11_end (by decide) rfl hl.1 rfl (Nat.le_of_ble_eq_true rfl) dL_law_427 (by decide) (fun Hx93 lx93 wx93 => ?_)
                    refine lv_icmp_eq (pc := 430) (tgt := 891) hx hb dL_law_430 (by decide) (fun c94 => ?_) (fun c94 => ?_)
                    · replace h := z_t c94 h
                      obtain ⟨v95, ev95, h⟩ := z_lo h
                      refine lv_iinc (pc := 891) (v := v95) (lv' := [(3, .int v95), (0, .ref b), (1, .ref (G.1 0)), (2, .ref (G.1 40))]) hx hb dL_law_891 hl (k := 3) rfl (by rw [ev95]; rfl) (by decide) rfl (fun ls hl => ?_)
                      refine lv_goto (pc := 894) (tgt := 18) hx hb dL_law_894 (by decide) ?_
                      exact ih v95 x93.2 Hx93 lx93 ls  wx93 (lv_sub hl [1, 2, 3, 0] rfl) h
                    · replace h := z_f c94 h
                      refine lv_iconst (pc := 433) (v := 0) hx hb dL_law_433 (by decide) ?_
                      exact z_no h
                  · replace h := z_f c89 h
                    by_cases c96 : v3 = (7 : Int32)
                    · replace h := z_t c96 h
                      refine lv_tableIn (pc := 33) (off := 402) (tgt := 435) hx hb dL_law_33 (by rw [c96]; decide) (by rw [c96]; decide) (by rw [c96]; rfl) (by decide) ?_
                      refine lv_aload_n (pc := 435) hx hb dL_law_435 rfl (lv_at hl 1 rfl) ?_
                      obtain ⟨x97, ex97, h⟩ := z_bd h
                      refine z_cvI (pc := 436) (rest := []) X hw (m_X10_text  ex97) (z_lt zk_0 (by decide)) (z_E10 zk_0) rfl Lzw_ml_3_36 Lzw_im_3_37 Lzw_se_3_38 Lzw_in_1_1 Lzw_co_3_39 Lzd_X10_text (by decide) rfl hl.1 rfl (Nat.le_of_ble_eq_true rfl) dL_law_436 (by decide) (fun Hx97 lx97 wx97 => ?_)
                      refine lv_aload_n (pc := 439) hx hb dL_law_439 rfl (lv_at hl 2 rfl) ?_
                      obtain ⟨x98, ex98, h⟩ := z_bd h
                      refine z_cvI (pc := 440) (rest := [.int x97.1]) X wx97 (m_X11_text  ex98) (z_lt zk_40 (by decide)) (z_E11 zk_40) rfl Lzw_ml_6_12 Lzw_im_6_13 Lzw_se_6_14 Lzw_in_1_12 Lzw_co_6_15 Lzd_X11_text (by decide) rfl hl.1 rfl (Nat.le_of_ble_eq_true rfl) dL_law_440 (by decide) (fun Hx98 lx98 wx98 => ?_)
                      refine lv_icmp_eq (pc := 443) (tgt := 891) hx hb dL_law_443 (by decide) (fun c99 => ?_) (fun c99 => ?_)
                      · replace h := z_t c99 h
                        obtain ⟨v100, ev100, h⟩ := z_lo h
                        refine lv_iinc (pc := 891) (v := v100) (lv' := [(3, .int v100), (0, .ref b), (1, .ref (G.1 0)), (2, .ref (G.1 40))]) hx hb dL_law_891 hl (k := 3) rfl (by rw [ev100]; rfl) (by decide) rfl (fun ls hl => ?_)
                        refine lv_goto (pc := 894) (tgt := 18) hx hb dL_law_894 (by decide) ?_
                        exact ih v100 x98.2 Hx98 lx98 ls  wx98 (lv_sub hl [1, 2, 3, 0] rfl) h
                      · replace h := z_f c99 h
                        refine lv_iconst (pc := 446) (v := 0) hx hb dL_law_446 (by decide) ?_
                        exact z_no h
                    · replace h := z_f c96 h
                      by_cases c101 : v3 = (8 : Int32)
                      · replace h := z_t c101 h
                        refine lv_tableIn (pc := 33) (off := 415) (tgt := 448) hx hb dL_law_33 (by rw [c101]; decide) (by rw [c101]; decide) (by rw [c101]; rfl) (by decide) ?_
                        refine lv_aload_n (pc := 448) hx hb dL_law_448 rfl (lv_at hl 1 rfl) ?_
                        refine lv_aload_n (pc := 449) hx hb dL_law_449 rfl (lv_at hl 0 rfl) ?_
                        refine lv_iload_n (pc := 450) hx hb dL_law_450 rfl (lv_at hl 3 rfl) ?_
                        refine lv_iconst (pc := 451) (v := 1) hx hb dL_law_451 (by decide) ?_
                        refine lv_iadd (pc := 452) hx hb dL_law_452 ?_
                        obtain ⟨g102, h⟩ := z_gd h
                        refine va_sld (pc := 453) hx hb hX hbl hbA hw.2.2 g102 dL_law_453 ?_
                        obtain ⟨x103, ex103, h⟩ := z_bd h
                        refine z_cvI (pc := 454) (rest := []) X hw (m_X10_fault  ex103) (z_lt zk_0 (by decide)) (z_E10 zk_0) rfl Lzw_ml_4_14 Lzw_im_4_15 Lzw_se_4_16 Lzw_in_1_1 Lzw_co_4_17 Lzd_X10_fault (by decide) rfl hl.1 rfl (Nat.le_of_ble_eq_true rfl) dL_law_454 (by decide) (fun Hx103 lx103 wx103 => ?_)
                        refine lv_aload_n (pc := 457) hx hb dL_law_457 rfl (lv_at hl 2 rfl) ?_
                        refine lv_aload_n (pc := 458) hx hb dL_law_458 rfl (lv_at hl 0 rfl) ?_
                        refine lv_iload_n (pc := 459) hx hb dL_law_459 rfl (lv_at hl 3 rfl) ?_
                        refine lv_iconst (pc := 460) (v := 1) hx hb dL_law_460 (by decide) ?_
                        refine lv_iadd (pc := 461) hx hb dL_law_461 ?_
                        obtain ⟨g104, h⟩ := z_gd h
                        refine va_sld (pc := 462) hx hb hX hbl hbA wx103.2.2 g104 dL_law_462 ?_
                        obtain ⟨x105, ex105, h⟩ := z_bd h
                        refine z_cvI (pc := 463) (rest := [.int x103.1]) X wx103 (m_X11_fault  ex105) (z_lt zk_40 (by decide)) (z_E11 zk_40) rfl Lzw_ml_6_101 Lzw_im_6_102 Lzw_se_6_103 Lzw_in_1_12 Lzw_co_6_104 Lzd_X11_fault (by decide) rfl hl.1 rfl (Nat.le_of_ble_eq_true rfl) dL_law_463 (by decide) (fun Hx105 lx105 wx105 => ?_)
                        refine lv_icmp_eq (pc := 466) (tgt := 891) hx hb dL_law_466 (by decide) (fun c106 => ?_) (fun c106 => ?_)
                        · replace h := z_t c106 h
                          obtain ⟨v107, ev107, h⟩ := z_lo h
                          refine lv_iinc (pc := 891) (v := v107) (lv' := [(3, .int v107), (0, .ref b), (1, .ref (G.1 0)), (2, .ref (G.1 40))]) hx hb dL_law_891 hl (k := 3) rfl (by rw [ev107]; rfl) (by decide) rfl (fun ls hl => ?_)
                          refine lv_goto (pc := 894) (tgt := 18) hx hb dL_law_894 (by decide) ?_
                          exact ih v107 x105.2 Hx105 lx105 ls  wx105 (lv_sub hl [1, 2, 3, 0] rfl) h
                        · replace h := z_f c106 h
                          refine lv_iconst (pc := 469) (v := 0) hx hb dL_law_469 (by decide) ?_
                          exact z_no h
                      · replace h := z_f c101 h
                        by_cases c108 : v3 = (9 : Int32)
                        · replace h := z_t c108 h
                          refine lv_tableIn (pc := 33) (off := 438) (tgt := 471) hx hb dL_law_33 (by rw [c108]; decide) (by rw [c108]; decide) (by rw [c108]; rfl) (by decide) ?_
                          refine lv_aload_n (pc := 471) hx hb dL_law_471 rfl (lv_at hl 1 rfl) ?_
                          refine lv_aload_n (pc := 472) hx hb dL_law_472 rfl (lv_at hl 0 rfl) ?_
                          refine lv_iload_n (pc := 473) hx hb dL_law_473 rfl (lv_at hl 3 rfl) ?_
                          refine lv_iconst (pc := 474) (v := 1) hx hb dL_law_474 (by decide) ?_
                          refine lv_iadd (pc := 475) hx hb dL_law_475 ?_
                          obtain ⟨g109, h⟩ := z_gd h
                          refine va_sld (pc := 476) hx hb hX hbl hbA hw.2.2 g109 dL_law_476 ?_
                          obtain ⟨x110, ex110, h⟩ := z_bd h
                          refine z_cvI (pc := 477) (rest := []) X hw (m_X10_comes  ex110) (z_lt zk_0 (by decide)) (z_E10 zk_0) rfl Lzw_ml_4_18 Lzw_im_4_19 Lzw_se_4_20 Lzw_in_1_1 Lzw_co_4_21 Lzd_X10_comes (by decide) rfl hl.1 rfl (Nat.le_of_ble_eq_true rfl) dL_law_477 (by decide) (fun Hx110 lx110 wx110 => ?_)
                          refine lv_aload_n (pc := 480) hx hb dL_law_480 rfl (lv_at hl 2 rfl) ?_
                          refine lv_aload_n (pc := 481) hx hb dL_law_481 rfl (lv_at hl 0 rfl) ?_
                          refine lv_iload_n (pc := 482) hx hb dL_law_482 rfl (lv_at hl 3 rfl) ?_
                          refine lv_iconst (pc := 483) (v := 1) hx hb dL_law_483 (by decide) ?_
                          refine lv_iadd (pc := 484) hx hb dL_law_484 ?_
                          obtain ⟨g111, h⟩ := z_gd h
                          refine va_sld (pc := 485) hx hb hX hbl hbA wx110.2.2 g111 dL_law_485 ?_
                          obtain ⟨x112, ex112, h⟩ := z_bd h
                          refine z_cvI (pc := 486) (rest := [.int x110.1]) X wx110 (m_X11_comes  ex112) (z_lt zk_40 (by decide)) (z_E11 zk_40) rfl Lzw_ml_6_105 Lzw_im_6_106 Lzw_se_6_107 Lzw_in_1_12 Lzw_co_6_108 Lzd_X11_comes (by decide) rfl hl.1 rfl (Nat.le_of_ble_eq_true rfl) dL_law_486 (by decide) (fun Hx112 lx112 wx112 => ?_)
                          refine lv_icmp_eq (pc := 489) (tgt := 891) hx hb dL_law_489 (by decide) (fun c113 => ?_) (fun c113 => ?_)
                          · replace h := z_t c113 h
                            obtain ⟨v114, ev114, h⟩ := z_lo h
                            refine lv_iinc (pc := 891) (v := v114) (lv' := [(3, .int v114), (0, .ref b), (1, .ref (G.1 0)), (2, .ref (G.1 40))]) hx hb dL_law_891 hl (k := 3) rfl (by rw [ev114]; rfl) (by decide) rfl (fun ls hl => ?_)
                            refine lv_goto (pc := 894) (tgt := 18) hx hb dL_law_894 (by decide) ?_
                            exact ih v114 x112.2 Hx112 lx112 ls  wx112 (lv_sub hl [1, 2, 3, 0] rfl) h
                          · replace h := z_f c113 h
                            refine lv_iconst (pc := 492) (v := 0) hx hb dL_law_492 (by decide) ?_
                            exact z_no h
                        · replace h := z_f c108 h
                          by_cases c115 : v3 = (10 : Int32)
                          · replace h := z_t c115 h
                            refine lv_tableIn (pc := 33) (off := 461) (tgt := 494) hx hb dL_law_33 (by rw [c115]; decide) (by rw [c115]; decide) (by rw [c115]; rfl) (by decide) ?_
                            refine lv_aload_n (pc := 494) hx hb dL_law_494 rfl (lv_at hl 1 rfl) ?_
                            refine lv_aload_n (pc := 495) hx hb dL_law_495 rfl (lv_at hl 0 rfl) ?_
                            refine lv_iload_n (pc := 496) hx hb dL_law_496 rfl (lv_at hl 3 rfl) ?_
                            refine lv_iconst (pc := 497) (v := 1) hx hb dL_law_497 (by decide) ?_
                            refine lv_iadd (pc := 498) hx hb dL_law_498 ?_
                            obtain ⟨g116, h⟩ := z_gd h
                            refine va_sld (pc := 499) hx hb hX hbl hbA hw.2.2 g116 dL_law_499 ?_
                            refine lv_aload_n (pc := 500) hx hb dL_law_500 rfl (lv_at hl 0 rfl) ?_
                            refine lv_iload_n (pc := 501) hx hb dL_law_501 rfl (lv_at hl 3 rfl) ?_
                            refine lv_iconst (pc := 502) (v := 2) hx hb dL_law_502 (by decide) ?_
                            refine lv_iadd (pc := 503) hx hb dL_law_503 ?_
                            obtain ⟨g117, h⟩ := z_gd h
                            refine va_sld (pc := 504) hx hb hX hbl hbA hw.2.2 g117 dL_law_504 ?_
                            obtain ⟨x118, ex118, h⟩ := z_bd h
                            refine z_cvI (pc := 505) (rest := []) X hw (m_X10_of  ex118) (z_lt zk_0 (by decide)) (z_E10 zk_0) rfl Lzw_ml_4_95 Lzw_im_4_96 Lzw_se_4_97 Lzw_in_1_1 Lzw_co_4_98 Lzd_X10_of (by decide) rfl hl.1 rfl (Nat.le_of_ble_eq_true rfl) dL_law_505 (by decide) (fun Hx118 lx118 wx118 => ?_)
                            refine lv_aload_n (pc := 508) hx hb dL_law_508 rfl (lv_at hl 2 rfl) ?_
                            refine lv_aload_n (pc := 509) hx hb dL_law_509 rfl (lv_at hl 0 rfl) ?_
                            refine lv_iload_n (pc := 510) hx hb dL_law_510 rfl (lv_at hl 3 rfl) ?_
                            refine lv_iconst (pc := 511) (v := 1) hx hb dL_law_511 (by decide) ?_
                            refine lv_iadd (pc := 512) hx hb dL_law_512 ?_
                            obtain ⟨g119, h⟩ := z_gd h
                            refine va_sld (pc := 513) hx hb hX hbl hbA wx118.2.2 g119 dL_law_513 ?_
                            refine lv_aload_n (pc := 514) hx hb dL_law_514 rfl (lv_at hl 0 rfl) ?_
                            refine lv_iload_n (pc := 515) hx hb dL_law_515 rfl (lv_at hl 3 rfl) ?_
                            refine lv_iconst (pc := 516) (v := 2) hx hb dL_law_516 (by decide) ?_
                            refine lv_iadd (pc := 517) hx hb dL_law_517 ?_
                            obtain ⟨g120, h⟩ := z_gd h
                            refine va_sld (pc := 518) hx hb hX hbl hbA wx118.2.2 g120 dL_law_518 ?_
                            obtain ⟨x121, ex121, h⟩ := z_bd h
                            refine z_cvI (pc := 519) (rest := [.int x118.1]) X wx118 (m_X11_of  ex121) (z_lt zk_40 (by decide)) (z_E11 zk_40) rfl Lzw_ml_6_154 Lzw_im_6_155 Lzw_se_6_156 Lzw_in_1_12 Lzw_co_6_157 Lzd_X11_of (by decide) rfl hl.1 rfl (Nat.le_of_ble_eq_true rfl) dL_law_519 (by decide) (fun Hx121 lx121 wx121 => ?_)
                            refine lv_icmp_eq (pc := 522) (tgt := 891) hx hb dL_law_522 (by decide) (fun c122 => ?_) (fun c122 => ?_)
                            · replace h := z_t c122 h
                              obtain ⟨v123, ev123, h⟩ := z_lo h
                              refine lv_iinc (pc := 891) (v := v123) (lv' := [(3, .int v123), (0, .ref b), (1, .ref (G.1 0)), (2, .ref (G.1 40))]) hx hb dL_law_891 hl (k := 3) rfl (by rw [ev123]; rfl) (by decide) rfl (fun ls hl => ?_)
                              refine lv_goto (pc := 894) (tgt := 18) hx hb dL_law_894 (by decide) ?_
                              exact ih v123 x121.2 Hx121 lx121 ls  wx121 (lv_sub hl [1, 2, 3, 0] rfl) h
                            · replace h := z_f c122 h
                              refine lv_iconst (pc := 525) (v := 0) hx hb dL_law_525 (by decide) ?_
                              exact z_no h
                          · replace h := z_f c115 h
                            by_cases c124 : v3 = (11 : Int32)
                            · replace h := z_t c124 h
                              refine lv_tableIn (pc := 33) (off := 494) (tgt := 527) hx hb dL_law_33 (by rw [c124]; decide) (by rw [c124]; decide) (by rw [c124]; rfl) (by decide) ?_
                              refine lv_aload_n (pc := 527) hx hb dL_law_527 rfl (lv_at hl 1 rfl) ?_
                              refine lv_aload_n (pc := 528) hx hb dL_law_528 rfl (lv_at hl 0 rfl) ?_
                              refine lv_iload_n (pc := 529) hx hb dL_law_529 rfl (lv_at hl 3 rfl) ?_
                              refine lv_iconst (pc := 530) (v := 1) hx hb dL_law_530 (by decide) ?_
                              refine lv_iadd (pc := 531) hx hb dL_law_531 ?_
                              obtain ⟨g125, h⟩ := z_gd h
                              refine va_sld (pc := 532) hx hb hX hbl hbA hw.2.2 g125 dL_law_532 ?_
                              refine lv_aload_n (pc := 533) hx hb dL_law_533 rfl (lv_at hl 0 rfl) ?_
                              refine lv_iload_n (pc := 534) hx hb dL_law_534 rfl (lv_at hl 3 rfl) ?_
                              refine lv_iconst (pc := 535) (v := 2) hx hb dL_law_535 (by decide) ?_
                              refine lv_iadd (pc := 536) hx hb dL_law_536 ?_
                              obtain ⟨g126, h⟩ := z_gd h
                              refine va_sld (pc := 537) hx hb hX hbl hbA hw.2.2 g126 dL_law_537 ?_
                              refine lv_aload_n (pc := 538) hx hb dL_law_538 rfl (lv_at hl 0 rfl) ?_
                              refine lv_iload_n (pc := 539) hx hb dL_law_539 rfl (lv_at hl 3 rfl) ?_
                              refine lv_iconst (pc := 540) (v := 3) hx hb dL_law_540 (by decide) ?_
                              refine lv_iadd (pc := 541) hx hb dL_law_541 ?_
                              obtain ⟨g127, h⟩ := z_gd h
                              refine va_sld (pc := 542) hx hb hX hbl hbA hw.2.2 g127 dL_law_542 ?_
                              obtain ⟨x128, ex128, h⟩ := z_bd h
                              refine z_cvI (pc := 543) (rest := []) X hw (m_X10_hour  ex128) (z_lt zk_0 (by decide)) (z_E10 zk_0) rfl Lzw_ml_4_105 Lzw_im_4_106 Lzw_se_4_107 Lzw_in_1_1 Lzw_co_4_108 Lzd_X10_hour (by decide) rfl hl.1 rfl (Nat.le_of_ble_eq_true rfl) dL_law_543 (by decide) (fun Hx128 lx128 wx128 => ?_)
                              refine lv_aload_n (pc := 546) hx hb dL_law_546 rfl (lv_at hl 2 rfl) ?_
                              refine lv_aload_n (pc := 547) hx hb dL_law_547 rfl (lv_at hl 0 rfl) ?_
                              refine lv_iload_n (pc := 548) hx hb dL_law_548 rfl (lv_at hl 3 rfl) ?_
                              refine lv_iconst (pc := 549) (v := 1) hx hb dL_law_549 (by decide) ?_
                              refine lv_iadd (pc := 550) hx hb dL_law_550 ?_
                              obtain ⟨g129, h⟩ := z_gd h
                              refine va_sld (pc := 551) hx hb hX hbl hbA wx128.2.2 g129 dL_law_551 ?_
                              refine lv_aload_n (pc := 552) hx hb dL_law_552 rfl (lv_at hl 0 rfl) ?_
                              refine lv_iload_n (pc := 553) hx hb dL_law_553 rfl (lv_at hl 3 rfl) ?_
                              refine lv_iconst (pc := 554) (v := 2) hx hb dL_law_554 (by decide) ?_
                              refine lv_iadd (pc := 555) hx hb dL_law_555 ?_
                              obtain ⟨g130, h⟩ := z_gd h
                              refine va_sld (pc := 556) hx hb hX hbl hbA wx128.2.2 g130 dL_law_556 ?_
                              refine lv_aload_n (pc := 557) hx hb dL_law_557 rfl (lv_at hl 0 rfl) ?_
                              refine lv_iload_n (pc := 558) hx hb dL_law_558 rfl (lv_at hl 3 rfl) ?_
                              refine lv_iconst (pc := 559) (v := 3) hx hb dL_law_559 (by decide) ?_
                              refine lv_iadd (pc := 560) hx hb dL_law_560 ?_
                              obtain ⟨g131, h⟩ := z_gd h
                              refine va_sld (pc := 561) hx hb hX hbl hbA wx128.2.2 g131 dL_law_561 ?_
                              obtain ⟨x132, ex132, h⟩ := z_bd h
                              refine z_cvI (pc := 562) (rest := [.int x128.1]) X wx128 (m_X11_hour  ex132) (z_lt zk_40 (by decide)) (z_E11 zk_40) rfl Lzw_ml_6_159 Lzw_im_6_160 Lzw_se_6_161 Lzw_in_1_12 Lzw_co_6_162 Lzd_X11_hour (by decide) rfl hl.1 rfl (Nat.le_of_ble_eq_true rfl) dL_law_562 (by decide) (fun Hx132 lx132 wx132 => ?_)
                              refine lv_icmp_eq (pc := 565) (tgt := 891) hx hb dL_law_565 (by decide) (fun c133 => ?_) (fun c133 => ?_)
                              · replace h := z_t c133 h
                                obtain ⟨v134, ev134, h⟩ := z_lo h
                                refine lv_iinc (pc := 891) (v := v134) (lv' := [(3, .int v134), (0, .ref b), (1, .ref (G.1 0)), (2, .ref (G.1 40))]) hx hb dL_law_891 hl (k := 3) rfl (by rw [ev134]; rfl) (by decide) rfl (fun ls hl => ?_)
                                refine lv_goto (pc := 894) (tgt := 18) hx hb dL_law_894 (by decide) ?_
                                exact ih v134 x132.2 Hx132 lx132 ls  wx132 (lv_sub hl [1, 2, 3, 0] rfl) h
                              · replace h := z_f c133 h
                                refine lv_iconst (pc := 568) (v := 0) hx hb dL_law_568 (by decide) ?_
                                exact z_no h
                            · replace h := z_f c124 h
                              by_cases c135 : v3 = (12 : Int32)
                              · replace h := z_t c135 h
                                refine lv_tableIn (pc := 33) (off := 537) (tgt := 570) hx hb dL_law_33 (by rw [c135]; decide) (by rw [c135]; decide) (by rw [c135]; rfl) (by decide) ?_
                                refine lv_aload_n (pc := 570) hx hb dL_law_570 rfl (lv_at hl 1 rfl) ?_
                                refine lv_aload_n (pc := 571) hx hb dL_law_571 rfl (lv_at hl 0 rfl) ?_
                                refine lv_iload_n (pc := 572) hx hb dL_law_572 rfl (lv_at hl 3 rfl) ?_
                                refine lv_iconst (pc := 573) (v := 1) hx hb dL_law_573 (by decide) ?_
                                refine lv_iadd (pc := 574) hx hb dL_law_574 ?_
                                obtain ⟨g136, h⟩ := z_gd h
                                refine va_sld (pc := 575) hx hb hX hbl hbA hw.2.2 g136 dL_law_575 ?_
                                refine lv_aload_n (pc := 576) hx hb dL_law_576 rfl (lv_at hl 0 rfl) ?_
                                refine lv_iload_n (pc := 577) hx hb dL_law_577 rfl (lv_at hl 3 rfl) ?_
                                refine lv_iconst (pc := 578) (v := 2) hx hb dL_law_578 (by decide) ?_
                                refine lv_iadd (pc := 579) hx hb dL_law_579 ?_
                                obtain ⟨g137, h⟩ := z_gd h
                                refine va_sld (pc := 580) hx hb hX hbl hbA hw.2.2 g137 dL_law_580 ?_
                                refine lv_aload_n (pc := 581) hx hb dL_law_581 rfl (lv_at hl 0 rfl) ?_
                                refine lv_iload_n (pc := 582) hx hb dL_law_582 rfl (lv_at hl 3 rfl) ?_
                                refine lv_iconst (pc := 583) (v := 3) hx hb dL_law_583 (by decide) ?_
                                refine lv_iadd (pc := 584) hx hb dL_law_584 ?_
                                obtain ⟨g138, h⟩ := z_gd h
                                refine va_sld (pc := 585) hx hb hX hbl hbA hw.2.2 g138 dL_law_585 ?_
                                refine lv_aload_n (pc := 586) hx hb dL_law_586 rfl (lv_at hl 0 rfl) ?_
                                refine lv_iload_n (pc := 587) hx hb dL_law_587 rfl (lv_at hl 3 rfl) ?_
                                refine lv_iconst (pc := 588) (v := 4) hx hb dL_law_588 (by decide) ?_
                                refine lv_iadd (pc := 589) hx hb dL_law_589 ?_
                                obtain ⟨g139, h⟩ := z_gd h
                                refine va_sld (pc := 590) hx hb hX hbl hbA hw.2.2 g139 dL_law_590 ?_
                                obtain ⟨x140, ex140, h⟩ := z_bd h
                                refine z_cvJ (pc := 591) (rest := []) X hw (m_X10_blame  ex140) (z_lt zk_0 (by decide)) (z_E10 zk_0) rfl Lzw_ml_4_113 Lzw_im_4_114 Lzw_se_4_115 Lzw_in_1_1 Lzw_co_4_116 Lzd_X10_blame (by decide) rfl hl.1 rfl (Nat.le_of_ble_eq_true rfl) dL_law_591 (by decide) (fun Hx140 lx140 wx140 => ?_)
                                refine lv_aload_n (pc := 594) hx hb dL_law_594 rfl (lv_at hl 2 rfl) ?_
                                refine lv_aload_n (pc := 595) hx hb dL_law_595 rfl (lv_at hl 0 rfl) ?_
                                refine lv_iload_n (pc := 596) hx hb dL_law_596 rfl (lv_at hl 3 rfl) ?_
                                refine lv_iconst (pc := 597) (v := 1) hx hb dL_law_597 (by decide) ?_
                                refine lv_iadd (pc := 598) hx hb dL_law_598 ?_
                                obtain ⟨g141, h⟩ := z_gd h
                                refine va_sld (pc := 599) hx hb hX hbl hbA wx140.2.2 g141 dL_law_599 ?_
                                refine lv_aload_n (pc := 600) hx hb dL_law_600 rfl (lv_at hl 0 rfl) ?_
                                refine lv_iload_n (pc := 601) hx hb dL_law_601 rfl (lv_at hl 3 rfl) ?_
                                refine lv_iconst (pc := 602) (v := 2) hx hb dL_law_602 (by decide) ?_
                                refine lv_iadd (pc := 603) hx hb dL_law_603 ?_
                                obtain ⟨g142, h⟩ := z_gd h
                                refine va_sld (pc := 604) hx hb hX hbl hbA wx140.2.2 g142 dL_law_604 ?_
                                refine lv_aload_n (pc := 605) hx hb dL_law_605 rfl (lv_at hl 0 rfl) ?_
                                refine lv_iload_n (pc := 606) hx hb dL_law_606 rfl (lv_at hl 3 rfl) ?_
                                refine lv_iconst (pc := 607) (v := 3) hx hb dL_law_607 (by decide) ?_
                                refine lv_iadd (pc := 608) hx hb dL_law_608 ?_
                                obtain ⟨g143, h⟩ := z_gd h
                                refine va_sld (pc := 609) hx hb hX hbl hbA wx140.2.2 g143 dL_law_609 ?_
                                refine lv_aload_n (pc := 610) hx hb dL_law_610 rfl (lv_at hl 0 rfl) ?_
                                refine lv_iload_n (pc := 611) hx hb dL_law_611 rfl (lv_at hl 3 rfl) ?_
                                refine lv_iconst (pc := 612) (v := 4) hx hb dL_law_612 (by decide) ?_
                                refine lv_iadd (pc := 613) hx hb dL_law_613 ?_
                                obtain ⟨g144, h⟩ := z_gd h
                                refine va_sld (pc := 614) hx hb hX hbl hbA wx140.2.2 g144 dL_law_614 ?_
                                obtain ⟨x145, ex145, h⟩ := z_bd h
                                refine z_cvJ (pc := 615) (rest := [.long x140.1]) X wx140 (m_X11_blame  ex145) (z_lt zk_40 (by decide)) (z_E11 zk_40) rfl Lzw_ml_6_163 Lzw_im_6_164 Lzw_se_6_165 Lzw_in_1_12 Lzw_co_6_166 Lzd_X11_blame (by decide) rfl hl.1 rfl (Nat.le_of_ble_eq_true rfl) dL_law_615 (by decide) (fun Hx145 lx145 wx145 => ?_)
                                refine W.lcmp (pc := 618) hx hb dL_law_618 ?_
                                refine lv_if_eq (pc := 619) (tgt := 891) hx hb dL_law_619 (by decide) (fun c146 => ?_) (fun c146 => ?_)
                                · replace h := z_t c146 h
                                  obtain ⟨v147, ev147, h⟩ := z_lo h
                                  refine lv_iinc (pc := 891) (v := v147) (lv' := [(3, .int v147), (0, .ref b), (1, .ref (G.1 0)), (2, .ref (G.1 40))]) hx hb dL_law_891 hl (k := 3) rfl (by rw [ev147]; rfl) (by decide) rfl (fun ls hl => ?_)
                                  refine lv_goto (pc := 894) (tgt := 18) hx hb dL_law_894 (by decide) ?_
                                  exact ih v147 x145.2 Hx145 lx145 ls  wx145 (lv_sub hl [1, 2, 3, 0] rfl) h
                                · replace h := z_f c146 h
                                  refine lv_iconst (pc := 622) (v := 0) hx hb dL_law_622 (by decide) ?_
                                  exact z_no h
                              · replace h := z_f c135 h
                                by_cases c148 : v3 = (13 : Int32)
                                · replace h := z_t c148 h
                                  refine lv_tableIn (pc := 33) (off := 591) (tgt := 624) hx hb dL_law_33 (by rw [c148]; decide) (by rw [c148]; decide) (by rw [c148]; rfl) (by decide) ?_
                                  refine lv_aload_n (pc := 624) hx hb dL_law_624 rfl (lv_at hl 1 rfl) ?_
                                  refine lv_aload_n (pc := 625) hx hb dL_law_625 rfl (lv_at hl 0 rfl) ?_
                                  refine lv_iload_n (pc := 626) hx hb dL_law_626 rfl (lv_at hl 3 rfl) ?_
                                  refine lv_iconst (pc := 627) (v := 1) hx hb dL_law_627 (by decide) ?_
                                  refine lv_iadd (pc := 628) hx hb dL_law_628 ?_
                                  obtain ⟨g149, h⟩ := z_gd h
                                  refine va_sld (pc := 629) hx hb hX hbl hbA hw.2.2 g149 dL_law_629 ?_
                                  refine lv_aload_n (pc := 630) hx hb dL_law_630 rfl (lv_at hl 0 rfl) ?_
                                  refine lv_iload_n (pc := 631) hx hb dL_law_631 rfl (lv_at hl 3 rfl) ?_
                                  refine lv_iconst (pc := 632) (v := 2) hx hb dL_law_632 (by decide) ?_
                                  refine lv_iadd (pc := 633) hx hb dL_law_633 ?_
                                  obtain ⟨g150, h⟩ := z_gd h
                                  refine va_sld (pc := 634) hx hb hX hbl hbA hw.2.2 g150 dL_law_634 ?_
                                  refine lv_aload_n (pc := 635) hx hb dL_law_635 rfl (lv_at hl 0 rfl) ?_
                                  refine lv_iload_n (pc := 636) hx hb dL_law_636 rfl (lv_at hl 3 rfl) ?_
                                  refine lv_iconst (pc := 637) (v := 3) hx hb dL_law_637 (by decide) ?_
                                  refine lv_iadd (pc := 638) hx hb dL_law_638 ?_
                                  obtain ⟨g151, h⟩ := z_gd h
                                  refine va_sld (pc := 639) hx hb hX hbl hbA hw.2.2 g151 dL_law_639 ?_
                                  refine lv_aload_n (pc := 640) hx hb dL_law_640 rfl (lv_at hl 0 rfl) ?_
                                  refine lv_iload_n (pc := 641) hx hb dL_law_641 rfl (lv_at hl 3 rfl) ?_
                                  refine lv_iconst (pc := 642) (v := 4) hx hb dL_law_642 (by decide) ?_
                                  refine lv_iadd (pc := 643) hx hb dL_law_643 ?_
                                  obtain ⟨g152, h⟩ := z_gd h
                                  refine va_sld (pc := 644) hx hb hX hbl hbA hw.2.2 g152 dL_law_644 ?_
                                  refine lv_aload_n (pc := 645) hx hb dL_law_645 rfl (lv_at hl 0 rfl) ?_
                                  refine lv_iload_n (pc := 646) hx hb dL_law_646 rfl (lv_at hl 3 rfl) ?_
                                  refine lv_iconst (pc := 647) (v := 5) hx hb dL_law_647 (by decide) ?_
                                  refine lv_iadd (pc := 648) hx hb dL_law_648 ?_
                                  obtain ⟨g153, h⟩ := z_gd h
                                  refine va_sld (pc := 649) hx hb hX hbl hbA hw.2.2 g153 dL_law_649 ?_
                                  obtain ⟨x154, ex154, h⟩ := z_bd h
                                  refine z_cvI (pc := 650) (rest := []) X hw (m_X10_cleanings  ex154) (z_lt zk_0 (by decide)) (z_E10 zk_0) rfl Lzw_ml_4_161 Lzw_im_4_162 Lzw_se_4_163 Lzw_in_1_1 Lzw_co_4_164 Lzd_X10_cleanings (by decide) rfl hl.1 rfl (Nat.le_of_ble_eq_true rfl) dL_law_650 (by decide) (fun Hx154 lx154 wx154 => ?_)
                                  refine lv_aload_n (pc := 653) hx hb dL_law_653 rfl (lv_at hl 2 rfl) ?_
                                  refine lv_aload_n (pc := 654) hx hb dL_law_654 rfl (lv_at hl 0 rfl) ?_
                                  refine lv_iload_n (pc := 655) hx hb dL_law_655 rfl (lv_at hl 3 rfl) ?_
                                  refine lv_iconst (pc := 656) (v := 1) hx hb dL_law_656 (by decide) ?_
                                  refine lv_iadd (pc := 657) hx hb dL_law_657 ?_
                                  obtain ⟨g155, h⟩ := z_gd h
                                  refine va_sld (pc := 658) hx hb hX hbl hbA wx154.2.2 g155 dL_law_658 ?_
                                  refine lv_aload_n (pc := 659) hx hb dL_law_659 rfl (lv_at hl 0 rfl) ?_
                                  refine lv_iload_n (pc := 660) hx hb dL_law_660 rfl (lv_at hl 3 rfl) ?_
                                  refine lv_iconst (pc := 661) (v := 2) hx hb dL_law_661 (by decide) ?_
                                  refine lv_iadd (pc := 662) hx hb dL_law_662 ?_
                                  obtain ⟨g156, h⟩ := z_gd h
                                  refine va_sld (pc := 663) hx hb hX hbl hbA wx154.2.2 g156 dL_law_663 ?_
                                  refine lv_aload_n (pc := 664) hx hb dL_law_664 rfl (lv_at hl 0 rfl) ?_
                                  refine lv_iload_n (pc := 665) hx hb dL_law_665 rfl (lv_at hl 3 rfl) ?_
                                  refine lv_iconst (pc := 666) (v := 3) hx hb dL_law_666 (by decide) ?_
                                  refine lv_iadd (pc := 667) hx hb dL_law_667 ?_
                                  obtain ⟨g157, h⟩ := z_gd h
                                  refine va_sld (pc := 668) hx hb hX hbl hbA wx154.2.2 g157 dL_law_668 ?_
                                  refine lv_aload_n (pc := 669) hx hb dL_law_669 rfl (lv_at hl 0 rfl) ?_
                                  refine lv_iload_n (pc := 670) hx hb dL_law_670 rfl (lv_at hl 3 rfl) ?_
                                  refine lv_iconst (pc := 671) (v := 4) hx hb dL_law_671 (by decide) ?_
                                  refine lv_iadd (pc := 672) hx hb dL_law_672 ?_
                                  obtain ⟨g158, h⟩ := z_gd h
                                  refine va_sld (pc := 673) hx hb hX hbl hbA wx154.2.2 g158 dL_law_673 ?_
                                  refine lv_aload_n (pc := 674) hx hb dL_law_674 rfl (lv_at hl 0 rfl) ?_
                                  refine lv_iload_n (pc := 675) hx hb dL_law_675 rfl (lv_at hl 3 rfl) ?_
                                  refine lv_iconst (pc := 676) (v := 5) hx hb dL_law_676 (by decide) ?_
                                  refine lv_iadd (pc := 677) hx hb dL_law_677 ?_
                                  obtain ⟨g159, h⟩ := z_gd h
                                  refine va_sld (pc := 678) hx hb hX hbl hbA wx154.2.2 g159 dL_law_678 ?_
                                  obtain ⟨x160, ex160, h⟩ := z_bd h
                                  refine z_cvI (pc := 679) (rest := [.int x154.1]) X wx154 (m_X11_cleanings  ex160) (z_lt zk_40 (by decide)) (z_E11 zk_40) rfl Lzw_ml_6_178 Lzw_im_6_179 Lzw_se_6_180 Lzw_in_1_12 Lzw_co_6_181 Lzd_X11_cleanings (by decide) rfl hl.1 rfl (Nat.le_of_ble_eq_true rfl) dL_law_679 (by decide) (fun Hx160 lx160 wx160 => ?_)
                                  refine lv_icmp_eq (pc := 682) (tgt := 891) hx hb dL_law_682 (by decide) (fun c161 => ?_) (fun c161 => ?_)
                                  · replace h := z_t c161 h
                                    obtain ⟨v162, ev162, h⟩ := z_lo h
                                    refine lv_iinc (pc := 891) (v := v162) (lv' := [(3, .int v162), (0, .ref b), (1, .ref (G.1 0)), (2, .ref (G.1 40))]) hx hb dL_law_891 hl (k := 3) rfl (by rw [ev162]; rfl) (by decide) rfl (fun ls hl => ?_)
                                    refine lv_goto (pc := 894) (tgt := 18) hx hb dL_law_894 (by decide) ?_
                                    exact ih v162 x160.2 Hx160 lx160 ls  wx160 (lv_sub hl [1, 2, 3, 0] rfl) h
                                  · replace h := z_f c161 h
                                    refine lv_iconst (pc := 685) (v := 0) hx hb dL_law_685 (by decide) ?_
                                    exact z_no h
                                · replace h := z_f c148 h
                                  by_cases c163 : v3 = (14 : Int32)
                                  · replace h := z_t c163 h
                                    refine lv_tableIn (pc := 33) (off := 654) (tgt := 687) hx hb dL_law_33 (by rw [c163]; decide) (by rw [c163]; decide) (by rw [c163]; rfl) (by decide) ?_
                                    refine lv_aload_n (pc := 687) hx hb dL_law_687 rfl (lv_at hl 1 rfl) ?_
                                    refine lv_aload_n (pc := 688) hx hb dL_law_688 rfl (lv_at hl 0 rfl) ?_
                                    refine lv_iload_n (pc := 689) hx hb dL_law_689 rfl (lv_at hl 3 rfl) ?_
                                    refine lv_iconst (pc := 690) (v := 1) hx hb dL_law_690 (by decide) ?_
                                    refine lv_iadd (pc := 691) hx hb dL_law_691 ?_
                                    obtain ⟨g164, h⟩ := z_gd h
                                    refine va_sld (pc := 692) hx hb hX hbl hbA hw.2.2 g164 dL_law_692 ?_
                                    refine lv_aload_n (pc := 693) hx hb dL_law_693 rfl (lv_at hl 0 rfl) ?_
                                    refine lv_iload_n (pc := 694) hx hb dL_law_694 rfl (lv_at hl 3 rfl) ?_
                                    refine lv_iconst (pc := 695) (v := 2) hx hb dL_law_695 (by decide) ?_
                                    refine lv_iadd (pc := 696) hx hb dL_law_696 ?_
                                    obtain ⟨g165, h⟩ := z_gd h
                                    refine va_sld (pc := 697) hx hb hX hbl hbA hw.2.2 g165 dL_law_697 ?_
                                    obtain ⟨x166, ex166, h⟩ := z_bd h
                                    refine z_cvI (pc := 698) (rest := []) X hw (m_X10_gutters  ex166) (z_lt zk_0 (by decide)) (z_E10 zk_0) rfl Lzw_ml_4_203 Lzw_im_4_204 Lzw_se_4_205 Lzw_in_1_1 Lzw_co_4_206 Lzd_X10_gutters (by decide) rfl hl.1 rfl (Nat.le_of_ble_eq_true rfl) dL_law_698 (by decide) (fun Hx166 lx166 wx166 => ?_)
                                    refine lv_aload_n (pc := 701) hx hb dL_law_701 rfl (lv_at hl 2 rfl) ?_
                                    refine lv_aload_n (pc := 702) hx hb dL_law_702 rfl (lv_at hl 0 rfl) ?_
                                    refine lv_iload_n (pc := 703) hx hb dL_law_703 rfl (lv_at hl 3 rfl) ?_
                                    refine lv_iconst (pc := 704) (v := 1) hx hb dL_law_704 (by decide) ?_
                                    refine lv_iadd (pc := 705) hx hb dL_law_705 ?_
                                    obtain ⟨g167, h⟩ := z_gd h
                                    refine va_sld (pc := 706) hx hb hX hbl hbA wx166.2.2 g167 dL_law_706 ?_
                                    refine lv_aload_n (pc := 707) hx hb dL_law_707 rfl (lv_at hl 0 rfl) ?_
                                    refine lv_iload_n (pc := 708) hx hb dL_law_708 rfl (lv_at hl 3 rfl) ?_
                                    refine lv_iconst (pc := 709) (v := 2) hx hb dL_law_709 (by decide) ?_
                                    refine lv_iadd (pc := 710) hx hb dL_law_710 ?_
                                    obtain ⟨g168, h⟩ := z_gd h
                                    refine va_sld (pc := 711) hx hb hX hbl hbA wx166.2.2 g168 dL_law_711 ?_
                                    obtain ⟨x169, ex169, h⟩ := z_bd h
                                    refine z_cvI (pc := 712) (rest := [.int x166.1]) X wx166 (m_X11_gutters  ex169) (z_lt zk_40 (by decide)) (z_E11 zk_40) rfl Lzw_ml_6_186 Lzw_im_6_187 Lzw_se_6_188 Lzw_in_1_12 Lzw_co_6_189 Lzd_X11_gutters (by decide) rfl hl.1 rfl (Nat.le_of_ble_eq_true rfl) dL_law_712 (by decide) (fun Hx169 lx169 wx169 => ?_)
                                    refine lv_icmp_eq (pc := 715) (tgt := 891) hx hb dL_law_715 (by decide) (fun c170 => ?_) (fun c170 => ?_)
                                    · replace h := z_t c170 h
                                      obtain ⟨v171, ev171, h⟩ := z_lo h
                                      refine lv_iinc (pc := 891) (v := v171) (lv' := [(3, .int v171), (0, .ref b), (1, .ref (G.1 0)), (2, .ref (G.1 40))]) hx hb dL_law_891 hl (k := 3) rfl (by rw [ev171]; rfl) (by decide) rfl (fun ls hl => ?_)
                                      refine lv_goto (pc := 894) (tgt := 18) hx hb dL_law_894 (by decide) ?_
                                      exact ih v171 x169.2 Hx169 lx169 ls  wx169 (lv_sub hl [1, 2, 3, 0] rfl) h
                                    · replace h := z_f c170 h
                                      refine lv_iconst (pc := 718) (v := 0) hx hb dL_law_718 (by decide) ?_
                                      exact z_no h
                                  · replace h := z_f c163 h
                                    by_cases c172 : v3 = (15 : Int32)
                                    · replace h := z_t c172 h
                                      refine lv_tableIn (pc := 33) (off := 687) (tgt := 720) hx hb dL_law_33 (by rw [c172]; decide) (by rw [c172]; decide) (by rw [c172]; rfl) (by decide) ?_
                                      refine lv_aload_n (pc := 720) hx hb dL_law_720 rfl (lv_at hl 1 rfl) ?_
                                      refine lv_aload_n (pc := 721) hx hb dL_law_721 rfl (lv_at hl 0 rfl) ?_
                                      refine lv_iload_n (pc := 722) hx hb dL_law_722 rfl (lv_at hl 3 rfl) ?_
                                      refine lv_iconst (pc := 723) (v := 1) hx hb dL_law_723 (by decide) ?_
                                      refine lv_iadd (pc := 724) hx hb dL_law_724 ?_
                                      obtain ⟨g173, h⟩ := z_gd h
                                      refine va_sld (pc := 725) hx hb hX hbl hbA hw.2.2 g173 dL_law_725 ?_
                                      refine lv_aload_n (pc := 726) hx hb dL_law_726 rfl (lv_at hl 0 rfl) ?_
                                      refine lv_iload_n (pc := 727) hx hb dL_law_727 rfl (lv_at hl 3 rfl) ?_
                                      refine lv_iconst (pc := 728) (v := 2) hx hb dL_law_728 (by decide) ?_
                                      refine lv_iadd (pc := 729) hx hb dL_law_729 ?_
                                      obtain ⟨g174, h⟩ := z_gd h
                                      refine va_sld (pc := 730) hx hb hX hbl hbA hw.2.2 g174 dL_law_730 ?_
                                      obtain ⟨x175, ex175, h⟩ := z_bd h
                                      refine z_cvI (pc := 731) (rest := []) X hw (m_X10_stains  ex175) (z_lt zk_0 (by decide)) (z_E10 zk_0) rfl Lzw_ml_4_219 Lzw_im_4_220 Lzw_se_4_221 Lzw_in_1_1 Lzw_co_4_222 Lzd_X10_stains (by decide) rfl hl.1 rfl (Nat.le_of_ble_eq_true rfl) dL_law_731 (by decide) (fun Hx175 lx175 wx175 => ?_)
                                      refine lv_aload_n (pc := 734) hx hb dL_law_734 rfl (lv_at hl 2 rfl) ?_
                                      refine lv_aload_n (pc := 735) hx hb dL_law_735 rfl (lv_at hl 0 rfl) ?_
                                      refine lv_iload_n (pc := 736) hx hb dL_law_736 rfl (lv_at hl 3 rfl) ?_
                                      refine lv_iconst (pc := 737) (v := 1) hx hb dL_law_737 (by decide) ?_
                                      refine lv_iadd (pc := 738) hx hb dL_law_738 ?_
                                      obtain ⟨g176, h⟩ := z_gd h
                                      refine va_sld (pc := 739) hx hb hX hbl hbA wx175.2.2 g176 dL_law_739 ?_
                                      refine lv_aload_n (pc := 740) hx hb dL_law_740 rfl (lv_at hl 0 rfl) ?_
                                      refine lv_iload_n (pc := 741) hx hb dL_law_741 rfl (lv_at hl 3 rfl) ?_
                                      refine lv_iconst (pc := 742) (v := 2) hx hb dL_law_742 (by decide) ?_
                                      refine lv_iadd (pc := 743) hx hb dL_law_743 ?_
                                      obtain ⟨g177, h⟩ := z_gd h
                                      refine va_sld (pc := 744) hx hb hX hbl hbA wx175.2.2 g177 dL_law_744 ?_
                                      obtain ⟨x178, ex178, h⟩ := z_bd h
                                      refine z_cvI (pc := 745) (rest := [.int x175.1]) X wx175 (m_X11_stains  ex178) (z_lt zk_40 (by decide)) (z_E11 zk_40) rfl Lzw_ml_6_190 Lzw_im_6_191 Lzw_se_6_192 Lzw_in_1_12 Lzw_co_6_193 Lzd_X11_stains (by decide) rfl hl.1 rfl (Nat.le_of_ble_eq_true rfl) dL_law_745 (by decide) (fun Hx178 lx178 wx178 => ?_)
                                      refine lv_icmp_eq (pc := 748) (tgt := 891) hx hb dL_law_748 (by decide) (fun c179 => ?_) (fun c179 => ?_)
                                      · replace h := z_t c179 h
                                        obtain ⟨v180, ev180, h⟩ := z_lo h
                                        refine lv_iinc (pc := 891) (v := v180) (lv' := [(3, .int v180), (0, .ref b), (1, .ref (G.1 0)), (2, .ref (G.1 40))]) hx hb dL_law_891 hl (k := 3) rfl (by rw [ev180]; rfl) (by decide) rfl (fun ls hl => ?_)
                                        refine lv_goto (pc := 894) (tgt := 18) hx hb dL_law_894 (by decide) ?_
                                        exact ih v180 x178.2 Hx178 lx178 ls  wx178 (lv_sub hl [1, 2, 3, 0] rfl) h
                                      · replace h := z_f c179 h
                                        refine lv_iconst (pc := 751) (v := 0) hx hb dL_law_751 (by decide) ?_
                                        exact z_no h
                                    · replace h := z_f c172 h
                                      by_cases c181 : v3 = (16 : Int32)
                                      · replace h := z_t c181 h
                                        refine lv_tableIn (pc := 33) (off := 720) (tgt := 753) hx hb dL_law_33 (by rw [c181]; decide) (by rw [c181]; decide) (by rw [c181]; rfl) (by decide) ?_
                                        refine lv_aload_n (pc := 753) hx hb dL_law_753 rfl (lv_at hl 1 rfl) ?_
                                        refine lv_aload_n (pc := 754) hx hb dL_law_754 rfl (lv_at hl 0 rfl) ?_
                                        refine lv_iload_n (pc := 755) hx hb dL_law_755 rfl (lv_at hl 3 rfl) ?_
                                        refine lv_iconst (pc := 756) (v := 1) hx hb dL_law_756 (by decide) ?_
                                        refine lv_iadd (pc := 757) hx hb dL_law_757 ?_
                                        obtain ⟨g182, h⟩ := z_gd h
                                        refine va_sld (pc := 758) hx hb hX hbl hbA hw.2.2 g182 dL_law_758 ?_
                                        obtain ⟨x183, ex183, h⟩ := z_bd h
                                        refine z_cvI (pc := 759) (rest := []) X hw (m_X10_drain  ex183) (z_lt zk_0 (by decide)) (z_E10 zk_0) rfl Lzw_ml_5_4 Lzw_im_5_5 Lzw_se_5_6 Lzw_in_1_1 Lzw_co_5_7 Lzd_X10_drain (by decide) rfl hl.1 rfl (Nat.le_of_ble_eq_true rfl) dL_law_759 (by decide) (fun Hx183 lx183 wx183 => ?_)
                                        refine lv_aload_n (pc := 762) hx hb dL_law_762 rfl (lv_at hl 2 rfl) ?_
                                        refine lv_aload_n (pc := 763) hx hb dL_law_763 rfl (lv_at hl 0 rfl) ?_
                                        refine lv_iload_n (pc := 764) hx hb dL_law_764 rfl (lv_at hl 3 rfl) ?_
                                        refine lv_iconst (pc := 765) (v := 1) hx hb dL_law_765 (by decide) ?_
                                        refine lv_iadd (pc := 766) hx hb dL_law_766 ?_
                                        obtain ⟨g184, h⟩ := z_gd h
                                        refine va_sld (pc := 767) hx hb hX hbl hbA wx183.2.2 g184 dL_law_767 ?_
                                        obtain ⟨x185, ex185, h⟩ := z_bd h
                                        refine z_cvI (pc := 768) (rest := [.int x183.1]) X wx183 (m_X11_drain  ex185) (z_lt zk_40 (by decide)) (z_E11 zk_40) rfl Lzw_ml_6_194 Lzw_im_6_195 Lzw_se_6_196 Lzw_in_1_12 Lzw_co_6_197 Lzd_X11_drain (by decide) rfl hl.1 rfl (Nat.le_of_ble_eq_true rfl) dL_law_768 (by decide) (fun Hx185 lx185 wx185 => ?_)
                                        refine lv_icmp_eq (pc := 771) (tgt := 891) hx hb dL_law_771 (by decide) (fun c186 => ?_) (fun c186 => ?_)
                                        · replace h := z_t c186 h
                                          obtain ⟨v187, ev187, h⟩ := z_lo h
                                          refine lv_iinc (pc := 891) (v := v187) (lv' := [(3, .int v187), (0, .ref b), (1, .ref (G.1 0)), (2, .ref (G.1 40))]) hx hb dL_law_891 hl (k := 3) rfl (by rw [ev187]; rfl) (by decide) rfl (fun ls hl => ?_)
                                          refine lv_goto (pc := 894) (tgt := 18) hx hb dL_law_894 (by decide) ?_
                                          exact ih v187 x185.2 Hx185 lx185 ls  wx185 (lv_sub hl [1, 2, 3, 0] rfl) h
                                        · replace h := z_f c186 h
                                          refine lv_iconst (pc := 774) (v := 0) hx hb dL_law_774 (by decide) ?_
                                          exact z_no h
                                      · replace h := z_f c181 h
                                        by_cases c188 : v3 = (17 : Int32)
                                        · replace h := z_t c188 h
                                          refine lv_tableIn (pc := 33) (off := 743) (tgt := 776) hx hb dL_law_33 (by rw [c188]; decide) (by rw [c188]; decide) (by rw [c188]; rfl) (by decide) ?_
                                          refine lv_aload_n (pc := 776) hx hb dL_law_776 rfl (lv_at hl 1 rfl) ?_
                                          refine lv_aload_n (pc := 777) hx hb dL_law_777 rfl (lv_at hl 0 rfl) ?_
                                          refine lv_iload_n (pc := 778) hx hb dL_law_778 rfl (lv_at hl 3 rfl) ?_
                                          refine lv_iconst (pc := 779) (v := 1) hx hb dL_law_779 (by decide) ?_
                                          refine lv_iadd (pc := 780) hx hb dL_law_780 ?_
                                          obtain ⟨g189, h⟩ := z_gd h
                                          refine va_sld (pc := 781) hx hb hX hbl hbA hw.2.2 g189 dL_law_781 ?_
                                          refine lv_aload_n (pc := 782) hx hb dL_law_782 rfl (lv_at hl 0 rfl) ?_
                                          refine lv_iload_n (pc := 783) hx hb dL_law_783 rfl (lv_at hl 3 rfl) ?_
                                          refine lv_iconst (pc := 784) (v := 2) hx hb dL_law_784 (by decide) ?_
                                          refine lv_iadd (pc := 785) hx hb dL_law_785 ?_
                                          obtain ⟨g190, h⟩ := z_gd h
                                          refine va_sld (pc := 786) hx hb hX hbl hbA hw.2.2 g190 dL_law_786 ?_
                                          refine lv_aload_n (pc := 787) hx hb dL_law_787 rfl (lv_at hl 0 rfl) ?_
                                          refine lv_iload_n (pc := 788) hx hb dL_law_788 rfl (lv_at hl 3 rfl) ?_
                                          refine lv_iconst (pc := 789) (v := 3) hx hb dL_law_789 (by decide) ?_
                                          refine lv_iadd (pc := 790) hx hb dL_law_790 ?_
                                          obtain ⟨g191, h⟩ := z_gd h
                                          refine va_sld (pc := 791) hx hb hX hbl hbA hw.2.2 g191 dL_law_791 ?_
                                          refine lv_aload_n (pc := 792) hx hb dL_law_792 rfl (lv_at hl 0 rfl) ?_
                                          refine lv_iload_n (pc := 793) hx hb dL_law_793 rfl (lv_at hl 3 rfl) ?_
                                          refine lv_iconst (pc := 794) (v := 4) hx hb dL_law_794 (by decide) ?_
                                          refine lv_iadd (pc := 795) hx hb dL_law_795 ?_
                                          obtain ⟨g192, h⟩ := z_gd h
                                          refine va_sld (pc := 796) hx hb hX hbl hbA hw.2.2 g192 dL_law_796 ?_
                                          obtain ⟨x193, ex193, h⟩ := z_bd h
                                          refine z_cvI (pc := 797) (rest := []) X hw (m_X10_added  ex193) (z_lt zk_0 (by decide)) (z_E10 zk_0) rfl Lzw_ml_5_16 Lzw_im_5_17 Lzw_se_5_18 Lzw_in_1_1 Lzw_co_5_19 Lzd_X10_added (by decide) rfl hl.1 rfl (Nat.le_of_ble_eq_true rfl) dL_law_797 (by decide) (fun Hx193 lx193 wx193 => ?_)
                                          refine lv_aload_n (pc := 800) hx hb dL_law_800 rfl (lv_at hl 2 rfl) ?_
                                          refine lv_aload_n (pc := 801) hx hb dL_law_801 rfl (lv_at hl 0 rfl) ?_
                                          refine lv_iload_n (pc := 802) hx hb dL_law_802 rfl (lv_at hl 3 rfl) ?_
                                          refine lv_iconst (pc := 803) (v := 1) hx hb dL_law_803 (by decide) ?_
                                          refine lv_iadd (pc := 804) hx hb dL_law_804 ?_
                                          obtain ⟨g194, h⟩ := z_gd h
                                          refine va_sld (pc := 805) hx hb hX hbl hbA wx193.2.2 g194 dL_law_805 ?_
                                          refine lv_aload_n (pc := 806) hx hb dL_law_806 rfl (lv_at hl 0 rfl) ?_
                                          refine lv_iload_n (pc := 807) hx hb dL_law_807 rfl (lv_at hl 3 rfl) ?_
                                          refine lv_iconst (pc := 808) (v := 2) hx hb dL_law_808 (by decide) ?_
                                          refine lv_iadd (pc := 809) hx hb dL_law_809 ?_
                                          obtain ⟨g195, h⟩ := z_gd h
                                          refine va_sld (pc := 810) hx hb hX hbl hbA wx193.2.2 g195 dL_law_810 ?_
                                          refine lv_aload_n (pc := 811) hx hb dL_law_811 rfl (lv_at hl 0 rfl) ?_
                                          refine lv_iload_n (pc := 812) hx hb dL_law_812 rfl (lv_at hl 3 rfl) ?_
                                          refine lv_iconst (pc := 813) (v := 3) hx hb dL_law_813 (by decide) ?_
                                          refine lv_iadd (pc := 814) hx hb dL_law_814 ?_
                                          obtain ⟨g196, h⟩ := z_gd h
                                          refine va_sld (pc := 815) hx hb hX hbl hbA wx193.2.2 g196 dL_law_815 ?_
                                          refine lv_aload_n (pc := 816) hx hb dL_law_816 rfl (lv_at hl 0 rfl) ?_
                                          refine lv_iload_n (pc := 817) hx hb dL_law_817 rfl (lv_at hl 3 rfl) ?_
                                          refine lv_iconst (pc := 818) (v := 4) hx hb dL_law_818 (by decide) ?_
                                          refine lv_iadd (pc := 819) hx hb dL_law_819 ?_
                                          obtain ⟨g197, h⟩ := z_gd h
                                          refine va_sld (pc := 820) hx hb hX hbl hbA wx193.2.2 g197 dL_law_820 ?_
                                          obtain ⟨x198, ex198, h⟩ := z_bd h
                                          refine z_cvI (pc := 821) (rest := [.int x193.1]) X wx193 (m_X11_added  ex198) (z_lt zk_40 (by decide)) (z_E11 zk_40) rfl Lzw_ml_6_198 Lzw_im_6_199 Lzw_se_6_200 Lzw_in_1_12 Lzw_co_6_201 Lzd_X11_added (by decide) rfl hl.1 rfl (Nat.le_of_ble_eq_true rfl) dL_law_821 (by decide) (fun Hx198 lx198 wx198 => ?_)
                                          refine lv_icmp_eq (pc := 824) (tgt := 891) hx hb dL_law_824 (by decide) (fun c199 => ?_) (fun c199 => ?_)
                                          · replace h := z_t c199 h
                                            obtain ⟨v200, ev200, h⟩ := z_lo h
                                            refine lv_iinc (pc := 891) (v := v200) (lv' := [(3, .int v200), (0, .ref b), (1, .ref (G.1 0)), (2, .ref (G.1 40))]) hx hb dL_law_891 hl (k := 3) rfl (by rw [ev200]; rfl) (by decide) rfl (fun ls hl => ?_)
                                            refine lv_goto (pc := 894) (tgt := 18) hx hb dL_law_894 (by decide) ?_
                                            exact ih v200 x198.2 Hx198 lx198 ls  wx198 (lv_sub hl [1, 2, 3, 0] rfl) h
                                          · replace h := z_f c199 h
                                            refine lv_iconst (pc := 827) (v := 0) hx hb dL_law_827 (by decide) ?_
                                            exact z_no h
                                        · replace h := z_f c188 h
                                          by_cases c201 : v3 = (18 : Int32)
                                          · replace h := z_t c201 h
                                            refine lv_tableIn (pc := 33) (off := 796) (tgt := 829) hx hb dL_law_33 (by rw [c201]; decide) (by rw [c201]; decide) (by rw [c201]; rfl) (by decide) ?_
                                            refine lv_aload_n (pc := 829) hx hb dL_law_829 rfl (lv_at hl 1 rfl) ?_
                                            refine lv_aload_n (pc := 830) hx hb dL_law_830 rfl (lv_at hl 0 rfl) ?_
                                            refine lv_iload_n (pc := 831) hx hb dL_law_831 rfl (lv_at hl 3 rfl) ?_
                                            refine lv_iconst (pc := 832) (v := 1) hx hb dL_law_832 (by decide) ?_
                                            refine lv_iadd (pc := 833) hx hb dL_law_833 ?_
                                            obtain ⟨g202, h⟩ := z_gd h
                                            refine va_sld (pc := 834) hx hb hX hbl hbA hw.2.2 g202 dL_law_834 ?_
                                            refine lv_if_eq (pc := 835) (tgt := 842) hx hb dL_law_835 (by decide) (fun c203 => ?_) (fun c203 => ?_)
                                            · replace h := z_t c203 h
                                              refine lv_iconst (pc := 842) (v := 0) hx hb dL_law_842 (by decide) ?_
                                              obtain ⟨x204, ex204, h⟩ := z_bd h
                                              refine z_cvI (pc := 843) (rest := []) X hw (m_X10_image  ex204) (z_lt zk_0 (by decide)) (z_E10 zk_0) rfl Lzw_ml_5_26 Lzw_im_5_27 Lzw_se_5_28 Lzw_in_1_1 Lzw_co_5_29 Lzd_X10_image (by decide) rfl hl.1 rfl (Nat.le_of_ble_eq_true rfl) dL_law_843 (by decide) (fun Hx204 lx204 wx204 => ?_)
                                              refine lv_aload_n (pc := 846) hx hb dL_law_846 rfl (lv_at hl 2 rfl) ?_
                                              refine lv_aload_n (pc := 847) hx hb dL_law_847 rfl (lv_at hl 0 rfl) ?_
                                              refine lv_iload_n (pc := 848) hx hb dL_law_848 rfl (lv_at hl 3 rfl) ?_
                                              refine lv_iconst (pc := 849) (v := 1) hx hb dL_law_849 (by decide) ?_
                                              refine lv_iadd (pc := 850) hx hb dL_law_850 ?_
                                              obtain ⟨g205, h⟩ := z_gd h
                                              refine va_sld (pc := 851) hx hb hX hbl hbA wx204.2.2 g205 dL_law_851 ?_
                                              refine lv_if_eq (pc := 852) (tgt := 859) hx hb dL_law_852 (by decide) (fun c206 => ?_) (fun c206 => ?_)
                                              · replace h := z_t c206 h
                                                refine lv_iconst (pc := 859) (v := 0) hx hb dL_law_859 (by decide) ?_
                                                obtain ⟨x207, ex207, h⟩ := z_bd h
                                                refine z_cvI (pc := 860) (rest := [.int x204.1]) X wx204 (m_X11_image  ex207) (z_lt zk_40 (by decide)) (z_E11 zk_40) rfl Lzw_ml_6_206 Lzw_im_6_207 Lzw_se_6_208 Lzw_in_1_12 Lzw_co_6_209 Lzd_X11_image (by decide) rfl hl.1 rfl (Nat.le_of_ble_eq_true rfl) dL_law_860 (by decide) (fun Hx207 lx207 wx207 => ?_)
                                                refine lv_icmp_eq (pc := 863) (tgt := 891) hx hb dL_law_863 (by decide) (fun c208 => ?_) (fun c208 => ?_)
                                                · replace h := z_t c208 h
                                                  obtain ⟨v209, ev209, h⟩ := z_lo h
                                                  refine lv_iinc (pc := 891) (v := v209) (lv' := [(3, .int v209), (0, .ref b), (1, .ref (G.1 0)), (2, .ref (G.1 40))]) hx hb dL_law_891 hl (k := 3) rfl (by rw [ev209]; rfl) (by decide) rfl (fun ls hl => ?_)
                                                  refine lv_goto (pc := 894) (tgt := 18) hx hb dL_law_894 (by decide) ?_
                                                  exact ih v209 x207.2 Hx207 lx207 ls  wx207 (lv_sub hl [1, 2, 3, 0] rfl) h
                                                · replace h := z_f c208 h
                                                  refine lv_iconst (pc := 866) (v := 0) hx hb dL_law_866 (by decide) ?_
                                                  exact z_no h
                                              · replace h := z_f c206 h
                                                refine lv_iconst (pc := 855) (v := 1) hx hb dL_law_855 (by decide) ?_
                                                refine lv_goto (pc := 856) (tgt := 860) hx hb dL_law_856 (by decide) ?_
                                                obtain ⟨x210, ex210, h⟩ := z_bd h
                                                refine z_cvI (pc := 860) (rest := [.int x204.1]) X wx204 (m_X11_image  ex210) (z_lt zk_40 (by decide)) (z_E11 zk_40) rfl Lzw_ml_6_206 Lzw_im_6_207 Lzw_se_6_208 Lzw_in_1_12 Lzw_co_6_209 Lzd_X11_image (by decide) rfl hl.1 rfl (Nat.le_of_ble_eq_true rfl) dL_law_860 (by decide) (fun Hx210 lx210 wx210 => ?_)
                                                refine lv_icmp_eq (pc := 863) (tgt := 891) hx hb dL_law_863 (by decide) (fun c211 => ?_) (fun c211 => ?_)
                                                · replace h := z_t c211 h
                                                  obtain ⟨v212, ev212, h⟩ := z_lo h
                                                  refine lv_iinc (pc := 891) (v := v212) (lv' := [(3, .int v212), (0, .ref b), (1, .ref (G.1 0)), (2, .ref (G.1 40))]) hx hb dL_law_891 hl (k := 3) rfl (by rw [ev212]; rfl) (by decide) rfl (fun ls hl => ?_)
                                                  refine lv_goto (pc := 894) (tgt := 18) hx hb dL_law_894 (by decide) ?_
                                                  exact ih v212 x210.2 Hx210 lx210 ls  wx210 (lv_sub hl [1, 2, 3, 0] rfl) h
                                                · replace h := z_f c211 h
                                                  refine lv_iconst (pc := 866) (v := 0) hx hb dL_law_866 (by decide) ?_
                                                  exact z_no h
                                            · replace h := z_f c203 h
                                              refine lv_iconst (pc := 838) (v := 1) hx hb dL_law_838 (by decide) ?_
                                              refine lv_goto (pc := 839) (tgt := 843) hx hb dL_law_839 (by decide) ?_
                                              obtain ⟨x213, ex213, h⟩ := z_bd h
                                              refine z_cvI (pc := 843) (rest := []) X hw (m_X10_image  ex213) (z_lt zk_0 (by decide)) (z_E10 zk_0) rfl Lzw_ml_5_26 Lzw_im_5_27 Lzw_se_5_28 Lzw_in_1_1 Lzw_co_5_29 Lzd_X10_image (by decide) rfl hl.1 rfl (Nat.le_of_ble_eq_true rfl) dL_law_843 (by decide) (fun Hx213 lx213 wx213 => ?_)
                                              refine lv_aload_n (pc := 846) hx hb dL_law_846 rfl (lv_at hl 2 rfl) ?_
                                              refine lv_aload_n (pc := 847) hx hb dL_law_847 rfl (lv_at hl 0 rfl) ?_
                                              refine lv_iload_n (pc := 848) hx hb dL_law_848 rfl (lv_at hl 3 rfl) ?_
                                              refine lv_iconst (pc := 849) (v := 1) hx hb dL_law_849 (by decide) ?_
                                              refine lv_iadd (pc := 850) hx hb dL_law_850 ?_
                                              obtain ⟨g214, h⟩ := z_gd h
                                              refine va_sld (pc := 851) hx hb hX hbl hbA wx213.2.2 g214 dL_law_851 ?_
                                              refine lv_if_eq (pc := 852) (tgt := 859) hx hb dL_law_852 (by decide) (fun c215 => ?_) (fun c215 => ?_)
                                              · replace h := z_t c215 h
                                                refine lv_iconst (pc := 859) (v := 0) hx hb dL_law_859 (by decide) ?_
                                                obtain ⟨x216, ex216, h⟩ := z_bd h
                                                refine z_cvI (pc := 860) (rest := [.int x213.1]) X wx213 (m_X11_image  ex216) (z_lt zk_40 (by decide)) (z_E11 zk_40) rfl Lzw_ml_6_206 Lzw_im_6_207 Lzw_se_6_208 Lzw_in_1_12 Lzw_co_6_209 Lzd_X11_image (by decide) rfl hl.1 rfl (Nat.le_of_ble_eq_true rfl) dL_law_860 (by decide) (fun Hx216 lx216 wx216 => ?_)
                                                refine lv_icmp_eq (pc := 863) (tgt := 891) hx hb dL_law_863 (by decide) (fun c217 => ?_) (fun c217 => ?_)
                                                · replace h := z_t c217 h
                                                  obtain ⟨v218, ev218, h⟩ := z_lo h
                                                  refine lv_iinc (pc := 891) (v := v218) (lv' := [(3, .int v218), (0, .ref b), (1, .ref (G.1 0)), (2, .ref (G.1 40))]) hx hb dL_law_891 hl (k := 3) rfl (by rw [ev218]; rfl) (by decide) rfl (fun ls hl => ?_)
                                                  refine lv_goto (pc := 894) (tgt := 18) hx hb dL_law_894 (by decide) ?_
                                                  exact ih v218 x216.2 Hx216 lx216 ls  wx216 (lv_sub hl [1, 2, 3, 0] rfl) h
                                                · replace h := z_f c217 h
                                                  refine lv_iconst (pc := 866) (v := 0) hx hb dL_law_866 (by decide) ?_
                                                  exact z_no h
                                              · replace h := z_f c215 h
                                                refine lv_iconst (pc := 855) (v := 1) hx hb dL_law_855 (by decide) ?_
                                                refine lv_goto (pc := 856) (tgt := 860) hx hb dL_law_856 (by decide) ?_
                                                obtain ⟨x219, ex219, h⟩ := z_bd h
                                                refine z_cvI (pc := 860) (rest := [.int x213.1]) X wx213 (m_X11_image  ex219) (z_lt zk_40 (by decide)) (z_E11 zk_40) rfl Lzw_ml_6_206 Lzw_im_6_207 Lzw_se_6_208 Lzw_in_1_12 Lzw_co_6_209 Lzd_X11_image (by decide) rfl hl.1 rfl (Nat.le_of_ble_eq_true rfl) dL_law_860 (by decide) (fun Hx219 lx219 wx219 => ?_)
                                                refine lv_icmp_eq (pc := 863) (tgt := 891) hx hb dL_law_863 (by decide) (fun c220 => ?_) (fun c220 => ?_)
                                                · replace h := z_t c220 h
                                                  obtain ⟨v221, ev221, h⟩ := z_lo h
                                                  refine lv_iinc (pc := 891) (v := v221) (lv' := [(3, .int v221), (0, .ref b), (1, .ref (G.1 0)), (2, .ref (G.1 40))]) hx hb dL_law_891 hl (k := 3) rfl (by rw [ev221]; rfl) (by decide) rfl (fun ls hl => ?_)
                                                  refine lv_goto (pc := 894) (tgt := 18) hx hb dL_law_894 (by decide) ?_
                                                  exact ih v221 x219.2 Hx219 lx219 ls  wx219 (lv_sub hl [1, 2, 3, 0] rfl) h
                                                · replace h := z_f c220 h
                                                  refine lv_iconst (pc := 866) (v := 0) hx hb dL_law_866 (by decide) ?_
                                                  exact z_no h
                                          · replace h := z_f c201 h
                                            by_cases c222 : v3 = (19 : Int32)
                                            · replace h := z_t c222 h
                                              refine lv_tableIn (pc := 33) (off := 835) (tgt := 868) hx hb dL_law_33 (by rw [c222]; decide) (by rw [c222]; decide) (by rw [c222]; rfl) (by decide) ?_
                                              refine lv_aload_n (pc := 868) hx hb dL_law_868 rfl (lv_at hl 1 rfl) ?_
                                              refine lv_aload_n (pc := 869) hx hb dL_law_869 rfl (lv_at hl 0 rfl) ?_
                                              refine lv_iload_n (pc := 870) hx hb dL_law_870 rfl (lv_at hl 3 rfl) ?_
                                              refine lv_iconst (pc := 871) (v := 1) hx hb dL_law_871 (by decide) ?_
                                              refine lv_iadd (pc := 872) hx hb dL_law_872 ?_
                                              obtain ⟨g223, h⟩ := z_gd h
                                              refine va_sld (pc := 873) hx hb hX hbl hbA hw.2.2 g223 dL_law_873 ?_
                                              obtain ⟨x224, ex224, h⟩ := z_bd h
                                              refine z_cvI (pc := 874) (rest := []) X hw (m_X10_look  ex224) (z_lt zk_0 (by decide)) (z_E10 zk_0) rfl Lzw_ml_5_49 Lzw_im_5_50 Lzw_se_5_51 Lzw_in_1_1 Lzw_co_5_52 Lzd_X10_look (by decide) rfl hl.1 rfl (Nat.le_of_ble_eq_true rfl) dL_law_874 (by decide) (fun Hx224 lx224 wx224 => ?_)
                                              refine lv_aload_n (pc := 877) hx hb dL_law_877 rfl (lv_at hl 2 rfl) ?_
                                              refine lv_aload_n (pc := 878) hx hb dL_law_878 rfl (lv_at hl 0 rfl) ?_
                                              refine lv_iload_n (pc := 879) hx hb dL_law_879 rfl (lv_at hl 3 rfl) ?_
                                              refine lv_iconst (pc := 880) (v := 1) hx hb dL_law_880 (by decide) ?_
                                              refine lv_iadd (pc := 881) hx hb dL_law_881 ?_
                                              obtain ⟨g225, h⟩ := z_gd h
                                              refine va_sld (pc := 882) hx hb hX hbl hbA wx224.2.2 g225 dL_law_882 ?_
                                              obtain ⟨x226, ex226, h⟩ := z_bd h
                                              refine z_cvI (pc := 883) (rest := [.int x224.1]) X wx224 (m_X11_look  ex226) (z_lt zk_40 (by decide)) (z_E11 zk_40) rfl Lzw_ml_6_210 Lzw_im_6_211 Lzw_se_6_212 Lzw_in_1_12 Lzw_co_6_213 Lzd_X11_look (by decide) rfl hl.1 rfl (Nat.le_of_ble_eq_true rfl) dL_law_883 (by decide) (fun Hx226 lx226 wx226 => ?_)
                                              refine lv_icmp_eq (pc := 886) (tgt := 891) hx hb dL_law_886 (by decide) (fun c227 => ?_) (fun c227 => ?_)
                                              · replace h := z_t c227 h
                                                obtain ⟨v228, ev228, h⟩ := z_lo h
                                                refine lv_iinc (pc := 891) (v := v228) (lv' := [(3, .int v228), (0, .ref b), (1, .ref (G.1 0)), (2, .ref (G.1 40))]) hx hb dL_law_891 hl (k := 3) rfl (by rw [ev228]; rfl) (by decide) rfl (fun ls hl => ?_)
                                                refine lv_goto (pc := 894) (tgt := 18) hx hb dL_law_894 (by decide) ?_
                                                exact ih v228 x226.2 Hx226 lx226 ls  wx226 (lv_sub hl [1, 2, 3, 0] rfl) h
                                              · replace h := z_f c227 h
                                                refine lv_iconst (pc := 889) (v := 0) hx hb dL_law_889 (by decide) ?_
                                                exact z_no h
                                            · replace h := z_f c222 h
                                              have qc4 : (v3).toInt ≠ 0 := z_ne c4
                                              have qc17 : (v3).toInt ≠ 1 := z_ne c17
                                              have qc26 : (v3).toInt ≠ 2 := z_ne c26
                                              have qc37 : (v3).toInt ≠ 3 := z_ne c37
                                              have qc44 : (v3).toInt ≠ 4 := z_ne c44
                                              have qc74 : (v3).toInt ≠ 5 := z_ne c74
                                              have qc89 : (v3).toInt ≠ 6 := z_ne c89
                                              have qc96 : (v3).toInt ≠ 7 := z_ne c96
                                              have qc101 : (v3).toInt ≠ 8 := z_ne c101
                                              have qc108 : (v3).toInt ≠ 9 := z_ne c108
                                              have qc115 : (v3).toInt ≠ 10 := z_ne c115
                                              have qc124 : (v3).toInt ≠ 11 := z_ne c124
                                              have qc135 : (v3).toInt ≠ 12 := z_ne c135
                                              have qc148 : (v3).toInt ≠ 13 := z_ne c148
                                              have qc163 : (v3).toInt ≠ 14 := z_ne c163
                                              have qc172 : (v3).toInt ≠ 15 := z_ne c172
                                              have qc181 : (v3).toInt ≠ 16 := z_ne c181
                                              have qc188 : (v3).toInt ≠ 17 := z_ne c188
                                              have qc201 : (v3).toInt ≠ 18 := z_ne c201
                                              have qc222 : (v3).toInt ≠ 19 := z_ne c222
                                              refine lv_tableOut (pc := 33) (tgt := 891) hx hb dL_law_33 (by omega) (by decide) ?_
                                              obtain ⟨v229, ev229, h⟩ := z_lo h
                                              refine lv_iinc (pc := 891) (v := v229) (lv' := [(3, .int v229), (0, .ref b), (1, .ref (G.1 0)), (2, .ref (G.1 40))]) hx hb dL_law_891 hl (k := 3) rfl (by rw [ev229]; rfl) (by decide) rfl (fun ls hl => ?_)
                                              refine lv_goto (pc := 894) (tgt := 18) hx hb dL_law_894 (by decide) ?_
                                              exact ih v229 M H locs ls  hw (lv_sub hl [1, 2, 3, 0] rfl) h
