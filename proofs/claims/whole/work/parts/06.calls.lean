set_option maxRecDepth 20000 in
theorem k_L_9 : kJ RL 9 yX11_init cX11_init 1 0 := ⟨⟨WS_of (T1 18 (by decide +kernel)) (by decide +kernel), WS_of (T1 19 (by decide +kernel)) (by decide +kernel), WS_of (T1 1 (by decide +kernel)) (by decide +kernel), WS_of (T1 20 (by decide +kernel)) (by decide +kernel)⟩, rfl, by decide +kernel⟩
set_option maxRecDepth 20000 in
theorem k_X11_11 : kI RX11 11 yX4_init cX4_init 1 0 := ⟨⟨by decide +kernel, WS_of (T1 27 (by decide +kernel)) (by decide +kernel), WS_of (T1 2 (by decide +kernel)) (by decide +kernel), WS_of (T1 28 (by decide +kernel)) (by decide +kernel)⟩, rfl, by decide +kernel⟩
set_option maxRecDepth 20000 in
theorem k_X11_18 : kI RX11 18 yX1_init cX1_init 1 0 := ⟨⟨by decide +kernel, WS_of (T1 45 (by decide +kernel)) (by decide +kernel), WS_of (T1 3 (by decide +kernel)) (by decide +kernel), WS_of (T1 46 (by decide +kernel)) (by decide +kernel)⟩, rfl, by decide +kernel⟩
set_option maxRecDepth 20000 in
theorem k_X11_25 : kI RX11 25 yX10_init cX10_init 1 0 := ⟨⟨by decide +kernel, WS_of (T1 96 (by decide +kernel)) (by decide +kernel), WS_of (T1 4 (by decide +kernel)) (by decide +kernel), WS_of (T1 97 (by decide +kernel)) (by decide +kernel)⟩, rfl, by decide +kernel⟩
set_option maxRecDepth 20000 in
theorem k_X11_32 : kI RX11 32 yX8_init cX8_init 1 0 := ⟨⟨by decide +kernel, WS_of (T1 120 (by decide +kernel)) (by decide +kernel), WS_of (T1 5 (by decide +kernel)) (by decide +kernel), WS_of (T1 121 (by decide +kernel)) (by decide +kernel)⟩, rfl, by decide +kernel⟩
set_option maxRecDepth 20000 in
theorem k_X11_39 : kI RX11 39 yX3_init cX3_init 1 0 := ⟨⟨by decide +kernel, WS_of (T1 145 (by decide +kernel)) (by decide +kernel), WS_of (T1 6 (by decide +kernel)) (by decide +kernel), WS_of (T1 146 (by decide +kernel)) (by decide +kernel)⟩, rfl, by decide +kernel⟩
set_option maxRecDepth 20000 in
theorem k_X3_9 : kI RX3 9 yX1_init cX1_init 1 0 := ⟨⟨by decide +kernel, WS_of (T1 45 (by decide +kernel)) (by decide +kernel), WS_of (T1 3 (by decide +kernel)) (by decide +kernel), WS_of (T1 46 (by decide +kernel)) (by decide +kernel)⟩, rfl, by decide +kernel⟩
set_option maxRecDepth 20000 in
theorem k_X3_18 : kI RX3 18 yX10_init cX10_init 1 0 := ⟨⟨by decide +kernel, WS_of (T1 96 (by decide +kernel)) (by decide +kernel), WS_of (T1 4 (by decide +kernel)) (by decide +kernel), WS_of (T1 97 (by decide +kernel)) (by decide +kernel)⟩, rfl, by decide +kernel⟩
set_option maxRecDepth 20000 in
theorem k_X3_25 : kI RX3 25 yX8_init cX8_init 1 0 := ⟨⟨by decide +kernel, WS_of (T1 120 (by decide +kernel)) (by decide +kernel), WS_of (T1 5 (by decide +kernel)) (by decide +kernel), WS_of (T1 121 (by decide +kernel)) (by decide +kernel)⟩, rfl, by decide +kernel⟩
set_option maxRecDepth 20000 in
theorem k_X11_46 : kI RX11 46 yX6_init cX6_init 1 0 := ⟨⟨by decide +kernel, WS_of (T1 174 (by decide +kernel)) (by decide +kernel), WS_of (T1 7 (by decide +kernel)) (by decide +kernel), WS_of (T1 175 (by decide +kernel)) (by decide +kernel)⟩, rfl, by decide +kernel⟩
set_option maxRecDepth 20000 in
theorem k_X11_53 : kI RX11 53 yX7_init cX7_init 1 0 := ⟨⟨by decide +kernel, WS_of (T1 218 (by decide +kernel)) (by decide +kernel), WS_of (T1 8 (by decide +kernel)) (by decide +kernel), WS_of (T1 219 (by decide +kernel)) (by decide +kernel)⟩, rfl, by decide +kernel⟩
set_option maxRecDepth 20000 in
theorem k_X11_60 : kI RX11 60 yX2_init cX2_init 1 0 := ⟨⟨by decide +kernel, WS_of (T2 3 (by decide +kernel)) (by decide +kernel), WS_of (T1 9 (by decide +kernel)) (by decide +kernel), WS_of (T2 4 (by decide +kernel)) (by decide +kernel)⟩, rfl, by decide +kernel⟩
set_option maxRecDepth 20000 in
theorem k_X11_67 : kI RX11 67 yX5_init cX5_init 1 0 := ⟨⟨by decide +kernel, WS_of (T2 33 (by decide +kernel)) (by decide +kernel), WS_of (T1 10 (by decide +kernel)) (by decide +kernel), WS_of (T2 34 (by decide +kernel)) (by decide +kernel)⟩, rfl, by decide +kernel⟩
set_option maxRecDepth 20000 in
theorem k_X11_74 : kI RX11 74 yX9_init cX9_init 1 0 := ⟨⟨by decide +kernel, WS_of (T2 52 (by decide +kernel)) (by decide +kernel), WS_of (T1 11 (by decide +kernel)) (by decide +kernel), WS_of (T2 53 (by decide +kernel)) (by decide +kernel)⟩, rfl, by decide +kernel⟩
set_option maxRecDepth 20000 in
theorem k_X11_81 : kI RX11 81 yX0_init cX0_init 1 0 := ⟨⟨by decide +kernel, WS_of (T2 83 (by decide +kernel)) (by decide +kernel), WS_of (T1 12 (by decide +kernel)) (by decide +kernel), WS_of (T2 84 (by decide +kernel)) (by decide +kernel)⟩, rfl, by decide +kernel⟩
set_option maxRecDepth 20000 in
theorem k_L_13 : kV RL 13 RX11 yX11_places cX11_places 3 (some .int) 1 := ⟨⟨WS_of (T2 173 (by decide +kernel)) (by decide +kernel), WS_of (T2 174 (by decide +kernel)) (by decide +kernel), WS_of (T2 175 (by decide +kernel)) (by decide +kernel), WS_of (T1 1 (by decide +kernel)) (by decide +kernel), WS_of (T2 176 (by decide +kernel)) (by decide +kernel)⟩, by decide +kernel⟩
set_option maxRecDepth 20000 in
theorem k_X11_108 : kV RX11 108 RX1 yX1_hangAnew cX1_hangAnew 2 none 1 := ⟨⟨WS_of (T2 177 (by decide +kernel)) (by decide +kernel), WS_of (T2 178 (by decide +kernel)) (by decide +kernel), WS_of (T2 179 (by decide +kernel)) (by decide +kernel), WS_of (T1 3 (by decide +kernel)) (by decide +kernel), WS_of (T2 180 (by decide +kernel)) (by decide +kernel)⟩, by decide +kernel⟩
set_option maxRecDepth 20000 in
theorem k_L_18 : kV RL 18 RX11 yX11_pail cX11_pail 6 (some .int) 3 := ⟨⟨WS_of (T2 181 (by decide +kernel)) (by decide +kernel), WS_of (T2 182 (by decide +kernel)) (by decide +kernel), WS_of (T2 183 (by decide +kernel)) (by decide +kernel), WS_of (T1 1 (by decide +kernel)) (by decide +kernel), WS_of (T2 184 (by decide +kernel)) (by decide +kernel)⟩, by decide +kernel⟩
set_option maxRecDepth 20000 in
theorem k_X11_115 : kV RX11 115 RX11 yX11_isThere cX11_isThere 2 (some .boolean) 1 := ⟨⟨WS_of (T2 185 (by decide +kernel)) (by decide +kernel), WS_of (T2 187 (by decide +kernel)) (by decide +kernel), WS_sel (q := (⟨"PailChain", "isThere", "(I)Z"⟩, 17)) (by decide +kernel) (by decide +kernel), WS_of (T1 1 (by decide +kernel)) (by decide +kernel), WS_of (T2 188 (by decide +kernel)) (by decide +kernel)⟩, by decide +kernel⟩
set_option maxRecDepth 20000 in
theorem k_X11_125 : kV RX11 125 RX1 yX1_placeOf cX1_placeOf 4 (some .int) 2 := ⟨⟨WS_of (T2 189 (by decide +kernel)) (by decide +kernel), WS_of (T2 190 (by decide +kernel)) (by decide +kernel), WS_of (T2 191 (by decide +kernel)) (by decide +kernel), WS_of (T1 3 (by decide +kernel)) (by decide +kernel), WS_of (T2 192 (by decide +kernel)) (by decide +kernel)⟩, by decide +kernel⟩
set_option maxRecDepth 20000 in
theorem k_X11_133 : kS RX11 133 yX11_lane cX11_lane 3 (some .int) 2 := ⟨⟨WS_of (T2 193 (by decide +kernel)) (by decide +kernel), WS_of (T2 194 (by decide +kernel)) (by decide +kernel), WS_of (T1 1 (by decide +kernel)) (by decide +kernel), WS_of (T2 195 (by decide +kernel)) (by decide +kernel)⟩, by decide +kernel⟩
set_option maxRecDepth 20000 in
theorem k_X11_137 : kS RX11 137 yX11_withLane cX11_withLane 4 (some .long) 3 := ⟨⟨WS_of (T2 197 (by decide +kernel)) (by decide +kernel), WS_of (T2 198 (by decide +kernel)) (by decide +kernel), WS_of (T1 1 (by decide +kernel)) (by decide +kernel), WS_of (T2 199 (by decide +kernel)) (by decide +kernel)⟩, by decide +kernel⟩
set_option maxRecDepth 20000 in
theorem k_L_23 : kV RL 23 RX11 yX11_door cX11_door 4 (some .int) 2 := ⟨⟨WS_of (T2 201 (by decide +kernel)) (by decide +kernel), WS_of (T2 202 (by decide +kernel)) (by decide +kernel), WS_of (T2 203 (by decide +kernel)) (by decide +kernel), WS_of (T1 1 (by decide +kernel)) (by decide +kernel), WS_of (T2 204 (by decide +kernel)) (by decide +kernel)⟩, by decide +kernel⟩
set_option maxRecDepth 20000 in
theorem k_X11_147 : kS RX11 147 yX11_flag cX11_flag 1 (some .long) 1 := ⟨⟨WS_of (T2 205 (by decide +kernel)) (by decide +kernel), WS_of (T2 206 (by decide +kernel)) (by decide +kernel), WS_of (T1 1 (by decide +kernel)) (by decide +kernel), WS_of (T2 207 (by decide +kernel)) (by decide +kernel)⟩, by decide +kernel⟩
set_option maxRecDepth 20000 in
theorem k_L_28 : kV RL 28 RX11 yX11_deep cX11_deep 3 (some .int) 1 := ⟨⟨WS_of (T2 209 (by decide +kernel)) (by decide +kernel), WS_of (T2 210 (by decide +kernel)) (by decide +kernel), WS_of (T2 211 (by decide +kernel)) (by decide +kernel), WS_of (T1 1 (by decide +kernel)) (by decide +kernel), WS_of (T2 212 (by decide +kernel)) (by decide +kernel)⟩, by decide +kernel⟩
set_option maxRecDepth 20000 in
theorem k_X11_153 : kV RX11 153 RX1 yX1_highest cX1_highest 3 (some .int) 0 := ⟨⟨WS_of (T2 213 (by decide +kernel)) (by decide +kernel), WS_of (T2 214 (by decide +kernel)) (by decide +kernel), WS_of (T2 215 (by decide +kernel)) (by decide +kernel), WS_of (T1 3 (by decide +kernel)) (by decide +kernel), WS_of (T2 216 (by decide +kernel)) (by decide +kernel)⟩, by decide +kernel⟩
set_option maxRecDepth 20000 in
theorem k_X1_33 : kN RX1 33 yX11_lane cX11_lane 3 (some .int) 2 := ⟨⟨by decide +kernel, WS_of (T2 194 (by decide +kernel)) (by decide +kernel), WS_of (T1 1 (by decide +kernel)) (by decide +kernel), WS_of (T2 195 (by decide +kernel)) (by decide +kernel)⟩, by decide +kernel⟩
set_option maxRecDepth 20000 in
theorem k_L_32 : kV RL 32 RX11 yX11_say cX11_say 2 (some .int) 1 := ⟨⟨WS_of (T2 221 (by decide +kernel)) (by decide +kernel), WS_of (T2 222 (by decide +kernel)) (by decide +kernel), WS_of (T2 223 (by decide +kernel)) (by decide +kernel), WS_of (T1 1 (by decide +kernel)) (by decide +kernel), WS_of (T2 224 (by decide +kernel)) (by decide +kernel)⟩, by decide +kernel⟩
set_option maxRecDepth 20000 in
theorem k_X11_157 : kV RX11 157 RX4 yX4_put cX4_put 2 (some .boolean) 1 := ⟨⟨WS_of (T2 225 (by decide +kernel)) (by decide +kernel), WS_of (T2 226 (by decide +kernel)) (by decide +kernel), WS_of (T2 227 (by decide +kernel)) (by decide +kernel), WS_of (T1 2 (by decide +kernel)) (by decide +kernel), WS_of (T2 228 (by decide +kernel)) (by decide +kernel)⟩, by decide +kernel⟩
set_option maxRecDepth 20000 in
theorem k_L_36 : kV RL 36 RX11 yX11_wipe cX11_wipe 2 (some .int) 0 := ⟨⟨WS_of (T2 229 (by decide +kernel)) (by decide +kernel), WS_of (T2 230 (by decide +kernel)) (by decide +kernel), WS_of (T2 231 (by decide +kernel)) (by decide +kernel), WS_of (T1 1 (by decide +kernel)) (by decide +kernel), WS_of (T2 232 (by decide +kernel)) (by decide +kernel)⟩, by decide +kernel⟩
set_option maxRecDepth 20000 in
theorem k_L_41 : kV RL 41 RX11 yX11_fault cX11_fault 1 (some .int) 0 := ⟨⟨WS_of (T2 233 (by decide +kernel)) (by decide +kernel), WS_of (T2 234 (by decide +kernel)) (by decide +kernel), WS_of (T2 235 (by decide +kernel)) (by decide +kernel), WS_of (T1 1 (by decide +kernel)) (by decide +kernel), WS_of (T2 236 (by decide +kernel)) (by decide +kernel)⟩, by decide +kernel⟩
set_option maxRecDepth 20000 in
theorem k_X11_161 : kV RX11 161 RX4 yX4_firstFault cX4_firstFault 2 (some .int) 0 := ⟨⟨WS_of (T2 237 (by decide +kernel)) (by decide +kernel), WS_of (T2 238 (by decide +kernel)) (by decide +kernel), WS_of (T2 239 (by decide +kernel)) (by decide +kernel), WS_of (T1 2 (by decide +kernel)) (by decide +kernel), WS_of (T3 0 (by decide +kernel)) (by decide +kernel)⟩, by decide +kernel⟩
set_option maxRecDepth 20000 in
theorem k_L_45 : kV RL 45 RX11 yX11_pull cX11_pull 2 (some .int) 0 := ⟨⟨WS_of (T3 1 (by decide +kernel)) (by decide +kernel), WS_of (T3 2 (by decide +kernel)) (by decide +kernel), WS_of (T3 3 (by decide +kernel)) (by decide +kernel), WS_of (T1 1 (by decide +kernel)) (by decide +kernel), WS_of (T3 4 (by decide +kernel)) (by decide +kernel)⟩, by decide +kernel⟩
set_option maxRecDepth 20000 in
theorem k_X11_164 : kV RX11 164 RX1 yX1_servedBits cX1_servedBits 5 (some .int) 1 := ⟨⟨WS_of (T3 5 (by decide +kernel)) (by decide +kernel), WS_of (T3 6 (by decide +kernel)) (by decide +kernel), WS_of (T3 7 (by decide +kernel)) (by decide +kernel), WS_of (T1 3 (by decide +kernel)) (by decide +kernel), WS_of (T3 8 (by decide +kernel)) (by decide +kernel)⟩, by decide +kernel⟩
set_option maxRecDepth 20000 in
theorem k_X1_43 : kN RX1 43 yX11_flag cX11_flag 1 (some .long) 1 := ⟨⟨by decide +kernel, WS_of (T2 206 (by decide +kernel)) (by decide +kernel), WS_of (T1 1 (by decide +kernel)) (by decide +kernel), WS_of (T2 207 (by decide +kernel)) (by decide +kernel)⟩, by decide +kernel⟩
set_option maxRecDepth 20000 in
theorem k_X11_168 : kV RX11 168 RX11 yX11_runPad cX11_runPad 2 none 0 := ⟨⟨WS_of (T3 10 (by decide +kernel)) (by decide +kernel), WS_of (T3 12 (by decide +kernel)) (by decide +kernel), WS_sel (q := (⟨"PailChain", "runPad", "()V"⟩, 17)) (by decide +kernel) (by decide +kernel), WS_of (T1 1 (by decide +kernel)) (by decide +kernel), WS_of (T3 13 (by decide +kernel)) (by decide +kernel)⟩, by decide +kernel⟩
set_option maxRecDepth 20000 in
theorem k_X11_257 : kV RX11 257 RX6 yX6_begin cX6_begin 3 none 1 := ⟨⟨WS_of (T3 14 (by decide +kernel)) (by decide +kernel), WS_of (T3 15 (by decide +kernel)) (by decide +kernel), WS_of (T3 16 (by decide +kernel)) (by decide +kernel), WS_of (T1 7 (by decide +kernel)) (by decide +kernel), WS_of (T3 17 (by decide +kernel)) (by decide +kernel)⟩, by decide +kernel⟩
set_option maxRecDepth 20000 in
theorem k_X6_50 : kN RX6 50 yX11_flag cX11_flag 1 (some .long) 1 := ⟨⟨by decide +kernel, WS_of (T2 206 (by decide +kernel)) (by decide +kernel), WS_of (T1 1 (by decide +kernel)) (by decide +kernel), WS_of (T2 207 (by decide +kernel)) (by decide +kernel)⟩, by decide +kernel⟩
set_option maxRecDepth 20000 in
theorem k_X11_265 : kV RX11 265 RX6 yX6_move cX6_move 8 none 1 := ⟨⟨WS_of (T3 19 (by decide +kernel)) (by decide +kernel), WS_of (T3 20 (by decide +kernel)) (by decide +kernel), WS_of (T3 21 (by decide +kernel)) (by decide +kernel), WS_of (T1 7 (by decide +kernel)) (by decide +kernel), WS_of (T3 22 (by decide +kernel)) (by decide +kernel)⟩, by decide +kernel⟩
set_option maxRecDepth 20000 in
theorem k_X6_57 : kV RX6 57 RX6 yX6_turnBehind cX6_turnBehind 3 (some .int) 2 := ⟨⟨WS_of (T3 23 (by decide +kernel)) (by decide +kernel), WS_of (T3 25 (by decide +kernel)) (by decide +kernel), WS_sel (q := (⟨"PailChain$Run", "turnBehind", "(II)I"⟩, 10)) (by decide +kernel) (by decide +kernel), WS_of (T1 7 (by decide +kernel)) (by decide +kernel), WS_of (T3 26 (by decide +kernel)) (by decide +kernel)⟩, by decide +kernel⟩
set_option maxRecDepth 20000 in
theorem k_X6_61 : kV RX6 61 RX1 yX1_turned cX1_turned 7 (some .long) 2 := ⟨⟨WS_of (T3 27 (by decide +kernel)) (by decide +kernel), WS_of (T3 28 (by decide +kernel)) (by decide +kernel), WS_of (T3 29 (by decide +kernel)) (by decide +kernel), WS_of (T1 3 (by decide +kernel)) (by decide +kernel), WS_of (T3 30 (by decide +kernel)) (by decide +kernel)⟩, by decide +kernel⟩
set_option maxRecDepth 20000 in
theorem k_X6_65 : kV RX6 65 RX1 yX1_leaked cX1_leaked 7 (some .long) 2 := ⟨⟨WS_of (T3 35 (by decide +kernel)) (by decide +kernel), WS_of (T3 36 (by decide +kernel)) (by decide +kernel), WS_of (T3 37 (by decide +kernel)) (by decide +kernel), WS_of (T1 3 (by decide +kernel)) (by decide +kernel), WS_of (T3 38 (by decide +kernel)) (by decide +kernel)⟩, by decide +kernel⟩
set_option maxRecDepth 20000 in
theorem k_X1_55 : kN RX1 55 yX11_numbersOf cX11_numbersOf 2 (some .long) 1 := ⟨⟨by decide +kernel, WS_of (T3 40 (by decide +kernel)) (by decide +kernel), WS_of (T1 1 (by decide +kernel)) (by decide +kernel), WS_of (T3 41 (by decide +kernel)) (by decide +kernel)⟩, by decide +kernel⟩
set_option maxRecDepth 20000 in
theorem k_X6_68 : kV RX6 68 RX1 yX1_filled cX1_filled 3 (some .long) 1 := ⟨⟨WS_of (T3 42 (by decide +kernel)) (by decide +kernel), WS_of (T3 43 (by decide +kernel)) (by decide +kernel), WS_of (T3 44 (by decide +kernel)) (by decide +kernel), WS_of (T1 3 (by decide +kernel)) (by decide +kernel), WS_of (T3 45 (by decide +kernel)) (by decide +kernel)⟩, by decide +kernel⟩
set_option maxRecDepth 20000 in
theorem k_X6_72 : kV RX6 72 RX1 yX1_drunk cX1_drunk 7 (some .long) 1 := ⟨⟨WS_of (T3 47 (by decide +kernel)) (by decide +kernel), WS_of (T3 48 (by decide +kernel)) (by decide +kernel), WS_of (T3 49 (by decide +kernel)) (by decide +kernel), WS_of (T1 3 (by decide +kernel)) (by decide +kernel), WS_of (T3 50 (by decide +kernel)) (by decide +kernel)⟩, by decide +kernel⟩
set_option maxRecDepth 20000 in
theorem k_X6_74 : kN RX6 74 yX11_sum cX11_sum 4 (some .int) 1 := ⟨⟨by decide +kernel, WS_of (T3 52 (by decide +kernel)) (by decide +kernel), WS_of (T1 1 (by decide +kernel)) (by decide +kernel), WS_of (T3 53 (by decide +kernel)) (by decide +kernel)⟩, by decide +kernel⟩
set_option maxRecDepth 20000 in
theorem k_X6_82 : kV RX6 82 RX6 yX6_note cX6_note 4 none 1 := ⟨⟨WS_of (T3 56 (by decide +kernel)) (by decide +kernel), WS_of (T3 58 (by decide +kernel)) (by decide +kernel), WS_sel (q := (⟨"PailChain$Run", "note", "(J)V"⟩, 10)) (by decide +kernel) (by decide +kernel), WS_of (T1 7 (by decide +kernel)) (by decide +kernel), WS_of (T3 59 (by decide +kernel)) (by decide +kernel)⟩, by decide +kernel⟩
set_option maxRecDepth 20000 in
theorem k_L_49 : kV RL 49 RX11 yX11_behind cX11_behind 4 (some .int) 2 := ⟨⟨WS_of (T3 60 (by decide +kernel)) (by decide +kernel), WS_of (T3 61 (by decide +kernel)) (by decide +kernel), WS_of (T3 62 (by decide +kernel)) (by decide +kernel), WS_of (T1 1 (by decide +kernel)) (by decide +kernel), WS_of (T3 63 (by decide +kernel)) (by decide +kernel)⟩, by decide +kernel⟩
set_option maxRecDepth 20000 in
theorem k_L_53 : kV RL 53 RX11 yX11_after cX11_after 3 (some .int) 1 := ⟨⟨WS_of (T3 64 (by decide +kernel)) (by decide +kernel), WS_of (T3 65 (by decide +kernel)) (by decide +kernel), WS_of (T3 66 (by decide +kernel)) (by decide +kernel), WS_of (T1 1 (by decide +kernel)) (by decide +kernel), WS_of (T3 67 (by decide +kernel)) (by decide +kernel)⟩, by decide +kernel⟩
set_option maxRecDepth 20000 in
theorem k_X11_183 : kV RX11 183 RX6 yX6_pullsTill cX6_pullsTill 2 (some .int) 1 := ⟨⟨WS_of (T3 68 (by decide +kernel)) (by decide +kernel), WS_of (T3 69 (by decide +kernel)) (by decide +kernel), WS_of (T3 70 (by decide +kernel)) (by decide +kernel), WS_of (T1 7 (by decide +kernel)) (by decide +kernel), WS_of (T3 71 (by decide +kernel)) (by decide +kernel)⟩, by decide +kernel⟩
set_option maxRecDepth 20000 in
theorem k_L_57 : kV RL 57 RX11 yX11_fewest cX11_fewest 2 (some .int) 1 := ⟨⟨WS_of (T3 72 (by decide +kernel)) (by decide +kernel), WS_of (T3 73 (by decide +kernel)) (by decide +kernel), WS_of (T3 74 (by decide +kernel)) (by decide +kernel), WS_of (T1 1 (by decide +kernel)) (by decide +kernel), WS_of (T3 75 (by decide +kernel)) (by decide +kernel)⟩, by decide +kernel⟩
set_option maxRecDepth 20000 in
theorem k_X11_189 : kV RX11 189 RX7 yX7_look cX7_look 9 none 5 := ⟨⟨WS_of (T3 77 (by decide +kernel)) (by decide +kernel), WS_of (T3 78 (by decide +kernel)) (by decide +kernel), WS_of (T3 79 (by decide +kernel)) (by decide +kernel), WS_of (T1 8 (by decide +kernel)) (by decide +kernel), WS_of (T3 80 (by decide +kernel)) (by decide +kernel)⟩, by decide +kernel⟩
set_option maxRecDepth 20000 in
theorem k_X7_29 : kV RX7 29 RX7 yX7_canAll cX7_canAll 6 (some .boolean) 2 := ⟨⟨WS_of (T3 81 (by decide +kernel)) (by decide +kernel), WS_of (T3 83 (by decide +kernel)) (by decide +kernel), WS_sel (q := (⟨"PailChain$Seek", "canAll", "(JJ)Z"⟩, 5)) (by decide +kernel) (by decide +kernel), WS_of (T1 8 (by decide +kernel)) (by decide +kernel), WS_of (T3 84 (by decide +kernel)) (by decide +kernel)⟩, by decide +kernel⟩
set_option maxRecDepth 20000 in
theorem k_X7_54 : kN RX7 54 yX11_flag cX11_flag 1 (some .long) 1 := ⟨⟨by decide +kernel, WS_of (T2 206 (by decide +kernel)) (by decide +kernel), WS_of (T1 1 (by decide +kernel)) (by decide +kernel), WS_of (T2 207 (by decide +kernel)) (by decide +kernel)⟩, by decide +kernel⟩
set_option maxRecDepth 20000 in
theorem k_X7_58 : kV RX7 58 RX7 yX7_canOne cX7_canOne 11 (some .boolean) 3 := ⟨⟨WS_of (T3 86 (by decide +kernel)) (by decide +kernel), WS_of (T3 88 (by decide +kernel)) (by decide +kernel), WS_sel (q := (⟨"PailChain$Seek", "canOne", "(IJJ)Z"⟩, 5)) (by decide +kernel) (by decide +kernel), WS_of (T1 8 (by decide +kernel)) (by decide +kernel), WS_of (T3 89 (by decide +kernel)) (by decide +kernel)⟩, by decide +kernel⟩
set_option maxRecDepth 20000 in
theorem k_X7_65 : kN RX7 65 yX11_lane cX11_lane 3 (some .int) 2 := ⟨⟨by decide +kernel, WS_of (T2 194 (by decide +kernel)) (by decide +kernel), WS_of (T1 1 (by decide +kernel)) (by decide +kernel), WS_of (T2 195 (by decide +kernel)) (by decide +kernel)⟩, by decide +kernel⟩
set_option maxRecDepth 20000 in
theorem k_X7_69 : kV RX7 69 RX7 yX7_way cX7_way 4 (some .int) 2 := ⟨⟨WS_of (T3 91 (by decide +kernel)) (by decide +kernel), WS_of (T3 93 (by decide +kernel)) (by decide +kernel), WS_sel (q := (⟨"PailChain$Seek", "way", "(II)I"⟩, 5)) (by decide +kernel) (by decide +kernel), WS_of (T1 8 (by decide +kernel)) (by decide +kernel), WS_of (T3 94 (by decide +kernel)) (by decide +kernel)⟩, by decide +kernel⟩
set_option maxRecDepth 20000 in
theorem k_X7_33 : kS RX7 33 yX7_seekOn cX7_seekOn 12 none 5 := ⟨⟨WS_of (T3 102 (by decide +kernel)) (by decide +kernel), WS_of (T3 103 (by decide +kernel)) (by decide +kernel), WS_of (T1 8 (by decide +kernel)) (by decide +kernel), WS_of (T3 104 (by decide +kernel)) (by decide +kernel)⟩, by decide +kernel⟩
set_option maxRecDepth 20000 in
theorem k_X7_41 : kV RX7 41 RX1 yX1_turned cX1_turned 7 (some .long) 2 := ⟨⟨WS_of (T3 107 (by decide +kernel)) (by decide +kernel), WS_of (T3 28 (by decide +kernel)) (by decide +kernel), WS_of (T3 29 (by decide +kernel)) (by decide +kernel), WS_of (T1 3 (by decide +kernel)) (by decide +kernel), WS_of (T3 30 (by decide +kernel)) (by decide +kernel)⟩, by decide +kernel⟩
set_option maxRecDepth 20000 in
theorem k_X7_47 : kV RX7 47 RX1 yX1_step cX1_step 5 (some .long) 2 := ⟨⟨WS_of (T3 108 (by decide +kernel)) (by decide +kernel), WS_of (T3 109 (by decide +kernel)) (by decide +kernel), WS_of (T3 110 (by decide +kernel)) (by decide +kernel), WS_of (T1 3 (by decide +kernel)) (by decide +kernel), WS_of (T3 111 (by decide +kernel)) (by decide +kernel)⟩, by decide +kernel⟩
set_option maxRecDepth 20000 in
theorem k_X1_61 : kV RX1 61 RX1 yX1_leaked cX1_leaked 7 (some .long) 2 := ⟨⟨WS_of (T3 112 (by decide +kernel)) (by decide +kernel), WS_of (T3 36 (by decide +kernel)) (by decide +kernel), WS_of (T3 37 (by decide +kernel)) (by decide +kernel), WS_of (T1 3 (by decide +kernel)) (by decide +kernel), WS_of (T3 38 (by decide +kernel)) (by decide +kernel)⟩, by decide +kernel⟩
set_option maxRecDepth 20000 in
theorem k_X1_65 : kV RX1 65 RX1 yX1_filled cX1_filled 3 (some .long) 1 := ⟨⟨WS_of (T3 113 (by decide +kernel)) (by decide +kernel), WS_of (T3 43 (by decide +kernel)) (by decide +kernel), WS_of (T3 44 (by decide +kernel)) (by decide +kernel), WS_of (T1 3 (by decide +kernel)) (by decide +kernel), WS_of (T3 45 (by decide +kernel)) (by decide +kernel)⟩, by decide +kernel⟩
set_option maxRecDepth 20000 in
theorem k_X1_68 : kV RX1 68 RX1 yX1_drunk cX1_drunk 7 (some .long) 1 := ⟨⟨WS_of (T3 114 (by decide +kernel)) (by decide +kernel), WS_of (T3 48 (by decide +kernel)) (by decide +kernel), WS_of (T3 49 (by decide +kernel)) (by decide +kernel), WS_of (T1 3 (by decide +kernel)) (by decide +kernel), WS_of (T3 50 (by decide +kernel)) (by decide +kernel)⟩, by decide +kernel⟩
set_option maxRecDepth 20000 in
theorem k_L_61 : kV RL 61 RX11 yX11_soon cX11_soon 2 (some .int) 1 := ⟨⟨WS_of (T3 116 (by decide +kernel)) (by decide +kernel), WS_of (T3 117 (by decide +kernel)) (by decide +kernel), WS_of (T3 118 (by decide +kernel)) (by decide +kernel), WS_of (T1 1 (by decide +kernel)) (by decide +kernel), WS_of (T3 119 (by decide +kernel)) (by decide +kernel)⟩, by decide +kernel⟩
set_option maxRecDepth 20000 in
theorem k_L_65 : kV RL 65 RX11 yX11_hung cX11_hung 2 (some .int) 1 := ⟨⟨WS_of (T3 120 (by decide +kernel)) (by decide +kernel), WS_of (T3 121 (by decide +kernel)) (by decide +kernel), WS_of (T3 122 (by decide +kernel)) (by decide +kernel), WS_of (T1 1 (by decide +kernel)) (by decide +kernel), WS_of (T3 123 (by decide +kernel)) (by decide +kernel)⟩, by decide +kernel⟩
set_option maxRecDepth 20000 in
theorem k_X11_203 : kV RX11 203 RX2 yX2_look cX2_look 3 none 2 := ⟨⟨WS_of (T3 124 (by decide +kernel)) (by decide +kernel), WS_of (T3 125 (by decide +kernel)) (by decide +kernel), WS_of (T3 126 (by decide +kernel)) (by decide +kernel), WS_of (T1 9 (by decide +kernel)) (by decide +kernel), WS_of (T3 127 (by decide +kernel)) (by decide +kernel)⟩, by decide +kernel⟩
set_option maxRecDepth 20000 in
theorem k_X2_45 : kS RX2 45 yX2_hangOn cX2_hangOn 8 none 4 := ⟨⟨WS_of (T3 129 (by decide +kernel)) (by decide +kernel), WS_of (T3 130 (by decide +kernel)) (by decide +kernel), WS_of (T1 9 (by decide +kernel)) (by decide +kernel), WS_of (T3 131 (by decide +kernel)) (by decide +kernel)⟩, by decide +kernel⟩
set_option maxRecDepth 20000 in
theorem k_X2_52 : kV RX2 52 RX7 yX7_look cX7_look 9 none 5 := ⟨⟨WS_of (T3 132 (by decide +kernel)) (by decide +kernel), WS_of (T3 78 (by decide +kernel)) (by decide +kernel), WS_of (T3 79 (by decide +kernel)) (by decide +kernel), WS_of (T1 8 (by decide +kernel)) (by decide +kernel), WS_of (T3 80 (by decide +kernel)) (by decide +kernel)⟩, by decide +kernel⟩
set_option maxRecDepth 20000 in
theorem k_X2_58 : kV RX2 58 RX2 yX2_keepBetter cX2_keepBetter 1 none 0 := ⟨⟨WS_of (T3 133 (by decide +kernel)) (by decide +kernel), WS_of (T3 135 (by decide +kernel)) (by decide +kernel), WS_sel (q := (⟨"PailChain$Hanging", "keepBetter", "()V"⟩, 7)) (by decide +kernel) (by decide +kernel), WS_of (T1 9 (by decide +kernel)) (by decide +kernel), WS_of (T3 136 (by decide +kernel)) (by decide +kernel)⟩, by decide +kernel⟩
set_option maxRecDepth 20000 in
theorem k_X2_61 : kV RX2 61 RX2 yX2_isFirstOfItsLeak cX2_isFirstOfItsLeak 4 (some .boolean) 2 := ⟨⟨WS_of (T3 140 (by decide +kernel)) (by decide +kernel), WS_of (T3 142 (by decide +kernel)) (by decide +kernel), WS_sel (q := (⟨"PailChain$Hanging", "isFirstOfItsLeak", "(II)Z"⟩, 7)) (by decide +kernel) (by decide +kernel), WS_of (T1 9 (by decide +kernel)) (by decide +kernel), WS_of (T3 143 (by decide +kernel)) (by decide +kernel)⟩, by decide +kernel⟩
set_option maxRecDepth 20000 in
theorem k_X2_65 : kV RX2 65 RX2 yX2_leakOf cX2_leakOf 2 (some .int) 1 := ⟨⟨WS_of (T3 144 (by decide +kernel)) (by decide +kernel), WS_of (T3 146 (by decide +kernel)) (by decide +kernel), WS_sel (q := (⟨"PailChain$Hanging", "leakOf", "(I)I"⟩, 7)) (by decide +kernel) (by decide +kernel), WS_of (T1 9 (by decide +kernel)) (by decide +kernel), WS_of (T3 147 (by decide +kernel)) (by decide +kernel)⟩, by decide +kernel⟩
set_option maxRecDepth 20000 in
theorem k_X2_82 : kV RX2 82 RX1 yX1_placeOf cX1_placeOf 4 (some .int) 2 := ⟨⟨WS_of (T3 148 (by decide +kernel)) (by decide +kernel), WS_of (T2 190 (by decide +kernel)) (by decide +kernel), WS_of (T2 191 (by decide +kernel)) (by decide +kernel), WS_of (T1 3 (by decide +kernel)) (by decide +kernel), WS_of (T2 192 (by decide +kernel)) (by decide +kernel)⟩, by decide +kernel⟩
set_option maxRecDepth 20000 in
theorem k_X2_86 : kN RX2 86 yX11_lane cX11_lane 3 (some .int) 2 := ⟨⟨by decide +kernel, WS_of (T2 194 (by decide +kernel)) (by decide +kernel), WS_of (T1 1 (by decide +kernel)) (by decide +kernel), WS_of (T2 195 (by decide +kernel)) (by decide +kernel)⟩, by decide +kernel⟩
set_option maxRecDepth 20000 in
theorem k_L_69 : kV RL 69 RX11 yX11_race cX11_race 4 (some .int) 3 := ⟨⟨WS_of (T3 150 (by decide +kernel)) (by decide +kernel), WS_of (T3 151 (by decide +kernel)) (by decide +kernel), WS_of (T3 152 (by decide +kernel)) (by decide +kernel), WS_of (T1 1 (by decide +kernel)) (by decide +kernel), WS_of (T3 153 (by decide +kernel)) (by decide +kernel)⟩, by decide +kernel⟩
set_option maxRecDepth 20000 in
theorem k_X11_210 : kV RX11 210 RX5 yX5_winner cX5_winner 8 (some .int) 4 := ⟨⟨WS_of (T3 154 (by decide +kernel)) (by decide +kernel), WS_of (T3 155 (by decide +kernel)) (by decide +kernel), WS_of (T3 156 (by decide +kernel)) (by decide +kernel), WS_of (T1 10 (by decide +kernel)) (by decide +kernel), WS_of (T3 157 (by decide +kernel)) (by decide +kernel)⟩, by decide +kernel⟩
set_option maxRecDepth 20000 in
theorem k_X5_34 : kS RX5 34 yX5_sureOf cX5_sureOf 20 (some .int) 6 := ⟨⟨WS_of (T3 158 (by decide +kernel)) (by decide +kernel), WS_of (T3 159 (by decide +kernel)) (by decide +kernel), WS_of (T1 10 (by decide +kernel)) (by decide +kernel), WS_of (T3 160 (by decide +kernel)) (by decide +kernel)⟩, by decide +kernel⟩
set_option maxRecDepth 20000 in
theorem k_X5_42 : kV RX5 42 RX1 yX1_turned cX1_turned 7 (some .long) 2 := ⟨⟨WS_of (T3 162 (by decide +kernel)) (by decide +kernel), WS_of (T3 28 (by decide +kernel)) (by decide +kernel), WS_of (T3 29 (by decide +kernel)) (by decide +kernel), WS_of (T1 3 (by decide +kernel)) (by decide +kernel), WS_of (T3 30 (by decide +kernel)) (by decide +kernel)⟩, by decide +kernel⟩
set_option maxRecDepth 20000 in
theorem k_X5_46 : kV RX5 46 RX1 yX1_step cX1_step 5 (some .long) 2 := ⟨⟨WS_of (T3 163 (by decide +kernel)) (by decide +kernel), WS_of (T3 109 (by decide +kernel)) (by decide +kernel), WS_of (T3 110 (by decide +kernel)) (by decide +kernel), WS_of (T1 3 (by decide +kernel)) (by decide +kernel), WS_of (T3 111 (by decide +kernel)) (by decide +kernel)⟩, by decide +kernel⟩
set_option maxRecDepth 20000 in
theorem k_L_73 : kV RL 73 RX11 yX11_widow cX11_widow 6 (some .long) 5 := ⟨⟨WS_of (T3 165 (by decide +kernel)) (by decide +kernel), WS_of (T3 166 (by decide +kernel)) (by decide +kernel), WS_of (T3 167 (by decide +kernel)) (by decide +kernel), WS_of (T1 1 (by decide +kernel)) (by decide +kernel), WS_of (T3 168 (by decide +kernel)) (by decide +kernel)⟩, by decide +kernel⟩
set_option maxRecDepth 20000 in
theorem k_X11_218 : kV RX11 218 RX9 yX9_look cX9_look 9 none 5 := ⟨⟨WS_of (T3 171 (by decide +kernel)) (by decide +kernel), WS_of (T3 172 (by decide +kernel)) (by decide +kernel), WS_of (T3 173 (by decide +kernel)) (by decide +kernel), WS_of (T1 11 (by decide +kernel)) (by decide +kernel), WS_of (T3 174 (by decide +kernel)) (by decide +kernel)⟩, by decide +kernel⟩
set_option maxRecDepth 20000 in
theorem k_X9_44 : kS RX9 44 yX9_ways cX9_ways 14 (some .long) 4 := ⟨⟨WS_of (T3 175 (by decide +kernel)) (by decide +kernel), WS_of (T3 176 (by decide +kernel)) (by decide +kernel), WS_of (T1 11 (by decide +kernel)) (by decide +kernel), WS_of (T3 177 (by decide +kernel)) (by decide +kernel)⟩, by decide +kernel⟩
set_option maxRecDepth 20000 in
theorem k_X9_56 : kV RX9 56 RX1 yX1_turned cX1_turned 7 (some .long) 2 := ⟨⟨WS_of (T3 179 (by decide +kernel)) (by decide +kernel), WS_of (T3 28 (by decide +kernel)) (by decide +kernel), WS_of (T3 29 (by decide +kernel)) (by decide +kernel), WS_of (T1 3 (by decide +kernel)) (by decide +kernel), WS_of (T3 30 (by decide +kernel)) (by decide +kernel)⟩, by decide +kernel⟩
set_option maxRecDepth 20000 in
theorem k_X9_60 : kV RX9 60 RX1 yX1_step cX1_step 5 (some .long) 2 := ⟨⟨WS_of (T3 180 (by decide +kernel)) (by decide +kernel), WS_of (T3 109 (by decide +kernel)) (by decide +kernel), WS_of (T3 110 (by decide +kernel)) (by decide +kernel), WS_of (T1 3 (by decide +kernel)) (by decide +kernel), WS_of (T3 111 (by decide +kernel)) (by decide +kernel)⟩, by decide +kernel⟩
set_option maxRecDepth 20000 in
theorem k_X9_48 : kS RX9 48 yX9_commonDivisor cX9_commonDivisor 11 (some .long) 2 := ⟨⟨WS_of (T3 181 (by decide +kernel)) (by decide +kernel), WS_of (T3 182 (by decide +kernel)) (by decide +kernel), WS_of (T1 11 (by decide +kernel)) (by decide +kernel), WS_of (T3 183 (by decide +kernel)) (by decide +kernel)⟩, by decide +kernel⟩
set_option maxRecDepth 20000 in
theorem k_L_78 : kV RL 78 RX11 yX11_word cX11_word 1 (some .int) 0 := ⟨⟨WS_of (T3 184 (by decide +kernel)) (by decide +kernel), WS_of (T3 185 (by decide +kernel)) (by decide +kernel), WS_of (T3 186 (by decide +kernel)) (by decide +kernel), WS_of (T1 1 (by decide +kernel)) (by decide +kernel), WS_of (T3 187 (by decide +kernel)) (by decide +kernel)⟩, by decide +kernel⟩
set_option maxRecDepth 20000 in
theorem k_X11_227 : kV RX11 227 RX4 yX4_isWord cX4_isWord 2 (some .boolean) 0 := ⟨⟨WS_of (T3 188 (by decide +kernel)) (by decide +kernel), WS_of (T3 189 (by decide +kernel)) (by decide +kernel), WS_of (T3 190 (by decide +kernel)) (by decide +kernel), WS_of (T1 2 (by decide +kernel)) (by decide +kernel), WS_of (T3 191 (by decide +kernel)) (by decide +kernel)⟩, by decide +kernel⟩
set_option maxRecDepth 20000 in
theorem k_X11_231 : kV RX11 231 RX10 yX10_has cX10_has 3 (some .boolean) 1 := ⟨⟨WS_of (T3 192 (by decide +kernel)) (by decide +kernel), WS_of (T3 193 (by decide +kernel)) (by decide +kernel), WS_of (T3 194 (by decide +kernel)) (by decide +kernel), WS_of (T1 4 (by decide +kernel)) (by decide +kernel), WS_of (T3 195 (by decide +kernel)) (by decide +kernel)⟩, by decide +kernel⟩
set_option maxRecDepth 20000 in
theorem k_X10_38 : kV RX10 38 RX10 yX10_isOnPad cX10_isOnPad 4 (some .boolean) 2 := ⟨⟨WS_of (T3 196 (by decide +kernel)) (by decide +kernel), WS_of (T3 198 (by decide +kernel)) (by decide +kernel), WS_sel (q := (⟨"PailChain$Words", "isOnPad", "(ILPailChain$Pad;)Z"⟩, 5)) (by decide +kernel) (by decide +kernel), WS_of (T1 4 (by decide +kernel)) (by decide +kernel), WS_of (T3 199 (by decide +kernel)) (by decide +kernel)⟩, by decide +kernel⟩
set_option maxRecDepth 20000 in
theorem k_X11_235 : kV RX11 235 RX10 yX10_put cX10_put 3 (some .boolean) 1 := ⟨⟨WS_of (T3 200 (by decide +kernel)) (by decide +kernel), WS_of (T3 201 (by decide +kernel)) (by decide +kernel), WS_of (T3 202 (by decide +kernel)) (by decide +kernel), WS_of (T1 4 (by decide +kernel)) (by decide +kernel), WS_of (T3 203 (by decide +kernel)) (by decide +kernel)⟩, by decide +kernel⟩
set_option maxRecDepth 20000 in
theorem k_L_82 : kV RL 82 RX11 yX11_drop cX11_drop 2 (some .int) 0 := ⟨⟨WS_of (T3 204 (by decide +kernel)) (by decide +kernel), WS_of (T3 205 (by decide +kernel)) (by decide +kernel), WS_of (T3 206 (by decide +kernel)) (by decide +kernel), WS_of (T1 1 (by decide +kernel)) (by decide +kernel), WS_of (T3 207 (by decide +kernel)) (by decide +kernel)⟩, by decide +kernel⟩
set_option maxRecDepth 20000 in
theorem k_L_86 : kV RL 86 RX11 yX11_apart cX11_apart 2 (some .int) 1 := ⟨⟨WS_of (T3 208 (by decide +kernel)) (by decide +kernel), WS_of (T3 209 (by decide +kernel)) (by decide +kernel), WS_of (T3 210 (by decide +kernel)) (by decide +kernel), WS_of (T1 1 (by decide +kernel)) (by decide +kernel), WS_of (T3 211 (by decide +kernel)) (by decide +kernel)⟩, by decide +kernel⟩
set_option maxRecDepth 20000 in
theorem k_X11_238 : kV RX11 238 RX10 yX10_areApart cX10_areApart 3 (some .boolean) 0 := ⟨⟨WS_of (T3 212 (by decide +kernel)) (by decide +kernel), WS_of (T3 213 (by decide +kernel)) (by decide +kernel), WS_of (T3 214 (by decide +kernel)) (by decide +kernel), WS_of (T1 4 (by decide +kernel)) (by decide +kernel), WS_of (T3 215 (by decide +kernel)) (by decide +kernel)⟩, by decide +kernel⟩
set_option maxRecDepth 20000 in
theorem k_X10_43 : kV RX10 43 RX10 yX10_agree cX10_agree 5 (some .boolean) 3 := ⟨⟨WS_of (T3 216 (by decide +kernel)) (by decide +kernel), WS_of (T3 218 (by decide +kernel)) (by decide +kernel), WS_sel (q := (⟨"PailChain$Words", "agree", "(III)Z"⟩, 5)) (by decide +kernel) (by decide +kernel), WS_of (T1 4 (by decide +kernel)) (by decide +kernel), WS_of (T3 219 (by decide +kernel)) (by decide +kernel)⟩, by decide +kernel⟩
set_option maxRecDepth 20000 in
theorem k_X11_241 : kV RX11 241 RX10 yX10_doubt cX10_doubt 3 (some .int) 0 := ⟨⟨WS_of (T3 220 (by decide +kernel)) (by decide +kernel), WS_of (T3 221 (by decide +kernel)) (by decide +kernel), WS_of (T3 222 (by decide +kernel)) (by decide +kernel), WS_of (T1 4 (by decide +kernel)) (by decide +kernel), WS_of (T3 223 (by decide +kernel)) (by decide +kernel)⟩, by decide +kernel⟩
set_option maxRecDepth 20000 in
theorem k_X10_47 : kV RX10 47 RX10 yX10_startUnlike cX10_startUnlike 3 none 0 := ⟨⟨WS_of (T3 224 (by decide +kernel)) (by decide +kernel), WS_of (T3 226 (by decide +kernel)) (by decide +kernel), WS_sel (q := (⟨"PailChain$Words", "startUnlike", "()V"⟩, 5)) (by decide +kernel) (by decide +kernel), WS_of (T1 4 (by decide +kernel)) (by decide +kernel), WS_of (T3 227 (by decide +kernel)) (by decide +kernel)⟩, by decide +kernel⟩
set_option maxRecDepth 20000 in
theorem k_X10_59 : kV RX10 59 RX10 yX10_reach cX10_reach 5 none 3 := ⟨⟨WS_of (T3 229 (by decide +kernel)) (by decide +kernel), WS_of (T3 231 (by decide +kernel)) (by decide +kernel), WS_sel (q := (⟨"PailChain$Words", "reach", "(III)V"⟩, 5)) (by decide +kernel) (by decide +kernel), WS_of (T1 4 (by decide +kernel)) (by decide +kernel), WS_of (T3 232 (by decide +kernel)) (by decide +kernel)⟩, by decide +kernel⟩
set_option maxRecDepth 20000 in
theorem k_X10_50 : kV RX10 50 RX10 yX10_nearest cX10_nearest 4 (some .int) 0 := ⟨⟨WS_of (T3 234 (by decide +kernel)) (by decide +kernel), WS_of (T3 236 (by decide +kernel)) (by decide +kernel), WS_sel (q := (⟨"PailChain$Words", "nearest", "()I"⟩, 5)) (by decide +kernel) (by decide +kernel), WS_of (T1 4 (by decide +kernel)) (by decide +kernel), WS_of (T3 237 (by decide +kernel)) (by decide +kernel)⟩, by decide +kernel⟩
set_option maxRecDepth 20000 in
theorem k_X10_54 : kV RX10 54 RX10 yX10_goOn cX10_goOn 7 (some .boolean) 1 := ⟨⟨WS_of (T3 238 (by decide +kernel)) (by decide +kernel), WS_of (T4 0 (by decide +kernel)) (by decide +kernel), WS_sel (q := (⟨"PailChain$Words", "goOn", "(I)Z"⟩, 5)) (by decide +kernel) (by decide +kernel), WS_of (T1 4 (by decide +kernel)) (by decide +kernel), WS_of (T4 1 (by decide +kernel)) (by decide +kernel)⟩, by decide +kernel⟩
set_option maxRecDepth 20000 in
theorem k_L_90 : kV RL 90 RX11 yX11_seen cX11_seen 4 (some .int) 3 := ⟨⟨WS_of (T4 2 (by decide +kernel)) (by decide +kernel), WS_of (T4 3 (by decide +kernel)) (by decide +kernel), WS_of (T4 4 (by decide +kernel)) (by decide +kernel), WS_of (T1 1 (by decide +kernel)) (by decide +kernel), WS_of (T4 5 (by decide +kernel)) (by decide +kernel)⟩, by decide +kernel⟩
set_option maxRecDepth 20000 in
theorem k_X11_244 : kV RX11 244 RX8 yX8_put cX8_put 4 (some .boolean) 3 := ⟨⟨WS_of (T4 6 (by decide +kernel)) (by decide +kernel), WS_of (T4 7 (by decide +kernel)) (by decide +kernel), WS_of (T4 8 (by decide +kernel)) (by decide +kernel), WS_of (T1 5 (by decide +kernel)) (by decide +kernel), WS_of (T4 9 (by decide +kernel)) (by decide +kernel)⟩, by decide +kernel⟩
set_option maxRecDepth 20000 in
theorem k_L_95 : kV RL 95 RX11 yX11_forget cX11_forget 2 (some .int) 0 := ⟨⟨WS_of (T4 10 (by decide +kernel)) (by decide +kernel), WS_of (T4 11 (by decide +kernel)) (by decide +kernel), WS_of (T4 12 (by decide +kernel)) (by decide +kernel), WS_of (T1 1 (by decide +kernel)) (by decide +kernel), WS_of (T4 13 (by decide +kernel)) (by decide +kernel)⟩, by decide +kernel⟩
set_option maxRecDepth 20000 in
theorem k_L_99 : kV RL 99 RX11 yX11_came cX11_came 3 (some .int) 2 := ⟨⟨WS_of (T4 14 (by decide +kernel)) (by decide +kernel), WS_of (T4 15 (by decide +kernel)) (by decide +kernel), WS_of (T4 16 (by decide +kernel)) (by decide +kernel), WS_of (T1 1 (by decide +kernel)) (by decide +kernel), WS_of (T4 17 (by decide +kernel)) (by decide +kernel)⟩, by decide +kernel⟩
set_option maxRecDepth 20000 in
theorem k_X11_247 : kV RX11 247 RX11 yX11_fit cX11_fit 2 none 1 := ⟨⟨WS_of (T4 18 (by decide +kernel)) (by decide +kernel), WS_of (T4 20 (by decide +kernel)) (by decide +kernel), WS_sel (q := (⟨"PailChain", "fit", "(I)V"⟩, 17)) (by decide +kernel) (by decide +kernel), WS_of (T1 1 (by decide +kernel)) (by decide +kernel), WS_of (T4 21 (by decide +kernel)) (by decide +kernel)⟩, by decide +kernel⟩
set_option maxRecDepth 20000 in
theorem k_X11_296 : kV RX11 296 RX0 yX0_look cX0_look 5 none 3 := ⟨⟨WS_of (T4 22 (by decide +kernel)) (by decide +kernel), WS_of (T4 23 (by decide +kernel)) (by decide +kernel), WS_of (T4 24 (by decide +kernel)) (by decide +kernel), WS_of (T1 12 (by decide +kernel)) (by decide +kernel), WS_of (T4 25 (by decide +kernel)) (by decide +kernel)⟩, by decide +kernel⟩
set_option maxRecDepth 20000 in
theorem k_X0_46 : kV RX0 46 RX0 yX0_read cX0_read 4 none 1 := ⟨⟨WS_of (T4 26 (by decide +kernel)) (by decide +kernel), WS_of (T4 28 (by decide +kernel)) (by decide +kernel), WS_sel (q := (⟨"PailChain$Came", "read", "(LPailChain$Sights;)V"⟩, 10)) (by decide +kernel) (by decide +kernel), WS_of (T1 12 (by decide +kernel)) (by decide +kernel), WS_of (T4 29 (by decide +kernel)) (by decide +kernel)⟩, by decide +kernel⟩
set_option maxRecDepth 20000 in
theorem k_X0_76 : kN RX0 76 yX11_flag cX11_flag 1 (some .long) 1 := ⟨⟨by decide +kernel, WS_of (T2 206 (by decide +kernel)) (by decide +kernel), WS_of (T1 1 (by decide +kernel)) (by decide +kernel), WS_of (T2 207 (by decide +kernel)) (by decide +kernel)⟩, by decide +kernel⟩
set_option maxRecDepth 20000 in
theorem k_X0_59 : kS RX0 59 yX0_fitting cX0_fitting 13 (some .int) 4 := ⟨⟨WS_of (T4 31 (by decide +kernel)) (by decide +kernel), WS_of (T4 32 (by decide +kernel)) (by decide +kernel), WS_of (T1 12 (by decide +kernel)) (by decide +kernel), WS_of (T4 33 (by decide +kernel)) (by decide +kernel)⟩, by decide +kernel⟩
set_option maxRecDepth 20000 in
theorem k_X0_82 : kV RX0 82 RX0 yX0_allFrom cX0_allFrom 4 (some .int) 1 := ⟨⟨WS_of (T4 35 (by decide +kernel)) (by decide +kernel), WS_of (T4 37 (by decide +kernel)) (by decide +kernel), WS_sel (q := (⟨"PailChain$Came", "allFrom", "(I)I"⟩, 10)) (by decide +kernel) (by decide +kernel), WS_of (T1 12 (by decide +kernel)) (by decide +kernel), WS_of (T4 38 (by decide +kernel)) (by decide +kernel)⟩, by decide +kernel⟩
set_option maxRecDepth 20000 in
theorem k_X0_89 : kV RX0 89 RX1 yX1_turned cX1_turned 7 (some .long) 2 := ⟨⟨WS_of (T4 41 (by decide +kernel)) (by decide +kernel), WS_of (T3 28 (by decide +kernel)) (by decide +kernel), WS_of (T3 29 (by decide +kernel)) (by decide +kernel), WS_of (T1 3 (by decide +kernel)) (by decide +kernel), WS_of (T3 30 (by decide +kernel)) (by decide +kernel)⟩, by decide +kernel⟩
set_option maxRecDepth 20000 in
theorem k_X0_93 : kV RX0 93 RX1 yX1_step cX1_step 5 (some .long) 2 := ⟨⟨WS_of (T4 42 (by decide +kernel)) (by decide +kernel), WS_of (T3 109 (by decide +kernel)) (by decide +kernel), WS_of (T3 110 (by decide +kernel)) (by decide +kernel), WS_of (T1 3 (by decide +kernel)) (by decide +kernel), WS_of (T3 111 (by decide +kernel)) (by decide +kernel)⟩, by decide +kernel⟩
set_option maxRecDepth 20000 in
theorem k_L_103 : kV RL 103 RX11 yX11_could cX11_could 3 (some .int) 2 := ⟨⟨WS_of (T4 43 (by decide +kernel)) (by decide +kernel), WS_of (T4 44 (by decide +kernel)) (by decide +kernel), WS_of (T4 45 (by decide +kernel)) (by decide +kernel), WS_of (T1 1 (by decide +kernel)) (by decide +kernel), WS_of (T4 46 (by decide +kernel)) (by decide +kernel)⟩, by decide +kernel⟩
set_option maxRecDepth 20000 in
theorem k_L_107 : kV RL 107 RX11 yX11_day cX11_day 6 (some .int) 3 := ⟨⟨WS_of (T4 47 (by decide +kernel)) (by decide +kernel), WS_of (T4 48 (by decide +kernel)) (by decide +kernel), WS_of (T4 49 (by decide +kernel)) (by decide +kernel), WS_of (T1 1 (by decide +kernel)) (by decide +kernel), WS_of (T4 50 (by decide +kernel)) (by decide +kernel)⟩, by decide +kernel⟩
set_option maxRecDepth 20000 in
theorem k_X11_262 : kV RX11 262 RX6 yX6_wantAnew cX6_wantAnew 1 none 0 := ⟨⟨WS_of (T4 52 (by decide +kernel)) (by decide +kernel), WS_of (T4 53 (by decide +kernel)) (by decide +kernel), WS_of (T4 54 (by decide +kernel)) (by decide +kernel), WS_of (T1 7 (by decide +kernel)) (by decide +kernel), WS_of (T4 55 (by decide +kernel)) (by decide +kernel)⟩, by decide +kernel⟩
set_option maxRecDepth 20000 in
theorem k_L_111 : kV RL 111 RX11 yX11_image cX11_image 3 (some .int) 1 := ⟨⟨WS_of (T4 57 (by decide +kernel)) (by decide +kernel), WS_of (T4 58 (by decide +kernel)) (by decide +kernel), WS_of (T4 59 (by decide +kernel)) (by decide +kernel), WS_of (T1 1 (by decide +kernel)) (by decide +kernel), WS_of (T4 60 (by decide +kernel)) (by decide +kernel)⟩, by decide +kernel⟩
set_option maxRecDepth 20000 in
theorem k_X11_272 : kV RX11 272 RX1 yX1_copyFrom cX1_copyFrom 2 none 1 := ⟨⟨WS_of (T4 61 (by decide +kernel)) (by decide +kernel), WS_of (T4 62 (by decide +kernel)) (by decide +kernel), WS_of (T4 63 (by decide +kernel)) (by decide +kernel), WS_of (T1 3 (by decide +kernel)) (by decide +kernel), WS_of (T4 64 (by decide +kernel)) (by decide +kernel)⟩, by decide +kernel⟩
set_option maxRecDepth 20000 in
theorem k_X11_276 : kV RX11 276 RX10 yX10_copyFrom cX10_copyFrom 2 none 1 := ⟨⟨WS_of (T4 65 (by decide +kernel)) (by decide +kernel), WS_of (T4 66 (by decide +kernel)) (by decide +kernel), WS_of (T4 67 (by decide +kernel)) (by decide +kernel), WS_of (T1 4 (by decide +kernel)) (by decide +kernel), WS_of (T4 68 (by decide +kernel)) (by decide +kernel)⟩, by decide +kernel⟩
set_option maxRecDepth 20000 in
theorem k_X11_280 : kV RX11 280 RX8 yX8_copyFrom cX8_copyFrom 3 none 1 := ⟨⟨WS_of (T4 70 (by decide +kernel)) (by decide +kernel), WS_of (T4 71 (by decide +kernel)) (by decide +kernel), WS_of (T4 72 (by decide +kernel)) (by decide +kernel), WS_of (T1 5 (by decide +kernel)) (by decide +kernel), WS_of (T4 73 (by decide +kernel)) (by decide +kernel)⟩, by decide +kernel⟩
set_option maxRecDepth 20000 in
theorem k_L_115 : kV RL 115 RX11 yX11_restore cX11_restore 3 (some .int) 1 := ⟨⟨WS_of (T4 74 (by decide +kernel)) (by decide +kernel), WS_of (T4 75 (by decide +kernel)) (by decide +kernel), WS_of (T4 76 (by decide +kernel)) (by decide +kernel), WS_of (T1 1 (by decide +kernel)) (by decide +kernel), WS_of (T4 77 (by decide +kernel)) (by decide +kernel)⟩, by decide +kernel⟩
set_option maxRecDepth 20000 in
theorem k_L_119 : kV RL 119 RX11 yX11_told cX11_told 2 (some .int) 1 := ⟨⟨WS_of (T4 78 (by decide +kernel)) (by decide +kernel), WS_of (T4 79 (by decide +kernel)) (by decide +kernel), WS_of (T4 80 (by decide +kernel)) (by decide +kernel), WS_of (T1 1 (by decide +kernel)) (by decide +kernel), WS_of (T4 81 (by decide +kernel)) (by decide +kernel)⟩, by decide +kernel⟩
set_option maxRecDepth 20000 in
theorem k_X11_287 : kV RX11 287 RX11 yX11_toldOfEach cX11_toldOfEach 4 (some .int) 1 := ⟨⟨WS_of (T4 82 (by decide +kernel)) (by decide +kernel), WS_of (T4 84 (by decide +kernel)) (by decide +kernel), WS_sel (q := (⟨"PailChain", "toldOfEach", "(I)I"⟩, 17)) (by decide +kernel) (by decide +kernel), WS_of (T1 1 (by decide +kernel)) (by decide +kernel), WS_of (T4 85 (by decide +kernel)) (by decide +kernel)⟩, by decide +kernel⟩
set_option maxRecDepth 20000 in
theorem k_L_12 : kJ RL 12 yX12_init cX12_init 1 0 := ⟨⟨WS_of (T4 88 (by decide +kernel)) (by decide +kernel), WS_of (T4 89 (by decide +kernel)) (by decide +kernel), WS_of (T1 13 (by decide +kernel)) (by decide +kernel), WS_of (T4 90 (by decide +kernel)) (by decide +kernel)⟩, rfl, by decide +kernel⟩
set_option maxRecDepth 20000 in
theorem k_X12_73 : kV RX12 73 RX12 yX12_begin cX12_begin 3 none 1 := ⟨⟨WS_of (T4 93 (by decide +kernel)) (by decide +kernel), WS_of (T4 95 (by decide +kernel)) (by decide +kernel), WS_sel (q := (⟨"PailChainModel", "begin", "(I)V"⟩, 33)) (by decide +kernel) (by decide +kernel), WS_of (T1 13 (by decide +kernel)) (by decide +kernel), WS_of (T4 96 (by decide +kernel)) (by decide +kernel)⟩, by decide +kernel⟩
set_option maxRecDepth 20000 in
theorem k_L_17 : kV RL 17 RX12 yX12_places cX12_places 3 (some .int) 1 := ⟨⟨WS_of (T4 197 (by decide +kernel)) (by decide +kernel), WS_of (T4 198 (by decide +kernel)) (by decide +kernel), WS_of (T4 199 (by decide +kernel)) (by decide +kernel), WS_of (T1 13 (by decide +kernel)) (by decide +kernel), WS_of (T4 200 (by decide +kernel)) (by decide +kernel)⟩, by decide +kernel⟩
set_option maxRecDepth 20000 in
theorem k_X12_86 : kS RX12 86 yX12_in cX12_in 6 (some .boolean) 3 := ⟨⟨WS_of (T4 203 (by decide +kernel)) (by decide +kernel), WS_of (T4 204 (by decide +kernel)) (by decide +kernel), WS_of (T1 13 (by decide +kernel)) (by decide +kernel), WS_of (T4 205 (by decide +kernel)) (by decide +kernel)⟩, by decide +kernel⟩
set_option maxRecDepth 20000 in
theorem k_L_22 : kV RL 22 RX12 yX12_pail cX12_pail 5 (some .int) 3 := ⟨⟨WS_of (T4 206 (by decide +kernel)) (by decide +kernel), WS_of (T4 207 (by decide +kernel)) (by decide +kernel), WS_of (T4 208 (by decide +kernel)) (by decide +kernel), WS_of (T1 13 (by decide +kernel)) (by decide +kernel), WS_of (T4 209 (by decide +kernel)) (by decide +kernel)⟩, by decide +kernel⟩
set_option maxRecDepth 20000 in
theorem k_X12_94 : kV RX12 94 RX12 yX12_isPlace cX12_isPlace 2 (some .boolean) 1 := ⟨⟨WS_of (T4 210 (by decide +kernel)) (by decide +kernel), WS_of (T4 212 (by decide +kernel)) (by decide +kernel), WS_sel (q := (⟨"PailChainModel", "isPlace", "(I)Z"⟩, 33)) (by decide +kernel) (by decide +kernel), WS_of (T1 13 (by decide +kernel)) (by decide +kernel), WS_of (T4 213 (by decide +kernel)) (by decide +kernel)⟩, by decide +kernel⟩
set_option maxRecDepth 20000 in
theorem k_L_27 : kV RL 27 RX12 yX12_door cX12_door 4 (some .int) 2 := ⟨⟨WS_of (T4 214 (by decide +kernel)) (by decide +kernel), WS_of (T4 215 (by decide +kernel)) (by decide +kernel), WS_of (T4 216 (by decide +kernel)) (by decide +kernel), WS_of (T1 13 (by decide +kernel)) (by decide +kernel), WS_of (T4 217 (by decide +kernel)) (by decide +kernel)⟩, by decide +kernel⟩
set_option maxRecDepth 20000 in
theorem k_L_31 : kV RL 31 RX12 yX12_deep cX12_deep 3 (some .int) 1 := ⟨⟨WS_of (T4 218 (by decide +kernel)) (by decide +kernel), WS_of (T4 219 (by decide +kernel)) (by decide +kernel), WS_of (T4 220 (by decide +kernel)) (by decide +kernel), WS_of (T1 13 (by decide +kernel)) (by decide +kernel), WS_of (T4 221 (by decide +kernel)) (by decide +kernel)⟩, by decide +kernel⟩
set_option maxRecDepth 20000 in
theorem k_L_35 : kV RL 35 RX12 yX12_say cX12_say 2 (some .int) 1 := ⟨⟨WS_of (T4 222 (by decide +kernel)) (by decide +kernel), WS_of (T4 223 (by decide +kernel)) (by decide +kernel), WS_of (T4 224 (by decide +kernel)) (by decide +kernel), WS_of (T1 13 (by decide +kernel)) (by decide +kernel), WS_of (T4 225 (by decide +kernel)) (by decide +kernel)⟩, by decide +kernel⟩
set_option maxRecDepth 20000 in
theorem k_L_40 : kV RL 40 RX12 yX12_wipe cX12_wipe 2 (some .int) 0 := ⟨⟨WS_of (T4 228 (by decide +kernel)) (by decide +kernel), WS_of (T4 229 (by decide +kernel)) (by decide +kernel), WS_of (T4 230 (by decide +kernel)) (by decide +kernel), WS_of (T1 13 (by decide +kernel)) (by decide +kernel), WS_of (T4 231 (by decide +kernel)) (by decide +kernel)⟩, by decide +kernel⟩
set_option maxRecDepth 20000 in
theorem k_L_44 : kV RL 44 RX12 yX12_fault cX12_fault 2 (some .int) 0 := ⟨⟨WS_of (T4 232 (by decide +kernel)) (by decide +kernel), WS_of (T4 233 (by decide +kernel)) (by decide +kernel), WS_of (T4 234 (by decide +kernel)) (by decide +kernel), WS_of (T1 13 (by decide +kernel)) (by decide +kernel), WS_of (T4 235 (by decide +kernel)) (by decide +kernel)⟩, by decide +kernel⟩
set_option maxRecDepth 20000 in
theorem k_L_48 : kV RL 48 RX12 yX12_pull cX12_pull 3 (some .int) 0 := ⟨⟨WS_of (T4 236 (by decide +kernel)) (by decide +kernel), WS_of (T4 237 (by decide +kernel)) (by decide +kernel), WS_of (T4 238 (by decide +kernel)) (by decide +kernel), WS_of (T1 13 (by decide +kernel)) (by decide +kernel), WS_of (T4 239 (by decide +kernel)) (by decide +kernel)⟩, by decide +kernel⟩
set_option maxRecDepth 20000 in
theorem k_X12_130 : kV RX12 130 RX12 yX12_fault cX12_fault 2 (some .int) 0 := ⟨⟨WS_of (T5 0 (by decide +kernel)) (by decide +kernel), WS_of (T4 233 (by decide +kernel)) (by decide +kernel), WS_of (T4 234 (by decide +kernel)) (by decide +kernel), WS_of (T1 13 (by decide +kernel)) (by decide +kernel), WS_of (T4 235 (by decide +kernel)) (by decide +kernel)⟩, by decide +kernel⟩
set_option maxRecDepth 20000 in
theorem k_X12_134 : kV RX12 134 RX12 yX12_goPad cX12_goPad 3 none 1 := ⟨⟨WS_of (T5 1 (by decide +kernel)) (by decide +kernel), WS_of (T5 3 (by decide +kernel)) (by decide +kernel), WS_sel (q := (⟨"PailChainModel", "goPad", "(I)V"⟩, 33)) (by decide +kernel) (by decide +kernel), WS_of (T1 13 (by decide +kernel)) (by decide +kernel), WS_of (T5 4 (by decide +kernel)) (by decide +kernel)⟩, by decide +kernel⟩
set_option maxRecDepth 20000 in
theorem k_X12_120 : kV RX12 120 RX12 yX12_layNow cX12_layNow 2 none 0 := ⟨⟨WS_of (T5 5 (by decide +kernel)) (by decide +kernel), WS_of (T5 7 (by decide +kernel)) (by decide +kernel), WS_sel (q := (⟨"PailChainModel", "layNow", "()V"⟩, 33)) (by decide +kernel) (by decide +kernel), WS_of (T1 13 (by decide +kernel)) (by decide +kernel), WS_of (T5 8 (by decide +kernel)) (by decide +kernel)⟩, by decide +kernel⟩
set_option maxRecDepth 20000 in
theorem k_X12_123 : kS RX12 123 yX12_howOf cX12_howOf 1 (some .int) 1 := ⟨⟨WS_of (T5 9 (by decide +kernel)) (by decide +kernel), WS_of (T5 10 (by decide +kernel)) (by decide +kernel), WS_of (T1 13 (by decide +kernel)) (by decide +kernel), WS_of (T5 11 (by decide +kernel)) (by decide +kernel)⟩, by decide +kernel⟩
set_option maxRecDepth 20000 in
theorem k_X12_127 : kV RX12 127 RX12 yX12_pullBy cX12_pullBy 5 none 1 := ⟨⟨WS_of (T5 12 (by decide +kernel)) (by decide +kernel), WS_of (T5 14 (by decide +kernel)) (by decide +kernel), WS_sel (q := (⟨"PailChainModel", "pullBy", "(I)V"⟩, 33)) (by decide +kernel) (by decide +kernel), WS_of (T1 13 (by decide +kernel)) (by decide +kernel), WS_of (T5 15 (by decide +kernel)) (by decide +kernel)⟩, by decide +kernel⟩
set_option maxRecDepth 20000 in
theorem k_L_52 : kV RL 52 RX12 yX12_behind cX12_behind 3 (some .int) 2 := ⟨⟨WS_of (T5 16 (by decide +kernel)) (by decide +kernel), WS_of (T5 17 (by decide +kernel)) (by decide +kernel), WS_of (T5 18 (by decide +kernel)) (by decide +kernel), WS_of (T1 13 (by decide +kernel)) (by decide +kernel), WS_of (T5 19 (by decide +kernel)) (by decide +kernel)⟩, by decide +kernel⟩
set_option maxRecDepth 20000 in
theorem k_X12_137 : kV RX12 137 RX12 yX12_placeOf cX12_placeOf 4 (some .int) 2 := ⟨⟨WS_of (T5 20 (by decide +kernel)) (by decide +kernel), WS_of (T5 22 (by decide +kernel)) (by decide +kernel), WS_sel (q := (⟨"PailChainModel", "placeOf", "(IZ)I"⟩, 33)) (by decide +kernel) (by decide +kernel), WS_of (T1 13 (by decide +kernel)) (by decide +kernel), WS_of (T5 23 (by decide +kernel)) (by decide +kernel)⟩, by decide +kernel⟩
set_option maxRecDepth 20000 in
theorem k_L_56 : kV RL 56 RX12 yX12_after cX12_after 3 (some .int) 1 := ⟨⟨WS_of (T5 24 (by decide +kernel)) (by decide +kernel), WS_of (T5 25 (by decide +kernel)) (by decide +kernel), WS_of (T5 26 (by decide +kernel)) (by decide +kernel), WS_of (T1 13 (by decide +kernel)) (by decide +kernel), WS_of (T5 27 (by decide +kernel)) (by decide +kernel)⟩, by decide +kernel⟩
set_option maxRecDepth 20000 in
theorem k_X12_141 : kV RX12 141 RX12 yX12_pullsTill cX12_pullsTill 3 (some .int) 1 := ⟨⟨WS_of (T5 28 (by decide +kernel)) (by decide +kernel), WS_of (T5 30 (by decide +kernel)) (by decide +kernel), WS_sel (q := (⟨"PailChainModel", "pullsTill", "(I)I"⟩, 33)) (by decide +kernel) (by decide +kernel), WS_of (T1 13 (by decide +kernel)) (by decide +kernel), WS_of (T5 31 (by decide +kernel)) (by decide +kernel)⟩, by decide +kernel⟩
set_option maxRecDepth 20000 in
theorem k_L_60 : kV RL 60 RX12 yX12_fewest cX12_fewest 3 (some .int) 1 := ⟨⟨WS_of (T5 32 (by decide +kernel)) (by decide +kernel), WS_of (T5 33 (by decide +kernel)) (by decide +kernel), WS_of (T5 34 (by decide +kernel)) (by decide +kernel), WS_of (T1 13 (by decide +kernel)) (by decide +kernel), WS_of (T5 35 (by decide +kernel)) (by decide +kernel)⟩, by decide +kernel⟩
set_option maxRecDepth 20000 in
theorem k_X12_154 : kV RX12 154 RX12 yX12_allDoors cX12_allDoors 1 (some .int) 0 := ⟨⟨WS_of (T5 36 (by decide +kernel)) (by decide +kernel), WS_of (T5 38 (by decide +kernel)) (by decide +kernel), WS_sel (q := (⟨"PailChainModel", "allDoors", "()I"⟩, 33)) (by decide +kernel) (by decide +kernel), WS_of (T1 13 (by decide +kernel)) (by decide +kernel), WS_of (T5 39 (by decide +kernel)) (by decide +kernel)⟩, by decide +kernel⟩
set_option maxRecDepth 20000 in
theorem k_X12_157 : kV RX12 157 RX12 yX12_fewestFor cX12_fewestFor 6 (some .int) 3 := ⟨⟨WS_of (T5 40 (by decide +kernel)) (by decide +kernel), WS_of (T5 42 (by decide +kernel)) (by decide +kernel), WS_sel (q := (⟨"PailChainModel", "fewestFor", "(IIZ)I"⟩, 33)) (by decide +kernel) (by decide +kernel), WS_of (T1 13 (by decide +kernel)) (by decide +kernel), WS_of (T5 43 (by decide +kernel)) (by decide +kernel)⟩, by decide +kernel⟩
set_option maxRecDepth 20000 in
theorem k_X12_144 : kV RX12 144 RX12 yX12_layHung cX12_layHung 2 none 0 := ⟨⟨WS_of (T5 44 (by decide +kernel)) (by decide +kernel), WS_of (T5 46 (by decide +kernel)) (by decide +kernel), WS_sel (q := (⟨"PailChainModel", "layHung", "()V"⟩, 33)) (by decide +kernel) (by decide +kernel), WS_of (T1 13 (by decide +kernel)) (by decide +kernel), WS_of (T5 47 (by decide +kernel)) (by decide +kernel)⟩, by decide +kernel⟩
set_option maxRecDepth 20000 in
theorem k_X12_147 : kV RX12 147 RX12 yX12_goBits cX12_goBits 4 none 2 := ⟨⟨WS_of (T5 48 (by decide +kernel)) (by decide +kernel), WS_of (T5 50 (by decide +kernel)) (by decide +kernel), WS_sel (q := (⟨"PailChainModel", "goBits", "(II)V"⟩, 33)) (by decide +kernel) (by decide +kernel), WS_of (T1 13 (by decide +kernel)) (by decide +kernel), WS_of (T5 51 (by decide +kernel)) (by decide +kernel)⟩, by decide +kernel⟩
set_option maxRecDepth 20000 in
theorem k_X12_161 : kS RX12 161 yX12_signOf cX12_signOf 1 (some .int) 1 := ⟨⟨WS_of (T5 52 (by decide +kernel)) (by decide +kernel), WS_of (T5 53 (by decide +kernel)) (by decide +kernel), WS_of (T1 13 (by decide +kernel)) (by decide +kernel), WS_of (T5 54 (by decide +kernel)) (by decide +kernel)⟩, by decide +kernel⟩
set_option maxRecDepth 20000 in
theorem k_L_64 : kV RL 64 RX12 yX12_soon cX12_soon 2 (some .int) 1 := ⟨⟨WS_of (T5 55 (by decide +kernel)) (by decide +kernel), WS_of (T5 56 (by decide +kernel)) (by decide +kernel), WS_of (T5 57 (by decide +kernel)) (by decide +kernel), WS_of (T1 13 (by decide +kernel)) (by decide +kernel), WS_of (T5 58 (by decide +kernel)) (by decide +kernel)⟩, by decide +kernel⟩
set_option maxRecDepth 20000 in
theorem k_L_68 : kV RL 68 RX12 yX12_hung cX12_hung 8 (some .int) 1 := ⟨⟨WS_of (T5 59 (by decide +kernel)) (by decide +kernel), WS_of (T5 60 (by decide +kernel)) (by decide +kernel), WS_of (T5 61 (by decide +kernel)) (by decide +kernel), WS_of (T1 13 (by decide +kernel)) (by decide +kernel), WS_of (T5 62 (by decide +kernel)) (by decide +kernel)⟩, by decide +kernel⟩
set_option maxRecDepth 20000 in
theorem k_X12_164 : kV RX12 164 RX12 yX12_layOrder cX12_layOrder 5 (some .boolean) 1 := ⟨⟨WS_of (T5 63 (by decide +kernel)) (by decide +kernel), WS_of (T5 65 (by decide +kernel)) (by decide +kernel), WS_sel (q := (⟨"PailChainModel", "layOrder", "(I)Z"⟩, 33)) (by decide +kernel) (by decide +kernel), WS_of (T1 13 (by decide +kernel)) (by decide +kernel), WS_of (T5 66 (by decide +kernel)) (by decide +kernel)⟩, by decide +kernel⟩
set_option maxRecDepth 20000 in
theorem k_L_72 : kV RL 72 RX12 yX12_race cX12_race 8 (some .int) 3 := ⟨⟨WS_of (T5 67 (by decide +kernel)) (by decide +kernel), WS_of (T5 68 (by decide +kernel)) (by decide +kernel), WS_of (T5 69 (by decide +kernel)) (by decide +kernel), WS_of (T1 13 (by decide +kernel)) (by decide +kernel), WS_of (T5 70 (by decide +kernel)) (by decide +kernel)⟩, by decide +kernel⟩
set_option maxRecDepth 20000 in
theorem k_X12_169 : kV RX12 169 RX12 yX12_aheadBy cX12_aheadBy 10 (some .int) 4 := ⟨⟨WS_of (T5 72 (by decide +kernel)) (by decide +kernel), WS_of (T5 74 (by decide +kernel)) (by decide +kernel), WS_sel (q := (⟨"PailChainModel", "aheadBy", "(IIII)I"⟩, 33)) (by decide +kernel) (by decide +kernel), WS_of (T1 13 (by decide +kernel)) (by decide +kernel), WS_of (T5 75 (by decide +kernel)) (by decide +kernel)⟩, by decide +kernel⟩
set_option maxRecDepth 20000 in
theorem k_X12_173 : kV RX12 173 RX12 yX12_bestOf cX12_bestOf 5 (some .int) 4 := ⟨⟨WS_of (T5 76 (by decide +kernel)) (by decide +kernel), WS_of (T5 78 (by decide +kernel)) (by decide +kernel), WS_sel (q := (⟨"PailChainModel", "bestOf", "(IIII)I"⟩, 33)) (by decide +kernel) (by decide +kernel), WS_of (T1 13 (by decide +kernel)) (by decide +kernel), WS_of (T5 79 (by decide +kernel)) (by decide +kernel)⟩, by decide +kernel⟩
set_option maxRecDepth 20000 in
theorem k_L_77 : kV RL 77 RX12 yX12_widow cX12_widow 17 (some .long) 5 := ⟨⟨WS_of (T5 80 (by decide +kernel)) (by decide +kernel), WS_of (T5 81 (by decide +kernel)) (by decide +kernel), WS_of (T5 82 (by decide +kernel)) (by decide +kernel), WS_of (T1 13 (by decide +kernel)) (by decide +kernel), WS_of (T5 83 (by decide +kernel)) (by decide +kernel)⟩, by decide +kernel⟩
set_option maxRecDepth 20000 in
theorem k_L_81 : kV RL 81 RX12 yX12_word cX12_word 3 (some .int) 0 := ⟨⟨WS_of (T5 87 (by decide +kernel)) (by decide +kernel), WS_of (T5 88 (by decide +kernel)) (by decide +kernel), WS_of (T5 89 (by decide +kernel)) (by decide +kernel), WS_of (T1 13 (by decide +kernel)) (by decide +kernel), WS_of (T5 90 (by decide +kernel)) (by decide +kernel)⟩, by decide +kernel⟩
set_option maxRecDepth 20000 in
theorem k_X12_184 : kV RX12 184 RX12 yX12_padWord cX12_padWord 3 (some .int) 0 := ⟨⟨WS_of (T5 91 (by decide +kernel)) (by decide +kernel), WS_of (T5 93 (by decide +kernel)) (by decide +kernel), WS_sel (q := (⟨"PailChainModel", "padWord", "()I"⟩, 33)) (by decide +kernel) (by decide +kernel), WS_of (T1 13 (by decide +kernel)) (by decide +kernel), WS_of (T5 94 (by decide +kernel)) (by decide +kernel)⟩, by decide +kernel⟩
set_option maxRecDepth 20000 in
theorem k_L_85 : kV RL 85 RX12 yX12_drop cX12_drop 2 (some .int) 0 := ⟨⟨WS_of (T5 96 (by decide +kernel)) (by decide +kernel), WS_of (T5 97 (by decide +kernel)) (by decide +kernel), WS_of (T5 98 (by decide +kernel)) (by decide +kernel), WS_of (T1 13 (by decide +kernel)) (by decide +kernel), WS_of (T5 99 (by decide +kernel)) (by decide +kernel)⟩, by decide +kernel⟩
set_option maxRecDepth 20000 in
theorem k_L_89 : kV RL 89 RX12 yX12_apart cX12_apart 2 (some .int) 1 := ⟨⟨WS_of (T5 100 (by decide +kernel)) (by decide +kernel), WS_of (T5 101 (by decide +kernel)) (by decide +kernel), WS_of (T5 102 (by decide +kernel)) (by decide +kernel), WS_of (T1 13 (by decide +kernel)) (by decide +kernel), WS_of (T5 103 (by decide +kernel)) (by decide +kernel)⟩, by decide +kernel⟩
set_option maxRecDepth 20000 in
theorem k_X12_203 : kV RX12 203 RX12 yX12_areApart cX12_areApart 4 (some .boolean) 0 := ⟨⟨WS_of (T5 105 (by decide +kernel)) (by decide +kernel), WS_of (T5 107 (by decide +kernel)) (by decide +kernel), WS_sel (q := (⟨"PailChainModel", "areApart", "()Z"⟩, 33)) (by decide +kernel) (by decide +kernel), WS_of (T1 13 (by decide +kernel)) (by decide +kernel), WS_of (T5 108 (by decide +kernel)) (by decide +kernel)⟩, by decide +kernel⟩
set_option maxRecDepth 20000 in
theorem k_X12_193 : kS RX12 193 yX12_leftOf cX12_leftOf 3 (some .int) 2 := ⟨⟨WS_of (T5 109 (by decide +kernel)) (by decide +kernel), WS_of (T5 110 (by decide +kernel)) (by decide +kernel), WS_of (T1 13 (by decide +kernel)) (by decide +kernel), WS_of (T5 111 (by decide +kernel)) (by decide +kernel)⟩, by decide +kernel⟩
set_option maxRecDepth 20000 in
theorem k_X12_190 : kS RX12 190 yX12_longOf cX12_longOf 3 (some .int) 1 := ⟨⟨WS_of (T5 112 (by decide +kernel)) (by decide +kernel), WS_of (T5 113 (by decide +kernel)) (by decide +kernel), WS_of (T1 13 (by decide +kernel)) (by decide +kernel), WS_of (T5 114 (by decide +kernel)) (by decide +kernel)⟩, by decide +kernel⟩
set_option maxRecDepth 20000 in
theorem k_X12_207 : kV RX12 207 RX12 yX12_doubt cX12_doubt 6 (some .int) 0 := ⟨⟨WS_of (T5 115 (by decide +kernel)) (by decide +kernel), WS_of (T5 117 (by decide +kernel)) (by decide +kernel), WS_sel (q := (⟨"PailChainModel", "doubt", "()I"⟩, 33)) (by decide +kernel) (by decide +kernel), WS_of (T1 13 (by decide +kernel)) (by decide +kernel), WS_of (T5 118 (by decide +kernel)) (by decide +kernel)⟩, by decide +kernel⟩
set_option maxRecDepth 20000 in
theorem k_X12_197 : kV RX12 197 RX12 yX12_fewer cX12_fewer 4 (some .boolean) 2 := ⟨⟨WS_of (T5 119 (by decide +kernel)) (by decide +kernel), WS_of (T5 121 (by decide +kernel)) (by decide +kernel), WS_sel (q := (⟨"PailChainModel", "fewer", "(II)Z"⟩, 33)) (by decide +kernel) (by decide +kernel), WS_of (T1 13 (by decide +kernel)) (by decide +kernel), WS_of (T5 122 (by decide +kernel)) (by decide +kernel)⟩, by decide +kernel⟩
set_option maxRecDepth 20000 in
theorem k_L_94 : kV RL 94 RX12 yX12_seen cX12_seen 4 (some .int) 3 := ⟨⟨WS_of (T5 123 (by decide +kernel)) (by decide +kernel), WS_of (T5 124 (by decide +kernel)) (by decide +kernel), WS_of (T5 125 (by decide +kernel)) (by decide +kernel), WS_of (T1 13 (by decide +kernel)) (by decide +kernel), WS_of (T5 126 (by decide +kernel)) (by decide +kernel)⟩, by decide +kernel⟩
set_option maxRecDepth 20000 in
theorem k_L_98 : kV RL 98 RX12 yX12_forget cX12_forget 2 (some .int) 0 := ⟨⟨WS_of (T5 127 (by decide +kernel)) (by decide +kernel), WS_of (T5 128 (by decide +kernel)) (by decide +kernel), WS_of (T5 129 (by decide +kernel)) (by decide +kernel), WS_of (T1 13 (by decide +kernel)) (by decide +kernel), WS_of (T5 130 (by decide +kernel)) (by decide +kernel)⟩, by decide +kernel⟩
set_option maxRecDepth 20000 in
theorem k_L_102 : kV RL 102 RX12 yX12_came cX12_came 6 (some .int) 2 := ⟨⟨WS_of (T5 131 (by decide +kernel)) (by decide +kernel), WS_of (T5 132 (by decide +kernel)) (by decide +kernel), WS_of (T5 133 (by decide +kernel)) (by decide +kernel), WS_of (T1 13 (by decide +kernel)) (by decide +kernel), WS_of (T5 134 (by decide +kernel)) (by decide +kernel)⟩, by decide +kernel⟩
set_option maxRecDepth 20000 in
theorem k_X12_213 : kS RX12 213 yX12_rowsOf cX12_rowsOf 3 (some .int) 1 := ⟨⟨WS_of (T5 135 (by decide +kernel)) (by decide +kernel), WS_of (T5 136 (by decide +kernel)) (by decide +kernel), WS_of (T1 13 (by decide +kernel)) (by decide +kernel), WS_of (T5 137 (by decide +kernel)) (by decide +kernel)⟩, by decide +kernel⟩
set_option maxRecDepth 20000 in
theorem k_X12_216 : kV RX12 216 RX12 yX12_fits cX12_fits 8 (some .boolean) 3 := ⟨⟨WS_of (T5 138 (by decide +kernel)) (by decide +kernel), WS_of (T5 140 (by decide +kernel)) (by decide +kernel), WS_sel (q := (⟨"PailChainModel", "fits", "(III)Z"⟩, 33)) (by decide +kernel) (by decide +kernel), WS_of (T1 13 (by decide +kernel)) (by decide +kernel), WS_of (T5 141 (by decide +kernel)) (by decide +kernel)⟩, by decide +kernel⟩
set_option maxRecDepth 20000 in
theorem k_X12_210 : kV RX12 210 RX12 yX12_fitsAt cX12_fitsAt 4 (some .boolean) 1 := ⟨⟨WS_of (T5 142 (by decide +kernel)) (by decide +kernel), WS_of (T5 144 (by decide +kernel)) (by decide +kernel), WS_sel (q := (⟨"PailChainModel", "fitsAt", "(I)Z"⟩, 33)) (by decide +kernel) (by decide +kernel), WS_of (T1 13 (by decide +kernel)) (by decide +kernel), WS_of (T5 145 (by decide +kernel)) (by decide +kernel)⟩, by decide +kernel⟩
set_option maxRecDepth 20000 in
theorem k_X12_220 : kS RX12 220 yX12_pullAt cX12_pullAt 5 (some .int) 3 := ⟨⟨WS_of (T5 146 (by decide +kernel)) (by decide +kernel), WS_of (T5 147 (by decide +kernel)) (by decide +kernel), WS_of (T1 13 (by decide +kernel)) (by decide +kernel), WS_of (T5 148 (by decide +kernel)) (by decide +kernel)⟩, by decide +kernel⟩
set_option maxRecDepth 20000 in
theorem k_L_106 : kV RL 106 RX12 yX12_could cX12_could 6 (some .int) 2 := ⟨⟨WS_of (T5 149 (by decide +kernel)) (by decide +kernel), WS_of (T5 150 (by decide +kernel)) (by decide +kernel), WS_of (T5 151 (by decide +kernel)) (by decide +kernel), WS_of (T1 13 (by decide +kernel)) (by decide +kernel), WS_of (T5 152 (by decide +kernel)) (by decide +kernel)⟩, by decide +kernel⟩
set_option maxRecDepth 20000 in
theorem k_L_110 : kV RL 110 RX12 yX12_day cX12_day 7 (some .int) 3 := ⟨⟨WS_of (T5 153 (by decide +kernel)) (by decide +kernel), WS_of (T5 154 (by decide +kernel)) (by decide +kernel), WS_of (T5 155 (by decide +kernel)) (by decide +kernel), WS_of (T1 13 (by decide +kernel)) (by decide +kernel), WS_of (T5 156 (by decide +kernel)) (by decide +kernel)⟩, by decide +kernel⟩
set_option maxRecDepth 20000 in
theorem k_L_114 : kV RL 114 RX12 yX12_image cX12_image 2 (some .int) 1 := ⟨⟨WS_of (T5 162 (by decide +kernel)) (by decide +kernel), WS_of (T5 163 (by decide +kernel)) (by decide +kernel), WS_of (T5 164 (by decide +kernel)) (by decide +kernel), WS_of (T1 13 (by decide +kernel)) (by decide +kernel), WS_of (T5 165 (by decide +kernel)) (by decide +kernel)⟩, by decide +kernel⟩
set_option maxRecDepth 20000 in
theorem k_X12_244 : kV RX12 244 RX12 yX12_passAll cX12_passAll 2 none 0 := ⟨⟨WS_of (T5 166 (by decide +kernel)) (by decide +kernel), WS_of (T5 168 (by decide +kernel)) (by decide +kernel), WS_sel (q := (⟨"PailChainModel", "passAll", "()V"⟩, 33)) (by decide +kernel) (by decide +kernel), WS_of (T1 13 (by decide +kernel)) (by decide +kernel), WS_of (T5 169 (by decide +kernel)) (by decide +kernel)⟩, by decide +kernel⟩
set_option maxRecDepth 20000 in
theorem k_X12_241 : kV RX12 241 RX12 yX12_pass cX12_pass 3 (some .int) 1 := ⟨⟨WS_of (T5 170 (by decide +kernel)) (by decide +kernel), WS_of (T5 172 (by decide +kernel)) (by decide +kernel), WS_sel (q := (⟨"PailChainModel", "pass", "(I)I"⟩, 33)) (by decide +kernel) (by decide +kernel), WS_of (T1 13 (by decide +kernel)) (by decide +kernel), WS_of (T5 173 (by decide +kernel)) (by decide +kernel)⟩, by decide +kernel⟩
set_option maxRecDepth 20000 in
theorem k_L_118 : kV RL 118 RX12 yX12_restore cX12_restore 2 (some .int) 1 := ⟨⟨WS_of (T5 174 (by decide +kernel)) (by decide +kernel), WS_of (T5 175 (by decide +kernel)) (by decide +kernel), WS_of (T5 176 (by decide +kernel)) (by decide +kernel), WS_of (T1 13 (by decide +kernel)) (by decide +kernel), WS_of (T5 177 (by decide +kernel)) (by decide +kernel)⟩, by decide +kernel⟩
set_option maxRecDepth 20000 in
theorem k_L_122 : kV RL 122 RX12 yX12_told cX12_told 3 (some .int) 1 := ⟨⟨WS_of (T5 178 (by decide +kernel)) (by decide +kernel), WS_of (T5 179 (by decide +kernel)) (by decide +kernel), WS_of (T5 180 (by decide +kernel)) (by decide +kernel), WS_of (T1 13 (by decide +kernel)) (by decide +kernel), WS_of (T5 181 (by decide +kernel)) (by decide +kernel)⟩, by decide +kernel⟩
