set_option maxRecDepth 20000 in
theorem inW_0 : ∀ w ∈ u_ws RX0 TX0 10, w ∈ WS := by
  intro w hw
  obtain ⟨k, hk, rfl⟩ := List.mem_map.mp hw
  have hk := List.mem_range.mp hk
  match k, hk with
  | 0, _ => exact WS_of (T2 100 (by decide +kernel)) (by decide +kernel)
  | 1, _ => exact WS_of (T2 102 (by decide +kernel)) (by decide +kernel)
  | 2, _ => exact WS_of (T2 104 (by decide +kernel)) (by decide +kernel)
  | 3, _ => exact WS_of (T2 106 (by decide +kernel)) (by decide +kernel)
  | 4, _ => exact WS_of (T2 108 (by decide +kernel)) (by decide +kernel)
  | 5, _ => exact WS_of (T2 110 (by decide +kernel)) (by decide +kernel)
  | 6, _ => exact WS_of (T2 112 (by decide +kernel)) (by decide +kernel)
  | 7, _ => exact WS_of (T2 114 (by decide +kernel)) (by decide +kernel)
  | 8, _ => exact WS_of (T2 116 (by decide +kernel)) (by decide +kernel)
  | 9, _ => exact WS_of (T2 118 (by decide +kernel)) (by decide +kernel)
  | k + 10, h => exact absurd h (by omega)
set_option maxRecDepth 20000 in
theorem inW_1 : ∀ w ∈ u_ws RX1 TX1 6, w ∈ WS := by
  intro w hw
  obtain ⟨k, hk, rfl⟩ := List.mem_map.mp hw
  have hk := List.mem_range.mp hk
  match k, hk with
  | 0, _ => exact WS_of (T1 80 (by decide +kernel)) (by decide +kernel)
  | 1, _ => exact WS_of (T1 82 (by decide +kernel)) (by decide +kernel)
  | 2, _ => exact WS_of (T1 84 (by decide +kernel)) (by decide +kernel)
  | 3, _ => exact WS_of (T1 86 (by decide +kernel)) (by decide +kernel)
  | 4, _ => exact WS_of (T1 88 (by decide +kernel)) (by decide +kernel)
  | 5, _ => exact WS_of (T1 90 (by decide +kernel)) (by decide +kernel)
  | k + 6, h => exact absurd h (by omega)
set_option maxRecDepth 20000 in
theorem inW_2 : ∀ w ∈ u_ws RX2 TX2 7, w ∈ WS := by
  intro w hw
  obtain ⟨k, hk, rfl⟩ := List.mem_map.mp hw
  have hk := List.mem_range.mp hk
  match k, hk with
  | 0, _ => exact WS_of (T2 15 (by decide +kernel)) (by decide +kernel)
  | 1, _ => exact WS_of (T2 17 (by decide +kernel)) (by decide +kernel)
  | 2, _ => exact WS_of (T2 19 (by decide +kernel)) (by decide +kernel)
  | 3, _ => exact WS_of (T2 21 (by decide +kernel)) (by decide +kernel)
  | 4, _ => exact WS_of (T2 23 (by decide +kernel)) (by decide +kernel)
  | 5, _ => exact WS_of (T2 25 (by decide +kernel)) (by decide +kernel)
  | 6, _ => exact WS_of (T2 27 (by decide +kernel)) (by decide +kernel)
  | k + 7, h => exact absurd h (by omega)
set_option maxRecDepth 20000 in
theorem inW_3 : ∀ w ∈ u_ws RX3 TX3 4, w ∈ WS := by
  intro w hw
  obtain ⟨k, hk, rfl⟩ := List.mem_map.mp hw
  have hk := List.mem_range.mp hk
  match k, hk with
  | 0, _ => exact WS_of (T1 162 (by decide +kernel)) (by decide +kernel)
  | 1, _ => exact WS_of (T1 164 (by decide +kernel)) (by decide +kernel)
  | 2, _ => exact WS_of (T1 166 (by decide +kernel)) (by decide +kernel)
  | 3, _ => exact WS_of (T1 168 (by decide +kernel)) (by decide +kernel)
  | k + 4, h => exact absurd h (by omega)
set_option maxRecDepth 20000 in
theorem inW_4 : ∀ w ∈ u_ws RX4 TX4 2, w ∈ WS := by
  intro w hw
  obtain ⟨k, hk, rfl⟩ := List.mem_map.mp hw
  have hk := List.mem_range.mp hk
  match k, hk with
  | 0, _ => exact WS_of (T1 36 (by decide +kernel)) (by decide +kernel)
  | 1, _ => exact WS_of (T1 38 (by decide +kernel)) (by decide +kernel)
  | k + 2, h => exact absurd h (by omega)
set_option maxRecDepth 20000 in
theorem inW_5 : ∀ w ∈ u_ws RX5 TX5 4, w ∈ WS := by
  intro w hw
  obtain ⟨k, hk, rfl⟩ := List.mem_map.mp hw
  have hk := List.mem_range.mp hk
  match k, hk with
  | 0, _ => exact WS_of (T2 40 (by decide +kernel)) (by decide +kernel)
  | 1, _ => exact WS_of (T2 42 (by decide +kernel)) (by decide +kernel)
  | 2, _ => exact WS_of (T2 44 (by decide +kernel)) (by decide +kernel)
  | 3, _ => exact WS_of (T2 46 (by decide +kernel)) (by decide +kernel)
  | k + 4, h => exact absurd h (by omega)
set_option maxRecDepth 20000 in
theorem inW_6 : ∀ w ∈ u_ws RX6 TX6 10, w ∈ WS := by
  intro w hw
  obtain ⟨k, hk, rfl⟩ := List.mem_map.mp hw
  have hk := List.mem_range.mp hk
  match k, hk with
  | 0, _ => exact WS_of (T1 194 (by decide +kernel)) (by decide +kernel)
  | 1, _ => exact WS_of (T1 196 (by decide +kernel)) (by decide +kernel)
  | 2, _ => exact WS_of (T1 198 (by decide +kernel)) (by decide +kernel)
  | 3, _ => exact WS_of (T1 200 (by decide +kernel)) (by decide +kernel)
  | 4, _ => exact WS_of (T1 202 (by decide +kernel)) (by decide +kernel)
  | 5, _ => exact WS_of (T1 204 (by decide +kernel)) (by decide +kernel)
  | 6, _ => exact WS_of (T1 206 (by decide +kernel)) (by decide +kernel)
  | 7, _ => exact WS_of (T1 208 (by decide +kernel)) (by decide +kernel)
  | 8, _ => exact WS_of (T1 210 (by decide +kernel)) (by decide +kernel)
  | 9, _ => exact WS_of (T1 212 (by decide +kernel)) (by decide +kernel)
  | k + 10, h => exact absurd h (by omega)
set_option maxRecDepth 20000 in
theorem inW_7 : ∀ w ∈ u_ws RX7 TX7 5, w ∈ WS := by
  intro w hw
  obtain ⟨k, hk, rfl⟩ := List.mem_map.mp hw
  have hk := List.mem_range.mp hk
  match k, hk with
  | 0, _ => exact WS_of (T1 229 (by decide +kernel)) (by decide +kernel)
  | 1, _ => exact WS_of (T1 231 (by decide +kernel)) (by decide +kernel)
  | 2, _ => exact WS_of (T1 233 (by decide +kernel)) (by decide +kernel)
  | 3, _ => exact WS_of (T1 235 (by decide +kernel)) (by decide +kernel)
  | 4, _ => exact WS_of (T1 237 (by decide +kernel)) (by decide +kernel)
  | k + 5, h => exact absurd h (by omega)
set_option maxRecDepth 20000 in
theorem inW_8 : ∀ w ∈ u_ws RX8 TX8 4, w ∈ WS := by
  intro w hw
  obtain ⟨k, hk, rfl⟩ := List.mem_map.mp hw
  have hk := List.mem_range.mp hk
  match k, hk with
  | 0, _ => exact WS_of (T1 132 (by decide +kernel)) (by decide +kernel)
  | 1, _ => exact WS_of (T1 134 (by decide +kernel)) (by decide +kernel)
  | 2, _ => exact WS_of (T1 136 (by decide +kernel)) (by decide +kernel)
  | 3, _ => exact WS_of (T1 138 (by decide +kernel)) (by decide +kernel)
  | k + 4, h => exact absurd h (by omega)
set_option maxRecDepth 20000 in
theorem inW_9 : ∀ w ∈ u_ws RX9 TX9 7, w ∈ WS := by
  intro w hw
  obtain ⟨k, hk, rfl⟩ := List.mem_map.mp hw
  have hk := List.mem_range.mp hk
  match k, hk with
  | 0, _ => exact WS_of (T2 64 (by decide +kernel)) (by decide +kernel)
  | 1, _ => exact WS_of (T2 66 (by decide +kernel)) (by decide +kernel)
  | 2, _ => exact WS_of (T2 68 (by decide +kernel)) (by decide +kernel)
  | 3, _ => exact WS_of (T2 70 (by decide +kernel)) (by decide +kernel)
  | 4, _ => exact WS_of (T2 72 (by decide +kernel)) (by decide +kernel)
  | 5, _ => exact WS_of (T2 74 (by decide +kernel)) (by decide +kernel)
  | 6, _ => exact WS_of (T2 76 (by decide +kernel)) (by decide +kernel)
  | k + 7, h => exact absurd h (by omega)
set_option maxRecDepth 20000 in
theorem inW_10 : ∀ w ∈ u_ws RX10 TX10 5, w ∈ WS := by
  intro w hw
  obtain ⟨k, hk, rfl⟩ := List.mem_map.mp hw
  have hk := List.mem_range.mp hk
  match k, hk with
  | 0, _ => exact WS_of (T1 105 (by decide +kernel)) (by decide +kernel)
  | 1, _ => exact WS_of (T1 107 (by decide +kernel)) (by decide +kernel)
  | 2, _ => exact WS_of (T1 109 (by decide +kernel)) (by decide +kernel)
  | 3, _ => exact WS_of (T1 111 (by decide +kernel)) (by decide +kernel)
  | 4, _ => exact WS_of (T1 113 (by decide +kernel)) (by decide +kernel)
  | k + 5, h => exact absurd h (by omega)
set_option maxRecDepth 20000 in
theorem inW_11 : ∀ w ∈ u_ws RX11 TX11 17, w ∈ WS := by
  intro w hw
  obtain ⟨k, hk, rfl⟩ := List.mem_map.mp hw
  have hk := List.mem_range.mp hk
  match k, hk with
  | 0, _ => exact WS_of (T2 138 (by decide +kernel)) (by decide +kernel)
  | 1, _ => exact WS_of (T2 140 (by decide +kernel)) (by decide +kernel)
  | 2, _ => exact WS_of (T2 142 (by decide +kernel)) (by decide +kernel)
  | 3, _ => exact WS_of (T2 144 (by decide +kernel)) (by decide +kernel)
  | 4, _ => exact WS_of (T2 146 (by decide +kernel)) (by decide +kernel)
  | 5, _ => exact WS_of (T2 148 (by decide +kernel)) (by decide +kernel)
  | 6, _ => exact WS_of (T2 150 (by decide +kernel)) (by decide +kernel)
  | 7, _ => exact WS_of (T2 152 (by decide +kernel)) (by decide +kernel)
  | 8, _ => exact WS_of (T2 154 (by decide +kernel)) (by decide +kernel)
  | 9, _ => exact WS_of (T2 156 (by decide +kernel)) (by decide +kernel)
  | 10, _ => exact WS_of (T2 158 (by decide +kernel)) (by decide +kernel)
  | 11, _ => exact WS_of (T2 160 (by decide +kernel)) (by decide +kernel)
  | 12, _ => exact WS_of (T2 162 (by decide +kernel)) (by decide +kernel)
  | 13, _ => exact WS_of (T2 164 (by decide +kernel)) (by decide +kernel)
  | 14, _ => exact WS_of (T2 166 (by decide +kernel)) (by decide +kernel)
  | 15, _ => exact WS_of (T2 168 (by decide +kernel)) (by decide +kernel)
  | 16, _ => exact WS_of (T2 170 (by decide +kernel)) (by decide +kernel)
  | k + 17, h => exact absurd h (by omega)
set_option maxRecDepth 20000 in
theorem inW_12 : ∀ w ∈ u_ws RX12 TX12 33, w ∈ WS := by
  intro w hw
  obtain ⟨k, hk, rfl⟩ := List.mem_map.mp hw
  have hk := List.mem_range.mp hk
  match k, hk with
  | 0, _ => exact WS_of (T4 130 (by decide +kernel)) (by decide +kernel)
  | 1, _ => exact WS_of (T4 132 (by decide +kernel)) (by decide +kernel)
  | 2, _ => exact WS_of (T4 134 (by decide +kernel)) (by decide +kernel)
  | 3, _ => exact WS_of (T4 136 (by decide +kernel)) (by decide +kernel)
  | 4, _ => exact WS_of (T4 138 (by decide +kernel)) (by decide +kernel)
  | 5, _ => exact WS_of (T4 140 (by decide +kernel)) (by decide +kernel)
  | 6, _ => exact WS_of (T4 142 (by decide +kernel)) (by decide +kernel)
  | 7, _ => exact WS_of (T4 144 (by decide +kernel)) (by decide +kernel)
  | 8, _ => exact WS_of (T4 146 (by decide +kernel)) (by decide +kernel)
  | 9, _ => exact WS_of (T4 148 (by decide +kernel)) (by decide +kernel)
  | 10, _ => exact WS_of (T4 150 (by decide +kernel)) (by decide +kernel)
  | 11, _ => exact WS_of (T4 152 (by decide +kernel)) (by decide +kernel)
  | 12, _ => exact WS_of (T4 154 (by decide +kernel)) (by decide +kernel)
  | 13, _ => exact WS_of (T4 156 (by decide +kernel)) (by decide +kernel)
  | 14, _ => exact WS_of (T4 158 (by decide +kernel)) (by decide +kernel)
  | 15, _ => exact WS_of (T4 160 (by decide +kernel)) (by decide +kernel)
  | 16, _ => exact WS_of (T4 162 (by decide +kernel)) (by decide +kernel)
  | 17, _ => exact WS_of (T4 164 (by decide +kernel)) (by decide +kernel)
  | 18, _ => exact WS_of (T4 166 (by decide +kernel)) (by decide +kernel)
  | 19, _ => exact WS_of (T4 168 (by decide +kernel)) (by decide +kernel)
  | 20, _ => exact WS_of (T4 170 (by decide +kernel)) (by decide +kernel)
  | 21, _ => exact WS_of (T4 172 (by decide +kernel)) (by decide +kernel)
  | 22, _ => exact WS_of (T4 174 (by decide +kernel)) (by decide +kernel)
  | 23, _ => exact WS_of (T4 176 (by decide +kernel)) (by decide +kernel)
  | 24, _ => exact WS_of (T4 178 (by decide +kernel)) (by decide +kernel)
  | 25, _ => exact WS_of (T4 180 (by decide +kernel)) (by decide +kernel)
  | 26, _ => exact WS_of (T4 182 (by decide +kernel)) (by decide +kernel)
  | 27, _ => exact WS_of (T4 184 (by decide +kernel)) (by decide +kernel)
  | 28, _ => exact WS_of (T4 186 (by decide +kernel)) (by decide +kernel)
  | 29, _ => exact WS_of (T4 188 (by decide +kernel)) (by decide +kernel)
  | 30, _ => exact WS_of (T4 190 (by decide +kernel)) (by decide +kernel)
  | 31, _ => exact WS_of (T4 192 (by decide +kernel)) (by decide +kernel)
  | 32, _ => exact WS_of (T4 194 (by decide +kernel)) (by decide +kernel)
  | k + 33, h => exact absurd h (by omega)
set_option maxRecDepth 20000 in
theorem fl_X4_9 : Cond.fieldLink RX4 9 RX4 (TX4 0).2.1 (TX4 0).2.2.1 ∈ WS := WS_of (T1 30 (by decide +kernel)) (by decide +kernel)
set_option maxRecDepth 20000 in
theorem fl_X10_42 : Cond.fieldLink RX10 42 RX4 (TX4 0).2.1 (TX4 0).2.2.1 ∈ WS := WS_of (T1 31 (by decide +kernel)) (by decide +kernel)
set_option maxRecDepth 20000 in
theorem fl_X11_290 : Cond.fieldLink RX11 290 RX4 (TX4 0).2.1 (TX4 0).2.2.1 ∈ WS := WS_of (T1 32 (by decide +kernel)) (by decide +kernel)
set_option maxRecDepth 20000 in
theorem fl_X4_15 : Cond.fieldLink RX4 15 RX4 (TX4 1).2.1 (TX4 1).2.2.1 ∈ WS := WS_of (T1 33 (by decide +kernel)) (by decide +kernel)
set_option maxRecDepth 20000 in
theorem fl_X10_35 : Cond.fieldLink RX10 35 RX4 (TX4 1).2.1 (TX4 1).2.2.1 ∈ WS := WS_of (T1 34 (by decide +kernel)) (by decide +kernel)
set_option maxRecDepth 20000 in
theorem fl_X11_160 : Cond.fieldLink RX11 160 RX4 (TX4 1).2.1 (TX4 1).2.2.1 ∈ WS := WS_of (T1 35 (by decide +kernel)) (by decide +kernel)
set_option maxRecDepth 20000 in
theorem fl_X1_9 : Cond.fieldLink RX1 9 RX1 (TX1 0).2.1 (TX1 0).2.2.1 ∈ WS := WS_of (T1 49 (by decide +kernel)) (by decide +kernel)
set_option maxRecDepth 20000 in
theorem fl_X11_105 : Cond.fieldLink RX11 105 RX1 (TX1 0).2.1 (TX1 0).2.2.1 ∈ WS := WS_of (T1 50 (by decide +kernel)) (by decide +kernel)
set_option maxRecDepth 20000 in
theorem fl_X6_54 : Cond.fieldLink RX6 54 RX1 (TX1 0).2.1 (TX1 0).2.2.1 ∈ WS := WS_of (T1 51 (by decide +kernel)) (by decide +kernel)
set_option maxRecDepth 20000 in
theorem fl_X2_49 : Cond.fieldLink RX2 49 RX1 (TX1 0).2.1 (TX1 0).2.2.1 ∈ WS := WS_of (T1 52 (by decide +kernel)) (by decide +kernel)
set_option maxRecDepth 20000 in
theorem fl_X7_51 : Cond.fieldLink RX7 51 RX1 (TX1 0).2.1 (TX1 0).2.2.1 ∈ WS := WS_of (T1 53 (by decide +kernel)) (by decide +kernel)
set_option maxRecDepth 20000 in
theorem fl_X1_15 : Cond.fieldLink RX1 15 RX1 (TX1 1).2.1 (TX1 1).2.2.1 ∈ WS := WS_of (T1 54 (by decide +kernel)) (by decide +kernel)
set_option maxRecDepth 20000 in
theorem fl_X2_42 : Cond.fieldLink RX2 42 RX1 (TX1 1).2.1 (TX1 1).2.2.1 ∈ WS := WS_of (T1 55 (by decide +kernel)) (by decide +kernel)
set_option maxRecDepth 20000 in
theorem fl_X11_119 : Cond.fieldLink RX11 119 RX1 (TX1 1).2.1 (TX1 1).2.2.1 ∈ WS := WS_of (T1 56 (by decide +kernel)) (by decide +kernel)
set_option maxRecDepth 20000 in
theorem fl_X7_78 : Cond.fieldLink RX7 78 RX1 (TX1 1).2.1 (TX1 1).2.2.1 ∈ WS := WS_of (T1 57 (by decide +kernel)) (by decide +kernel)
set_option maxRecDepth 20000 in
theorem fl_X1_18 : Cond.fieldLink RX1 18 RX1 (TX1 2).2.1 (TX1 2).2.2.1 ∈ WS := WS_of (T1 58 (by decide +kernel)) (by decide +kernel)
set_option maxRecDepth 20000 in
theorem fl_X6_49 : Cond.fieldLink RX6 49 RX1 (TX1 2).2.1 (TX1 2).2.2.1 ∈ WS := WS_of (T1 59 (by decide +kernel)) (by decide +kernel)
set_option maxRecDepth 20000 in
theorem fl_X11_122 : Cond.fieldLink RX11 122 RX1 (TX1 2).2.1 (TX1 2).2.2.1 ∈ WS := WS_of (T1 60 (by decide +kernel)) (by decide +kernel)
set_option maxRecDepth 20000 in
theorem fl_X2_79 : Cond.fieldLink RX2 79 RX1 (TX1 2).2.1 (TX1 2).2.2.1 ∈ WS := WS_of (T1 61 (by decide +kernel)) (by decide +kernel)
set_option maxRecDepth 20000 in
theorem fl_X1_23 : Cond.fieldLink RX1 23 RX1 (TX1 3).2.1 (TX1 3).2.2.1 ∈ WS := WS_of (T1 62 (by decide +kernel)) (by decide +kernel)
set_option maxRecDepth 20000 in
theorem fl_X6_45 : Cond.fieldLink RX6 45 RX1 (TX1 3).2.1 (TX1 3).2.2.1 ∈ WS := WS_of (T1 63 (by decide +kernel)) (by decide +kernel)
set_option maxRecDepth 20000 in
theorem fl_X2_37 : Cond.fieldLink RX2 37 RX1 (TX1 3).2.1 (TX1 3).2.2.1 ∈ WS := WS_of (T1 64 (by decide +kernel)) (by decide +kernel)
set_option maxRecDepth 20000 in
theorem fl_X5_26 : Cond.fieldLink RX5 26 RX1 (TX1 3).2.1 (TX1 3).2.2.1 ∈ WS := WS_of (T1 65 (by decide +kernel)) (by decide +kernel)
set_option maxRecDepth 20000 in
theorem fl_X0_50 : Cond.fieldLink RX0 50 RX1 (TX1 3).2.1 (TX1 3).2.2.1 ∈ WS := WS_of (T1 66 (by decide +kernel)) (by decide +kernel)
set_option maxRecDepth 20000 in
theorem fl_X9_36 : Cond.fieldLink RX9 36 RX1 (TX1 3).2.1 (TX1 3).2.2.1 ∈ WS := WS_of (T1 67 (by decide +kernel)) (by decide +kernel)
set_option maxRecDepth 20000 in
theorem fl_X11_129 : Cond.fieldLink RX11 129 RX1 (TX1 3).2.1 (TX1 3).2.2.1 ∈ WS := WS_of (T1 68 (by decide +kernel)) (by decide +kernel)
set_option maxRecDepth 20000 in
theorem fl_X1_27 : Cond.fieldLink RX1 27 RX1 (TX1 4).2.1 (TX1 4).2.2.1 ∈ WS := WS_of (T1 69 (by decide +kernel)) (by decide +kernel)
set_option maxRecDepth 20000 in
theorem fl_X6_48 : Cond.fieldLink RX6 48 RX1 (TX1 4).2.1 (TX1 4).2.2.1 ∈ WS := WS_of (T1 70 (by decide +kernel)) (by decide +kernel)
set_option maxRecDepth 20000 in
theorem fl_X5_31 : Cond.fieldLink RX5 31 RX1 (TX1 4).2.1 (TX1 4).2.2.1 ∈ WS := WS_of (T1 71 (by decide +kernel)) (by decide +kernel)
set_option maxRecDepth 20000 in
theorem fl_X0_56 : Cond.fieldLink RX0 56 RX1 (TX1 4).2.1 (TX1 4).2.2.1 ∈ WS := WS_of (T1 72 (by decide +kernel)) (by decide +kernel)
set_option maxRecDepth 20000 in
theorem fl_X9_41 : Cond.fieldLink RX9 41 RX1 (TX1 4).2.1 (TX1 4).2.2.1 ∈ WS := WS_of (T1 73 (by decide +kernel)) (by decide +kernel)
set_option maxRecDepth 20000 in
theorem fl_X11_141 : Cond.fieldLink RX11 141 RX1 (TX1 4).2.1 (TX1 4).2.2.1 ∈ WS := WS_of (T1 74 (by decide +kernel)) (by decide +kernel)
set_option maxRecDepth 20000 in
theorem fl_X2_76 : Cond.fieldLink RX2 76 RX1 (TX1 4).2.1 (TX1 4).2.2.1 ∈ WS := WS_of (T1 75 (by decide +kernel)) (by decide +kernel)
set_option maxRecDepth 20000 in
theorem fl_X1_30 : Cond.fieldLink RX1 30 RX1 (TX1 5).2.1 (TX1 5).2.2.1 ∈ WS := WS_of (T1 76 (by decide +kernel)) (by decide +kernel)
set_option maxRecDepth 20000 in
theorem fl_X6_86 : Cond.fieldLink RX6 86 RX1 (TX1 5).2.1 (TX1 5).2.2.1 ∈ WS := WS_of (T1 77 (by decide +kernel)) (by decide +kernel)
set_option maxRecDepth 20000 in
theorem fl_X11_144 : Cond.fieldLink RX11 144 RX1 (TX1 5).2.1 (TX1 5).2.2.1 ∈ WS := WS_of (T1 78 (by decide +kernel)) (by decide +kernel)
set_option maxRecDepth 20000 in
theorem fl_X7_62 : Cond.fieldLink RX7 62 RX1 (TX1 5).2.1 (TX1 5).2.2.1 ∈ WS := WS_of (T1 79 (by decide +kernel)) (by decide +kernel)
set_option maxRecDepth 20000 in
theorem fl_X10_11 : Cond.fieldLink RX10 11 RX10 (TX10 0).2.1 (TX10 0).2.2.1 ∈ WS := WS_of (T1 99 (by decide +kernel)) (by decide +kernel)
set_option maxRecDepth 20000 in
theorem fl_X10_15 : Cond.fieldLink RX10 15 RX10 (TX10 1).2.1 (TX10 1).2.2.1 ∈ WS := WS_of (T1 100 (by decide +kernel)) (by decide +kernel)
set_option maxRecDepth 20000 in
theorem fl_X10_18 : Cond.fieldLink RX10 18 RX10 (TX10 2).2.1 (TX10 2).2.2.1 ∈ WS := WS_of (T1 101 (by decide +kernel)) (by decide +kernel)
set_option maxRecDepth 20000 in
theorem fl_X11_237 : Cond.fieldLink RX11 237 RX10 (TX10 2).2.1 (TX10 2).2.2.1 ∈ WS := WS_of (T1 102 (by decide +kernel)) (by decide +kernel)
set_option maxRecDepth 20000 in
theorem fl_X10_22 : Cond.fieldLink RX10 22 RX10 (TX10 3).2.1 (TX10 3).2.2.1 ∈ WS := WS_of (T1 103 (by decide +kernel)) (by decide +kernel)
set_option maxRecDepth 20000 in
theorem fl_X10_25 : Cond.fieldLink RX10 25 RX10 (TX10 4).2.1 (TX10 4).2.2.1 ∈ WS := WS_of (T1 104 (by decide +kernel)) (by decide +kernel)
set_option maxRecDepth 20000 in
theorem fl_X8_9 : Cond.fieldLink RX8 9 RX8 (TX8 0).2.1 (TX8 0).2.2.1 ∈ WS := WS_of (T1 123 (by decide +kernel)) (by decide +kernel)
set_option maxRecDepth 20000 in
theorem fl_X0_66 : Cond.fieldLink RX0 66 RX8 (TX8 0).2.1 (TX8 0).2.2.1 ∈ WS := WS_of (T1 124 (by decide +kernel)) (by decide +kernel)
set_option maxRecDepth 20000 in
theorem fl_X8_15 : Cond.fieldLink RX8 15 RX8 (TX8 1).2.1 (TX8 1).2.2.1 ∈ WS := WS_of (T1 125 (by decide +kernel)) (by decide +kernel)
set_option maxRecDepth 20000 in
theorem fl_X0_73 : Cond.fieldLink RX0 73 RX8 (TX8 1).2.1 (TX8 1).2.2.1 ∈ WS := WS_of (T1 126 (by decide +kernel)) (by decide +kernel)
set_option maxRecDepth 20000 in
theorem fl_X8_18 : Cond.fieldLink RX8 18 RX8 (TX8 2).2.1 (TX8 2).2.2.1 ∈ WS := WS_of (T1 127 (by decide +kernel)) (by decide +kernel)
set_option maxRecDepth 20000 in
theorem fl_X0_69 : Cond.fieldLink RX0 69 RX8 (TX8 2).2.1 (TX8 2).2.2.1 ∈ WS := WS_of (T1 128 (by decide +kernel)) (by decide +kernel)
set_option maxRecDepth 20000 in
theorem fl_X8_22 : Cond.fieldLink RX8 22 RX8 (TX8 3).2.1 (TX8 3).2.2.1 ∈ WS := WS_of (T1 129 (by decide +kernel)) (by decide +kernel)
set_option maxRecDepth 20000 in
theorem fl_X11_112 : Cond.fieldLink RX11 112 RX8 (TX8 3).2.1 (TX8 3).2.2.1 ∈ WS := WS_of (T1 130 (by decide +kernel)) (by decide +kernel)
set_option maxRecDepth 20000 in
theorem fl_X0_63 : Cond.fieldLink RX0 63 RX8 (TX8 3).2.1 (TX8 3).2.2.1 ∈ WS := WS_of (T1 131 (by decide +kernel)) (by decide +kernel)
set_option maxRecDepth 20000 in
theorem fl_X3_10 : Cond.fieldLink RX3 10 RX3 (TX3 0).2.1 (TX3 0).2.2.1 ∈ WS := WS_of (T1 154 (by decide +kernel)) (by decide +kernel)
set_option maxRecDepth 20000 in
theorem fl_X11_271 : Cond.fieldLink RX11 271 RX3 (TX3 0).2.1 (TX3 0).2.2.1 ∈ WS := WS_of (T1 155 (by decide +kernel)) (by decide +kernel)
set_option maxRecDepth 20000 in
theorem fl_X3_19 : Cond.fieldLink RX3 19 RX3 (TX3 1).2.1 (TX3 1).2.2.1 ∈ WS := WS_of (T1 156 (by decide +kernel)) (by decide +kernel)
set_option maxRecDepth 20000 in
theorem fl_X11_275 : Cond.fieldLink RX11 275 RX3 (TX3 1).2.1 (TX3 1).2.2.1 ∈ WS := WS_of (T1 157 (by decide +kernel)) (by decide +kernel)
set_option maxRecDepth 20000 in
theorem fl_X3_26 : Cond.fieldLink RX3 26 RX3 (TX3 2).2.1 (TX3 2).2.2.1 ∈ WS := WS_of (T1 158 (by decide +kernel)) (by decide +kernel)
set_option maxRecDepth 20000 in
theorem fl_X11_279 : Cond.fieldLink RX11 279 RX3 (TX3 2).2.1 (TX3 2).2.2.1 ∈ WS := WS_of (T1 159 (by decide +kernel)) (by decide +kernel)
set_option maxRecDepth 20000 in
theorem fl_X3_30 : Cond.fieldLink RX3 30 RX3 (TX3 3).2.1 (TX3 3).2.2.1 ∈ WS := WS_of (T1 160 (by decide +kernel)) (by decide +kernel)
set_option maxRecDepth 20000 in
theorem fl_X11_283 : Cond.fieldLink RX11 283 RX3 (TX3 3).2.1 (TX3 3).2.2.1 ∈ WS := WS_of (T1 161 (by decide +kernel)) (by decide +kernel)
set_option maxRecDepth 20000 in
theorem fl_X6_9 : Cond.fieldLink RX6 9 RX6 (TX6 0).2.1 (TX6 0).2.2.1 ∈ WS := WS_of (T1 177 (by decide +kernel)) (by decide +kernel)
set_option maxRecDepth 20000 in
theorem fl_X6_15 : Cond.fieldLink RX6 15 RX6 (TX6 1).2.1 (TX6 1).2.2.1 ∈ WS := WS_of (T1 178 (by decide +kernel)) (by decide +kernel)
set_option maxRecDepth 20000 in
theorem fl_X6_19 : Cond.fieldLink RX6 19 RX6 (TX6 2).2.1 (TX6 2).2.2.1 ∈ WS := WS_of (T1 179 (by decide +kernel)) (by decide +kernel)
set_option maxRecDepth 20000 in
theorem fl_X11_171 : Cond.fieldLink RX11 171 RX6 (TX6 2).2.1 (TX6 2).2.2.1 ∈ WS := WS_of (T1 180 (by decide +kernel)) (by decide +kernel)
set_option maxRecDepth 20000 in
theorem fl_X6_23 : Cond.fieldLink RX6 23 RX6 (TX6 3).2.1 (TX6 3).2.2.1 ∈ WS := WS_of (T1 181 (by decide +kernel)) (by decide +kernel)
set_option maxRecDepth 20000 in
theorem fl_X11_172 : Cond.fieldLink RX11 172 RX6 (TX6 3).2.1 (TX6 3).2.2.1 ∈ WS := WS_of (T1 182 (by decide +kernel)) (by decide +kernel)
set_option maxRecDepth 20000 in
theorem fl_X6_26 : Cond.fieldLink RX6 26 RX6 (TX6 4).2.1 (TX6 4).2.2.1 ∈ WS := WS_of (T1 183 (by decide +kernel)) (by decide +kernel)
set_option maxRecDepth 20000 in
theorem fl_X11_173 : Cond.fieldLink RX11 173 RX6 (TX6 4).2.1 (TX6 4).2.2.1 ∈ WS := WS_of (T1 184 (by decide +kernel)) (by decide +kernel)
set_option maxRecDepth 20000 in
theorem fl_X6_30 : Cond.fieldLink RX6 30 RX6 (TX6 5).2.1 (TX6 5).2.2.1 ∈ WS := WS_of (T1 185 (by decide +kernel)) (by decide +kernel)
set_option maxRecDepth 20000 in
theorem fl_X6_33 : Cond.fieldLink RX6 33 RX6 (TX6 6).2.1 (TX6 6).2.2.1 ∈ WS := WS_of (T1 186 (by decide +kernel)) (by decide +kernel)
set_option maxRecDepth 20000 in
theorem fl_X11_174 : Cond.fieldLink RX11 174 RX6 (TX6 6).2.1 (TX6 6).2.2.1 ∈ WS := WS_of (T1 187 (by decide +kernel)) (by decide +kernel)
set_option maxRecDepth 20000 in
theorem fl_X6_36 : Cond.fieldLink RX6 36 RX6 (TX6 7).2.1 (TX6 7).2.2.1 ∈ WS := WS_of (T1 188 (by decide +kernel)) (by decide +kernel)
set_option maxRecDepth 20000 in
theorem fl_X11_177 : Cond.fieldLink RX11 177 RX6 (TX6 7).2.1 (TX6 7).2.2.1 ∈ WS := WS_of (T1 189 (by decide +kernel)) (by decide +kernel)
set_option maxRecDepth 20000 in
theorem fl_X6_39 : Cond.fieldLink RX6 39 RX6 (TX6 8).2.1 (TX6 8).2.2.1 ∈ WS := WS_of (T1 190 (by decide +kernel)) (by decide +kernel)
set_option maxRecDepth 20000 in
theorem fl_X11_180 : Cond.fieldLink RX11 180 RX6 (TX6 8).2.1 (TX6 8).2.2.1 ∈ WS := WS_of (T1 191 (by decide +kernel)) (by decide +kernel)
set_option maxRecDepth 20000 in
theorem fl_X6_42 : Cond.fieldLink RX6 42 RX6 (TX6 9).2.1 (TX6 9).2.2.1 ∈ WS := WS_of (T1 192 (by decide +kernel)) (by decide +kernel)
set_option maxRecDepth 20000 in
theorem fl_X11_268 : Cond.fieldLink RX11 268 RX6 (TX6 9).2.1 (TX6 9).2.2.1 ∈ WS := WS_of (T1 193 (by decide +kernel)) (by decide +kernel)
set_option maxRecDepth 20000 in
theorem fl_X7_9 : Cond.fieldLink RX7 9 RX7 (TX7 0).2.1 (TX7 0).2.2.1 ∈ WS := WS_of (T1 221 (by decide +kernel)) (by decide +kernel)
set_option maxRecDepth 20000 in
theorem fl_X7_15 : Cond.fieldLink RX7 15 RX7 (TX7 1).2.1 (TX7 1).2.2.1 ∈ WS := WS_of (T1 222 (by decide +kernel)) (by decide +kernel)
set_option maxRecDepth 20000 in
theorem fl_X7_19 : Cond.fieldLink RX7 19 RX7 (TX7 2).2.1 (TX7 2).2.2.1 ∈ WS := WS_of (T1 223 (by decide +kernel)) (by decide +kernel)
set_option maxRecDepth 20000 in
theorem fl_X7_23 : Cond.fieldLink RX7 23 RX7 (TX7 3).2.1 (TX7 3).2.2.1 ∈ WS := WS_of (T1 224 (by decide +kernel)) (by decide +kernel)
set_option maxRecDepth 20000 in
theorem fl_X2_69 : Cond.fieldLink RX2 69 RX7 (TX7 3).2.1 (TX7 3).2.2.1 ∈ WS := WS_of (T1 225 (by decide +kernel)) (by decide +kernel)
set_option maxRecDepth 20000 in
theorem fl_X11_193 : Cond.fieldLink RX11 193 RX7 (TX7 3).2.1 (TX7 3).2.2.1 ∈ WS := WS_of (T1 226 (by decide +kernel)) (by decide +kernel)
set_option maxRecDepth 20000 in
theorem fl_X7_26 : Cond.fieldLink RX7 26 RX7 (TX7 4).2.1 (TX7 4).2.2.1 ∈ WS := WS_of (T1 227 (by decide +kernel)) (by decide +kernel)
set_option maxRecDepth 20000 in
theorem fl_X11_196 : Cond.fieldLink RX11 196 RX7 (TX7 4).2.1 (TX7 4).2.2.1 ∈ WS := WS_of (T1 228 (by decide +kernel)) (by decide +kernel)
set_option maxRecDepth 20000 in
theorem fl_X2_9 : Cond.fieldLink RX2 9 RX2 (TX2 0).2.1 (TX2 0).2.2.1 ∈ WS := WS_of (T2 6 (by decide +kernel)) (by decide +kernel)
set_option maxRecDepth 20000 in
theorem fl_X2_15 : Cond.fieldLink RX2 15 RX2 (TX2 1).2.1 (TX2 1).2.2.1 ∈ WS := WS_of (T2 7 (by decide +kernel)) (by decide +kernel)
set_option maxRecDepth 20000 in
theorem fl_X11_207 : Cond.fieldLink RX11 207 RX2 (TX2 1).2.1 (TX2 1).2.2.1 ∈ WS := WS_of (T2 8 (by decide +kernel)) (by decide +kernel)
set_option maxRecDepth 20000 in
theorem fl_X2_18 : Cond.fieldLink RX2 18 RX2 (TX2 2).2.1 (TX2 2).2.2.1 ∈ WS := WS_of (T2 9 (by decide +kernel)) (by decide +kernel)
set_option maxRecDepth 20000 in
theorem fl_X2_22 : Cond.fieldLink RX2 22 RX2 (TX2 3).2.1 (TX2 3).2.2.1 ∈ WS := WS_of (T2 10 (by decide +kernel)) (by decide +kernel)
set_option maxRecDepth 20000 in
theorem fl_X2_26 : Cond.fieldLink RX2 26 RX2 (TX2 4).2.1 (TX2 4).2.2.1 ∈ WS := WS_of (T2 11 (by decide +kernel)) (by decide +kernel)
set_option maxRecDepth 20000 in
theorem fl_X2_30 : Cond.fieldLink RX2 30 RX2 (TX2 5).2.1 (TX2 5).2.2.1 ∈ WS := WS_of (T2 12 (by decide +kernel)) (by decide +kernel)
set_option maxRecDepth 20000 in
theorem fl_X2_34 : Cond.fieldLink RX2 34 RX2 (TX2 6).2.1 (TX2 6).2.2.1 ∈ WS := WS_of (T2 13 (by decide +kernel)) (by decide +kernel)
set_option maxRecDepth 20000 in
theorem fl_X11_206 : Cond.fieldLink RX11 206 RX2 (TX2 6).2.1 (TX2 6).2.2.1 ∈ WS := WS_of (T2 14 (by decide +kernel)) (by decide +kernel)
set_option maxRecDepth 20000 in
theorem fl_X5_9 : Cond.fieldLink RX5 9 RX5 (TX5 0).2.1 (TX5 0).2.2.1 ∈ WS := WS_of (T2 36 (by decide +kernel)) (by decide +kernel)
set_option maxRecDepth 20000 in
theorem fl_X5_15 : Cond.fieldLink RX5 15 RX5 (TX5 1).2.1 (TX5 1).2.2.1 ∈ WS := WS_of (T2 37 (by decide +kernel)) (by decide +kernel)
set_option maxRecDepth 20000 in
theorem fl_X5_19 : Cond.fieldLink RX5 19 RX5 (TX5 2).2.1 (TX5 2).2.2.1 ∈ WS := WS_of (T2 38 (by decide +kernel)) (by decide +kernel)
set_option maxRecDepth 20000 in
theorem fl_X5_22 : Cond.fieldLink RX5 22 RX5 (TX5 3).2.1 (TX5 3).2.2.1 ∈ WS := WS_of (T2 39 (by decide +kernel)) (by decide +kernel)
set_option maxRecDepth 20000 in
theorem fl_X9_9 : Cond.fieldLink RX9 9 RX9 (TX9 0).2.1 (TX9 0).2.2.1 ∈ WS := WS_of (T2 55 (by decide +kernel)) (by decide +kernel)
set_option maxRecDepth 20000 in
theorem fl_X9_15 : Cond.fieldLink RX9 15 RX9 (TX9 1).2.1 (TX9 1).2.2.1 ∈ WS := WS_of (T2 56 (by decide +kernel)) (by decide +kernel)
set_option maxRecDepth 20000 in
theorem fl_X9_19 : Cond.fieldLink RX9 19 RX9 (TX9 2).2.1 (TX9 2).2.2.1 ∈ WS := WS_of (T2 57 (by decide +kernel)) (by decide +kernel)
set_option maxRecDepth 20000 in
theorem fl_X9_23 : Cond.fieldLink RX9 23 RX9 (TX9 3).2.1 (TX9 3).2.2.1 ∈ WS := WS_of (T2 58 (by decide +kernel)) (by decide +kernel)
set_option maxRecDepth 20000 in
theorem fl_X9_27 : Cond.fieldLink RX9 27 RX9 (TX9 4).2.1 (TX9 4).2.2.1 ∈ WS := WS_of (T2 59 (by decide +kernel)) (by decide +kernel)
set_option maxRecDepth 20000 in
theorem fl_X9_30 : Cond.fieldLink RX9 30 RX9 (TX9 5).2.1 (TX9 5).2.2.1 ∈ WS := WS_of (T2 60 (by decide +kernel)) (by decide +kernel)
set_option maxRecDepth 20000 in
theorem fl_X11_221 : Cond.fieldLink RX11 221 RX9 (TX9 5).2.1 (TX9 5).2.2.1 ∈ WS := WS_of (T2 61 (by decide +kernel)) (by decide +kernel)
set_option maxRecDepth 20000 in
theorem fl_X9_33 : Cond.fieldLink RX9 33 RX9 (TX9 6).2.1 (TX9 6).2.2.1 ∈ WS := WS_of (T2 62 (by decide +kernel)) (by decide +kernel)
set_option maxRecDepth 20000 in
theorem fl_X11_224 : Cond.fieldLink RX11 224 RX9 (TX9 6).2.1 (TX9 6).2.2.1 ∈ WS := WS_of (T2 63 (by decide +kernel)) (by decide +kernel)
set_option maxRecDepth 20000 in
theorem fl_X0_9 : Cond.fieldLink RX0 9 RX0 (TX0 0).2.1 (TX0 0).2.2.1 ∈ WS := WS_of (T2 86 (by decide +kernel)) (by decide +kernel)
set_option maxRecDepth 20000 in
theorem fl_X0_15 : Cond.fieldLink RX0 15 RX0 (TX0 1).2.1 (TX0 1).2.2.1 ∈ WS := WS_of (T2 87 (by decide +kernel)) (by decide +kernel)
set_option maxRecDepth 20000 in
theorem fl_X0_18 : Cond.fieldLink RX0 18 RX0 (TX0 2).2.1 (TX0 2).2.2.1 ∈ WS := WS_of (T2 88 (by decide +kernel)) (by decide +kernel)
set_option maxRecDepth 20000 in
theorem fl_X0_21 : Cond.fieldLink RX0 21 RX0 (TX0 3).2.1 (TX0 3).2.2.1 ∈ WS := WS_of (T2 89 (by decide +kernel)) (by decide +kernel)
set_option maxRecDepth 20000 in
theorem fl_X0_25 : Cond.fieldLink RX0 25 RX0 (TX0 4).2.1 (TX0 4).2.2.1 ∈ WS := WS_of (T2 90 (by decide +kernel)) (by decide +kernel)
set_option maxRecDepth 20000 in
theorem fl_X11_251 : Cond.fieldLink RX11 251 RX0 (TX0 4).2.1 (TX0 4).2.2.1 ∈ WS := WS_of (T2 91 (by decide +kernel)) (by decide +kernel)
set_option maxRecDepth 20000 in
theorem fl_X0_28 : Cond.fieldLink RX0 28 RX0 (TX0 5).2.1 (TX0 5).2.2.1 ∈ WS := WS_of (T2 92 (by decide +kernel)) (by decide +kernel)
set_option maxRecDepth 20000 in
theorem fl_X11_254 : Cond.fieldLink RX11 254 RX0 (TX0 5).2.1 (TX0 5).2.2.1 ∈ WS := WS_of (T2 93 (by decide +kernel)) (by decide +kernel)
set_option maxRecDepth 20000 in
theorem fl_X0_31 : Cond.fieldLink RX0 31 RX0 (TX0 6).2.1 (TX0 6).2.2.1 ∈ WS := WS_of (T2 94 (by decide +kernel)) (by decide +kernel)
set_option maxRecDepth 20000 in
theorem fl_X0_35 : Cond.fieldLink RX0 35 RX0 (TX0 7).2.1 (TX0 7).2.2.1 ∈ WS := WS_of (T2 95 (by decide +kernel)) (by decide +kernel)
set_option maxRecDepth 20000 in
theorem fl_X11_293 : Cond.fieldLink RX11 293 RX0 (TX0 7).2.1 (TX0 7).2.2.1 ∈ WS := WS_of (T2 96 (by decide +kernel)) (by decide +kernel)
set_option maxRecDepth 20000 in
theorem fl_X0_39 : Cond.fieldLink RX0 39 RX0 (TX0 8).2.1 (TX0 8).2.2.1 ∈ WS := WS_of (T2 97 (by decide +kernel)) (by decide +kernel)
set_option maxRecDepth 20000 in
theorem fl_X11_250 : Cond.fieldLink RX11 250 RX0 (TX0 8).2.1 (TX0 8).2.2.1 ∈ WS := WS_of (T2 98 (by decide +kernel)) (by decide +kernel)
set_option maxRecDepth 20000 in
theorem fl_X0_42 : Cond.fieldLink RX0 42 RX0 (TX0 9).2.1 (TX0 9).2.2.1 ∈ WS := WS_of (T2 99 (by decide +kernel)) (by decide +kernel)
set_option maxRecDepth 20000 in
theorem fl_X11_12 : Cond.fieldLink RX11 12 RX11 (TX11 0).2.1 (TX11 0).2.2.1 ∈ WS := WS_of (T2 121 (by decide +kernel)) (by decide +kernel)
set_option maxRecDepth 20000 in
theorem fl_X11_19 : Cond.fieldLink RX11 19 RX11 (TX11 1).2.1 (TX11 1).2.2.1 ∈ WS := WS_of (T2 122 (by decide +kernel)) (by decide +kernel)
set_option maxRecDepth 20000 in
theorem fl_X11_26 : Cond.fieldLink RX11 26 RX11 (TX11 2).2.1 (TX11 2).2.2.1 ∈ WS := WS_of (T2 123 (by decide +kernel)) (by decide +kernel)
set_option maxRecDepth 20000 in
theorem fl_X11_33 : Cond.fieldLink RX11 33 RX11 (TX11 3).2.1 (TX11 3).2.2.1 ∈ WS := WS_of (T2 124 (by decide +kernel)) (by decide +kernel)
set_option maxRecDepth 20000 in
theorem fl_X11_40 : Cond.fieldLink RX11 40 RX11 (TX11 4).2.1 (TX11 4).2.2.1 ∈ WS := WS_of (T2 125 (by decide +kernel)) (by decide +kernel)
set_option maxRecDepth 20000 in
theorem fl_X11_47 : Cond.fieldLink RX11 47 RX11 (TX11 5).2.1 (TX11 5).2.2.1 ∈ WS := WS_of (T2 126 (by decide +kernel)) (by decide +kernel)
set_option maxRecDepth 20000 in
theorem fl_X11_54 : Cond.fieldLink RX11 54 RX11 (TX11 6).2.1 (TX11 6).2.2.1 ∈ WS := WS_of (T2 127 (by decide +kernel)) (by decide +kernel)
set_option maxRecDepth 20000 in
theorem fl_X11_61 : Cond.fieldLink RX11 61 RX11 (TX11 7).2.1 (TX11 7).2.2.1 ∈ WS := WS_of (T2 128 (by decide +kernel)) (by decide +kernel)
set_option maxRecDepth 20000 in
theorem fl_X11_68 : Cond.fieldLink RX11 68 RX11 (TX11 8).2.1 (TX11 8).2.2.1 ∈ WS := WS_of (T2 129 (by decide +kernel)) (by decide +kernel)
set_option maxRecDepth 20000 in
theorem fl_X11_75 : Cond.fieldLink RX11 75 RX11 (TX11 9).2.1 (TX11 9).2.2.1 ∈ WS := WS_of (T2 130 (by decide +kernel)) (by decide +kernel)
set_option maxRecDepth 20000 in
theorem fl_X11_82 : Cond.fieldLink RX11 82 RX11 (TX11 10).2.1 (TX11 10).2.2.1 ∈ WS := WS_of (T2 131 (by decide +kernel)) (by decide +kernel)
set_option maxRecDepth 20000 in
theorem fl_X11_86 : Cond.fieldLink RX11 86 RX11 (TX11 11).2.1 (TX11 11).2.2.1 ∈ WS := WS_of (T2 132 (by decide +kernel)) (by decide +kernel)
set_option maxRecDepth 20000 in
theorem fl_X11_90 : Cond.fieldLink RX11 90 RX11 (TX11 12).2.1 (TX11 12).2.2.1 ∈ WS := WS_of (T2 133 (by decide +kernel)) (by decide +kernel)
set_option maxRecDepth 20000 in
theorem fl_X11_93 : Cond.fieldLink RX11 93 RX11 (TX11 13).2.1 (TX11 13).2.2.1 ∈ WS := WS_of (T2 134 (by decide +kernel)) (by decide +kernel)
set_option maxRecDepth 20000 in
theorem fl_X11_96 : Cond.fieldLink RX11 96 RX11 (TX11 14).2.1 (TX11 14).2.2.1 ∈ WS := WS_of (T2 135 (by decide +kernel)) (by decide +kernel)
set_option maxRecDepth 20000 in
theorem fl_X11_99 : Cond.fieldLink RX11 99 RX11 (TX11 15).2.1 (TX11 15).2.2.1 ∈ WS := WS_of (T2 136 (by decide +kernel)) (by decide +kernel)
set_option maxRecDepth 20000 in
theorem fl_X11_102 : Cond.fieldLink RX11 102 RX11 (TX11 16).2.1 (TX11 16).2.2.1 ∈ WS := WS_of (T2 137 (by decide +kernel)) (by decide +kernel)
set_option maxRecDepth 20000 in
theorem fl_X11_199 : Cond.fieldLink RX11 199 "PailChain" "MOVES" "[I" ∈ WS := WS_of (T3 115 (by decide +kernel)) (by decide +kernel)
set_option maxRecDepth 20000 in
theorem fl_X12_77 : Cond.fieldLink RX12 77 RX12 (TX12 0).2.1 (TX12 0).2.2.1 ∈ WS := WS_of (T4 97 (by decide +kernel)) (by decide +kernel)
set_option maxRecDepth 20000 in
theorem fl_X12_69 : Cond.fieldLink RX12 69 RX12 (TX12 1).2.1 (TX12 1).2.2.1 ∈ WS := WS_of (T4 98 (by decide +kernel)) (by decide +kernel)
set_option maxRecDepth 20000 in
theorem fl_X12_7 : Cond.fieldLink RX12 7 RX12 (TX12 2).2.1 (TX12 2).2.2.1 ∈ WS := WS_of (T4 99 (by decide +kernel)) (by decide +kernel)
set_option maxRecDepth 20000 in
theorem fl_X12_13 : Cond.fieldLink RX12 13 RX12 (TX12 3).2.1 (TX12 3).2.2.1 ∈ WS := WS_of (T4 100 (by decide +kernel)) (by decide +kernel)
set_option maxRecDepth 20000 in
theorem fl_X12_16 : Cond.fieldLink RX12 16 RX12 (TX12 4).2.1 (TX12 4).2.2.1 ∈ WS := WS_of (T4 101 (by decide +kernel)) (by decide +kernel)
set_option maxRecDepth 20000 in
theorem fl_X12_19 : Cond.fieldLink RX12 19 RX12 (TX12 5).2.1 (TX12 5).2.2.1 ∈ WS := WS_of (T4 102 (by decide +kernel)) (by decide +kernel)
set_option maxRecDepth 20000 in
theorem fl_X12_80 : Cond.fieldLink RX12 80 RX12 (TX12 6).2.1 (TX12 6).2.2.1 ∈ WS := WS_of (T4 103 (by decide +kernel)) (by decide +kernel)
set_option maxRecDepth 20000 in
theorem fl_X12_22 : Cond.fieldLink RX12 22 RX12 (TX12 7).2.1 (TX12 7).2.2.1 ∈ WS := WS_of (T4 104 (by decide +kernel)) (by decide +kernel)
set_option maxRecDepth 20000 in
theorem fl_X12_187 : Cond.fieldLink RX12 187 RX12 (TX12 8).2.1 (TX12 8).2.2.1 ∈ WS := WS_of (T4 105 (by decide +kernel)) (by decide +kernel)
set_option maxRecDepth 20000 in
theorem fl_X12_25 : Cond.fieldLink RX12 25 RX12 (TX12 9).2.1 (TX12 9).2.2.1 ∈ WS := WS_of (T4 106 (by decide +kernel)) (by decide +kernel)
set_option maxRecDepth 20000 in
theorem fl_X12_28 : Cond.fieldLink RX12 28 RX12 (TX12 10).2.1 (TX12 10).2.2.1 ∈ WS := WS_of (T4 107 (by decide +kernel)) (by decide +kernel)
set_option maxRecDepth 20000 in
theorem fl_X12_31 : Cond.fieldLink RX12 31 RX12 (TX12 11).2.1 (TX12 11).2.2.1 ∈ WS := WS_of (T4 108 (by decide +kernel)) (by decide +kernel)
set_option maxRecDepth 20000 in
theorem fl_X12_83 : Cond.fieldLink RX12 83 RX12 (TX12 12).2.1 (TX12 12).2.2.1 ∈ WS := WS_of (T4 109 (by decide +kernel)) (by decide +kernel)
set_option maxRecDepth 20000 in
theorem fl_X12_34 : Cond.fieldLink RX12 34 RX12 (TX12 13).2.1 (TX12 13).2.2.1 ∈ WS := WS_of (T4 110 (by decide +kernel)) (by decide +kernel)
set_option maxRecDepth 20000 in
theorem fl_X12_102 : Cond.fieldLink RX12 102 RX12 (TX12 14).2.1 (TX12 14).2.2.1 ∈ WS := WS_of (T4 111 (by decide +kernel)) (by decide +kernel)
set_option maxRecDepth 20000 in
theorem fl_X12_37 : Cond.fieldLink RX12 37 RX12 (TX12 15).2.1 (TX12 15).2.2.1 ∈ WS := WS_of (T4 112 (by decide +kernel)) (by decide +kernel)
set_option maxRecDepth 20000 in
theorem fl_X12_40 : Cond.fieldLink RX12 40 RX12 (TX12 16).2.1 (TX12 16).2.2.1 ∈ WS := WS_of (T4 113 (by decide +kernel)) (by decide +kernel)
set_option maxRecDepth 20000 in
theorem fl_X12_43 : Cond.fieldLink RX12 43 RX12 (TX12 17).2.1 (TX12 17).2.2.1 ∈ WS := WS_of (T4 114 (by decide +kernel)) (by decide +kernel)
set_option maxRecDepth 20000 in
theorem fl_X12_105 : Cond.fieldLink RX12 105 RX12 (TX12 18).2.1 (TX12 18).2.2.1 ∈ WS := WS_of (T4 115 (by decide +kernel)) (by decide +kernel)
set_option maxRecDepth 20000 in
theorem fl_X12_108 : Cond.fieldLink RX12 108 RX12 (TX12 19).2.1 (TX12 19).2.2.1 ∈ WS := WS_of (T4 116 (by decide +kernel)) (by decide +kernel)
set_option maxRecDepth 20000 in
theorem fl_X12_111 : Cond.fieldLink RX12 111 RX12 (TX12 20).2.1 (TX12 20).2.2.1 ∈ WS := WS_of (T4 117 (by decide +kernel)) (by decide +kernel)
set_option maxRecDepth 20000 in
theorem fl_X12_114 : Cond.fieldLink RX12 114 RX12 (TX12 21).2.1 (TX12 21).2.2.1 ∈ WS := WS_of (T4 118 (by decide +kernel)) (by decide +kernel)
set_option maxRecDepth 20000 in
theorem fl_X12_117 : Cond.fieldLink RX12 117 RX12 (TX12 22).2.1 (TX12 22).2.2.1 ∈ WS := WS_of (T4 119 (by decide +kernel)) (by decide +kernel)
set_option maxRecDepth 20000 in
theorem fl_X12_151 : Cond.fieldLink RX12 151 RX12 (TX12 23).2.1 (TX12 23).2.2.1 ∈ WS := WS_of (T4 120 (by decide +kernel)) (by decide +kernel)
set_option maxRecDepth 20000 in
theorem fl_X12_46 : Cond.fieldLink RX12 46 RX12 (TX12 24).2.1 (TX12 24).2.2.1 ∈ WS := WS_of (T4 121 (by decide +kernel)) (by decide +kernel)
set_option maxRecDepth 20000 in
theorem fl_X12_49 : Cond.fieldLink RX12 49 RX12 (TX12 25).2.1 (TX12 25).2.2.1 ∈ WS := WS_of (T4 122 (by decide +kernel)) (by decide +kernel)
set_option maxRecDepth 20000 in
theorem fl_X12_53 : Cond.fieldLink RX12 53 RX12 (TX12 26).2.1 (TX12 26).2.2.1 ∈ WS := WS_of (T4 123 (by decide +kernel)) (by decide +kernel)
set_option maxRecDepth 20000 in
theorem fl_X12_56 : Cond.fieldLink RX12 56 RX12 (TX12 27).2.1 (TX12 27).2.2.1 ∈ WS := WS_of (T4 124 (by decide +kernel)) (by decide +kernel)
set_option maxRecDepth 20000 in
theorem fl_X12_59 : Cond.fieldLink RX12 59 RX12 (TX12 28).2.1 (TX12 28).2.2.1 ∈ WS := WS_of (T4 125 (by decide +kernel)) (by decide +kernel)
set_option maxRecDepth 20000 in
theorem fl_X12_62 : Cond.fieldLink RX12 62 RX12 (TX12 29).2.1 (TX12 29).2.2.1 ∈ WS := WS_of (T4 126 (by decide +kernel)) (by decide +kernel)
set_option maxRecDepth 20000 in
theorem fl_X12_65 : Cond.fieldLink RX12 65 RX12 (TX12 30).2.1 (TX12 30).2.2.1 ∈ WS := WS_of (T4 127 (by decide +kernel)) (by decide +kernel)
set_option maxRecDepth 20000 in
theorem fl_X12_238 : Cond.fieldLink RX12 238 RX12 (TX12 31).2.1 (TX12 31).2.2.1 ∈ WS := WS_of (T4 128 (by decide +kernel)) (by decide +kernel)
set_option maxRecDepth 20000 in
theorem fl_X12_234 : Cond.fieldLink RX12 234 RX12 (TX12 32).2.1 (TX12 32).2.2.1 ∈ WS := WS_of (T4 129 (by decide +kernel)) (by decide +kernel)
set_option maxRecDepth 20000 in
theorem ml_X11_3 : Cond.methodLink RX11 3 objectInit ∈ WS := WS_of (T1 21 (by decide +kernel)) (by decide +kernel)
set_option maxRecDepth 20000 in
theorem ml_X4_3 : Cond.methodLink RX4 3 objectInit ∈ WS := WS_of (T1 29 (by decide +kernel)) (by decide +kernel)
set_option maxRecDepth 20000 in
theorem ml_X1_3 : Cond.methodLink RX1 3 objectInit ∈ WS := WS_of (T1 47 (by decide +kernel)) (by decide +kernel)
set_option maxRecDepth 20000 in
theorem ml_X10_3 : Cond.methodLink RX10 3 objectInit ∈ WS := WS_of (T1 98 (by decide +kernel)) (by decide +kernel)
set_option maxRecDepth 20000 in
theorem ml_X8_3 : Cond.methodLink RX8 3 objectInit ∈ WS := WS_of (T1 122 (by decide +kernel)) (by decide +kernel)
set_option maxRecDepth 20000 in
theorem ml_X3_1 : Cond.methodLink RX3 1 objectInit ∈ WS := WS_of (T1 147 (by decide +kernel)) (by decide +kernel)
set_option maxRecDepth 20000 in
theorem ml_X6_3 : Cond.methodLink RX6 3 objectInit ∈ WS := WS_of (T1 176 (by decide +kernel)) (by decide +kernel)
set_option maxRecDepth 20000 in
theorem ml_X7_3 : Cond.methodLink RX7 3 objectInit ∈ WS := WS_of (T1 220 (by decide +kernel)) (by decide +kernel)
set_option maxRecDepth 20000 in
theorem ml_X2_3 : Cond.methodLink RX2 3 objectInit ∈ WS := WS_of (T2 5 (by decide +kernel)) (by decide +kernel)
set_option maxRecDepth 20000 in
theorem ml_X5_3 : Cond.methodLink RX5 3 objectInit ∈ WS := WS_of (T2 35 (by decide +kernel)) (by decide +kernel)
set_option maxRecDepth 20000 in
theorem ml_X9_3 : Cond.methodLink RX9 3 objectInit ∈ WS := WS_of (T2 54 (by decide +kernel)) (by decide +kernel)
set_option maxRecDepth 20000 in
theorem ml_X0_3 : Cond.methodLink RX0 3 objectInit ∈ WS := WS_of (T2 85 (by decide +kernel)) (by decide +kernel)
set_option maxRecDepth 20000 in
theorem ml_X1_37 : Cond.methodLink RX1 37 Lib.Math.max.name ∈ WS := WS_of (T2 218 (by decide +kernel)) (by decide +kernel)
set_option maxRecDepth 20000 in
theorem ml_X7_81 : Cond.methodLink RX7 81 Lib.Math.abs.name ∈ WS := WS_of (T3 95 (by decide +kernel)) (by decide +kernel)
set_option maxRecDepth 20000 in
theorem ml_X7_85 : Cond.methodLink RX7 85 Lib.Math.min.name ∈ WS := WS_of (T3 98 (by decide +kernel)) (by decide +kernel)
set_option maxRecDepth 20000 in
theorem ml_X7_73 : Cond.methodLink RX7 73 Lib.Math.max.name ∈ WS := WS_of (T3 101 (by decide +kernel)) (by decide +kernel)
set_option maxRecDepth 20000 in
theorem ml_X2_70 : Cond.methodLink RX2 70 arraycopyName ∈ WS := WS_of (T3 137 (by decide +kernel)) (by decide +kernel)
set_option maxRecDepth 20000 in
theorem ml_X5_50 : Cond.methodLink RX5 50 Lib.Math.max.name ∈ WS := WS_of (T3 164 (by decide +kernel)) (by decide +kernel)
set_option maxRecDepth 20000 in
theorem ml_X10_63 : Cond.methodLink RX10 63 Lib.Math.min.name ∈ WS := WS_of (T3 233 (by decide +kernel)) (by decide +kernel)
set_option maxRecDepth 20000 in
theorem ml_X0_97 : Cond.methodLink RX0 97 arraycopyName ∈ WS := WS_of (T4 39 (by decide +kernel)) (by decide +kernel)
set_option maxRecDepth 20000 in
theorem ml_X10_29 : Cond.methodLink RX10 29 arraycopyName ∈ WS := WS_of (T4 69 (by decide +kernel)) (by decide +kernel)
set_option maxRecDepth 20000 in
theorem ml_X12_1 : Cond.methodLink RX12 1 objectInit ∈ WS := WS_of (T4 91 (by decide +kernel)) (by decide +kernel)
set_option maxRecDepth 20000 in
theorem wJ_max_s : Cond.static Lib.Math.max.name ∈ WS := WS_of (T2 219 (by decide +kernel)) (by decide +kernel)
set_option maxRecDepth 20000 in
theorem wJ_max_c : Cond.code Lib.Math.max.name Lib.Math.max.code 2 (some .int) ∈ WS := WS_of (T2 220 (by decide +kernel)) (by decide +kernel)
set_option maxRecDepth 20000 in
theorem wJ_min_s : Cond.static Lib.Math.min.name ∈ WS := WS_of (T3 99 (by decide +kernel)) (by decide +kernel)
set_option maxRecDepth 20000 in
theorem wJ_min_c : Cond.code Lib.Math.min.name Lib.Math.min.code 2 (some .int) ∈ WS := WS_of (T3 100 (by decide +kernel)) (by decide +kernel)
set_option maxRecDepth 20000 in
theorem wJ_abs_s : Cond.static Lib.Math.abs.name ∈ WS := WS_of (T3 96 (by decide +kernel)) (by decide +kernel)
set_option maxRecDepth 20000 in
theorem wJ_abs_c : Cond.code Lib.Math.abs.name Lib.Math.abs.code 1 (some .int) ∈ WS := WS_of (T3 97 (by decide +kernel)) (by decide +kernel)
set_option maxRecDepth 20000 in
theorem wJ_math : Cond.initialized "java/lang/Math" ∈ WS := WS_of (T1 14 (by decide +kernel)) (by decide +kernel)
set_option maxRecDepth 20000 in
theorem wJ_sys : Cond.initialized "java/lang/System" ∈ WS := WS_of (T1 15 (by decide +kernel)) (by decide +kernel)
set_option maxRecDepth 20000 in
theorem wJ_ac_n : Cond.native arraycopyName ∈ WS := WS_of (T3 139 (by decide +kernel)) (by decide +kernel)
set_option maxRecDepth 20000 in
theorem wJ_ac_s : Cond.static arraycopyName ∈ WS := WS_of (T3 138 (by decide +kernel)) (by decide +kernel)
set_option maxRecDepth 20000 in
theorem wJ_obj_i : Cond.instanceMethod objectInit ∈ WS := WS_of (T1 22 (by decide +kernel)) (by decide +kernel)
set_option maxRecDepth 20000 in
theorem wJ_obj_c : Cond.code objectInit ⟨#[0xb1]⟩ 1 none ∈ WS := WS_of (T1 23 (by decide +kernel)) (by decide +kernel)
set_option maxRecDepth 20000 in
theorem wA_I : Cond.arrayClass .int ∈ WS := WS_of (T1 41 (by decide +kernel)) (by decide +kernel)
set_option maxRecDepth 20000 in
theorem wA_J : Cond.arrayClass .long ∈ WS := WS_of (T2 79 (by decide +kernel)) (by decide +kernel)
set_option maxRecDepth 20000 in
theorem wA_Z : Cond.arrayClass .boolean ∈ WS := WS_of (T1 116 (by decide +kernel)) (by decide +kernel)
set_option maxRecDepth 20000 in
theorem nk_L_7 : Cond.classLink RL 7 RX11 ∈ WS ∧ Cond.instantiable RX11 17 ∈ WS ∧ Cond.initialized RX11 ∈ WS := ⟨WS_of (T1 16 (by decide +kernel)) (by decide +kernel), WS_of (T1 17 (by decide +kernel)) (by decide +kernel), WS_of (T1 1 (by decide +kernel)) (by decide +kernel)⟩
set_option maxRecDepth 20000 in
theorem nk_X11_9 : Cond.classLink RX11 9 RX4 ∈ WS ∧ Cond.instantiable RX4 2 ∈ WS ∧ Cond.initialized RX4 ∈ WS := ⟨WS_of (T1 24 (by decide +kernel)) (by decide +kernel), WS_of (T1 25 (by decide +kernel)) (by decide +kernel), WS_of (T1 2 (by decide +kernel)) (by decide +kernel)⟩
set_option maxRecDepth 20000 in
theorem nk_X11_16 : Cond.classLink RX11 16 RX1 ∈ WS ∧ Cond.instantiable RX1 6 ∈ WS ∧ Cond.initialized RX1 ∈ WS := ⟨WS_of (T1 42 (by decide +kernel)) (by decide +kernel), WS_of (T1 43 (by decide +kernel)) (by decide +kernel), WS_of (T1 3 (by decide +kernel)) (by decide +kernel)⟩
set_option maxRecDepth 20000 in
theorem cl_X1_21 : Cond.constantLong RX1 21 (6) ∈ WS := WS_of (T1 48 (by decide +kernel)) (by decide +kernel)
set_option maxRecDepth 20000 in
theorem nk_X11_23 : Cond.classLink RX11 23 RX10 ∈ WS ∧ Cond.instantiable RX10 5 ∈ WS ∧ Cond.initialized RX10 ∈ WS := ⟨WS_of (T1 93 (by decide +kernel)) (by decide +kernel), WS_of (T1 94 (by decide +kernel)) (by decide +kernel), WS_of (T1 4 (by decide +kernel)) (by decide +kernel)⟩
set_option maxRecDepth 20000 in
theorem nk_X11_30 : Cond.classLink RX11 30 RX8 ∈ WS ∧ Cond.instantiable RX8 4 ∈ WS ∧ Cond.initialized RX8 ∈ WS := ⟨WS_of (T1 117 (by decide +kernel)) (by decide +kernel), WS_of (T1 118 (by decide +kernel)) (by decide +kernel), WS_of (T1 5 (by decide +kernel)) (by decide +kernel)⟩
set_option maxRecDepth 20000 in
theorem nk_X11_37 : Cond.classLink RX11 37 RX3 ∈ WS ∧ Cond.instantiable RX3 4 ∈ WS ∧ Cond.initialized RX3 ∈ WS := ⟨WS_of (T1 141 (by decide +kernel)) (by decide +kernel), WS_of (T1 143 (by decide +kernel)) (by decide +kernel), WS_of (T1 6 (by decide +kernel)) (by decide +kernel)⟩
set_option maxRecDepth 20000 in
theorem nk_X3_7 : Cond.classLink RX3 7 RX1 ∈ WS ∧ Cond.instantiable RX1 6 ∈ WS ∧ Cond.initialized RX1 ∈ WS := ⟨WS_of (T1 148 (by decide +kernel)) (by decide +kernel), WS_of (T1 43 (by decide +kernel)) (by decide +kernel), WS_of (T1 3 (by decide +kernel)) (by decide +kernel)⟩
set_option maxRecDepth 20000 in
theorem nk_X3_16 : Cond.classLink RX3 16 RX10 ∈ WS ∧ Cond.instantiable RX10 5 ∈ WS ∧ Cond.initialized RX10 ∈ WS := ⟨WS_of (T1 150 (by decide +kernel)) (by decide +kernel), WS_of (T1 94 (by decide +kernel)) (by decide +kernel), WS_of (T1 4 (by decide +kernel)) (by decide +kernel)⟩
set_option maxRecDepth 20000 in
theorem nk_X3_23 : Cond.classLink RX3 23 RX8 ∈ WS ∧ Cond.instantiable RX8 4 ∈ WS ∧ Cond.initialized RX8 ∈ WS := ⟨WS_of (T1 152 (by decide +kernel)) (by decide +kernel), WS_of (T1 118 (by decide +kernel)) (by decide +kernel), WS_of (T1 5 (by decide +kernel)) (by decide +kernel)⟩
set_option maxRecDepth 20000 in
theorem nk_X11_44 : Cond.classLink RX11 44 RX6 ∈ WS ∧ Cond.instantiable RX6 10 ∈ WS ∧ Cond.initialized RX6 ∈ WS := ⟨WS_of (T1 171 (by decide +kernel)) (by decide +kernel), WS_of (T1 172 (by decide +kernel)) (by decide +kernel), WS_of (T1 7 (by decide +kernel)) (by decide +kernel)⟩
set_option maxRecDepth 20000 in
theorem nk_X11_51 : Cond.classLink RX11 51 RX7 ∈ WS ∧ Cond.instantiable RX7 5 ∈ WS ∧ Cond.initialized RX7 ∈ WS := ⟨WS_of (T1 215 (by decide +kernel)) (by decide +kernel), WS_of (T1 216 (by decide +kernel)) (by decide +kernel), WS_of (T1 8 (by decide +kernel)) (by decide +kernel)⟩
set_option maxRecDepth 20000 in
theorem nk_X11_58 : Cond.classLink RX11 58 RX2 ∈ WS ∧ Cond.instantiable RX2 7 ∈ WS ∧ Cond.initialized RX2 ∈ WS := ⟨WS_of (T2 0 (by decide +kernel)) (by decide +kernel), WS_of (T2 1 (by decide +kernel)) (by decide +kernel), WS_of (T1 9 (by decide +kernel)) (by decide +kernel)⟩
set_option maxRecDepth 20000 in
theorem nk_X11_65 : Cond.classLink RX11 65 RX5 ∈ WS ∧ Cond.instantiable RX5 4 ∈ WS ∧ Cond.initialized RX5 ∈ WS := ⟨WS_of (T2 30 (by decide +kernel)) (by decide +kernel), WS_of (T2 31 (by decide +kernel)) (by decide +kernel), WS_of (T1 10 (by decide +kernel)) (by decide +kernel)⟩
set_option maxRecDepth 20000 in
theorem nk_X11_72 : Cond.classLink RX11 72 RX9 ∈ WS ∧ Cond.instantiable RX9 7 ∈ WS ∧ Cond.initialized RX9 ∈ WS := ⟨WS_of (T2 49 (by decide +kernel)) (by decide +kernel), WS_of (T2 50 (by decide +kernel)) (by decide +kernel), WS_of (T1 11 (by decide +kernel)) (by decide +kernel)⟩
set_option maxRecDepth 20000 in
theorem nk_X11_79 : Cond.classLink RX11 79 RX0 ∈ WS ∧ Cond.instantiable RX0 10 ∈ WS ∧ Cond.initialized RX0 ∈ WS := ⟨WS_of (T2 80 (by decide +kernel)) (by decide +kernel), WS_of (T2 81 (by decide +kernel)) (by decide +kernel), WS_of (T1 12 (by decide +kernel)) (by decide +kernel)⟩
set_option maxRecDepth 20000 in
theorem cl_X11_299 : Cond.constantLong RX11 299 (15) ∈ WS := WS_of (T2 196 (by decide +kernel)) (by decide +kernel)
set_option maxRecDepth 20000 in
theorem cl_X11_151 : Cond.constantLong RX11 151 (-1) ∈ WS := WS_of (T2 200 (by decide +kernel)) (by decide +kernel)
set_option maxRecDepth 20000 in
theorem cl_X11_301 : Cond.constantLong RX11 301 (16) ∈ WS := WS_of (T2 208 (by decide +kernel)) (by decide +kernel)
set_option maxRecDepth 20000 in
theorem cl_X1_47 : Cond.constantLong RX1 47 (17024696172015) ∈ WS := WS_of (T3 31 (by decide +kernel)) (by decide +kernel)
set_option maxRecDepth 20000 in
theorem cl_X1_49 : Cond.constantLong RX1 49 (15) ∈ WS := WS_of (T3 32 (by decide +kernel)) (by decide +kernel)
set_option maxRecDepth 20000 in
theorem cl_X1_51 : Cond.constantLong RX1 51 (-1) ∈ WS := WS_of (T3 33 (by decide +kernel)) (by decide +kernel)
set_option maxRecDepth 20000 in
theorem cl_X1_53 : Cond.constantLong RX1 53 (18159675916816) ∈ WS := WS_of (T3 34 (by decide +kernel)) (by decide +kernel)
set_option maxRecDepth 20000 in
theorem cl_X1_59 : Cond.constantLong RX1 59 (-16) ∈ WS := WS_of (T3 46 (by decide +kernel)) (by decide +kernel)
set_option maxRecDepth 20000 in
theorem cl_X6_78 : Cond.constantLong RX6 78 (-1) ∈ WS := WS_of (T3 54 (by decide +kernel)) (by decide +kernel)
set_option maxRecDepth 20000 in
theorem cl_X6_80 : Cond.constantLong RX6 80 (18159675916816) ∈ WS := WS_of (T3 55 (by decide +kernel)) (by decide +kernel)
set_option maxRecDepth 20000 in
theorem cl_X11_187 : Cond.constantLong RX11 187 (18159675916816) ∈ WS := WS_of (T3 76 (by decide +kernel)) (by decide +kernel)
set_option maxRecDepth 20000 in
theorem cl_X2_40 : Cond.constantLong RX2 40 (18159675916816) ∈ WS := WS_of (T3 128 (by decide +kernel)) (by decide +kernel)
set_option maxRecDepth 20000 in
theorem cl_X11_214 : Cond.constantLong RX11 214 (-1000000000000000001) ∈ WS := WS_of (T3 169 (by decide +kernel)) (by decide +kernel)
set_option maxRecDepth 20000 in
theorem cl_X11_216 : Cond.constantLong RX11 216 (-1000000000000000002) ∈ WS := WS_of (T3 170 (by decide +kernel)) (by decide +kernel)
set_option maxRecDepth 20000 in
theorem cl_X10_58 : Cond.constant RX10 58 (1000000) ∈ WS := WS_of (T3 228 (by decide +kernel)) (by decide +kernel)
set_option maxRecDepth 20000 in
theorem cl_X0_80 : Cond.constantLong RX0 80 (-1) ∈ WS := WS_of (T4 34 (by decide +kernel)) (by decide +kernel)
set_option maxRecDepth 20000 in
theorem cl_X11_261 : Cond.constant RX11 261 (65537) ∈ WS := WS_of (T4 51 (by decide +kernel)) (by decide +kernel)
set_option maxRecDepth 20000 in
theorem cl_X6_89 : Cond.constantLong RX6 89 (17024696172015) ∈ WS := WS_of (T4 56 (by decide +kernel)) (by decide +kernel)
set_option maxRecDepth 20000 in
theorem nk_L_10 : Cond.classLink RL 10 RX12 ∈ WS ∧ Cond.instantiable RX12 33 ∈ WS ∧ Cond.initialized RX12 ∈ WS := ⟨WS_of (T4 86 (by decide +kernel)) (by decide +kernel), WS_of (T4 87 (by decide +kernel)) (by decide +kernel), WS_of (T1 13 (by decide +kernel)) (by decide +kernel)⟩
set_option maxRecDepth 20000 in
theorem cl_X12_52 : Cond.constant RX12 52 (59049) ∈ WS := WS_of (T4 92 (by decide +kernel)) (by decide +kernel)
set_option maxRecDepth 20000 in
theorem cl_X12_90 : Cond.constantLong RX12 90 (3) ∈ WS := WS_of (T4 201 (by decide +kernel)) (by decide +kernel)
set_option maxRecDepth 20000 in
theorem cl_X12_92 : Cond.constantLong RX12 92 (9) ∈ WS := WS_of (T4 202 (by decide +kernel)) (by decide +kernel)
set_option maxRecDepth 20000 in
theorem cl_X12_98 : Cond.constantLong RX12 98 (33) ∈ WS := WS_of (T4 226 (by decide +kernel)) (by decide +kernel)
set_option maxRecDepth 20000 in
theorem cl_X12_100 : Cond.constantLong RX12 100 (126) ∈ WS := WS_of (T4 227 (by decide +kernel)) (by decide +kernel)
set_option maxRecDepth 20000 in
theorem cl_X12_167 : Cond.constantLong RX12 167 (10) ∈ WS := WS_of (T5 71 (by decide +kernel)) (by decide +kernel)
set_option maxRecDepth 20000 in
theorem cl_X12_176 : Cond.constantLong RX12 176 (-1000000000000000001) ∈ WS := WS_of (T5 84 (by decide +kernel)) (by decide +kernel)
set_option maxRecDepth 20000 in
theorem cl_X12_178 : Cond.constantLong RX12 178 (12) ∈ WS := WS_of (T5 85 (by decide +kernel)) (by decide +kernel)
set_option maxRecDepth 20000 in
theorem cl_X12_180 : Cond.constantLong RX12 180 (-1000000000000000002) ∈ WS := WS_of (T5 86 (by decide +kernel)) (by decide +kernel)
set_option maxRecDepth 20000 in
theorem cl_X12_182 : Cond.constantLong RX12 182 (8) ∈ WS := WS_of (T5 95 (by decide +kernel)) (by decide +kernel)
set_option maxRecDepth 20000 in
theorem cl_X12_201 : Cond.constantLong RX12 201 (2) ∈ WS := WS_of (T5 104 (by decide +kernel)) (by decide +kernel)
set_option maxRecDepth 20000 in
theorem cl_X12_224 : Cond.constantLong RX12 224 (9999) ∈ WS := WS_of (T5 157 (by decide +kernel)) (by decide +kernel)
set_option maxRecDepth 20000 in
theorem cl_X12_226 : Cond.constantLong RX12 226 (99) ∈ WS := WS_of (T5 158 (by decide +kernel)) (by decide +kernel)
set_option maxRecDepth 20000 in
theorem cl_X12_228 : Cond.constantLong RX12 228 (75) ∈ WS := WS_of (T5 159 (by decide +kernel)) (by decide +kernel)
set_option maxRecDepth 20000 in
theorem cl_X12_230 : Cond.constantLong RX12 230 (74) ∈ WS := WS_of (T5 160 (by decide +kernel)) (by decide +kernel)
set_option maxRecDepth 20000 in
theorem cl_X12_232 : Cond.constantLong RX12 232 (65537) ∈ WS := WS_of (T5 161 (by decide +kernel)) (by decide +kernel)
set_option maxRecDepth 20000 in
theorem cl_X12_247 : Cond.constantLong RX12 247 (49) ∈ WS := WS_of (T5 182 (by decide +kernel)) (by decide +kernel)
