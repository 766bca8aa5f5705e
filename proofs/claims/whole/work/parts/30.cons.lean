section CONS
variable {p : Program} {l : Launch} {e : Env} {s : State} {m : MethodId} {args : Array Value} {below : List Frame} {meth : Method} {c : Code} {dd : va_G} {g : Nat → ClassId} {mv : Nat} {A : Nat → Prop}
theorem dfl_0 : ∀ j, j < 10 → defaultValue (tyX0 j) = vp_V [.null, .null, .null, .null, .null, .null, .null, .int 0, .int 0, .int 0] j := by
  intro j hj
  match j, hj with
  | 0, _ => rfl
  | 1, _ => rfl
  | 2, _ => rfl
  | 3, _ => rfl
  | 4, _ => rfl
  | 5, _ => rfl
  | 6, _ => rfl
  | 7, _ => rfl
  | 8, _ => rfl
  | 9, _ => rfl
  | k + 10, h => exact absurd h (by omega)
theorem dfl_1 : ∀ j, j < 6 → defaultValue (tyX1 j) = vp_V [.int 0, .int 0, .int 0, .long 0, .long 0, .long 0] j := by
  intro j hj
  match j, hj with
  | 0, _ => rfl
  | 1, _ => rfl
  | 2, _ => rfl
  | 3, _ => rfl
  | 4, _ => rfl
  | 5, _ => rfl
  | k + 6, h => exact absurd h (by omega)
theorem dfl_2 : ∀ j, j < 7 → defaultValue (tyX2 j) = vp_V [.null, .null, .null, .null, .long 0, .int 0, .int 0] j := by
  intro j hj
  match j, hj with
  | 0, _ => rfl
  | 1, _ => rfl
  | 2, _ => rfl
  | 3, _ => rfl
  | 4, _ => rfl
  | 5, _ => rfl
  | 6, _ => rfl
  | k + 7, h => exact absurd h (by omega)
theorem dfl_3 : ∀ j, j < 4 → defaultValue (tyX3 j) = vp_V [.null, .null, .null, .int 0] j := by
  intro j hj
  match j, hj with
  | 0, _ => rfl
  | 1, _ => rfl
  | 2, _ => rfl
  | 3, _ => rfl
  | k + 4, h => exact absurd h (by omega)
theorem dfl_4 : ∀ j, j < 2 → defaultValue (tyX4 j) = vp_V [.null, .int 0] j := by
  intro j hj
  match j, hj with
  | 0, _ => rfl
  | 1, _ => rfl
  | k + 2, h => exact absurd h (by omega)
theorem dfl_5 : ∀ j, j < 4 → defaultValue (tyX5 j) = vp_V [.null, .long 0, .long 0, .int 0] j := by
  intro j hj
  match j, hj with
  | 0, _ => rfl
  | 1, _ => rfl
  | 2, _ => rfl
  | 3, _ => rfl
  | k + 4, h => exact absurd h (by omega)
theorem dfl_6 : ∀ j, j < 10 → defaultValue (tyX6 j) = vp_V [.null, .null, .long 0, .long 0, .int 0, .int 0, .int 0, .int 0, .int 0, .int 0] j := by
  intro j hj
  match j, hj with
  | 0, _ => rfl
  | 1, _ => rfl
  | 2, _ => rfl
  | 3, _ => rfl
  | 4, _ => rfl
  | 5, _ => rfl
  | 6, _ => rfl
  | 7, _ => rfl
  | 8, _ => rfl
  | 9, _ => rfl
  | k + 10, h => exact absurd h (by omega)
theorem dfl_7 : ∀ j, j < 5 → defaultValue (tyX7 j) = vp_V [.null, .long 0, .int 0, .int 0, .int 0] j := by
  intro j hj
  match j, hj with
  | 0, _ => rfl
  | 1, _ => rfl
  | 2, _ => rfl
  | 3, _ => rfl
  | 4, _ => rfl
  | k + 5, h => exact absurd h (by omega)
theorem dfl_8 : ∀ j, j < 4 → defaultValue (tyX8 j) = vp_V [.null, .null, .null, .int 0] j := by
  intro j hj
  match j, hj with
  | 0, _ => rfl
  | 1, _ => rfl
  | 2, _ => rfl
  | 3, _ => rfl
  | k + 4, h => exact absurd h (by omega)
theorem dfl_9 : ∀ j, j < 7 → defaultValue (tyX9 j) = vp_V [.null, .null, .long 0, .int 0, .int 0, .long 0, .long 0] j := by
  intro j hj
  match j, hj with
  | 0, _ => rfl
  | 1, _ => rfl
  | 2, _ => rfl
  | 3, _ => rfl
  | 4, _ => rfl
  | 5, _ => rfl
  | 6, _ => rfl
  | k + 7, h => exact absurd h (by omega)
theorem dfl_10 : ∀ j, j < 5 → defaultValue (tyX10 j) = vp_V [.null, .null, .int 0, .null, .null] j := by
  intro j hj
  match j, hj with
  | 0, _ => rfl
  | 1, _ => rfl
  | 2, _ => rfl
  | 3, _ => rfl
  | 4, _ => rfl
  | k + 5, h => exact absurd h (by omega)
theorem dfl_11 : ∀ j, j < 17 → defaultValue (tyX11 j) = vp_V [.null, .null, .null, .null, .null, .null, .null, .null, .null, .null, .null, .int 0, .int 0, .int 0, .int 0, .int 0, .int 0] j := by
  intro j hj
  match j, hj with
  | 0, _ => rfl
  | 1, _ => rfl
  | 2, _ => rfl
  | 3, _ => rfl
  | 4, _ => rfl
  | 5, _ => rfl
  | 6, _ => rfl
  | 7, _ => rfl
  | 8, _ => rfl
  | 9, _ => rfl
  | 10, _ => rfl
  | 11, _ => rfl
  | 12, _ => rfl
  | 13, _ => rfl
  | 14, _ => rfl
  | 15, _ => rfl
  | 16, _ => rfl
  | k + 17, h => exact absurd h (by omega)
theorem dfl_12 : ∀ j, j < 33 → defaultValue (tyX12 j) = vp_V [.int 0, .int 0, .null, .null, .null, .null, .int 0, .null, .int 0, .null, .null, .null, .int 0, .null, .int 0, .null, .null, .null, .int 0, .int 0, .int 0, .int 0, .int 0, .int 0, .null, .null, .null, .null, .null, .null, .null, .int 0, .int 0] j := by
  intro j hj
  match j, hj with
  | 0, _ => rfl
  | 1, _ => rfl
  | 2, _ => rfl
  | 3, _ => rfl
  | 4, _ => rfl
  | 5, _ => rfl
  | 6, _ => rfl
  | 7, _ => rfl
  | 8, _ => rfl
  | 9, _ => rfl
  | 10, _ => rfl
  | 11, _ => rfl
  | 12, _ => rfl
  | 13, _ => rfl
  | 14, _ => rfl
  | 15, _ => rfl
  | 16, _ => rfl
  | 17, _ => rfl
  | 18, _ => rfl
  | 19, _ => rfl
  | 20, _ => rfl
  | 21, _ => rfl
  | 22, _ => rfl
  | 23, _ => rfl
  | 24, _ => rfl
  | 25, _ => rfl
  | 26, _ => rfl
  | 27, _ => rfl
  | 28, _ => rfl
  | 29, _ => rfl
  | 30, _ => rfl
  | 31, _ => rfl
  | 32, _ => rfl
  | k + 33, h => exact absurd h (by omega)
set_option maxHeartbeats 4000000 in
set_option maxRecDepth 100000 in
theorem c_X0_init (l : Launch) (dd : va_G) (g : Nat → ClassId) (mv : Nat) (q_t : Nat) (o_needed : Value) (o_neededLater : Value) (o_barred : Value) (o_row : Value) (o_first : Value) (o_could : Value) (o_chain : Value) (t_m : Int32) (t_count : Int32) (t_isFound : Int32) (sz : Nat) : Met l yX0_init (.code yX0_init cX0_init 1 none :: WS) (rmH 1 6 66) (va_Pc [.ref q_t] (PW dd g mv [(q_t, .inr (0, [o_needed, o_neededLater, o_barred, o_row, o_first, o_could, o_chain, .int t_m, .int t_count, .int t_isFound]))] sz)) (Qo dd g none (fun u : Nat × Nat × Nat × Nat × Nat × Nat => [(q_t, .inr (0, [.ref u.1, .ref u.2.1, .ref u.2.2.1, .ref u.2.2.2.1, .ref u.2.2.2.2.1, .ref u.2.2.2.2.2, .null, .int (0 : Int32), .int (0 : Int32), .int (0 : Int32)])), (u.1, .inl (g 1, 12, .inr (.inl (fun _ => 0)))), (u.2.1, .inl (g 1, 12, .inr (.inl (fun _ => 0)))), (u.2.2.1, .inl (g 1, 12, .inr (.inl (fun _ => 0)))), (u.2.2.2.1, .inl (g 0, 10, .inl (fun _ => 0))), (u.2.2.2.2.1, .inl (g 0, 10, .inl (fun _ => 0))), (u.2.2.2.2.2, .inl (g 0, 10, .inl (fun _ => 0)))]) (va_A [(q_t, .inr (0, [o_needed, o_neededLater, o_barred, o_row, o_first, o_could, o_chain, .int t_m, .int t_count, .int t_isFound]))] sz)) 6 66 (va_A [(q_t, .inr (0, [o_needed, o_neededLater, o_barred, o_row, o_first, o_could, o_chain, .int t_m, .int t_count, .int t_isFound]))] sz) := by
  refine Met_intro (by decide) (Nat.le_of_ble_eq_true rfl) ?_
  intro p e s m below meth c A ls F hret hlk hin hw hl
  replace hl : lv_has ls 1 [(0, .ref q_t)] := hl
  refine lv_aload_n F.1 F.2.1 dX0_init_0 rfl (lv_at hl 0 rfl) ?_
  refine oi F ml_X0_3 hl.1 (Nat.le_of_ble_eq_true rfl) (Nat.le_of_ble_eq_true rfl) dX0_init_1 ?_
  refine lv_aload_n F.1 F.2.1 dX0_init_4 rfl (lv_at hl 0 rfl) ?_
  refine lv_bipush (v := 12) F.1 F.2.1 dX0_init_5 (by decide) ?_
  refine na_J (N' := 12) F hw (by decide) (by decide) (by decide) (Nat.le_of_ble_eq_true rfl) (Nat.le_of_ble_eq_true rfl) dX0_init_7 (fun n7 H hw => ?_)
  replace hw : Wd dd g mv A s H _ [(q_t, .inr (0, [o_needed, o_neededLater, o_barred, o_row, o_first, o_could, o_chain, .int t_m, .int t_count, .int t_isFound])), (n7, .inl (g 1, 12, .inr (.inl (fun _ => 0))))] := hw
  refine pf_X0_9 F hin hw 0 rfl (Nat.le_of_ble_eq_true rfl) dX0_init_9 (fun H locs hw => ?_)
  replace hw : Wd dd g mv A s H locs [(q_t, .inr (0, [.ref n7, o_neededLater, o_barred, o_row, o_first, o_could, o_chain, .int t_m, .int t_count, .int t_isFound])), (n7, .inl (g 1, 12, .inr (.inl (fun _ => 0))))] := hw
  refine lv_aload_n F.1 F.2.1 dX0_init_12 rfl (lv_at hl 0 rfl) ?_
  refine lv_bipush (v := 12) F.1 F.2.1 dX0_init_13 (by decide) ?_
  refine na_J (N' := 12) F hw (by decide) (by decide) (by decide) (Nat.le_of_ble_eq_true rfl) (Nat.le_of_ble_eq_true rfl) dX0_init_15 (fun n15 H hw => ?_)
  replace hw : Wd dd g mv A s H _ [(q_t, .inr (0, [.ref n7, o_neededLater, o_barred, o_row, o_first, o_could, o_chain, .int t_m, .int t_count, .int t_isFound])), (n7, .inl (g 1, 12, .inr (.inl (fun _ => 0)))), (n15, .inl (g 1, 12, .inr (.inl (fun _ => 0))))] := hw
  refine pf_X0_15 F hin hw 0 rfl (Nat.le_of_ble_eq_true rfl) dX0_init_17 (fun H locs hw => ?_)
  replace hw : Wd dd g mv A s H locs [(q_t, .inr (0, [.ref n7, .ref n15, o_barred, o_row, o_first, o_could, o_chain, .int t_m, .int t_count, .int t_isFound])), (n7, .inl (g 1, 12, .inr (.inl (fun _ => 0)))), (n15, .inl (g 1, 12, .inr (.inl (fun _ => 0))))] := hw
  refine lv_aload_n F.1 F.2.1 dX0_init_20 rfl (lv_at hl 0 rfl) ?_
  refine lv_bipush (v := 12) F.1 F.2.1 dX0_init_21 (by decide) ?_
  refine na_J (N' := 12) F hw (by decide) (by decide) (by decide) (Nat.le_of_ble_eq_true rfl) (Nat.le_of_ble_eq_true rfl) dX0_init_23 (fun n23 H hw => ?_)
  replace hw : Wd dd g mv A s H _ [(q_t, .inr (0, [.ref n7, .ref n15, o_barred, o_row, o_first, o_could, o_chain, .int t_m, .int t_count, .int t_isFound])), (n7, .inl (g 1, 12, .inr (.inl (fun _ => 0)))), (n15, .inl (g 1, 12, .inr (.inl (fun _ => 0)))), (n23, .inl (g 1, 12, .inr (.inl (fun _ => 0))))] := hw
  refine pf_X0_18 F hin hw 0 rfl (Nat.le_of_ble_eq_true rfl) dX0_init_25 (fun H locs hw => ?_)
  replace hw : Wd dd g mv A s H locs [(q_t, .inr (0, [.ref n7, .ref n15, .ref n23, o_row, o_first, o_could, o_chain, .int t_m, .int t_count, .int t_isFound])), (n7, .inl (g 1, 12, .inr (.inl (fun _ => 0)))), (n15, .inl (g 1, 12, .inr (.inl (fun _ => 0)))), (n23, .inl (g 1, 12, .inr (.inl (fun _ => 0))))] := hw
  refine lv_aload_n F.1 F.2.1 dX0_init_28 rfl (lv_at hl 0 rfl) ?_
  refine lv_bipush (v := 10) F.1 F.2.1 dX0_init_29 (by decide) ?_
  refine na_I (N' := 10) F hw (by decide) (by decide) (by decide) (Nat.le_of_ble_eq_true rfl) (Nat.le_of_ble_eq_true rfl) dX0_init_31 (fun n31 H hw => ?_)
  replace hw : Wd dd g mv A s H _ [(q_t, .inr (0, [.ref n7, .ref n15, .ref n23, o_row, o_first, o_could, o_chain, .int t_m, .int t_count, .int t_isFound])), (n7, .inl (g 1, 12, .inr (.inl (fun _ => 0)))), (n15, .inl (g 1, 12, .inr (.inl (fun _ => 0)))), (n23, .inl (g 1, 12, .inr (.inl (fun _ => 0)))), (n31, .inl (g 0, 10, .inl (fun _ => 0)))] := hw
  refine pf_X0_21 F hin hw 0 rfl (Nat.le_of_ble_eq_true rfl) dX0_init_33 (fun H locs hw => ?_)
  replace hw : Wd dd g mv A s H locs [(q_t, .inr (0, [.ref n7, .ref n15, .ref n23, .ref n31, o_first, o_could, o_chain, .int t_m, .int t_count, .int t_isFound])), (n7, .inl (g 1, 12, .inr (.inl (fun _ => 0)))), (n15, .inl (g 1, 12, .inr (.inl (fun _ => 0)))), (n23, .inl (g 1, 12, .inr (.inl (fun _ => 0)))), (n31, .inl (g 0, 10, .inl (fun _ => 0)))] := hw
  refine lv_aload_n F.1 F.2.1 dX0_init_36 rfl (lv_at hl 0 rfl) ?_
  refine lv_bipush (v := 10) F.1 F.2.1 dX0_init_37 (by decide) ?_
  refine na_I (N' := 10) F hw (by decide) (by decide) (by decide) (Nat.le_of_ble_eq_true rfl) (Nat.le_of_ble_eq_true rfl) dX0_init_39 (fun n39 H hw => ?_)
  replace hw : Wd dd g mv A s H _ [(q_t, .inr (0, [.ref n7, .ref n15, .ref n23, .ref n31, o_first, o_could, o_chain, .int t_m, .int t_count, .int t_isFound])), (n7, .inl (g 1, 12, .inr (.inl (fun _ => 0)))), (n15, .inl (g 1, 12, .inr (.inl (fun _ => 0)))), (n23, .inl (g 1, 12, .inr (.inl (fun _ => 0)))), (n31, .inl (g 0, 10, .inl (fun _ => 0))), (n39, .inl (g 0, 10, .inl (fun _ => 0)))] := hw
  refine pf_X0_25 F hin hw 0 rfl (Nat.le_of_ble_eq_true rfl) dX0_init_41 (fun H locs hw => ?_)
  replace hw : Wd dd g mv A s H locs [(q_t, .inr (0, [.ref n7, .ref n15, .ref n23, .ref n31, .ref n39, o_could, o_chain, .int t_m, .int t_count, .int t_isFound])), (n7, .inl (g 1, 12, .inr (.inl (fun _ => 0)))), (n15, .inl (g 1, 12, .inr (.inl (fun _ => 0)))), (n23, .inl (g 1, 12, .inr (.inl (fun _ => 0)))), (n31, .inl (g 0, 10, .inl (fun _ => 0))), (n39, .inl (g 0, 10, .inl (fun _ => 0)))] := hw
  refine lv_aload_n F.1 F.2.1 dX0_init_44 rfl (lv_at hl 0 rfl) ?_
  refine lv_bipush (v := 10) F.1 F.2.1 dX0_init_45 (by decide) ?_
  refine na_I (N' := 10) F hw (by decide) (by decide) (by decide) (Nat.le_of_ble_eq_true rfl) (Nat.le_of_ble_eq_true rfl) dX0_init_47 (fun n47 H hw => ?_)
  replace hw : Wd dd g mv A s H _ [(q_t, .inr (0, [.ref n7, .ref n15, .ref n23, .ref n31, .ref n39, o_could, o_chain, .int t_m, .int t_count, .int t_isFound])), (n7, .inl (g 1, 12, .inr (.inl (fun _ => 0)))), (n15, .inl (g 1, 12, .inr (.inl (fun _ => 0)))), (n23, .inl (g 1, 12, .inr (.inl (fun _ => 0)))), (n31, .inl (g 0, 10, .inl (fun _ => 0))), (n39, .inl (g 0, 10, .inl (fun _ => 0))), (n47, .inl (g 0, 10, .inl (fun _ => 0)))] := hw
  refine pf_X0_28 F hin hw 0 rfl (Nat.le_of_ble_eq_true rfl) dX0_init_49 (fun H locs hw => ?_)
  replace hw : Wd dd g mv A s H locs [(q_t, .inr (0, [.ref n7, .ref n15, .ref n23, .ref n31, .ref n39, .ref n47, o_chain, .int t_m, .int t_count, .int t_isFound])), (n7, .inl (g 1, 12, .inr (.inl (fun _ => 0)))), (n15, .inl (g 1, 12, .inr (.inl (fun _ => 0)))), (n23, .inl (g 1, 12, .inr (.inl (fun _ => 0)))), (n31, .inl (g 0, 10, .inl (fun _ => 0))), (n39, .inl (g 0, 10, .inl (fun _ => 0))), (n47, .inl (g 0, 10, .inl (fun _ => 0)))] := hw
  refine lv_aload_n F.1 F.2.1 dX0_init_52 rfl (lv_at hl 0 rfl) ?_
  refine lv_null F.1 F.2.1 dX0_init_53 ?_
  refine pn_X0_31 F hw 0 rfl (Nat.le_of_ble_eq_true rfl) dX0_init_54 (fun H locs hw => ?_)
  replace hw : Wd dd g mv A s H locs [(q_t, .inr (0, [.ref n7, .ref n15, .ref n23, .ref n31, .ref n39, .ref n47, .null, .int t_m, .int t_count, .int t_isFound])), (n7, .inl (g 1, 12, .inr (.inl (fun _ => 0)))), (n15, .inl (g 1, 12, .inr (.inl (fun _ => 0)))), (n23, .inl (g 1, 12, .inr (.inl (fun _ => 0)))), (n31, .inl (g 0, 10, .inl (fun _ => 0))), (n39, .inl (g 0, 10, .inl (fun _ => 0))), (n47, .inl (g 0, 10, .inl (fun _ => 0)))] := hw
  refine lv_aload_n F.1 F.2.1 dX0_init_57 rfl (lv_at hl 0 rfl) ?_
  refine lv_iconst (v := 0) F.1 F.2.1 dX0_init_58 (by decide) ?_
  refine pf_X0_35 F hw 0 rfl (Nat.le_of_ble_eq_true rfl) dX0_init_59 (fun H locs hw => ?_)
  replace hw : Wd dd g mv A s H locs [(q_t, .inr (0, [.ref n7, .ref n15, .ref n23, .ref n31, .ref n39, .ref n47, .null, .int (0 : Int32), .int t_count, .int t_isFound])), (n7, .inl (g 1, 12, .inr (.inl (fun _ => 0)))), (n15, .inl (g 1, 12, .inr (.inl (fun _ => 0)))), (n23, .inl (g 1, 12, .inr (.inl (fun _ => 0)))), (n31, .inl (g 0, 10, .inl (fun _ => 0))), (n39, .inl (g 0, 10, .inl (fun _ => 0))), (n47, .inl (g 0, 10, .inl (fun _ => 0)))] := hw
  refine lv_aload_n F.1 F.2.1 dX0_init_62 rfl (lv_at hl 0 rfl) ?_
  refine lv_iconst (v := 0) F.1 F.2.1 dX0_init_63 (by decide) ?_
  refine pf_X0_39 F hw 0 rfl (Nat.le_of_ble_eq_true rfl) dX0_init_64 (fun H locs hw => ?_)
  replace hw : Wd dd g mv A s H locs [(q_t, .inr (0, [.ref n7, .ref n15, .ref n23, .ref n31, .ref n39, .ref n47, .null, .int (0 : Int32), .int (0 : Int32), .int t_isFound])), (n7, .inl (g 1, 12, .inr (.inl (fun _ => 0)))), (n15, .inl (g 1, 12, .inr (.inl (fun _ => 0)))), (n23, .inl (g 1, 12, .inr (.inl (fun _ => 0)))), (n31, .inl (g 0, 10, .inl (fun _ => 0))), (n39, .inl (g 0, 10, .inl (fun _ => 0))), (n47, .inl (g 0, 10, .inl (fun _ => 0)))] := hw
  refine lv_aload_n F.1 F.2.1 dX0_init_67 rfl (lv_at hl 0 rfl) ?_
  refine lv_iconst (v := 0) F.1 F.2.1 dX0_init_68 (by decide) ?_
  refine pf_X0_42 F hw 0 rfl (by decide) (by decide) (Nat.le_of_ble_eq_true rfl) dX0_init_69 (fun H locs hw => ?_)
  replace hw : Wd dd g mv A s H locs [(q_t, .inr (0, [.ref n7, .ref n15, .ref n23, .ref n31, .ref n39, .ref n47, .null, .int (0 : Int32), .int (0 : Int32), .int (0 : Int32)])), (n7, .inl (g 1, 12, .inr (.inl (fun _ => 0)))), (n15, .inl (g 1, 12, .inr (.inl (fun _ => 0)))), (n23, .inl (g 1, 12, .inr (.inl (fun _ => 0)))), (n31, .inl (g 0, 10, .inl (fun _ => 0))), (n39, .inl (g 0, 10, .inl (fun _ => 0))), (n47, .inl (g 0, 10, .inl (fun _ => 0)))] := hw
  exact ret_v (n7, n15, n23, n31, n39, n47) F hret hlk hw (Nat.le_of_ble_eq_true rfl) (Nat.le_of_ble_eq_true rfl) dX0_init_72
set_option maxHeartbeats 4000000 in
set_option maxRecDepth 100000 in
theorem c_X1_init (l : Launch) (dd : va_G) (g : Nat → ClassId) (mv : Nat) (q_t : Nat) (t_places : Int32) (t_deep : Int32) (t_turn : Int32) (t_wheel : Int64) (t_leaks : Int64) (t_wants : Int64) (sz : Nat) : Met l yX1_init (.code yX1_init cX1_init 1 none :: WS) (rmH 1 0 0) (va_Pc [.ref q_t] (PW dd g mv [(q_t, .inr (1, [.int t_places, .int t_deep, .int t_turn, .long t_wheel, .long t_leaks, .long t_wants]))] sz)) (Qo dd g none (fun u : Unit => [(q_t, .inr (1, [.int (6 : Int32), .int (6 : Int32), .int (0 : Int32), .long (6 : Int64), .long (0 : Int64), .long (0 : Int64)]))]) (va_A [(q_t, .inr (1, [.int t_places, .int t_deep, .int t_turn, .long t_wheel, .long t_leaks, .long t_wants]))] sz)) 0 0 (va_A [(q_t, .inr (1, [.int t_places, .int t_deep, .int t_turn, .long t_wheel, .long t_leaks, .long t_wants]))] sz) := by
  refine Met_intro (by decide) (Nat.le_of_ble_eq_true rfl) ?_
  intro p e s m below meth c A ls F hret hlk hin hw hl
  replace hl : lv_has ls 1 [(0, .ref q_t)] := hl
  refine lv_aload_n F.1 F.2.1 dX1_init_0 rfl (lv_at hl 0 rfl) ?_
  refine oi F ml_X1_3 hl.1 (Nat.le_of_ble_eq_true rfl) (Nat.le_of_ble_eq_true rfl) dX1_init_1 ?_
  refine lv_aload_n F.1 F.2.1 dX1_init_4 rfl (lv_at hl 0 rfl) ?_
  refine lv_bipush (v := 6) F.1 F.2.1 dX1_init_5 (by decide) ?_
  refine pf_X1_9 F hw 0 rfl (Nat.le_of_ble_eq_true rfl) dX1_init_7 (fun H locs hw => ?_)
  replace hw : Wd dd g mv A s H locs [(q_t, .inr (1, [.int (6 : Int32), .int t_deep, .int t_turn, .long t_wheel, .long t_leaks, .long t_wants]))] := hw
  refine lv_aload_n F.1 F.2.1 dX1_init_10 rfl (lv_at hl 0 rfl) ?_
  refine lv_bipush (v := 6) F.1 F.2.1 dX1_init_11 (by decide) ?_
  refine pf_X1_15 F hw 0 rfl (Nat.le_of_ble_eq_true rfl) dX1_init_13 (fun H locs hw => ?_)
  replace hw : Wd dd g mv A s H locs [(q_t, .inr (1, [.int (6 : Int32), .int (6 : Int32), .int t_turn, .long t_wheel, .long t_leaks, .long t_wants]))] := hw
  refine lv_aload_n F.1 F.2.1 dX1_init_16 rfl (lv_at hl 0 rfl) ?_
  refine lv_iconst (v := 0) F.1 F.2.1 dX1_init_17 (by decide) ?_
  refine pf_X1_18 F hw 0 rfl (Nat.le_of_ble_eq_true rfl) dX1_init_18 (fun H locs hw => ?_)
  replace hw : Wd dd g mv A s H locs [(q_t, .inr (1, [.int (6 : Int32), .int (6 : Int32), .int (0 : Int32), .long t_wheel, .long t_leaks, .long t_wants]))] := hw
  refine lv_aload_n F.1 F.2.1 dX1_init_21 rfl (lv_at hl 0 rfl) ?_
  refine lv_ldc2 F.1 F.2.1 F.2.2.2.1 (F.2.2.2.2 _ cl_X1_21) dX1_init_22 ?_
  refine pf_X1_23 F hw 0 rfl (Nat.le_of_ble_eq_true rfl) dX1_init_25 (fun H locs hw => ?_)
  replace hw : Wd dd g mv A s H locs [(q_t, .inr (1, [.int (6 : Int32), .int (6 : Int32), .int (0 : Int32), .long (6 : Int64), .long t_leaks, .long t_wants]))] := hw
  refine lv_aload_n F.1 F.2.1 dX1_init_28 rfl (lv_at hl 0 rfl) ?_
  refine lv_lconst (v := 0) F.1 F.2.1 dX1_init_29 (by decide) ?_
  refine pf_X1_27 F hw 0 rfl (Nat.le_of_ble_eq_true rfl) dX1_init_30 (fun H locs hw => ?_)
  replace hw : Wd dd g mv A s H locs [(q_t, .inr (1, [.int (6 : Int32), .int (6 : Int32), .int (0 : Int32), .long (6 : Int64), .long (0 : Int64), .long t_wants]))] := hw
  refine lv_aload_n F.1 F.2.1 dX1_init_33 rfl (lv_at hl 0 rfl) ?_
  refine lv_lconst (v := 0) F.1 F.2.1 dX1_init_34 (by decide) ?_
  refine pf_X1_30 F hw 0 rfl (Nat.le_of_ble_eq_true rfl) dX1_init_35 (fun H locs hw => ?_)
  replace hw : Wd dd g mv A s H locs [(q_t, .inr (1, [.int (6 : Int32), .int (6 : Int32), .int (0 : Int32), .long (6 : Int64), .long (0 : Int64), .long (0 : Int64)]))] := hw
  exact ret_v () F hret hlk hw (Nat.le_of_ble_eq_true rfl) (Nat.le_of_ble_eq_true rfl) dX1_init_38
set_option maxHeartbeats 4000000 in
set_option maxRecDepth 100000 in
theorem c_X2_init (l : Launch) (dd : va_G) (g : Nat → ClassId) (mv : Nat) (q_t : Nat) (o_order : Value) (o_bestOrder : Value) (o_chain : Value) (o_seek : Value) (t_wheel : Int64) (t_most : Int32) (t_best : Int32) (sz : Nat) : Met l yX2_init (.code yX2_init cX2_init 1 none :: WS) (rmH 1 2 12) (va_Pc [.ref q_t] (PW dd g mv [(q_t, .inr (2, [o_order, o_bestOrder, o_chain, o_seek, .long t_wheel, .int t_most, .int t_best]))] sz)) (Qo dd g none (fun u : Nat × Nat => [(q_t, .inr (2, [.ref u.1, .ref u.2, .null, .null, .long (0 : Int64), .int (0 : Int32), .int (-6 : Int32)])), (u.1, .inl (g 0, 6, .inl (fun _ => 0))), (u.2, .inl (g 0, 6, .inl (fun _ => 0)))]) (va_A [(q_t, .inr (2, [o_order, o_bestOrder, o_chain, o_seek, .long t_wheel, .int t_most, .int t_best]))] sz)) 2 12 (va_A [(q_t, .inr (2, [o_order, o_bestOrder, o_chain, o_seek, .long t_wheel, .int t_most, .int t_best]))] sz) := by
  refine Met_intro (by decide) (Nat.le_of_ble_eq_true rfl) ?_
  intro p e s m below meth c A ls F hret hlk hin hw hl
  replace hl : lv_has ls 1 [(0, .ref q_t)] := hl
  refine lv_aload_n F.1 F.2.1 dX2_init_0 rfl (lv_at hl 0 rfl) ?_
  refine oi F ml_X2_3 hl.1 (Nat.le_of_ble_eq_true rfl) (Nat.le_of_ble_eq_true rfl) dX2_init_1 ?_
  refine lv_aload_n F.1 F.2.1 dX2_init_4 rfl (lv_at hl 0 rfl) ?_
  refine lv_bipush (v := 6) F.1 F.2.1 dX2_init_5 (by decide) ?_
  refine na_I (N' := 6) F hw (by decide) (by decide) (by decide) (Nat.le_of_ble_eq_true rfl) (Nat.le_of_ble_eq_true rfl) dX2_init_7 (fun n7 H hw => ?_)
  replace hw : Wd dd g mv A s H _ [(q_t, .inr (2, [o_order, o_bestOrder, o_chain, o_seek, .long t_wheel, .int t_most, .int t_best])), (n7, .inl (g 0, 6, .inl (fun _ => 0)))] := hw
  refine pf_X2_9 F hin hw 0 rfl (Nat.le_of_ble_eq_true rfl) dX2_init_9 (fun H locs hw => ?_)
  replace hw : Wd dd g mv A s H locs [(q_t, .inr (2, [.ref n7, o_bestOrder, o_chain, o_seek, .long t_wheel, .int t_most, .int t_best])), (n7, .inl (g 0, 6, .inl (fun _ => 0)))] := hw
  refine lv_aload_n F.1 F.2.1 dX2_init_12 rfl (lv_at hl 0 rfl) ?_
  refine lv_bipush (v := 6) F.1 F.2.1 dX2_init_13 (by decide) ?_
  refine na_I (N' := 6) F hw (by decide) (by decide) (by decide) (Nat.le_of_ble_eq_true rfl) (Nat.le_of_ble_eq_true rfl) dX2_init_15 (fun n15 H hw => ?_)
  replace hw : Wd dd g mv A s H _ [(q_t, .inr (2, [.ref n7, o_bestOrder, o_chain, o_seek, .long t_wheel, .int t_most, .int t_best])), (n7, .inl (g 0, 6, .inl (fun _ => 0))), (n15, .inl (g 0, 6, .inl (fun _ => 0)))] := hw
  refine pf_X2_15 F hin hw 0 rfl (Nat.le_of_ble_eq_true rfl) dX2_init_17 (fun H locs hw => ?_)
  replace hw : Wd dd g mv A s H locs [(q_t, .inr (2, [.ref n7, .ref n15, o_chain, o_seek, .long t_wheel, .int t_most, .int t_best])), (n7, .inl (g 0, 6, .inl (fun _ => 0))), (n15, .inl (g 0, 6, .inl (fun _ => 0)))] := hw
  refine lv_aload_n F.1 F.2.1 dX2_init_20 rfl (lv_at hl 0 rfl) ?_
  refine lv_null F.1 F.2.1 dX2_init_21 ?_
  refine pn_X2_18 F hw 0 rfl (Nat.le_of_ble_eq_true rfl) dX2_init_22 (fun H locs hw => ?_)
  replace hw : Wd dd g mv A s H locs [(q_t, .inr (2, [.ref n7, .ref n15, .null, o_seek, .long t_wheel, .int t_most, .int t_best])), (n7, .inl (g 0, 6, .inl (fun _ => 0))), (n15, .inl (g 0, 6, .inl (fun _ => 0)))] := hw
  refine lv_aload_n F.1 F.2.1 dX2_init_25 rfl (lv_at hl 0 rfl) ?_
  refine lv_null F.1 F.2.1 dX2_init_26 ?_
  refine pn_X2_22 F hw 0 rfl (Nat.le_of_ble_eq_true rfl) dX2_init_27 (fun H locs hw => ?_)
  replace hw : Wd dd g mv A s H locs [(q_t, .inr (2, [.ref n7, .ref n15, .null, .null, .long t_wheel, .int t_most, .int t_best])), (n7, .inl (g 0, 6, .inl (fun _ => 0))), (n15, .inl (g 0, 6, .inl (fun _ => 0)))] := hw
  refine lv_aload_n F.1 F.2.1 dX2_init_30 rfl (lv_at hl 0 rfl) ?_
  refine lv_lconst (v := 0) F.1 F.2.1 dX2_init_31 (by decide) ?_
  refine pf_X2_26 F hw 0 rfl (Nat.le_of_ble_eq_true rfl) dX2_init_32 (fun H locs hw => ?_)
  replace hw : Wd dd g mv A s H locs [(q_t, .inr (2, [.ref n7, .ref n15, .null, .null, .long (0 : Int64), .int t_most, .int t_best])), (n7, .inl (g 0, 6, .inl (fun _ => 0))), (n15, .inl (g 0, 6, .inl (fun _ => 0)))] := hw
  refine lv_aload_n F.1 F.2.1 dX2_init_35 rfl (lv_at hl 0 rfl) ?_
  refine lv_iconst (v := 0) F.1 F.2.1 dX2_init_36 (by decide) ?_
  refine pf_X2_30 F hw 0 rfl (Nat.le_of_ble_eq_true rfl) dX2_init_37 (fun H locs hw => ?_)
  replace hw : Wd dd g mv A s H locs [(q_t, .inr (2, [.ref n7, .ref n15, .null, .null, .long (0 : Int64), .int (0 : Int32), .int t_best])), (n7, .inl (g 0, 6, .inl (fun _ => 0))), (n15, .inl (g 0, 6, .inl (fun _ => 0)))] := hw
  refine lv_aload_n F.1 F.2.1 dX2_init_40 rfl (lv_at hl 0 rfl) ?_
  refine lv_bipush (v := -6) F.1 F.2.1 dX2_init_41 (by decide) ?_
  refine pf_X2_34 F hw 0 rfl (Nat.le_of_ble_eq_true rfl) dX2_init_43 (fun H locs hw => ?_)
  replace hw : Wd dd g mv A s H locs [(q_t, .inr (2, [.ref n7, .ref n15, .null, .null, .long (0 : Int64), .int (0 : Int32), .int (-6 : Int32)])), (n7, .inl (g 0, 6, .inl (fun _ => 0))), (n15, .inl (g 0, 6, .inl (fun _ => 0)))] := hw
  exact ret_v (n7, n15) F hret hlk hw (Nat.le_of_ble_eq_true rfl) (Nat.le_of_ble_eq_true rfl) dX2_init_46
set_option maxHeartbeats 4000000 in
set_option maxRecDepth 100000 in
theorem c_X4_init (l : Launch) (dd : va_G) (g : Nat → ClassId) (mv : Nat) (q_t : Nat) (o_signs : Value) (t_count : Int32) (sz : Nat) : Met l yX4_init (.code yX4_init cX4_init 1 none :: WS) (rmH 1 1 40) (va_Pc [.ref q_t] (PW dd g mv [(q_t, .inr (4, [o_signs, .int t_count]))] sz)) (Qo dd g none (fun u : Nat => [(q_t, .inr (4, [.ref u, .int (0 : Int32)])), (u, .inl (g 0, 40, .inl (fun _ => 0)))]) (va_A [(q_t, .inr (4, [o_signs, .int t_count]))] sz)) 1 40 (va_A [(q_t, .inr (4, [o_signs, .int t_count]))] sz) := by
  refine Met_intro (by decide) (Nat.le_of_ble_eq_true rfl) ?_
  intro p e s m below meth c A ls F hret hlk hin hw hl
  replace hl : lv_has ls 1 [(0, .ref q_t)] := hl
  refine lv_aload_n F.1 F.2.1 dX4_init_0 rfl (lv_at hl 0 rfl) ?_
  refine oi F ml_X4_3 hl.1 (Nat.le_of_ble_eq_true rfl) (Nat.le_of_ble_eq_true rfl) dX4_init_1 ?_
  refine lv_aload_n F.1 F.2.1 dX4_init_4 rfl (lv_at hl 0 rfl) ?_
  refine lv_bipush (v := 40) F.1 F.2.1 dX4_init_5 (by decide) ?_
  refine na_I (N' := 40) F hw (by decide) (by decide) (by decide) (Nat.le_of_ble_eq_true rfl) (Nat.le_of_ble_eq_true rfl) dX4_init_7 (fun n7 H hw => ?_)
  replace hw : Wd dd g mv A s H _ [(q_t, .inr (4, [o_signs, .int t_count])), (n7, .inl (g 0, 40, .inl (fun _ => 0)))] := hw
  refine pf_X4_9 F hin hw 0 rfl (Nat.le_of_ble_eq_true rfl) dX4_init_9 (fun H locs hw => ?_)
  replace hw : Wd dd g mv A s H locs [(q_t, .inr (4, [.ref n7, .int t_count])), (n7, .inl (g 0, 40, .inl (fun _ => 0)))] := hw
  refine lv_aload_n F.1 F.2.1 dX4_init_12 rfl (lv_at hl 0 rfl) ?_
  refine lv_iconst (v := 0) F.1 F.2.1 dX4_init_13 (by decide) ?_
  refine pf_X4_15 F hw 0 rfl (Nat.le_of_ble_eq_true rfl) dX4_init_14 (fun H locs hw => ?_)
  replace hw : Wd dd g mv A s H locs [(q_t, .inr (4, [.ref n7, .int (0 : Int32)])), (n7, .inl (g 0, 40, .inl (fun _ => 0)))] := hw
  exact ret_v n7 F hret hlk hw (Nat.le_of_ble_eq_true rfl) (Nat.le_of_ble_eq_true rfl) dX4_init_17
set_option maxHeartbeats 4000000 in
set_option maxRecDepth 100000 in
theorem c_X5_init (l : Launch) (dd : va_G) (g : Nat → ClassId) (mv : Nat) (q_t : Nat) (o_chain : Value) (t_firstDoor : Int64) (t_secondDoor : Int64) (t_all : Int32) (sz : Nat) : Met l yX5_init (.code yX5_init cX5_init 1 none :: WS) (rmH 1 0 0) (va_Pc [.ref q_t] (PW dd g mv [(q_t, .inr (5, [o_chain, .long t_firstDoor, .long t_secondDoor, .int t_all]))] sz)) (Qo dd g none (fun u : Unit => [(q_t, .inr (5, [.null, .long (0 : Int64), .long (0 : Int64), .int (0 : Int32)]))]) (va_A [(q_t, .inr (5, [o_chain, .long t_firstDoor, .long t_secondDoor, .int t_all]))] sz)) 0 0 (va_A [(q_t, .inr (5, [o_chain, .long t_firstDoor, .long t_secondDoor, .int t_all]))] sz) := by
  refine Met_intro (by decide) (Nat.le_of_ble_eq_true rfl) ?_
  intro p e s m below meth c A ls F hret hlk hin hw hl
  replace hl : lv_has ls 1 [(0, .ref q_t)] := hl
  refine lv_aload_n F.1 F.2.1 dX5_init_0 rfl (lv_at hl 0 rfl) ?_
  refine oi F ml_X5_3 hl.1 (Nat.le_of_ble_eq_true rfl) (Nat.le_of_ble_eq_true rfl) dX5_init_1 ?_
  refine lv_aload_n F.1 F.2.1 dX5_init_4 rfl (lv_at hl 0 rfl) ?_
  refine lv_null F.1 F.2.1 dX5_init_5 ?_
  refine pn_X5_9 F hw 0 rfl (Nat.le_of_ble_eq_true rfl) dX5_init_6 (fun H locs hw => ?_)
  replace hw : Wd dd g mv A s H locs [(q_t, .inr (5, [.null, .long t_firstDoor, .long t_secondDoor, .int t_all]))] := hw
  refine lv_aload_n F.1 F.2.1 dX5_init_9 rfl (lv_at hl 0 rfl) ?_
  refine lv_lconst (v := 0) F.1 F.2.1 dX5_init_10 (by decide) ?_
  refine pf_X5_15 F hw 0 rfl (Nat.le_of_ble_eq_true rfl) dX5_init_11 (fun H locs hw => ?_)
  replace hw : Wd dd g mv A s H locs [(q_t, .inr (5, [.null, .long (0 : Int64), .long t_secondDoor, .int t_all]))] := hw
  refine lv_aload_n F.1 F.2.1 dX5_init_14 rfl (lv_at hl 0 rfl) ?_
  refine lv_lconst (v := 0) F.1 F.2.1 dX5_init_15 (by decide) ?_
  refine pf_X5_19 F hw 0 rfl (Nat.le_of_ble_eq_true rfl) dX5_init_16 (fun H locs hw => ?_)
  replace hw : Wd dd g mv A s H locs [(q_t, .inr (5, [.null, .long (0 : Int64), .long (0 : Int64), .int t_all]))] := hw
  refine lv_aload_n F.1 F.2.1 dX5_init_19 rfl (lv_at hl 0 rfl) ?_
  refine lv_iconst (v := 0) F.1 F.2.1 dX5_init_20 (by decide) ?_
  refine pf_X5_22 F hw 0 rfl (Nat.le_of_ble_eq_true rfl) dX5_init_21 (fun H locs hw => ?_)
  replace hw : Wd dd g mv A s H locs [(q_t, .inr (5, [.null, .long (0 : Int64), .long (0 : Int64), .int (0 : Int32)]))] := hw
  exact ret_v () F hret hlk hw (Nat.le_of_ble_eq_true rfl) (Nat.le_of_ble_eq_true rfl) dX5_init_24
set_option maxHeartbeats 4000000 in
set_option maxRecDepth 100000 in
theorem c_X6_init (l : Launch) (dd : va_G) (g : Nat → ClassId) (mv : Nat) (q_t : Nat) (o_when : Value) (o_chain : Value) (t_wheel : Int64) (t_leaks : Int64) (t_turn : Int32) (t_pulls : Int32) (t_drawn : Int32) (t_leaked : Int32) (t_drunk : Int32) (t_servings : Int32) (sz : Nat) : Met l yX6_init (.code yX6_init cX6_init 1 none :: WS) (rmH 1 1 9) (va_Pc [.ref q_t] (PW dd g mv [(q_t, .inr (6, [o_when, o_chain, .long t_wheel, .long t_leaks, .int t_turn, .int t_pulls, .int t_drawn, .int t_leaked, .int t_drunk, .int t_servings]))] sz)) (Qo dd g none (fun u : Nat => [(q_t, .inr (6, [.ref u, .null, .long (0 : Int64), .long (0 : Int64), .int (0 : Int32), .int (0 : Int32), .int (0 : Int32), .int (0 : Int32), .int (0 : Int32), .int (0 : Int32)])), (u, .inl (g 0, 9, .inl (fun _ => 0)))]) (va_A [(q_t, .inr (6, [o_when, o_chain, .long t_wheel, .long t_leaks, .int t_turn, .int t_pulls, .int t_drawn, .int t_leaked, .int t_drunk, .int t_servings]))] sz)) 1 9 (va_A [(q_t, .inr (6, [o_when, o_chain, .long t_wheel, .long t_leaks, .int t_turn, .int t_pulls, .int t_drawn, .int t_leaked, .int t_drunk, .int t_servings]))] sz) := by
  refine Met_intro (by decide) (Nat.le_of_ble_eq_true rfl) ?_
  intro p e s m below meth c A ls F hret hlk hin hw hl
  replace hl : lv_has ls 1 [(0, .ref q_t)] := hl
  refine lv_aload_n F.1 F.2.1 dX6_init_0 rfl (lv_at hl 0 rfl) ?_
  refine oi F ml_X6_3 hl.1 (Nat.le_of_ble_eq_true rfl) (Nat.le_of_ble_eq_true rfl) dX6_init_1 ?_
  refine lv_aload_n F.1 F.2.1 dX6_init_4 rfl (lv_at hl 0 rfl) ?_
  refine lv_bipush (v := 9) F.1 F.2.1 dX6_init_5 (by decide) ?_
  refine na_I (N' := 9) F hw (by decide) (by decide) (by decide) (Nat.le_of_ble_eq_true rfl) (Nat.le_of_ble_eq_true rfl) dX6_init_7 (fun n7 H hw => ?_)
  replace hw : Wd dd g mv A s H _ [(q_t, .inr (6, [o_when, o_chain, .long t_wheel, .long t_leaks, .int t_turn, .int t_pulls, .int t_drawn, .int t_leaked, .int t_drunk, .int t_servings])), (n7, .inl (g 0, 9, .inl (fun _ => 0)))] := hw
  refine pf_X6_9 F hin hw 0 rfl (Nat.le_of_ble_eq_true rfl) dX6_init_9 (fun H locs hw => ?_)
  replace hw : Wd dd g mv A s H locs [(q_t, .inr (6, [.ref n7, o_chain, .long t_wheel, .long t_leaks, .int t_turn, .int t_pulls, .int t_drawn, .int t_leaked, .int t_drunk, .int t_servings])), (n7, .inl (g 0, 9, .inl (fun _ => 0)))] := hw
  refine lv_aload_n F.1 F.2.1 dX6_init_12 rfl (lv_at hl 0 rfl) ?_
  refine lv_null F.1 F.2.1 dX6_init_13 ?_
  refine pn_X6_15 F hw 0 rfl (Nat.le_of_ble_eq_true rfl) dX6_init_14 (fun H locs hw => ?_)
  replace hw : Wd dd g mv A s H locs [(q_t, .inr (6, [.ref n7, .null, .long t_wheel, .long t_leaks, .int t_turn, .int t_pulls, .int t_drawn, .int t_leaked, .int t_drunk, .int t_servings])), (n7, .inl (g 0, 9, .inl (fun _ => 0)))] := hw
  refine lv_aload_n F.1 F.2.1 dX6_init_17 rfl (lv_at hl 0 rfl) ?_
  refine lv_lconst (v := 0) F.1 F.2.1 dX6_init_18 (by decide) ?_
  refine pf_X6_19 F hw 0 rfl (Nat.le_of_ble_eq_true rfl) dX6_init_19 (fun H locs hw => ?_)
  replace hw : Wd dd g mv A s H locs [(q_t, .inr (6, [.ref n7, .null, .long (0 : Int64), .long t_leaks, .int t_turn, .int t_pulls, .int t_drawn, .int t_leaked, .int t_drunk, .int t_servings])), (n7, .inl (g 0, 9, .inl (fun _ => 0)))] := hw
  refine lv_aload_n F.1 F.2.1 dX6_init_22 rfl (lv_at hl 0 rfl) ?_
  refine lv_lconst (v := 0) F.1 F.2.1 dX6_init_23 (by decide) ?_
  refine pf_X6_23 F hw 0 rfl (Nat.le_of_ble_eq_true rfl) dX6_init_24 (fun H locs hw => ?_)
  replace hw : Wd dd g mv A s H locs [(q_t, .inr (6, [.ref n7, .null, .long (0 : Int64), .long (0 : Int64), .int t_turn, .int t_pulls, .int t_drawn, .int t_leaked, .int t_drunk, .int t_servings])), (n7, .inl (g 0, 9, .inl (fun _ => 0)))] := hw
  refine lv_aload_n F.1 F.2.1 dX6_init_27 rfl (lv_at hl 0 rfl) ?_
  refine lv_iconst (v := 0) F.1 F.2.1 dX6_init_28 (by decide) ?_
  refine pf_X6_26 F hw 0 rfl (Nat.le_of_ble_eq_true rfl) dX6_init_29 (fun H locs hw => ?_)
  replace hw : Wd dd g mv A s H locs [(q_t, .inr (6, [.ref n7, .null, .long (0 : Int64), .long (0 : Int64), .int (0 : Int32), .int t_pulls, .int t_drawn, .int t_leaked, .int t_drunk, .int t_servings])), (n7, .inl (g 0, 9, .inl (fun _ => 0)))] := hw
  refine lv_aload_n F.1 F.2.1 dX6_init_32 rfl (lv_at hl 0 rfl) ?_
  refine lv_iconst (v := 0) F.1 F.2.1 dX6_init_33 (by decide) ?_
  refine pf_X6_30 F hw 0 rfl (Nat.le_of_ble_eq_true rfl) dX6_init_34 (fun H locs hw => ?_)
  replace hw : Wd dd g mv A s H locs [(q_t, .inr (6, [.ref n7, .null, .long (0 : Int64), .long (0 : Int64), .int (0 : Int32), .int (0 : Int32), .int t_drawn, .int t_leaked, .int t_drunk, .int t_servings])), (n7, .inl (g 0, 9, .inl (fun _ => 0)))] := hw
  refine lv_aload_n F.1 F.2.1 dX6_init_37 rfl (lv_at hl 0 rfl) ?_
  refine lv_iconst (v := 0) F.1 F.2.1 dX6_init_38 (by decide) ?_
  refine pf_X6_33 F hw 0 rfl (Nat.le_of_ble_eq_true rfl) dX6_init_39 (fun H locs hw => ?_)
  replace hw : Wd dd g mv A s H locs [(q_t, .inr (6, [.ref n7, .null, .long (0 : Int64), .long (0 : Int64), .int (0 : Int32), .int (0 : Int32), .int (0 : Int32), .int t_leaked, .int t_drunk, .int t_servings])), (n7, .inl (g 0, 9, .inl (fun _ => 0)))] := hw
  refine lv_aload_n F.1 F.2.1 dX6_init_42 rfl (lv_at hl 0 rfl) ?_
  refine lv_iconst (v := 0) F.1 F.2.1 dX6_init_43 (by decide) ?_
  refine pf_X6_36 F hw 0 rfl (Nat.le_of_ble_eq_true rfl) dX6_init_44 (fun H locs hw => ?_)
  replace hw : Wd dd g mv A s H locs [(q_t, .inr (6, [.ref n7, .null, .long (0 : Int64), .long (0 : Int64), .int (0 : Int32), .int (0 : Int32), .int (0 : Int32), .int (0 : Int32), .int t_drunk, .int t_servings])), (n7, .inl (g 0, 9, .inl (fun _ => 0)))] := hw
  refine lv_aload_n F.1 F.2.1 dX6_init_47 rfl (lv_at hl 0 rfl) ?_
  refine lv_iconst (v := 0) F.1 F.2.1 dX6_init_48 (by decide) ?_
  refine pf_X6_39 F hw 0 rfl (Nat.le_of_ble_eq_true rfl) dX6_init_49 (fun H locs hw => ?_)
  replace hw : Wd dd g mv A s H locs [(q_t, .inr (6, [.ref n7, .null, .long (0 : Int64), .long (0 : Int64), .int (0 : Int32), .int (0 : Int32), .int (0 : Int32), .int (0 : Int32), .int (0 : Int32), .int t_servings])), (n7, .inl (g 0, 9, .inl (fun _ => 0)))] := hw
  refine lv_aload_n F.1 F.2.1 dX6_init_52 rfl (lv_at hl 0 rfl) ?_
  refine lv_iconst (v := 0) F.1 F.2.1 dX6_init_53 (by decide) ?_
  refine pf_X6_42 F hw 0 rfl (Nat.le_of_ble_eq_true rfl) dX6_init_54 (fun H locs hw => ?_)
  replace hw : Wd dd g mv A s H locs [(q_t, .inr (6, [.ref n7, .null, .long (0 : Int64), .long (0 : Int64), .int (0 : Int32), .int (0 : Int32), .int (0 : Int32), .int (0 : Int32), .int (0 : Int32), .int (0 : Int32)])), (n7, .inl (g 0, 9, .inl (fun _ => 0)))] := hw
  exact ret_v n7 F hret hlk hw (Nat.le_of_ble_eq_true rfl) (Nat.le_of_ble_eq_true rfl) dX6_init_57
set_option maxHeartbeats 4000000 in
set_option maxRecDepth 100000 in
theorem c_X7_init (l : Launch) (dd : va_G) (g : Nat → ClassId) (mv : Nat) (q_t : Nat) (o_chain : Value) (t_doors : Int64) (t_most : Int32) (t_best : Int32) (t_row : Int32) (sz : Nat) : Met l yX7_init (.code yX7_init cX7_init 1 none :: WS) (rmH 1 0 0) (va_Pc [.ref q_t] (PW dd g mv [(q_t, .inr (7, [o_chain, .long t_doors, .int t_most, .int t_best, .int t_row]))] sz)) (Qo dd g none (fun u : Unit => [(q_t, .inr (7, [.null, .long (0 : Int64), .int (0 : Int32), .int (-6 : Int32), .int (0 : Int32)]))]) (va_A [(q_t, .inr (7, [o_chain, .long t_doors, .int t_most, .int t_best, .int t_row]))] sz)) 0 0 (va_A [(q_t, .inr (7, [o_chain, .long t_doors, .int t_most, .int t_best, .int t_row]))] sz) := by
  refine Met_intro (by decide) (Nat.le_of_ble_eq_true rfl) ?_
  intro p e s m below meth c A ls F hret hlk hin hw hl
  replace hl : lv_has ls 1 [(0, .ref q_t)] := hl
  refine lv_aload_n F.1 F.2.1 dX7_init_0 rfl (lv_at hl 0 rfl) ?_
  refine oi F ml_X7_3 hl.1 (Nat.le_of_ble_eq_true rfl) (Nat.le_of_ble_eq_true rfl) dX7_init_1 ?_
  refine lv_aload_n F.1 F.2.1 dX7_init_4 rfl (lv_at hl 0 rfl) ?_
  refine lv_null F.1 F.2.1 dX7_init_5 ?_
  refine pn_X7_9 F hw 0 rfl (Nat.le_of_ble_eq_true rfl) dX7_init_6 (fun H locs hw => ?_)
  replace hw : Wd dd g mv A s H locs [(q_t, .inr (7, [.null, .long t_doors, .int t_most, .int t_best, .int t_row]))] := hw
  refine lv_aload_n F.1 F.2.1 dX7_init_9 rfl (lv_at hl 0 rfl) ?_
  refine lv_lconst (v := 0) F.1 F.2.1 dX7_init_10 (by decide) ?_
  refine pf_X7_15 F hw 0 rfl (Nat.le_of_ble_eq_true rfl) dX7_init_11 (fun H locs hw => ?_)
  replace hw : Wd dd g mv A s H locs [(q_t, .inr (7, [.null, .long (0 : Int64), .int t_most, .int t_best, .int t_row]))] := hw
  refine lv_aload_n F.1 F.2.1 dX7_init_14 rfl (lv_at hl 0 rfl) ?_
  refine lv_iconst (v := 0) F.1 F.2.1 dX7_init_15 (by decide) ?_
  refine pf_X7_19 F hw 0 rfl (Nat.le_of_ble_eq_true rfl) dX7_init_16 (fun H locs hw => ?_)
  replace hw : Wd dd g mv A s H locs [(q_t, .inr (7, [.null, .long (0 : Int64), .int (0 : Int32), .int t_best, .int t_row]))] := hw
  refine lv_aload_n F.1 F.2.1 dX7_init_19 rfl (lv_at hl 0 rfl) ?_
  refine lv_bipush (v := -6) F.1 F.2.1 dX7_init_20 (by decide) ?_
  refine pf_X7_23 F hw 0 rfl (Nat.le_of_ble_eq_true rfl) dX7_init_22 (fun H locs hw => ?_)
  replace hw : Wd dd g mv A s H locs [(q_t, .inr (7, [.null, .long (0 : Int64), .int (0 : Int32), .int (-6 : Int32), .int t_row]))] := hw
  refine lv_aload_n F.1 F.2.1 dX7_init_25 rfl (lv_at hl 0 rfl) ?_
  refine lv_iconst (v := 0) F.1 F.2.1 dX7_init_26 (by decide) ?_
  refine pf_X7_26 F hw 0 rfl (Nat.le_of_ble_eq_true rfl) dX7_init_27 (fun H locs hw => ?_)
  replace hw : Wd dd g mv A s H locs [(q_t, .inr (7, [.null, .long (0 : Int64), .int (0 : Int32), .int (-6 : Int32), .int (0 : Int32)]))] := hw
  exact ret_v () F hret hlk hw (Nat.le_of_ble_eq_true rfl) (Nat.le_of_ble_eq_true rfl) dX7_init_30
set_option maxHeartbeats 4000000 in
set_option maxRecDepth 100000 in
theorem c_X8_init (l : Launch) (dd : va_G) (g : Nat → ClassId) (mv : Nat) (q_t : Nat) (o_behind : Value) (o_door : Value) (o_served : Value) (t_count : Int32) (sz : Nat) : Met l yX8_init (.code yX8_init cX8_init 1 none :: WS) (rmH 1 3 18) (va_Pc [.ref q_t] (PW dd g mv [(q_t, .inr (8, [o_behind, o_door, o_served, .int t_count]))] sz)) (Qo dd g none (fun u : Nat × Nat × Nat => [(q_t, .inr (8, [.ref u.1, .ref u.2.1, .ref u.2.2, .int (0 : Int32)])), (u.1, .inl (g 0, 6, .inl (fun _ => 0))), (u.2.1, .inl (g 0, 6, .inl (fun _ => 0))), (u.2.2, .inl (g 2, 6, .inl (fun _ => 0)))]) (va_A [(q_t, .inr (8, [o_behind, o_door, o_served, .int t_count]))] sz)) 3 18 (va_A [(q_t, .inr (8, [o_behind, o_door, o_served, .int t_count]))] sz) := by
  refine Met_intro (by decide) (Nat.le_of_ble_eq_true rfl) ?_
  intro p e s m below meth c A ls F hret hlk hin hw hl
  replace hl : lv_has ls 1 [(0, .ref q_t)] := hl
  refine lv_aload_n F.1 F.2.1 dX8_init_0 rfl (lv_at hl 0 rfl) ?_
  refine oi F ml_X8_3 hl.1 (Nat.le_of_ble_eq_true rfl) (Nat.le_of_ble_eq_true rfl) dX8_init_1 ?_
  refine lv_aload_n F.1 F.2.1 dX8_init_4 rfl (lv_at hl 0 rfl) ?_
  refine lv_bipush (v := 6) F.1 F.2.1 dX8_init_5 (by decide) ?_
  refine na_I (N' := 6) F hw (by decide) (by decide) (by decide) (Nat.le_of_ble_eq_true rfl) (Nat.le_of_ble_eq_true rfl) dX8_init_7 (fun n7 H hw => ?_)
  replace hw : Wd dd g mv A s H _ [(q_t, .inr (8, [o_behind, o_door, o_served, .int t_count])), (n7, .inl (g 0, 6, .inl (fun _ => 0)))] := hw
  refine pf_X8_9 F hin hw 0 rfl (Nat.le_of_ble_eq_true rfl) dX8_init_9 (fun H locs hw => ?_)
  replace hw : Wd dd g mv A s H locs [(q_t, .inr (8, [.ref n7, o_door, o_served, .int t_count])), (n7, .inl (g 0, 6, .inl (fun _ => 0)))] := hw
  refine lv_aload_n F.1 F.2.1 dX8_init_12 rfl (lv_at hl 0 rfl) ?_
  refine lv_bipush (v := 6) F.1 F.2.1 dX8_init_13 (by decide) ?_
  refine na_I (N' := 6) F hw (by decide) (by decide) (by decide) (Nat.le_of_ble_eq_true rfl) (Nat.le_of_ble_eq_true rfl) dX8_init_15 (fun n15 H hw => ?_)
  replace hw : Wd dd g mv A s H _ [(q_t, .inr (8, [.ref n7, o_door, o_served, .int t_count])), (n7, .inl (g 0, 6, .inl (fun _ => 0))), (n15, .inl (g 0, 6, .inl (fun _ => 0)))] := hw
  refine pf_X8_15 F hin hw 0 rfl (Nat.le_of_ble_eq_true rfl) dX8_init_17 (fun H locs hw => ?_)
  replace hw : Wd dd g mv A s H locs [(q_t, .inr (8, [.ref n7, .ref n15, o_served, .int t_count])), (n7, .inl (g 0, 6, .inl (fun _ => 0))), (n15, .inl (g 0, 6, .inl (fun _ => 0)))] := hw
  refine lv_aload_n F.1 F.2.1 dX8_init_20 rfl (lv_at hl 0 rfl) ?_
  refine lv_bipush (v := 6) F.1 F.2.1 dX8_init_21 (by decide) ?_
  refine na_Z (N' := 6) F hw (by decide) (by decide) (by decide) (Nat.le_of_ble_eq_true rfl) (Nat.le_of_ble_eq_true rfl) dX8_init_23 (fun n23 H hw => ?_)
  replace hw : Wd dd g mv A s H _ [(q_t, .inr (8, [.ref n7, .ref n15, o_served, .int t_count])), (n7, .inl (g 0, 6, .inl (fun _ => 0))), (n15, .inl (g 0, 6, .inl (fun _ => 0))), (n23, .inl (g 2, 6, .inl (fun _ => 0)))] := hw
  refine pf_X8_18 F hin hw 0 rfl (Nat.le_of_ble_eq_true rfl) dX8_init_25 (fun H locs hw => ?_)
  replace hw : Wd dd g mv A s H locs [(q_t, .inr (8, [.ref n7, .ref n15, .ref n23, .int t_count])), (n7, .inl (g 0, 6, .inl (fun _ => 0))), (n15, .inl (g 0, 6, .inl (fun _ => 0))), (n23, .inl (g 2, 6, .inl (fun _ => 0)))] := hw
  refine lv_aload_n F.1 F.2.1 dX8_init_28 rfl (lv_at hl 0 rfl) ?_
  refine lv_iconst (v := 0) F.1 F.2.1 dX8_init_29 (by decide) ?_
  refine pf_X8_22 F hw 0 rfl (Nat.le_of_ble_eq_true rfl) dX8_init_30 (fun H locs hw => ?_)
  replace hw : Wd dd g mv A s H locs [(q_t, .inr (8, [.ref n7, .ref n15, .ref n23, .int (0 : Int32)])), (n7, .inl (g 0, 6, .inl (fun _ => 0))), (n15, .inl (g 0, 6, .inl (fun _ => 0))), (n23, .inl (g 2, 6, .inl (fun _ => 0)))] := hw
  exact ret_v (n7, n15, n23) F hret hlk hw (Nat.le_of_ble_eq_true rfl) (Nat.le_of_ble_eq_true rfl) dX8_init_33
set_option maxHeartbeats 4000000 in
set_option maxRecDepth 100000 in
theorem c_X9_init (l : Launch) (dd : va_G) (g : Nat → ClassId) (mv : Nat) (q_t : Nat) (o_powers : Value) (o_chain : Value) (t_doors : Int64) (t_plus : Int32) (t_minus : Int32) (t_upper : Int64) (t_lower : Int64) (sz : Nat) : Met l yX9_init (.code yX9_init cX9_init 1 none :: WS) (rmH 1 1 13) (va_Pc [.ref q_t] (PW dd g mv [(q_t, .inr (9, [o_powers, o_chain, .long t_doors, .int t_plus, .int t_minus, .long t_upper, .long t_lower]))] sz)) (Qo dd g none (fun u : Nat => [(q_t, .inr (9, [.ref u, .null, .long (0 : Int64), .int (0 : Int32), .int (0 : Int32), .long (0 : Int64), .long (1 : Int64)])), (u, .inl (g 1, 13, .inr (.inl (fun _ => 0))))]) (va_A [(q_t, .inr (9, [o_powers, o_chain, .long t_doors, .int t_plus, .int t_minus, .long t_upper, .long t_lower]))] sz)) 1 13 (va_A [(q_t, .inr (9, [o_powers, o_chain, .long t_doors, .int t_plus, .int t_minus, .long t_upper, .long t_lower]))] sz) := by
  refine Met_intro (by decide) (Nat.le_of_ble_eq_true rfl) ?_
  intro p e s m below meth c A ls F hret hlk hin hw hl
  replace hl : lv_has ls 1 [(0, .ref q_t)] := hl
  refine lv_aload_n F.1 F.2.1 dX9_init_0 rfl (lv_at hl 0 rfl) ?_
  refine oi F ml_X9_3 hl.1 (Nat.le_of_ble_eq_true rfl) (Nat.le_of_ble_eq_true rfl) dX9_init_1 ?_
  refine lv_aload_n F.1 F.2.1 dX9_init_4 rfl (lv_at hl 0 rfl) ?_
  refine lv_bipush (v := 13) F.1 F.2.1 dX9_init_5 (by decide) ?_
  refine na_J (N' := 13) F hw (by decide) (by decide) (by decide) (Nat.le_of_ble_eq_true rfl) (Nat.le_of_ble_eq_true rfl) dX9_init_7 (fun n7 H hw => ?_)
  replace hw : Wd dd g mv A s H _ [(q_t, .inr (9, [o_powers, o_chain, .long t_doors, .int t_plus, .int t_minus, .long t_upper, .long t_lower])), (n7, .inl (g 1, 13, .inr (.inl (fun _ => 0))))] := hw
  refine pf_X9_9 F hin hw 0 rfl (Nat.le_of_ble_eq_true rfl) dX9_init_9 (fun H locs hw => ?_)
  replace hw : Wd dd g mv A s H locs [(q_t, .inr (9, [.ref n7, o_chain, .long t_doors, .int t_plus, .int t_minus, .long t_upper, .long t_lower])), (n7, .inl (g 1, 13, .inr (.inl (fun _ => 0))))] := hw
  refine lv_aload_n F.1 F.2.1 dX9_init_12 rfl (lv_at hl 0 rfl) ?_
  refine lv_null F.1 F.2.1 dX9_init_13 ?_
  refine pn_X9_15 F hw 0 rfl (Nat.le_of_ble_eq_true rfl) dX9_init_14 (fun H locs hw => ?_)
  replace hw : Wd dd g mv A s H locs [(q_t, .inr (9, [.ref n7, .null, .long t_doors, .int t_plus, .int t_minus, .long t_upper, .long t_lower])), (n7, .inl (g 1, 13, .inr (.inl (fun _ => 0))))] := hw
  refine lv_aload_n F.1 F.2.1 dX9_init_17 rfl (lv_at hl 0 rfl) ?_
  refine lv_lconst (v := 0) F.1 F.2.1 dX9_init_18 (by decide) ?_
  refine pf_X9_19 F hw 0 rfl (Nat.le_of_ble_eq_true rfl) dX9_init_19 (fun H locs hw => ?_)
  replace hw : Wd dd g mv A s H locs [(q_t, .inr (9, [.ref n7, .null, .long (0 : Int64), .int t_plus, .int t_minus, .long t_upper, .long t_lower])), (n7, .inl (g 1, 13, .inr (.inl (fun _ => 0))))] := hw
  refine lv_aload_n F.1 F.2.1 dX9_init_22 rfl (lv_at hl 0 rfl) ?_
  refine lv_iconst (v := 0) F.1 F.2.1 dX9_init_23 (by decide) ?_
  refine pf_X9_23 F hw 0 rfl (Nat.le_of_ble_eq_true rfl) dX9_init_24 (fun H locs hw => ?_)
  replace hw : Wd dd g mv A s H locs [(q_t, .inr (9, [.ref n7, .null, .long (0 : Int64), .int (0 : Int32), .int t_minus, .long t_upper, .long t_lower])), (n7, .inl (g 1, 13, .inr (.inl (fun _ => 0))))] := hw
  refine lv_aload_n F.1 F.2.1 dX9_init_27 rfl (lv_at hl 0 rfl) ?_
  refine lv_iconst (v := 0) F.1 F.2.1 dX9_init_28 (by decide) ?_
  refine pf_X9_27 F hw 0 rfl (Nat.le_of_ble_eq_true rfl) dX9_init_29 (fun H locs hw => ?_)
  replace hw : Wd dd g mv A s H locs [(q_t, .inr (9, [.ref n7, .null, .long (0 : Int64), .int (0 : Int32), .int (0 : Int32), .long t_upper, .long t_lower])), (n7, .inl (g 1, 13, .inr (.inl (fun _ => 0))))] := hw
  refine lv_aload_n F.1 F.2.1 dX9_init_32 rfl (lv_at hl 0 rfl) ?_
  refine lv_lconst (v := 0) F.1 F.2.1 dX9_init_33 (by decide) ?_
  refine pf_X9_30 F hw 0 rfl (Nat.le_of_ble_eq_true rfl) dX9_init_34 (fun H locs hw => ?_)
  replace hw : Wd dd g mv A s H locs [(q_t, .inr (9, [.ref n7, .null, .long (0 : Int64), .int (0 : Int32), .int (0 : Int32), .long (0 : Int64), .long t_lower])), (n7, .inl (g 1, 13, .inr (.inl (fun _ => 0))))] := hw
  refine lv_aload_n F.1 F.2.1 dX9_init_37 rfl (lv_at hl 0 rfl) ?_
  refine lv_lconst (v := 1) F.1 F.2.1 dX9_init_38 (by decide) ?_
  refine pf_X9_33 F hw 0 rfl (Nat.le_of_ble_eq_true rfl) dX9_init_39 (fun H locs hw => ?_)
  replace hw : Wd dd g mv A s H locs [(q_t, .inr (9, [.ref n7, .null, .long (0 : Int64), .int (0 : Int32), .int (0 : Int32), .long (0 : Int64), .long (1 : Int64)])), (n7, .inl (g 1, 13, .inr (.inl (fun _ => 0))))] := hw
  exact ret_v n7 F hret hlk hw (Nat.le_of_ble_eq_true rfl) (Nat.le_of_ble_eq_true rfl) dX9_init_42
set_option maxHeartbeats 4000000 in
set_option maxRecDepth 100000 in
theorem c_X10_init (l : Launch) (dd : va_G) (g : Nat → ClassId) (mv : Nat) (q_t : Nat) (o_signs : Value) (o_lengths : Value) (t_count : Int32) (o_fewestSigns : Value) (o_isSettled : Value) (sz : Nat) : Met l yX10_init (.code yX10_init cX10_init 1 none :: WS) (rmH 1 4 200) (va_Pc [.ref q_t] (PW dd g mv [(q_t, .inr (10, [o_signs, o_lengths, .int t_count, o_fewestSigns, o_isSettled]))] sz)) (Qo dd g none (fun u : Nat × Nat × Nat × Nat => [(q_t, .inr (10, [.ref u.1, .ref u.2.1, .int (0 : Int32), .ref u.2.2.1, .ref u.2.2.2])), (u.1, .inl (g 0, 64, .inl (fun _ => 0))), (u.2.1, .inl (g 0, 8, .inl (fun _ => 0))), (u.2.2.1, .inl (g 0, 64, .inl (fun _ => 0))), (u.2.2.2, .inl (g 2, 64, .inl (fun _ => 0)))]) (va_A [(q_t, .inr (10, [o_signs, o_lengths, .int t_count, o_fewestSigns, o_isSettled]))] sz)) 4 200 (va_A [(q_t, .inr (10, [o_signs, o_lengths, .int t_count, o_fewestSigns, o_isSettled]))] sz) := by
  refine Met_intro (by decide) (Nat.le_of_ble_eq_true rfl) ?_
  intro p e s m below meth c A ls F hret hlk hin hw hl
  replace hl : lv_has ls 1 [(0, .ref q_t)] := hl
  refine lv_aload_n F.1 F.2.1 dX10_init_0 rfl (lv_at hl 0 rfl) ?_
  refine oi F ml_X10_3 hl.1 (Nat.le_of_ble_eq_true rfl) (Nat.le_of_ble_eq_true rfl) dX10_init_1 ?_
  refine lv_aload_n F.1 F.2.1 dX10_init_4 rfl (lv_at hl 0 rfl) ?_
  refine lv_bipush (v := 64) F.1 F.2.1 dX10_init_5 (by decide) ?_
  refine na_I (N' := 64) F hw (by decide) (by decide) (by decide) (Nat.le_of_ble_eq_true rfl) (Nat.le_of_ble_eq_true rfl) dX10_init_7 (fun n7 H hw => ?_)
  replace hw : Wd dd g mv A s H _ [(q_t, .inr (10, [o_signs, o_lengths, .int t_count, o_fewestSigns, o_isSettled])), (n7, .inl (g 0, 64, .inl (fun _ => 0)))] := hw
  refine pf_X10_11 F hin hw 0 rfl (Nat.le_of_ble_eq_true rfl) dX10_init_9 (fun H locs hw => ?_)
  replace hw : Wd dd g mv A s H locs [(q_t, .inr (10, [.ref n7, o_lengths, .int t_count, o_fewestSigns, o_isSettled])), (n7, .inl (g 0, 64, .inl (fun _ => 0)))] := hw
  refine lv_aload_n F.1 F.2.1 dX10_init_12 rfl (lv_at hl 0 rfl) ?_
  refine lv_bipush (v := 8) F.1 F.2.1 dX10_init_13 (by decide) ?_
  refine na_I (N' := 8) F hw (by decide) (by decide) (by decide) (Nat.le_of_ble_eq_true rfl) (Nat.le_of_ble_eq_true rfl) dX10_init_15 (fun n15 H hw => ?_)
  replace hw : Wd dd g mv A s H _ [(q_t, .inr (10, [.ref n7, o_lengths, .int t_count, o_fewestSigns, o_isSettled])), (n7, .inl (g 0, 64, .inl (fun _ => 0))), (n15, .inl (g 0, 8, .inl (fun _ => 0)))] := hw
  refine pf_X10_15 F hin hw 0 rfl (Nat.le_of_ble_eq_true rfl) dX10_init_17 (fun H locs hw => ?_)
  replace hw : Wd dd g mv A s H locs [(q_t, .inr (10, [.ref n7, .ref n15, .int t_count, o_fewestSigns, o_isSettled])), (n7, .inl (g 0, 64, .inl (fun _ => 0))), (n15, .inl (g 0, 8, .inl (fun _ => 0)))] := hw
  refine lv_aload_n F.1 F.2.1 dX10_init_20 rfl (lv_at hl 0 rfl) ?_
  refine lv_iconst (v := 0) F.1 F.2.1 dX10_init_21 (by decide) ?_
  refine pf_X10_18 F hw 0 rfl (Nat.le_of_ble_eq_true rfl) dX10_init_22 (fun H locs hw => ?_)
  replace hw : Wd dd g mv A s H locs [(q_t, .inr (10, [.ref n7, .ref n15, .int (0 : Int32), o_fewestSigns, o_isSettled])), (n7, .inl (g 0, 64, .inl (fun _ => 0))), (n15, .inl (g 0, 8, .inl (fun _ => 0)))] := hw
  refine lv_aload_n F.1 F.2.1 dX10_init_25 rfl (lv_at hl 0 rfl) ?_
  refine lv_bipush (v := 64) F.1 F.2.1 dX10_init_26 (by decide) ?_
  refine na_I (N' := 64) F hw (by decide) (by decide) (by decide) (Nat.le_of_ble_eq_true rfl) (Nat.le_of_ble_eq_true rfl) dX10_init_28 (fun n28 H hw => ?_)
  replace hw : Wd dd g mv A s H _ [(q_t, .inr (10, [.ref n7, .ref n15, .int (0 : Int32), o_fewestSigns, o_isSettled])), (n7, .inl (g 0, 64, .inl (fun _ => 0))), (n15, .inl (g 0, 8, .inl (fun _ => 0))), (n28, .inl (g 0, 64, .inl (fun _ => 0)))] := hw
  refine pf_X10_22 F hin hw 0 rfl (Nat.le_of_ble_eq_true rfl) dX10_init_30 (fun H locs hw => ?_)
  replace hw : Wd dd g mv A s H locs [(q_t, .inr (10, [.ref n7, .ref n15, .int (0 : Int32), .ref n28, o_isSettled])), (n7, .inl (g 0, 64, .inl (fun _ => 0))), (n15, .inl (g 0, 8, .inl (fun _ => 0))), (n28, .inl (g 0, 64, .inl (fun _ => 0)))] := hw
  refine lv_aload_n F.1 F.2.1 dX10_init_33 rfl (lv_at hl 0 rfl) ?_
  refine lv_bipush (v := 64) F.1 F.2.1 dX10_init_34 (by decide) ?_
  refine na_Z (N' := 64) F hw (by decide) (by decide) (by decide) (Nat.le_of_ble_eq_true rfl) (Nat.le_of_ble_eq_true rfl) dX10_init_36 (fun n36 H hw => ?_)
  replace hw : Wd dd g mv A s H _ [(q_t, .inr (10, [.ref n7, .ref n15, .int (0 : Int32), .ref n28, o_isSettled])), (n7, .inl (g 0, 64, .inl (fun _ => 0))), (n15, .inl (g 0, 8, .inl (fun _ => 0))), (n28, .inl (g 0, 64, .inl (fun _ => 0))), (n36, .inl (g 2, 64, .inl (fun _ => 0)))] := hw
  refine pf_X10_25 F hin hw 0 rfl (Nat.le_of_ble_eq_true rfl) dX10_init_38 (fun H locs hw => ?_)
  replace hw : Wd dd g mv A s H locs [(q_t, .inr (10, [.ref n7, .ref n15, .int (0 : Int32), .ref n28, .ref n36])), (n7, .inl (g 0, 64, .inl (fun _ => 0))), (n15, .inl (g 0, 8, .inl (fun _ => 0))), (n28, .inl (g 0, 64, .inl (fun _ => 0))), (n36, .inl (g 2, 64, .inl (fun _ => 0)))] := hw
  exact ret_v (n7, n15, n28, n36) F hret hlk hw (Nat.le_of_ble_eq_true rfl) (Nat.le_of_ble_eq_true rfl) dX10_init_41
set_option maxHeartbeats 4000000 in
set_option maxRecDepth 100000 in
theorem c_X3_init (l : Launch) (dd : va_G) (g : Nat → ClassId) (mv : Nat) (q_t : Nat) (o_chain : Value) (o_words : Value) (o_sights : Value) (t_isKept : Int32) (sz : Nat) : Met l yX3_init (.code yX3_init cX3_init 1 none :: WS) (rmH 2 10 233) (va_Pc [.ref q_t] (PW dd g mv [(q_t, .inr (3, [o_chain, o_words, o_sights, .int t_isKept]))] sz)) (Qo dd g none (fun u : Nat × Nat × Nat × Nat × Nat × Nat × Nat × Nat × Nat × Nat => [(q_t, .inr (3, [.ref u.1, .ref u.2.1, .ref u.2.2.2.2.2.2.1, .int (0 : Int32)])), (u.1, .inr (1, [.int (6 : Int32), .int (6 : Int32), .int (0 : Int32), .long (6 : Int64), .long (0 : Int64), .long (0 : Int64)])), (u.2.1, .inr (10, [.ref u.2.2.1, .ref u.2.2.2.1, .int (0 : Int32), .ref u.2.2.2.2.1, .ref u.2.2.2.2.2.1])), (u.2.2.1, .inl (g 0, 64, .inl (fun _ => 0))), (u.2.2.2.1, .inl (g 0, 8, .inl (fun _ => 0))), (u.2.2.2.2.1, .inl (g 0, 64, .inl (fun _ => 0))), (u.2.2.2.2.2.1, .inl (g 2, 64, .inl (fun _ => 0))), (u.2.2.2.2.2.2.1, .inr (8, [.ref u.2.2.2.2.2.2.2.1, .ref u.2.2.2.2.2.2.2.2.1, .ref u.2.2.2.2.2.2.2.2.2, .int (0 : Int32)])), (u.2.2.2.2.2.2.2.1, .inl (g 0, 6, .inl (fun _ => 0))), (u.2.2.2.2.2.2.2.2.1, .inl (g 0, 6, .inl (fun _ => 0))), (u.2.2.2.2.2.2.2.2.2, .inl (g 2, 6, .inl (fun _ => 0)))]) (va_A [(q_t, .inr (3, [o_chain, o_words, o_sights, .int t_isKept]))] sz)) 10 233 (va_A [(q_t, .inr (3, [o_chain, o_words, o_sights, .int t_isKept]))] sz) := by
  refine Met_intro (by decide) (Nat.le_of_ble_eq_true rfl) ?_
  intro p e s m below meth c A ls F hret hlk hin hw hl
  replace hl : lv_has ls 1 [(0, .ref q_t)] := hl
  refine lv_aload_n F.1 F.2.1 dX3_init_0 rfl (lv_at hl 0 rfl) ?_
  refine oi F ml_X3_1 hl.1 (Nat.le_of_ble_eq_true rfl) (Nat.le_of_ble_eq_true rfl) dX3_init_1 ?_
  refine lv_aload_n F.1 F.2.1 dX3_init_4 rfl (lv_at hl 0 rfl) ?_
  refine nw_o (ci := 1) (fs := [.int 0, .int 0, .int 0, .long 0, .long 0, .long 0]) F nk_X3_7 inW_1 tyX1 tyX1_ok hw rfl dfl_1 (Nat.le_of_ble_eq_true rfl) (Nat.le_of_ble_eq_true rfl) dX3_init_5 (fun n5 H hw => ?_)
  replace hw : Wd dd g mv A s H _ [(q_t, .inr (3, [o_chain, o_words, o_sights, .int t_isKept])), (n5, .inr (1, [.int 0, .int 0, .int 0, .long 0, .long 0, .long 0]))] := hw
  refine lv_dup F.1 F.2.1 dX3_init_8 rfl ?_
  refine call_o (wr := [(q_t, .inr (3, [o_chain, o_words, o_sights, .int t_isKept]))]) (run_I (As := []) (rest := [.ref n5, .ref q_t]) F k_X3_9 (c_X1_init l dd g mv n5 0 0 0 0 0 0 _) hw [1] (by decide) rfl rfl hl.1 rfl (Nat.le_of_ble_eq_true rfl) dX3_init_9 ⟨Nat.le_of_ble_eq_true rfl, Nat.le_of_ble_eq_true rfl⟩ ⟨Nat.le_of_ble_eq_true rfl, Nat.le_of_ble_eq_true rfl⟩) hw [1] [0] rfl rfl (by decide) (by decide) (fun u9 H locs hw => ?_)
  replace hw : Wd dd g mv A s H locs [(q_t, .inr (3, [o_chain, o_words, o_sights, .int t_isKept])), (n5, .inr (1, [.int (6 : Int32), .int (6 : Int32), .int (0 : Int32), .long (6 : Int64), .long (0 : Int64), .long (0 : Int64)]))] := hw
  refine W.eq (g2 := F0 m 12 ls [.ref n5, .ref q_t]) rfl ?_
  refine pf_X3_10 F hin hw 0 rfl (Nat.le_of_ble_eq_true rfl) dX3_init_12 (fun H locs hw => ?_)
  replace hw : Wd dd g mv A s H locs [(q_t, .inr (3, [.ref n5, o_words, o_sights, .int t_isKept])), (n5, .inr (1, [.int (6 : Int32), .int (6 : Int32), .int (0 : Int32), .long (6 : Int64), .long (0 : Int64), .long (0 : Int64)]))] := hw
  refine lv_aload_n F.1 F.2.1 dX3_init_15 rfl (lv_at hl 0 rfl) ?_
  refine nw_o (ci := 10) (fs := [.null, .null, .int 0, .null, .null]) F nk_X3_16 inW_10 tyX10 tyX10_ok hw rfl dfl_10 (Nat.le_of_ble_eq_true rfl) (Nat.le_of_ble_eq_true rfl) dX3_init_16 (fun n16 H hw => ?_)
  replace hw : Wd dd g mv A s H _ [(q_t, .inr (3, [.ref n5, o_words, o_sights, .int t_isKept])), (n5, .inr (1, [.int (6 : Int32), .int (6 : Int32), .int (0 : Int32), .long (6 : Int64), .long (0 : Int64), .long (0 : Int64)])), (n16, .inr (10, [.null, .null, .int 0, .null, .null]))] := hw
  refine lv_dup F.1 F.2.1 dX3_init_19 rfl ?_
  refine call_o (wr := [(q_t, .inr (3, [.ref n5, o_words, o_sights, .int t_isKept])), (n5, .inr (1, [.int (6 : Int32), .int (6 : Int32), .int (0 : Int32), .long (6 : Int64), .long (0 : Int64), .long (0 : Int64)]))]) (run_I (As := []) (rest := [.ref n16, .ref q_t]) F k_X3_18 (c_X10_init l dd g mv n16 .null .null 0 .null .null _) hw [2] (by decide) rfl rfl hl.1 rfl (Nat.le_of_ble_eq_true rfl) dX3_init_20 ⟨Nat.le_of_ble_eq_true rfl, Nat.le_of_ble_eq_true rfl⟩ ⟨Nat.le_of_ble_eq_true rfl, Nat.le_of_ble_eq_true rfl⟩) hw [2] [0, 1] rfl rfl (by decide) (by decide) (fun u20 H locs hw => ?_)
  replace hw : Wd dd g mv A s H locs [(q_t, .inr (3, [.ref n5, o_words, o_sights, .int t_isKept])), (n5, .inr (1, [.int (6 : Int32), .int (6 : Int32), .int (0 : Int32), .long (6 : Int64), .long (0 : Int64), .long (0 : Int64)])), (n16, .inr (10, [.ref u20.1, .ref u20.2.1, .int (0 : Int32), .ref u20.2.2.1, .ref u20.2.2.2])), (u20.1, .inl (g 0, 64, .inl (fun _ => 0))), (u20.2.1, .inl (g 0, 8, .inl (fun _ => 0))), (u20.2.2.1, .inl (g 0, 64, .inl (fun _ => 0))), (u20.2.2.2, .inl (g 2, 64, .inl (fun _ => 0)))] := hw
  refine W.eq (g2 := F0 m 23 ls [.ref n16, .ref q_t]) rfl ?_
  refine pf_X3_19 F hin hw 0 rfl (Nat.le_of_ble_eq_true rfl) dX3_init_23 (fun H locs hw => ?_)
  replace hw : Wd dd g mv A s H locs [(q_t, .inr (3, [.ref n5, .ref n16, o_sights, .int t_isKept])), (n5, .inr (1, [.int (6 : Int32), .int (6 : Int32), .int (0 : Int32), .long (6 : Int64), .long (0 : Int64), .long (0 : Int64)])), (n16, .inr (10, [.ref u20.1, .ref u20.2.1, .int (0 : Int32), .ref u20.2.2.1, .ref u20.2.2.2])), (u20.1, .inl (g 0, 64, .inl (fun _ => 0))), (u20.2.1, .inl (g 0, 8, .inl (fun _ => 0))), (u20.2.2.1, .inl (g 0, 64, .inl (fun _ => 0))), (u20.2.2.2, .inl (g 2, 64, .inl (fun _ => 0)))] := hw
  refine lv_aload_n F.1 F.2.1 dX3_init_26 rfl (lv_at hl 0 rfl) ?_
  refine nw_o (ci := 8) (fs := [.null, .null, .null, .int 0]) F nk_X3_23 inW_8 tyX8 tyX8_ok hw rfl dfl_8 (Nat.le_of_ble_eq_true rfl) (Nat.le_of_ble_eq_true rfl) dX3_init_27 (fun n27 H hw => ?_)
  replace hw : Wd dd g mv A s H _ [(q_t, .inr (3, [.ref n5, .ref n16, o_sights, .int t_isKept])), (n5, .inr (1, [.int (6 : Int32), .int (6 : Int32), .int (0 : Int32), .long (6 : Int64), .long (0 : Int64), .long (0 : Int64)])), (n16, .inr (10, [.ref u20.1, .ref u20.2.1, .int (0 : Int32), .ref u20.2.2.1, .ref u20.2.2.2])), (u20.1, .inl (g 0, 64, .inl (fun _ => 0))), (u20.2.1, .inl (g 0, 8, .inl (fun _ => 0))), (u20.2.2.1, .inl (g 0, 64, .inl (fun _ => 0))), (u20.2.2.2, .inl (g 2, 64, .inl (fun _ => 0))), (n27, .inr (8, [.null, .null, .null, .int 0]))] := hw
  refine lv_dup F.1 F.2.1 dX3_init_30 rfl ?_
  refine call_o (wr := [(q_t, .inr (3, [.ref n5, .ref n16, o_sights, .int t_isKept])), (n5, .inr (1, [.int (6 : Int32), .int (6 : Int32), .int (0 : Int32), .long (6 : Int64), .long (0 : Int64), .long (0 : Int64)])), (n16, .inr (10, [.ref u20.1, .ref u20.2.1, .int (0 : Int32), .ref u20.2.2.1, .ref u20.2.2.2])), (u20.1, .inl (g 0, 64, .inl (fun _ => 0))), (u20.2.1, .inl (g 0, 8, .inl (fun _ => 0))), (u20.2.2.1, .inl (g 0, 64, .inl (fun _ => 0))), (u20.2.2.2, .inl (g 2, 64, .inl (fun _ => 0)))]) (run_I (As := []) (rest := [.ref n27, .ref q_t]) F k_X3_25 (c_X8_init l dd g mv n27 .null .null .null 0 _) hw [7] (by decide) rfl rfl hl.1 rfl (Nat.le_of_ble_eq_true rfl) dX3_init_31 ⟨Nat.le_of_ble_eq_true rfl, Nat.le_of_ble_eq_true rfl⟩ ⟨Nat.le_of_ble_eq_true rfl, Nat.le_of_ble_eq_true rfl⟩) hw [7] [0, 1, 2, 3, 4, 5, 6] rfl rfl (by decide) (by decide) (fun u31 H locs hw => ?_)
  replace hw : Wd dd g mv A s H locs [(q_t, .inr (3, [.ref n5, .ref n16, o_sights, .int t_isKept])), (n5, .inr (1, [.int (6 : Int32), .int (6 : Int32), .int (0 : Int32), .long (6 : Int64), .long (0 : Int64), .long (0 : Int64)])), (n16, .inr (10, [.ref u20.1, .ref u20.2.1, .int (0 : Int32), .ref u20.2.2.1, .ref u20.2.2.2])), (u20.1, .inl (g 0, 64, .inl (fun _ => 0))), (u20.2.1, .inl (g 0, 8, .inl (fun _ => 0))), (u20.2.2.1, .inl (g 0, 64, .inl (fun _ => 0))), (u20.2.2.2, .inl (g 2, 64, .inl (fun _ => 0))), (n27, .inr (8, [.ref u31.1, .ref u31.2.1, .ref u31.2.2, .int (0 : Int32)])), (u31.1, .inl (g 0, 6, .inl (fun _ => 0))), (u31.2.1, .inl (g 0, 6, .inl (fun _ => 0))), (u31.2.2, .inl (g 2, 6, .inl (fun _ => 0)))] := hw
  refine W.eq (g2 := F0 m 34 ls [.ref n27, .ref q_t]) rfl ?_
  refine pf_X3_26 F hin hw 0 rfl (Nat.le_of_ble_eq_true rfl) dX3_init_34 (fun H locs hw => ?_)
  replace hw : Wd dd g mv A s H locs [(q_t, .inr (3, [.ref n5, .ref n16, .ref n27, .int t_isKept])), (n5, .inr (1, [.int (6 : Int32), .int (6 : Int32), .int (0 : Int32), .long (6 : Int64), .long (0 : Int64), .long (0 : Int64)])), (n16, .inr (10, [.ref u20.1, .ref u20.2.1, .int (0 : Int32), .ref u20.2.2.1, .ref u20.2.2.2])), (u20.1, .inl (g 0, 64, .inl (fun _ => 0))), (u20.2.1, .inl (g 0, 8, .inl (fun _ => 0))), (u20.2.2.1, .inl (g 0, 64, .inl (fun _ => 0))), (u20.2.2.2, .inl (g 2, 64, .inl (fun _ => 0))), (n27, .inr (8, [.ref u31.1, .ref u31.2.1, .ref u31.2.2, .int (0 : Int32)])), (u31.1, .inl (g 0, 6, .inl (fun _ => 0))), (u31.2.1, .inl (g 0, 6, .inl (fun _ => 0))), (u31.2.2, .inl (g 2, 6, .inl (fun _ => 0)))] := hw
  refine lv_aload_n F.1 F.2.1 dX3_init_37 rfl (lv_at hl 0 rfl) ?_
  refine lv_iconst (v := 0) F.1 F.2.1 dX3_init_38 (by decide) ?_
  refine pf_X3_30 F hw 0 rfl (by decide) (by decide) (Nat.le_of_ble_eq_true rfl) dX3_init_39 (fun H locs hw => ?_)
  replace hw : Wd dd g mv A s H locs [(q_t, .inr (3, [.ref n5, .ref n16, .ref n27, .int (0 : Int32)])), (n5, .inr (1, [.int (6 : Int32), .int (6 : Int32), .int (0 : Int32), .long (6 : Int64), .long (0 : Int64), .long (0 : Int64)])), (n16, .inr (10, [.ref u20.1, .ref u20.2.1, .int (0 : Int32), .ref u20.2.2.1, .ref u20.2.2.2])), (u20.1, .inl (g 0, 64, .inl (fun _ => 0))), (u20.2.1, .inl (g 0, 8, .inl (fun _ => 0))), (u20.2.2.1, .inl (g 0, 64, .inl (fun _ => 0))), (u20.2.2.2, .inl (g 2, 64, .inl (fun _ => 0))), (n27, .inr (8, [.ref u31.1, .ref u31.2.1, .ref u31.2.2, .int (0 : Int32)])), (u31.1, .inl (g 0, 6, .inl (fun _ => 0))), (u31.2.1, .inl (g 0, 6, .inl (fun _ => 0))), (u31.2.2, .inl (g 2, 6, .inl (fun _ => 0)))] := hw
  exact ret_v (n5, n16, u20.1, u20.2.1, u20.2.2.1, u20.2.2.2, n27, u31.1, u31.2.1, u31.2.2) F hret hlk hw (Nat.le_of_ble_eq_true rfl) (Nat.le_of_ble_eq_true rfl) dX3_init_42
end CONS
