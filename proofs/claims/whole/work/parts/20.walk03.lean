section WALK
variable {p : Program} {l : Launch} {e : Env} {s : State} {m : MethodId} {args : Array Value} {below : List Frame} {meth : Method} {c : Code} {dd : va_G} {g : Nat → ClassId} {mv : Nat} {A : Nat → Prop}
set_option maxHeartbeats 4000000 in
set_option maxRecDepth 100000 in
theorem c_X7_look (l : Launch) (dd : va_G) (g : Nat → ClassId) (mv : Nat) (q_t : Nat) (q_p1 : Nat) (o_t_chain : Value) (t_doors : Int64) (t_most : Int32) (t_best : Int32) (t_row : Int32) (p1_places : Int32) (p1_deep : Int32) (p1_turn : Int32) (p1_wheel : Int64) (p1_leaks : Int64) (p1_wants : Int64) (a2 : Int64) (a3 : Int64) (a4 : Int64) (a5 : Int32) (z : Int64 × Int32 × Int32 × Int32) (hr : f_X7_look p1_places p1_deep p1_wants a2 a3 a4 a5 = some z) (sz : Nat) : Met l yX7_look (.code yX7_look cX7_look 9 none :: WS) (rmH 24 0 0) (va_Pc [.ref q_t, .ref q_p1, .long a2, .long a3, .long a4, .int a5] (PW dd g mv (w_X7_look g q_t q_p1 o_t_chain t_doors t_most t_best t_row p1_places p1_deep p1_turn p1_wheel p1_leaks p1_wants) sz)) (Qo dd g none (fun u : Unit => (w_X7_look g q_t q_p1 ((.ref q_p1)) z.1 z.2.1 z.2.2.1 z.2.2.2 p1_places p1_deep p1_turn p1_wheel p1_leaks p1_wants)) (va_A (w_X7_look g q_t q_p1 o_t_chain t_doors t_most t_best t_row p1_places p1_deep p1_turn p1_wheel p1_leaks p1_wants) sz)) 0 0 (va_A (w_X7_look g q_t q_p1 o_t_chain t_doors t_most t_best t_row p1_places p1_deep p1_turn p1_wheel p1_leaks p1_wants) sz) := by
  refine Met_intro (by decide) (Nat.le_of_ble_eq_true rfl) ?_
  intro p e s m below meth c A ls F hret hlk hin hw hl
  replace hl : lv_has ls 9 [(0, .ref q_t), (1, .ref q_p1), (2, .long a2), (4, .long a3), (6, .long a4), (8, .int a5)] := hl
  refine lv_aload_n F.1 F.2.1 dX7_look_0 rfl (lv_at hl 0 rfl) ?_
  refine lv_aload_n F.1 F.2.1 dX7_look_1 rfl (lv_at hl 1 rfl) ?_
  refine pf_X7_9 F hw 0 rfl (Nat.le_of_ble_eq_true rfl) dX7_look_2 (fun H locs hw => ?_)
  replace hw : Wd dd g mv A s H locs (w_X7_look g q_t q_p1 ((.ref q_p1)) t_doors t_most t_best t_row p1_places p1_deep p1_turn p1_wheel p1_leaks p1_wants) := hw
  refine lv_aload_n F.1 F.2.1 dX7_look_5 rfl (lv_at hl 0 rfl) ?_
  refine lv_lload F.1 F.2.1 dX7_look_6 (lv_at hl 4 rfl) ?_
  refine pf_X7_15 F hw 0 rfl (Nat.le_of_ble_eq_true rfl) dX7_look_8 (fun H locs hw => ?_)
  replace hw : Wd dd g mv A s H locs (w_X7_look g q_t q_p1 ((.ref q_p1)) a4 t_most t_best t_row p1_places p1_deep p1_turn p1_wheel p1_leaks p1_wants) := hw
  refine lv_aload_n F.1 F.2.1 dX7_look_11 rfl (lv_at hl 0 rfl) ?_
  refine lv_iload F.1 F.2.1 dX7_look_12 (lv_at hl 5 rfl) ?_
  refine pf_X7_19 F hw 0 rfl (Nat.le_of_ble_eq_true rfl) dX7_look_14 (fun H locs hw => ?_)
  replace hw : Wd dd g mv A s H locs (w_X7_look g q_t q_p1 ((.ref q_p1)) a4 a5 t_best t_row p1_places p1_deep p1_turn p1_wheel p1_leaks p1_wants) := hw
  refine lv_aload_n F.1 F.2.1 dX7_look_17 rfl (lv_at hl 0 rfl) ?_
  refine lv_bipush (v := -6) F.1 F.2.1 dX7_look_18 (by decide) ?_
  refine pf_X7_23 F hw 0 rfl (Nat.le_of_ble_eq_true rfl) dX7_look_20 (fun H locs hw => ?_)
  replace hw : Wd dd g mv A s H locs (w_X7_look g q_t q_p1 ((.ref q_p1)) a4 a5 ((-6 : Int32)) t_row p1_places p1_deep p1_turn p1_wheel p1_leaks p1_wants) := hw
  refine lv_aload_n F.1 F.2.1 dX7_look_23 rfl (lv_at hl 0 rfl) ?_
  refine lv_iconst (v := 0) F.1 F.2.1 dX7_look_24 (by decide) ?_
  refine pf_X7_26 F hw 0 rfl (Nat.le_of_ble_eq_true rfl) dX7_look_25 (fun H locs hw => ?_)
  replace hw : Wd dd g mv A s H locs (w_X7_look g q_t q_p1 ((.ref q_p1)) a4 a5 ((-6 : Int32)) ((0 : Int32)) p1_places p1_deep p1_turn p1_wheel p1_leaks p1_wants) := hw
  refine lv_aload_n F.1 F.2.1 dX7_look_28 rfl (lv_at hl 0 rfl) ?_
  refine lv_lload_n F.1 F.2.1 dX7_look_29 rfl (lv_at hl 2 rfl) ?_
  refine lv_lload F.1 F.2.1 dX7_look_30 (lv_at hl 3 rfl) ?_
  obtain ⟨z1, hz1, hr⟩ := Option.bind_eq_some_iff.mp hr
  refine call_o (wr := []) (run_V (As := [.long a2, .long a3]) (rest := []) F k_X7_29 (c_X7_canAll l dd g mv q_t q_p1 a4 a5 ((-6 : Int32)) ((0 : Int32)) p1_places p1_deep p1_turn p1_wheel p1_leaks p1_wants a2 a3 z1 hz1 _) hw [0, 1] (by decide) rfl (ci := 7) rfl rfl rfl rfl hl.1 rfl (Nat.le_of_ble_eq_true rfl) dX7_look_32 ⟨Nat.le_of_ble_eq_true rfl, Nat.le_of_ble_eq_true rfl⟩ ⟨Nat.le_of_ble_eq_true rfl, Nat.le_of_ble_eq_true rfl⟩) hw [0, 1] [] rfl rfl (by decide) (by decide) (fun u2 H locs hw => ?_)
  replace hw : Wd dd g mv A s H locs (w_X7_look g q_t q_p1 ((.ref q_p1)) a4 a5 ((-6 : Int32)) ((0 : Int32)) p1_places p1_deep p1_turn p1_wheel p1_leaks p1_wants) := hw.sub [0, 1] (by decide) rfl
  refine W.eq (g2 := F0 m 35 ls (.int z1 :: [])) rfl ?_
  refine lv_if_eq (tgt := 47) F.1 F.2.1 dX7_look_35 (by decide) (fun hc3 => ?_) (fun hc3 => ?_)
  · replace hr := (if_pos hc3).symm.trans hr
    cases hr
    exact ret_v () F hret hlk hw (Nat.le_refl _) (Nat.le_refl _) dX7_look_47
  · replace hr := (if_neg hc3).symm.trans hr
    refine lv_aload_n F.1 F.2.1 dX7_look_38 rfl (lv_at hl 0 rfl) ?_
    refine lv_lload_n F.1 F.2.1 dX7_look_39 rfl (lv_at hl 2 rfl) ?_
    refine lv_lload F.1 F.2.1 dX7_look_40 (lv_at hl 3 rfl) ?_
    refine lv_iconst (v := 0) F.1 F.2.1 dX7_look_42 (by decide) ?_
    refine lv_iconst (v := 0) F.1 F.2.1 dX7_look_43 (by decide) ?_
    obtain ⟨z4, hz4, hr⟩ := Option.bind_eq_some_iff.mp hr
    refine call_o (wr := []) (run_S (As := [.ref q_t, .long a2, .long a3, .int (0 : Int32), .int (0 : Int32)]) (rest := []) F k_X7_33 (c_X7_seekOn l dd g mv 20 q_t q_p1 a4 a5 ((-6 : Int32)) ((0 : Int32)) p1_places p1_deep p1_turn p1_wheel p1_leaks p1_wants a2 a3 ((0 : Int32)) ((0 : Int32)) z4 hz4 _) hw [0, 1] (by decide) rfl rfl hl.1 rfl (Nat.le_of_ble_eq_true rfl) dX7_look_44 ⟨Nat.le_of_ble_eq_true rfl, Nat.le_of_ble_eq_true rfl⟩ ⟨Nat.le_of_ble_eq_true rfl, Nat.le_of_ble_eq_true rfl⟩) hw [0, 1] [] rfl rfl (by decide) (by decide) (fun u5 H locs hw => ?_)
    replace hw : Wd dd g mv A s H locs (w_X7_look g q_t q_p1 ((.ref q_p1)) a4 z4.1 z4.2.1 z4.2.2 p1_places p1_deep p1_turn p1_wheel p1_leaks p1_wants) := hw.sub [0, 1] (by decide) rfl
    cases hr
    exact ret_v () F hret hlk hw (Nat.le_refl _) (Nat.le_refl _) dX7_look_47
set_option maxHeartbeats 4000000 in
set_option maxRecDepth 100000 in
theorem b_X2_hangOn_39 {q_p1 q_p1_chain q_p1_seek q_p1_order q_p1_bestOrder : Nat} {d : Nat} {z : Int32 × Int32 × Int64 × Int32 × Int32 × Int32 × (Nat → Int32) × (Nat → Int32)} (F : Fx p m c cX2_hangOn 8 s args RX2) (hret : meth.sig.returnType = none) (hlk : meth.locks = false) {rc : Int64 → Int32 → Int32 → Int32 → Int32 → Int32 → Int64 → Int64 → Int64 → Int32 → Int32 → Int32 → (Nat → Int32) → (Nat → Int32) → Int32 → Int32 → Int64 → Option (Int32 × Int32 × Int64 × Int32 × Int32 × Int32 × (Nat → Int32) × (Nat → Int32))} (hrc : ∀ (q_p1 : Nat) (q_p1_chain : Nat) (q_p1_seek : Nat) (q_p1_order : Nat) (q_p1_bestOrder : Nat) (o_p1_seek_chain : Value) (p1_wheel : Int64) (p1_most : Int32) (p1_best : Int32) (p1_chain_places : Int32) (p1_chain_deep : Int32) (p1_chain_turn : Int32) (p1_chain_wheel : Int64) (p1_chain_leaks : Int64) (p1_chain_wants : Int64) (p1_seek_doors : Int64) (p1_seek_most : Int32) (p1_seek_best : Int32) (p1_seek_row : Int32) (p1_order : Nat → Int32) (p1_bestOrder : Nat → Int32) (a2 : Int32) (a3 : Int32) (a4 : Int64) (z : Int32 × Int32 × Int64 × Int32 × Int32 × Int32 × (Nat → Int32) × (Nat → Int32)), rc p1_wheel p1_most p1_best p1_chain_places p1_chain_deep p1_chain_turn p1_chain_leaks p1_chain_wants p1_seek_doors p1_seek_most p1_seek_best p1_seek_row p1_order p1_bestOrder a2 a3 a4 = some z → ∀ (sz : Nat), Met l yX2_hangOn (.code yX2_hangOn cX2_hangOn 8 none :: WS) (rmH (25 + d) 0 0) (va_Pc [.ref q_p1, .int a2, .int a3, .long a4] (PW dd g mv (w_X2_hangOn g q_p1 q_p1_chain q_p1_seek q_p1_order q_p1_bestOrder o_p1_seek_chain p1_wheel p1_most p1_best p1_chain_places p1_chain_deep p1_chain_turn p1_chain_wheel p1_chain_leaks p1_chain_wants p1_seek_doors p1_seek_most p1_seek_best p1_seek_row p1_order p1_bestOrder) sz)) (Qo dd g none (fun u : Value => (w_X2_hangOn g q_p1 q_p1_chain q_p1_seek q_p1_order q_p1_bestOrder u p1_wheel z.1 z.2.1 p1_chain_places p1_chain_deep p1_chain_turn p1_chain_wheel p1_chain_leaks p1_chain_wants z.2.2.1 z.2.2.2.1 z.2.2.2.2.1 z.2.2.2.2.2.1 z.2.2.2.2.2.2.1 z.2.2.2.2.2.2.2)) (va_A (w_X2_hangOn g q_p1 q_p1_chain q_p1_seek q_p1_order q_p1_bestOrder o_p1_seek_chain p1_wheel p1_most p1_best p1_chain_places p1_chain_deep p1_chain_turn p1_chain_wheel p1_chain_leaks p1_chain_wants p1_seek_doors p1_seek_most p1_seek_best p1_seek_row p1_order p1_bestOrder) sz)) 0 0 (va_A (w_X2_hangOn g q_p1 q_p1_chain q_p1_seek q_p1_order q_p1_bestOrder o_p1_seek_chain p1_wheel p1_most p1_best p1_chain_places p1_chain_deep p1_chain_turn p1_chain_wheel p1_chain_leaks p1_chain_wants p1_seek_doors p1_seek_most p1_seek_best p1_seek_row p1_order p1_bestOrder) sz)) : ∀ {x3 : Int64} {p1_wheel : Int64} {p1_most : Int32} {p1_best : Int32} {p1_chain_places : Int32} {p1_chain_deep : Int32} {p1_chain_wants : Int64} {p1_order : Nat → Int32} {p1_bestOrder : Nat → Int32} {p1_chain_turn : Int32} {p1_chain_wheel : Int64} {p1_chain_leaks : Int64} {p1_seek_doors : Int64} {p1_seek_most : Int32} {p1_seek_best : Int32} {p1_seek_row : Int32} {o_p1_seek_chain : Value} {H : Heap} {locs : List Loc} {ls : Array Slot}, f_X2_hangOn_39 rc  x3 p1_wheel p1_most p1_best p1_chain_places p1_chain_deep p1_chain_wants p1_order p1_bestOrder = some z → Wd dd g mv A s H locs (w_X2_hangOn g q_p1 q_p1_chain q_p1_seek q_p1_order q_p1_bestOrder o_p1_seek_chain p1_wheel p1_most p1_best p1_chain_places p1_chain_deep p1_chain_turn p1_chain_wheel p1_chain_leaks p1_chain_wants p1_seek_doors p1_seek_most p1_seek_best p1_seek_row p1_order p1_bestOrder) → lv_has ls 8 [(0, .ref q_p1), (3, .long x3)] → W p l e (rmH (25 + (d + 1)) 0 0) s m args below meth c H locs 0 0 (MQ below (Qo dd g none (fun u : Value => (w_X2_hangOn g q_p1 q_p1_chain q_p1_seek q_p1_order q_p1_bestOrder u p1_wheel z.1 z.2.1 p1_chain_places p1_chain_deep p1_chain_turn p1_chain_wheel p1_chain_leaks p1_chain_wants z.2.2.1 z.2.2.2.1 z.2.2.2.2.1 z.2.2.2.2.2.1 z.2.2.2.2.2.2.1 z.2.2.2.2.2.2.2)) A) args s 0 0 A) (F0 m 39 ls []) := by
  intro x3 p1_wheel p1_most p1_best p1_chain_places p1_chain_deep p1_chain_wants p1_order p1_bestOrder p1_chain_turn p1_chain_wheel p1_chain_leaks p1_seek_doors p1_seek_most p1_seek_best p1_seek_row o_p1_seek_chain H locs ls hr hw hl
  refine lv_aload_n F.1 F.2.1 dX2_hangOn_39 rfl (lv_at hl 0 rfl) ?_
  refine gf_X2_22 F hw 0 rfl rfl dX2_hangOn_40 ?_
  refine lv_aload_n F.1 F.2.1 dX2_hangOn_43 rfl (lv_at hl 0 rfl) ?_
  refine gf_X2_18 F hw 0 rfl rfl dX2_hangOn_44 ?_
  refine lv_aload_n F.1 F.2.1 dX2_hangOn_47 rfl (lv_at hl 0 rfl) ?_
  refine gf_X2_26 F hw 0 rfl rfl dX2_hangOn_48 ?_
  refine lv_lload_n F.1 F.2.1 dX2_hangOn_51 rfl (lv_at hl 1 rfl) ?_
  refine lv_ldc2 F.1 F.2.1 F.2.2.2.1 (F.2.2.2.2 _ cl_X2_40) dX2_hangOn_52 ?_
  refine lv_aload_n F.1 F.2.1 dX2_hangOn_55 rfl (lv_at hl 0 rfl) ?_
  refine gf_X2_30 F hw 0 rfl rfl dX2_hangOn_56 ?_
  obtain ⟨z1, hz1, hr⟩ := Option.bind_eq_some_iff.mp hr
  refine call_o (wr := [(q_p1, .inr (2, [.ref q_p1_order, .ref q_p1_bestOrder, .ref q_p1_chain, .ref q_p1_seek, .long p1_wheel, .int p1_most, .int p1_best])), (q_p1_order, .inl (g 0, 6, .inl p1_order)), (q_p1_bestOrder, .inl (g 0, 6, .inl p1_bestOrder))]) (run_V (As := [.ref q_p1_chain, .long p1_wheel, .long x3, .long (18159675916816 : Int64), .int p1_most]) (rest := []) F k_X2_52 (c_X7_look l dd g mv q_p1_seek q_p1_chain o_p1_seek_chain p1_seek_doors p1_seek_most p1_seek_best p1_seek_row p1_chain_places p1_chain_deep p1_chain_turn p1_chain_wheel p1_chain_leaks p1_chain_wants p1_wheel x3 ((18159675916816 : Int64)) p1_most z1 hz1 _) hw [2, 1] (by decide) rfl (ci := 7) rfl rfl rfl rfl hl.1 rfl (Nat.le_of_ble_eq_true rfl) dX2_hangOn_59 (by refine ⟨?_, ?_⟩ <;> simp only [rmH] <;> omega) ⟨Nat.zero_le _, Nat.zero_le _⟩) hw [2, 1] [0, 3, 4] rfl rfl (by decide) (by decide) (fun u2 H locs hw => ?_)
  replace hw : Wd dd g mv A s H locs (w_X2_hangOn g q_p1 q_p1_chain q_p1_seek q_p1_order q_p1_bestOrder ((.ref q_p1_chain)) p1_wheel p1_most p1_best p1_chain_places p1_chain_deep p1_chain_turn p1_chain_wheel p1_chain_leaks p1_chain_wants z1.1 z1.2.1 z1.2.2.1 z1.2.2.2 p1_order p1_bestOrder) := hw.sub [0, 4, 3, 1, 2] (by decide) rfl
  refine lv_aload_n F.1 F.2.1 dX2_hangOn_62 rfl (lv_at hl 0 rfl) ?_
  obtain ⟨z3, hz3, hr⟩ := Option.bind_eq_some_iff.mp hr
  refine call_o (wr := [(q_p1_chain, .inr (1, [.int p1_chain_places, .int p1_chain_deep, .int p1_chain_turn, .long p1_chain_wheel, .long p1_chain_leaks, .long p1_chain_wants]))]) (run_V (As := []) (rest := []) F k_X2_58 (c_X2_keepBetter l dd g mv q_p1 q_p1_seek q_p1_order q_p1_bestOrder ((.ref q_p1_chain)) ((.ref q_p1_chain)) p1_wheel p1_most p1_best z1.1 z1.2.1 z1.2.2.1 z1.2.2.2 p1_order p1_bestOrder z3 hz3 _) hw [0, 2, 3, 4] (by decide) rfl (ci := 2) rfl rfl rfl rfl hl.1 rfl (Nat.le_of_ble_eq_true rfl) dX2_hangOn_63 (by refine ⟨?_, ?_⟩ <;> simp only [rmH] <;> omega) ⟨Nat.zero_le _, Nat.zero_le _⟩) hw [0, 2, 3, 4] [1] rfl rfl (by decide) (by decide) (fun u4 H locs hw => ?_)
  replace hw : Wd dd g mv A s H locs (w_X2_hangOn g q_p1 q_p1_chain q_p1_seek q_p1_order q_p1_bestOrder ((.ref q_p1_chain)) p1_wheel z3.1 z3.2.1 p1_chain_places p1_chain_deep p1_chain_turn p1_chain_wheel p1_chain_leaks p1_chain_wants z1.1 z1.2.1 z1.2.2.1 z1.2.2.2 p1_order z3.2.2) := hw.sub [1, 0, 2, 3, 4] (by decide) rfl
  cases hr
  exact ret_v ((.ref q_p1_chain)) F hret hlk hw (Nat.le_refl _) (Nat.le_refl _) dX2_hangOn_66
set_option maxHeartbeats 4000000 in
set_option maxRecDepth 100000 in
theorem b_X2_hangOn_139 {q_p1 q_p1_chain q_p1_seek q_p1_order q_p1_bestOrder : Nat} {d : Nat} {z : Int32 × Int32 × Int64 × Int32 × Int32 × Int32 × (Nat → Int32) × (Nat → Int32)} (F : Fx p m c cX2_hangOn 8 s args RX2) (hret : meth.sig.returnType = none) (hlk : meth.locks = false) {rc : Int64 → Int32 → Int32 → Int32 → Int32 → Int32 → Int64 → Int64 → Int64 → Int32 → Int32 → Int32 → (Nat → Int32) → (Nat → Int32) → Int32 → Int32 → Int64 → Option (Int32 × Int32 × Int64 × Int32 × Int32 × Int32 × (Nat → Int32) × (Nat → Int32))} (hrc : ∀ (q_p1 : Nat) (q_p1_chain : Nat) (q_p1_seek : Nat) (q_p1_order : Nat) (q_p1_bestOrder : Nat) (o_p1_seek_chain : Value) (p1_wheel : Int64) (p1_most : Int32) (p1_best : Int32) (p1_chain_places : Int32) (p1_chain_deep : Int32) (p1_chain_turn : Int32) (p1_chain_wheel : Int64) (p1_chain_leaks : Int64) (p1_chain_wants : Int64) (p1_seek_doors : Int64) (p1_seek_most : Int32) (p1_seek_best : Int32) (p1_seek_row : Int32) (p1_order : Nat → Int32) (p1_bestOrder : Nat → Int32) (a2 : Int32) (a3 : Int32) (a4 : Int64) (z : Int32 × Int32 × Int64 × Int32 × Int32 × Int32 × (Nat → Int32) × (Nat → Int32)), rc p1_wheel p1_most p1_best p1_chain_places p1_chain_deep p1_chain_turn p1_chain_leaks p1_chain_wants p1_seek_doors p1_seek_most p1_seek_best p1_seek_row p1_order p1_bestOrder a2 a3 a4 = some z → ∀ (sz : Nat), Met l yX2_hangOn (.code yX2_hangOn cX2_hangOn 8 none :: WS) (rmH (25 + d) 0 0) (va_Pc [.ref q_p1, .int a2, .int a3, .long a4] (PW dd g mv (w_X2_hangOn g q_p1 q_p1_chain q_p1_seek q_p1_order q_p1_bestOrder o_p1_seek_chain p1_wheel p1_most p1_best p1_chain_places p1_chain_deep p1_chain_turn p1_chain_wheel p1_chain_leaks p1_chain_wants p1_seek_doors p1_seek_most p1_seek_best p1_seek_row p1_order p1_bestOrder) sz)) (Qo dd g none (fun u : Value => (w_X2_hangOn g q_p1 q_p1_chain q_p1_seek q_p1_order q_p1_bestOrder u p1_wheel z.1 z.2.1 p1_chain_places p1_chain_deep p1_chain_turn p1_chain_wheel p1_chain_leaks p1_chain_wants z.2.2.1 z.2.2.2.1 z.2.2.2.2.1 z.2.2.2.2.2.1 z.2.2.2.2.2.2.1 z.2.2.2.2.2.2.2)) (va_A (w_X2_hangOn g q_p1 q_p1_chain q_p1_seek q_p1_order q_p1_bestOrder o_p1_seek_chain p1_wheel p1_most p1_best p1_chain_places p1_chain_deep p1_chain_turn p1_chain_wheel p1_chain_leaks p1_chain_wants p1_seek_doors p1_seek_most p1_seek_best p1_seek_row p1_order p1_bestOrder) sz)) 0 0 (va_A (w_X2_hangOn g q_p1 q_p1_chain q_p1_seek q_p1_order q_p1_bestOrder o_p1_seek_chain p1_wheel p1_most p1_best p1_chain_places p1_chain_deep p1_chain_turn p1_chain_wheel p1_chain_leaks p1_chain_wants p1_seek_doors p1_seek_most p1_seek_best p1_seek_row p1_order p1_bestOrder) sz)) {k70 : Int32 → Int32 → Int64 → Int32 → Int64 → Int32 → Int32 → Int32 → Int32 → Int32 → Int64 → Int64 → Int64 → Int32 → Int32 → Int32 → (Nat → Int32) → (Nat → Int32) → Option (Int32 × Int32 × Int64 × Int32 × Int32 × Int32 × (Nat → Int32) × (Nat → Int32))} (hk70 : ∀ {x1 : Int32} {x2 : Int32} {x3 : Int64} {x5 : Int32} {p1_wheel : Int64} {p1_most : Int32} {p1_best : Int32} {p1_chain_places : Int32} {p1_chain_deep : Int32} {p1_chain_turn : Int32} {p1_chain_leaks : Int64} {p1_chain_wants : Int64} {p1_seek_doors : Int64} {p1_seek_most : Int32} {p1_seek_best : Int32} {p1_seek_row : Int32} {p1_order : Nat → Int32} {p1_bestOrder : Nat → Int32} {p1_chain_wheel : Int64} {o_p1_seek_chain : Value} {H : Heap} {locs : List Loc} {ls : Array Slot}, k70 x1 x2 x3 x5 p1_wheel p1_most p1_best p1_chain_places p1_chain_deep p1_chain_turn p1_chain_leaks p1_chain_wants p1_seek_doors p1_seek_most p1_seek_best p1_seek_row p1_order p1_bestOrder = some z → Wd dd g mv A s H locs (w_X2_hangOn g q_p1 q_p1_chain q_p1_seek q_p1_order q_p1_bestOrder o_p1_seek_chain p1_wheel p1_most p1_best p1_chain_places p1_chain_deep p1_chain_turn p1_chain_wheel p1_chain_leaks p1_chain_wants p1_seek_doors p1_seek_most p1_seek_best p1_seek_row p1_order p1_bestOrder) → lv_has ls 8 [(0, .ref q_p1), (1, .int x1), (2, .int x2), (3, .long x3), (5, .int x5)] → W p l e (rmH (25 + (d + 1)) 0 0) s m args below meth c H locs 0 0 (MQ below (Qo dd g none (fun u : Value => (w_X2_hangOn g q_p1 q_p1_chain q_p1_seek q_p1_order q_p1_bestOrder u p1_wheel z.1 z.2.1 p1_chain_places p1_chain_deep p1_chain_turn p1_chain_wheel p1_chain_leaks p1_chain_wants z.2.2.1 z.2.2.2.1 z.2.2.2.2.1 z.2.2.2.2.2.1 z.2.2.2.2.2.2.1 z.2.2.2.2.2.2.2)) A) args s 0 0 A) (F0 m 70 ls [])) : ∀ {x1 : Int32} {x2 : Int32} {x3 : Int64} {x5 : Int32} {p1_wheel : Int64} {p1_most : Int32} {p1_best : Int32} {p1_chain_places : Int32} {p1_chain_deep : Int32} {p1_chain_turn : Int32} {p1_chain_leaks : Int64} {p1_chain_wants : Int64} {p1_seek_doors : Int64} {p1_seek_most : Int32} {p1_seek_best : Int32} {p1_seek_row : Int32} {p1_order : Nat → Int32} {p1_bestOrder : Nat → Int32} {p1_chain_wheel : Int64} {o_p1_seek_chain : Value} {H : Heap} {locs : List Loc} {ls : Array Slot}, f_X2_hangOn_139 rc k70 x1 x2 x3 x5 p1_wheel p1_most p1_best p1_chain_places p1_chain_deep p1_chain_turn p1_chain_leaks p1_chain_wants p1_seek_doors p1_seek_most p1_seek_best p1_seek_row p1_order p1_bestOrder = some z → Wd dd g mv A s H locs (w_X2_hangOn g q_p1 q_p1_chain q_p1_seek q_p1_order q_p1_bestOrder o_p1_seek_chain p1_wheel p1_most p1_best p1_chain_places p1_chain_deep p1_chain_turn p1_chain_wheel p1_chain_leaks p1_chain_wants p1_seek_doors p1_seek_most p1_seek_best p1_seek_row p1_order p1_bestOrder) → lv_has ls 8 [(0, .ref q_p1), (1, .int x1), (2, .int x2), (3, .long x3), (5, .int x5)] → W p l e (rmH (25 + (d + 1)) 0 0) s m args below meth c H locs 0 0 (MQ below (Qo dd g none (fun u : Value => (w_X2_hangOn g q_p1 q_p1_chain q_p1_seek q_p1_order q_p1_bestOrder u p1_wheel z.1 z.2.1 p1_chain_places p1_chain_deep p1_chain_turn p1_chain_wheel p1_chain_leaks p1_chain_wants z.2.2.1 z.2.2.2.1 z.2.2.2.2.1 z.2.2.2.2.2.1 z.2.2.2.2.2.2.1 z.2.2.2.2.2.2.2)) A) args s 0 0 A) (F0 m 139 ls []) := by
  intro x1 x2 x3 x5 p1_wheel p1_most p1_best p1_chain_places p1_chain_deep p1_chain_turn p1_chain_leaks p1_chain_wants p1_seek_doors p1_seek_most p1_seek_best p1_seek_row p1_order p1_bestOrder p1_chain_wheel o_p1_seek_chain H locs ls hr hw hl
  refine lv_iinc (v := (x5 + 1)) (lv' := [(5, .int (x5 + 1)), (0, .ref q_p1), (1, .int x1), (2, .int x2), (3, .long x3)]) F.1 F.2.1 dX2_hangOn_139 hl (k := 4) rfl rfl (by decide) rfl (fun ls hl => ?_)
  refine lv_goto (tgt := 70) F.1 F.2.1 dX2_hangOn_142 (by decide) ?_
  exact hk70 hr hw (lv_sub hl [1, 2, 3, 4, 0] rfl)
set_option maxHeartbeats 4000000 in
set_option maxRecDepth 100000 in
theorem b_X2_hangOn_70 {q_p1 q_p1_chain q_p1_seek q_p1_order q_p1_bestOrder : Nat} {d : Nat} {z : Int32 × Int32 × Int64 × Int32 × Int32 × Int32 × (Nat → Int32) × (Nat → Int32)} (F : Fx p m c cX2_hangOn 8 s args RX2) (hret : meth.sig.returnType = none) (hlk : meth.locks = false) {rc : Int64 → Int32 → Int32 → Int32 → Int32 → Int32 → Int64 → Int64 → Int64 → Int32 → Int32 → Int32 → (Nat → Int32) → (Nat → Int32) → Int32 → Int32 → Int64 → Option (Int32 × Int32 × Int64 × Int32 × Int32 × Int32 × (Nat → Int32) × (Nat → Int32))} (hrc : ∀ (q_p1 : Nat) (q_p1_chain : Nat) (q_p1_seek : Nat) (q_p1_order : Nat) (q_p1_bestOrder : Nat) (o_p1_seek_chain : Value) (p1_wheel : Int64) (p1_most : Int32) (p1_best : Int32) (p1_chain_places : Int32) (p1_chain_deep : Int32) (p1_chain_turn : Int32) (p1_chain_wheel : Int64) (p1_chain_leaks : Int64) (p1_chain_wants : Int64) (p1_seek_doors : Int64) (p1_seek_most : Int32) (p1_seek_best : Int32) (p1_seek_row : Int32) (p1_order : Nat → Int32) (p1_bestOrder : Nat → Int32) (a2 : Int32) (a3 : Int32) (a4 : Int64) (z : Int32 × Int32 × Int64 × Int32 × Int32 × Int32 × (Nat → Int32) × (Nat → Int32)), rc p1_wheel p1_most p1_best p1_chain_places p1_chain_deep p1_chain_turn p1_chain_leaks p1_chain_wants p1_seek_doors p1_seek_most p1_seek_best p1_seek_row p1_order p1_bestOrder a2 a3 a4 = some z → ∀ (sz : Nat), Met l yX2_hangOn (.code yX2_hangOn cX2_hangOn 8 none :: WS) (rmH (25 + d) 0 0) (va_Pc [.ref q_p1, .int a2, .int a3, .long a4] (PW dd g mv (w_X2_hangOn g q_p1 q_p1_chain q_p1_seek q_p1_order q_p1_bestOrder o_p1_seek_chain p1_wheel p1_most p1_best p1_chain_places p1_chain_deep p1_chain_turn p1_chain_wheel p1_chain_leaks p1_chain_wants p1_seek_doors p1_seek_most p1_seek_best p1_seek_row p1_order p1_bestOrder) sz)) (Qo dd g none (fun u : Value => (w_X2_hangOn g q_p1 q_p1_chain q_p1_seek q_p1_order q_p1_bestOrder u p1_wheel z.1 z.2.1 p1_chain_places p1_chain_deep p1_chain_turn p1_chain_wheel p1_chain_leaks p1_chain_wants z.2.2.1 z.2.2.2.1 z.2.2.2.2.1 z.2.2.2.2.2.1 z.2.2.2.2.2.2.1 z.2.2.2.2.2.2.2)) (va_A (w_X2_hangOn g q_p1 q_p1_chain q_p1_seek q_p1_order q_p1_bestOrder o_p1_seek_chain p1_wheel p1_most p1_best p1_chain_places p1_chain_deep p1_chain_turn p1_chain_wheel p1_chain_leaks p1_chain_wants p1_seek_doors p1_seek_most p1_seek_best p1_seek_row p1_order p1_bestOrder) sz)) 0 0 (va_A (w_X2_hangOn g q_p1 q_p1_chain q_p1_seek q_p1_order q_p1_bestOrder o_p1_seek_chain p1_wheel p1_most p1_best p1_chain_places p1_chain_deep p1_chain_turn p1_chain_wheel p1_chain_leaks p1_chain_wants p1_seek_doors p1_seek_most p1_seek_best p1_seek_row p1_order p1_bestOrder) sz)) : ∀ (n : Nat), ∀ {x1 : Int32} {x2 : Int32} {x3 : Int64} {x5 : Int32} {p1_wheel : Int64} {p1_most : Int32} {p1_best : Int32} {p1_chain_places : Int32} {p1_chain_deep : Int32} {p1_chain_turn : Int32} {p1_chain_leaks : Int64} {p1_chain_wants : Int64} {p1_seek_doors : Int64} {p1_seek_most : Int32} {p1_seek_best : Int32} {p1_seek_row : Int32} {p1_order : Nat → Int32} {p1_bestOrder : Nat → Int32} {p1_chain_wheel : Int64} {o_p1_seek_chain : Value} {H : Heap} {locs : List Loc} {ls : Array Slot}, f_X2_hangOn_70 rc  n x1 x2 x3 x5 p1_wheel p1_most p1_best p1_chain_places p1_chain_deep p1_chain_turn p1_chain_leaks p1_chain_wants p1_seek_doors p1_seek_most p1_seek_best p1_seek_row p1_order p1_bestOrder = some z → Wd dd g mv A s H locs (w_X2_hangOn g q_p1 q_p1_chain q_p1_seek q_p1_order q_p1_bestOrder o_p1_seek_chain p1_wheel p1_most p1_best p1_chain_places p1_chain_deep p1_chain_turn p1_chain_wheel p1_chain_leaks p1_chain_wants p1_seek_doors p1_seek_most p1_seek_best p1_seek_row p1_order p1_bestOrder) → lv_has ls 8 [(0, .ref q_p1), (1, .int x1), (2, .int x2), (3, .long x3), (5, .int x5)] → W p l e (rmH (25 + (d + 1)) 0 0) s m args below meth c H locs 0 0 (MQ below (Qo dd g none (fun u : Value => (w_X2_hangOn g q_p1 q_p1_chain q_p1_seek q_p1_order q_p1_bestOrder u p1_wheel z.1 z.2.1 p1_chain_places p1_chain_deep p1_chain_turn p1_chain_wheel p1_chain_leaks p1_chain_wants z.2.2.1 z.2.2.2.1 z.2.2.2.2.1 z.2.2.2.2.2.1 z.2.2.2.2.2.2.1 z.2.2.2.2.2.2.2)) A) args s 0 0 A) (F0 m 70 ls []) := by
  intro n
  induction n with
  | zero =>
    intros
    rename_i hr _ _
    cases hr
  | succ n ih =>
    intro x1 x2 x3 x5 p1_wheel p1_most p1_best p1_chain_places p1_chain_deep p1_chain_turn p1_chain_leaks p1_chain_wants p1_seek_doors p1_seek_most p1_seek_best p1_seek_row p1_order p1_bestOrder p1_chain_wheel o_p1_seek_chain H locs ls hr hw hl
    refine lv_iload F.1 F.2.1 dX2_hangOn_70 (lv_at hl 4 rfl) ?_
    refine lv_aload_n F.1 F.2.1 dX2_hangOn_72 rfl (lv_at hl 0 rfl) ?_
    refine gf_X2_18 F hw 0 rfl rfl dX2_hangOn_73 ?_
    refine gf_X2_49 F hw 1 rfl rfl dX2_hangOn_76 ?_
    refine lv_icmp_ge (tgt := 145) F.1 F.2.1 dX2_hangOn_79 (by decide) (fun hc5 => ?_) (fun hc5 => ?_)
    · replace hr := (if_pos hc5).symm.trans hr
      cases hr
      exact ret_v (o_p1_seek_chain) F hret hlk hw (Nat.le_refl _) (Nat.le_refl _) dX2_hangOn_145
    · replace hr := (if_neg hc5).symm.trans hr
      refine lv_iload_n F.1 F.2.1 dX2_hangOn_82 rfl (lv_at hl 2 rfl) ?_
      refine lv_iload F.1 F.2.1 dX2_hangOn_83 (lv_at hl 4 rfl) ?_
      refine lv_ishr F.1 F.2.1 dX2_hangOn_85 ?_
      refine lv_iconst (v := 1) F.1 F.2.1 dX2_hangOn_86 (by decide) ?_
      refine lv_iand F.1 F.2.1 dX2_hangOn_87 ?_
      refine lv_if_ne (tgt := 139) F.1 F.2.1 dX2_hangOn_88 (by decide) (fun hc6 => ?_) (fun hc6 => ?_)
      · replace hr := (if_neg hc6).symm.trans hr
        exact b_X2_hangOn_139 F hret hlk hrc (ih) hr hw (lv_sub hl [0, 1, 2, 3, 4] rfl)
      · replace hr := (if_pos hc6).symm.trans hr
        refine lv_aload_n F.1 F.2.1 dX2_hangOn_91 rfl (lv_at hl 0 rfl) ?_
        refine lv_iload F.1 F.2.1 dX2_hangOn_92 (lv_at hl 4 rfl) ?_
        refine lv_iload_n F.1 F.2.1 dX2_hangOn_94 rfl (lv_at hl 2 rfl) ?_
        obtain ⟨z7, hz7, hr⟩ := Option.bind_eq_some_iff.mp hr
        refine call_o (wr := [(q_p1_seek, .inr (7, [o_p1_seek_chain, .long p1_seek_doors, .int p1_seek_most, .int p1_seek_best, .int p1_seek_row])), (q_p1_order, .inl (g 0, 6, .inl p1_order)), (q_p1_bestOrder, .inl (g 0, 6, .inl p1_bestOrder))]) (run_V (As := [.int x5, .int x2]) (rest := []) F k_X2_61 (c_X2_isFirstOfItsLeak l dd g mv q_p1 q_p1_chain ((.ref q_p1_order)) ((.ref q_p1_bestOrder)) ((.ref q_p1_seek)) p1_wheel p1_most p1_best p1_chain_places p1_chain_deep p1_chain_turn p1_chain_wheel p1_chain_leaks p1_chain_wants x5 x2 z7 hz7 _) hw [0, 1] (by decide) rfl (ci := 2) rfl rfl rfl rfl hl.1 rfl (Nat.le_of_ble_eq_true rfl) dX2_hangOn_95 (by refine ⟨?_, ?_⟩ <;> simp only [rmH] <;> omega) ⟨Nat.zero_le _, Nat.zero_le _⟩) hw [0, 1] [2, 3, 4] rfl rfl (by decide) (by decide) (fun u8 H locs hw => ?_)
        replace hw : Wd dd g mv A s H locs (w_X2_hangOn g q_p1 q_p1_chain q_p1_seek q_p1_order q_p1_bestOrder o_p1_seek_chain p1_wheel p1_most p1_best p1_chain_places p1_chain_deep p1_chain_turn p1_chain_wheel p1_chain_leaks p1_chain_wants p1_seek_doors p1_seek_most p1_seek_best p1_seek_row p1_order p1_bestOrder) := hw.sub [3, 4, 0, 1, 2] (by decide) rfl
        refine W.eq (g2 := F0 m 98 ls (.int z7 :: [])) rfl ?_
        refine lv_if_eq (tgt := 139) F.1 F.2.1 dX2_hangOn_98 (by decide) (fun hc9 => ?_) (fun hc9 => ?_)
        · replace hr := (if_pos hc9).symm.trans hr
          exact b_X2_hangOn_139 F hret hlk hrc (ih) hr hw (lv_sub hl [0, 1, 2, 3, 4] rfl)
        · replace hr := (if_neg hc9).symm.trans hr
          refine lv_aload_n F.1 F.2.1 dX2_hangOn_101 rfl (lv_at hl 0 rfl) ?_
          refine gf_X2_9 F hw 0 rfl rfl dX2_hangOn_102 ?_
          refine lv_iload_n F.1 F.2.1 dX2_hangOn_105 rfl (lv_at hl 1 rfl) ?_
          refine lv_iload F.1 F.2.1 dX2_hangOn_106 (lv_at hl 4 rfl) ?_
          obtain ⟨hg10, hr⟩ := g_no hr
          refine aw_i F hw 3 rfl hg10 dX2_hangOn_108 (fun H locs hw => ?_)
          replace hw : Wd dd g mv A s H locs (w_X2_hangOn g q_p1 q_p1_chain q_p1_seek q_p1_order q_p1_bestOrder o_p1_seek_chain p1_wheel p1_most p1_best p1_chain_places p1_chain_deep p1_chain_turn p1_chain_wheel p1_chain_leaks p1_chain_wants p1_seek_doors p1_seek_most p1_seek_best p1_seek_row ((upd p1_order (x1).toNatClampNeg x5)) p1_bestOrder) := hw
          refine lv_aload_n F.1 F.2.1 dX2_hangOn_109 rfl (lv_at hl 0 rfl) ?_
          refine lv_iload F.1 F.2.1 dX2_hangOn_110 (lv_at hl 4 rfl) ?_
          obtain ⟨z11, hz11, hr⟩ := Option.bind_eq_some_iff.mp hr
          refine call_o (wr := [(q_p1_seek, .inr (7, [o_p1_seek_chain, .long p1_seek_doors, .int p1_seek_most, .int p1_seek_best, .int p1_seek_row])), (q_p1_order, .inl (g 0, 6, .inl ((upd p1_order (x1).toNatClampNeg x5)))), (q_p1_bestOrder, .inl (g 0, 6, .inl p1_bestOrder))]) (run_V (As := [.int x5]) (rest := []) F k_X2_65 (c_X2_leakOf l dd g mv q_p1 q_p1_chain ((.ref q_p1_order)) ((.ref q_p1_bestOrder)) ((.ref q_p1_seek)) p1_wheel p1_most p1_best p1_chain_places p1_chain_deep p1_chain_turn p1_chain_wheel p1_chain_leaks p1_chain_wants x5 z11 hz11 _) hw [0, 1] (by decide) rfl (ci := 2) rfl rfl rfl rfl hl.1 rfl (Nat.le_of_ble_eq_true rfl) dX2_hangOn_112 (by refine ⟨?_, ?_⟩ <;> simp only [rmH] <;> omega) ⟨Nat.zero_le _, Nat.zero_le _⟩) hw [0, 1] [2, 3, 4] rfl rfl (by decide) (by decide) (fun u12 H locs hw => ?_)
          replace hw : Wd dd g mv A s H locs (w_X2_hangOn g q_p1 q_p1_chain q_p1_seek q_p1_order q_p1_bestOrder o_p1_seek_chain p1_wheel p1_most p1_best p1_chain_places p1_chain_deep p1_chain_turn p1_chain_wheel p1_chain_leaks p1_chain_wants p1_seek_doors p1_seek_most p1_seek_best p1_seek_row ((upd p1_order (x1).toNatClampNeg x5)) p1_bestOrder) := hw.sub [3, 4, 0, 1, 2] (by decide) rfl
          refine W.eq (g2 := F0 m 115 ls (.int z11 :: [])) rfl ?_
          refine lv_i2l F.1 F.2.1 dX2_hangOn_115 rfl ?_
          refine lv_iconst (v := 5) F.1 F.2.1 dX2_hangOn_116 (by decide) ?_
          refine lv_iload_n F.1 F.2.1 dX2_hangOn_117 rfl (lv_at hl 1 rfl) ?_
          refine lv_imul F.1 F.2.1 dX2_hangOn_118 ?_
          refine lv_lshl F.1 F.2.1 dX2_hangOn_119 rfl ?_
          refine lv_lstore (lv' := [(6, .long (z11.toInt64 <<< ((((5 : Int32) * x1)).toInt64 &&& 63))), (0, .ref q_p1), (1, .int x1), (2, .int x2), (3, .long x3), (5, .int x5)]) F.1 F.2.1 dX2_hangOn_120 hl (by decide) rfl (fun ls hl => ?_)
          refine lv_aload_n F.1 F.2.1 dX2_hangOn_122 rfl (lv_at hl 1 rfl) ?_
          refine lv_iload_n F.1 F.2.1 dX2_hangOn_123 rfl (lv_at hl 2 rfl) ?_
          refine lv_iconst (v := 1) F.1 F.2.1 dX2_hangOn_124 (by decide) ?_
          refine lv_iadd F.1 F.2.1 dX2_hangOn_125 ?_
          refine lv_iload_n F.1 F.2.1 dX2_hangOn_126 rfl (lv_at hl 3 rfl) ?_
          refine lv_iconst (v := 1) F.1 F.2.1 dX2_hangOn_127 (by decide) ?_
          refine lv_iload F.1 F.2.1 dX2_hangOn_128 (lv_at hl 5 rfl) ?_
          refine lv_ishl F.1 F.2.1 dX2_hangOn_130 ?_
          refine lv_ior F.1 F.2.1 dX2_hangOn_131 ?_
          refine lv_lload_n F.1 F.2.1 dX2_hangOn_132 rfl (lv_at hl 4 rfl) ?_
          refine lv_lload F.1 F.2.1 dX2_hangOn_133 (lv_at hl 0 rfl) ?_
          refine lv_lor F.1 F.2.1 dX2_hangOn_135 ?_
          obtain ⟨z13, hz13, hr⟩ := Option.bind_eq_some_iff.mp hr
          refine call_o (wr := []) (run_S (As := [.ref q_p1, .int (x1 + (1 : Int32)), .int (x2 ||| ((1 : Int32) <<< (x5 &&& 31))), .long (x3 ||| (z11.toInt64 <<< ((((5 : Int32) * x1)).toInt64 &&& 63)))]) (rest := []) F k_X2_45 (hrc q_p1 q_p1_chain q_p1_seek q_p1_order q_p1_bestOrder o_p1_seek_chain p1_wheel p1_most p1_best p1_chain_places p1_chain_deep p1_chain_turn p1_chain_wheel p1_chain_leaks p1_chain_wants p1_seek_doors p1_seek_most p1_seek_best p1_seek_row ((upd p1_order (x1).toNatClampNeg x5)) p1_bestOrder ((x1 + (1 : Int32))) ((x2 ||| ((1 : Int32) <<< (x5 &&& 31)))) ((x3 ||| (z11.toInt64 <<< ((((5 : Int32) * x1)).toInt64 &&& 63)))) z13 hz13 _) hw [0, 1, 2, 3, 4] (by decide) rfl rfl hl.1 rfl (Nat.le_of_ble_eq_true rfl) dX2_hangOn_136 (by refine ⟨?_, ?_⟩ <;> simp only [rmH] <;> omega) ⟨Nat.zero_le _, Nat.zero_le _⟩) hw [0, 1, 2, 3, 4] [] rfl rfl (by decide) (by decide) (fun u14 H locs hw => ?_)
          replace hw : Wd dd g mv A s H locs (w_X2_hangOn g q_p1 q_p1_chain q_p1_seek q_p1_order q_p1_bestOrder u14 p1_wheel z13.1 z13.2.1 p1_chain_places p1_chain_deep p1_chain_turn p1_chain_wheel p1_chain_leaks p1_chain_wants z13.2.2.1 z13.2.2.2.1 z13.2.2.2.2.1 z13.2.2.2.2.2.1 z13.2.2.2.2.2.2.1 z13.2.2.2.2.2.2.2) := hw.sub [0, 1, 2, 3, 4] (by decide) rfl
          exact b_X2_hangOn_139 F hret hlk hrc (ih) hr hw (lv_sub hl [1, 2, 3, 4, 5] rfl)
set_option maxHeartbeats 4000000 in
set_option maxRecDepth 100000 in
theorem c_X2_hangOn (l : Launch) (dd : va_G) (g : Nat → ClassId) (mv : Nat) : ∀ (d : Nat) (q_p1 : Nat) (q_p1_chain : Nat) (q_p1_seek : Nat) (q_p1_order : Nat) (q_p1_bestOrder : Nat) (o_p1_seek_chain : Value) (p1_wheel : Int64) (p1_most : Int32) (p1_best : Int32) (p1_chain_places : Int32) (p1_chain_deep : Int32) (p1_chain_turn : Int32) (p1_chain_wheel : Int64) (p1_chain_leaks : Int64) (p1_chain_wants : Int64) (p1_seek_doors : Int64) (p1_seek_most : Int32) (p1_seek_best : Int32) (p1_seek_row : Int32) (p1_order : Nat → Int32) (p1_bestOrder : Nat → Int32) (a2 : Int32) (a3 : Int32) (a4 : Int64) (z : Int32 × Int32 × Int64 × Int32 × Int32 × Int32 × (Nat → Int32) × (Nat → Int32)), f_X2_hangOn d p1_wheel p1_most p1_best p1_chain_places p1_chain_deep p1_chain_turn p1_chain_leaks p1_chain_wants p1_seek_doors p1_seek_most p1_seek_best p1_seek_row p1_order p1_bestOrder a2 a3 a4 = some z → ∀ (sz : Nat), Met l yX2_hangOn (.code yX2_hangOn cX2_hangOn 8 none :: WS) (rmH (25 + d) 0 0) (va_Pc [.ref q_p1, .int a2, .int a3, .long a4] (PW dd g mv (w_X2_hangOn g q_p1 q_p1_chain q_p1_seek q_p1_order q_p1_bestOrder o_p1_seek_chain p1_wheel p1_most p1_best p1_chain_places p1_chain_deep p1_chain_turn p1_chain_wheel p1_chain_leaks p1_chain_wants p1_seek_doors p1_seek_most p1_seek_best p1_seek_row p1_order p1_bestOrder) sz)) (Qo dd g none (fun u : Value => (w_X2_hangOn g q_p1 q_p1_chain q_p1_seek q_p1_order q_p1_bestOrder u p1_wheel z.1 z.2.1 p1_chain_places p1_chain_deep p1_chain_turn p1_chain_wheel p1_chain_leaks p1_chain_wants z.2.2.1 z.2.2.2.1 z.2.2.2.2.1 z.2.2.2.2.2.1 z.2.2.2.2.2.2.1 z.2.2.2.2.2.2.2)) (va_A (w_X2_hangOn g q_p1 q_p1_chain q_p1_seek q_p1_order q_p1_bestOrder o_p1_seek_chain p1_wheel p1_most p1_best p1_chain_places p1_chain_deep p1_chain_turn p1_chain_wheel p1_chain_leaks p1_chain_wants p1_seek_doors p1_seek_most p1_seek_best p1_seek_row p1_order p1_bestOrder) sz)) 0 0 (va_A (w_X2_hangOn g q_p1 q_p1_chain q_p1_seek q_p1_order q_p1_bestOrder o_p1_seek_chain p1_wheel p1_most p1_best p1_chain_places p1_chain_deep p1_chain_turn p1_chain_wheel p1_chain_leaks p1_chain_wants p1_seek_doors p1_seek_most p1_seek_best p1_seek_row p1_order p1_bestOrder) sz) := by
  intro d
  induction d with
  | zero =>
    intros
    rename_i hr _
    cases hr
  | succ d hrc =>
    intro q_p1 q_p1_chain q_p1_seek q_p1_order q_p1_bestOrder o_p1_seek_chain p1_wheel p1_most p1_best p1_chain_places p1_chain_deep p1_chain_turn p1_chain_wheel p1_chain_leaks p1_chain_wants p1_seek_doors p1_seek_most p1_seek_best p1_seek_row p1_order p1_bestOrder a2 a3 a4 z hr sz
    refine Met_intro (by decide) (Nat.le_of_ble_eq_true rfl) ?_
    intro p e s m below meth c A ls F hret hlk hin hw hl
    replace hl : lv_has ls 8 [(0, .ref q_p1), (1, .int a2), (2, .int a3), (3, .long a4)] := hl
    refine lv_aload_n F.1 F.2.1 dX2_hangOn_0 rfl (lv_at hl 0 rfl) ?_
    refine gf_X2_18 F hw 0 rfl rfl dX2_hangOn_1 ?_
    refine lv_ifnull F.1 F.2.1 dX2_hangOn_4 ?_
    refine lv_aload_n F.1 F.2.1 dX2_hangOn_7 rfl (lv_at hl 0 rfl) ?_
    refine gf_X2_22 F hw 0 rfl rfl dX2_hangOn_8 ?_
    refine lv_ifnull F.1 F.2.1 dX2_hangOn_11 ?_
    refine lv_aload_n F.1 F.2.1 dX2_hangOn_14 rfl (lv_at hl 0 rfl) ?_
    refine gf_X2_30 F hw 0 rfl rfl dX2_hangOn_15 ?_
    refine lv_if_ge (tgt := 22) F.1 F.2.1 dX2_hangOn_18 (by decide) (fun hc15 => ?_) (fun hc15 => ?_)
    · replace hr := (if_pos hc15).symm.trans hr
      refine lv_iload_n F.1 F.2.1 dX2_hangOn_22 rfl (lv_at hl 1 rfl) ?_
      refine lv_aload_n F.1 F.2.1 dX2_hangOn_23 rfl (lv_at hl 0 rfl) ?_
      refine gf_X2_18 F hw 0 rfl rfl dX2_hangOn_24 ?_
      refine gf_X2_49 F hw 1 rfl rfl dX2_hangOn_27 ?_
      refine lv_icmp_ge (tgt := 39) F.1 F.2.1 dX2_hangOn_30 (by decide) (fun hc16 => ?_) (fun hc16 => ?_)
      · replace hr := (if_pos hc16).symm.trans hr
        exact b_X2_hangOn_39 F hret hlk hrc  hr hw (lv_sub hl [0, 3] rfl)
      · replace hr := (if_neg hc16).symm.trans hr
        refine lv_iload_n F.1 F.2.1 dX2_hangOn_33 rfl (lv_at hl 1 rfl) ?_
        refine lv_bipush (v := 6) F.1 F.2.1 dX2_hangOn_34 (by decide) ?_
        refine lv_icmp_lt (tgt := 67) F.1 F.2.1 dX2_hangOn_36 (by decide) (fun hc17 => ?_) (fun hc17 => ?_)
        · replace hr := (if_pos hc17).symm.trans hr
          refine lv_iconst (v := 0) F.1 F.2.1 dX2_hangOn_67 (by decide) ?_
          refine lv_istore (lv' := [(5, .int (0 : Int32)), (0, .ref q_p1), (1, .int a2), (2, .int a3), (3, .long a4)]) F.1 F.2.1 dX2_hangOn_68 hl (by decide) rfl (fun ls hl => ?_)
          exact b_X2_hangOn_70 F hret hlk hrc  fuel hr hw (lv_sub hl [1, 2, 3, 4, 0] rfl)
        · replace hr := (if_neg hc17).symm.trans hr
          exact b_X2_hangOn_39 F hret hlk hrc  hr hw (lv_sub hl [0, 3] rfl)
    · replace hr := (if_neg hc15).symm.trans hr
      cases hr
      exact ret_v (o_p1_seek_chain) F hret hlk hw (Nat.le_refl _) (Nat.le_refl _) dX2_hangOn_21
set_option maxHeartbeats 4000000 in
set_option maxRecDepth 100000 in
theorem c_X2_look (l : Launch) (dd : va_G) (g : Nat → ClassId) (mv : Nat) (q_t : Nat) (q_p1 : Nat) (q_p2 : Nat) (q_t_order : Nat) (q_t_bestOrder : Nat) (o_t_chain : Value) (o_t_seek : Value) (o_p2_chain : Value) (t_wheel : Int64) (t_most : Int32) (t_best : Int32) (p1_places : Int32) (p1_deep : Int32) (p1_turn : Int32) (p1_wheel : Int64) (p1_leaks : Int64) (p1_wants : Int64) (p2_doors : Int64) (p2_most : Int32) (p2_best : Int32) (p2_row : Int32) (t_order : Nat → Int32) (t_bestOrder : Nat → Int32) (z : Int64 × Int32 × Int32 × Int64 × Int32 × Int32 × Int32 × (Nat → Int32) × (Nat → Int32)) (hr : f_X2_look p1_places p1_deep p1_turn p1_wheel p1_leaks p1_wants p2_doors p2_most p2_best p2_row t_order t_bestOrder = some z) (sz : Nat) : Met l yX2_look (.code yX2_look cX2_look 3 none :: WS) (rmH 46 0 0) (va_Pc [.ref q_t, .ref q_p1, .ref q_p2] (PW dd g mv (w_X2_look g q_t q_p1 q_p2 q_t_order q_t_bestOrder o_t_chain o_t_seek o_p2_chain t_wheel t_most t_best p1_places p1_deep p1_turn p1_wheel p1_leaks p1_wants p2_doors p2_most p2_best p2_row t_order t_bestOrder) sz)) (Qo dd g none (fun u : Value => (w_X2_look g q_t q_p1 q_p2 q_t_order q_t_bestOrder ((.ref q_p1)) ((.ref q_p2)) u z.1 z.2.1 z.2.2.1 p1_places p1_deep p1_turn p1_wheel p1_leaks p1_wants z.2.2.2.1 z.2.2.2.2.1 z.2.2.2.2.2.1 z.2.2.2.2.2.2.1 z.2.2.2.2.2.2.2.1 z.2.2.2.2.2.2.2.2)) (va_A (w_X2_look g q_t q_p1 q_p2 q_t_order q_t_bestOrder o_t_chain o_t_seek o_p2_chain t_wheel t_most t_best p1_places p1_deep p1_turn p1_wheel p1_leaks p1_wants p2_doors p2_most p2_best p2_row t_order t_bestOrder) sz)) 0 0 (va_A (w_X2_look g q_t q_p1 q_p2 q_t_order q_t_bestOrder o_t_chain o_t_seek o_p2_chain t_wheel t_most t_best p1_places p1_deep p1_turn p1_wheel p1_leaks p1_wants p2_doors p2_most p2_best p2_row t_order t_bestOrder) sz) := by
  refine Met_intro (by decide) (Nat.le_of_ble_eq_true rfl) ?_
  intro p e s m below meth c A ls F hret hlk hin hw hl
  replace hl : lv_has ls 3 [(0, .ref q_t), (1, .ref q_p1), (2, .ref q_p2)] := hl
  refine lv_aload_n F.1 F.2.1 dX2_look_0 rfl (lv_at hl 0 rfl) ?_
  refine lv_aload_n F.1 F.2.1 dX2_look_1 rfl (lv_at hl 1 rfl) ?_
  refine pf_X2_18 F hw 0 rfl (Nat.le_of_ble_eq_true rfl) dX2_look_2 (fun H locs hw => ?_)
  replace hw : Wd dd g mv A s H locs (w_X2_look g q_t q_p1 q_p2 q_t_order q_t_bestOrder ((.ref q_p1)) o_t_seek o_p2_chain t_wheel t_most t_best p1_places p1_deep p1_turn p1_wheel p1_leaks p1_wants p2_doors p2_most p2_best p2_row t_order t_bestOrder) := hw
  refine lv_aload_n F.1 F.2.1 dX2_look_5 rfl (lv_at hl 0 rfl) ?_
  refine lv_aload_n F.1 F.2.1 dX2_look_6 rfl (lv_at hl 2 rfl) ?_
  refine pf_X2_22 F hw 0 rfl (Nat.le_of_ble_eq_true rfl) dX2_look_7 (fun H locs hw => ?_)
  replace hw : Wd dd g mv A s H locs (w_X2_look g q_t q_p1 q_p2 q_t_order q_t_bestOrder ((.ref q_p1)) ((.ref q_p2)) o_p2_chain t_wheel t_most t_best p1_places p1_deep p1_turn p1_wheel p1_leaks p1_wants p2_doors p2_most p2_best p2_row t_order t_bestOrder) := hw
  refine lv_aload_n F.1 F.2.1 dX2_look_10 rfl (lv_at hl 0 rfl) ?_
  refine lv_aload_n F.1 F.2.1 dX2_look_11 rfl (lv_at hl 1 rfl) ?_
  refine gf_X2_37 F hw 1 rfl rfl dX2_look_12 ?_
  refine lv_ldc2 F.1 F.2.1 F.2.2.2.1 (F.2.2.2.2 _ cl_X2_40) dX2_look_15 ?_
  refine lv_land F.1 F.2.1 dX2_look_18 ?_
  refine lv_aload_n F.1 F.2.1 dX2_look_19 rfl (lv_at hl 1 rfl) ?_
  refine gf_X2_42 F hw 1 rfl rfl dX2_look_20 ?_
  refine lv_i2l F.1 F.2.1 dX2_look_23 rfl ?_
  refine lv_lor F.1 F.2.1 dX2_look_24 ?_
  refine pf_X2_26 F hw 0 rfl (Nat.le_of_ble_eq_true rfl) dX2_look_25 (fun H locs hw => ?_)
  replace hw : Wd dd g mv A s H locs (w_X2_look g q_t q_p1 q_p2 q_t_order q_t_bestOrder ((.ref q_p1)) ((.ref q_p2)) o_p2_chain (((p1_wheel &&& (18159675916816 : Int64)) ||| p1_deep.toInt64)) t_most t_best p1_places p1_deep p1_turn p1_wheel p1_leaks p1_wants p2_doors p2_most p2_best p2_row t_order t_bestOrder) := hw
  refine lv_aload_n F.1 F.2.1 dX2_look_28 rfl (lv_at hl 0 rfl) ?_
  refine lv_bipush (v := 8) F.1 F.2.1 dX2_look_29 (by decide) ?_
  refine pf_X2_30 F hw 0 rfl (Nat.le_of_ble_eq_true rfl) dX2_look_31 (fun H locs hw => ?_)
  replace hw : Wd dd g mv A s H locs (w_X2_look g q_t q_p1 q_p2 q_t_order q_t_bestOrder ((.ref q_p1)) ((.ref q_p2)) o_p2_chain (((p1_wheel &&& (18159675916816 : Int64)) ||| p1_deep.toInt64)) ((8 : Int32)) t_best p1_places p1_deep p1_turn p1_wheel p1_leaks p1_wants p2_doors p2_most p2_best p2_row t_order t_bestOrder) := hw
  refine lv_aload_n F.1 F.2.1 dX2_look_34 rfl (lv_at hl 0 rfl) ?_
  refine lv_bipush (v := -6) F.1 F.2.1 dX2_look_35 (by decide) ?_
  refine pf_X2_34 F hw 0 rfl (Nat.le_of_ble_eq_true rfl) dX2_look_37 (fun H locs hw => ?_)
  replace hw : Wd dd g mv A s H locs (w_X2_look g q_t q_p1 q_p2 q_t_order q_t_bestOrder ((.ref q_p1)) ((.ref q_p2)) o_p2_chain (((p1_wheel &&& (18159675916816 : Int64)) ||| p1_deep.toInt64)) ((8 : Int32)) ((-6 : Int32)) p1_places p1_deep p1_turn p1_wheel p1_leaks p1_wants p2_doors p2_most p2_best p2_row t_order t_bestOrder) := hw
  refine lv_aload_n F.1 F.2.1 dX2_look_40 rfl (lv_at hl 0 rfl) ?_
  refine lv_iconst (v := 0) F.1 F.2.1 dX2_look_41 (by decide) ?_
  refine lv_iconst (v := 0) F.1 F.2.1 dX2_look_42 (by decide) ?_
  refine lv_lconst (v := 0) F.1 F.2.1 dX2_look_43 (by decide) ?_
  obtain ⟨z1, hz1, hr⟩ := Option.bind_eq_some_iff.mp hr
  refine call_o (wr := []) (run_S (As := [.ref q_t, .int (0 : Int32), .int (0 : Int32), .long (0 : Int64)]) (rest := []) F k_X2_45 (c_X2_hangOn l dd g mv 20 q_t q_p1 q_p2 q_t_order q_t_bestOrder o_p2_chain (((p1_wheel &&& (18159675916816 : Int64)) ||| p1_deep.toInt64)) ((8 : Int32)) ((-6 : Int32)) p1_places p1_deep p1_turn p1_wheel p1_leaks p1_wants p2_doors p2_most p2_best p2_row t_order t_bestOrder ((0 : Int32)) ((0 : Int32)) ((0 : Int64)) z1 hz1 _) hw [0, 1, 2, 3, 4] (by decide) rfl rfl hl.1 rfl (Nat.le_of_ble_eq_true rfl) dX2_look_44 ⟨Nat.le_of_ble_eq_true rfl, Nat.le_of_ble_eq_true rfl⟩ ⟨Nat.le_of_ble_eq_true rfl, Nat.le_of_ble_eq_true rfl⟩) hw [0, 1, 2, 3, 4] [] rfl rfl (by decide) (by decide) (fun u2 H locs hw => ?_)
  replace hw : Wd dd g mv A s H locs (w_X2_look g q_t q_p1 q_p2 q_t_order q_t_bestOrder ((.ref q_p1)) ((.ref q_p2)) u2 (((p1_wheel &&& (18159675916816 : Int64)) ||| p1_deep.toInt64)) z1.1 z1.2.1 p1_places p1_deep p1_turn p1_wheel p1_leaks p1_wants z1.2.2.1 z1.2.2.2.1 z1.2.2.2.2.1 z1.2.2.2.2.2.1 z1.2.2.2.2.2.2.1 z1.2.2.2.2.2.2.2) := hw.sub [0, 1, 2, 3, 4] (by decide) rfl
  cases hr
  exact ret_v (u2) F hret hlk hw (Nat.le_refl _) (Nat.le_refl _) dX2_look_47
set_option maxHeartbeats 4000000 in
set_option maxRecDepth 100000 in
theorem c_X4_put (l : Launch) (dd : va_G) (g : Nat → ClassId) (mv : Nat) (q_t : Nat) (q_t_signs : Nat) (t_count : Int32) (t_signs : Nat → Int32) (a1 : Int32) (z : Int32 × Int32 × (Nat → Int32)) (hr : f_X4_put t_count t_signs a1 = some z) (sz : Nat) : Met l yX4_put (.code yX4_put cX4_put 2 (some .boolean) :: WS) (rmH 0 0 0) (va_Pc [.ref q_t, .int a1] (PW dd g mv (w_X4_put g q_t q_t_signs t_count t_signs) sz)) (Qo dd g (some (.int z.1)) (fun u : Unit => (w_X4_put g q_t q_t_signs z.2.1 z.2.2)) (va_A (w_X4_put g q_t q_t_signs t_count t_signs) sz)) 0 0 (va_A (w_X4_put g q_t q_t_signs t_count t_signs) sz) := by
  refine Met_intro (by decide) (Nat.le_of_ble_eq_true rfl) ?_
  intro p e s m below meth c A ls F hret hlk hin hw hl
  replace hl : lv_has ls 2 [(0, .ref q_t), (1, .int a1)] := hl
  refine lv_aload_n F.1 F.2.1 dX4_put_0 rfl (lv_at hl 0 rfl) ?_
  refine gf_X4_15 F hw 0 rfl rfl dX4_put_1 ?_
  refine lv_bipush (v := 40) F.1 F.2.1 dX4_put_4 (by decide) ?_
  refine lv_icmp_lt (tgt := 11) F.1 F.2.1 dX4_put_6 (by decide) (fun hc1 => ?_) (fun hc1 => ?_)
  · replace hr := (if_pos hc1).symm.trans hr
    refine lv_aload_n F.1 F.2.1 dX4_put_11 rfl (lv_at hl 0 rfl) ?_
    refine gf_X4_9 F hw 0 rfl rfl dX4_put_12 ?_
    refine lv_aload_n F.1 F.2.1 dX4_put_15 rfl (lv_at hl 0 rfl) ?_
    refine gf_X4_15 F hw 0 rfl rfl dX4_put_16 ?_
    refine lv_iload_n F.1 F.2.1 dX4_put_19 rfl (lv_at hl 1 rfl) ?_
    obtain ⟨hg2, hr⟩ := g_no hr
    refine aw_i F hw 1 rfl hg2 dX4_put_20 (fun H locs hw => ?_)
    replace hw : Wd dd g mv A s H locs (w_X4_put g q_t q_t_signs t_count ((upd t_signs (t_count).toNatClampNeg a1))) := hw
    refine lv_aload_n F.1 F.2.1 dX4_put_21 rfl (lv_at hl 0 rfl) ?_
    refine lv_dup F.1 F.2.1 dX4_put_22 rfl ?_
    refine gf_X4_15 F hw 0 rfl rfl dX4_put_23 ?_
    refine lv_iconst (v := 1) F.1 F.2.1 dX4_put_26 (by decide) ?_
    refine lv_iadd F.1 F.2.1 dX4_put_27 ?_
    refine pf_X4_15 F hw 0 rfl (Nat.le_of_ble_eq_true rfl) dX4_put_28 (fun H locs hw => ?_)
    replace hw : Wd dd g mv A s H locs (w_X4_put g q_t q_t_signs ((t_count + (1 : Int32))) ((upd t_signs (t_count).toNatClampNeg a1))) := hw
    refine lv_iconst (v := 1) F.1 F.2.1 dX4_put_31 (by decide) ?_
    cases hr
    exact ret_z (v := (1 : Int32)) () F hret hlk (by decide) hw (Nat.le_refl _) (Nat.le_refl _) dX4_put_32
  · replace hr := (if_neg hc1).symm.trans hr
    refine lv_iconst (v := 0) F.1 F.2.1 dX4_put_9 (by decide) ?_
    cases hr
    exact ret_z (v := (0 : Int32)) () F hret hlk (by decide) hw (Nat.le_refl _) (Nat.le_refl _) dX4_put_10
set_option maxHeartbeats 4000000 in
set_option maxRecDepth 100000 in
theorem b_X4_firstFault_51 {q_t q_t_signs : Nat} {z : Int32} (F : Fx p m c cX4_firstFault 2 s args RX4) (hret : meth.sig.returnType = some .int) (hlk : meth.locks = false) {k2 : Int32 → Int32 → (Nat → Int32) → Option (Int32)} (hk2 : ∀ {x1 : Int32} {t_count : Int32} {t_signs : Nat → Int32} {H : Heap} {locs : List Loc} {ls : Array Slot}, k2 x1 t_count t_signs = some z → Wd dd g mv A s H locs (w_X4_firstFault g q_t q_t_signs t_count t_signs) → lv_has ls 2 [(0, .ref q_t), (1, .int x1)] → W p l e (rmH (0) 0 0) s m args below meth c H locs 0 0 (MQ below (Qo dd g (some (.int z)) (fun u : Unit => (w_X4_firstFault g q_t q_t_signs t_count t_signs)) A) args s 0 0 A) (F0 m 2 ls [])) : ∀ {x1 : Int32} {t_count : Int32} {t_signs : Nat → Int32} {H : Heap} {locs : List Loc} {ls : Array Slot}, f_X4_firstFault_51 k2 x1 t_count t_signs = some z → Wd dd g mv A s H locs (w_X4_firstFault g q_t q_t_signs t_count t_signs) → lv_has ls 2 [(0, .ref q_t), (1, .int x1)] → W p l e (rmH (0) 0 0) s m args below meth c H locs 0 0 (MQ below (Qo dd g (some (.int z)) (fun u : Unit => (w_X4_firstFault g q_t q_t_signs t_count t_signs)) A) args s 0 0 A) (F0 m 51 ls []) := by
  intro x1 t_count t_signs H locs ls hr hw hl
  refine lv_iinc (v := (x1 + 1)) (lv' := [(1, .int (x1 + 1)), (0, .ref q_t)]) F.1 F.2.1 dX4_firstFault_51 hl (k := 1) rfl rfl (by decide) rfl (fun ls hl => ?_)
  refine lv_goto (tgt := 2) F.1 F.2.1 dX4_firstFault_54 (by decide) ?_
  exact hk2 hr hw (lv_sub hl [1, 0] rfl)
set_option maxHeartbeats 4000000 in
set_option maxRecDepth 100000 in
theorem b_X4_firstFault_2 {q_t q_t_signs : Nat} {z : Int32} (F : Fx p m c cX4_firstFault 2 s args RX4) (hret : meth.sig.returnType = some .int) (hlk : meth.locks = false) : ∀ (n : Nat), ∀ {x1 : Int32} {t_count : Int32} {t_signs : Nat → Int32} {H : Heap} {locs : List Loc} {ls : Array Slot}, f_X4_firstFault_2  n x1 t_count t_signs = some z → Wd dd g mv A s H locs (w_X4_firstFault g q_t q_t_signs t_count t_signs) → lv_has ls 2 [(0, .ref q_t), (1, .int x1)] → W p l e (rmH (0) 0 0) s m args below meth c H locs 0 0 (MQ below (Qo dd g (some (.int z)) (fun u : Unit => (w_X4_firstFault g q_t q_t_signs t_count t_signs)) A) args s 0 0 A) (F0 m 2 ls []) := by
  intro n
  induction n with
  | zero =>
    intros
    rename_i hr _ _
    cases hr
  | succ n ih =>
    intro x1 t_count t_signs H locs ls hr hw hl
    refine lv_iload_n F.1 F.2.1 dX4_firstFault_2 rfl (lv_at hl 1 rfl) ?_
    refine lv_aload_n F.1 F.2.1 dX4_firstFault_3 rfl (lv_at hl 0 rfl) ?_
    refine gf_X4_15 F hw 0 rfl rfl dX4_firstFault_4 ?_
    refine lv_icmp_ge (tgt := 57) F.1 F.2.1 dX4_firstFault_7 (by decide) (fun hc1 => ?_) (fun hc1 => ?_)
    · replace hr := (if_pos hc1).symm.trans hr
      refine lv_bipush (v := -6) F.1 F.2.1 dX4_firstFault_57 (by decide) ?_
      cases hr
      exact ret_i () F hret hlk hw (Nat.le_refl _) (Nat.le_refl _) dX4_firstFault_59
    · replace hr := (if_neg hc1).symm.trans hr
      refine lv_iload_n F.1 F.2.1 dX4_firstFault_10 rfl (lv_at hl 1 rfl) ?_
      refine lv_bipush (v := 40) F.1 F.2.1 dX4_firstFault_11 (by decide) ?_
      refine lv_icmp_ge (tgt := 57) F.1 F.2.1 dX4_firstFault_13 (by decide) (fun hc2 => ?_) (fun hc2 => ?_)
      · replace hr := (if_pos hc2).symm.trans hr
        refine lv_bipush (v := -6) F.1 F.2.1 dX4_firstFault_57 (by decide) ?_
        cases hr
        exact ret_i () F hret hlk hw (Nat.le_refl _) (Nat.le_refl _) dX4_firstFault_59
      · replace hr := (if_neg hc2).symm.trans hr
        refine lv_aload_n F.1 F.2.1 dX4_firstFault_16 rfl (lv_at hl 0 rfl) ?_
        refine gf_X4_9 F hw 0 rfl rfl dX4_firstFault_17 ?_
        refine lv_iload_n F.1 F.2.1 dX4_firstFault_20 rfl (lv_at hl 1 rfl) ?_
        obtain ⟨hg3, hr⟩ := g_no hr
        refine ar_i F hw 1 rfl hg3 dX4_firstFault_21 ?_
        refine lv_bipush (v := 43) F.1 F.2.1 dX4_firstFault_22 (by decide) ?_
        refine lv_icmp_eq (tgt := 51) F.1 F.2.1 dX4_firstFault_24 (by decide) (fun hc4 => ?_) (fun hc4 => ?_)
        · replace hr := (if_pos hc4).symm.trans hr
          exact b_X4_firstFault_51 F hret hlk (ih) hr hw (lv_sub hl [0, 1] rfl)
        · replace hr := (if_neg hc4).symm.trans hr
          refine lv_aload_n F.1 F.2.1 dX4_firstFault_27 rfl (lv_at hl 0 rfl) ?_
          refine gf_X4_9 F hw 0 rfl rfl dX4_firstFault_28 ?_
          refine lv_iload_n F.1 F.2.1 dX4_firstFault_31 rfl (lv_at hl 1 rfl) ?_
          obtain ⟨hg5, hr⟩ := g_no hr
          refine ar_i F hw 1 rfl hg5 dX4_firstFault_32 ?_
          refine lv_bipush (v := 45) F.1 F.2.1 dX4_firstFault_33 (by decide) ?_
          refine lv_icmp_eq (tgt := 51) F.1 F.2.1 dX4_firstFault_35 (by decide) (fun hc6 => ?_) (fun hc6 => ?_)
          · replace hr := (if_pos hc6).symm.trans hr
            exact b_X4_firstFault_51 F hret hlk (ih) hr hw (lv_sub hl [0, 1] rfl)
          · replace hr := (if_neg hc6).symm.trans hr
            refine lv_aload_n F.1 F.2.1 dX4_firstFault_38 rfl (lv_at hl 0 rfl) ?_
            refine gf_X4_9 F hw 0 rfl rfl dX4_firstFault_39 ?_
            refine lv_iload_n F.1 F.2.1 dX4_firstFault_42 rfl (lv_at hl 1 rfl) ?_
            obtain ⟨hg7, hr⟩ := g_no hr
            refine ar_i F hw 1 rfl hg7 dX4_firstFault_43 ?_
            refine lv_bipush (v := 46) F.1 F.2.1 dX4_firstFault_44 (by decide) ?_
            refine lv_icmp_eq (tgt := 51) F.1 F.2.1 dX4_firstFault_46 (by decide) (fun hc8 => ?_) (fun hc8 => ?_)
            · replace hr := (if_pos hc8).symm.trans hr
              exact b_X4_firstFault_51 F hret hlk (ih) hr hw (lv_sub hl [0, 1] rfl)
            · replace hr := (if_neg hc8).symm.trans hr
              refine lv_iload_n F.1 F.2.1 dX4_firstFault_49 rfl (lv_at hl 1 rfl) ?_
              cases hr
              exact ret_i () F hret hlk hw (Nat.le_refl _) (Nat.le_refl _) dX4_firstFault_50
set_option maxHeartbeats 4000000 in
set_option maxRecDepth 100000 in
theorem c_X4_firstFault (l : Launch) (dd : va_G) (g : Nat → ClassId) (mv : Nat) (q_t : Nat) (q_t_signs : Nat) (t_count : Int32) (t_signs : Nat → Int32) (z : Int32) (hr : f_X4_firstFault t_count t_signs = some z) (sz : Nat) : Met l yX4_firstFault (.code yX4_firstFault cX4_firstFault 2 (some .int) :: WS) (rmH 0 0 0) (va_Pc [.ref q_t] (PW dd g mv (w_X4_firstFault g q_t q_t_signs t_count t_signs) sz)) (Qo dd g (some (.int z)) (fun u : Unit => (w_X4_firstFault g q_t q_t_signs t_count t_signs)) (va_A (w_X4_firstFault g q_t q_t_signs t_count t_signs) sz)) 0 0 (va_A (w_X4_firstFault g q_t q_t_signs t_count t_signs) sz) := by
  refine Met_intro (by decide) (Nat.le_of_ble_eq_true rfl) ?_
  intro p e s m below meth c A ls F hret hlk hin hw hl
  replace hl : lv_has ls 2 [(0, .ref q_t)] := hl
  refine lv_iconst (v := 0) F.1 F.2.1 dX4_firstFault_0 (by decide) ?_
  refine lv_istore_n (lv' := [(1, .int (0 : Int32)), (0, .ref q_t)]) F.1 F.2.1 dX4_firstFault_1 rfl hl (by decide) rfl (fun ls hl => ?_)
  exact b_X4_firstFault_2 F hret hlk  fuel hr hw (lv_sub hl [1, 0] rfl)
set_option maxHeartbeats 4000000 in
set_option maxRecDepth 100000 in
theorem b_X4_isWord_59 {q_t q_t_signs : Nat} {z : Int32} (F : Fx p m c cX4_isWord 2 s args RX4) (hret : meth.sig.returnType = some .boolean) (hlk : meth.locks = false) {k21 : Int32 → Int32 → (Nat → Int32) → Option (Int32)} (hk21 : ∀ {x1 : Int32} {t_count : Int32} {t_signs : Nat → Int32} {H : Heap} {locs : List Loc} {ls : Array Slot}, k21 x1 t_count t_signs = some z → Wd dd g mv A s H locs (w_X4_isWord g q_t q_t_signs t_count t_signs) → lv_has ls 2 [(0, .ref q_t), (1, .int x1)] → W p l e (rmH (0) 0 0) s m args below meth c H locs 0 0 (MQ below (Qo dd g (some (.int z)) (fun u : Unit => (w_X4_isWord g q_t q_t_signs t_count t_signs)) A) args s 0 0 A) (F0 m 21 ls [])) : ∀ {x1 : Int32} {t_count : Int32} {t_signs : Nat → Int32} {H : Heap} {locs : List Loc} {ls : Array Slot}, f_X4_isWord_59 k21 x1 t_count t_signs = some z → Wd dd g mv A s H locs (w_X4_isWord g q_t q_t_signs t_count t_signs) → lv_has ls 2 [(0, .ref q_t), (1, .int x1)] → W p l e (rmH (0) 0 0) s m args below meth c H locs 0 0 (MQ below (Qo dd g (some (.int z)) (fun u : Unit => (w_X4_isWord g q_t q_t_signs t_count t_signs)) A) args s 0 0 A) (F0 m 59 ls []) := by
  intro x1 t_count t_signs H locs ls hr hw hl
  refine lv_iinc (v := (x1 + 1)) (lv' := [(1, .int (x1 + 1)), (0, .ref q_t)]) F.1 F.2.1 dX4_isWord_59 hl (k := 1) rfl rfl (by decide) rfl (fun ls hl => ?_)
  refine lv_goto (tgt := 21) F.1 F.2.1 dX4_isWord_62 (by decide) ?_
  exact hk21 hr hw (lv_sub hl [1, 0] rfl)
set_option maxHeartbeats 4000000 in
set_option maxRecDepth 100000 in
theorem b_X4_isWord_21 {q_t q_t_signs : Nat} {z : Int32} (F : Fx p m c cX4_isWord 2 s args RX4) (hret : meth.sig.returnType = some .boolean) (hlk : meth.locks = false) : ∀ (n : Nat), ∀ {x1 : Int32} {t_count : Int32} {t_signs : Nat → Int32} {H : Heap} {locs : List Loc} {ls : Array Slot}, f_X4_isWord_21  n x1 t_count t_signs = some z → Wd dd g mv A s H locs (w_X4_isWord g q_t q_t_signs t_count t_signs) → lv_has ls 2 [(0, .ref q_t), (1, .int x1)] → W p l e (rmH (0) 0 0) s m args below meth c H locs 0 0 (MQ below (Qo dd g (some (.int z)) (fun u : Unit => (w_X4_isWord g q_t q_t_signs t_count t_signs)) A) args s 0 0 A) (F0 m 21 ls []) := by
  intro n
  induction n with
  | zero =>
    intros
    rename_i hr _ _
    cases hr
  | succ n ih =>
    intro x1 t_count t_signs H locs ls hr hw hl
    refine lv_iload_n F.1 F.2.1 dX4_isWord_21 rfl (lv_at hl 1 rfl) ?_
    refine lv_aload_n F.1 F.2.1 dX4_isWord_22 rfl (lv_at hl 0 rfl) ?_
    refine gf_X4_15 F hw 0 rfl rfl dX4_isWord_23 ?_
    refine lv_icmp_ge (tgt := 65) F.1 F.2.1 dX4_isWord_26 (by decide) (fun hc1 => ?_) (fun hc1 => ?_)
    · replace hr := (if_pos hc1).symm.trans hr
      refine lv_iconst (v := 1) F.1 F.2.1 dX4_isWord_65 (by decide) ?_
      cases hr
      exact ret_z (v := (1 : Int32)) () F hret hlk (by decide) hw (Nat.le_refl _) (Nat.le_refl _) dX4_isWord_66
    · replace hr := (if_neg hc1).symm.trans hr
      refine lv_iload_n F.1 F.2.1 dX4_isWord_29 rfl (lv_at hl 1 rfl) ?_
      refine lv_bipush (v := 40) F.1 F.2.1 dX4_isWord_30 (by decide) ?_
      refine lv_icmp_ge (tgt := 65) F.1 F.2.1 dX4_isWord_32 (by decide) (fun hc2 => ?_) (fun hc2 => ?_)
      · replace hr := (if_pos hc2).symm.trans hr
        refine lv_iconst (v := 1) F.1 F.2.1 dX4_isWord_65 (by decide) ?_
        cases hr
        exact ret_z (v := (1 : Int32)) () F hret hlk (by decide) hw (Nat.le_refl _) (Nat.le_refl _) dX4_isWord_66
      · replace hr := (if_neg hc2).symm.trans hr
        refine lv_aload_n F.1 F.2.1 dX4_isWord_35 rfl (lv_at hl 0 rfl) ?_
        refine gf_X4_9 F hw 0 rfl rfl dX4_isWord_36 ?_
        refine lv_iload_n F.1 F.2.1 dX4_isWord_39 rfl (lv_at hl 1 rfl) ?_
        obtain ⟨hg3, hr⟩ := g_no hr
        refine ar_i F hw 1 rfl hg3 dX4_isWord_40 ?_
        refine lv_bipush (v := 43) F.1 F.2.1 dX4_isWord_41 (by decide) ?_
        refine lv_icmp_eq (tgt := 59) F.1 F.2.1 dX4_isWord_43 (by decide) (fun hc4 => ?_) (fun hc4 => ?_)
        · replace hr := (if_pos hc4).symm.trans hr
          exact b_X4_isWord_59 F hret hlk (ih) hr hw (lv_sub hl [0, 1] rfl)
        · replace hr := (if_neg hc4).symm.trans hr
          refine lv_aload_n F.1 F.2.1 dX4_isWord_46 rfl (lv_at hl 0 rfl) ?_
          refine gf_X4_9 F hw 0 rfl rfl dX4_isWord_47 ?_
          refine lv_iload_n F.1 F.2.1 dX4_isWord_50 rfl (lv_at hl 1 rfl) ?_
          obtain ⟨hg5, hr⟩ := g_no hr
          refine ar_i F hw 1 rfl hg5 dX4_isWord_51 ?_
          refine lv_bipush (v := 45) F.1 F.2.1 dX4_isWord_52 (by decide) ?_
          refine lv_icmp_eq (tgt := 59) F.1 F.2.1 dX4_isWord_54 (by decide) (fun hc6 => ?_) (fun hc6 => ?_)
          · replace hr := (if_pos hc6).symm.trans hr
            exact b_X4_isWord_59 F hret hlk (ih) hr hw (lv_sub hl [0, 1] rfl)
          · replace hr := (if_neg hc6).symm.trans hr
            refine lv_iconst (v := 0) F.1 F.2.1 dX4_isWord_57 (by decide) ?_
            cases hr
            exact ret_z (v := (0 : Int32)) () F hret hlk (by decide) hw (Nat.le_refl _) (Nat.le_refl _) dX4_isWord_58
set_option maxHeartbeats 4000000 in
set_option maxRecDepth 100000 in
theorem c_X4_isWord (l : Launch) (dd : va_G) (g : Nat → ClassId) (mv : Nat) (q_t : Nat) (q_t_signs : Nat) (t_count : Int32) (t_signs : Nat → Int32) (z : Int32) (hr : f_X4_isWord t_count t_signs = some z) (sz : Nat) : Met l yX4_isWord (.code yX4_isWord cX4_isWord 2 (some .boolean) :: WS) (rmH 0 0 0) (va_Pc [.ref q_t] (PW dd g mv (w_X4_isWord g q_t q_t_signs t_count t_signs) sz)) (Qo dd g (some (.int z)) (fun u : Unit => (w_X4_isWord g q_t q_t_signs t_count t_signs)) (va_A (w_X4_isWord g q_t q_t_signs t_count t_signs) sz)) 0 0 (va_A (w_X4_isWord g q_t q_t_signs t_count t_signs) sz) := by
  refine Met_intro (by decide) (Nat.le_of_ble_eq_true rfl) ?_
  intro p e s m below meth c A ls F hret hlk hin hw hl
  replace hl : lv_has ls 2 [(0, .ref q_t)] := hl
  refine lv_aload_n F.1 F.2.1 dX4_isWord_0 rfl (lv_at hl 0 rfl) ?_
  refine gf_X4_15 F hw 0 rfl rfl dX4_isWord_1 ?_
  refine lv_iconst (v := 1) F.1 F.2.1 dX4_isWord_4 (by decide) ?_
  refine lv_icmp_lt (tgt := 17) F.1 F.2.1 dX4_isWord_5 (by decide) (fun hc7 => ?_) (fun hc7 => ?_)
  · replace hr := (if_pos hc7).symm.trans hr
    refine lv_iconst (v := 0) F.1 F.2.1 dX4_isWord_17 (by decide) ?_
    cases hr
    exact ret_z (v := (0 : Int32)) () F hret hlk (by decide) hw (Nat.le_refl _) (Nat.le_refl _) dX4_isWord_18
  · replace hr := (if_neg hc7).symm.trans hr
    refine lv_aload_n F.1 F.2.1 dX4_isWord_8 rfl (lv_at hl 0 rfl) ?_
    refine gf_X4_15 F hw 0 rfl rfl dX4_isWord_9 ?_
    refine lv_bipush (v := 8) F.1 F.2.1 dX4_isWord_12 (by decide) ?_
    refine lv_icmp_le (tgt := 19) F.1 F.2.1 dX4_isWord_14 (by decide) (fun hc8 => ?_) (fun hc8 => ?_)
    · replace hr := (if_pos hc8).symm.trans hr
      refine lv_iconst (v := 0) F.1 F.2.1 dX4_isWord_19 (by decide) ?_
      refine lv_istore_n (lv' := [(1, .int (0 : Int32)), (0, .ref q_t)]) F.1 F.2.1 dX4_isWord_20 rfl hl (by decide) rfl (fun ls hl => ?_)
      exact b_X4_isWord_21 F hret hlk  fuel hr hw (lv_sub hl [1, 0] rfl)
    · replace hr := (if_neg hc8).symm.trans hr
      refine lv_iconst (v := 0) F.1 F.2.1 dX4_isWord_17 (by decide) ?_
      cases hr
      exact ret_z (v := (0 : Int32)) () F hret hlk (by decide) hw (Nat.le_refl _) (Nat.le_refl _) dX4_isWord_18
set_option maxHeartbeats 4000000 in
set_option maxRecDepth 100000 in
theorem b_X5_sureOf_214 {q_p1 q_p1_chain : Nat} {d : Nat} {z : Int32} (F : Fx p m c cX5_sureOf 20 s args RX5) (hret : meth.sig.returnType = some .int) (hlk : meth.locks = false) {rc : Int64 → Int64 → Int32 → Int32 → Int32 → Int64 → Int64 → Int64 → Int32 → Int32 → Int32 → Option (Int32)} (hrc : ∀ (q_p1 : Nat) (q_p1_chain : Nat) (p1_firstDoor : Int64) (p1_secondDoor : Int64) (p1_all : Int32) (p1_chain_places : Int32) (p1_chain_deep : Int32) (p1_chain_turn : Int32) (p1_chain_wheel : Int64) (p1_chain_leaks : Int64) (p1_chain_wants : Int64) (a2 : Int64) (a3 : Int64) (a4 : Int32) (a5 : Int32) (a6 : Int32) (z : Int32), rc p1_firstDoor p1_secondDoor p1_all p1_chain_places p1_chain_deep p1_chain_wants a2 a3 a4 a5 a6 = some z → ∀ (sz : Nat), Met l yX5_sureOf (.code yX5_sureOf cX5_sureOf 20 (some .int) :: WS) (rmH (3 + d) 0 0) (va_Pc [.ref q_p1, .long a2, .long a3, .int a4, .int a5, .int a6] (PW dd g mv (w_X5_sureOf g q_p1 q_p1_chain p1_firstDoor p1_secondDoor p1_all p1_chain_places p1_chain_deep p1_chain_turn p1_chain_wheel p1_chain_leaks p1_chain_wants) sz)) (Qo dd g (some (.int z)) (fun u : Unit => (w_X5_sureOf g q_p1 q_p1_chain p1_firstDoor p1_secondDoor p1_all p1_chain_places p1_chain_deep p1_chain_turn p1_chain_wheel p1_chain_leaks p1_chain_wants)) (va_A (w_X5_sureOf g q_p1 q_p1_chain p1_firstDoor p1_secondDoor p1_all p1_chain_places p1_chain_deep p1_chain_turn p1_chain_wheel p1_chain_leaks p1_chain_wants) sz)) 0 0 (va_A (w_X5_sureOf g q_p1 q_p1_chain p1_firstDoor p1_secondDoor p1_all p1_chain_places p1_chain_deep p1_chain_turn p1_chain_wheel p1_chain_leaks p1_chain_wants) sz)) {k83 : Int64 → Int64 → Int32 → Int32 → Int64 → Int64 → Int32 → Int32 → Int64 → Int64 → Int32 → Int32 → Int32 → Int64 → Option (Int32)} (hk83 : ∀ {x1 : Int64} {x3 : Int64} {x5 : Int32} {x7 : Int32} {x9 : Int64} {x11 : Int64} {x13 : Int32} {x14 : Int32} {p1_firstDoor : Int64} {p1_secondDoor : Int64} {p1_all : Int32} {p1_chain_places : Int32} {p1_chain_deep : Int32} {p1_chain_wants : Int64} {p1_chain_turn : Int32} {p1_chain_wheel : Int64} {p1_chain_leaks : Int64} {H : Heap} {locs : List Loc} {ls : Array Slot}, k83 x1 x3 x5 x7 x9 x11 x13 x14 p1_firstDoor p1_secondDoor p1_all p1_chain_places p1_chain_deep p1_chain_wants = some z → Wd dd g mv A s H locs (w_X5_sureOf g q_p1 q_p1_chain p1_firstDoor p1_secondDoor p1_all p1_chain_places p1_chain_deep p1_chain_turn p1_chain_wheel p1_chain_leaks p1_chain_wants) → lv_has ls 20 [(0, .ref q_p1), (1, .long x1), (3, .long x3), (5, .int x5), (7, .int x7), (9, .long x9), (11, .long x11), (13, .int x13), (14, .int x14)] → W p l e (rmH (3 + (d + 1)) 0 0) s m args below meth c H locs 0 0 (MQ below (Qo dd g (some (.int z)) (fun u : Unit => (w_X5_sureOf g q_p1 q_p1_chain p1_firstDoor p1_secondDoor p1_all p1_chain_places p1_chain_deep p1_chain_turn p1_chain_wheel p1_chain_leaks p1_chain_wants)) A) args s 0 0 A) (F0 m 83 ls [])) : ∀ {x1 : Int64} {x3 : Int64} {x5 : Int32} {x7 : Int32} {x9 : Int64} {x11 : Int64} {x13 : Int32} {x14 : Int32} {x19 : Int32} {p1_firstDoor : Int64} {p1_secondDoor : Int64} {p1_all : Int32} {p1_chain_places : Int32} {p1_chain_deep : Int32} {p1_chain_wants : Int64} {p1_chain_turn : Int32} {p1_chain_wheel : Int64} {p1_chain_leaks : Int64} {H : Heap} {locs : List Loc} {ls : Array Slot}, f_X5_sureOf_214 rc k83 x1 x3 x5 x7 x9 x11 x13 x14 x19 p1_firstDoor p1_secondDoor p1_all p1_chain_places p1_chain_deep p1_chain_wants = some z → Wd dd g mv A s H locs (w_X5_sureOf g q_p1 q_p1_chain p1_firstDoor p1_secondDoor p1_all p1_chain_places p1_chain_deep p1_chain_turn p1_chain_wheel p1_chain_leaks p1_chain_wants) → lv_has ls 20 [(0, .ref q_p1), (1, .long x1), (3, .long x3), (5, .int x5), (7, .int x7), (9, .long x9), (11, .long x11), (13, .int x13), (14, .int x14), (19, .int x19)] → W p l e (rmH (3 + (d + 1)) 0 0) s m args below meth c H locs 0 0 (MQ below (Qo dd g (some (.int z)) (fun u : Unit => (w_X5_sureOf g q_p1 q_p1_chain p1_firstDoor p1_secondDoor p1_all p1_chain_places p1_chain_deep p1_chain_turn p1_chain_wheel p1_chain_leaks p1_chain_wants)) A) args s 0 0 A) (F0 m 214 ls []) := by
  intro x1 x3 x5 x7 x9 x11 x13 x14 x19 p1_firstDoor p1_secondDoor p1_all p1_chain_places p1_chain_deep p1_chain_wants p1_chain_turn p1_chain_wheel p1_chain_leaks H locs ls hr hw hl
  refine lv_iload F.1 F.2.1 dX5_sureOf_214 (lv_at hl 7 rfl) ?_
  refine lv_iload F.1 F.2.1 dX5_sureOf_216 (lv_at hl 9 rfl) ?_
  refine m_max F hl.1 ml_X5_50 (by show 1 ≤ _; simp only [rmH]; omega) (by simp only [rmH, List.map_cons, List.map_nil, List.sum_cons, List.sum_nil, Value.category]; omega) (Nat.zero_le _) (Nat.zero_le _) dX5_sureOf_218 ?_
  refine lv_istore (lv' := [(13, .int (if x13 < x19 then x19 else x13)), (0, .ref q_p1), (1, .long x1), (3, .long x3), (5, .int x5), (7, .int x7), (9, .long x9), (11, .long x11), (14, .int x14), (19, .int x19)]) F.1 F.2.1 dX5_sureOf_221 hl (by decide) rfl (fun ls hl => ?_)
  refine lv_iinc (v := (x14 + 1)) (lv' := [(14, .int (x14 + 1)), (13, .int (if x13 < x19 then x19 else x13)), (0, .ref q_p1), (1, .long x1), (3, .long x3), (5, .int x5), (7, .int x7), (9, .long x9), (11, .long x11), (19, .int x19)]) F.1 F.2.1 dX5_sureOf_223 hl (k := 8) rfl rfl (by decide) rfl (fun ls hl => ?_)
  refine lv_goto (tgt := 83) F.1 F.2.1 dX5_sureOf_226 (by decide) ?_
  exact hk83 hr hw (lv_sub hl [2, 3, 4, 5, 6, 7, 8, 1, 0] rfl)
set_option maxHeartbeats 4000000 in
set_option maxRecDepth 100000 in
theorem b_X5_sureOf_211 {q_p1 q_p1_chain : Nat} {d : Nat} {z : Int32} (F : Fx p m c cX5_sureOf 20 s args RX5) (hret : meth.sig.returnType = some .int) (hlk : meth.locks = false) {rc : Int64 → Int64 → Int32 → Int32 → Int32 → Int64 → Int64 → Int64 → Int32 → Int32 → Int32 → Option (Int32)} (hrc : ∀ (q_p1 : Nat) (q_p1_chain : Nat) (p1_firstDoor : Int64) (p1_secondDoor : Int64) (p1_all : Int32) (p1_chain_places : Int32) (p1_chain_deep : Int32) (p1_chain_turn : Int32) (p1_chain_wheel : Int64) (p1_chain_leaks : Int64) (p1_chain_wants : Int64) (a2 : Int64) (a3 : Int64) (a4 : Int32) (a5 : Int32) (a6 : Int32) (z : Int32), rc p1_firstDoor p1_secondDoor p1_all p1_chain_places p1_chain_deep p1_chain_wants a2 a3 a4 a5 a6 = some z → ∀ (sz : Nat), Met l yX5_sureOf (.code yX5_sureOf cX5_sureOf 20 (some .int) :: WS) (rmH (3 + d) 0 0) (va_Pc [.ref q_p1, .long a2, .long a3, .int a4, .int a5, .int a6] (PW dd g mv (w_X5_sureOf g q_p1 q_p1_chain p1_firstDoor p1_secondDoor p1_all p1_chain_places p1_chain_deep p1_chain_turn p1_chain_wheel p1_chain_leaks p1_chain_wants) sz)) (Qo dd g (some (.int z)) (fun u : Unit => (w_X5_sureOf g q_p1 q_p1_chain p1_firstDoor p1_secondDoor p1_all p1_chain_places p1_chain_deep p1_chain_turn p1_chain_wheel p1_chain_leaks p1_chain_wants)) (va_A (w_X5_sureOf g q_p1 q_p1_chain p1_firstDoor p1_secondDoor p1_all p1_chain_places p1_chain_deep p1_chain_turn p1_chain_wheel p1_chain_leaks p1_chain_wants) sz)) 0 0 (va_A (w_X5_sureOf g q_p1 q_p1_chain p1_firstDoor p1_secondDoor p1_all p1_chain_places p1_chain_deep p1_chain_turn p1_chain_wheel p1_chain_leaks p1_chain_wants) sz)) {k83 : Int64 → Int64 → Int32 → Int32 → Int64 → Int64 → Int32 → Int32 → Int64 → Int64 → Int32 → Int32 → Int32 → Int64 → Option (Int32)} (hk83 : ∀ {x1 : Int64} {x3 : Int64} {x5 : Int32} {x7 : Int32} {x9 : Int64} {x11 : Int64} {x13 : Int32} {x14 : Int32} {p1_firstDoor : Int64} {p1_secondDoor : Int64} {p1_all : Int32} {p1_chain_places : Int32} {p1_chain_deep : Int32} {p1_chain_wants : Int64} {p1_chain_turn : Int32} {p1_chain_wheel : Int64} {p1_chain_leaks : Int64} {H : Heap} {locs : List Loc} {ls : Array Slot}, k83 x1 x3 x5 x7 x9 x11 x13 x14 p1_firstDoor p1_secondDoor p1_all p1_chain_places p1_chain_deep p1_chain_wants = some z → Wd dd g mv A s H locs (w_X5_sureOf g q_p1 q_p1_chain p1_firstDoor p1_secondDoor p1_all p1_chain_places p1_chain_deep p1_chain_turn p1_chain_wheel p1_chain_leaks p1_chain_wants) → lv_has ls 20 [(0, .ref q_p1), (1, .long x1), (3, .long x3), (5, .int x5), (7, .int x7), (9, .long x9), (11, .long x11), (13, .int x13), (14, .int x14)] → W p l e (rmH (3 + (d + 1)) 0 0) s m args below meth c H locs 0 0 (MQ below (Qo dd g (some (.int z)) (fun u : Unit => (w_X5_sureOf g q_p1 q_p1_chain p1_firstDoor p1_secondDoor p1_all p1_chain_places p1_chain_deep p1_chain_turn p1_chain_wheel p1_chain_leaks p1_chain_wants)) A) args s 0 0 A) (F0 m 83 ls [])) : ∀ {x1 : Int64} {x3 : Int64} {x5 : Int32} {x7 : Int32} {x9 : Int64} {x11 : Int64} {x13 : Int32} {x14 : Int32} {y0 : Int32} {y1 : Int32} {p1_firstDoor : Int64} {p1_secondDoor : Int64} {p1_all : Int32} {p1_chain_places : Int32} {p1_chain_deep : Int32} {p1_chain_wants : Int64} {p1_chain_turn : Int32} {p1_chain_wheel : Int64} {p1_chain_leaks : Int64} {H : Heap} {locs : List Loc} {ls : Array Slot}, f_X5_sureOf_211 rc k83 x1 x3 x5 x7 x9 x11 x13 x14 y0 y1 p1_firstDoor p1_secondDoor p1_all p1_chain_places p1_chain_deep p1_chain_wants = some z → Wd dd g mv A s H locs (w_X5_sureOf g q_p1 q_p1_chain p1_firstDoor p1_secondDoor p1_all p1_chain_places p1_chain_deep p1_chain_turn p1_chain_wheel p1_chain_leaks p1_chain_wants) → lv_has ls 20 [(0, .ref q_p1), (1, .long x1), (3, .long x3), (5, .int x5), (7, .int x7), (9, .long x9), (11, .long x11), (13, .int x13), (14, .int x14)] → W p l e (rmH (3 + (d + 1)) 0 0) s m args below meth c H locs 0 0 (MQ below (Qo dd g (some (.int z)) (fun u : Unit => (w_X5_sureOf g q_p1 q_p1_chain p1_firstDoor p1_secondDoor p1_all p1_chain_places p1_chain_deep p1_chain_turn p1_chain_wheel p1_chain_leaks p1_chain_wants)) A) args s 0 0 A) (F0 m 211 ls [.int y1, .int y0]) := by
  intro x1 x3 x5 x7 x9 x11 x13 x14 y0 y1 p1_firstDoor p1_secondDoor p1_all p1_chain_places p1_chain_deep p1_chain_wants p1_chain_turn p1_chain_wheel p1_chain_leaks H locs ls hr hw hl
  refine lv_isub F.1 F.2.1 dX5_sureOf_211 ?_
  refine lv_istore (lv' := [(19, .int (y0 - y1)), (0, .ref q_p1), (1, .long x1), (3, .long x3), (5, .int x5), (7, .int x7), (9, .long x9), (11, .long x11), (13, .int x13), (14, .int x14)]) F.1 F.2.1 dX5_sureOf_212 hl (by decide) rfl (fun ls hl => ?_)
  exact b_X5_sureOf_214 F hret hlk hrc (hk83) hr hw (lv_sub hl [1, 2, 3, 4, 5, 6, 7, 8, 9, 0] rfl)
set_option maxHeartbeats 4000000 in
set_option maxRecDepth 100000 in
theorem b_X5_sureOf_196 {q_p1 q_p1_chain : Nat} {d : Nat} {z : Int32} (F : Fx p m c cX5_sureOf 20 s args RX5) (hret : meth.sig.returnType = some .int) (hlk : meth.locks = false) {rc : Int64 → Int64 → Int32 → Int32 → Int32 → Int64 → Int64 → Int64 → Int32 → Int32 → Int32 → Option (Int32)} (hrc : ∀ (q_p1 : Nat) (q_p1_chain : Nat) (p1_firstDoor : Int64) (p1_secondDoor : Int64) (p1_all : Int32) (p1_chain_places : Int32) (p1_chain_deep : Int32) (p1_chain_turn : Int32) (p1_chain_wheel : Int64) (p1_chain_leaks : Int64) (p1_chain_wants : Int64) (a2 : Int64) (a3 : Int64) (a4 : Int32) (a5 : Int32) (a6 : Int32) (z : Int32), rc p1_firstDoor p1_secondDoor p1_all p1_chain_places p1_chain_deep p1_chain_wants a2 a3 a4 a5 a6 = some z → ∀ (sz : Nat), Met l yX5_sureOf (.code yX5_sureOf cX5_sureOf 20 (some .int) :: WS) (rmH (3 + d) 0 0) (va_Pc [.ref q_p1, .long a2, .long a3, .int a4, .int a5, .int a6] (PW dd g mv (w_X5_sureOf g q_p1 q_p1_chain p1_firstDoor p1_secondDoor p1_all p1_chain_places p1_chain_deep p1_chain_turn p1_chain_wheel p1_chain_leaks p1_chain_wants) sz)) (Qo dd g (some (.int z)) (fun u : Unit => (w_X5_sureOf g q_p1 q_p1_chain p1_firstDoor p1_secondDoor p1_all p1_chain_places p1_chain_deep p1_chain_turn p1_chain_wheel p1_chain_leaks p1_chain_wants)) (va_A (w_X5_sureOf g q_p1 q_p1_chain p1_firstDoor p1_secondDoor p1_all p1_chain_places p1_chain_deep p1_chain_turn p1_chain_wheel p1_chain_leaks p1_chain_wants) sz)) 0 0 (va_A (w_X5_sureOf g q_p1 q_p1_chain p1_firstDoor p1_secondDoor p1_all p1_chain_places p1_chain_deep p1_chain_turn p1_chain_wheel p1_chain_leaks p1_chain_wants) sz)) {k83 : Int64 → Int64 → Int32 → Int32 → Int64 → Int64 → Int32 → Int32 → Int64 → Int64 → Int32 → Int32 → Int32 → Int64 → Option (Int32)} (hk83 : ∀ {x1 : Int64} {x3 : Int64} {x5 : Int32} {x7 : Int32} {x9 : Int64} {x11 : Int64} {x13 : Int32} {x14 : Int32} {p1_firstDoor : Int64} {p1_secondDoor : Int64} {p1_all : Int32} {p1_chain_places : Int32} {p1_chain_deep : Int32} {p1_chain_wants : Int64} {p1_chain_turn : Int32} {p1_chain_wheel : Int64} {p1_chain_leaks : Int64} {H : Heap} {locs : List Loc} {ls : Array Slot}, k83 x1 x3 x5 x7 x9 x11 x13 x14 p1_firstDoor p1_secondDoor p1_all p1_chain_places p1_chain_deep p1_chain_wants = some z → Wd dd g mv A s H locs (w_X5_sureOf g q_p1 q_p1_chain p1_firstDoor p1_secondDoor p1_all p1_chain_places p1_chain_deep p1_chain_turn p1_chain_wheel p1_chain_leaks p1_chain_wants) → lv_has ls 20 [(0, .ref q_p1), (1, .long x1), (3, .long x3), (5, .int x5), (7, .int x7), (9, .long x9), (11, .long x11), (13, .int x13), (14, .int x14)] → W p l e (rmH (3 + (d + 1)) 0 0) s m args below meth c H locs 0 0 (MQ below (Qo dd g (some (.int z)) (fun u : Unit => (w_X5_sureOf g q_p1 q_p1_chain p1_firstDoor p1_secondDoor p1_all p1_chain_places p1_chain_deep p1_chain_turn p1_chain_wheel p1_chain_leaks p1_chain_wants)) A) args s 0 0 A) (F0 m 83 ls [])) : ∀ {x1 : Int64} {x3 : Int64} {x5 : Int32} {x7 : Int32} {x9 : Int64} {x11 : Int64} {x13 : Int32} {x14 : Int32} {x17 : Int64} {y0 : Int32} {p1_firstDoor : Int64} {p1_secondDoor : Int64} {p1_all : Int32} {p1_chain_places : Int32} {p1_chain_deep : Int32} {p1_chain_wants : Int64} {p1_chain_turn : Int32} {p1_chain_wheel : Int64} {p1_chain_leaks : Int64} {H : Heap} {locs : List Loc} {ls : Array Slot}, f_X5_sureOf_196 rc k83 x1 x3 x5 x7 x9 x11 x13 x14 x17 y0 p1_firstDoor p1_secondDoor p1_all p1_chain_places p1_chain_deep p1_chain_wants = some z → Wd dd g mv A s H locs (w_X5_sureOf g q_p1 q_p1_chain p1_firstDoor p1_secondDoor p1_all p1_chain_places p1_chain_deep p1_chain_turn p1_chain_wheel p1_chain_leaks p1_chain_wants) → lv_has ls 20 [(0, .ref q_p1), (1, .long x1), (3, .long x3), (5, .int x5), (7, .int x7), (9, .long x9), (11, .long x11), (13, .int x13), (14, .int x14), (17, .long x17)] → W p l e (rmH (3 + (d + 1)) 0 0) s m args below meth c H locs 0 0 (MQ below (Qo dd g (some (.int z)) (fun u : Unit => (w_X5_sureOf g q_p1 q_p1_chain p1_firstDoor p1_secondDoor p1_all p1_chain_places p1_chain_deep p1_chain_turn p1_chain_wheel p1_chain_leaks p1_chain_wants)) A) args s 0 0 A) (F0 m 196 ls [.int y0]) := by
  intro x1 x3 x5 x7 x9 x11 x13 x14 x17 y0 p1_firstDoor p1_secondDoor p1_all p1_chain_places p1_chain_deep p1_chain_wants p1_chain_turn p1_chain_wheel p1_chain_leaks H locs ls hr hw hl
  refine lv_lload F.1 F.2.1 dX5_sureOf_196 (lv_at hl 9 rfl) ?_
  refine lv_lload F.1 F.2.1 dX5_sureOf_198 (lv_at hl 6 rfl) ?_
  refine lv_land F.1 F.2.1 dX5_sureOf_200 ?_
  refine lv_lconst (v := 0) F.1 F.2.1 dX5_sureOf_201 (by decide) ?_
  refine W.lcmp F.1 F.2.1 dX5_sureOf_202 ?_
  refine lv_if_ne (tgt := 210) F.1 F.2.1 dX5_sureOf_203 (by decide) (fun hc1 => ?_) (fun hc1 => ?_)
  · replace hr := (if_neg hc1).symm.trans hr
    refine lv_iconst (v := 0) F.1 F.2.1 dX5_sureOf_210 (by decide) ?_
    exact b_X5_sureOf_211 F hret hlk hrc (hk83) hr hw (lv_sub hl [0, 1, 2, 3, 4, 5, 6, 7, 8] rfl)
  · replace hr := (if_pos hc1).symm.trans hr
    refine lv_iconst (v := 1) F.1 F.2.1 dX5_sureOf_206 (by decide) ?_
    refine lv_goto (tgt := 211) F.1 F.2.1 dX5_sureOf_207 (by decide) ?_
    exact b_X5_sureOf_211 F hret hlk hrc (hk83) hr hw (lv_sub hl [0, 1, 2, 3, 4, 5, 6, 7, 8] rfl)
set_option maxHeartbeats 4000000 in
set_option maxRecDepth 100000 in
theorem b_X5_sureOf_181 {q_p1 q_p1_chain : Nat} {d : Nat} {z : Int32} (F : Fx p m c cX5_sureOf 20 s args RX5) (hret : meth.sig.returnType = some .int) (hlk : meth.locks = false) {rc : Int64 → Int64 → Int32 → Int32 → Int32 → Int64 → Int64 → Int64 → Int32 → Int32 → Int32 → Option (Int32)} (hrc : ∀ (q_p1 : Nat) (q_p1_chain : Nat) (p1_firstDoor : Int64) (p1_secondDoor : Int64) (p1_all : Int32) (p1_chain_places : Int32) (p1_chain_deep : Int32) (p1_chain_turn : Int32) (p1_chain_wheel : Int64) (p1_chain_leaks : Int64) (p1_chain_wants : Int64) (a2 : Int64) (a3 : Int64) (a4 : Int32) (a5 : Int32) (a6 : Int32) (z : Int32), rc p1_firstDoor p1_secondDoor p1_all p1_chain_places p1_chain_deep p1_chain_wants a2 a3 a4 a5 a6 = some z → ∀ (sz : Nat), Met l yX5_sureOf (.code yX5_sureOf cX5_sureOf 20 (some .int) :: WS) (rmH (3 + d) 0 0) (va_Pc [.ref q_p1, .long a2, .long a3, .int a4, .int a5, .int a6] (PW dd g mv (w_X5_sureOf g q_p1 q_p1_chain p1_firstDoor p1_secondDoor p1_all p1_chain_places p1_chain_deep p1_chain_turn p1_chain_wheel p1_chain_leaks p1_chain_wants) sz)) (Qo dd g (some (.int z)) (fun u : Unit => (w_X5_sureOf g q_p1 q_p1_chain p1_firstDoor p1_secondDoor p1_all p1_chain_places p1_chain_deep p1_chain_turn p1_chain_wheel p1_chain_leaks p1_chain_wants)) (va_A (w_X5_sureOf g q_p1 q_p1_chain p1_firstDoor p1_secondDoor p1_all p1_chain_places p1_chain_deep p1_chain_turn p1_chain_wheel p1_chain_leaks p1_chain_wants) sz)) 0 0 (va_A (w_X5_sureOf g q_p1 q_p1_chain p1_firstDoor p1_secondDoor p1_all p1_chain_places p1_chain_deep p1_chain_turn p1_chain_wheel p1_chain_leaks p1_chain_wants) sz)) {k83 : Int64 → Int64 → Int32 → Int32 → Int64 → Int64 → Int32 → Int32 → Int64 → Int64 → Int32 → Int32 → Int32 → Int64 → Option (Int32)} (hk83 : ∀ {x1 : Int64} {x3 : Int64} {x5 : Int32} {x7 : Int32} {x9 : Int64} {x11 : Int64} {x13 : Int32} {x14 : Int32} {p1_firstDoor : Int64} {p1_secondDoor : Int64} {p1_all : Int32} {p1_chain_places : Int32} {p1_chain_deep : Int32} {p1_chain_wants : Int64} {p1_chain_turn : Int32} {p1_chain_wheel : Int64} {p1_chain_leaks : Int64} {H : Heap} {locs : List Loc} {ls : Array Slot}, k83 x1 x3 x5 x7 x9 x11 x13 x14 p1_firstDoor p1_secondDoor p1_all p1_chain_places p1_chain_deep p1_chain_wants = some z → Wd dd g mv A s H locs (w_X5_sureOf g q_p1 q_p1_chain p1_firstDoor p1_secondDoor p1_all p1_chain_places p1_chain_deep p1_chain_turn p1_chain_wheel p1_chain_leaks p1_chain_wants) → lv_has ls 20 [(0, .ref q_p1), (1, .long x1), (3, .long x3), (5, .int x5), (7, .int x7), (9, .long x9), (11, .long x11), (13, .int x13), (14, .int x14)] → W p l e (rmH (3 + (d + 1)) 0 0) s m args below meth c H locs 0 0 (MQ below (Qo dd g (some (.int z)) (fun u : Unit => (w_X5_sureOf g q_p1 q_p1_chain p1_firstDoor p1_secondDoor p1_all p1_chain_places p1_chain_deep p1_chain_turn p1_chain_wheel p1_chain_leaks p1_chain_wants)) A) args s 0 0 A) (F0 m 83 ls [])) : ∀ {x1 : Int64} {x3 : Int64} {x5 : Int32} {x7 : Int32} {x9 : Int64} {x11 : Int64} {x13 : Int32} {x14 : Int32} {x17 : Int64} {p1_firstDoor : Int64} {p1_secondDoor : Int64} {p1_all : Int32} {p1_chain_places : Int32} {p1_chain_deep : Int32} {p1_chain_wants : Int64} {p1_chain_turn : Int32} {p1_chain_wheel : Int64} {p1_chain_leaks : Int64} {H : Heap} {locs : List Loc} {ls : Array Slot}, f_X5_sureOf_181 rc k83 x1 x3 x5 x7 x9 x11 x13 x14 x17 p1_firstDoor p1_secondDoor p1_all p1_chain_places p1_chain_deep p1_chain_wants = some z → Wd dd g mv A s H locs (w_X5_sureOf g q_p1 q_p1_chain p1_firstDoor p1_secondDoor p1_all p1_chain_places p1_chain_deep p1_chain_turn p1_chain_wheel p1_chain_leaks p1_chain_wants) → lv_has ls 20 [(0, .ref q_p1), (1, .long x1), (3, .long x3), (5, .int x5), (7, .int x7), (9, .long x9), (11, .long x11), (13, .int x13), (14, .int x14), (17, .long x17)] → W p l e (rmH (3 + (d + 1)) 0 0) s m args below meth c H locs 0 0 (MQ below (Qo dd g (some (.int z)) (fun u : Unit => (w_X5_sureOf g q_p1 q_p1_chain p1_firstDoor p1_secondDoor p1_all p1_chain_places p1_chain_deep p1_chain_turn p1_chain_wheel p1_chain_leaks p1_chain_wants)) A) args s 0 0 A) (F0 m 181 ls []) := by
  intro x1 x3 x5 x7 x9 x11 x13 x14 x17 p1_firstDoor p1_secondDoor p1_all p1_chain_places p1_chain_deep p1_chain_wants p1_chain_turn p1_chain_wheel p1_chain_leaks H locs ls hr hw hl
  refine lv_lload F.1 F.2.1 dX5_sureOf_181 (lv_at hl 9 rfl) ?_
  refine lv_lload F.1 F.2.1 dX5_sureOf_183 (lv_at hl 5 rfl) ?_
  refine lv_land F.1 F.2.1 dX5_sureOf_185 ?_
  refine lv_lconst (v := 0) F.1 F.2.1 dX5_sureOf_186 (by decide) ?_
  refine W.lcmp F.1 F.2.1 dX5_sureOf_187 ?_
  refine lv_if_ne (tgt := 195) F.1 F.2.1 dX5_sureOf_188 (by decide) (fun hc2 => ?_) (fun hc2 => ?_)
  · replace hr := (if_neg hc2).symm.trans hr
    refine lv_iconst (v := 0) F.1 F.2.1 dX5_sureOf_195 (by decide) ?_
    exact b_X5_sureOf_196 F hret hlk hrc (hk83) hr hw (lv_sub hl [0, 1, 2, 3, 4, 5, 6, 7, 8, 9] rfl)
  · replace hr := (if_pos hc2).symm.trans hr
    refine lv_iconst (v := 1) F.1 F.2.1 dX5_sureOf_191 (by decide) ?_
    refine lv_goto (tgt := 196) F.1 F.2.1 dX5_sureOf_192 (by decide) ?_
    exact b_X5_sureOf_196 F hret hlk hrc (hk83) hr hw (lv_sub hl [0, 1, 2, 3, 4, 5, 6, 7, 8, 9] rfl)
set_option maxHeartbeats 4000000 in
set_option maxRecDepth 100000 in
theorem b_X5_sureOf_83 {q_p1 q_p1_chain : Nat} {d : Nat} {z : Int32} (F : Fx p m c cX5_sureOf 20 s args RX5) (hret : meth.sig.returnType = some .int) (hlk : meth.locks = false) {rc : Int64 → Int64 → Int32 → Int32 → Int32 → Int64 → Int64 → Int64 → Int32 → Int32 → Int32 → Option (Int32)} (hrc : ∀ (q_p1 : Nat) (q_p1_chain : Nat) (p1_firstDoor : Int64) (p1_secondDoor : Int64) (p1_all : Int32) (p1_chain_places : Int32) (p1_chain_deep : Int32) (p1_chain_turn : Int32) (p1_chain_wheel : Int64) (p1_chain_leaks : Int64) (p1_chain_wants : Int64) (a2 : Int64) (a3 : Int64) (a4 : Int32) (a5 : Int32) (a6 : Int32) (z : Int32), rc p1_firstDoor p1_secondDoor p1_all p1_chain_places p1_chain_deep p1_chain_wants a2 a3 a4 a5 a6 = some z → ∀ (sz : Nat), Met l yX5_sureOf (.code yX5_sureOf cX5_sureOf 20 (some .int) :: WS) (rmH (3 + d) 0 0) (va_Pc [.ref q_p1, .long a2, .long a3, .int a4, .int a5, .int a6] (PW dd g mv (w_X5_sureOf g q_p1 q_p1_chain p1_firstDoor p1_secondDoor p1_all p1_chain_places p1_chain_deep p1_chain_turn p1_chain_wheel p1_chain_leaks p1_chain_wants) sz)) (Qo dd g (some (.int z)) (fun u : Unit => (w_X5_sureOf g q_p1 q_p1_chain p1_firstDoor p1_secondDoor p1_all p1_chain_places p1_chain_deep p1_chain_turn p1_chain_wheel p1_chain_leaks p1_chain_wants)) (va_A (w_X5_sureOf g q_p1 q_p1_chain p1_firstDoor p1_secondDoor p1_all p1_chain_places p1_chain_deep p1_chain_turn p1_chain_wheel p1_chain_leaks p1_chain_wants) sz)) 0 0 (va_A (w_X5_sureOf g q_p1 q_p1_chain p1_firstDoor p1_secondDoor p1_all p1_chain_places p1_chain_deep p1_chain_turn p1_chain_wheel p1_chain_leaks p1_chain_wants) sz)) : ∀ (n : Nat), ∀ {x1 : Int64} {x3 : Int64} {x5 : Int32} {x7 : Int32} {x9 : Int64} {x11 : Int64} {x13 : Int32} {x14 : Int32} {p1_firstDoor : Int64} {p1_secondDoor : Int64} {p1_all : Int32} {p1_chain_places : Int32} {p1_chain_deep : Int32} {p1_chain_wants : Int64} {p1_chain_turn : Int32} {p1_chain_wheel : Int64} {p1_chain_leaks : Int64} {H : Heap} {locs : List Loc} {ls : Array Slot}, f_X5_sureOf_83 rc  n x1 x3 x5 x7 x9 x11 x13 x14 p1_firstDoor p1_secondDoor p1_all p1_chain_places p1_chain_deep p1_chain_wants = some z → Wd dd g mv A s H locs (w_X5_sureOf g q_p1 q_p1_chain p1_firstDoor p1_secondDoor p1_all p1_chain_places p1_chain_deep p1_chain_turn p1_chain_wheel p1_chain_leaks p1_chain_wants) → lv_has ls 20 [(0, .ref q_p1), (1, .long x1), (3, .long x3), (5, .int x5), (7, .int x7), (9, .long x9), (11, .long x11), (13, .int x13), (14, .int x14)] → W p l e (rmH (3 + (d + 1)) 0 0) s m args below meth c H locs 0 0 (MQ below (Qo dd g (some (.int z)) (fun u : Unit => (w_X5_sureOf g q_p1 q_p1_chain p1_firstDoor p1_secondDoor p1_all p1_chain_places p1_chain_deep p1_chain_turn p1_chain_wheel p1_chain_leaks p1_chain_wants)) A) args s 0 0 A) (F0 m 83 ls []) := by
  intro n
  induction n with
  | zero =>
    intros
    rename_i hr _ _
    cases hr
  | succ n ih =>
    intro x1 x3 x5 x7 x9 x11 x13 x14 p1_firstDoor p1_secondDoor p1_all p1_chain_places p1_chain_deep p1_chain_wants p1_chain_turn p1_chain_wheel p1_chain_leaks H locs ls hr hw hl
    refine lv_iload F.1 F.2.1 dX5_sureOf_83 (lv_at hl 8 rfl) ?_
    refine lv_iconst (v := 3) F.1 F.2.1 dX5_sureOf_85 (by decide) ?_
    refine lv_icmp_ge (tgt := 229) F.1 F.2.1 dX5_sureOf_86 (by decide) (fun hc3 => ?_) (fun hc3 => ?_)
    · replace hr := (if_pos hc3).symm.trans hr
      refine lv_iload F.1 F.2.1 dX5_sureOf_229 (lv_at hl 7 rfl) ?_
      cases hr
      exact ret_i () F hret hlk hw (Nat.le_refl _) (Nat.le_refl _) dX5_sureOf_231
    · replace hr := (if_neg hc3).symm.trans hr
      refine lv_iload F.1 F.2.1 dX5_sureOf_89 (lv_at hl 7 rfl) ?_
      refine lv_iload F.1 F.2.1 dX5_sureOf_91 (lv_at hl 4 rfl) ?_
      refine lv_icmp_ge (tgt := 229) F.1 F.2.1 dX5_sureOf_93 (by decide) (fun hc4 => ?_) (fun hc4 => ?_)
      · replace hr := (if_pos hc4).symm.trans hr
        refine lv_iload F.1 F.2.1 dX5_sureOf_229 (lv_at hl 7 rfl) ?_
        cases hr
        exact ret_i () F hret hlk hw (Nat.le_refl _) (Nat.le_refl _) dX5_sureOf_231
      · replace hr := (if_neg hc4).symm.trans hr
        refine lv_aload_n F.1 F.2.1 dX5_sureOf_96 rfl (lv_at hl 0 rfl) ?_
        refine gf_X5_9 F hw 0 rfl rfl dX5_sureOf_97 ?_
        refine lv_lload_n F.1 F.2.1 dX5_sureOf_100 rfl (lv_at hl 2 rfl) ?_
        refine gs_n F (by decide +kernel) hw dX5_sureOf_101 ?_
        refine lv_iload F.1 F.2.1 dX5_sureOf_104 (lv_at hl 8 rfl) ?_
        obtain ⟨hg5, hr⟩ := g_no hr
        refine ar_m F hw hg5 dX5_sureOf_106 ?_
        obtain ⟨z6, hz6, hr⟩ := Option.bind_eq_some_iff.mp hr
        refine call_o (wr := [(q_p1, .inr (5, [.ref q_p1_chain, .long p1_firstDoor, .long p1_secondDoor, .int p1_all]))]) (run_V (As := [.long x3, .int (mvI (x14).toNatClampNeg)]) (rest := []) F k_X5_42 (c_X1_turned l dd g mv q_p1_chain p1_chain_places p1_chain_deep p1_chain_turn p1_chain_wheel p1_chain_leaks p1_chain_wants x3 ((mvI (x14).toNatClampNeg)) z6 hz6 _) hw [1] (by decide) rfl (ci := 1) rfl rfl rfl rfl hl.1 rfl (Nat.le_of_ble_eq_true rfl) dX5_sureOf_107 (by refine ⟨?_, ?_⟩ <;> simp only [rmH] <;> omega) ⟨Nat.zero_le _, Nat.zero_le _⟩) hw [1] [0] rfl rfl (by decide) (by decide) (fun u7 H locs hw => ?_)
        replace hw : Wd dd g mv A s H locs (w_X5_sureOf g q_p1 q_p1_chain p1_firstDoor p1_secondDoor p1_all p1_chain_places p1_chain_deep p1_chain_turn p1_chain_wheel p1_chain_leaks p1_chain_wants) := hw.sub [0, 1] (by decide) rfl
        refine W.eq (g2 := F0 m 110 ls (.long z6 :: [])) rfl ?_
        refine lv_lstore (lv' := [(15, .long z6), (0, .ref q_p1), (1, .long x1), (3, .long x3), (5, .int x5), (7, .int x7), (9, .long x9), (11, .long x11), (13, .int x13), (14, .int x14)]) F.1 F.2.1 dX5_sureOf_110 hl (by decide) rfl (fun ls hl => ?_)
        refine lv_aload_n F.1 F.2.1 dX5_sureOf_112 rfl (lv_at hl 1 rfl) ?_
        refine gf_X5_9 F hw 0 rfl rfl dX5_sureOf_113 ?_
        refine lv_aload_n F.1 F.2.1 dX5_sureOf_116 rfl (lv_at hl 1 rfl) ?_
        refine gf_X5_9 F hw 0 rfl rfl dX5_sureOf_117 ?_
        refine lv_lload_n F.1 F.2.1 dX5_sureOf_120 rfl (lv_at hl 2 rfl) ?_
        refine gs_n F (by decide +kernel) hw dX5_sureOf_121 ?_
        refine lv_iload F.1 F.2.1 dX5_sureOf_124 (lv_at hl 9 rfl) ?_
        obtain ⟨hg8, hr⟩ := g_no hr
        refine ar_m F hw hg8 dX5_sureOf_126 ?_
        obtain ⟨z9, hz9, hr⟩ := Option.bind_eq_some_iff.mp hr
        refine call_o (wr := [(q_p1, .inr (5, [.ref q_p1_chain, .long p1_firstDoor, .long p1_secondDoor, .int p1_all]))]) (run_V (As := [.long x1, .int (mvI (x14).toNatClampNeg)]) (rest := [.ref q_p1_chain]) F k_X5_42 (c_X1_turned l dd g mv q_p1_chain p1_chain_places p1_chain_deep p1_chain_turn p1_chain_wheel p1_chain_leaks p1_chain_wants x1 ((mvI (x14).toNatClampNeg)) z9 hz9 _) hw [1] (by decide) rfl (ci := 1) rfl rfl rfl rfl hl.1 rfl (Nat.le_of_ble_eq_true rfl) dX5_sureOf_127 (by refine ⟨?_, ?_⟩ <;> simp only [rmH] <;> omega) ⟨Nat.zero_le _, Nat.zero_le _⟩) hw [1] [0] rfl rfl (by decide) (by decide) (fun u10 H locs hw => ?_)
        replace hw : Wd dd g mv A s H locs (w_X5_sureOf g q_p1 q_p1_chain p1_firstDoor p1_secondDoor p1_all p1_chain_places p1_chain_deep p1_chain_turn p1_chain_wheel p1_chain_leaks p1_chain_wants) := hw.sub [0, 1] (by decide) rfl
        refine W.eq (g2 := F0 m 130 ls (.long z9 :: .ref q_p1_chain :: [])) rfl ?_
        refine lv_lload F.1 F.2.1 dX5_sureOf_130 (lv_at hl 0 rfl) ?_
        obtain ⟨z11, hz11, hr⟩ := Option.bind_eq_some_iff.mp hr
        refine call_o (wr := [(q_p1, .inr (5, [.ref q_p1_chain, .long p1_firstDoor, .long p1_secondDoor, .int p1_all]))]) (run_V (As := [.long z9, .long z6]) (rest := []) F k_X5_46 (c_X1_step l dd g mv q_p1_chain p1_chain_places p1_chain_deep p1_chain_turn p1_chain_wheel p1_chain_leaks p1_chain_wants z9 z6 z11 hz11 _) hw [1] (by decide) rfl (ci := 1) rfl rfl rfl rfl hl.1 rfl (Nat.le_of_ble_eq_true rfl) dX5_sureOf_132 (by refine ⟨?_, ?_⟩ <;> simp only [rmH] <;> omega) ⟨Nat.zero_le _, Nat.zero_le _⟩) hw [1] [0] rfl rfl (by decide) (by decide) (fun u12 H locs hw => ?_)
        replace hw : Wd dd g mv A s H locs (w_X5_sureOf g q_p1 q_p1_chain p1_firstDoor p1_secondDoor p1_all p1_chain_places p1_chain_deep p1_chain_turn p1_chain_wheel p1_chain_leaks p1_chain_wants) := hw.sub [0, 1] (by decide) rfl
        refine W.eq (g2 := F0 m 135 ls (.long z11 :: [])) rfl ?_
        refine lv_lstore (lv' := [(17, .long z11), (15, .long z6), (0, .ref q_p1), (1, .long x1), (3, .long x3), (5, .int x5), (7, .int x7), (9, .long x9), (11, .long x11), (13, .int x13), (14, .int x14)]) F.1 F.2.1 dX5_sureOf_135 hl (by decide) rfl (fun ls hl => ?_)
        refine lv_lload F.1 F.2.1 dX5_sureOf_137 (lv_at hl 0 rfl) ?_
        refine lv_lload F.1 F.2.1 dX5_sureOf_139 (lv_at hl 7 rfl) ?_
        refine lv_land F.1 F.2.1 dX5_sureOf_141 ?_
        refine lv_lconst (v := 0) F.1 F.2.1 dX5_sureOf_142 (by decide) ?_
        refine W.lcmp F.1 F.2.1 dX5_sureOf_143 ?_
        refine lv_if_eq (tgt := 181) F.1 F.2.1 dX5_sureOf_144 (by decide) (fun hc13 => ?_) (fun hc13 => ?_)
        · replace hr := (if_pos hc13).symm.trans hr
          exact b_X5_sureOf_181 F hret hlk hrc (ih) hr hw (lv_sub hl [2, 3, 4, 5, 6, 7, 8, 9, 10, 0] rfl)
        · replace hr := (if_neg hc13).symm.trans hr
          refine lv_lload F.1 F.2.1 dX5_sureOf_147 (lv_at hl 0 rfl) ?_
          refine lv_lload F.1 F.2.1 dX5_sureOf_149 (lv_at hl 8 rfl) ?_
          refine lv_land F.1 F.2.1 dX5_sureOf_151 ?_
          refine lv_lconst (v := 0) F.1 F.2.1 dX5_sureOf_152 (by decide) ?_
          refine W.lcmp F.1 F.2.1 dX5_sureOf_153 ?_
          refine lv_if_eq (tgt := 181) F.1 F.2.1 dX5_sureOf_154 (by decide) (fun hc14 => ?_) (fun hc14 => ?_)
          · replace hr := (if_pos hc14).symm.trans hr
            exact b_X5_sureOf_181 F hret hlk hrc (ih) hr hw (lv_sub hl [2, 3, 4, 5, 6, 7, 8, 9, 10, 0] rfl)
          · replace hr := (if_neg hc14).symm.trans hr
            refine lv_aload_n F.1 F.2.1 dX5_sureOf_157 rfl (lv_at hl 2 rfl) ?_
            refine lv_lload F.1 F.2.1 dX5_sureOf_158 (lv_at hl 0 rfl) ?_
            refine lv_lload F.1 F.2.1 dX5_sureOf_160 (lv_at hl 1 rfl) ?_
            refine lv_iload F.1 F.2.1 dX5_sureOf_162 (lv_at hl 5 rfl) ?_
            refine lv_iconst (v := 1) F.1 F.2.1 dX5_sureOf_164 (by decide) ?_
            refine lv_isub F.1 F.2.1 dX5_sureOf_165 ?_
            refine lv_iload F.1 F.2.1 dX5_sureOf_166 (lv_at hl 6 rfl) ?_
            refine lv_ineg F.1 F.2.1 dX5_sureOf_168 ?_
            refine lv_iload F.1 F.2.1 dX5_sureOf_169 (lv_at hl 9 rfl) ?_
            refine lv_ineg F.1 F.2.1 dX5_sureOf_171 ?_
            obtain ⟨z15, hz15, hr⟩ := Option.bind_eq_some_iff.mp hr
            refine call_o (wr := []) (run_S (As := [.ref q_p1, .long z11, .long z6, .int (x5 - (1 : Int32)), .int (-x7), .int (-x13)]) (rest := []) F k_X5_34 (hrc q_p1 q_p1_chain p1_firstDoor p1_secondDoor p1_all p1_chain_places p1_chain_deep p1_chain_turn p1_chain_wheel p1_chain_leaks p1_chain_wants z11 z6 ((x5 - (1 : Int32))) ((-x7)) ((-x13)) z15 hz15 _) hw [0, 1] (by decide) rfl rfl hl.1 rfl (Nat.le_of_ble_eq_true rfl) dX5_sureOf_172 (by refine ⟨?_, ?_⟩ <;> simp only [rmH] <;> omega) ⟨Nat.zero_le _, Nat.zero_le _⟩) hw [0, 1] [] rfl rfl (by decide) (by decide) (fun u16 H locs hw => ?_)
            replace hw : Wd dd g mv A s H locs (w_X5_sureOf g q_p1 q_p1_chain p1_firstDoor p1_secondDoor p1_all p1_chain_places p1_chain_deep p1_chain_turn p1_chain_wheel p1_chain_leaks p1_chain_wants) := hw.sub [0, 1] (by decide) rfl
            refine W.eq (g2 := F0 m 175 ls (.int z15 :: [])) rfl ?_
            refine lv_ineg F.1 F.2.1 dX5_sureOf_175 ?_
            refine lv_istore (lv' := [(19, .int (-z15)), (17, .long z11), (15, .long z6), (0, .ref q_p1), (1, .long x1), (3, .long x3), (5, .int x5), (7, .int x7), (9, .long x9), (11, .long x11), (13, .int x13), (14, .int x14)]) F.1 F.2.1 dX5_sureOf_176 hl (by decide) rfl (fun ls hl => ?_)
            refine lv_goto (tgt := 214) F.1 F.2.1 dX5_sureOf_178 (by decide) ?_
            exact b_X5_sureOf_214 F hret hlk hrc (ih) hr hw (lv_sub hl [3, 4, 5, 6, 7, 8, 9, 10, 11, 0] rfl)
set_option maxHeartbeats 4000000 in
set_option maxRecDepth 100000 in
theorem b_X5_sureOf_74 {q_p1 q_p1_chain : Nat} {d : Nat} {z : Int32} (F : Fx p m c cX5_sureOf 20 s args RX5) (hret : meth.sig.returnType = some .int) (hlk : meth.locks = false) {rc : Int64 → Int64 → Int32 → Int32 → Int32 → Int64 → Int64 → Int64 → Int32 → Int32 → Int32 → Option (Int32)} (hrc : ∀ (q_p1 : Nat) (q_p1_chain : Nat) (p1_firstDoor : Int64) (p1_secondDoor : Int64) (p1_all : Int32) (p1_chain_places : Int32) (p1_chain_deep : Int32) (p1_chain_turn : Int32) (p1_chain_wheel : Int64) (p1_chain_leaks : Int64) (p1_chain_wants : Int64) (a2 : Int64) (a3 : Int64) (a4 : Int32) (a5 : Int32) (a6 : Int32) (z : Int32), rc p1_firstDoor p1_secondDoor p1_all p1_chain_places p1_chain_deep p1_chain_wants a2 a3 a4 a5 a6 = some z → ∀ (sz : Nat), Met l yX5_sureOf (.code yX5_sureOf cX5_sureOf 20 (some .int) :: WS) (rmH (3 + d) 0 0) (va_Pc [.ref q_p1, .long a2, .long a3, .int a4, .int a5, .int a6] (PW dd g mv (w_X5_sureOf g q_p1 q_p1_chain p1_firstDoor p1_secondDoor p1_all p1_chain_places p1_chain_deep p1_chain_turn p1_chain_wheel p1_chain_leaks p1_chain_wants) sz)) (Qo dd g (some (.int z)) (fun u : Unit => (w_X5_sureOf g q_p1 q_p1_chain p1_firstDoor p1_secondDoor p1_all p1_chain_places p1_chain_deep p1_chain_turn p1_chain_wheel p1_chain_leaks p1_chain_wants)) (va_A (w_X5_sureOf g q_p1 q_p1_chain p1_firstDoor p1_secondDoor p1_all p1_chain_places p1_chain_deep p1_chain_turn p1_chain_wheel p1_chain_leaks p1_chain_wants) sz)) 0 0 (va_A (w_X5_sureOf g q_p1 q_p1_chain p1_firstDoor p1_secondDoor p1_all p1_chain_places p1_chain_deep p1_chain_turn p1_chain_wheel p1_chain_leaks p1_chain_wants) sz)) : ∀ {x1 : Int64} {x3 : Int64} {x5 : Int32} {x6 : Int32} {x7 : Int32} {x9 : Int64} {y0 : Int64} {p1_firstDoor : Int64} {p1_secondDoor : Int64} {p1_all : Int32} {p1_chain_places : Int32} {p1_chain_deep : Int32} {p1_chain_wants : Int64} {p1_chain_turn : Int32} {p1_chain_wheel : Int64} {p1_chain_leaks : Int64} {H : Heap} {locs : List Loc} {ls : Array Slot}, f_X5_sureOf_74 rc  x1 x3 x5 x6 x7 x9 y0 p1_firstDoor p1_secondDoor p1_all p1_chain_places p1_chain_deep p1_chain_wants = some z → Wd dd g mv A s H locs (w_X5_sureOf g q_p1 q_p1_chain p1_firstDoor p1_secondDoor p1_all p1_chain_places p1_chain_deep p1_chain_turn p1_chain_wheel p1_chain_leaks p1_chain_wants) → lv_has ls 20 [(0, .ref q_p1), (1, .long x1), (3, .long x3), (5, .int x5), (6, .int x6), (7, .int x7), (9, .long x9)] → W p l e (rmH (3 + (d + 1)) 0 0) s m args below meth c H locs 0 0 (MQ below (Qo dd g (some (.int z)) (fun u : Unit => (w_X5_sureOf g q_p1 q_p1_chain p1_firstDoor p1_secondDoor p1_all p1_chain_places p1_chain_deep p1_chain_turn p1_chain_wheel p1_chain_leaks p1_chain_wants)) A) args s 0 0 A) (F0 m 74 ls [.long y0]) := by
  intro x1 x3 x5 x6 x7 x9 y0 p1_firstDoor p1_secondDoor p1_all p1_chain_places p1_chain_deep p1_chain_wants p1_chain_turn p1_chain_wheel p1_chain_leaks H locs ls hr hw hl
  refine lv_lstore (lv' := [(11, .long y0), (0, .ref q_p1), (1, .long x1), (3, .long x3), (5, .int x5), (6, .int x6), (7, .int x7), (9, .long x9)]) F.1 F.2.1 dX5_sureOf_74 hl (by decide) rfl (fun ls hl => ?_)
  refine lv_iload F.1 F.2.1 dX5_sureOf_76 (lv_at hl 5 rfl) ?_
  refine lv_istore (lv' := [(13, .int x6), (11, .long y0), (0, .ref q_p1), (1, .long x1), (3, .long x3), (5, .int x5), (6, .int x6), (7, .int x7), (9, .long x9)]) F.1 F.2.1 dX5_sureOf_78 hl (by decide) rfl (fun ls hl => ?_)
  refine lv_iconst (v := 0) F.1 F.2.1 dX5_sureOf_80 (by decide) ?_
  refine lv_istore (lv' := [(14, .int (0 : Int32)), (13, .int x6), (11, .long y0), (0, .ref q_p1), (1, .long x1), (3, .long x3), (5, .int x5), (6, .int x6), (7, .int x7), (9, .long x9)]) F.1 F.2.1 dX5_sureOf_81 hl (by decide) rfl (fun ls hl => ?_)
  exact b_X5_sureOf_83 F hret hlk hrc  fuel hr hw (lv_sub hl [3, 4, 5, 6, 8, 9, 2, 1, 0] rfl)
set_option maxHeartbeats 4000000 in
set_option maxRecDepth 100000 in
theorem b_X5_sureOf_56 {q_p1 q_p1_chain : Nat} {d : Nat} {z : Int32} (F : Fx p m c cX5_sureOf 20 s args RX5) (hret : meth.sig.returnType = some .int) (hlk : meth.locks = false) {rc : Int64 → Int64 → Int32 → Int32 → Int32 → Int64 → Int64 → Int64 → Int32 → Int32 → Int32 → Option (Int32)} (hrc : ∀ (q_p1 : Nat) (q_p1_chain : Nat) (p1_firstDoor : Int64) (p1_secondDoor : Int64) (p1_all : Int32) (p1_chain_places : Int32) (p1_chain_deep : Int32) (p1_chain_turn : Int32) (p1_chain_wheel : Int64) (p1_chain_leaks : Int64) (p1_chain_wants : Int64) (a2 : Int64) (a3 : Int64) (a4 : Int32) (a5 : Int32) (a6 : Int32) (z : Int32), rc p1_firstDoor p1_secondDoor p1_all p1_chain_places p1_chain_deep p1_chain_wants a2 a3 a4 a5 a6 = some z → ∀ (sz : Nat), Met l yX5_sureOf (.code yX5_sureOf cX5_sureOf 20 (some .int) :: WS) (rmH (3 + d) 0 0) (va_Pc [.ref q_p1, .long a2, .long a3, .int a4, .int a5, .int a6] (PW dd g mv (w_X5_sureOf g q_p1 q_p1_chain p1_firstDoor p1_secondDoor p1_all p1_chain_places p1_chain_deep p1_chain_turn p1_chain_wheel p1_chain_leaks p1_chain_wants) sz)) (Qo dd g (some (.int z)) (fun u : Unit => (w_X5_sureOf g q_p1 q_p1_chain p1_firstDoor p1_secondDoor p1_all p1_chain_places p1_chain_deep p1_chain_turn p1_chain_wheel p1_chain_leaks p1_chain_wants)) (va_A (w_X5_sureOf g q_p1 q_p1_chain p1_firstDoor p1_secondDoor p1_all p1_chain_places p1_chain_deep p1_chain_turn p1_chain_wheel p1_chain_leaks p1_chain_wants) sz)) 0 0 (va_A (w_X5_sureOf g q_p1 q_p1_chain p1_firstDoor p1_secondDoor p1_all p1_chain_places p1_chain_deep p1_chain_turn p1_chain_wheel p1_chain_leaks p1_chain_wants) sz)) : ∀ {x1 : Int64} {x3 : Int64} {x5 : Int32} {x6 : Int32} {x7 : Int32} {x8 : Int32} {y0 : Int64} {p1_firstDoor : Int64} {p1_secondDoor : Int64} {p1_all : Int32} {p1_chain_places : Int32} {p1_chain_deep : Int32} {p1_chain_wants : Int64} {p1_chain_turn : Int32} {p1_chain_wheel : Int64} {p1_chain_leaks : Int64} {H : Heap} {locs : List Loc} {ls : Array Slot}, f_X5_sureOf_56 rc  x1 x3 x5 x6 x7 x8 y0 p1_firstDoor p1_secondDoor p1_all p1_chain_places p1_chain_deep p1_chain_wants = some z → Wd dd g mv A s H locs (w_X5_sureOf g q_p1 q_p1_chain p1_firstDoor p1_secondDoor p1_all p1_chain_places p1_chain_deep p1_chain_turn p1_chain_wheel p1_chain_leaks p1_chain_wants) → lv_has ls 20 [(0, .ref q_p1), (1, .long x1), (3, .long x3), (5, .int x5), (6, .int x6), (7, .int x7), (8, .int x8)] → W p l e (rmH (3 + (d + 1)) 0 0) s m args below meth c H locs 0 0 (MQ below (Qo dd g (some (.int z)) (fun u : Unit => (w_X5_sureOf g q_p1 q_p1_chain p1_firstDoor p1_secondDoor p1_all p1_chain_places p1_chain_deep p1_chain_turn p1_chain_wheel p1_chain_leaks p1_chain_wants)) A) args s 0 0 A) (F0 m 56 ls [.long y0]) := by
  intro x1 x3 x5 x6 x7 x8 y0 p1_firstDoor p1_secondDoor p1_all p1_chain_places p1_chain_deep p1_chain_wants p1_chain_turn p1_chain_wheel p1_chain_leaks H locs ls hr hw hl
  refine lv_lstore (lv' := [(9, .long y0), (0, .ref q_p1), (1, .long x1), (3, .long x3), (5, .int x5), (6, .int x6), (7, .int x7), (8, .int x8)]) F.1 F.2.1 dX5_sureOf_56 hl (by decide) rfl (fun ls hl => ?_)
  refine lv_iload F.1 F.2.1 dX5_sureOf_58 (lv_at hl 7 rfl) ?_
  refine lv_if_eq (tgt := 70) F.1 F.2.1 dX5_sureOf_60 (by decide) (fun hc17 => ?_) (fun hc17 => ?_)
  · replace hr := (if_pos hc17).symm.trans hr
    refine lv_aload_n F.1 F.2.1 dX5_sureOf_70 rfl (lv_at hl 1 rfl) ?_
    refine gf_X5_15 F hw 0 rfl rfl dX5_sureOf_71 ?_
    exact b_X5_sureOf_74 F hret hlk hrc  hr hw (lv_sub hl [1, 2, 3, 4, 5, 6, 0] rfl)
  · replace hr := (if_neg hc17).symm.trans hr
    refine lv_aload_n F.1 F.2.1 dX5_sureOf_63 rfl (lv_at hl 1 rfl) ?_
    refine gf_X5_19 F hw 0 rfl rfl dX5_sureOf_64 ?_
    refine lv_goto (tgt := 74) F.1 F.2.1 dX5_sureOf_67 (by decide) ?_
    exact b_X5_sureOf_74 F hret hlk hrc  hr hw (lv_sub hl [1, 2, 3, 4, 5, 6, 0] rfl)
set_option maxHeartbeats 4000000 in
set_option maxRecDepth 100000 in
theorem b_X5_sureOf_38 {q_p1 q_p1_chain : Nat} {d : Nat} {z : Int32} (F : Fx p m c cX5_sureOf 20 s args RX5) (hret : meth.sig.returnType = some .int) (hlk : meth.locks = false) {rc : Int64 → Int64 → Int32 → Int32 → Int32 → Int64 → Int64 → Int64 → Int32 → Int32 → Int32 → Option (Int32)} (hrc : ∀ (q_p1 : Nat) (q_p1_chain : Nat) (p1_firstDoor : Int64) (p1_secondDoor : Int64) (p1_all : Int32) (p1_chain_places : Int32) (p1_chain_deep : Int32) (p1_chain_turn : Int32) (p1_chain_wheel : Int64) (p1_chain_leaks : Int64) (p1_chain_wants : Int64) (a2 : Int64) (a3 : Int64) (a4 : Int32) (a5 : Int32) (a6 : Int32) (z : Int32), rc p1_firstDoor p1_secondDoor p1_all p1_chain_places p1_chain_deep p1_chain_wants a2 a3 a4 a5 a6 = some z → ∀ (sz : Nat), Met l yX5_sureOf (.code yX5_sureOf cX5_sureOf 20 (some .int) :: WS) (rmH (3 + d) 0 0) (va_Pc [.ref q_p1, .long a2, .long a3, .int a4, .int a5, .int a6] (PW dd g mv (w_X5_sureOf g q_p1 q_p1_chain p1_firstDoor p1_secondDoor p1_all p1_chain_places p1_chain_deep p1_chain_turn p1_chain_wheel p1_chain_leaks p1_chain_wants) sz)) (Qo dd g (some (.int z)) (fun u : Unit => (w_X5_sureOf g q_p1 q_p1_chain p1_firstDoor p1_secondDoor p1_all p1_chain_places p1_chain_deep p1_chain_turn p1_chain_wheel p1_chain_leaks p1_chain_wants)) (va_A (w_X5_sureOf g q_p1 q_p1_chain p1_firstDoor p1_secondDoor p1_all p1_chain_places p1_chain_deep p1_chain_turn p1_chain_wheel p1_chain_leaks p1_chain_wants) sz)) 0 0 (va_A (w_X5_sureOf g q_p1 q_p1_chain p1_firstDoor p1_secondDoor p1_all p1_chain_places p1_chain_deep p1_chain_turn p1_chain_wheel p1_chain_leaks p1_chain_wants) sz)) : ∀ {x1 : Int64} {x3 : Int64} {x5 : Int32} {x6 : Int32} {x7 : Int32} {y0 : Int32} {p1_firstDoor : Int64} {p1_secondDoor : Int64} {p1_all : Int32} {p1_chain_places : Int32} {p1_chain_deep : Int32} {p1_chain_wants : Int64} {p1_chain_turn : Int32} {p1_chain_wheel : Int64} {p1_chain_leaks : Int64} {H : Heap} {locs : List Loc} {ls : Array Slot}, f_X5_sureOf_38 rc  x1 x3 x5 x6 x7 y0 p1_firstDoor p1_secondDoor p1_all p1_chain_places p1_chain_deep p1_chain_wants = some z → Wd dd g mv A s H locs (w_X5_sureOf g q_p1 q_p1_chain p1_firstDoor p1_secondDoor p1_all p1_chain_places p1_chain_deep p1_chain_turn p1_chain_wheel p1_chain_leaks p1_chain_wants) → lv_has ls 20 [(0, .ref q_p1), (1, .long x1), (3, .long x3), (5, .int x5), (6, .int x6), (7, .int x7)] → W p l e (rmH (3 + (d + 1)) 0 0) s m args below meth c H locs 0 0 (MQ below (Qo dd g (some (.int z)) (fun u : Unit => (w_X5_sureOf g q_p1 q_p1_chain p1_firstDoor p1_secondDoor p1_all p1_chain_places p1_chain_deep p1_chain_turn p1_chain_wheel p1_chain_leaks p1_chain_wants)) A) args s 0 0 A) (F0 m 38 ls [.int y0]) := by
  intro x1 x3 x5 x6 x7 y0 p1_firstDoor p1_secondDoor p1_all p1_chain_places p1_chain_deep p1_chain_wants p1_chain_turn p1_chain_wheel p1_chain_leaks H locs ls hr hw hl
  refine lv_istore (lv' := [(8, .int y0), (0, .ref q_p1), (1, .long x1), (3, .long x3), (5, .int x5), (6, .int x6), (7, .int x7)]) F.1 F.2.1 dX5_sureOf_38 hl (by decide) rfl (fun ls hl => ?_)
  refine lv_iload F.1 F.2.1 dX5_sureOf_40 (lv_at hl 0 rfl) ?_
  refine lv_if_eq (tgt := 52) F.1 F.2.1 dX5_sureOf_42 (by decide) (fun hc18 => ?_) (fun hc18 => ?_)
  · replace hr := (if_pos hc18).symm.trans hr
    refine lv_aload_n F.1 F.2.1 dX5_sureOf_52 rfl (lv_at hl 1 rfl) ?_
    refine gf_X5_19 F hw 0 rfl rfl dX5_sureOf_53 ?_
    exact b_X5_sureOf_56 F hret hlk hrc  hr hw (lv_sub hl [1, 2, 3, 4, 5, 6, 0] rfl)
  · replace hr := (if_neg hc18).symm.trans hr
    refine lv_aload_n F.1 F.2.1 dX5_sureOf_45 rfl (lv_at hl 1 rfl) ?_
    refine gf_X5_15 F hw 0 rfl rfl dX5_sureOf_46 ?_
    refine lv_goto (tgt := 56) F.1 F.2.1 dX5_sureOf_49 (by decide) ?_
    exact b_X5_sureOf_56 F hret hlk hrc  hr hw (lv_sub hl [1, 2, 3, 4, 5, 6, 0] rfl)
set_option maxHeartbeats 4000000 in
set_option maxRecDepth 100000 in
theorem c_X5_sureOf (l : Launch) (dd : va_G) (g : Nat → ClassId) (mv : Nat) : ∀ (d : Nat) (q_p1 : Nat) (q_p1_chain : Nat) (p1_firstDoor : Int64) (p1_secondDoor : Int64) (p1_all : Int32) (p1_chain_places : Int32) (p1_chain_deep : Int32) (p1_chain_turn : Int32) (p1_chain_wheel : Int64) (p1_chain_leaks : Int64) (p1_chain_wants : Int64) (a2 : Int64) (a3 : Int64) (a4 : Int32) (a5 : Int32) (a6 : Int32) (z : Int32), f_X5_sureOf d p1_firstDoor p1_secondDoor p1_all p1_chain_places p1_chain_deep p1_chain_wants a2 a3 a4 a5 a6 = some z → ∀ (sz : Nat), Met l yX5_sureOf (.code yX5_sureOf cX5_sureOf 20 (some .int) :: WS) (rmH (3 + d) 0 0) (va_Pc [.ref q_p1, .long a2, .long a3, .int a4, .int a5, .int a6] (PW dd g mv (w_X5_sureOf g q_p1 q_p1_chain p1_firstDoor p1_secondDoor p1_all p1_chain_places p1_chain_deep p1_chain_turn p1_chain_wheel p1_chain_leaks p1_chain_wants) sz)) (Qo dd g (some (.int z)) (fun u : Unit => (w_X5_sureOf g q_p1 q_p1_chain p1_firstDoor p1_secondDoor p1_all p1_chain_places p1_chain_deep p1_chain_turn p1_chain_wheel p1_chain_leaks p1_chain_wants)) (va_A (w_X5_sureOf g q_p1 q_p1_chain p1_firstDoor p1_secondDoor p1_all p1_chain_places p1_chain_deep p1_chain_turn p1_chain_wheel p1_chain_leaks p1_chain_wants) sz)) 0 0 (va_A (w_X5_sureOf g q_p1 q_p1_chain p1_firstDoor p1_secondDoor p1_all p1_chain_places p1_chain_deep p1_chain_turn p1_chain_wheel p1_chain_leaks p1_chain_wants) sz) := by
  intro d
  induction d with
  | zero =>
    intros
    rename_i hr _
    cases hr
  | succ d hrc =>
    intro q_p1 q_p1_chain p1_firstDoor p1_secondDoor p1_all p1_chain_places p1_chain_deep p1_chain_turn p1_chain_wheel p1_chain_leaks p1_chain_wants a2 a3 a4 a5 a6 z hr sz
    refine Met_intro (by decide) (Nat.le_of_ble_eq_true rfl) ?_
    intro p e s m below meth c A ls F hret hlk hin hw hl
    replace hl : lv_has ls 20 [(0, .ref q_p1), (1, .long a2), (3, .long a3), (5, .int a4), (6, .int a5), (7, .int a6)] := hl
    refine lv_iload F.1 F.2.1 dX5_sureOf_0 (lv_at hl 3 rfl) ?_
    refine lv_if_le (tgt := 19) F.1 F.2.1 dX5_sureOf_2 (by decide) (fun hc19 => ?_) (fun hc19 => ?_)
    · replace hr := (if_pos hc19).symm.trans hr
      refine lv_iconst (v := 0) F.1 F.2.1 dX5_sureOf_19 (by decide) ?_
      cases hr
      exact ret_i () F hret hlk hw (Nat.le_refl _) (Nat.le_refl _) dX5_sureOf_20
    · replace hr := (if_neg hc19).symm.trans hr
      refine lv_iload F.1 F.2.1 dX5_sureOf_5 (lv_at hl 3 rfl) ?_
      refine lv_bipush (v := 10) F.1 F.2.1 dX5_sureOf_7 (by decide) ?_
      refine lv_icmp_gt (tgt := 19) F.1 F.2.1 dX5_sureOf_9 (by decide) (fun hc20 => ?_) (fun hc20 => ?_)
      · replace hr := (if_pos hc20).symm.trans hr
        refine lv_iconst (v := 0) F.1 F.2.1 dX5_sureOf_19 (by decide) ?_
        cases hr
        exact ret_i () F hret hlk hw (Nat.le_refl _) (Nat.le_refl _) dX5_sureOf_20
      · replace hr := (if_neg hc20).symm.trans hr
        refine lv_aload_n F.1 F.2.1 dX5_sureOf_12 rfl (lv_at hl 0 rfl) ?_
        refine gf_X5_9 F hw 0 rfl rfl dX5_sureOf_13 ?_
        refine lv_ifnonnull (tgt := 21) F.1 F.2.1 dX5_sureOf_16 (by decide) ?_
        refine lv_aload_n F.1 F.2.1 dX5_sureOf_21 rfl (lv_at hl 0 rfl) ?_
        refine gf_X5_22 F hw 0 rfl rfl dX5_sureOf_22 ?_
        refine lv_iload F.1 F.2.1 dX5_sureOf_25 (lv_at hl 3 rfl) ?_
        refine lv_isub F.1 F.2.1 dX5_sureOf_27 ?_
        refine lv_iconst (v := 1) F.1 F.2.1 dX5_sureOf_28 (by decide) ?_
        refine lv_iand F.1 F.2.1 dX5_sureOf_29 ?_
        refine lv_if_ne (tgt := 37) F.1 F.2.1 dX5_sureOf_30 (by decide) (fun hc21 => ?_) (fun hc21 => ?_)
        · replace hr := (if_neg hc21).symm.trans hr
          refine lv_iconst (v := 0) F.1 F.2.1 dX5_sureOf_37 (by decide) ?_
          exact b_X5_sureOf_38 F hret hlk hrc  hr hw (lv_sub hl [0, 1, 2, 3, 4, 5] rfl)
        · replace hr := (if_pos hc21).symm.trans hr
          refine lv_iconst (v := 1) F.1 F.2.1 dX5_sureOf_33 (by decide) ?_
          refine lv_goto (tgt := 38) F.1 F.2.1 dX5_sureOf_34 (by decide) ?_
          exact b_X5_sureOf_38 F hret hlk hrc  hr hw (lv_sub hl [0, 1, 2, 3, 4, 5] rfl)
end WALK
