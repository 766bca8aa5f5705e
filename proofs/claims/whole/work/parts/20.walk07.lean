section WALK
variable {p : Program} {l : Launch} {e : Env} {s : State} {m : MethodId} {args : Array Value} {below : List Frame} {meth : Method} {c : Code} {dd : va_G} {g : Nat → ClassId} {mv : Nat} {A : Nat → Prop}
set_option maxHeartbeats 4000000 in
set_option maxRecDepth 100000 in
theorem c_X11_isThere (l : Launch) (dd : va_G) (g : Nat → ClassId) (mv : Nat) (q_t : Nat) (q_t_chain : Nat) (o_t_pad : Value) (o_t_words : Value) (o_t_sights : Value) (o_t_images : Value) (o_t_run : Value) (o_t_seek : Value) (o_t_hanging : Value) (o_t_race : Value) (o_t_widow : Value) (o_t_came : Value) (t_changes : Int32) (t_fewestAt : Int32) (t_hungAt : Int32) (t_cameAt : Int32) (t_fewestPulls : Int32) (t_fewestRow : Int32) (t_chain_places : Int32) (t_chain_deep : Int32) (t_chain_turn : Int32) (t_chain_wheel : Int64) (t_chain_leaks : Int64) (t_chain_wants : Int64) (a1 : Int32) (z : Int32) (hr : f_X11_isThere t_chain_places a1 = some z) (sz : Nat) : Met l yX11_isThere (.code yX11_isThere cX11_isThere 2 (some .boolean) :: WS) (rmH 0 0 0) (va_Pc [.ref q_t, .int a1] (PW dd g mv (w_X11_isThere g q_t q_t_chain o_t_pad o_t_words o_t_sights o_t_images o_t_run o_t_seek o_t_hanging o_t_race o_t_widow o_t_came t_changes t_fewestAt t_hungAt t_cameAt t_fewestPulls t_fewestRow t_chain_places t_chain_deep t_chain_turn t_chain_wheel t_chain_leaks t_chain_wants) sz)) (Qo dd g (some (.int z)) (fun u : Unit => (w_X11_isThere g q_t q_t_chain o_t_pad o_t_words o_t_sights o_t_images o_t_run o_t_seek o_t_hanging o_t_race o_t_widow o_t_came t_changes t_fewestAt t_hungAt t_cameAt t_fewestPulls t_fewestRow t_chain_places t_chain_deep t_chain_turn t_chain_wheel t_chain_leaks t_chain_wants)) (va_A (w_X11_isThere g q_t q_t_chain o_t_pad o_t_words o_t_sights o_t_images o_t_run o_t_seek o_t_hanging o_t_race o_t_widow o_t_came t_changes t_fewestAt t_hungAt t_cameAt t_fewestPulls t_fewestRow t_chain_places t_chain_deep t_chain_turn t_chain_wheel t_chain_leaks t_chain_wants) sz)) 0 0 (va_A (w_X11_isThere g q_t q_t_chain o_t_pad o_t_words o_t_sights o_t_images o_t_run o_t_seek o_t_hanging o_t_race o_t_widow o_t_came t_changes t_fewestAt t_hungAt t_cameAt t_fewestPulls t_fewestRow t_chain_places t_chain_deep t_chain_turn t_chain_wheel t_chain_leaks t_chain_wants) sz) := by
  refine Met_intro (by decide) (Nat.le_of_ble_eq_true rfl) ?_
  intro p e s m below meth c A ls F hret hlk hin hw hl
  replace hl : lv_has ls 2 [(0, .ref q_t), (1, .int a1)] := hl
  refine lv_iload_n F.1 F.2.1 dX11_isThere_0 rfl (lv_at hl 1 rfl) ?_
  refine lv_if_lt (tgt := 19) F.1 F.2.1 dX11_isThere_1 (by decide) (fun hc1 => ?_) (fun hc1 => ?_)
  · replace hr := (if_pos hc1).symm.trans hr
    refine lv_iconst (v := 0) F.1 F.2.1 dX11_isThere_19 (by decide) ?_
    cases hr
    exact ret_z (v := (0 : Int32)) () F hret hlk (by decide) hw (Nat.le_refl _) (Nat.le_refl _) dX11_isThere_20
  · replace hr := (if_neg hc1).symm.trans hr
    refine lv_iload_n F.1 F.2.1 dX11_isThere_4 rfl (lv_at hl 1 rfl) ?_
    refine lv_aload_n F.1 F.2.1 dX11_isThere_5 rfl (lv_at hl 0 rfl) ?_
    refine gf_X11_19 F hw 0 rfl rfl dX11_isThere_6 ?_
    refine gf_X11_105 F hw 1 rfl rfl dX11_isThere_9 ?_
    refine lv_icmp_ge (tgt := 19) F.1 F.2.1 dX11_isThere_12 (by decide) (fun hc2 => ?_) (fun hc2 => ?_)
    · replace hr := (if_pos hc2).symm.trans hr
      refine lv_iconst (v := 0) F.1 F.2.1 dX11_isThere_19 (by decide) ?_
      cases hr
      exact ret_z (v := (0 : Int32)) () F hret hlk (by decide) hw (Nat.le_refl _) (Nat.le_refl _) dX11_isThere_20
    · replace hr := (if_neg hc2).symm.trans hr
      refine lv_iconst (v := 1) F.1 F.2.1 dX11_isThere_15 (by decide) ?_
      refine lv_goto (tgt := 20) F.1 F.2.1 dX11_isThere_16 (by decide) ?_
      cases hr
      exact ret_z (v := (1 : Int32)) () F hret hlk (by decide) hw (Nat.le_refl _) (Nat.le_refl _) dX11_isThere_20
set_option maxHeartbeats 4000000 in
set_option maxRecDepth 100000 in
theorem c_X11_withLane (l : Launch) (dd : va_G) (g : Nat → ClassId) (mv : Nat) (a1 : Int64) (a2 : Int32) (a3 : Int32) (z : Int64) (hr : f_X11_withLane a1 a2 a3 = some z) (sz : Nat) : Met l yX11_withLane (.code yX11_withLane cX11_withLane 4 (some .long) :: WS) (rmH 0 0 0) (va_Pc [.long a1, .int a2, .int a3] (PW dd g mv (w_X11_withLane g ) sz)) (Qo dd g (some (.long z)) (fun u : Unit => (w_X11_withLane g )) (va_A (w_X11_withLane g ) sz)) 0 0 (va_A (w_X11_withLane g ) sz) := by
  refine Met_intro (by decide) (Nat.le_of_ble_eq_true rfl) ?_
  intro p e s m below meth c A ls F hret hlk hin hw hl
  replace hl : lv_has ls 4 [(0, .long a1), (2, .int a2), (3, .int a3)] := hl
  refine lv_lload_n F.1 F.2.1 dX11_withLane_0 rfl (lv_at hl 0 rfl) ?_
  refine lv_ldc2 F.1 F.2.1 F.2.2.2.1 (F.2.2.2.2 _ cl_X11_299) dX11_withLane_1 ?_
  refine lv_iconst (v := 5) F.1 F.2.1 dX11_withLane_4 (by decide) ?_
  refine lv_iload_n F.1 F.2.1 dX11_withLane_5 rfl (lv_at hl 1 rfl) ?_
  refine lv_imul F.1 F.2.1 dX11_withLane_6 ?_
  refine lv_lshl F.1 F.2.1 dX11_withLane_7 rfl ?_
  refine lv_ldc2 F.1 F.2.1 F.2.2.2.1 (F.2.2.2.2 _ cl_X11_151) dX11_withLane_8 ?_
  refine lv_lxor F.1 F.2.1 dX11_withLane_11 ?_
  refine lv_land F.1 F.2.1 dX11_withLane_12 ?_
  refine lv_iload_n F.1 F.2.1 dX11_withLane_13 rfl (lv_at hl 2 rfl) ?_
  refine lv_i2l F.1 F.2.1 dX11_withLane_14 rfl ?_
  refine lv_iconst (v := 5) F.1 F.2.1 dX11_withLane_15 (by decide) ?_
  refine lv_iload_n F.1 F.2.1 dX11_withLane_16 rfl (lv_at hl 1 rfl) ?_
  refine lv_imul F.1 F.2.1 dX11_withLane_17 ?_
  refine lv_lshl F.1 F.2.1 dX11_withLane_18 rfl ?_
  refine lv_lor F.1 F.2.1 dX11_withLane_19 ?_
  cases hr
  exact ret_l () F hret hlk hw (Nat.le_refl _) (Nat.le_refl _) dX11_withLane_20
set_option maxHeartbeats 4000000 in
set_option maxRecDepth 100000 in
theorem b_X11_pail_138 {q_t q_t_chain : Nat} {z : Int32 × Int32 × Int64 × Int64} (F : Fx p m c cX11_pail 6 s args RX11) (hret : meth.sig.returnType = some .int) (hlk : meth.locks = false) : ∀ {x5 : Int32} {t_changes : Int32} {t_chain_wheel : Int64} {t_chain_leaks : Int64} {t_fewestAt : Int32} {t_hungAt : Int32} {t_cameAt : Int32} {t_fewestPulls : Int32} {t_fewestRow : Int32} {t_chain_places : Int32} {t_chain_deep : Int32} {t_chain_turn : Int32} {t_chain_wants : Int64} {o_t_pad : Value} {o_t_words : Value} {o_t_sights : Value} {o_t_images : Value} {o_t_run : Value} {o_t_seek : Value} {o_t_hanging : Value} {o_t_race : Value} {o_t_widow : Value} {o_t_came : Value} {H : Heap} {locs : List Loc} {ls : Array Slot}, f_X11_pail_138  x5 t_changes t_chain_wheel t_chain_leaks = some z → Wd dd g mv A s H locs (w_X11_pail g q_t q_t_chain o_t_pad o_t_words o_t_sights o_t_images o_t_run o_t_seek o_t_hanging o_t_race o_t_widow o_t_came t_changes t_fewestAt t_hungAt t_cameAt t_fewestPulls t_fewestRow t_chain_places t_chain_deep t_chain_turn t_chain_wheel t_chain_leaks t_chain_wants) → lv_has ls 6 [(0, .ref q_t), (5, .int x5)] → W p l e (rmH (1) 0 0) s m args below meth c H locs 0 0 (MQ below (Qo dd g (some (.int z.1)) (fun u : Unit => (w_X11_pail g q_t q_t_chain o_t_pad o_t_words o_t_sights o_t_images o_t_run o_t_seek o_t_hanging o_t_race o_t_widow o_t_came z.2.1 t_fewestAt t_hungAt t_cameAt t_fewestPulls t_fewestRow t_chain_places t_chain_deep t_chain_turn z.2.2.1 z.2.2.2 t_chain_wants)) A) args s 0 0 A) (F0 m 138 ls []) := by
  intro x5 t_changes t_chain_wheel t_chain_leaks t_fewestAt t_hungAt t_cameAt t_fewestPulls t_fewestRow t_chain_places t_chain_deep t_chain_turn t_chain_wants o_t_pad o_t_words o_t_sights o_t_images o_t_run o_t_seek o_t_hanging o_t_race o_t_widow o_t_came H locs ls hr hw hl
  refine lv_aload_n F.1 F.2.1 dX11_pail_138 rfl (lv_at hl 0 rfl) ?_
  refine lv_dup F.1 F.2.1 dX11_pail_139 rfl ?_
  refine gf_X11_86 F hw 0 rfl rfl dX11_pail_140 ?_
  refine lv_iconst (v := 1) F.1 F.2.1 dX11_pail_143 (by decide) ?_
  refine lv_iadd F.1 F.2.1 dX11_pail_144 ?_
  refine pf_X11_86 F hw 0 rfl (Nat.le_of_ble_eq_true rfl) dX11_pail_145 (fun H locs hw => ?_)
  replace hw : Wd dd g mv A s H locs (w_X11_pail g q_t q_t_chain o_t_pad o_t_words o_t_sights o_t_images o_t_run o_t_seek o_t_hanging o_t_race o_t_widow o_t_came ((t_changes + (1 : Int32))) t_fewestAt t_hungAt t_cameAt t_fewestPulls t_fewestRow t_chain_places t_chain_deep t_chain_turn t_chain_wheel t_chain_leaks t_chain_wants) := hw
  refine lv_iload F.1 F.2.1 dX11_pail_148 (lv_at hl 1 rfl) ?_
  cases hr
  exact ret_i () F hret hlk hw (Nat.le_refl _) (Nat.le_refl _) dX11_pail_150
set_option maxHeartbeats 4000000 in
set_option maxRecDepth 100000 in
theorem b_X11_pail_40 {q_t q_t_chain : Nat} {z : Int32 × Int32 × Int64 × Int64} (F : Fx p m c cX11_pail 6 s args RX11) (hret : meth.sig.returnType = some .int) (hlk : meth.locks = false) : ∀ {x1 : Int32} {x2 : Int32} {x3 : Int32} {y0 : Int32} {y1 : Int32} {t_changes : Int32} {t_chain_places : Int32} {t_chain_turn : Int32} {t_chain_wheel : Int64} {t_chain_leaks : Int64} {t_fewestAt : Int32} {t_hungAt : Int32} {t_cameAt : Int32} {t_fewestPulls : Int32} {t_fewestRow : Int32} {t_chain_deep : Int32} {t_chain_wants : Int64} {o_t_pad : Value} {o_t_words : Value} {o_t_sights : Value} {o_t_images : Value} {o_t_run : Value} {o_t_seek : Value} {o_t_hanging : Value} {o_t_race : Value} {o_t_widow : Value} {o_t_came : Value} {H : Heap} {locs : List Loc} {ls : Array Slot}, f_X11_pail_40  x1 x2 x3 y0 y1 t_changes t_chain_places t_chain_turn t_chain_wheel t_chain_leaks = some z → Wd dd g mv A s H locs (w_X11_pail g q_t q_t_chain o_t_pad o_t_words o_t_sights o_t_images o_t_run o_t_seek o_t_hanging o_t_race o_t_widow o_t_came t_changes t_fewestAt t_hungAt t_cameAt t_fewestPulls t_fewestRow t_chain_places t_chain_deep t_chain_turn t_chain_wheel t_chain_leaks t_chain_wants) → lv_has ls 6 [(0, .ref q_t), (1, .int x1), (2, .int x2), (3, .int x3)] → W p l e (rmH (1) 0 0) s m args below meth c H locs 0 0 (MQ below (Qo dd g (some (.int z.1)) (fun u : Unit => (w_X11_pail g q_t q_t_chain o_t_pad o_t_words o_t_sights o_t_images o_t_run o_t_seek o_t_hanging o_t_race o_t_widow o_t_came z.2.1 t_fewestAt t_hungAt t_cameAt t_fewestPulls t_fewestRow t_chain_places t_chain_deep t_chain_turn z.2.2.1 z.2.2.2 t_chain_wants)) A) args s 0 0 A) (F0 m 40 ls [.int y1, .int y0]) := by
  intro x1 x2 x3 y0 y1 t_changes t_chain_places t_chain_turn t_chain_wheel t_chain_leaks t_fewestAt t_hungAt t_cameAt t_fewestPulls t_fewestRow t_chain_deep t_chain_wants o_t_pad o_t_words o_t_sights o_t_images o_t_run o_t_seek o_t_hanging o_t_race o_t_widow o_t_came H locs ls hr hw hl
  refine lv_icmp_le (tgt := 46) F.1 F.2.1 dX11_pail_40 (by decide) (fun hc1 => ?_) (fun hc1 => ?_)
  · replace hr := (if_pos hc1).symm.trans hr
    refine lv_aload_n F.1 F.2.1 dX11_pail_46 rfl (lv_at hl 0 rfl) ?_
    refine gf_X11_19 F hw 0 rfl rfl dX11_pail_47 ?_
    refine lv_iload_n F.1 F.2.1 dX11_pail_50 rfl (lv_at hl 1 rfl) ?_
    refine lv_aload_n F.1 F.2.1 dX11_pail_51 rfl (lv_at hl 0 rfl) ?_
    refine gf_X11_19 F hw 0 rfl rfl dX11_pail_52 ?_
    refine gf_X11_122 F hw 1 rfl rfl dX11_pail_55 ?_
    obtain ⟨z2, hz2, hr⟩ := Option.bind_eq_some_iff.mp hr
    refine call_o (wr := [(q_t, .inr (11, [o_t_pad, .ref q_t_chain, o_t_words, o_t_sights, o_t_images, o_t_run, o_t_seek, o_t_hanging, o_t_race, o_t_widow, o_t_came, .int t_changes, .int t_fewestAt, .int t_hungAt, .int t_cameAt, .int t_fewestPulls, .int t_fewestRow]))]) (run_V (As := [.int x1, .int t_chain_turn]) (rest := []) F k_X11_125 (c_X1_placeOf l dd g mv q_t_chain t_chain_places t_chain_deep t_chain_turn t_chain_wheel t_chain_leaks t_chain_wants x1 t_chain_turn z2 hz2 _) hw [1] (by decide) rfl (ci := 1) rfl rfl rfl rfl hl.1 rfl (Nat.le_of_ble_eq_true rfl) dX11_pail_58 ⟨Nat.le_of_ble_eq_true rfl, Nat.le_of_ble_eq_true rfl⟩ ⟨Nat.le_of_ble_eq_true rfl, Nat.le_of_ble_eq_true rfl⟩) hw [1] [0] rfl rfl (by decide) (by decide) (fun u3 H locs hw => ?_)
    replace hw : Wd dd g mv A s H locs (w_X11_pail g q_t q_t_chain o_t_pad o_t_words o_t_sights o_t_images o_t_run o_t_seek o_t_hanging o_t_race o_t_widow o_t_came t_changes t_fewestAt t_hungAt t_cameAt t_fewestPulls t_fewestRow t_chain_places t_chain_deep t_chain_turn t_chain_wheel t_chain_leaks t_chain_wants) := hw.sub [0, 1] (by decide) rfl
    refine W.eq (g2 := F0 m 61 ls (.int z2 :: [])) rfl ?_
    refine lv_istore (lv' := [(4, .int z2), (0, .ref q_t), (1, .int x1), (2, .int x2), (3, .int x3)]) F.1 F.2.1 dX11_pail_61 hl (by decide) rfl (fun ls hl => ?_)
    refine lv_iload_n F.1 F.2.1 dX11_pail_63 rfl (lv_at hl 3 rfl) ?_
    refine lv_if_ne (tgt := 104) F.1 F.2.1 dX11_pail_64 (by decide) (fun hc4 => ?_) (fun hc4 => ?_)
    · replace hr := (if_neg hc4).symm.trans hr
      refine lv_aload_n F.1 F.2.1 dX11_pail_104 rfl (lv_at hl 1 rfl) ?_
      refine gf_X11_19 F hw 0 rfl rfl dX11_pail_105 ?_
      refine gf_X11_141 F hw 1 rfl rfl dX11_pail_108 ?_
      refine lv_iload F.1 F.2.1 dX11_pail_111 (lv_at hl 0 rfl) ?_
      obtain ⟨z5, hz5, hr⟩ := Option.bind_eq_some_iff.mp hr
      refine call_o (wr := [(q_t, .inr (11, [o_t_pad, .ref q_t_chain, o_t_words, o_t_sights, o_t_images, o_t_run, o_t_seek, o_t_hanging, o_t_race, o_t_widow, o_t_came, .int t_changes, .int t_fewestAt, .int t_hungAt, .int t_cameAt, .int t_fewestPulls, .int t_fewestRow])), (q_t_chain, .inr (1, [.int t_chain_places, .int t_chain_deep, .int t_chain_turn, .long t_chain_wheel, .long t_chain_leaks, .long t_chain_wants]))]) (run_S (As := [.long t_chain_leaks, .int z2]) (rest := []) F k_X11_133 (c_X11_lane l dd g mv t_chain_leaks z2 z5 hz5 _) hw [] (by decide) rfl rfl hl.1 rfl (Nat.le_of_ble_eq_true rfl) dX11_pail_113 ⟨Nat.le_of_ble_eq_true rfl, Nat.le_of_ble_eq_true rfl⟩ ⟨Nat.le_of_ble_eq_true rfl, Nat.le_of_ble_eq_true rfl⟩) hw [] [0, 1] rfl rfl (by decide) (by decide) (fun u6 H locs hw => ?_)
      replace hw : Wd dd g mv A s H locs (w_X11_pail g q_t q_t_chain o_t_pad o_t_words o_t_sights o_t_images o_t_run o_t_seek o_t_hanging o_t_race o_t_widow o_t_came t_changes t_fewestAt t_hungAt t_cameAt t_fewestPulls t_fewestRow t_chain_places t_chain_deep t_chain_turn t_chain_wheel t_chain_leaks t_chain_wants) := hw.sub [0, 1] (by decide) rfl
      refine W.eq (g2 := F0 m 116 ls (.int z5 :: [])) rfl ?_
      refine lv_istore (lv' := [(5, .int z5), (4, .int z2), (0, .ref q_t), (1, .int x1), (2, .int x2), (3, .int x3)]) F.1 F.2.1 dX11_pail_116 hl (by decide) rfl (fun ls hl => ?_)
      refine lv_aload_n F.1 F.2.1 dX11_pail_118 rfl (lv_at hl 2 rfl) ?_
      refine gf_X11_19 F hw 0 rfl rfl dX11_pail_119 ?_
      refine lv_aload_n F.1 F.2.1 dX11_pail_122 rfl (lv_at hl 2 rfl) ?_
      refine gf_X11_19 F hw 0 rfl rfl dX11_pail_123 ?_
      refine gf_X11_141 F hw 1 rfl rfl dX11_pail_126 ?_
      refine lv_iload F.1 F.2.1 dX11_pail_129 (lv_at hl 1 rfl) ?_
      refine lv_iload_n F.1 F.2.1 dX11_pail_131 rfl (lv_at hl 5 rfl) ?_
      obtain ⟨z7, hz7, hr⟩ := Option.bind_eq_some_iff.mp hr
      refine call_o (wr := [(q_t, .inr (11, [o_t_pad, .ref q_t_chain, o_t_words, o_t_sights, o_t_images, o_t_run, o_t_seek, o_t_hanging, o_t_race, o_t_widow, o_t_came, .int t_changes, .int t_fewestAt, .int t_hungAt, .int t_cameAt, .int t_fewestPulls, .int t_fewestRow])), (q_t_chain, .inr (1, [.int t_chain_places, .int t_chain_deep, .int t_chain_turn, .long t_chain_wheel, .long t_chain_leaks, .long t_chain_wants]))]) (run_S (As := [.long t_chain_leaks, .int z2, .int x3]) (rest := [.ref q_t_chain]) F k_X11_137 (c_X11_withLane l dd g mv t_chain_leaks z2 x3 z7 hz7 _) hw [] (by decide) rfl rfl hl.1 rfl (Nat.le_of_ble_eq_true rfl) dX11_pail_132 ⟨Nat.le_of_ble_eq_true rfl, Nat.le_of_ble_eq_true rfl⟩ ⟨Nat.le_of_ble_eq_true rfl, Nat.le_of_ble_eq_true rfl⟩) hw [] [0, 1] rfl rfl (by decide) (by decide) (fun u8 H locs hw => ?_)
      replace hw : Wd dd g mv A s H locs (w_X11_pail g q_t q_t_chain o_t_pad o_t_words o_t_sights o_t_images o_t_run o_t_seek o_t_hanging o_t_race o_t_widow o_t_came t_changes t_fewestAt t_hungAt t_cameAt t_fewestPulls t_fewestRow t_chain_places t_chain_deep t_chain_turn t_chain_wheel t_chain_leaks t_chain_wants) := hw.sub [0, 1] (by decide) rfl
      refine W.eq (g2 := F0 m 135 ls (.long z7 :: .ref q_t_chain :: [])) rfl ?_
      refine pf_X11_141 F hw 1 rfl (Nat.le_of_ble_eq_true rfl) dX11_pail_135 (fun H locs hw => ?_)
      replace hw : Wd dd g mv A s H locs (w_X11_pail g q_t q_t_chain o_t_pad o_t_words o_t_sights o_t_images o_t_run o_t_seek o_t_hanging o_t_race o_t_widow o_t_came t_changes t_fewestAt t_hungAt t_cameAt t_fewestPulls t_fewestRow t_chain_places t_chain_deep t_chain_turn t_chain_wheel z7 t_chain_wants) := hw
      exact b_X11_pail_138 F hret hlk  hr hw (lv_sub hl [2, 0] rfl)
    · replace hr := (if_pos hc4).symm.trans hr
      refine lv_aload_n F.1 F.2.1 dX11_pail_67 rfl (lv_at hl 1 rfl) ?_
      refine gf_X11_19 F hw 0 rfl rfl dX11_pail_68 ?_
      refine gf_X11_129 F hw 1 rfl rfl dX11_pail_71 ?_
      refine lv_iload F.1 F.2.1 dX11_pail_74 (lv_at hl 0 rfl) ?_
      obtain ⟨z9, hz9, hr⟩ := Option.bind_eq_some_iff.mp hr
      refine call_o (wr := [(q_t, .inr (11, [o_t_pad, .ref q_t_chain, o_t_words, o_t_sights, o_t_images, o_t_run, o_t_seek, o_t_hanging, o_t_race, o_t_widow, o_t_came, .int t_changes, .int t_fewestAt, .int t_hungAt, .int t_cameAt, .int t_fewestPulls, .int t_fewestRow])), (q_t_chain, .inr (1, [.int t_chain_places, .int t_chain_deep, .int t_chain_turn, .long t_chain_wheel, .long t_chain_leaks, .long t_chain_wants]))]) (run_S (As := [.long t_chain_wheel, .int z2]) (rest := []) F k_X11_133 (c_X11_lane l dd g mv t_chain_wheel z2 z9 hz9 _) hw [] (by decide) rfl rfl hl.1 rfl (Nat.le_of_ble_eq_true rfl) dX11_pail_76 ⟨Nat.le_of_ble_eq_true rfl, Nat.le_of_ble_eq_true rfl⟩ ⟨Nat.le_of_ble_eq_true rfl, Nat.le_of_ble_eq_true rfl⟩) hw [] [0, 1] rfl rfl (by decide) (by decide) (fun u10 H locs hw => ?_)
      replace hw : Wd dd g mv A s H locs (w_X11_pail g q_t q_t_chain o_t_pad o_t_words o_t_sights o_t_images o_t_run o_t_seek o_t_hanging o_t_race o_t_widow o_t_came t_changes t_fewestAt t_hungAt t_cameAt t_fewestPulls t_fewestRow t_chain_places t_chain_deep t_chain_turn t_chain_wheel t_chain_leaks t_chain_wants) := hw.sub [0, 1] (by decide) rfl
      refine W.eq (g2 := F0 m 79 ls (.int z9 :: [])) rfl ?_
      refine lv_istore (lv' := [(5, .int z9), (4, .int z2), (0, .ref q_t), (1, .int x1), (2, .int x2), (3, .int x3)]) F.1 F.2.1 dX11_pail_79 hl (by decide) rfl (fun ls hl => ?_)
      refine lv_aload_n F.1 F.2.1 dX11_pail_81 rfl (lv_at hl 2 rfl) ?_
      refine gf_X11_19 F hw 0 rfl rfl dX11_pail_82 ?_
      refine lv_aload_n F.1 F.2.1 dX11_pail_85 rfl (lv_at hl 2 rfl) ?_
      refine gf_X11_19 F hw 0 rfl rfl dX11_pail_86 ?_
      refine gf_X11_129 F hw 1 rfl rfl dX11_pail_89 ?_
      refine lv_iload F.1 F.2.1 dX11_pail_92 (lv_at hl 1 rfl) ?_
      refine lv_iload_n F.1 F.2.1 dX11_pail_94 rfl (lv_at hl 5 rfl) ?_
      obtain ⟨z11, hz11, hr⟩ := Option.bind_eq_some_iff.mp hr
      refine call_o (wr := [(q_t, .inr (11, [o_t_pad, .ref q_t_chain, o_t_words, o_t_sights, o_t_images, o_t_run, o_t_seek, o_t_hanging, o_t_race, o_t_widow, o_t_came, .int t_changes, .int t_fewestAt, .int t_hungAt, .int t_cameAt, .int t_fewestPulls, .int t_fewestRow])), (q_t_chain, .inr (1, [.int t_chain_places, .int t_chain_deep, .int t_chain_turn, .long t_chain_wheel, .long t_chain_leaks, .long t_chain_wants]))]) (run_S (As := [.long t_chain_wheel, .int z2, .int x3]) (rest := [.ref q_t_chain]) F k_X11_137 (c_X11_withLane l dd g mv t_chain_wheel z2 x3 z11 hz11 _) hw [] (by decide) rfl rfl hl.1 rfl (Nat.le_of_ble_eq_true rfl) dX11_pail_95 ⟨Nat.le_of_ble_eq_true rfl, Nat.le_of_ble_eq_true rfl⟩ ⟨Nat.le_of_ble_eq_true rfl, Nat.le_of_ble_eq_true rfl⟩) hw [] [0, 1] rfl rfl (by decide) (by decide) (fun u12 H locs hw => ?_)
      replace hw : Wd dd g mv A s H locs (w_X11_pail g q_t q_t_chain o_t_pad o_t_words o_t_sights o_t_images o_t_run o_t_seek o_t_hanging o_t_race o_t_widow o_t_came t_changes t_fewestAt t_hungAt t_cameAt t_fewestPulls t_fewestRow t_chain_places t_chain_deep t_chain_turn t_chain_wheel t_chain_leaks t_chain_wants) := hw.sub [0, 1] (by decide) rfl
      refine W.eq (g2 := F0 m 98 ls (.long z11 :: .ref q_t_chain :: [])) rfl ?_
      refine pf_X11_129 F hw 1 rfl (Nat.le_of_ble_eq_true rfl) dX11_pail_98 (fun H locs hw => ?_)
      replace hw : Wd dd g mv A s H locs (w_X11_pail g q_t q_t_chain o_t_pad o_t_words o_t_sights o_t_images o_t_run o_t_seek o_t_hanging o_t_race o_t_widow o_t_came t_changes t_fewestAt t_hungAt t_cameAt t_fewestPulls t_fewestRow t_chain_places t_chain_deep t_chain_turn z11 t_chain_leaks t_chain_wants) := hw
      refine lv_goto (tgt := 138) F.1 F.2.1 dX11_pail_101 (by decide) ?_
      exact b_X11_pail_138 F hret hlk  hr hw (lv_sub hl [2, 0] rfl)
  · replace hr := (if_neg hc1).symm.trans hr
    refine lv_bipush (v := -2) F.1 F.2.1 dX11_pail_43 (by decide) ?_
    cases hr
    exact ret_i () F hret hlk hw (Nat.le_refl _) (Nat.le_refl _) dX11_pail_45
set_option maxHeartbeats 4000000 in
set_option maxRecDepth 100000 in
theorem c_X11_pail (l : Launch) (dd : va_G) (g : Nat → ClassId) (mv : Nat) (q_t : Nat) (q_t_chain : Nat) (o_t_pad : Value) (o_t_words : Value) (o_t_sights : Value) (o_t_images : Value) (o_t_run : Value) (o_t_seek : Value) (o_t_hanging : Value) (o_t_race : Value) (o_t_widow : Value) (o_t_came : Value) (t_changes : Int32) (t_fewestAt : Int32) (t_hungAt : Int32) (t_cameAt : Int32) (t_fewestPulls : Int32) (t_fewestRow : Int32) (t_chain_places : Int32) (t_chain_deep : Int32) (t_chain_turn : Int32) (t_chain_wheel : Int64) (t_chain_leaks : Int64) (t_chain_wants : Int64) (a1 : Int32) (a2 : Int32) (a3 : Int32) (z : Int32 × Int32 × Int64 × Int64) (hr : f_X11_pail t_changes t_chain_places t_chain_deep t_chain_turn t_chain_wheel t_chain_leaks a1 a2 a3 = some z) (sz : Nat) : Met l yX11_pail (.code yX11_pail cX11_pail 6 (some .int) :: WS) (rmH 1 0 0) (va_Pc [.ref q_t, .int a1, .int a2, .int a3] (PW dd g mv (w_X11_pail g q_t q_t_chain o_t_pad o_t_words o_t_sights o_t_images o_t_run o_t_seek o_t_hanging o_t_race o_t_widow o_t_came t_changes t_fewestAt t_hungAt t_cameAt t_fewestPulls t_fewestRow t_chain_places t_chain_deep t_chain_turn t_chain_wheel t_chain_leaks t_chain_wants) sz)) (Qo dd g (some (.int z.1)) (fun u : Unit => (w_X11_pail g q_t q_t_chain o_t_pad o_t_words o_t_sights o_t_images o_t_run o_t_seek o_t_hanging o_t_race o_t_widow o_t_came z.2.1 t_fewestAt t_hungAt t_cameAt t_fewestPulls t_fewestRow t_chain_places t_chain_deep t_chain_turn z.2.2.1 z.2.2.2 t_chain_wants)) (va_A (w_X11_pail g q_t q_t_chain o_t_pad o_t_words o_t_sights o_t_images o_t_run o_t_seek o_t_hanging o_t_race o_t_widow o_t_came t_changes t_fewestAt t_hungAt t_cameAt t_fewestPulls t_fewestRow t_chain_places t_chain_deep t_chain_turn t_chain_wheel t_chain_leaks t_chain_wants) sz)) 0 0 (va_A (w_X11_pail g q_t q_t_chain o_t_pad o_t_words o_t_sights o_t_images o_t_run o_t_seek o_t_hanging o_t_race o_t_widow o_t_came t_changes t_fewestAt t_hungAt t_cameAt t_fewestPulls t_fewestRow t_chain_places t_chain_deep t_chain_turn t_chain_wheel t_chain_leaks t_chain_wants) sz) := by
  refine Met_intro (by decide) (Nat.le_of_ble_eq_true rfl) ?_
  intro p e s m below meth c A ls F hret hlk hin hw hl
  replace hl : lv_has ls 6 [(0, .ref q_t), (1, .int a1), (2, .int a2), (3, .int a3)] := hl
  refine lv_aload_n F.1 F.2.1 dX11_pail_0 rfl (lv_at hl 0 rfl) ?_
  refine lv_iload_n F.1 F.2.1 dX11_pail_1 rfl (lv_at hl 1 rfl) ?_
  obtain ⟨z13, hz13, hr⟩ := Option.bind_eq_some_iff.mp hr
  refine call_o (wr := []) (run_V (As := [.int a1]) (rest := []) F k_X11_115 (c_X11_isThere l dd g mv q_t q_t_chain o_t_pad o_t_words o_t_sights o_t_images o_t_run o_t_seek o_t_hanging o_t_race o_t_widow o_t_came t_changes t_fewestAt t_hungAt t_cameAt t_fewestPulls t_fewestRow t_chain_places t_chain_deep t_chain_turn t_chain_wheel t_chain_leaks t_chain_wants a1 z13 hz13 _) hw [0, 1] (by decide) rfl (ci := 11) rfl rfl rfl rfl hl.1 rfl (Nat.le_of_ble_eq_true rfl) dX11_pail_2 ⟨Nat.le_of_ble_eq_true rfl, Nat.le_of_ble_eq_true rfl⟩ ⟨Nat.le_of_ble_eq_true rfl, Nat.le_of_ble_eq_true rfl⟩) hw [0, 1] [] rfl rfl (by decide) (by decide) (fun u14 H locs hw => ?_)
  replace hw : Wd dd g mv A s H locs (w_X11_pail g q_t q_t_chain o_t_pad o_t_words o_t_sights o_t_images o_t_run o_t_seek o_t_hanging o_t_race o_t_widow o_t_came t_changes t_fewestAt t_hungAt t_cameAt t_fewestPulls t_fewestRow t_chain_places t_chain_deep t_chain_turn t_chain_wheel t_chain_leaks t_chain_wants) := hw.sub [0, 1] (by decide) rfl
  refine W.eq (g2 := F0 m 5 ls (.int z13 :: [])) rfl ?_
  refine lv_if_ne (tgt := 10) F.1 F.2.1 dX11_pail_5 (by decide) (fun hc15 => ?_) (fun hc15 => ?_)
  · replace hr := (if_neg hc15).symm.trans hr
    refine lv_iload_n F.1 F.2.1 dX11_pail_10 rfl (lv_at hl 2 rfl) ?_
    refine lv_if_lt (tgt := 43) F.1 F.2.1 dX11_pail_11 (by decide) (fun hc16 => ?_) (fun hc16 => ?_)
    · replace hr := (if_pos hc16).symm.trans hr
      refine lv_bipush (v := -2) F.1 F.2.1 dX11_pail_43 (by decide) ?_
      cases hr
      exact ret_i () F hret hlk hw (Nat.le_refl _) (Nat.le_refl _) dX11_pail_45
    · replace hr := (if_neg hc16).symm.trans hr
      refine lv_iload_n F.1 F.2.1 dX11_pail_14 rfl (lv_at hl 2 rfl) ?_
      refine lv_iconst (v := 1) F.1 F.2.1 dX11_pail_15 (by decide) ?_
      refine lv_icmp_gt (tgt := 43) F.1 F.2.1 dX11_pail_16 (by decide) (fun hc17 => ?_) (fun hc17 => ?_)
      · replace hr := (if_pos hc17).symm.trans hr
        refine lv_bipush (v := -2) F.1 F.2.1 dX11_pail_43 (by decide) ?_
        cases hr
        exact ret_i () F hret hlk hw (Nat.le_refl _) (Nat.le_refl _) dX11_pail_45
      · replace hr := (if_neg hc17).symm.trans hr
        refine lv_iload_n F.1 F.2.1 dX11_pail_19 rfl (lv_at hl 3 rfl) ?_
        refine lv_if_lt (tgt := 43) F.1 F.2.1 dX11_pail_20 (by decide) (fun hc18 => ?_) (fun hc18 => ?_)
        · replace hr := (if_pos hc18).symm.trans hr
          refine lv_bipush (v := -2) F.1 F.2.1 dX11_pail_43 (by decide) ?_
          cases hr
          exact ret_i () F hret hlk hw (Nat.le_refl _) (Nat.le_refl _) dX11_pail_45
        · replace hr := (if_neg hc18).symm.trans hr
          refine lv_iload_n F.1 F.2.1 dX11_pail_23 rfl (lv_at hl 3 rfl) ?_
          refine lv_iload_n F.1 F.2.1 dX11_pail_24 rfl (lv_at hl 2 rfl) ?_
          refine lv_if_ne (tgt := 38) F.1 F.2.1 dX11_pail_25 (by decide) (fun hc19 => ?_) (fun hc19 => ?_)
          · replace hr := (if_neg hc19).symm.trans hr
            refine lv_bipush (v := 9) F.1 F.2.1 dX11_pail_38 (by decide) ?_
            exact b_X11_pail_40 F hret hlk  hr hw (lv_sub hl [0, 1, 2, 3] rfl)
          · replace hr := (if_pos hc19).symm.trans hr
            refine lv_aload_n F.1 F.2.1 dX11_pail_28 rfl (lv_at hl 0 rfl) ?_
            refine gf_X11_19 F hw 0 rfl rfl dX11_pail_29 ?_
            refine gf_X11_119 F hw 1 rfl rfl dX11_pail_32 ?_
            refine lv_goto (tgt := 40) F.1 F.2.1 dX11_pail_35 (by decide) ?_
            exact b_X11_pail_40 F hret hlk  hr hw (lv_sub hl [0, 1, 2, 3] rfl)
  · replace hr := (if_pos hc15).symm.trans hr
    refine lv_iconst (v := -1) F.1 F.2.1 dX11_pail_8 (by decide) ?_
    cases hr
    exact ret_i () F hret hlk hw (Nat.le_refl _) (Nat.le_refl _) dX11_pail_9
set_option maxHeartbeats 4000000 in
set_option maxRecDepth 100000 in
theorem b_X11_door_93 {q_t q_t_chain : Nat} {z : Int32 × Int32 × Int64 × Int64} (F : Fx p m c cX11_door 4 s args RX11) (hret : meth.sig.returnType = some .int) (hlk : meth.locks = false) : ∀ {x3 : Int32} {y1 : Int64} {t_changes : Int32} {t_chain_wants : Int64} {t_fewestAt : Int32} {t_hungAt : Int32} {t_cameAt : Int32} {t_fewestPulls : Int32} {t_fewestRow : Int32} {t_chain_places : Int32} {t_chain_deep : Int32} {t_chain_turn : Int32} {t_chain_wheel : Int64} {t_chain_leaks : Int64} {o_t_pad : Value} {o_t_words : Value} {o_t_sights : Value} {o_t_images : Value} {o_t_run : Value} {o_t_seek : Value} {o_t_hanging : Value} {o_t_race : Value} {o_t_widow : Value} {o_t_came : Value} {H : Heap} {locs : List Loc} {ls : Array Slot}, f_X11_door_93  x3 y1 t_changes t_chain_wants = some z → Wd dd g mv A s H locs (w_X11_door g q_t q_t_chain o_t_pad o_t_words o_t_sights o_t_images o_t_run o_t_seek o_t_hanging o_t_race o_t_widow o_t_came t_changes t_fewestAt t_hungAt t_cameAt t_fewestPulls t_fewestRow t_chain_places t_chain_deep t_chain_turn t_chain_wheel t_chain_leaks t_chain_wants) → lv_has ls 4 [(0, .ref q_t), (3, .int x3)] → W p l e (rmH (1) 0 0) s m args below meth c H locs 0 0 (MQ below (Qo dd g (some (.int z.1)) (fun u : Unit => (w_X11_door g q_t q_t_chain o_t_pad o_t_words o_t_sights o_t_images o_t_run o_t_seek o_t_hanging o_t_race o_t_widow o_t_came z.2.1 t_fewestAt t_hungAt t_cameAt t_fewestPulls t_fewestRow t_chain_places t_chain_deep t_chain_turn z.2.2.1 t_chain_leaks z.2.2.2)) A) args s 0 0 A) (F0 m 93 ls [.long y1, .ref q_t_chain]) := by
  intro x3 y1 t_changes t_chain_wants t_fewestAt t_hungAt t_cameAt t_fewestPulls t_fewestRow t_chain_places t_chain_deep t_chain_turn t_chain_wheel t_chain_leaks o_t_pad o_t_words o_t_sights o_t_images o_t_run o_t_seek o_t_hanging o_t_race o_t_widow o_t_came H locs ls hr hw hl
  refine pf_X11_129 F hw 1 rfl (Nat.le_of_ble_eq_true rfl) dX11_door_93 (fun H locs hw => ?_)
  replace hw : Wd dd g mv A s H locs (w_X11_door g q_t q_t_chain o_t_pad o_t_words o_t_sights o_t_images o_t_run o_t_seek o_t_hanging o_t_race o_t_widow o_t_came t_changes t_fewestAt t_hungAt t_cameAt t_fewestPulls t_fewestRow t_chain_places t_chain_deep t_chain_turn y1 t_chain_leaks t_chain_wants) := hw
  refine lv_aload_n F.1 F.2.1 dX11_door_96 rfl (lv_at hl 0 rfl) ?_
  refine lv_dup F.1 F.2.1 dX11_door_97 rfl ?_
  refine gf_X11_86 F hw 0 rfl rfl dX11_door_98 ?_
  refine lv_iconst (v := 1) F.1 F.2.1 dX11_door_101 (by decide) ?_
  refine lv_iadd F.1 F.2.1 dX11_door_102 ?_
  refine pf_X11_86 F hw 0 rfl (Nat.le_of_ble_eq_true rfl) dX11_door_103 (fun H locs hw => ?_)
  replace hw : Wd dd g mv A s H locs (w_X11_door g q_t q_t_chain o_t_pad o_t_words o_t_sights o_t_images o_t_run o_t_seek o_t_hanging o_t_race o_t_widow o_t_came ((t_changes + (1 : Int32))) t_fewestAt t_hungAt t_cameAt t_fewestPulls t_fewestRow t_chain_places t_chain_deep t_chain_turn y1 t_chain_leaks t_chain_wants) := hw
  refine lv_iload_n F.1 F.2.1 dX11_door_106 rfl (lv_at hl 1 rfl) ?_
  cases hr
  exact ret_i () F hret hlk hw (Nat.le_refl _) (Nat.le_refl _) dX11_door_107
set_option maxHeartbeats 4000000 in
set_option maxRecDepth 100000 in
theorem c_X11_door (l : Launch) (dd : va_G) (g : Nat → ClassId) (mv : Nat) (q_t : Nat) (q_t_chain : Nat) (o_t_pad : Value) (o_t_words : Value) (o_t_sights : Value) (o_t_images : Value) (o_t_run : Value) (o_t_seek : Value) (o_t_hanging : Value) (o_t_race : Value) (o_t_widow : Value) (o_t_came : Value) (t_changes : Int32) (t_fewestAt : Int32) (t_hungAt : Int32) (t_cameAt : Int32) (t_fewestPulls : Int32) (t_fewestRow : Int32) (t_chain_places : Int32) (t_chain_deep : Int32) (t_chain_turn : Int32) (t_chain_wheel : Int64) (t_chain_leaks : Int64) (t_chain_wants : Int64) (a1 : Int32) (a2 : Int32) (z : Int32 × Int32 × Int64 × Int64) (hr : f_X11_door t_changes t_chain_places t_chain_wheel t_chain_wants a1 a2 = some z) (sz : Nat) : Met l yX11_door (.code yX11_door cX11_door 4 (some .int) :: WS) (rmH 1 0 0) (va_Pc [.ref q_t, .int a1, .int a2] (PW dd g mv (w_X11_door g q_t q_t_chain o_t_pad o_t_words o_t_sights o_t_images o_t_run o_t_seek o_t_hanging o_t_race o_t_widow o_t_came t_changes t_fewestAt t_hungAt t_cameAt t_fewestPulls t_fewestRow t_chain_places t_chain_deep t_chain_turn t_chain_wheel t_chain_leaks t_chain_wants) sz)) (Qo dd g (some (.int z.1)) (fun u : Unit => (w_X11_door g q_t q_t_chain o_t_pad o_t_words o_t_sights o_t_images o_t_run o_t_seek o_t_hanging o_t_race o_t_widow o_t_came z.2.1 t_fewestAt t_hungAt t_cameAt t_fewestPulls t_fewestRow t_chain_places t_chain_deep t_chain_turn z.2.2.1 t_chain_leaks z.2.2.2)) (va_A (w_X11_door g q_t q_t_chain o_t_pad o_t_words o_t_sights o_t_images o_t_run o_t_seek o_t_hanging o_t_race o_t_widow o_t_came t_changes t_fewestAt t_hungAt t_cameAt t_fewestPulls t_fewestRow t_chain_places t_chain_deep t_chain_turn t_chain_wheel t_chain_leaks t_chain_wants) sz)) 0 0 (va_A (w_X11_door g q_t q_t_chain o_t_pad o_t_words o_t_sights o_t_images o_t_run o_t_seek o_t_hanging o_t_race o_t_widow o_t_came t_changes t_fewestAt t_hungAt t_cameAt t_fewestPulls t_fewestRow t_chain_places t_chain_deep t_chain_turn t_chain_wheel t_chain_leaks t_chain_wants) sz) := by
  refine Met_intro (by decide) (Nat.le_of_ble_eq_true rfl) ?_
  intro p e s m below meth c A ls F hret hlk hin hw hl
  replace hl : lv_has ls 4 [(0, .ref q_t), (1, .int a1), (2, .int a2)] := hl
  refine lv_aload_n F.1 F.2.1 dX11_door_0 rfl (lv_at hl 0 rfl) ?_
  refine lv_iload_n F.1 F.2.1 dX11_door_1 rfl (lv_at hl 1 rfl) ?_
  obtain ⟨z1, hz1, hr⟩ := Option.bind_eq_some_iff.mp hr
  refine call_o (wr := []) (run_V (As := [.int a1]) (rest := []) F k_X11_115 (c_X11_isThere l dd g mv q_t q_t_chain o_t_pad o_t_words o_t_sights o_t_images o_t_run o_t_seek o_t_hanging o_t_race o_t_widow o_t_came t_changes t_fewestAt t_hungAt t_cameAt t_fewestPulls t_fewestRow t_chain_places t_chain_deep t_chain_turn t_chain_wheel t_chain_leaks t_chain_wants a1 z1 hz1 _) hw [0, 1] (by decide) rfl (ci := 11) rfl rfl rfl rfl hl.1 rfl (Nat.le_of_ble_eq_true rfl) dX11_door_2 ⟨Nat.le_of_ble_eq_true rfl, Nat.le_of_ble_eq_true rfl⟩ ⟨Nat.le_of_ble_eq_true rfl, Nat.le_of_ble_eq_true rfl⟩) hw [0, 1] [] rfl rfl (by decide) (by decide) (fun u2 H locs hw => ?_)
  replace hw : Wd dd g mv A s H locs (w_X11_door g q_t q_t_chain o_t_pad o_t_words o_t_sights o_t_images o_t_run o_t_seek o_t_hanging o_t_race o_t_widow o_t_came t_changes t_fewestAt t_hungAt t_cameAt t_fewestPulls t_fewestRow t_chain_places t_chain_deep t_chain_turn t_chain_wheel t_chain_leaks t_chain_wants) := hw.sub [0, 1] (by decide) rfl
  refine W.eq (g2 := F0 m 5 ls (.int z1 :: [])) rfl ?_
  refine lv_if_ne (tgt := 10) F.1 F.2.1 dX11_door_5 (by decide) (fun hc3 => ?_) (fun hc3 => ?_)
  · replace hr := (if_neg hc3).symm.trans hr
    refine lv_iload_n F.1 F.2.1 dX11_door_10 rfl (lv_at hl 2 rfl) ?_
    refine lv_if_lt (tgt := 20) F.1 F.2.1 dX11_door_11 (by decide) (fun hc4 => ?_) (fun hc4 => ?_)
    · replace hr := (if_pos hc4).symm.trans hr
      refine lv_bipush (v := -2) F.1 F.2.1 dX11_door_20 (by decide) ?_
      cases hr
      exact ret_i () F hret hlk hw (Nat.le_refl _) (Nat.le_refl _) dX11_door_22
    · replace hr := (if_neg hc4).symm.trans hr
      refine lv_iload_n F.1 F.2.1 dX11_door_14 rfl (lv_at hl 2 rfl) ?_
      refine lv_bipush (v := 9) F.1 F.2.1 dX11_door_15 (by decide) ?_
      refine lv_icmp_le (tgt := 23) F.1 F.2.1 dX11_door_17 (by decide) (fun hc5 => ?_) (fun hc5 => ?_)
      · replace hr := (if_pos hc5).symm.trans hr
        refine lv_aload_n F.1 F.2.1 dX11_door_23 rfl (lv_at hl 0 rfl) ?_
        refine gf_X11_19 F hw 0 rfl rfl dX11_door_24 ?_
        refine gf_X11_144 F hw 1 rfl rfl dX11_door_27 ?_
        refine lv_iload_n F.1 F.2.1 dX11_door_30 rfl (lv_at hl 1 rfl) ?_
        obtain ⟨z6, hz6, hr⟩ := Option.bind_eq_some_iff.mp hr
        refine call_o (wr := [(q_t, .inr (11, [o_t_pad, .ref q_t_chain, o_t_words, o_t_sights, o_t_images, o_t_run, o_t_seek, o_t_hanging, o_t_race, o_t_widow, o_t_came, .int t_changes, .int t_fewestAt, .int t_hungAt, .int t_cameAt, .int t_fewestPulls, .int t_fewestRow])), (q_t_chain, .inr (1, [.int t_chain_places, .int t_chain_deep, .int t_chain_turn, .long t_chain_wheel, .long t_chain_leaks, .long t_chain_wants]))]) (run_S (As := [.long t_chain_wants, .int a1]) (rest := []) F k_X11_133 (c_X11_lane l dd g mv t_chain_wants a1 z6 hz6 _) hw [] (by decide) rfl rfl hl.1 rfl (Nat.le_of_ble_eq_true rfl) dX11_door_31 ⟨Nat.le_of_ble_eq_true rfl, Nat.le_of_ble_eq_true rfl⟩ ⟨Nat.le_of_ble_eq_true rfl, Nat.le_of_ble_eq_true rfl⟩) hw [] [0, 1] rfl rfl (by decide) (by decide) (fun u7 H locs hw => ?_)
        replace hw : Wd dd g mv A s H locs (w_X11_door g q_t q_t_chain o_t_pad o_t_words o_t_sights o_t_images o_t_run o_t_seek o_t_hanging o_t_race o_t_widow o_t_came t_changes t_fewestAt t_hungAt t_cameAt t_fewestPulls t_fewestRow t_chain_places t_chain_deep t_chain_turn t_chain_wheel t_chain_leaks t_chain_wants) := hw.sub [0, 1] (by decide) rfl
        refine W.eq (g2 := F0 m 34 ls (.int z6 :: [])) rfl ?_
        refine lv_istore_n (lv' := [(3, .int z6), (0, .ref q_t), (1, .int a1), (2, .int a2)]) F.1 F.2.1 dX11_door_34 rfl hl (by decide) rfl (fun ls hl => ?_)
        refine lv_aload_n F.1 F.2.1 dX11_door_35 rfl (lv_at hl 1 rfl) ?_
        refine gf_X11_19 F hw 0 rfl rfl dX11_door_36 ?_
        refine lv_aload_n F.1 F.2.1 dX11_door_39 rfl (lv_at hl 1 rfl) ?_
        refine gf_X11_19 F hw 0 rfl rfl dX11_door_40 ?_
        refine gf_X11_144 F hw 1 rfl rfl dX11_door_43 ?_
        refine lv_iload_n F.1 F.2.1 dX11_door_46 rfl (lv_at hl 2 rfl) ?_
        refine lv_iload_n F.1 F.2.1 dX11_door_47 rfl (lv_at hl 3 rfl) ?_
        obtain ⟨z8, hz8, hr⟩ := Option.bind_eq_some_iff.mp hr
        refine call_o (wr := [(q_t, .inr (11, [o_t_pad, .ref q_t_chain, o_t_words, o_t_sights, o_t_images, o_t_run, o_t_seek, o_t_hanging, o_t_race, o_t_widow, o_t_came, .int t_changes, .int t_fewestAt, .int t_hungAt, .int t_cameAt, .int t_fewestPulls, .int t_fewestRow])), (q_t_chain, .inr (1, [.int t_chain_places, .int t_chain_deep, .int t_chain_turn, .long t_chain_wheel, .long t_chain_leaks, .long t_chain_wants]))]) (run_S (As := [.long t_chain_wants, .int a1, .int a2]) (rest := [.ref q_t_chain]) F k_X11_137 (c_X11_withLane l dd g mv t_chain_wants a1 a2 z8 hz8 _) hw [] (by decide) rfl rfl hl.1 rfl (Nat.le_of_ble_eq_true rfl) dX11_door_48 ⟨Nat.le_of_ble_eq_true rfl, Nat.le_of_ble_eq_true rfl⟩ ⟨Nat.le_of_ble_eq_true rfl, Nat.le_of_ble_eq_true rfl⟩) hw [] [0, 1] rfl rfl (by decide) (by decide) (fun u9 H locs hw => ?_)
        replace hw : Wd dd g mv A s H locs (w_X11_door g q_t q_t_chain o_t_pad o_t_words o_t_sights o_t_images o_t_run o_t_seek o_t_hanging o_t_race o_t_widow o_t_came t_changes t_fewestAt t_hungAt t_cameAt t_fewestPulls t_fewestRow t_chain_places t_chain_deep t_chain_turn t_chain_wheel t_chain_leaks t_chain_wants) := hw.sub [0, 1] (by decide) rfl
        refine W.eq (g2 := F0 m 51 ls (.long z8 :: .ref q_t_chain :: [])) rfl ?_
        refine pf_X11_144 F hw 1 rfl (Nat.le_of_ble_eq_true rfl) dX11_door_51 (fun H locs hw => ?_)
        replace hw : Wd dd g mv A s H locs (w_X11_door g q_t q_t_chain o_t_pad o_t_words o_t_sights o_t_images o_t_run o_t_seek o_t_hanging o_t_race o_t_widow o_t_came t_changes t_fewestAt t_hungAt t_cameAt t_fewestPulls t_fewestRow t_chain_places t_chain_deep t_chain_turn t_chain_wheel t_chain_leaks z8) := hw
        refine lv_aload_n F.1 F.2.1 dX11_door_54 rfl (lv_at hl 1 rfl) ?_
        refine gf_X11_19 F hw 0 rfl rfl dX11_door_55 ?_
        refine lv_iload_n F.1 F.2.1 dX11_door_58 rfl (lv_at hl 3 rfl) ?_
        refine lv_if_ne (tgt := 81) F.1 F.2.1 dX11_door_59 (by decide) (fun hc10 => ?_) (fun hc10 => ?_)
        · replace hr := (if_neg hc10).symm.trans hr
          refine lv_aload_n F.1 F.2.1 dX11_door_81 rfl (lv_at hl 1 rfl) ?_
          refine gf_X11_19 F hw 0 rfl rfl dX11_door_82 ?_
          refine gf_X11_129 F hw 1 rfl rfl dX11_door_85 ?_
          refine lv_iload_n F.1 F.2.1 dX11_door_88 rfl (lv_at hl 2 rfl) ?_
          obtain ⟨z11, hz11, hr⟩ := Option.bind_eq_some_iff.mp hr
          refine call_o (wr := [(q_t, .inr (11, [o_t_pad, .ref q_t_chain, o_t_words, o_t_sights, o_t_images, o_t_run, o_t_seek, o_t_hanging, o_t_race, o_t_widow, o_t_came, .int t_changes, .int t_fewestAt, .int t_hungAt, .int t_cameAt, .int t_fewestPulls, .int t_fewestRow])), (q_t_chain, .inr (1, [.int t_chain_places, .int t_chain_deep, .int t_chain_turn, .long t_chain_wheel, .long t_chain_leaks, .long z8]))]) (run_S (As := [.int a1]) (rest := [.long t_chain_wheel, .ref q_t_chain]) F k_X11_147 (c_X11_flag l dd g mv a1 z11 hz11 _) hw [] (by decide) rfl rfl hl.1 rfl (Nat.le_of_ble_eq_true rfl) dX11_door_89 ⟨Nat.le_of_ble_eq_true rfl, Nat.le_of_ble_eq_true rfl⟩ ⟨Nat.le_of_ble_eq_true rfl, Nat.le_of_ble_eq_true rfl⟩) hw [] [0, 1] rfl rfl (by decide) (by decide) (fun u12 H locs hw => ?_)
          replace hw : Wd dd g mv A s H locs (w_X11_door g q_t q_t_chain o_t_pad o_t_words o_t_sights o_t_images o_t_run o_t_seek o_t_hanging o_t_race o_t_widow o_t_came t_changes t_fewestAt t_hungAt t_cameAt t_fewestPulls t_fewestRow t_chain_places t_chain_deep t_chain_turn t_chain_wheel t_chain_leaks z8) := hw.sub [0, 1] (by decide) rfl
          refine W.eq (g2 := F0 m 92 ls (.long z11 :: .long t_chain_wheel :: .ref q_t_chain :: [])) rfl ?_
          refine lv_lor F.1 F.2.1 dX11_door_92 ?_
          exact b_X11_door_93 F hret hlk  hr hw (lv_sub hl [1, 0] rfl)
        · replace hr := (if_pos hc10).symm.trans hr
          refine lv_aload_n F.1 F.2.1 dX11_door_62 rfl (lv_at hl 1 rfl) ?_
          refine gf_X11_19 F hw 0 rfl rfl dX11_door_63 ?_
          refine gf_X11_129 F hw 1 rfl rfl dX11_door_66 ?_
          refine lv_iload_n F.1 F.2.1 dX11_door_69 rfl (lv_at hl 2 rfl) ?_
          obtain ⟨z13, hz13, hr⟩ := Option.bind_eq_some_iff.mp hr
          refine call_o (wr := [(q_t, .inr (11, [o_t_pad, .ref q_t_chain, o_t_words, o_t_sights, o_t_images, o_t_run, o_t_seek, o_t_hanging, o_t_race, o_t_widow, o_t_came, .int t_changes, .int t_fewestAt, .int t_hungAt, .int t_cameAt, .int t_fewestPulls, .int t_fewestRow])), (q_t_chain, .inr (1, [.int t_chain_places, .int t_chain_deep, .int t_chain_turn, .long t_chain_wheel, .long t_chain_leaks, .long z8]))]) (run_S (As := [.int a1]) (rest := [.long t_chain_wheel, .ref q_t_chain]) F k_X11_147 (c_X11_flag l dd g mv a1 z13 hz13 _) hw [] (by decide) rfl rfl hl.1 rfl (Nat.le_of_ble_eq_true rfl) dX11_door_70 ⟨Nat.le_of_ble_eq_true rfl, Nat.le_of_ble_eq_true rfl⟩ ⟨Nat.le_of_ble_eq_true rfl, Nat.le_of_ble_eq_true rfl⟩) hw [] [0, 1] rfl rfl (by decide) (by decide) (fun u14 H locs hw => ?_)
          replace hw : Wd dd g mv A s H locs (w_X11_door g q_t q_t_chain o_t_pad o_t_words o_t_sights o_t_images o_t_run o_t_seek o_t_hanging o_t_race o_t_widow o_t_came t_changes t_fewestAt t_hungAt t_cameAt t_fewestPulls t_fewestRow t_chain_places t_chain_deep t_chain_turn t_chain_wheel t_chain_leaks z8) := hw.sub [0, 1] (by decide) rfl
          refine W.eq (g2 := F0 m 73 ls (.long z13 :: .long t_chain_wheel :: .ref q_t_chain :: [])) rfl ?_
          refine lv_ldc2 F.1 F.2.1 F.2.2.2.1 (F.2.2.2.2 _ cl_X11_151) dX11_door_73 ?_
          refine lv_lxor F.1 F.2.1 dX11_door_76 ?_
          refine lv_land F.1 F.2.1 dX11_door_77 ?_
          refine lv_goto (tgt := 93) F.1 F.2.1 dX11_door_78 (by decide) ?_
          exact b_X11_door_93 F hret hlk  hr hw (lv_sub hl [1, 0] rfl)
      · replace hr := (if_neg hc5).symm.trans hr
        refine lv_bipush (v := -2) F.1 F.2.1 dX11_door_20 (by decide) ?_
        cases hr
        exact ret_i () F hret hlk hw (Nat.le_refl _) (Nat.le_refl _) dX11_door_22
  · replace hr := (if_pos hc3).symm.trans hr
    refine lv_iconst (v := -1) F.1 F.2.1 dX11_door_8 (by decide) ?_
    cases hr
    exact ret_i () F hret hlk hw (Nat.le_refl _) (Nat.le_refl _) dX11_door_9
set_option maxHeartbeats 4000000 in
set_option maxRecDepth 100000 in
theorem c_X11_deep (l : Launch) (dd : va_G) (g : Nat → ClassId) (mv : Nat) (q_t : Nat) (q_t_chain : Nat) (o_t_pad : Value) (o_t_words : Value) (o_t_sights : Value) (o_t_images : Value) (o_t_run : Value) (o_t_seek : Value) (o_t_hanging : Value) (o_t_race : Value) (o_t_widow : Value) (o_t_came : Value) (t_changes : Int32) (t_fewestAt : Int32) (t_hungAt : Int32) (t_cameAt : Int32) (t_fewestPulls : Int32) (t_fewestRow : Int32) (t_chain_places : Int32) (t_chain_deep : Int32) (t_chain_turn : Int32) (t_chain_wheel : Int64) (t_chain_leaks : Int64) (t_chain_wants : Int64) (a1 : Int32) (z : Int32 × Int32 × Int32) (hr : f_X11_deep t_changes t_chain_places t_chain_deep t_chain_wheel a1 = some z) (sz : Nat) : Met l yX11_deep (.code yX11_deep cX11_deep 3 (some .int) :: WS) (rmH 2 0 0) (va_Pc [.ref q_t, .int a1] (PW dd g mv (w_X11_deep g q_t q_t_chain o_t_pad o_t_words o_t_sights o_t_images o_t_run o_t_seek o_t_hanging o_t_race o_t_widow o_t_came t_changes t_fewestAt t_hungAt t_cameAt t_fewestPulls t_fewestRow t_chain_places t_chain_deep t_chain_turn t_chain_wheel t_chain_leaks t_chain_wants) sz)) (Qo dd g (some (.int z.1)) (fun u : Unit => (w_X11_deep g q_t q_t_chain o_t_pad o_t_words o_t_sights o_t_images o_t_run o_t_seek o_t_hanging o_t_race o_t_widow o_t_came z.2.1 t_fewestAt t_hungAt t_cameAt t_fewestPulls t_fewestRow t_chain_places z.2.2 t_chain_turn t_chain_wheel t_chain_leaks t_chain_wants)) (va_A (w_X11_deep g q_t q_t_chain o_t_pad o_t_words o_t_sights o_t_images o_t_run o_t_seek o_t_hanging o_t_race o_t_widow o_t_came t_changes t_fewestAt t_hungAt t_cameAt t_fewestPulls t_fewestRow t_chain_places t_chain_deep t_chain_turn t_chain_wheel t_chain_leaks t_chain_wants) sz)) 0 0 (va_A (w_X11_deep g q_t q_t_chain o_t_pad o_t_words o_t_sights o_t_images o_t_run o_t_seek o_t_hanging o_t_race o_t_widow o_t_came t_changes t_fewestAt t_hungAt t_cameAt t_fewestPulls t_fewestRow t_chain_places t_chain_deep t_chain_turn t_chain_wheel t_chain_leaks t_chain_wants) sz) := by
  refine Met_intro (by decide) (Nat.le_of_ble_eq_true rfl) ?_
  intro p e s m below meth c A ls F hret hlk hin hw hl
  replace hl : lv_has ls 3 [(0, .ref q_t), (1, .int a1)] := hl
  refine lv_iload_n F.1 F.2.1 dX11_deep_0 rfl (lv_at hl 1 rfl) ?_
  refine lv_iconst (v := 1) F.1 F.2.1 dX11_deep_1 (by decide) ?_
  refine lv_icmp_lt (tgt := 11) F.1 F.2.1 dX11_deep_2 (by decide) (fun hc1 => ?_) (fun hc1 => ?_)
  · replace hr := (if_pos hc1).symm.trans hr
    refine lv_bipush (v := -2) F.1 F.2.1 dX11_deep_11 (by decide) ?_
    cases hr
    exact ret_i () F hret hlk hw (Nat.le_refl _) (Nat.le_refl _) dX11_deep_13
  · replace hr := (if_neg hc1).symm.trans hr
    refine lv_iload_n F.1 F.2.1 dX11_deep_5 rfl (lv_at hl 1 rfl) ?_
    refine lv_bipush (v := 9) F.1 F.2.1 dX11_deep_6 (by decide) ?_
    refine lv_icmp_le (tgt := 14) F.1 F.2.1 dX11_deep_8 (by decide) (fun hc2 => ?_) (fun hc2 => ?_)
    · replace hr := (if_pos hc2).symm.trans hr
      refine lv_aload_n F.1 F.2.1 dX11_deep_14 rfl (lv_at hl 0 rfl) ?_
      refine gf_X11_19 F hw 0 rfl rfl dX11_deep_15 ?_
      obtain ⟨z3, hz3, hr⟩ := Option.bind_eq_some_iff.mp hr
      refine call_o (wr := [(q_t, .inr (11, [o_t_pad, .ref q_t_chain, o_t_words, o_t_sights, o_t_images, o_t_run, o_t_seek, o_t_hanging, o_t_race, o_t_widow, o_t_came, .int t_changes, .int t_fewestAt, .int t_hungAt, .int t_cameAt, .int t_fewestPulls, .int t_fewestRow]))]) (run_V (As := []) (rest := []) F k_X11_153 (c_X1_highest l dd g mv q_t_chain t_chain_places t_chain_deep t_chain_turn t_chain_wheel t_chain_leaks t_chain_wants z3 hz3 _) hw [1] (by decide) rfl (ci := 1) rfl rfl rfl rfl hl.1 rfl (Nat.le_of_ble_eq_true rfl) dX11_deep_18 ⟨Nat.le_of_ble_eq_true rfl, Nat.le_of_ble_eq_true rfl⟩ ⟨Nat.le_of_ble_eq_true rfl, Nat.le_of_ble_eq_true rfl⟩) hw [1] [0] rfl rfl (by decide) (by decide) (fun u4 H locs hw => ?_)
      replace hw : Wd dd g mv A s H locs (w_X11_deep g q_t q_t_chain o_t_pad o_t_words o_t_sights o_t_images o_t_run o_t_seek o_t_hanging o_t_race o_t_widow o_t_came t_changes t_fewestAt t_hungAt t_cameAt t_fewestPulls t_fewestRow t_chain_places t_chain_deep t_chain_turn t_chain_wheel t_chain_leaks t_chain_wants) := hw.sub [0, 1] (by decide) rfl
      refine W.eq (g2 := F0 m 21 ls (.int z3 :: [])) rfl ?_
      refine lv_iload_n F.1 F.2.1 dX11_deep_21 rfl (lv_at hl 1 rfl) ?_
      refine lv_icmp_le (tgt := 28) F.1 F.2.1 dX11_deep_22 (by decide) (fun hc5 => ?_) (fun hc5 => ?_)
      · replace hr := (if_pos hc5).symm.trans hr
        refine lv_aload_n F.1 F.2.1 dX11_deep_28 rfl (lv_at hl 0 rfl) ?_
        refine gf_X11_19 F hw 0 rfl rfl dX11_deep_29 ?_
        refine gf_X11_119 F hw 1 rfl rfl dX11_deep_32 ?_
        refine lv_istore_n (lv' := [(2, .int t_chain_deep), (0, .ref q_t), (1, .int a1)]) F.1 F.2.1 dX11_deep_35 rfl hl (by decide) rfl (fun ls hl => ?_)
        refine lv_aload_n F.1 F.2.1 dX11_deep_36 rfl (lv_at hl 1 rfl) ?_
        refine gf_X11_19 F hw 0 rfl rfl dX11_deep_37 ?_
        refine lv_iload_n F.1 F.2.1 dX11_deep_40 rfl (lv_at hl 2 rfl) ?_
        refine pf_X11_119 F hw 1 rfl (Nat.le_of_ble_eq_true rfl) dX11_deep_41 (fun H locs hw => ?_)
        replace hw : Wd dd g mv A s H locs (w_X11_deep g q_t q_t_chain o_t_pad o_t_words o_t_sights o_t_images o_t_run o_t_seek o_t_hanging o_t_race o_t_widow o_t_came t_changes t_fewestAt t_hungAt t_cameAt t_fewestPulls t_fewestRow t_chain_places a1 t_chain_turn t_chain_wheel t_chain_leaks t_chain_wants) := hw
        refine lv_aload_n F.1 F.2.1 dX11_deep_44 rfl (lv_at hl 1 rfl) ?_
        refine lv_dup F.1 F.2.1 dX11_deep_45 rfl ?_
        refine gf_X11_86 F hw 0 rfl rfl dX11_deep_46 ?_
        refine lv_iconst (v := 1) F.1 F.2.1 dX11_deep_49 (by decide) ?_
        refine lv_iadd F.1 F.2.1 dX11_deep_50 ?_
        refine pf_X11_86 F hw 0 rfl (Nat.le_of_ble_eq_true rfl) dX11_deep_51 (fun H locs hw => ?_)
        replace hw : Wd dd g mv A s H locs (w_X11_deep g q_t q_t_chain o_t_pad o_t_words o_t_sights o_t_images o_t_run o_t_seek o_t_hanging o_t_race o_t_widow o_t_came ((t_changes + (1 : Int32))) t_fewestAt t_hungAt t_cameAt t_fewestPulls t_fewestRow t_chain_places a1 t_chain_turn t_chain_wheel t_chain_leaks t_chain_wants) := hw
        refine lv_iload_n F.1 F.2.1 dX11_deep_54 rfl (lv_at hl 0 rfl) ?_
        cases hr
        exact ret_i () F hret hlk hw (Nat.le_refl _) (Nat.le_refl _) dX11_deep_55
      · replace hr := (if_neg hc5).symm.trans hr
        refine lv_bipush (v := -3) F.1 F.2.1 dX11_deep_25 (by decide) ?_
        cases hr
        exact ret_i () F hret hlk hw (Nat.le_refl _) (Nat.le_refl _) dX11_deep_27
    · replace hr := (if_neg hc2).symm.trans hr
      refine lv_bipush (v := -2) F.1 F.2.1 dX11_deep_11 (by decide) ?_
      cases hr
      exact ret_i () F hret hlk hw (Nat.le_refl _) (Nat.le_refl _) dX11_deep_13
set_option maxHeartbeats 4000000 in
set_option maxRecDepth 100000 in
theorem c_X11_say (l : Launch) (dd : va_G) (g : Nat → ClassId) (mv : Nat) (q_t : Nat) (q_t_pad : Nat) (q_t_pad_signs : Nat) (o_t_chain : Value) (o_t_words : Value) (o_t_sights : Value) (o_t_images : Value) (o_t_run : Value) (o_t_seek : Value) (o_t_hanging : Value) (o_t_race : Value) (o_t_widow : Value) (o_t_came : Value) (t_changes : Int32) (t_fewestAt : Int32) (t_hungAt : Int32) (t_cameAt : Int32) (t_fewestPulls : Int32) (t_fewestRow : Int32) (t_pad_count : Int32) (t_pad_signs : Nat → Int32) (a1 : Int32) (z : Int32 × Int32 × (Nat → Int32)) (hr : f_X11_say t_pad_count t_pad_signs a1 = some z) (sz : Nat) : Met l yX11_say (.code yX11_say cX11_say 2 (some .int) :: WS) (rmH 1 0 0) (va_Pc [.ref q_t, .int a1] (PW dd g mv (w_X11_say g q_t q_t_pad q_t_pad_signs o_t_chain o_t_words o_t_sights o_t_images o_t_run o_t_seek o_t_hanging o_t_race o_t_widow o_t_came t_changes t_fewestAt t_hungAt t_cameAt t_fewestPulls t_fewestRow t_pad_count t_pad_signs) sz)) (Qo dd g (some (.int z.1)) (fun u : Unit => (w_X11_say g q_t q_t_pad q_t_pad_signs o_t_chain o_t_words o_t_sights o_t_images o_t_run o_t_seek o_t_hanging o_t_race o_t_widow o_t_came t_changes t_fewestAt t_hungAt t_cameAt t_fewestPulls t_fewestRow z.2.1 z.2.2)) (va_A (w_X11_say g q_t q_t_pad q_t_pad_signs o_t_chain o_t_words o_t_sights o_t_images o_t_run o_t_seek o_t_hanging o_t_race o_t_widow o_t_came t_changes t_fewestAt t_hungAt t_cameAt t_fewestPulls t_fewestRow t_pad_count t_pad_signs) sz)) 0 0 (va_A (w_X11_say g q_t q_t_pad q_t_pad_signs o_t_chain o_t_words o_t_sights o_t_images o_t_run o_t_seek o_t_hanging o_t_race o_t_widow o_t_came t_changes t_fewestAt t_hungAt t_cameAt t_fewestPulls t_fewestRow t_pad_count t_pad_signs) sz) := by
  refine Met_intro (by decide) (Nat.le_of_ble_eq_true rfl) ?_
  intro p e s m below meth c A ls F hret hlk hin hw hl
  replace hl : lv_has ls 2 [(0, .ref q_t), (1, .int a1)] := hl
  refine lv_iload_n F.1 F.2.1 dX11_say_0 rfl (lv_at hl 1 rfl) ?_
  refine lv_bipush (v := 33) F.1 F.2.1 dX11_say_1 (by decide) ?_
  refine lv_icmp_lt (tgt := 12) F.1 F.2.1 dX11_say_3 (by decide) (fun hc1 => ?_) (fun hc1 => ?_)
  · replace hr := (if_pos hc1).symm.trans hr
    refine lv_bipush (v := -2) F.1 F.2.1 dX11_say_12 (by decide) ?_
    cases hr
    exact ret_i () F hret hlk hw (Nat.le_refl _) (Nat.le_refl _) dX11_say_14
  · replace hr := (if_neg hc1).symm.trans hr
    refine lv_iload_n F.1 F.2.1 dX11_say_6 rfl (lv_at hl 1 rfl) ?_
    refine lv_bipush (v := 126) F.1 F.2.1 dX11_say_7 (by decide) ?_
    refine lv_icmp_le (tgt := 15) F.1 F.2.1 dX11_say_9 (by decide) (fun hc2 => ?_) (fun hc2 => ?_)
    · replace hr := (if_pos hc2).symm.trans hr
      refine lv_aload_n F.1 F.2.1 dX11_say_15 rfl (lv_at hl 0 rfl) ?_
      refine gf_X11_12 F hw 0 rfl rfl dX11_say_16 ?_
      refine lv_iload_n F.1 F.2.1 dX11_say_19 rfl (lv_at hl 1 rfl) ?_
      obtain ⟨z3, hz3, hr⟩ := Option.bind_eq_some_iff.mp hr
      refine call_o (wr := [(q_t, .inr (11, [.ref q_t_pad, o_t_chain, o_t_words, o_t_sights, o_t_images, o_t_run, o_t_seek, o_t_hanging, o_t_race, o_t_widow, o_t_came, .int t_changes, .int t_fewestAt, .int t_hungAt, .int t_cameAt, .int t_fewestPulls, .int t_fewestRow]))]) (run_V (As := [.int a1]) (rest := []) F k_X11_157 (c_X4_put l dd g mv q_t_pad q_t_pad_signs t_pad_count t_pad_signs a1 z3 hz3 _) hw [1, 2] (by decide) rfl (ci := 4) rfl rfl rfl rfl hl.1 rfl (Nat.le_of_ble_eq_true rfl) dX11_say_20 ⟨Nat.le_of_ble_eq_true rfl, Nat.le_of_ble_eq_true rfl⟩ ⟨Nat.le_of_ble_eq_true rfl, Nat.le_of_ble_eq_true rfl⟩) hw [1, 2] [0] rfl rfl (by decide) (by decide) (fun u4 H locs hw => ?_)
      replace hw : Wd dd g mv A s H locs (w_X11_say g q_t q_t_pad q_t_pad_signs o_t_chain o_t_words o_t_sights o_t_images o_t_run o_t_seek o_t_hanging o_t_race o_t_widow o_t_came t_changes t_fewestAt t_hungAt t_cameAt t_fewestPulls t_fewestRow z3.2.1 z3.2.2) := hw.sub [0, 1, 2] (by decide) rfl
      refine W.eq (g2 := F0 m 23 ls (.int z3.1 :: [])) rfl ?_
      refine lv_if_eq (tgt := 36) F.1 F.2.1 dX11_say_23 (by decide) (fun hc5 => ?_) (fun hc5 => ?_)
      · replace hr := (if_pos hc5).symm.trans hr
        refine lv_bipush (v := -4) F.1 F.2.1 dX11_say_36 (by decide) ?_
        cases hr
        exact ret_i () F hret hlk hw (Nat.le_refl _) (Nat.le_refl _) dX11_say_38
      · replace hr := (if_neg hc5).symm.trans hr
        refine lv_aload_n F.1 F.2.1 dX11_say_26 rfl (lv_at hl 0 rfl) ?_
        refine gf_X11_12 F hw 0 rfl rfl dX11_say_27 ?_
        refine gf_X11_160 F hw 1 rfl rfl dX11_say_30 ?_
        refine lv_goto (tgt := 38) F.1 F.2.1 dX11_say_33 (by decide) ?_
        cases hr
        exact ret_i () F hret hlk hw (Nat.le_refl _) (Nat.le_refl _) dX11_say_38
    · replace hr := (if_neg hc2).symm.trans hr
      refine lv_bipush (v := -2) F.1 F.2.1 dX11_say_12 (by decide) ?_
      cases hr
      exact ret_i () F hret hlk hw (Nat.le_refl _) (Nat.le_refl _) dX11_say_14
set_option maxHeartbeats 4000000 in
set_option maxRecDepth 100000 in
theorem c_X11_wipe (l : Launch) (dd : va_G) (g : Nat → ClassId) (mv : Nat) (q_t : Nat) (q_t_pad : Nat) (o_t_chain : Value) (o_t_words : Value) (o_t_sights : Value) (o_t_images : Value) (o_t_run : Value) (o_t_seek : Value) (o_t_hanging : Value) (o_t_race : Value) (o_t_widow : Value) (o_t_came : Value) (o_t_pad_signs : Value) (t_changes : Int32) (t_fewestAt : Int32) (t_hungAt : Int32) (t_cameAt : Int32) (t_fewestPulls : Int32) (t_fewestRow : Int32) (t_pad_count : Int32) (z : Int32 × Int32) (hr : f_X11_wipe t_pad_count = some z) (sz : Nat) : Met l yX11_wipe (.code yX11_wipe cX11_wipe 2 (some .int) :: WS) (rmH 0 0 0) (va_Pc [.ref q_t] (PW dd g mv (w_X11_wipe g q_t q_t_pad o_t_chain o_t_words o_t_sights o_t_images o_t_run o_t_seek o_t_hanging o_t_race o_t_widow o_t_came o_t_pad_signs t_changes t_fewestAt t_hungAt t_cameAt t_fewestPulls t_fewestRow t_pad_count) sz)) (Qo dd g (some (.int z.1)) (fun u : Unit => (w_X11_wipe g q_t q_t_pad o_t_chain o_t_words o_t_sights o_t_images o_t_run o_t_seek o_t_hanging o_t_race o_t_widow o_t_came o_t_pad_signs t_changes t_fewestAt t_hungAt t_cameAt t_fewestPulls t_fewestRow z.2)) (va_A (w_X11_wipe g q_t q_t_pad o_t_chain o_t_words o_t_sights o_t_images o_t_run o_t_seek o_t_hanging o_t_race o_t_widow o_t_came o_t_pad_signs t_changes t_fewestAt t_hungAt t_cameAt t_fewestPulls t_fewestRow t_pad_count) sz)) 0 0 (va_A (w_X11_wipe g q_t q_t_pad o_t_chain o_t_words o_t_sights o_t_images o_t_run o_t_seek o_t_hanging o_t_race o_t_widow o_t_came o_t_pad_signs t_changes t_fewestAt t_hungAt t_cameAt t_fewestPulls t_fewestRow t_pad_count) sz) := by
  refine Met_intro (by decide) (Nat.le_of_ble_eq_true rfl) ?_
  intro p e s m below meth c A ls F hret hlk hin hw hl
  replace hl : lv_has ls 2 [(0, .ref q_t)] := hl
  refine lv_aload_n F.1 F.2.1 dX11_wipe_0 rfl (lv_at hl 0 rfl) ?_
  refine gf_X11_12 F hw 0 rfl rfl dX11_wipe_1 ?_
  refine gf_X11_160 F hw 1 rfl rfl dX11_wipe_4 ?_
  refine lv_istore_n (lv' := [(1, .int t_pad_count), (0, .ref q_t)]) F.1 F.2.1 dX11_wipe_7 rfl hl (by decide) rfl (fun ls hl => ?_)
  refine lv_aload_n F.1 F.2.1 dX11_wipe_8 rfl (lv_at hl 1 rfl) ?_
  refine gf_X11_12 F hw 0 rfl rfl dX11_wipe_9 ?_
  refine lv_iconst (v := 0) F.1 F.2.1 dX11_wipe_12 (by decide) ?_
  refine pf_X11_160 F hw 1 rfl (Nat.le_of_ble_eq_true rfl) dX11_wipe_13 (fun H locs hw => ?_)
  replace hw : Wd dd g mv A s H locs (w_X11_wipe g q_t q_t_pad o_t_chain o_t_words o_t_sights o_t_images o_t_run o_t_seek o_t_hanging o_t_race o_t_widow o_t_came o_t_pad_signs t_changes t_fewestAt t_hungAt t_cameAt t_fewestPulls t_fewestRow ((0 : Int32))) := hw
  refine lv_iload_n F.1 F.2.1 dX11_wipe_16 rfl (lv_at hl 0 rfl) ?_
  cases hr
  exact ret_i () F hret hlk hw (Nat.le_refl _) (Nat.le_refl _) dX11_wipe_17
set_option maxHeartbeats 4000000 in
set_option maxRecDepth 100000 in
theorem c_X11_fault (l : Launch) (dd : va_G) (g : Nat → ClassId) (mv : Nat) (q_t : Nat) (q_t_pad : Nat) (q_t_pad_signs : Nat) (o_t_chain : Value) (o_t_words : Value) (o_t_sights : Value) (o_t_images : Value) (o_t_run : Value) (o_t_seek : Value) (o_t_hanging : Value) (o_t_race : Value) (o_t_widow : Value) (o_t_came : Value) (t_changes : Int32) (t_fewestAt : Int32) (t_hungAt : Int32) (t_cameAt : Int32) (t_fewestPulls : Int32) (t_fewestRow : Int32) (t_pad_count : Int32) (t_pad_signs : Nat → Int32) (z : Int32) (hr : f_X11_fault t_pad_count t_pad_signs = some z) (sz : Nat) : Met l yX11_fault (.code yX11_fault cX11_fault 1 (some .int) :: WS) (rmH 1 0 0) (va_Pc [.ref q_t] (PW dd g mv (w_X11_fault g q_t q_t_pad q_t_pad_signs o_t_chain o_t_words o_t_sights o_t_images o_t_run o_t_seek o_t_hanging o_t_race o_t_widow o_t_came t_changes t_fewestAt t_hungAt t_cameAt t_fewestPulls t_fewestRow t_pad_count t_pad_signs) sz)) (Qo dd g (some (.int z)) (fun u : Unit => (w_X11_fault g q_t q_t_pad q_t_pad_signs o_t_chain o_t_words o_t_sights o_t_images o_t_run o_t_seek o_t_hanging o_t_race o_t_widow o_t_came t_changes t_fewestAt t_hungAt t_cameAt t_fewestPulls t_fewestRow t_pad_count t_pad_signs)) (va_A (w_X11_fault g q_t q_t_pad q_t_pad_signs o_t_chain o_t_words o_t_sights o_t_images o_t_run o_t_seek o_t_hanging o_t_race o_t_widow o_t_came t_changes t_fewestAt t_hungAt t_cameAt t_fewestPulls t_fewestRow t_pad_count t_pad_signs) sz)) 0 0 (va_A (w_X11_fault g q_t q_t_pad q_t_pad_signs o_t_chain o_t_words o_t_sights o_t_images o_t_run o_t_seek o_t_hanging o_t_race o_t_widow o_t_came t_changes t_fewestAt t_hungAt t_cameAt t_fewestPulls t_fewestRow t_pad_count t_pad_signs) sz) := by
  refine Met_intro (by decide) (Nat.le_of_ble_eq_true rfl) ?_
  intro p e s m below meth c A ls F hret hlk hin hw hl
  replace hl : lv_has ls 1 [(0, .ref q_t)] := hl
  refine lv_aload_n F.1 F.2.1 dX11_fault_0 rfl (lv_at hl 0 rfl) ?_
  refine gf_X11_12 F hw 0 rfl rfl dX11_fault_1 ?_
  obtain ⟨z1, hz1, hr⟩ := Option.bind_eq_some_iff.mp hr
  refine call_o (wr := [(q_t, .inr (11, [.ref q_t_pad, o_t_chain, o_t_words, o_t_sights, o_t_images, o_t_run, o_t_seek, o_t_hanging, o_t_race, o_t_widow, o_t_came, .int t_changes, .int t_fewestAt, .int t_hungAt, .int t_cameAt, .int t_fewestPulls, .int t_fewestRow]))]) (run_V (As := []) (rest := []) F k_X11_161 (c_X4_firstFault l dd g mv q_t_pad q_t_pad_signs t_pad_count t_pad_signs z1 hz1 _) hw [1, 2] (by decide) rfl (ci := 4) rfl rfl rfl rfl hl.1 rfl (Nat.le_of_ble_eq_true rfl) dX11_fault_4 ⟨Nat.le_of_ble_eq_true rfl, Nat.le_of_ble_eq_true rfl⟩ ⟨Nat.le_of_ble_eq_true rfl, Nat.le_of_ble_eq_true rfl⟩) hw [1, 2] [0] rfl rfl (by decide) (by decide) (fun u2 H locs hw => ?_)
  replace hw : Wd dd g mv A s H locs (w_X11_fault g q_t q_t_pad q_t_pad_signs o_t_chain o_t_words o_t_sights o_t_images o_t_run o_t_seek o_t_hanging o_t_race o_t_widow o_t_came t_changes t_fewestAt t_hungAt t_cameAt t_fewestPulls t_fewestRow t_pad_count t_pad_signs) := hw.sub [0, 1, 2] (by decide) rfl
  refine W.eq (g2 := F0 m 7 ls (.int z1 :: [])) rfl ?_
  cases hr
  exact ret_i () F hret hlk hw (Nat.le_refl _) (Nat.le_refl _) dX11_fault_7
set_option maxHeartbeats 4000000 in
set_option maxRecDepth 100000 in
theorem b_X11_runPad_13 {q_t q_t_run q_t_chain q_t_run_when q_t_pad q_t_pad_signs : Nat} {z : Int64 × Int64 × Int32 × Int32 × Int32 × Int32 × Int32 × Int32 × (Nat → Int32)} (F : Fx p m c cX11_runPad 2 s args RX11) (hret : meth.sig.returnType = none) (hlk : meth.locks = false) : ∀ (n : Nat), ∀ {x1 : Int32} {t_run_wheel : Int64} {t_run_leaks : Int64} {t_run_turn : Int32} {t_run_pulls : Int32} {t_run_drawn : Int32} {t_run_leaked : Int32} {t_run_drunk : Int32} {t_run_servings : Int32} {t_chain_places : Int32} {t_chain_deep : Int32} {t_chain_wants : Int64} {t_run_when : Nat → Int32} {t_pad_count : Int32} {t_pad_signs : Nat → Int32} {t_changes : Int32} {t_fewestAt : Int32} {t_hungAt : Int32} {t_cameAt : Int32} {t_fewestPulls : Int32} {t_fewestRow : Int32} {t_chain_turn : Int32} {t_chain_wheel : Int64} {t_chain_leaks : Int64} {o_t_words : Value} {o_t_sights : Value} {o_t_images : Value} {o_t_seek : Value} {o_t_hanging : Value} {o_t_race : Value} {o_t_widow : Value} {o_t_came : Value} {H : Heap} {locs : List Loc} {ls : Array Slot}, f_X11_runPad_13  n x1 t_run_wheel t_run_leaks t_run_turn t_run_pulls t_run_drawn t_run_leaked t_run_drunk t_run_servings t_chain_places t_chain_deep t_chain_wants t_run_when t_pad_count t_pad_signs = some z → Wd dd g mv A s H locs (w_X11_runPad g q_t q_t_run q_t_chain q_t_run_when q_t_pad q_t_pad_signs o_t_words o_t_sights o_t_images o_t_seek o_t_hanging o_t_race o_t_widow o_t_came ((.ref q_t_chain)) t_changes t_fewestAt t_hungAt t_cameAt t_fewestPulls t_fewestRow t_run_wheel t_run_leaks t_run_turn t_run_pulls t_run_drawn t_run_leaked t_run_drunk t_run_servings t_chain_places t_chain_deep t_chain_turn t_chain_wheel t_chain_leaks t_chain_wants t_run_when t_pad_count t_pad_signs) → lv_has ls 2 [(0, .ref q_t), (1, .int x1)] → W p l e (rmH (3) 0 0) s m args below meth c H locs 0 0 (MQ below (Qo dd g none (fun u : Unit => (w_X11_runPad g q_t q_t_run q_t_chain q_t_run_when q_t_pad q_t_pad_signs o_t_words o_t_sights o_t_images o_t_seek o_t_hanging o_t_race o_t_widow o_t_came ((.ref q_t_chain)) t_changes t_fewestAt t_hungAt t_cameAt t_fewestPulls t_fewestRow z.1 z.2.1 z.2.2.1 z.2.2.2.1 z.2.2.2.2.1 z.2.2.2.2.2.1 z.2.2.2.2.2.2.1 z.2.2.2.2.2.2.2.1 t_chain_places t_chain_deep t_chain_turn t_chain_wheel t_chain_leaks t_chain_wants z.2.2.2.2.2.2.2.2 t_pad_count t_pad_signs)) A) args s 0 0 A) (F0 m 13 ls []) := by
  intro n
  induction n with
  | zero =>
    intros
    rename_i hr _ _
    cases hr
  | succ n ih =>
    intro x1 t_run_wheel t_run_leaks t_run_turn t_run_pulls t_run_drawn t_run_leaked t_run_drunk t_run_servings t_chain_places t_chain_deep t_chain_wants t_run_when t_pad_count t_pad_signs t_changes t_fewestAt t_hungAt t_cameAt t_fewestPulls t_fewestRow t_chain_turn t_chain_wheel t_chain_leaks o_t_words o_t_sights o_t_images o_t_seek o_t_hanging o_t_race o_t_widow o_t_came H locs ls hr hw hl
    refine lv_iload_n F.1 F.2.1 dX11_runPad_13 rfl (lv_at hl 1 rfl) ?_
    refine lv_aload_n F.1 F.2.1 dX11_runPad_14 rfl (lv_at hl 0 rfl) ?_
    refine gf_X11_12 F hw 0 rfl rfl dX11_runPad_15 ?_
    refine gf_X11_160 F hw 4 rfl rfl dX11_runPad_18 ?_
    refine lv_icmp_ge (tgt := 52) F.1 F.2.1 dX11_runPad_21 (by decide) (fun hc1 => ?_) (fun hc1 => ?_)
    · replace hr := (if_pos hc1).symm.trans hr
      cases hr
      exact ret_v () F hret hlk hw (Nat.le_refl _) (Nat.le_refl _) dX11_runPad_52
    · replace hr := (if_neg hc1).symm.trans hr
      refine lv_iload_n F.1 F.2.1 dX11_runPad_24 rfl (lv_at hl 1 rfl) ?_
      refine lv_bipush (v := 40) F.1 F.2.1 dX11_runPad_25 (by decide) ?_
      refine lv_icmp_ge (tgt := 52) F.1 F.2.1 dX11_runPad_27 (by decide) (fun hc2 => ?_) (fun hc2 => ?_)
      · replace hr := (if_pos hc2).symm.trans hr
        cases hr
        exact ret_v () F hret hlk hw (Nat.le_refl _) (Nat.le_refl _) dX11_runPad_52
      · replace hr := (if_neg hc2).symm.trans hr
        refine lv_aload_n F.1 F.2.1 dX11_runPad_30 rfl (lv_at hl 0 rfl) ?_
        refine gf_X11_47 F hw 0 rfl rfl dX11_runPad_31 ?_
        refine lv_aload_n F.1 F.2.1 dX11_runPad_34 rfl (lv_at hl 0 rfl) ?_
        refine gf_X11_12 F hw 0 rfl rfl dX11_runPad_35 ?_
        refine gf_X11_290 F hw 4 rfl rfl dX11_runPad_38 ?_
        refine lv_iload_n F.1 F.2.1 dX11_runPad_41 rfl (lv_at hl 1 rfl) ?_
        obtain ⟨hg3, hr⟩ := g_no hr
        refine ar_i F hw 5 rfl hg3 dX11_runPad_42 ?_
        obtain ⟨z4, hz4, hr⟩ := Option.bind_eq_some_iff.mp hr
        refine call_o (wr := [(q_t, .inr (11, [.ref q_t_pad, .ref q_t_chain, o_t_words, o_t_sights, o_t_images, .ref q_t_run, o_t_seek, o_t_hanging, o_t_race, o_t_widow, o_t_came, .int t_changes, .int t_fewestAt, .int t_hungAt, .int t_cameAt, .int t_fewestPulls, .int t_fewestRow])), (q_t_pad, .inr (4, [.ref q_t_pad_signs, .int t_pad_count])), (q_t_pad_signs, .inl (g 0, 40, .inl t_pad_signs))]) (run_V (As := [.int (t_pad_signs (x1).toNatClampNeg)]) (rest := []) F k_X11_265 (c_X6_move l dd g mv q_t_run q_t_chain q_t_run_when t_run_wheel t_run_leaks t_run_turn t_run_pulls t_run_drawn t_run_leaked t_run_drunk t_run_servings t_chain_places t_chain_deep t_chain_turn t_chain_wheel t_chain_leaks t_chain_wants t_run_when ((t_pad_signs (x1).toNatClampNeg)) z4 hz4 _) hw [1, 2, 3] (by decide) rfl (ci := 6) rfl rfl rfl rfl hl.1 rfl (Nat.le_of_ble_eq_true rfl) dX11_runPad_43 ⟨Nat.le_of_ble_eq_true rfl, Nat.le_of_ble_eq_true rfl⟩ ⟨Nat.le_of_ble_eq_true rfl, Nat.le_of_ble_eq_true rfl⟩) hw [1, 2, 3] [0, 4, 5] rfl rfl (by decide) (by decide) (fun u5 H locs hw => ?_)
        replace hw : Wd dd g mv A s H locs (w_X11_runPad g q_t q_t_run q_t_chain q_t_run_when q_t_pad q_t_pad_signs o_t_words o_t_sights o_t_images o_t_seek o_t_hanging o_t_race o_t_widow o_t_came ((.ref q_t_chain)) t_changes t_fewestAt t_hungAt t_cameAt t_fewestPulls t_fewestRow z4.1 z4.2.1 z4.2.2.1 z4.2.2.2.1 z4.2.2.2.2.1 z4.2.2.2.2.2.1 z4.2.2.2.2.2.2.1 z4.2.2.2.2.2.2.2.1 t_chain_places t_chain_deep t_chain_turn t_chain_wheel t_chain_leaks t_chain_wants z4.2.2.2.2.2.2.2.2 t_pad_count t_pad_signs) := hw.sub [0, 3, 4, 5, 1, 2] (by decide) rfl
        refine lv_iinc (v := (x1 + 1)) (lv' := [(1, .int (x1 + 1)), (0, .ref q_t)]) F.1 F.2.1 dX11_runPad_46 hl (k := 1) rfl rfl (by decide) rfl (fun ls hl => ?_)
        refine lv_goto (tgt := 13) F.1 F.2.1 dX11_runPad_49 (by decide) ?_
        exact ih hr hw (lv_sub hl [1, 0] rfl)
set_option maxHeartbeats 4000000 in
set_option maxRecDepth 100000 in
theorem c_X11_runPad (l : Launch) (dd : va_G) (g : Nat → ClassId) (mv : Nat) (q_t : Nat) (q_t_run : Nat) (q_t_chain : Nat) (q_t_run_when : Nat) (q_t_pad : Nat) (q_t_pad_signs : Nat) (o_t_words : Value) (o_t_sights : Value) (o_t_images : Value) (o_t_seek : Value) (o_t_hanging : Value) (o_t_race : Value) (o_t_widow : Value) (o_t_came : Value) (o_t_run_chain : Value) (t_changes : Int32) (t_fewestAt : Int32) (t_hungAt : Int32) (t_cameAt : Int32) (t_fewestPulls : Int32) (t_fewestRow : Int32) (t_run_wheel : Int64) (t_run_leaks : Int64) (t_run_turn : Int32) (t_run_pulls : Int32) (t_run_drawn : Int32) (t_run_leaked : Int32) (t_run_drunk : Int32) (t_run_servings : Int32) (t_chain_places : Int32) (t_chain_deep : Int32) (t_chain_turn : Int32) (t_chain_wheel : Int64) (t_chain_leaks : Int64) (t_chain_wants : Int64) (t_run_when : Nat → Int32) (t_pad_count : Int32) (t_pad_signs : Nat → Int32) (z : Int64 × Int64 × Int32 × Int32 × Int32 × Int32 × Int32 × Int32 × (Nat → Int32)) (hr : f_X11_runPad t_chain_places t_chain_deep t_chain_turn t_chain_wheel t_chain_leaks t_chain_wants t_run_when t_pad_count t_pad_signs = some z) (sz : Nat) : Met l yX11_runPad (.code yX11_runPad cX11_runPad 2 none :: WS) (rmH 3 0 0) (va_Pc [.ref q_t] (PW dd g mv (w_X11_runPad g q_t q_t_run q_t_chain q_t_run_when q_t_pad q_t_pad_signs o_t_words o_t_sights o_t_images o_t_seek o_t_hanging o_t_race o_t_widow o_t_came o_t_run_chain t_changes t_fewestAt t_hungAt t_cameAt t_fewestPulls t_fewestRow t_run_wheel t_run_leaks t_run_turn t_run_pulls t_run_drawn t_run_leaked t_run_drunk t_run_servings t_chain_places t_chain_deep t_chain_turn t_chain_wheel t_chain_leaks t_chain_wants t_run_when t_pad_count t_pad_signs) sz)) (Qo dd g none (fun u : Unit => (w_X11_runPad g q_t q_t_run q_t_chain q_t_run_when q_t_pad q_t_pad_signs o_t_words o_t_sights o_t_images o_t_seek o_t_hanging o_t_race o_t_widow o_t_came ((.ref q_t_chain)) t_changes t_fewestAt t_hungAt t_cameAt t_fewestPulls t_fewestRow z.1 z.2.1 z.2.2.1 z.2.2.2.1 z.2.2.2.2.1 z.2.2.2.2.2.1 z.2.2.2.2.2.2.1 z.2.2.2.2.2.2.2.1 t_chain_places t_chain_deep t_chain_turn t_chain_wheel t_chain_leaks t_chain_wants z.2.2.2.2.2.2.2.2 t_pad_count t_pad_signs)) (va_A (w_X11_runPad g q_t q_t_run q_t_chain q_t_run_when q_t_pad q_t_pad_signs o_t_words o_t_sights o_t_images o_t_seek o_t_hanging o_t_race o_t_widow o_t_came o_t_run_chain t_changes t_fewestAt t_hungAt t_cameAt t_fewestPulls t_fewestRow t_run_wheel t_run_leaks t_run_turn t_run_pulls t_run_drawn t_run_leaked t_run_drunk t_run_servings t_chain_places t_chain_deep t_chain_turn t_chain_wheel t_chain_leaks t_chain_wants t_run_when t_pad_count t_pad_signs) sz)) 0 0 (va_A (w_X11_runPad g q_t q_t_run q_t_chain q_t_run_when q_t_pad q_t_pad_signs o_t_words o_t_sights o_t_images o_t_seek o_t_hanging o_t_race o_t_widow o_t_came o_t_run_chain t_changes t_fewestAt t_hungAt t_cameAt t_fewestPulls t_fewestRow t_run_wheel t_run_leaks t_run_turn t_run_pulls t_run_drawn t_run_leaked t_run_drunk t_run_servings t_chain_places t_chain_deep t_chain_turn t_chain_wheel t_chain_leaks t_chain_wants t_run_when t_pad_count t_pad_signs) sz) := by
  refine Met_intro (by decide) (Nat.le_of_ble_eq_true rfl) ?_
  intro p e s m below meth c A ls F hret hlk hin hw hl
  replace hl : lv_has ls 2 [(0, .ref q_t)] := hl
  refine lv_aload_n F.1 F.2.1 dX11_runPad_0 rfl (lv_at hl 0 rfl) ?_
  refine gf_X11_47 F hw 0 rfl rfl dX11_runPad_1 ?_
  refine lv_aload_n F.1 F.2.1 dX11_runPad_4 rfl (lv_at hl 0 rfl) ?_
  refine gf_X11_19 F hw 0 rfl rfl dX11_runPad_5 ?_
  obtain ⟨z6, hz6, hr⟩ := Option.bind_eq_some_iff.mp hr
  refine call_o (wr := [(q_t, .inr (11, [.ref q_t_pad, .ref q_t_chain, o_t_words, o_t_sights, o_t_images, .ref q_t_run, o_t_seek, o_t_hanging, o_t_race, o_t_widow, o_t_came, .int t_changes, .int t_fewestAt, .int t_hungAt, .int t_cameAt, .int t_fewestPulls, .int t_fewestRow])), (q_t_pad, .inr (4, [.ref q_t_pad_signs, .int t_pad_count])), (q_t_pad_signs, .inl (g 0, 40, .inl t_pad_signs))]) (run_V (As := [.ref q_t_chain]) (rest := []) F k_X11_257 (c_X6_begin l dd g mv q_t_run q_t_chain q_t_run_when o_t_run_chain t_run_wheel t_run_leaks t_run_turn t_run_pulls t_run_drawn t_run_leaked t_run_drunk t_run_servings t_chain_places t_chain_deep t_chain_turn t_chain_wheel t_chain_leaks t_chain_wants t_run_when z6 hz6 _) hw [1, 2, 3] (by decide) rfl (ci := 6) rfl rfl rfl rfl hl.1 rfl (Nat.le_of_ble_eq_true rfl) dX11_runPad_8 ⟨Nat.le_of_ble_eq_true rfl, Nat.le_of_ble_eq_true rfl⟩ ⟨Nat.le_of_ble_eq_true rfl, Nat.le_of_ble_eq_true rfl⟩) hw [1, 2, 3] [0, 4, 5] rfl rfl (by decide) (by decide) (fun u7 H locs hw => ?_)
  replace hw : Wd dd g mv A s H locs (w_X11_runPad g q_t q_t_run q_t_chain q_t_run_when q_t_pad q_t_pad_signs o_t_words o_t_sights o_t_images o_t_seek o_t_hanging o_t_race o_t_widow o_t_came ((.ref q_t_chain)) t_changes t_fewestAt t_hungAt t_cameAt t_fewestPulls t_fewestRow z6.1 z6.2.1 z6.2.2.1 z6.2.2.2.1 z6.2.2.2.2.1 z6.2.2.2.2.2.1 z6.2.2.2.2.2.2.1 z6.2.2.2.2.2.2.2.1 t_chain_places t_chain_deep t_chain_turn t_chain_wheel t_chain_leaks t_chain_wants z6.2.2.2.2.2.2.2.2 t_pad_count t_pad_signs) := hw.sub [0, 3, 4, 5, 1, 2] (by decide) rfl
  refine lv_iconst (v := 0) F.1 F.2.1 dX11_runPad_11 (by decide) ?_
  refine lv_istore_n (lv' := [(1, .int (0 : Int32)), (0, .ref q_t)]) F.1 F.2.1 dX11_runPad_12 rfl hl (by decide) rfl (fun ls hl => ?_)
  exact b_X11_runPad_13 F hret hlk  fuel hr hw (lv_sub hl [1, 0] rfl)
set_option maxHeartbeats 4000000 in
set_option maxRecDepth 100000 in
theorem c_X11_pull (l : Launch) (dd : va_G) (g : Nat → ClassId) (mv : Nat) (q_t : Nat) (q_t_pad : Nat) (q_t_pad_signs : Nat) (q_t_chain : Nat) (q_t_run : Nat) (q_t_run_when : Nat) (o_t_words : Value) (o_t_sights : Value) (o_t_images : Value) (o_t_seek : Value) (o_t_hanging : Value) (o_t_race : Value) (o_t_widow : Value) (o_t_came : Value) (o_t_run_chain : Value) (t_changes : Int32) (t_fewestAt : Int32) (t_hungAt : Int32) (t_cameAt : Int32) (t_fewestPulls : Int32) (t_fewestRow : Int32) (t_pad_count : Int32) (t_pad_signs : Nat → Int32) (t_chain_places : Int32) (t_chain_deep : Int32) (t_chain_turn : Int32) (t_chain_wheel : Int64) (t_chain_leaks : Int64) (t_chain_wants : Int64) (t_run_wheel : Int64) (t_run_leaks : Int64) (t_run_turn : Int32) (t_run_pulls : Int32) (t_run_drawn : Int32) (t_run_leaked : Int32) (t_run_drunk : Int32) (t_run_servings : Int32) (t_run_when : Nat → Int32) (z : Int32 × Int32 × Int32 × Int32 × Int64 × Int64 × Int64 × Int64 × Int32 × Int32 × Int32 × Int32 × Int32 × Int32 × (Nat → Int32)) (hr : f_X11_pull t_changes t_pad_count t_pad_signs t_chain_places t_chain_deep t_chain_turn t_chain_wheel t_chain_leaks t_chain_wants t_run_wheel t_run_leaks t_run_turn t_run_pulls t_run_drawn t_run_leaked t_run_drunk t_run_servings t_run_when = some z) (sz : Nat) : Met l yX11_pull (.code yX11_pull cX11_pull 2 (some .int) :: WS) (rmH 4 0 0) (va_Pc [.ref q_t] (PW dd g mv (w_X11_pull g q_t q_t_pad q_t_pad_signs q_t_chain q_t_run q_t_run_when o_t_words o_t_sights o_t_images o_t_seek o_t_hanging o_t_race o_t_widow o_t_came o_t_run_chain t_changes t_fewestAt t_hungAt t_cameAt t_fewestPulls t_fewestRow t_pad_count t_pad_signs t_chain_places t_chain_deep t_chain_turn t_chain_wheel t_chain_leaks t_chain_wants t_run_wheel t_run_leaks t_run_turn t_run_pulls t_run_drawn t_run_leaked t_run_drunk t_run_servings t_run_when) sz)) (Qo dd g (some (.int z.1)) (fun u : Value => (w_X11_pull g q_t q_t_pad q_t_pad_signs q_t_chain q_t_run q_t_run_when o_t_words o_t_sights o_t_images o_t_seek o_t_hanging o_t_race o_t_widow o_t_came u z.2.1 t_fewestAt t_hungAt t_cameAt t_fewestPulls t_fewestRow z.2.2.1 t_pad_signs t_chain_places t_chain_deep z.2.2.2.1 z.2.2.2.2.1 z.2.2.2.2.2.1 t_chain_wants z.2.2.2.2.2.2.1 z.2.2.2.2.2.2.2.1 z.2.2.2.2.2.2.2.2.1 z.2.2.2.2.2.2.2.2.2.1 z.2.2.2.2.2.2.2.2.2.2.1 z.2.2.2.2.2.2.2.2.2.2.2.1 z.2.2.2.2.2.2.2.2.2.2.2.2.1 z.2.2.2.2.2.2.2.2.2.2.2.2.2.1 z.2.2.2.2.2.2.2.2.2.2.2.2.2.2)) (va_A (w_X11_pull g q_t q_t_pad q_t_pad_signs q_t_chain q_t_run q_t_run_when o_t_words o_t_sights o_t_images o_t_seek o_t_hanging o_t_race o_t_widow o_t_came o_t_run_chain t_changes t_fewestAt t_hungAt t_cameAt t_fewestPulls t_fewestRow t_pad_count t_pad_signs t_chain_places t_chain_deep t_chain_turn t_chain_wheel t_chain_leaks t_chain_wants t_run_wheel t_run_leaks t_run_turn t_run_pulls t_run_drawn t_run_leaked t_run_drunk t_run_servings t_run_when) sz)) 0 0 (va_A (w_X11_pull g q_t q_t_pad q_t_pad_signs q_t_chain q_t_run q_t_run_when o_t_words o_t_sights o_t_images o_t_seek o_t_hanging o_t_race o_t_widow o_t_came o_t_run_chain t_changes t_fewestAt t_hungAt t_cameAt t_fewestPulls t_fewestRow t_pad_count t_pad_signs t_chain_places t_chain_deep t_chain_turn t_chain_wheel t_chain_leaks t_chain_wants t_run_wheel t_run_leaks t_run_turn t_run_pulls t_run_drawn t_run_leaked t_run_drunk t_run_servings t_run_when) sz) := by
  refine Met_intro (by decide) (Nat.le_of_ble_eq_true rfl) ?_
  intro p e s m below meth c A ls F hret hlk hin hw hl
  replace hl : lv_has ls 2 [(0, .ref q_t)] := hl
  refine lv_aload_n F.1 F.2.1 dX11_pull_0 rfl (lv_at hl 0 rfl) ?_
  refine gf_X11_12 F hw 0 rfl rfl dX11_pull_1 ?_
  obtain ⟨z1, hz1, hr⟩ := Option.bind_eq_some_iff.mp hr
  refine call_o (wr := [(q_t, .inr (11, [.ref q_t_pad, .ref q_t_chain, o_t_words, o_t_sights, o_t_images, .ref q_t_run, o_t_seek, o_t_hanging, o_t_race, o_t_widow, o_t_came, .int t_changes, .int t_fewestAt, .int t_hungAt, .int t_cameAt, .int t_fewestPulls, .int t_fewestRow])), (q_t_chain, .inr (1, [.int t_chain_places, .int t_chain_deep, .int t_chain_turn, .long t_chain_wheel, .long t_chain_leaks, .long t_chain_wants])), (q_t_run, .inr (6, [.ref q_t_run_when, o_t_run_chain, .long t_run_wheel, .long t_run_leaks, .int t_run_turn, .int t_run_pulls, .int t_run_drawn, .int t_run_leaked, .int t_run_drunk, .int t_run_servings])), (q_t_run_when, .inl (g 0, 9, .inl t_run_when))]) (run_V (As := []) (rest := []) F k_X11_161 (c_X4_firstFault l dd g mv q_t_pad q_t_pad_signs t_pad_count t_pad_signs z1 hz1 _) hw [1, 2] (by decide) rfl (ci := 4) rfl rfl rfl rfl hl.1 rfl (Nat.le_of_ble_eq_true rfl) dX11_pull_4 ⟨Nat.le_of_ble_eq_true rfl, Nat.le_of_ble_eq_true rfl⟩ ⟨Nat.le_of_ble_eq_true rfl, Nat.le_of_ble_eq_true rfl⟩) hw [1, 2] [0, 3, 4, 5] rfl rfl (by decide) (by decide) (fun u2 H locs hw => ?_)
  replace hw : Wd dd g mv A s H locs (w_X11_pull g q_t q_t_pad q_t_pad_signs q_t_chain q_t_run q_t_run_when o_t_words o_t_sights o_t_images o_t_seek o_t_hanging o_t_race o_t_widow o_t_came o_t_run_chain t_changes t_fewestAt t_hungAt t_cameAt t_fewestPulls t_fewestRow t_pad_count t_pad_signs t_chain_places t_chain_deep t_chain_turn t_chain_wheel t_chain_leaks t_chain_wants t_run_wheel t_run_leaks t_run_turn t_run_pulls t_run_drawn t_run_leaked t_run_drunk t_run_servings t_run_when) := hw.sub [0, 4, 5, 1, 2, 3] (by decide) rfl
  refine W.eq (g2 := F0 m 7 ls (.int z1 :: [])) rfl ?_
  refine lv_bipush (v := -6) F.1 F.2.1 dX11_pull_7 (by decide) ?_
  refine lv_icmp_eq (tgt := 15) F.1 F.2.1 dX11_pull_9 (by decide) (fun hc3 => ?_) (fun hc3 => ?_)
  · replace hr := (if_pos hc3).symm.trans hr
    refine lv_aload_n F.1 F.2.1 dX11_pull_15 rfl (lv_at hl 0 rfl) ?_
    refine gf_X11_19 F hw 0 rfl rfl dX11_pull_16 ?_
    refine lv_aload_n F.1 F.2.1 dX11_pull_19 rfl (lv_at hl 0 rfl) ?_
    refine gf_X11_19 F hw 0 rfl rfl dX11_pull_20 ?_
    refine gf_X11_129 F hw 3 rfl rfl dX11_pull_23 ?_
    obtain ⟨z4, hz4, hr⟩ := Option.bind_eq_some_iff.mp hr
    refine call_o (wr := [(q_t, .inr (11, [.ref q_t_pad, .ref q_t_chain, o_t_words, o_t_sights, o_t_images, .ref q_t_run, o_t_seek, o_t_hanging, o_t_race, o_t_widow, o_t_came, .int t_changes, .int t_fewestAt, .int t_hungAt, .int t_cameAt, .int t_fewestPulls, .int t_fewestRow])), (q_t_pad, .inr (4, [.ref q_t_pad_signs, .int t_pad_count])), (q_t_pad_signs, .inl (g 0, 40, .inl t_pad_signs)), (q_t_run, .inr (6, [.ref q_t_run_when, o_t_run_chain, .long t_run_wheel, .long t_run_leaks, .int t_run_turn, .int t_run_pulls, .int t_run_drawn, .int t_run_leaked, .int t_run_drunk, .int t_run_servings])), (q_t_run_when, .inl (g 0, 9, .inl t_run_when))]) (run_V (As := [.long t_chain_wheel]) (rest := []) F k_X11_164 (c_X1_servedBits l dd g mv q_t_chain t_chain_places t_chain_deep t_chain_turn t_chain_wheel t_chain_leaks t_chain_wants t_chain_wheel z4 hz4 _) hw [3] (by decide) rfl (ci := 1) rfl rfl rfl rfl hl.1 rfl (Nat.le_of_ble_eq_true rfl) dX11_pull_26 ⟨Nat.le_of_ble_eq_true rfl, Nat.le_of_ble_eq_true rfl⟩ ⟨Nat.le_of_ble_eq_true rfl, Nat.le_of_ble_eq_true rfl⟩) hw [3] [0, 1, 2, 4, 5] rfl rfl (by decide) (by decide) (fun u5 H locs hw => ?_)
    replace hw : Wd dd g mv A s H locs (w_X11_pull g q_t q_t_pad q_t_pad_signs q_t_chain q_t_run q_t_run_when o_t_words o_t_sights o_t_images o_t_seek o_t_hanging o_t_race o_t_widow o_t_came o_t_run_chain t_changes t_fewestAt t_hungAt t_cameAt t_fewestPulls t_fewestRow t_pad_count t_pad_signs t_chain_places t_chain_deep t_chain_turn t_chain_wheel t_chain_leaks t_chain_wants t_run_wheel t_run_leaks t_run_turn t_run_pulls t_run_drawn t_run_leaked t_run_drunk t_run_servings t_run_when) := hw.sub [0, 1, 2, 5, 3, 4] (by decide) rfl
    refine W.eq (g2 := F0 m 29 ls (.int z4 :: [])) rfl ?_
    refine lv_istore_n (lv' := [(1, .int z4), (0, .ref q_t)]) F.1 F.2.1 dX11_pull_29 rfl hl (by decide) rfl (fun ls hl => ?_)
    refine lv_aload_n F.1 F.2.1 dX11_pull_30 rfl (lv_at hl 1 rfl) ?_
    obtain ⟨z6, hz6, hr⟩ := Option.bind_eq_some_iff.mp hr
    refine call_o (wr := []) (run_V (As := []) (rest := []) F k_X11_168 (c_X11_runPad l dd g mv q_t q_t_run q_t_chain q_t_run_when q_t_pad q_t_pad_signs o_t_words o_t_sights o_t_images o_t_seek o_t_hanging o_t_race o_t_widow o_t_came o_t_run_chain t_changes t_fewestAt t_hungAt t_cameAt t_fewestPulls t_fewestRow t_run_wheel t_run_leaks t_run_turn t_run_pulls t_run_drawn t_run_leaked t_run_drunk t_run_servings t_chain_places t_chain_deep t_chain_turn t_chain_wheel t_chain_leaks t_chain_wants t_run_when t_pad_count t_pad_signs z6 hz6 _) hw [0, 4, 3, 5, 1, 2] (by decide) rfl (ci := 11) rfl rfl rfl rfl hl.1 rfl (Nat.le_of_ble_eq_true rfl) dX11_pull_31 ⟨Nat.le_of_ble_eq_true rfl, Nat.le_of_ble_eq_true rfl⟩ ⟨Nat.le_of_ble_eq_true rfl, Nat.le_of_ble_eq_true rfl⟩) hw [0, 4, 3, 5, 1, 2] [] rfl rfl (by decide) (by decide) (fun u7 H locs hw => ?_)
    replace hw : Wd dd g mv A s H locs (w_X11_pull g q_t q_t_pad q_t_pad_signs q_t_chain q_t_run q_t_run_when o_t_words o_t_sights o_t_images o_t_seek o_t_hanging o_t_race o_t_widow o_t_came ((.ref q_t_chain)) t_changes t_fewestAt t_hungAt t_cameAt t_fewestPulls t_fewestRow t_pad_count t_pad_signs t_chain_places t_chain_deep t_chain_turn t_chain_wheel t_chain_leaks t_chain_wants z6.1 z6.2.1 z6.2.2.1 z6.2.2.2.1 z6.2.2.2.2.1 z6.2.2.2.2.2.1 z6.2.2.2.2.2.2.1 z6.2.2.2.2.2.2.2.1 z6.2.2.2.2.2.2.2.2) := hw.sub [0, 4, 5, 2, 1, 3] (by decide) rfl
    refine lv_aload_n F.1 F.2.1 dX11_pull_34 rfl (lv_at hl 1 rfl) ?_
    refine gf_X11_19 F hw 0 rfl rfl dX11_pull_35 ?_
    refine lv_aload_n F.1 F.2.1 dX11_pull_38 rfl (lv_at hl 1 rfl) ?_
    refine gf_X11_47 F hw 0 rfl rfl dX11_pull_39 ?_
    refine gf_X11_171 F hw 4 rfl rfl dX11_pull_42 ?_
    refine pf_X11_129 F hw 3 rfl (Nat.le_of_ble_eq_true rfl) dX11_pull_45 (fun H locs hw => ?_)
    replace hw : Wd dd g mv A s H locs (w_X11_pull g q_t q_t_pad q_t_pad_signs q_t_chain q_t_run q_t_run_when o_t_words o_t_sights o_t_images o_t_seek o_t_hanging o_t_race o_t_widow o_t_came ((.ref q_t_chain)) t_changes t_fewestAt t_hungAt t_cameAt t_fewestPulls t_fewestRow t_pad_count t_pad_signs t_chain_places t_chain_deep t_chain_turn z6.1 t_chain_leaks t_chain_wants z6.1 z6.2.1 z6.2.2.1 z6.2.2.2.1 z6.2.2.2.2.1 z6.2.2.2.2.2.1 z6.2.2.2.2.2.2.1 z6.2.2.2.2.2.2.2.1 z6.2.2.2.2.2.2.2.2) := hw
    refine lv_aload_n F.1 F.2.1 dX11_pull_48 rfl (lv_at hl 1 rfl) ?_
    refine gf_X11_19 F hw 0 rfl rfl dX11_pull_49 ?_
    refine lv_aload_n F.1 F.2.1 dX11_pull_52 rfl (lv_at hl 1 rfl) ?_
    refine gf_X11_47 F hw 0 rfl rfl dX11_pull_53 ?_
    refine gf_X11_172 F hw 4 rfl rfl dX11_pull_56 ?_
    refine pf_X11_141 F hw 3 rfl (Nat.le_of_ble_eq_true rfl) dX11_pull_59 (fun H locs hw => ?_)
    replace hw : Wd dd g mv A s H locs (w_X11_pull g q_t q_t_pad q_t_pad_signs q_t_chain q_t_run q_t_run_when o_t_words o_t_sights o_t_images o_t_seek o_t_hanging o_t_race o_t_widow o_t_came ((.ref q_t_chain)) t_changes t_fewestAt t_hungAt t_cameAt t_fewestPulls t_fewestRow t_pad_count t_pad_signs t_chain_places t_chain_deep t_chain_turn z6.1 z6.2.1 t_chain_wants z6.1 z6.2.1 z6.2.2.1 z6.2.2.2.1 z6.2.2.2.2.1 z6.2.2.2.2.2.1 z6.2.2.2.2.2.2.1 z6.2.2.2.2.2.2.2.1 z6.2.2.2.2.2.2.2.2) := hw
    refine lv_aload_n F.1 F.2.1 dX11_pull_62 rfl (lv_at hl 1 rfl) ?_
    refine gf_X11_19 F hw 0 rfl rfl dX11_pull_63 ?_
    refine lv_aload_n F.1 F.2.1 dX11_pull_66 rfl (lv_at hl 1 rfl) ?_
    refine gf_X11_47 F hw 0 rfl rfl dX11_pull_67 ?_
    refine gf_X11_173 F hw 4 rfl rfl dX11_pull_70 ?_
    refine pf_X11_122 F hw 3 rfl (Nat.le_of_ble_eq_true rfl) dX11_pull_73 (fun H locs hw => ?_)
    replace hw : Wd dd g mv A s H locs (w_X11_pull g q_t q_t_pad q_t_pad_signs q_t_chain q_t_run q_t_run_when o_t_words o_t_sights o_t_images o_t_seek o_t_hanging o_t_race o_t_widow o_t_came ((.ref q_t_chain)) t_changes t_fewestAt t_hungAt t_cameAt t_fewestPulls t_fewestRow t_pad_count t_pad_signs t_chain_places t_chain_deep z6.2.2.1 z6.1 z6.2.1 t_chain_wants z6.1 z6.2.1 z6.2.2.1 z6.2.2.2.1 z6.2.2.2.2.1 z6.2.2.2.2.2.1 z6.2.2.2.2.2.2.1 z6.2.2.2.2.2.2.2.1 z6.2.2.2.2.2.2.2.2) := hw
    refine lv_aload_n F.1 F.2.1 dX11_pull_76 rfl (lv_at hl 1 rfl) ?_
    refine gf_X11_12 F hw 0 rfl rfl dX11_pull_77 ?_
    refine lv_iconst (v := 0) F.1 F.2.1 dX11_pull_80 (by decide) ?_
    refine pf_X11_160 F hw 1 rfl (Nat.le_of_ble_eq_true rfl) dX11_pull_81 (fun H locs hw => ?_)
    replace hw : Wd dd g mv A s H locs (w_X11_pull g q_t q_t_pad q_t_pad_signs q_t_chain q_t_run q_t_run_when o_t_words o_t_sights o_t_images o_t_seek o_t_hanging o_t_race o_t_widow o_t_came ((.ref q_t_chain)) t_changes t_fewestAt t_hungAt t_cameAt t_fewestPulls t_fewestRow ((0 : Int32)) t_pad_signs t_chain_places t_chain_deep z6.2.2.1 z6.1 z6.2.1 t_chain_wants z6.1 z6.2.1 z6.2.2.1 z6.2.2.2.1 z6.2.2.2.2.1 z6.2.2.2.2.2.1 z6.2.2.2.2.2.2.1 z6.2.2.2.2.2.2.2.1 z6.2.2.2.2.2.2.2.2) := hw
    refine lv_aload_n F.1 F.2.1 dX11_pull_84 rfl (lv_at hl 1 rfl) ?_
    refine lv_dup F.1 F.2.1 dX11_pull_85 rfl ?_
    refine gf_X11_86 F hw 0 rfl rfl dX11_pull_86 ?_
    refine lv_iconst (v := 1) F.1 F.2.1 dX11_pull_89 (by decide) ?_
    refine lv_iadd F.1 F.2.1 dX11_pull_90 ?_
    refine pf_X11_86 F hw 0 rfl (Nat.le_of_ble_eq_true rfl) dX11_pull_91 (fun H locs hw => ?_)
    replace hw : Wd dd g mv A s H locs (w_X11_pull g q_t q_t_pad q_t_pad_signs q_t_chain q_t_run q_t_run_when o_t_words o_t_sights o_t_images o_t_seek o_t_hanging o_t_race o_t_widow o_t_came ((.ref q_t_chain)) ((t_changes + (1 : Int32))) t_fewestAt t_hungAt t_cameAt t_fewestPulls t_fewestRow ((0 : Int32)) t_pad_signs t_chain_places t_chain_deep z6.2.2.1 z6.1 z6.2.1 t_chain_wants z6.1 z6.2.1 z6.2.2.1 z6.2.2.2.1 z6.2.2.2.2.1 z6.2.2.2.2.2.1 z6.2.2.2.2.2.2.1 z6.2.2.2.2.2.2.2.1 z6.2.2.2.2.2.2.2.2) := hw
    refine lv_aload_n F.1 F.2.1 dX11_pull_94 rfl (lv_at hl 1 rfl) ?_
    refine gf_X11_19 F hw 0 rfl rfl dX11_pull_95 ?_
    refine lv_aload_n F.1 F.2.1 dX11_pull_98 rfl (lv_at hl 1 rfl) ?_
    refine gf_X11_19 F hw 0 rfl rfl dX11_pull_99 ?_
    refine gf_X11_129 F hw 3 rfl rfl dX11_pull_102 ?_
    obtain ⟨z8, hz8, hr⟩ := Option.bind_eq_some_iff.mp hr
    refine call_o (wr := [(q_t, .inr (11, [.ref q_t_pad, .ref q_t_chain, o_t_words, o_t_sights, o_t_images, .ref q_t_run, o_t_seek, o_t_hanging, o_t_race, o_t_widow, o_t_came, .int ((t_changes + (1 : Int32))), .int t_fewestAt, .int t_hungAt, .int t_cameAt, .int t_fewestPulls, .int t_fewestRow])), (q_t_pad, .inr (4, [.ref q_t_pad_signs, .int ((0 : Int32))])), (q_t_pad_signs, .inl (g 0, 40, .inl t_pad_signs)), (q_t_run, .inr (6, [.ref q_t_run_when, (.ref q_t_chain), .long z6.1, .long z6.2.1, .int z6.2.2.1, .int z6.2.2.2.1, .int z6.2.2.2.2.1, .int z6.2.2.2.2.2.1, .int z6.2.2.2.2.2.2.1, .int z6.2.2.2.2.2.2.2.1])), (q_t_run_when, .inl (g 0, 9, .inl z6.2.2.2.2.2.2.2.2))]) (run_V (As := [.long z6.1]) (rest := []) F k_X11_164 (c_X1_servedBits l dd g mv q_t_chain t_chain_places t_chain_deep z6.2.2.1 z6.1 z6.2.1 t_chain_wants z6.1 z8 hz8 _) hw [3] (by decide) rfl (ci := 1) rfl rfl rfl rfl hl.1 rfl (Nat.le_of_ble_eq_true rfl) dX11_pull_105 ⟨Nat.le_of_ble_eq_true rfl, Nat.le_of_ble_eq_true rfl⟩ ⟨Nat.le_of_ble_eq_true rfl, Nat.le_of_ble_eq_true rfl⟩) hw [3] [0, 1, 2, 4, 5] rfl rfl (by decide) (by decide) (fun u9 H locs hw => ?_)
    replace hw : Wd dd g mv A s H locs (w_X11_pull g q_t q_t_pad q_t_pad_signs q_t_chain q_t_run q_t_run_when o_t_words o_t_sights o_t_images o_t_seek o_t_hanging o_t_race o_t_widow o_t_came ((.ref q_t_chain)) ((t_changes + (1 : Int32))) t_fewestAt t_hungAt t_cameAt t_fewestPulls t_fewestRow ((0 : Int32)) t_pad_signs t_chain_places t_chain_deep z6.2.2.1 z6.1 z6.2.1 t_chain_wants z6.1 z6.2.1 z6.2.2.1 z6.2.2.2.1 z6.2.2.2.2.1 z6.2.2.2.2.2.1 z6.2.2.2.2.2.2.1 z6.2.2.2.2.2.2.2.1 z6.2.2.2.2.2.2.2.2) := hw.sub [0, 1, 2, 5, 3, 4] (by decide) rfl
    refine W.eq (g2 := F0 m 108 ls (.int z8 :: [])) rfl ?_
    refine lv_iload_n F.1 F.2.1 dX11_pull_108 rfl (lv_at hl 0 rfl) ?_
    refine lv_iconst (v := -1) F.1 F.2.1 dX11_pull_109 (by decide) ?_
    refine lv_ixor F.1 F.2.1 dX11_pull_110 ?_
    refine lv_iand F.1 F.2.1 dX11_pull_111 ?_
    cases hr
    exact ret_i ((.ref q_t_chain)) F hret hlk hw (Nat.le_refl _) (Nat.le_refl _) dX11_pull_112
  · replace hr := (if_neg hc3).symm.trans hr
    refine lv_bipush (v := -5) F.1 F.2.1 dX11_pull_12 (by decide) ?_
    cases hr
    exact ret_i (o_t_run_chain) F hret hlk hw (Nat.le_refl _) (Nat.le_refl _) dX11_pull_14
set_option maxHeartbeats 4000000 in
set_option maxRecDepth 100000 in
theorem c_X11_behind (l : Launch) (dd : va_G) (g : Nat → ClassId) (mv : Nat) (q_t : Nat) (q_t_chain : Nat) (q_t_pad : Nat) (q_t_pad_signs : Nat) (q_t_run : Nat) (q_t_run_when : Nat) (o_t_words : Value) (o_t_sights : Value) (o_t_images : Value) (o_t_seek : Value) (o_t_hanging : Value) (o_t_race : Value) (o_t_widow : Value) (o_t_came : Value) (o_t_run_chain : Value) (t_changes : Int32) (t_fewestAt : Int32) (t_hungAt : Int32) (t_cameAt : Int32) (t_fewestPulls : Int32) (t_fewestRow : Int32) (t_chain_places : Int32) (t_chain_deep : Int32) (t_chain_turn : Int32) (t_chain_wheel : Int64) (t_chain_leaks : Int64) (t_chain_wants : Int64) (t_pad_count : Int32) (t_pad_signs : Nat → Int32) (t_run_wheel : Int64) (t_run_leaks : Int64) (t_run_turn : Int32) (t_run_pulls : Int32) (t_run_drawn : Int32) (t_run_leaked : Int32) (t_run_drunk : Int32) (t_run_servings : Int32) (t_run_when : Nat → Int32) (a1 : Int32) (a2 : Int32) (z : Int32 × Int64 × Int64 × Int32 × Int32 × Int32 × Int32 × Int32 × Int32 × (Nat → Int32)) (hr : f_X11_behind t_chain_places t_chain_deep t_chain_turn t_chain_wheel t_chain_leaks t_chain_wants t_pad_count t_pad_signs t_run_wheel t_run_leaks t_run_turn t_run_pulls t_run_drawn t_run_leaked t_run_drunk t_run_servings t_run_when a1 a2 = some z) (sz : Nat) : Met l yX11_behind (.code yX11_behind cX11_behind 4 (some .int) :: WS) (rmH 4 0 0) (va_Pc [.ref q_t, .int a1, .int a2] (PW dd g mv (w_X11_behind g q_t q_t_chain q_t_pad q_t_pad_signs q_t_run q_t_run_when o_t_words o_t_sights o_t_images o_t_seek o_t_hanging o_t_race o_t_widow o_t_came o_t_run_chain t_changes t_fewestAt t_hungAt t_cameAt t_fewestPulls t_fewestRow t_chain_places t_chain_deep t_chain_turn t_chain_wheel t_chain_leaks t_chain_wants t_pad_count t_pad_signs t_run_wheel t_run_leaks t_run_turn t_run_pulls t_run_drawn t_run_leaked t_run_drunk t_run_servings t_run_when) sz)) (Qo dd g (some (.int z.1)) (fun u : Value => (w_X11_behind g q_t q_t_chain q_t_pad q_t_pad_signs q_t_run q_t_run_when o_t_words o_t_sights o_t_images o_t_seek o_t_hanging o_t_race o_t_widow o_t_came u t_changes t_fewestAt t_hungAt t_cameAt t_fewestPulls t_fewestRow t_chain_places t_chain_deep t_chain_turn t_chain_wheel t_chain_leaks t_chain_wants t_pad_count t_pad_signs z.2.1 z.2.2.1 z.2.2.2.1 z.2.2.2.2.1 z.2.2.2.2.2.1 z.2.2.2.2.2.2.1 z.2.2.2.2.2.2.2.1 z.2.2.2.2.2.2.2.2.1 z.2.2.2.2.2.2.2.2.2)) (va_A (w_X11_behind g q_t q_t_chain q_t_pad q_t_pad_signs q_t_run q_t_run_when o_t_words o_t_sights o_t_images o_t_seek o_t_hanging o_t_race o_t_widow o_t_came o_t_run_chain t_changes t_fewestAt t_hungAt t_cameAt t_fewestPulls t_fewestRow t_chain_places t_chain_deep t_chain_turn t_chain_wheel t_chain_leaks t_chain_wants t_pad_count t_pad_signs t_run_wheel t_run_leaks t_run_turn t_run_pulls t_run_drawn t_run_leaked t_run_drunk t_run_servings t_run_when) sz)) 0 0 (va_A (w_X11_behind g q_t q_t_chain q_t_pad q_t_pad_signs q_t_run q_t_run_when o_t_words o_t_sights o_t_images o_t_seek o_t_hanging o_t_race o_t_widow o_t_came o_t_run_chain t_changes t_fewestAt t_hungAt t_cameAt t_fewestPulls t_fewestRow t_chain_places t_chain_deep t_chain_turn t_chain_wheel t_chain_leaks t_chain_wants t_pad_count t_pad_signs t_run_wheel t_run_leaks t_run_turn t_run_pulls t_run_drawn t_run_leaked t_run_drunk t_run_servings t_run_when) sz) := by
  refine Met_intro (by decide) (Nat.le_of_ble_eq_true rfl) ?_
  intro p e s m below meth c A ls F hret hlk hin hw hl
  replace hl : lv_has ls 4 [(0, .ref q_t), (1, .int a1), (2, .int a2)] := hl
  refine lv_aload_n F.1 F.2.1 dX11_behind_0 rfl (lv_at hl 0 rfl) ?_
  refine lv_iload_n F.1 F.2.1 dX11_behind_1 rfl (lv_at hl 1 rfl) ?_
  obtain ⟨z1, hz1, hr⟩ := Option.bind_eq_some_iff.mp hr
  refine call_o (wr := [(q_t_pad, .inr (4, [.ref q_t_pad_signs, .int t_pad_count])), (q_t_pad_signs, .inl (g 0, 40, .inl t_pad_signs)), (q_t_run, .inr (6, [.ref q_t_run_when, o_t_run_chain, .long t_run_wheel, .long t_run_leaks, .int t_run_turn, .int t_run_pulls, .int t_run_drawn, .int t_run_leaked, .int t_run_drunk, .int t_run_servings])), (q_t_run_when, .inl (g 0, 9, .inl t_run_when))]) (run_V (As := [.int a1]) (rest := []) F k_X11_115 (c_X11_isThere l dd g mv q_t q_t_chain ((.ref q_t_pad)) o_t_words o_t_sights o_t_images ((.ref q_t_run)) o_t_seek o_t_hanging o_t_race o_t_widow o_t_came t_changes t_fewestAt t_hungAt t_cameAt t_fewestPulls t_fewestRow t_chain_places t_chain_deep t_chain_turn t_chain_wheel t_chain_leaks t_chain_wants a1 z1 hz1 _) hw [0, 1] (by decide) rfl (ci := 11) rfl rfl rfl rfl hl.1 rfl (Nat.le_of_ble_eq_true rfl) dX11_behind_2 ⟨Nat.le_of_ble_eq_true rfl, Nat.le_of_ble_eq_true rfl⟩ ⟨Nat.le_of_ble_eq_true rfl, Nat.le_of_ble_eq_true rfl⟩) hw [0, 1] [2, 3, 4, 5] rfl rfl (by decide) (by decide) (fun u2 H locs hw => ?_)
  replace hw : Wd dd g mv A s H locs (w_X11_behind g q_t q_t_chain q_t_pad q_t_pad_signs q_t_run q_t_run_when o_t_words o_t_sights o_t_images o_t_seek o_t_hanging o_t_race o_t_widow o_t_came o_t_run_chain t_changes t_fewestAt t_hungAt t_cameAt t_fewestPulls t_fewestRow t_chain_places t_chain_deep t_chain_turn t_chain_wheel t_chain_leaks t_chain_wants t_pad_count t_pad_signs t_run_wheel t_run_leaks t_run_turn t_run_pulls t_run_drawn t_run_leaked t_run_drunk t_run_servings t_run_when) := hw.sub [4, 5, 0, 1, 2, 3] (by decide) rfl
  refine W.eq (g2 := F0 m 5 ls (.int z1 :: [])) rfl ?_
  refine lv_if_ne (tgt := 10) F.1 F.2.1 dX11_behind_5 (by decide) (fun hc3 => ?_) (fun hc3 => ?_)
  · replace hr := (if_neg hc3).symm.trans hr
    refine lv_iload_n F.1 F.2.1 dX11_behind_10 rfl (lv_at hl 2 rfl) ?_
    refine lv_if_lt (tgt := 19) F.1 F.2.1 dX11_behind_11 (by decide) (fun hc4 => ?_) (fun hc4 => ?_)
    · replace hr := (if_pos hc4).symm.trans hr
      refine lv_bipush (v := -2) F.1 F.2.1 dX11_behind_19 (by decide) ?_
      cases hr
      exact ret_i (o_t_run_chain) F hret hlk hw (Nat.le_refl _) (Nat.le_refl _) dX11_behind_21
    · replace hr := (if_neg hc4).symm.trans hr
      refine lv_iload_n F.1 F.2.1 dX11_behind_14 rfl (lv_at hl 2 rfl) ?_
      refine lv_iconst (v := 1) F.1 F.2.1 dX11_behind_15 (by decide) ?_
      refine lv_icmp_le (tgt := 22) F.1 F.2.1 dX11_behind_16 (by decide) (fun hc5 => ?_) (fun hc5 => ?_)
      · replace hr := (if_pos hc5).symm.trans hr
        refine lv_aload_n F.1 F.2.1 dX11_behind_22 rfl (lv_at hl 0 rfl) ?_
        refine gf_X11_12 F hw 0 rfl rfl dX11_behind_23 ?_
        obtain ⟨z6, hz6, hr⟩ := Option.bind_eq_some_iff.mp hr
        refine call_o (wr := [(q_t, .inr (11, [.ref q_t_pad, .ref q_t_chain, o_t_words, o_t_sights, o_t_images, .ref q_t_run, o_t_seek, o_t_hanging, o_t_race, o_t_widow, o_t_came, .int t_changes, .int t_fewestAt, .int t_hungAt, .int t_cameAt, .int t_fewestPulls, .int t_fewestRow])), (q_t_chain, .inr (1, [.int t_chain_places, .int t_chain_deep, .int t_chain_turn, .long t_chain_wheel, .long t_chain_leaks, .long t_chain_wants])), (q_t_run, .inr (6, [.ref q_t_run_when, o_t_run_chain, .long t_run_wheel, .long t_run_leaks, .int t_run_turn, .int t_run_pulls, .int t_run_drawn, .int t_run_leaked, .int t_run_drunk, .int t_run_servings])), (q_t_run_when, .inl (g 0, 9, .inl t_run_when))]) (run_V (As := []) (rest := []) F k_X11_161 (c_X4_firstFault l dd g mv q_t_pad q_t_pad_signs t_pad_count t_pad_signs z6 hz6 _) hw [2, 3] (by decide) rfl (ci := 4) rfl rfl rfl rfl hl.1 rfl (Nat.le_of_ble_eq_true rfl) dX11_behind_26 ⟨Nat.le_of_ble_eq_true rfl, Nat.le_of_ble_eq_true rfl⟩ ⟨Nat.le_of_ble_eq_true rfl, Nat.le_of_ble_eq_true rfl⟩) hw [2, 3] [0, 1, 4, 5] rfl rfl (by decide) (by decide) (fun u7 H locs hw => ?_)
        replace hw : Wd dd g mv A s H locs (w_X11_behind g q_t q_t_chain q_t_pad q_t_pad_signs q_t_run q_t_run_when o_t_words o_t_sights o_t_images o_t_seek o_t_hanging o_t_race o_t_widow o_t_came o_t_run_chain t_changes t_fewestAt t_hungAt t_cameAt t_fewestPulls t_fewestRow t_chain_places t_chain_deep t_chain_turn t_chain_wheel t_chain_leaks t_chain_wants t_pad_count t_pad_signs t_run_wheel t_run_leaks t_run_turn t_run_pulls t_run_drawn t_run_leaked t_run_drunk t_run_servings t_run_when) := hw.sub [0, 1, 4, 5, 2, 3] (by decide) rfl
        refine W.eq (g2 := F0 m 29 ls (.int z6 :: [])) rfl ?_
        refine lv_bipush (v := -6) F.1 F.2.1 dX11_behind_29 (by decide) ?_
        refine lv_icmp_eq (tgt := 37) F.1 F.2.1 dX11_behind_31 (by decide) (fun hc8 => ?_) (fun hc8 => ?_)
        · replace hr := (if_pos hc8).symm.trans hr
          refine lv_aload_n F.1 F.2.1 dX11_behind_37 rfl (lv_at hl 0 rfl) ?_
          obtain ⟨z9, hz9, hr⟩ := Option.bind_eq_some_iff.mp hr
          refine call_o (wr := []) (run_V (As := []) (rest := []) F k_X11_168 (c_X11_runPad l dd g mv q_t q_t_run q_t_chain q_t_run_when q_t_pad q_t_pad_signs o_t_words o_t_sights o_t_images o_t_seek o_t_hanging o_t_race o_t_widow o_t_came o_t_run_chain t_changes t_fewestAt t_hungAt t_cameAt t_fewestPulls t_fewestRow t_run_wheel t_run_leaks t_run_turn t_run_pulls t_run_drawn t_run_leaked t_run_drunk t_run_servings t_chain_places t_chain_deep t_chain_turn t_chain_wheel t_chain_leaks t_chain_wants t_run_when t_pad_count t_pad_signs z9 hz9 _) hw [0, 4, 1, 5, 2, 3] (by decide) rfl (ci := 11) rfl rfl rfl rfl hl.1 rfl (Nat.le_of_ble_eq_true rfl) dX11_behind_38 ⟨Nat.le_of_ble_eq_true rfl, Nat.le_of_ble_eq_true rfl⟩ ⟨Nat.le_of_ble_eq_true rfl, Nat.le_of_ble_eq_true rfl⟩) hw [0, 4, 1, 5, 2, 3] [] rfl rfl (by decide) (by decide) (fun u10 H locs hw => ?_)
          replace hw : Wd dd g mv A s H locs (w_X11_behind g q_t q_t_chain q_t_pad q_t_pad_signs q_t_run q_t_run_when o_t_words o_t_sights o_t_images o_t_seek o_t_hanging o_t_race o_t_widow o_t_came ((.ref q_t_chain)) t_changes t_fewestAt t_hungAt t_cameAt t_fewestPulls t_fewestRow t_chain_places t_chain_deep t_chain_turn t_chain_wheel t_chain_leaks t_chain_wants t_pad_count t_pad_signs z9.1 z9.2.1 z9.2.2.1 z9.2.2.2.1 z9.2.2.2.2.1 z9.2.2.2.2.2.1 z9.2.2.2.2.2.2.1 z9.2.2.2.2.2.2.2.1 z9.2.2.2.2.2.2.2.2) := hw.sub [0, 2, 4, 5, 1, 3] (by decide) rfl
          refine lv_aload_n F.1 F.2.1 dX11_behind_41 rfl (lv_at hl 0 rfl) ?_
          refine gf_X11_19 F hw 0 rfl rfl dX11_behind_42 ?_
          refine lv_iload_n F.1 F.2.1 dX11_behind_45 rfl (lv_at hl 1 rfl) ?_
          refine lv_aload_n F.1 F.2.1 dX11_behind_46 rfl (lv_at hl 0 rfl) ?_
          refine gf_X11_47 F hw 0 rfl rfl dX11_behind_47 ?_
          refine gf_X11_173 F hw 4 rfl rfl dX11_behind_50 ?_
          obtain ⟨z11, hz11, hr⟩ := Option.bind_eq_some_iff.mp hr
          refine call_o (wr := [(q_t, .inr (11, [.ref q_t_pad, .ref q_t_chain, o_t_words, o_t_sights, o_t_images, .ref q_t_run, o_t_seek, o_t_hanging, o_t_race, o_t_widow, o_t_came, .int t_changes, .int t_fewestAt, .int t_hungAt, .int t_cameAt, .int t_fewestPulls, .int t_fewestRow])), (q_t_pad, .inr (4, [.ref q_t_pad_signs, .int t_pad_count])), (q_t_pad_signs, .inl (g 0, 40, .inl t_pad_signs)), (q_t_run, .inr (6, [.ref q_t_run_when, (.ref q_t_chain), .long z9.1, .long z9.2.1, .int z9.2.2.1, .int z9.2.2.2.1, .int z9.2.2.2.2.1, .int z9.2.2.2.2.2.1, .int z9.2.2.2.2.2.2.1, .int z9.2.2.2.2.2.2.2.1])), (q_t_run_when, .inl (g 0, 9, .inl z9.2.2.2.2.2.2.2.2))]) (run_V (As := [.int a1, .int z9.2.2.1]) (rest := []) F k_X11_125 (c_X1_placeOf l dd g mv q_t_chain t_chain_places t_chain_deep t_chain_turn t_chain_wheel t_chain_leaks t_chain_wants a1 z9.2.2.1 z11 hz11 _) hw [1] (by decide) rfl (ci := 1) rfl rfl rfl rfl hl.1 rfl (Nat.le_of_ble_eq_true rfl) dX11_behind_53 ⟨Nat.le_of_ble_eq_true rfl, Nat.le_of_ble_eq_true rfl⟩ ⟨Nat.le_of_ble_eq_true rfl, Nat.le_of_ble_eq_true rfl⟩) hw [1] [0, 2, 3, 4, 5] rfl rfl (by decide) (by decide) (fun u12 H locs hw => ?_)
          replace hw : Wd dd g mv A s H locs (w_X11_behind g q_t q_t_chain q_t_pad q_t_pad_signs q_t_run q_t_run_when o_t_words o_t_sights o_t_images o_t_seek o_t_hanging o_t_race o_t_widow o_t_came ((.ref q_t_chain)) t_changes t_fewestAt t_hungAt t_cameAt t_fewestPulls t_fewestRow t_chain_places t_chain_deep t_chain_turn t_chain_wheel t_chain_leaks t_chain_wants t_pad_count t_pad_signs z9.1 z9.2.1 z9.2.2.1 z9.2.2.2.1 z9.2.2.2.2.1 z9.2.2.2.2.2.1 z9.2.2.2.2.2.2.1 z9.2.2.2.2.2.2.2.1 z9.2.2.2.2.2.2.2.2) := hw.sub [0, 5, 1, 2, 3, 4] (by decide) rfl
          refine W.eq (g2 := F0 m 56 ls (.int z11 :: [])) rfl ?_
          refine lv_istore_n (lv' := [(3, .int z11), (0, .ref q_t), (1, .int a1), (2, .int a2)]) F.1 F.2.1 dX11_behind_56 rfl hl (by decide) rfl (fun ls hl => ?_)
          refine lv_iload_n F.1 F.2.1 dX11_behind_57 rfl (lv_at hl 3 rfl) ?_
          refine lv_if_ne (tgt := 65) F.1 F.2.1 dX11_behind_58 (by decide) (fun hc13 => ?_) (fun hc13 => ?_)
          · replace hr := (if_neg hc13).symm.trans hr
            refine lv_aload_n F.1 F.2.1 dX11_behind_65 rfl (lv_at hl 1 rfl) ?_
            refine gf_X11_47 F hw 0 rfl rfl dX11_behind_66 ?_
            refine gf_X11_171 F hw 4 rfl rfl dX11_behind_69 ?_
            refine lv_iload_n F.1 F.2.1 dX11_behind_72 rfl (lv_at hl 0 rfl) ?_
            obtain ⟨z14, hz14, hr⟩ := Option.bind_eq_some_iff.mp hr
            refine call_o (wr := [(q_t, .inr (11, [.ref q_t_pad, .ref q_t_chain, o_t_words, o_t_sights, o_t_images, .ref q_t_run, o_t_seek, o_t_hanging, o_t_race, o_t_widow, o_t_came, .int t_changes, .int t_fewestAt, .int t_hungAt, .int t_cameAt, .int t_fewestPulls, .int t_fewestRow])), (q_t_chain, .inr (1, [.int t_chain_places, .int t_chain_deep, .int t_chain_turn, .long t_chain_wheel, .long t_chain_leaks, .long t_chain_wants])), (q_t_pad, .inr (4, [.ref q_t_pad_signs, .int t_pad_count])), (q_t_pad_signs, .inl (g 0, 40, .inl t_pad_signs)), (q_t_run, .inr (6, [.ref q_t_run_when, (.ref q_t_chain), .long z9.1, .long z9.2.1, .int z9.2.2.1, .int z9.2.2.2.1, .int z9.2.2.2.2.1, .int z9.2.2.2.2.2.1, .int z9.2.2.2.2.2.2.1, .int z9.2.2.2.2.2.2.2.1])), (q_t_run_when, .inl (g 0, 9, .inl z9.2.2.2.2.2.2.2.2))]) (run_S (As := [.long z9.1, .int z11]) (rest := []) F k_X11_133 (c_X11_lane l dd g mv z9.1 z11 z14 hz14 _) hw [] (by decide) rfl rfl hl.1 rfl (Nat.le_of_ble_eq_true rfl) dX11_behind_73 ⟨Nat.le_of_ble_eq_true rfl, Nat.le_of_ble_eq_true rfl⟩ ⟨Nat.le_of_ble_eq_true rfl, Nat.le_of_ble_eq_true rfl⟩) hw [] [0, 1, 2, 3, 4, 5] rfl rfl (by decide) (by decide) (fun u15 H locs hw => ?_)
            replace hw : Wd dd g mv A s H locs (w_X11_behind g q_t q_t_chain q_t_pad q_t_pad_signs q_t_run q_t_run_when o_t_words o_t_sights o_t_images o_t_seek o_t_hanging o_t_race o_t_widow o_t_came ((.ref q_t_chain)) t_changes t_fewestAt t_hungAt t_cameAt t_fewestPulls t_fewestRow t_chain_places t_chain_deep t_chain_turn t_chain_wheel t_chain_leaks t_chain_wants t_pad_count t_pad_signs z9.1 z9.2.1 z9.2.2.1 z9.2.2.2.1 z9.2.2.2.2.1 z9.2.2.2.2.2.1 z9.2.2.2.2.2.2.1 z9.2.2.2.2.2.2.2.1 z9.2.2.2.2.2.2.2.2) := hw.sub [0, 1, 2, 3, 4, 5] (by decide) rfl
            refine W.eq (g2 := F0 m 76 ls (.int z14 :: [])) rfl ?_
            cases hr
            exact ret_i ((.ref q_t_chain)) F hret hlk hw (Nat.le_refl _) (Nat.le_refl _) dX11_behind_76
          · replace hr := (if_pos hc13).symm.trans hr
            refine lv_iload_n F.1 F.2.1 dX11_behind_61 rfl (lv_at hl 0 rfl) ?_
            refine lv_goto (tgt := 76) F.1 F.2.1 dX11_behind_62 (by decide) ?_
            cases hr
            exact ret_i ((.ref q_t_chain)) F hret hlk hw (Nat.le_refl _) (Nat.le_refl _) dX11_behind_76
        · replace hr := (if_neg hc8).symm.trans hr
          refine lv_bipush (v := -5) F.1 F.2.1 dX11_behind_34 (by decide) ?_
          cases hr
          exact ret_i (o_t_run_chain) F hret hlk hw (Nat.le_refl _) (Nat.le_refl _) dX11_behind_36
      · replace hr := (if_neg hc5).symm.trans hr
        refine lv_bipush (v := -2) F.1 F.2.1 dX11_behind_19 (by decide) ?_
        cases hr
        exact ret_i (o_t_run_chain) F hret hlk hw (Nat.le_refl _) (Nat.le_refl _) dX11_behind_21
  · replace hr := (if_pos hc3).symm.trans hr
    refine lv_iconst (v := -1) F.1 F.2.1 dX11_behind_8 (by decide) ?_
    cases hr
    exact ret_i (o_t_run_chain) F hret hlk hw (Nat.le_refl _) (Nat.le_refl _) dX11_behind_9
end WALK
