section WALK
variable {p : Program} {l : Launch} {e : Env} {s : State} {m : MethodId} {args : Array Value} {below : List Frame} {meth : Method} {c : Code} {dd : va_G} {g : Nat → ClassId} {mv : Nat} {A : Nat → Prop}
set_option maxHeartbeats 4000000 in
set_option maxRecDepth 100000 in
theorem c_X11_word (l : Launch) (dd : va_G) (g : Nat → ClassId) (mv : Nat) (q_t : Nat) (q_t_pad : Nat) (q_t_pad_signs : Nat) (q_t_words : Nat) (q_t_words_lengths : Nat) (q_t_words_signs : Nat) (o_t_chain : Value) (o_t_sights : Value) (o_t_images : Value) (o_t_run : Value) (o_t_seek : Value) (o_t_hanging : Value) (o_t_race : Value) (o_t_widow : Value) (o_t_came : Value) (o_t_words_fewestSigns : Value) (o_t_words_isSettled : Value) (t_changes : Int32) (t_fewestAt : Int32) (t_hungAt : Int32) (t_cameAt : Int32) (t_fewestPulls : Int32) (t_fewestRow : Int32) (t_pad_count : Int32) (t_pad_signs : Nat → Int32) (t_words_count : Int32) (t_words_lengths : Nat → Int32) (t_words_signs : Nat → Int32) (z : Int32 × Int32 × Int32 × (Nat → Int32) × (Nat → Int32)) (hr : f_X11_word t_pad_count t_pad_signs t_words_count t_words_lengths t_words_signs = some z) (sz : Nat) : Met l yX11_word (.code yX11_word cX11_word 1 (some .int) :: WS) (rmH 2 0 0) (va_Pc [.ref q_t] (PW dd g mv (w_X11_word g q_t q_t_pad q_t_pad_signs q_t_words q_t_words_lengths q_t_words_signs o_t_chain o_t_sights o_t_images o_t_run o_t_seek o_t_hanging o_t_race o_t_widow o_t_came o_t_words_fewestSigns o_t_words_isSettled t_changes t_fewestAt t_hungAt t_cameAt t_fewestPulls t_fewestRow t_pad_count t_pad_signs t_words_count t_words_lengths t_words_signs) sz)) (Qo dd g (some (.int z.1)) (fun u : Unit => (w_X11_word g q_t q_t_pad q_t_pad_signs q_t_words q_t_words_lengths q_t_words_signs o_t_chain o_t_sights o_t_images o_t_run o_t_seek o_t_hanging o_t_race o_t_widow o_t_came o_t_words_fewestSigns o_t_words_isSettled t_changes t_fewestAt t_hungAt t_cameAt t_fewestPulls t_fewestRow z.2.1 t_pad_signs z.2.2.1 z.2.2.2.1 z.2.2.2.2)) (va_A (w_X11_word g q_t q_t_pad q_t_pad_signs q_t_words q_t_words_lengths q_t_words_signs o_t_chain o_t_sights o_t_images o_t_run o_t_seek o_t_hanging o_t_race o_t_widow o_t_came o_t_words_fewestSigns o_t_words_isSettled t_changes t_fewestAt t_hungAt t_cameAt t_fewestPulls t_fewestRow t_pad_count t_pad_signs t_words_count t_words_lengths t_words_signs) sz)) 0 0 (va_A (w_X11_word g q_t q_t_pad q_t_pad_signs q_t_words q_t_words_lengths q_t_words_signs o_t_chain o_t_sights o_t_images o_t_run o_t_seek o_t_hanging o_t_race o_t_widow o_t_came o_t_words_fewestSigns o_t_words_isSettled t_changes t_fewestAt t_hungAt t_cameAt t_fewestPulls t_fewestRow t_pad_count t_pad_signs t_words_count t_words_lengths t_words_signs) sz) := by
  refine Met_intro (by decide) (Nat.le_of_ble_eq_true rfl) ?_
  intro p e s m below meth c A ls F hret hlk hin hw hl
  replace hl : lv_has ls 1 [(0, .ref q_t)] := hl
  refine lv_aload_n F.1 F.2.1 dX11_word_0 rfl (lv_at hl 0 rfl) ?_
  refine gf_X11_12 F hw 0 rfl rfl dX11_word_1 ?_
  obtain ⟨z1, hz1, hr⟩ := Option.bind_eq_some_iff.mp hr
  refine call_o (wr := [(q_t, .inr (11, [.ref q_t_pad, o_t_chain, .ref q_t_words, o_t_sights, o_t_images, o_t_run, o_t_seek, o_t_hanging, o_t_race, o_t_widow, o_t_came, .int t_changes, .int t_fewestAt, .int t_hungAt, .int t_cameAt, .int t_fewestPulls, .int t_fewestRow])), (q_t_words, .inr (10, [.ref q_t_words_signs, .ref q_t_words_lengths, .int t_words_count, o_t_words_fewestSigns, o_t_words_isSettled])), (q_t_words_lengths, .inl (g 0, 8, .inl t_words_lengths)), (q_t_words_signs, .inl (g 0, 64, .inl t_words_signs))]) (run_V (As := []) (rest := []) F k_X11_227 (c_X4_isWord l dd g mv q_t_pad q_t_pad_signs t_pad_count t_pad_signs z1 hz1 _) hw [1, 2] (by decide) rfl (ci := 4) rfl rfl rfl rfl hl.1 rfl (Nat.le_of_ble_eq_true rfl) dX11_word_4 ⟨Nat.le_of_ble_eq_true rfl, Nat.le_of_ble_eq_true rfl⟩ ⟨Nat.le_of_ble_eq_true rfl, Nat.le_of_ble_eq_true rfl⟩) hw [1, 2] [0, 3, 4, 5] rfl rfl (by decide) (by decide) (fun u2 H locs hw => ?_)
  replace hw : Wd dd g mv A s H locs (w_X11_word g q_t q_t_pad q_t_pad_signs q_t_words q_t_words_lengths q_t_words_signs o_t_chain o_t_sights o_t_images o_t_run o_t_seek o_t_hanging o_t_race o_t_widow o_t_came o_t_words_fewestSigns o_t_words_isSettled t_changes t_fewestAt t_hungAt t_cameAt t_fewestPulls t_fewestRow t_pad_count t_pad_signs t_words_count t_words_lengths t_words_signs) := hw.sub [0, 4, 5, 1, 2, 3] (by decide) rfl
  refine W.eq (g2 := F0 m 7 ls (.int z1 :: [])) rfl ?_
  refine lv_if_eq (tgt := 24) F.1 F.2.1 dX11_word_7 (by decide) (fun hc3 => ?_) (fun hc3 => ?_)
  · replace hr := (if_pos hc3).symm.trans hr
    refine lv_bipush (v := -5) F.1 F.2.1 dX11_word_24 (by decide) ?_
    cases hr
    exact ret_i () F hret hlk hw (Nat.le_refl _) (Nat.le_refl _) dX11_word_26
  · replace hr := (if_neg hc3).symm.trans hr
    refine lv_aload_n F.1 F.2.1 dX11_word_10 rfl (lv_at hl 0 rfl) ?_
    refine gf_X11_26 F hw 0 rfl rfl dX11_word_11 ?_
    refine lv_aload_n F.1 F.2.1 dX11_word_14 rfl (lv_at hl 0 rfl) ?_
    refine gf_X11_12 F hw 0 rfl rfl dX11_word_15 ?_
    obtain ⟨z4, hz4, hr⟩ := Option.bind_eq_some_iff.mp hr
    refine call_o (wr := [(q_t, .inr (11, [.ref q_t_pad, o_t_chain, .ref q_t_words, o_t_sights, o_t_images, o_t_run, o_t_seek, o_t_hanging, o_t_race, o_t_widow, o_t_came, .int t_changes, .int t_fewestAt, .int t_hungAt, .int t_cameAt, .int t_fewestPulls, .int t_fewestRow]))]) (run_V (As := [.ref q_t_pad]) (rest := []) F k_X11_231 (c_X10_has l dd g mv q_t_words q_t_pad q_t_words_lengths q_t_words_signs q_t_pad_signs o_t_words_fewestSigns o_t_words_isSettled t_words_count t_pad_count t_words_lengths t_words_signs t_pad_signs z4 hz4 _) hw [3, 1, 4, 5, 2] (by decide) rfl (ci := 10) rfl rfl rfl rfl hl.1 rfl (Nat.le_of_ble_eq_true rfl) dX11_word_18 ⟨Nat.le_of_ble_eq_true rfl, Nat.le_of_ble_eq_true rfl⟩ ⟨Nat.le_of_ble_eq_true rfl, Nat.le_of_ble_eq_true rfl⟩) hw [3, 1, 4, 5, 2] [0] rfl rfl (by decide) (by decide) (fun u5 H locs hw => ?_)
    replace hw : Wd dd g mv A s H locs (w_X11_word g q_t q_t_pad q_t_pad_signs q_t_words q_t_words_lengths q_t_words_signs o_t_chain o_t_sights o_t_images o_t_run o_t_seek o_t_hanging o_t_race o_t_widow o_t_came o_t_words_fewestSigns o_t_words_isSettled t_changes t_fewestAt t_hungAt t_cameAt t_fewestPulls t_fewestRow t_pad_count t_pad_signs t_words_count t_words_lengths t_words_signs) := hw.sub [0, 2, 5, 1, 3, 4] (by decide) rfl
    refine W.eq (g2 := F0 m 21 ls (.int z4 :: [])) rfl ?_
    refine lv_if_eq (tgt := 27) F.1 F.2.1 dX11_word_21 (by decide) (fun hc6 => ?_) (fun hc6 => ?_)
    · replace hr := (if_pos hc6).symm.trans hr
      refine lv_aload_n F.1 F.2.1 dX11_word_27 rfl (lv_at hl 0 rfl) ?_
      refine gf_X11_26 F hw 0 rfl rfl dX11_word_28 ?_
      refine lv_aload_n F.1 F.2.1 dX11_word_31 rfl (lv_at hl 0 rfl) ?_
      refine gf_X11_12 F hw 0 rfl rfl dX11_word_32 ?_
      obtain ⟨z7, hz7, hr⟩ := Option.bind_eq_some_iff.mp hr
      refine call_o (wr := [(q_t, .inr (11, [.ref q_t_pad, o_t_chain, .ref q_t_words, o_t_sights, o_t_images, o_t_run, o_t_seek, o_t_hanging, o_t_race, o_t_widow, o_t_came, .int t_changes, .int t_fewestAt, .int t_hungAt, .int t_cameAt, .int t_fewestPulls, .int t_fewestRow]))]) (run_V (As := [.ref q_t_pad]) (rest := []) F k_X11_235 (c_X10_put l dd g mv q_t_words q_t_pad q_t_words_signs q_t_pad_signs q_t_words_lengths o_t_words_fewestSigns o_t_words_isSettled t_words_count t_pad_count t_words_signs t_pad_signs t_words_lengths z7 hz7 _) hw [3, 1, 5, 2, 4] (by decide) rfl (ci := 10) rfl rfl rfl rfl hl.1 rfl (Nat.le_of_ble_eq_true rfl) dX11_word_35 ⟨Nat.le_of_ble_eq_true rfl, Nat.le_of_ble_eq_true rfl⟩ ⟨Nat.le_of_ble_eq_true rfl, Nat.le_of_ble_eq_true rfl⟩) hw [3, 1, 5, 2, 4] [0] rfl rfl (by decide) (by decide) (fun u8 H locs hw => ?_)
      replace hw : Wd dd g mv A s H locs (w_X11_word g q_t q_t_pad q_t_pad_signs q_t_words q_t_words_lengths q_t_words_signs o_t_chain o_t_sights o_t_images o_t_run o_t_seek o_t_hanging o_t_race o_t_widow o_t_came o_t_words_fewestSigns o_t_words_isSettled t_changes t_fewestAt t_hungAt t_cameAt t_fewestPulls t_fewestRow t_pad_count t_pad_signs z7.2.1 z7.2.2.2 z7.2.2.1) := hw.sub [0, 2, 4, 1, 5, 3] (by decide) rfl
      refine W.eq (g2 := F0 m 38 ls (.int z7.1 :: [])) rfl ?_
      refine lv_if_ne (tgt := 44) F.1 F.2.1 dX11_word_38 (by decide) (fun hc9 => ?_) (fun hc9 => ?_)
      · replace hr := (if_neg hc9).symm.trans hr
        refine lv_aload_n F.1 F.2.1 dX11_word_44 rfl (lv_at hl 0 rfl) ?_
        refine gf_X11_12 F hw 0 rfl rfl dX11_word_45 ?_
        refine lv_iconst (v := 0) F.1 F.2.1 dX11_word_48 (by decide) ?_
        refine pf_X11_160 F hw 1 rfl (Nat.le_of_ble_eq_true rfl) dX11_word_49 (fun H locs hw => ?_)
        replace hw : Wd dd g mv A s H locs (w_X11_word g q_t q_t_pad q_t_pad_signs q_t_words q_t_words_lengths q_t_words_signs o_t_chain o_t_sights o_t_images o_t_run o_t_seek o_t_hanging o_t_race o_t_widow o_t_came o_t_words_fewestSigns o_t_words_isSettled t_changes t_fewestAt t_hungAt t_cameAt t_fewestPulls t_fewestRow ((0 : Int32)) t_pad_signs z7.2.1 z7.2.2.2 z7.2.2.1) := hw
        refine lv_aload_n F.1 F.2.1 dX11_word_52 rfl (lv_at hl 0 rfl) ?_
        refine gf_X11_26 F hw 0 rfl rfl dX11_word_53 ?_
        refine gf_X11_237 F hw 3 rfl rfl dX11_word_56 ?_
        cases hr
        exact ret_i () F hret hlk hw (Nat.le_refl _) (Nat.le_refl _) dX11_word_59
      · replace hr := (if_pos hc9).symm.trans hr
        refine lv_bipush (v := -4) F.1 F.2.1 dX11_word_41 (by decide) ?_
        cases hr
        exact ret_i () F hret hlk hw (Nat.le_refl _) (Nat.le_refl _) dX11_word_43
    · replace hr := (if_neg hc6).symm.trans hr
      refine lv_bipush (v := -5) F.1 F.2.1 dX11_word_24 (by decide) ?_
      cases hr
      exact ret_i () F hret hlk hw (Nat.le_refl _) (Nat.le_refl _) dX11_word_26
set_option maxHeartbeats 4000000 in
set_option maxRecDepth 100000 in
theorem c_X11_drop (l : Launch) (dd : va_G) (g : Nat → ClassId) (mv : Nat) (q_t : Nat) (q_t_words : Nat) (o_t_pad : Value) (o_t_chain : Value) (o_t_sights : Value) (o_t_images : Value) (o_t_run : Value) (o_t_seek : Value) (o_t_hanging : Value) (o_t_race : Value) (o_t_widow : Value) (o_t_came : Value) (o_t_words_signs : Value) (o_t_words_lengths : Value) (o_t_words_fewestSigns : Value) (o_t_words_isSettled : Value) (t_changes : Int32) (t_fewestAt : Int32) (t_hungAt : Int32) (t_cameAt : Int32) (t_fewestPulls : Int32) (t_fewestRow : Int32) (t_words_count : Int32) (z : Int32 × Int32) (hr : f_X11_drop t_words_count = some z) (sz : Nat) : Met l yX11_drop (.code yX11_drop cX11_drop 2 (some .int) :: WS) (rmH 0 0 0) (va_Pc [.ref q_t] (PW dd g mv (w_X11_drop g q_t q_t_words o_t_pad o_t_chain o_t_sights o_t_images o_t_run o_t_seek o_t_hanging o_t_race o_t_widow o_t_came o_t_words_signs o_t_words_lengths o_t_words_fewestSigns o_t_words_isSettled t_changes t_fewestAt t_hungAt t_cameAt t_fewestPulls t_fewestRow t_words_count) sz)) (Qo dd g (some (.int z.1)) (fun u : Unit => (w_X11_drop g q_t q_t_words o_t_pad o_t_chain o_t_sights o_t_images o_t_run o_t_seek o_t_hanging o_t_race o_t_widow o_t_came o_t_words_signs o_t_words_lengths o_t_words_fewestSigns o_t_words_isSettled t_changes t_fewestAt t_hungAt t_cameAt t_fewestPulls t_fewestRow z.2)) (va_A (w_X11_drop g q_t q_t_words o_t_pad o_t_chain o_t_sights o_t_images o_t_run o_t_seek o_t_hanging o_t_race o_t_widow o_t_came o_t_words_signs o_t_words_lengths o_t_words_fewestSigns o_t_words_isSettled t_changes t_fewestAt t_hungAt t_cameAt t_fewestPulls t_fewestRow t_words_count) sz)) 0 0 (va_A (w_X11_drop g q_t q_t_words o_t_pad o_t_chain o_t_sights o_t_images o_t_run o_t_seek o_t_hanging o_t_race o_t_widow o_t_came o_t_words_signs o_t_words_lengths o_t_words_fewestSigns o_t_words_isSettled t_changes t_fewestAt t_hungAt t_cameAt t_fewestPulls t_fewestRow t_words_count) sz) := by
  refine Met_intro (by decide) (Nat.le_of_ble_eq_true rfl) ?_
  intro p e s m below meth c A ls F hret hlk hin hw hl
  replace hl : lv_has ls 2 [(0, .ref q_t)] := hl
  refine lv_aload_n F.1 F.2.1 dX11_drop_0 rfl (lv_at hl 0 rfl) ?_
  refine gf_X11_26 F hw 0 rfl rfl dX11_drop_1 ?_
  refine gf_X11_237 F hw 1 rfl rfl dX11_drop_4 ?_
  refine lv_istore_n (lv' := [(1, .int t_words_count), (0, .ref q_t)]) F.1 F.2.1 dX11_drop_7 rfl hl (by decide) rfl (fun ls hl => ?_)
  refine lv_aload_n F.1 F.2.1 dX11_drop_8 rfl (lv_at hl 1 rfl) ?_
  refine gf_X11_26 F hw 0 rfl rfl dX11_drop_9 ?_
  refine lv_iconst (v := 0) F.1 F.2.1 dX11_drop_12 (by decide) ?_
  refine pf_X11_237 F hw 1 rfl (Nat.le_of_ble_eq_true rfl) dX11_drop_13 (fun H locs hw => ?_)
  replace hw : Wd dd g mv A s H locs (w_X11_drop g q_t q_t_words o_t_pad o_t_chain o_t_sights o_t_images o_t_run o_t_seek o_t_hanging o_t_race o_t_widow o_t_came o_t_words_signs o_t_words_lengths o_t_words_fewestSigns o_t_words_isSettled t_changes t_fewestAt t_hungAt t_cameAt t_fewestPulls t_fewestRow ((0 : Int32))) := hw
  refine lv_iload_n F.1 F.2.1 dX11_drop_16 rfl (lv_at hl 0 rfl) ?_
  cases hr
  exact ret_i () F hret hlk hw (Nat.le_refl _) (Nat.le_refl _) dX11_drop_17
set_option maxHeartbeats 4000000 in
set_option maxRecDepth 100000 in
theorem c_X11_apart (l : Launch) (dd : va_G) (g : Nat → ClassId) (mv : Nat) (q_t : Nat) (q_t_words : Nat) (q_t_words_fewestSigns : Nat) (q_t_words_isSettled : Nat) (q_t_words_lengths : Nat) (q_t_words_signs : Nat) (o_t_pad : Value) (o_t_chain : Value) (o_t_sights : Value) (o_t_images : Value) (o_t_run : Value) (o_t_seek : Value) (o_t_hanging : Value) (o_t_race : Value) (o_t_widow : Value) (o_t_came : Value) (t_changes : Int32) (t_fewestAt : Int32) (t_hungAt : Int32) (t_cameAt : Int32) (t_fewestPulls : Int32) (t_fewestRow : Int32) (t_words_count : Int32) (t_words_fewestSigns : Nat → Int32) (t_words_isSettled : Nat → Int32) (t_words_lengths : Nat → Int32) (t_words_signs : Nat → Int32) (a1 : Int32) (z : Int32 × (Nat → Int32) × (Nat → Int32)) (hr : f_X11_apart t_words_count t_words_fewestSigns t_words_isSettled t_words_lengths t_words_signs a1 = some z) (sz : Nat) : Met l yX11_apart (.code yX11_apart cX11_apart 2 (some .int) :: WS) (rmH 4 0 0) (va_Pc [.ref q_t, .int a1] (PW dd g mv (w_X11_apart g q_t q_t_words q_t_words_fewestSigns q_t_words_isSettled q_t_words_lengths q_t_words_signs o_t_pad o_t_chain o_t_sights o_t_images o_t_run o_t_seek o_t_hanging o_t_race o_t_widow o_t_came t_changes t_fewestAt t_hungAt t_cameAt t_fewestPulls t_fewestRow t_words_count t_words_fewestSigns t_words_isSettled t_words_lengths t_words_signs) sz)) (Qo dd g (some (.int z.1)) (fun u : Unit => (w_X11_apart g q_t q_t_words q_t_words_fewestSigns q_t_words_isSettled q_t_words_lengths q_t_words_signs o_t_pad o_t_chain o_t_sights o_t_images o_t_run o_t_seek o_t_hanging o_t_race o_t_widow o_t_came t_changes t_fewestAt t_hungAt t_cameAt t_fewestPulls t_fewestRow t_words_count z.2.1 z.2.2 t_words_lengths t_words_signs)) (va_A (w_X11_apart g q_t q_t_words q_t_words_fewestSigns q_t_words_isSettled q_t_words_lengths q_t_words_signs o_t_pad o_t_chain o_t_sights o_t_images o_t_run o_t_seek o_t_hanging o_t_race o_t_widow o_t_came t_changes t_fewestAt t_hungAt t_cameAt t_fewestPulls t_fewestRow t_words_count t_words_fewestSigns t_words_isSettled t_words_lengths t_words_signs) sz)) 0 0 (va_A (w_X11_apart g q_t q_t_words q_t_words_fewestSigns q_t_words_isSettled q_t_words_lengths q_t_words_signs o_t_pad o_t_chain o_t_sights o_t_images o_t_run o_t_seek o_t_hanging o_t_race o_t_widow o_t_came t_changes t_fewestAt t_hungAt t_cameAt t_fewestPulls t_fewestRow t_words_count t_words_fewestSigns t_words_isSettled t_words_lengths t_words_signs) sz) := by
  refine Met_intro (by decide) (Nat.le_of_ble_eq_true rfl) ?_
  intro p e s m below meth c A ls F hret hlk hin hw hl
  replace hl : lv_has ls 2 [(0, .ref q_t), (1, .int a1)] := hl
  refine lv_iload_n F.1 F.2.1 dX11_apart_0 rfl (lv_at hl 1 rfl) ?_
  by_cases hs1 : a1 = 0
  · replace hr := (if_pos hs1).symm.trans hr
    refine lv_tableIn (tgt := 28) F.1 F.2.1 dX11_apart_1 (by rw [hs1]; decide) (by rw [hs1]; decide) (by rw [hs1]; rfl) (by decide) ?_
    refine lv_aload_n F.1 F.2.1 dX11_apart_28 rfl (lv_at hl 0 rfl) ?_
    refine gf_X11_26 F hw 0 rfl rfl dX11_apart_29 ?_
    obtain ⟨z2, hz2, hr⟩ := Option.bind_eq_some_iff.mp hr
    refine call_o (wr := [(q_t, .inr (11, [o_t_pad, o_t_chain, .ref q_t_words, o_t_sights, o_t_images, o_t_run, o_t_seek, o_t_hanging, o_t_race, o_t_widow, o_t_came, .int t_changes, .int t_fewestAt, .int t_hungAt, .int t_cameAt, .int t_fewestPulls, .int t_fewestRow])), (q_t_words_fewestSigns, .inl (g 0, 64, .inl t_words_fewestSigns)), (q_t_words_isSettled, .inl (g 2, 64, .inl t_words_isSettled))]) (run_V (As := []) (rest := []) F k_X11_238 (c_X10_areApart l dd g mv q_t_words q_t_words_lengths q_t_words_signs ((.ref q_t_words_fewestSigns)) ((.ref q_t_words_isSettled)) t_words_count t_words_lengths t_words_signs z2 hz2 _) hw [1, 4, 5] (by decide) rfl (ci := 10) rfl rfl rfl rfl hl.1 rfl (Nat.le_of_ble_eq_true rfl) dX11_apart_32 ⟨Nat.le_of_ble_eq_true rfl, Nat.le_of_ble_eq_true rfl⟩ ⟨Nat.le_of_ble_eq_true rfl, Nat.le_of_ble_eq_true rfl⟩) hw [1, 4, 5] [0, 2, 3] rfl rfl (by decide) (by decide) (fun u3 H locs hw => ?_)
    replace hw : Wd dd g mv A s H locs (w_X11_apart g q_t q_t_words q_t_words_fewestSigns q_t_words_isSettled q_t_words_lengths q_t_words_signs o_t_pad o_t_chain o_t_sights o_t_images o_t_run o_t_seek o_t_hanging o_t_race o_t_widow o_t_came t_changes t_fewestAt t_hungAt t_cameAt t_fewestPulls t_fewestRow t_words_count t_words_fewestSigns t_words_isSettled t_words_lengths t_words_signs) := hw.sub [0, 3, 1, 2, 4, 5] (by decide) rfl
    refine W.eq (g2 := F0 m 35 ls (.int z2 :: [])) rfl ?_
    refine lv_if_eq (tgt := 42) F.1 F.2.1 dX11_apart_35 (by decide) (fun hc4 => ?_) (fun hc4 => ?_)
    · replace hr := (if_pos hc4).symm.trans hr
      refine lv_iconst (v := 0) F.1 F.2.1 dX11_apart_42 (by decide) ?_
      cases hr
      exact ret_i () F hret hlk hw (Nat.le_refl _) (Nat.le_refl _) dX11_apart_43
    · replace hr := (if_neg hc4).symm.trans hr
      refine lv_iconst (v := 1) F.1 F.2.1 dX11_apart_38 (by decide) ?_
      refine lv_goto (tgt := 43) F.1 F.2.1 dX11_apart_39 (by decide) ?_
      cases hr
      exact ret_i () F hret hlk hw (Nat.le_refl _) (Nat.le_refl _) dX11_apart_43
  · replace hr := (if_neg hs1).symm.trans hr
    by_cases hs5 : a1 = 1
    · replace hr := (if_pos hs5).symm.trans hr
      refine lv_tableIn (tgt := 44) F.1 F.2.1 dX11_apart_1 (by rw [hs5]; decide) (by rw [hs5]; decide) (by rw [hs5]; rfl) (by decide) ?_
      refine lv_aload_n F.1 F.2.1 dX11_apart_44 rfl (lv_at hl 0 rfl) ?_
      refine gf_X11_26 F hw 0 rfl rfl dX11_apart_45 ?_
      obtain ⟨z6, hz6, hr⟩ := Option.bind_eq_some_iff.mp hr
      refine call_o (wr := [(q_t, .inr (11, [o_t_pad, o_t_chain, .ref q_t_words, o_t_sights, o_t_images, o_t_run, o_t_seek, o_t_hanging, o_t_race, o_t_widow, o_t_came, .int t_changes, .int t_fewestAt, .int t_hungAt, .int t_cameAt, .int t_fewestPulls, .int t_fewestRow]))]) (run_V (As := []) (rest := []) F k_X11_241 (c_X10_doubt l dd g mv q_t_words q_t_words_fewestSigns q_t_words_isSettled q_t_words_lengths q_t_words_signs t_words_count t_words_fewestSigns t_words_isSettled t_words_lengths t_words_signs z6 hz6 _) hw [1, 2, 3, 4, 5] (by decide) rfl (ci := 10) rfl rfl rfl rfl hl.1 rfl (Nat.le_of_ble_eq_true rfl) dX11_apart_48 ⟨Nat.le_of_ble_eq_true rfl, Nat.le_of_ble_eq_true rfl⟩ ⟨Nat.le_of_ble_eq_true rfl, Nat.le_of_ble_eq_true rfl⟩) hw [1, 2, 3, 4, 5] [0] rfl rfl (by decide) (by decide) (fun u7 H locs hw => ?_)
      replace hw : Wd dd g mv A s H locs (w_X11_apart g q_t q_t_words q_t_words_fewestSigns q_t_words_isSettled q_t_words_lengths q_t_words_signs o_t_pad o_t_chain o_t_sights o_t_images o_t_run o_t_seek o_t_hanging o_t_race o_t_widow o_t_came t_changes t_fewestAt t_hungAt t_cameAt t_fewestPulls t_fewestRow t_words_count z6.2.1 z6.2.2 t_words_lengths t_words_signs) := hw.sub [0, 1, 2, 3, 4, 5] (by decide) rfl
      refine W.eq (g2 := F0 m 51 ls (.int z6.1 :: [])) rfl ?_
      refine lv_bipush (v := -6) F.1 F.2.1 dX11_apart_51 (by decide) ?_
      refine lv_icmp_ne (tgt := 60) F.1 F.2.1 dX11_apart_53 (by decide) (fun hc8 => ?_) (fun hc8 => ?_)
      · replace hr := (if_neg hc8).symm.trans hr
        refine lv_iconst (v := 0) F.1 F.2.1 dX11_apart_60 (by decide) ?_
        cases hr
        exact ret_i () F hret hlk hw (Nat.le_refl _) (Nat.le_refl _) dX11_apart_61
      · replace hr := (if_pos hc8).symm.trans hr
        refine lv_iconst (v := 1) F.1 F.2.1 dX11_apart_56 (by decide) ?_
        refine lv_goto (tgt := 61) F.1 F.2.1 dX11_apart_57 (by decide) ?_
        cases hr
        exact ret_i () F hret hlk hw (Nat.le_refl _) (Nat.le_refl _) dX11_apart_61
    · replace hr := (if_neg hs5).symm.trans hr
      by_cases hs9 : a1 = 2
      · replace hr := (if_pos hs9).symm.trans hr
        refine lv_tableIn (tgt := 62) F.1 F.2.1 dX11_apart_1 (by rw [hs9]; decide) (by rw [hs9]; decide) (by rw [hs9]; rfl) (by decide) ?_
        refine lv_aload_n F.1 F.2.1 dX11_apart_62 rfl (lv_at hl 0 rfl) ?_
        refine gf_X11_26 F hw 0 rfl rfl dX11_apart_63 ?_
        obtain ⟨z10, hz10, hr⟩ := Option.bind_eq_some_iff.mp hr
        refine call_o (wr := [(q_t, .inr (11, [o_t_pad, o_t_chain, .ref q_t_words, o_t_sights, o_t_images, o_t_run, o_t_seek, o_t_hanging, o_t_race, o_t_widow, o_t_came, .int t_changes, .int t_fewestAt, .int t_hungAt, .int t_cameAt, .int t_fewestPulls, .int t_fewestRow]))]) (run_V (As := []) (rest := []) F k_X11_241 (c_X10_doubt l dd g mv q_t_words q_t_words_fewestSigns q_t_words_isSettled q_t_words_lengths q_t_words_signs t_words_count t_words_fewestSigns t_words_isSettled t_words_lengths t_words_signs z10 hz10 _) hw [1, 2, 3, 4, 5] (by decide) rfl (ci := 10) rfl rfl rfl rfl hl.1 rfl (Nat.le_of_ble_eq_true rfl) dX11_apart_66 ⟨Nat.le_of_ble_eq_true rfl, Nat.le_of_ble_eq_true rfl⟩ ⟨Nat.le_of_ble_eq_true rfl, Nat.le_of_ble_eq_true rfl⟩) hw [1, 2, 3, 4, 5] [0] rfl rfl (by decide) (by decide) (fun u11 H locs hw => ?_)
        replace hw : Wd dd g mv A s H locs (w_X11_apart g q_t q_t_words q_t_words_fewestSigns q_t_words_isSettled q_t_words_lengths q_t_words_signs o_t_pad o_t_chain o_t_sights o_t_images o_t_run o_t_seek o_t_hanging o_t_race o_t_widow o_t_came t_changes t_fewestAt t_hungAt t_cameAt t_fewestPulls t_fewestRow t_words_count z10.2.1 z10.2.2 t_words_lengths t_words_signs) := hw.sub [0, 1, 2, 3, 4, 5] (by decide) rfl
        refine W.eq (g2 := F0 m 69 ls (.int z10.1 :: [])) rfl ?_
        cases hr
        exact ret_i () F hret hlk hw (Nat.le_refl _) (Nat.le_refl _) dX11_apart_69
      · replace hr := (if_neg hs9).symm.trans hr
        have ehs1 : (a1).toInt ≠ 0 := fun h => hs1 (Int32.toInt_inj.mp h)
        have ehs5 : (a1).toInt ≠ 1 := fun h => hs5 (Int32.toInt_inj.mp h)
        have ehs9 : (a1).toInt ≠ 2 := fun h => hs9 (Int32.toInt_inj.mp h)
        refine lv_tableOut (tgt := 70) F.1 F.2.1 dX11_apart_1 (by omega) (by decide) ?_
        refine lv_bipush (v := -2) F.1 F.2.1 dX11_apart_70 (by decide) ?_
        cases hr
        exact ret_i () F hret hlk hw (Nat.le_refl _) (Nat.le_refl _) dX11_apart_72
set_option maxHeartbeats 4000000 in
set_option maxRecDepth 100000 in
theorem c_X11_seen (l : Launch) (dd : va_G) (g : Nat → ClassId) (mv : Nat) (q_t : Nat) (q_t_chain : Nat) (q_t_sights : Nat) (q_t_sights_behind : Nat) (q_t_sights_door : Nat) (q_t_sights_served : Nat) (o_t_pad : Value) (o_t_words : Value) (o_t_images : Value) (o_t_run : Value) (o_t_seek : Value) (o_t_hanging : Value) (o_t_race : Value) (o_t_widow : Value) (o_t_came : Value) (t_changes : Int32) (t_fewestAt : Int32) (t_hungAt : Int32) (t_cameAt : Int32) (t_fewestPulls : Int32) (t_fewestRow : Int32) (t_chain_places : Int32) (t_chain_deep : Int32) (t_chain_turn : Int32) (t_chain_wheel : Int64) (t_chain_leaks : Int64) (t_chain_wants : Int64) (t_sights_count : Int32) (t_sights_behind : Nat → Int32) (t_sights_door : Nat → Int32) (t_sights_served : Nat → Int32) (a1 : Int32) (a2 : Int32) (a3 : Int32) (z : Int32 × Int32 × Int32 × (Nat → Int32) × (Nat → Int32) × (Nat → Int32)) (hr : f_X11_seen t_changes t_chain_places t_sights_count t_sights_behind t_sights_door t_sights_served a1 a2 a3 = some z) (sz : Nat) : Met l yX11_seen (.code yX11_seen cX11_seen 4 (some .int) :: WS) (rmH 1 0 0) (va_Pc [.ref q_t, .int a1, .int a2, .int a3] (PW dd g mv (w_X11_seen g q_t q_t_chain q_t_sights q_t_sights_behind q_t_sights_door q_t_sights_served o_t_pad o_t_words o_t_images o_t_run o_t_seek o_t_hanging o_t_race o_t_widow o_t_came t_changes t_fewestAt t_hungAt t_cameAt t_fewestPulls t_fewestRow t_chain_places t_chain_deep t_chain_turn t_chain_wheel t_chain_leaks t_chain_wants t_sights_count t_sights_behind t_sights_door t_sights_served) sz)) (Qo dd g (some (.int z.1)) (fun u : Unit => (w_X11_seen g q_t q_t_chain q_t_sights q_t_sights_behind q_t_sights_door q_t_sights_served o_t_pad o_t_words o_t_images o_t_run o_t_seek o_t_hanging o_t_race o_t_widow o_t_came z.2.1 t_fewestAt t_hungAt t_cameAt t_fewestPulls t_fewestRow t_chain_places t_chain_deep t_chain_turn t_chain_wheel t_chain_leaks t_chain_wants z.2.2.1 z.2.2.2.1 z.2.2.2.2.1 z.2.2.2.2.2)) (va_A (w_X11_seen g q_t q_t_chain q_t_sights q_t_sights_behind q_t_sights_door q_t_sights_served o_t_pad o_t_words o_t_images o_t_run o_t_seek o_t_hanging o_t_race o_t_widow o_t_came t_changes t_fewestAt t_hungAt t_cameAt t_fewestPulls t_fewestRow t_chain_places t_chain_deep t_chain_turn t_chain_wheel t_chain_leaks t_chain_wants t_sights_count t_sights_behind t_sights_door t_sights_served) sz)) 0 0 (va_A (w_X11_seen g q_t q_t_chain q_t_sights q_t_sights_behind q_t_sights_door q_t_sights_served o_t_pad o_t_words o_t_images o_t_run o_t_seek o_t_hanging o_t_race o_t_widow o_t_came t_changes t_fewestAt t_hungAt t_cameAt t_fewestPulls t_fewestRow t_chain_places t_chain_deep t_chain_turn t_chain_wheel t_chain_leaks t_chain_wants t_sights_count t_sights_behind t_sights_door t_sights_served) sz) := by
  refine Met_intro (by decide) (Nat.le_of_ble_eq_true rfl) ?_
  intro p e s m below meth c A ls F hret hlk hin hw hl
  replace hl : lv_has ls 4 [(0, .ref q_t), (1, .int a1), (2, .int a2), (3, .int a3)] := hl
  refine lv_aload_n F.1 F.2.1 dX11_seen_0 rfl (lv_at hl 0 rfl) ?_
  refine lv_iload_n F.1 F.2.1 dX11_seen_1 rfl (lv_at hl 2 rfl) ?_
  obtain ⟨z1, hz1, hr⟩ := Option.bind_eq_some_iff.mp hr
  refine call_o (wr := [(q_t_sights, .inr (8, [.ref q_t_sights_behind, .ref q_t_sights_door, .ref q_t_sights_served, .int t_sights_count])), (q_t_sights_behind, .inl (g 0, 6, .inl t_sights_behind)), (q_t_sights_door, .inl (g 0, 6, .inl t_sights_door)), (q_t_sights_served, .inl (g 2, 6, .inl t_sights_served))]) (run_V (As := [.int a2]) (rest := []) F k_X11_115 (c_X11_isThere l dd g mv q_t q_t_chain o_t_pad o_t_words ((.ref q_t_sights)) o_t_images o_t_run o_t_seek o_t_hanging o_t_race o_t_widow o_t_came t_changes t_fewestAt t_hungAt t_cameAt t_fewestPulls t_fewestRow t_chain_places t_chain_deep t_chain_turn t_chain_wheel t_chain_leaks t_chain_wants a2 z1 hz1 _) hw [0, 1] (by decide) rfl (ci := 11) rfl rfl rfl rfl hl.1 rfl (Nat.le_of_ble_eq_true rfl) dX11_seen_2 ⟨Nat.le_of_ble_eq_true rfl, Nat.le_of_ble_eq_true rfl⟩ ⟨Nat.le_of_ble_eq_true rfl, Nat.le_of_ble_eq_true rfl⟩) hw [0, 1] [2, 3, 4, 5] rfl rfl (by decide) (by decide) (fun u2 H locs hw => ?_)
  replace hw : Wd dd g mv A s H locs (w_X11_seen g q_t q_t_chain q_t_sights q_t_sights_behind q_t_sights_door q_t_sights_served o_t_pad o_t_words o_t_images o_t_run o_t_seek o_t_hanging o_t_race o_t_widow o_t_came t_changes t_fewestAt t_hungAt t_cameAt t_fewestPulls t_fewestRow t_chain_places t_chain_deep t_chain_turn t_chain_wheel t_chain_leaks t_chain_wants t_sights_count t_sights_behind t_sights_door t_sights_served) := hw.sub [4, 5, 0, 1, 2, 3] (by decide) rfl
  refine W.eq (g2 := F0 m 5 ls (.int z1 :: [])) rfl ?_
  refine lv_if_ne (tgt := 10) F.1 F.2.1 dX11_seen_5 (by decide) (fun hc3 => ?_) (fun hc3 => ?_)
  · replace hr := (if_neg hc3).symm.trans hr
    refine lv_iload_n F.1 F.2.1 dX11_seen_10 rfl (lv_at hl 1 rfl) ?_
    refine lv_if_lt (tgt := 20) F.1 F.2.1 dX11_seen_11 (by decide) (fun hc4 => ?_) (fun hc4 => ?_)
    · replace hr := (if_pos hc4).symm.trans hr
      refine lv_bipush (v := -2) F.1 F.2.1 dX11_seen_20 (by decide) ?_
      cases hr
      exact ret_i () F hret hlk hw (Nat.le_refl _) (Nat.le_refl _) dX11_seen_22
    · replace hr := (if_neg hc4).symm.trans hr
      refine lv_iload_n F.1 F.2.1 dX11_seen_14 rfl (lv_at hl 1 rfl) ?_
      refine lv_bipush (v := 10) F.1 F.2.1 dX11_seen_15 (by decide) ?_
      refine lv_icmp_le (tgt := 23) F.1 F.2.1 dX11_seen_17 (by decide) (fun hc5 => ?_) (fun hc5 => ?_)
      · replace hr := (if_pos hc5).symm.trans hr
        refine lv_aload_n F.1 F.2.1 dX11_seen_23 rfl (lv_at hl 0 rfl) ?_
        refine gf_X11_33 F hw 0 rfl rfl dX11_seen_24 ?_
        refine lv_iload_n F.1 F.2.1 dX11_seen_27 rfl (lv_at hl 1 rfl) ?_
        refine lv_iload_n F.1 F.2.1 dX11_seen_28 rfl (lv_at hl 2 rfl) ?_
        refine lv_iload_n F.1 F.2.1 dX11_seen_29 rfl (lv_at hl 3 rfl) ?_
        obtain ⟨z6, hz6, hr⟩ := Option.bind_eq_some_iff.mp hr
        refine call_o (wr := [(q_t, .inr (11, [o_t_pad, .ref q_t_chain, o_t_words, .ref q_t_sights, o_t_images, o_t_run, o_t_seek, o_t_hanging, o_t_race, o_t_widow, o_t_came, .int t_changes, .int t_fewestAt, .int t_hungAt, .int t_cameAt, .int t_fewestPulls, .int t_fewestRow])), (q_t_chain, .inr (1, [.int t_chain_places, .int t_chain_deep, .int t_chain_turn, .long t_chain_wheel, .long t_chain_leaks, .long t_chain_wants]))]) (run_V (As := [.int a1, .int a2, .int a3]) (rest := []) F k_X11_244 (c_X8_put l dd g mv q_t_sights q_t_sights_behind q_t_sights_door q_t_sights_served t_sights_count t_sights_behind t_sights_door t_sights_served a1 a2 a3 z6 hz6 _) hw [2, 3, 4, 5] (by decide) rfl (ci := 8) rfl rfl rfl rfl hl.1 rfl (Nat.le_of_ble_eq_true rfl) dX11_seen_30 ⟨Nat.le_of_ble_eq_true rfl, Nat.le_of_ble_eq_true rfl⟩ ⟨Nat.le_of_ble_eq_true rfl, Nat.le_of_ble_eq_true rfl⟩) hw [2, 3, 4, 5] [0, 1] rfl rfl (by decide) (by decide) (fun u7 H locs hw => ?_)
        replace hw : Wd dd g mv A s H locs (w_X11_seen g q_t q_t_chain q_t_sights q_t_sights_behind q_t_sights_door q_t_sights_served o_t_pad o_t_words o_t_images o_t_run o_t_seek o_t_hanging o_t_race o_t_widow o_t_came t_changes t_fewestAt t_hungAt t_cameAt t_fewestPulls t_fewestRow t_chain_places t_chain_deep t_chain_turn t_chain_wheel t_chain_leaks t_chain_wants z6.2.1 z6.2.2.1 z6.2.2.2.1 z6.2.2.2.2) := hw.sub [0, 1, 2, 3, 4, 5] (by decide) rfl
        refine W.eq (g2 := F0 m 33 ls (.int z6.1 :: [])) rfl ?_
        refine lv_if_ne (tgt := 39) F.1 F.2.1 dX11_seen_33 (by decide) (fun hc8 => ?_) (fun hc8 => ?_)
        · replace hr := (if_neg hc8).symm.trans hr
          refine lv_aload_n F.1 F.2.1 dX11_seen_39 rfl (lv_at hl 0 rfl) ?_
          refine lv_dup F.1 F.2.1 dX11_seen_40 rfl ?_
          refine gf_X11_86 F hw 0 rfl rfl dX11_seen_41 ?_
          refine lv_iconst (v := 1) F.1 F.2.1 dX11_seen_44 (by decide) ?_
          refine lv_iadd F.1 F.2.1 dX11_seen_45 ?_
          refine pf_X11_86 F hw 0 rfl (Nat.le_of_ble_eq_true rfl) dX11_seen_46 (fun H locs hw => ?_)
          replace hw : Wd dd g mv A s H locs (w_X11_seen g q_t q_t_chain q_t_sights q_t_sights_behind q_t_sights_door q_t_sights_served o_t_pad o_t_words o_t_images o_t_run o_t_seek o_t_hanging o_t_race o_t_widow o_t_came ((t_changes + (1 : Int32))) t_fewestAt t_hungAt t_cameAt t_fewestPulls t_fewestRow t_chain_places t_chain_deep t_chain_turn t_chain_wheel t_chain_leaks t_chain_wants z6.2.1 z6.2.2.1 z6.2.2.2.1 z6.2.2.2.2) := hw
          refine lv_aload_n F.1 F.2.1 dX11_seen_49 rfl (lv_at hl 0 rfl) ?_
          refine gf_X11_33 F hw 0 rfl rfl dX11_seen_50 ?_
          refine gf_X11_112 F hw 2 rfl rfl dX11_seen_53 ?_
          cases hr
          exact ret_i () F hret hlk hw (Nat.le_refl _) (Nat.le_refl _) dX11_seen_56
        · replace hr := (if_pos hc8).symm.trans hr
          refine lv_bipush (v := -4) F.1 F.2.1 dX11_seen_36 (by decide) ?_
          cases hr
          exact ret_i () F hret hlk hw (Nat.le_refl _) (Nat.le_refl _) dX11_seen_38
      · replace hr := (if_neg hc5).symm.trans hr
        refine lv_bipush (v := -2) F.1 F.2.1 dX11_seen_20 (by decide) ?_
        cases hr
        exact ret_i () F hret hlk hw (Nat.le_refl _) (Nat.le_refl _) dX11_seen_22
  · replace hr := (if_pos hc3).symm.trans hr
    refine lv_iconst (v := -1) F.1 F.2.1 dX11_seen_8 (by decide) ?_
    cases hr
    exact ret_i () F hret hlk hw (Nat.le_refl _) (Nat.le_refl _) dX11_seen_9
set_option maxHeartbeats 4000000 in
set_option maxRecDepth 100000 in
theorem c_X11_forget (l : Launch) (dd : va_G) (g : Nat → ClassId) (mv : Nat) (q_t : Nat) (q_t_sights : Nat) (o_t_pad : Value) (o_t_chain : Value) (o_t_words : Value) (o_t_images : Value) (o_t_run : Value) (o_t_seek : Value) (o_t_hanging : Value) (o_t_race : Value) (o_t_widow : Value) (o_t_came : Value) (o_t_sights_behind : Value) (o_t_sights_door : Value) (o_t_sights_served : Value) (t_changes : Int32) (t_fewestAt : Int32) (t_hungAt : Int32) (t_cameAt : Int32) (t_fewestPulls : Int32) (t_fewestRow : Int32) (t_sights_count : Int32) (z : Int32 × Int32 × Int32) (hr : f_X11_forget t_changes t_sights_count = some z) (sz : Nat) : Met l yX11_forget (.code yX11_forget cX11_forget 2 (some .int) :: WS) (rmH 0 0 0) (va_Pc [.ref q_t] (PW dd g mv (w_X11_forget g q_t q_t_sights o_t_pad o_t_chain o_t_words o_t_images o_t_run o_t_seek o_t_hanging o_t_race o_t_widow o_t_came o_t_sights_behind o_t_sights_door o_t_sights_served t_changes t_fewestAt t_hungAt t_cameAt t_fewestPulls t_fewestRow t_sights_count) sz)) (Qo dd g (some (.int z.1)) (fun u : Unit => (w_X11_forget g q_t q_t_sights o_t_pad o_t_chain o_t_words o_t_images o_t_run o_t_seek o_t_hanging o_t_race o_t_widow o_t_came o_t_sights_behind o_t_sights_door o_t_sights_served z.2.1 t_fewestAt t_hungAt t_cameAt t_fewestPulls t_fewestRow z.2.2)) (va_A (w_X11_forget g q_t q_t_sights o_t_pad o_t_chain o_t_words o_t_images o_t_run o_t_seek o_t_hanging o_t_race o_t_widow o_t_came o_t_sights_behind o_t_sights_door o_t_sights_served t_changes t_fewestAt t_hungAt t_cameAt t_fewestPulls t_fewestRow t_sights_count) sz)) 0 0 (va_A (w_X11_forget g q_t q_t_sights o_t_pad o_t_chain o_t_words o_t_images o_t_run o_t_seek o_t_hanging o_t_race o_t_widow o_t_came o_t_sights_behind o_t_sights_door o_t_sights_served t_changes t_fewestAt t_hungAt t_cameAt t_fewestPulls t_fewestRow t_sights_count) sz) := by
  refine Met_intro (by decide) (Nat.le_of_ble_eq_true rfl) ?_
  intro p e s m below meth c A ls F hret hlk hin hw hl
  replace hl : lv_has ls 2 [(0, .ref q_t)] := hl
  refine lv_aload_n F.1 F.2.1 dX11_forget_0 rfl (lv_at hl 0 rfl) ?_
  refine gf_X11_33 F hw 0 rfl rfl dX11_forget_1 ?_
  refine gf_X11_112 F hw 1 rfl rfl dX11_forget_4 ?_
  refine lv_istore_n (lv' := [(1, .int t_sights_count), (0, .ref q_t)]) F.1 F.2.1 dX11_forget_7 rfl hl (by decide) rfl (fun ls hl => ?_)
  refine lv_aload_n F.1 F.2.1 dX11_forget_8 rfl (lv_at hl 1 rfl) ?_
  refine gf_X11_33 F hw 0 rfl rfl dX11_forget_9 ?_
  refine lv_iconst (v := 0) F.1 F.2.1 dX11_forget_12 (by decide) ?_
  refine pf_X11_112 F hw 1 rfl (Nat.le_of_ble_eq_true rfl) dX11_forget_13 (fun H locs hw => ?_)
  replace hw : Wd dd g mv A s H locs (w_X11_forget g q_t q_t_sights o_t_pad o_t_chain o_t_words o_t_images o_t_run o_t_seek o_t_hanging o_t_race o_t_widow o_t_came o_t_sights_behind o_t_sights_door o_t_sights_served t_changes t_fewestAt t_hungAt t_cameAt t_fewestPulls t_fewestRow ((0 : Int32))) := hw
  refine lv_aload_n F.1 F.2.1 dX11_forget_16 rfl (lv_at hl 1 rfl) ?_
  refine lv_dup F.1 F.2.1 dX11_forget_17 rfl ?_
  refine gf_X11_86 F hw 0 rfl rfl dX11_forget_18 ?_
  refine lv_iconst (v := 1) F.1 F.2.1 dX11_forget_21 (by decide) ?_
  refine lv_iadd F.1 F.2.1 dX11_forget_22 ?_
  refine pf_X11_86 F hw 0 rfl (Nat.le_of_ble_eq_true rfl) dX11_forget_23 (fun H locs hw => ?_)
  replace hw : Wd dd g mv A s H locs (w_X11_forget g q_t q_t_sights o_t_pad o_t_chain o_t_words o_t_images o_t_run o_t_seek o_t_hanging o_t_race o_t_widow o_t_came o_t_sights_behind o_t_sights_door o_t_sights_served ((t_changes + (1 : Int32))) t_fewestAt t_hungAt t_cameAt t_fewestPulls t_fewestRow ((0 : Int32))) := hw
  refine lv_iload_n F.1 F.2.1 dX11_forget_26 rfl (lv_at hl 0 rfl) ?_
  cases hr
  exact ret_i () F hret hlk hw (Nat.le_refl _) (Nat.le_refl _) dX11_forget_27
set_option maxHeartbeats 4000000 in
set_option maxRecDepth 100000 in
theorem b_X11_fit_22 {q_t q_t_came q_t_chain q_t_sights q_t_came_could q_t_came_needed q_t_came_neededLater q_t_came_barred q_t_sights_behind q_t_sights_served q_t_sights_door q_t_came_row q_t_came_first : Nat} {z : Int32 × Int32 × Int32 × Int32 × (Nat → Int32) × (Nat → Int64) × (Nat → Int64) × (Nat → Int64) × (Nat → Int32) × (Nat → Int32)} (F : Fx p m c cX11_fit 2 s args RX11) (hret : meth.sig.returnType = none) (hlk : meth.locks = false) : ∀ {x1 : Int32} {t_changes : Int32} {t_chain_places : Int32} {t_chain_deep : Int32} {t_chain_wheel : Int64} {t_chain_leaks : Int64} {t_chain_wants : Int64} {t_sights_count : Int32} {t_came_could : Nat → Int32} {t_came_needed : Nat → Int64} {t_came_neededLater : Nat → Int64} {t_came_barred : Nat → Int64} {t_sights_behind : Nat → Int32} {t_sights_served : Nat → Int32} {t_sights_door : Nat → Int32} {t_came_row : Nat → Int32} {t_came_first : Nat → Int32} {t_fewestAt : Int32} {t_hungAt : Int32} {t_cameAt : Int32} {t_fewestPulls : Int32} {t_fewestRow : Int32} {t_came_m : Int32} {t_came_count : Int32} {t_came_isFound : Int32} {t_chain_turn : Int32} {o_t_pad : Value} {o_t_words : Value} {o_t_images : Value} {o_t_run : Value} {o_t_seek : Value} {o_t_hanging : Value} {o_t_race : Value} {o_t_widow : Value} {o_t_came_chain : Value} {H : Heap} {locs : List Loc} {ls : Array Slot}, f_X11_fit_22  x1 t_changes t_chain_places t_chain_deep t_chain_wheel t_chain_leaks t_chain_wants t_sights_count t_came_could t_came_needed t_came_neededLater t_came_barred t_sights_behind t_sights_served t_sights_door t_came_row t_came_first = some z → Wd dd g mv A s H locs (w_X11_fit g q_t q_t_came q_t_chain q_t_sights q_t_came_could q_t_came_needed q_t_came_neededLater q_t_came_barred q_t_sights_behind q_t_sights_served q_t_sights_door q_t_came_row q_t_came_first o_t_pad o_t_words o_t_images o_t_run o_t_seek o_t_hanging o_t_race o_t_widow o_t_came_chain t_changes t_fewestAt t_hungAt t_cameAt t_fewestPulls t_fewestRow t_came_m t_came_count t_came_isFound t_chain_places t_chain_deep t_chain_turn t_chain_wheel t_chain_leaks t_chain_wants t_sights_count t_came_could t_came_needed t_came_neededLater t_came_barred t_sights_behind t_sights_served t_sights_door t_came_row t_came_first) → lv_has ls 2 [(0, .ref q_t), (1, .int x1)] → W p l e (rmH (25) 0 0) s m args below meth c H locs 0 0 (MQ below (Qo dd g none (fun u : Value => (w_X11_fit g q_t q_t_came q_t_chain q_t_sights q_t_came_could q_t_came_needed q_t_came_neededLater q_t_came_barred q_t_sights_behind q_t_sights_served q_t_sights_door q_t_came_row q_t_came_first o_t_pad o_t_words o_t_images o_t_run o_t_seek o_t_hanging o_t_race o_t_widow u t_changes t_fewestAt t_hungAt z.1 t_fewestPulls t_fewestRow z.2.1 z.2.2.1 z.2.2.2.1 t_chain_places t_chain_deep t_chain_turn t_chain_wheel t_chain_leaks t_chain_wants t_sights_count z.2.2.2.2.1 z.2.2.2.2.2.1 z.2.2.2.2.2.2.1 z.2.2.2.2.2.2.2.1 t_sights_behind t_sights_served t_sights_door z.2.2.2.2.2.2.2.2.1 z.2.2.2.2.2.2.2.2.2)) A) args s 0 0 A) (F0 m 22 ls []) := by
  intro x1 t_changes t_chain_places t_chain_deep t_chain_wheel t_chain_leaks t_chain_wants t_sights_count t_came_could t_came_needed t_came_neededLater t_came_barred t_sights_behind t_sights_served t_sights_door t_came_row t_came_first t_fewestAt t_hungAt t_cameAt t_fewestPulls t_fewestRow t_came_m t_came_count t_came_isFound t_chain_turn o_t_pad o_t_words o_t_images o_t_run o_t_seek o_t_hanging o_t_race o_t_widow o_t_came_chain H locs ls hr hw hl
  refine lv_aload_n F.1 F.2.1 dX11_fit_22 rfl (lv_at hl 0 rfl) ?_
  refine gf_X11_82 F hw 0 rfl rfl dX11_fit_23 ?_
  refine lv_aload_n F.1 F.2.1 dX11_fit_26 rfl (lv_at hl 0 rfl) ?_
  refine gf_X11_19 F hw 0 rfl rfl dX11_fit_27 ?_
  refine lv_aload_n F.1 F.2.1 dX11_fit_30 rfl (lv_at hl 0 rfl) ?_
  refine gf_X11_33 F hw 0 rfl rfl dX11_fit_31 ?_
  refine lv_iload_n F.1 F.2.1 dX11_fit_34 rfl (lv_at hl 1 rfl) ?_
  obtain ⟨z1, hz1, hr⟩ := Option.bind_eq_some_iff.mp hr
  refine call_o (wr := [(q_t, .inr (11, [o_t_pad, .ref q_t_chain, o_t_words, .ref q_t_sights, o_t_images, o_t_run, o_t_seek, o_t_hanging, o_t_race, o_t_widow, .ref q_t_came, .int t_changes, .int t_fewestAt, .int t_hungAt, .int t_cameAt, .int t_fewestPulls, .int t_fewestRow]))]) (run_V (As := [.ref q_t_chain, .ref q_t_sights, .int x1]) (rest := []) F k_X11_296 (c_X0_look l dd g mv q_t_came q_t_chain q_t_sights q_t_came_could q_t_came_needed q_t_came_neededLater q_t_came_barred q_t_sights_behind q_t_sights_served q_t_sights_door q_t_came_row q_t_came_first o_t_came_chain t_came_m t_came_count t_came_isFound t_chain_places t_chain_deep t_chain_turn t_chain_wheel t_chain_leaks t_chain_wants t_sights_count t_came_could t_came_needed t_came_neededLater t_came_barred t_sights_behind t_sights_served t_sights_door t_came_row t_came_first x1 z1 hz1 _) hw [1, 2, 3, 4, 5, 6, 7, 8, 9, 10, 11, 12] (by decide) rfl (ci := 0) rfl rfl rfl rfl hl.1 rfl (Nat.le_of_ble_eq_true rfl) dX11_fit_35 ⟨Nat.le_of_ble_eq_true rfl, Nat.le_of_ble_eq_true rfl⟩ ⟨Nat.le_of_ble_eq_true rfl, Nat.le_of_ble_eq_true rfl⟩) hw [1, 2, 3, 4, 5, 6, 7, 8, 9, 10, 11, 12] [0] rfl rfl (by decide) (by decide) (fun u2 H locs hw => ?_)
  replace hw : Wd dd g mv A s H locs (w_X11_fit g q_t q_t_came q_t_chain q_t_sights q_t_came_could q_t_came_needed q_t_came_neededLater q_t_came_barred q_t_sights_behind q_t_sights_served q_t_sights_door q_t_came_row q_t_came_first o_t_pad o_t_words o_t_images o_t_run o_t_seek o_t_hanging o_t_race o_t_widow ((.ref q_t_chain)) t_changes t_fewestAt t_hungAt t_cameAt t_fewestPulls t_fewestRow z1.1 z1.2.1 z1.2.2.1 t_chain_places t_chain_deep t_chain_turn t_chain_wheel t_chain_leaks t_chain_wants t_sights_count z1.2.2.2.1 z1.2.2.2.2.1 z1.2.2.2.2.2.1 z1.2.2.2.2.2.2.1 t_sights_behind t_sights_served t_sights_door z1.2.2.2.2.2.2.2.1 z1.2.2.2.2.2.2.2.2) := hw.sub [0, 1, 2, 3, 4, 5, 6, 7, 8, 9, 10, 11, 12] (by decide) rfl
  refine lv_aload_n F.1 F.2.1 dX11_fit_38 rfl (lv_at hl 0 rfl) ?_
  refine lv_aload_n F.1 F.2.1 dX11_fit_39 rfl (lv_at hl 0 rfl) ?_
  refine gf_X11_86 F hw 0 rfl rfl dX11_fit_40 ?_
  refine pf_X11_96 F hw 0 rfl (Nat.le_of_ble_eq_true rfl) dX11_fit_43 (fun H locs hw => ?_)
  replace hw : Wd dd g mv A s H locs (w_X11_fit g q_t q_t_came q_t_chain q_t_sights q_t_came_could q_t_came_needed q_t_came_neededLater q_t_came_barred q_t_sights_behind q_t_sights_served q_t_sights_door q_t_came_row q_t_came_first o_t_pad o_t_words o_t_images o_t_run o_t_seek o_t_hanging o_t_race o_t_widow ((.ref q_t_chain)) t_changes t_fewestAt t_hungAt t_changes t_fewestPulls t_fewestRow z1.1 z1.2.1 z1.2.2.1 t_chain_places t_chain_deep t_chain_turn t_chain_wheel t_chain_leaks t_chain_wants t_sights_count z1.2.2.2.1 z1.2.2.2.2.1 z1.2.2.2.2.2.1 z1.2.2.2.2.2.2.1 t_sights_behind t_sights_served t_sights_door z1.2.2.2.2.2.2.2.1 z1.2.2.2.2.2.2.2.2) := hw
  cases hr
  exact ret_v ((.ref q_t_chain)) F hret hlk hw (Nat.le_refl _) (Nat.le_refl _) dX11_fit_46
set_option maxHeartbeats 4000000 in
set_option maxRecDepth 100000 in
theorem c_X11_fit (l : Launch) (dd : va_G) (g : Nat → ClassId) (mv : Nat) (q_t : Nat) (q_t_came : Nat) (q_t_chain : Nat) (q_t_sights : Nat) (q_t_came_could : Nat) (q_t_came_needed : Nat) (q_t_came_neededLater : Nat) (q_t_came_barred : Nat) (q_t_sights_behind : Nat) (q_t_sights_served : Nat) (q_t_sights_door : Nat) (q_t_came_row : Nat) (q_t_came_first : Nat) (o_t_pad : Value) (o_t_words : Value) (o_t_images : Value) (o_t_run : Value) (o_t_seek : Value) (o_t_hanging : Value) (o_t_race : Value) (o_t_widow : Value) (o_t_came_chain : Value) (t_changes : Int32) (t_fewestAt : Int32) (t_hungAt : Int32) (t_cameAt : Int32) (t_fewestPulls : Int32) (t_fewestRow : Int32) (t_came_m : Int32) (t_came_count : Int32) (t_came_isFound : Int32) (t_chain_places : Int32) (t_chain_deep : Int32) (t_chain_turn : Int32) (t_chain_wheel : Int64) (t_chain_leaks : Int64) (t_chain_wants : Int64) (t_sights_count : Int32) (t_came_could : Nat → Int32) (t_came_needed : Nat → Int64) (t_came_neededLater : Nat → Int64) (t_came_barred : Nat → Int64) (t_sights_behind : Nat → Int32) (t_sights_served : Nat → Int32) (t_sights_door : Nat → Int32) (t_came_row : Nat → Int32) (t_came_first : Nat → Int32) (a1 : Int32) (z : Int32 × Int32 × Int32 × Int32 × (Nat → Int32) × (Nat → Int64) × (Nat → Int64) × (Nat → Int64) × (Nat → Int32) × (Nat → Int32)) (hr : f_X11_fit t_changes t_cameAt t_came_m t_came_count t_came_isFound t_chain_places t_chain_deep t_chain_wheel t_chain_leaks t_chain_wants t_sights_count t_came_could t_came_needed t_came_neededLater t_came_barred t_sights_behind t_sights_served t_sights_door t_came_row t_came_first a1 = some z) (sz : Nat) : Met l yX11_fit (.code yX11_fit cX11_fit 2 none :: WS) (rmH 25 0 0) (va_Pc [.ref q_t, .int a1] (PW dd g mv (w_X11_fit g q_t q_t_came q_t_chain q_t_sights q_t_came_could q_t_came_needed q_t_came_neededLater q_t_came_barred q_t_sights_behind q_t_sights_served q_t_sights_door q_t_came_row q_t_came_first o_t_pad o_t_words o_t_images o_t_run o_t_seek o_t_hanging o_t_race o_t_widow o_t_came_chain t_changes t_fewestAt t_hungAt t_cameAt t_fewestPulls t_fewestRow t_came_m t_came_count t_came_isFound t_chain_places t_chain_deep t_chain_turn t_chain_wheel t_chain_leaks t_chain_wants t_sights_count t_came_could t_came_needed t_came_neededLater t_came_barred t_sights_behind t_sights_served t_sights_door t_came_row t_came_first) sz)) (Qo dd g none (fun u : Value => (w_X11_fit g q_t q_t_came q_t_chain q_t_sights q_t_came_could q_t_came_needed q_t_came_neededLater q_t_came_barred q_t_sights_behind q_t_sights_served q_t_sights_door q_t_came_row q_t_came_first o_t_pad o_t_words o_t_images o_t_run o_t_seek o_t_hanging o_t_race o_t_widow u t_changes t_fewestAt t_hungAt z.1 t_fewestPulls t_fewestRow z.2.1 z.2.2.1 z.2.2.2.1 t_chain_places t_chain_deep t_chain_turn t_chain_wheel t_chain_leaks t_chain_wants t_sights_count z.2.2.2.2.1 z.2.2.2.2.2.1 z.2.2.2.2.2.2.1 z.2.2.2.2.2.2.2.1 t_sights_behind t_sights_served t_sights_door z.2.2.2.2.2.2.2.2.1 z.2.2.2.2.2.2.2.2.2)) (va_A (w_X11_fit g q_t q_t_came q_t_chain q_t_sights q_t_came_could q_t_came_needed q_t_came_neededLater q_t_came_barred q_t_sights_behind q_t_sights_served q_t_sights_door q_t_came_row q_t_came_first o_t_pad o_t_words o_t_images o_t_run o_t_seek o_t_hanging o_t_race o_t_widow o_t_came_chain t_changes t_fewestAt t_hungAt t_cameAt t_fewestPulls t_fewestRow t_came_m t_came_count t_came_isFound t_chain_places t_chain_deep t_chain_turn t_chain_wheel t_chain_leaks t_chain_wants t_sights_count t_came_could t_came_needed t_came_neededLater t_came_barred t_sights_behind t_sights_served t_sights_door t_came_row t_came_first) sz)) 0 0 (va_A (w_X11_fit g q_t q_t_came q_t_chain q_t_sights q_t_came_could q_t_came_needed q_t_came_neededLater q_t_came_barred q_t_sights_behind q_t_sights_served q_t_sights_door q_t_came_row q_t_came_first o_t_pad o_t_words o_t_images o_t_run o_t_seek o_t_hanging o_t_race o_t_widow o_t_came_chain t_changes t_fewestAt t_hungAt t_cameAt t_fewestPulls t_fewestRow t_came_m t_came_count t_came_isFound t_chain_places t_chain_deep t_chain_turn t_chain_wheel t_chain_leaks t_chain_wants t_sights_count t_came_could t_came_needed t_came_neededLater t_came_barred t_sights_behind t_sights_served t_sights_door t_came_row t_came_first) sz) := by
  refine Met_intro (by decide) (Nat.le_of_ble_eq_true rfl) ?_
  intro p e s m below meth c A ls F hret hlk hin hw hl
  replace hl : lv_has ls 2 [(0, .ref q_t), (1, .int a1)] := hl
  refine lv_aload_n F.1 F.2.1 dX11_fit_0 rfl (lv_at hl 0 rfl) ?_
  refine gf_X11_96 F hw 0 rfl rfl dX11_fit_1 ?_
  refine lv_aload_n F.1 F.2.1 dX11_fit_4 rfl (lv_at hl 0 rfl) ?_
  refine gf_X11_86 F hw 0 rfl rfl dX11_fit_5 ?_
  refine lv_icmp_ne (tgt := 22) F.1 F.2.1 dX11_fit_8 (by decide) (fun hc3 => ?_) (fun hc3 => ?_)
  · replace hr := (if_neg hc3).symm.trans hr
    exact b_X11_fit_22 F hret hlk  hr hw (lv_sub hl [0, 1] rfl)
  · replace hr := (if_pos hc3).symm.trans hr
    refine lv_aload_n F.1 F.2.1 dX11_fit_11 rfl (lv_at hl 0 rfl) ?_
    refine gf_X11_82 F hw 0 rfl rfl dX11_fit_12 ?_
    refine gf_X11_293 F hw 1 rfl rfl dX11_fit_15 ?_
    refine lv_iload_n F.1 F.2.1 dX11_fit_18 rfl (lv_at hl 1 rfl) ?_
    refine lv_icmp_eq (tgt := 46) F.1 F.2.1 dX11_fit_19 (by decide) (fun hc4 => ?_) (fun hc4 => ?_)
    · replace hr := (if_pos hc4).symm.trans hr
      cases hr
      exact ret_v (o_t_came_chain) F hret hlk hw (Nat.le_refl _) (Nat.le_refl _) dX11_fit_46
    · replace hr := (if_neg hc4).symm.trans hr
      exact b_X11_fit_22 F hret hlk  hr hw (lv_sub hl [0, 1] rfl)
set_option maxHeartbeats 4000000 in
set_option maxRecDepth 100000 in
theorem b_X11_came_50 {q_t q_t_came q_t_chain q_t_sights q_t_came_could q_t_came_needed q_t_came_neededLater q_t_came_barred q_t_sights_behind q_t_sights_served q_t_sights_door q_t_came_row q_t_came_first : Nat} {z : Int32 × Int32 × Int32 × Int32 × Int32 × (Nat → Int32) × (Nat → Int64) × (Nat → Int64) × (Nat → Int64) × (Nat → Int32) × (Nat → Int32)} (F : Fx p m c cX11_came 3 s args RX11) (hret : meth.sig.returnType = some .int) (hlk : meth.locks = false) : ∀ {t_cameAt : Int32} {t_came_m : Int32} {t_came_count : Int32} {t_came_isFound : Int32} {t_came_could : Nat → Int32} {t_came_needed : Nat → Int64} {t_came_neededLater : Nat → Int64} {t_came_barred : Nat → Int64} {t_came_row : Nat → Int32} {t_came_first : Nat → Int32} {t_changes : Int32} {t_fewestAt : Int32} {t_hungAt : Int32} {t_fewestPulls : Int32} {t_fewestRow : Int32} {t_chain_places : Int32} {t_chain_deep : Int32} {t_chain_turn : Int32} {t_chain_wheel : Int64} {t_chain_leaks : Int64} {t_chain_wants : Int64} {t_sights_count : Int32} {t_sights_behind : Nat → Int32} {t_sights_served : Nat → Int32} {t_sights_door : Nat → Int32} {o_t_pad : Value} {o_t_words : Value} {o_t_images : Value} {o_t_run : Value} {o_t_seek : Value} {o_t_hanging : Value} {o_t_race : Value} {o_t_widow : Value} {o_t_came_chain : Value} {H : Heap} {locs : List Loc} {ls : Array Slot}, f_X11_came_50  t_cameAt t_came_m t_came_count t_came_isFound t_came_could t_came_needed t_came_neededLater t_came_barred t_came_row t_came_first = some z → Wd dd g mv A s H locs (w_X11_came g q_t q_t_came q_t_chain q_t_sights q_t_came_could q_t_came_needed q_t_came_neededLater q_t_came_barred q_t_sights_behind q_t_sights_served q_t_sights_door q_t_came_row q_t_came_first o_t_pad o_t_words o_t_images o_t_run o_t_seek o_t_hanging o_t_race o_t_widow o_t_came_chain t_changes t_fewestAt t_hungAt t_cameAt t_fewestPulls t_fewestRow t_came_m t_came_count t_came_isFound t_chain_places t_chain_deep t_chain_turn t_chain_wheel t_chain_leaks t_chain_wants t_sights_count t_came_could t_came_needed t_came_neededLater t_came_barred t_sights_behind t_sights_served t_sights_door t_came_row t_came_first) → lv_has ls 3 [] → W p l e (rmH (26) 0 0) s m args below meth c H locs 0 0 (MQ below (Qo dd g (some (.int z.1)) (fun u : Value => (w_X11_came g q_t q_t_came q_t_chain q_t_sights q_t_came_could q_t_came_needed q_t_came_neededLater q_t_came_barred q_t_sights_behind q_t_sights_served q_t_sights_door q_t_came_row q_t_came_first o_t_pad o_t_words o_t_images o_t_run o_t_seek o_t_hanging o_t_race o_t_widow u t_changes t_fewestAt t_hungAt z.2.1 t_fewestPulls t_fewestRow z.2.2.1 z.2.2.2.1 z.2.2.2.2.1 t_chain_places t_chain_deep t_chain_turn t_chain_wheel t_chain_leaks t_chain_wants t_sights_count z.2.2.2.2.2.1 z.2.2.2.2.2.2.1 z.2.2.2.2.2.2.2.1 z.2.2.2.2.2.2.2.2.1 t_sights_behind t_sights_served t_sights_door z.2.2.2.2.2.2.2.2.2.1 z.2.2.2.2.2.2.2.2.2.2)) A) args s 0 0 A) (F0 m 50 ls []) := by
  intro t_cameAt t_came_m t_came_count t_came_isFound t_came_could t_came_needed t_came_neededLater t_came_barred t_came_row t_came_first t_changes t_fewestAt t_hungAt t_fewestPulls t_fewestRow t_chain_places t_chain_deep t_chain_turn t_chain_wheel t_chain_leaks t_chain_wants t_sights_count t_sights_behind t_sights_served t_sights_door o_t_pad o_t_words o_t_images o_t_run o_t_seek o_t_hanging o_t_race o_t_widow o_t_came_chain H locs ls hr hw hl
  refine lv_bipush (v := -6) F.1 F.2.1 dX11_came_50 (by decide) ?_
  refine lv_goto (tgt := 64) F.1 F.2.1 dX11_came_52 (by decide) ?_
  cases hr
  exact ret_i (o_t_came_chain) F hret hlk hw (Nat.le_refl _) (Nat.le_refl _) dX11_came_64
set_option maxHeartbeats 4000000 in
set_option maxRecDepth 100000 in
theorem c_X11_came (l : Launch) (dd : va_G) (g : Nat → ClassId) (mv : Nat) (q_t : Nat) (q_t_came : Nat) (q_t_chain : Nat) (q_t_sights : Nat) (q_t_came_could : Nat) (q_t_came_needed : Nat) (q_t_came_neededLater : Nat) (q_t_came_barred : Nat) (q_t_sights_behind : Nat) (q_t_sights_served : Nat) (q_t_sights_door : Nat) (q_t_came_row : Nat) (q_t_came_first : Nat) (o_t_pad : Value) (o_t_words : Value) (o_t_images : Value) (o_t_run : Value) (o_t_seek : Value) (o_t_hanging : Value) (o_t_race : Value) (o_t_widow : Value) (o_t_came_chain : Value) (t_changes : Int32) (t_fewestAt : Int32) (t_hungAt : Int32) (t_cameAt : Int32) (t_fewestPulls : Int32) (t_fewestRow : Int32) (t_came_m : Int32) (t_came_count : Int32) (t_came_isFound : Int32) (t_chain_places : Int32) (t_chain_deep : Int32) (t_chain_turn : Int32) (t_chain_wheel : Int64) (t_chain_leaks : Int64) (t_chain_wants : Int64) (t_sights_count : Int32) (t_came_could : Nat → Int32) (t_came_needed : Nat → Int64) (t_came_neededLater : Nat → Int64) (t_came_barred : Nat → Int64) (t_sights_behind : Nat → Int32) (t_sights_served : Nat → Int32) (t_sights_door : Nat → Int32) (t_came_row : Nat → Int32) (t_came_first : Nat → Int32) (a1 : Int32) (a2 : Int32) (z : Int32 × Int32 × Int32 × Int32 × Int32 × (Nat → Int32) × (Nat → Int64) × (Nat → Int64) × (Nat → Int64) × (Nat → Int32) × (Nat → Int32)) (hr : f_X11_came t_changes t_cameAt t_came_m t_came_count t_came_isFound t_chain_places t_chain_deep t_chain_wheel t_chain_leaks t_chain_wants t_sights_count t_came_could t_came_needed t_came_neededLater t_came_barred t_sights_behind t_sights_served t_sights_door t_came_row t_came_first a1 a2 = some z) (sz : Nat) : Met l yX11_came (.code yX11_came cX11_came 3 (some .int) :: WS) (rmH 26 0 0) (va_Pc [.ref q_t, .int a1, .int a2] (PW dd g mv (w_X11_came g q_t q_t_came q_t_chain q_t_sights q_t_came_could q_t_came_needed q_t_came_neededLater q_t_came_barred q_t_sights_behind q_t_sights_served q_t_sights_door q_t_came_row q_t_came_first o_t_pad o_t_words o_t_images o_t_run o_t_seek o_t_hanging o_t_race o_t_widow o_t_came_chain t_changes t_fewestAt t_hungAt t_cameAt t_fewestPulls t_fewestRow t_came_m t_came_count t_came_isFound t_chain_places t_chain_deep t_chain_turn t_chain_wheel t_chain_leaks t_chain_wants t_sights_count t_came_could t_came_needed t_came_neededLater t_came_barred t_sights_behind t_sights_served t_sights_door t_came_row t_came_first) sz)) (Qo dd g (some (.int z.1)) (fun u : Value => (w_X11_came g q_t q_t_came q_t_chain q_t_sights q_t_came_could q_t_came_needed q_t_came_neededLater q_t_came_barred q_t_sights_behind q_t_sights_served q_t_sights_door q_t_came_row q_t_came_first o_t_pad o_t_words o_t_images o_t_run o_t_seek o_t_hanging o_t_race o_t_widow u t_changes t_fewestAt t_hungAt z.2.1 t_fewestPulls t_fewestRow z.2.2.1 z.2.2.2.1 z.2.2.2.2.1 t_chain_places t_chain_deep t_chain_turn t_chain_wheel t_chain_leaks t_chain_wants t_sights_count z.2.2.2.2.2.1 z.2.2.2.2.2.2.1 z.2.2.2.2.2.2.2.1 z.2.2.2.2.2.2.2.2.1 t_sights_behind t_sights_served t_sights_door z.2.2.2.2.2.2.2.2.2.1 z.2.2.2.2.2.2.2.2.2.2)) (va_A (w_X11_came g q_t q_t_came q_t_chain q_t_sights q_t_came_could q_t_came_needed q_t_came_neededLater q_t_came_barred q_t_sights_behind q_t_sights_served q_t_sights_door q_t_came_row q_t_came_first o_t_pad o_t_words o_t_images o_t_run o_t_seek o_t_hanging o_t_race o_t_widow o_t_came_chain t_changes t_fewestAt t_hungAt t_cameAt t_fewestPulls t_fewestRow t_came_m t_came_count t_came_isFound t_chain_places t_chain_deep t_chain_turn t_chain_wheel t_chain_leaks t_chain_wants t_sights_count t_came_could t_came_needed t_came_neededLater t_came_barred t_sights_behind t_sights_served t_sights_door t_came_row t_came_first) sz)) 0 0 (va_A (w_X11_came g q_t q_t_came q_t_chain q_t_sights q_t_came_could q_t_came_needed q_t_came_neededLater q_t_came_barred q_t_sights_behind q_t_sights_served q_t_sights_door q_t_came_row q_t_came_first o_t_pad o_t_words o_t_images o_t_run o_t_seek o_t_hanging o_t_race o_t_widow o_t_came_chain t_changes t_fewestAt t_hungAt t_cameAt t_fewestPulls t_fewestRow t_came_m t_came_count t_came_isFound t_chain_places t_chain_deep t_chain_turn t_chain_wheel t_chain_leaks t_chain_wants t_sights_count t_came_could t_came_needed t_came_neededLater t_came_barred t_sights_behind t_sights_served t_sights_door t_came_row t_came_first) sz) := by
  refine Met_intro (by decide) (Nat.le_of_ble_eq_true rfl) ?_
  intro p e s m below meth c A ls F hret hlk hin hw hl
  replace hl : lv_has ls 3 [(0, .ref q_t), (1, .int a1), (2, .int a2)] := hl
  refine lv_iload_n F.1 F.2.1 dX11_came_0 rfl (lv_at hl 1 rfl) ?_
  refine lv_if_lt (tgt := 10) F.1 F.2.1 dX11_came_1 (by decide) (fun hc1 => ?_) (fun hc1 => ?_)
  · replace hr := (if_pos hc1).symm.trans hr
    refine lv_bipush (v := -2) F.1 F.2.1 dX11_came_10 (by decide) ?_
    cases hr
    exact ret_i (o_t_came_chain) F hret hlk hw (Nat.le_refl _) (Nat.le_refl _) dX11_came_12
  · replace hr := (if_neg hc1).symm.trans hr
    refine lv_iload_n F.1 F.2.1 dX11_came_4 rfl (lv_at hl 1 rfl) ?_
    refine lv_bipush (v := 10) F.1 F.2.1 dX11_came_5 (by decide) ?_
    refine lv_icmp_le (tgt := 13) F.1 F.2.1 dX11_came_7 (by decide) (fun hc2 => ?_) (fun hc2 => ?_)
    · replace hr := (if_pos hc2).symm.trans hr
      refine lv_aload_n F.1 F.2.1 dX11_came_13 rfl (lv_at hl 0 rfl) ?_
      refine lv_iload_n F.1 F.2.1 dX11_came_14 rfl (lv_at hl 1 rfl) ?_
      obtain ⟨z3, hz3, hr⟩ := Option.bind_eq_some_iff.mp hr
      refine call_o (wr := []) (run_V (As := [.int a1]) (rest := []) F k_X11_247 (c_X11_fit l dd g mv q_t q_t_came q_t_chain q_t_sights q_t_came_could q_t_came_needed q_t_came_neededLater q_t_came_barred q_t_sights_behind q_t_sights_served q_t_sights_door q_t_came_row q_t_came_first o_t_pad o_t_words o_t_images o_t_run o_t_seek o_t_hanging o_t_race o_t_widow o_t_came_chain t_changes t_fewestAt t_hungAt t_cameAt t_fewestPulls t_fewestRow t_came_m t_came_count t_came_isFound t_chain_places t_chain_deep t_chain_turn t_chain_wheel t_chain_leaks t_chain_wants t_sights_count t_came_could t_came_needed t_came_neededLater t_came_barred t_sights_behind t_sights_served t_sights_door t_came_row t_came_first a1 z3 hz3 _) hw [0, 1, 2, 3, 4, 5, 6, 7, 8, 9, 10, 11, 12] (by decide) rfl (ci := 11) rfl rfl rfl rfl hl.1 rfl (Nat.le_of_ble_eq_true rfl) dX11_came_15 ⟨Nat.le_of_ble_eq_true rfl, Nat.le_of_ble_eq_true rfl⟩ ⟨Nat.le_of_ble_eq_true rfl, Nat.le_of_ble_eq_true rfl⟩) hw [0, 1, 2, 3, 4, 5, 6, 7, 8, 9, 10, 11, 12] [] rfl rfl (by decide) (by decide) (fun u4 H locs hw => ?_)
      replace hw : Wd dd g mv A s H locs (w_X11_came g q_t q_t_came q_t_chain q_t_sights q_t_came_could q_t_came_needed q_t_came_neededLater q_t_came_barred q_t_sights_behind q_t_sights_served q_t_sights_door q_t_came_row q_t_came_first o_t_pad o_t_words o_t_images o_t_run o_t_seek o_t_hanging o_t_race o_t_widow u4 t_changes t_fewestAt t_hungAt z3.1 t_fewestPulls t_fewestRow z3.2.1 z3.2.2.1 z3.2.2.2.1 t_chain_places t_chain_deep t_chain_turn t_chain_wheel t_chain_leaks t_chain_wants t_sights_count z3.2.2.2.2.1 z3.2.2.2.2.2.1 z3.2.2.2.2.2.2.1 z3.2.2.2.2.2.2.2.1 t_sights_behind t_sights_served t_sights_door z3.2.2.2.2.2.2.2.2.1 z3.2.2.2.2.2.2.2.2.2) := hw.sub [0, 1, 2, 3, 4, 5, 6, 7, 8, 9, 10, 11, 12] (by decide) rfl
      refine lv_iload_n F.1 F.2.1 dX11_came_18 rfl (lv_at hl 2 rfl) ?_
      refine lv_iconst (v := -1) F.1 F.2.1 dX11_came_19 (by decide) ?_
      refine lv_icmp_ne (tgt := 31) F.1 F.2.1 dX11_came_20 (by decide) (fun hc5 => ?_) (fun hc5 => ?_)
      · replace hr := (if_neg hc5).symm.trans hr
        refine lv_aload_n F.1 F.2.1 dX11_came_31 rfl (lv_at hl 0 rfl) ?_
        refine gf_X11_82 F hw 0 rfl rfl dX11_came_32 ?_
        refine gf_X11_250 F hw 1 rfl rfl dX11_came_35 ?_
        refine lv_if_eq (tgt := 50) F.1 F.2.1 dX11_came_38 (by decide) (fun hc6 => ?_) (fun hc6 => ?_)
        · replace hr := (if_pos hc6).symm.trans hr
          exact b_X11_came_50 F hret hlk  hr hw (lv_sub hl [] rfl)
        · replace hr := (if_neg hc6).symm.trans hr
          refine lv_iload_n F.1 F.2.1 dX11_came_41 rfl (lv_at hl 2 rfl) ?_
          refine lv_if_lt (tgt := 50) F.1 F.2.1 dX11_came_42 (by decide) (fun hc7 => ?_) (fun hc7 => ?_)
          · replace hr := (if_pos hc7).symm.trans hr
            exact b_X11_came_50 F hret hlk  hr hw (lv_sub hl [] rfl)
          · replace hr := (if_neg hc7).symm.trans hr
            refine lv_iload_n F.1 F.2.1 dX11_came_45 rfl (lv_at hl 2 rfl) ?_
            refine lv_iload_n F.1 F.2.1 dX11_came_46 rfl (lv_at hl 1 rfl) ?_
            refine lv_icmp_lt (tgt := 55) F.1 F.2.1 dX11_came_47 (by decide) (fun hc8 => ?_) (fun hc8 => ?_)
            · replace hr := (if_pos hc8).symm.trans hr
              refine lv_aload_n F.1 F.2.1 dX11_came_55 rfl (lv_at hl 0 rfl) ?_
              refine gf_X11_82 F hw 0 rfl rfl dX11_came_56 ?_
              refine gf_X11_251 F hw 1 rfl rfl dX11_came_59 ?_
              refine lv_iload_n F.1 F.2.1 dX11_came_62 rfl (lv_at hl 2 rfl) ?_
              obtain ⟨hg9, hr⟩ := g_no hr
              refine ar_i F hw 12 rfl hg9 dX11_came_63 ?_
              cases hr
              exact ret_i (u4) F hret hlk hw (Nat.le_refl _) (Nat.le_refl _) dX11_came_64
            · replace hr := (if_neg hc8).symm.trans hr
              exact b_X11_came_50 F hret hlk  hr hw (lv_sub hl [] rfl)
      · replace hr := (if_pos hc5).symm.trans hr
        refine lv_aload_n F.1 F.2.1 dX11_came_23 rfl (lv_at hl 0 rfl) ?_
        refine gf_X11_82 F hw 0 rfl rfl dX11_came_24 ?_
        refine gf_X11_250 F hw 1 rfl rfl dX11_came_27 ?_
        cases hr
        exact ret_i (u4) F hret hlk hw (Nat.le_refl _) (Nat.le_refl _) dX11_came_30
    · replace hr := (if_neg hc2).symm.trans hr
      refine lv_bipush (v := -2) F.1 F.2.1 dX11_came_10 (by decide) ?_
      cases hr
      exact ret_i (o_t_came_chain) F hret hlk hw (Nat.le_refl _) (Nat.le_refl _) dX11_came_12
set_option maxHeartbeats 4000000 in
set_option maxRecDepth 100000 in
theorem c_X11_could (l : Launch) (dd : va_G) (g : Nat → ClassId) (mv : Nat) (q_t : Nat) (q_t_came : Nat) (q_t_chain : Nat) (q_t_sights : Nat) (q_t_came_could : Nat) (q_t_came_needed : Nat) (q_t_came_neededLater : Nat) (q_t_came_barred : Nat) (q_t_sights_behind : Nat) (q_t_sights_served : Nat) (q_t_sights_door : Nat) (q_t_came_row : Nat) (q_t_came_first : Nat) (o_t_pad : Value) (o_t_words : Value) (o_t_images : Value) (o_t_run : Value) (o_t_seek : Value) (o_t_hanging : Value) (o_t_race : Value) (o_t_widow : Value) (o_t_came_chain : Value) (t_changes : Int32) (t_fewestAt : Int32) (t_hungAt : Int32) (t_cameAt : Int32) (t_fewestPulls : Int32) (t_fewestRow : Int32) (t_came_m : Int32) (t_came_count : Int32) (t_came_isFound : Int32) (t_chain_places : Int32) (t_chain_deep : Int32) (t_chain_turn : Int32) (t_chain_wheel : Int64) (t_chain_leaks : Int64) (t_chain_wants : Int64) (t_sights_count : Int32) (t_came_could : Nat → Int32) (t_came_needed : Nat → Int64) (t_came_neededLater : Nat → Int64) (t_came_barred : Nat → Int64) (t_sights_behind : Nat → Int32) (t_sights_served : Nat → Int32) (t_sights_door : Nat → Int32) (t_came_row : Nat → Int32) (t_came_first : Nat → Int32) (a1 : Int32) (a2 : Int32) (z : Int32 × Int32 × Int32 × Int32 × Int32 × (Nat → Int32) × (Nat → Int64) × (Nat → Int64) × (Nat → Int64) × (Nat → Int32) × (Nat → Int32)) (hr : f_X11_could t_changes t_cameAt t_came_m t_came_count t_came_isFound t_chain_places t_chain_deep t_chain_wheel t_chain_leaks t_chain_wants t_sights_count t_came_could t_came_needed t_came_neededLater t_came_barred t_sights_behind t_sights_served t_sights_door t_came_row t_came_first a1 a2 = some z) (sz : Nat) : Met l yX11_could (.code yX11_could cX11_could 3 (some .int) :: WS) (rmH 26 0 0) (va_Pc [.ref q_t, .int a1, .int a2] (PW dd g mv (w_X11_could g q_t q_t_came q_t_chain q_t_sights q_t_came_could q_t_came_needed q_t_came_neededLater q_t_came_barred q_t_sights_behind q_t_sights_served q_t_sights_door q_t_came_row q_t_came_first o_t_pad o_t_words o_t_images o_t_run o_t_seek o_t_hanging o_t_race o_t_widow o_t_came_chain t_changes t_fewestAt t_hungAt t_cameAt t_fewestPulls t_fewestRow t_came_m t_came_count t_came_isFound t_chain_places t_chain_deep t_chain_turn t_chain_wheel t_chain_leaks t_chain_wants t_sights_count t_came_could t_came_needed t_came_neededLater t_came_barred t_sights_behind t_sights_served t_sights_door t_came_row t_came_first) sz)) (Qo dd g (some (.int z.1)) (fun u : Value => (w_X11_could g q_t q_t_came q_t_chain q_t_sights q_t_came_could q_t_came_needed q_t_came_neededLater q_t_came_barred q_t_sights_behind q_t_sights_served q_t_sights_door q_t_came_row q_t_came_first o_t_pad o_t_words o_t_images o_t_run o_t_seek o_t_hanging o_t_race o_t_widow u t_changes t_fewestAt t_hungAt z.2.1 t_fewestPulls t_fewestRow z.2.2.1 z.2.2.2.1 z.2.2.2.2.1 t_chain_places t_chain_deep t_chain_turn t_chain_wheel t_chain_leaks t_chain_wants t_sights_count z.2.2.2.2.2.1 z.2.2.2.2.2.2.1 z.2.2.2.2.2.2.2.1 z.2.2.2.2.2.2.2.2.1 t_sights_behind t_sights_served t_sights_door z.2.2.2.2.2.2.2.2.2.1 z.2.2.2.2.2.2.2.2.2.2)) (va_A (w_X11_could g q_t q_t_came q_t_chain q_t_sights q_t_came_could q_t_came_needed q_t_came_neededLater q_t_came_barred q_t_sights_behind q_t_sights_served q_t_sights_door q_t_came_row q_t_came_first o_t_pad o_t_words o_t_images o_t_run o_t_seek o_t_hanging o_t_race o_t_widow o_t_came_chain t_changes t_fewestAt t_hungAt t_cameAt t_fewestPulls t_fewestRow t_came_m t_came_count t_came_isFound t_chain_places t_chain_deep t_chain_turn t_chain_wheel t_chain_leaks t_chain_wants t_sights_count t_came_could t_came_needed t_came_neededLater t_came_barred t_sights_behind t_sights_served t_sights_door t_came_row t_came_first) sz)) 0 0 (va_A (w_X11_could g q_t q_t_came q_t_chain q_t_sights q_t_came_could q_t_came_needed q_t_came_neededLater q_t_came_barred q_t_sights_behind q_t_sights_served q_t_sights_door q_t_came_row q_t_came_first o_t_pad o_t_words o_t_images o_t_run o_t_seek o_t_hanging o_t_race o_t_widow o_t_came_chain t_changes t_fewestAt t_hungAt t_cameAt t_fewestPulls t_fewestRow t_came_m t_came_count t_came_isFound t_chain_places t_chain_deep t_chain_turn t_chain_wheel t_chain_leaks t_chain_wants t_sights_count t_came_could t_came_needed t_came_neededLater t_came_barred t_sights_behind t_sights_served t_sights_door t_came_row t_came_first) sz) := by
  refine Met_intro (by decide) (Nat.le_of_ble_eq_true rfl) ?_
  intro p e s m below meth c A ls F hret hlk hin hw hl
  replace hl : lv_has ls 3 [(0, .ref q_t), (1, .int a1), (2, .int a2)] := hl
  refine lv_iload_n F.1 F.2.1 dX11_could_0 rfl (lv_at hl 1 rfl) ?_
  refine lv_if_lt (tgt := 19) F.1 F.2.1 dX11_could_1 (by decide) (fun hc1 => ?_) (fun hc1 => ?_)
  · replace hr := (if_pos hc1).symm.trans hr
    refine lv_bipush (v := -2) F.1 F.2.1 dX11_could_19 (by decide) ?_
    cases hr
    exact ret_i (o_t_came_chain) F hret hlk hw (Nat.le_refl _) (Nat.le_refl _) dX11_could_21
  · replace hr := (if_neg hc1).symm.trans hr
    refine lv_iload_n F.1 F.2.1 dX11_could_4 rfl (lv_at hl 1 rfl) ?_
    refine lv_bipush (v := 10) F.1 F.2.1 dX11_could_5 (by decide) ?_
    refine lv_icmp_gt (tgt := 19) F.1 F.2.1 dX11_could_7 (by decide) (fun hc2 => ?_) (fun hc2 => ?_)
    · replace hr := (if_pos hc2).symm.trans hr
      refine lv_bipush (v := -2) F.1 F.2.1 dX11_could_19 (by decide) ?_
      cases hr
      exact ret_i (o_t_came_chain) F hret hlk hw (Nat.le_refl _) (Nat.le_refl _) dX11_could_21
    · replace hr := (if_neg hc2).symm.trans hr
      refine lv_iload_n F.1 F.2.1 dX11_could_10 rfl (lv_at hl 2 rfl) ?_
      refine lv_if_lt (tgt := 19) F.1 F.2.1 dX11_could_11 (by decide) (fun hc3 => ?_) (fun hc3 => ?_)
      · replace hr := (if_pos hc3).symm.trans hr
        refine lv_bipush (v := -2) F.1 F.2.1 dX11_could_19 (by decide) ?_
        cases hr
        exact ret_i (o_t_came_chain) F hret hlk hw (Nat.le_refl _) (Nat.le_refl _) dX11_could_21
      · replace hr := (if_neg hc3).symm.trans hr
        refine lv_iload_n F.1 F.2.1 dX11_could_14 rfl (lv_at hl 2 rfl) ?_
        refine lv_iload_n F.1 F.2.1 dX11_could_15 rfl (lv_at hl 1 rfl) ?_
        refine lv_icmp_lt (tgt := 22) F.1 F.2.1 dX11_could_16 (by decide) (fun hc4 => ?_) (fun hc4 => ?_)
        · replace hr := (if_pos hc4).symm.trans hr
          refine lv_aload_n F.1 F.2.1 dX11_could_22 rfl (lv_at hl 0 rfl) ?_
          refine lv_iload_n F.1 F.2.1 dX11_could_23 rfl (lv_at hl 1 rfl) ?_
          obtain ⟨z5, hz5, hr⟩ := Option.bind_eq_some_iff.mp hr
          refine call_o (wr := []) (run_V (As := [.int a1]) (rest := []) F k_X11_247 (c_X11_fit l dd g mv q_t q_t_came q_t_chain q_t_sights q_t_came_could q_t_came_needed q_t_came_neededLater q_t_came_barred q_t_sights_behind q_t_sights_served q_t_sights_door q_t_came_row q_t_came_first o_t_pad o_t_words o_t_images o_t_run o_t_seek o_t_hanging o_t_race o_t_widow o_t_came_chain t_changes t_fewestAt t_hungAt t_cameAt t_fewestPulls t_fewestRow t_came_m t_came_count t_came_isFound t_chain_places t_chain_deep t_chain_turn t_chain_wheel t_chain_leaks t_chain_wants t_sights_count t_came_could t_came_needed t_came_neededLater t_came_barred t_sights_behind t_sights_served t_sights_door t_came_row t_came_first a1 z5 hz5 _) hw [0, 1, 2, 3, 4, 5, 6, 7, 8, 9, 10, 11, 12] (by decide) rfl (ci := 11) rfl rfl rfl rfl hl.1 rfl (Nat.le_of_ble_eq_true rfl) dX11_could_24 ⟨Nat.le_of_ble_eq_true rfl, Nat.le_of_ble_eq_true rfl⟩ ⟨Nat.le_of_ble_eq_true rfl, Nat.le_of_ble_eq_true rfl⟩) hw [0, 1, 2, 3, 4, 5, 6, 7, 8, 9, 10, 11, 12] [] rfl rfl (by decide) (by decide) (fun u6 H locs hw => ?_)
          replace hw : Wd dd g mv A s H locs (w_X11_could g q_t q_t_came q_t_chain q_t_sights q_t_came_could q_t_came_needed q_t_came_neededLater q_t_came_barred q_t_sights_behind q_t_sights_served q_t_sights_door q_t_came_row q_t_came_first o_t_pad o_t_words o_t_images o_t_run o_t_seek o_t_hanging o_t_race o_t_widow u6 t_changes t_fewestAt t_hungAt z5.1 t_fewestPulls t_fewestRow z5.2.1 z5.2.2.1 z5.2.2.2.1 t_chain_places t_chain_deep t_chain_turn t_chain_wheel t_chain_leaks t_chain_wants t_sights_count z5.2.2.2.2.1 z5.2.2.2.2.2.1 z5.2.2.2.2.2.2.1 z5.2.2.2.2.2.2.2.1 t_sights_behind t_sights_served t_sights_door z5.2.2.2.2.2.2.2.2.1 z5.2.2.2.2.2.2.2.2.2) := hw.sub [0, 1, 2, 3, 4, 5, 6, 7, 8, 9, 10, 11, 12] (by decide) rfl
          refine lv_aload_n F.1 F.2.1 dX11_could_27 rfl (lv_at hl 0 rfl) ?_
          refine gf_X11_82 F hw 0 rfl rfl dX11_could_28 ?_
          refine gf_X11_250 F hw 1 rfl rfl dX11_could_31 ?_
          refine lv_if_ne (tgt := 42) F.1 F.2.1 dX11_could_34 (by decide) (fun hc7 => ?_) (fun hc7 => ?_)
          · replace hr := (if_neg hc7).symm.trans hr
            refine lv_aload_n F.1 F.2.1 dX11_could_42 rfl (lv_at hl 0 rfl) ?_
            refine gf_X11_82 F hw 0 rfl rfl dX11_could_43 ?_
            refine gf_X11_254 F hw 1 rfl rfl dX11_could_46 ?_
            refine lv_iload_n F.1 F.2.1 dX11_could_49 rfl (lv_at hl 2 rfl) ?_
            obtain ⟨hg8, hr⟩ := g_no hr
            refine ar_i F hw 4 rfl hg8 dX11_could_50 ?_
            cases hr
            exact ret_i (u6) F hret hlk hw (Nat.le_refl _) (Nat.le_refl _) dX11_could_51
          · replace hr := (if_pos hc7).symm.trans hr
            refine lv_bipush (v := -6) F.1 F.2.1 dX11_could_37 (by decide) ?_
            refine lv_goto (tgt := 51) F.1 F.2.1 dX11_could_39 (by decide) ?_
            cases hr
            exact ret_i (u6) F hret hlk hw (Nat.le_refl _) (Nat.le_refl _) dX11_could_51
        · replace hr := (if_neg hc4).symm.trans hr
          refine lv_bipush (v := -2) F.1 F.2.1 dX11_could_19 (by decide) ?_
          cases hr
          exact ret_i (o_t_came_chain) F hret hlk hw (Nat.le_refl _) (Nat.le_refl _) dX11_could_21
set_option maxHeartbeats 4000000 in
set_option maxRecDepth 100000 in
theorem b_X11_day_86 {q_t q_t_run q_t_chain q_t_run_when : Nat} {z : Int32 × Int64 × Int64 × Int32 × Int32 × Int32 × Int32 × Int32 × Int32 × (Nat → Int32)} (F : Fx p m c cX11_day 6 s args RX11) (hret : meth.sig.returnType = some .int) (hlk : meth.locks = false) {k51 : Int32 → Int32 → Int32 → Int32 → Int64 → Int64 → Int32 → Int32 → Int32 → Int32 → Int32 → Int32 → Int32 → Int32 → Int64 → (Nat → Int32) → Option (Int32 × Int64 × Int64 × Int32 × Int32 × Int32 × Int32 × Int32 × Int32 × (Nat → Int32))} (hk51 : ∀ {x2 : Int32} {x3 : Int32} {x4 : Int32} {x5 : Int32} {t_run_wheel : Int64} {t_run_leaks : Int64} {t_run_turn : Int32} {t_run_pulls : Int32} {t_run_drawn : Int32} {t_run_leaked : Int32} {t_run_drunk : Int32} {t_run_servings : Int32} {t_chain_places : Int32} {t_chain_deep : Int32} {t_chain_wants : Int64} {t_run_when : Nat → Int32} {t_changes : Int32} {t_fewestAt : Int32} {t_hungAt : Int32} {t_cameAt : Int32} {t_fewestPulls : Int32} {t_fewestRow : Int32} {t_chain_turn : Int32} {t_chain_wheel : Int64} {t_chain_leaks : Int64} {o_t_pad : Value} {o_t_words : Value} {o_t_sights : Value} {o_t_images : Value} {o_t_seek : Value} {o_t_hanging : Value} {o_t_race : Value} {o_t_widow : Value} {o_t_came : Value} {H : Heap} {locs : List Loc} {ls : Array Slot}, k51 x2 x3 x4 x5 t_run_wheel t_run_leaks t_run_turn t_run_pulls t_run_drawn t_run_leaked t_run_drunk t_run_servings t_chain_places t_chain_deep t_chain_wants t_run_when = some z → Wd dd g mv A s H locs (w_X11_day g q_t q_t_run q_t_chain q_t_run_when o_t_pad o_t_words o_t_sights o_t_images o_t_seek o_t_hanging o_t_race o_t_widow o_t_came ((.ref q_t_chain)) t_changes t_fewestAt t_hungAt t_cameAt t_fewestPulls t_fewestRow t_run_wheel t_run_leaks t_run_turn t_run_pulls t_run_drawn t_run_leaked t_run_drunk t_run_servings t_chain_places t_chain_deep t_chain_turn t_chain_wheel t_chain_leaks t_chain_wants t_run_when) → lv_has ls 6 [(0, .ref q_t), (2, .int x2), (3, .int x3), (4, .int x4), (5, .int x5)] → W p l e (rmH (3) 0 0) s m args below meth c H locs 0 0 (MQ below (Qo dd g (some (.int z.1)) (fun u : Value => (w_X11_day g q_t q_t_run q_t_chain q_t_run_when o_t_pad o_t_words o_t_sights o_t_images o_t_seek o_t_hanging o_t_race o_t_widow o_t_came u t_changes t_fewestAt t_hungAt t_cameAt t_fewestPulls t_fewestRow z.2.1 z.2.2.1 z.2.2.2.1 z.2.2.2.2.1 z.2.2.2.2.2.1 z.2.2.2.2.2.2.1 z.2.2.2.2.2.2.2.1 z.2.2.2.2.2.2.2.2.1 t_chain_places t_chain_deep t_chain_turn t_chain_wheel t_chain_leaks t_chain_wants z.2.2.2.2.2.2.2.2.2)) A) args s 0 0 A) (F0 m 51 ls [])) : ∀ {x2 : Int32} {x3 : Int32} {x4 : Int32} {x5 : Int32} {t_run_wheel : Int64} {t_run_leaks : Int64} {t_run_turn : Int32} {t_run_pulls : Int32} {t_run_drawn : Int32} {t_run_leaked : Int32} {t_run_drunk : Int32} {t_run_servings : Int32} {t_chain_places : Int32} {t_chain_deep : Int32} {t_chain_wants : Int64} {t_run_when : Nat → Int32} {t_changes : Int32} {t_fewestAt : Int32} {t_hungAt : Int32} {t_cameAt : Int32} {t_fewestPulls : Int32} {t_fewestRow : Int32} {t_chain_turn : Int32} {t_chain_wheel : Int64} {t_chain_leaks : Int64} {o_t_pad : Value} {o_t_words : Value} {o_t_sights : Value} {o_t_images : Value} {o_t_seek : Value} {o_t_hanging : Value} {o_t_race : Value} {o_t_widow : Value} {o_t_came : Value} {H : Heap} {locs : List Loc} {ls : Array Slot}, f_X11_day_86 k51 x2 x3 x4 x5 t_run_wheel t_run_leaks t_run_turn t_run_pulls t_run_drawn t_run_leaked t_run_drunk t_run_servings t_chain_places t_chain_deep t_chain_wants t_run_when = some z → Wd dd g mv A s H locs (w_X11_day g q_t q_t_run q_t_chain q_t_run_when o_t_pad o_t_words o_t_sights o_t_images o_t_seek o_t_hanging o_t_race o_t_widow o_t_came ((.ref q_t_chain)) t_changes t_fewestAt t_hungAt t_cameAt t_fewestPulls t_fewestRow t_run_wheel t_run_leaks t_run_turn t_run_pulls t_run_drawn t_run_leaked t_run_drunk t_run_servings t_chain_places t_chain_deep t_chain_turn t_chain_wheel t_chain_leaks t_chain_wants t_run_when) → lv_has ls 6 [(0, .ref q_t), (2, .int x2), (3, .int x3), (4, .int x4), (5, .int x5)] → W p l e (rmH (3) 0 0) s m args below meth c H locs 0 0 (MQ below (Qo dd g (some (.int z.1)) (fun u : Value => (w_X11_day g q_t q_t_run q_t_chain q_t_run_when o_t_pad o_t_words o_t_sights o_t_images o_t_seek o_t_hanging o_t_race o_t_widow o_t_came u t_changes t_fewestAt t_hungAt t_cameAt t_fewestPulls t_fewestRow z.2.1 z.2.2.1 z.2.2.2.1 z.2.2.2.2.1 z.2.2.2.2.2.1 z.2.2.2.2.2.2.1 z.2.2.2.2.2.2.2.1 z.2.2.2.2.2.2.2.2.1 t_chain_places t_chain_deep t_chain_turn t_chain_wheel t_chain_leaks t_chain_wants z.2.2.2.2.2.2.2.2.2)) A) args s 0 0 A) (F0 m 86 ls []) := by
  intro x2 x3 x4 x5 t_run_wheel t_run_leaks t_run_turn t_run_pulls t_run_drawn t_run_leaked t_run_drunk t_run_servings t_chain_places t_chain_deep t_chain_wants t_run_when t_changes t_fewestAt t_hungAt t_cameAt t_fewestPulls t_fewestRow t_chain_turn t_chain_wheel t_chain_leaks o_t_pad o_t_words o_t_sights o_t_images o_t_seek o_t_hanging o_t_race o_t_widow o_t_came H locs ls hr hw hl
  refine lv_aload_n F.1 F.2.1 dX11_day_86 rfl (lv_at hl 0 rfl) ?_
  refine gf_X11_47 F hw 0 rfl rfl dX11_day_87 ?_
  refine gs_o F fl_X11_199 hw dX11_day_90 ?_
  refine lv_iload F.1 F.2.1 dX11_day_93 (lv_at hl 3 rfl) ?_
  refine lv_iconst (v := 3) F.1 F.2.1 dX11_day_95 (by decide) ?_
  refine lv_irem F.1 F.2.1 dX11_day_96 (by decide) ?_
  obtain ⟨hg1, hr⟩ := g_no hr
  refine ar_m F hw hg1 dX11_day_97 ?_
  obtain ⟨z2, hz2, hr⟩ := Option.bind_eq_some_iff.mp hr
  refine call_o (wr := [(q_t, .inr (11, [o_t_pad, .ref q_t_chain, o_t_words, o_t_sights, o_t_images, .ref q_t_run, o_t_seek, o_t_hanging, o_t_race, o_t_widow, o_t_came, .int t_changes, .int t_fewestAt, .int t_hungAt, .int t_cameAt, .int t_fewestPulls, .int t_fewestRow]))]) (run_V (As := [.int (mvI ((x4 - x4 / (3 : Int32) * (3 : Int32))).toNatClampNeg)]) (rest := []) F k_X11_265 (c_X6_move l dd g mv q_t_run q_t_chain q_t_run_when t_run_wheel t_run_leaks t_run_turn t_run_pulls t_run_drawn t_run_leaked t_run_drunk t_run_servings t_chain_places t_chain_deep t_chain_turn t_chain_wheel t_chain_leaks t_chain_wants t_run_when ((mvI ((x4 - x4 / (3 : Int32) * (3 : Int32))).toNatClampNeg)) z2 hz2 _) hw [1, 2, 3] (by decide) rfl (ci := 6) rfl rfl rfl rfl hl.1 rfl (Nat.le_of_ble_eq_true rfl) dX11_day_98 ⟨Nat.le_of_ble_eq_true rfl, Nat.le_of_ble_eq_true rfl⟩ ⟨Nat.le_of_ble_eq_true rfl, Nat.le_of_ble_eq_true rfl⟩) hw [1, 2, 3] [0] rfl rfl (by decide) (by decide) (fun u3 H locs hw => ?_)
  replace hw : Wd dd g mv A s H locs (w_X11_day g q_t q_t_run q_t_chain q_t_run_when o_t_pad o_t_words o_t_sights o_t_images o_t_seek o_t_hanging o_t_race o_t_widow o_t_came ((.ref q_t_chain)) t_changes t_fewestAt t_hungAt t_cameAt t_fewestPulls t_fewestRow z2.1 z2.2.1 z2.2.2.1 z2.2.2.2.1 z2.2.2.2.2.1 z2.2.2.2.2.2.1 z2.2.2.2.2.2.2.1 z2.2.2.2.2.2.2.2.1 t_chain_places t_chain_deep t_chain_turn t_chain_wheel t_chain_leaks t_chain_wants z2.2.2.2.2.2.2.2.2) := hw.sub [0, 1, 2, 3] (by decide) rfl
  refine lv_iinc (v := (x5 + 1)) (lv' := [(5, .int (x5 + 1)), (0, .ref q_t), (2, .int x2), (3, .int x3), (4, .int x4)]) F.1 F.2.1 dX11_day_101 hl (k := 4) rfl rfl (by decide) rfl (fun ls hl => ?_)
  refine lv_goto (tgt := 51) F.1 F.2.1 dX11_day_104 (by decide) ?_
  exact hk51 hr hw (lv_sub hl [1, 2, 3, 4, 0] rfl)
set_option maxHeartbeats 4000000 in
set_option maxRecDepth 100000 in
theorem b_X11_day_51 {q_t q_t_run q_t_chain q_t_run_when : Nat} {z : Int32 × Int64 × Int64 × Int32 × Int32 × Int32 × Int32 × Int32 × Int32 × (Nat → Int32)} (F : Fx p m c cX11_day 6 s args RX11) (hret : meth.sig.returnType = some .int) (hlk : meth.locks = false) : ∀ (n : Nat), ∀ {x2 : Int32} {x3 : Int32} {x4 : Int32} {x5 : Int32} {t_run_wheel : Int64} {t_run_leaks : Int64} {t_run_turn : Int32} {t_run_pulls : Int32} {t_run_drawn : Int32} {t_run_leaked : Int32} {t_run_drunk : Int32} {t_run_servings : Int32} {t_chain_places : Int32} {t_chain_deep : Int32} {t_chain_wants : Int64} {t_run_when : Nat → Int32} {t_changes : Int32} {t_fewestAt : Int32} {t_hungAt : Int32} {t_cameAt : Int32} {t_fewestPulls : Int32} {t_fewestRow : Int32} {t_chain_turn : Int32} {t_chain_wheel : Int64} {t_chain_leaks : Int64} {o_t_pad : Value} {o_t_words : Value} {o_t_sights : Value} {o_t_images : Value} {o_t_seek : Value} {o_t_hanging : Value} {o_t_race : Value} {o_t_widow : Value} {o_t_came : Value} {H : Heap} {locs : List Loc} {ls : Array Slot}, f_X11_day_51  n x2 x3 x4 x5 t_run_wheel t_run_leaks t_run_turn t_run_pulls t_run_drawn t_run_leaked t_run_drunk t_run_servings t_chain_places t_chain_deep t_chain_wants t_run_when = some z → Wd dd g mv A s H locs (w_X11_day g q_t q_t_run q_t_chain q_t_run_when o_t_pad o_t_words o_t_sights o_t_images o_t_seek o_t_hanging o_t_race o_t_widow o_t_came ((.ref q_t_chain)) t_changes t_fewestAt t_hungAt t_cameAt t_fewestPulls t_fewestRow t_run_wheel t_run_leaks t_run_turn t_run_pulls t_run_drawn t_run_leaked t_run_drunk t_run_servings t_chain_places t_chain_deep t_chain_turn t_chain_wheel t_chain_leaks t_chain_wants t_run_when) → lv_has ls 6 [(0, .ref q_t), (2, .int x2), (3, .int x3), (4, .int x4), (5, .int x5)] → W p l e (rmH (3) 0 0) s m args below meth c H locs 0 0 (MQ below (Qo dd g (some (.int z.1)) (fun u : Value => (w_X11_day g q_t q_t_run q_t_chain q_t_run_when o_t_pad o_t_words o_t_sights o_t_images o_t_seek o_t_hanging o_t_race o_t_widow o_t_came u t_changes t_fewestAt t_hungAt t_cameAt t_fewestPulls t_fewestRow z.2.1 z.2.2.1 z.2.2.2.1 z.2.2.2.2.1 z.2.2.2.2.2.1 z.2.2.2.2.2.2.1 z.2.2.2.2.2.2.2.1 z.2.2.2.2.2.2.2.2.1 t_chain_places t_chain_deep t_chain_turn t_chain_wheel t_chain_leaks t_chain_wants z.2.2.2.2.2.2.2.2.2)) A) args s 0 0 A) (F0 m 51 ls []) := by
  intro n
  induction n with
  | zero =>
    intros
    rename_i hr _ _
    cases hr
  | succ n ih =>
    intro x2 x3 x4 x5 t_run_wheel t_run_leaks t_run_turn t_run_pulls t_run_drawn t_run_leaked t_run_drunk t_run_servings t_chain_places t_chain_deep t_chain_wants t_run_when t_changes t_fewestAt t_hungAt t_cameAt t_fewestPulls t_fewestRow t_chain_turn t_chain_wheel t_chain_leaks o_t_pad o_t_words o_t_sights o_t_images o_t_seek o_t_hanging o_t_race o_t_widow o_t_came H locs ls hr hw hl
    refine lv_iload F.1 F.2.1 dX11_day_51 (lv_at hl 4 rfl) ?_
    refine lv_iload_n F.1 F.2.1 dX11_day_53 rfl (lv_at hl 1 rfl) ?_
    refine lv_icmp_ge (tgt := 107) F.1 F.2.1 dX11_day_54 (by decide) (fun hc4 => ?_) (fun hc4 => ?_)
    · replace hr := (if_pos hc4).symm.trans hr
      refine lv_iload_n F.1 F.2.1 dX11_day_107 rfl (lv_at hl 2 rfl) ?_
      refine lv_if_ne (tgt := 121) F.1 F.2.1 dX11_day_108 (by decide) (fun hc5 => ?_) (fun hc5 => ?_)
      · replace hr := (if_neg hc5).symm.trans hr
        refine lv_aload_n F.1 F.2.1 dX11_day_121 rfl (lv_at hl 0 rfl) ?_
        refine gf_X11_47 F hw 0 rfl rfl dX11_day_122 ?_
        refine gf_X11_174 F hw 1 rfl rfl dX11_day_125 ?_
        cases hr
        exact ret_i ((.ref q_t_chain)) F hret hlk hw (Nat.le_refl _) (Nat.le_refl _) dX11_day_128
      · replace hr := (if_pos hc5).symm.trans hr
        refine lv_aload_n F.1 F.2.1 dX11_day_111 rfl (lv_at hl 0 rfl) ?_
        refine gf_X11_47 F hw 0 rfl rfl dX11_day_112 ?_
        refine gf_X11_268 F hw 1 rfl rfl dX11_day_115 ?_
        refine lv_goto (tgt := 128) F.1 F.2.1 dX11_day_118 (by decide) ?_
        cases hr
        exact ret_i ((.ref q_t_chain)) F hret hlk hw (Nat.le_refl _) (Nat.le_refl _) dX11_day_128
    · replace hr := (if_neg hc4).symm.trans hr
      refine lv_bipush (v := 75) F.1 F.2.1 dX11_day_57 (by decide) ?_
      refine lv_iload F.1 F.2.1 dX11_day_59 (lv_at hl 3 rfl) ?_
      refine lv_imul F.1 F.2.1 dX11_day_61 ?_
      refine lv_bipush (v := 74) F.1 F.2.1 dX11_day_62 (by decide) ?_
      refine lv_iadd F.1 F.2.1 dX11_day_64 ?_
      refine lv_ldcw F.1 F.2.1 F.2.2.2.1 (F.2.2.2.2 _ cl_X11_261) dX11_day_65 ?_
      refine lv_irem F.1 F.2.1 dX11_day_68 (by decide) ?_
      refine lv_istore (lv' := [(4, .int ((((75 : Int32) * x4) + (74 : Int32)) - (((75 : Int32) * x4) + (74 : Int32)) / (65537 : Int32) * (65537 : Int32))), (0, .ref q_t), (2, .int x2), (3, .int x3), (5, .int x5)]) F.1 F.2.1 dX11_day_69 hl (by decide) rfl (fun ls hl => ?_)
      refine lv_iload F.1 F.2.1 dX11_day_71 (lv_at hl 0 rfl) ?_
      refine lv_bipush (v := 7) F.1 F.2.1 dX11_day_73 (by decide) ?_
      refine lv_irem F.1 F.2.1 dX11_day_75 (by decide) ?_
      refine lv_if_ne (tgt := 86) F.1 F.2.1 dX11_day_76 (by decide) (fun hc6 => ?_) (fun hc6 => ?_)
      · replace hr := (if_neg hc6).symm.trans hr
        exact b_X11_day_86 F hret hlk (ih) hr hw (lv_sub hl [1, 2, 3, 0, 4] rfl)
      · replace hr := (if_pos hc6).symm.trans hr
        refine lv_aload_n F.1 F.2.1 dX11_day_79 rfl (lv_at hl 1 rfl) ?_
        refine gf_X11_47 F hw 0 rfl rfl dX11_day_80 ?_
        obtain ⟨z7, hz7, hr⟩ := Option.bind_eq_some_iff.mp hr
        refine call_o (wr := [(q_t, .inr (11, [o_t_pad, .ref q_t_chain, o_t_words, o_t_sights, o_t_images, .ref q_t_run, o_t_seek, o_t_hanging, o_t_race, o_t_widow, o_t_came, .int t_changes, .int t_fewestAt, .int t_hungAt, .int t_cameAt, .int t_fewestPulls, .int t_fewestRow])), (q_t_run_when, .inl (g 0, 9, .inl t_run_when))]) (run_V (As := []) (rest := []) F k_X11_262 (c_X6_wantAnew l dd g mv q_t_run q_t_chain ((.ref q_t_run_when)) t_run_wheel t_run_leaks t_run_turn t_run_pulls t_run_drawn t_run_leaked t_run_drunk t_run_servings t_chain_places t_chain_deep t_chain_turn t_chain_wheel t_chain_leaks t_chain_wants z7 hz7 _) hw [1, 2] (by decide) rfl (ci := 6) rfl rfl rfl rfl hl.1 rfl (Nat.le_of_ble_eq_true rfl) dX11_day_83 ⟨Nat.le_of_ble_eq_true rfl, Nat.le_of_ble_eq_true rfl⟩ ⟨Nat.le_of_ble_eq_true rfl, Nat.le_of_ble_eq_true rfl⟩) hw [1, 2] [0, 3] rfl rfl (by decide) (by decide) (fun u8 H locs hw => ?_)
        replace hw : Wd dd g mv A s H locs (w_X11_day g q_t q_t_run q_t_chain q_t_run_when o_t_pad o_t_words o_t_sights o_t_images o_t_seek o_t_hanging o_t_race o_t_widow o_t_came ((.ref q_t_chain)) t_changes t_fewestAt t_hungAt t_cameAt t_fewestPulls t_fewestRow z7 t_run_leaks t_run_turn t_run_pulls t_run_drawn t_run_leaked t_run_drunk t_run_servings t_chain_places t_chain_deep t_chain_turn t_chain_wheel t_chain_leaks t_chain_wants t_run_when) := hw.sub [0, 2, 3, 1] (by decide) rfl
        exact b_X11_day_86 F hret hlk (ih) hr hw (lv_sub hl [1, 2, 3, 0, 4] rfl)
set_option maxHeartbeats 4000000 in
set_option maxRecDepth 100000 in
theorem c_X11_day (l : Launch) (dd : va_G) (g : Nat → ClassId) (mv : Nat) (q_t : Nat) (q_t_run : Nat) (q_t_chain : Nat) (q_t_run_when : Nat) (o_t_pad : Value) (o_t_words : Value) (o_t_sights : Value) (o_t_images : Value) (o_t_seek : Value) (o_t_hanging : Value) (o_t_race : Value) (o_t_widow : Value) (o_t_came : Value) (o_t_run_chain : Value) (t_changes : Int32) (t_fewestAt : Int32) (t_hungAt : Int32) (t_cameAt : Int32) (t_fewestPulls : Int32) (t_fewestRow : Int32) (t_run_wheel : Int64) (t_run_leaks : Int64) (t_run_turn : Int32) (t_run_pulls : Int32) (t_run_drawn : Int32) (t_run_leaked : Int32) (t_run_drunk : Int32) (t_run_servings : Int32) (t_chain_places : Int32) (t_chain_deep : Int32) (t_chain_turn : Int32) (t_chain_wheel : Int64) (t_chain_leaks : Int64) (t_chain_wants : Int64) (t_run_when : Nat → Int32) (a1 : Int32) (a2 : Int32) (a3 : Int32) (z : Int32 × Int64 × Int64 × Int32 × Int32 × Int32 × Int32 × Int32 × Int32 × (Nat → Int32)) (hr : f_X11_day t_run_wheel t_run_leaks t_run_turn t_run_pulls t_run_drawn t_run_leaked t_run_drunk t_run_servings t_chain_places t_chain_deep t_chain_turn t_chain_wheel t_chain_leaks t_chain_wants t_run_when a1 a2 a3 = some z) (sz : Nat) : Met l yX11_day (.code yX11_day cX11_day 6 (some .int) :: WS) (rmH 3 0 0) (va_Pc [.ref q_t, .int a1, .int a2, .int a3] (PW dd g mv (w_X11_day g q_t q_t_run q_t_chain q_t_run_when o_t_pad o_t_words o_t_sights o_t_images o_t_seek o_t_hanging o_t_race o_t_widow o_t_came o_t_run_chain t_changes t_fewestAt t_hungAt t_cameAt t_fewestPulls t_fewestRow t_run_wheel t_run_leaks t_run_turn t_run_pulls t_run_drawn t_run_leaked t_run_drunk t_run_servings t_chain_places t_chain_deep t_chain_turn t_chain_wheel t_chain_leaks t_chain_wants t_run_when) sz)) (Qo dd g (some (.int z.1)) (fun u : Value => (w_X11_day g q_t q_t_run q_t_chain q_t_run_when o_t_pad o_t_words o_t_sights o_t_images o_t_seek o_t_hanging o_t_race o_t_widow o_t_came u t_changes t_fewestAt t_hungAt t_cameAt t_fewestPulls t_fewestRow z.2.1 z.2.2.1 z.2.2.2.1 z.2.2.2.2.1 z.2.2.2.2.2.1 z.2.2.2.2.2.2.1 z.2.2.2.2.2.2.2.1 z.2.2.2.2.2.2.2.2.1 t_chain_places t_chain_deep t_chain_turn t_chain_wheel t_chain_leaks t_chain_wants z.2.2.2.2.2.2.2.2.2)) (va_A (w_X11_day g q_t q_t_run q_t_chain q_t_run_when o_t_pad o_t_words o_t_sights o_t_images o_t_seek o_t_hanging o_t_race o_t_widow o_t_came o_t_run_chain t_changes t_fewestAt t_hungAt t_cameAt t_fewestPulls t_fewestRow t_run_wheel t_run_leaks t_run_turn t_run_pulls t_run_drawn t_run_leaked t_run_drunk t_run_servings t_chain_places t_chain_deep t_chain_turn t_chain_wheel t_chain_leaks t_chain_wants t_run_when) sz)) 0 0 (va_A (w_X11_day g q_t q_t_run q_t_chain q_t_run_when o_t_pad o_t_words o_t_sights o_t_images o_t_seek o_t_hanging o_t_race o_t_widow o_t_came o_t_run_chain t_changes t_fewestAt t_hungAt t_cameAt t_fewestPulls t_fewestRow t_run_wheel t_run_leaks t_run_turn t_run_pulls t_run_drawn t_run_leaked t_run_drunk t_run_servings t_chain_places t_chain_deep t_chain_turn t_chain_wheel t_chain_leaks t_chain_wants t_run_when) sz) := by
  refine Met_intro (by decide) (Nat.le_of_ble_eq_true rfl) ?_
  intro p e s m below meth c A ls F hret hlk hin hw hl
  replace hl : lv_has ls 6 [(0, .ref q_t), (1, .int a1), (2, .int a2), (3, .int a3)] := hl
  refine lv_iload_n F.1 F.2.1 dX11_day_0 rfl (lv_at hl 1 rfl) ?_
  refine lv_if_lt (tgt := 31) F.1 F.2.1 dX11_day_1 (by decide) (fun hc9 => ?_) (fun hc9 => ?_)
  · replace hr := (if_pos hc9).symm.trans hr
    refine lv_bipush (v := -2) F.1 F.2.1 dX11_day_31 (by decide) ?_
    cases hr
    exact ret_i (o_t_run_chain) F hret hlk hw (Nat.le_refl _) (Nat.le_refl _) dX11_day_33
  · replace hr := (if_neg hc9).symm.trans hr
    refine lv_iload_n F.1 F.2.1 dX11_day_4 rfl (lv_at hl 1 rfl) ?_
    refine lv_sipush (v := 9999) F.1 F.2.1 dX11_day_5 (by decide) ?_
    refine lv_icmp_gt (tgt := 31) F.1 F.2.1 dX11_day_8 (by decide) (fun hc10 => ?_) (fun hc10 => ?_)
    · replace hr := (if_pos hc10).symm.trans hr
      refine lv_bipush (v := -2) F.1 F.2.1 dX11_day_31 (by decide) ?_
      cases hr
      exact ret_i (o_t_run_chain) F hret hlk hw (Nat.le_refl _) (Nat.le_refl _) dX11_day_33
    · replace hr := (if_neg hc10).symm.trans hr
      refine lv_iload_n F.1 F.2.1 dX11_day_11 rfl (lv_at hl 2 rfl) ?_
      refine lv_iconst (v := 1) F.1 F.2.1 dX11_day_12 (by decide) ?_
      refine lv_icmp_lt (tgt := 31) F.1 F.2.1 dX11_day_13 (by decide) (fun hc11 => ?_) (fun hc11 => ?_)
      · replace hr := (if_pos hc11).symm.trans hr
        refine lv_bipush (v := -2) F.1 F.2.1 dX11_day_31 (by decide) ?_
        cases hr
        exact ret_i (o_t_run_chain) F hret hlk hw (Nat.le_refl _) (Nat.le_refl _) dX11_day_33
      · replace hr := (if_neg hc11).symm.trans hr
        refine lv_iload_n F.1 F.2.1 dX11_day_16 rfl (lv_at hl 2 rfl) ?_
        refine lv_bipush (v := 99) F.1 F.2.1 dX11_day_17 (by decide) ?_
        refine lv_icmp_gt (tgt := 31) F.1 F.2.1 dX11_day_19 (by decide) (fun hc12 => ?_) (fun hc12 => ?_)
        · replace hr := (if_pos hc12).symm.trans hr
          refine lv_bipush (v := -2) F.1 F.2.1 dX11_day_31 (by decide) ?_
          cases hr
          exact ret_i (o_t_run_chain) F hret hlk hw (Nat.le_refl _) (Nat.le_refl _) dX11_day_33
        · replace hr := (if_neg hc12).symm.trans hr
          refine lv_iload_n F.1 F.2.1 dX11_day_22 rfl (lv_at hl 3 rfl) ?_
          refine lv_if_lt (tgt := 31) F.1 F.2.1 dX11_day_23 (by decide) (fun hc13 => ?_) (fun hc13 => ?_)
          · replace hr := (if_pos hc13).symm.trans hr
            refine lv_bipush (v := -2) F.1 F.2.1 dX11_day_31 (by decide) ?_
            cases hr
            exact ret_i (o_t_run_chain) F hret hlk hw (Nat.le_refl _) (Nat.le_refl _) dX11_day_33
          · replace hr := (if_neg hc13).symm.trans hr
            refine lv_iload_n F.1 F.2.1 dX11_day_26 rfl (lv_at hl 3 rfl) ?_
            refine lv_iconst (v := 1) F.1 F.2.1 dX11_day_27 (by decide) ?_
            refine lv_icmp_le (tgt := 34) F.1 F.2.1 dX11_day_28 (by decide) (fun hc14 => ?_) (fun hc14 => ?_)
            · replace hr := (if_pos hc14).symm.trans hr
              refine lv_iload_n F.1 F.2.1 dX11_day_34 rfl (lv_at hl 1 rfl) ?_
              refine lv_istore (lv' := [(4, .int a1), (0, .ref q_t), (1, .int a1), (2, .int a2), (3, .int a3)]) F.1 F.2.1 dX11_day_35 hl (by decide) rfl (fun ls hl => ?_)
              refine lv_aload_n F.1 F.2.1 dX11_day_37 rfl (lv_at hl 1 rfl) ?_
              refine gf_X11_47 F hw 0 rfl rfl dX11_day_38 ?_
              refine lv_aload_n F.1 F.2.1 dX11_day_41 rfl (lv_at hl 1 rfl) ?_
              refine gf_X11_19 F hw 0 rfl rfl dX11_day_42 ?_
              obtain ⟨z15, hz15, hr⟩ := Option.bind_eq_some_iff.mp hr
              refine call_o (wr := [(q_t, .inr (11, [o_t_pad, .ref q_t_chain, o_t_words, o_t_sights, o_t_images, .ref q_t_run, o_t_seek, o_t_hanging, o_t_race, o_t_widow, o_t_came, .int t_changes, .int t_fewestAt, .int t_hungAt, .int t_cameAt, .int t_fewestPulls, .int t_fewestRow]))]) (run_V (As := [.ref q_t_chain]) (rest := []) F k_X11_257 (c_X6_begin l dd g mv q_t_run q_t_chain q_t_run_when o_t_run_chain t_run_wheel t_run_leaks t_run_turn t_run_pulls t_run_drawn t_run_leaked t_run_drunk t_run_servings t_chain_places t_chain_deep t_chain_turn t_chain_wheel t_chain_leaks t_chain_wants t_run_when z15 hz15 _) hw [1, 2, 3] (by decide) rfl (ci := 6) rfl rfl rfl rfl hl.1 rfl (Nat.le_of_ble_eq_true rfl) dX11_day_45 ⟨Nat.le_of_ble_eq_true rfl, Nat.le_of_ble_eq_true rfl⟩ ⟨Nat.le_of_ble_eq_true rfl, Nat.le_of_ble_eq_true rfl⟩) hw [1, 2, 3] [0] rfl rfl (by decide) (by decide) (fun u16 H locs hw => ?_)
              replace hw : Wd dd g mv A s H locs (w_X11_day g q_t q_t_run q_t_chain q_t_run_when o_t_pad o_t_words o_t_sights o_t_images o_t_seek o_t_hanging o_t_race o_t_widow o_t_came ((.ref q_t_chain)) t_changes t_fewestAt t_hungAt t_cameAt t_fewestPulls t_fewestRow z15.1 z15.2.1 z15.2.2.1 z15.2.2.2.1 z15.2.2.2.2.1 z15.2.2.2.2.2.1 z15.2.2.2.2.2.2.1 z15.2.2.2.2.2.2.2.1 t_chain_places t_chain_deep t_chain_turn t_chain_wheel t_chain_leaks t_chain_wants z15.2.2.2.2.2.2.2.2) := hw.sub [0, 1, 2, 3] (by decide) rfl
              refine lv_iconst (v := 0) F.1 F.2.1 dX11_day_48 (by decide) ?_
              refine lv_istore (lv' := [(5, .int (0 : Int32)), (4, .int a1), (0, .ref q_t), (1, .int a1), (2, .int a2), (3, .int a3)]) F.1 F.2.1 dX11_day_49 hl (by decide) rfl (fun ls hl => ?_)
              exact b_X11_day_51 F hret hlk  fuel hr hw (lv_sub hl [2, 4, 5, 1, 0] rfl)
            · replace hr := (if_neg hc14).symm.trans hr
              refine lv_bipush (v := -2) F.1 F.2.1 dX11_day_31 (by decide) ?_
              cases hr
              exact ret_i (o_t_run_chain) F hret hlk hw (Nat.le_refl _) (Nat.le_refl _) dX11_day_33
set_option maxHeartbeats 4000000 in
set_option maxRecDepth 100000 in
theorem c_X11_toldOfEach (l : Launch) (dd : va_G) (g : Nat → ClassId) (mv : Nat) (q_t : Nat) (q_t_chain : Nat) (o_t_pad : Value) (o_t_words : Value) (o_t_sights : Value) (o_t_images : Value) (o_t_run : Value) (o_t_seek : Value) (o_t_hanging : Value) (o_t_race : Value) (o_t_widow : Value) (o_t_came : Value) (t_changes : Int32) (t_fewestAt : Int32) (t_hungAt : Int32) (t_cameAt : Int32) (t_fewestPulls : Int32) (t_fewestRow : Int32) (t_chain_places : Int32) (t_chain_deep : Int32) (t_chain_turn : Int32) (t_chain_wheel : Int64) (t_chain_leaks : Int64) (t_chain_wants : Int64) (a1 : Int32) (z : Int32) (hr : f_X11_toldOfEach t_chain_places t_chain_turn t_chain_wheel t_chain_leaks t_chain_wants a1 = some z) (sz : Nat) : Met l yX11_toldOfEach (.code yX11_toldOfEach cX11_toldOfEach 4 (some .int) :: WS) (rmH 1 0 0) (va_Pc [.ref q_t, .int a1] (PW dd g mv (w_X11_toldOfEach g q_t q_t_chain o_t_pad o_t_words o_t_sights o_t_images o_t_run o_t_seek o_t_hanging o_t_race o_t_widow o_t_came t_changes t_fewestAt t_hungAt t_cameAt t_fewestPulls t_fewestRow t_chain_places t_chain_deep t_chain_turn t_chain_wheel t_chain_leaks t_chain_wants) sz)) (Qo dd g (some (.int z)) (fun u : Unit => (w_X11_toldOfEach g q_t q_t_chain o_t_pad o_t_words o_t_sights o_t_images o_t_run o_t_seek o_t_hanging o_t_race o_t_widow o_t_came t_changes t_fewestAt t_hungAt t_cameAt t_fewestPulls t_fewestRow t_chain_places t_chain_deep t_chain_turn t_chain_wheel t_chain_leaks t_chain_wants)) (va_A (w_X11_toldOfEach g q_t q_t_chain o_t_pad o_t_words o_t_sights o_t_images o_t_run o_t_seek o_t_hanging o_t_race o_t_widow o_t_came t_changes t_fewestAt t_hungAt t_cameAt t_fewestPulls t_fewestRow t_chain_places t_chain_deep t_chain_turn t_chain_wheel t_chain_leaks t_chain_wants) sz)) 0 0 (va_A (w_X11_toldOfEach g q_t q_t_chain o_t_pad o_t_words o_t_sights o_t_images o_t_run o_t_seek o_t_hanging o_t_race o_t_widow o_t_came t_changes t_fewestAt t_hungAt t_cameAt t_fewestPulls t_fewestRow t_chain_places t_chain_deep t_chain_turn t_chain_wheel t_chain_leaks t_chain_wants) sz) := by
  refine Met_intro (by decide) (Nat.le_of_ble_eq_true rfl) ?_
  intro p e s m below meth c A ls F hret hlk hin hw hl
  replace hl : lv_has ls 4 [(0, .ref q_t), (1, .int a1)] := hl
  refine lv_iload_n F.1 F.2.1 dX11_toldOfEach_0 rfl (lv_at hl 1 rfl) ?_
  refine lv_bipush (v := 10) F.1 F.2.1 dX11_toldOfEach_1 (by decide) ?_
  refine lv_icmp_lt (tgt := 23) F.1 F.2.1 dX11_toldOfEach_3 (by decide) (fun hc1 => ?_) (fun hc1 => ?_)
  · replace hr := (if_pos hc1).symm.trans hr
    refine lv_bipush (v := -2) F.1 F.2.1 dX11_toldOfEach_23 (by decide) ?_
    cases hr
    exact ret_i () F hret hlk hw (Nat.le_refl _) (Nat.le_refl _) dX11_toldOfEach_25
  · replace hr := (if_neg hc1).symm.trans hr
    refine lv_iload_n F.1 F.2.1 dX11_toldOfEach_6 rfl (lv_at hl 1 rfl) ?_
    refine lv_bipush (v := 49) F.1 F.2.1 dX11_toldOfEach_7 (by decide) ?_
    refine lv_icmp_gt (tgt := 23) F.1 F.2.1 dX11_toldOfEach_9 (by decide) (fun hc2 => ?_) (fun hc2 => ?_)
    · replace hr := (if_pos hc2).symm.trans hr
      refine lv_bipush (v := -2) F.1 F.2.1 dX11_toldOfEach_23 (by decide) ?_
      cases hr
      exact ret_i () F hret hlk hw (Nat.le_refl _) (Nat.le_refl _) dX11_toldOfEach_25
    · replace hr := (if_neg hc2).symm.trans hr
      refine lv_aload_n F.1 F.2.1 dX11_toldOfEach_12 rfl (lv_at hl 0 rfl) ?_
      refine lv_iload_n F.1 F.2.1 dX11_toldOfEach_13 rfl (lv_at hl 1 rfl) ?_
      refine lv_bipush (v := 10) F.1 F.2.1 dX11_toldOfEach_14 (by decide) ?_
      refine lv_irem F.1 F.2.1 dX11_toldOfEach_16 (by decide) ?_
      obtain ⟨z3, hz3, hr⟩ := Option.bind_eq_some_iff.mp hr
      refine call_o (wr := []) (run_V (As := [.int (a1 - a1 / (10 : Int32) * (10 : Int32))]) (rest := []) F k_X11_115 (c_X11_isThere l dd g mv q_t q_t_chain o_t_pad o_t_words o_t_sights o_t_images o_t_run o_t_seek o_t_hanging o_t_race o_t_widow o_t_came t_changes t_fewestAt t_hungAt t_cameAt t_fewestPulls t_fewestRow t_chain_places t_chain_deep t_chain_turn t_chain_wheel t_chain_leaks t_chain_wants ((a1 - a1 / (10 : Int32) * (10 : Int32))) z3 hz3 _) hw [0, 1] (by decide) rfl (ci := 11) rfl rfl rfl rfl hl.1 rfl (Nat.le_of_ble_eq_true rfl) dX11_toldOfEach_17 ⟨Nat.le_of_ble_eq_true rfl, Nat.le_of_ble_eq_true rfl⟩ ⟨Nat.le_of_ble_eq_true rfl, Nat.le_of_ble_eq_true rfl⟩) hw [0, 1] [] rfl rfl (by decide) (by decide) (fun u4 H locs hw => ?_)
      replace hw : Wd dd g mv A s H locs (w_X11_toldOfEach g q_t q_t_chain o_t_pad o_t_words o_t_sights o_t_images o_t_run o_t_seek o_t_hanging o_t_race o_t_widow o_t_came t_changes t_fewestAt t_hungAt t_cameAt t_fewestPulls t_fewestRow t_chain_places t_chain_deep t_chain_turn t_chain_wheel t_chain_leaks t_chain_wants) := hw.sub [0, 1] (by decide) rfl
      refine W.eq (g2 := F0 m 20 ls (.int z3 :: [])) rfl ?_
      refine lv_if_ne (tgt := 26) F.1 F.2.1 dX11_toldOfEach_20 (by decide) (fun hc5 => ?_) (fun hc5 => ?_)
      · replace hr := (if_neg hc5).symm.trans hr
        refine lv_iload_n F.1 F.2.1 dX11_toldOfEach_26 rfl (lv_at hl 1 rfl) ?_
        refine lv_bipush (v := 10) F.1 F.2.1 dX11_toldOfEach_27 (by decide) ?_
        refine lv_irem F.1 F.2.1 dX11_toldOfEach_29 (by decide) ?_
        refine lv_istore_n (lv' := [(2, .int (a1 - a1 / (10 : Int32) * (10 : Int32))), (0, .ref q_t), (1, .int a1)]) F.1 F.2.1 dX11_toldOfEach_30 rfl hl (by decide) rfl (fun ls hl => ?_)
        refine lv_aload_n F.1 F.2.1 dX11_toldOfEach_31 rfl (lv_at hl 1 rfl) ?_
        refine gf_X11_19 F hw 0 rfl rfl dX11_toldOfEach_32 ?_
        refine lv_iload_n F.1 F.2.1 dX11_toldOfEach_35 rfl (lv_at hl 0 rfl) ?_
        refine lv_aload_n F.1 F.2.1 dX11_toldOfEach_36 rfl (lv_at hl 1 rfl) ?_
        refine gf_X11_19 F hw 0 rfl rfl dX11_toldOfEach_37 ?_
        refine gf_X11_122 F hw 1 rfl rfl dX11_toldOfEach_40 ?_
        obtain ⟨z6, hz6, hr⟩ := Option.bind_eq_some_iff.mp hr
        refine call_o (wr := [(q_t, .inr (11, [o_t_pad, .ref q_t_chain, o_t_words, o_t_sights, o_t_images, o_t_run, o_t_seek, o_t_hanging, o_t_race, o_t_widow, o_t_came, .int t_changes, .int t_fewestAt, .int t_hungAt, .int t_cameAt, .int t_fewestPulls, .int t_fewestRow]))]) (run_V (As := [.int (a1 - a1 / (10 : Int32) * (10 : Int32)), .int t_chain_turn]) (rest := []) F k_X11_125 (c_X1_placeOf l dd g mv q_t_chain t_chain_places t_chain_deep t_chain_turn t_chain_wheel t_chain_leaks t_chain_wants ((a1 - a1 / (10 : Int32) * (10 : Int32))) t_chain_turn z6 hz6 _) hw [1] (by decide) rfl (ci := 1) rfl rfl rfl rfl hl.1 rfl (Nat.le_of_ble_eq_true rfl) dX11_toldOfEach_43 ⟨Nat.le_of_ble_eq_true rfl, Nat.le_of_ble_eq_true rfl⟩ ⟨Nat.le_of_ble_eq_true rfl, Nat.le_of_ble_eq_true rfl⟩) hw [1] [0] rfl rfl (by decide) (by decide) (fun u7 H locs hw => ?_)
        replace hw : Wd dd g mv A s H locs (w_X11_toldOfEach g q_t q_t_chain o_t_pad o_t_words o_t_sights o_t_images o_t_run o_t_seek o_t_hanging o_t_race o_t_widow o_t_came t_changes t_fewestAt t_hungAt t_cameAt t_fewestPulls t_fewestRow t_chain_places t_chain_deep t_chain_turn t_chain_wheel t_chain_leaks t_chain_wants) := hw.sub [0, 1] (by decide) rfl
        refine W.eq (g2 := F0 m 46 ls (.int z6 :: [])) rfl ?_
        refine lv_istore_n (lv' := [(3, .int z6), (2, .int (a1 - a1 / (10 : Int32) * (10 : Int32))), (0, .ref q_t), (1, .int a1)]) F.1 F.2.1 dX11_toldOfEach_46 rfl hl (by decide) rfl (fun ls hl => ?_)
        refine lv_iload_n F.1 F.2.1 dX11_toldOfEach_47 rfl (lv_at hl 3 rfl) ?_
        refine lv_bipush (v := 10) F.1 F.2.1 dX11_toldOfEach_48 (by decide) ?_
        refine lv_idiv F.1 F.2.1 dX11_toldOfEach_50 (by decide) ?_
        by_cases hs8 : (a1 / (10 : Int32)) = 1
        · replace hr := (if_pos hs8).symm.trans hr
          refine lv_tableIn (tgt := 76) F.1 F.2.1 dX11_toldOfEach_51 (by rw [hs8]; decide) (by rw [hs8]; decide) (by rw [hs8]; rfl) (by decide) ?_
          refine lv_iload_n F.1 F.2.1 dX11_toldOfEach_76 rfl (lv_at hl 0 rfl) ?_
          cases hr
          exact ret_i () F hret hlk hw (Nat.le_refl _) (Nat.le_refl _) dX11_toldOfEach_77
        · replace hr := (if_neg hs8).symm.trans hr
          by_cases hs9 : (a1 / (10 : Int32)) = 2
          · replace hr := (if_pos hs9).symm.trans hr
            refine lv_tableIn (tgt := 78) F.1 F.2.1 dX11_toldOfEach_51 (by rw [hs9]; decide) (by rw [hs9]; decide) (by rw [hs9]; rfl) (by decide) ?_
            refine lv_aload_n F.1 F.2.1 dX11_toldOfEach_78 rfl (lv_at hl 2 rfl) ?_
            refine gf_X11_19 F hw 0 rfl rfl dX11_toldOfEach_79 ?_
            refine gf_X11_129 F hw 1 rfl rfl dX11_toldOfEach_82 ?_
            refine lv_iload_n F.1 F.2.1 dX11_toldOfEach_85 rfl (lv_at hl 0 rfl) ?_
            obtain ⟨z10, hz10, hr⟩ := Option.bind_eq_some_iff.mp hr
            refine call_o (wr := [(q_t, .inr (11, [o_t_pad, .ref q_t_chain, o_t_words, o_t_sights, o_t_images, o_t_run, o_t_seek, o_t_hanging, o_t_race, o_t_widow, o_t_came, .int t_changes, .int t_fewestAt, .int t_hungAt, .int t_cameAt, .int t_fewestPulls, .int t_fewestRow])), (q_t_chain, .inr (1, [.int t_chain_places, .int t_chain_deep, .int t_chain_turn, .long t_chain_wheel, .long t_chain_leaks, .long t_chain_wants]))]) (run_S (As := [.long t_chain_wheel, .int z6]) (rest := []) F k_X11_133 (c_X11_lane l dd g mv t_chain_wheel z6 z10 hz10 _) hw [] (by decide) rfl rfl hl.1 rfl (Nat.le_of_ble_eq_true rfl) dX11_toldOfEach_86 ⟨Nat.le_of_ble_eq_true rfl, Nat.le_of_ble_eq_true rfl⟩ ⟨Nat.le_of_ble_eq_true rfl, Nat.le_of_ble_eq_true rfl⟩) hw [] [0, 1] rfl rfl (by decide) (by decide) (fun u11 H locs hw => ?_)
            replace hw : Wd dd g mv A s H locs (w_X11_toldOfEach g q_t q_t_chain o_t_pad o_t_words o_t_sights o_t_images o_t_run o_t_seek o_t_hanging o_t_race o_t_widow o_t_came t_changes t_fewestAt t_hungAt t_cameAt t_fewestPulls t_fewestRow t_chain_places t_chain_deep t_chain_turn t_chain_wheel t_chain_leaks t_chain_wants) := hw.sub [0, 1] (by decide) rfl
            refine W.eq (g2 := F0 m 89 ls (.int z10 :: [])) rfl ?_
            cases hr
            exact ret_i () F hret hlk hw (Nat.le_refl _) (Nat.le_refl _) dX11_toldOfEach_89
          · replace hr := (if_neg hs9).symm.trans hr
            by_cases hs12 : (a1 / (10 : Int32)) = 3
            · replace hr := (if_pos hs12).symm.trans hr
              refine lv_tableIn (tgt := 90) F.1 F.2.1 dX11_toldOfEach_51 (by rw [hs12]; decide) (by rw [hs12]; decide) (by rw [hs12]; rfl) (by decide) ?_
              refine lv_aload_n F.1 F.2.1 dX11_toldOfEach_90 rfl (lv_at hl 2 rfl) ?_
              refine gf_X11_19 F hw 0 rfl rfl dX11_toldOfEach_91 ?_
              refine gf_X11_141 F hw 1 rfl rfl dX11_toldOfEach_94 ?_
              refine lv_iload_n F.1 F.2.1 dX11_toldOfEach_97 rfl (lv_at hl 0 rfl) ?_
              obtain ⟨z13, hz13, hr⟩ := Option.bind_eq_some_iff.mp hr
              refine call_o (wr := [(q_t, .inr (11, [o_t_pad, .ref q_t_chain, o_t_words, o_t_sights, o_t_images, o_t_run, o_t_seek, o_t_hanging, o_t_race, o_t_widow, o_t_came, .int t_changes, .int t_fewestAt, .int t_hungAt, .int t_cameAt, .int t_fewestPulls, .int t_fewestRow])), (q_t_chain, .inr (1, [.int t_chain_places, .int t_chain_deep, .int t_chain_turn, .long t_chain_wheel, .long t_chain_leaks, .long t_chain_wants]))]) (run_S (As := [.long t_chain_leaks, .int z6]) (rest := []) F k_X11_133 (c_X11_lane l dd g mv t_chain_leaks z6 z13 hz13 _) hw [] (by decide) rfl rfl hl.1 rfl (Nat.le_of_ble_eq_true rfl) dX11_toldOfEach_98 ⟨Nat.le_of_ble_eq_true rfl, Nat.le_of_ble_eq_true rfl⟩ ⟨Nat.le_of_ble_eq_true rfl, Nat.le_of_ble_eq_true rfl⟩) hw [] [0, 1] rfl rfl (by decide) (by decide) (fun u14 H locs hw => ?_)
              replace hw : Wd dd g mv A s H locs (w_X11_toldOfEach g q_t q_t_chain o_t_pad o_t_words o_t_sights o_t_images o_t_run o_t_seek o_t_hanging o_t_race o_t_widow o_t_came t_changes t_fewestAt t_hungAt t_cameAt t_fewestPulls t_fewestRow t_chain_places t_chain_deep t_chain_turn t_chain_wheel t_chain_leaks t_chain_wants) := hw.sub [0, 1] (by decide) rfl
              refine W.eq (g2 := F0 m 101 ls (.int z13 :: [])) rfl ?_
              cases hr
              exact ret_i () F hret hlk hw (Nat.le_refl _) (Nat.le_refl _) dX11_toldOfEach_101
            · replace hr := (if_neg hs12).symm.trans hr
              have ehs8 : ((a1 / (10 : Int32))).toInt ≠ 1 := fun h => hs8 (Int32.toInt_inj.mp h)
              have ehs9 : ((a1 / (10 : Int32))).toInt ≠ 2 := fun h => hs9 (Int32.toInt_inj.mp h)
              have ehs12 : ((a1 / (10 : Int32))).toInt ≠ 3 := fun h => hs12 (Int32.toInt_inj.mp h)
              refine lv_tableOut (tgt := 102) F.1 F.2.1 dX11_toldOfEach_51 (by omega) (by decide) ?_
              refine lv_aload_n F.1 F.2.1 dX11_toldOfEach_102 rfl (lv_at hl 2 rfl) ?_
              refine gf_X11_19 F hw 0 rfl rfl dX11_toldOfEach_103 ?_
              refine gf_X11_144 F hw 1 rfl rfl dX11_toldOfEach_106 ?_
              refine lv_iload_n F.1 F.2.1 dX11_toldOfEach_109 rfl (lv_at hl 1 rfl) ?_
              obtain ⟨z15, hz15, hr⟩ := Option.bind_eq_some_iff.mp hr
              refine call_o (wr := [(q_t, .inr (11, [o_t_pad, .ref q_t_chain, o_t_words, o_t_sights, o_t_images, o_t_run, o_t_seek, o_t_hanging, o_t_race, o_t_widow, o_t_came, .int t_changes, .int t_fewestAt, .int t_hungAt, .int t_cameAt, .int t_fewestPulls, .int t_fewestRow])), (q_t_chain, .inr (1, [.int t_chain_places, .int t_chain_deep, .int t_chain_turn, .long t_chain_wheel, .long t_chain_leaks, .long t_chain_wants]))]) (run_S (As := [.long t_chain_wants, .int (a1 - a1 / (10 : Int32) * (10 : Int32))]) (rest := []) F k_X11_133 (c_X11_lane l dd g mv t_chain_wants ((a1 - a1 / (10 : Int32) * (10 : Int32))) z15 hz15 _) hw [] (by decide) rfl rfl hl.1 rfl (Nat.le_of_ble_eq_true rfl) dX11_toldOfEach_110 ⟨Nat.le_of_ble_eq_true rfl, Nat.le_of_ble_eq_true rfl⟩ ⟨Nat.le_of_ble_eq_true rfl, Nat.le_of_ble_eq_true rfl⟩) hw [] [0, 1] rfl rfl (by decide) (by decide) (fun u16 H locs hw => ?_)
              replace hw : Wd dd g mv A s H locs (w_X11_toldOfEach g q_t q_t_chain o_t_pad o_t_words o_t_sights o_t_images o_t_run o_t_seek o_t_hanging o_t_race o_t_widow o_t_came t_changes t_fewestAt t_hungAt t_cameAt t_fewestPulls t_fewestRow t_chain_places t_chain_deep t_chain_turn t_chain_wheel t_chain_leaks t_chain_wants) := hw.sub [0, 1] (by decide) rfl
              refine W.eq (g2 := F0 m 113 ls (.int z15 :: [])) rfl ?_
              cases hr
              exact ret_i () F hret hlk hw (Nat.le_refl _) (Nat.le_refl _) dX11_toldOfEach_113
      · replace hr := (if_pos hc5).symm.trans hr
        refine lv_bipush (v := -2) F.1 F.2.1 dX11_toldOfEach_23 (by decide) ?_
        cases hr
        exact ret_i () F hret hlk hw (Nat.le_refl _) (Nat.le_refl _) dX11_toldOfEach_25
end WALK
