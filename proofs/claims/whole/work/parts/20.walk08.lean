section WALK
variable {p : Program} {l : Launch} {e : Env} {s : State} {m : MethodId} {args : Array Value} {below : List Frame} {meth : Method} {c : Code} {dd : va_G} {g : Nat → ClassId} {mv : Nat} {A : Nat → Prop}
set_option maxHeartbeats 4000000 in
set_option maxRecDepth 100000 in
theorem b_X11_after_42 {q_t q_t_chain q_t_pad q_t_pad_signs q_t_run q_t_run_when : Nat} {z : Int32 × Int64 × Int64 × Int32 × Int32 × Int32 × Int32 × Int32 × Int32 × (Nat → Int32)} (F : Fx p m c cX11_after 3 s args RX11) (hret : meth.sig.returnType = some .int) (hlk : meth.locks = false) : ∀ {x1 : Int32} {t_chain_places : Int32} {t_chain_deep : Int32} {t_chain_turn : Int32} {t_chain_wheel : Int64} {t_chain_leaks : Int64} {t_chain_wants : Int64} {t_pad_count : Int32} {t_pad_signs : Nat → Int32} {t_run_wheel : Int64} {t_run_leaks : Int64} {t_run_turn : Int32} {t_run_pulls : Int32} {t_run_drawn : Int32} {t_run_leaked : Int32} {t_run_drunk : Int32} {t_run_servings : Int32} {t_run_when : Nat → Int32} {t_changes : Int32} {t_fewestAt : Int32} {t_hungAt : Int32} {t_cameAt : Int32} {t_fewestPulls : Int32} {t_fewestRow : Int32} {o_t_words : Value} {o_t_sights : Value} {o_t_images : Value} {o_t_seek : Value} {o_t_hanging : Value} {o_t_race : Value} {o_t_widow : Value} {o_t_came : Value} {o_t_run_chain : Value} {H : Heap} {locs : List Loc} {ls : Array Slot}, f_X11_after_42  x1 t_chain_places t_chain_deep t_chain_turn t_chain_wheel t_chain_leaks t_chain_wants t_pad_count t_pad_signs t_run_wheel t_run_leaks t_run_turn t_run_pulls t_run_drawn t_run_leaked t_run_drunk t_run_servings t_run_when = some z → Wd dd g mv A s H locs (w_X11_after g q_t q_t_chain q_t_pad q_t_pad_signs q_t_run q_t_run_when o_t_words o_t_sights o_t_images o_t_seek o_t_hanging o_t_race o_t_widow o_t_came o_t_run_chain t_changes t_fewestAt t_hungAt t_cameAt t_fewestPulls t_fewestRow t_chain_places t_chain_deep t_chain_turn t_chain_wheel t_chain_leaks t_chain_wants t_pad_count t_pad_signs t_run_wheel t_run_leaks t_run_turn t_run_pulls t_run_drawn t_run_leaked t_run_drunk t_run_servings t_run_when) → lv_has ls 3 [(0, .ref q_t), (1, .int x1)] → W p l e (rmH (4) 0 0) s m args below meth c H locs 0 0 (MQ below (Qo dd g (some (.int z.1)) (fun u : Value => (w_X11_after g q_t q_t_chain q_t_pad q_t_pad_signs q_t_run q_t_run_when o_t_words o_t_sights o_t_images o_t_seek o_t_hanging o_t_race o_t_widow o_t_came u t_changes t_fewestAt t_hungAt t_cameAt t_fewestPulls t_fewestRow t_chain_places t_chain_deep t_chain_turn t_chain_wheel t_chain_leaks t_chain_wants t_pad_count t_pad_signs z.2.1 z.2.2.1 z.2.2.2.1 z.2.2.2.2.1 z.2.2.2.2.2.1 z.2.2.2.2.2.2.1 z.2.2.2.2.2.2.2.1 z.2.2.2.2.2.2.2.2.1 z.2.2.2.2.2.2.2.2.2)) A) args s 0 0 A) (F0 m 42 ls []) := by
  intro x1 t_chain_places t_chain_deep t_chain_turn t_chain_wheel t_chain_leaks t_chain_wants t_pad_count t_pad_signs t_run_wheel t_run_leaks t_run_turn t_run_pulls t_run_drawn t_run_leaked t_run_drunk t_run_servings t_run_when t_changes t_fewestAt t_hungAt t_cameAt t_fewestPulls t_fewestRow o_t_words o_t_sights o_t_images o_t_seek o_t_hanging o_t_race o_t_widow o_t_came o_t_run_chain H locs ls hr hw hl
  refine lv_aload_n F.1 F.2.1 dX11_after_42 rfl (lv_at hl 0 rfl) ?_
  refine gf_X11_12 F hw 0 rfl rfl dX11_after_43 ?_
  obtain ⟨z1, hz1, hr⟩ := Option.bind_eq_some_iff.mp hr
  refine call_o (wr := [(q_t, .inr (11, [.ref q_t_pad, .ref q_t_chain, o_t_words, o_t_sights, o_t_images, .ref q_t_run, o_t_seek, o_t_hanging, o_t_race, o_t_widow, o_t_came, .int t_changes, .int t_fewestAt, .int t_hungAt, .int t_cameAt, .int t_fewestPulls, .int t_fewestRow])), (q_t_chain, .inr (1, [.int t_chain_places, .int t_chain_deep, .int t_chain_turn, .long t_chain_wheel, .long t_chain_leaks, .long t_chain_wants])), (q_t_run, .inr (6, [.ref q_t_run_when, o_t_run_chain, .long t_run_wheel, .long t_run_leaks, .int t_run_turn, .int t_run_pulls, .int t_run_drawn, .int t_run_leaked, .int t_run_drunk, .int t_run_servings])), (q_t_run_when, .inl (g 0, 9, .inl t_run_when))]) (run_V (As := []) (rest := []) F k_X11_161 (c_X4_firstFault l dd g mv q_t_pad q_t_pad_signs t_pad_count t_pad_signs z1 hz1 _) hw [2, 3] (by decide) rfl (ci := 4) rfl rfl rfl rfl hl.1 rfl (Nat.le_of_ble_eq_true rfl) dX11_after_46 ⟨Nat.le_of_ble_eq_true rfl, Nat.le_of_ble_eq_true rfl⟩ ⟨Nat.le_of_ble_eq_true rfl, Nat.le_of_ble_eq_true rfl⟩) hw [2, 3] [0, 1, 4, 5] rfl rfl (by decide) (by decide) (fun u2 H locs hw => ?_)
  replace hw : Wd dd g mv A s H locs (w_X11_after g q_t q_t_chain q_t_pad q_t_pad_signs q_t_run q_t_run_when o_t_words o_t_sights o_t_images o_t_seek o_t_hanging o_t_race o_t_widow o_t_came o_t_run_chain t_changes t_fewestAt t_hungAt t_cameAt t_fewestPulls t_fewestRow t_chain_places t_chain_deep t_chain_turn t_chain_wheel t_chain_leaks t_chain_wants t_pad_count t_pad_signs t_run_wheel t_run_leaks t_run_turn t_run_pulls t_run_drawn t_run_leaked t_run_drunk t_run_servings t_run_when) := hw.sub [0, 1, 4, 5, 2, 3] (by decide) rfl
  refine W.eq (g2 := F0 m 49 ls (.int z1 :: [])) rfl ?_
  refine lv_bipush (v := -6) F.1 F.2.1 dX11_after_49 (by decide) ?_
  refine lv_icmp_eq (tgt := 57) F.1 F.2.1 dX11_after_51 (by decide) (fun hc3 => ?_) (fun hc3 => ?_)
  · replace hr := (if_pos hc3).symm.trans hr
    refine lv_aload_n F.1 F.2.1 dX11_after_57 rfl (lv_at hl 0 rfl) ?_
    obtain ⟨z4, hz4, hr⟩ := Option.bind_eq_some_iff.mp hr
    refine call_o (wr := []) (run_V (As := []) (rest := []) F k_X11_168 (c_X11_runPad l dd g mv q_t q_t_run q_t_chain q_t_run_when q_t_pad q_t_pad_signs o_t_words o_t_sights o_t_images o_t_seek o_t_hanging o_t_race o_t_widow o_t_came o_t_run_chain t_changes t_fewestAt t_hungAt t_cameAt t_fewestPulls t_fewestRow t_run_wheel t_run_leaks t_run_turn t_run_pulls t_run_drawn t_run_leaked t_run_drunk t_run_servings t_chain_places t_chain_deep t_chain_turn t_chain_wheel t_chain_leaks t_chain_wants t_run_when t_pad_count t_pad_signs z4 hz4 _) hw [0, 4, 1, 5, 2, 3] (by decide) rfl (ci := 11) rfl rfl rfl rfl hl.1 rfl (Nat.le_of_ble_eq_true rfl) dX11_after_58 ⟨Nat.le_of_ble_eq_true rfl, Nat.le_of_ble_eq_true rfl⟩ ⟨Nat.le_of_ble_eq_true rfl, Nat.le_of_ble_eq_true rfl⟩) hw [0, 4, 1, 5, 2, 3] [] rfl rfl (by decide) (by decide) (fun u5 H locs hw => ?_)
    replace hw : Wd dd g mv A s H locs (w_X11_after g q_t q_t_chain q_t_pad q_t_pad_signs q_t_run q_t_run_when o_t_words o_t_sights o_t_images o_t_seek o_t_hanging o_t_race o_t_widow o_t_came ((.ref q_t_chain)) t_changes t_fewestAt t_hungAt t_cameAt t_fewestPulls t_fewestRow t_chain_places t_chain_deep t_chain_turn t_chain_wheel t_chain_leaks t_chain_wants t_pad_count t_pad_signs z4.1 z4.2.1 z4.2.2.1 z4.2.2.2.1 z4.2.2.2.2.1 z4.2.2.2.2.2.1 z4.2.2.2.2.2.2.1 z4.2.2.2.2.2.2.2.1 z4.2.2.2.2.2.2.2.2) := hw.sub [0, 2, 4, 5, 1, 3] (by decide) rfl
    refine lv_iload_n F.1 F.2.1 dX11_after_61 rfl (lv_at hl 1 rfl) ?_
    by_cases hs6 : x1 = 0
    · replace hr := (if_pos hs6).symm.trans hr
      refine lv_tableIn (tgt := 92) F.1 F.2.1 dX11_after_62 (by rw [hs6]; decide) (by rw [hs6]; decide) (by rw [hs6]; rfl) (by decide) ?_
      refine lv_aload_n F.1 F.2.1 dX11_after_92 rfl (lv_at hl 0 rfl) ?_
      refine gf_X11_19 F hw 0 rfl rfl dX11_after_93 ?_
      refine lv_aload_n F.1 F.2.1 dX11_after_96 rfl (lv_at hl 0 rfl) ?_
      refine gf_X11_47 F hw 0 rfl rfl dX11_after_97 ?_
      refine gf_X11_171 F hw 4 rfl rfl dX11_after_100 ?_
      obtain ⟨z7, hz7, hr⟩ := Option.bind_eq_some_iff.mp hr
      refine call_o (wr := [(q_t, .inr (11, [.ref q_t_pad, .ref q_t_chain, o_t_words, o_t_sights, o_t_images, .ref q_t_run, o_t_seek, o_t_hanging, o_t_race, o_t_widow, o_t_came, .int t_changes, .int t_fewestAt, .int t_hungAt, .int t_cameAt, .int t_fewestPulls, .int t_fewestRow])), (q_t_pad, .inr (4, [.ref q_t_pad_signs, .int t_pad_count])), (q_t_pad_signs, .inl (g 0, 40, .inl t_pad_signs)), (q_t_run, .inr (6, [.ref q_t_run_when, (.ref q_t_chain), .long z4.1, .long z4.2.1, .int z4.2.2.1, .int z4.2.2.2.1, .int z4.2.2.2.2.1, .int z4.2.2.2.2.2.1, .int z4.2.2.2.2.2.2.1, .int z4.2.2.2.2.2.2.2.1])), (q_t_run_when, .inl (g 0, 9, .inl z4.2.2.2.2.2.2.2.2))]) (run_V (As := [.long z4.1]) (rest := []) F k_X11_164 (c_X1_servedBits l dd g mv q_t_chain t_chain_places t_chain_deep t_chain_turn t_chain_wheel t_chain_leaks t_chain_wants z4.1 z7 hz7 _) hw [1] (by decide) rfl (ci := 1) rfl rfl rfl rfl hl.1 rfl (Nat.le_of_ble_eq_true rfl) dX11_after_103 ⟨Nat.le_of_ble_eq_true rfl, Nat.le_of_ble_eq_true rfl⟩ ⟨Nat.le_of_ble_eq_true rfl, Nat.le_of_ble_eq_true rfl⟩) hw [1] [0, 2, 3, 4, 5] rfl rfl (by decide) (by decide) (fun u8 H locs hw => ?_)
      replace hw : Wd dd g mv A s H locs (w_X11_after g q_t q_t_chain q_t_pad q_t_pad_signs q_t_run q_t_run_when o_t_words o_t_sights o_t_images o_t_seek o_t_hanging o_t_race o_t_widow o_t_came ((.ref q_t_chain)) t_changes t_fewestAt t_hungAt t_cameAt t_fewestPulls t_fewestRow t_chain_places t_chain_deep t_chain_turn t_chain_wheel t_chain_leaks t_chain_wants t_pad_count t_pad_signs z4.1 z4.2.1 z4.2.2.1 z4.2.2.2.1 z4.2.2.2.2.1 z4.2.2.2.2.2.1 z4.2.2.2.2.2.2.1 z4.2.2.2.2.2.2.2.1 z4.2.2.2.2.2.2.2.2) := hw.sub [0, 5, 1, 2, 3, 4] (by decide) rfl
      refine W.eq (g2 := F0 m 106 ls (.int z7 :: [])) rfl ?_
      cases hr
      exact ret_i ((.ref q_t_chain)) F hret hlk hw (Nat.le_refl _) (Nat.le_refl _) dX11_after_106
    · replace hr := (if_neg hs6).symm.trans hr
      by_cases hs9 : x1 = 1
      · replace hr := (if_pos hs9).symm.trans hr
        refine lv_tableIn (tgt := 107) F.1 F.2.1 dX11_after_62 (by rw [hs9]; decide) (by rw [hs9]; decide) (by rw [hs9]; rfl) (by decide) ?_
        refine lv_aload_n F.1 F.2.1 dX11_after_107 rfl (lv_at hl 0 rfl) ?_
        refine gf_X11_47 F hw 0 rfl rfl dX11_after_108 ?_
        refine gf_X11_174 F hw 4 rfl rfl dX11_after_111 ?_
        cases hr
        exact ret_i ((.ref q_t_chain)) F hret hlk hw (Nat.le_refl _) (Nat.le_refl _) dX11_after_114
      · replace hr := (if_neg hs9).symm.trans hr
        by_cases hs10 : x1 = 2
        · replace hr := (if_pos hs10).symm.trans hr
          refine lv_tableIn (tgt := 115) F.1 F.2.1 dX11_after_62 (by rw [hs10]; decide) (by rw [hs10]; decide) (by rw [hs10]; rfl) (by decide) ?_
          refine lv_aload_n F.1 F.2.1 dX11_after_115 rfl (lv_at hl 0 rfl) ?_
          refine gf_X11_47 F hw 0 rfl rfl dX11_after_116 ?_
          refine gf_X11_177 F hw 4 rfl rfl dX11_after_119 ?_
          cases hr
          exact ret_i ((.ref q_t_chain)) F hret hlk hw (Nat.le_refl _) (Nat.le_refl _) dX11_after_122
        · replace hr := (if_neg hs10).symm.trans hr
          by_cases hs11 : x1 = 3
          · replace hr := (if_pos hs11).symm.trans hr
            refine lv_tableIn (tgt := 123) F.1 F.2.1 dX11_after_62 (by rw [hs11]; decide) (by rw [hs11]; decide) (by rw [hs11]; rfl) (by decide) ?_
            refine lv_aload_n F.1 F.2.1 dX11_after_123 rfl (lv_at hl 0 rfl) ?_
            refine gf_X11_47 F hw 0 rfl rfl dX11_after_124 ?_
            refine gf_X11_180 F hw 4 rfl rfl dX11_after_127 ?_
            cases hr
            exact ret_i ((.ref q_t_chain)) F hret hlk hw (Nat.le_refl _) (Nat.le_refl _) dX11_after_130
          · replace hr := (if_neg hs11).symm.trans hr
            have ehs6 : (x1).toInt ≠ 0 := fun h => hs6 (Int32.toInt_inj.mp h)
            have ehs9 : (x1).toInt ≠ 1 := fun h => hs9 (Int32.toInt_inj.mp h)
            have ehs10 : (x1).toInt ≠ 2 := fun h => hs10 (Int32.toInt_inj.mp h)
            have ehs11 : (x1).toInt ≠ 3 := fun h => hs11 (Int32.toInt_inj.mp h)
            refine lv_tableOut (tgt := 131) F.1 F.2.1 dX11_after_62 (by omega) (by decide) ?_
            refine lv_aload_n F.1 F.2.1 dX11_after_131 rfl (lv_at hl 0 rfl) ?_
            refine gf_X11_47 F hw 0 rfl rfl dX11_after_132 ?_
            refine lv_iload_n F.1 F.2.1 dX11_after_135 rfl (lv_at hl 1 rfl) ?_
            refine lv_bipush (v := 10) F.1 F.2.1 dX11_after_136 (by decide) ?_
            refine lv_isub F.1 F.2.1 dX11_after_138 ?_
            obtain ⟨z12, hz12, hr⟩ := Option.bind_eq_some_iff.mp hr
            refine call_o (wr := [(q_t, .inr (11, [.ref q_t_pad, .ref q_t_chain, o_t_words, o_t_sights, o_t_images, .ref q_t_run, o_t_seek, o_t_hanging, o_t_race, o_t_widow, o_t_came, .int t_changes, .int t_fewestAt, .int t_hungAt, .int t_cameAt, .int t_fewestPulls, .int t_fewestRow])), (q_t_chain, .inr (1, [.int t_chain_places, .int t_chain_deep, .int t_chain_turn, .long t_chain_wheel, .long t_chain_leaks, .long t_chain_wants])), (q_t_pad, .inr (4, [.ref q_t_pad_signs, .int t_pad_count])), (q_t_pad_signs, .inl (g 0, 40, .inl t_pad_signs))]) (run_V (As := [.int (x1 - (10 : Int32))]) (rest := []) F k_X11_183 (c_X6_pullsTill l dd g mv q_t_run q_t_run_when ((.ref q_t_chain)) z4.1 z4.2.1 z4.2.2.1 z4.2.2.2.1 z4.2.2.2.2.1 z4.2.2.2.2.2.1 z4.2.2.2.2.2.2.1 z4.2.2.2.2.2.2.2.1 z4.2.2.2.2.2.2.2.2 ((x1 - (10 : Int32))) z12 hz12 _) hw [4, 5] (by decide) rfl (ci := 6) rfl rfl rfl rfl hl.1 rfl (Nat.le_of_ble_eq_true rfl) dX11_after_139 ⟨Nat.le_of_ble_eq_true rfl, Nat.le_of_ble_eq_true rfl⟩ ⟨Nat.le_of_ble_eq_true rfl, Nat.le_of_ble_eq_true rfl⟩) hw [4, 5] [0, 1, 2, 3] rfl rfl (by decide) (by decide) (fun u13 H locs hw => ?_)
            replace hw : Wd dd g mv A s H locs (w_X11_after g q_t q_t_chain q_t_pad q_t_pad_signs q_t_run q_t_run_when o_t_words o_t_sights o_t_images o_t_seek o_t_hanging o_t_race o_t_widow o_t_came ((.ref q_t_chain)) t_changes t_fewestAt t_hungAt t_cameAt t_fewestPulls t_fewestRow t_chain_places t_chain_deep t_chain_turn t_chain_wheel t_chain_leaks t_chain_wants t_pad_count t_pad_signs z4.1 z4.2.1 z4.2.2.1 z4.2.2.2.1 z4.2.2.2.2.1 z4.2.2.2.2.2.1 z4.2.2.2.2.2.2.1 z4.2.2.2.2.2.2.2.1 z4.2.2.2.2.2.2.2.2) := hw.sub [0, 1, 2, 3, 4, 5] (by decide) rfl
            refine W.eq (g2 := F0 m 142 ls (.int z12 :: [])) rfl ?_
            cases hr
            exact ret_i ((.ref q_t_chain)) F hret hlk hw (Nat.le_refl _) (Nat.le_refl _) dX11_after_142
  · replace hr := (if_neg hc3).symm.trans hr
    refine lv_bipush (v := -5) F.1 F.2.1 dX11_after_54 (by decide) ?_
    cases hr
    exact ret_i (o_t_run_chain) F hret hlk hw (Nat.le_refl _) (Nat.le_refl _) dX11_after_56
set_option maxHeartbeats 4000000 in
set_option maxRecDepth 100000 in
theorem b_X11_after_25 {q_t q_t_chain q_t_pad q_t_pad_signs q_t_run q_t_run_when : Nat} {z : Int32 × Int64 × Int64 × Int32 × Int32 × Int32 × Int32 × Int32 × Int32 × (Nat → Int32)} (F : Fx p m c cX11_after 3 s args RX11) (hret : meth.sig.returnType = some .int) (hlk : meth.locks = false) : ∀ {x1 : Int32} {y0 : Int32} {t_chain_places : Int32} {t_chain_deep : Int32} {t_chain_turn : Int32} {t_chain_wheel : Int64} {t_chain_leaks : Int64} {t_chain_wants : Int64} {t_pad_count : Int32} {t_pad_signs : Nat → Int32} {t_run_wheel : Int64} {t_run_leaks : Int64} {t_run_turn : Int32} {t_run_pulls : Int32} {t_run_drawn : Int32} {t_run_leaked : Int32} {t_run_drunk : Int32} {t_run_servings : Int32} {t_run_when : Nat → Int32} {t_changes : Int32} {t_fewestAt : Int32} {t_hungAt : Int32} {t_cameAt : Int32} {t_fewestPulls : Int32} {t_fewestRow : Int32} {o_t_words : Value} {o_t_sights : Value} {o_t_images : Value} {o_t_seek : Value} {o_t_hanging : Value} {o_t_race : Value} {o_t_widow : Value} {o_t_came : Value} {o_t_run_chain : Value} {H : Heap} {locs : List Loc} {ls : Array Slot}, f_X11_after_25  x1 y0 t_chain_places t_chain_deep t_chain_turn t_chain_wheel t_chain_leaks t_chain_wants t_pad_count t_pad_signs t_run_wheel t_run_leaks t_run_turn t_run_pulls t_run_drawn t_run_leaked t_run_drunk t_run_servings t_run_when = some z → Wd dd g mv A s H locs (w_X11_after g q_t q_t_chain q_t_pad q_t_pad_signs q_t_run q_t_run_when o_t_words o_t_sights o_t_images o_t_seek o_t_hanging o_t_race o_t_widow o_t_came o_t_run_chain t_changes t_fewestAt t_hungAt t_cameAt t_fewestPulls t_fewestRow t_chain_places t_chain_deep t_chain_turn t_chain_wheel t_chain_leaks t_chain_wants t_pad_count t_pad_signs t_run_wheel t_run_leaks t_run_turn t_run_pulls t_run_drawn t_run_leaked t_run_drunk t_run_servings t_run_when) → lv_has ls 3 [(0, .ref q_t), (1, .int x1)] → W p l e (rmH (4) 0 0) s m args below meth c H locs 0 0 (MQ below (Qo dd g (some (.int z.1)) (fun u : Value => (w_X11_after g q_t q_t_chain q_t_pad q_t_pad_signs q_t_run q_t_run_when o_t_words o_t_sights o_t_images o_t_seek o_t_hanging o_t_race o_t_widow o_t_came u t_changes t_fewestAt t_hungAt t_cameAt t_fewestPulls t_fewestRow t_chain_places t_chain_deep t_chain_turn t_chain_wheel t_chain_leaks t_chain_wants t_pad_count t_pad_signs z.2.1 z.2.2.1 z.2.2.2.1 z.2.2.2.2.1 z.2.2.2.2.2.1 z.2.2.2.2.2.2.1 z.2.2.2.2.2.2.2.1 z.2.2.2.2.2.2.2.2.1 z.2.2.2.2.2.2.2.2.2)) A) args s 0 0 A) (F0 m 25 ls [.int y0]) := by
  intro x1 y0 t_chain_places t_chain_deep t_chain_turn t_chain_wheel t_chain_leaks t_chain_wants t_pad_count t_pad_signs t_run_wheel t_run_leaks t_run_turn t_run_pulls t_run_drawn t_run_leaked t_run_drunk t_run_servings t_run_when t_changes t_fewestAt t_hungAt t_cameAt t_fewestPulls t_fewestRow o_t_words o_t_sights o_t_images o_t_seek o_t_hanging o_t_race o_t_widow o_t_came o_t_run_chain H locs ls hr hw hl
  refine lv_istore_n (lv' := [(2, .int y0), (0, .ref q_t), (1, .int x1)]) F.1 F.2.1 dX11_after_25 rfl hl (by decide) rfl (fun ls hl => ?_)
  refine lv_iload_n F.1 F.2.1 dX11_after_26 rfl (lv_at hl 0 rfl) ?_
  refine lv_if_ne (tgt := 42) F.1 F.2.1 dX11_after_27 (by decide) (fun hc14 => ?_) (fun hc14 => ?_)
  · replace hr := (if_neg hc14).symm.trans hr
    exact b_X11_after_42 F hret hlk  hr hw (lv_sub hl [1, 2] rfl)
  · replace hr := (if_pos hc14).symm.trans hr
    refine lv_iload_n F.1 F.2.1 dX11_after_30 rfl (lv_at hl 2 rfl) ?_
    refine lv_if_lt (tgt := 39) F.1 F.2.1 dX11_after_31 (by decide) (fun hc15 => ?_) (fun hc15 => ?_)
    · replace hr := (if_pos hc15).symm.trans hr
      refine lv_bipush (v := -2) F.1 F.2.1 dX11_after_39 (by decide) ?_
      cases hr
      exact ret_i (o_t_run_chain) F hret hlk hw (Nat.le_refl _) (Nat.le_refl _) dX11_after_41
    · replace hr := (if_neg hc15).symm.trans hr
      refine lv_iload_n F.1 F.2.1 dX11_after_34 rfl (lv_at hl 2 rfl) ?_
      refine lv_iconst (v := 3) F.1 F.2.1 dX11_after_35 (by decide) ?_
      refine lv_icmp_le (tgt := 42) F.1 F.2.1 dX11_after_36 (by decide) (fun hc16 => ?_) (fun hc16 => ?_)
      · replace hr := (if_pos hc16).symm.trans hr
        exact b_X11_after_42 F hret hlk  hr hw (lv_sub hl [1, 2] rfl)
      · replace hr := (if_neg hc16).symm.trans hr
        refine lv_bipush (v := -2) F.1 F.2.1 dX11_after_39 (by decide) ?_
        cases hr
        exact ret_i (o_t_run_chain) F hret hlk hw (Nat.le_refl _) (Nat.le_refl _) dX11_after_41
set_option maxHeartbeats 4000000 in
set_option maxRecDepth 100000 in
theorem b_X11_after_24 {q_t q_t_chain q_t_pad q_t_pad_signs q_t_run q_t_run_when : Nat} {z : Int32 × Int64 × Int64 × Int32 × Int32 × Int32 × Int32 × Int32 × Int32 × (Nat → Int32)} (F : Fx p m c cX11_after 3 s args RX11) (hret : meth.sig.returnType = some .int) (hlk : meth.locks = false) : ∀ {x1 : Int32} {t_chain_places : Int32} {t_chain_deep : Int32} {t_chain_turn : Int32} {t_chain_wheel : Int64} {t_chain_leaks : Int64} {t_chain_wants : Int64} {t_pad_count : Int32} {t_pad_signs : Nat → Int32} {t_run_wheel : Int64} {t_run_leaks : Int64} {t_run_turn : Int32} {t_run_pulls : Int32} {t_run_drawn : Int32} {t_run_leaked : Int32} {t_run_drunk : Int32} {t_run_servings : Int32} {t_run_when : Nat → Int32} {t_changes : Int32} {t_fewestAt : Int32} {t_hungAt : Int32} {t_cameAt : Int32} {t_fewestPulls : Int32} {t_fewestRow : Int32} {o_t_words : Value} {o_t_sights : Value} {o_t_images : Value} {o_t_seek : Value} {o_t_hanging : Value} {o_t_race : Value} {o_t_widow : Value} {o_t_came : Value} {o_t_run_chain : Value} {H : Heap} {locs : List Loc} {ls : Array Slot}, f_X11_after_24  x1 t_chain_places t_chain_deep t_chain_turn t_chain_wheel t_chain_leaks t_chain_wants t_pad_count t_pad_signs t_run_wheel t_run_leaks t_run_turn t_run_pulls t_run_drawn t_run_leaked t_run_drunk t_run_servings t_run_when = some z → Wd dd g mv A s H locs (w_X11_after g q_t q_t_chain q_t_pad q_t_pad_signs q_t_run q_t_run_when o_t_words o_t_sights o_t_images o_t_seek o_t_hanging o_t_race o_t_widow o_t_came o_t_run_chain t_changes t_fewestAt t_hungAt t_cameAt t_fewestPulls t_fewestRow t_chain_places t_chain_deep t_chain_turn t_chain_wheel t_chain_leaks t_chain_wants t_pad_count t_pad_signs t_run_wheel t_run_leaks t_run_turn t_run_pulls t_run_drawn t_run_leaked t_run_drunk t_run_servings t_run_when) → lv_has ls 3 [(0, .ref q_t), (1, .int x1)] → W p l e (rmH (4) 0 0) s m args below meth c H locs 0 0 (MQ below (Qo dd g (some (.int z.1)) (fun u : Value => (w_X11_after g q_t q_t_chain q_t_pad q_t_pad_signs q_t_run q_t_run_when o_t_words o_t_sights o_t_images o_t_seek o_t_hanging o_t_race o_t_widow o_t_came u t_changes t_fewestAt t_hungAt t_cameAt t_fewestPulls t_fewestRow t_chain_places t_chain_deep t_chain_turn t_chain_wheel t_chain_leaks t_chain_wants t_pad_count t_pad_signs z.2.1 z.2.2.1 z.2.2.2.1 z.2.2.2.2.1 z.2.2.2.2.2.1 z.2.2.2.2.2.2.1 z.2.2.2.2.2.2.2.1 z.2.2.2.2.2.2.2.2.1 z.2.2.2.2.2.2.2.2.2)) A) args s 0 0 A) (F0 m 24 ls []) := by
  intro x1 t_chain_places t_chain_deep t_chain_turn t_chain_wheel t_chain_leaks t_chain_wants t_pad_count t_pad_signs t_run_wheel t_run_leaks t_run_turn t_run_pulls t_run_drawn t_run_leaked t_run_drunk t_run_servings t_run_when t_changes t_fewestAt t_hungAt t_cameAt t_fewestPulls t_fewestRow o_t_words o_t_sights o_t_images o_t_seek o_t_hanging o_t_race o_t_widow o_t_came o_t_run_chain H locs ls hr hw hl
  refine lv_iconst (v := 0) F.1 F.2.1 dX11_after_24 (by decide) ?_
  exact b_X11_after_25 F hret hlk  hr hw (lv_sub hl [0, 1] rfl)
set_option maxHeartbeats 4000000 in
set_option maxRecDepth 100000 in
theorem c_X11_after (l : Launch) (dd : va_G) (g : Nat → ClassId) (mv : Nat) (q_t : Nat) (q_t_chain : Nat) (q_t_pad : Nat) (q_t_pad_signs : Nat) (q_t_run : Nat) (q_t_run_when : Nat) (o_t_words : Value) (o_t_sights : Value) (o_t_images : Value) (o_t_seek : Value) (o_t_hanging : Value) (o_t_race : Value) (o_t_widow : Value) (o_t_came : Value) (o_t_run_chain : Value) (t_changes : Int32) (t_fewestAt : Int32) (t_hungAt : Int32) (t_cameAt : Int32) (t_fewestPulls : Int32) (t_fewestRow : Int32) (t_chain_places : Int32) (t_chain_deep : Int32) (t_chain_turn : Int32) (t_chain_wheel : Int64) (t_chain_leaks : Int64) (t_chain_wants : Int64) (t_pad_count : Int32) (t_pad_signs : Nat → Int32) (t_run_wheel : Int64) (t_run_leaks : Int64) (t_run_turn : Int32) (t_run_pulls : Int32) (t_run_drawn : Int32) (t_run_leaked : Int32) (t_run_drunk : Int32) (t_run_servings : Int32) (t_run_when : Nat → Int32) (a1 : Int32) (z : Int32 × Int64 × Int64 × Int32 × Int32 × Int32 × Int32 × Int32 × Int32 × (Nat → Int32)) (hr : f_X11_after t_chain_places t_chain_deep t_chain_turn t_chain_wheel t_chain_leaks t_chain_wants t_pad_count t_pad_signs t_run_wheel t_run_leaks t_run_turn t_run_pulls t_run_drawn t_run_leaked t_run_drunk t_run_servings t_run_when a1 = some z) (sz : Nat) : Met l yX11_after (.code yX11_after cX11_after 3 (some .int) :: WS) (rmH 4 0 0) (va_Pc [.ref q_t, .int a1] (PW dd g mv (w_X11_after g q_t q_t_chain q_t_pad q_t_pad_signs q_t_run q_t_run_when o_t_words o_t_sights o_t_images o_t_seek o_t_hanging o_t_race o_t_widow o_t_came o_t_run_chain t_changes t_fewestAt t_hungAt t_cameAt t_fewestPulls t_fewestRow t_chain_places t_chain_deep t_chain_turn t_chain_wheel t_chain_leaks t_chain_wants t_pad_count t_pad_signs t_run_wheel t_run_leaks t_run_turn t_run_pulls t_run_drawn t_run_leaked t_run_drunk t_run_servings t_run_when) sz)) (Qo dd g (some (.int z.1)) (fun u : Value => (w_X11_after g q_t q_t_chain q_t_pad q_t_pad_signs q_t_run q_t_run_when o_t_words o_t_sights o_t_images o_t_seek o_t_hanging o_t_race o_t_widow o_t_came u t_changes t_fewestAt t_hungAt t_cameAt t_fewestPulls t_fewestRow t_chain_places t_chain_deep t_chain_turn t_chain_wheel t_chain_leaks t_chain_wants t_pad_count t_pad_signs z.2.1 z.2.2.1 z.2.2.2.1 z.2.2.2.2.1 z.2.2.2.2.2.1 z.2.2.2.2.2.2.1 z.2.2.2.2.2.2.2.1 z.2.2.2.2.2.2.2.2.1 z.2.2.2.2.2.2.2.2.2)) (va_A (w_X11_after g q_t q_t_chain q_t_pad q_t_pad_signs q_t_run q_t_run_when o_t_words o_t_sights o_t_images o_t_seek o_t_hanging o_t_race o_t_widow o_t_came o_t_run_chain t_changes t_fewestAt t_hungAt t_cameAt t_fewestPulls t_fewestRow t_chain_places t_chain_deep t_chain_turn t_chain_wheel t_chain_leaks t_chain_wants t_pad_count t_pad_signs t_run_wheel t_run_leaks t_run_turn t_run_pulls t_run_drawn t_run_leaked t_run_drunk t_run_servings t_run_when) sz)) 0 0 (va_A (w_X11_after g q_t q_t_chain q_t_pad q_t_pad_signs q_t_run q_t_run_when o_t_words o_t_sights o_t_images o_t_seek o_t_hanging o_t_race o_t_widow o_t_came o_t_run_chain t_changes t_fewestAt t_hungAt t_cameAt t_fewestPulls t_fewestRow t_chain_places t_chain_deep t_chain_turn t_chain_wheel t_chain_leaks t_chain_wants t_pad_count t_pad_signs t_run_wheel t_run_leaks t_run_turn t_run_pulls t_run_drawn t_run_leaked t_run_drunk t_run_servings t_run_when) sz) := by
  refine Met_intro (by decide) (Nat.le_of_ble_eq_true rfl) ?_
  intro p e s m below meth c A ls F hret hlk hin hw hl
  replace hl : lv_has ls 3 [(0, .ref q_t), (1, .int a1)] := hl
  refine lv_iload_n F.1 F.2.1 dX11_after_0 rfl (lv_at hl 1 rfl) ?_
  refine lv_bipush (v := 10) F.1 F.2.1 dX11_after_1 (by decide) ?_
  refine lv_icmp_lt (tgt := 24) F.1 F.2.1 dX11_after_3 (by decide) (fun hc17 => ?_) (fun hc17 => ?_)
  · replace hr := (if_pos hc17).symm.trans hr
    exact b_X11_after_24 F hret hlk  hr hw (lv_sub hl [0, 1] rfl)
  · replace hr := (if_neg hc17).symm.trans hr
    refine lv_iload_n F.1 F.2.1 dX11_after_6 rfl (lv_at hl 1 rfl) ?_
    refine lv_bipush (v := 10) F.1 F.2.1 dX11_after_7 (by decide) ?_
    refine lv_aload_n F.1 F.2.1 dX11_after_9 rfl (lv_at hl 0 rfl) ?_
    refine gf_X11_19 F hw 0 rfl rfl dX11_after_10 ?_
    refine gf_X11_105 F hw 1 rfl rfl dX11_after_13 ?_
    refine lv_iadd F.1 F.2.1 dX11_after_16 ?_
    refine lv_icmp_ge (tgt := 24) F.1 F.2.1 dX11_after_17 (by decide) (fun hc18 => ?_) (fun hc18 => ?_)
    · replace hr := (if_pos hc18).symm.trans hr
      exact b_X11_after_24 F hret hlk  hr hw (lv_sub hl [0, 1] rfl)
    · replace hr := (if_neg hc18).symm.trans hr
      refine lv_iconst (v := 1) F.1 F.2.1 dX11_after_20 (by decide) ?_
      refine lv_goto (tgt := 25) F.1 F.2.1 dX11_after_21 (by decide) ?_
      exact b_X11_after_25 F hret hlk  hr hw (lv_sub hl [0, 1] rfl)
set_option maxHeartbeats 4000000 in
set_option maxRecDepth 100000 in
theorem b_X11_fewest_71 {q_t q_t_seek q_t_chain : Nat} {z : Int32 × Int32 × Int32 × Int32 × Int64 × Int32 × Int32 × Int32} (F : Fx p m c cX11_fewest 2 s args RX11) (hret : meth.sig.returnType = some .int) (hlk : meth.locks = false) : ∀ {x1 : Int32} {t_fewestAt : Int32} {t_fewestPulls : Int32} {t_fewestRow : Int32} {t_seek_doors : Int64} {t_seek_most : Int32} {t_seek_best : Int32} {t_seek_row : Int32} {t_changes : Int32} {t_hungAt : Int32} {t_cameAt : Int32} {t_chain_places : Int32} {t_chain_deep : Int32} {t_chain_turn : Int32} {t_chain_wheel : Int64} {t_chain_leaks : Int64} {t_chain_wants : Int64} {o_t_pad : Value} {o_t_words : Value} {o_t_sights : Value} {o_t_images : Value} {o_t_run : Value} {o_t_hanging : Value} {o_t_race : Value} {o_t_widow : Value} {o_t_came : Value} {o_t_seek_chain : Value} {H : Heap} {locs : List Loc} {ls : Array Slot}, f_X11_fewest_71  x1 t_fewestAt t_fewestPulls t_fewestRow t_seek_doors t_seek_most t_seek_best t_seek_row = some z → Wd dd g mv A s H locs (w_X11_fewest g q_t q_t_seek q_t_chain o_t_pad o_t_words o_t_sights o_t_images o_t_run o_t_hanging o_t_race o_t_widow o_t_came o_t_seek_chain t_changes t_fewestAt t_hungAt t_cameAt t_fewestPulls t_fewestRow t_seek_doors t_seek_most t_seek_best t_seek_row t_chain_places t_chain_deep t_chain_turn t_chain_wheel t_chain_leaks t_chain_wants) → lv_has ls 2 [(0, .ref q_t), (1, .int x1)] → W p l e (rmH (25) 0 0) s m args below meth c H locs 0 0 (MQ below (Qo dd g (some (.int z.1)) (fun u : Value => (w_X11_fewest g q_t q_t_seek q_t_chain o_t_pad o_t_words o_t_sights o_t_images o_t_run o_t_hanging o_t_race o_t_widow o_t_came u t_changes z.2.1 t_hungAt t_cameAt z.2.2.1 z.2.2.2.1 z.2.2.2.2.1 z.2.2.2.2.2.1 z.2.2.2.2.2.2.1 z.2.2.2.2.2.2.2 t_chain_places t_chain_deep t_chain_turn t_chain_wheel t_chain_leaks t_chain_wants)) A) args s 0 0 A) (F0 m 71 ls []) := by
  intro x1 t_fewestAt t_fewestPulls t_fewestRow t_seek_doors t_seek_most t_seek_best t_seek_row t_changes t_hungAt t_cameAt t_chain_places t_chain_deep t_chain_turn t_chain_wheel t_chain_leaks t_chain_wants o_t_pad o_t_words o_t_sights o_t_images o_t_run o_t_hanging o_t_race o_t_widow o_t_came o_t_seek_chain H locs ls hr hw hl
  refine lv_iload_n F.1 F.2.1 dX11_fewest_71 rfl (lv_at hl 1 rfl) ?_
  refine lv_iconst (v := -1) F.1 F.2.1 dX11_fewest_72 (by decide) ?_
  refine lv_icmp_ne (tgt := 81) F.1 F.2.1 dX11_fewest_73 (by decide) (fun hc1 => ?_) (fun hc1 => ?_)
  · replace hr := (if_neg hc1).symm.trans hr
    refine lv_iload_n F.1 F.2.1 dX11_fewest_81 rfl (lv_at hl 1 rfl) ?_
    refine lv_if_lt (tgt := 93) F.1 F.2.1 dX11_fewest_82 (by decide) (fun hc2 => ?_) (fun hc2 => ?_)
    · replace hr := (if_pos hc2).symm.trans hr
      refine lv_bipush (v := -6) F.1 F.2.1 dX11_fewest_93 (by decide) ?_
      cases hr
      exact ret_i (o_t_seek_chain) F hret hlk hw (Nat.le_refl _) (Nat.le_refl _) dX11_fewest_95
    · replace hr := (if_neg hc2).symm.trans hr
      refine lv_iload_n F.1 F.2.1 dX11_fewest_85 rfl (lv_at hl 1 rfl) ?_
      refine lv_aload_n F.1 F.2.1 dX11_fewest_86 rfl (lv_at hl 0 rfl) ?_
      refine gf_X11_99 F hw 0 rfl rfl dX11_fewest_87 ?_
      refine lv_icmp_lt (tgt := 96) F.1 F.2.1 dX11_fewest_90 (by decide) (fun hc3 => ?_) (fun hc3 => ?_)
      · replace hr := (if_pos hc3).symm.trans hr
        refine gs_o F fl_X11_199 hw dX11_fewest_96 ?_
        refine lv_aload_n F.1 F.2.1 dX11_fewest_99 rfl (lv_at hl 0 rfl) ?_
        refine gf_X11_102 F hw 0 rfl rfl dX11_fewest_100 ?_
        refine lv_aload_n F.1 F.2.1 dX11_fewest_103 rfl (lv_at hl 0 rfl) ?_
        refine gf_X11_99 F hw 0 rfl rfl dX11_fewest_104 ?_
        refine lv_iconst (v := 1) F.1 F.2.1 dX11_fewest_107 (by decide) ?_
        refine lv_isub F.1 F.2.1 dX11_fewest_108 ?_
        refine lv_iload_n F.1 F.2.1 dX11_fewest_109 rfl (lv_at hl 1 rfl) ?_
        refine lv_isub F.1 F.2.1 dX11_fewest_110 ?_
        refine lv_iushr F.1 F.2.1 dX11_fewest_111 rfl ?_
        refine lv_iconst (v := 1) F.1 F.2.1 dX11_fewest_112 (by decide) ?_
        refine lv_iand F.1 F.2.1 dX11_fewest_113 ?_
        obtain ⟨hg4, hr⟩ := g_no hr
        refine ar_m F hw hg4 dX11_fewest_114 ?_
        cases hr
        exact ret_i (o_t_seek_chain) F hret hlk hw (Nat.le_refl _) (Nat.le_refl _) dX11_fewest_115
      · replace hr := (if_neg hc3).symm.trans hr
        refine lv_bipush (v := -6) F.1 F.2.1 dX11_fewest_93 (by decide) ?_
        cases hr
        exact ret_i (o_t_seek_chain) F hret hlk hw (Nat.le_refl _) (Nat.le_refl _) dX11_fewest_95
  · replace hr := (if_pos hc1).symm.trans hr
    refine lv_aload_n F.1 F.2.1 dX11_fewest_76 rfl (lv_at hl 0 rfl) ?_
    refine gf_X11_99 F hw 0 rfl rfl dX11_fewest_77 ?_
    cases hr
    exact ret_i (o_t_seek_chain) F hret hlk hw (Nat.le_refl _) (Nat.le_refl _) dX11_fewest_80
set_option maxHeartbeats 4000000 in
set_option maxRecDepth 100000 in
theorem c_X11_fewest (l : Launch) (dd : va_G) (g : Nat → ClassId) (mv : Nat) (q_t : Nat) (q_t_seek : Nat) (q_t_chain : Nat) (o_t_pad : Value) (o_t_words : Value) (o_t_sights : Value) (o_t_images : Value) (o_t_run : Value) (o_t_hanging : Value) (o_t_race : Value) (o_t_widow : Value) (o_t_came : Value) (o_t_seek_chain : Value) (t_changes : Int32) (t_fewestAt : Int32) (t_hungAt : Int32) (t_cameAt : Int32) (t_fewestPulls : Int32) (t_fewestRow : Int32) (t_seek_doors : Int64) (t_seek_most : Int32) (t_seek_best : Int32) (t_seek_row : Int32) (t_chain_places : Int32) (t_chain_deep : Int32) (t_chain_turn : Int32) (t_chain_wheel : Int64) (t_chain_leaks : Int64) (t_chain_wants : Int64) (a1 : Int32) (z : Int32 × Int32 × Int32 × Int32 × Int64 × Int32 × Int32 × Int32) (hr : f_X11_fewest t_changes t_fewestAt t_fewestPulls t_fewestRow t_seek_doors t_seek_most t_seek_best t_seek_row t_chain_places t_chain_deep t_chain_wheel t_chain_leaks t_chain_wants a1 = some z) (sz : Nat) : Met l yX11_fewest (.code yX11_fewest cX11_fewest 2 (some .int) :: WS) (rmH 25 0 0) (va_Pc [.ref q_t, .int a1] (PW dd g mv (w_X11_fewest g q_t q_t_seek q_t_chain o_t_pad o_t_words o_t_sights o_t_images o_t_run o_t_hanging o_t_race o_t_widow o_t_came o_t_seek_chain t_changes t_fewestAt t_hungAt t_cameAt t_fewestPulls t_fewestRow t_seek_doors t_seek_most t_seek_best t_seek_row t_chain_places t_chain_deep t_chain_turn t_chain_wheel t_chain_leaks t_chain_wants) sz)) (Qo dd g (some (.int z.1)) (fun u : Value => (w_X11_fewest g q_t q_t_seek q_t_chain o_t_pad o_t_words o_t_sights o_t_images o_t_run o_t_hanging o_t_race o_t_widow o_t_came u t_changes z.2.1 t_hungAt t_cameAt z.2.2.1 z.2.2.2.1 z.2.2.2.2.1 z.2.2.2.2.2.1 z.2.2.2.2.2.2.1 z.2.2.2.2.2.2.2 t_chain_places t_chain_deep t_chain_turn t_chain_wheel t_chain_leaks t_chain_wants)) (va_A (w_X11_fewest g q_t q_t_seek q_t_chain o_t_pad o_t_words o_t_sights o_t_images o_t_run o_t_hanging o_t_race o_t_widow o_t_came o_t_seek_chain t_changes t_fewestAt t_hungAt t_cameAt t_fewestPulls t_fewestRow t_seek_doors t_seek_most t_seek_best t_seek_row t_chain_places t_chain_deep t_chain_turn t_chain_wheel t_chain_leaks t_chain_wants) sz)) 0 0 (va_A (w_X11_fewest g q_t q_t_seek q_t_chain o_t_pad o_t_words o_t_sights o_t_images o_t_run o_t_hanging o_t_race o_t_widow o_t_came o_t_seek_chain t_changes t_fewestAt t_hungAt t_cameAt t_fewestPulls t_fewestRow t_seek_doors t_seek_most t_seek_best t_seek_row t_chain_places t_chain_deep t_chain_turn t_chain_wheel t_chain_leaks t_chain_wants) sz) := by
  refine Met_intro (by decide) (Nat.le_of_ble_eq_true rfl) ?_
  intro p e s m below meth c A ls F hret hlk hin hw hl
  replace hl : lv_has ls 2 [(0, .ref q_t), (1, .int a1)] := hl
  refine lv_aload_n F.1 F.2.1 dX11_fewest_0 rfl (lv_at hl 0 rfl) ?_
  refine gf_X11_90 F hw 0 rfl rfl dX11_fewest_1 ?_
  refine lv_aload_n F.1 F.2.1 dX11_fewest_4 rfl (lv_at hl 0 rfl) ?_
  refine gf_X11_86 F hw 0 rfl rfl dX11_fewest_5 ?_
  refine lv_icmp_eq (tgt := 71) F.1 F.2.1 dX11_fewest_8 (by decide) (fun hc5 => ?_) (fun hc5 => ?_)
  · replace hr := (if_pos hc5).symm.trans hr
    exact b_X11_fewest_71 F hret hlk  hr hw (lv_sub hl [0, 1] rfl)
  · replace hr := (if_neg hc5).symm.trans hr
    refine lv_aload_n F.1 F.2.1 dX11_fewest_11 rfl (lv_at hl 0 rfl) ?_
    refine gf_X11_54 F hw 0 rfl rfl dX11_fewest_12 ?_
    refine lv_aload_n F.1 F.2.1 dX11_fewest_15 rfl (lv_at hl 0 rfl) ?_
    refine gf_X11_19 F hw 0 rfl rfl dX11_fewest_16 ?_
    refine lv_aload_n F.1 F.2.1 dX11_fewest_19 rfl (lv_at hl 0 rfl) ?_
    refine gf_X11_19 F hw 0 rfl rfl dX11_fewest_20 ?_
    refine gf_X11_129 F hw 2 rfl rfl dX11_fewest_23 ?_
    refine lv_aload_n F.1 F.2.1 dX11_fewest_26 rfl (lv_at hl 0 rfl) ?_
    refine gf_X11_19 F hw 0 rfl rfl dX11_fewest_27 ?_
    refine gf_X11_141 F hw 2 rfl rfl dX11_fewest_30 ?_
    refine lv_ldc2 F.1 F.2.1 F.2.2.2.1 (F.2.2.2.2 _ cl_X11_187) dX11_fewest_33 ?_
    refine lv_bipush (v := 14) F.1 F.2.1 dX11_fewest_36 (by decide) ?_
    obtain ⟨z6, hz6, hr⟩ := Option.bind_eq_some_iff.mp hr
    refine call_o (wr := [(q_t, .inr (11, [o_t_pad, .ref q_t_chain, o_t_words, o_t_sights, o_t_images, o_t_run, .ref q_t_seek, o_t_hanging, o_t_race, o_t_widow, o_t_came, .int t_changes, .int t_fewestAt, .int t_hungAt, .int t_cameAt, .int t_fewestPulls, .int t_fewestRow]))]) (run_V (As := [.ref q_t_chain, .long t_chain_wheel, .long t_chain_leaks, .long (18159675916816 : Int64), .int (14 : Int32)]) (rest := []) F k_X11_189 (c_X7_look l dd g mv q_t_seek q_t_chain o_t_seek_chain t_seek_doors t_seek_most t_seek_best t_seek_row t_chain_places t_chain_deep t_chain_turn t_chain_wheel t_chain_leaks t_chain_wants t_chain_wheel t_chain_leaks ((18159675916816 : Int64)) ((14 : Int32)) z6 hz6 _) hw [1, 2] (by decide) rfl (ci := 7) rfl rfl rfl rfl hl.1 rfl (Nat.le_of_ble_eq_true rfl) dX11_fewest_38 ⟨Nat.le_of_ble_eq_true rfl, Nat.le_of_ble_eq_true rfl⟩ ⟨Nat.le_of_ble_eq_true rfl, Nat.le_of_ble_eq_true rfl⟩) hw [1, 2] [0] rfl rfl (by decide) (by decide) (fun u7 H locs hw => ?_)
    replace hw : Wd dd g mv A s H locs (w_X11_fewest g q_t q_t_seek q_t_chain o_t_pad o_t_words o_t_sights o_t_images o_t_run o_t_hanging o_t_race o_t_widow o_t_came ((.ref q_t_chain)) t_changes t_fewestAt t_hungAt t_cameAt t_fewestPulls t_fewestRow z6.1 z6.2.1 z6.2.2.1 z6.2.2.2 t_chain_places t_chain_deep t_chain_turn t_chain_wheel t_chain_leaks t_chain_wants) := hw.sub [0, 1, 2] (by decide) rfl
    refine lv_aload_n F.1 F.2.1 dX11_fewest_41 rfl (lv_at hl 0 rfl) ?_
    refine lv_aload_n F.1 F.2.1 dX11_fewest_42 rfl (lv_at hl 0 rfl) ?_
    refine gf_X11_54 F hw 0 rfl rfl dX11_fewest_43 ?_
    refine gf_X11_193 F hw 1 rfl rfl dX11_fewest_46 ?_
    refine pf_X11_99 F hw 0 rfl (Nat.le_of_ble_eq_true rfl) dX11_fewest_49 (fun H locs hw => ?_)
    replace hw : Wd dd g mv A s H locs (w_X11_fewest g q_t q_t_seek q_t_chain o_t_pad o_t_words o_t_sights o_t_images o_t_run o_t_hanging o_t_race o_t_widow o_t_came ((.ref q_t_chain)) t_changes t_fewestAt t_hungAt t_cameAt z6.2.2.1 t_fewestRow z6.1 z6.2.1 z6.2.2.1 z6.2.2.2 t_chain_places t_chain_deep t_chain_turn t_chain_wheel t_chain_leaks t_chain_wants) := hw
    refine lv_aload_n F.1 F.2.1 dX11_fewest_52 rfl (lv_at hl 0 rfl) ?_
    refine lv_aload_n F.1 F.2.1 dX11_fewest_53 rfl (lv_at hl 0 rfl) ?_
    refine gf_X11_54 F hw 0 rfl rfl dX11_fewest_54 ?_
    refine gf_X11_196 F hw 1 rfl rfl dX11_fewest_57 ?_
    refine pf_X11_102 F hw 0 rfl (Nat.le_of_ble_eq_true rfl) dX11_fewest_60 (fun H locs hw => ?_)
    replace hw : Wd dd g mv A s H locs (w_X11_fewest g q_t q_t_seek q_t_chain o_t_pad o_t_words o_t_sights o_t_images o_t_run o_t_hanging o_t_race o_t_widow o_t_came ((.ref q_t_chain)) t_changes t_fewestAt t_hungAt t_cameAt z6.2.2.1 z6.2.2.2 z6.1 z6.2.1 z6.2.2.1 z6.2.2.2 t_chain_places t_chain_deep t_chain_turn t_chain_wheel t_chain_leaks t_chain_wants) := hw
    refine lv_aload_n F.1 F.2.1 dX11_fewest_63 rfl (lv_at hl 0 rfl) ?_
    refine lv_aload_n F.1 F.2.1 dX11_fewest_64 rfl (lv_at hl 0 rfl) ?_
    refine gf_X11_86 F hw 0 rfl rfl dX11_fewest_65 ?_
    refine pf_X11_90 F hw 0 rfl (Nat.le_of_ble_eq_true rfl) dX11_fewest_68 (fun H locs hw => ?_)
    replace hw : Wd dd g mv A s H locs (w_X11_fewest g q_t q_t_seek q_t_chain o_t_pad o_t_words o_t_sights o_t_images o_t_run o_t_hanging o_t_race o_t_widow o_t_came ((.ref q_t_chain)) t_changes t_changes t_hungAt t_cameAt z6.2.2.1 z6.2.2.2 z6.1 z6.2.1 z6.2.2.1 z6.2.2.2 t_chain_places t_chain_deep t_chain_turn t_chain_wheel t_chain_leaks t_chain_wants) := hw
    exact b_X11_fewest_71 F hret hlk  hr hw (lv_sub hl [0, 1] rfl)
set_option maxHeartbeats 4000000 in
set_option maxRecDepth 100000 in
theorem c_X11_soon (l : Launch) (dd : va_G) (g : Nat → ClassId) (mv : Nat) (q_t : Nat) (q_t_chain : Nat) (q_t_seek : Nat) (o_t_pad : Value) (o_t_words : Value) (o_t_sights : Value) (o_t_images : Value) (o_t_run : Value) (o_t_hanging : Value) (o_t_race : Value) (o_t_widow : Value) (o_t_came : Value) (o_t_seek_chain : Value) (t_changes : Int32) (t_fewestAt : Int32) (t_hungAt : Int32) (t_cameAt : Int32) (t_fewestPulls : Int32) (t_fewestRow : Int32) (t_chain_places : Int32) (t_chain_deep : Int32) (t_chain_turn : Int32) (t_chain_wheel : Int64) (t_chain_leaks : Int64) (t_chain_wants : Int64) (t_seek_doors : Int64) (t_seek_most : Int32) (t_seek_best : Int32) (t_seek_row : Int32) (a1 : Int32) (z : Int32 × Int64 × Int32 × Int32 × Int32) (hr : f_X11_soon t_chain_places t_chain_deep t_chain_wheel t_chain_leaks t_chain_wants t_seek_doors t_seek_most t_seek_best t_seek_row a1 = some z) (sz : Nat) : Met l yX11_soon (.code yX11_soon cX11_soon 2 (some .int) :: WS) (rmH 25 0 0) (va_Pc [.ref q_t, .int a1] (PW dd g mv (w_X11_soon g q_t q_t_chain q_t_seek o_t_pad o_t_words o_t_sights o_t_images o_t_run o_t_hanging o_t_race o_t_widow o_t_came o_t_seek_chain t_changes t_fewestAt t_hungAt t_cameAt t_fewestPulls t_fewestRow t_chain_places t_chain_deep t_chain_turn t_chain_wheel t_chain_leaks t_chain_wants t_seek_doors t_seek_most t_seek_best t_seek_row) sz)) (Qo dd g (some (.int z.1)) (fun u : Value => (w_X11_soon g q_t q_t_chain q_t_seek o_t_pad o_t_words o_t_sights o_t_images o_t_run o_t_hanging o_t_race o_t_widow o_t_came u t_changes t_fewestAt t_hungAt t_cameAt t_fewestPulls t_fewestRow t_chain_places t_chain_deep t_chain_turn t_chain_wheel t_chain_leaks t_chain_wants z.2.1 z.2.2.1 z.2.2.2.1 z.2.2.2.2)) (va_A (w_X11_soon g q_t q_t_chain q_t_seek o_t_pad o_t_words o_t_sights o_t_images o_t_run o_t_hanging o_t_race o_t_widow o_t_came o_t_seek_chain t_changes t_fewestAt t_hungAt t_cameAt t_fewestPulls t_fewestRow t_chain_places t_chain_deep t_chain_turn t_chain_wheel t_chain_leaks t_chain_wants t_seek_doors t_seek_most t_seek_best t_seek_row) sz)) 0 0 (va_A (w_X11_soon g q_t q_t_chain q_t_seek o_t_pad o_t_words o_t_sights o_t_images o_t_run o_t_hanging o_t_race o_t_widow o_t_came o_t_seek_chain t_changes t_fewestAt t_hungAt t_cameAt t_fewestPulls t_fewestRow t_chain_places t_chain_deep t_chain_turn t_chain_wheel t_chain_leaks t_chain_wants t_seek_doors t_seek_most t_seek_best t_seek_row) sz) := by
  refine Met_intro (by decide) (Nat.le_of_ble_eq_true rfl) ?_
  intro p e s m below meth c A ls F hret hlk hin hw hl
  replace hl : lv_has ls 2 [(0, .ref q_t), (1, .int a1)] := hl
  refine lv_aload_n F.1 F.2.1 dX11_soon_0 rfl (lv_at hl 0 rfl) ?_
  refine lv_iload_n F.1 F.2.1 dX11_soon_1 rfl (lv_at hl 1 rfl) ?_
  obtain ⟨z1, hz1, hr⟩ := Option.bind_eq_some_iff.mp hr
  refine call_o (wr := [(q_t_seek, .inr (7, [o_t_seek_chain, .long t_seek_doors, .int t_seek_most, .int t_seek_best, .int t_seek_row]))]) (run_V (As := [.int a1]) (rest := []) F k_X11_115 (c_X11_isThere l dd g mv q_t q_t_chain o_t_pad o_t_words o_t_sights o_t_images o_t_run ((.ref q_t_seek)) o_t_hanging o_t_race o_t_widow o_t_came t_changes t_fewestAt t_hungAt t_cameAt t_fewestPulls t_fewestRow t_chain_places t_chain_deep t_chain_turn t_chain_wheel t_chain_leaks t_chain_wants a1 z1 hz1 _) hw [0, 1] (by decide) rfl (ci := 11) rfl rfl rfl rfl hl.1 rfl (Nat.le_of_ble_eq_true rfl) dX11_soon_2 ⟨Nat.le_of_ble_eq_true rfl, Nat.le_of_ble_eq_true rfl⟩ ⟨Nat.le_of_ble_eq_true rfl, Nat.le_of_ble_eq_true rfl⟩) hw [0, 1] [2] rfl rfl (by decide) (by decide) (fun u2 H locs hw => ?_)
  replace hw : Wd dd g mv A s H locs (w_X11_soon g q_t q_t_chain q_t_seek o_t_pad o_t_words o_t_sights o_t_images o_t_run o_t_hanging o_t_race o_t_widow o_t_came o_t_seek_chain t_changes t_fewestAt t_hungAt t_cameAt t_fewestPulls t_fewestRow t_chain_places t_chain_deep t_chain_turn t_chain_wheel t_chain_leaks t_chain_wants t_seek_doors t_seek_most t_seek_best t_seek_row) := hw.sub [1, 2, 0] (by decide) rfl
  refine W.eq (g2 := F0 m 5 ls (.int z1 :: [])) rfl ?_
  refine lv_if_ne (tgt := 10) F.1 F.2.1 dX11_soon_5 (by decide) (fun hc3 => ?_) (fun hc3 => ?_)
  · replace hr := (if_neg hc3).symm.trans hr
    refine lv_aload_n F.1 F.2.1 dX11_soon_10 rfl (lv_at hl 0 rfl) ?_
    refine gf_X11_54 F hw 0 rfl rfl dX11_soon_11 ?_
    refine lv_aload_n F.1 F.2.1 dX11_soon_14 rfl (lv_at hl 0 rfl) ?_
    refine gf_X11_19 F hw 0 rfl rfl dX11_soon_15 ?_
    refine lv_aload_n F.1 F.2.1 dX11_soon_18 rfl (lv_at hl 0 rfl) ?_
    refine gf_X11_19 F hw 0 rfl rfl dX11_soon_19 ?_
    refine gf_X11_129 F hw 1 rfl rfl dX11_soon_22 ?_
    refine lv_aload_n F.1 F.2.1 dX11_soon_25 rfl (lv_at hl 0 rfl) ?_
    refine gf_X11_19 F hw 0 rfl rfl dX11_soon_26 ?_
    refine gf_X11_141 F hw 1 rfl rfl dX11_soon_29 ?_
    refine lv_iload_n F.1 F.2.1 dX11_soon_32 rfl (lv_at hl 1 rfl) ?_
    obtain ⟨z4, hz4, hr⟩ := Option.bind_eq_some_iff.mp hr
    refine call_o (wr := [(q_t, .inr (11, [o_t_pad, .ref q_t_chain, o_t_words, o_t_sights, o_t_images, o_t_run, .ref q_t_seek, o_t_hanging, o_t_race, o_t_widow, o_t_came, .int t_changes, .int t_fewestAt, .int t_hungAt, .int t_cameAt, .int t_fewestPulls, .int t_fewestRow])), (q_t_chain, .inr (1, [.int t_chain_places, .int t_chain_deep, .int t_chain_turn, .long t_chain_wheel, .long t_chain_leaks, .long t_chain_wants])), (q_t_seek, .inr (7, [o_t_seek_chain, .long t_seek_doors, .int t_seek_most, .int t_seek_best, .int t_seek_row]))]) (run_S (As := [.int a1]) (rest := [.long t_chain_leaks, .long t_chain_wheel, .ref q_t_chain, .ref q_t_seek]) F k_X11_147 (c_X11_flag l dd g mv a1 z4 hz4 _) hw [] (by decide) rfl rfl hl.1 rfl (Nat.le_of_ble_eq_true rfl) dX11_soon_33 ⟨Nat.le_of_ble_eq_true rfl, Nat.le_of_ble_eq_true rfl⟩ ⟨Nat.le_of_ble_eq_true rfl, Nat.le_of_ble_eq_true rfl⟩) hw [] [0, 1, 2] rfl rfl (by decide) (by decide) (fun u5 H locs hw => ?_)
    replace hw : Wd dd g mv A s H locs (w_X11_soon g q_t q_t_chain q_t_seek o_t_pad o_t_words o_t_sights o_t_images o_t_run o_t_hanging o_t_race o_t_widow o_t_came o_t_seek_chain t_changes t_fewestAt t_hungAt t_cameAt t_fewestPulls t_fewestRow t_chain_places t_chain_deep t_chain_turn t_chain_wheel t_chain_leaks t_chain_wants t_seek_doors t_seek_most t_seek_best t_seek_row) := hw.sub [0, 1, 2] (by decide) rfl
    refine W.eq (g2 := F0 m 36 ls (.long z4 :: .long t_chain_leaks :: .long t_chain_wheel :: .ref q_t_chain :: .ref q_t_seek :: [])) rfl ?_
    refine lv_bipush (v := 14) F.1 F.2.1 dX11_soon_36 (by decide) ?_
    obtain ⟨z6, hz6, hr⟩ := Option.bind_eq_some_iff.mp hr
    refine call_o (wr := [(q_t, .inr (11, [o_t_pad, .ref q_t_chain, o_t_words, o_t_sights, o_t_images, o_t_run, .ref q_t_seek, o_t_hanging, o_t_race, o_t_widow, o_t_came, .int t_changes, .int t_fewestAt, .int t_hungAt, .int t_cameAt, .int t_fewestPulls, .int t_fewestRow]))]) (run_V (As := [.ref q_t_chain, .long t_chain_wheel, .long t_chain_leaks, .long z4, .int (14 : Int32)]) (rest := []) F k_X11_189 (c_X7_look l dd g mv q_t_seek q_t_chain o_t_seek_chain t_seek_doors t_seek_most t_seek_best t_seek_row t_chain_places t_chain_deep t_chain_turn t_chain_wheel t_chain_leaks t_chain_wants t_chain_wheel t_chain_leaks z4 ((14 : Int32)) z6 hz6 _) hw [2, 1] (by decide) rfl (ci := 7) rfl rfl rfl rfl hl.1 rfl (Nat.le_of_ble_eq_true rfl) dX11_soon_38 ⟨Nat.le_of_ble_eq_true rfl, Nat.le_of_ble_eq_true rfl⟩ ⟨Nat.le_of_ble_eq_true rfl, Nat.le_of_ble_eq_true rfl⟩) hw [2, 1] [0] rfl rfl (by decide) (by decide) (fun u7 H locs hw => ?_)
    replace hw : Wd dd g mv A s H locs (w_X11_soon g q_t q_t_chain q_t_seek o_t_pad o_t_words o_t_sights o_t_images o_t_run o_t_hanging o_t_race o_t_widow o_t_came ((.ref q_t_chain)) t_changes t_fewestAt t_hungAt t_cameAt t_fewestPulls t_fewestRow t_chain_places t_chain_deep t_chain_turn t_chain_wheel t_chain_leaks t_chain_wants z6.1 z6.2.1 z6.2.2.1 z6.2.2.2) := hw.sub [0, 2, 1] (by decide) rfl
    refine lv_aload_n F.1 F.2.1 dX11_soon_41 rfl (lv_at hl 0 rfl) ?_
    refine gf_X11_54 F hw 0 rfl rfl dX11_soon_42 ?_
    refine gf_X11_193 F hw 2 rfl rfl dX11_soon_45 ?_
    cases hr
    exact ret_i ((.ref q_t_chain)) F hret hlk hw (Nat.le_refl _) (Nat.le_refl _) dX11_soon_48
  · replace hr := (if_pos hc3).symm.trans hr
    refine lv_iconst (v := -1) F.1 F.2.1 dX11_soon_8 (by decide) ?_
    cases hr
    exact ret_i (o_t_seek_chain) F hret hlk hw (Nat.le_refl _) (Nat.le_refl _) dX11_soon_9
set_option maxHeartbeats 4000000 in
set_option maxRecDepth 100000 in
theorem b_X11_hung_49 {q_t q_t_chain q_t_hanging q_t_seek q_t_hanging_order q_t_hanging_bestOrder : Nat} {z : Int32 × Int32 × Int64 × Int32 × Int32 × Int64 × Int32 × Int32 × Int32 × (Nat → Int32) × (Nat → Int32)} (F : Fx p m c cX11_hung 2 s args RX11) (hret : meth.sig.returnType = some .int) (hlk : meth.locks = false) : ∀ {x1 : Int32} {t_hungAt : Int32} {t_chain_places : Int32} {t_hanging_wheel : Int64} {t_hanging_most : Int32} {t_hanging_best : Int32} {t_seek_doors : Int64} {t_seek_most : Int32} {t_seek_best : Int32} {t_seek_row : Int32} {t_hanging_order : Nat → Int32} {t_hanging_bestOrder : Nat → Int32} {t_changes : Int32} {t_fewestAt : Int32} {t_cameAt : Int32} {t_fewestPulls : Int32} {t_fewestRow : Int32} {t_chain_deep : Int32} {t_chain_turn : Int32} {t_chain_wheel : Int64} {t_chain_leaks : Int64} {t_chain_wants : Int64} {o_t_pad : Value} {o_t_words : Value} {o_t_sights : Value} {o_t_images : Value} {o_t_run : Value} {o_t_race : Value} {o_t_widow : Value} {o_t_came : Value} {o_t_hanging_chain : Value} {o_t_hanging_seek : Value} {o_t_seek_chain : Value} {H : Heap} {locs : List Loc} {ls : Array Slot}, f_X11_hung_49  x1 t_hungAt t_chain_places t_hanging_wheel t_hanging_most t_hanging_best t_seek_doors t_seek_most t_seek_best t_seek_row t_hanging_order t_hanging_bestOrder = some z → Wd dd g mv A s H locs (w_X11_hung g q_t q_t_chain q_t_hanging q_t_seek q_t_hanging_order q_t_hanging_bestOrder o_t_pad o_t_words o_t_sights o_t_images o_t_run o_t_race o_t_widow o_t_came o_t_hanging_chain o_t_hanging_seek o_t_seek_chain t_changes t_fewestAt t_hungAt t_cameAt t_fewestPulls t_fewestRow t_chain_places t_chain_deep t_chain_turn t_chain_wheel t_chain_leaks t_chain_wants t_hanging_wheel t_hanging_most t_hanging_best t_seek_doors t_seek_most t_seek_best t_seek_row t_hanging_order t_hanging_bestOrder) → lv_has ls 2 [(0, .ref q_t), (1, .int x1)] → W p l e (rmH (47) 0 0) s m args below meth c H locs 0 0 (MQ below (Qo dd g (some (.int z.1)) (fun u : Value × Value × Value => (w_X11_hung g q_t q_t_chain q_t_hanging q_t_seek q_t_hanging_order q_t_hanging_bestOrder o_t_pad o_t_words o_t_sights o_t_images o_t_run o_t_race o_t_widow o_t_came u.1 u.2.1 u.2.2 t_changes t_fewestAt z.2.1 t_cameAt t_fewestPulls t_fewestRow t_chain_places t_chain_deep t_chain_turn t_chain_wheel t_chain_leaks t_chain_wants z.2.2.1 z.2.2.2.1 z.2.2.2.2.1 z.2.2.2.2.2.1 z.2.2.2.2.2.2.1 z.2.2.2.2.2.2.2.1 z.2.2.2.2.2.2.2.2.1 z.2.2.2.2.2.2.2.2.2.1 z.2.2.2.2.2.2.2.2.2.2)) A) args s 0 0 A) (F0 m 49 ls []) := by
  intro x1 t_hungAt t_chain_places t_hanging_wheel t_hanging_most t_hanging_best t_seek_doors t_seek_most t_seek_best t_seek_row t_hanging_order t_hanging_bestOrder t_changes t_fewestAt t_cameAt t_fewestPulls t_fewestRow t_chain_deep t_chain_turn t_chain_wheel t_chain_leaks t_chain_wants o_t_pad o_t_words o_t_sights o_t_images o_t_run o_t_race o_t_widow o_t_came o_t_hanging_chain o_t_hanging_seek o_t_seek_chain H locs ls hr hw hl
  refine lv_iload_n F.1 F.2.1 dX11_hung_49 rfl (lv_at hl 1 rfl) ?_
  refine lv_iconst (v := -1) F.1 F.2.1 dX11_hung_50 (by decide) ?_
  refine lv_icmp_ne (tgt := 62) F.1 F.2.1 dX11_hung_51 (by decide) (fun hc1 => ?_) (fun hc1 => ?_)
  · replace hr := (if_neg hc1).symm.trans hr
    refine lv_aload_n F.1 F.2.1 dX11_hung_62 rfl (lv_at hl 0 rfl) ?_
    refine gf_X11_61 F hw 0 rfl rfl dX11_hung_63 ?_
    refine gf_X11_206 F hw 2 rfl rfl dX11_hung_66 ?_
    refine lv_bipush (v := -6) F.1 F.2.1 dX11_hung_69 (by decide) ?_
    refine lv_icmp_eq (tgt := 95) F.1 F.2.1 dX11_hung_71 (by decide) (fun hc2 => ?_) (fun hc2 => ?_)
    · replace hr := (if_pos hc2).symm.trans hr
      refine lv_bipush (v := -6) F.1 F.2.1 dX11_hung_95 (by decide) ?_
      cases hr
      exact ret_i (o_t_hanging_chain, o_t_hanging_seek, o_t_seek_chain) F hret hlk hw (Nat.le_refl _) (Nat.le_refl _) dX11_hung_97
    · replace hr := (if_neg hc2).symm.trans hr
      refine lv_iload_n F.1 F.2.1 dX11_hung_74 rfl (lv_at hl 1 rfl) ?_
      refine lv_if_lt (tgt := 95) F.1 F.2.1 dX11_hung_75 (by decide) (fun hc3 => ?_) (fun hc3 => ?_)
      · replace hr := (if_pos hc3).symm.trans hr
        refine lv_bipush (v := -6) F.1 F.2.1 dX11_hung_95 (by decide) ?_
        cases hr
        exact ret_i (o_t_hanging_chain, o_t_hanging_seek, o_t_seek_chain) F hret hlk hw (Nat.le_refl _) (Nat.le_refl _) dX11_hung_97
      · replace hr := (if_neg hc3).symm.trans hr
        refine lv_iload_n F.1 F.2.1 dX11_hung_78 rfl (lv_at hl 1 rfl) ?_
        refine lv_aload_n F.1 F.2.1 dX11_hung_79 rfl (lv_at hl 0 rfl) ?_
        refine gf_X11_19 F hw 0 rfl rfl dX11_hung_80 ?_
        refine gf_X11_105 F hw 1 rfl rfl dX11_hung_83 ?_
        refine lv_icmp_ge (tgt := 95) F.1 F.2.1 dX11_hung_86 (by decide) (fun hc4 => ?_) (fun hc4 => ?_)
        · replace hr := (if_pos hc4).symm.trans hr
          refine lv_bipush (v := -6) F.1 F.2.1 dX11_hung_95 (by decide) ?_
          cases hr
          exact ret_i (o_t_hanging_chain, o_t_hanging_seek, o_t_seek_chain) F hret hlk hw (Nat.le_refl _) (Nat.le_refl _) dX11_hung_97
        · replace hr := (if_neg hc4).symm.trans hr
          refine lv_iload_n F.1 F.2.1 dX11_hung_89 rfl (lv_at hl 1 rfl) ?_
          refine lv_bipush (v := 6) F.1 F.2.1 dX11_hung_90 (by decide) ?_
          refine lv_icmp_lt (tgt := 98) F.1 F.2.1 dX11_hung_92 (by decide) (fun hc5 => ?_) (fun hc5 => ?_)
          · replace hr := (if_pos hc5).symm.trans hr
            refine lv_aload_n F.1 F.2.1 dX11_hung_98 rfl (lv_at hl 0 rfl) ?_
            refine gf_X11_61 F hw 0 rfl rfl dX11_hung_99 ?_
            refine gf_X11_207 F hw 2 rfl rfl dX11_hung_102 ?_
            refine lv_iload_n F.1 F.2.1 dX11_hung_105 rfl (lv_at hl 1 rfl) ?_
            obtain ⟨hg6, hr⟩ := g_no hr
            refine ar_i F hw 5 rfl hg6 dX11_hung_106 ?_
            cases hr
            exact ret_i (o_t_hanging_chain, o_t_hanging_seek, o_t_seek_chain) F hret hlk hw (Nat.le_refl _) (Nat.le_refl _) dX11_hung_107
          · replace hr := (if_neg hc5).symm.trans hr
            refine lv_bipush (v := -6) F.1 F.2.1 dX11_hung_95 (by decide) ?_
            cases hr
            exact ret_i (o_t_hanging_chain, o_t_hanging_seek, o_t_seek_chain) F hret hlk hw (Nat.le_refl _) (Nat.le_refl _) dX11_hung_97
  · replace hr := (if_pos hc1).symm.trans hr
    refine lv_aload_n F.1 F.2.1 dX11_hung_54 rfl (lv_at hl 0 rfl) ?_
    refine gf_X11_61 F hw 0 rfl rfl dX11_hung_55 ?_
    refine gf_X11_206 F hw 2 rfl rfl dX11_hung_58 ?_
    cases hr
    exact ret_i (o_t_hanging_chain, o_t_hanging_seek, o_t_seek_chain) F hret hlk hw (Nat.le_refl _) (Nat.le_refl _) dX11_hung_61
set_option maxHeartbeats 4000000 in
set_option maxRecDepth 100000 in
theorem c_X11_hung (l : Launch) (dd : va_G) (g : Nat → ClassId) (mv : Nat) (q_t : Nat) (q_t_chain : Nat) (q_t_hanging : Nat) (q_t_seek : Nat) (q_t_hanging_order : Nat) (q_t_hanging_bestOrder : Nat) (o_t_pad : Value) (o_t_words : Value) (o_t_sights : Value) (o_t_images : Value) (o_t_run : Value) (o_t_race : Value) (o_t_widow : Value) (o_t_came : Value) (o_t_hanging_chain : Value) (o_t_hanging_seek : Value) (o_t_seek_chain : Value) (t_changes : Int32) (t_fewestAt : Int32) (t_hungAt : Int32) (t_cameAt : Int32) (t_fewestPulls : Int32) (t_fewestRow : Int32) (t_chain_places : Int32) (t_chain_deep : Int32) (t_chain_turn : Int32) (t_chain_wheel : Int64) (t_chain_leaks : Int64) (t_chain_wants : Int64) (t_hanging_wheel : Int64) (t_hanging_most : Int32) (t_hanging_best : Int32) (t_seek_doors : Int64) (t_seek_most : Int32) (t_seek_best : Int32) (t_seek_row : Int32) (t_hanging_order : Nat → Int32) (t_hanging_bestOrder : Nat → Int32) (a1 : Int32) (z : Int32 × Int32 × Int64 × Int32 × Int32 × Int64 × Int32 × Int32 × Int32 × (Nat → Int32) × (Nat → Int32)) (hr : f_X11_hung t_changes t_hungAt t_chain_places t_chain_deep t_chain_turn t_chain_wheel t_chain_leaks t_chain_wants t_hanging_wheel t_hanging_most t_hanging_best t_seek_doors t_seek_most t_seek_best t_seek_row t_hanging_order t_hanging_bestOrder a1 = some z) (sz : Nat) : Met l yX11_hung (.code yX11_hung cX11_hung 2 (some .int) :: WS) (rmH 47 0 0) (va_Pc [.ref q_t, .int a1] (PW dd g mv (w_X11_hung g q_t q_t_chain q_t_hanging q_t_seek q_t_hanging_order q_t_hanging_bestOrder o_t_pad o_t_words o_t_sights o_t_images o_t_run o_t_race o_t_widow o_t_came o_t_hanging_chain o_t_hanging_seek o_t_seek_chain t_changes t_fewestAt t_hungAt t_cameAt t_fewestPulls t_fewestRow t_chain_places t_chain_deep t_chain_turn t_chain_wheel t_chain_leaks t_chain_wants t_hanging_wheel t_hanging_most t_hanging_best t_seek_doors t_seek_most t_seek_best t_seek_row t_hanging_order t_hanging_bestOrder) sz)) (Qo dd g (some (.int z.1)) (fun u : Value × Value × Value => (w_X11_hung g q_t q_t_chain q_t_hanging q_t_seek q_t_hanging_order q_t_hanging_bestOrder o_t_pad o_t_words o_t_sights o_t_images o_t_run o_t_race o_t_widow o_t_came u.1 u.2.1 u.2.2 t_changes t_fewestAt z.2.1 t_cameAt t_fewestPulls t_fewestRow t_chain_places t_chain_deep t_chain_turn t_chain_wheel t_chain_leaks t_chain_wants z.2.2.1 z.2.2.2.1 z.2.2.2.2.1 z.2.2.2.2.2.1 z.2.2.2.2.2.2.1 z.2.2.2.2.2.2.2.1 z.2.2.2.2.2.2.2.2.1 z.2.2.2.2.2.2.2.2.2.1 z.2.2.2.2.2.2.2.2.2.2)) (va_A (w_X11_hung g q_t q_t_chain q_t_hanging q_t_seek q_t_hanging_order q_t_hanging_bestOrder o_t_pad o_t_words o_t_sights o_t_images o_t_run o_t_race o_t_widow o_t_came o_t_hanging_chain o_t_hanging_seek o_t_seek_chain t_changes t_fewestAt t_hungAt t_cameAt t_fewestPulls t_fewestRow t_chain_places t_chain_deep t_chain_turn t_chain_wheel t_chain_leaks t_chain_wants t_hanging_wheel t_hanging_most t_hanging_best t_seek_doors t_seek_most t_seek_best t_seek_row t_hanging_order t_hanging_bestOrder) sz)) 0 0 (va_A (w_X11_hung g q_t q_t_chain q_t_hanging q_t_seek q_t_hanging_order q_t_hanging_bestOrder o_t_pad o_t_words o_t_sights o_t_images o_t_run o_t_race o_t_widow o_t_came o_t_hanging_chain o_t_hanging_seek o_t_seek_chain t_changes t_fewestAt t_hungAt t_cameAt t_fewestPulls t_fewestRow t_chain_places t_chain_deep t_chain_turn t_chain_wheel t_chain_leaks t_chain_wants t_hanging_wheel t_hanging_most t_hanging_best t_seek_doors t_seek_most t_seek_best t_seek_row t_hanging_order t_hanging_bestOrder) sz) := by
  refine Met_intro (by decide) (Nat.le_of_ble_eq_true rfl) ?_
  intro p e s m below meth c A ls F hret hlk hin hw hl
  replace hl : lv_has ls 2 [(0, .ref q_t), (1, .int a1)] := hl
  refine lv_aload_n F.1 F.2.1 dX11_hung_0 rfl (lv_at hl 0 rfl) ?_
  refine gf_X11_19 F hw 0 rfl rfl dX11_hung_1 ?_
  refine gf_X11_105 F hw 1 rfl rfl dX11_hung_4 ?_
  refine lv_bipush (v := 6) F.1 F.2.1 dX11_hung_7 (by decide) ?_
  refine lv_icmp_le (tgt := 15) F.1 F.2.1 dX11_hung_9 (by decide) (fun hc7 => ?_) (fun hc7 => ?_)
  · replace hr := (if_pos hc7).symm.trans hr
    refine lv_aload_n F.1 F.2.1 dX11_hung_15 rfl (lv_at hl 0 rfl) ?_
    refine gf_X11_93 F hw 0 rfl rfl dX11_hung_16 ?_
    refine lv_aload_n F.1 F.2.1 dX11_hung_19 rfl (lv_at hl 0 rfl) ?_
    refine gf_X11_86 F hw 0 rfl rfl dX11_hung_20 ?_
    refine lv_icmp_eq (tgt := 49) F.1 F.2.1 dX11_hung_23 (by decide) (fun hc8 => ?_) (fun hc8 => ?_)
    · replace hr := (if_pos hc8).symm.trans hr
      exact b_X11_hung_49 F hret hlk  hr hw (lv_sub hl [0, 1] rfl)
    · replace hr := (if_neg hc8).symm.trans hr
      refine lv_aload_n F.1 F.2.1 dX11_hung_26 rfl (lv_at hl 0 rfl) ?_
      refine gf_X11_61 F hw 0 rfl rfl dX11_hung_27 ?_
      refine lv_aload_n F.1 F.2.1 dX11_hung_30 rfl (lv_at hl 0 rfl) ?_
      refine gf_X11_19 F hw 0 rfl rfl dX11_hung_31 ?_
      refine lv_aload_n F.1 F.2.1 dX11_hung_34 rfl (lv_at hl 0 rfl) ?_
      refine gf_X11_54 F hw 0 rfl rfl dX11_hung_35 ?_
      obtain ⟨z9, hz9, hr⟩ := Option.bind_eq_some_iff.mp hr
      refine call_o (wr := [(q_t, .inr (11, [o_t_pad, .ref q_t_chain, o_t_words, o_t_sights, o_t_images, o_t_run, .ref q_t_seek, .ref q_t_hanging, o_t_race, o_t_widow, o_t_came, .int t_changes, .int t_fewestAt, .int t_hungAt, .int t_cameAt, .int t_fewestPulls, .int t_fewestRow]))]) (run_V (As := [.ref q_t_chain, .ref q_t_seek]) (rest := []) F k_X11_203 (c_X2_look l dd g mv q_t_hanging q_t_chain q_t_seek q_t_hanging_order q_t_hanging_bestOrder o_t_hanging_chain o_t_hanging_seek o_t_seek_chain t_hanging_wheel t_hanging_most t_hanging_best t_chain_places t_chain_deep t_chain_turn t_chain_wheel t_chain_leaks t_chain_wants t_seek_doors t_seek_most t_seek_best t_seek_row t_hanging_order t_hanging_bestOrder z9 hz9 _) hw [2, 1, 3, 4, 5] (by decide) rfl (ci := 2) rfl rfl rfl rfl hl.1 rfl (Nat.le_of_ble_eq_true rfl) dX11_hung_38 ⟨Nat.le_of_ble_eq_true rfl, Nat.le_of_ble_eq_true rfl⟩ ⟨Nat.le_of_ble_eq_true rfl, Nat.le_of_ble_eq_true rfl⟩) hw [2, 1, 3, 4, 5] [0] rfl rfl (by decide) (by decide) (fun u10 H locs hw => ?_)
      replace hw : Wd dd g mv A s H locs (w_X11_hung g q_t q_t_chain q_t_hanging q_t_seek q_t_hanging_order q_t_hanging_bestOrder o_t_pad o_t_words o_t_sights o_t_images o_t_run o_t_race o_t_widow o_t_came ((.ref q_t_chain)) ((.ref q_t_seek)) u10 t_changes t_fewestAt t_hungAt t_cameAt t_fewestPulls t_fewestRow t_chain_places t_chain_deep t_chain_turn t_chain_wheel t_chain_leaks t_chain_wants z9.1 z9.2.1 z9.2.2.1 z9.2.2.2.1 z9.2.2.2.2.1 z9.2.2.2.2.2.1 z9.2.2.2.2.2.2.1 z9.2.2.2.2.2.2.2.1 z9.2.2.2.2.2.2.2.2) := hw.sub [0, 2, 1, 3, 4, 5] (by decide) rfl
      refine lv_aload_n F.1 F.2.1 dX11_hung_41 rfl (lv_at hl 0 rfl) ?_
      refine lv_aload_n F.1 F.2.1 dX11_hung_42 rfl (lv_at hl 0 rfl) ?_
      refine gf_X11_86 F hw 0 rfl rfl dX11_hung_43 ?_
      refine pf_X11_93 F hw 0 rfl (Nat.le_of_ble_eq_true rfl) dX11_hung_46 (fun H locs hw => ?_)
      replace hw : Wd dd g mv A s H locs (w_X11_hung g q_t q_t_chain q_t_hanging q_t_seek q_t_hanging_order q_t_hanging_bestOrder o_t_pad o_t_words o_t_sights o_t_images o_t_run o_t_race o_t_widow o_t_came ((.ref q_t_chain)) ((.ref q_t_seek)) u10 t_changes t_fewestAt t_changes t_cameAt t_fewestPulls t_fewestRow t_chain_places t_chain_deep t_chain_turn t_chain_wheel t_chain_leaks t_chain_wants z9.1 z9.2.1 z9.2.2.1 z9.2.2.2.1 z9.2.2.2.2.1 z9.2.2.2.2.2.1 z9.2.2.2.2.2.2.1 z9.2.2.2.2.2.2.2.1 z9.2.2.2.2.2.2.2.2) := hw
      exact b_X11_hung_49 F hret hlk  hr hw (lv_sub hl [0, 1] rfl)
  · replace hr := (if_neg hc7).symm.trans hr
    refine lv_bipush (v := -4) F.1 F.2.1 dX11_hung_12 (by decide) ?_
    cases hr
    exact ret_i (o_t_hanging_chain, o_t_hanging_seek, o_t_seek_chain) F hret hlk hw (Nat.le_refl _) (Nat.le_refl _) dX11_hung_14
set_option maxHeartbeats 4000000 in
set_option maxRecDepth 100000 in
theorem c_X11_race (l : Launch) (dd : va_G) (g : Nat → ClassId) (mv : Nat) (q_t : Nat) (q_t_chain : Nat) (q_t_race : Nat) (o_t_pad : Value) (o_t_words : Value) (o_t_sights : Value) (o_t_images : Value) (o_t_run : Value) (o_t_seek : Value) (o_t_hanging : Value) (o_t_widow : Value) (o_t_came : Value) (o_t_race_chain : Value) (t_changes : Int32) (t_fewestAt : Int32) (t_hungAt : Int32) (t_cameAt : Int32) (t_fewestPulls : Int32) (t_fewestRow : Int32) (t_chain_places : Int32) (t_chain_deep : Int32) (t_chain_turn : Int32) (t_chain_wheel : Int64) (t_chain_leaks : Int64) (t_chain_wants : Int64) (t_race_firstDoor : Int64) (t_race_secondDoor : Int64) (t_race_all : Int32) (a1 : Int32) (a2 : Int32) (a3 : Int32) (z : Int32 × Int64 × Int64 × Int32) (hr : f_X11_race t_chain_places t_chain_deep t_chain_wheel t_chain_leaks t_chain_wants t_race_firstDoor t_race_secondDoor t_race_all a1 a2 a3 = some z) (sz : Nat) : Met l yX11_race (.code yX11_race cX11_race 4 (some .int) :: WS) (rmH 25 0 0) (va_Pc [.ref q_t, .int a1, .int a2, .int a3] (PW dd g mv (w_X11_race g q_t q_t_chain q_t_race o_t_pad o_t_words o_t_sights o_t_images o_t_run o_t_seek o_t_hanging o_t_widow o_t_came o_t_race_chain t_changes t_fewestAt t_hungAt t_cameAt t_fewestPulls t_fewestRow t_chain_places t_chain_deep t_chain_turn t_chain_wheel t_chain_leaks t_chain_wants t_race_firstDoor t_race_secondDoor t_race_all) sz)) (Qo dd g (some (.int z.1)) (fun u : Value => (w_X11_race g q_t q_t_chain q_t_race o_t_pad o_t_words o_t_sights o_t_images o_t_run o_t_seek o_t_hanging o_t_widow o_t_came u t_changes t_fewestAt t_hungAt t_cameAt t_fewestPulls t_fewestRow t_chain_places t_chain_deep t_chain_turn t_chain_wheel t_chain_leaks t_chain_wants z.2.1 z.2.2.1 z.2.2.2)) (va_A (w_X11_race g q_t q_t_chain q_t_race o_t_pad o_t_words o_t_sights o_t_images o_t_run o_t_seek o_t_hanging o_t_widow o_t_came o_t_race_chain t_changes t_fewestAt t_hungAt t_cameAt t_fewestPulls t_fewestRow t_chain_places t_chain_deep t_chain_turn t_chain_wheel t_chain_leaks t_chain_wants t_race_firstDoor t_race_secondDoor t_race_all) sz)) 0 0 (va_A (w_X11_race g q_t q_t_chain q_t_race o_t_pad o_t_words o_t_sights o_t_images o_t_run o_t_seek o_t_hanging o_t_widow o_t_came o_t_race_chain t_changes t_fewestAt t_hungAt t_cameAt t_fewestPulls t_fewestRow t_chain_places t_chain_deep t_chain_turn t_chain_wheel t_chain_leaks t_chain_wants t_race_firstDoor t_race_secondDoor t_race_all) sz) := by
  refine Met_intro (by decide) (Nat.le_of_ble_eq_true rfl) ?_
  intro p e s m below meth c A ls F hret hlk hin hw hl
  replace hl : lv_has ls 4 [(0, .ref q_t), (1, .int a1), (2, .int a2), (3, .int a3)] := hl
  refine lv_aload_n F.1 F.2.1 dX11_race_0 rfl (lv_at hl 0 rfl) ?_
  refine lv_iload_n F.1 F.2.1 dX11_race_1 rfl (lv_at hl 1 rfl) ?_
  obtain ⟨z1, hz1, hr⟩ := Option.bind_eq_some_iff.mp hr
  refine call_o (wr := [(q_t_race, .inr (5, [o_t_race_chain, .long t_race_firstDoor, .long t_race_secondDoor, .int t_race_all]))]) (run_V (As := [.int a1]) (rest := []) F k_X11_115 (c_X11_isThere l dd g mv q_t q_t_chain o_t_pad o_t_words o_t_sights o_t_images o_t_run o_t_seek o_t_hanging ((.ref q_t_race)) o_t_widow o_t_came t_changes t_fewestAt t_hungAt t_cameAt t_fewestPulls t_fewestRow t_chain_places t_chain_deep t_chain_turn t_chain_wheel t_chain_leaks t_chain_wants a1 z1 hz1 _) hw [0, 1] (by decide) rfl (ci := 11) rfl rfl rfl rfl hl.1 rfl (Nat.le_of_ble_eq_true rfl) dX11_race_2 ⟨Nat.le_of_ble_eq_true rfl, Nat.le_of_ble_eq_true rfl⟩ ⟨Nat.le_of_ble_eq_true rfl, Nat.le_of_ble_eq_true rfl⟩) hw [0, 1] [2] rfl rfl (by decide) (by decide) (fun u2 H locs hw => ?_)
  replace hw : Wd dd g mv A s H locs (w_X11_race g q_t q_t_chain q_t_race o_t_pad o_t_words o_t_sights o_t_images o_t_run o_t_seek o_t_hanging o_t_widow o_t_came o_t_race_chain t_changes t_fewestAt t_hungAt t_cameAt t_fewestPulls t_fewestRow t_chain_places t_chain_deep t_chain_turn t_chain_wheel t_chain_leaks t_chain_wants t_race_firstDoor t_race_secondDoor t_race_all) := hw.sub [1, 2, 0] (by decide) rfl
  refine W.eq (g2 := F0 m 5 ls (.int z1 :: [])) rfl ?_
  refine lv_if_eq (tgt := 21) F.1 F.2.1 dX11_race_5 (by decide) (fun hc3 => ?_) (fun hc3 => ?_)
  · replace hr := (if_pos hc3).symm.trans hr
    refine lv_iconst (v := -1) F.1 F.2.1 dX11_race_21 (by decide) ?_
    cases hr
    exact ret_i (o_t_race_chain) F hret hlk hw (Nat.le_refl _) (Nat.le_refl _) dX11_race_22
  · replace hr := (if_neg hc3).symm.trans hr
    refine lv_aload_n F.1 F.2.1 dX11_race_8 rfl (lv_at hl 0 rfl) ?_
    refine lv_iload_n F.1 F.2.1 dX11_race_9 rfl (lv_at hl 2 rfl) ?_
    obtain ⟨z4, hz4, hr⟩ := Option.bind_eq_some_iff.mp hr
    refine call_o (wr := [(q_t_race, .inr (5, [o_t_race_chain, .long t_race_firstDoor, .long t_race_secondDoor, .int t_race_all]))]) (run_V (As := [.int a2]) (rest := []) F k_X11_115 (c_X11_isThere l dd g mv q_t q_t_chain o_t_pad o_t_words o_t_sights o_t_images o_t_run o_t_seek o_t_hanging ((.ref q_t_race)) o_t_widow o_t_came t_changes t_fewestAt t_hungAt t_cameAt t_fewestPulls t_fewestRow t_chain_places t_chain_deep t_chain_turn t_chain_wheel t_chain_leaks t_chain_wants a2 z4 hz4 _) hw [0, 1] (by decide) rfl (ci := 11) rfl rfl rfl rfl hl.1 rfl (Nat.le_of_ble_eq_true rfl) dX11_race_10 ⟨Nat.le_of_ble_eq_true rfl, Nat.le_of_ble_eq_true rfl⟩ ⟨Nat.le_of_ble_eq_true rfl, Nat.le_of_ble_eq_true rfl⟩) hw [0, 1] [2] rfl rfl (by decide) (by decide) (fun u5 H locs hw => ?_)
    replace hw : Wd dd g mv A s H locs (w_X11_race g q_t q_t_chain q_t_race o_t_pad o_t_words o_t_sights o_t_images o_t_run o_t_seek o_t_hanging o_t_widow o_t_came o_t_race_chain t_changes t_fewestAt t_hungAt t_cameAt t_fewestPulls t_fewestRow t_chain_places t_chain_deep t_chain_turn t_chain_wheel t_chain_leaks t_chain_wants t_race_firstDoor t_race_secondDoor t_race_all) := hw.sub [1, 2, 0] (by decide) rfl
    refine W.eq (g2 := F0 m 13 ls (.int z4 :: [])) rfl ?_
    refine lv_if_eq (tgt := 21) F.1 F.2.1 dX11_race_13 (by decide) (fun hc6 => ?_) (fun hc6 => ?_)
    · replace hr := (if_pos hc6).symm.trans hr
      refine lv_iconst (v := -1) F.1 F.2.1 dX11_race_21 (by decide) ?_
      cases hr
      exact ret_i (o_t_race_chain) F hret hlk hw (Nat.le_refl _) (Nat.le_refl _) dX11_race_22
    · replace hr := (if_neg hc6).symm.trans hr
      refine lv_iload_n F.1 F.2.1 dX11_race_16 rfl (lv_at hl 1 rfl) ?_
      refine lv_iload_n F.1 F.2.1 dX11_race_17 rfl (lv_at hl 2 rfl) ?_
      refine lv_icmp_ne (tgt := 23) F.1 F.2.1 dX11_race_18 (by decide) (fun hc7 => ?_) (fun hc7 => ?_)
      · replace hr := (if_neg hc7).symm.trans hr
        refine lv_iload_n F.1 F.2.1 dX11_race_23 rfl (lv_at hl 3 rfl) ?_
        refine lv_iconst (v := 1) F.1 F.2.1 dX11_race_24 (by decide) ?_
        refine lv_icmp_lt (tgt := 34) F.1 F.2.1 dX11_race_25 (by decide) (fun hc8 => ?_) (fun hc8 => ?_)
        · replace hr := (if_pos hc8).symm.trans hr
          refine lv_bipush (v := -2) F.1 F.2.1 dX11_race_34 (by decide) ?_
          cases hr
          exact ret_i (o_t_race_chain) F hret hlk hw (Nat.le_refl _) (Nat.le_refl _) dX11_race_36
        · replace hr := (if_neg hc8).symm.trans hr
          refine lv_iload_n F.1 F.2.1 dX11_race_28 rfl (lv_at hl 3 rfl) ?_
          refine lv_bipush (v := 10) F.1 F.2.1 dX11_race_29 (by decide) ?_
          refine lv_icmp_le (tgt := 37) F.1 F.2.1 dX11_race_31 (by decide) (fun hc9 => ?_) (fun hc9 => ?_)
          · replace hr := (if_pos hc9).symm.trans hr
            refine lv_aload_n F.1 F.2.1 dX11_race_37 rfl (lv_at hl 0 rfl) ?_
            refine gf_X11_19 F hw 0 rfl rfl dX11_race_38 ?_
            refine gf_X11_129 F hw 1 rfl rfl dX11_race_41 ?_
            refine lv_iload_n F.1 F.2.1 dX11_race_44 rfl (lv_at hl 1 rfl) ?_
            obtain ⟨z10, hz10, hr⟩ := Option.bind_eq_some_iff.mp hr
            refine call_o (wr := [(q_t, .inr (11, [o_t_pad, .ref q_t_chain, o_t_words, o_t_sights, o_t_images, o_t_run, o_t_seek, o_t_hanging, .ref q_t_race, o_t_widow, o_t_came, .int t_changes, .int t_fewestAt, .int t_hungAt, .int t_cameAt, .int t_fewestPulls, .int t_fewestRow])), (q_t_chain, .inr (1, [.int t_chain_places, .int t_chain_deep, .int t_chain_turn, .long t_chain_wheel, .long t_chain_leaks, .long t_chain_wants])), (q_t_race, .inr (5, [o_t_race_chain, .long t_race_firstDoor, .long t_race_secondDoor, .int t_race_all]))]) (run_S (As := [.int a1]) (rest := [.long t_chain_wheel]) F k_X11_147 (c_X11_flag l dd g mv a1 z10 hz10 _) hw [] (by decide) rfl rfl hl.1 rfl (Nat.le_of_ble_eq_true rfl) dX11_race_45 ⟨Nat.le_of_ble_eq_true rfl, Nat.le_of_ble_eq_true rfl⟩ ⟨Nat.le_of_ble_eq_true rfl, Nat.le_of_ble_eq_true rfl⟩) hw [] [0, 1, 2] rfl rfl (by decide) (by decide) (fun u11 H locs hw => ?_)
            replace hw : Wd dd g mv A s H locs (w_X11_race g q_t q_t_chain q_t_race o_t_pad o_t_words o_t_sights o_t_images o_t_run o_t_seek o_t_hanging o_t_widow o_t_came o_t_race_chain t_changes t_fewestAt t_hungAt t_cameAt t_fewestPulls t_fewestRow t_chain_places t_chain_deep t_chain_turn t_chain_wheel t_chain_leaks t_chain_wants t_race_firstDoor t_race_secondDoor t_race_all) := hw.sub [0, 1, 2] (by decide) rfl
            refine W.eq (g2 := F0 m 48 ls (.long z10 :: .long t_chain_wheel :: [])) rfl ?_
            refine lv_land F.1 F.2.1 dX11_race_48 ?_
            refine lv_lconst (v := 0) F.1 F.2.1 dX11_race_49 (by decide) ?_
            refine W.lcmp F.1 F.2.1 dX11_race_50 ?_
            refine lv_if_eq (tgt := 71) F.1 F.2.1 dX11_race_51 (by decide) (fun hc12 => ?_) (fun hc12 => ?_)
            · replace hr := (if_pos hc12).symm.trans hr
              refine lv_bipush (v := -3) F.1 F.2.1 dX11_race_71 (by decide) ?_
              cases hr
              exact ret_i (o_t_race_chain) F hret hlk hw (Nat.le_refl _) (Nat.le_refl _) dX11_race_73
            · replace hr := (if_neg hc12).symm.trans hr
              refine lv_aload_n F.1 F.2.1 dX11_race_54 rfl (lv_at hl 0 rfl) ?_
              refine gf_X11_19 F hw 0 rfl rfl dX11_race_55 ?_
              refine gf_X11_129 F hw 1 rfl rfl dX11_race_58 ?_
              refine lv_iload_n F.1 F.2.1 dX11_race_61 rfl (lv_at hl 2 rfl) ?_
              obtain ⟨z13, hz13, hr⟩ := Option.bind_eq_some_iff.mp hr
              refine call_o (wr := [(q_t, .inr (11, [o_t_pad, .ref q_t_chain, o_t_words, o_t_sights, o_t_images, o_t_run, o_t_seek, o_t_hanging, .ref q_t_race, o_t_widow, o_t_came, .int t_changes, .int t_fewestAt, .int t_hungAt, .int t_cameAt, .int t_fewestPulls, .int t_fewestRow])), (q_t_chain, .inr (1, [.int t_chain_places, .int t_chain_deep, .int t_chain_turn, .long t_chain_wheel, .long t_chain_leaks, .long t_chain_wants])), (q_t_race, .inr (5, [o_t_race_chain, .long t_race_firstDoor, .long t_race_secondDoor, .int t_race_all]))]) (run_S (As := [.int a2]) (rest := [.long t_chain_wheel]) F k_X11_147 (c_X11_flag l dd g mv a2 z13 hz13 _) hw [] (by decide) rfl rfl hl.1 rfl (Nat.le_of_ble_eq_true rfl) dX11_race_62 ⟨Nat.le_of_ble_eq_true rfl, Nat.le_of_ble_eq_true rfl⟩ ⟨Nat.le_of_ble_eq_true rfl, Nat.le_of_ble_eq_true rfl⟩) hw [] [0, 1, 2] rfl rfl (by decide) (by decide) (fun u14 H locs hw => ?_)
              replace hw : Wd dd g mv A s H locs (w_X11_race g q_t q_t_chain q_t_race o_t_pad o_t_words o_t_sights o_t_images o_t_run o_t_seek o_t_hanging o_t_widow o_t_came o_t_race_chain t_changes t_fewestAt t_hungAt t_cameAt t_fewestPulls t_fewestRow t_chain_places t_chain_deep t_chain_turn t_chain_wheel t_chain_leaks t_chain_wants t_race_firstDoor t_race_secondDoor t_race_all) := hw.sub [0, 1, 2] (by decide) rfl
              refine W.eq (g2 := F0 m 65 ls (.long z13 :: .long t_chain_wheel :: [])) rfl ?_
              refine lv_land F.1 F.2.1 dX11_race_65 ?_
              refine lv_lconst (v := 0) F.1 F.2.1 dX11_race_66 (by decide) ?_
              refine W.lcmp F.1 F.2.1 dX11_race_67 ?_
              refine lv_if_ne (tgt := 74) F.1 F.2.1 dX11_race_68 (by decide) (fun hc15 => ?_) (fun hc15 => ?_)
              · replace hr := (if_neg hc15).symm.trans hr
                refine lv_aload_n F.1 F.2.1 dX11_race_74 rfl (lv_at hl 0 rfl) ?_
                refine gf_X11_68 F hw 0 rfl rfl dX11_race_75 ?_
                refine lv_aload_n F.1 F.2.1 dX11_race_78 rfl (lv_at hl 0 rfl) ?_
                refine gf_X11_19 F hw 0 rfl rfl dX11_race_79 ?_
                refine lv_iload_n F.1 F.2.1 dX11_race_82 rfl (lv_at hl 1 rfl) ?_
                obtain ⟨z16, hz16, hr⟩ := Option.bind_eq_some_iff.mp hr
                refine call_o (wr := [(q_t, .inr (11, [o_t_pad, .ref q_t_chain, o_t_words, o_t_sights, o_t_images, o_t_run, o_t_seek, o_t_hanging, .ref q_t_race, o_t_widow, o_t_came, .int t_changes, .int t_fewestAt, .int t_hungAt, .int t_cameAt, .int t_fewestPulls, .int t_fewestRow])), (q_t_chain, .inr (1, [.int t_chain_places, .int t_chain_deep, .int t_chain_turn, .long t_chain_wheel, .long t_chain_leaks, .long t_chain_wants])), (q_t_race, .inr (5, [o_t_race_chain, .long t_race_firstDoor, .long t_race_secondDoor, .int t_race_all]))]) (run_S (As := [.int a1]) (rest := [.ref q_t_chain, .ref q_t_race]) F k_X11_147 (c_X11_flag l dd g mv a1 z16 hz16 _) hw [] (by decide) rfl rfl hl.1 rfl (Nat.le_of_ble_eq_true rfl) dX11_race_83 ⟨Nat.le_of_ble_eq_true rfl, Nat.le_of_ble_eq_true rfl⟩ ⟨Nat.le_of_ble_eq_true rfl, Nat.le_of_ble_eq_true rfl⟩) hw [] [0, 1, 2] rfl rfl (by decide) (by decide) (fun u17 H locs hw => ?_)
                replace hw : Wd dd g mv A s H locs (w_X11_race g q_t q_t_chain q_t_race o_t_pad o_t_words o_t_sights o_t_images o_t_run o_t_seek o_t_hanging o_t_widow o_t_came o_t_race_chain t_changes t_fewestAt t_hungAt t_cameAt t_fewestPulls t_fewestRow t_chain_places t_chain_deep t_chain_turn t_chain_wheel t_chain_leaks t_chain_wants t_race_firstDoor t_race_secondDoor t_race_all) := hw.sub [0, 1, 2] (by decide) rfl
                refine W.eq (g2 := F0 m 86 ls (.long z16 :: .ref q_t_chain :: .ref q_t_race :: [])) rfl ?_
                refine lv_iload_n F.1 F.2.1 dX11_race_86 rfl (lv_at hl 2 rfl) ?_
                obtain ⟨z18, hz18, hr⟩ := Option.bind_eq_some_iff.mp hr
                refine call_o (wr := [(q_t, .inr (11, [o_t_pad, .ref q_t_chain, o_t_words, o_t_sights, o_t_images, o_t_run, o_t_seek, o_t_hanging, .ref q_t_race, o_t_widow, o_t_came, .int t_changes, .int t_fewestAt, .int t_hungAt, .int t_cameAt, .int t_fewestPulls, .int t_fewestRow])), (q_t_chain, .inr (1, [.int t_chain_places, .int t_chain_deep, .int t_chain_turn, .long t_chain_wheel, .long t_chain_leaks, .long t_chain_wants])), (q_t_race, .inr (5, [o_t_race_chain, .long t_race_firstDoor, .long t_race_secondDoor, .int t_race_all]))]) (run_S (As := [.int a2]) (rest := [.long z16, .ref q_t_chain, .ref q_t_race]) F k_X11_147 (c_X11_flag l dd g mv a2 z18 hz18 _) hw [] (by decide) rfl rfl hl.1 rfl (Nat.le_of_ble_eq_true rfl) dX11_race_87 ⟨Nat.le_of_ble_eq_true rfl, Nat.le_of_ble_eq_true rfl⟩ ⟨Nat.le_of_ble_eq_true rfl, Nat.le_of_ble_eq_true rfl⟩) hw [] [0, 1, 2] rfl rfl (by decide) (by decide) (fun u19 H locs hw => ?_)
                replace hw : Wd dd g mv A s H locs (w_X11_race g q_t q_t_chain q_t_race o_t_pad o_t_words o_t_sights o_t_images o_t_run o_t_seek o_t_hanging o_t_widow o_t_came o_t_race_chain t_changes t_fewestAt t_hungAt t_cameAt t_fewestPulls t_fewestRow t_chain_places t_chain_deep t_chain_turn t_chain_wheel t_chain_leaks t_chain_wants t_race_firstDoor t_race_secondDoor t_race_all) := hw.sub [0, 1, 2] (by decide) rfl
                refine W.eq (g2 := F0 m 90 ls (.long z18 :: .long z16 :: .ref q_t_chain :: .ref q_t_race :: [])) rfl ?_
                refine lv_iload_n F.1 F.2.1 dX11_race_90 rfl (lv_at hl 3 rfl) ?_
                obtain ⟨z20, hz20, hr⟩ := Option.bind_eq_some_iff.mp hr
                refine call_o (wr := [(q_t, .inr (11, [o_t_pad, .ref q_t_chain, o_t_words, o_t_sights, o_t_images, o_t_run, o_t_seek, o_t_hanging, .ref q_t_race, o_t_widow, o_t_came, .int t_changes, .int t_fewestAt, .int t_hungAt, .int t_cameAt, .int t_fewestPulls, .int t_fewestRow]))]) (run_V (As := [.ref q_t_chain, .long z16, .long z18, .int a3]) (rest := []) F k_X11_210 (c_X5_winner l dd g mv q_t_race q_t_chain o_t_race_chain t_race_firstDoor t_race_secondDoor t_race_all t_chain_places t_chain_deep t_chain_turn t_chain_wheel t_chain_leaks t_chain_wants z16 z18 a3 z20 hz20 _) hw [2, 1] (by decide) rfl (ci := 5) rfl rfl rfl rfl hl.1 rfl (Nat.le_of_ble_eq_true rfl) dX11_race_91 ⟨Nat.le_of_ble_eq_true rfl, Nat.le_of_ble_eq_true rfl⟩ ⟨Nat.le_of_ble_eq_true rfl, Nat.le_of_ble_eq_true rfl⟩) hw [2, 1] [0] rfl rfl (by decide) (by decide) (fun u21 H locs hw => ?_)
                replace hw : Wd dd g mv A s H locs (w_X11_race g q_t q_t_chain q_t_race o_t_pad o_t_words o_t_sights o_t_images o_t_run o_t_seek o_t_hanging o_t_widow o_t_came ((.ref q_t_chain)) t_changes t_fewestAt t_hungAt t_cameAt t_fewestPulls t_fewestRow t_chain_places t_chain_deep t_chain_turn t_chain_wheel t_chain_leaks t_chain_wants z20.2.1 z20.2.2.1 z20.2.2.2) := hw.sub [0, 2, 1] (by decide) rfl
                refine W.eq (g2 := F0 m 94 ls (.int z20.1 :: [])) rfl ?_
                cases hr
                exact ret_i ((.ref q_t_chain)) F hret hlk hw (Nat.le_refl _) (Nat.le_refl _) dX11_race_94
              · replace hr := (if_pos hc15).symm.trans hr
                refine lv_bipush (v := -3) F.1 F.2.1 dX11_race_71 (by decide) ?_
                cases hr
                exact ret_i (o_t_race_chain) F hret hlk hw (Nat.le_refl _) (Nat.le_refl _) dX11_race_73
          · replace hr := (if_neg hc9).symm.trans hr
            refine lv_bipush (v := -2) F.1 F.2.1 dX11_race_34 (by decide) ?_
            cases hr
            exact ret_i (o_t_race_chain) F hret hlk hw (Nat.le_refl _) (Nat.le_refl _) dX11_race_36
      · replace hr := (if_pos hc7).symm.trans hr
        refine lv_iconst (v := -1) F.1 F.2.1 dX11_race_21 (by decide) ?_
        cases hr
        exact ret_i (o_t_race_chain) F hret hlk hw (Nat.le_refl _) (Nat.le_refl _) dX11_race_22
set_option maxHeartbeats 4000000 in
set_option maxRecDepth 100000 in
theorem b_X11_widow_96 {q_t q_t_chain q_t_widow q_t_widow_powers : Nat} {z : Int64 × Int64 × Int32 × Int32 × Int64 × Int64 × (Nat → Int64)} (F : Fx p m c cX11_widow 6 s args RX11) (hret : meth.sig.returnType = some .long) (hlk : meth.locks = false) : ∀ {x5 : Int32} {y2 : Int32} {y3 : Int32} {y4 : Int32} {y5 : Int64} {t_chain_places : Int32} {t_chain_deep : Int32} {t_chain_wheel : Int64} {t_chain_leaks : Int64} {t_chain_wants : Int64} {t_widow_powers : Nat → Int64} {t_changes : Int32} {t_fewestAt : Int32} {t_hungAt : Int32} {t_cameAt : Int32} {t_fewestPulls : Int32} {t_fewestRow : Int32} {t_chain_turn : Int32} {t_widow_doors : Int64} {t_widow_plus : Int32} {t_widow_minus : Int32} {t_widow_upper : Int64} {t_widow_lower : Int64} {o_t_pad : Value} {o_t_words : Value} {o_t_sights : Value} {o_t_images : Value} {o_t_run : Value} {o_t_seek : Value} {o_t_hanging : Value} {o_t_race : Value} {o_t_came : Value} {o_t_widow_chain : Value} {H : Heap} {locs : List Loc} {ls : Array Slot}, f_X11_widow_96  x5 y2 y3 y4 y5 t_chain_places t_chain_deep t_chain_wheel t_chain_leaks t_chain_wants t_widow_powers = some z → Wd dd g mv A s H locs (w_X11_widow g q_t q_t_chain q_t_widow q_t_widow_powers o_t_pad o_t_words o_t_sights o_t_images o_t_run o_t_seek o_t_hanging o_t_race o_t_came o_t_widow_chain t_changes t_fewestAt t_hungAt t_cameAt t_fewestPulls t_fewestRow t_chain_places t_chain_deep t_chain_turn t_chain_wheel t_chain_leaks t_chain_wants t_widow_doors t_widow_plus t_widow_minus t_widow_upper t_widow_lower t_widow_powers) → lv_has ls 6 [(0, .ref q_t), (5, .int x5)] → W p l e (rmH (25) 0 0) s m args below meth c H locs 0 0 (MQ below (Qo dd g (some (.long z.1)) (fun u : Value => (w_X11_widow g q_t q_t_chain q_t_widow q_t_widow_powers o_t_pad o_t_words o_t_sights o_t_images o_t_run o_t_seek o_t_hanging o_t_race o_t_came u t_changes t_fewestAt t_hungAt t_cameAt t_fewestPulls t_fewestRow t_chain_places t_chain_deep t_chain_turn t_chain_wheel t_chain_leaks t_chain_wants z.2.1 z.2.2.1 z.2.2.2.1 z.2.2.2.2.1 z.2.2.2.2.2.1 z.2.2.2.2.2.2)) A) args s 0 0 A) (F0 m 96 ls [.long y5, .int y4, .int y3, .int y2, .ref q_t_chain, .ref q_t_widow]) := by
  intro x5 y2 y3 y4 y5 t_chain_places t_chain_deep t_chain_wheel t_chain_leaks t_chain_wants t_widow_powers t_changes t_fewestAt t_hungAt t_cameAt t_fewestPulls t_fewestRow t_chain_turn t_widow_doors t_widow_plus t_widow_minus t_widow_upper t_widow_lower o_t_pad o_t_words o_t_sights o_t_images o_t_run o_t_seek o_t_hanging o_t_race o_t_came o_t_widow_chain H locs ls hr hw hl
  obtain ⟨z1, hz1, hr⟩ := Option.bind_eq_some_iff.mp hr
  refine call_o (wr := [(q_t, .inr (11, [o_t_pad, .ref q_t_chain, o_t_words, o_t_sights, o_t_images, o_t_run, o_t_seek, o_t_hanging, o_t_race, .ref q_t_widow, o_t_came, .int t_changes, .int t_fewestAt, .int t_hungAt, .int t_cameAt, .int t_fewestPulls, .int t_fewestRow]))]) (run_V (As := [.ref q_t_chain, .int y2, .int y3, .int y4, .long y5]) (rest := []) F k_X11_218 (c_X9_look l dd g mv q_t_widow q_t_chain q_t_widow_powers o_t_widow_chain t_widow_doors t_widow_plus t_widow_minus t_widow_upper t_widow_lower t_chain_places t_chain_deep t_chain_turn t_chain_wheel t_chain_leaks t_chain_wants t_widow_powers y2 y3 y4 y5 z1 hz1 _) hw [2, 1, 3] (by decide) rfl (ci := 9) rfl rfl rfl rfl hl.1 rfl (Nat.le_of_ble_eq_true rfl) dX11_widow_96 ⟨Nat.le_of_ble_eq_true rfl, Nat.le_of_ble_eq_true rfl⟩ ⟨Nat.le_of_ble_eq_true rfl, Nat.le_of_ble_eq_true rfl⟩) hw [2, 1, 3] [0] rfl rfl (by decide) (by decide) (fun u2 H locs hw => ?_)
  replace hw : Wd dd g mv A s H locs (w_X11_widow g q_t q_t_chain q_t_widow q_t_widow_powers o_t_pad o_t_words o_t_sights o_t_images o_t_run o_t_seek o_t_hanging o_t_race o_t_came ((.ref q_t_chain)) t_changes t_fewestAt t_hungAt t_cameAt t_fewestPulls t_fewestRow t_chain_places t_chain_deep t_chain_turn t_chain_wheel t_chain_leaks t_chain_wants z1.1 z1.2.1 z1.2.2.1 z1.2.2.2.1 z1.2.2.2.2.1 z1.2.2.2.2.2) := hw.sub [0, 2, 1, 3] (by decide) rfl
  refine lv_iload F.1 F.2.1 dX11_widow_99 (lv_at hl 1 rfl) ?_
  refine lv_if_ne (tgt := 114) F.1 F.2.1 dX11_widow_101 (by decide) (fun hc3 => ?_) (fun hc3 => ?_)
  · replace hr := (if_neg hc3).symm.trans hr
    refine lv_aload_n F.1 F.2.1 dX11_widow_114 rfl (lv_at hl 0 rfl) ?_
    refine gf_X11_75 F hw 0 rfl rfl dX11_widow_115 ?_
    refine gf_X11_224 F hw 2 rfl rfl dX11_widow_118 ?_
    cases hr
    exact ret_l ((.ref q_t_chain)) F hret hlk hw (Nat.le_refl _) (Nat.le_refl _) dX11_widow_121
  · replace hr := (if_pos hc3).symm.trans hr
    refine lv_aload_n F.1 F.2.1 dX11_widow_104 rfl (lv_at hl 0 rfl) ?_
    refine gf_X11_75 F hw 0 rfl rfl dX11_widow_105 ?_
    refine gf_X11_221 F hw 2 rfl rfl dX11_widow_108 ?_
    refine lv_goto (tgt := 121) F.1 F.2.1 dX11_widow_111 (by decide) ?_
    cases hr
    exact ret_l ((.ref q_t_chain)) F hret hlk hw (Nat.le_refl _) (Nat.le_refl _) dX11_widow_121
set_option maxHeartbeats 4000000 in
set_option maxRecDepth 100000 in
theorem b_X11_widow_19 {q_t q_t_chain q_t_widow q_t_widow_powers : Nat} {z : Int64 × Int64 × Int32 × Int32 × Int64 × Int64 × (Nat → Int64)} (F : Fx p m c cX11_widow 6 s args RX11) (hret : meth.sig.returnType = some .long) (hlk : meth.locks = false) : ∀ {x1 : Int32} {x2 : Int32} {x3 : Int32} {x4 : Int32} {x5 : Int32} {t_chain_places : Int32} {t_chain_deep : Int32} {t_chain_wheel : Int64} {t_chain_leaks : Int64} {t_chain_wants : Int64} {t_widow_doors : Int64} {t_widow_plus : Int32} {t_widow_minus : Int32} {t_widow_upper : Int64} {t_widow_lower : Int64} {t_widow_powers : Nat → Int64} {t_changes : Int32} {t_fewestAt : Int32} {t_hungAt : Int32} {t_cameAt : Int32} {t_fewestPulls : Int32} {t_fewestRow : Int32} {t_chain_turn : Int32} {o_t_pad : Value} {o_t_words : Value} {o_t_sights : Value} {o_t_images : Value} {o_t_run : Value} {o_t_seek : Value} {o_t_hanging : Value} {o_t_race : Value} {o_t_came : Value} {o_t_widow_chain : Value} {H : Heap} {locs : List Loc} {ls : Array Slot}, f_X11_widow_19  x1 x2 x3 x4 x5 t_chain_places t_chain_deep t_chain_wheel t_chain_leaks t_chain_wants t_widow_doors t_widow_plus t_widow_minus t_widow_upper t_widow_lower t_widow_powers = some z → Wd dd g mv A s H locs (w_X11_widow g q_t q_t_chain q_t_widow q_t_widow_powers o_t_pad o_t_words o_t_sights o_t_images o_t_run o_t_seek o_t_hanging o_t_race o_t_came o_t_widow_chain t_changes t_fewestAt t_hungAt t_cameAt t_fewestPulls t_fewestRow t_chain_places t_chain_deep t_chain_turn t_chain_wheel t_chain_leaks t_chain_wants t_widow_doors t_widow_plus t_widow_minus t_widow_upper t_widow_lower t_widow_powers) → lv_has ls 6 [(0, .ref q_t), (1, .int x1), (2, .int x2), (3, .int x3), (4, .int x4), (5, .int x5)] → W p l e (rmH (25) 0 0) s m args below meth c H locs 0 0 (MQ below (Qo dd g (some (.long z.1)) (fun u : Value => (w_X11_widow g q_t q_t_chain q_t_widow q_t_widow_powers o_t_pad o_t_words o_t_sights o_t_images o_t_run o_t_seek o_t_hanging o_t_race o_t_came u t_changes t_fewestAt t_hungAt t_cameAt t_fewestPulls t_fewestRow t_chain_places t_chain_deep t_chain_turn t_chain_wheel t_chain_leaks t_chain_wants z.2.1 z.2.2.1 z.2.2.2.1 z.2.2.2.2.1 z.2.2.2.2.2.1 z.2.2.2.2.2.2)) A) args s 0 0 A) (F0 m 19 ls []) := by
  intro x1 x2 x3 x4 x5 t_chain_places t_chain_deep t_chain_wheel t_chain_leaks t_chain_wants t_widow_doors t_widow_plus t_widow_minus t_widow_upper t_widow_lower t_widow_powers t_changes t_fewestAt t_hungAt t_cameAt t_fewestPulls t_fewestRow t_chain_turn o_t_pad o_t_words o_t_sights o_t_images o_t_run o_t_seek o_t_hanging o_t_race o_t_came o_t_widow_chain H locs ls hr hw hl
  refine lv_iload_n F.1 F.2.1 dX11_widow_19 rfl (lv_at hl 1 rfl) ?_
  refine lv_if_lt (tgt := 49) F.1 F.2.1 dX11_widow_20 (by decide) (fun hc4 => ?_) (fun hc4 => ?_)
  · replace hr := (if_pos hc4).symm.trans hr
    refine lv_ldc2 F.1 F.2.1 F.2.2.2.1 (F.2.2.2.2 _ cl_X11_216) dX11_widow_49 ?_
    cases hr
    exact ret_l (o_t_widow_chain) F hret hlk hw (Nat.le_refl _) (Nat.le_refl _) dX11_widow_52
  · replace hr := (if_neg hc4).symm.trans hr
    refine lv_iload_n F.1 F.2.1 dX11_widow_23 rfl (lv_at hl 1 rfl) ?_
    refine lv_bipush (v := 12) F.1 F.2.1 dX11_widow_24 (by decide) ?_
    refine lv_icmp_gt (tgt := 49) F.1 F.2.1 dX11_widow_26 (by decide) (fun hc5 => ?_) (fun hc5 => ?_)
    · replace hr := (if_pos hc5).symm.trans hr
      refine lv_ldc2 F.1 F.2.1 F.2.2.2.1 (F.2.2.2.2 _ cl_X11_216) dX11_widow_49 ?_
      cases hr
      exact ret_l (o_t_widow_chain) F hret hlk hw (Nat.le_refl _) (Nat.le_refl _) dX11_widow_52
    · replace hr := (if_neg hc5).symm.trans hr
      refine lv_iload_n F.1 F.2.1 dX11_widow_29 rfl (lv_at hl 3 rfl) ?_
      refine lv_iconst (v := 1) F.1 F.2.1 dX11_widow_30 (by decide) ?_
      refine lv_icmp_lt (tgt := 49) F.1 F.2.1 dX11_widow_31 (by decide) (fun hc6 => ?_) (fun hc6 => ?_)
      · replace hr := (if_pos hc6).symm.trans hr
        refine lv_ldc2 F.1 F.2.1 F.2.2.2.1 (F.2.2.2.2 _ cl_X11_216) dX11_widow_49 ?_
        cases hr
        exact ret_l (o_t_widow_chain) F hret hlk hw (Nat.le_refl _) (Nat.le_refl _) dX11_widow_52
      · replace hr := (if_neg hc6).symm.trans hr
        refine lv_iload_n F.1 F.2.1 dX11_widow_34 rfl (lv_at hl 3 rfl) ?_
        refine lv_bipush (v := 10) F.1 F.2.1 dX11_widow_35 (by decide) ?_
        refine lv_icmp_gt (tgt := 49) F.1 F.2.1 dX11_widow_37 (by decide) (fun hc7 => ?_) (fun hc7 => ?_)
        · replace hr := (if_pos hc7).symm.trans hr
          refine lv_ldc2 F.1 F.2.1 F.2.2.2.1 (F.2.2.2.2 _ cl_X11_216) dX11_widow_49 ?_
          cases hr
          exact ret_l (o_t_widow_chain) F hret hlk hw (Nat.le_refl _) (Nat.le_refl _) dX11_widow_52
        · replace hr := (if_neg hc7).symm.trans hr
          refine lv_iload_n F.1 F.2.1 dX11_widow_40 rfl (lv_at hl 2 rfl) ?_
          refine lv_if_lt (tgt := 49) F.1 F.2.1 dX11_widow_41 (by decide) (fun hc8 => ?_) (fun hc8 => ?_)
          · replace hr := (if_pos hc8).symm.trans hr
            refine lv_ldc2 F.1 F.2.1 F.2.2.2.1 (F.2.2.2.2 _ cl_X11_216) dX11_widow_49 ?_
            cases hr
            exact ret_l (o_t_widow_chain) F hret hlk hw (Nat.le_refl _) (Nat.le_refl _) dX11_widow_52
          · replace hr := (if_neg hc8).symm.trans hr
            refine lv_iload_n F.1 F.2.1 dX11_widow_44 rfl (lv_at hl 2 rfl) ?_
            refine lv_iload_n F.1 F.2.1 dX11_widow_45 rfl (lv_at hl 3 rfl) ?_
            refine lv_icmp_le (tgt := 53) F.1 F.2.1 dX11_widow_46 (by decide) (fun hc9 => ?_) (fun hc9 => ?_)
            · replace hr := (if_pos hc9).symm.trans hr
              refine lv_iload F.1 F.2.1 dX11_widow_53 (lv_at hl 5 rfl) ?_
              refine lv_if_lt (tgt := 64) F.1 F.2.1 dX11_widow_55 (by decide) (fun hc10 => ?_) (fun hc10 => ?_)
              · replace hr := (if_pos hc10).symm.trans hr
                refine lv_ldc2 F.1 F.2.1 F.2.2.2.1 (F.2.2.2.2 _ cl_X11_216) dX11_widow_64 ?_
                cases hr
                exact ret_l (o_t_widow_chain) F hret hlk hw (Nat.le_refl _) (Nat.le_refl _) dX11_widow_67
              · replace hr := (if_neg hc10).symm.trans hr
                refine lv_iload F.1 F.2.1 dX11_widow_58 (lv_at hl 5 rfl) ?_
                refine lv_iconst (v := 1) F.1 F.2.1 dX11_widow_60 (by decide) ?_
                refine lv_icmp_le (tgt := 68) F.1 F.2.1 dX11_widow_61 (by decide) (fun hc11 => ?_) (fun hc11 => ?_)
                · replace hr := (if_pos hc11).symm.trans hr
                  refine lv_aload_n F.1 F.2.1 dX11_widow_68 rfl (lv_at hl 0 rfl) ?_
                  refine gf_X11_75 F hw 0 rfl rfl dX11_widow_69 ?_
                  refine lv_aload_n F.1 F.2.1 dX11_widow_72 rfl (lv_at hl 0 rfl) ?_
                  refine gf_X11_19 F hw 0 rfl rfl dX11_widow_73 ?_
                  refine lv_iload_n F.1 F.2.1 dX11_widow_76 rfl (lv_at hl 1 rfl) ?_
                  refine lv_iload_n F.1 F.2.1 dX11_widow_77 rfl (lv_at hl 2 rfl) ?_
                  refine lv_iload_n F.1 F.2.1 dX11_widow_78 rfl (lv_at hl 3 rfl) ?_
                  refine lv_iload F.1 F.2.1 dX11_widow_79 (lv_at hl 4 rfl) ?_
                  refine lv_iconst (v := -1) F.1 F.2.1 dX11_widow_81 (by decide) ?_
                  refine lv_icmp_ne (tgt := 91) F.1 F.2.1 dX11_widow_82 (by decide) (fun hc12 => ?_) (fun hc12 => ?_)
                  · replace hr := (if_neg hc12).symm.trans hr
                    refine lv_iload F.1 F.2.1 dX11_widow_91 (lv_at hl 4 rfl) ?_
                    obtain ⟨z13, hz13, hr⟩ := Option.bind_eq_some_iff.mp hr
                    refine call_o (wr := [(q_t, .inr (11, [o_t_pad, .ref q_t_chain, o_t_words, o_t_sights, o_t_images, o_t_run, o_t_seek, o_t_hanging, o_t_race, .ref q_t_widow, o_t_came, .int t_changes, .int t_fewestAt, .int t_hungAt, .int t_cameAt, .int t_fewestPulls, .int t_fewestRow])), (q_t_chain, .inr (1, [.int t_chain_places, .int t_chain_deep, .int t_chain_turn, .long t_chain_wheel, .long t_chain_leaks, .long t_chain_wants])), (q_t_widow, .inr (9, [.ref q_t_widow_powers, o_t_widow_chain, .long t_widow_doors, .int t_widow_plus, .int t_widow_minus, .long t_widow_upper, .long t_widow_lower])), (q_t_widow_powers, .inl (g 1, 13, .inr (.inl t_widow_powers)))]) (run_S (As := [.int x4]) (rest := [.int x3, .int x2, .int x1, .ref q_t_chain, .ref q_t_widow]) F k_X11_147 (c_X11_flag l dd g mv x4 z13 hz13 _) hw [] (by decide) rfl rfl hl.1 rfl (Nat.le_of_ble_eq_true rfl) dX11_widow_93 ⟨Nat.le_of_ble_eq_true rfl, Nat.le_of_ble_eq_true rfl⟩ ⟨Nat.le_of_ble_eq_true rfl, Nat.le_of_ble_eq_true rfl⟩) hw [] [0, 1, 2, 3] rfl rfl (by decide) (by decide) (fun u14 H locs hw => ?_)
                    replace hw : Wd dd g mv A s H locs (w_X11_widow g q_t q_t_chain q_t_widow q_t_widow_powers o_t_pad o_t_words o_t_sights o_t_images o_t_run o_t_seek o_t_hanging o_t_race o_t_came o_t_widow_chain t_changes t_fewestAt t_hungAt t_cameAt t_fewestPulls t_fewestRow t_chain_places t_chain_deep t_chain_turn t_chain_wheel t_chain_leaks t_chain_wants t_widow_doors t_widow_plus t_widow_minus t_widow_upper t_widow_lower t_widow_powers) := hw.sub [0, 1, 2, 3] (by decide) rfl
                    refine W.eq (g2 := F0 m 96 ls (.long z13 :: .int x3 :: .int x2 :: .int x1 :: .ref q_t_chain :: .ref q_t_widow :: [])) rfl ?_
                    exact b_X11_widow_96 F hret hlk  hr hw (lv_sub hl [0, 5] rfl)
                  · replace hr := (if_pos hc12).symm.trans hr
                    refine lv_ldc2 F.1 F.2.1 F.2.2.2.1 (F.2.2.2.2 _ cl_X11_187) dX11_widow_85 ?_
                    refine lv_goto (tgt := 96) F.1 F.2.1 dX11_widow_88 (by decide) ?_
                    exact b_X11_widow_96 F hret hlk  hr hw (lv_sub hl [0, 5] rfl)
                · replace hr := (if_neg hc11).symm.trans hr
                  refine lv_ldc2 F.1 F.2.1 F.2.2.2.1 (F.2.2.2.2 _ cl_X11_216) dX11_widow_64 ?_
                  cases hr
                  exact ret_l (o_t_widow_chain) F hret hlk hw (Nat.le_refl _) (Nat.le_refl _) dX11_widow_67
            · replace hr := (if_neg hc9).symm.trans hr
              refine lv_ldc2 F.1 F.2.1 F.2.2.2.1 (F.2.2.2.2 _ cl_X11_216) dX11_widow_49 ?_
              cases hr
              exact ret_l (o_t_widow_chain) F hret hlk hw (Nat.le_refl _) (Nat.le_refl _) dX11_widow_52
set_option maxHeartbeats 4000000 in
set_option maxRecDepth 100000 in
theorem c_X11_widow (l : Launch) (dd : va_G) (g : Nat → ClassId) (mv : Nat) (q_t : Nat) (q_t_chain : Nat) (q_t_widow : Nat) (q_t_widow_powers : Nat) (o_t_pad : Value) (o_t_words : Value) (o_t_sights : Value) (o_t_images : Value) (o_t_run : Value) (o_t_seek : Value) (o_t_hanging : Value) (o_t_race : Value) (o_t_came : Value) (o_t_widow_chain : Value) (t_changes : Int32) (t_fewestAt : Int32) (t_hungAt : Int32) (t_cameAt : Int32) (t_fewestPulls : Int32) (t_fewestRow : Int32) (t_chain_places : Int32) (t_chain_deep : Int32) (t_chain_turn : Int32) (t_chain_wheel : Int64) (t_chain_leaks : Int64) (t_chain_wants : Int64) (t_widow_doors : Int64) (t_widow_plus : Int32) (t_widow_minus : Int32) (t_widow_upper : Int64) (t_widow_lower : Int64) (t_widow_powers : Nat → Int64) (a1 : Int32) (a2 : Int32) (a3 : Int32) (a4 : Int32) (a5 : Int32) (z : Int64 × Int64 × Int32 × Int32 × Int64 × Int64 × (Nat → Int64)) (hr : f_X11_widow t_chain_places t_chain_deep t_chain_wheel t_chain_leaks t_chain_wants t_widow_doors t_widow_plus t_widow_minus t_widow_upper t_widow_lower t_widow_powers a1 a2 a3 a4 a5 = some z) (sz : Nat) : Met l yX11_widow (.code yX11_widow cX11_widow 6 (some .long) :: WS) (rmH 25 0 0) (va_Pc [.ref q_t, .int a1, .int a2, .int a3, .int a4, .int a5] (PW dd g mv (w_X11_widow g q_t q_t_chain q_t_widow q_t_widow_powers o_t_pad o_t_words o_t_sights o_t_images o_t_run o_t_seek o_t_hanging o_t_race o_t_came o_t_widow_chain t_changes t_fewestAt t_hungAt t_cameAt t_fewestPulls t_fewestRow t_chain_places t_chain_deep t_chain_turn t_chain_wheel t_chain_leaks t_chain_wants t_widow_doors t_widow_plus t_widow_minus t_widow_upper t_widow_lower t_widow_powers) sz)) (Qo dd g (some (.long z.1)) (fun u : Value => (w_X11_widow g q_t q_t_chain q_t_widow q_t_widow_powers o_t_pad o_t_words o_t_sights o_t_images o_t_run o_t_seek o_t_hanging o_t_race o_t_came u t_changes t_fewestAt t_hungAt t_cameAt t_fewestPulls t_fewestRow t_chain_places t_chain_deep t_chain_turn t_chain_wheel t_chain_leaks t_chain_wants z.2.1 z.2.2.1 z.2.2.2.1 z.2.2.2.2.1 z.2.2.2.2.2.1 z.2.2.2.2.2.2)) (va_A (w_X11_widow g q_t q_t_chain q_t_widow q_t_widow_powers o_t_pad o_t_words o_t_sights o_t_images o_t_run o_t_seek o_t_hanging o_t_race o_t_came o_t_widow_chain t_changes t_fewestAt t_hungAt t_cameAt t_fewestPulls t_fewestRow t_chain_places t_chain_deep t_chain_turn t_chain_wheel t_chain_leaks t_chain_wants t_widow_doors t_widow_plus t_widow_minus t_widow_upper t_widow_lower t_widow_powers) sz)) 0 0 (va_A (w_X11_widow g q_t q_t_chain q_t_widow q_t_widow_powers o_t_pad o_t_words o_t_sights o_t_images o_t_run o_t_seek o_t_hanging o_t_race o_t_came o_t_widow_chain t_changes t_fewestAt t_hungAt t_cameAt t_fewestPulls t_fewestRow t_chain_places t_chain_deep t_chain_turn t_chain_wheel t_chain_leaks t_chain_wants t_widow_doors t_widow_plus t_widow_minus t_widow_upper t_widow_lower t_widow_powers) sz) := by
  refine Met_intro (by decide) (Nat.le_of_ble_eq_true rfl) ?_
  intro p e s m below meth c A ls F hret hlk hin hw hl
  replace hl : lv_has ls 6 [(0, .ref q_t), (1, .int a1), (2, .int a2), (3, .int a3), (4, .int a4), (5, .int a5)] := hl
  refine lv_iload F.1 F.2.1 dX11_widow_0 (lv_at hl 4 rfl) ?_
  refine lv_iconst (v := -1) F.1 F.2.1 dX11_widow_2 (by decide) ?_
  refine lv_icmp_eq (tgt := 19) F.1 F.2.1 dX11_widow_3 (by decide) (fun hc15 => ?_) (fun hc15 => ?_)
  · replace hr := (if_pos hc15).symm.trans hr
    exact b_X11_widow_19 F hret hlk  hr hw (lv_sub hl [0, 1, 2, 3, 4, 5] rfl)
  · replace hr := (if_neg hc15).symm.trans hr
    refine lv_aload_n F.1 F.2.1 dX11_widow_6 rfl (lv_at hl 0 rfl) ?_
    refine lv_iload F.1 F.2.1 dX11_widow_7 (lv_at hl 4 rfl) ?_
    obtain ⟨z16, hz16, hr⟩ := Option.bind_eq_some_iff.mp hr
    refine call_o (wr := [(q_t_widow, .inr (9, [.ref q_t_widow_powers, o_t_widow_chain, .long t_widow_doors, .int t_widow_plus, .int t_widow_minus, .long t_widow_upper, .long t_widow_lower])), (q_t_widow_powers, .inl (g 1, 13, .inr (.inl t_widow_powers)))]) (run_V (As := [.int a4]) (rest := []) F k_X11_115 (c_X11_isThere l dd g mv q_t q_t_chain o_t_pad o_t_words o_t_sights o_t_images o_t_run o_t_seek o_t_hanging o_t_race ((.ref q_t_widow)) o_t_came t_changes t_fewestAt t_hungAt t_cameAt t_fewestPulls t_fewestRow t_chain_places t_chain_deep t_chain_turn t_chain_wheel t_chain_leaks t_chain_wants a4 z16 hz16 _) hw [0, 1] (by decide) rfl (ci := 11) rfl rfl rfl rfl hl.1 rfl (Nat.le_of_ble_eq_true rfl) dX11_widow_9 ⟨Nat.le_of_ble_eq_true rfl, Nat.le_of_ble_eq_true rfl⟩ ⟨Nat.le_of_ble_eq_true rfl, Nat.le_of_ble_eq_true rfl⟩) hw [0, 1] [2, 3] rfl rfl (by decide) (by decide) (fun u17 H locs hw => ?_)
    replace hw : Wd dd g mv A s H locs (w_X11_widow g q_t q_t_chain q_t_widow q_t_widow_powers o_t_pad o_t_words o_t_sights o_t_images o_t_run o_t_seek o_t_hanging o_t_race o_t_came o_t_widow_chain t_changes t_fewestAt t_hungAt t_cameAt t_fewestPulls t_fewestRow t_chain_places t_chain_deep t_chain_turn t_chain_wheel t_chain_leaks t_chain_wants t_widow_doors t_widow_plus t_widow_minus t_widow_upper t_widow_lower t_widow_powers) := hw.sub [2, 3, 0, 1] (by decide) rfl
    refine W.eq (g2 := F0 m 12 ls (.int z16 :: [])) rfl ?_
    refine lv_if_ne (tgt := 19) F.1 F.2.1 dX11_widow_12 (by decide) (fun hc18 => ?_) (fun hc18 => ?_)
    · replace hr := (if_neg hc18).symm.trans hr
      exact b_X11_widow_19 F hret hlk  hr hw (lv_sub hl [0, 1, 2, 3, 4, 5] rfl)
    · replace hr := (if_pos hc18).symm.trans hr
      refine lv_ldc2 F.1 F.2.1 F.2.2.2.1 (F.2.2.2.2 _ cl_X11_214) dX11_widow_15 ?_
      cases hr
      exact ret_l (o_t_widow_chain) F hret hlk hw (Nat.le_refl _) (Nat.le_refl _) dX11_widow_18
end WALK
