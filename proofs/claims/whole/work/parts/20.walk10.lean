section WALK
variable {p : Program} {l : Launch} {e : Env} {s : State} {m : MethodId} {args : Array Value} {below : List Frame} {meth : Method} {c : Code} {dd : va_G} {g : Nat → ClassId} {mv : Nat} {A : Nat → Prop}
set_option maxHeartbeats 4000000 in
set_option maxRecDepth 100000 in
theorem c_X11_told (l : Launch) (dd : va_G) (g : Nat → ClassId) (mv : Nat) (q_t : Nat) (q_t_chain : Nat) (q_t_sights : Nat) (q_t_words : Nat) (q_t_pad : Nat) (o_t_images : Value) (o_t_run : Value) (o_t_seek : Value) (o_t_hanging : Value) (o_t_race : Value) (o_t_widow : Value) (o_t_came : Value) (o_t_sights_behind : Value) (o_t_sights_door : Value) (o_t_sights_served : Value) (o_t_words_signs : Value) (o_t_words_lengths : Value) (o_t_words_fewestSigns : Value) (o_t_words_isSettled : Value) (o_t_pad_signs : Value) (t_changes : Int32) (t_fewestAt : Int32) (t_hungAt : Int32) (t_cameAt : Int32) (t_fewestPulls : Int32) (t_fewestRow : Int32) (t_chain_places : Int32) (t_chain_deep : Int32) (t_chain_turn : Int32) (t_chain_wheel : Int64) (t_chain_leaks : Int64) (t_chain_wants : Int64) (t_sights_count : Int32) (t_words_count : Int32) (t_pad_count : Int32) (a1 : Int32) (z : Int32) (hr : f_X11_told t_chain_places t_chain_deep t_chain_turn t_chain_wheel t_chain_leaks t_chain_wants t_sights_count t_words_count t_pad_count a1 = some z) (sz : Nat) : Met l yX11_told (.code yX11_told cX11_told 2 (some .int) :: WS) (rmH 2 0 0) (va_Pc [.ref q_t, .int a1] (PW dd g mv (w_X11_told g q_t q_t_chain q_t_sights q_t_words q_t_pad o_t_images o_t_run o_t_seek o_t_hanging o_t_race o_t_widow o_t_came o_t_sights_behind o_t_sights_door o_t_sights_served o_t_words_signs o_t_words_lengths o_t_words_fewestSigns o_t_words_isSettled o_t_pad_signs t_changes t_fewestAt t_hungAt t_cameAt t_fewestPulls t_fewestRow t_chain_places t_chain_deep t_chain_turn t_chain_wheel t_chain_leaks t_chain_wants t_sights_count t_words_count t_pad_count) sz)) (Qo dd g (some (.int z)) (fun u : Unit => (w_X11_told g q_t q_t_chain q_t_sights q_t_words q_t_pad o_t_images o_t_run o_t_seek o_t_hanging o_t_race o_t_widow o_t_came o_t_sights_behind o_t_sights_door o_t_sights_served o_t_words_signs o_t_words_lengths o_t_words_fewestSigns o_t_words_isSettled o_t_pad_signs t_changes t_fewestAt t_hungAt t_cameAt t_fewestPulls t_fewestRow t_chain_places t_chain_deep t_chain_turn t_chain_wheel t_chain_leaks t_chain_wants t_sights_count t_words_count t_pad_count)) (va_A (w_X11_told g q_t q_t_chain q_t_sights q_t_words q_t_pad o_t_images o_t_run o_t_seek o_t_hanging o_t_race o_t_widow o_t_came o_t_sights_behind o_t_sights_door o_t_sights_served o_t_words_signs o_t_words_lengths o_t_words_fewestSigns o_t_words_isSettled o_t_pad_signs t_changes t_fewestAt t_hungAt t_cameAt t_fewestPulls t_fewestRow t_chain_places t_chain_deep t_chain_turn t_chain_wheel t_chain_leaks t_chain_wants t_sights_count t_words_count t_pad_count) sz)) 0 0 (va_A (w_X11_told g q_t q_t_chain q_t_sights q_t_words q_t_pad o_t_images o_t_run o_t_seek o_t_hanging o_t_race o_t_widow o_t_came o_t_sights_behind o_t_sights_door o_t_sights_served o_t_words_signs o_t_words_lengths o_t_words_fewestSigns o_t_words_isSettled o_t_pad_signs t_changes t_fewestAt t_hungAt t_cameAt t_fewestPulls t_fewestRow t_chain_places t_chain_deep t_chain_turn t_chain_wheel t_chain_leaks t_chain_wants t_sights_count t_words_count t_pad_count) sz) := by
  refine Met_intro (by decide) (Nat.le_of_ble_eq_true rfl) ?_
  intro p e s m below meth c A ls F hret hlk hin hw hl
  replace hl : lv_has ls 2 [(0, .ref q_t), (1, .int a1)] := hl
  refine lv_iload_n F.1 F.2.1 dX11_told_0 rfl (lv_at hl 1 rfl) ?_
  by_cases hs1 : a1 = 0
  · replace hr := (if_pos hs1).symm.trans hr
    refine lv_tableIn (tgt := 40) F.1 F.2.1 dX11_told_1 (by rw [hs1]; decide) (by rw [hs1]; decide) (by rw [hs1]; rfl) (by decide) ?_
    refine lv_aload_n F.1 F.2.1 dX11_told_40 rfl (lv_at hl 0 rfl) ?_
    refine gf_X11_12 F hw 0 rfl rfl dX11_told_41 ?_
    refine gf_X11_160 F hw 4 rfl rfl dX11_told_44 ?_
    cases hr
    exact ret_i () F hret hlk hw (Nat.le_refl _) (Nat.le_refl _) dX11_told_47
  · replace hr := (if_neg hs1).symm.trans hr
    by_cases hs2 : a1 = 1
    · replace hr := (if_pos hs2).symm.trans hr
      refine lv_tableIn (tgt := 48) F.1 F.2.1 dX11_told_1 (by rw [hs2]; decide) (by rw [hs2]; decide) (by rw [hs2]; rfl) (by decide) ?_
      refine lv_aload_n F.1 F.2.1 dX11_told_48 rfl (lv_at hl 0 rfl) ?_
      refine gf_X11_19 F hw 0 rfl rfl dX11_told_49 ?_
      refine gf_X11_105 F hw 1 rfl rfl dX11_told_52 ?_
      cases hr
      exact ret_i () F hret hlk hw (Nat.le_refl _) (Nat.le_refl _) dX11_told_55
    · replace hr := (if_neg hs2).symm.trans hr
      by_cases hs3 : a1 = 2
      · replace hr := (if_pos hs3).symm.trans hr
        refine lv_tableIn (tgt := 56) F.1 F.2.1 dX11_told_1 (by rw [hs3]; decide) (by rw [hs3]; decide) (by rw [hs3]; rfl) (by decide) ?_
        refine lv_aload_n F.1 F.2.1 dX11_told_56 rfl (lv_at hl 0 rfl) ?_
        refine gf_X11_19 F hw 0 rfl rfl dX11_told_57 ?_
        refine gf_X11_119 F hw 1 rfl rfl dX11_told_60 ?_
        cases hr
        exact ret_i () F hret hlk hw (Nat.le_refl _) (Nat.le_refl _) dX11_told_63
      · replace hr := (if_neg hs3).symm.trans hr
        by_cases hs4 : a1 = 3
        · replace hr := (if_pos hs4).symm.trans hr
          refine lv_tableIn (tgt := 64) F.1 F.2.1 dX11_told_1 (by rw [hs4]; decide) (by rw [hs4]; decide) (by rw [hs4]; rfl) (by decide) ?_
          refine lv_aload_n F.1 F.2.1 dX11_told_64 rfl (lv_at hl 0 rfl) ?_
          refine gf_X11_19 F hw 0 rfl rfl dX11_told_65 ?_
          refine lv_aload_n F.1 F.2.1 dX11_told_68 rfl (lv_at hl 0 rfl) ?_
          refine gf_X11_19 F hw 0 rfl rfl dX11_told_69 ?_
          refine gf_X11_129 F hw 1 rfl rfl dX11_told_72 ?_
          obtain ⟨z5, hz5, hr⟩ := Option.bind_eq_some_iff.mp hr
          refine call_o (wr := [(q_t, .inr (11, [.ref q_t_pad, .ref q_t_chain, .ref q_t_words, .ref q_t_sights, o_t_images, o_t_run, o_t_seek, o_t_hanging, o_t_race, o_t_widow, o_t_came, .int t_changes, .int t_fewestAt, .int t_hungAt, .int t_cameAt, .int t_fewestPulls, .int t_fewestRow])), (q_t_sights, .inr (8, [o_t_sights_behind, o_t_sights_door, o_t_sights_served, .int t_sights_count])), (q_t_words, .inr (10, [o_t_words_signs, o_t_words_lengths, .int t_words_count, o_t_words_fewestSigns, o_t_words_isSettled])), (q_t_pad, .inr (4, [o_t_pad_signs, .int t_pad_count]))]) (run_V (As := [.long t_chain_wheel]) (rest := []) F k_X11_164 (c_X1_servedBits l dd g mv q_t_chain t_chain_places t_chain_deep t_chain_turn t_chain_wheel t_chain_leaks t_chain_wants t_chain_wheel z5 hz5 _) hw [1] (by decide) rfl (ci := 1) rfl rfl rfl rfl hl.1 rfl (Nat.le_of_ble_eq_true rfl) dX11_told_75 ⟨Nat.le_of_ble_eq_true rfl, Nat.le_of_ble_eq_true rfl⟩ ⟨Nat.le_of_ble_eq_true rfl, Nat.le_of_ble_eq_true rfl⟩) hw [1] [0, 2, 3, 4] rfl rfl (by decide) (by decide) (fun u6 H locs hw => ?_)
          replace hw : Wd dd g mv A s H locs (w_X11_told g q_t q_t_chain q_t_sights q_t_words q_t_pad o_t_images o_t_run o_t_seek o_t_hanging o_t_race o_t_widow o_t_came o_t_sights_behind o_t_sights_door o_t_sights_served o_t_words_signs o_t_words_lengths o_t_words_fewestSigns o_t_words_isSettled o_t_pad_signs t_changes t_fewestAt t_hungAt t_cameAt t_fewestPulls t_fewestRow t_chain_places t_chain_deep t_chain_turn t_chain_wheel t_chain_leaks t_chain_wants t_sights_count t_words_count t_pad_count) := hw.sub [0, 4, 1, 2, 3] (by decide) rfl
          refine W.eq (g2 := F0 m 78 ls (.int z5 :: [])) rfl ?_
          cases hr
          exact ret_i () F hret hlk hw (Nat.le_refl _) (Nat.le_refl _) dX11_told_78
        · replace hr := (if_neg hs4).symm.trans hr
          by_cases hs7 : a1 = 4
          · replace hr := (if_pos hs7).symm.trans hr
            refine lv_tableIn (tgt := 79) F.1 F.2.1 dX11_told_1 (by rw [hs7]; decide) (by rw [hs7]; decide) (by rw [hs7]; rfl) (by decide) ?_
            refine lv_aload_n F.1 F.2.1 dX11_told_79 rfl (lv_at hl 0 rfl) ?_
            refine gf_X11_26 F hw 0 rfl rfl dX11_told_80 ?_
            refine gf_X11_237 F hw 3 rfl rfl dX11_told_83 ?_
            cases hr
            exact ret_i () F hret hlk hw (Nat.le_refl _) (Nat.le_refl _) dX11_told_86
          · replace hr := (if_neg hs7).symm.trans hr
            by_cases hs8 : a1 = 5
            · replace hr := (if_pos hs8).symm.trans hr
              refine lv_tableIn (tgt := 87) F.1 F.2.1 dX11_told_1 (by rw [hs8]; decide) (by rw [hs8]; decide) (by rw [hs8]; rfl) (by decide) ?_
              refine lv_aload_n F.1 F.2.1 dX11_told_87 rfl (lv_at hl 0 rfl) ?_
              refine gf_X11_33 F hw 0 rfl rfl dX11_told_88 ?_
              refine gf_X11_112 F hw 2 rfl rfl dX11_told_91 ?_
              cases hr
              exact ret_i () F hret hlk hw (Nat.le_refl _) (Nat.le_refl _) dX11_told_94
            · replace hr := (if_neg hs8).symm.trans hr
              have ehs1 : (a1).toInt ≠ 0 := fun h => hs1 (Int32.toInt_inj.mp h)
              have ehs2 : (a1).toInt ≠ 1 := fun h => hs2 (Int32.toInt_inj.mp h)
              have ehs3 : (a1).toInt ≠ 2 := fun h => hs3 (Int32.toInt_inj.mp h)
              have ehs4 : (a1).toInt ≠ 3 := fun h => hs4 (Int32.toInt_inj.mp h)
              have ehs7 : (a1).toInt ≠ 4 := fun h => hs7 (Int32.toInt_inj.mp h)
              have ehs8 : (a1).toInt ≠ 5 := fun h => hs8 (Int32.toInt_inj.mp h)
              refine lv_tableOut (tgt := 95) F.1 F.2.1 dX11_told_1 (by omega) (by decide) ?_
              refine lv_aload_n F.1 F.2.1 dX11_told_95 rfl (lv_at hl 0 rfl) ?_
              refine lv_iload_n F.1 F.2.1 dX11_told_96 rfl (lv_at hl 1 rfl) ?_
              obtain ⟨z9, hz9, hr⟩ := Option.bind_eq_some_iff.mp hr
              refine call_o (wr := [(q_t_sights, .inr (8, [o_t_sights_behind, o_t_sights_door, o_t_sights_served, .int t_sights_count])), (q_t_words, .inr (10, [o_t_words_signs, o_t_words_lengths, .int t_words_count, o_t_words_fewestSigns, o_t_words_isSettled])), (q_t_pad, .inr (4, [o_t_pad_signs, .int t_pad_count]))]) (run_V (As := [.int a1]) (rest := []) F k_X11_287 (c_X11_toldOfEach l dd g mv q_t q_t_chain ((.ref q_t_pad)) ((.ref q_t_words)) ((.ref q_t_sights)) o_t_images o_t_run o_t_seek o_t_hanging o_t_race o_t_widow o_t_came t_changes t_fewestAt t_hungAt t_cameAt t_fewestPulls t_fewestRow t_chain_places t_chain_deep t_chain_turn t_chain_wheel t_chain_leaks t_chain_wants a1 z9 hz9 _) hw [0, 1] (by decide) rfl (ci := 11) rfl rfl rfl rfl hl.1 rfl (Nat.le_of_ble_eq_true rfl) dX11_told_97 ⟨Nat.le_of_ble_eq_true rfl, Nat.le_of_ble_eq_true rfl⟩ ⟨Nat.le_of_ble_eq_true rfl, Nat.le_of_ble_eq_true rfl⟩) hw [0, 1] [2, 3, 4] rfl rfl (by decide) (by decide) (fun u10 H locs hw => ?_)
              replace hw : Wd dd g mv A s H locs (w_X11_told g q_t q_t_chain q_t_sights q_t_words q_t_pad o_t_images o_t_run o_t_seek o_t_hanging o_t_race o_t_widow o_t_came o_t_sights_behind o_t_sights_door o_t_sights_served o_t_words_signs o_t_words_lengths o_t_words_fewestSigns o_t_words_isSettled o_t_pad_signs t_changes t_fewestAt t_hungAt t_cameAt t_fewestPulls t_fewestRow t_chain_places t_chain_deep t_chain_turn t_chain_wheel t_chain_leaks t_chain_wants t_sights_count t_words_count t_pad_count) := hw.sub [3, 4, 0, 1, 2] (by decide) rfl
              refine W.eq (g2 := F0 m 100 ls (.int z9 :: [])) rfl ?_
              cases hr
              exact ret_i () F hret hlk hw (Nat.le_refl _) (Nat.le_refl _) dX11_told_100
set_option maxHeartbeats 4000000 in
set_option maxRecDepth 100000 in
theorem c_X12_in (l : Launch) (dd : va_G) (g : Nat → ClassId) (mv : Nat) (a1 : Int64) (a2 : Int64) (a3 : Int64) (z : Int32) (hr : f_X12_in a1 a2 a3 = some z) (sz : Nat) : Met l yX12_in (.code yX12_in cX12_in 6 (some .boolean) :: WS) (rmH 0 0 0) (va_Pc [.long a1, .long a2, .long a3] (PW dd g mv (w_X12_in g ) sz)) (Qo dd g (some (.int z)) (fun u : Unit => (w_X12_in g )) (va_A (w_X12_in g ) sz)) 0 0 (va_A (w_X12_in g ) sz) := by
  refine Met_intro (by decide) (Nat.le_of_ble_eq_true rfl) ?_
  intro p e s m below meth c A ls F hret hlk hin hw hl
  replace hl : lv_has ls 6 [(0, .long a1), (2, .long a2), (4, .long a3)] := hl
  refine lv_lload_n F.1 F.2.1 dX12_in_0 rfl (lv_at hl 0 rfl) ?_
  refine lv_lload_n F.1 F.2.1 dX12_in_1 rfl (lv_at hl 1 rfl) ?_
  refine W.lcmp F.1 F.2.1 dX12_in_2 ?_
  refine lv_if_lt (tgt := 17) F.1 F.2.1 dX12_in_3 (by decide) (fun hc1 => ?_) (fun hc1 => ?_)
  · replace hr := (if_pos hc1).symm.trans hr
    refine lv_iconst (v := 0) F.1 F.2.1 dX12_in_17 (by decide) ?_
    cases hr
    exact ret_z (v := (0 : Int32)) () F hret hlk (by decide) hw (Nat.le_refl _) (Nat.le_refl _) dX12_in_18
  · replace hr := (if_neg hc1).symm.trans hr
    refine lv_lload_n F.1 F.2.1 dX12_in_6 rfl (lv_at hl 0 rfl) ?_
    refine lv_lload F.1 F.2.1 dX12_in_7 (lv_at hl 2 rfl) ?_
    refine W.lcmp F.1 F.2.1 dX12_in_9 ?_
    refine lv_if_gt (tgt := 17) F.1 F.2.1 dX12_in_10 (by decide) (fun hc2 => ?_) (fun hc2 => ?_)
    · replace hr := (if_pos hc2).symm.trans hr
      refine lv_iconst (v := 0) F.1 F.2.1 dX12_in_17 (by decide) ?_
      cases hr
      exact ret_z (v := (0 : Int32)) () F hret hlk (by decide) hw (Nat.le_refl _) (Nat.le_refl _) dX12_in_18
    · replace hr := (if_neg hc2).symm.trans hr
      refine lv_iconst (v := 1) F.1 F.2.1 dX12_in_13 (by decide) ?_
      refine lv_goto (tgt := 18) F.1 F.2.1 dX12_in_14 (by decide) ?_
      cases hr
      exact ret_z (v := (1 : Int32)) () F hret hlk (by decide) hw (Nat.le_refl _) (Nat.le_refl _) dX12_in_18
set_option maxHeartbeats 4000000 in
set_option maxRecDepth 100000 in
theorem b_X12_begin_37 {q_t q_t_pailAt q_t_holds q_t_leaks q_t_wants : Nat} {z : Int32 × Int32 × Int32 × (Nat → Int32) × (Nat → Int32) × (Nat → Int32) × (Nat → Int32)} (F : Fx p m c cX12_begin 3 s args RX12) (hret : meth.sig.returnType = none) (hlk : meth.locks = false) {k7 : Int32 → Int32 → Int32 → Int32 → (Nat → Int32) → (Nat → Int32) → (Nat → Int32) → (Nat → Int32) → Option (Int32 × Int32 × Int32 × (Nat → Int32) × (Nat → Int32) × (Nat → Int32) × (Nat → Int32))} (hk7 : ∀ {x1 : Int32} {x2 : Int32} {t_places : Int32} {t_deep : Int32} {t_pailAt : Nat → Int32} {t_holds : Nat → Int32} {t_leaks : Nat → Int32} {t_wants : Nat → Int32} {t_served : Int32} {t_wordMany : Int32} {t_sights : Int32} {t_padMany : Int32} {t_done : Int32} {t_drawn : Int32} {t_leaked : Int32} {t_drunk : Int32} {t_times : Int32} {t_foundNumber : Int32} {t_keptAt : Int32} {t_isWriting : Int32} {o_t_words : Value} {o_t_sightBehind : Value} {o_t_sightDoor : Value} {o_t_sightIs : Value} {o_t_pad : Value} {o_t_at : Value} {o_t_moved : Value} {o_t_has : Value} {o_t_order : Value} {o_t_best : Value} {o_t_wins : Value} {o_t_later : Value} {o_t_signs : Value} {o_t_kept : Value} {o_t_isKept : Value} {H : Heap} {locs : List Loc} {ls : Array Slot}, k7 x1 x2 t_places t_deep t_pailAt t_holds t_leaks t_wants = some z → Wd dd g mv A s H locs (w_X12_begin g q_t q_t_pailAt q_t_holds q_t_leaks q_t_wants o_t_words o_t_sightBehind o_t_sightDoor o_t_sightIs o_t_pad o_t_at o_t_moved o_t_has o_t_order o_t_best o_t_wins o_t_later o_t_signs o_t_kept o_t_isKept t_places t_deep t_served t_wordMany t_sights t_padMany t_done t_drawn t_leaked t_drunk t_times t_foundNumber t_keptAt t_isWriting t_pailAt t_holds t_leaks t_wants) → lv_has ls 3 [(0, .ref q_t), (1, .int x1), (2, .int x2)] → W p l e (rmH (0) 0 0) s m args below meth c H locs 0 0 (MQ below (Qo dd g none (fun u : Unit => (w_X12_begin g q_t q_t_pailAt q_t_holds q_t_leaks q_t_wants o_t_words o_t_sightBehind o_t_sightDoor o_t_sightIs o_t_pad o_t_at o_t_moved o_t_has o_t_order o_t_best o_t_wins o_t_later o_t_signs o_t_kept o_t_isKept z.1 t_deep z.2.1 t_wordMany z.2.2.1 t_padMany t_done t_drawn t_leaked t_drunk t_times t_foundNumber t_keptAt t_isWriting z.2.2.2.1 z.2.2.2.2.1 z.2.2.2.2.2.1 z.2.2.2.2.2.2)) A) args s 0 0 A) (F0 m 7 ls [])) : ∀ {x1 : Int32} {x2 : Int32} {y1 : Int32} {y2 : Int32} {t_places : Int32} {t_deep : Int32} {t_pailAt : Nat → Int32} {t_holds : Nat → Int32} {t_leaks : Nat → Int32} {t_wants : Nat → Int32} {t_served : Int32} {t_wordMany : Int32} {t_sights : Int32} {t_padMany : Int32} {t_done : Int32} {t_drawn : Int32} {t_leaked : Int32} {t_drunk : Int32} {t_times : Int32} {t_foundNumber : Int32} {t_keptAt : Int32} {t_isWriting : Int32} {o_t_words : Value} {o_t_sightBehind : Value} {o_t_sightDoor : Value} {o_t_sightIs : Value} {o_t_pad : Value} {o_t_at : Value} {o_t_moved : Value} {o_t_has : Value} {o_t_order : Value} {o_t_best : Value} {o_t_wins : Value} {o_t_later : Value} {o_t_signs : Value} {o_t_kept : Value} {o_t_isKept : Value} {H : Heap} {locs : List Loc} {ls : Array Slot}, f_X12_begin_37 k7 x1 x2 y1 y2 t_places t_deep t_pailAt t_holds t_leaks t_wants = some z → Wd dd g mv A s H locs (w_X12_begin g q_t q_t_pailAt q_t_holds q_t_leaks q_t_wants o_t_words o_t_sightBehind o_t_sightDoor o_t_sightIs o_t_pad o_t_at o_t_moved o_t_has o_t_order o_t_best o_t_wins o_t_later o_t_signs o_t_kept o_t_isKept t_places t_deep t_served t_wordMany t_sights t_padMany t_done t_drawn t_leaked t_drunk t_times t_foundNumber t_keptAt t_isWriting t_pailAt t_holds t_leaks t_wants) → lv_has ls 3 [(0, .ref q_t), (1, .int x1), (2, .int x2)] → W p l e (rmH (0) 0 0) s m args below meth c H locs 0 0 (MQ below (Qo dd g none (fun u : Unit => (w_X12_begin g q_t q_t_pailAt q_t_holds q_t_leaks q_t_wants o_t_words o_t_sightBehind o_t_sightDoor o_t_sightIs o_t_pad o_t_at o_t_moved o_t_has o_t_order o_t_best o_t_wins o_t_later o_t_signs o_t_kept o_t_isKept z.1 t_deep z.2.1 t_wordMany z.2.2.1 t_padMany t_done t_drawn t_leaked t_drunk t_times t_foundNumber t_keptAt t_isWriting z.2.2.2.1 z.2.2.2.2.1 z.2.2.2.2.2.1 z.2.2.2.2.2.2)) A) args s 0 0 A) (F0 m 37 ls [.int y2, .int y1, .ref q_t_holds]) := by
  intro x1 x2 y1 y2 t_places t_deep t_pailAt t_holds t_leaks t_wants t_served t_wordMany t_sights t_padMany t_done t_drawn t_leaked t_drunk t_times t_foundNumber t_keptAt t_isWriting o_t_words o_t_sightBehind o_t_sightDoor o_t_sightIs o_t_pad o_t_at o_t_moved o_t_has o_t_order o_t_best o_t_wins o_t_later o_t_signs o_t_kept o_t_isKept H locs ls hr hw hl
  obtain ⟨hg1, hr⟩ := g_no hr
  refine aw_i F hw 2 rfl hg1 dX12_begin_37 (fun H locs hw => ?_)
  replace hw : Wd dd g mv A s H locs (w_X12_begin g q_t q_t_pailAt q_t_holds q_t_leaks q_t_wants o_t_words o_t_sightBehind o_t_sightDoor o_t_sightIs o_t_pad o_t_at o_t_moved o_t_has o_t_order o_t_best o_t_wins o_t_later o_t_signs o_t_kept o_t_isKept t_places t_deep t_served t_wordMany t_sights t_padMany t_done t_drawn t_leaked t_drunk t_times t_foundNumber t_keptAt t_isWriting t_pailAt ((upd t_holds (y1).toNatClampNeg y2)) t_leaks t_wants) := hw
  refine lv_aload_n F.1 F.2.1 dX12_begin_38 rfl (lv_at hl 0 rfl) ?_
  refine gf_X12_16 F hw 0 rfl rfl dX12_begin_39 ?_
  refine lv_iload_n F.1 F.2.1 dX12_begin_42 rfl (lv_at hl 2 rfl) ?_
  refine lv_iconst (v := 0) F.1 F.2.1 dX12_begin_43 (by decide) ?_
  obtain ⟨hg2, hr⟩ := g_no hr
  refine aw_i F hw 3 rfl hg2 dX12_begin_44 (fun H locs hw => ?_)
  replace hw : Wd dd g mv A s H locs (w_X12_begin g q_t q_t_pailAt q_t_holds q_t_leaks q_t_wants o_t_words o_t_sightBehind o_t_sightDoor o_t_sightIs o_t_pad o_t_at o_t_moved o_t_has o_t_order o_t_best o_t_wins o_t_later o_t_signs o_t_kept o_t_isKept t_places t_deep t_served t_wordMany t_sights t_padMany t_done t_drawn t_leaked t_drunk t_times t_foundNumber t_keptAt t_isWriting t_pailAt ((upd t_holds (y1).toNatClampNeg y2)) ((upd t_leaks (x2).toNatClampNeg ((0 : Int32)))) t_wants) := hw
  refine lv_aload_n F.1 F.2.1 dX12_begin_45 rfl (lv_at hl 0 rfl) ?_
  refine gf_X12_19 F hw 0 rfl rfl dX12_begin_46 ?_
  refine lv_iload_n F.1 F.2.1 dX12_begin_49 rfl (lv_at hl 2 rfl) ?_
  refine lv_iconst (v := 0) F.1 F.2.1 dX12_begin_50 (by decide) ?_
  obtain ⟨hg3, hr⟩ := g_no hr
  refine aw_i F hw 4 rfl hg3 dX12_begin_51 (fun H locs hw => ?_)
  replace hw : Wd dd g mv A s H locs (w_X12_begin g q_t q_t_pailAt q_t_holds q_t_leaks q_t_wants o_t_words o_t_sightBehind o_t_sightDoor o_t_sightIs o_t_pad o_t_at o_t_moved o_t_has o_t_order o_t_best o_t_wins o_t_later o_t_signs o_t_kept o_t_isKept t_places t_deep t_served t_wordMany t_sights t_padMany t_done t_drawn t_leaked t_drunk t_times t_foundNumber t_keptAt t_isWriting t_pailAt ((upd t_holds (y1).toNatClampNeg y2)) ((upd t_leaks (x2).toNatClampNeg ((0 : Int32)))) ((upd t_wants (x2).toNatClampNeg ((0 : Int32))))) := hw
  refine lv_iinc (v := (x2 + 1)) (lv' := [(2, .int (x2 + 1)), (0, .ref q_t), (1, .int x1)]) F.1 F.2.1 dX12_begin_52 hl (k := 2) rfl rfl (by decide) rfl (fun ls hl => ?_)
  refine lv_goto (tgt := 7) F.1 F.2.1 dX12_begin_55 (by decide) ?_
  exact hk7 hr hw (lv_sub hl [1, 2, 0] rfl)
set_option maxHeartbeats 4000000 in
set_option maxRecDepth 100000 in
theorem b_X12_begin_7 {q_t q_t_pailAt q_t_holds q_t_leaks q_t_wants : Nat} {z : Int32 × Int32 × Int32 × (Nat → Int32) × (Nat → Int32) × (Nat → Int32) × (Nat → Int32)} (F : Fx p m c cX12_begin 3 s args RX12) (hret : meth.sig.returnType = none) (hlk : meth.locks = false) : ∀ (n : Nat), ∀ {x1 : Int32} {x2 : Int32} {t_places : Int32} {t_deep : Int32} {t_pailAt : Nat → Int32} {t_holds : Nat → Int32} {t_leaks : Nat → Int32} {t_wants : Nat → Int32} {t_served : Int32} {t_wordMany : Int32} {t_sights : Int32} {t_padMany : Int32} {t_done : Int32} {t_drawn : Int32} {t_leaked : Int32} {t_drunk : Int32} {t_times : Int32} {t_foundNumber : Int32} {t_keptAt : Int32} {t_isWriting : Int32} {o_t_words : Value} {o_t_sightBehind : Value} {o_t_sightDoor : Value} {o_t_sightIs : Value} {o_t_pad : Value} {o_t_at : Value} {o_t_moved : Value} {o_t_has : Value} {o_t_order : Value} {o_t_best : Value} {o_t_wins : Value} {o_t_later : Value} {o_t_signs : Value} {o_t_kept : Value} {o_t_isKept : Value} {H : Heap} {locs : List Loc} {ls : Array Slot}, f_X12_begin_7  n x1 x2 t_places t_deep t_pailAt t_holds t_leaks t_wants = some z → Wd dd g mv A s H locs (w_X12_begin g q_t q_t_pailAt q_t_holds q_t_leaks q_t_wants o_t_words o_t_sightBehind o_t_sightDoor o_t_sightIs o_t_pad o_t_at o_t_moved o_t_has o_t_order o_t_best o_t_wins o_t_later o_t_signs o_t_kept o_t_isKept t_places t_deep t_served t_wordMany t_sights t_padMany t_done t_drawn t_leaked t_drunk t_times t_foundNumber t_keptAt t_isWriting t_pailAt t_holds t_leaks t_wants) → lv_has ls 3 [(0, .ref q_t), (1, .int x1), (2, .int x2)] → W p l e (rmH (0) 0 0) s m args below meth c H locs 0 0 (MQ below (Qo dd g none (fun u : Unit => (w_X12_begin g q_t q_t_pailAt q_t_holds q_t_leaks q_t_wants o_t_words o_t_sightBehind o_t_sightDoor o_t_sightIs o_t_pad o_t_at o_t_moved o_t_has o_t_order o_t_best o_t_wins o_t_later o_t_signs o_t_kept o_t_isKept z.1 t_deep z.2.1 t_wordMany z.2.2.1 t_padMany t_done t_drawn t_leaked t_drunk t_times t_foundNumber t_keptAt t_isWriting z.2.2.2.1 z.2.2.2.2.1 z.2.2.2.2.2.1 z.2.2.2.2.2.2)) A) args s 0 0 A) (F0 m 7 ls []) := by
  intro n
  induction n with
  | zero =>
    intros
    rename_i hr _ _
    cases hr
  | succ n ih =>
    intro x1 x2 t_places t_deep t_pailAt t_holds t_leaks t_wants t_served t_wordMany t_sights t_padMany t_done t_drawn t_leaked t_drunk t_times t_foundNumber t_keptAt t_isWriting o_t_words o_t_sightBehind o_t_sightDoor o_t_sightIs o_t_pad o_t_at o_t_moved o_t_has o_t_order o_t_best o_t_wins o_t_later o_t_signs o_t_kept o_t_isKept H locs ls hr hw hl
    refine lv_iload_n F.1 F.2.1 dX12_begin_7 rfl (lv_at hl 2 rfl) ?_
    refine lv_bipush (v := 9) F.1 F.2.1 dX12_begin_8 (by decide) ?_
    refine lv_icmp_ge (tgt := 58) F.1 F.2.1 dX12_begin_10 (by decide) (fun hc4 => ?_) (fun hc4 => ?_)
    · replace hr := (if_pos hc4).symm.trans hr
      refine lv_aload_n F.1 F.2.1 dX12_begin_58 rfl (lv_at hl 0 rfl) ?_
      refine lv_iconst (v := 1) F.1 F.2.1 dX12_begin_59 (by decide) ?_
      refine lv_iload_n F.1 F.2.1 dX12_begin_60 rfl (lv_at hl 1 rfl) ?_
      refine lv_ishl F.1 F.2.1 dX12_begin_61 ?_
      refine lv_iconst (v := 1) F.1 F.2.1 dX12_begin_62 (by decide) ?_
      refine lv_isub F.1 F.2.1 dX12_begin_63 ?_
      refine pf_X12_80 F hw 0 rfl (Nat.le_of_ble_eq_true rfl) dX12_begin_64 (fun H locs hw => ?_)
      replace hw : Wd dd g mv A s H locs (w_X12_begin g q_t q_t_pailAt q_t_holds q_t_leaks q_t_wants o_t_words o_t_sightBehind o_t_sightDoor o_t_sightIs o_t_pad o_t_at o_t_moved o_t_has o_t_order o_t_best o_t_wins o_t_later o_t_signs o_t_kept o_t_isKept t_places t_deep ((((1 : Int32) <<< (x1 &&& 31)) - (1 : Int32))) t_wordMany t_sights t_padMany t_done t_drawn t_leaked t_drunk t_times t_foundNumber t_keptAt t_isWriting t_pailAt t_holds t_leaks t_wants) := hw
      refine lv_aload_n F.1 F.2.1 dX12_begin_67 rfl (lv_at hl 0 rfl) ?_
      refine lv_iconst (v := 0) F.1 F.2.1 dX12_begin_68 (by decide) ?_
      refine pf_X12_83 F hw 0 rfl (Nat.le_of_ble_eq_true rfl) dX12_begin_69 (fun H locs hw => ?_)
      replace hw : Wd dd g mv A s H locs (w_X12_begin g q_t q_t_pailAt q_t_holds q_t_leaks q_t_wants o_t_words o_t_sightBehind o_t_sightDoor o_t_sightIs o_t_pad o_t_at o_t_moved o_t_has o_t_order o_t_best o_t_wins o_t_later o_t_signs o_t_kept o_t_isKept t_places t_deep ((((1 : Int32) <<< (x1 &&& 31)) - (1 : Int32))) t_wordMany ((0 : Int32)) t_padMany t_done t_drawn t_leaked t_drunk t_times t_foundNumber t_keptAt t_isWriting t_pailAt t_holds t_leaks t_wants) := hw
      cases hr
      exact ret_v () F hret hlk hw (Nat.le_refl _) (Nat.le_refl _) dX12_begin_72
    · replace hr := (if_neg hc4).symm.trans hr
      refine lv_aload_n F.1 F.2.1 dX12_begin_13 rfl (lv_at hl 0 rfl) ?_
      refine gf_X12_7 F hw 0 rfl rfl dX12_begin_14 ?_
      refine lv_iload_n F.1 F.2.1 dX12_begin_17 rfl (lv_at hl 2 rfl) ?_
      refine lv_iload_n F.1 F.2.1 dX12_begin_18 rfl (lv_at hl 2 rfl) ?_
      obtain ⟨hg5, hr⟩ := g_no hr
      refine aw_i F hw 1 rfl hg5 dX12_begin_19 (fun H locs hw => ?_)
      replace hw : Wd dd g mv A s H locs (w_X12_begin g q_t q_t_pailAt q_t_holds q_t_leaks q_t_wants o_t_words o_t_sightBehind o_t_sightDoor o_t_sightIs o_t_pad o_t_at o_t_moved o_t_has o_t_order o_t_best o_t_wins o_t_later o_t_signs o_t_kept o_t_isKept t_places t_deep t_served t_wordMany t_sights t_padMany t_done t_drawn t_leaked t_drunk t_times t_foundNumber t_keptAt t_isWriting ((upd t_pailAt (x2).toNatClampNeg x2)) t_holds t_leaks t_wants) := hw
      refine lv_aload_n F.1 F.2.1 dX12_begin_20 rfl (lv_at hl 0 rfl) ?_
      refine gf_X12_13 F hw 0 rfl rfl dX12_begin_21 ?_
      refine lv_iload_n F.1 F.2.1 dX12_begin_24 rfl (lv_at hl 2 rfl) ?_
      refine lv_iload_n F.1 F.2.1 dX12_begin_25 rfl (lv_at hl 2 rfl) ?_
      refine lv_if_ne (tgt := 36) F.1 F.2.1 dX12_begin_26 (by decide) (fun hc6 => ?_) (fun hc6 => ?_)
      · replace hr := (if_neg hc6).symm.trans hr
        refine lv_iconst (v := 0) F.1 F.2.1 dX12_begin_36 (by decide) ?_
        exact b_X12_begin_37 F hret hlk (ih) hr hw (lv_sub hl [0, 1, 2] rfl)
      · replace hr := (if_pos hc6).symm.trans hr
        refine lv_aload_n F.1 F.2.1 dX12_begin_29 rfl (lv_at hl 0 rfl) ?_
        refine gf_X12_69 F hw 0 rfl rfl dX12_begin_30 ?_
        refine lv_goto (tgt := 37) F.1 F.2.1 dX12_begin_33 (by decide) ?_
        exact b_X12_begin_37 F hret hlk (ih) hr hw (lv_sub hl [0, 1, 2] rfl)
set_option maxHeartbeats 4000000 in
set_option maxRecDepth 100000 in
theorem c_X12_begin (l : Launch) (dd : va_G) (g : Nat → ClassId) (mv : Nat) (q_t : Nat) (q_t_pailAt : Nat) (q_t_holds : Nat) (q_t_leaks : Nat) (q_t_wants : Nat) (o_t_words : Value) (o_t_sightBehind : Value) (o_t_sightDoor : Value) (o_t_sightIs : Value) (o_t_pad : Value) (o_t_at : Value) (o_t_moved : Value) (o_t_has : Value) (o_t_order : Value) (o_t_best : Value) (o_t_wins : Value) (o_t_later : Value) (o_t_signs : Value) (o_t_kept : Value) (o_t_isKept : Value) (t_places : Int32) (t_deep : Int32) (t_served : Int32) (t_wordMany : Int32) (t_sights : Int32) (t_padMany : Int32) (t_done : Int32) (t_drawn : Int32) (t_leaked : Int32) (t_drunk : Int32) (t_times : Int32) (t_foundNumber : Int32) (t_keptAt : Int32) (t_isWriting : Int32) (t_pailAt : Nat → Int32) (t_holds : Nat → Int32) (t_leaks : Nat → Int32) (t_wants : Nat → Int32) (a1 : Int32) (z : Int32 × Int32 × Int32 × (Nat → Int32) × (Nat → Int32) × (Nat → Int32) × (Nat → Int32)) (hr : f_X12_begin t_deep t_pailAt t_holds t_leaks t_wants a1 = some z) (sz : Nat) : Met l yX12_begin (.code yX12_begin cX12_begin 3 none :: WS) (rmH 0 0 0) (va_Pc [.ref q_t, .int a1] (PW dd g mv (w_X12_begin g q_t q_t_pailAt q_t_holds q_t_leaks q_t_wants o_t_words o_t_sightBehind o_t_sightDoor o_t_sightIs o_t_pad o_t_at o_t_moved o_t_has o_t_order o_t_best o_t_wins o_t_later o_t_signs o_t_kept o_t_isKept t_places t_deep t_served t_wordMany t_sights t_padMany t_done t_drawn t_leaked t_drunk t_times t_foundNumber t_keptAt t_isWriting t_pailAt t_holds t_leaks t_wants) sz)) (Qo dd g none (fun u : Unit => (w_X12_begin g q_t q_t_pailAt q_t_holds q_t_leaks q_t_wants o_t_words o_t_sightBehind o_t_sightDoor o_t_sightIs o_t_pad o_t_at o_t_moved o_t_has o_t_order o_t_best o_t_wins o_t_later o_t_signs o_t_kept o_t_isKept z.1 t_deep z.2.1 t_wordMany z.2.2.1 t_padMany t_done t_drawn t_leaked t_drunk t_times t_foundNumber t_keptAt t_isWriting z.2.2.2.1 z.2.2.2.2.1 z.2.2.2.2.2.1 z.2.2.2.2.2.2)) (va_A (w_X12_begin g q_t q_t_pailAt q_t_holds q_t_leaks q_t_wants o_t_words o_t_sightBehind o_t_sightDoor o_t_sightIs o_t_pad o_t_at o_t_moved o_t_has o_t_order o_t_best o_t_wins o_t_later o_t_signs o_t_kept o_t_isKept t_places t_deep t_served t_wordMany t_sights t_padMany t_done t_drawn t_leaked t_drunk t_times t_foundNumber t_keptAt t_isWriting t_pailAt t_holds t_leaks t_wants) sz)) 0 0 (va_A (w_X12_begin g q_t q_t_pailAt q_t_holds q_t_leaks q_t_wants o_t_words o_t_sightBehind o_t_sightDoor o_t_sightIs o_t_pad o_t_at o_t_moved o_t_has o_t_order o_t_best o_t_wins o_t_later o_t_signs o_t_kept o_t_isKept t_places t_deep t_served t_wordMany t_sights t_padMany t_done t_drawn t_leaked t_drunk t_times t_foundNumber t_keptAt t_isWriting t_pailAt t_holds t_leaks t_wants) sz) := by
  refine Met_intro (by decide) (Nat.le_of_ble_eq_true rfl) ?_
  intro p e s m below meth c A ls F hret hlk hin hw hl
  replace hl : lv_has ls 3 [(0, .ref q_t), (1, .int a1)] := hl
  refine lv_aload_n F.1 F.2.1 dX12_begin_0 rfl (lv_at hl 0 rfl) ?_
  refine lv_iload_n F.1 F.2.1 dX12_begin_1 rfl (lv_at hl 1 rfl) ?_
  refine pf_X12_77 F hw 0 rfl (Nat.le_of_ble_eq_true rfl) dX12_begin_2 (fun H locs hw => ?_)
  replace hw : Wd dd g mv A s H locs (w_X12_begin g q_t q_t_pailAt q_t_holds q_t_leaks q_t_wants o_t_words o_t_sightBehind o_t_sightDoor o_t_sightIs o_t_pad o_t_at o_t_moved o_t_has o_t_order o_t_best o_t_wins o_t_later o_t_signs o_t_kept o_t_isKept a1 t_deep t_served t_wordMany t_sights t_padMany t_done t_drawn t_leaked t_drunk t_times t_foundNumber t_keptAt t_isWriting t_pailAt t_holds t_leaks t_wants) := hw
  refine lv_iconst (v := 0) F.1 F.2.1 dX12_begin_5 (by decide) ?_
  refine lv_istore_n (lv' := [(2, .int (0 : Int32)), (0, .ref q_t), (1, .int a1)]) F.1 F.2.1 dX12_begin_6 rfl hl (by decide) rfl (fun ls hl => ?_)
  exact b_X12_begin_7 F hret hlk  fuel hr hw (lv_sub hl [1, 2, 0] rfl)
set_option maxHeartbeats 4000000 in
set_option maxRecDepth 100000 in
theorem c_X12_isPlace (l : Launch) (dd : va_G) (g : Nat → ClassId) (mv : Nat) (q_t : Nat) (o_t_pailAt : Value) (o_t_holds : Value) (o_t_leaks : Value) (o_t_wants : Value) (o_t_words : Value) (o_t_sightBehind : Value) (o_t_sightDoor : Value) (o_t_sightIs : Value) (o_t_pad : Value) (o_t_at : Value) (o_t_moved : Value) (o_t_has : Value) (o_t_order : Value) (o_t_best : Value) (o_t_wins : Value) (o_t_later : Value) (o_t_signs : Value) (o_t_kept : Value) (o_t_isKept : Value) (t_places : Int32) (t_deep : Int32) (t_served : Int32) (t_wordMany : Int32) (t_sights : Int32) (t_padMany : Int32) (t_done : Int32) (t_drawn : Int32) (t_leaked : Int32) (t_drunk : Int32) (t_times : Int32) (t_foundNumber : Int32) (t_keptAt : Int32) (t_isWriting : Int32) (a1 : Int32) (z : Int32) (hr : f_X12_isPlace t_places a1 = some z) (sz : Nat) : Met l yX12_isPlace (.code yX12_isPlace cX12_isPlace 2 (some .boolean) :: WS) (rmH 1 0 0) (va_Pc [.ref q_t, .int a1] (PW dd g mv (w_X12_isPlace g q_t o_t_pailAt o_t_holds o_t_leaks o_t_wants o_t_words o_t_sightBehind o_t_sightDoor o_t_sightIs o_t_pad o_t_at o_t_moved o_t_has o_t_order o_t_best o_t_wins o_t_later o_t_signs o_t_kept o_t_isKept t_places t_deep t_served t_wordMany t_sights t_padMany t_done t_drawn t_leaked t_drunk t_times t_foundNumber t_keptAt t_isWriting) sz)) (Qo dd g (some (.int z)) (fun u : Unit => (w_X12_isPlace g q_t o_t_pailAt o_t_holds o_t_leaks o_t_wants o_t_words o_t_sightBehind o_t_sightDoor o_t_sightIs o_t_pad o_t_at o_t_moved o_t_has o_t_order o_t_best o_t_wins o_t_later o_t_signs o_t_kept o_t_isKept t_places t_deep t_served t_wordMany t_sights t_padMany t_done t_drawn t_leaked t_drunk t_times t_foundNumber t_keptAt t_isWriting)) (va_A (w_X12_isPlace g q_t o_t_pailAt o_t_holds o_t_leaks o_t_wants o_t_words o_t_sightBehind o_t_sightDoor o_t_sightIs o_t_pad o_t_at o_t_moved o_t_has o_t_order o_t_best o_t_wins o_t_later o_t_signs o_t_kept o_t_isKept t_places t_deep t_served t_wordMany t_sights t_padMany t_done t_drawn t_leaked t_drunk t_times t_foundNumber t_keptAt t_isWriting) sz)) 0 0 (va_A (w_X12_isPlace g q_t o_t_pailAt o_t_holds o_t_leaks o_t_wants o_t_words o_t_sightBehind o_t_sightDoor o_t_sightIs o_t_pad o_t_at o_t_moved o_t_has o_t_order o_t_best o_t_wins o_t_later o_t_signs o_t_kept o_t_isKept t_places t_deep t_served t_wordMany t_sights t_padMany t_done t_drawn t_leaked t_drunk t_times t_foundNumber t_keptAt t_isWriting) sz) := by
  refine Met_intro (by decide) (Nat.le_of_ble_eq_true rfl) ?_
  intro p e s m below meth c A ls F hret hlk hin hw hl
  replace hl : lv_has ls 2 [(0, .ref q_t), (1, .int a1)] := hl
  refine lv_iload_n F.1 F.2.1 dX12_isPlace_0 rfl (lv_at hl 1 rfl) ?_
  refine lv_i2l F.1 F.2.1 dX12_isPlace_1 rfl ?_
  refine lv_lconst (v := 0) F.1 F.2.1 dX12_isPlace_2 (by decide) ?_
  refine lv_aload_n F.1 F.2.1 dX12_isPlace_3 rfl (lv_at hl 0 rfl) ?_
  refine gf_X12_77 F hw 0 rfl rfl dX12_isPlace_4 ?_
  refine lv_iconst (v := 1) F.1 F.2.1 dX12_isPlace_7 (by decide) ?_
  refine lv_isub F.1 F.2.1 dX12_isPlace_8 ?_
  refine lv_i2l F.1 F.2.1 dX12_isPlace_9 rfl ?_
  obtain ⟨z1, hz1, hr⟩ := Option.bind_eq_some_iff.mp hr
  refine call_o (wr := [(q_t, .inr (12, [.int t_places, .int t_deep, o_t_pailAt, o_t_holds, o_t_leaks, o_t_wants, .int t_served, o_t_words, .int t_wordMany, o_t_sightBehind, o_t_sightDoor, o_t_sightIs, .int t_sights, o_t_pad, .int t_padMany, o_t_at, o_t_moved, o_t_has, .int t_done, .int t_drawn, .int t_leaked, .int t_drunk, .int t_times, .int t_foundNumber, o_t_order, o_t_best, o_t_wins, o_t_later, o_t_signs, o_t_kept, o_t_isKept, .int t_keptAt, .int t_isWriting]))]) (run_S (As := [.long a1.toInt64, .long (0 : Int64), .long ((t_places - (1 : Int32))).toInt64]) (rest := []) F k_X12_86 (c_X12_in l dd g mv a1.toInt64 ((0 : Int64)) (((t_places - (1 : Int32))).toInt64) z1 hz1 _) hw [] (by decide) rfl rfl hl.1 rfl (Nat.le_of_ble_eq_true rfl) dX12_isPlace_10 ⟨Nat.le_of_ble_eq_true rfl, Nat.le_of_ble_eq_true rfl⟩ ⟨Nat.le_of_ble_eq_true rfl, Nat.le_of_ble_eq_true rfl⟩) hw [] [0] rfl rfl (by decide) (by decide) (fun u2 H locs hw => ?_)
  replace hw : Wd dd g mv A s H locs (w_X12_isPlace g q_t o_t_pailAt o_t_holds o_t_leaks o_t_wants o_t_words o_t_sightBehind o_t_sightDoor o_t_sightIs o_t_pad o_t_at o_t_moved o_t_has o_t_order o_t_best o_t_wins o_t_later o_t_signs o_t_kept o_t_isKept t_places t_deep t_served t_wordMany t_sights t_padMany t_done t_drawn t_leaked t_drunk t_times t_foundNumber t_keptAt t_isWriting) := hw.sub [0] (by decide) rfl
  refine W.eq (g2 := F0 m 13 ls (.int z1 :: [])) rfl ?_
  obtain ⟨hg3, hr⟩ := g_no hr
  cases hr
  exact ret_z () F hret hlk (z_nar hg3) hw (Nat.le_refl _) (Nat.le_refl _) dX12_isPlace_13
set_option maxHeartbeats 4000000 in
set_option maxRecDepth 100000 in
theorem c_X12_places (l : Launch) (dd : va_G) (g : Nat → ClassId) (mv : Nat) (q_t : Nat) (q_t_pailAt : Nat) (q_t_holds : Nat) (q_t_leaks : Nat) (q_t_wants : Nat) (o_t_words : Value) (o_t_sightBehind : Value) (o_t_sightDoor : Value) (o_t_sightIs : Value) (o_t_pad : Value) (o_t_at : Value) (o_t_moved : Value) (o_t_has : Value) (o_t_order : Value) (o_t_best : Value) (o_t_wins : Value) (o_t_later : Value) (o_t_signs : Value) (o_t_kept : Value) (o_t_isKept : Value) (t_places : Int32) (t_deep : Int32) (t_served : Int32) (t_wordMany : Int32) (t_sights : Int32) (t_padMany : Int32) (t_done : Int32) (t_drawn : Int32) (t_leaked : Int32) (t_drunk : Int32) (t_times : Int32) (t_foundNumber : Int32) (t_keptAt : Int32) (t_isWriting : Int32) (t_pailAt : Nat → Int32) (t_holds : Nat → Int32) (t_leaks : Nat → Int32) (t_wants : Nat → Int32) (a1 : Int32) (z : Int32 × Int32 × Int32 × Int32 × (Nat → Int32) × (Nat → Int32) × (Nat → Int32) × (Nat → Int32)) (hr : f_X12_places t_places t_deep t_served t_sights t_pailAt t_holds t_leaks t_wants a1 = some z) (sz : Nat) : Met l yX12_places (.code yX12_places cX12_places 3 (some .int) :: WS) (rmH 1 0 0) (va_Pc [.ref q_t, .int a1] (PW dd g mv (w_X12_places g q_t q_t_pailAt q_t_holds q_t_leaks q_t_wants o_t_words o_t_sightBehind o_t_sightDoor o_t_sightIs o_t_pad o_t_at o_t_moved o_t_has o_t_order o_t_best o_t_wins o_t_later o_t_signs o_t_kept o_t_isKept t_places t_deep t_served t_wordMany t_sights t_padMany t_done t_drawn t_leaked t_drunk t_times t_foundNumber t_keptAt t_isWriting t_pailAt t_holds t_leaks t_wants) sz)) (Qo dd g (some (.int z.1)) (fun u : Unit => (w_X12_places g q_t q_t_pailAt q_t_holds q_t_leaks q_t_wants o_t_words o_t_sightBehind o_t_sightDoor o_t_sightIs o_t_pad o_t_at o_t_moved o_t_has o_t_order o_t_best o_t_wins o_t_later o_t_signs o_t_kept o_t_isKept z.2.1 t_deep z.2.2.1 t_wordMany z.2.2.2.1 t_padMany t_done t_drawn t_leaked t_drunk t_times t_foundNumber t_keptAt t_isWriting z.2.2.2.2.1 z.2.2.2.2.2.1 z.2.2.2.2.2.2.1 z.2.2.2.2.2.2.2)) (va_A (w_X12_places g q_t q_t_pailAt q_t_holds q_t_leaks q_t_wants o_t_words o_t_sightBehind o_t_sightDoor o_t_sightIs o_t_pad o_t_at o_t_moved o_t_has o_t_order o_t_best o_t_wins o_t_later o_t_signs o_t_kept o_t_isKept t_places t_deep t_served t_wordMany t_sights t_padMany t_done t_drawn t_leaked t_drunk t_times t_foundNumber t_keptAt t_isWriting t_pailAt t_holds t_leaks t_wants) sz)) 0 0 (va_A (w_X12_places g q_t q_t_pailAt q_t_holds q_t_leaks q_t_wants o_t_words o_t_sightBehind o_t_sightDoor o_t_sightIs o_t_pad o_t_at o_t_moved o_t_has o_t_order o_t_best o_t_wins o_t_later o_t_signs o_t_kept o_t_isKept t_places t_deep t_served t_wordMany t_sights t_padMany t_done t_drawn t_leaked t_drunk t_times t_foundNumber t_keptAt t_isWriting t_pailAt t_holds t_leaks t_wants) sz) := by
  refine Met_intro (by decide) (Nat.le_of_ble_eq_true rfl) ?_
  intro p e s m below meth c A ls F hret hlk hin hw hl
  replace hl : lv_has ls 3 [(0, .ref q_t), (1, .int a1)] := hl
  refine lv_iload_n F.1 F.2.1 dX12_places_0 rfl (lv_at hl 1 rfl) ?_
  refine lv_i2l F.1 F.2.1 dX12_places_1 rfl ?_
  refine lv_ldc2 F.1 F.2.1 F.2.2.2.1 (F.2.2.2.2 _ cl_X12_90) dX12_places_2 ?_
  refine lv_ldc2 F.1 F.2.1 F.2.2.2.1 (F.2.2.2.2 _ cl_X12_92) dX12_places_5 ?_
  obtain ⟨z1, hz1, hr⟩ := Option.bind_eq_some_iff.mp hr
  refine call_o (wr := [(q_t, .inr (12, [.int t_places, .int t_deep, .ref q_t_pailAt, .ref q_t_holds, .ref q_t_leaks, .ref q_t_wants, .int t_served, o_t_words, .int t_wordMany, o_t_sightBehind, o_t_sightDoor, o_t_sightIs, .int t_sights, o_t_pad, .int t_padMany, o_t_at, o_t_moved, o_t_has, .int t_done, .int t_drawn, .int t_leaked, .int t_drunk, .int t_times, .int t_foundNumber, o_t_order, o_t_best, o_t_wins, o_t_later, o_t_signs, o_t_kept, o_t_isKept, .int t_keptAt, .int t_isWriting])), (q_t_pailAt, .inl (g 0, 9, .inl t_pailAt)), (q_t_holds, .inl (g 0, 9, .inl t_holds)), (q_t_leaks, .inl (g 0, 9, .inl t_leaks)), (q_t_wants, .inl (g 0, 9, .inl t_wants))]) (run_S (As := [.long a1.toInt64, .long (3 : Int64), .long (9 : Int64)]) (rest := []) F k_X12_86 (c_X12_in l dd g mv a1.toInt64 ((3 : Int64)) ((9 : Int64)) z1 hz1 _) hw [] (by decide) rfl rfl hl.1 rfl (Nat.le_of_ble_eq_true rfl) dX12_places_8 ⟨Nat.le_of_ble_eq_true rfl, Nat.le_of_ble_eq_true rfl⟩ ⟨Nat.le_of_ble_eq_true rfl, Nat.le_of_ble_eq_true rfl⟩) hw [] [0, 1, 2, 3, 4] rfl rfl (by decide) (by decide) (fun u2 H locs hw => ?_)
  replace hw : Wd dd g mv A s H locs (w_X12_places g q_t q_t_pailAt q_t_holds q_t_leaks q_t_wants o_t_words o_t_sightBehind o_t_sightDoor o_t_sightIs o_t_pad o_t_at o_t_moved o_t_has o_t_order o_t_best o_t_wins o_t_later o_t_signs o_t_kept o_t_isKept t_places t_deep t_served t_wordMany t_sights t_padMany t_done t_drawn t_leaked t_drunk t_times t_foundNumber t_keptAt t_isWriting t_pailAt t_holds t_leaks t_wants) := hw.sub [0, 1, 2, 3, 4] (by decide) rfl
  refine W.eq (g2 := F0 m 11 ls (.int z1 :: [])) rfl ?_
  refine lv_if_ne (tgt := 17) F.1 F.2.1 dX12_places_11 (by decide) (fun hc3 => ?_) (fun hc3 => ?_)
  · replace hr := (if_neg hc3).symm.trans hr
    refine lv_aload_n F.1 F.2.1 dX12_places_17 rfl (lv_at hl 0 rfl) ?_
    refine gf_X12_77 F hw 0 rfl rfl dX12_places_18 ?_
    refine lv_istore_n (lv' := [(2, .int t_places), (0, .ref q_t), (1, .int a1)]) F.1 F.2.1 dX12_places_21 rfl hl (by decide) rfl (fun ls hl => ?_)
    refine lv_aload_n F.1 F.2.1 dX12_places_22 rfl (lv_at hl 1 rfl) ?_
    refine lv_iload_n F.1 F.2.1 dX12_places_23 rfl (lv_at hl 2 rfl) ?_
    obtain ⟨z4, hz4, hr⟩ := Option.bind_eq_some_iff.mp hr
    refine call_o (wr := []) (run_V (As := [.int a1]) (rest := []) F k_X12_73 (c_X12_begin l dd g mv q_t q_t_pailAt q_t_holds q_t_leaks q_t_wants o_t_words o_t_sightBehind o_t_sightDoor o_t_sightIs o_t_pad o_t_at o_t_moved o_t_has o_t_order o_t_best o_t_wins o_t_later o_t_signs o_t_kept o_t_isKept t_places t_deep t_served t_wordMany t_sights t_padMany t_done t_drawn t_leaked t_drunk t_times t_foundNumber t_keptAt t_isWriting t_pailAt t_holds t_leaks t_wants a1 z4 hz4 _) hw [0, 1, 2, 3, 4] (by decide) rfl (ci := 12) rfl rfl rfl rfl hl.1 rfl (Nat.le_of_ble_eq_true rfl) dX12_places_24 ⟨Nat.le_of_ble_eq_true rfl, Nat.le_of_ble_eq_true rfl⟩ ⟨Nat.le_of_ble_eq_true rfl, Nat.le_of_ble_eq_true rfl⟩) hw [0, 1, 2, 3, 4] [] rfl rfl (by decide) (by decide) (fun u5 H locs hw => ?_)
    replace hw : Wd dd g mv A s H locs (w_X12_places g q_t q_t_pailAt q_t_holds q_t_leaks q_t_wants o_t_words o_t_sightBehind o_t_sightDoor o_t_sightIs o_t_pad o_t_at o_t_moved o_t_has o_t_order o_t_best o_t_wins o_t_later o_t_signs o_t_kept o_t_isKept z4.1 t_deep z4.2.1 t_wordMany z4.2.2.1 t_padMany t_done t_drawn t_leaked t_drunk t_times t_foundNumber t_keptAt t_isWriting z4.2.2.2.1 z4.2.2.2.2.1 z4.2.2.2.2.2.1 z4.2.2.2.2.2.2) := hw.sub [0, 1, 2, 3, 4] (by decide) rfl
    refine lv_iload_n F.1 F.2.1 dX12_places_27 rfl (lv_at hl 0 rfl) ?_
    cases hr
    exact ret_i () F hret hlk hw (Nat.le_refl _) (Nat.le_refl _) dX12_places_28
  · replace hr := (if_pos hc3).symm.trans hr
    refine lv_bipush (v := -2) F.1 F.2.1 dX12_places_14 (by decide) ?_
    cases hr
    exact ret_i () F hret hlk hw (Nat.le_refl _) (Nat.le_refl _) dX12_places_16
set_option maxHeartbeats 4000000 in
set_option maxRecDepth 100000 in
theorem b_X12_pail_87 {q_t q_t_holds q_t_leaks : Nat} {z : Int32 × (Nat → Int32) × (Nat → Int32)} (F : Fx p m c cX12_pail 5 s args RX12) (hret : meth.sig.returnType = some .int) (hlk : meth.locks = false) : ∀ {x1 : Int32} {x2 : Int32} {x3 : Int32} {x4 : Int32} {y1 : Int32} {y2 : Int32} {t_holds : Nat → Int32} {t_leaks : Nat → Int32} {t_places : Int32} {t_deep : Int32} {t_served : Int32} {t_wordMany : Int32} {t_sights : Int32} {t_padMany : Int32} {t_done : Int32} {t_drawn : Int32} {t_leaked : Int32} {t_drunk : Int32} {t_times : Int32} {t_foundNumber : Int32} {t_keptAt : Int32} {t_isWriting : Int32} {o_t_pailAt : Value} {o_t_wants : Value} {o_t_words : Value} {o_t_sightBehind : Value} {o_t_sightDoor : Value} {o_t_sightIs : Value} {o_t_pad : Value} {o_t_at : Value} {o_t_moved : Value} {o_t_has : Value} {o_t_order : Value} {o_t_best : Value} {o_t_wins : Value} {o_t_later : Value} {o_t_signs : Value} {o_t_kept : Value} {o_t_isKept : Value} {H : Heap} {locs : List Loc} {ls : Array Slot}, f_X12_pail_87  x1 x2 x3 x4 y1 y2 t_holds t_leaks = some z → Wd dd g mv A s H locs (w_X12_pail g q_t q_t_holds q_t_leaks o_t_pailAt o_t_wants o_t_words o_t_sightBehind o_t_sightDoor o_t_sightIs o_t_pad o_t_at o_t_moved o_t_has o_t_order o_t_best o_t_wins o_t_later o_t_signs o_t_kept o_t_isKept t_places t_deep t_served t_wordMany t_sights t_padMany t_done t_drawn t_leaked t_drunk t_times t_foundNumber t_keptAt t_isWriting t_holds t_leaks) → lv_has ls 5 [(0, .ref q_t), (1, .int x1), (2, .int x2), (3, .int x3), (4, .int x4)] → W p l e (rmH (2) 0 0) s m args below meth c H locs 0 0 (MQ below (Qo dd g (some (.int z.1)) (fun u : Unit => (w_X12_pail g q_t q_t_holds q_t_leaks o_t_pailAt o_t_wants o_t_words o_t_sightBehind o_t_sightDoor o_t_sightIs o_t_pad o_t_at o_t_moved o_t_has o_t_order o_t_best o_t_wins o_t_later o_t_signs o_t_kept o_t_isKept t_places t_deep t_served t_wordMany t_sights t_padMany t_done t_drawn t_leaked t_drunk t_times t_foundNumber t_keptAt t_isWriting z.2.1 z.2.2)) A) args s 0 0 A) (F0 m 87 ls [.int y2, .int y1, .ref q_t_holds]) := by
  intro x1 x2 x3 x4 y1 y2 t_holds t_leaks t_places t_deep t_served t_wordMany t_sights t_padMany t_done t_drawn t_leaked t_drunk t_times t_foundNumber t_keptAt t_isWriting o_t_pailAt o_t_wants o_t_words o_t_sightBehind o_t_sightDoor o_t_sightIs o_t_pad o_t_at o_t_moved o_t_has o_t_order o_t_best o_t_wins o_t_later o_t_signs o_t_kept o_t_isKept H locs ls hr hw hl
  obtain ⟨hg1, hr⟩ := g_no hr
  refine aw_i F hw 1 rfl hg1 dX12_pail_87 (fun H locs hw => ?_)
  replace hw : Wd dd g mv A s H locs (w_X12_pail g q_t q_t_holds q_t_leaks o_t_pailAt o_t_wants o_t_words o_t_sightBehind o_t_sightDoor o_t_sightIs o_t_pad o_t_at o_t_moved o_t_has o_t_order o_t_best o_t_wins o_t_later o_t_signs o_t_kept o_t_isKept t_places t_deep t_served t_wordMany t_sights t_padMany t_done t_drawn t_leaked t_drunk t_times t_foundNumber t_keptAt t_isWriting ((upd t_holds (y1).toNatClampNeg y2)) t_leaks) := hw
  refine lv_aload_n F.1 F.2.1 dX12_pail_88 rfl (lv_at hl 0 rfl) ?_
  refine gf_X12_16 F hw 0 rfl rfl dX12_pail_89 ?_
  refine lv_iload_n F.1 F.2.1 dX12_pail_92 rfl (lv_at hl 1 rfl) ?_
  refine lv_iload_n F.1 F.2.1 dX12_pail_93 rfl (lv_at hl 2 rfl) ?_
  refine lv_iconst (v := 1) F.1 F.2.1 dX12_pail_94 (by decide) ?_
  refine lv_icmp_ne (tgt := 102) F.1 F.2.1 dX12_pail_95 (by decide) (fun hc2 => ?_) (fun hc2 => ?_)
  · replace hr := (if_neg hc2).symm.trans hr
    refine lv_aload_n F.1 F.2.1 dX12_pail_102 rfl (lv_at hl 0 rfl) ?_
    refine gf_X12_16 F hw 0 rfl rfl dX12_pail_103 ?_
    refine lv_iload_n F.1 F.2.1 dX12_pail_106 rfl (lv_at hl 1 rfl) ?_
    obtain ⟨hg3, hr⟩ := g_no hr
    refine ar_i F hw 2 rfl hg3 dX12_pail_107 ?_
    obtain ⟨hg4, hr⟩ := g_no hr
    refine aw_i F hw 2 rfl hg4 dX12_pail_108 (fun H locs hw => ?_)
    replace hw : Wd dd g mv A s H locs (w_X12_pail g q_t q_t_holds q_t_leaks o_t_pailAt o_t_wants o_t_words o_t_sightBehind o_t_sightDoor o_t_sightIs o_t_pad o_t_at o_t_moved o_t_has o_t_order o_t_best o_t_wins o_t_later o_t_signs o_t_kept o_t_isKept t_places t_deep t_served t_wordMany t_sights t_padMany t_done t_drawn t_leaked t_drunk t_times t_foundNumber t_keptAt t_isWriting ((upd t_holds (y1).toNatClampNeg y2)) ((upd t_leaks (x1).toNatClampNeg ((t_leaks (x1).toNatClampNeg))))) := hw
    refine lv_iload F.1 F.2.1 dX12_pail_109 (lv_at hl 4 rfl) ?_
    cases hr
    exact ret_i () F hret hlk hw (Nat.le_refl _) (Nat.le_refl _) dX12_pail_111
  · replace hr := (if_pos hc2).symm.trans hr
    refine lv_iload_n F.1 F.2.1 dX12_pail_98 rfl (lv_at hl 3 rfl) ?_
    refine lv_goto (tgt := 108) F.1 F.2.1 dX12_pail_99 (by decide) ?_
    obtain ⟨hg5, hr⟩ := g_no hr
    refine aw_i F hw 2 rfl hg5 dX12_pail_108 (fun H locs hw => ?_)
    replace hw : Wd dd g mv A s H locs (w_X12_pail g q_t q_t_holds q_t_leaks o_t_pailAt o_t_wants o_t_words o_t_sightBehind o_t_sightDoor o_t_sightIs o_t_pad o_t_at o_t_moved o_t_has o_t_order o_t_best o_t_wins o_t_later o_t_signs o_t_kept o_t_isKept t_places t_deep t_served t_wordMany t_sights t_padMany t_done t_drawn t_leaked t_drunk t_times t_foundNumber t_keptAt t_isWriting ((upd t_holds (y1).toNatClampNeg y2)) ((upd t_leaks (x1).toNatClampNeg x3))) := hw
    refine lv_iload F.1 F.2.1 dX12_pail_109 (lv_at hl 4 rfl) ?_
    cases hr
    exact ret_i () F hret hlk hw (Nat.le_refl _) (Nat.le_refl _) dX12_pail_111
set_option maxHeartbeats 4000000 in
set_option maxRecDepth 100000 in
theorem b_X12_pail_66 {q_t q_t_holds q_t_leaks : Nat} {z : Int32 × (Nat → Int32) × (Nat → Int32)} (F : Fx p m c cX12_pail 5 s args RX12) (hret : meth.sig.returnType = some .int) (hlk : meth.locks = false) : ∀ {x1 : Int32} {x2 : Int32} {x3 : Int32} {y0 : Int32} {t_holds : Nat → Int32} {t_leaks : Nat → Int32} {t_places : Int32} {t_deep : Int32} {t_served : Int32} {t_wordMany : Int32} {t_sights : Int32} {t_padMany : Int32} {t_done : Int32} {t_drawn : Int32} {t_leaked : Int32} {t_drunk : Int32} {t_times : Int32} {t_foundNumber : Int32} {t_keptAt : Int32} {t_isWriting : Int32} {o_t_pailAt : Value} {o_t_wants : Value} {o_t_words : Value} {o_t_sightBehind : Value} {o_t_sightDoor : Value} {o_t_sightIs : Value} {o_t_pad : Value} {o_t_at : Value} {o_t_moved : Value} {o_t_has : Value} {o_t_order : Value} {o_t_best : Value} {o_t_wins : Value} {o_t_later : Value} {o_t_signs : Value} {o_t_kept : Value} {o_t_isKept : Value} {H : Heap} {locs : List Loc} {ls : Array Slot}, f_X12_pail_66  x1 x2 x3 y0 t_holds t_leaks = some z → Wd dd g mv A s H locs (w_X12_pail g q_t q_t_holds q_t_leaks o_t_pailAt o_t_wants o_t_words o_t_sightBehind o_t_sightDoor o_t_sightIs o_t_pad o_t_at o_t_moved o_t_has o_t_order o_t_best o_t_wins o_t_later o_t_signs o_t_kept o_t_isKept t_places t_deep t_served t_wordMany t_sights t_padMany t_done t_drawn t_leaked t_drunk t_times t_foundNumber t_keptAt t_isWriting t_holds t_leaks) → lv_has ls 5 [(0, .ref q_t), (1, .int x1), (2, .int x2), (3, .int x3)] → W p l e (rmH (2) 0 0) s m args below meth c H locs 0 0 (MQ below (Qo dd g (some (.int z.1)) (fun u : Unit => (w_X12_pail g q_t q_t_holds q_t_leaks o_t_pailAt o_t_wants o_t_words o_t_sightBehind o_t_sightDoor o_t_sightIs o_t_pad o_t_at o_t_moved o_t_has o_t_order o_t_best o_t_wins o_t_later o_t_signs o_t_kept o_t_isKept t_places t_deep t_served t_wordMany t_sights t_padMany t_done t_drawn t_leaked t_drunk t_times t_foundNumber t_keptAt t_isWriting z.2.1 z.2.2)) A) args s 0 0 A) (F0 m 66 ls [.int y0]) := by
  intro x1 x2 x3 y0 t_holds t_leaks t_places t_deep t_served t_wordMany t_sights t_padMany t_done t_drawn t_leaked t_drunk t_times t_foundNumber t_keptAt t_isWriting o_t_pailAt o_t_wants o_t_words o_t_sightBehind o_t_sightDoor o_t_sightIs o_t_pad o_t_at o_t_moved o_t_has o_t_order o_t_best o_t_wins o_t_later o_t_signs o_t_kept o_t_isKept H locs ls hr hw hl
  refine lv_istore (lv' := [(4, .int y0), (0, .ref q_t), (1, .int x1), (2, .int x2), (3, .int x3)]) F.1 F.2.1 dX12_pail_66 hl (by decide) rfl (fun ls hl => ?_)
  refine lv_aload_n F.1 F.2.1 dX12_pail_68 rfl (lv_at hl 1 rfl) ?_
  refine gf_X12_13 F hw 0 rfl rfl dX12_pail_69 ?_
  refine lv_iload_n F.1 F.2.1 dX12_pail_72 rfl (lv_at hl 2 rfl) ?_
  refine lv_iload_n F.1 F.2.1 dX12_pail_73 rfl (lv_at hl 3 rfl) ?_
  refine lv_if_ne (tgt := 81) F.1 F.2.1 dX12_pail_74 (by decide) (fun hc6 => ?_) (fun hc6 => ?_)
  · replace hr := (if_neg hc6).symm.trans hr
    refine lv_aload_n F.1 F.2.1 dX12_pail_81 rfl (lv_at hl 1 rfl) ?_
    refine gf_X12_13 F hw 0 rfl rfl dX12_pail_82 ?_
    refine lv_iload_n F.1 F.2.1 dX12_pail_85 rfl (lv_at hl 2 rfl) ?_
    obtain ⟨hg7, hr⟩ := g_no hr
    refine ar_i F hw 1 rfl hg7 dX12_pail_86 ?_
    exact b_X12_pail_87 F hret hlk  hr hw (lv_sub hl [1, 2, 3, 4, 0] rfl)
  · replace hr := (if_pos hc6).symm.trans hr
    refine lv_iload_n F.1 F.2.1 dX12_pail_77 rfl (lv_at hl 4 rfl) ?_
    refine lv_goto (tgt := 87) F.1 F.2.1 dX12_pail_78 (by decide) ?_
    exact b_X12_pail_87 F hret hlk  hr hw (lv_sub hl [1, 2, 3, 4, 0] rfl)
set_option maxHeartbeats 4000000 in
set_option maxRecDepth 100000 in
theorem b_X12_pail_38 {q_t q_t_holds q_t_leaks : Nat} {z : Int32 × (Nat → Int32) × (Nat → Int32)} (F : Fx p m c cX12_pail 5 s args RX12) (hret : meth.sig.returnType = some .int) (hlk : meth.locks = false) : ∀ {x1 : Int32} {x2 : Int32} {x3 : Int32} {y0 : Int64} {y1 : Int64} {y2 : Int64} {t_holds : Nat → Int32} {t_leaks : Nat → Int32} {t_places : Int32} {t_deep : Int32} {t_served : Int32} {t_wordMany : Int32} {t_sights : Int32} {t_padMany : Int32} {t_done : Int32} {t_drawn : Int32} {t_leaked : Int32} {t_drunk : Int32} {t_times : Int32} {t_foundNumber : Int32} {t_keptAt : Int32} {t_isWriting : Int32} {o_t_pailAt : Value} {o_t_wants : Value} {o_t_words : Value} {o_t_sightBehind : Value} {o_t_sightDoor : Value} {o_t_sightIs : Value} {o_t_pad : Value} {o_t_at : Value} {o_t_moved : Value} {o_t_has : Value} {o_t_order : Value} {o_t_best : Value} {o_t_wins : Value} {o_t_later : Value} {o_t_signs : Value} {o_t_kept : Value} {o_t_isKept : Value} {H : Heap} {locs : List Loc} {ls : Array Slot}, f_X12_pail_38  x1 x2 x3 y0 y1 y2 t_holds t_leaks = some z → Wd dd g mv A s H locs (w_X12_pail g q_t q_t_holds q_t_leaks o_t_pailAt o_t_wants o_t_words o_t_sightBehind o_t_sightDoor o_t_sightIs o_t_pad o_t_at o_t_moved o_t_has o_t_order o_t_best o_t_wins o_t_later o_t_signs o_t_kept o_t_isKept t_places t_deep t_served t_wordMany t_sights t_padMany t_done t_drawn t_leaked t_drunk t_times t_foundNumber t_keptAt t_isWriting t_holds t_leaks) → lv_has ls 5 [(0, .ref q_t), (1, .int x1), (2, .int x2), (3, .int x3)] → W p l e (rmH (2) 0 0) s m args below meth c H locs 0 0 (MQ below (Qo dd g (some (.int z.1)) (fun u : Unit => (w_X12_pail g q_t q_t_holds q_t_leaks o_t_pailAt o_t_wants o_t_words o_t_sightBehind o_t_sightDoor o_t_sightIs o_t_pad o_t_at o_t_moved o_t_has o_t_order o_t_best o_t_wins o_t_later o_t_signs o_t_kept o_t_isKept t_places t_deep t_served t_wordMany t_sights t_padMany t_done t_drawn t_leaked t_drunk t_times t_foundNumber t_keptAt t_isWriting z.2.1 z.2.2)) A) args s 0 0 A) (F0 m 38 ls [.long y2, .long y1, .long y0]) := by
  intro x1 x2 x3 y0 y1 y2 t_holds t_leaks t_places t_deep t_served t_wordMany t_sights t_padMany t_done t_drawn t_leaked t_drunk t_times t_foundNumber t_keptAt t_isWriting o_t_pailAt o_t_wants o_t_words o_t_sightBehind o_t_sightDoor o_t_sightIs o_t_pad o_t_at o_t_moved o_t_has o_t_order o_t_best o_t_wins o_t_later o_t_signs o_t_kept o_t_isKept H locs ls hr hw hl
  obtain ⟨z8, hz8, hr⟩ := Option.bind_eq_some_iff.mp hr
  refine call_o (wr := [(q_t, .inr (12, [.int t_places, .int t_deep, o_t_pailAt, .ref q_t_holds, .ref q_t_leaks, o_t_wants, .int t_served, o_t_words, .int t_wordMany, o_t_sightBehind, o_t_sightDoor, o_t_sightIs, .int t_sights, o_t_pad, .int t_padMany, o_t_at, o_t_moved, o_t_has, .int t_done, .int t_drawn, .int t_leaked, .int t_drunk, .int t_times, .int t_foundNumber, o_t_order, o_t_best, o_t_wins, o_t_later, o_t_signs, o_t_kept, o_t_isKept, .int t_keptAt, .int t_isWriting])), (q_t_holds, .inl (g 0, 9, .inl t_holds)), (q_t_leaks, .inl (g 0, 9, .inl t_leaks))]) (run_S (As := [.long y0, .long y1, .long y2]) (rest := []) F k_X12_86 (c_X12_in l dd g mv y0 y1 y2 z8 hz8 _) hw [] (by decide) rfl rfl hl.1 rfl (Nat.le_of_ble_eq_true rfl) dX12_pail_38 ⟨Nat.le_of_ble_eq_true rfl, Nat.le_of_ble_eq_true rfl⟩ ⟨Nat.le_of_ble_eq_true rfl, Nat.le_of_ble_eq_true rfl⟩) hw [] [0, 1, 2] rfl rfl (by decide) (by decide) (fun u9 H locs hw => ?_)
  replace hw : Wd dd g mv A s H locs (w_X12_pail g q_t q_t_holds q_t_leaks o_t_pailAt o_t_wants o_t_words o_t_sightBehind o_t_sightDoor o_t_sightIs o_t_pad o_t_at o_t_moved o_t_has o_t_order o_t_best o_t_wins o_t_later o_t_signs o_t_kept o_t_isKept t_places t_deep t_served t_wordMany t_sights t_padMany t_done t_drawn t_leaked t_drunk t_times t_foundNumber t_keptAt t_isWriting t_holds t_leaks) := hw.sub [0, 1, 2] (by decide) rfl
  refine W.eq (g2 := F0 m 41 ls (.int z8 :: [])) rfl ?_
  refine lv_if_ne (tgt := 47) F.1 F.2.1 dX12_pail_41 (by decide) (fun hc10 => ?_) (fun hc10 => ?_)
  · replace hr := (if_neg hc10).symm.trans hr
    refine lv_iload_n F.1 F.2.1 dX12_pail_47 rfl (lv_at hl 2 rfl) ?_
    refine lv_if_ne (tgt := 60) F.1 F.2.1 dX12_pail_48 (by decide) (fun hc11 => ?_) (fun hc11 => ?_)
    · replace hr := (if_neg hc11).symm.trans hr
      refine lv_aload_n F.1 F.2.1 dX12_pail_60 rfl (lv_at hl 0 rfl) ?_
      refine gf_X12_16 F hw 0 rfl rfl dX12_pail_61 ?_
      refine lv_iload_n F.1 F.2.1 dX12_pail_64 rfl (lv_at hl 1 rfl) ?_
      obtain ⟨hg12, hr⟩ := g_no hr
      refine ar_i F hw 2 rfl hg12 dX12_pail_65 ?_
      exact b_X12_pail_66 F hret hlk  hr hw (lv_sub hl [0, 1, 2, 3] rfl)
    · replace hr := (if_pos hc11).symm.trans hr
      refine lv_aload_n F.1 F.2.1 dX12_pail_51 rfl (lv_at hl 0 rfl) ?_
      refine gf_X12_13 F hw 0 rfl rfl dX12_pail_52 ?_
      refine lv_iload_n F.1 F.2.1 dX12_pail_55 rfl (lv_at hl 1 rfl) ?_
      obtain ⟨hg13, hr⟩ := g_no hr
      refine ar_i F hw 1 rfl hg13 dX12_pail_56 ?_
      refine lv_goto (tgt := 66) F.1 F.2.1 dX12_pail_57 (by decide) ?_
      exact b_X12_pail_66 F hret hlk  hr hw (lv_sub hl [0, 1, 2, 3] rfl)
  · replace hr := (if_pos hc10).symm.trans hr
    refine lv_bipush (v := -2) F.1 F.2.1 dX12_pail_44 (by decide) ?_
    cases hr
    exact ret_i () F hret hlk hw (Nat.le_refl _) (Nat.le_refl _) dX12_pail_46
set_option maxHeartbeats 4000000 in
set_option maxRecDepth 100000 in
theorem c_X12_pail (l : Launch) (dd : va_G) (g : Nat → ClassId) (mv : Nat) (q_t : Nat) (q_t_holds : Nat) (q_t_leaks : Nat) (o_t_pailAt : Value) (o_t_wants : Value) (o_t_words : Value) (o_t_sightBehind : Value) (o_t_sightDoor : Value) (o_t_sightIs : Value) (o_t_pad : Value) (o_t_at : Value) (o_t_moved : Value) (o_t_has : Value) (o_t_order : Value) (o_t_best : Value) (o_t_wins : Value) (o_t_later : Value) (o_t_signs : Value) (o_t_kept : Value) (o_t_isKept : Value) (t_places : Int32) (t_deep : Int32) (t_served : Int32) (t_wordMany : Int32) (t_sights : Int32) (t_padMany : Int32) (t_done : Int32) (t_drawn : Int32) (t_leaked : Int32) (t_drunk : Int32) (t_times : Int32) (t_foundNumber : Int32) (t_keptAt : Int32) (t_isWriting : Int32) (t_holds : Nat → Int32) (t_leaks : Nat → Int32) (a1 : Int32) (a2 : Int32) (a3 : Int32) (z : Int32 × (Nat → Int32) × (Nat → Int32)) (hr : f_X12_pail t_places t_deep t_holds t_leaks a1 a2 a3 = some z) (sz : Nat) : Met l yX12_pail (.code yX12_pail cX12_pail 5 (some .int) :: WS) (rmH 2 0 0) (va_Pc [.ref q_t, .int a1, .int a2, .int a3] (PW dd g mv (w_X12_pail g q_t q_t_holds q_t_leaks o_t_pailAt o_t_wants o_t_words o_t_sightBehind o_t_sightDoor o_t_sightIs o_t_pad o_t_at o_t_moved o_t_has o_t_order o_t_best o_t_wins o_t_later o_t_signs o_t_kept o_t_isKept t_places t_deep t_served t_wordMany t_sights t_padMany t_done t_drawn t_leaked t_drunk t_times t_foundNumber t_keptAt t_isWriting t_holds t_leaks) sz)) (Qo dd g (some (.int z.1)) (fun u : Unit => (w_X12_pail g q_t q_t_holds q_t_leaks o_t_pailAt o_t_wants o_t_words o_t_sightBehind o_t_sightDoor o_t_sightIs o_t_pad o_t_at o_t_moved o_t_has o_t_order o_t_best o_t_wins o_t_later o_t_signs o_t_kept o_t_isKept t_places t_deep t_served t_wordMany t_sights t_padMany t_done t_drawn t_leaked t_drunk t_times t_foundNumber t_keptAt t_isWriting z.2.1 z.2.2)) (va_A (w_X12_pail g q_t q_t_holds q_t_leaks o_t_pailAt o_t_wants o_t_words o_t_sightBehind o_t_sightDoor o_t_sightIs o_t_pad o_t_at o_t_moved o_t_has o_t_order o_t_best o_t_wins o_t_later o_t_signs o_t_kept o_t_isKept t_places t_deep t_served t_wordMany t_sights t_padMany t_done t_drawn t_leaked t_drunk t_times t_foundNumber t_keptAt t_isWriting t_holds t_leaks) sz)) 0 0 (va_A (w_X12_pail g q_t q_t_holds q_t_leaks o_t_pailAt o_t_wants o_t_words o_t_sightBehind o_t_sightDoor o_t_sightIs o_t_pad o_t_at o_t_moved o_t_has o_t_order o_t_best o_t_wins o_t_later o_t_signs o_t_kept o_t_isKept t_places t_deep t_served t_wordMany t_sights t_padMany t_done t_drawn t_leaked t_drunk t_times t_foundNumber t_keptAt t_isWriting t_holds t_leaks) sz) := by
  refine Met_intro (by decide) (Nat.le_of_ble_eq_true rfl) ?_
  intro p e s m below meth c A ls F hret hlk hin hw hl
  replace hl : lv_has ls 5 [(0, .ref q_t), (1, .int a1), (2, .int a2), (3, .int a3)] := hl
  refine lv_aload_n F.1 F.2.1 dX12_pail_0 rfl (lv_at hl 0 rfl) ?_
  refine lv_iload_n F.1 F.2.1 dX12_pail_1 rfl (lv_at hl 1 rfl) ?_
  obtain ⟨z14, hz14, hr⟩ := Option.bind_eq_some_iff.mp hr
  refine call_o (wr := [(q_t_holds, .inl (g 0, 9, .inl t_holds)), (q_t_leaks, .inl (g 0, 9, .inl t_leaks))]) (run_V (As := [.int a1]) (rest := []) F k_X12_94 (c_X12_isPlace l dd g mv q_t o_t_pailAt ((.ref q_t_holds)) ((.ref q_t_leaks)) o_t_wants o_t_words o_t_sightBehind o_t_sightDoor o_t_sightIs o_t_pad o_t_at o_t_moved o_t_has o_t_order o_t_best o_t_wins o_t_later o_t_signs o_t_kept o_t_isKept t_places t_deep t_served t_wordMany t_sights t_padMany t_done t_drawn t_leaked t_drunk t_times t_foundNumber t_keptAt t_isWriting a1 z14 hz14 _) hw [0] (by decide) rfl (ci := 12) rfl rfl rfl rfl hl.1 rfl (Nat.le_of_ble_eq_true rfl) dX12_pail_2 ⟨Nat.le_of_ble_eq_true rfl, Nat.le_of_ble_eq_true rfl⟩ ⟨Nat.le_of_ble_eq_true rfl, Nat.le_of_ble_eq_true rfl⟩) hw [0] [1, 2] rfl rfl (by decide) (by decide) (fun u15 H locs hw => ?_)
  replace hw : Wd dd g mv A s H locs (w_X12_pail g q_t q_t_holds q_t_leaks o_t_pailAt o_t_wants o_t_words o_t_sightBehind o_t_sightDoor o_t_sightIs o_t_pad o_t_at o_t_moved o_t_has o_t_order o_t_best o_t_wins o_t_later o_t_signs o_t_kept o_t_isKept t_places t_deep t_served t_wordMany t_sights t_padMany t_done t_drawn t_leaked t_drunk t_times t_foundNumber t_keptAt t_isWriting t_holds t_leaks) := hw.sub [2, 0, 1] (by decide) rfl
  refine W.eq (g2 := F0 m 5 ls (.int z14 :: [])) rfl ?_
  refine lv_if_ne (tgt := 10) F.1 F.2.1 dX12_pail_5 (by decide) (fun hc16 => ?_) (fun hc16 => ?_)
  · replace hr := (if_neg hc16).symm.trans hr
    refine lv_iload_n F.1 F.2.1 dX12_pail_10 rfl (lv_at hl 2 rfl) ?_
    refine lv_i2l F.1 F.2.1 dX12_pail_11 rfl ?_
    refine lv_lconst (v := 0) F.1 F.2.1 dX12_pail_12 (by decide) ?_
    refine lv_lconst (v := 1) F.1 F.2.1 dX12_pail_13 (by decide) ?_
    obtain ⟨z17, hz17, hr⟩ := Option.bind_eq_some_iff.mp hr
    refine call_o (wr := [(q_t, .inr (12, [.int t_places, .int t_deep, o_t_pailAt, .ref q_t_holds, .ref q_t_leaks, o_t_wants, .int t_served, o_t_words, .int t_wordMany, o_t_sightBehind, o_t_sightDoor, o_t_sightIs, .int t_sights, o_t_pad, .int t_padMany, o_t_at, o_t_moved, o_t_has, .int t_done, .int t_drawn, .int t_leaked, .int t_drunk, .int t_times, .int t_foundNumber, o_t_order, o_t_best, o_t_wins, o_t_later, o_t_signs, o_t_kept, o_t_isKept, .int t_keptAt, .int t_isWriting])), (q_t_holds, .inl (g 0, 9, .inl t_holds)), (q_t_leaks, .inl (g 0, 9, .inl t_leaks))]) (run_S (As := [.long a2.toInt64, .long (0 : Int64), .long (1 : Int64)]) (rest := []) F k_X12_86 (c_X12_in l dd g mv a2.toInt64 ((0 : Int64)) ((1 : Int64)) z17 hz17 _) hw [] (by decide) rfl rfl hl.1 rfl (Nat.le_of_ble_eq_true rfl) dX12_pail_14 ⟨Nat.le_of_ble_eq_true rfl, Nat.le_of_ble_eq_true rfl⟩ ⟨Nat.le_of_ble_eq_true rfl, Nat.le_of_ble_eq_true rfl⟩) hw [] [0, 1, 2] rfl rfl (by decide) (by decide) (fun u18 H locs hw => ?_)
    replace hw : Wd dd g mv A s H locs (w_X12_pail g q_t q_t_holds q_t_leaks o_t_pailAt o_t_wants o_t_words o_t_sightBehind o_t_sightDoor o_t_sightIs o_t_pad o_t_at o_t_moved o_t_has o_t_order o_t_best o_t_wins o_t_later o_t_signs o_t_kept o_t_isKept t_places t_deep t_served t_wordMany t_sights t_padMany t_done t_drawn t_leaked t_drunk t_times t_foundNumber t_keptAt t_isWriting t_holds t_leaks) := hw.sub [0, 1, 2] (by decide) rfl
    refine W.eq (g2 := F0 m 17 ls (.int z17 :: [])) rfl ?_
    refine lv_if_eq (tgt := 44) F.1 F.2.1 dX12_pail_17 (by decide) (fun hc19 => ?_) (fun hc19 => ?_)
    · replace hr := (if_pos hc19).symm.trans hr
      refine lv_bipush (v := -2) F.1 F.2.1 dX12_pail_44 (by decide) ?_
      cases hr
      exact ret_i () F hret hlk hw (Nat.le_refl _) (Nat.le_refl _) dX12_pail_46
    · replace hr := (if_neg hc19).symm.trans hr
      refine lv_iload_n F.1 F.2.1 dX12_pail_20 rfl (lv_at hl 3 rfl) ?_
      refine lv_i2l F.1 F.2.1 dX12_pail_21 rfl ?_
      refine lv_lconst (v := 0) F.1 F.2.1 dX12_pail_22 (by decide) ?_
      refine lv_iload_n F.1 F.2.1 dX12_pail_23 rfl (lv_at hl 2 rfl) ?_
      refine lv_if_ne (tgt := 35) F.1 F.2.1 dX12_pail_24 (by decide) (fun hc20 => ?_) (fun hc20 => ?_)
      · replace hr := (if_neg hc20).symm.trans hr
        refine lv_ldc2 F.1 F.2.1 F.2.2.2.1 (F.2.2.2.2 _ cl_X12_92) dX12_pail_35 ?_
        exact b_X12_pail_38 F hret hlk  hr hw (lv_sub hl [0, 1, 2, 3] rfl)
      · replace hr := (if_pos hc20).symm.trans hr
        refine lv_aload_n F.1 F.2.1 dX12_pail_27 rfl (lv_at hl 0 rfl) ?_
        refine gf_X12_69 F hw 0 rfl rfl dX12_pail_28 ?_
        refine lv_i2l F.1 F.2.1 dX12_pail_31 rfl ?_
        refine lv_goto (tgt := 38) F.1 F.2.1 dX12_pail_32 (by decide) ?_
        exact b_X12_pail_38 F hret hlk  hr hw (lv_sub hl [0, 1, 2, 3] rfl)
  · replace hr := (if_pos hc16).symm.trans hr
    refine lv_iconst (v := -1) F.1 F.2.1 dX12_pail_8 (by decide) ?_
    cases hr
    exact ret_i () F hret hlk hw (Nat.le_refl _) (Nat.le_refl _) dX12_pail_9
set_option maxHeartbeats 4000000 in
set_option maxRecDepth 100000 in
theorem c_X12_door (l : Launch) (dd : va_G) (g : Nat → ClassId) (mv : Nat) (q_t : Nat) (q_t_wants : Nat) (o_t_pailAt : Value) (o_t_holds : Value) (o_t_leaks : Value) (o_t_words : Value) (o_t_sightBehind : Value) (o_t_sightDoor : Value) (o_t_sightIs : Value) (o_t_pad : Value) (o_t_at : Value) (o_t_moved : Value) (o_t_has : Value) (o_t_order : Value) (o_t_best : Value) (o_t_wins : Value) (o_t_later : Value) (o_t_signs : Value) (o_t_kept : Value) (o_t_isKept : Value) (t_places : Int32) (t_deep : Int32) (t_served : Int32) (t_wordMany : Int32) (t_sights : Int32) (t_padMany : Int32) (t_done : Int32) (t_drawn : Int32) (t_leaked : Int32) (t_drunk : Int32) (t_times : Int32) (t_foundNumber : Int32) (t_keptAt : Int32) (t_isWriting : Int32) (t_wants : Nat → Int32) (a1 : Int32) (a2 : Int32) (z : Int32 × Int32 × (Nat → Int32)) (hr : f_X12_door t_places t_served t_wants a1 a2 = some z) (sz : Nat) : Met l yX12_door (.code yX12_door cX12_door 4 (some .int) :: WS) (rmH 2 0 0) (va_Pc [.ref q_t, .int a1, .int a2] (PW dd g mv (w_X12_door g q_t q_t_wants o_t_pailAt o_t_holds o_t_leaks o_t_words o_t_sightBehind o_t_sightDoor o_t_sightIs o_t_pad o_t_at o_t_moved o_t_has o_t_order o_t_best o_t_wins o_t_later o_t_signs o_t_kept o_t_isKept t_places t_deep t_served t_wordMany t_sights t_padMany t_done t_drawn t_leaked t_drunk t_times t_foundNumber t_keptAt t_isWriting t_wants) sz)) (Qo dd g (some (.int z.1)) (fun u : Unit => (w_X12_door g q_t q_t_wants o_t_pailAt o_t_holds o_t_leaks o_t_words o_t_sightBehind o_t_sightDoor o_t_sightIs o_t_pad o_t_at o_t_moved o_t_has o_t_order o_t_best o_t_wins o_t_later o_t_signs o_t_kept o_t_isKept t_places t_deep z.2.1 t_wordMany t_sights t_padMany t_done t_drawn t_leaked t_drunk t_times t_foundNumber t_keptAt t_isWriting z.2.2)) (va_A (w_X12_door g q_t q_t_wants o_t_pailAt o_t_holds o_t_leaks o_t_words o_t_sightBehind o_t_sightDoor o_t_sightIs o_t_pad o_t_at o_t_moved o_t_has o_t_order o_t_best o_t_wins o_t_later o_t_signs o_t_kept o_t_isKept t_places t_deep t_served t_wordMany t_sights t_padMany t_done t_drawn t_leaked t_drunk t_times t_foundNumber t_keptAt t_isWriting t_wants) sz)) 0 0 (va_A (w_X12_door g q_t q_t_wants o_t_pailAt o_t_holds o_t_leaks o_t_words o_t_sightBehind o_t_sightDoor o_t_sightIs o_t_pad o_t_at o_t_moved o_t_has o_t_order o_t_best o_t_wins o_t_later o_t_signs o_t_kept o_t_isKept t_places t_deep t_served t_wordMany t_sights t_padMany t_done t_drawn t_leaked t_drunk t_times t_foundNumber t_keptAt t_isWriting t_wants) sz) := by
  refine Met_intro (by decide) (Nat.le_of_ble_eq_true rfl) ?_
  intro p e s m below meth c A ls F hret hlk hin hw hl
  replace hl : lv_has ls 4 [(0, .ref q_t), (1, .int a1), (2, .int a2)] := hl
  refine lv_aload_n F.1 F.2.1 dX12_door_0 rfl (lv_at hl 0 rfl) ?_
  refine lv_iload_n F.1 F.2.1 dX12_door_1 rfl (lv_at hl 1 rfl) ?_
  obtain ⟨z1, hz1, hr⟩ := Option.bind_eq_some_iff.mp hr
  refine call_o (wr := [(q_t_wants, .inl (g 0, 9, .inl t_wants))]) (run_V (As := [.int a1]) (rest := []) F k_X12_94 (c_X12_isPlace l dd g mv q_t o_t_pailAt o_t_holds o_t_leaks ((.ref q_t_wants)) o_t_words o_t_sightBehind o_t_sightDoor o_t_sightIs o_t_pad o_t_at o_t_moved o_t_has o_t_order o_t_best o_t_wins o_t_later o_t_signs o_t_kept o_t_isKept t_places t_deep t_served t_wordMany t_sights t_padMany t_done t_drawn t_leaked t_drunk t_times t_foundNumber t_keptAt t_isWriting a1 z1 hz1 _) hw [0] (by decide) rfl (ci := 12) rfl rfl rfl rfl hl.1 rfl (Nat.le_of_ble_eq_true rfl) dX12_door_2 ⟨Nat.le_of_ble_eq_true rfl, Nat.le_of_ble_eq_true rfl⟩ ⟨Nat.le_of_ble_eq_true rfl, Nat.le_of_ble_eq_true rfl⟩) hw [0] [1] rfl rfl (by decide) (by decide) (fun u2 H locs hw => ?_)
  replace hw : Wd dd g mv A s H locs (w_X12_door g q_t q_t_wants o_t_pailAt o_t_holds o_t_leaks o_t_words o_t_sightBehind o_t_sightDoor o_t_sightIs o_t_pad o_t_at o_t_moved o_t_has o_t_order o_t_best o_t_wins o_t_later o_t_signs o_t_kept o_t_isKept t_places t_deep t_served t_wordMany t_sights t_padMany t_done t_drawn t_leaked t_drunk t_times t_foundNumber t_keptAt t_isWriting t_wants) := hw.sub [1, 0] (by decide) rfl
  refine W.eq (g2 := F0 m 5 ls (.int z1 :: [])) rfl ?_
  refine lv_if_ne (tgt := 10) F.1 F.2.1 dX12_door_5 (by decide) (fun hc3 => ?_) (fun hc3 => ?_)
  · replace hr := (if_neg hc3).symm.trans hr
    refine lv_iload_n F.1 F.2.1 dX12_door_10 rfl (lv_at hl 2 rfl) ?_
    refine lv_i2l F.1 F.2.1 dX12_door_11 rfl ?_
    refine lv_lconst (v := 0) F.1 F.2.1 dX12_door_12 (by decide) ?_
    refine lv_ldc2 F.1 F.2.1 F.2.2.2.1 (F.2.2.2.2 _ cl_X12_92) dX12_door_13 ?_
    obtain ⟨z4, hz4, hr⟩ := Option.bind_eq_some_iff.mp hr
    refine call_o (wr := [(q_t, .inr (12, [.int t_places, .int t_deep, o_t_pailAt, o_t_holds, o_t_leaks, .ref q_t_wants, .int t_served, o_t_words, .int t_wordMany, o_t_sightBehind, o_t_sightDoor, o_t_sightIs, .int t_sights, o_t_pad, .int t_padMany, o_t_at, o_t_moved, o_t_has, .int t_done, .int t_drawn, .int t_leaked, .int t_drunk, .int t_times, .int t_foundNumber, o_t_order, o_t_best, o_t_wins, o_t_later, o_t_signs, o_t_kept, o_t_isKept, .int t_keptAt, .int t_isWriting])), (q_t_wants, .inl (g 0, 9, .inl t_wants))]) (run_S (As := [.long a2.toInt64, .long (0 : Int64), .long (9 : Int64)]) (rest := []) F k_X12_86 (c_X12_in l dd g mv a2.toInt64 ((0 : Int64)) ((9 : Int64)) z4 hz4 _) hw [] (by decide) rfl rfl hl.1 rfl (Nat.le_of_ble_eq_true rfl) dX12_door_16 ⟨Nat.le_of_ble_eq_true rfl, Nat.le_of_ble_eq_true rfl⟩ ⟨Nat.le_of_ble_eq_true rfl, Nat.le_of_ble_eq_true rfl⟩) hw [] [0, 1] rfl rfl (by decide) (by decide) (fun u5 H locs hw => ?_)
    replace hw : Wd dd g mv A s H locs (w_X12_door g q_t q_t_wants o_t_pailAt o_t_holds o_t_leaks o_t_words o_t_sightBehind o_t_sightDoor o_t_sightIs o_t_pad o_t_at o_t_moved o_t_has o_t_order o_t_best o_t_wins o_t_later o_t_signs o_t_kept o_t_isKept t_places t_deep t_served t_wordMany t_sights t_padMany t_done t_drawn t_leaked t_drunk t_times t_foundNumber t_keptAt t_isWriting t_wants) := hw.sub [0, 1] (by decide) rfl
    refine W.eq (g2 := F0 m 19 ls (.int z4 :: [])) rfl ?_
    refine lv_if_ne (tgt := 25) F.1 F.2.1 dX12_door_19 (by decide) (fun hc6 => ?_) (fun hc6 => ?_)
    · replace hr := (if_neg hc6).symm.trans hr
      refine lv_aload_n F.1 F.2.1 dX12_door_25 rfl (lv_at hl 0 rfl) ?_
      refine gf_X12_19 F hw 0 rfl rfl dX12_door_26 ?_
      refine lv_iload_n F.1 F.2.1 dX12_door_29 rfl (lv_at hl 1 rfl) ?_
      obtain ⟨hg7, hr⟩ := g_no hr
      refine ar_i F hw 1 rfl hg7 dX12_door_30 ?_
      refine lv_istore_n (lv' := [(3, .int (t_wants (a1).toNatClampNeg)), (0, .ref q_t), (1, .int a1), (2, .int a2)]) F.1 F.2.1 dX12_door_31 rfl hl (by decide) rfl (fun ls hl => ?_)
      refine lv_aload_n F.1 F.2.1 dX12_door_32 rfl (lv_at hl 1 rfl) ?_
      refine gf_X12_19 F hw 0 rfl rfl dX12_door_33 ?_
      refine lv_iload_n F.1 F.2.1 dX12_door_36 rfl (lv_at hl 2 rfl) ?_
      refine lv_iload_n F.1 F.2.1 dX12_door_37 rfl (lv_at hl 3 rfl) ?_
      obtain ⟨hg8, hr⟩ := g_no hr
      refine aw_i F hw 1 rfl hg8 dX12_door_38 (fun H locs hw => ?_)
      replace hw : Wd dd g mv A s H locs (w_X12_door g q_t q_t_wants o_t_pailAt o_t_holds o_t_leaks o_t_words o_t_sightBehind o_t_sightDoor o_t_sightIs o_t_pad o_t_at o_t_moved o_t_has o_t_order o_t_best o_t_wins o_t_later o_t_signs o_t_kept o_t_isKept t_places t_deep t_served t_wordMany t_sights t_padMany t_done t_drawn t_leaked t_drunk t_times t_foundNumber t_keptAt t_isWriting ((upd t_wants (a1).toNatClampNeg a2))) := hw
      refine lv_aload_n F.1 F.2.1 dX12_door_39 rfl (lv_at hl 1 rfl) ?_
      refine lv_iload_n F.1 F.2.1 dX12_door_40 rfl (lv_at hl 3 rfl) ?_
      refine lv_if_ne (tgt := 55) F.1 F.2.1 dX12_door_41 (by decide) (fun hc9 => ?_) (fun hc9 => ?_)
      · replace hr := (if_neg hc9).symm.trans hr
        refine lv_aload_n F.1 F.2.1 dX12_door_55 rfl (lv_at hl 1 rfl) ?_
        refine gf_X12_80 F hw 0 rfl rfl dX12_door_56 ?_
        refine lv_iconst (v := 1) F.1 F.2.1 dX12_door_59 (by decide) ?_
        refine lv_iload_n F.1 F.2.1 dX12_door_60 rfl (lv_at hl 2 rfl) ?_
        refine lv_ishl F.1 F.2.1 dX12_door_61 ?_
        refine lv_iconst (v := -1) F.1 F.2.1 dX12_door_62 (by decide) ?_
        refine lv_ixor F.1 F.2.1 dX12_door_63 ?_
        refine lv_iand F.1 F.2.1 dX12_door_64 ?_
        refine pf_X12_80 F hw 0 rfl (Nat.le_of_ble_eq_true rfl) dX12_door_65 (fun H locs hw => ?_)
        replace hw : Wd dd g mv A s H locs (w_X12_door g q_t q_t_wants o_t_pailAt o_t_holds o_t_leaks o_t_words o_t_sightBehind o_t_sightDoor o_t_sightIs o_t_pad o_t_at o_t_moved o_t_has o_t_order o_t_best o_t_wins o_t_later o_t_signs o_t_kept o_t_isKept t_places t_deep ((t_served &&& (((1 : Int32) <<< (a1 &&& 31)) ^^^ (-1 : Int32)))) t_wordMany t_sights t_padMany t_done t_drawn t_leaked t_drunk t_times t_foundNumber t_keptAt t_isWriting ((upd t_wants (a1).toNatClampNeg a2))) := hw
        refine lv_iload_n F.1 F.2.1 dX12_door_68 rfl (lv_at hl 0 rfl) ?_
        cases hr
        exact ret_i () F hret hlk hw (Nat.le_refl _) (Nat.le_refl _) dX12_door_69
      · replace hr := (if_pos hc9).symm.trans hr
        refine lv_aload_n F.1 F.2.1 dX12_door_44 rfl (lv_at hl 1 rfl) ?_
        refine gf_X12_80 F hw 0 rfl rfl dX12_door_45 ?_
        refine lv_iconst (v := 1) F.1 F.2.1 dX12_door_48 (by decide) ?_
        refine lv_iload_n F.1 F.2.1 dX12_door_49 rfl (lv_at hl 2 rfl) ?_
        refine lv_ishl F.1 F.2.1 dX12_door_50 ?_
        refine lv_ior F.1 F.2.1 dX12_door_51 ?_
        refine lv_goto (tgt := 65) F.1 F.2.1 dX12_door_52 (by decide) ?_
        refine pf_X12_80 F hw 0 rfl (Nat.le_of_ble_eq_true rfl) dX12_door_65 (fun H locs hw => ?_)
        replace hw : Wd dd g mv A s H locs (w_X12_door g q_t q_t_wants o_t_pailAt o_t_holds o_t_leaks o_t_words o_t_sightBehind o_t_sightDoor o_t_sightIs o_t_pad o_t_at o_t_moved o_t_has o_t_order o_t_best o_t_wins o_t_later o_t_signs o_t_kept o_t_isKept t_places t_deep ((t_served ||| ((1 : Int32) <<< (a1 &&& 31)))) t_wordMany t_sights t_padMany t_done t_drawn t_leaked t_drunk t_times t_foundNumber t_keptAt t_isWriting ((upd t_wants (a1).toNatClampNeg a2))) := hw
        refine lv_iload_n F.1 F.2.1 dX12_door_68 rfl (lv_at hl 0 rfl) ?_
        cases hr
        exact ret_i () F hret hlk hw (Nat.le_refl _) (Nat.le_refl _) dX12_door_69
    · replace hr := (if_pos hc6).symm.trans hr
      refine lv_bipush (v := -2) F.1 F.2.1 dX12_door_22 (by decide) ?_
      cases hr
      exact ret_i () F hret hlk hw (Nat.le_refl _) (Nat.le_refl _) dX12_door_24
  · replace hr := (if_pos hc3).symm.trans hr
    refine lv_iconst (v := -1) F.1 F.2.1 dX12_door_8 (by decide) ?_
    cases hr
    exact ret_i () F hret hlk hw (Nat.le_refl _) (Nat.le_refl _) dX12_door_9
set_option maxHeartbeats 4000000 in
set_option maxRecDepth 100000 in
theorem b_X12_deep_17 {q_t q_t_holds : Nat} {z : Int32 × Int32} (F : Fx p m c cX12_deep 3 s args RX12) (hret : meth.sig.returnType = some .int) (hlk : meth.locks = false) : ∀ (n : Nat), ∀ {x1 : Int32} {x2 : Int32} {t_places : Int32} {t_deep : Int32} {t_holds : Nat → Int32} {t_served : Int32} {t_wordMany : Int32} {t_sights : Int32} {t_padMany : Int32} {t_done : Int32} {t_drawn : Int32} {t_leaked : Int32} {t_drunk : Int32} {t_times : Int32} {t_foundNumber : Int32} {t_keptAt : Int32} {t_isWriting : Int32} {o_t_pailAt : Value} {o_t_leaks : Value} {o_t_wants : Value} {o_t_words : Value} {o_t_sightBehind : Value} {o_t_sightDoor : Value} {o_t_sightIs : Value} {o_t_pad : Value} {o_t_at : Value} {o_t_moved : Value} {o_t_has : Value} {o_t_order : Value} {o_t_best : Value} {o_t_wins : Value} {o_t_later : Value} {o_t_signs : Value} {o_t_kept : Value} {o_t_isKept : Value} {H : Heap} {locs : List Loc} {ls : Array Slot}, f_X12_deep_17  n x1 x2 t_places t_deep t_holds = some z → Wd dd g mv A s H locs (w_X12_deep g q_t q_t_holds o_t_pailAt o_t_leaks o_t_wants o_t_words o_t_sightBehind o_t_sightDoor o_t_sightIs o_t_pad o_t_at o_t_moved o_t_has o_t_order o_t_best o_t_wins o_t_later o_t_signs o_t_kept o_t_isKept t_places t_deep t_served t_wordMany t_sights t_padMany t_done t_drawn t_leaked t_drunk t_times t_foundNumber t_keptAt t_isWriting t_holds) → lv_has ls 3 [(0, .ref q_t), (1, .int x1), (2, .int x2)] → W p l e (rmH (1) 0 0) s m args below meth c H locs 0 0 (MQ below (Qo dd g (some (.int z.1)) (fun u : Unit => (w_X12_deep g q_t q_t_holds o_t_pailAt o_t_leaks o_t_wants o_t_words o_t_sightBehind o_t_sightDoor o_t_sightIs o_t_pad o_t_at o_t_moved o_t_has o_t_order o_t_best o_t_wins o_t_later o_t_signs o_t_kept o_t_isKept t_places z.2 t_served t_wordMany t_sights t_padMany t_done t_drawn t_leaked t_drunk t_times t_foundNumber t_keptAt t_isWriting t_holds)) A) args s 0 0 A) (F0 m 17 ls []) := by
  intro n
  induction n with
  | zero =>
    intros
    rename_i hr _ _
    cases hr
  | succ n ih =>
    intro x1 x2 t_places t_deep t_holds t_served t_wordMany t_sights t_padMany t_done t_drawn t_leaked t_drunk t_times t_foundNumber t_keptAt t_isWriting o_t_pailAt o_t_leaks o_t_wants o_t_words o_t_sightBehind o_t_sightDoor o_t_sightIs o_t_pad o_t_at o_t_moved o_t_has o_t_order o_t_best o_t_wins o_t_later o_t_signs o_t_kept o_t_isKept H locs ls hr hw hl
    refine lv_iload_n F.1 F.2.1 dX12_deep_17 rfl (lv_at hl 2 rfl) ?_
    refine lv_aload_n F.1 F.2.1 dX12_deep_18 rfl (lv_at hl 0 rfl) ?_
    refine gf_X12_77 F hw 0 rfl rfl dX12_deep_19 ?_
    refine lv_icmp_ge (tgt := 44) F.1 F.2.1 dX12_deep_22 (by decide) (fun hc1 => ?_) (fun hc1 => ?_)
    · replace hr := (if_pos hc1).symm.trans hr
      refine lv_aload_n F.1 F.2.1 dX12_deep_44 rfl (lv_at hl 0 rfl) ?_
      refine gf_X12_69 F hw 0 rfl rfl dX12_deep_45 ?_
      refine lv_istore_n (lv' := [(2, .int t_deep), (0, .ref q_t), (1, .int x1)]) F.1 F.2.1 dX12_deep_48 rfl hl (by decide) rfl (fun ls hl => ?_)
      refine lv_aload_n F.1 F.2.1 dX12_deep_49 rfl (lv_at hl 1 rfl) ?_
      refine lv_iload_n F.1 F.2.1 dX12_deep_50 rfl (lv_at hl 2 rfl) ?_
      refine pf_X12_69 F hw 0 rfl (Nat.le_of_ble_eq_true rfl) dX12_deep_51 (fun H locs hw => ?_)
      replace hw : Wd dd g mv A s H locs (w_X12_deep g q_t q_t_holds o_t_pailAt o_t_leaks o_t_wants o_t_words o_t_sightBehind o_t_sightDoor o_t_sightIs o_t_pad o_t_at o_t_moved o_t_has o_t_order o_t_best o_t_wins o_t_later o_t_signs o_t_kept o_t_isKept t_places x1 t_served t_wordMany t_sights t_padMany t_done t_drawn t_leaked t_drunk t_times t_foundNumber t_keptAt t_isWriting t_holds) := hw
      refine lv_iload_n F.1 F.2.1 dX12_deep_54 rfl (lv_at hl 0 rfl) ?_
      cases hr
      exact ret_i () F hret hlk hw (Nat.le_refl _) (Nat.le_refl _) dX12_deep_55
    · replace hr := (if_neg hc1).symm.trans hr
      refine lv_aload_n F.1 F.2.1 dX12_deep_25 rfl (lv_at hl 0 rfl) ?_
      refine gf_X12_13 F hw 0 rfl rfl dX12_deep_26 ?_
      refine lv_iload_n F.1 F.2.1 dX12_deep_29 rfl (lv_at hl 2 rfl) ?_
      obtain ⟨hg2, hr⟩ := g_no hr
      refine ar_i F hw 1 rfl hg2 dX12_deep_30 ?_
      refine lv_iload_n F.1 F.2.1 dX12_deep_31 rfl (lv_at hl 1 rfl) ?_
      refine lv_icmp_le (tgt := 38) F.1 F.2.1 dX12_deep_32 (by decide) (fun hc3 => ?_) (fun hc3 => ?_)
      · replace hr := (if_pos hc3).symm.trans hr
        refine lv_iinc (v := (x2 + 1)) (lv' := [(2, .int (x2 + 1)), (0, .ref q_t), (1, .int x1)]) F.1 F.2.1 dX12_deep_38 hl (k := 2) rfl rfl (by decide) rfl (fun ls hl => ?_)
        refine lv_goto (tgt := 17) F.1 F.2.1 dX12_deep_41 (by decide) ?_
        exact ih hr hw (lv_sub hl [1, 2, 0] rfl)
      · replace hr := (if_neg hc3).symm.trans hr
        refine lv_bipush (v := -3) F.1 F.2.1 dX12_deep_35 (by decide) ?_
        cases hr
        exact ret_i () F hret hlk hw (Nat.le_refl _) (Nat.le_refl _) dX12_deep_37
set_option maxHeartbeats 4000000 in
set_option maxRecDepth 100000 in
theorem c_X12_deep (l : Launch) (dd : va_G) (g : Nat → ClassId) (mv : Nat) (q_t : Nat) (q_t_holds : Nat) (o_t_pailAt : Value) (o_t_leaks : Value) (o_t_wants : Value) (o_t_words : Value) (o_t_sightBehind : Value) (o_t_sightDoor : Value) (o_t_sightIs : Value) (o_t_pad : Value) (o_t_at : Value) (o_t_moved : Value) (o_t_has : Value) (o_t_order : Value) (o_t_best : Value) (o_t_wins : Value) (o_t_later : Value) (o_t_signs : Value) (o_t_kept : Value) (o_t_isKept : Value) (t_places : Int32) (t_deep : Int32) (t_served : Int32) (t_wordMany : Int32) (t_sights : Int32) (t_padMany : Int32) (t_done : Int32) (t_drawn : Int32) (t_leaked : Int32) (t_drunk : Int32) (t_times : Int32) (t_foundNumber : Int32) (t_keptAt : Int32) (t_isWriting : Int32) (t_holds : Nat → Int32) (a1 : Int32) (z : Int32 × Int32) (hr : f_X12_deep t_places t_deep t_holds a1 = some z) (sz : Nat) : Met l yX12_deep (.code yX12_deep cX12_deep 3 (some .int) :: WS) (rmH 1 0 0) (va_Pc [.ref q_t, .int a1] (PW dd g mv (w_X12_deep g q_t q_t_holds o_t_pailAt o_t_leaks o_t_wants o_t_words o_t_sightBehind o_t_sightDoor o_t_sightIs o_t_pad o_t_at o_t_moved o_t_has o_t_order o_t_best o_t_wins o_t_later o_t_signs o_t_kept o_t_isKept t_places t_deep t_served t_wordMany t_sights t_padMany t_done t_drawn t_leaked t_drunk t_times t_foundNumber t_keptAt t_isWriting t_holds) sz)) (Qo dd g (some (.int z.1)) (fun u : Unit => (w_X12_deep g q_t q_t_holds o_t_pailAt o_t_leaks o_t_wants o_t_words o_t_sightBehind o_t_sightDoor o_t_sightIs o_t_pad o_t_at o_t_moved o_t_has o_t_order o_t_best o_t_wins o_t_later o_t_signs o_t_kept o_t_isKept t_places z.2 t_served t_wordMany t_sights t_padMany t_done t_drawn t_leaked t_drunk t_times t_foundNumber t_keptAt t_isWriting t_holds)) (va_A (w_X12_deep g q_t q_t_holds o_t_pailAt o_t_leaks o_t_wants o_t_words o_t_sightBehind o_t_sightDoor o_t_sightIs o_t_pad o_t_at o_t_moved o_t_has o_t_order o_t_best o_t_wins o_t_later o_t_signs o_t_kept o_t_isKept t_places t_deep t_served t_wordMany t_sights t_padMany t_done t_drawn t_leaked t_drunk t_times t_foundNumber t_keptAt t_isWriting t_holds) sz)) 0 0 (va_A (w_X12_deep g q_t q_t_holds o_t_pailAt o_t_leaks o_t_wants o_t_words o_t_sightBehind o_t_sightDoor o_t_sightIs o_t_pad o_t_at o_t_moved o_t_has o_t_order o_t_best o_t_wins o_t_later o_t_signs o_t_kept o_t_isKept t_places t_deep t_served t_wordMany t_sights t_padMany t_done t_drawn t_leaked t_drunk t_times t_foundNumber t_keptAt t_isWriting t_holds) sz) := by
  refine Met_intro (by decide) (Nat.le_of_ble_eq_true rfl) ?_
  intro p e s m below meth c A ls F hret hlk hin hw hl
  replace hl : lv_has ls 3 [(0, .ref q_t), (1, .int a1)] := hl
  refine lv_iload_n F.1 F.2.1 dX12_deep_0 rfl (lv_at hl 1 rfl) ?_
  refine lv_i2l F.1 F.2.1 dX12_deep_1 rfl ?_
  refine lv_lconst (v := 1) F.1 F.2.1 dX12_deep_2 (by decide) ?_
  refine lv_ldc2 F.1 F.2.1 F.2.2.2.1 (F.2.2.2.2 _ cl_X12_92) dX12_deep_3 ?_
  obtain ⟨z4, hz4, hr⟩ := Option.bind_eq_some_iff.mp hr
  refine call_o (wr := [(q_t, .inr (12, [.int t_places, .int t_deep, o_t_pailAt, .ref q_t_holds, o_t_leaks, o_t_wants, .int t_served, o_t_words, .int t_wordMany, o_t_sightBehind, o_t_sightDoor, o_t_sightIs, .int t_sights, o_t_pad, .int t_padMany, o_t_at, o_t_moved, o_t_has, .int t_done, .int t_drawn, .int t_leaked, .int t_drunk, .int t_times, .int t_foundNumber, o_t_order, o_t_best, o_t_wins, o_t_later, o_t_signs, o_t_kept, o_t_isKept, .int t_keptAt, .int t_isWriting])), (q_t_holds, .inl (g 0, 9, .inl t_holds))]) (run_S (As := [.long a1.toInt64, .long (1 : Int64), .long (9 : Int64)]) (rest := []) F k_X12_86 (c_X12_in l dd g mv a1.toInt64 ((1 : Int64)) ((9 : Int64)) z4 hz4 _) hw [] (by decide) rfl rfl hl.1 rfl (Nat.le_of_ble_eq_true rfl) dX12_deep_6 ⟨Nat.le_of_ble_eq_true rfl, Nat.le_of_ble_eq_true rfl⟩ ⟨Nat.le_of_ble_eq_true rfl, Nat.le_of_ble_eq_true rfl⟩) hw [] [0, 1] rfl rfl (by decide) (by decide) (fun u5 H locs hw => ?_)
  replace hw : Wd dd g mv A s H locs (w_X12_deep g q_t q_t_holds o_t_pailAt o_t_leaks o_t_wants o_t_words o_t_sightBehind o_t_sightDoor o_t_sightIs o_t_pad o_t_at o_t_moved o_t_has o_t_order o_t_best o_t_wins o_t_later o_t_signs o_t_kept o_t_isKept t_places t_deep t_served t_wordMany t_sights t_padMany t_done t_drawn t_leaked t_drunk t_times t_foundNumber t_keptAt t_isWriting t_holds) := hw.sub [0, 1] (by decide) rfl
  refine W.eq (g2 := F0 m 9 ls (.int z4 :: [])) rfl ?_
  refine lv_if_ne (tgt := 15) F.1 F.2.1 dX12_deep_9 (by decide) (fun hc6 => ?_) (fun hc6 => ?_)
  · replace hr := (if_neg hc6).symm.trans hr
    refine lv_iconst (v := 0) F.1 F.2.1 dX12_deep_15 (by decide) ?_
    refine lv_istore_n (lv' := [(2, .int (0 : Int32)), (0, .ref q_t), (1, .int a1)]) F.1 F.2.1 dX12_deep_16 rfl hl (by decide) rfl (fun ls hl => ?_)
    exact b_X12_deep_17 F hret hlk  fuel hr hw (lv_sub hl [1, 2, 0] rfl)
  · replace hr := (if_pos hc6).symm.trans hr
    refine lv_bipush (v := -2) F.1 F.2.1 dX12_deep_12 (by decide) ?_
    cases hr
    exact ret_i () F hret hlk hw (Nat.le_refl _) (Nat.le_refl _) dX12_deep_14
set_option maxHeartbeats 4000000 in
set_option maxRecDepth 100000 in
theorem c_X12_say (l : Launch) (dd : va_G) (g : Nat → ClassId) (mv : Nat) (q_t : Nat) (q_t_pad : Nat) (o_t_pailAt : Value) (o_t_holds : Value) (o_t_leaks : Value) (o_t_wants : Value) (o_t_words : Value) (o_t_sightBehind : Value) (o_t_sightDoor : Value) (o_t_sightIs : Value) (o_t_at : Value) (o_t_moved : Value) (o_t_has : Value) (o_t_order : Value) (o_t_best : Value) (o_t_wins : Value) (o_t_later : Value) (o_t_signs : Value) (o_t_kept : Value) (o_t_isKept : Value) (t_places : Int32) (t_deep : Int32) (t_served : Int32) (t_wordMany : Int32) (t_sights : Int32) (t_padMany : Int32) (t_done : Int32) (t_drawn : Int32) (t_leaked : Int32) (t_drunk : Int32) (t_times : Int32) (t_foundNumber : Int32) (t_keptAt : Int32) (t_isWriting : Int32) (t_pad : Nat → Int32) (a1 : Int32) (z : Int32 × Int32 × (Nat → Int32)) (hr : f_X12_say t_padMany t_pad a1 = some z) (sz : Nat) : Met l yX12_say (.code yX12_say cX12_say 2 (some .int) :: WS) (rmH 1 0 0) (va_Pc [.ref q_t, .int a1] (PW dd g mv (w_X12_say g q_t q_t_pad o_t_pailAt o_t_holds o_t_leaks o_t_wants o_t_words o_t_sightBehind o_t_sightDoor o_t_sightIs o_t_at o_t_moved o_t_has o_t_order o_t_best o_t_wins o_t_later o_t_signs o_t_kept o_t_isKept t_places t_deep t_served t_wordMany t_sights t_padMany t_done t_drawn t_leaked t_drunk t_times t_foundNumber t_keptAt t_isWriting t_pad) sz)) (Qo dd g (some (.int z.1)) (fun u : Unit => (w_X12_say g q_t q_t_pad o_t_pailAt o_t_holds o_t_leaks o_t_wants o_t_words o_t_sightBehind o_t_sightDoor o_t_sightIs o_t_at o_t_moved o_t_has o_t_order o_t_best o_t_wins o_t_later o_t_signs o_t_kept o_t_isKept t_places t_deep t_served t_wordMany t_sights z.2.1 t_done t_drawn t_leaked t_drunk t_times t_foundNumber t_keptAt t_isWriting z.2.2)) (va_A (w_X12_say g q_t q_t_pad o_t_pailAt o_t_holds o_t_leaks o_t_wants o_t_words o_t_sightBehind o_t_sightDoor o_t_sightIs o_t_at o_t_moved o_t_has o_t_order o_t_best o_t_wins o_t_later o_t_signs o_t_kept o_t_isKept t_places t_deep t_served t_wordMany t_sights t_padMany t_done t_drawn t_leaked t_drunk t_times t_foundNumber t_keptAt t_isWriting t_pad) sz)) 0 0 (va_A (w_X12_say g q_t q_t_pad o_t_pailAt o_t_holds o_t_leaks o_t_wants o_t_words o_t_sightBehind o_t_sightDoor o_t_sightIs o_t_at o_t_moved o_t_has o_t_order o_t_best o_t_wins o_t_later o_t_signs o_t_kept o_t_isKept t_places t_deep t_served t_wordMany t_sights t_padMany t_done t_drawn t_leaked t_drunk t_times t_foundNumber t_keptAt t_isWriting t_pad) sz) := by
  refine Met_intro (by decide) (Nat.le_of_ble_eq_true rfl) ?_
  intro p e s m below meth c A ls F hret hlk hin hw hl
  replace hl : lv_has ls 2 [(0, .ref q_t), (1, .int a1)] := hl
  refine lv_iload_n F.1 F.2.1 dX12_say_0 rfl (lv_at hl 1 rfl) ?_
  refine lv_i2l F.1 F.2.1 dX12_say_1 rfl ?_
  refine lv_ldc2 F.1 F.2.1 F.2.2.2.1 (F.2.2.2.2 _ cl_X12_98) dX12_say_2 ?_
  refine lv_ldc2 F.1 F.2.1 F.2.2.2.1 (F.2.2.2.2 _ cl_X12_100) dX12_say_5 ?_
  obtain ⟨z1, hz1, hr⟩ := Option.bind_eq_some_iff.mp hr
  refine call_o (wr := [(q_t, .inr (12, [.int t_places, .int t_deep, o_t_pailAt, o_t_holds, o_t_leaks, o_t_wants, .int t_served, o_t_words, .int t_wordMany, o_t_sightBehind, o_t_sightDoor, o_t_sightIs, .int t_sights, .ref q_t_pad, .int t_padMany, o_t_at, o_t_moved, o_t_has, .int t_done, .int t_drawn, .int t_leaked, .int t_drunk, .int t_times, .int t_foundNumber, o_t_order, o_t_best, o_t_wins, o_t_later, o_t_signs, o_t_kept, o_t_isKept, .int t_keptAt, .int t_isWriting])), (q_t_pad, .inl (g 0, 40, .inl t_pad))]) (run_S (As := [.long a1.toInt64, .long (33 : Int64), .long (126 : Int64)]) (rest := []) F k_X12_86 (c_X12_in l dd g mv a1.toInt64 ((33 : Int64)) ((126 : Int64)) z1 hz1 _) hw [] (by decide) rfl rfl hl.1 rfl (Nat.le_of_ble_eq_true rfl) dX12_say_8 ⟨Nat.le_of_ble_eq_true rfl, Nat.le_of_ble_eq_true rfl⟩ ⟨Nat.le_of_ble_eq_true rfl, Nat.le_of_ble_eq_true rfl⟩) hw [] [0, 1] rfl rfl (by decide) (by decide) (fun u2 H locs hw => ?_)
  replace hw : Wd dd g mv A s H locs (w_X12_say g q_t q_t_pad o_t_pailAt o_t_holds o_t_leaks o_t_wants o_t_words o_t_sightBehind o_t_sightDoor o_t_sightIs o_t_at o_t_moved o_t_has o_t_order o_t_best o_t_wins o_t_later o_t_signs o_t_kept o_t_isKept t_places t_deep t_served t_wordMany t_sights t_padMany t_done t_drawn t_leaked t_drunk t_times t_foundNumber t_keptAt t_isWriting t_pad) := hw.sub [0, 1] (by decide) rfl
  refine W.eq (g2 := F0 m 11 ls (.int z1 :: [])) rfl ?_
  refine lv_if_ne (tgt := 17) F.1 F.2.1 dX12_say_11 (by decide) (fun hc3 => ?_) (fun hc3 => ?_)
  · replace hr := (if_neg hc3).symm.trans hr
    refine lv_aload_n F.1 F.2.1 dX12_say_17 rfl (lv_at hl 0 rfl) ?_
    refine gf_X12_102 F hw 0 rfl rfl dX12_say_18 ?_
    refine lv_bipush (v := 40) F.1 F.2.1 dX12_say_21 (by decide) ?_
    refine lv_icmp_ne (tgt := 29) F.1 F.2.1 dX12_say_23 (by decide) (fun hc4 => ?_) (fun hc4 => ?_)
    · replace hr := (if_neg hc4).symm.trans hr
      refine lv_aload_n F.1 F.2.1 dX12_say_29 rfl (lv_at hl 0 rfl) ?_
      refine gf_X12_34 F hw 0 rfl rfl dX12_say_30 ?_
      refine lv_aload_n F.1 F.2.1 dX12_say_33 rfl (lv_at hl 0 rfl) ?_
      refine gf_X12_102 F hw 0 rfl rfl dX12_say_34 ?_
      refine lv_iload_n F.1 F.2.1 dX12_say_37 rfl (lv_at hl 1 rfl) ?_
      obtain ⟨hg5, hr⟩ := g_no hr
      refine aw_i F hw 1 rfl hg5 dX12_say_38 (fun H locs hw => ?_)
      replace hw : Wd dd g mv A s H locs (w_X12_say g q_t q_t_pad o_t_pailAt o_t_holds o_t_leaks o_t_wants o_t_words o_t_sightBehind o_t_sightDoor o_t_sightIs o_t_at o_t_moved o_t_has o_t_order o_t_best o_t_wins o_t_later o_t_signs o_t_kept o_t_isKept t_places t_deep t_served t_wordMany t_sights t_padMany t_done t_drawn t_leaked t_drunk t_times t_foundNumber t_keptAt t_isWriting ((upd t_pad (t_padMany).toNatClampNeg a1))) := hw
      refine lv_aload_n F.1 F.2.1 dX12_say_39 rfl (lv_at hl 0 rfl) ?_
      refine lv_dup F.1 F.2.1 dX12_say_40 rfl ?_
      refine gf_X12_102 F hw 0 rfl rfl dX12_say_41 ?_
      refine lv_iconst (v := 1) F.1 F.2.1 dX12_say_44 (by decide) ?_
      refine lv_iadd F.1 F.2.1 dX12_say_45 ?_
      refine pf_X12_102 F hw 0 rfl (Nat.le_of_ble_eq_true rfl) dX12_say_46 (fun H locs hw => ?_)
      replace hw : Wd dd g mv A s H locs (w_X12_say g q_t q_t_pad o_t_pailAt o_t_holds o_t_leaks o_t_wants o_t_words o_t_sightBehind o_t_sightDoor o_t_sightIs o_t_at o_t_moved o_t_has o_t_order o_t_best o_t_wins o_t_later o_t_signs o_t_kept o_t_isKept t_places t_deep t_served t_wordMany t_sights ((t_padMany + (1 : Int32))) t_done t_drawn t_leaked t_drunk t_times t_foundNumber t_keptAt t_isWriting ((upd t_pad (t_padMany).toNatClampNeg a1))) := hw
      refine lv_aload_n F.1 F.2.1 dX12_say_49 rfl (lv_at hl 0 rfl) ?_
      refine gf_X12_102 F hw 0 rfl rfl dX12_say_50 ?_
      cases hr
      exact ret_i () F hret hlk hw (Nat.le_refl _) (Nat.le_refl _) dX12_say_53
    · replace hr := (if_pos hc4).symm.trans hr
      refine lv_bipush (v := -4) F.1 F.2.1 dX12_say_26 (by decide) ?_
      cases hr
      exact ret_i () F hret hlk hw (Nat.le_refl _) (Nat.le_refl _) dX12_say_28
  · replace hr := (if_pos hc3).symm.trans hr
    refine lv_bipush (v := -2) F.1 F.2.1 dX12_say_14 (by decide) ?_
    cases hr
    exact ret_i () F hret hlk hw (Nat.le_refl _) (Nat.le_refl _) dX12_say_16
set_option maxHeartbeats 4000000 in
set_option maxRecDepth 100000 in
theorem c_X12_wipe (l : Launch) (dd : va_G) (g : Nat → ClassId) (mv : Nat) (q_t : Nat) (o_t_pailAt : Value) (o_t_holds : Value) (o_t_leaks : Value) (o_t_wants : Value) (o_t_words : Value) (o_t_sightBehind : Value) (o_t_sightDoor : Value) (o_t_sightIs : Value) (o_t_pad : Value) (o_t_at : Value) (o_t_moved : Value) (o_t_has : Value) (o_t_order : Value) (o_t_best : Value) (o_t_wins : Value) (o_t_later : Value) (o_t_signs : Value) (o_t_kept : Value) (o_t_isKept : Value) (t_places : Int32) (t_deep : Int32) (t_served : Int32) (t_wordMany : Int32) (t_sights : Int32) (t_padMany : Int32) (t_done : Int32) (t_drawn : Int32) (t_leaked : Int32) (t_drunk : Int32) (t_times : Int32) (t_foundNumber : Int32) (t_keptAt : Int32) (t_isWriting : Int32) (z : Int32 × Int32) (hr : f_X12_wipe t_padMany = some z) (sz : Nat) : Met l yX12_wipe (.code yX12_wipe cX12_wipe 2 (some .int) :: WS) (rmH 0 0 0) (va_Pc [.ref q_t] (PW dd g mv (w_X12_wipe g q_t o_t_pailAt o_t_holds o_t_leaks o_t_wants o_t_words o_t_sightBehind o_t_sightDoor o_t_sightIs o_t_pad o_t_at o_t_moved o_t_has o_t_order o_t_best o_t_wins o_t_later o_t_signs o_t_kept o_t_isKept t_places t_deep t_served t_wordMany t_sights t_padMany t_done t_drawn t_leaked t_drunk t_times t_foundNumber t_keptAt t_isWriting) sz)) (Qo dd g (some (.int z.1)) (fun u : Unit => (w_X12_wipe g q_t o_t_pailAt o_t_holds o_t_leaks o_t_wants o_t_words o_t_sightBehind o_t_sightDoor o_t_sightIs o_t_pad o_t_at o_t_moved o_t_has o_t_order o_t_best o_t_wins o_t_later o_t_signs o_t_kept o_t_isKept t_places t_deep t_served t_wordMany t_sights z.2 t_done t_drawn t_leaked t_drunk t_times t_foundNumber t_keptAt t_isWriting)) (va_A (w_X12_wipe g q_t o_t_pailAt o_t_holds o_t_leaks o_t_wants o_t_words o_t_sightBehind o_t_sightDoor o_t_sightIs o_t_pad o_t_at o_t_moved o_t_has o_t_order o_t_best o_t_wins o_t_later o_t_signs o_t_kept o_t_isKept t_places t_deep t_served t_wordMany t_sights t_padMany t_done t_drawn t_leaked t_drunk t_times t_foundNumber t_keptAt t_isWriting) sz)) 0 0 (va_A (w_X12_wipe g q_t o_t_pailAt o_t_holds o_t_leaks o_t_wants o_t_words o_t_sightBehind o_t_sightDoor o_t_sightIs o_t_pad o_t_at o_t_moved o_t_has o_t_order o_t_best o_t_wins o_t_later o_t_signs o_t_kept o_t_isKept t_places t_deep t_served t_wordMany t_sights t_padMany t_done t_drawn t_leaked t_drunk t_times t_foundNumber t_keptAt t_isWriting) sz) := by
  refine Met_intro (by decide) (Nat.le_of_ble_eq_true rfl) ?_
  intro p e s m below meth c A ls F hret hlk hin hw hl
  replace hl : lv_has ls 2 [(0, .ref q_t)] := hl
  refine lv_aload_n F.1 F.2.1 dX12_wipe_0 rfl (lv_at hl 0 rfl) ?_
  refine gf_X12_102 F hw 0 rfl rfl dX12_wipe_1 ?_
  refine lv_istore_n (lv' := [(1, .int t_padMany), (0, .ref q_t)]) F.1 F.2.1 dX12_wipe_4 rfl hl (by decide) rfl (fun ls hl => ?_)
  refine lv_aload_n F.1 F.2.1 dX12_wipe_5 rfl (lv_at hl 1 rfl) ?_
  refine lv_iconst (v := 0) F.1 F.2.1 dX12_wipe_6 (by decide) ?_
  refine pf_X12_102 F hw 0 rfl (Nat.le_of_ble_eq_true rfl) dX12_wipe_7 (fun H locs hw => ?_)
  replace hw : Wd dd g mv A s H locs (w_X12_wipe g q_t o_t_pailAt o_t_holds o_t_leaks o_t_wants o_t_words o_t_sightBehind o_t_sightDoor o_t_sightIs o_t_pad o_t_at o_t_moved o_t_has o_t_order o_t_best o_t_wins o_t_later o_t_signs o_t_kept o_t_isKept t_places t_deep t_served t_wordMany t_sights ((0 : Int32)) t_done t_drawn t_leaked t_drunk t_times t_foundNumber t_keptAt t_isWriting) := hw
  refine lv_iload_n F.1 F.2.1 dX12_wipe_10 rfl (lv_at hl 0 rfl) ?_
  cases hr
  exact ret_i () F hret hlk hw (Nat.le_refl _) (Nat.le_refl _) dX12_wipe_11
set_option maxHeartbeats 4000000 in
set_option maxRecDepth 100000 in
theorem b_X12_fault_45 {q_t q_t_pad : Nat} {z : Int32} (F : Fx p m c cX12_fault 2 s args RX12) (hret : meth.sig.returnType = some .int) (hlk : meth.locks = false) {k2 : Int32 → Int32 → (Nat → Int32) → Option (Int32)} (hk2 : ∀ {x1 : Int32} {t_padMany : Int32} {t_pad : Nat → Int32} {t_places : Int32} {t_deep : Int32} {t_served : Int32} {t_wordMany : Int32} {t_sights : Int32} {t_done : Int32} {t_drawn : Int32} {t_leaked : Int32} {t_drunk : Int32} {t_times : Int32} {t_foundNumber : Int32} {t_keptAt : Int32} {t_isWriting : Int32} {o_t_pailAt : Value} {o_t_holds : Value} {o_t_leaks : Value} {o_t_wants : Value} {o_t_words : Value} {o_t_sightBehind : Value} {o_t_sightDoor : Value} {o_t_sightIs : Value} {o_t_at : Value} {o_t_moved : Value} {o_t_has : Value} {o_t_order : Value} {o_t_best : Value} {o_t_wins : Value} {o_t_later : Value} {o_t_signs : Value} {o_t_kept : Value} {o_t_isKept : Value} {H : Heap} {locs : List Loc} {ls : Array Slot}, k2 x1 t_padMany t_pad = some z → Wd dd g mv A s H locs (w_X12_fault g q_t q_t_pad o_t_pailAt o_t_holds o_t_leaks o_t_wants o_t_words o_t_sightBehind o_t_sightDoor o_t_sightIs o_t_at o_t_moved o_t_has o_t_order o_t_best o_t_wins o_t_later o_t_signs o_t_kept o_t_isKept t_places t_deep t_served t_wordMany t_sights t_padMany t_done t_drawn t_leaked t_drunk t_times t_foundNumber t_keptAt t_isWriting t_pad) → lv_has ls 2 [(0, .ref q_t), (1, .int x1)] → W p l e (rmH (0) 0 0) s m args below meth c H locs 0 0 (MQ below (Qo dd g (some (.int z)) (fun u : Unit => (w_X12_fault g q_t q_t_pad o_t_pailAt o_t_holds o_t_leaks o_t_wants o_t_words o_t_sightBehind o_t_sightDoor o_t_sightIs o_t_at o_t_moved o_t_has o_t_order o_t_best o_t_wins o_t_later o_t_signs o_t_kept o_t_isKept t_places t_deep t_served t_wordMany t_sights t_padMany t_done t_drawn t_leaked t_drunk t_times t_foundNumber t_keptAt t_isWriting t_pad)) A) args s 0 0 A) (F0 m 2 ls [])) : ∀ {x1 : Int32} {t_padMany : Int32} {t_pad : Nat → Int32} {t_places : Int32} {t_deep : Int32} {t_served : Int32} {t_wordMany : Int32} {t_sights : Int32} {t_done : Int32} {t_drawn : Int32} {t_leaked : Int32} {t_drunk : Int32} {t_times : Int32} {t_foundNumber : Int32} {t_keptAt : Int32} {t_isWriting : Int32} {o_t_pailAt : Value} {o_t_holds : Value} {o_t_leaks : Value} {o_t_wants : Value} {o_t_words : Value} {o_t_sightBehind : Value} {o_t_sightDoor : Value} {o_t_sightIs : Value} {o_t_at : Value} {o_t_moved : Value} {o_t_has : Value} {o_t_order : Value} {o_t_best : Value} {o_t_wins : Value} {o_t_later : Value} {o_t_signs : Value} {o_t_kept : Value} {o_t_isKept : Value} {H : Heap} {locs : List Loc} {ls : Array Slot}, f_X12_fault_45 k2 x1 t_padMany t_pad = some z → Wd dd g mv A s H locs (w_X12_fault g q_t q_t_pad o_t_pailAt o_t_holds o_t_leaks o_t_wants o_t_words o_t_sightBehind o_t_sightDoor o_t_sightIs o_t_at o_t_moved o_t_has o_t_order o_t_best o_t_wins o_t_later o_t_signs o_t_kept o_t_isKept t_places t_deep t_served t_wordMany t_sights t_padMany t_done t_drawn t_leaked t_drunk t_times t_foundNumber t_keptAt t_isWriting t_pad) → lv_has ls 2 [(0, .ref q_t), (1, .int x1)] → W p l e (rmH (0) 0 0) s m args below meth c H locs 0 0 (MQ below (Qo dd g (some (.int z)) (fun u : Unit => (w_X12_fault g q_t q_t_pad o_t_pailAt o_t_holds o_t_leaks o_t_wants o_t_words o_t_sightBehind o_t_sightDoor o_t_sightIs o_t_at o_t_moved o_t_has o_t_order o_t_best o_t_wins o_t_later o_t_signs o_t_kept o_t_isKept t_places t_deep t_served t_wordMany t_sights t_padMany t_done t_drawn t_leaked t_drunk t_times t_foundNumber t_keptAt t_isWriting t_pad)) A) args s 0 0 A) (F0 m 45 ls []) := by
  intro x1 t_padMany t_pad t_places t_deep t_served t_wordMany t_sights t_done t_drawn t_leaked t_drunk t_times t_foundNumber t_keptAt t_isWriting o_t_pailAt o_t_holds o_t_leaks o_t_wants o_t_words o_t_sightBehind o_t_sightDoor o_t_sightIs o_t_at o_t_moved o_t_has o_t_order o_t_best o_t_wins o_t_later o_t_signs o_t_kept o_t_isKept H locs ls hr hw hl
  refine lv_iinc (v := (x1 + 1)) (lv' := [(1, .int (x1 + 1)), (0, .ref q_t)]) F.1 F.2.1 dX12_fault_45 hl (k := 1) rfl rfl (by decide) rfl (fun ls hl => ?_)
  refine lv_goto (tgt := 2) F.1 F.2.1 dX12_fault_48 (by decide) ?_
  exact hk2 hr hw (lv_sub hl [1, 0] rfl)
set_option maxHeartbeats 4000000 in
set_option maxRecDepth 100000 in
theorem b_X12_fault_2 {q_t q_t_pad : Nat} {z : Int32} (F : Fx p m c cX12_fault 2 s args RX12) (hret : meth.sig.returnType = some .int) (hlk : meth.locks = false) : ∀ (n : Nat), ∀ {x1 : Int32} {t_padMany : Int32} {t_pad : Nat → Int32} {t_places : Int32} {t_deep : Int32} {t_served : Int32} {t_wordMany : Int32} {t_sights : Int32} {t_done : Int32} {t_drawn : Int32} {t_leaked : Int32} {t_drunk : Int32} {t_times : Int32} {t_foundNumber : Int32} {t_keptAt : Int32} {t_isWriting : Int32} {o_t_pailAt : Value} {o_t_holds : Value} {o_t_leaks : Value} {o_t_wants : Value} {o_t_words : Value} {o_t_sightBehind : Value} {o_t_sightDoor : Value} {o_t_sightIs : Value} {o_t_at : Value} {o_t_moved : Value} {o_t_has : Value} {o_t_order : Value} {o_t_best : Value} {o_t_wins : Value} {o_t_later : Value} {o_t_signs : Value} {o_t_kept : Value} {o_t_isKept : Value} {H : Heap} {locs : List Loc} {ls : Array Slot}, f_X12_fault_2  n x1 t_padMany t_pad = some z → Wd dd g mv A s H locs (w_X12_fault g q_t q_t_pad o_t_pailAt o_t_holds o_t_leaks o_t_wants o_t_words o_t_sightBehind o_t_sightDoor o_t_sightIs o_t_at o_t_moved o_t_has o_t_order o_t_best o_t_wins o_t_later o_t_signs o_t_kept o_t_isKept t_places t_deep t_served t_wordMany t_sights t_padMany t_done t_drawn t_leaked t_drunk t_times t_foundNumber t_keptAt t_isWriting t_pad) → lv_has ls 2 [(0, .ref q_t), (1, .int x1)] → W p l e (rmH (0) 0 0) s m args below meth c H locs 0 0 (MQ below (Qo dd g (some (.int z)) (fun u : Unit => (w_X12_fault g q_t q_t_pad o_t_pailAt o_t_holds o_t_leaks o_t_wants o_t_words o_t_sightBehind o_t_sightDoor o_t_sightIs o_t_at o_t_moved o_t_has o_t_order o_t_best o_t_wins o_t_later o_t_signs o_t_kept o_t_isKept t_places t_deep t_served t_wordMany t_sights t_padMany t_done t_drawn t_leaked t_drunk t_times t_foundNumber t_keptAt t_isWriting t_pad)) A) args s 0 0 A) (F0 m 2 ls []) := by
  intro n
  induction n with
  | zero =>
    intros
    rename_i hr _ _
    cases hr
  | succ n ih =>
    intro x1 t_padMany t_pad t_places t_deep t_served t_wordMany t_sights t_done t_drawn t_leaked t_drunk t_times t_foundNumber t_keptAt t_isWriting o_t_pailAt o_t_holds o_t_leaks o_t_wants o_t_words o_t_sightBehind o_t_sightDoor o_t_sightIs o_t_at o_t_moved o_t_has o_t_order o_t_best o_t_wins o_t_later o_t_signs o_t_kept o_t_isKept H locs ls hr hw hl
    refine lv_iload_n F.1 F.2.1 dX12_fault_2 rfl (lv_at hl 1 rfl) ?_
    refine lv_aload_n F.1 F.2.1 dX12_fault_3 rfl (lv_at hl 0 rfl) ?_
    refine gf_X12_102 F hw 0 rfl rfl dX12_fault_4 ?_
    refine lv_icmp_ge (tgt := 51) F.1 F.2.1 dX12_fault_7 (by decide) (fun hc1 => ?_) (fun hc1 => ?_)
    · replace hr := (if_pos hc1).symm.trans hr
      refine lv_bipush (v := -6) F.1 F.2.1 dX12_fault_51 (by decide) ?_
      cases hr
      exact ret_i () F hret hlk hw (Nat.le_refl _) (Nat.le_refl _) dX12_fault_53
    · replace hr := (if_neg hc1).symm.trans hr
      refine lv_aload_n F.1 F.2.1 dX12_fault_10 rfl (lv_at hl 0 rfl) ?_
      refine gf_X12_34 F hw 0 rfl rfl dX12_fault_11 ?_
      refine lv_iload_n F.1 F.2.1 dX12_fault_14 rfl (lv_at hl 1 rfl) ?_
      obtain ⟨hg2, hr⟩ := g_no hr
      refine ar_i F hw 1 rfl hg2 dX12_fault_15 ?_
      refine lv_bipush (v := 43) F.1 F.2.1 dX12_fault_16 (by decide) ?_
      refine lv_icmp_eq (tgt := 45) F.1 F.2.1 dX12_fault_18 (by decide) (fun hc3 => ?_) (fun hc3 => ?_)
      · replace hr := (if_pos hc3).symm.trans hr
        exact b_X12_fault_45 F hret hlk (ih) hr hw (lv_sub hl [0, 1] rfl)
      · replace hr := (if_neg hc3).symm.trans hr
        refine lv_aload_n F.1 F.2.1 dX12_fault_21 rfl (lv_at hl 0 rfl) ?_
        refine gf_X12_34 F hw 0 rfl rfl dX12_fault_22 ?_
        refine lv_iload_n F.1 F.2.1 dX12_fault_25 rfl (lv_at hl 1 rfl) ?_
        obtain ⟨hg4, hr⟩ := g_no hr
        refine ar_i F hw 1 rfl hg4 dX12_fault_26 ?_
        refine lv_bipush (v := 45) F.1 F.2.1 dX12_fault_27 (by decide) ?_
        refine lv_icmp_eq (tgt := 45) F.1 F.2.1 dX12_fault_29 (by decide) (fun hc5 => ?_) (fun hc5 => ?_)
        · replace hr := (if_pos hc5).symm.trans hr
          exact b_X12_fault_45 F hret hlk (ih) hr hw (lv_sub hl [0, 1] rfl)
        · replace hr := (if_neg hc5).symm.trans hr
          refine lv_aload_n F.1 F.2.1 dX12_fault_32 rfl (lv_at hl 0 rfl) ?_
          refine gf_X12_34 F hw 0 rfl rfl dX12_fault_33 ?_
          refine lv_iload_n F.1 F.2.1 dX12_fault_36 rfl (lv_at hl 1 rfl) ?_
          obtain ⟨hg6, hr⟩ := g_no hr
          refine ar_i F hw 1 rfl hg6 dX12_fault_37 ?_
          refine lv_bipush (v := 46) F.1 F.2.1 dX12_fault_38 (by decide) ?_
          refine lv_icmp_eq (tgt := 45) F.1 F.2.1 dX12_fault_40 (by decide) (fun hc7 => ?_) (fun hc7 => ?_)
          · replace hr := (if_pos hc7).symm.trans hr
            exact b_X12_fault_45 F hret hlk (ih) hr hw (lv_sub hl [0, 1] rfl)
          · replace hr := (if_neg hc7).symm.trans hr
            refine lv_iload_n F.1 F.2.1 dX12_fault_43 rfl (lv_at hl 1 rfl) ?_
            cases hr
            exact ret_i () F hret hlk hw (Nat.le_refl _) (Nat.le_refl _) dX12_fault_44
set_option maxHeartbeats 4000000 in
set_option maxRecDepth 100000 in
theorem c_X12_fault (l : Launch) (dd : va_G) (g : Nat → ClassId) (mv : Nat) (q_t : Nat) (q_t_pad : Nat) (o_t_pailAt : Value) (o_t_holds : Value) (o_t_leaks : Value) (o_t_wants : Value) (o_t_words : Value) (o_t_sightBehind : Value) (o_t_sightDoor : Value) (o_t_sightIs : Value) (o_t_at : Value) (o_t_moved : Value) (o_t_has : Value) (o_t_order : Value) (o_t_best : Value) (o_t_wins : Value) (o_t_later : Value) (o_t_signs : Value) (o_t_kept : Value) (o_t_isKept : Value) (t_places : Int32) (t_deep : Int32) (t_served : Int32) (t_wordMany : Int32) (t_sights : Int32) (t_padMany : Int32) (t_done : Int32) (t_drawn : Int32) (t_leaked : Int32) (t_drunk : Int32) (t_times : Int32) (t_foundNumber : Int32) (t_keptAt : Int32) (t_isWriting : Int32) (t_pad : Nat → Int32) (z : Int32) (hr : f_X12_fault t_padMany t_pad = some z) (sz : Nat) : Met l yX12_fault (.code yX12_fault cX12_fault 2 (some .int) :: WS) (rmH 0 0 0) (va_Pc [.ref q_t] (PW dd g mv (w_X12_fault g q_t q_t_pad o_t_pailAt o_t_holds o_t_leaks o_t_wants o_t_words o_t_sightBehind o_t_sightDoor o_t_sightIs o_t_at o_t_moved o_t_has o_t_order o_t_best o_t_wins o_t_later o_t_signs o_t_kept o_t_isKept t_places t_deep t_served t_wordMany t_sights t_padMany t_done t_drawn t_leaked t_drunk t_times t_foundNumber t_keptAt t_isWriting t_pad) sz)) (Qo dd g (some (.int z)) (fun u : Unit => (w_X12_fault g q_t q_t_pad o_t_pailAt o_t_holds o_t_leaks o_t_wants o_t_words o_t_sightBehind o_t_sightDoor o_t_sightIs o_t_at o_t_moved o_t_has o_t_order o_t_best o_t_wins o_t_later o_t_signs o_t_kept o_t_isKept t_places t_deep t_served t_wordMany t_sights t_padMany t_done t_drawn t_leaked t_drunk t_times t_foundNumber t_keptAt t_isWriting t_pad)) (va_A (w_X12_fault g q_t q_t_pad o_t_pailAt o_t_holds o_t_leaks o_t_wants o_t_words o_t_sightBehind o_t_sightDoor o_t_sightIs o_t_at o_t_moved o_t_has o_t_order o_t_best o_t_wins o_t_later o_t_signs o_t_kept o_t_isKept t_places t_deep t_served t_wordMany t_sights t_padMany t_done t_drawn t_leaked t_drunk t_times t_foundNumber t_keptAt t_isWriting t_pad) sz)) 0 0 (va_A (w_X12_fault g q_t q_t_pad o_t_pailAt o_t_holds o_t_leaks o_t_wants o_t_words o_t_sightBehind o_t_sightDoor o_t_sightIs o_t_at o_t_moved o_t_has o_t_order o_t_best o_t_wins o_t_later o_t_signs o_t_kept o_t_isKept t_places t_deep t_served t_wordMany t_sights t_padMany t_done t_drawn t_leaked t_drunk t_times t_foundNumber t_keptAt t_isWriting t_pad) sz) := by
  refine Met_intro (by decide) (Nat.le_of_ble_eq_true rfl) ?_
  intro p e s m below meth c A ls F hret hlk hin hw hl
  replace hl : lv_has ls 2 [(0, .ref q_t)] := hl
  refine lv_iconst (v := 0) F.1 F.2.1 dX12_fault_0 (by decide) ?_
  refine lv_istore_n (lv' := [(1, .int (0 : Int32)), (0, .ref q_t)]) F.1 F.2.1 dX12_fault_1 rfl hl (by decide) rfl (fun ls hl => ?_)
  exact b_X12_fault_2 F hret hlk  fuel hr hw (lv_sub hl [1, 0] rfl)
end WALK
