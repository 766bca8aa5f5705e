section WALK
variable {p : Program} {l : Launch} {e : Env} {s : State} {m : MethodId} {args : Array Value} {below : List Frame} {meth : Method} {c : Code} {dd : va_G} {g : Nat → ClassId} {mv : Nat} {A : Nat → Prop}
set_option maxHeartbeats 4000000 in
set_option maxRecDepth 100000 in
theorem c_X12_door (l : Launch) (dd : va_G) (g : Nat → ClassId) (mv : Nat) (q_t : Nat) (q_t_wants : Nat) (o_t_pailAt : Value) (o_t_holds : Value) (o_t_leaks : Value) (o_t_words : Value) (o_t_sightBehind : Value) (o_t_sightDoor : Value) (o_t_sightIs : Value) (o_t_pad : Value) (o_t_at : Value) (o_t_moved : Value) (o_t_has : Value) (o_t_order : Value) (o_t_best : Value) (o_t_wins : Value) (o_t_later : Value) (o_t_signs : Value) (o_t_kept : Value) (o_t_isKept : Value) (t_places : Int32) (t_deep : Int32) (t_served : Int32) (t_wordMany : Int32) (t_sights : Int32) (t_padMany : Int32) (t_done : Int32) (t_drawn : Int32) (t_leaked : Int32) (t_drunk : Int32) (t_times : Int32) (t_foundNumber : Int32) (t_keptAt : Int32) (t_isWriting : Int32) (t_wants : Nat → Int32) (a1 : Int32) (a2 : Int32) (z : Int32 × Int32 × (Nat → Int32)) (hr : f_X12_door t_places t_served t_wants a1 a2 = some z) (sz : Nat) : Met l yX12_door (.code yX12_door cX12_door 4 (some .int) :: WS) (rmH 2 0 0) (va_Pc [.ref q_t, .int a1, .int a2] (PW dd g mv (w_X12_door g q_t q_t_wants o_t_pailAt o_t_holds o_t_leaks o_t_words o_t_sightBehind o_t_sightDoor o_t_sightIs o_t_pad o_t_at o_t_moved o_t_has o_t_order o_t_best o_t_wins o_t_later o_t_signs o_t_kept o_t_isKept t_places t_deep t_served t_wordMany t_sights t_padMany t_done t_drawn t_leaked t_drunk t_times t_foundNumber t_keptAt t_isWriting t_wants) sz)) (Qo dd g (some (.int z.1)) (fun u : Unit => (w_X12_door g q_t q_t_wants o_t_pailAt o_t_holds o_t_leaks o_t_words o_t_sightBehind o_t_sightDoor o_t_sightIs o_t_pad o_t_at o_t_moved o_t_has o_t_order o_t_best o_t_wins o_t_later o_t_signs o_t_kept o_t_isKept t_places t_deep z.2.1 t_wordMany t_sights t_padMany t_done t_drawn t_leaked t_drunk t_times t_foundNumber t_keptAt t_isWriting z.2.2)) (va_A (w_X12_door g q_t q_t_wants o_t_pailAt o_t_holds o_t_leaks o_t_words o_t_sightBehind o_t_sightDoor o_t_sightIs o_t_pad o_t_at o_t_moved o_t_has o_t_order o_t_best o_t_wins o_t_later o_t_signs o_t_kept o_t_isKept t_places t_deep t_served t_wordMany t_sights t_padMany t_done t_drawn t_leaked t_drunk t_times t_foundNumber t_keptAt t_isWriting t_wants) sz)) 0 0 (va_A (w_X12_door g q_t q_t_wants o_t_pailAt o_t_holds o_t_leaks o_t_words o_t_sightBehind o_t_sightDoor o_t_sightIs o_t_pad o_t_at o_t_moved o_t_has o_t_order o_t_best o_t_wins o_t_later o_t_signs o_t_kept o_t_isKept t_places t_deep t_served t_wordMany t_sights t_padMany t_done t_drawn t_leaked t_drunk t_times t_foundNumber t_keptAt t_isWriting t_wants) sz) := by
  refine Met_intro (by decide) (Nat.le_of_ble_eq_true rfl) ?_
  intro p e s m below meth c A ls F hret hlk hin hw hl
  replace hl : lv_has ls 4 [(0, .ref q_t), (1, .int a1), (2, .int a2)] := hl
  refine lv_aload_n F.1 F.2.1 dX12_door_0 rfl (lv_at hl 0 rfl) ?_
  refine lv_iload_n F.1 F.2.1 dX12_door_1 rfl (lv_at hl 1 rfl) ?_
  obtain ⟨z1, hz1, hr⟩ := Option.bind_eq_some_iff.mp hr
  refine call_o (wr := [(q_t_wants, .inl (g 0, 9, .inl t_wants))]) (run_V (As := [.int a1]) (rest := []) F k_X12_94 (c_X12_isPlace l dd g mv q_t o_t_pailAt o_t_holds o_t_leaks ((.ref q_t_wants)) o_t_words o_t_sightBehind o_t_sightDoor o_t_sightIs o_t_pad o_t_at o_t_moved o_t_has o_t_order o_t_best o_t_wins o_t_later o_t_signs o_t_kept o_t_isKept t_places t_deep t_served t_wordMany t_sights t_padMany t_done t_drawn t_leaked t_drunk t_times t_foundNumber t_keptAt t_isWriting a1 z1 hz1 _) hw [0] (by decide) rfl (ci := 12) rfl rfl rfl rfl hl.1 rfl (Nat.le_of_ble_eq_true rfl) dX12_door_2 ⟨Nat.le_of_ble_eq_true rfl, Nat.le_of_ble_eq_true rfl⟩ ⟨Nat.le_of_ble_eq_true rfl, Nat.le_of_ble_eq_true rfl⟩) hw [0] [1] rfl rfl (by decide) (by decide) (fun u2 H locs hw => ?_)
  replace hw : Wd dd g mv A s H locs (w_X12_door g q_t q_t_wants o_t_pailAt o_t_holds o_t_leaks o_t_words o_t_sightBehind o_t_sightDoor o_t_sightIs o_t_pad o_t_at o_t_moved o_t_has o_t_order o_t_best o_t_wins o_t_later o_t_signs o_t_kept o_t_isKept t_places t_deep t_served t_wordMany t_sights t_padMany t_done t_drawn t_leaked t_drunk t_times t_foundNumber t_keptAt t_isWriting t_wants) := hw.sub [1, 0] (by decide) rfl
  refine W.eq (g2 := F0 m 5 ls (.int z1 :: [])) rfl ?_
  refine lv_if_ne (tgt := 10) F.1 F.2.1 dX12_door_5 (by decide) (fun hc3 => ?_) (fun hc3 => ?_)
  · replace hr := (if_neg hc3).symm.trans hr
    refine lv_iload_n F.1 F.2.1 dX12_door_10 rfl (lv_at hl 2 rfl) ?_
    refine lv_i2l F.1 F.2.1 dX12_door_11 rfl ?_
    refine lv_lconst (v := 0) F.1 F.2.1 dX12_door_12 (by decide) ?_
    refine lv_ldc2 F.1 F.2.1 F.2.2.2.1 (F.2.2.2.2 _ cl_X12_92) dX12_door_13 ?_
    obtain ⟨z4, hz4, hr⟩ := Option.bind_eq_some_iff.mp hr
    refine call_o (wr := [(q_t, .inr (12, [.int t_places, .int t_deep, o_t_pailAt, o_t_holds, o_t_leaks, .ref q_t_wants, .int t_served, o_t_words, .int t_wordMany, o_t_sightBehind, o_t_sightDoor, o_t_sightIs, .int t_sights, o_t_pad, .int t_padMany, o_t_at, o_t_moved, o_t_has, .int t_done, .int t_drawn, .int t_leaked, .int t_drunk, .int t_times, .int t_foundNumber, o_t_order, o_t_best, o_t_wins, o_t_later, o_t_signs, o_t_kept, o_t_isKept, .int t_keptAt, .int t_isWriting])), (q_t_wants, .inl (g 0, 9, .inl t_wants))]) (run_S (As := [.long a2.toInt64, .long (0 : Int64), .long (9 : Int64)]) (rest := []) F k_X12_86 (c_X12_in l dd g mv a2.toInt64 ((0 : Int64)) ((9 : Int64)) z4 hz4 _) hw [] (by decide) rfl rfl hl.1 rfl (Nat.le_of_ble_eq_true rfl) dX12_door_16 ⟨Nat.le_of_ble_eq_true rfl, Nat.le_of_ble_eq_true rfl⟩ ⟨Nat.le_of_ble_eq_true rfl, Nat.le_of_ble_eq_true rfl⟩) hw [] [0, 1] rfl rfl (by decide) (by decide) (fun u5 H locs hw => ?_)
    replace hw : Wd dd g mv A s H locs (w_X12_door g q_t q_t_wants o_t_pailAt o_t_holds o_t_leaks o_t_words o_t_sightBehind o_t_sightDoor o_t_sightIs o_t_pad o_t_at o_t_moved o_t_has o_t_order o_t_best o_t_wins o_t_later o_t_signs o_t_kept o_t_isKept t_places t_deep t_served t_wordMany t_sights t_padMany t_done t_drawn t_leaked t_drunk t_times t_foundNumber t_keptAt t_isWriting t_wants) := hw.sub [0, 1] (by decide) rfl
    refine W.eq (g2 := F0 m 19 ls (.int z4 :: [])) rfl ?_
    refine lv_if_ne (tgt := 25) F.1 F.2.1 dX12_door_19 (by decide) (fun hc6 => ?_) (fun hc6 => ?_)
    · replace hr := (if_neg hc6).symm.trans hr
      refine lv_aload_n F.1 F.2.1 dX12_door_25 rfl (lv_at hl 0 rfl) ?_
      refine gf_X12_19 F hw 0 rfl rfl dX12_door_26 ?_
      refine lv_iload_n F.1 F.2.1 dX12_door_29 rfl (lv_at hl 1 rfl) ?_
      obtain ⟨hg7, hr⟩ := g_no hr
      refine ar_i F hw 1 rfl hg7 dX12_door_30 ?_
      refine lv_istore_n (lv' := [(3, .int (t_wants (a1).toNatClampNeg)), (0, .ref q_t), (1, .int a1), (2, .int a2)]) F.1 F.2.1 dX12_door_31 rfl hl (by decide) rfl (fun ls hl => ?_)
      refine lv_aload_n F.1 F.2.1 dX12_door_32 rfl (lv_at hl 1 rfl) ?_
      refine gf_X12_19 F hw 0 rfl rfl dX12_door_33 ?_
      refine lv_iload_n F.1 F.2.1 dX12_door_36 rfl (lv_at hl 2 rfl) ?_
      refine lv_iload_n F.1 F.2.1 dX12_door_37 rfl (lv_at hl 3 rfl) ?_
      obtain ⟨hg8, hr⟩ := g_no hr
      refine aw_i F hw 1 rfl hg8 dX12_door_38 (fun H locs hw => ?_)
      replace hw : Wd dd g mv A s H locs (w_X12_door g q_t q_t_wants o_t_pailAt o_t_holds o_t_leaks o_t_words o_t_sightBehind o_t_sightDoor o_t_sightIs o_t_pad o_t_at o_t_moved o_t_has o_t_order o_t_best o_t_wins o_t_later o_t_signs o_t_kept o_t_isKept t_places t_deep t_served t_wordMany t_sights t_padMany t_done t_drawn t_leaked t_drunk t_times t_foundNumber t_keptAt t_isWriting ((upd t_wants (a1).toNatClampNeg a2))) := hw
      refine lv_aload_n F.1 F.2.1 dX12_door_39 rfl (lv_at hl 1 rfl) ?_
      refine lv_iload_n F.1 F.2.1 dX12_door_40 rfl (lv_at hl 3 rfl) ?_
      refine lv_if_ne (tgt := 55) F.1 F.2.1 dX12_door_41 (by decide) (fun hc9 => ?_) (fun hc9 => ?_)
      · replace hr := (if_neg hc9).symm.trans hr
        refine lv_aload_n F.1 F.2.1 dX12_door_55 rfl (lv_at hl 1 rfl) ?_
        refine gf_X12_80 F hw 0 rfl rfl dX12_door_56 ?_
        refine lv_iconst (v := 1) F.1 F.2.1 dX12_door_59 (by decide) ?_
        refine lv_iload_n F.1 F.2.1 dX12_door_60 rfl (lv_at hl 2 rfl) ?_
        refine lv_ishl F.1 F.2.1 dX12_door_61 ?_
        refine lv_iconst (v := -1) F.1 F.2.1 dX12_door_62 (by decide) ?_
        refine lv_ixor F.1 F.2.1 dX12_door_63 ?_
        refine lv_iand F.1 F.2.1 dX12_door_64 ?_
        refine pf_X12_80 F hw 0 rfl (Nat.le_of_ble_eq_true rfl) dX12_door_65 (fun H locs hw => ?_)
        replace hw : Wd dd g mv A s H locs (w_X12_door g q_t q_t_wants o_t_pailAt o_t_holds o_t_leaks o_t_words o_t_sightBehind o_t_sightDoor o_t_sightIs o_t_pad o_t_at o_t_moved o_t_has o_t_order o_t_best o_t_wins o_t_later o_t_signs o_t_kept o_t_isKept t_places t_deep ((t_served &&& (((1 : Int32) <<< (a1 &&& 31)) ^^^ (-1 : Int32)))) t_wordMany t_sights t_padMany t_done t_drawn t_leaked t_drunk t_times t_foundNumber t_keptAt t_isWriting ((upd t_wants (a1).toNatClampNeg a2))) := hw
        refine lv_iload_n F.1 F.2.1 dX12_door_68 rfl (lv_at hl 0 rfl) ?_
        cases hr
        exact ret_i () F hret hlk hw (Nat.le_refl _) (Nat.le_refl _) dX12_door_69
      · replace hr := (if_pos hc9).symm.trans hr
        refine lv_aload_n F.1 F.2.1 dX12_door_44 rfl (lv_at hl 1 rfl) ?_
        refine gf_X12_80 F hw 0 rfl rfl dX12_door_45 ?_
        refine lv_iconst (v := 1) F.1 F.2.1 dX12_door_48 (by decide) ?_
        refine lv_iload_n F.1 F.2.1 dX12_door_49 rfl (lv_at hl 2 rfl) ?_
        refine lv_ishl F.1 F.2.1 dX12_door_50 ?_
        refine lv_ior F.1 F.2.1 dX12_door_51 ?_
        refine lv_goto (tgt := 65) F.1 F.2.1 dX12_door_52 (by decide) ?_
        refine pf_X12_80 F hw 0 rfl (Nat.le_of_ble_eq_true rfl) dX12_door_65 (fun H locs hw => ?_)
        replace hw : Wd dd g mv A s H locs (w_X12_door g q_t q_t_wants o_t_pailAt o_t_holds o_t_leaks o_t_words o_t_sightBehind o_t_sightDoor o_t_sightIs o_t_pad o_t_at o_t_moved o_t_has o_t_order o_t_best o_t_wins o_t_later o_t_signs o_t_kept o_t_isKept t_places t_deep ((t_served ||| ((1 : Int32) <<< (a1 &&& 31)))) t_wordMany t_sights t_padMany t_done t_drawn t_leaked t_drunk t_times t_foundNumber t_keptAt t_isWriting ((upd t_wants (a1).toNatClampNeg a2))) := hw
        refine lv_iload_n F.1 F.2.1 dX12_door_68 rfl (lv_at hl 0 rfl) ?_
        cases hr
        exact ret_i () F hret hlk hw (Nat.le_refl _) (Nat.le_refl _) dX12_door_69
    · replace hr := (if_pos hc6).symm.trans hr
      refine lv_bipush (v := -2) F.1 F.2.1 dX12_door_22 (by decide) ?_
      cases hr
      exact ret_i () F hret hlk hw (Nat.le_refl _) (Nat.le_refl _) dX12_door_24
  · replace hr := (if_pos hc3).symm.trans hr
    refine lv_iconst (v := -1) F.1 F.2.1 dX12_door_8 (by decide) ?_
    cases hr
    exact ret_i () F hret hlk hw (Nat.le_refl _) (Nat.le_refl _) dX12_door_9
set_option maxHeartbeats 4000000 in
set_option maxRecDepth 100000 in
theorem b_X12_deep_17 {q_t q_t_holds : Nat} {z : Int32 × Int32} (F : Fx p m c cX12_deep 3 s args RX12) (hret : meth.sig.returnType = some .int) (hlk : meth.locks = false) : ∀ (n : Nat), ∀ {x1 : Int32} {x2 : Int32} {t_places : Int32} {t_deep : Int32} {t_holds : Nat → Int32} {t_served : Int32} {t_wordMany : Int32} {t_sights : Int32} {t_padMany : Int32} {t_done : Int32} {t_drawn : Int32} {t_leaked : Int32} {t_drunk : Int32} {t_times : Int32} {t_foundNumber : Int32} {t_keptAt : Int32} {t_isWriting : Int32} {o_t_pailAt : Value} {o_t_leaks : Value} {o_t_wants : Value} {o_t_words : Value} {o_t_sightBehind : Value} {o_t_sightDoor : Value} {o_t_sightIs : Value} {o_t_pad : Value} {o_t_at : Value} {o_t_moved : Value} {o_t_has : Value} {o_t_order : Value} {o_t_best : Value} {o_t_wins : Value} {o_t_later : Value} {o_t_signs : Value} {o_t_kept : Value} {o_t_isKept : Value} {H : Heap} {locs : List Loc} {ls : Array Slot}, f_X12_deep_17  n x1 x2 t_places t_deep t_holds = some z → Wd dd g mv A s H locs (w_X12_deep g q_t q_t_holds o_t_pailAt o_t_leaks o_t_wants o_t_words o_t_sightBehind o_t_sightDoor o_t_sightIs o_t_pad o_t_at o_t_moved o_t_has o_t_order o_t_best o_t_wins o_t_later o_t_signs o_t_kept o_t_isKept t_places t_deep t_served t_wordMany t_sights t_padMany t_done t_drawn t_leaked t_drunk t_times t_foundNumber t_keptAt t_isWriting t_holds) → lv_has ls 3 [(0, .ref q_t), (1, .int x1), (2, .int x2)] → W p l e (rmH (1) 0 0) s m args below meth c H locs 0 0 (MQ below (Qo dd g (some (.int z.1)) (fun u : Unit => (w_X12_deep g q_t q_t_holds o_t_pailAt o_t_leaks o_t_wants o_t_words o_t_sightBehind o_t_sightDoor o_t_sightIs o_t_pad o_t_at o_t_moved o_t_has o_t_order o_t_best o_t_wins o_t_later o_t_signs o_t_kept o_t_isKept t_places z.2 t_served t_wordMany t_sights t_padMany t_done t_drawn t_leaked t_drunk t_times t_foundNumber t_keptAt t_isWriting t_holds)) A) args s 0 0 A) (F0 m 17 ls []) := by
  intro n
  induction n with
  | zero =>
    intros
    rename_i hr _ _
    cases hr
  | succ n ih =>
    intro x1 x2 t_places t_deep t_holds t_served t_wordMany t_sights t_padMany t_done t_drawn t_leaked t_drunk t_times t_foundNumber t_keptAt t_isWriting o_t_pailAt o_t_leaks o_t_wants o_t_words o_t_sightBehind o_t_sightDoor o_t_sightIs o_t_pad o_t_at o_t_moved o_t_has o_t_order o_t_best o_t_wins o_t_later o_t_signs o_t_kept o_t_isKept H locs ls hr hw hl
    refine lv_iload_n F.1 F.2.1 dX12_deep_17 rfl (lv_at hl 2 rfl) ?_
    refine lv_aload_n F.1 F.2.1 dX12_deep_18 rfl (lv_at hl 0 rfl) ?_
    refine gf_X12_77 F hw 0 rfl rfl dX12_deep_19 ?_
    refine lv_icmp_ge (tgt := 44) F.1 F.2.1 dX12_deep_22 (by decide) (fun hc1 => ?_) (fun hc1 => ?_)
    · replace hr := (if_pos hc1).symm.trans hr
      refine lv_aload_n F.1 F.2.1 dX12_deep_44 rfl (lv_at hl 0 rfl) ?_
      refine gf_X12_69 F hw 0 rfl rfl dX12_deep_45 ?_
      refine lv_istore_n (lv' := [(2, .int t_deep), (0, .ref q_t), (1, .int x1)]) F.1 F.2.1 dX12_deep_48 rfl hl (by decide) rfl (fun ls hl => ?_)
      refine lv_aload_n F.1 F.2.1 dX12_deep_49 rfl (lv_at hl 1 rfl) ?_
      refine lv_iload_n F.1 F.2.1 dX12_deep_50 rfl (lv_at hl 2 rfl) ?_
      refine pf_X12_69 F hw 0 rfl (Nat.le_of_ble_eq_true rfl) dX12_deep_51 (fun H locs hw => ?_)
      replace hw : Wd dd g mv A s H locs (w_X12_deep g q_t q_t_holds o_t_pailAt o_t_leaks o_t_wants o_t_words o_t_sightBehind o_t_sightDoor o_t_sightIs o_t_pad o_t_at o_t_moved o_t_has o_t_order o_t_best o_t_wins o_t_later o_t_signs o_t_kept o_t_isKept t_places x1 t_served t_wordMany t_sights t_padMany t_done t_drawn t_leaked t_drunk t_times t_foundNumber t_keptAt t_isWriting t_holds) := hw
      refine lv_iload_n F.1 F.2.1 dX12_deep_54 rfl (lv_at hl 0 rfl) ?_
      cases hr
      exact ret_i () F hret hlk hw (Nat.le_refl _) (Nat.le_refl _) dX12_deep_55
    · replace hr := (if_neg hc1).symm.trans hr
      refine lv_aload_n F.1 F.2.1 dX12_deep_25 rfl (lv_at hl 0 rfl) ?_
      refine gf_X12_13 F hw 0 rfl rfl dX12_deep_26 ?_
      refine lv_iload_n F.1 F.2.1 dX12_deep_29 rfl (lv_at hl 2 rfl) ?_
      obtain ⟨hg2, hr⟩ := g_no hr
      refine ar_i F hw 1 rfl hg2 dX12_deep_30 ?_
      refine lv_iload_n F.1 F.2.1 dX12_deep_31 rfl (lv_at hl 1 rfl) ?_
      refine lv_icmp_le (tgt := 38) F.1 F.2.1 dX12_deep_32 (by decide) (fun hc3 => ?_) (fun hc3 => ?_)
      · replace hr := (if_pos hc3).symm.trans hr
        refine lv_iinc (v := (x2 + 1)) (lv' := [(2, .int (x2 + 1)), (0, .ref q_t), (1, .int x1)]) F.1 F.2.1 dX12_deep_38 hl (k := 2) rfl rfl (by decide) rfl (fun ls hl => ?_)
        refine lv_goto (tgt := 17) F.1 F.2.1 dX12_deep_41 (by decide) ?_
        exact ih hr hw (lv_sub hl [1, 2, 0] rfl)
      · replace hr := (if_neg hc3).symm.trans hr
        refine lv_bipush (v := -3) F.1 F.2.1 dX12_deep_35 (by decide) ?_
        cases hr
        exact ret_i () F hret hlk hw (Nat.le_refl _) (Nat.le_refl _) dX12_deep_37
set_option maxHeartbeats 4000000 in
set_option maxRecDepth 100000 in
theorem c_X12_deep (l : Launch) (dd : va_G) (g : Nat → ClassId) (mv : Nat) (q_t : Nat) (q_t_holds : Nat) (o_t_pailAt : Value) (o_t_leaks : Value) (o_t_wants : Value) (o_t_words : Value) (o_t_sightBehind : Value) (o_t_sightDoor : Value) (o_t_sightIs : Value) (o_t_pad : Value) (o_t_at : Value) (o_t_moved : Value) (o_t_has : Value) (o_t_order : Value) (o_t_best : Value) (o_t_wins : Value) (o_t_later : Value) (o_t_signs : Value) (o_t_kept : Value) (o_t_isKept : Value) (t_places : Int32) (t_deep : Int32) (t_served : Int32) (t_wordMany : Int32) (t_sights : Int32) (t_padMany : Int32) (t_done : Int32) (t_drawn : Int32) (t_leaked : Int32) (t_drunk : Int32) (t_times : Int32) (t_foundNumber : Int32) (t_keptAt : Int32) (t_isWriting : Int32) (t_holds : Nat → Int32) (a1 : Int32) (z : Int32 × Int32) (hr : f_X12_deep t_places t_deep t_holds a1 = some z) (sz : Nat) : Met l yX12_deep (.code yX12_deep cX12_deep 3 (some .int) :: WS) (rmH 1 0 0) (va_Pc [.ref q_t, .int a1] (PW dd g mv (w_X12_deep g q_t q_t_holds o_t_pailAt o_t_leaks o_t_wants o_t_words o_t_sightBehind o_t_sightDoor o_t_sightIs o_t_pad o_t_at o_t_moved o_t_has o_t_order o_t_best o_t_wins o_t_later o_t_signs o_t_kept o_t_isKept t_places t_deep t_served t_wordMany t_sights t_padMany t_done t_drawn t_leaked t_drunk t_times t_foundNumber t_keptAt t_isWriting t_holds) sz)) (Qo dd g (some (.int z.1)) (fun u : Unit => (w_X12_deep g q_t q_t_holds o_t_pailAt o_t_leaks o_t_wants o_t_words o_t_sightBehind o_t_sightDoor o_t_sightIs o_t_pad o_t_at o_t_moved o_t_has o_t_order o_t_best o_t_wins o_t_later o_t_signs o_t_kept o_t_isKept t_places z.2 t_served t_wordMany t_sights t_padMany t_done t_drawn t_leaked t_drunk t_times t_foundNumber t_keptAt t_isWriting t_holds)) (va_A (w_X12_deep g q_t q_t_holds o_t_pailAt o_t_leaks o_t_wants o_t_words o_t_sightBehind o_t_sightDoor o_t_sightIs o_t_pad o_t_at o_t_moved o_t_has o_t_order o_t_best o_t_wins o_t_later o_t_signs o_t_kept o_t_isKept t_places t_deep t_served t_wordMany t_sights t_padMany t_done t_drawn t_leaked t_drunk t_times t_foundNumber t_keptAt t_isWriting t_holds) sz)) 0 0 (va_A (w_X12_deep g q_t q_t_holds o_t_pailAt o_t_leaks o_t_wants o_t_words o_t_sightBehind o_t_sightDoor o_t_sightIs o_t_pad o_t_at o_t_moved o_t_has o_t_order o_t_best o_t_wins o_t_later o_t_signs o_t_kept o_t_isKept t_places t_deep t_served t_wordMany t_sights t_padMany t_done t_drawn t_leaked t_drunk t_times t_foundNumber t_keptAt t_isWriting t_holds) sz) := by
  refine Met_intro (by decide) (Nat.le_of_ble_eq_true rfl) ?_
  intro p e s m below meth c A ls F hret hlk hin hw hl
  replace hl : lv_has ls 3 [(0, .ref q_t), (1, .int a1)] := hl
  refine lv_iload_n F.1 F.2.1 dX12_deep_0 rfl (lv_at hl 1 rfl) ?_
  refine lv_i2l F.1 F.2.1 dX12_deep_1 rfl ?_
  refine lv_lconst (v := 1) F.1 F.2.1 dX12_deep_2 (by decide) ?_
  refine lv_ldc2 F.1 F.2.1 F.2.2.2.1 (F.2.2.2.2 _ cl_X12_92) dX12_deep_3 ?_
  obtain ⟨z4, hz4, hr⟩ := Option.bind_eq_some_iff.mp hr
  refine call_o (wr := [(q_t, .inr (12, [.int t_places, .int t_deep, o_t_pailAt, .ref q_t_holds, o_t_leaks, o_t_wants, .int t_served, o_t_words, .int t_wordMany, o_t_sightBehind, o_t_sightDoor, o_t_sightIs, .int t_sights, o_t_pad, .int t_padMany, o_t_at, o_t_moved, o_t_has, .int t_done, .int t_drawn, .int t_leaked, .int t_drunk, .int t_times, .int t_foundNumber, o_t_order, o_t_best, o_t_wins, o_t_later, o_t_signs, o_t_kept, o_t_isKept, .int t_keptAt, .int t_isWriting])), (q_t_holds, .inl (g 0, 9, .inl t_holds))]) (run_S (As := [.long a1.toInt64, .long (1 : Int64), .long (9 : Int64)]) (rest := []) F k_X12_86 (c_X12_in l dd g mv a1.toInt64 ((1 : Int64)) ((9 : Int64)) z4 hz4 _) hw [] (by decide) rfl rfl hl.1 rfl (Nat.le_of_ble_eq_true rfl) dX12_deep_6 ⟨Nat.le_of_ble_eq_true rfl, Nat.le_of_ble_eq_true rfl⟩ ⟨Nat.le_of_ble_eq_true rfl, Nat.le_of_ble_eq_true rfl⟩) hw [] [0, 1] rfl rfl (by decide) (by decide) (fun u5 H locs hw => ?_)
  replace hw : Wd dd g mv A s H locs (w_X12_deep g q_t q_t_holds o_t_pailAt o_t_leaks o_t_wants o_t_words o_t_sightBehind o_t_sightDoor o_t_sightIs o_t_pad o_t_at o_t_moved o_t_has o_t_order o_t_best o_t_wins o_t_later o_t_signs o_t_kept o_t_isKept t_places t_deep t_served t_wordMany t_sights t_padMany t_done t_drawn t_leaked t_drunk t_times t_foundNumber t_keptAt t_isWriting t_holds) := hw.sub [0, 1] (by decide) rfl
  refine W.eq (g2 := F0 m 9 ls (.int z4 :: [])) rfl ?_
  refine lv_if_ne (tgt := 15) F.1 F.2.1 dX12_deep_9 (by decide) (fun hc6 => ?_) (fun hc6 => ?_)
  · replace hr := (if_neg hc6).symm.trans hr
    refine lv_iconst (v := 0) F.1 F.2.1 dX12_deep_15 (by decide) ?_
    refine lv_istore_n (lv' := [(2, .int (0 : Int32)), (0, .ref q_t), (1, .int a1)]) F.1 F.2.1 dX12_deep_16 rfl hl (by decide) rfl (fun ls hl => ?_)
    exact b_X12_deep_17 F hret hlk  fuel hr hw (lv_sub hl [1, 2, 0] rfl)
  · replace hr := (if_pos hc6).symm.trans hr
    refine lv_bipush (v := -2) F.1 F.2.1 dX12_deep_12 (by decide) ?_
    cases hr
    exact ret_i () F hret hlk hw (Nat.le_refl _) (Nat.le_refl _) dX12_deep_14
set_option maxHeartbeats 4000000 in
set_option maxRecDepth 100000 in
theorem c_X12_say (l : Launch) (dd : va_G) (g : Nat → ClassId) (mv : Nat) (q_t : Nat) (q_t_pad : Nat) (o_t_pailAt : Value) (o_t_holds : Value) (o_t_leaks : Value) (o_t_wants : Value) (o_t_words : Value) (o_t_sightBehind : Value) (o_t_sightDoor : Value) (o_t_sightIs : Value) (o_t_at : Value) (o_t_moved : Value) (o_t_has : Value) (o_t_order : Value) (o_t_best : Value) (o_t_wins : Value) (o_t_later : Value) (o_t_signs : Value) (o_t_kept : Value) (o_t_isKept : Value) (t_places : Int32) (t_deep : Int32) (t_served : Int32) (t_wordMany : Int32) (t_sights : Int32) (t_padMany : Int32) (t_done : Int32) (t_drawn : Int32) (t_leaked : Int32) (t_drunk : Int32) (t_times : Int32) (t_foundNumber : Int32) (t_keptAt : Int32) (t_isWriting : Int32) (t_pad : Nat → Int32) (a1 : Int32) (z : Int32 × Int32 × (Nat → Int32)) (hr : f_X12_say t_padMany t_pad a1 = some z) (sz : Nat) : Met l yX12_say (.code yX12_say cX12_say 2 (some .int) :: WS) (rmH 1 0 0) (va_Pc [.ref q_t, .int a1] (PW dd g mv (w_X12_say g q_t q_t_pad o_t_pailAt o_t_holds o_t_leaks o_t_wants o_t_words o_t_sightBehind o_t_sightDoor o_t_sightIs o_t_at o_t_moved o_t_has o_t_order o_t_best o_t_wins o_t_later o_t_signs o_t_kept o_t_isKept t_places t_deep t_served t_wordMany t_sights t_padMany t_done t_drawn t_leaked t_drunk t_times t_foundNumber t_keptAt t_isWriting t_pad) sz)) (Qo dd g (some (.int z.1)) (fun u : Unit => (w_X12_say g q_t q_t_pad o_t_pailAt o_t_holds o_t_leaks o_t_wants o_t_words o_t_sightBehind o_t_sightDoor o_t_sightIs o_t_at o_t_moved o_t_has o_t_order o_t_best o_t_wins o_t_later o_t_signs o_t_kept o_t_isKept t_places t_deep t_served t_wordMany t_sights z.2.1 t_done t_drawn t_leaked t_drunk t_times t_foundNumber t_keptAt t_isWriting z.2.2)) (va_A (w_X12_say g q_t q_t_pad o_t_pailAt o_t_holds o_t_leaks o_t_wants o_t_words o_t_sightBehind o_t_sightDoor o_t_sightIs o_t_at o_t_moved o_t_has o_t_order o_t_best o_t_wins o_t_later o_t_signs o_t_kept o_t_isKept t_places t_deep t_served t_wordMany t_sights t_padMany t_done t_drawn t_leaked t_drunk t_times t_foundNumber t_keptAt t_isWriting t_pad) sz)) 0 0 (va_A (w_X12_say g q_t q_t_pad o_t_pailAt o_t_holds o_t_leaks o_t_wants o_t_words o_t_sightBehind o_t_sightDoor o_t_sightIs o_t_at o_t_moved o_t_has o_t_order o_t_best o_t_wins o_t_later o_t_signs o_t_kept o_t_isKept t_places t_deep t_served t_wordMany t_sights t_padMany t_done t_drawn t_leaked t_drunk t_times t_foundNumber t_keptAt t_isWriting t_pad) sz) := by
  refine Met_intro (by decide) (Nat.le_of_ble_eq_true rfl) ?_
  intro p e s m below meth c A ls F hret hlk hin hw hl
  replace hl : lv_has ls 2 [(0, .ref q_t), (1, .int a1)] := hl
  refine lv_iload_n F.1 F.2.1 dX12_say_0 rfl (lv_at hl 1 rfl) ?_
  refine lv_i2l F.1 F.2.1 dX12_say_1 rfl ?_
  refine lv_ldc2 F.1 F.2.1 F.2.2.2.1 (F.2.2.2.2 _ cl_X12_98) dX12_say_2 ?_
  refine lv_ldc2 F.1 F.2.1 F.2.2.2.1 (F.2.2.2.2 _ cl_X12_100) dX12_say_5 ?_
  obtain ⟨z1, hz1, hr⟩ := Option.bind_eq_some_iff.mp hr
  refine call_o (wr := [(q_t, .inr (12, [.int t_places, .int t_deep, o_t_pailAt, o_t_holds, o_t_leaks, o_t_wants, .int t_served, o_t_words, .int t_wordMany, o_t_sightBehind, o_t_sightDoor, o_t_sightIs, .int t_sights, .ref q_t_pad, .int t_padMany, o_t_at, o_t_moved, o_t_has, .int t_done, .int t_drawn, .int t_leaked, .int t_drunk, .int t_times, .int t_foundNumber, o_t_order, o_t_best, o_t_wins, o_t_later, o_t_signs, o_t_kept, o_t_isKept, .int t_keptAt, .int t_isWriting])), (q_t_pad, .inl (g 0, 40, .inl t_pad))]) (run_S (As := [.long a1.toInt64, .long (33 : Int64), .long (126 : Int64)]) (rest := []) F k_X12_86 (c_X12_in l dd g mv a1.toInt64 ((33 : Int64)) ((126 : Int64)) z1 hz1 _) hw [] (by decide) rfl rfl hl.1 rfl (Nat.le_of_ble_eq_true rfl) dX12_say_8 ⟨Nat.le_of_ble_eq_true rfl, Nat.le_of_ble_eq_true rfl⟩ ⟨Nat.le_of_ble_eq_true rfl, Nat.le_of_ble_eq_true rfl⟩) hw [] [0, 1] rfl rfl (by decide) (by decide) (fun u2 H locs hw => ?_)
  replace hw : Wd dd g mv A s H locs (w_X12_say g q_t q_t_pad o_t_pailAt o_t_holds o_t_leaks o_t_wants o_t_words o_t_sightBehind o_t_sightDoor o_t_sightIs o_t_at o_t_moved o_t_has o_t_order o_t_best o_t_wins o_t_later o_t_signs o_t_kept o_t_isKept t_places t_deep t_served t_wordMany t_sights t_padMany t_done t_drawn t_leaked t_drunk t_times t_foundNumber t_keptAt t_isWriting t_pad) := hw.sub [0, 1] (by decide) rfl
  refine W.eq (g2 := F0 m 11 ls (.int z1 :: [])) rfl ?_
  refine lv_if_ne (tgt := 17) F.1 F.2.1 dX12_say_11 (by decide) (fun hc3 => ?_) (fun hc3 => ?_)
  · replace hr := (if_neg hc3).symm.trans hr
    refine lv_aload_n F.1 F.2.1 dX12_say_17 rfl (lv_at hl 0 rfl) ?_
    refine gf_X12_102 F hw 0 rfl rfl dX12_say_18 ?_
    refine lv_bipush (v := 40) F.1 F.2.1 dX12_say_21 (by decide) ?_
    refine lv_icmp_ne (tgt := 29) F.1 F.2.1 dX12_say_23 (by decide) (fun hc4 => ?_) (fun hc4 => ?_)
    · replace hr := (if_neg hc4).symm.trans hr
      refine lv_aload_n F.1 F.2.1 dX12_say_29 rfl (lv_at hl 0 rfl) ?_
      refine gf_X12_34 F hw 0 rfl rfl dX12_say_30 ?_
      refine lv_aload_n F.1 F.2.1 dX12_say_33 rfl (lv_at hl 0 rfl) ?_
      refine gf_X12_102 F hw 0 rfl rfl dX12_say_34 ?_
      refine lv_iload_n F.1 F.2.1 dX12_say_37 rfl (lv_at hl 1 rfl) ?_
      obtain ⟨hg5, hr⟩ := g_no hr
      refine aw_i F hw 1 rfl hg5 dX12_say_38 (fun H locs hw => ?_)
      replace hw : Wd dd g mv A s H locs (w_X12_say g q_t q_t_pad o_t_pailAt o_t_holds o_t_leaks o_t_wants o_t_words o_t_sightBehind o_t_sightDoor o_t_sightIs o_t_at o_t_moved o_t_has o_t_order o_t_best o_t_wins o_t_later o_t_signs o_t_kept o_t_isKept t_places t_deep t_served t_wordMany t_sights t_padMany t_done t_drawn t_leaked t_drunk t_times t_foundNumber t_keptAt t_isWriting ((upd t_pad (t_padMany).toNatClampNeg a1))) := hw
      refine lv_aload_n F.1 F.2.1 dX12_say_39 rfl (lv_at hl 0 rfl) ?_
      refine lv_dup F.1 F.2.1 dX12_say_40 rfl ?_
      refine gf_X12_102 F hw 0 rfl rfl dX12_say_41 ?_
      refine lv_iconst (v := 1) F.1 F.2.1 dX12_say_44 (by decide) ?_
      refine lv_iadd F.1 F.2.1 dX12_say_45 ?_
      refine pf_X12_102 F hw 0 rfl (Nat.le_of_ble_eq_true rfl) dX12_say_46 (fun H locs hw => ?_)
      replace hw : Wd dd g mv A s H locs (w_X12_say g q_t q_t_pad o_t_pailAt o_t_holds o_t_leaks o_t_wants o_t_words o_t_sightBehind o_t_sightDoor o_t_sightIs o_t_at o_t_moved o_t_has o_t_order o_t_best o_t_wins o_t_later o_t_signs o_t_kept o_t_isKept t_places t_deep t_served t_wordMany t_sights ((t_padMany + (1 : Int32))) t_done t_drawn t_leaked t_drunk t_times t_foundNumber t_keptAt t_isWriting ((upd t_pad (t_padMany).toNatClampNeg a1))) := hw
      refine lv_aload_n F.1 F.2.1 dX12_say_49 rfl (lv_at hl 0 rfl) ?_
      refine gf_X12_102 F hw 0 rfl rfl dX12_say_50 ?_
      cases hr
      exact ret_i () F hret hlk hw (Nat.le_refl _) (Nat.le_refl _) dX12_say_53
    · replace hr := (if_pos hc4).symm.trans hr
      refine lv_bipush (v := -4) F.1 F.2.1 dX12_say_26 (by decide) ?_
      cases hr
      exact ret_i () F hret hlk hw (Nat.le_refl _) (Nat.le_refl _) dX12_say_28
  · replace hr := (if_pos hc3).symm.trans hr
    refine lv_bipush (v := -2) F.1 F.2.1 dX12_say_14 (by decide) ?_
    cases hr
    exact ret_i () F hret hlk hw (Nat.le_refl _) (Nat.le_refl _) dX12_say_16
set_option maxHeartbeats 4000000 in
set_option maxRecDepth 100000 in
theorem c_X12_wipe (l : Launch) (dd : va_G) (g : Nat → ClassId) (mv : Nat) (q_t : Nat) (o_t_pailAt : Value) (o_t_holds : Value) (o_t_leaks : Value) (o_t_wants : Value) (o_t_words : Value) (o_t_sightBehind : Value) (o_t_sightDoor : Value) (o_t_sightIs : Value) (o_t_pad : Value) (o_t_at : Value) (o_t_moved : Value) (o_t_has : Value) (o_t_order : Value) (o_t_best : Value) (o_t_wins : Value) (o_t_later : Value) (o_t_signs : Value) (o_t_kept : Value) (o_t_isKept : Value) (t_places : Int32) (t_deep : Int32) (t_served : Int32) (t_wordMany : Int32) (t_sights : Int32) (t_padMany : Int32) (t_done : Int32) (t_drawn : Int32) (t_leaked : Int32) (t_drunk : Int32) (t_times : Int32) (t_foundNumber : Int32) (t_keptAt : Int32) (t_isWriting : Int32) (z : Int32 × Int32) (hr : f_X12_wipe t_padMany = some z) (sz : Nat) : Met l yX12_wipe (.code yX12_wipe cX12_wipe 2 (some .int) :: WS) (rmH 0 0 0) (va_Pc [.ref q_t] (PW dd g mv (w_X12_wipe g q_t o_t_pailAt o_t_holds o_t_leaks o_t_wants o_t_words o_t_sightBehind o_t_sightDoor o_t_sightIs o_t_pad o_t_at o_t_moved o_t_has o_t_order o_t_best o_t_wins o_t_later o_t_signs o_t_kept o_t_isKept t_places t_deep t_served t_wordMany t_sights t_padMany t_done t_drawn t_leaked t_drunk t_times t_foundNumber t_keptAt t_isWriting) sz)) (Qo dd g (some (.int z.1)) (fun u : Unit => (w_X12_wipe g q_t o_t_pailAt o_t_holds o_t_leaks o_t_wants o_t_words o_t_sightBehind o_t_sightDoor o_t_sightIs o_t_pad o_t_at o_t_moved o_t_has o_t_order o_t_best o_t_wins o_t_later o_t_signs o_t_kept o_t_isKept t_places t_deep t_served t_wordMany t_sights z.2 t_done t_drawn t_leaked t_drunk t_times t_foundNumber t_keptAt t_isWriting)) (va_A (w_X12_wipe g q_t o_t_pailAt o_t_holds o_t_leaks o_t_wants o_t_words o_t_sightBehind o_t_sightDoor o_t_sightIs o_t_pad o_t_at o_t_moved o_t_has o_t_order o_t_best o_t_wins o_t_later o_t_signs o_t_kept o_t_isKept t_places t_deep t_served t_wordMany t_sights t_padMany t_done t_drawn t_leaked t_drunk t_times t_foundNumber t_keptAt t_isWriting) sz)) 0 0 (va_A (w_X12_wipe g q_t o_t_pailAt o_t_holds o_t_leaks o_t_wants o_t_words o_t_sightBehind o_t_sightDoor o_t_sightIs o_t_pad o_t_at o_t_moved o_t_has o_t_order o_t_best o_t_wins o_t_later o_t_signs o_t_kept o_t_isKept t_places t_deep t_served t_wordMany t_sights t_padMany t_done t_drawn t_leaked t_drunk t_times t_foundNumber t_keptAt t_isWriting) sz) := by
  refine Met_intro (by decide) (Nat.le_of_ble_eq_true rfl) ?_
  intro p e s m below meth c A ls F hret hlk hin hw hl
  replace hl : lv_has ls 2 [(0, .ref q_t)] := hl
  refine lv_aload_n F.1 F.2.1 dX12_wipe_0 rfl (lv_at hl 0 rfl) ?_
  refine gf_X12_102 F hw 0 rfl rfl dX12_wipe_1 ?_
  refine lv_istore_n (lv' := [(1, .int t_padMany), (0, .ref q_t)]) F.1 F.2.1 dX12_wipe_4 rfl hl (by decide) rfl (fun ls hl => ?_)
  refine lv_aload_n F.1 F.2.1 dX12_wipe_5 rfl (lv_at hl 1 rfl) ?_
  refine lv_iconst (v := 0) F.1 F.2.1 dX12_wipe_6 (by decide) ?_
  refine pf_X12_102 F hw 0 rfl (Nat.le_of_ble_eq_true rfl) dX12_wipe_7 (fun H locs hw => ?_)
  replace hw : Wd dd g mv A s H locs (w_X12_wipe g q_t o_t_pailAt o_t_holds o_t_leaks o_t_wants o_t_words o_t_sightBehind o_t_sightDoor o_t_sightIs o_t_pad o_t_at o_t_moved o_t_has o_t_order o_t_best o_t_wins o_t_later o_t_signs o_t_kept o_t_isKept t_places t_deep t_served t_wordMany t_sights ((0 : Int32)) t_done t_drawn t_leaked t_drunk t_times t_foundNumber t_keptAt t_isWriting) := hw
  refine lv_iload_n F.1 F.2.1 dX12_wipe_10 rfl (lv_at hl 0 rfl) ?_
  cases hr
  exact ret_i () F hret hlk hw (Nat.le_refl _) (Nat.le_refl _) dX12_wipe_11
set_option maxHeartbeats 4000000 in
set_option maxRecDepth 100000 in
theorem b_X12_fault_45 {q_t q_t_pad : Nat} {z : Int32} (F : Fx p m c cX12_fault 2 s args RX12) (hret : meth.sig.returnType = some .int) (hlk : meth.locks = false) {k2 : Int32 → Int32 → (Nat → Int32) → Option (Int32)} (hk2 : ∀ {x1 : Int32} {t_padMany : Int32} {t_pad : Nat → Int32} {t_places : Int32} {t_deep : Int32} {t_served : Int32} {t_wordMany : Int32} {t_sights : Int32} {t_done : Int32} {t_drawn : Int32} {t_leaked : Int32} {t_drunk : Int32} {t_times : Int32} {t_foundNumber : Int32} {t_keptAt : Int32} {t_isWriting : Int32} {o_t_pailAt : Value} {o_t_holds : Value} {o_t_leaks : Value} {o_t_wants : Value} {o_t_words : Value} {o_t_sightBehind : Value} {o_t_sightDoor : Value} {o_t_sightIs : Value} {o_t_at : Value} {o_t_moved : Value} {o_t_has : Value} {o_t_order : Value} {o_t_best : Value} {o_t_wins : Value} {o_t_later : Value} {o_t_signs : Value} {o_t_kept : Value} {o_t_isKept : Value} {H : Heap} {locs : List Loc} {ls : Array Slot}, k2 x1 t_padMany t_pad = some z → Wd dd g mv A s H locs (w_X12_fault g q_t q_t_pad o_t_pailAt o_t_holds o_t_leaks o_t_wants o_t_words o_t_sightBehind o_t_sightDoor o_t_sightIs o_t_at o_t_moved o_t_has o_t_order o_t_best o_t_wins o_t_later o_t_signs o_t_kept o_t_isKept t_places t_deep t_served t_wordMany t_sights t_padMany t_done t_drawn t_leaked t_drunk t_times t_foundNumber t_keptAt t_isWriting t_pad) → lv_has ls 2 [(0, .ref q_t), (1, .int x1)] → W p l e (rmH (0) 0 0) s m args below meth c H locs 0 0 (MQ below (Qo dd g (some (.int z)) (fun u : Unit => (w_X12_fault g q_t q_t_pad o_t_pailAt o_t_holds o_t_leaks o_t_wants o_t_words o_t_sightBehind o_t_sightDoor o_t_sightIs o_t_at o_t_moved o_t_has o_t_order o_t_best o_t_wins o_t_later o_t_signs o_t_kept o_t_isKept t_places t_deep t_served t_wordMany t_sights t_padMany t_done t_drawn t_leaked t_drunk t_times t_foundNumber t_keptAt t_isWriting t_pad)) A) args s 0 0 A) (F0 m 2 ls [])) : ∀ {x1 : Int32} {t_padMany : Int32} {t_pad : Nat → Int32} {t_places : Int32} {t_deep : Int32} {t_served : Int32} {t_wordMany : Int32} {t_sights : Int32} {t_done : Int32} {t_drawn : Int32} {t_leaked : Int32} {t_drunk : Int32} {t_times : Int32} {t_foundNumber : Int32} {t_keptAt : Int32} {t_isWriting : Int32} {o_t_pailAt : Value} {o_t_holds : Value} {o_t_leaks : Value} {o_t_wants : Value} {o_t_words : Value} {o_t_sightBehind : Value} {o_t_sightDoor : Value} {o_t_sightIs : Value} {o_t_at : Value} {o_t_moved : Value} {o_t_has : Value} {o_t_order : Value} {o_t_best : Value} {o_t_wins : Value} {o_t_later : Value} {o_t_signs : Value} {o_t_kept : Value} {o_t_isKept : Value} {H : Heap} {locs : List Loc} {ls : Array Slot}, f_X12_fault_45 k2 x1 t_padMany t_pad = some z → Wd dd g mv A s H locs (w_X12_fault g q_t q_t_pad o_t_pailAt o_t_holds o_t_leaks o_t_wants o_t_words o_t_sightBehind o_t_sightDoor o_t_sightIs o_t_at o_t_moved o_t_has o_t_order o_t_best o_t_wins o_t_later o_t_signs o_t_kept o_t_isKept t_places t_deep t_served t_wordMany t_sights t_padMany t_done t_drawn t_leaked t_drunk t_times t_foundNumber t_keptAt t_isWriting t_pad) → lv_has ls 2 [(0, .ref q_t), (1, .int x1)] → W p l e (rmH (0) 0 0) s m args below meth c H locs 0 0 (MQ below (Qo dd g (some (.int z)) (fun u : Unit => (w_X12_fault g q_t q_t_pad o_t_pailAt o_t_holds o_t_leaks o_t_wants o_t_words o_t_sightBehind o_t_sightDoor o_t_sightIs o_t_at o_t_moved o_t_has o_t_order o_t_best o_t_wins o_t_later o_t_signs o_t_kept o_t_isKept t_places t_deep t_served t_wordMany t_sights t_padMany t_done t_drawn t_leaked t_drunk t_times t_foundNumber t_keptAt t_isWriting t_pad)) A) args s 0 0 A) (F0 m 45 ls []) := by
  intro x1 t_padMany t_pad t_places t_deep t_served t_wordMany t_sights t_done t_drawn t_leaked t_drunk t_times t_foundNumber t_keptAt t_isWriting o_t_pailAt o_t_holds o_t_leaks o_t_wants o_t_words o_t_sightBehind o_t_sightDoor o_t_sightIs o_t_at o_t_moved o_t_has o_t_order o_t_best o_t_wins o_t_later o_t_signs o_t_kept o_t_isKept H locs ls hr hw hl
  refine lv_iinc (v := (x1 + 1)) (lv' := [(1, .int (x1 + 1)), (0, .ref q_t)]) F.1 F.2.1 dX12_fault_45 hl (k := 1) rfl rfl (by decide) rfl (fun ls hl => ?_)
  refine lv_goto (tgt := 2) F.1 F.2.1 dX12_fault_48 (by decide) ?_
  exact hk2 hr hw (lv_sub hl [1, 0] rfl)
set_option maxHeartbeats 4000000 in
set_option maxRecDepth 100000 in
theorem b_X12_fault_2 {q_t q_t_pad : Nat} {z : Int32} (F : Fx p m c cX12_fault 2 s args RX12) (hret : meth.sig.returnType = some .int) (hlk : meth.locks = false) : ∀ (n : Nat), ∀ {x1 : Int32} {t_padMany : Int32} {t_pad : Nat → Int32} {t_places : Int32} {t_deep : Int32} {t_served : Int32} {t_wordMany : Int32} {t_sights : Int32} {t_done : Int32} {t_drawn : Int32} {t_leaked : Int32} {t_drunk : Int32} {t_times : Int32} {t_foundNumber : Int32} {t_keptAt : Int32} {t_isWriting : Int32} {o_t_pailAt : Value} {o_t_holds : Value} {o_t_leaks : Value} {o_t_wants : Value} {o_t_words : Value} {o_t_sightBehind : Value} {o_t_sightDoor : Value} {o_t_sightIs : Value} {o_t_at : Value} {o_t_moved : Value} {o_t_has : Value} {o_t_order : Value} {o_t_best : Value} {o_t_wins : Value} {o_t_later : Value} {o_t_signs : Value} {o_t_kept : Value} {o_t_isKept : Value} {H : Heap} {locs : List Loc} {ls : Array Slot}, f_X12_fault_2  n x1 t_padMany t_pad = some z → Wd dd g mv A s H locs (w_X12_fault g q_t q_t_pad o_t_pailAt o_t_holds o_t_leaks o_t_wants o_t_words o_t_sightBehind o_t_sightDoor o_t_sightIs o_t_at o_t_moved o_t_has o_t_order o_t_best o_t_wins o_t_later o_t_signs o_t_kept o_t_isKept t_places t_deep t_served t_wordMany t_sights t_padMany t_done t_drawn t_leaked t_drunk t_times t_foundNumber t_keptAt t_isWriting t_pad) → lv_has ls 2 [(0, .ref q_t), (1, .int x1)] → W p l e (rmH (0) 0 0) s m args below meth c H locs 0 0 (MQ below (Qo dd g (some (.int z)) (fun u : Unit => (w_X12_fault g q_t q_t_pad o_t_pailAt o_t_holds o_t_leaks o_t_wants o_t_words o_t_sightBehind o_t_sightDoor o_t_sightIs o_t_at o_t_moved o_t_has o_t_order o_t_best o_t_wins o_t_later o_t_signs o_t_kept o_t_isKept t_places t_deep t_served t_wordMany t_sights t_padMany t_done t_drawn t_leaked t_drunk t_times t_foundNumber t_keptAt t_isWriting t_pad)) A) args s 0 0 A) (F0 m 2 ls []) := by
  intro n
  induction n with
  | zero =>
    intros
    rename_i hr _ _
    cases hr
  | succ n ih =>
    intro x1 t_padMany t_pad t_places t_deep t_served t_wordMany t_sights t_done t_drawn t_leaked t_drunk t_times t_foundNumber t_keptAt t_isWriting o_t_pailAt o_t_holds o_t_leaks o_t_wants o_t_words o_t_sightBehind o_t_sightDoor o_t_sightIs o_t_at o_t_moved o_t_has o_t_order o_t_best o_t_wins o_t_later o_t_signs o_t_kept o_t_isKept H locs ls hr hw hl
    refine lv_iload_n F.1 F.2.1 dX12_fault_2 rfl (lv_at hl 1 rfl) ?_
    refine lv_aload_n F.1 F.2.1 dX12_fault_3 rfl (lv_at hl 0 rfl) ?_
    refine gf_X12_102 F hw 0 rfl rfl dX12_fault_4 ?_
    refine lv_icmp_ge (tgt := 51) F.1 F.2.1 dX12_fault_7 (by decide) (fun hc1 => ?_) (fun hc1 => ?_)
    · replace hr := (if_pos hc1).symm.trans hr
      refine lv_bipush (v := -6) F.1 F.2.1 dX12_fault_51 (by decide) ?_
      cases hr
      exact ret_i () F hret hlk hw (Nat.le_refl _) (Nat.le_refl _) dX12_fault_53
    · replace hr := (if_neg hc1).symm.trans hr
      refine lv_aload_n F.1 F.2.1 dX12_fault_10 rfl (lv_at hl 0 rfl) ?_
      refine gf_X12_34 F hw 0 rfl rfl dX12_fault_11 ?_
      refine lv_iload_n F.1 F.2.1 dX12_fault_14 rfl (lv_at hl 1 rfl) ?_
      obtain ⟨hg2, hr⟩ := g_no hr
      refine ar_i F hw 1 rfl hg2 dX12_fault_15 ?_
      refine lv_bipush (v := 43) F.1 F.2.1 dX12_fault_16 (by decide) ?_
      refine lv_icmp_eq (tgt := 45) F.1 F.2.1 dX12_fault_18 (by decide) (fun hc3 => ?_) (fun hc3 => ?_)
      · replace hr := (if_pos hc3).symm.trans hr
        exact b_X12_fault_45 F hret hlk (ih) hr hw (lv_sub hl [0, 1] rfl)
      · replace hr := (if_neg hc3).symm.trans hr
        refine lv_aload_n F.1 F.2.1 dX12_fault_21 rfl (lv_at hl 0 rfl) ?_
        refine gf_X12_34 F hw 0 rfl rfl dX12_fault_22 ?_
        refine lv_iload_n F.1 F.2.1 dX12_fault_25 rfl (lv_at hl 1 rfl) ?_
        obtain ⟨hg4, hr⟩ := g_no hr
        refine ar_i F hw 1 rfl hg4 dX12_fault_26 ?_
        refine lv_bipush (v := 45) F.1 F.2.1 dX12_fault_27 (by decide) ?_
        refine lv_icmp_eq (tgt := 45) F.1 F.2.1 dX12_fault_29 (by decide) (fun hc5 => ?_) (fun hc5 => ?_)
        · replace hr := (if_pos hc5).symm.trans hr
          exact b_X12_fault_45 F hret hlk (ih) hr hw (lv_sub hl [0, 1] rfl)
        · replace hr := (if_neg hc5).symm.trans hr
          refine lv_aload_n F.1 F.2.1 dX12_fault_32 rfl (lv_at hl 0 rfl) ?_
          refine gf_X12_34 F hw 0 rfl rfl dX12_fault_33 ?_
          refine lv_iload_n F.1 F.2.1 dX12_fault_36 rfl (lv_at hl 1 rfl) ?_
          obtain ⟨hg6, hr⟩ := g_no hr
          refine ar_i F hw 1 rfl hg6 dX12_fault_37 ?_
          refine lv_bipush (v := 46) F.1 F.2.1 dX12_fault_38 (by decide) ?_
          refine lv_icmp_eq (tgt := 45) F.1 F.2.1 dX12_fault_40 (by decide) (fun hc7 => ?_) (fun hc7 => ?_)
          · replace hr := (if_pos hc7).symm.trans hr
            exact b_X12_fault_45 F hret hlk (ih) hr hw (lv_sub hl [0, 1] rfl)
          · replace hr := (if_neg hc7).symm.trans hr
            refine lv_iload_n F.1 F.2.1 dX12_fault_43 rfl (lv_at hl 1 rfl) ?_
            cases hr
            exact ret_i () F hret hlk hw (Nat.le_refl _) (Nat.le_refl _) dX12_fault_44
set_option maxHeartbeats 4000000 in
set_option maxRecDepth 100000 in
theorem c_X12_fault (l : Launch) (dd : va_G) (g : Nat → ClassId) (mv : Nat) (q_t : Nat) (q_t_pad : Nat) (o_t_pailAt : Value) (o_t_holds : Value) (o_t_leaks : Value) (o_t_wants : Value) (o_t_words : Value) (o_t_sightBehind : Value) (o_t_sightDoor : Value) (o_t_sightIs : Value) (o_t_at : Value) (o_t_moved : Value) (o_t_has : Value) (o_t_order : Value) (o_t_best : Value) (o_t_wins : Value) (o_t_later : Value) (o_t_signs : Value) (o_t_kept : Value) (o_t_isKept : Value) (t_places : Int32) (t_deep : Int32) (t_served : Int32) (t_wordMany : Int32) (t_sights : Int32) (t_padMany : Int32) (t_done : Int32) (t_drawn : Int32) (t_leaked : Int32) (t_drunk : Int32) (t_times : Int32) (t_foundNumber : Int32) (t_keptAt : Int32) (t_isWriting : Int32) (t_pad : Nat → Int32) (z : Int32) (hr : f_X12_fault t_padMany t_pad = some z) (sz : Nat) : Met l yX12_fault (.code yX12_fault cX12_fault 2 (some .int) :: WS) (rmH 0 0 0) (va_Pc [.ref q_t] (PW dd g mv (w_X12_fault g q_t q_t_pad o_t_pailAt o_t_holds o_t_leaks o_t_wants o_t_words o_t_sightBehind o_t_sightDoor o_t_sightIs o_t_at o_t_moved o_t_has o_t_order o_t_best o_t_wins o_t_later o_t_signs o_t_kept o_t_isKept t_places t_deep t_served t_wordMany t_sights t_padMany t_done t_drawn t_leaked t_drunk t_times t_foundNumber t_keptAt t_isWriting t_pad) sz)) (Qo dd g (some (.int z)) (fun u : Unit => (w_X12_fault g q_t q_t_pad o_t_pailAt o_t_holds o_t_leaks o_t_wants o_t_words o_t_sightBehind o_t_sightDoor o_t_sightIs o_t_at o_t_moved o_t_has o_t_order o_t_best o_t_wins o_t_later o_t_signs o_t_kept o_t_isKept t_places t_deep t_served t_wordMany t_sights t_padMany t_done t_drawn t_leaked t_drunk t_times t_foundNumber t_keptAt t_isWriting t_pad)) (va_A (w_X12_fault g q_t q_t_pad o_t_pailAt o_t_holds o_t_leaks o_t_wants o_t_words o_t_sightBehind o_t_sightDoor o_t_sightIs o_t_at o_t_moved o_t_has o_t_order o_t_best o_t_wins o_t_later o_t_signs o_t_kept o_t_isKept t_places t_deep t_served t_wordMany t_sights t_padMany t_done t_drawn t_leaked t_drunk t_times t_foundNumber t_keptAt t_isWriting t_pad) sz)) 0 0 (va_A (w_X12_fault g q_t q_t_pad o_t_pailAt o_t_holds o_t_leaks o_t_wants o_t_words o_t_sightBehind o_t_sightDoor o_t_sightIs o_t_at o_t_moved o_t_has o_t_order o_t_best o_t_wins o_t_later o_t_signs o_t_kept o_t_isKept t_places t_deep t_served t_wordMany t_sights t_padMany t_done t_drawn t_leaked t_drunk t_times t_foundNumber t_keptAt t_isWriting t_pad) sz) := by
  refine Met_intro (by decide) (Nat.le_of_ble_eq_true rfl) ?_
  intro p e s m below meth c A ls F hret hlk hin hw hl
  replace hl : lv_has ls 2 [(0, .ref q_t)] := hl
  refine lv_iconst (v := 0) F.1 F.2.1 dX12_fault_0 (by decide) ?_
  refine lv_istore_n (lv' := [(1, .int (0 : Int32)), (0, .ref q_t)]) F.1 F.2.1 dX12_fault_1 rfl hl (by decide) rfl (fun ls hl => ?_)
  exact b_X12_fault_2 F hret hlk  fuel hr hw (lv_sub hl [1, 0] rfl)
set_option maxHeartbeats 4000000 in
set_option maxRecDepth 100000 in
theorem b_X12_layNow_2 {q_t q_t_at q_t_pailAt q_t_has q_t_holds : Nat} {z : Int32 × Int32 × Int32 × Int32 × Int32 × (Nat → Int32) × (Nat → Int32)} (F : Fx p m c cX12_layNow 2 s args RX12) (hret : meth.sig.returnType = none) (hlk : meth.locks = false) : ∀ (n : Nat), ∀ {x1 : Int32} {t_places : Int32} {t_served : Int32} {t_at : Nat → Int32} {t_pailAt : Nat → Int32} {t_has : Nat → Int32} {t_holds : Nat → Int32} {t_deep : Int32} {t_wordMany : Int32} {t_sights : Int32} {t_padMany : Int32} {t_done : Int32} {t_drawn : Int32} {t_leaked : Int32} {t_drunk : Int32} {t_times : Int32} {t_foundNumber : Int32} {t_keptAt : Int32} {t_isWriting : Int32} {o_t_leaks : Value} {o_t_wants : Value} {o_t_words : Value} {o_t_sightBehind : Value} {o_t_sightDoor : Value} {o_t_sightIs : Value} {o_t_pad : Value} {o_t_moved : Value} {o_t_order : Value} {o_t_best : Value} {o_t_wins : Value} {o_t_later : Value} {o_t_signs : Value} {o_t_kept : Value} {o_t_isKept : Value} {H : Heap} {locs : List Loc} {ls : Array Slot}, f_X12_layNow_2  n x1 t_places t_served t_at t_pailAt t_has t_holds = some z → Wd dd g mv A s H locs (w_X12_layNow g q_t q_t_at q_t_pailAt q_t_has q_t_holds o_t_leaks o_t_wants o_t_words o_t_sightBehind o_t_sightDoor o_t_sightIs o_t_pad o_t_moved o_t_order o_t_best o_t_wins o_t_later o_t_signs o_t_kept o_t_isKept t_places t_deep t_served t_wordMany t_sights t_padMany t_done t_drawn t_leaked t_drunk t_times t_foundNumber t_keptAt t_isWriting t_at t_pailAt t_has t_holds) → lv_has ls 2 [(0, .ref q_t), (1, .int x1)] → W p l e (rmH (0) 0 0) s m args below meth c H locs 0 0 (MQ below (Qo dd g none (fun u : Unit => (w_X12_layNow g q_t q_t_at q_t_pailAt q_t_has q_t_holds o_t_leaks o_t_wants o_t_words o_t_sightBehind o_t_sightDoor o_t_sightIs o_t_pad o_t_moved o_t_order o_t_best o_t_wins o_t_later o_t_signs o_t_kept o_t_isKept t_places t_deep t_served t_wordMany t_sights t_padMany z.1 z.2.1 z.2.2.1 z.2.2.2.1 z.2.2.2.2.1 t_foundNumber t_keptAt t_isWriting z.2.2.2.2.2.1 t_pailAt z.2.2.2.2.2.2 t_holds)) A) args s 0 0 A) (F0 m 2 ls []) := by
  intro n
  induction n with
  | zero =>
    intros
    rename_i hr _ _
    cases hr
  | succ n ih =>
    intro x1 t_places t_served t_at t_pailAt t_has t_holds t_deep t_wordMany t_sights t_padMany t_done t_drawn t_leaked t_drunk t_times t_foundNumber t_keptAt t_isWriting o_t_leaks o_t_wants o_t_words o_t_sightBehind o_t_sightDoor o_t_sightIs o_t_pad o_t_moved o_t_order o_t_best o_t_wins o_t_later o_t_signs o_t_kept o_t_isKept H locs ls hr hw hl
    refine lv_iload_n F.1 F.2.1 dX12_layNow_2 rfl (lv_at hl 1 rfl) ?_
    refine lv_aload_n F.1 F.2.1 dX12_layNow_3 rfl (lv_at hl 0 rfl) ?_
    refine gf_X12_77 F hw 0 rfl rfl dX12_layNow_4 ?_
    refine lv_icmp_ge (tgt := 40) F.1 F.2.1 dX12_layNow_7 (by decide) (fun hc1 => ?_) (fun hc1 => ?_)
    · replace hr := (if_pos hc1).symm.trans hr
      refine lv_aload_n F.1 F.2.1 dX12_layNow_40 rfl (lv_at hl 0 rfl) ?_
      refine lv_aload_n F.1 F.2.1 dX12_layNow_41 rfl (lv_at hl 0 rfl) ?_
      refine gf_X12_80 F hw 0 rfl rfl dX12_layNow_42 ?_
      refine pf_X12_105 F hw 0 rfl (Nat.le_of_ble_eq_true rfl) dX12_layNow_45 (fun H locs hw => ?_)
      replace hw : Wd dd g mv A s H locs (w_X12_layNow g q_t q_t_at q_t_pailAt q_t_has q_t_holds o_t_leaks o_t_wants o_t_words o_t_sightBehind o_t_sightDoor o_t_sightIs o_t_pad o_t_moved o_t_order o_t_best o_t_wins o_t_later o_t_signs o_t_kept o_t_isKept t_places t_deep t_served t_wordMany t_sights t_padMany t_served t_drawn t_leaked t_drunk t_times t_foundNumber t_keptAt t_isWriting t_at t_pailAt t_has t_holds) := hw
      refine lv_aload_n F.1 F.2.1 dX12_layNow_48 rfl (lv_at hl 0 rfl) ?_
      refine lv_iconst (v := 0) F.1 F.2.1 dX12_layNow_49 (by decide) ?_
      refine pf_X12_108 F hw 0 rfl (Nat.le_of_ble_eq_true rfl) dX12_layNow_50 (fun H locs hw => ?_)
      replace hw : Wd dd g mv A s H locs (w_X12_layNow g q_t q_t_at q_t_pailAt q_t_has q_t_holds o_t_leaks o_t_wants o_t_words o_t_sightBehind o_t_sightDoor o_t_sightIs o_t_pad o_t_moved o_t_order o_t_best o_t_wins o_t_later o_t_signs o_t_kept o_t_isKept t_places t_deep t_served t_wordMany t_sights t_padMany t_served ((0 : Int32)) t_leaked t_drunk t_times t_foundNumber t_keptAt t_isWriting t_at t_pailAt t_has t_holds) := hw
      refine lv_aload_n F.1 F.2.1 dX12_layNow_53 rfl (lv_at hl 0 rfl) ?_
      refine lv_iconst (v := 0) F.1 F.2.1 dX12_layNow_54 (by decide) ?_
      refine pf_X12_111 F hw 0 rfl (Nat.le_of_ble_eq_true rfl) dX12_layNow_55 (fun H locs hw => ?_)
      replace hw : Wd dd g mv A s H locs (w_X12_layNow g q_t q_t_at q_t_pailAt q_t_has q_t_holds o_t_leaks o_t_wants o_t_words o_t_sightBehind o_t_sightDoor o_t_sightIs o_t_pad o_t_moved o_t_order o_t_best o_t_wins o_t_later o_t_signs o_t_kept o_t_isKept t_places t_deep t_served t_wordMany t_sights t_padMany t_served ((0 : Int32)) ((0 : Int32)) t_drunk t_times t_foundNumber t_keptAt t_isWriting t_at t_pailAt t_has t_holds) := hw
      refine lv_aload_n F.1 F.2.1 dX12_layNow_58 rfl (lv_at hl 0 rfl) ?_
      refine lv_iconst (v := 0) F.1 F.2.1 dX12_layNow_59 (by decide) ?_
      refine pf_X12_114 F hw 0 rfl (Nat.le_of_ble_eq_true rfl) dX12_layNow_60 (fun H locs hw => ?_)
      replace hw : Wd dd g mv A s H locs (w_X12_layNow g q_t q_t_at q_t_pailAt q_t_has q_t_holds o_t_leaks o_t_wants o_t_words o_t_sightBehind o_t_sightDoor o_t_sightIs o_t_pad o_t_moved o_t_order o_t_best o_t_wins o_t_later o_t_signs o_t_kept o_t_isKept t_places t_deep t_served t_wordMany t_sights t_padMany t_served ((0 : Int32)) ((0 : Int32)) ((0 : Int32)) t_times t_foundNumber t_keptAt t_isWriting t_at t_pailAt t_has t_holds) := hw
      refine lv_aload_n F.1 F.2.1 dX12_layNow_63 rfl (lv_at hl 0 rfl) ?_
      refine lv_iconst (v := 0) F.1 F.2.1 dX12_layNow_64 (by decide) ?_
      refine pf_X12_117 F hw 0 rfl (Nat.le_of_ble_eq_true rfl) dX12_layNow_65 (fun H locs hw => ?_)
      replace hw : Wd dd g mv A s H locs (w_X12_layNow g q_t q_t_at q_t_pailAt q_t_has q_t_holds o_t_leaks o_t_wants o_t_words o_t_sightBehind o_t_sightDoor o_t_sightIs o_t_pad o_t_moved o_t_order o_t_best o_t_wins o_t_later o_t_signs o_t_kept o_t_isKept t_places t_deep t_served t_wordMany t_sights t_padMany t_served ((0 : Int32)) ((0 : Int32)) ((0 : Int32)) ((0 : Int32)) t_foundNumber t_keptAt t_isWriting t_at t_pailAt t_has t_holds) := hw
      cases hr
      exact ret_v () F hret hlk hw (Nat.le_refl _) (Nat.le_refl _) dX12_layNow_68
    · replace hr := (if_neg hc1).symm.trans hr
      refine lv_aload_n F.1 F.2.1 dX12_layNow_10 rfl (lv_at hl 0 rfl) ?_
      refine gf_X12_37 F hw 0 rfl rfl dX12_layNow_11 ?_
      refine lv_iload_n F.1 F.2.1 dX12_layNow_14 rfl (lv_at hl 1 rfl) ?_
      refine lv_aload_n F.1 F.2.1 dX12_layNow_15 rfl (lv_at hl 0 rfl) ?_
      refine gf_X12_7 F hw 0 rfl rfl dX12_layNow_16 ?_
      refine lv_iload_n F.1 F.2.1 dX12_layNow_19 rfl (lv_at hl 1 rfl) ?_
      obtain ⟨hg2, hr⟩ := g_no hr
      refine ar_i F hw 2 rfl hg2 dX12_layNow_20 ?_
      obtain ⟨hg3, hr⟩ := g_no hr
      refine aw_i F hw 1 rfl hg3 dX12_layNow_21 (fun H locs hw => ?_)
      replace hw : Wd dd g mv A s H locs (w_X12_layNow g q_t q_t_at q_t_pailAt q_t_has q_t_holds o_t_leaks o_t_wants o_t_words o_t_sightBehind o_t_sightDoor o_t_sightIs o_t_pad o_t_moved o_t_order o_t_best o_t_wins o_t_later o_t_signs o_t_kept o_t_isKept t_places t_deep t_served t_wordMany t_sights t_padMany t_done t_drawn t_leaked t_drunk t_times t_foundNumber t_keptAt t_isWriting ((upd t_at (x1).toNatClampNeg ((t_pailAt (x1).toNatClampNeg)))) t_pailAt t_has t_holds) := hw
      refine lv_aload_n F.1 F.2.1 dX12_layNow_22 rfl (lv_at hl 0 rfl) ?_
      refine gf_X12_43 F hw 0 rfl rfl dX12_layNow_23 ?_
      refine lv_iload_n F.1 F.2.1 dX12_layNow_26 rfl (lv_at hl 1 rfl) ?_
      refine lv_aload_n F.1 F.2.1 dX12_layNow_27 rfl (lv_at hl 0 rfl) ?_
      refine gf_X12_13 F hw 0 rfl rfl dX12_layNow_28 ?_
      refine lv_iload_n F.1 F.2.1 dX12_layNow_31 rfl (lv_at hl 1 rfl) ?_
      obtain ⟨hg4, hr⟩ := g_no hr
      refine ar_i F hw 4 rfl hg4 dX12_layNow_32 ?_
      obtain ⟨hg5, hr⟩ := g_no hr
      refine aw_i F hw 3 rfl hg5 dX12_layNow_33 (fun H locs hw => ?_)
      replace hw : Wd dd g mv A s H locs (w_X12_layNow g q_t q_t_at q_t_pailAt q_t_has q_t_holds o_t_leaks o_t_wants o_t_words o_t_sightBehind o_t_sightDoor o_t_sightIs o_t_pad o_t_moved o_t_order o_t_best o_t_wins o_t_later o_t_signs o_t_kept o_t_isKept t_places t_deep t_served t_wordMany t_sights t_padMany t_done t_drawn t_leaked t_drunk t_times t_foundNumber t_keptAt t_isWriting ((upd t_at (x1).toNatClampNeg ((t_pailAt (x1).toNatClampNeg)))) t_pailAt ((upd t_has (x1).toNatClampNeg ((t_holds (x1).toNatClampNeg)))) t_holds) := hw
      refine lv_iinc (v := (x1 + 1)) (lv' := [(1, .int (x1 + 1)), (0, .ref q_t)]) F.1 F.2.1 dX12_layNow_34 hl (k := 1) rfl rfl (by decide) rfl (fun ls hl => ?_)
      refine lv_goto (tgt := 2) F.1 F.2.1 dX12_layNow_37 (by decide) ?_
      exact ih hr hw (lv_sub hl [1, 0] rfl)
set_option maxHeartbeats 4000000 in
set_option maxRecDepth 100000 in
theorem c_X12_layNow (l : Launch) (dd : va_G) (g : Nat → ClassId) (mv : Nat) (q_t : Nat) (q_t_at : Nat) (q_t_pailAt : Nat) (q_t_has : Nat) (q_t_holds : Nat) (o_t_leaks : Value) (o_t_wants : Value) (o_t_words : Value) (o_t_sightBehind : Value) (o_t_sightDoor : Value) (o_t_sightIs : Value) (o_t_pad : Value) (o_t_moved : Value) (o_t_order : Value) (o_t_best : Value) (o_t_wins : Value) (o_t_later : Value) (o_t_signs : Value) (o_t_kept : Value) (o_t_isKept : Value) (t_places : Int32) (t_deep : Int32) (t_served : Int32) (t_wordMany : Int32) (t_sights : Int32) (t_padMany : Int32) (t_done : Int32) (t_drawn : Int32) (t_leaked : Int32) (t_drunk : Int32) (t_times : Int32) (t_foundNumber : Int32) (t_keptAt : Int32) (t_isWriting : Int32) (t_at : Nat → Int32) (t_pailAt : Nat → Int32) (t_has : Nat → Int32) (t_holds : Nat → Int32) (z : Int32 × Int32 × Int32 × Int32 × Int32 × (Nat → Int32) × (Nat → Int32)) (hr : f_X12_layNow t_places t_served t_at t_pailAt t_has t_holds = some z) (sz : Nat) : Met l yX12_layNow (.code yX12_layNow cX12_layNow 2 none :: WS) (rmH 0 0 0) (va_Pc [.ref q_t] (PW dd g mv (w_X12_layNow g q_t q_t_at q_t_pailAt q_t_has q_t_holds o_t_leaks o_t_wants o_t_words o_t_sightBehind o_t_sightDoor o_t_sightIs o_t_pad o_t_moved o_t_order o_t_best o_t_wins o_t_later o_t_signs o_t_kept o_t_isKept t_places t_deep t_served t_wordMany t_sights t_padMany t_done t_drawn t_leaked t_drunk t_times t_foundNumber t_keptAt t_isWriting t_at t_pailAt t_has t_holds) sz)) (Qo dd g none (fun u : Unit => (w_X12_layNow g q_t q_t_at q_t_pailAt q_t_has q_t_holds o_t_leaks o_t_wants o_t_words o_t_sightBehind o_t_sightDoor o_t_sightIs o_t_pad o_t_moved o_t_order o_t_best o_t_wins o_t_later o_t_signs o_t_kept o_t_isKept t_places t_deep t_served t_wordMany t_sights t_padMany z.1 z.2.1 z.2.2.1 z.2.2.2.1 z.2.2.2.2.1 t_foundNumber t_keptAt t_isWriting z.2.2.2.2.2.1 t_pailAt z.2.2.2.2.2.2 t_holds)) (va_A (w_X12_layNow g q_t q_t_at q_t_pailAt q_t_has q_t_holds o_t_leaks o_t_wants o_t_words o_t_sightBehind o_t_sightDoor o_t_sightIs o_t_pad o_t_moved o_t_order o_t_best o_t_wins o_t_later o_t_signs o_t_kept o_t_isKept t_places t_deep t_served t_wordMany t_sights t_padMany t_done t_drawn t_leaked t_drunk t_times t_foundNumber t_keptAt t_isWriting t_at t_pailAt t_has t_holds) sz)) 0 0 (va_A (w_X12_layNow g q_t q_t_at q_t_pailAt q_t_has q_t_holds o_t_leaks o_t_wants o_t_words o_t_sightBehind o_t_sightDoor o_t_sightIs o_t_pad o_t_moved o_t_order o_t_best o_t_wins o_t_later o_t_signs o_t_kept o_t_isKept t_places t_deep t_served t_wordMany t_sights t_padMany t_done t_drawn t_leaked t_drunk t_times t_foundNumber t_keptAt t_isWriting t_at t_pailAt t_has t_holds) sz) := by
  refine Met_intro (by decide) (Nat.le_of_ble_eq_true rfl) ?_
  intro p e s m below meth c A ls F hret hlk hin hw hl
  replace hl : lv_has ls 2 [(0, .ref q_t)] := hl
  refine lv_iconst (v := 0) F.1 F.2.1 dX12_layNow_0 (by decide) ?_
  refine lv_istore_n (lv' := [(1, .int (0 : Int32)), (0, .ref q_t)]) F.1 F.2.1 dX12_layNow_1 rfl hl (by decide) rfl (fun ls hl => ?_)
  exact b_X12_layNow_2 F hret hlk  fuel hr hw (lv_sub hl [1, 0] rfl)
set_option maxHeartbeats 4000000 in
set_option maxRecDepth 100000 in
theorem b_X12_pullBy_111 {q_t q_t_moved q_t_at q_t_has q_t_leaks q_t_wants : Nat} {z : Int32 × Int32 × Int32 × Int32 × Int32 × (Nat → Int32) × (Nat → Int32) × (Nat → Int32)} (F : Fx p m c cX12_pullBy 5 s args RX12) (hret : meth.sig.returnType = none) (hlk : meth.locks = false) {k61 : Int32 → Int32 → Int32 → Int32 → Int32 → Int32 → Int32 → Int32 → (Nat → Int32) → (Nat → Int32) → (Nat → Int32) → (Nat → Int32) → (Nat → Int32) → Option (Int32 × Int32 × Int32 × Int32 × Int32 × (Nat → Int32) × (Nat → Int32) × (Nat → Int32))} (hk61 : ∀ {x3 : Int32} {t_places : Int32} {t_deep : Int32} {t_done : Int32} {t_drawn : Int32} {t_leaked : Int32} {t_drunk : Int32} {t_times : Int32} {t_moved : Nat → Int32} {t_at : Nat → Int32} {t_has : Nat → Int32} {t_leaks : Nat → Int32} {t_wants : Nat → Int32} {t_served : Int32} {t_wordMany : Int32} {t_sights : Int32} {t_padMany : Int32} {t_foundNumber : Int32} {t_keptAt : Int32} {t_isWriting : Int32} {o_t_pailAt : Value} {o_t_holds : Value} {o_t_words : Value} {o_t_sightBehind : Value} {o_t_sightDoor : Value} {o_t_sightIs : Value} {o_t_pad : Value} {o_t_order : Value} {o_t_best : Value} {o_t_wins : Value} {o_t_later : Value} {o_t_signs : Value} {o_t_kept : Value} {o_t_isKept : Value} {H : Heap} {locs : List Loc} {ls : Array Slot}, k61 x3 t_places t_deep t_done t_drawn t_leaked t_drunk t_times t_moved t_at t_has t_leaks t_wants = some z → Wd dd g mv A s H locs (w_X12_pullBy g q_t q_t_moved q_t_at q_t_has q_t_leaks q_t_wants o_t_pailAt o_t_holds o_t_words o_t_sightBehind o_t_sightDoor o_t_sightIs o_t_pad o_t_order o_t_best o_t_wins o_t_later o_t_signs o_t_kept o_t_isKept t_places t_deep t_served t_wordMany t_sights t_padMany t_done t_drawn t_leaked t_drunk t_times t_foundNumber t_keptAt t_isWriting t_moved t_at t_has t_leaks t_wants) → lv_has ls 5 [(0, .ref q_t), (3, .int x3)] → W p l e (rmH (0) 0 0) s m args below meth c H locs 0 0 (MQ below (Qo dd g none (fun u : Unit => (w_X12_pullBy g q_t q_t_moved q_t_at q_t_has q_t_leaks q_t_wants o_t_pailAt o_t_holds o_t_words o_t_sightBehind o_t_sightDoor o_t_sightIs o_t_pad o_t_order o_t_best o_t_wins o_t_later o_t_signs o_t_kept o_t_isKept t_places t_deep t_served t_wordMany t_sights t_padMany z.1 z.2.1 z.2.2.1 z.2.2.2.1 z.2.2.2.2.1 t_foundNumber t_keptAt t_isWriting z.2.2.2.2.2.1 z.2.2.2.2.2.2.1 z.2.2.2.2.2.2.2 t_leaks t_wants)) A) args s 0 0 A) (F0 m 61 ls [])) : ∀ {x3 : Int32} {y0 : Int32} {t_places : Int32} {t_deep : Int32} {t_done : Int32} {t_drawn : Int32} {t_leaked : Int32} {t_drunk : Int32} {t_times : Int32} {t_moved : Nat → Int32} {t_at : Nat → Int32} {t_has : Nat → Int32} {t_leaks : Nat → Int32} {t_wants : Nat → Int32} {t_served : Int32} {t_wordMany : Int32} {t_sights : Int32} {t_padMany : Int32} {t_foundNumber : Int32} {t_keptAt : Int32} {t_isWriting : Int32} {o_t_pailAt : Value} {o_t_holds : Value} {o_t_words : Value} {o_t_sightBehind : Value} {o_t_sightDoor : Value} {o_t_sightIs : Value} {o_t_pad : Value} {o_t_order : Value} {o_t_best : Value} {o_t_wins : Value} {o_t_later : Value} {o_t_signs : Value} {o_t_kept : Value} {o_t_isKept : Value} {H : Heap} {locs : List Loc} {ls : Array Slot}, f_X12_pullBy_111 k61 x3 y0 t_places t_deep t_done t_drawn t_leaked t_drunk t_times t_moved t_at t_has t_leaks t_wants = some z → Wd dd g mv A s H locs (w_X12_pullBy g q_t q_t_moved q_t_at q_t_has q_t_leaks q_t_wants o_t_pailAt o_t_holds o_t_words o_t_sightBehind o_t_sightDoor o_t_sightIs o_t_pad o_t_order o_t_best o_t_wins o_t_later o_t_signs o_t_kept o_t_isKept t_places t_deep t_served t_wordMany t_sights t_padMany t_done t_drawn t_leaked t_drunk t_times t_foundNumber t_keptAt t_isWriting t_moved t_at t_has t_leaks t_wants) → lv_has ls 5 [(0, .ref q_t), (3, .int x3)] → W p l e (rmH (0) 0 0) s m args below meth c H locs 0 0 (MQ below (Qo dd g none (fun u : Unit => (w_X12_pullBy g q_t q_t_moved q_t_at q_t_has q_t_leaks q_t_wants o_t_pailAt o_t_holds o_t_words o_t_sightBehind o_t_sightDoor o_t_sightIs o_t_pad o_t_order o_t_best o_t_wins o_t_later o_t_signs o_t_kept o_t_isKept t_places t_deep t_served t_wordMany t_sights t_padMany z.1 z.2.1 z.2.2.1 z.2.2.2.1 z.2.2.2.2.1 t_foundNumber t_keptAt t_isWriting z.2.2.2.2.2.1 z.2.2.2.2.2.2.1 z.2.2.2.2.2.2.2 t_leaks t_wants)) A) args s 0 0 A) (F0 m 111 ls [.int y0]) := by
  intro x3 y0 t_places t_deep t_done t_drawn t_leaked t_drunk t_times t_moved t_at t_has t_leaks t_wants t_served t_wordMany t_sights t_padMany t_foundNumber t_keptAt t_isWriting o_t_pailAt o_t_holds o_t_words o_t_sightBehind o_t_sightDoor o_t_sightIs o_t_pad o_t_order o_t_best o_t_wins o_t_later o_t_signs o_t_kept o_t_isKept H locs ls hr hw hl
  refine lv_istore (lv' := [(4, .int y0), (0, .ref q_t), (3, .int x3)]) F.1 F.2.1 dX12_pullBy_111 hl (by decide) rfl (fun ls hl => ?_)
  refine lv_aload_n F.1 F.2.1 dX12_pullBy_113 rfl (lv_at hl 1 rfl) ?_
  refine gf_X12_43 F hw 0 rfl rfl dX12_pullBy_114 ?_
  refine lv_iload_n F.1 F.2.1 dX12_pullBy_117 rfl (lv_at hl 2 rfl) ?_
  refine lv_dup2_11 F.1 F.2.1 dX12_pullBy_118 rfl rfl ?_
  obtain ⟨hg1, hr⟩ := g_no hr
  refine ar_i F hw 3 rfl hg1 dX12_pullBy_119 ?_
  refine lv_iload F.1 F.2.1 dX12_pullBy_120 (lv_at hl 0 rfl) ?_
  refine lv_isub F.1 F.2.1 dX12_pullBy_122 ?_
  obtain ⟨hg2, hr⟩ := g_no hr
  refine aw_i F hw 3 rfl hg2 dX12_pullBy_123 (fun H locs hw => ?_)
  replace hw : Wd dd g mv A s H locs (w_X12_pullBy g q_t q_t_moved q_t_at q_t_has q_t_leaks q_t_wants o_t_pailAt o_t_holds o_t_words o_t_sightBehind o_t_sightDoor o_t_sightIs o_t_pad o_t_order o_t_best o_t_wins o_t_later o_t_signs o_t_kept o_t_isKept t_places t_deep t_served t_wordMany t_sights t_padMany t_done t_drawn t_leaked t_drunk t_times t_foundNumber t_keptAt t_isWriting t_moved t_at ((upd t_has (x3).toNatClampNeg (((t_has (x3).toNatClampNeg) - y0)))) t_leaks t_wants) := hw
  refine lv_aload_n F.1 F.2.1 dX12_pullBy_124 rfl (lv_at hl 1 rfl) ?_
  refine lv_dup F.1 F.2.1 dX12_pullBy_125 rfl ?_
  refine gf_X12_111 F hw 0 rfl rfl dX12_pullBy_126 ?_
  refine lv_iload F.1 F.2.1 dX12_pullBy_129 (lv_at hl 0 rfl) ?_
  refine lv_iadd F.1 F.2.1 dX12_pullBy_131 ?_
  refine pf_X12_111 F hw 0 rfl (Nat.le_of_ble_eq_true rfl) dX12_pullBy_132 (fun H locs hw => ?_)
  replace hw : Wd dd g mv A s H locs (w_X12_pullBy g q_t q_t_moved q_t_at q_t_has q_t_leaks q_t_wants o_t_pailAt o_t_holds o_t_words o_t_sightBehind o_t_sightDoor o_t_sightIs o_t_pad o_t_order o_t_best o_t_wins o_t_later o_t_signs o_t_kept o_t_isKept t_places t_deep t_served t_wordMany t_sights t_padMany t_done t_drawn ((t_leaked + y0)) t_drunk t_times t_foundNumber t_keptAt t_isWriting t_moved t_at ((upd t_has (x3).toNatClampNeg (((t_has (x3).toNatClampNeg) - y0)))) t_leaks t_wants) := hw
  refine lv_iinc (v := (x3 + 1)) (lv' := [(3, .int (x3 + 1)), (4, .int y0), (0, .ref q_t)]) F.1 F.2.1 dX12_pullBy_135 hl (k := 2) rfl rfl (by decide) rfl (fun ls hl => ?_)
  refine lv_goto (tgt := 61) F.1 F.2.1 dX12_pullBy_138 (by decide) ?_
  exact hk61 hr hw (lv_sub hl [2, 0] rfl)
set_option maxHeartbeats 4000000 in
set_option maxRecDepth 100000 in
theorem b_X12_pullBy_279 {q_t q_t_moved q_t_at q_t_has q_t_leaks q_t_wants : Nat} {z : Int32 × Int32 × Int32 × Int32 × Int32 × (Nat → Int32) × (Nat → Int32) × (Nat → Int32)} (F : Fx p m c cX12_pullBy 5 s args RX12) (hret : meth.sig.returnType = none) (hlk : meth.locks = false) {k183 : Int32 → Int32 → Int32 → Int32 → Int32 → Int32 → Int32 → (Nat → Int32) → (Nat → Int32) → (Nat → Int32) → (Nat → Int32) → Option (Int32 × Int32 × Int32 × Int32 × Int32 × (Nat → Int32) × (Nat → Int32) × (Nat → Int32))} (hk183 : ∀ {x3 : Int32} {t_places : Int32} {t_done : Int32} {t_drawn : Int32} {t_leaked : Int32} {t_drunk : Int32} {t_times : Int32} {t_moved : Nat → Int32} {t_at : Nat → Int32} {t_has : Nat → Int32} {t_wants : Nat → Int32} {t_deep : Int32} {t_served : Int32} {t_wordMany : Int32} {t_sights : Int32} {t_padMany : Int32} {t_foundNumber : Int32} {t_keptAt : Int32} {t_isWriting : Int32} {t_leaks : Nat → Int32} {o_t_pailAt : Value} {o_t_holds : Value} {o_t_words : Value} {o_t_sightBehind : Value} {o_t_sightDoor : Value} {o_t_sightIs : Value} {o_t_pad : Value} {o_t_order : Value} {o_t_best : Value} {o_t_wins : Value} {o_t_later : Value} {o_t_signs : Value} {o_t_kept : Value} {o_t_isKept : Value} {H : Heap} {locs : List Loc} {ls : Array Slot}, k183 x3 t_places t_done t_drawn t_leaked t_drunk t_times t_moved t_at t_has t_wants = some z → Wd dd g mv A s H locs (w_X12_pullBy g q_t q_t_moved q_t_at q_t_has q_t_leaks q_t_wants o_t_pailAt o_t_holds o_t_words o_t_sightBehind o_t_sightDoor o_t_sightIs o_t_pad o_t_order o_t_best o_t_wins o_t_later o_t_signs o_t_kept o_t_isKept t_places t_deep t_served t_wordMany t_sights t_padMany t_done t_drawn t_leaked t_drunk t_times t_foundNumber t_keptAt t_isWriting t_moved t_at t_has t_leaks t_wants) → lv_has ls 5 [(0, .ref q_t), (3, .int x3)] → W p l e (rmH (0) 0 0) s m args below meth c H locs 0 0 (MQ below (Qo dd g none (fun u : Unit => (w_X12_pullBy g q_t q_t_moved q_t_at q_t_has q_t_leaks q_t_wants o_t_pailAt o_t_holds o_t_words o_t_sightBehind o_t_sightDoor o_t_sightIs o_t_pad o_t_order o_t_best o_t_wins o_t_later o_t_signs o_t_kept o_t_isKept t_places t_deep t_served t_wordMany t_sights t_padMany z.1 z.2.1 z.2.2.1 z.2.2.2.1 z.2.2.2.2.1 t_foundNumber t_keptAt t_isWriting z.2.2.2.2.2.1 z.2.2.2.2.2.2.1 z.2.2.2.2.2.2.2 t_leaks t_wants)) A) args s 0 0 A) (F0 m 183 ls [])) : ∀ {x3 : Int32} {t_places : Int32} {t_done : Int32} {t_drawn : Int32} {t_leaked : Int32} {t_drunk : Int32} {t_times : Int32} {t_moved : Nat → Int32} {t_at : Nat → Int32} {t_has : Nat → Int32} {t_wants : Nat → Int32} {t_deep : Int32} {t_served : Int32} {t_wordMany : Int32} {t_sights : Int32} {t_padMany : Int32} {t_foundNumber : Int32} {t_keptAt : Int32} {t_isWriting : Int32} {t_leaks : Nat → Int32} {o_t_pailAt : Value} {o_t_holds : Value} {o_t_words : Value} {o_t_sightBehind : Value} {o_t_sightDoor : Value} {o_t_sightIs : Value} {o_t_pad : Value} {o_t_order : Value} {o_t_best : Value} {o_t_wins : Value} {o_t_later : Value} {o_t_signs : Value} {o_t_kept : Value} {o_t_isKept : Value} {H : Heap} {locs : List Loc} {ls : Array Slot}, f_X12_pullBy_279 k183 x3 t_places t_done t_drawn t_leaked t_drunk t_times t_moved t_at t_has t_wants = some z → Wd dd g mv A s H locs (w_X12_pullBy g q_t q_t_moved q_t_at q_t_has q_t_leaks q_t_wants o_t_pailAt o_t_holds o_t_words o_t_sightBehind o_t_sightDoor o_t_sightIs o_t_pad o_t_order o_t_best o_t_wins o_t_later o_t_signs o_t_kept o_t_isKept t_places t_deep t_served t_wordMany t_sights t_padMany t_done t_drawn t_leaked t_drunk t_times t_foundNumber t_keptAt t_isWriting t_moved t_at t_has t_leaks t_wants) → lv_has ls 5 [(0, .ref q_t), (3, .int x3)] → W p l e (rmH (0) 0 0) s m args below meth c H locs 0 0 (MQ below (Qo dd g none (fun u : Unit => (w_X12_pullBy g q_t q_t_moved q_t_at q_t_has q_t_leaks q_t_wants o_t_pailAt o_t_holds o_t_words o_t_sightBehind o_t_sightDoor o_t_sightIs o_t_pad o_t_order o_t_best o_t_wins o_t_later o_t_signs o_t_kept o_t_isKept t_places t_deep t_served t_wordMany t_sights t_padMany z.1 z.2.1 z.2.2.1 z.2.2.2.1 z.2.2.2.2.1 t_foundNumber t_keptAt t_isWriting z.2.2.2.2.2.1 z.2.2.2.2.2.2.1 z.2.2.2.2.2.2.2 t_leaks t_wants)) A) args s 0 0 A) (F0 m 279 ls []) := by
  intro x3 t_places t_done t_drawn t_leaked t_drunk t_times t_moved t_at t_has t_wants t_deep t_served t_wordMany t_sights t_padMany t_foundNumber t_keptAt t_isWriting t_leaks o_t_pailAt o_t_holds o_t_words o_t_sightBehind o_t_sightDoor o_t_sightIs o_t_pad o_t_order o_t_best o_t_wins o_t_later o_t_signs o_t_kept o_t_isKept H locs ls hr hw hl
  refine lv_iinc (v := (x3 + 1)) (lv' := [(3, .int (x3 + 1)), (0, .ref q_t)]) F.1 F.2.1 dX12_pullBy_279 hl (k := 1) rfl rfl (by decide) rfl (fun ls hl => ?_)
  refine lv_goto (tgt := 183) F.1 F.2.1 dX12_pullBy_282 (by decide) ?_
  exact hk183 hr hw (lv_sub hl [1, 0] rfl)
set_option maxHeartbeats 4000000 in
set_option maxRecDepth 100000 in
theorem b_X12_pullBy_183 {q_t q_t_moved q_t_at q_t_has q_t_leaks q_t_wants : Nat} {z : Int32 × Int32 × Int32 × Int32 × Int32 × (Nat → Int32) × (Nat → Int32) × (Nat → Int32)} (F : Fx p m c cX12_pullBy 5 s args RX12) (hret : meth.sig.returnType = none) (hlk : meth.locks = false) : ∀ (n : Nat), ∀ {x3 : Int32} {t_places : Int32} {t_done : Int32} {t_drawn : Int32} {t_leaked : Int32} {t_drunk : Int32} {t_times : Int32} {t_moved : Nat → Int32} {t_at : Nat → Int32} {t_has : Nat → Int32} {t_wants : Nat → Int32} {t_deep : Int32} {t_served : Int32} {t_wordMany : Int32} {t_sights : Int32} {t_padMany : Int32} {t_foundNumber : Int32} {t_keptAt : Int32} {t_isWriting : Int32} {t_leaks : Nat → Int32} {o_t_pailAt : Value} {o_t_holds : Value} {o_t_words : Value} {o_t_sightBehind : Value} {o_t_sightDoor : Value} {o_t_sightIs : Value} {o_t_pad : Value} {o_t_order : Value} {o_t_best : Value} {o_t_wins : Value} {o_t_later : Value} {o_t_signs : Value} {o_t_kept : Value} {o_t_isKept : Value} {H : Heap} {locs : List Loc} {ls : Array Slot}, f_X12_pullBy_183  n x3 t_places t_done t_drawn t_leaked t_drunk t_times t_moved t_at t_has t_wants = some z → Wd dd g mv A s H locs (w_X12_pullBy g q_t q_t_moved q_t_at q_t_has q_t_leaks q_t_wants o_t_pailAt o_t_holds o_t_words o_t_sightBehind o_t_sightDoor o_t_sightIs o_t_pad o_t_order o_t_best o_t_wins o_t_later o_t_signs o_t_kept o_t_isKept t_places t_deep t_served t_wordMany t_sights t_padMany t_done t_drawn t_leaked t_drunk t_times t_foundNumber t_keptAt t_isWriting t_moved t_at t_has t_leaks t_wants) → lv_has ls 5 [(0, .ref q_t), (3, .int x3)] → W p l e (rmH (0) 0 0) s m args below meth c H locs 0 0 (MQ below (Qo dd g none (fun u : Unit => (w_X12_pullBy g q_t q_t_moved q_t_at q_t_has q_t_leaks q_t_wants o_t_pailAt o_t_holds o_t_words o_t_sightBehind o_t_sightDoor o_t_sightIs o_t_pad o_t_order o_t_best o_t_wins o_t_later o_t_signs o_t_kept o_t_isKept t_places t_deep t_served t_wordMany t_sights t_padMany z.1 z.2.1 z.2.2.1 z.2.2.2.1 z.2.2.2.2.1 t_foundNumber t_keptAt t_isWriting z.2.2.2.2.2.1 z.2.2.2.2.2.2.1 z.2.2.2.2.2.2.2 t_leaks t_wants)) A) args s 0 0 A) (F0 m 183 ls []) := by
  intro n
  induction n with
  | zero =>
    intros
    rename_i hr _ _
    cases hr
  | succ n ih =>
    intro x3 t_places t_done t_drawn t_leaked t_drunk t_times t_moved t_at t_has t_wants t_deep t_served t_wordMany t_sights t_padMany t_foundNumber t_keptAt t_isWriting t_leaks o_t_pailAt o_t_holds o_t_words o_t_sightBehind o_t_sightDoor o_t_sightIs o_t_pad o_t_order o_t_best o_t_wins o_t_later o_t_signs o_t_kept o_t_isKept H locs ls hr hw hl
    refine lv_iload_n F.1 F.2.1 dX12_pullBy_183 rfl (lv_at hl 1 rfl) ?_
    refine lv_aload_n F.1 F.2.1 dX12_pullBy_184 rfl (lv_at hl 0 rfl) ?_
    refine gf_X12_77 F hw 0 rfl rfl dX12_pullBy_185 ?_
    refine lv_icmp_ge (tgt := 285) F.1 F.2.1 dX12_pullBy_188 (by decide) (fun hc3 => ?_) (fun hc3 => ?_)
    · replace hr := (if_pos hc3).symm.trans hr
      cases hr
      exact ret_v () F hret hlk hw (Nat.le_refl _) (Nat.le_refl _) dX12_pullBy_285
    · replace hr := (if_neg hc3).symm.trans hr
      refine lv_aload_n F.1 F.2.1 dX12_pullBy_191 rfl (lv_at hl 0 rfl) ?_
      refine gf_X12_105 F hw 0 rfl rfl dX12_pullBy_192 ?_
      refine lv_iload_n F.1 F.2.1 dX12_pullBy_195 rfl (lv_at hl 1 rfl) ?_
      refine lv_ishr F.1 F.2.1 dX12_pullBy_196 ?_
      refine lv_iconst (v := 1) F.1 F.2.1 dX12_pullBy_197 (by decide) ?_
      refine lv_iand F.1 F.2.1 dX12_pullBy_198 ?_
      refine lv_if_ne (tgt := 279) F.1 F.2.1 dX12_pullBy_199 (by decide) (fun hc4 => ?_) (fun hc4 => ?_)
      · replace hr := (if_neg hc4).symm.trans hr
        exact b_X12_pullBy_279 F hret hlk (ih) hr hw (lv_sub hl [0, 1] rfl)
      · replace hr := (if_pos hc4).symm.trans hr
        refine lv_aload_n F.1 F.2.1 dX12_pullBy_202 rfl (lv_at hl 0 rfl) ?_
        refine gf_X12_19 F hw 0 rfl rfl dX12_pullBy_203 ?_
        refine lv_iload_n F.1 F.2.1 dX12_pullBy_206 rfl (lv_at hl 1 rfl) ?_
        obtain ⟨hg5, hr⟩ := g_no hr
        refine ar_i F hw 5 rfl hg5 dX12_pullBy_207 ?_
        refine lv_aload_n F.1 F.2.1 dX12_pullBy_208 rfl (lv_at hl 0 rfl) ?_
        refine gf_X12_43 F hw 0 rfl rfl dX12_pullBy_209 ?_
        refine lv_aload_n F.1 F.2.1 dX12_pullBy_212 rfl (lv_at hl 0 rfl) ?_
        refine gf_X12_37 F hw 0 rfl rfl dX12_pullBy_213 ?_
        refine lv_iload_n F.1 F.2.1 dX12_pullBy_216 rfl (lv_at hl 1 rfl) ?_
        obtain ⟨hg6, hr⟩ := g_no hr
        refine ar_i F hw 2 rfl hg6 dX12_pullBy_217 ?_
        obtain ⟨hg7, hr⟩ := g_no hr
        refine ar_i F hw 3 rfl hg7 dX12_pullBy_218 ?_
        refine lv_icmp_gt (tgt := 279) F.1 F.2.1 dX12_pullBy_219 (by decide) (fun hc8 => ?_) (fun hc8 => ?_)
        · replace hr := (if_pos hc8).symm.trans hr
          exact b_X12_pullBy_279 F hret hlk (ih) hr hw (lv_sub hl [0, 1] rfl)
        · replace hr := (if_neg hc8).symm.trans hr
          refine lv_aload_n F.1 F.2.1 dX12_pullBy_222 rfl (lv_at hl 0 rfl) ?_
          refine gf_X12_43 F hw 0 rfl rfl dX12_pullBy_223 ?_
          refine lv_aload_n F.1 F.2.1 dX12_pullBy_226 rfl (lv_at hl 0 rfl) ?_
          refine gf_X12_37 F hw 0 rfl rfl dX12_pullBy_227 ?_
          refine lv_iload_n F.1 F.2.1 dX12_pullBy_230 rfl (lv_at hl 1 rfl) ?_
          obtain ⟨hg9, hr⟩ := g_no hr
          refine ar_i F hw 2 rfl hg9 dX12_pullBy_231 ?_
          refine lv_dup2_11 F.1 F.2.1 dX12_pullBy_232 rfl rfl ?_
          obtain ⟨hg10, hr⟩ := g_no hr
          refine ar_i F hw 3 rfl hg10 dX12_pullBy_233 ?_
          refine lv_aload_n F.1 F.2.1 dX12_pullBy_234 rfl (lv_at hl 0 rfl) ?_
          refine gf_X12_19 F hw 0 rfl rfl dX12_pullBy_235 ?_
          refine lv_iload_n F.1 F.2.1 dX12_pullBy_238 rfl (lv_at hl 1 rfl) ?_
          obtain ⟨hg11, hr⟩ := g_no hr
          refine ar_i F hw 5 rfl hg11 dX12_pullBy_239 ?_
          refine lv_isub F.1 F.2.1 dX12_pullBy_240 ?_
          obtain ⟨hg12, hr⟩ := g_no hr
          refine aw_i F hw 3 rfl hg12 dX12_pullBy_241 (fun H locs hw => ?_)
          replace hw : Wd dd g mv A s H locs (w_X12_pullBy g q_t q_t_moved q_t_at q_t_has q_t_leaks q_t_wants o_t_pailAt o_t_holds o_t_words o_t_sightBehind o_t_sightDoor o_t_sightIs o_t_pad o_t_order o_t_best o_t_wins o_t_later o_t_signs o_t_kept o_t_isKept t_places t_deep t_served t_wordMany t_sights t_padMany t_done t_drawn t_leaked t_drunk t_times t_foundNumber t_keptAt t_isWriting t_moved t_at ((upd t_has ((t_at (x3).toNatClampNeg)).toNatClampNeg (((t_has ((t_at (x3).toNatClampNeg)).toNatClampNeg) - (t_wants (x3).toNatClampNeg))))) t_leaks t_wants) := hw
          refine lv_aload_n F.1 F.2.1 dX12_pullBy_242 rfl (lv_at hl 0 rfl) ?_
          refine lv_dup F.1 F.2.1 dX12_pullBy_243 rfl ?_
          refine gf_X12_114 F hw 0 rfl rfl dX12_pullBy_244 ?_
          refine lv_aload_n F.1 F.2.1 dX12_pullBy_247 rfl (lv_at hl 0 rfl) ?_
          refine gf_X12_19 F hw 0 rfl rfl dX12_pullBy_248 ?_
          refine lv_iload_n F.1 F.2.1 dX12_pullBy_251 rfl (lv_at hl 1 rfl) ?_
          obtain ⟨hg13, hr⟩ := g_no hr
          refine ar_i F hw 5 rfl hg13 dX12_pullBy_252 ?_
          refine lv_iadd F.1 F.2.1 dX12_pullBy_253 ?_
          refine pf_X12_114 F hw 0 rfl (Nat.le_of_ble_eq_true rfl) dX12_pullBy_254 (fun H locs hw => ?_)
          replace hw : Wd dd g mv A s H locs (w_X12_pullBy g q_t q_t_moved q_t_at q_t_has q_t_leaks q_t_wants o_t_pailAt o_t_holds o_t_words o_t_sightBehind o_t_sightDoor o_t_sightIs o_t_pad o_t_order o_t_best o_t_wins o_t_later o_t_signs o_t_kept o_t_isKept t_places t_deep t_served t_wordMany t_sights t_padMany t_done t_drawn t_leaked ((t_drunk + (t_wants (x3).toNatClampNeg))) t_times t_foundNumber t_keptAt t_isWriting t_moved t_at ((upd t_has ((t_at (x3).toNatClampNeg)).toNatClampNeg (((t_has ((t_at (x3).toNatClampNeg)).toNatClampNeg) - (t_wants (x3).toNatClampNeg))))) t_leaks t_wants) := hw
          refine lv_aload_n F.1 F.2.1 dX12_pullBy_257 rfl (lv_at hl 0 rfl) ?_
          refine lv_dup F.1 F.2.1 dX12_pullBy_258 rfl ?_
          refine gf_X12_105 F hw 0 rfl rfl dX12_pullBy_259 ?_
          refine lv_iconst (v := 1) F.1 F.2.1 dX12_pullBy_262 (by decide) ?_
          refine lv_iload_n F.1 F.2.1 dX12_pullBy_263 rfl (lv_at hl 1 rfl) ?_
          refine lv_ishl F.1 F.2.1 dX12_pullBy_264 ?_
          refine lv_ior F.1 F.2.1 dX12_pullBy_265 ?_
          refine pf_X12_105 F hw 0 rfl (Nat.le_of_ble_eq_true rfl) dX12_pullBy_266 (fun H locs hw => ?_)
          replace hw : Wd dd g mv A s H locs (w_X12_pullBy g q_t q_t_moved q_t_at q_t_has q_t_leaks q_t_wants o_t_pailAt o_t_holds o_t_words o_t_sightBehind o_t_sightDoor o_t_sightIs o_t_pad o_t_order o_t_best o_t_wins o_t_later o_t_signs o_t_kept o_t_isKept t_places t_deep t_served t_wordMany t_sights t_padMany ((t_done ||| ((1 : Int32) <<< (x3 &&& 31)))) t_drawn t_leaked ((t_drunk + (t_wants (x3).toNatClampNeg))) t_times t_foundNumber t_keptAt t_isWriting t_moved t_at ((upd t_has ((t_at (x3).toNatClampNeg)).toNatClampNeg (((t_has ((t_at (x3).toNatClampNeg)).toNatClampNeg) - (t_wants (x3).toNatClampNeg))))) t_leaks t_wants) := hw
          refine lv_aload_n F.1 F.2.1 dX12_pullBy_269 rfl (lv_at hl 0 rfl) ?_
          refine lv_dup F.1 F.2.1 dX12_pullBy_270 rfl ?_
          refine gf_X12_117 F hw 0 rfl rfl dX12_pullBy_271 ?_
          refine lv_iconst (v := 1) F.1 F.2.1 dX12_pullBy_274 (by decide) ?_
          refine lv_iadd F.1 F.2.1 dX12_pullBy_275 ?_
          refine pf_X12_117 F hw 0 rfl (Nat.le_of_ble_eq_true rfl) dX12_pullBy_276 (fun H locs hw => ?_)
          replace hw : Wd dd g mv A s H locs (w_X12_pullBy g q_t q_t_moved q_t_at q_t_has q_t_leaks q_t_wants o_t_pailAt o_t_holds o_t_words o_t_sightBehind o_t_sightDoor o_t_sightIs o_t_pad o_t_order o_t_best o_t_wins o_t_later o_t_signs o_t_kept o_t_isKept t_places t_deep t_served t_wordMany t_sights t_padMany ((t_done ||| ((1 : Int32) <<< (x3 &&& 31)))) t_drawn t_leaked ((t_drunk + (t_wants (x3).toNatClampNeg))) ((t_times + (1 : Int32))) t_foundNumber t_keptAt t_isWriting t_moved t_at ((upd t_has ((t_at (x3).toNatClampNeg)).toNatClampNeg (((t_has ((t_at (x3).toNatClampNeg)).toNatClampNeg) - (t_wants (x3).toNatClampNeg))))) t_leaks t_wants) := hw
          exact b_X12_pullBy_279 F hret hlk (ih) hr hw (lv_sub hl [0, 1] rfl)
set_option maxHeartbeats 4000000 in
set_option maxRecDepth 100000 in
theorem b_X12_pullBy_61 {q_t q_t_moved q_t_at q_t_has q_t_leaks q_t_wants : Nat} {z : Int32 × Int32 × Int32 × Int32 × Int32 × (Nat → Int32) × (Nat → Int32) × (Nat → Int32)} (F : Fx p m c cX12_pullBy 5 s args RX12) (hret : meth.sig.returnType = none) (hlk : meth.locks = false) : ∀ (n : Nat), ∀ {x3 : Int32} {t_places : Int32} {t_deep : Int32} {t_done : Int32} {t_drawn : Int32} {t_leaked : Int32} {t_drunk : Int32} {t_times : Int32} {t_moved : Nat → Int32} {t_at : Nat → Int32} {t_has : Nat → Int32} {t_leaks : Nat → Int32} {t_wants : Nat → Int32} {t_served : Int32} {t_wordMany : Int32} {t_sights : Int32} {t_padMany : Int32} {t_foundNumber : Int32} {t_keptAt : Int32} {t_isWriting : Int32} {o_t_pailAt : Value} {o_t_holds : Value} {o_t_words : Value} {o_t_sightBehind : Value} {o_t_sightDoor : Value} {o_t_sightIs : Value} {o_t_pad : Value} {o_t_order : Value} {o_t_best : Value} {o_t_wins : Value} {o_t_later : Value} {o_t_signs : Value} {o_t_kept : Value} {o_t_isKept : Value} {H : Heap} {locs : List Loc} {ls : Array Slot}, f_X12_pullBy_61  n x3 t_places t_deep t_done t_drawn t_leaked t_drunk t_times t_moved t_at t_has t_leaks t_wants = some z → Wd dd g mv A s H locs (w_X12_pullBy g q_t q_t_moved q_t_at q_t_has q_t_leaks q_t_wants o_t_pailAt o_t_holds o_t_words o_t_sightBehind o_t_sightDoor o_t_sightIs o_t_pad o_t_order o_t_best o_t_wins o_t_later o_t_signs o_t_kept o_t_isKept t_places t_deep t_served t_wordMany t_sights t_padMany t_done t_drawn t_leaked t_drunk t_times t_foundNumber t_keptAt t_isWriting t_moved t_at t_has t_leaks t_wants) → lv_has ls 5 [(0, .ref q_t), (3, .int x3)] → W p l e (rmH (0) 0 0) s m args below meth c H locs 0 0 (MQ below (Qo dd g none (fun u : Unit => (w_X12_pullBy g q_t q_t_moved q_t_at q_t_has q_t_leaks q_t_wants o_t_pailAt o_t_holds o_t_words o_t_sightBehind o_t_sightDoor o_t_sightIs o_t_pad o_t_order o_t_best o_t_wins o_t_later o_t_signs o_t_kept o_t_isKept t_places t_deep t_served t_wordMany t_sights t_padMany z.1 z.2.1 z.2.2.1 z.2.2.2.1 z.2.2.2.2.1 t_foundNumber t_keptAt t_isWriting z.2.2.2.2.2.1 z.2.2.2.2.2.2.1 z.2.2.2.2.2.2.2 t_leaks t_wants)) A) args s 0 0 A) (F0 m 61 ls []) := by
  intro n
  induction n with
  | zero =>
    intros
    rename_i hr _ _
    cases hr
  | succ n ih =>
    intro x3 t_places t_deep t_done t_drawn t_leaked t_drunk t_times t_moved t_at t_has t_leaks t_wants t_served t_wordMany t_sights t_padMany t_foundNumber t_keptAt t_isWriting o_t_pailAt o_t_holds o_t_words o_t_sightBehind o_t_sightDoor o_t_sightIs o_t_pad o_t_order o_t_best o_t_wins o_t_later o_t_signs o_t_kept o_t_isKept H locs ls hr hw hl
    refine lv_iload_n F.1 F.2.1 dX12_pullBy_61 rfl (lv_at hl 1 rfl) ?_
    refine lv_aload_n F.1 F.2.1 dX12_pullBy_62 rfl (lv_at hl 0 rfl) ?_
    refine gf_X12_77 F hw 0 rfl rfl dX12_pullBy_63 ?_
    refine lv_icmp_ge (tgt := 141) F.1 F.2.1 dX12_pullBy_66 (by decide) (fun hc14 => ?_) (fun hc14 => ?_)
    · replace hr := (if_pos hc14).symm.trans hr
      refine lv_aload_n F.1 F.2.1 dX12_pullBy_141 rfl (lv_at hl 0 rfl) ?_
      refine lv_dup F.1 F.2.1 dX12_pullBy_142 rfl ?_
      refine gf_X12_108 F hw 0 rfl rfl dX12_pullBy_143 ?_
      refine lv_aload_n F.1 F.2.1 dX12_pullBy_146 rfl (lv_at hl 0 rfl) ?_
      refine gf_X12_69 F hw 0 rfl rfl dX12_pullBy_147 ?_
      refine lv_aload_n F.1 F.2.1 dX12_pullBy_150 rfl (lv_at hl 0 rfl) ?_
      refine gf_X12_43 F hw 0 rfl rfl dX12_pullBy_151 ?_
      refine lv_aload_n F.1 F.2.1 dX12_pullBy_154 rfl (lv_at hl 0 rfl) ?_
      refine gf_X12_37 F hw 0 rfl rfl dX12_pullBy_155 ?_
      refine lv_iconst (v := 0) F.1 F.2.1 dX12_pullBy_158 (by decide) ?_
      obtain ⟨hg15, hr⟩ := g_no hr
      refine ar_i F hw 2 rfl hg15 dX12_pullBy_159 ?_
      obtain ⟨hg16, hr⟩ := g_no hr
      refine ar_i F hw 3 rfl hg16 dX12_pullBy_160 ?_
      refine lv_isub F.1 F.2.1 dX12_pullBy_161 ?_
      refine lv_iadd F.1 F.2.1 dX12_pullBy_162 ?_
      refine pf_X12_108 F hw 0 rfl (Nat.le_of_ble_eq_true rfl) dX12_pullBy_163 (fun H locs hw => ?_)
      replace hw : Wd dd g mv A s H locs (w_X12_pullBy g q_t q_t_moved q_t_at q_t_has q_t_leaks q_t_wants o_t_pailAt o_t_holds o_t_words o_t_sightBehind o_t_sightDoor o_t_sightIs o_t_pad o_t_order o_t_best o_t_wins o_t_later o_t_signs o_t_kept o_t_isKept t_places t_deep t_served t_wordMany t_sights t_padMany t_done ((t_drawn + (t_deep - (t_has ((t_at ((0 : Int32)).toNatClampNeg)).toNatClampNeg)))) t_leaked t_drunk t_times t_foundNumber t_keptAt t_isWriting t_moved t_at t_has t_leaks t_wants) := hw
      refine lv_aload_n F.1 F.2.1 dX12_pullBy_166 rfl (lv_at hl 0 rfl) ?_
      refine gf_X12_43 F hw 0 rfl rfl dX12_pullBy_167 ?_
      refine lv_aload_n F.1 F.2.1 dX12_pullBy_170 rfl (lv_at hl 0 rfl) ?_
      refine gf_X12_37 F hw 0 rfl rfl dX12_pullBy_171 ?_
      refine lv_iconst (v := 0) F.1 F.2.1 dX12_pullBy_174 (by decide) ?_
      obtain ⟨hg17, hr⟩ := g_no hr
      refine ar_i F hw 2 rfl hg17 dX12_pullBy_175 ?_
      refine lv_aload_n F.1 F.2.1 dX12_pullBy_176 rfl (lv_at hl 0 rfl) ?_
      refine gf_X12_69 F hw 0 rfl rfl dX12_pullBy_177 ?_
      obtain ⟨hg18, hr⟩ := g_no hr
      refine aw_i F hw 3 rfl hg18 dX12_pullBy_180 (fun H locs hw => ?_)
      replace hw : Wd dd g mv A s H locs (w_X12_pullBy g q_t q_t_moved q_t_at q_t_has q_t_leaks q_t_wants o_t_pailAt o_t_holds o_t_words o_t_sightBehind o_t_sightDoor o_t_sightIs o_t_pad o_t_order o_t_best o_t_wins o_t_later o_t_signs o_t_kept o_t_isKept t_places t_deep t_served t_wordMany t_sights t_padMany t_done ((t_drawn + (t_deep - (t_has ((t_at ((0 : Int32)).toNatClampNeg)).toNatClampNeg)))) t_leaked t_drunk t_times t_foundNumber t_keptAt t_isWriting t_moved t_at ((upd t_has ((t_at ((0 : Int32)).toNatClampNeg)).toNatClampNeg t_deep)) t_leaks t_wants) := hw
      refine lv_iconst (v := 0) F.1 F.2.1 dX12_pullBy_181 (by decide) ?_
      refine lv_istore_n (lv' := [(3, .int (0 : Int32)), (0, .ref q_t)]) F.1 F.2.1 dX12_pullBy_182 rfl hl (by decide) rfl (fun ls hl => ?_)
      exact b_X12_pullBy_183 F hret hlk  fuel hr hw (lv_sub hl [1, 0] rfl)
    · replace hr := (if_neg hc14).symm.trans hr
      refine lv_aload_n F.1 F.2.1 dX12_pullBy_69 rfl (lv_at hl 0 rfl) ?_
      refine gf_X12_37 F hw 0 rfl rfl dX12_pullBy_70 ?_
      refine lv_iload_n F.1 F.2.1 dX12_pullBy_73 rfl (lv_at hl 1 rfl) ?_
      refine lv_aload_n F.1 F.2.1 dX12_pullBy_74 rfl (lv_at hl 0 rfl) ?_
      refine gf_X12_40 F hw 0 rfl rfl dX12_pullBy_75 ?_
      refine lv_iload_n F.1 F.2.1 dX12_pullBy_78 rfl (lv_at hl 1 rfl) ?_
      obtain ⟨hg19, hr⟩ := g_no hr
      refine ar_i F hw 1 rfl hg19 dX12_pullBy_79 ?_
      obtain ⟨hg20, hr⟩ := g_no hr
      refine aw_i F hw 2 rfl hg20 dX12_pullBy_80 (fun H locs hw => ?_)
      replace hw : Wd dd g mv A s H locs (w_X12_pullBy g q_t q_t_moved q_t_at q_t_has q_t_leaks q_t_wants o_t_pailAt o_t_holds o_t_words o_t_sightBehind o_t_sightDoor o_t_sightIs o_t_pad o_t_order o_t_best o_t_wins o_t_later o_t_signs o_t_kept o_t_isKept t_places t_deep t_served t_wordMany t_sights t_padMany t_done t_drawn t_leaked t_drunk t_times t_foundNumber t_keptAt t_isWriting t_moved ((upd t_at (x3).toNatClampNeg ((t_moved (x3).toNatClampNeg)))) t_has t_leaks t_wants) := hw
      refine lv_aload_n F.1 F.2.1 dX12_pullBy_81 rfl (lv_at hl 0 rfl) ?_
      refine gf_X12_43 F hw 0 rfl rfl dX12_pullBy_82 ?_
      refine lv_iload_n F.1 F.2.1 dX12_pullBy_85 rfl (lv_at hl 1 rfl) ?_
      obtain ⟨hg21, hr⟩ := g_no hr
      refine ar_i F hw 3 rfl hg21 dX12_pullBy_86 ?_
      refine lv_aload_n F.1 F.2.1 dX12_pullBy_87 rfl (lv_at hl 0 rfl) ?_
      refine gf_X12_16 F hw 0 rfl rfl dX12_pullBy_88 ?_
      refine lv_iload_n F.1 F.2.1 dX12_pullBy_91 rfl (lv_at hl 1 rfl) ?_
      obtain ⟨hg22, hr⟩ := g_no hr
      refine ar_i F hw 4 rfl hg22 dX12_pullBy_92 ?_
      refine lv_icmp_ge (tgt := 105) F.1 F.2.1 dX12_pullBy_93 (by decide) (fun hc23 => ?_) (fun hc23 => ?_)
      · replace hr := (if_pos hc23).symm.trans hr
        refine lv_aload_n F.1 F.2.1 dX12_pullBy_105 rfl (lv_at hl 0 rfl) ?_
        refine gf_X12_16 F hw 0 rfl rfl dX12_pullBy_106 ?_
        refine lv_iload_n F.1 F.2.1 dX12_pullBy_109 rfl (lv_at hl 1 rfl) ?_
        obtain ⟨hg24, hr⟩ := g_no hr
        refine ar_i F hw 4 rfl hg24 dX12_pullBy_110 ?_
        exact b_X12_pullBy_111 F hret hlk (ih) hr hw (lv_sub hl [0, 1] rfl)
      · replace hr := (if_neg hc23).symm.trans hr
        refine lv_aload_n F.1 F.2.1 dX12_pullBy_96 rfl (lv_at hl 0 rfl) ?_
        refine gf_X12_43 F hw 0 rfl rfl dX12_pullBy_97 ?_
        refine lv_iload_n F.1 F.2.1 dX12_pullBy_100 rfl (lv_at hl 1 rfl) ?_
        obtain ⟨hg25, hr⟩ := g_no hr
        refine ar_i F hw 3 rfl hg25 dX12_pullBy_101 ?_
        refine lv_goto (tgt := 111) F.1 F.2.1 dX12_pullBy_102 (by decide) ?_
        exact b_X12_pullBy_111 F hret hlk (ih) hr hw (lv_sub hl [0, 1] rfl)
set_option maxHeartbeats 4000000 in
set_option maxRecDepth 100000 in
theorem b_X12_pullBy_26 {q_t q_t_moved q_t_at q_t_has q_t_leaks q_t_wants : Nat} {z : Int32 × Int32 × Int32 × Int32 × Int32 × (Nat → Int32) × (Nat → Int32) × (Nat → Int32)} (F : Fx p m c cX12_pullBy 5 s args RX12) (hret : meth.sig.returnType = none) (hlk : meth.locks = false) : ∀ (n : Nat), ∀ {x2 : Int32} {x3 : Int32} {t_places : Int32} {t_deep : Int32} {t_done : Int32} {t_drawn : Int32} {t_leaked : Int32} {t_drunk : Int32} {t_times : Int32} {t_moved : Nat → Int32} {t_at : Nat → Int32} {t_has : Nat → Int32} {t_leaks : Nat → Int32} {t_wants : Nat → Int32} {t_served : Int32} {t_wordMany : Int32} {t_sights : Int32} {t_padMany : Int32} {t_foundNumber : Int32} {t_keptAt : Int32} {t_isWriting : Int32} {o_t_pailAt : Value} {o_t_holds : Value} {o_t_words : Value} {o_t_sightBehind : Value} {o_t_sightDoor : Value} {o_t_sightIs : Value} {o_t_pad : Value} {o_t_order : Value} {o_t_best : Value} {o_t_wins : Value} {o_t_later : Value} {o_t_signs : Value} {o_t_kept : Value} {o_t_isKept : Value} {H : Heap} {locs : List Loc} {ls : Array Slot}, f_X12_pullBy_26  n x2 x3 t_places t_deep t_done t_drawn t_leaked t_drunk t_times t_moved t_at t_has t_leaks t_wants = some z → Wd dd g mv A s H locs (w_X12_pullBy g q_t q_t_moved q_t_at q_t_has q_t_leaks q_t_wants o_t_pailAt o_t_holds o_t_words o_t_sightBehind o_t_sightDoor o_t_sightIs o_t_pad o_t_order o_t_best o_t_wins o_t_later o_t_signs o_t_kept o_t_isKept t_places t_deep t_served t_wordMany t_sights t_padMany t_done t_drawn t_leaked t_drunk t_times t_foundNumber t_keptAt t_isWriting t_moved t_at t_has t_leaks t_wants) → lv_has ls 5 [(0, .ref q_t), (2, .int x2), (3, .int x3)] → W p l e (rmH (0) 0 0) s m args below meth c H locs 0 0 (MQ below (Qo dd g none (fun u : Unit => (w_X12_pullBy g q_t q_t_moved q_t_at q_t_has q_t_leaks q_t_wants o_t_pailAt o_t_holds o_t_words o_t_sightBehind o_t_sightDoor o_t_sightIs o_t_pad o_t_order o_t_best o_t_wins o_t_later o_t_signs o_t_kept o_t_isKept t_places t_deep t_served t_wordMany t_sights t_padMany z.1 z.2.1 z.2.2.1 z.2.2.2.1 z.2.2.2.2.1 t_foundNumber t_keptAt t_isWriting z.2.2.2.2.2.1 z.2.2.2.2.2.2.1 z.2.2.2.2.2.2.2 t_leaks t_wants)) A) args s 0 0 A) (F0 m 26 ls []) := by
  intro n
  induction n with
  | zero =>
    intros
    rename_i hr _ _
    cases hr
  | succ n ih =>
    intro x2 x3 t_places t_deep t_done t_drawn t_leaked t_drunk t_times t_moved t_at t_has t_leaks t_wants t_served t_wordMany t_sights t_padMany t_foundNumber t_keptAt t_isWriting o_t_pailAt o_t_holds o_t_words o_t_sightBehind o_t_sightDoor o_t_sightIs o_t_pad o_t_order o_t_best o_t_wins o_t_later o_t_signs o_t_kept o_t_isKept H locs ls hr hw hl
    refine lv_iload_n F.1 F.2.1 dX12_pullBy_26 rfl (lv_at hl 2 rfl) ?_
    refine lv_aload_n F.1 F.2.1 dX12_pullBy_27 rfl (lv_at hl 0 rfl) ?_
    refine gf_X12_77 F hw 0 rfl rfl dX12_pullBy_28 ?_
    refine lv_icmp_ge (tgt := 59) F.1 F.2.1 dX12_pullBy_31 (by decide) (fun hc26 => ?_) (fun hc26 => ?_)
    · replace hr := (if_pos hc26).symm.trans hr
      refine lv_iconst (v := 0) F.1 F.2.1 dX12_pullBy_59 (by decide) ?_
      refine lv_istore_n (lv' := [(3, .int (0 : Int32)), (0, .ref q_t), (2, .int x2)]) F.1 F.2.1 dX12_pullBy_60 rfl hl (by decide) rfl (fun ls hl => ?_)
      exact b_X12_pullBy_61 F hret hlk  fuel hr hw (lv_sub hl [1, 0] rfl)
    · replace hr := (if_neg hc26).symm.trans hr
      refine lv_aload_n F.1 F.2.1 dX12_pullBy_34 rfl (lv_at hl 0 rfl) ?_
      refine gf_X12_40 F hw 0 rfl rfl dX12_pullBy_35 ?_
      refine lv_iload_n F.1 F.2.1 dX12_pullBy_38 rfl (lv_at hl 2 rfl) ?_
      refine lv_iload_n F.1 F.2.1 dX12_pullBy_39 rfl (lv_at hl 1 rfl) ?_
      refine lv_iadd F.1 F.2.1 dX12_pullBy_40 ?_
      refine lv_aload_n F.1 F.2.1 dX12_pullBy_41 rfl (lv_at hl 0 rfl) ?_
      refine gf_X12_77 F hw 0 rfl rfl dX12_pullBy_42 ?_
      obtain ⟨hg27, hr⟩ := g_no hr
      refine lv_irem F.1 F.2.1 dX12_pullBy_45 hg27 ?_
      refine lv_aload_n F.1 F.2.1 dX12_pullBy_46 rfl (lv_at hl 0 rfl) ?_
      refine gf_X12_37 F hw 0 rfl rfl dX12_pullBy_47 ?_
      refine lv_iload_n F.1 F.2.1 dX12_pullBy_50 rfl (lv_at hl 2 rfl) ?_
      obtain ⟨hg28, hr⟩ := g_no hr
      refine ar_i F hw 2 rfl hg28 dX12_pullBy_51 ?_
      obtain ⟨hg29, hr⟩ := g_no hr
      refine aw_i F hw 1 rfl hg29 dX12_pullBy_52 (fun H locs hw => ?_)
      replace hw : Wd dd g mv A s H locs (w_X12_pullBy g q_t q_t_moved q_t_at q_t_has q_t_leaks q_t_wants o_t_pailAt o_t_holds o_t_words o_t_sightBehind o_t_sightDoor o_t_sightIs o_t_pad o_t_order o_t_best o_t_wins o_t_later o_t_signs o_t_kept o_t_isKept t_places t_deep t_served t_wordMany t_sights t_padMany t_done t_drawn t_leaked t_drunk t_times t_foundNumber t_keptAt t_isWriting ((upd t_moved (((x3 + x2) - (x3 + x2) / t_places * t_places)).toNatClampNeg ((t_at (x3).toNatClampNeg)))) t_at t_has t_leaks t_wants) := hw
      refine lv_iinc (v := (x3 + 1)) (lv' := [(3, .int (x3 + 1)), (0, .ref q_t), (2, .int x2)]) F.1 F.2.1 dX12_pullBy_53 hl (k := 2) rfl rfl (by decide) rfl (fun ls hl => ?_)
      refine lv_goto (tgt := 26) F.1 F.2.1 dX12_pullBy_56 (by decide) ?_
      exact ih hr hw (lv_sub hl [1, 2, 0] rfl)
set_option maxHeartbeats 4000000 in
set_option maxRecDepth 100000 in
theorem b_X12_pullBy_23 {q_t q_t_moved q_t_at q_t_has q_t_leaks q_t_wants : Nat} {z : Int32 × Int32 × Int32 × Int32 × Int32 × (Nat → Int32) × (Nat → Int32) × (Nat → Int32)} (F : Fx p m c cX12_pullBy 5 s args RX12) (hret : meth.sig.returnType = none) (hlk : meth.locks = false) : ∀ {y0 : Int32} {t_places : Int32} {t_deep : Int32} {t_done : Int32} {t_drawn : Int32} {t_leaked : Int32} {t_drunk : Int32} {t_times : Int32} {t_moved : Nat → Int32} {t_at : Nat → Int32} {t_has : Nat → Int32} {t_leaks : Nat → Int32} {t_wants : Nat → Int32} {t_served : Int32} {t_wordMany : Int32} {t_sights : Int32} {t_padMany : Int32} {t_foundNumber : Int32} {t_keptAt : Int32} {t_isWriting : Int32} {o_t_pailAt : Value} {o_t_holds : Value} {o_t_words : Value} {o_t_sightBehind : Value} {o_t_sightDoor : Value} {o_t_sightIs : Value} {o_t_pad : Value} {o_t_order : Value} {o_t_best : Value} {o_t_wins : Value} {o_t_later : Value} {o_t_signs : Value} {o_t_kept : Value} {o_t_isKept : Value} {H : Heap} {locs : List Loc} {ls : Array Slot}, f_X12_pullBy_23  y0 t_places t_deep t_done t_drawn t_leaked t_drunk t_times t_moved t_at t_has t_leaks t_wants = some z → Wd dd g mv A s H locs (w_X12_pullBy g q_t q_t_moved q_t_at q_t_has q_t_leaks q_t_wants o_t_pailAt o_t_holds o_t_words o_t_sightBehind o_t_sightDoor o_t_sightIs o_t_pad o_t_order o_t_best o_t_wins o_t_later o_t_signs o_t_kept o_t_isKept t_places t_deep t_served t_wordMany t_sights t_padMany t_done t_drawn t_leaked t_drunk t_times t_foundNumber t_keptAt t_isWriting t_moved t_at t_has t_leaks t_wants) → lv_has ls 5 [(0, .ref q_t)] → W p l e (rmH (0) 0 0) s m args below meth c H locs 0 0 (MQ below (Qo dd g none (fun u : Unit => (w_X12_pullBy g q_t q_t_moved q_t_at q_t_has q_t_leaks q_t_wants o_t_pailAt o_t_holds o_t_words o_t_sightBehind o_t_sightDoor o_t_sightIs o_t_pad o_t_order o_t_best o_t_wins o_t_later o_t_signs o_t_kept o_t_isKept t_places t_deep t_served t_wordMany t_sights t_padMany z.1 z.2.1 z.2.2.1 z.2.2.2.1 z.2.2.2.2.1 t_foundNumber t_keptAt t_isWriting z.2.2.2.2.2.1 z.2.2.2.2.2.2.1 z.2.2.2.2.2.2.2 t_leaks t_wants)) A) args s 0 0 A) (F0 m 23 ls [.int y0]) := by
  intro y0 t_places t_deep t_done t_drawn t_leaked t_drunk t_times t_moved t_at t_has t_leaks t_wants t_served t_wordMany t_sights t_padMany t_foundNumber t_keptAt t_isWriting o_t_pailAt o_t_holds o_t_words o_t_sightBehind o_t_sightDoor o_t_sightIs o_t_pad o_t_order o_t_best o_t_wins o_t_later o_t_signs o_t_kept o_t_isKept H locs ls hr hw hl
  refine lv_istore_n (lv' := [(2, .int y0), (0, .ref q_t)]) F.1 F.2.1 dX12_pullBy_23 rfl hl (by decide) rfl (fun ls hl => ?_)
  refine lv_iconst (v := 0) F.1 F.2.1 dX12_pullBy_24 (by decide) ?_
  refine lv_istore_n (lv' := [(3, .int (0 : Int32)), (2, .int y0), (0, .ref q_t)]) F.1 F.2.1 dX12_pullBy_25 rfl hl (by decide) rfl (fun ls hl => ?_)
  exact b_X12_pullBy_26 F hret hlk  fuel hr hw (lv_sub hl [2, 1, 0] rfl)
set_option maxHeartbeats 4000000 in
set_option maxRecDepth 100000 in
theorem c_X12_pullBy (l : Launch) (dd : va_G) (g : Nat → ClassId) (mv : Nat) (q_t : Nat) (q_t_moved : Nat) (q_t_at : Nat) (q_t_has : Nat) (q_t_leaks : Nat) (q_t_wants : Nat) (o_t_pailAt : Value) (o_t_holds : Value) (o_t_words : Value) (o_t_sightBehind : Value) (o_t_sightDoor : Value) (o_t_sightIs : Value) (o_t_pad : Value) (o_t_order : Value) (o_t_best : Value) (o_t_wins : Value) (o_t_later : Value) (o_t_signs : Value) (o_t_kept : Value) (o_t_isKept : Value) (t_places : Int32) (t_deep : Int32) (t_served : Int32) (t_wordMany : Int32) (t_sights : Int32) (t_padMany : Int32) (t_done : Int32) (t_drawn : Int32) (t_leaked : Int32) (t_drunk : Int32) (t_times : Int32) (t_foundNumber : Int32) (t_keptAt : Int32) (t_isWriting : Int32) (t_moved : Nat → Int32) (t_at : Nat → Int32) (t_has : Nat → Int32) (t_leaks : Nat → Int32) (t_wants : Nat → Int32) (a1 : Int32) (z : Int32 × Int32 × Int32 × Int32 × Int32 × (Nat → Int32) × (Nat → Int32) × (Nat → Int32)) (hr : f_X12_pullBy t_places t_deep t_done t_drawn t_leaked t_drunk t_times t_moved t_at t_has t_leaks t_wants a1 = some z) (sz : Nat) : Met l yX12_pullBy (.code yX12_pullBy cX12_pullBy 5 none :: WS) (rmH 0 0 0) (va_Pc [.ref q_t, .int a1] (PW dd g mv (w_X12_pullBy g q_t q_t_moved q_t_at q_t_has q_t_leaks q_t_wants o_t_pailAt o_t_holds o_t_words o_t_sightBehind o_t_sightDoor o_t_sightIs o_t_pad o_t_order o_t_best o_t_wins o_t_later o_t_signs o_t_kept o_t_isKept t_places t_deep t_served t_wordMany t_sights t_padMany t_done t_drawn t_leaked t_drunk t_times t_foundNumber t_keptAt t_isWriting t_moved t_at t_has t_leaks t_wants) sz)) (Qo dd g none (fun u : Unit => (w_X12_pullBy g q_t q_t_moved q_t_at q_t_has q_t_leaks q_t_wants o_t_pailAt o_t_holds o_t_words o_t_sightBehind o_t_sightDoor o_t_sightIs o_t_pad o_t_order o_t_best o_t_wins o_t_later o_t_signs o_t_kept o_t_isKept t_places t_deep t_served t_wordMany t_sights t_padMany z.1 z.2.1 z.2.2.1 z.2.2.2.1 z.2.2.2.2.1 t_foundNumber t_keptAt t_isWriting z.2.2.2.2.2.1 z.2.2.2.2.2.2.1 z.2.2.2.2.2.2.2 t_leaks t_wants)) (va_A (w_X12_pullBy g q_t q_t_moved q_t_at q_t_has q_t_leaks q_t_wants o_t_pailAt o_t_holds o_t_words o_t_sightBehind o_t_sightDoor o_t_sightIs o_t_pad o_t_order o_t_best o_t_wins o_t_later o_t_signs o_t_kept o_t_isKept t_places t_deep t_served t_wordMany t_sights t_padMany t_done t_drawn t_leaked t_drunk t_times t_foundNumber t_keptAt t_isWriting t_moved t_at t_has t_leaks t_wants) sz)) 0 0 (va_A (w_X12_pullBy g q_t q_t_moved q_t_at q_t_has q_t_leaks q_t_wants o_t_pailAt o_t_holds o_t_words o_t_sightBehind o_t_sightDoor o_t_sightIs o_t_pad o_t_order o_t_best o_t_wins o_t_later o_t_signs o_t_kept o_t_isKept t_places t_deep t_served t_wordMany t_sights t_padMany t_done t_drawn t_leaked t_drunk t_times t_foundNumber t_keptAt t_isWriting t_moved t_at t_has t_leaks t_wants) sz) := by
  refine Met_intro (by decide) (Nat.le_of_ble_eq_true rfl) ?_
  intro p e s m below meth c A ls F hret hlk hin hw hl
  replace hl : lv_has ls 5 [(0, .ref q_t), (1, .int a1)] := hl
  refine lv_iload_n F.1 F.2.1 dX12_pullBy_0 rfl (lv_at hl 1 rfl) ?_
  refine lv_if_ne (tgt := 8) F.1 F.2.1 dX12_pullBy_1 (by decide) (fun hc30 => ?_) (fun hc30 => ?_)
  · replace hr := (if_neg hc30).symm.trans hr
    refine lv_iload_n F.1 F.2.1 dX12_pullBy_8 rfl (lv_at hl 1 rfl) ?_
    refine lv_iconst (v := 1) F.1 F.2.1 dX12_pullBy_9 (by decide) ?_
    refine lv_icmp_ne (tgt := 22) F.1 F.2.1 dX12_pullBy_10 (by decide) (fun hc31 => ?_) (fun hc31 => ?_)
    · replace hr := (if_neg hc31).symm.trans hr
      refine lv_iconst (v := 0) F.1 F.2.1 dX12_pullBy_22 (by decide) ?_
      exact b_X12_pullBy_23 F hret hlk  hr hw (lv_sub hl [0] rfl)
    · replace hr := (if_pos hc31).symm.trans hr
      refine lv_aload_n F.1 F.2.1 dX12_pullBy_13 rfl (lv_at hl 0 rfl) ?_
      refine gf_X12_77 F hw 0 rfl rfl dX12_pullBy_14 ?_
      refine lv_iconst (v := 1) F.1 F.2.1 dX12_pullBy_17 (by decide) ?_
      refine lv_isub F.1 F.2.1 dX12_pullBy_18 ?_
      refine lv_goto (tgt := 23) F.1 F.2.1 dX12_pullBy_19 (by decide) ?_
      exact b_X12_pullBy_23 F hret hlk  hr hw (lv_sub hl [0] rfl)
  · replace hr := (if_pos hc30).symm.trans hr
    refine lv_iconst (v := 1) F.1 F.2.1 dX12_pullBy_4 (by decide) ?_
    refine lv_goto (tgt := 23) F.1 F.2.1 dX12_pullBy_5 (by decide) ?_
    exact b_X12_pullBy_23 F hret hlk  hr hw (lv_sub hl [0] rfl)
end WALK
