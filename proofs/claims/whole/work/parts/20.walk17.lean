section WALK
variable {p : Program} {l : Launch} {e : Env} {s : State} {m : MethodId} {args : Array Value} {below : List Frame} {meth : Method} {c : Code} {dd : va_G} {g : Nat → ClassId} {mv : Nat} {A : Nat → Prop}
set_option maxHeartbeats 4000000 in
set_option maxRecDepth 100000 in
theorem c_X12_image (l : Launch) (dd : va_G) (g : Nat → ClassId) (mv : Nat) (q_t : Nat) (q_t_kept : Nat) (q_t_pailAt : Nat) (q_t_holds : Nat) (q_t_leaks : Nat) (q_t_wants : Nat) (q_t_words : Nat) (q_t_sightBehind : Nat) (q_t_sightDoor : Nat) (q_t_sightIs : Nat) (q_t_isKept : Nat) (o_t_pad : Value) (o_t_at : Value) (o_t_moved : Value) (o_t_has : Value) (o_t_order : Value) (o_t_best : Value) (o_t_wins : Value) (o_t_later : Value) (o_t_signs : Value) (t_places : Int32) (t_deep : Int32) (t_served : Int32) (t_wordMany : Int32) (t_sights : Int32) (t_padMany : Int32) (t_done : Int32) (t_drawn : Int32) (t_leaked : Int32) (t_drunk : Int32) (t_times : Int32) (t_foundNumber : Int32) (t_keptAt : Int32) (t_isWriting : Int32) (t_kept : Nat → Int32) (t_pailAt : Nat → Int32) (t_holds : Nat → Int32) (t_leaks : Nat → Int32) (t_wants : Nat → Int32) (t_words : Nat → Int32) (t_sightBehind : Nat → Int32) (t_sightDoor : Nat → Int32) (t_sightIs : Nat → Int32) (t_isKept : Nat → Int32) (a1 : Int32) (z : Int32 × Int32 × Int32 × Int32 × Int32 × Int32 × Int32 × Int32 × (Nat → Int32) × (Nat → Int32) × (Nat → Int32) × (Nat → Int32) × (Nat → Int32) × (Nat → Int32) × (Nat → Int32) × (Nat → Int32) × (Nat → Int32) × (Nat → Int32)) (hr : f_X12_image t_places t_deep t_served t_wordMany t_sights t_keptAt t_isWriting t_kept t_pailAt t_holds t_leaks t_wants t_words t_sightBehind t_sightDoor t_sightIs t_isKept a1 = some z) (sz : Nat) : Met l yX12_image (.code yX12_image cX12_image 2 (some .int) :: WS) (rmH 2 0 0) (va_Pc [.ref q_t, .int a1] (PW dd g mv (w_X12_image g q_t q_t_kept q_t_pailAt q_t_holds q_t_leaks q_t_wants q_t_words q_t_sightBehind q_t_sightDoor q_t_sightIs q_t_isKept o_t_pad o_t_at o_t_moved o_t_has o_t_order o_t_best o_t_wins o_t_later o_t_signs t_places t_deep t_served t_wordMany t_sights t_padMany t_done t_drawn t_leaked t_drunk t_times t_foundNumber t_keptAt t_isWriting t_kept t_pailAt t_holds t_leaks t_wants t_words t_sightBehind t_sightDoor t_sightIs t_isKept) sz)) (Qo dd g (some (.int z.1)) (fun u : Unit => (w_X12_image g q_t q_t_kept q_t_pailAt q_t_holds q_t_leaks q_t_wants q_t_words q_t_sightBehind q_t_sightDoor q_t_sightIs q_t_isKept o_t_pad o_t_at o_t_moved o_t_has o_t_order o_t_best o_t_wins o_t_later o_t_signs z.2.1 z.2.2.1 z.2.2.2.1 z.2.2.2.2.1 z.2.2.2.2.2.1 t_padMany t_done t_drawn t_leaked t_drunk t_times t_foundNumber z.2.2.2.2.2.2.1 z.2.2.2.2.2.2.2.1 z.2.2.2.2.2.2.2.2.1 z.2.2.2.2.2.2.2.2.2.1 z.2.2.2.2.2.2.2.2.2.2.1 z.2.2.2.2.2.2.2.2.2.2.2.1 z.2.2.2.2.2.2.2.2.2.2.2.2.1 z.2.2.2.2.2.2.2.2.2.2.2.2.2.1 z.2.2.2.2.2.2.2.2.2.2.2.2.2.2.1 z.2.2.2.2.2.2.2.2.2.2.2.2.2.2.2.1 z.2.2.2.2.2.2.2.2.2.2.2.2.2.2.2.2.1 z.2.2.2.2.2.2.2.2.2.2.2.2.2.2.2.2.2)) (va_A (w_X12_image g q_t q_t_kept q_t_pailAt q_t_holds q_t_leaks q_t_wants q_t_words q_t_sightBehind q_t_sightDoor q_t_sightIs q_t_isKept o_t_pad o_t_at o_t_moved o_t_has o_t_order o_t_best o_t_wins o_t_later o_t_signs t_places t_deep t_served t_wordMany t_sights t_padMany t_done t_drawn t_leaked t_drunk t_times t_foundNumber t_keptAt t_isWriting t_kept t_pailAt t_holds t_leaks t_wants t_words t_sightBehind t_sightDoor t_sightIs t_isKept) sz)) 0 0 (va_A (w_X12_image g q_t q_t_kept q_t_pailAt q_t_holds q_t_leaks q_t_wants q_t_words q_t_sightBehind q_t_sightDoor q_t_sightIs q_t_isKept o_t_pad o_t_at o_t_moved o_t_has o_t_order o_t_best o_t_wins o_t_later o_t_signs t_places t_deep t_served t_wordMany t_sights t_padMany t_done t_drawn t_leaked t_drunk t_times t_foundNumber t_keptAt t_isWriting t_kept t_pailAt t_holds t_leaks t_wants t_words t_sightBehind t_sightDoor t_sightIs t_isKept) sz) := by
  refine Met_intro (by decide) (Nat.le_of_ble_eq_true rfl) ?_
  intro p e s m below meth c A ls F hret hlk hin hw hl
  replace hl : lv_has ls 2 [(0, .ref q_t), (1, .int a1)] := hl
  refine lv_iload_n F.1 F.2.1 dX12_image_0 rfl (lv_at hl 1 rfl) ?_
  refine lv_i2l F.1 F.2.1 dX12_image_1 rfl ?_
  refine lv_lconst (v := 0) F.1 F.2.1 dX12_image_2 (by decide) ?_
  refine lv_lconst (v := 1) F.1 F.2.1 dX12_image_3 (by decide) ?_
  obtain ⟨z1, hz1, hr⟩ := Option.bind_eq_some_iff.mp hr
  refine call_o (wr := [(q_t, .inr (12, [.int t_places, .int t_deep, .ref q_t_pailAt, .ref q_t_holds, .ref q_t_leaks, .ref q_t_wants, .int t_served, .ref q_t_words, .int t_wordMany, .ref q_t_sightBehind, .ref q_t_sightDoor, .ref q_t_sightIs, .int t_sights, o_t_pad, .int t_padMany, o_t_at, o_t_moved, o_t_has, .int t_done, .int t_drawn, .int t_leaked, .int t_drunk, .int t_times, .int t_foundNumber, o_t_order, o_t_best, o_t_wins, o_t_later, o_t_signs, .ref q_t_kept, .ref q_t_isKept, .int t_keptAt, .int t_isWriting])), (q_t_kept, .inl (g 0, 200, .inl t_kept)), (q_t_pailAt, .inl (g 0, 9, .inl t_pailAt)), (q_t_holds, .inl (g 0, 9, .inl t_holds)), (q_t_leaks, .inl (g 0, 9, .inl t_leaks)), (q_t_wants, .inl (g 0, 9, .inl t_wants)), (q_t_words, .inl (g 0, 8, .inl t_words)), (q_t_sightBehind, .inl (g 0, 6, .inl t_sightBehind)), (q_t_sightDoor, .inl (g 0, 6, .inl t_sightDoor)), (q_t_sightIs, .inl (g 0, 6, .inl t_sightIs)), (q_t_isKept, .inl (g 2, 2, .inl t_isKept))]) (run_S (As := [.long a1.toInt64, .long (0 : Int64), .long (1 : Int64)]) (rest := []) F k_X12_86 (c_X12_in l dd g mv a1.toInt64 ((0 : Int64)) ((1 : Int64)) z1 hz1 _) hw [] (by decide) rfl rfl hl.1 rfl (Nat.le_of_ble_eq_true rfl) dX12_image_4 ⟨Nat.le_of_ble_eq_true rfl, Nat.le_of_ble_eq_true rfl⟩ ⟨Nat.le_of_ble_eq_true rfl, Nat.le_of_ble_eq_true rfl⟩) hw [] [0, 1, 2, 3, 4, 5, 6, 7, 8, 9, 10] rfl rfl (by decide) (by decide) (fun u2 H locs hw => ?_)
  replace hw : Wd dd g mv A s H locs (w_X12_image g q_t q_t_kept q_t_pailAt q_t_holds q_t_leaks q_t_wants q_t_words q_t_sightBehind q_t_sightDoor q_t_sightIs q_t_isKept o_t_pad o_t_at o_t_moved o_t_has o_t_order o_t_best o_t_wins o_t_later o_t_signs t_places t_deep t_served t_wordMany t_sights t_padMany t_done t_drawn t_leaked t_drunk t_times t_foundNumber t_keptAt t_isWriting t_kept t_pailAt t_holds t_leaks t_wants t_words t_sightBehind t_sightDoor t_sightIs t_isKept) := hw.sub [0, 1, 2, 3, 4, 5, 6, 7, 8, 9, 10] (by decide) rfl
  refine W.eq (g2 := F0 m 7 ls (.int z1 :: [])) rfl ?_
  refine lv_if_ne (tgt := 13) F.1 F.2.1 dX12_image_7 (by decide) (fun hc3 => ?_) (fun hc3 => ?_)
  · replace hr := (if_neg hc3).symm.trans hr
    refine lv_aload_n F.1 F.2.1 dX12_image_13 rfl (lv_at hl 0 rfl) ?_
    refine lv_bipush (v := 100) F.1 F.2.1 dX12_image_14 (by decide) ?_
    refine lv_iload_n F.1 F.2.1 dX12_image_16 rfl (lv_at hl 1 rfl) ?_
    refine lv_imul F.1 F.2.1 dX12_image_17 ?_
    refine pf_X12_238 F hw 0 rfl (Nat.le_of_ble_eq_true rfl) dX12_image_18 (fun H locs hw => ?_)
    replace hw : Wd dd g mv A s H locs (w_X12_image g q_t q_t_kept q_t_pailAt q_t_holds q_t_leaks q_t_wants q_t_words q_t_sightBehind q_t_sightDoor q_t_sightIs q_t_isKept o_t_pad o_t_at o_t_moved o_t_has o_t_order o_t_best o_t_wins o_t_later o_t_signs t_places t_deep t_served t_wordMany t_sights t_padMany t_done t_drawn t_leaked t_drunk t_times t_foundNumber (((100 : Int32) * a1)) t_isWriting t_kept t_pailAt t_holds t_leaks t_wants t_words t_sightBehind t_sightDoor t_sightIs t_isKept) := hw
    refine lv_aload_n F.1 F.2.1 dX12_image_21 rfl (lv_at hl 0 rfl) ?_
    refine lv_iconst (v := 1) F.1 F.2.1 dX12_image_22 (by decide) ?_
    refine pf_X12_234 F hw 0 rfl (by decide) (by decide) (Nat.le_of_ble_eq_true rfl) dX12_image_23 (fun H locs hw => ?_)
    replace hw : Wd dd g mv A s H locs (w_X12_image g q_t q_t_kept q_t_pailAt q_t_holds q_t_leaks q_t_wants q_t_words q_t_sightBehind q_t_sightDoor q_t_sightIs q_t_isKept o_t_pad o_t_at o_t_moved o_t_has o_t_order o_t_best o_t_wins o_t_later o_t_signs t_places t_deep t_served t_wordMany t_sights t_padMany t_done t_drawn t_leaked t_drunk t_times t_foundNumber (((100 : Int32) * a1)) ((1 : Int32)) t_kept t_pailAt t_holds t_leaks t_wants t_words t_sightBehind t_sightDoor t_sightIs t_isKept) := hw
    refine lv_aload_n F.1 F.2.1 dX12_image_26 rfl (lv_at hl 0 rfl) ?_
    obtain ⟨z4, hz4, hr⟩ := Option.bind_eq_some_iff.mp hr
    refine call_o (wr := [(q_t_isKept, .inl (g 2, 2, .inl t_isKept))]) (run_V (As := []) (rest := []) F k_X12_244 (c_X12_passAll l dd g mv q_t q_t_kept q_t_pailAt q_t_holds q_t_leaks q_t_wants q_t_words q_t_sightBehind q_t_sightDoor q_t_sightIs o_t_pad o_t_at o_t_moved o_t_has o_t_order o_t_best o_t_wins o_t_later o_t_signs ((.ref q_t_isKept)) t_places t_deep t_served t_wordMany t_sights t_padMany t_done t_drawn t_leaked t_drunk t_times t_foundNumber (((100 : Int32) * a1)) ((1 : Int32)) t_kept t_pailAt t_holds t_leaks t_wants t_words t_sightBehind t_sightDoor t_sightIs z4 hz4 _) hw [0, 1, 2, 3, 4, 5, 6, 7, 8, 9] (by decide) rfl (ci := 12) rfl rfl rfl rfl hl.1 rfl (Nat.le_of_ble_eq_true rfl) dX12_image_27 ⟨Nat.le_of_ble_eq_true rfl, Nat.le_of_ble_eq_true rfl⟩ ⟨Nat.le_of_ble_eq_true rfl, Nat.le_of_ble_eq_true rfl⟩) hw [0, 1, 2, 3, 4, 5, 6, 7, 8, 9] [10] rfl rfl (by decide) (by decide) (fun u5 H locs hw => ?_)
    replace hw : Wd dd g mv A s H locs (w_X12_image g q_t q_t_kept q_t_pailAt q_t_holds q_t_leaks q_t_wants q_t_words q_t_sightBehind q_t_sightDoor q_t_sightIs q_t_isKept o_t_pad o_t_at o_t_moved o_t_has o_t_order o_t_best o_t_wins o_t_later o_t_signs z4.1 z4.2.1 z4.2.2.1 z4.2.2.2.1 z4.2.2.2.2.1 t_padMany t_done t_drawn t_leaked t_drunk t_times t_foundNumber z4.2.2.2.2.2.1 ((1 : Int32)) z4.2.2.2.2.2.2.1 z4.2.2.2.2.2.2.2.1 z4.2.2.2.2.2.2.2.2.1 z4.2.2.2.2.2.2.2.2.2.1 z4.2.2.2.2.2.2.2.2.2.2.1 z4.2.2.2.2.2.2.2.2.2.2.2.1 z4.2.2.2.2.2.2.2.2.2.2.2.2.1 z4.2.2.2.2.2.2.2.2.2.2.2.2.2.1 z4.2.2.2.2.2.2.2.2.2.2.2.2.2.2 t_isKept) := hw.sub [1, 2, 3, 4, 5, 6, 7, 8, 9, 10, 0] (by decide) rfl
    refine lv_aload_n F.1 F.2.1 dX12_image_30 rfl (lv_at hl 0 rfl) ?_
    refine gf_X12_65 F hw 0 rfl rfl dX12_image_31 ?_
    refine lv_iload_n F.1 F.2.1 dX12_image_34 rfl (lv_at hl 1 rfl) ?_
    refine lv_iconst (v := 1) F.1 F.2.1 dX12_image_35 (by decide) ?_
    obtain ⟨hg6, hr⟩ := g_no hr
    refine aw_z F hw 10 rfl hg6 dX12_image_36 (fun H locs hw => ?_)
    replace hw : Wd dd g mv A s H locs (w_X12_image g q_t q_t_kept q_t_pailAt q_t_holds q_t_leaks q_t_wants q_t_words q_t_sightBehind q_t_sightDoor q_t_sightIs q_t_isKept o_t_pad o_t_at o_t_moved o_t_has o_t_order o_t_best o_t_wins o_t_later o_t_signs z4.1 z4.2.1 z4.2.2.1 z4.2.2.2.1 z4.2.2.2.2.1 t_padMany t_done t_drawn t_leaked t_drunk t_times t_foundNumber z4.2.2.2.2.2.1 ((1 : Int32)) z4.2.2.2.2.2.2.1 z4.2.2.2.2.2.2.2.1 z4.2.2.2.2.2.2.2.2.1 z4.2.2.2.2.2.2.2.2.2.1 z4.2.2.2.2.2.2.2.2.2.2.1 z4.2.2.2.2.2.2.2.2.2.2.2.1 z4.2.2.2.2.2.2.2.2.2.2.2.2.1 z4.2.2.2.2.2.2.2.2.2.2.2.2.2.1 z4.2.2.2.2.2.2.2.2.2.2.2.2.2.2 ((upd t_isKept (a1).toNatClampNeg ((vp_nar .boolean ((1 : Int32))))))) := hw
    refine lv_iconst (v := 1) F.1 F.2.1 dX12_image_37 (by decide) ?_
    cases hr
    exact ret_i () F hret hlk hw (Nat.le_refl _) (Nat.le_refl _) dX12_image_38
  · replace hr := (if_pos hc3).symm.trans hr
    refine lv_bipush (v := -2) F.1 F.2.1 dX12_image_10 (by decide) ?_
    cases hr
    exact ret_i () F hret hlk hw (Nat.le_refl _) (Nat.le_refl _) dX12_image_12
set_option maxHeartbeats 4000000 in
set_option maxRecDepth 100000 in
theorem c_X12_restore (l : Launch) (dd : va_G) (g : Nat → ClassId) (mv : Nat) (q_t : Nat) (q_t_isKept : Nat) (q_t_kept : Nat) (q_t_pailAt : Nat) (q_t_holds : Nat) (q_t_leaks : Nat) (q_t_wants : Nat) (q_t_words : Nat) (q_t_sightBehind : Nat) (q_t_sightDoor : Nat) (q_t_sightIs : Nat) (o_t_pad : Value) (o_t_at : Value) (o_t_moved : Value) (o_t_has : Value) (o_t_order : Value) (o_t_best : Value) (o_t_wins : Value) (o_t_later : Value) (o_t_signs : Value) (t_places : Int32) (t_deep : Int32) (t_served : Int32) (t_wordMany : Int32) (t_sights : Int32) (t_padMany : Int32) (t_done : Int32) (t_drawn : Int32) (t_leaked : Int32) (t_drunk : Int32) (t_times : Int32) (t_foundNumber : Int32) (t_keptAt : Int32) (t_isWriting : Int32) (t_isKept : Nat → Int32) (t_kept : Nat → Int32) (t_pailAt : Nat → Int32) (t_holds : Nat → Int32) (t_leaks : Nat → Int32) (t_wants : Nat → Int32) (t_words : Nat → Int32) (t_sightBehind : Nat → Int32) (t_sightDoor : Nat → Int32) (t_sightIs : Nat → Int32) (a1 : Int32) (z : Int32 × Int32 × Int32 × Int32 × Int32 × Int32 × Int32 × Int32 × (Nat → Int32) × (Nat → Int32) × (Nat → Int32) × (Nat → Int32) × (Nat → Int32) × (Nat → Int32) × (Nat → Int32) × (Nat → Int32) × (Nat → Int32)) (hr : f_X12_restore t_places t_deep t_served t_wordMany t_sights t_keptAt t_isWriting t_isKept t_kept t_pailAt t_holds t_leaks t_wants t_words t_sightBehind t_sightDoor t_sightIs a1 = some z) (sz : Nat) : Met l yX12_restore (.code yX12_restore cX12_restore 2 (some .int) :: WS) (rmH 2 0 0) (va_Pc [.ref q_t, .int a1] (PW dd g mv (w_X12_restore g q_t q_t_isKept q_t_kept q_t_pailAt q_t_holds q_t_leaks q_t_wants q_t_words q_t_sightBehind q_t_sightDoor q_t_sightIs o_t_pad o_t_at o_t_moved o_t_has o_t_order o_t_best o_t_wins o_t_later o_t_signs t_places t_deep t_served t_wordMany t_sights t_padMany t_done t_drawn t_leaked t_drunk t_times t_foundNumber t_keptAt t_isWriting t_isKept t_kept t_pailAt t_holds t_leaks t_wants t_words t_sightBehind t_sightDoor t_sightIs) sz)) (Qo dd g (some (.int z.1)) (fun u : Unit => (w_X12_restore g q_t q_t_isKept q_t_kept q_t_pailAt q_t_holds q_t_leaks q_t_wants q_t_words q_t_sightBehind q_t_sightDoor q_t_sightIs o_t_pad o_t_at o_t_moved o_t_has o_t_order o_t_best o_t_wins o_t_later o_t_signs z.2.1 z.2.2.1 z.2.2.2.1 z.2.2.2.2.1 z.2.2.2.2.2.1 t_padMany t_done t_drawn t_leaked t_drunk t_times t_foundNumber z.2.2.2.2.2.2.1 z.2.2.2.2.2.2.2.1 t_isKept z.2.2.2.2.2.2.2.2.1 z.2.2.2.2.2.2.2.2.2.1 z.2.2.2.2.2.2.2.2.2.2.1 z.2.2.2.2.2.2.2.2.2.2.2.1 z.2.2.2.2.2.2.2.2.2.2.2.2.1 z.2.2.2.2.2.2.2.2.2.2.2.2.2.1 z.2.2.2.2.2.2.2.2.2.2.2.2.2.2.1 z.2.2.2.2.2.2.2.2.2.2.2.2.2.2.2.1 z.2.2.2.2.2.2.2.2.2.2.2.2.2.2.2.2)) (va_A (w_X12_restore g q_t q_t_isKept q_t_kept q_t_pailAt q_t_holds q_t_leaks q_t_wants q_t_words q_t_sightBehind q_t_sightDoor q_t_sightIs o_t_pad o_t_at o_t_moved o_t_has o_t_order o_t_best o_t_wins o_t_later o_t_signs t_places t_deep t_served t_wordMany t_sights t_padMany t_done t_drawn t_leaked t_drunk t_times t_foundNumber t_keptAt t_isWriting t_isKept t_kept t_pailAt t_holds t_leaks t_wants t_words t_sightBehind t_sightDoor t_sightIs) sz)) 0 0 (va_A (w_X12_restore g q_t q_t_isKept q_t_kept q_t_pailAt q_t_holds q_t_leaks q_t_wants q_t_words q_t_sightBehind q_t_sightDoor q_t_sightIs o_t_pad o_t_at o_t_moved o_t_has o_t_order o_t_best o_t_wins o_t_later o_t_signs t_places t_deep t_served t_wordMany t_sights t_padMany t_done t_drawn t_leaked t_drunk t_times t_foundNumber t_keptAt t_isWriting t_isKept t_kept t_pailAt t_holds t_leaks t_wants t_words t_sightBehind t_sightDoor t_sightIs) sz) := by
  refine Met_intro (by decide) (Nat.le_of_ble_eq_true rfl) ?_
  intro p e s m below meth c A ls F hret hlk hin hw hl
  replace hl : lv_has ls 2 [(0, .ref q_t), (1, .int a1)] := hl
  refine lv_iload_n F.1 F.2.1 dX12_restore_0 rfl (lv_at hl 1 rfl) ?_
  refine lv_i2l F.1 F.2.1 dX12_restore_1 rfl ?_
  refine lv_lconst (v := 0) F.1 F.2.1 dX12_restore_2 (by decide) ?_
  refine lv_lconst (v := 1) F.1 F.2.1 dX12_restore_3 (by decide) ?_
  obtain ⟨z1, hz1, hr⟩ := Option.bind_eq_some_iff.mp hr
  refine call_o (wr := [(q_t, .inr (12, [.int t_places, .int t_deep, .ref q_t_pailAt, .ref q_t_holds, .ref q_t_leaks, .ref q_t_wants, .int t_served, .ref q_t_words, .int t_wordMany, .ref q_t_sightBehind, .ref q_t_sightDoor, .ref q_t_sightIs, .int t_sights, o_t_pad, .int t_padMany, o_t_at, o_t_moved, o_t_has, .int t_done, .int t_drawn, .int t_leaked, .int t_drunk, .int t_times, .int t_foundNumber, o_t_order, o_t_best, o_t_wins, o_t_later, o_t_signs, .ref q_t_kept, .ref q_t_isKept, .int t_keptAt, .int t_isWriting])), (q_t_isKept, .inl (g 2, 2, .inl t_isKept)), (q_t_kept, .inl (g 0, 200, .inl t_kept)), (q_t_pailAt, .inl (g 0, 9, .inl t_pailAt)), (q_t_holds, .inl (g 0, 9, .inl t_holds)), (q_t_leaks, .inl (g 0, 9, .inl t_leaks)), (q_t_wants, .inl (g 0, 9, .inl t_wants)), (q_t_words, .inl (g 0, 8, .inl t_words)), (q_t_sightBehind, .inl (g 0, 6, .inl t_sightBehind)), (q_t_sightDoor, .inl (g 0, 6, .inl t_sightDoor)), (q_t_sightIs, .inl (g 0, 6, .inl t_sightIs))]) (run_S (As := [.long a1.toInt64, .long (0 : Int64), .long (1 : Int64)]) (rest := []) F k_X12_86 (c_X12_in l dd g mv a1.toInt64 ((0 : Int64)) ((1 : Int64)) z1 hz1 _) hw [] (by decide) rfl rfl hl.1 rfl (Nat.le_of_ble_eq_true rfl) dX12_restore_4 ⟨Nat.le_of_ble_eq_true rfl, Nat.le_of_ble_eq_true rfl⟩ ⟨Nat.le_of_ble_eq_true rfl, Nat.le_of_ble_eq_true rfl⟩) hw [] [0, 1, 2, 3, 4, 5, 6, 7, 8, 9, 10] rfl rfl (by decide) (by decide) (fun u2 H locs hw => ?_)
  replace hw : Wd dd g mv A s H locs (w_X12_restore g q_t q_t_isKept q_t_kept q_t_pailAt q_t_holds q_t_leaks q_t_wants q_t_words q_t_sightBehind q_t_sightDoor q_t_sightIs o_t_pad o_t_at o_t_moved o_t_has o_t_order o_t_best o_t_wins o_t_later o_t_signs t_places t_deep t_served t_wordMany t_sights t_padMany t_done t_drawn t_leaked t_drunk t_times t_foundNumber t_keptAt t_isWriting t_isKept t_kept t_pailAt t_holds t_leaks t_wants t_words t_sightBehind t_sightDoor t_sightIs) := hw.sub [0, 1, 2, 3, 4, 5, 6, 7, 8, 9, 10] (by decide) rfl
  refine W.eq (g2 := F0 m 7 ls (.int z1 :: [])) rfl ?_
  refine lv_if_ne (tgt := 13) F.1 F.2.1 dX12_restore_7 (by decide) (fun hc3 => ?_) (fun hc3 => ?_)
  · replace hr := (if_neg hc3).symm.trans hr
    refine lv_aload_n F.1 F.2.1 dX12_restore_13 rfl (lv_at hl 0 rfl) ?_
    refine gf_X12_65 F hw 0 rfl rfl dX12_restore_14 ?_
    refine lv_iload_n F.1 F.2.1 dX12_restore_17 rfl (lv_at hl 1 rfl) ?_
    obtain ⟨hg4, hr⟩ := g_no hr
    refine ar_z F hw 1 rfl hg4 dX12_restore_18 ?_
    refine lv_if_ne (tgt := 25) F.1 F.2.1 dX12_restore_19 (by decide) (fun hc5 => ?_) (fun hc5 => ?_)
    · replace hr := (if_neg hc5).symm.trans hr
      refine lv_aload_n F.1 F.2.1 dX12_restore_25 rfl (lv_at hl 0 rfl) ?_
      refine lv_bipush (v := 100) F.1 F.2.1 dX12_restore_26 (by decide) ?_
      refine lv_iload_n F.1 F.2.1 dX12_restore_28 rfl (lv_at hl 1 rfl) ?_
      refine lv_imul F.1 F.2.1 dX12_restore_29 ?_
      refine pf_X12_238 F hw 0 rfl (Nat.le_of_ble_eq_true rfl) dX12_restore_30 (fun H locs hw => ?_)
      replace hw : Wd dd g mv A s H locs (w_X12_restore g q_t q_t_isKept q_t_kept q_t_pailAt q_t_holds q_t_leaks q_t_wants q_t_words q_t_sightBehind q_t_sightDoor q_t_sightIs o_t_pad o_t_at o_t_moved o_t_has o_t_order o_t_best o_t_wins o_t_later o_t_signs t_places t_deep t_served t_wordMany t_sights t_padMany t_done t_drawn t_leaked t_drunk t_times t_foundNumber (((100 : Int32) * a1)) t_isWriting t_isKept t_kept t_pailAt t_holds t_leaks t_wants t_words t_sightBehind t_sightDoor t_sightIs) := hw
      refine lv_aload_n F.1 F.2.1 dX12_restore_33 rfl (lv_at hl 0 rfl) ?_
      refine lv_iconst (v := 0) F.1 F.2.1 dX12_restore_34 (by decide) ?_
      refine pf_X12_234 F hw 0 rfl (by decide) (by decide) (Nat.le_of_ble_eq_true rfl) dX12_restore_35 (fun H locs hw => ?_)
      replace hw : Wd dd g mv A s H locs (w_X12_restore g q_t q_t_isKept q_t_kept q_t_pailAt q_t_holds q_t_leaks q_t_wants q_t_words q_t_sightBehind q_t_sightDoor q_t_sightIs o_t_pad o_t_at o_t_moved o_t_has o_t_order o_t_best o_t_wins o_t_later o_t_signs t_places t_deep t_served t_wordMany t_sights t_padMany t_done t_drawn t_leaked t_drunk t_times t_foundNumber (((100 : Int32) * a1)) ((0 : Int32)) t_isKept t_kept t_pailAt t_holds t_leaks t_wants t_words t_sightBehind t_sightDoor t_sightIs) := hw
      refine lv_aload_n F.1 F.2.1 dX12_restore_38 rfl (lv_at hl 0 rfl) ?_
      obtain ⟨z6, hz6, hr⟩ := Option.bind_eq_some_iff.mp hr
      refine call_o (wr := [(q_t_isKept, .inl (g 2, 2, .inl t_isKept))]) (run_V (As := []) (rest := []) F k_X12_244 (c_X12_passAll l dd g mv q_t q_t_kept q_t_pailAt q_t_holds q_t_leaks q_t_wants q_t_words q_t_sightBehind q_t_sightDoor q_t_sightIs o_t_pad o_t_at o_t_moved o_t_has o_t_order o_t_best o_t_wins o_t_later o_t_signs ((.ref q_t_isKept)) t_places t_deep t_served t_wordMany t_sights t_padMany t_done t_drawn t_leaked t_drunk t_times t_foundNumber (((100 : Int32) * a1)) ((0 : Int32)) t_kept t_pailAt t_holds t_leaks t_wants t_words t_sightBehind t_sightDoor t_sightIs z6 hz6 _) hw [0, 2, 3, 4, 5, 6, 7, 8, 9, 10] (by decide) rfl (ci := 12) rfl rfl rfl rfl hl.1 rfl (Nat.le_of_ble_eq_true rfl) dX12_restore_39 ⟨Nat.le_of_ble_eq_true rfl, Nat.le_of_ble_eq_true rfl⟩ ⟨Nat.le_of_ble_eq_true rfl, Nat.le_of_ble_eq_true rfl⟩) hw [0, 2, 3, 4, 5, 6, 7, 8, 9, 10] [1] rfl rfl (by decide) (by decide) (fun u7 H locs hw => ?_)
      replace hw : Wd dd g mv A s H locs (w_X12_restore g q_t q_t_isKept q_t_kept q_t_pailAt q_t_holds q_t_leaks q_t_wants q_t_words q_t_sightBehind q_t_sightDoor q_t_sightIs o_t_pad o_t_at o_t_moved o_t_has o_t_order o_t_best o_t_wins o_t_later o_t_signs z6.1 z6.2.1 z6.2.2.1 z6.2.2.2.1 z6.2.2.2.2.1 t_padMany t_done t_drawn t_leaked t_drunk t_times t_foundNumber z6.2.2.2.2.2.1 ((0 : Int32)) t_isKept z6.2.2.2.2.2.2.1 z6.2.2.2.2.2.2.2.1 z6.2.2.2.2.2.2.2.2.1 z6.2.2.2.2.2.2.2.2.2.1 z6.2.2.2.2.2.2.2.2.2.2.1 z6.2.2.2.2.2.2.2.2.2.2.2.1 z6.2.2.2.2.2.2.2.2.2.2.2.2.1 z6.2.2.2.2.2.2.2.2.2.2.2.2.2.1 z6.2.2.2.2.2.2.2.2.2.2.2.2.2.2) := hw.sub [1, 0, 2, 3, 4, 5, 6, 7, 8, 9, 10] (by decide) rfl
      refine lv_iconst (v := 1) F.1 F.2.1 dX12_restore_42 (by decide) ?_
      cases hr
      exact ret_i () F hret hlk hw (Nat.le_refl _) (Nat.le_refl _) dX12_restore_43
    · replace hr := (if_pos hc5).symm.trans hr
      refine lv_bipush (v := -3) F.1 F.2.1 dX12_restore_22 (by decide) ?_
      cases hr
      exact ret_i () F hret hlk hw (Nat.le_refl _) (Nat.le_refl _) dX12_restore_24
  · replace hr := (if_pos hc3).symm.trans hr
    refine lv_bipush (v := -2) F.1 F.2.1 dX12_restore_10 (by decide) ?_
    cases hr
    exact ret_i () F hret hlk hw (Nat.le_refl _) (Nat.le_refl _) dX12_restore_12
set_option maxHeartbeats 4000000 in
set_option maxRecDepth 100000 in
theorem c_X12_told (l : Launch) (dd : va_G) (g : Nat → ClassId) (mv : Nat) (q_t : Nat) (q_t_pailAt : Nat) (q_t_at : Nat) (q_t_holds : Nat) (q_t_leaks : Nat) (q_t_wants : Nat) (o_t_words : Value) (o_t_sightBehind : Value) (o_t_sightDoor : Value) (o_t_sightIs : Value) (o_t_pad : Value) (o_t_moved : Value) (o_t_has : Value) (o_t_order : Value) (o_t_best : Value) (o_t_wins : Value) (o_t_later : Value) (o_t_signs : Value) (o_t_kept : Value) (o_t_isKept : Value) (t_places : Int32) (t_deep : Int32) (t_served : Int32) (t_wordMany : Int32) (t_sights : Int32) (t_padMany : Int32) (t_done : Int32) (t_drawn : Int32) (t_leaked : Int32) (t_drunk : Int32) (t_times : Int32) (t_foundNumber : Int32) (t_keptAt : Int32) (t_isWriting : Int32) (t_pailAt : Nat → Int32) (t_at : Nat → Int32) (t_holds : Nat → Int32) (t_leaks : Nat → Int32) (t_wants : Nat → Int32) (a1 : Int32) (z : Int32) (hr : f_X12_told t_places t_deep t_served t_wordMany t_sights t_padMany t_pailAt t_at t_holds t_leaks t_wants a1 = some z) (sz : Nat) : Met l yX12_told (.code yX12_told cX12_told 3 (some .int) :: WS) (rmH 2 0 0) (va_Pc [.ref q_t, .int a1] (PW dd g mv (w_X12_told g q_t q_t_pailAt q_t_at q_t_holds q_t_leaks q_t_wants o_t_words o_t_sightBehind o_t_sightDoor o_t_sightIs o_t_pad o_t_moved o_t_has o_t_order o_t_best o_t_wins o_t_later o_t_signs o_t_kept o_t_isKept t_places t_deep t_served t_wordMany t_sights t_padMany t_done t_drawn t_leaked t_drunk t_times t_foundNumber t_keptAt t_isWriting t_pailAt t_at t_holds t_leaks t_wants) sz)) (Qo dd g (some (.int z)) (fun u : Unit => (w_X12_told g q_t q_t_pailAt q_t_at q_t_holds q_t_leaks q_t_wants o_t_words o_t_sightBehind o_t_sightDoor o_t_sightIs o_t_pad o_t_moved o_t_has o_t_order o_t_best o_t_wins o_t_later o_t_signs o_t_kept o_t_isKept t_places t_deep t_served t_wordMany t_sights t_padMany t_done t_drawn t_leaked t_drunk t_times t_foundNumber t_keptAt t_isWriting t_pailAt t_at t_holds t_leaks t_wants)) (va_A (w_X12_told g q_t q_t_pailAt q_t_at q_t_holds q_t_leaks q_t_wants o_t_words o_t_sightBehind o_t_sightDoor o_t_sightIs o_t_pad o_t_moved o_t_has o_t_order o_t_best o_t_wins o_t_later o_t_signs o_t_kept o_t_isKept t_places t_deep t_served t_wordMany t_sights t_padMany t_done t_drawn t_leaked t_drunk t_times t_foundNumber t_keptAt t_isWriting t_pailAt t_at t_holds t_leaks t_wants) sz)) 0 0 (va_A (w_X12_told g q_t q_t_pailAt q_t_at q_t_holds q_t_leaks q_t_wants o_t_words o_t_sightBehind o_t_sightDoor o_t_sightIs o_t_pad o_t_moved o_t_has o_t_order o_t_best o_t_wins o_t_later o_t_signs o_t_kept o_t_isKept t_places t_deep t_served t_wordMany t_sights t_padMany t_done t_drawn t_leaked t_drunk t_times t_foundNumber t_keptAt t_isWriting t_pailAt t_at t_holds t_leaks t_wants) sz) := by
  refine Met_intro (by decide) (Nat.le_of_ble_eq_true rfl) ?_
  intro p e s m below meth c A ls F hret hlk hin hw hl
  replace hl : lv_has ls 3 [(0, .ref q_t), (1, .int a1)] := hl
  refine lv_iload_n F.1 F.2.1 dX12_told_0 rfl (lv_at hl 1 rfl) ?_
  refine lv_bipush (v := 10) F.1 F.2.1 dX12_told_1 (by decide) ?_
  refine lv_irem F.1 F.2.1 dX12_told_3 (by decide) ?_
  refine lv_istore_n (lv' := [(2, .int (a1 - a1 / (10 : Int32) * (10 : Int32))), (0, .ref q_t), (1, .int a1)]) F.1 F.2.1 dX12_told_4 rfl hl (by decide) rfl (fun ls hl => ?_)
  refine lv_iload_n F.1 F.2.1 dX12_told_5 rfl (lv_at hl 2 rfl) ?_
  refine lv_i2l F.1 F.2.1 dX12_told_6 rfl ?_
  refine lv_ldc2 F.1 F.2.1 F.2.2.2.1 (F.2.2.2.2 _ cl_X12_167) dX12_told_7 ?_
  refine lv_ldc2 F.1 F.2.1 F.2.2.2.1 (F.2.2.2.2 _ cl_X12_247) dX12_told_10 ?_
  obtain ⟨z1, hz1, hr⟩ := Option.bind_eq_some_iff.mp hr
  refine call_o (wr := [(q_t, .inr (12, [.int t_places, .int t_deep, .ref q_t_pailAt, .ref q_t_holds, .ref q_t_leaks, .ref q_t_wants, .int t_served, o_t_words, .int t_wordMany, o_t_sightBehind, o_t_sightDoor, o_t_sightIs, .int t_sights, o_t_pad, .int t_padMany, .ref q_t_at, o_t_moved, o_t_has, .int t_done, .int t_drawn, .int t_leaked, .int t_drunk, .int t_times, .int t_foundNumber, o_t_order, o_t_best, o_t_wins, o_t_later, o_t_signs, o_t_kept, o_t_isKept, .int t_keptAt, .int t_isWriting])), (q_t_pailAt, .inl (g 0, 9, .inl t_pailAt)), (q_t_at, .inl (g 0, 9, .inl t_at)), (q_t_holds, .inl (g 0, 9, .inl t_holds)), (q_t_leaks, .inl (g 0, 9, .inl t_leaks)), (q_t_wants, .inl (g 0, 9, .inl t_wants))]) (run_S (As := [.long a1.toInt64, .long (10 : Int64), .long (49 : Int64)]) (rest := []) F k_X12_86 (c_X12_in l dd g mv a1.toInt64 ((10 : Int64)) ((49 : Int64)) z1 hz1 _) hw [] (by decide) rfl rfl hl.1 rfl (Nat.le_of_ble_eq_true rfl) dX12_told_13 ⟨Nat.le_of_ble_eq_true rfl, Nat.le_of_ble_eq_true rfl⟩ ⟨Nat.le_of_ble_eq_true rfl, Nat.le_of_ble_eq_true rfl⟩) hw [] [0, 1, 2, 3, 4, 5] rfl rfl (by decide) (by decide) (fun u2 H locs hw => ?_)
  replace hw : Wd dd g mv A s H locs (w_X12_told g q_t q_t_pailAt q_t_at q_t_holds q_t_leaks q_t_wants o_t_words o_t_sightBehind o_t_sightDoor o_t_sightIs o_t_pad o_t_moved o_t_has o_t_order o_t_best o_t_wins o_t_later o_t_signs o_t_kept o_t_isKept t_places t_deep t_served t_wordMany t_sights t_padMany t_done t_drawn t_leaked t_drunk t_times t_foundNumber t_keptAt t_isWriting t_pailAt t_at t_holds t_leaks t_wants) := hw.sub [0, 1, 2, 3, 4, 5] (by decide) rfl
  refine W.eq (g2 := F0 m 16 ls (.int z1 :: [])) rfl ?_
  refine lv_if_eq (tgt := 84) F.1 F.2.1 dX12_told_16 (by decide) (fun hc3 => ?_) (fun hc3 => ?_)
  · replace hr := (if_pos hc3).symm.trans hr
    refine lv_iload_n F.1 F.2.1 dX12_told_84 rfl (lv_at hl 2 rfl) ?_
    refine lv_if_ne (tgt := 95) F.1 F.2.1 dX12_told_85 (by decide) (fun hc4 => ?_) (fun hc4 => ?_)
    · replace hr := (if_neg hc4).symm.trans hr
      refine lv_iload_n F.1 F.2.1 dX12_told_95 rfl (lv_at hl 2 rfl) ?_
      refine lv_iconst (v := 1) F.1 F.2.1 dX12_told_96 (by decide) ?_
      refine lv_icmp_ne (tgt := 107) F.1 F.2.1 dX12_told_97 (by decide) (fun hc5 => ?_) (fun hc5 => ?_)
      · replace hr := (if_neg hc5).symm.trans hr
        refine lv_iload_n F.1 F.2.1 dX12_told_107 rfl (lv_at hl 2 rfl) ?_
        refine lv_iconst (v := 2) F.1 F.2.1 dX12_told_108 (by decide) ?_
        refine lv_icmp_ne (tgt := 119) F.1 F.2.1 dX12_told_109 (by decide) (fun hc6 => ?_) (fun hc6 => ?_)
        · replace hr := (if_neg hc6).symm.trans hr
          refine lv_iload_n F.1 F.2.1 dX12_told_119 rfl (lv_at hl 2 rfl) ?_
          refine lv_iconst (v := 3) F.1 F.2.1 dX12_told_120 (by decide) ?_
          refine lv_icmp_ne (tgt := 131) F.1 F.2.1 dX12_told_121 (by decide) (fun hc7 => ?_) (fun hc7 => ?_)
          · replace hr := (if_neg hc7).symm.trans hr
            refine lv_iload_n F.1 F.2.1 dX12_told_131 rfl (lv_at hl 2 rfl) ?_
            refine lv_iconst (v := 4) F.1 F.2.1 dX12_told_132 (by decide) ?_
            refine lv_icmp_ne (tgt := 143) F.1 F.2.1 dX12_told_133 (by decide) (fun hc8 => ?_) (fun hc8 => ?_)
            · replace hr := (if_neg hc8).symm.trans hr
              refine lv_iload_n F.1 F.2.1 dX12_told_143 rfl (lv_at hl 2 rfl) ?_
              refine lv_iconst (v := 5) F.1 F.2.1 dX12_told_144 (by decide) ?_
              refine lv_icmp_ne (tgt := 155) F.1 F.2.1 dX12_told_145 (by decide) (fun hc9 => ?_) (fun hc9 => ?_)
              · replace hr := (if_neg hc9).symm.trans hr
                refine lv_bipush (v := -2) F.1 F.2.1 dX12_told_155 (by decide) ?_
                cases hr
                exact ret_i () F hret hlk hw (Nat.le_refl _) (Nat.le_refl _) dX12_told_157
              · replace hr := (if_pos hc9).symm.trans hr
                refine lv_aload_n F.1 F.2.1 dX12_told_148 rfl (lv_at hl 1 rfl) ?_
                refine gf_X12_83 F hw 0 rfl rfl dX12_told_149 ?_
                refine lv_goto (tgt := 157) F.1 F.2.1 dX12_told_152 (by decide) ?_
                cases hr
                exact ret_i () F hret hlk hw (Nat.le_refl _) (Nat.le_refl _) dX12_told_157
            · replace hr := (if_pos hc8).symm.trans hr
              refine lv_aload_n F.1 F.2.1 dX12_told_136 rfl (lv_at hl 1 rfl) ?_
              refine gf_X12_187 F hw 0 rfl rfl dX12_told_137 ?_
              refine lv_goto (tgt := 157) F.1 F.2.1 dX12_told_140 (by decide) ?_
              cases hr
              exact ret_i () F hret hlk hw (Nat.le_refl _) (Nat.le_refl _) dX12_told_157
          · replace hr := (if_pos hc7).symm.trans hr
            refine lv_aload_n F.1 F.2.1 dX12_told_124 rfl (lv_at hl 1 rfl) ?_
            refine gf_X12_80 F hw 0 rfl rfl dX12_told_125 ?_
            refine lv_goto (tgt := 157) F.1 F.2.1 dX12_told_128 (by decide) ?_
            cases hr
            exact ret_i () F hret hlk hw (Nat.le_refl _) (Nat.le_refl _) dX12_told_157
        · replace hr := (if_pos hc6).symm.trans hr
          refine lv_aload_n F.1 F.2.1 dX12_told_112 rfl (lv_at hl 1 rfl) ?_
          refine gf_X12_69 F hw 0 rfl rfl dX12_told_113 ?_
          refine lv_goto (tgt := 157) F.1 F.2.1 dX12_told_116 (by decide) ?_
          cases hr
          exact ret_i () F hret hlk hw (Nat.le_refl _) (Nat.le_refl _) dX12_told_157
      · replace hr := (if_pos hc5).symm.trans hr
        refine lv_aload_n F.1 F.2.1 dX12_told_100 rfl (lv_at hl 1 rfl) ?_
        refine gf_X12_77 F hw 0 rfl rfl dX12_told_101 ?_
        refine lv_goto (tgt := 157) F.1 F.2.1 dX12_told_104 (by decide) ?_
        cases hr
        exact ret_i () F hret hlk hw (Nat.le_refl _) (Nat.le_refl _) dX12_told_157
    · replace hr := (if_pos hc4).symm.trans hr
      refine lv_aload_n F.1 F.2.1 dX12_told_88 rfl (lv_at hl 1 rfl) ?_
      refine gf_X12_102 F hw 0 rfl rfl dX12_told_89 ?_
      refine lv_goto (tgt := 157) F.1 F.2.1 dX12_told_92 (by decide) ?_
      cases hr
      exact ret_i () F hret hlk hw (Nat.le_refl _) (Nat.le_refl _) dX12_told_157
  · replace hr := (if_neg hc3).symm.trans hr
    refine lv_aload_n F.1 F.2.1 dX12_told_19 rfl (lv_at hl 1 rfl) ?_
    refine lv_iload_n F.1 F.2.1 dX12_told_20 rfl (lv_at hl 0 rfl) ?_
    obtain ⟨z10, hz10, hr⟩ := Option.bind_eq_some_iff.mp hr
    refine call_o (wr := [(q_t_pailAt, .inl (g 0, 9, .inl t_pailAt)), (q_t_at, .inl (g 0, 9, .inl t_at)), (q_t_holds, .inl (g 0, 9, .inl t_holds)), (q_t_leaks, .inl (g 0, 9, .inl t_leaks)), (q_t_wants, .inl (g 0, 9, .inl t_wants))]) (run_V (As := [.int (a1 - a1 / (10 : Int32) * (10 : Int32))]) (rest := []) F k_X12_94 (c_X12_isPlace l dd g mv q_t ((.ref q_t_pailAt)) ((.ref q_t_holds)) ((.ref q_t_leaks)) ((.ref q_t_wants)) o_t_words o_t_sightBehind o_t_sightDoor o_t_sightIs o_t_pad ((.ref q_t_at)) o_t_moved o_t_has o_t_order o_t_best o_t_wins o_t_later o_t_signs o_t_kept o_t_isKept t_places t_deep t_served t_wordMany t_sights t_padMany t_done t_drawn t_leaked t_drunk t_times t_foundNumber t_keptAt t_isWriting ((a1 - a1 / (10 : Int32) * (10 : Int32))) z10 hz10 _) hw [0] (by decide) rfl (ci := 12) rfl rfl rfl rfl hl.1 rfl (Nat.le_of_ble_eq_true rfl) dX12_told_21 ⟨Nat.le_of_ble_eq_true rfl, Nat.le_of_ble_eq_true rfl⟩ ⟨Nat.le_of_ble_eq_true rfl, Nat.le_of_ble_eq_true rfl⟩) hw [0] [1, 2, 3, 4, 5] rfl rfl (by decide) (by decide) (fun u11 H locs hw => ?_)
    replace hw : Wd dd g mv A s H locs (w_X12_told g q_t q_t_pailAt q_t_at q_t_holds q_t_leaks q_t_wants o_t_words o_t_sightBehind o_t_sightDoor o_t_sightIs o_t_pad o_t_moved o_t_has o_t_order o_t_best o_t_wins o_t_later o_t_signs o_t_kept o_t_isKept t_places t_deep t_served t_wordMany t_sights t_padMany t_done t_drawn t_leaked t_drunk t_times t_foundNumber t_keptAt t_isWriting t_pailAt t_at t_holds t_leaks t_wants) := hw.sub [5, 0, 1, 2, 3, 4] (by decide) rfl
    refine W.eq (g2 := F0 m 24 ls (.int z10 :: [])) rfl ?_
    refine lv_if_ne (tgt := 32) F.1 F.2.1 dX12_told_24 (by decide) (fun hc12 => ?_) (fun hc12 => ?_)
    · replace hr := (if_neg hc12).symm.trans hr
      refine lv_iload_n F.1 F.2.1 dX12_told_32 rfl (lv_at hl 2 rfl) ?_
      refine lv_bipush (v := 20) F.1 F.2.1 dX12_told_33 (by decide) ?_
      refine lv_icmp_ge (tgt := 47) F.1 F.2.1 dX12_told_35 (by decide) (fun hc13 => ?_) (fun hc13 => ?_)
      · replace hr := (if_pos hc13).symm.trans hr
        refine lv_iload_n F.1 F.2.1 dX12_told_47 rfl (lv_at hl 2 rfl) ?_
        refine lv_bipush (v := 30) F.1 F.2.1 dX12_told_48 (by decide) ?_
        refine lv_icmp_ge (tgt := 62) F.1 F.2.1 dX12_told_50 (by decide) (fun hc14 => ?_) (fun hc14 => ?_)
        · replace hr := (if_pos hc14).symm.trans hr
          refine lv_iload_n F.1 F.2.1 dX12_told_62 rfl (lv_at hl 2 rfl) ?_
          refine lv_bipush (v := 40) F.1 F.2.1 dX12_told_63 (by decide) ?_
          refine lv_icmp_ge (tgt := 77) F.1 F.2.1 dX12_told_65 (by decide) (fun hc15 => ?_) (fun hc15 => ?_)
          · replace hr := (if_pos hc15).symm.trans hr
            refine lv_aload_n F.1 F.2.1 dX12_told_77 rfl (lv_at hl 1 rfl) ?_
            refine gf_X12_19 F hw 0 rfl rfl dX12_told_78 ?_
            refine lv_iload_n F.1 F.2.1 dX12_told_81 rfl (lv_at hl 0 rfl) ?_
            obtain ⟨hg16, hr⟩ := g_no hr
            refine ar_i F hw 5 rfl hg16 dX12_told_82 ?_
            cases hr
            exact ret_i () F hret hlk hw (Nat.le_refl _) (Nat.le_refl _) dX12_told_83
          · replace hr := (if_neg hc15).symm.trans hr
            refine lv_aload_n F.1 F.2.1 dX12_told_68 rfl (lv_at hl 1 rfl) ?_
            refine gf_X12_16 F hw 0 rfl rfl dX12_told_69 ?_
            refine lv_iload_n F.1 F.2.1 dX12_told_72 rfl (lv_at hl 0 rfl) ?_
            obtain ⟨hg17, hr⟩ := g_no hr
            refine ar_i F hw 4 rfl hg17 dX12_told_73 ?_
            refine lv_goto (tgt := 83) F.1 F.2.1 dX12_told_74 (by decide) ?_
            cases hr
            exact ret_i () F hret hlk hw (Nat.le_refl _) (Nat.le_refl _) dX12_told_83
        · replace hr := (if_neg hc14).symm.trans hr
          refine lv_aload_n F.1 F.2.1 dX12_told_53 rfl (lv_at hl 1 rfl) ?_
          refine gf_X12_13 F hw 0 rfl rfl dX12_told_54 ?_
          refine lv_iload_n F.1 F.2.1 dX12_told_57 rfl (lv_at hl 0 rfl) ?_
          obtain ⟨hg18, hr⟩ := g_no hr
          refine ar_i F hw 3 rfl hg18 dX12_told_58 ?_
          refine lv_goto (tgt := 83) F.1 F.2.1 dX12_told_59 (by decide) ?_
          cases hr
          exact ret_i () F hret hlk hw (Nat.le_refl _) (Nat.le_refl _) dX12_told_83
      · replace hr := (if_neg hc13).symm.trans hr
        refine lv_aload_n F.1 F.2.1 dX12_told_38 rfl (lv_at hl 1 rfl) ?_
        refine lv_iload_n F.1 F.2.1 dX12_told_39 rfl (lv_at hl 0 rfl) ?_
        refine lv_iconst (v := 1) F.1 F.2.1 dX12_told_40 (by decide) ?_
        obtain ⟨z19, hz19, hr⟩ := Option.bind_eq_some_iff.mp hr
        refine call_o (wr := [(q_t_holds, .inl (g 0, 9, .inl t_holds)), (q_t_leaks, .inl (g 0, 9, .inl t_leaks)), (q_t_wants, .inl (g 0, 9, .inl t_wants))]) (run_V (As := [.int (a1 - a1 / (10 : Int32) * (10 : Int32)), .int (1 : Int32)]) (rest := []) F k_X12_137 (c_X12_placeOf l dd g mv q_t q_t_pailAt q_t_at ((.ref q_t_holds)) ((.ref q_t_leaks)) ((.ref q_t_wants)) o_t_words o_t_sightBehind o_t_sightDoor o_t_sightIs o_t_pad o_t_moved o_t_has o_t_order o_t_best o_t_wins o_t_later o_t_signs o_t_kept o_t_isKept t_places t_deep t_served t_wordMany t_sights t_padMany t_done t_drawn t_leaked t_drunk t_times t_foundNumber t_keptAt t_isWriting t_pailAt t_at ((a1 - a1 / (10 : Int32) * (10 : Int32))) ((1 : Int32)) z19 hz19 _) hw [0, 1, 2] (by decide) rfl (ci := 12) rfl rfl rfl rfl hl.1 rfl (Nat.le_of_ble_eq_true rfl) dX12_told_41 ⟨Nat.le_of_ble_eq_true rfl, Nat.le_of_ble_eq_true rfl⟩ ⟨Nat.le_of_ble_eq_true rfl, Nat.le_of_ble_eq_true rfl⟩) hw [0, 1, 2] [3, 4, 5] rfl rfl (by decide) (by decide) (fun u20 H locs hw => ?_)
        replace hw : Wd dd g mv A s H locs (w_X12_told g q_t q_t_pailAt q_t_at q_t_holds q_t_leaks q_t_wants o_t_words o_t_sightBehind o_t_sightDoor o_t_sightIs o_t_pad o_t_moved o_t_has o_t_order o_t_best o_t_wins o_t_later o_t_signs o_t_kept o_t_isKept t_places t_deep t_served t_wordMany t_sights t_padMany t_done t_drawn t_leaked t_drunk t_times t_foundNumber t_keptAt t_isWriting t_pailAt t_at t_holds t_leaks t_wants) := hw.sub [3, 4, 5, 0, 1, 2] (by decide) rfl
        refine W.eq (g2 := F0 m 44 ls (.int z19 :: [])) rfl ?_
        refine lv_goto (tgt := 83) F.1 F.2.1 dX12_told_44 (by decide) ?_
        cases hr
        exact ret_i () F hret hlk hw (Nat.le_refl _) (Nat.le_refl _) dX12_told_83
    · replace hr := (if_pos hc12).symm.trans hr
      refine lv_bipush (v := -2) F.1 F.2.1 dX12_told_27 (by decide) ?_
      refine lv_goto (tgt := 83) F.1 F.2.1 dX12_told_29 (by decide) ?_
      cases hr
      exact ret_i () F hret hlk hw (Nat.le_refl _) (Nat.le_refl _) dX12_told_83
end WALK
