section WALK
variable {p : Program} {l : Launch} {e : Env} {s : State} {m : MethodId} {args : Array Value} {below : List Frame} {meth : Method} {c : Code} {dd : va_G} {g : Nat → ClassId} {mv : Nat} {A : Nat → Prop}
set_option maxHeartbeats 4000000 in
set_option maxRecDepth 100000 in
theorem b_X0_look_18 {q_t q_p1 q_p2 q_t_could q_t_needed q_t_neededLater q_t_barred q_p2_behind q_p2_served q_p2_door q_t_row q_t_first : Nat} {z : Int32 × Int32 × Int32 × (Nat → Int32) × (Nat → Int64) × (Nat → Int64) × (Nat → Int64) × (Nat → Int32) × (Nat → Int32)} (F : Fx p m c cX0_look 5 s args RX0) (hret : meth.sig.returnType = none) (hlk : meth.locks = false) : ∀ (n : Nat), ∀ {x4 : Int32} {t_m : Int32} {t_isFound : Int32} {p1_places : Int32} {p1_deep : Int32} {p1_wheel : Int64} {p1_leaks : Int64} {p1_wants : Int64} {p2_count : Int32} {t_could : Nat → Int32} {t_needed : Nat → Int64} {t_neededLater : Nat → Int64} {t_barred : Nat → Int64} {p2_behind : Nat → Int32} {p2_served : Nat → Int32} {p2_door : Nat → Int32} {t_row : Nat → Int32} {t_first : Nat → Int32} {t_count : Int32} {p1_turn : Int32} {H : Heap} {locs : List Loc} {ls : Array Slot}, f_X0_look_18  n x4 t_m t_isFound p1_places p1_deep p1_wheel p1_leaks p1_wants p2_count t_could t_needed t_neededLater t_barred p2_behind p2_served p2_door t_row t_first = some z → Wd dd g mv A s H locs (w_X0_look g q_t q_p1 q_p2 q_t_could q_t_needed q_t_neededLater q_t_barred q_p2_behind q_p2_served q_p2_door q_t_row q_t_first ((.ref q_p1)) t_m t_count t_isFound p1_places p1_deep p1_turn p1_wheel p1_leaks p1_wants p2_count t_could t_needed t_neededLater t_barred p2_behind p2_served p2_door t_row t_first) → lv_has ls 5 [(0, .ref q_t), (1, .ref q_p1), (2, .ref q_p2), (4, .int x4)] → W p l e (rmH (24) 0 0) s m args below meth c H locs 0 0 (MQ below (Qo dd g none (fun u : Unit => (w_X0_look g q_t q_p1 q_p2 q_t_could q_t_needed q_t_neededLater q_t_barred q_p2_behind q_p2_served q_p2_door q_t_row q_t_first ((.ref q_p1)) z.1 z.2.1 z.2.2.1 p1_places p1_deep p1_turn p1_wheel p1_leaks p1_wants p2_count z.2.2.2.1 z.2.2.2.2.1 z.2.2.2.2.2.1 z.2.2.2.2.2.2.1 p2_behind p2_served p2_door z.2.2.2.2.2.2.2.1 z.2.2.2.2.2.2.2.2)) A) args s 0 0 A) (F0 m 18 ls []) := by
  intro n
  induction n with
  | zero =>
    intros
    rename_i hr _ _
    cases hr
  | succ n ih =>
    intro x4 t_m t_isFound p1_places p1_deep p1_wheel p1_leaks p1_wants p2_count t_could t_needed t_neededLater t_barred p2_behind p2_served p2_door t_row t_first t_count p1_turn H locs ls hr hw hl
    refine lv_iload F.1 F.2.1 dX0_look_18 (lv_at hl 3 rfl) ?_
    refine lv_bipush (v := 10) F.1 F.2.1 dX0_look_20 (by decide) ?_
    refine lv_icmp_ge (tgt := 39) F.1 F.2.1 dX0_look_22 (by decide) (fun hc1 => ?_) (fun hc1 => ?_)
    · replace hr := (if_pos hc1).symm.trans hr
      refine lv_aload_n F.1 F.2.1 dX0_look_39 rfl (lv_at hl 0 rfl) ?_
      refine lv_aload_n F.1 F.2.1 dX0_look_40 rfl (lv_at hl 2 rfl) ?_
      obtain ⟨z2, hz2, hr⟩ := Option.bind_eq_some_iff.mp hr
      refine call_o (wr := [(q_p1, .inr (1, [.int p1_places, .int p1_deep, .int p1_turn, .long p1_wheel, .long p1_leaks, .long p1_wants])), (q_t_could, .inl (g 0, 10, .inl t_could)), (q_t_row, .inl (g 0, 10, .inl t_row)), (q_t_first, .inl (g 0, 10, .inl t_first))]) (run_V (As := [.ref q_p2]) (rest := []) F k_X0_46 (c_X0_read l dd g mv q_t q_p2 q_t_needed q_t_neededLater q_t_barred q_p2_behind q_p2_served q_p2_door ((.ref q_t_row)) ((.ref q_t_first)) ((.ref q_t_could)) ((.ref q_p1)) t_m t_count t_isFound p2_count t_needed t_neededLater t_barred p2_behind p2_served p2_door z2 hz2 _) hw [0, 2, 4, 5, 6, 7, 8, 9] (by decide) rfl (ci := 0) rfl rfl rfl rfl hl.1 rfl (Nat.le_of_ble_eq_true rfl) dX0_look_41 ⟨Nat.le_of_ble_eq_true rfl, Nat.le_of_ble_eq_true rfl⟩ ⟨Nat.le_of_ble_eq_true rfl, Nat.le_of_ble_eq_true rfl⟩) hw [0, 2, 4, 5, 6, 7, 8, 9] [1, 3, 10, 11] rfl rfl (by decide) (by decide) (fun u3 H locs hw => ?_)
      replace hw : Wd dd g mv A s H locs (w_X0_look g q_t q_p1 q_p2 q_t_could q_t_needed q_t_neededLater q_t_barred q_p2_behind q_p2_served q_p2_door q_t_row q_t_first ((.ref q_p1)) t_m t_count t_isFound p1_places p1_deep p1_turn p1_wheel p1_leaks p1_wants p2_count t_could z2.1 z2.2.1 z2.2.2 p2_behind p2_served p2_door t_row t_first) := hw.sub [4, 0, 5, 1, 6, 7, 8, 9, 10, 11, 2, 3] (by decide) rfl
      refine lv_aload_n F.1 F.2.1 dX0_look_44 rfl (lv_at hl 0 rfl) ?_
      refine lv_aload_n F.1 F.2.1 dX0_look_45 rfl (lv_at hl 0 rfl) ?_
      refine lv_aload_n F.1 F.2.1 dX0_look_46 rfl (lv_at hl 1 rfl) ?_
      refine gf_X0_50 F hw 1 rfl rfl dX0_look_47 ?_
      refine lv_aload_n F.1 F.2.1 dX0_look_50 rfl (lv_at hl 1 rfl) ?_
      refine gf_X0_56 F hw 1 rfl rfl dX0_look_51 ?_
      refine lv_iconst (v := 0) F.1 F.2.1 dX0_look_54 (by decide) ?_
      obtain ⟨z4, hz4, hr⟩ := Option.bind_eq_some_iff.mp hr
      refine call_o (wr := [(q_p2, .inr (8, [.ref q_p2_behind, .ref q_p2_door, .ref q_p2_served, .int p2_count])), (q_p2_behind, .inl (g 0, 6, .inl p2_behind)), (q_p2_served, .inl (g 2, 6, .inl p2_served)), (q_p2_door, .inl (g 0, 6, .inl p2_door))]) (run_S (As := [.ref q_t, .long p1_wheel, .long p1_leaks, .int (0 : Int32)]) (rest := [.ref q_t]) F k_X0_59 (c_X0_fitting l dd g mv 20 q_t q_p1 q_t_needed q_t_barred q_t_neededLater q_t_could q_t_row q_t_first t_m t_count t_isFound p1_places p1_deep p1_turn p1_wheel p1_leaks p1_wants z2.1 z2.2.2 z2.2.1 t_could t_row t_first p1_wheel p1_leaks ((0 : Int32)) z4 hz4 _) hw [0, 1, 4, 6, 5, 3, 10, 11] (by decide) rfl rfl hl.1 rfl (Nat.le_of_ble_eq_true rfl) dX0_look_55 ⟨Nat.le_of_ble_eq_true rfl, Nat.le_of_ble_eq_true rfl⟩ ⟨Nat.le_of_ble_eq_true rfl, Nat.le_of_ble_eq_true rfl⟩) hw [0, 1, 4, 6, 5, 3, 10, 11] [2, 7, 8, 9] rfl rfl (by decide) (by decide) (fun u5 H locs hw => ?_)
      replace hw : Wd dd g mv A s H locs (w_X0_look g q_t q_p1 q_p2 q_t_could q_t_needed q_t_neededLater q_t_barred q_p2_behind q_p2_served q_p2_door q_t_row q_t_first ((.ref q_p1)) t_m t_count z4.2.1 p1_places p1_deep p1_turn p1_wheel p1_leaks p1_wants p2_count z4.2.2.1 z2.1 z2.2.1 z2.2.2 p2_behind p2_served p2_door z4.2.2.2.1 z4.2.2.2.2) := hw.sub [4, 5, 0, 9, 6, 8, 7, 1, 2, 3, 10, 11] (by decide) rfl
      refine W.eq (g2 := F0 m 58 ls (.int z4.1 :: .ref q_t :: [])) rfl ?_
      refine pf_X0_39 F hw 0 rfl (Nat.le_of_ble_eq_true rfl) dX0_look_58 (fun H locs hw => ?_)
      replace hw : Wd dd g mv A s H locs (w_X0_look g q_t q_p1 q_p2 q_t_could q_t_needed q_t_neededLater q_t_barred q_p2_behind q_p2_served q_p2_door q_t_row q_t_first ((.ref q_p1)) t_m z4.1 z4.2.1 p1_places p1_deep p1_turn p1_wheel p1_leaks p1_wants p2_count z4.2.2.1 z2.1 z2.2.1 z2.2.2 p2_behind p2_served p2_door z4.2.2.2.1 z4.2.2.2.2) := hw
      cases hr
      exact ret_v () F hret hlk hw (Nat.le_refl _) (Nat.le_refl _) dX0_look_61
    · replace hr := (if_neg hc1).symm.trans hr
      refine lv_aload_n F.1 F.2.1 dX0_look_25 rfl (lv_at hl 0 rfl) ?_
      refine gf_X0_28 F hw 0 rfl rfl dX0_look_26 ?_
      refine lv_iload F.1 F.2.1 dX0_look_29 (lv_at hl 3 rfl) ?_
      refine lv_iconst (v := 0) F.1 F.2.1 dX0_look_31 (by decide) ?_
      obtain ⟨hg6, hr⟩ := g_no hr
      refine aw_i F hw 3 rfl hg6 dX0_look_32 (fun H locs hw => ?_)
      replace hw : Wd dd g mv A s H locs (w_X0_look g q_t q_p1 q_p2 q_t_could q_t_needed q_t_neededLater q_t_barred q_p2_behind q_p2_served q_p2_door q_t_row q_t_first ((.ref q_p1)) t_m t_count t_isFound p1_places p1_deep p1_turn p1_wheel p1_leaks p1_wants p2_count ((upd t_could (x4).toNatClampNeg ((0 : Int32)))) t_needed t_neededLater t_barred p2_behind p2_served p2_door t_row t_first) := hw
      refine lv_iinc (v := (x4 + 1)) (lv' := [(4, .int (x4 + 1)), (0, .ref q_t), (1, .ref q_p1), (2, .ref q_p2)]) F.1 F.2.1 dX0_look_33 hl (k := 3) rfl rfl (by decide) rfl (fun ls hl => ?_)
      refine lv_goto (tgt := 18) F.1 F.2.1 dX0_look_36 (by decide) ?_
      exact ih hr hw (lv_sub hl [1, 2, 3, 0] rfl)
set_option maxHeartbeats 4000000 in
set_option maxRecDepth 100000 in
theorem c_X0_look (l : Launch) (dd : va_G) (g : Nat → ClassId) (mv : Nat) (q_t : Nat) (q_p1 : Nat) (q_p2 : Nat) (q_t_could : Nat) (q_t_needed : Nat) (q_t_neededLater : Nat) (q_t_barred : Nat) (q_p2_behind : Nat) (q_p2_served : Nat) (q_p2_door : Nat) (q_t_row : Nat) (q_t_first : Nat) (o_t_chain : Value) (t_m : Int32) (t_count : Int32) (t_isFound : Int32) (p1_places : Int32) (p1_deep : Int32) (p1_turn : Int32) (p1_wheel : Int64) (p1_leaks : Int64) (p1_wants : Int64) (p2_count : Int32) (t_could : Nat → Int32) (t_needed : Nat → Int64) (t_neededLater : Nat → Int64) (t_barred : Nat → Int64) (p2_behind : Nat → Int32) (p2_served : Nat → Int32) (p2_door : Nat → Int32) (t_row : Nat → Int32) (t_first : Nat → Int32) (a3 : Int32) (z : Int32 × Int32 × Int32 × (Nat → Int32) × (Nat → Int64) × (Nat → Int64) × (Nat → Int64) × (Nat → Int32) × (Nat → Int32)) (hr : f_X0_look p1_places p1_deep p1_wheel p1_leaks p1_wants p2_count t_could t_needed t_neededLater t_barred p2_behind p2_served p2_door t_row t_first a3 = some z) (sz : Nat) : Met l yX0_look (.code yX0_look cX0_look 5 none :: WS) (rmH 24 0 0) (va_Pc [.ref q_t, .ref q_p1, .ref q_p2, .int a3] (PW dd g mv (w_X0_look g q_t q_p1 q_p2 q_t_could q_t_needed q_t_neededLater q_t_barred q_p2_behind q_p2_served q_p2_door q_t_row q_t_first o_t_chain t_m t_count t_isFound p1_places p1_deep p1_turn p1_wheel p1_leaks p1_wants p2_count t_could t_needed t_neededLater t_barred p2_behind p2_served p2_door t_row t_first) sz)) (Qo dd g none (fun u : Unit => (w_X0_look g q_t q_p1 q_p2 q_t_could q_t_needed q_t_neededLater q_t_barred q_p2_behind q_p2_served q_p2_door q_t_row q_t_first ((.ref q_p1)) z.1 z.2.1 z.2.2.1 p1_places p1_deep p1_turn p1_wheel p1_leaks p1_wants p2_count z.2.2.2.1 z.2.2.2.2.1 z.2.2.2.2.2.1 z.2.2.2.2.2.2.1 p2_behind p2_served p2_door z.2.2.2.2.2.2.2.1 z.2.2.2.2.2.2.2.2)) (va_A (w_X0_look g q_t q_p1 q_p2 q_t_could q_t_needed q_t_neededLater q_t_barred q_p2_behind q_p2_served q_p2_door q_t_row q_t_first o_t_chain t_m t_count t_isFound p1_places p1_deep p1_turn p1_wheel p1_leaks p1_wants p2_count t_could t_needed t_neededLater t_barred p2_behind p2_served p2_door t_row t_first) sz)) 0 0 (va_A (w_X0_look g q_t q_p1 q_p2 q_t_could q_t_needed q_t_neededLater q_t_barred q_p2_behind q_p2_served q_p2_door q_t_row q_t_first o_t_chain t_m t_count t_isFound p1_places p1_deep p1_turn p1_wheel p1_leaks p1_wants p2_count t_could t_needed t_neededLater t_barred p2_behind p2_served p2_door t_row t_first) sz) := by
  refine Met_intro (by decide) (Nat.le_of_ble_eq_true rfl) ?_
  intro p e s m below meth c A ls F hret hlk hin hw hl
  replace hl : lv_has ls 5 [(0, .ref q_t), (1, .ref q_p1), (2, .ref q_p2), (3, .int a3)] := hl
  refine lv_aload_n F.1 F.2.1 dX0_look_0 rfl (lv_at hl 0 rfl) ?_
  refine lv_aload_n F.1 F.2.1 dX0_look_1 rfl (lv_at hl 1 rfl) ?_
  refine pf_X0_31 F hw 0 rfl (Nat.le_of_ble_eq_true rfl) dX0_look_2 (fun H locs hw => ?_)
  replace hw : Wd dd g mv A s H locs (w_X0_look g q_t q_p1 q_p2 q_t_could q_t_needed q_t_neededLater q_t_barred q_p2_behind q_p2_served q_p2_door q_t_row q_t_first ((.ref q_p1)) t_m t_count t_isFound p1_places p1_deep p1_turn p1_wheel p1_leaks p1_wants p2_count t_could t_needed t_neededLater t_barred p2_behind p2_served p2_door t_row t_first) := hw
  refine lv_aload_n F.1 F.2.1 dX0_look_5 rfl (lv_at hl 0 rfl) ?_
  refine lv_iload_n F.1 F.2.1 dX0_look_6 rfl (lv_at hl 3 rfl) ?_
  refine pf_X0_35 F hw 0 rfl (Nat.le_of_ble_eq_true rfl) dX0_look_7 (fun H locs hw => ?_)
  replace hw : Wd dd g mv A s H locs (w_X0_look g q_t q_p1 q_p2 q_t_could q_t_needed q_t_neededLater q_t_barred q_p2_behind q_p2_served q_p2_door q_t_row q_t_first ((.ref q_p1)) a3 t_count t_isFound p1_places p1_deep p1_turn p1_wheel p1_leaks p1_wants p2_count t_could t_needed t_neededLater t_barred p2_behind p2_served p2_door t_row t_first) := hw
  refine lv_aload_n F.1 F.2.1 dX0_look_10 rfl (lv_at hl 0 rfl) ?_
  refine lv_iconst (v := 0) F.1 F.2.1 dX0_look_11 (by decide) ?_
  refine pf_X0_42 F hw 0 rfl (by decide) (by decide) (Nat.le_of_ble_eq_true rfl) dX0_look_12 (fun H locs hw => ?_)
  replace hw : Wd dd g mv A s H locs (w_X0_look g q_t q_p1 q_p2 q_t_could q_t_needed q_t_neededLater q_t_barred q_p2_behind q_p2_served q_p2_door q_t_row q_t_first ((.ref q_p1)) a3 t_count ((0 : Int32)) p1_places p1_deep p1_turn p1_wheel p1_leaks p1_wants p2_count t_could t_needed t_neededLater t_barred p2_behind p2_served p2_door t_row t_first) := hw
  refine lv_iconst (v := 0) F.1 F.2.1 dX0_look_15 (by decide) ?_
  refine lv_istore (lv' := [(4, .int (0 : Int32)), (0, .ref q_t), (1, .ref q_p1), (2, .ref q_p2), (3, .int a3)]) F.1 F.2.1 dX0_look_16 hl (by decide) rfl (fun ls hl => ?_)
  exact b_X0_look_18 F hret hlk  fuel hr hw (lv_sub hl [1, 2, 3, 0] rfl)
set_option maxHeartbeats 4000000 in
set_option maxRecDepth 100000 in
theorem c_X1_hangAnew (l : Launch) (dd : va_G) (g : Nat → ClassId) (mv : Nat) (q_t : Nat) (t_places : Int32) (t_deep : Int32) (t_turn : Int32) (t_wheel : Int64) (t_leaks : Int64) (t_wants : Int64) (a1 : Int32) (z : Int32 × Int32 × Int64 × Int64 × Int64) (hr : f_X1_hangAnew t_deep a1 = some z) (sz : Nat) : Met l yX1_hangAnew (.code yX1_hangAnew cX1_hangAnew 2 none :: WS) (rmH 0 0 0) (va_Pc [.ref q_t, .int a1] (PW dd g mv (w_X1_hangAnew g q_t t_places t_deep t_turn t_wheel t_leaks t_wants) sz)) (Qo dd g none (fun u : Unit => (w_X1_hangAnew g q_t z.1 t_deep z.2.1 z.2.2.1 z.2.2.2.1 z.2.2.2.2)) (va_A (w_X1_hangAnew g q_t t_places t_deep t_turn t_wheel t_leaks t_wants) sz)) 0 0 (va_A (w_X1_hangAnew g q_t t_places t_deep t_turn t_wheel t_leaks t_wants) sz) := by
  refine Met_intro (by decide) (Nat.le_of_ble_eq_true rfl) ?_
  intro p e s m below meth c A ls F hret hlk hin hw hl
  replace hl : lv_has ls 2 [(0, .ref q_t), (1, .int a1)] := hl
  refine lv_aload_n F.1 F.2.1 dX1_hangAnew_0 rfl (lv_at hl 0 rfl) ?_
  refine lv_iload_n F.1 F.2.1 dX1_hangAnew_1 rfl (lv_at hl 1 rfl) ?_
  refine pf_X1_9 F hw 0 rfl (Nat.le_of_ble_eq_true rfl) dX1_hangAnew_2 (fun H locs hw => ?_)
  replace hw : Wd dd g mv A s H locs (w_X1_hangAnew g q_t a1 t_deep t_turn t_wheel t_leaks t_wants) := hw
  refine lv_aload_n F.1 F.2.1 dX1_hangAnew_5 rfl (lv_at hl 0 rfl) ?_
  refine lv_iconst (v := 0) F.1 F.2.1 dX1_hangAnew_6 (by decide) ?_
  refine pf_X1_18 F hw 0 rfl (Nat.le_of_ble_eq_true rfl) dX1_hangAnew_7 (fun H locs hw => ?_)
  replace hw : Wd dd g mv A s H locs (w_X1_hangAnew g q_t a1 t_deep ((0 : Int32)) t_wheel t_leaks t_wants) := hw
  refine lv_aload_n F.1 F.2.1 dX1_hangAnew_10 rfl (lv_at hl 0 rfl) ?_
  refine lv_aload_n F.1 F.2.1 dX1_hangAnew_11 rfl (lv_at hl 0 rfl) ?_
  refine gf_X1_15 F hw 0 rfl rfl dX1_hangAnew_12 ?_
  refine lv_i2l F.1 F.2.1 dX1_hangAnew_15 rfl ?_
  refine pf_X1_23 F hw 0 rfl (Nat.le_of_ble_eq_true rfl) dX1_hangAnew_16 (fun H locs hw => ?_)
  replace hw : Wd dd g mv A s H locs (w_X1_hangAnew g q_t a1 t_deep ((0 : Int32)) t_deep.toInt64 t_leaks t_wants) := hw
  refine lv_aload_n F.1 F.2.1 dX1_hangAnew_19 rfl (lv_at hl 0 rfl) ?_
  refine lv_lconst (v := 0) F.1 F.2.1 dX1_hangAnew_20 (by decide) ?_
  refine pf_X1_27 F hw 0 rfl (Nat.le_of_ble_eq_true rfl) dX1_hangAnew_21 (fun H locs hw => ?_)
  replace hw : Wd dd g mv A s H locs (w_X1_hangAnew g q_t a1 t_deep ((0 : Int32)) t_deep.toInt64 ((0 : Int64)) t_wants) := hw
  refine lv_aload_n F.1 F.2.1 dX1_hangAnew_24 rfl (lv_at hl 0 rfl) ?_
  refine lv_lconst (v := 0) F.1 F.2.1 dX1_hangAnew_25 (by decide) ?_
  refine pf_X1_30 F hw 0 rfl (Nat.le_of_ble_eq_true rfl) dX1_hangAnew_26 (fun H locs hw => ?_)
  replace hw : Wd dd g mv A s H locs (w_X1_hangAnew g q_t a1 t_deep ((0 : Int32)) t_deep.toInt64 ((0 : Int64)) ((0 : Int64))) := hw
  cases hr
  exact ret_v () F hret hlk hw (Nat.le_refl _) (Nat.le_refl _) dX1_hangAnew_29
set_option maxHeartbeats 4000000 in
set_option maxRecDepth 100000 in
theorem c_X1_copyFrom (l : Launch) (dd : va_G) (g : Nat → ClassId) (mv : Nat) (q_t : Nat) (q_p1 : Nat) (t_places : Int32) (t_deep : Int32) (t_turn : Int32) (t_wheel : Int64) (t_leaks : Int64) (t_wants : Int64) (p1_places : Int32) (p1_deep : Int32) (p1_turn : Int32) (p1_wheel : Int64) (p1_leaks : Int64) (p1_wants : Int64) (z : Int32 × Int32 × Int32 × Int64 × Int64 × Int64) (hr : f_X1_copyFrom p1_places p1_deep p1_turn p1_wheel p1_leaks p1_wants = some z) (sz : Nat) : Met l yX1_copyFrom (.code yX1_copyFrom cX1_copyFrom 2 none :: WS) (rmH 0 0 0) (va_Pc [.ref q_t, .ref q_p1] (PW dd g mv (w_X1_copyFrom g q_t q_p1 t_places t_deep t_turn t_wheel t_leaks t_wants p1_places p1_deep p1_turn p1_wheel p1_leaks p1_wants) sz)) (Qo dd g none (fun u : Unit => (w_X1_copyFrom g q_t q_p1 z.1 z.2.1 z.2.2.1 z.2.2.2.1 z.2.2.2.2.1 z.2.2.2.2.2 p1_places p1_deep p1_turn p1_wheel p1_leaks p1_wants)) (va_A (w_X1_copyFrom g q_t q_p1 t_places t_deep t_turn t_wheel t_leaks t_wants p1_places p1_deep p1_turn p1_wheel p1_leaks p1_wants) sz)) 0 0 (va_A (w_X1_copyFrom g q_t q_p1 t_places t_deep t_turn t_wheel t_leaks t_wants p1_places p1_deep p1_turn p1_wheel p1_leaks p1_wants) sz) := by
  refine Met_intro (by decide) (Nat.le_of_ble_eq_true rfl) ?_
  intro p e s m below meth c A ls F hret hlk hin hw hl
  replace hl : lv_has ls 2 [(0, .ref q_t), (1, .ref q_p1)] := hl
  refine lv_aload_n F.1 F.2.1 dX1_copyFrom_0 rfl (lv_at hl 0 rfl) ?_
  refine lv_aload_n F.1 F.2.1 dX1_copyFrom_1 rfl (lv_at hl 1 rfl) ?_
  refine gf_X1_9 F hw 1 rfl rfl dX1_copyFrom_2 ?_
  refine pf_X1_9 F hw 0 rfl (Nat.le_of_ble_eq_true rfl) dX1_copyFrom_5 (fun H locs hw => ?_)
  replace hw : Wd dd g mv A s H locs (w_X1_copyFrom g q_t q_p1 p1_places t_deep t_turn t_wheel t_leaks t_wants p1_places p1_deep p1_turn p1_wheel p1_leaks p1_wants) := hw
  refine lv_aload_n F.1 F.2.1 dX1_copyFrom_8 rfl (lv_at hl 0 rfl) ?_
  refine lv_aload_n F.1 F.2.1 dX1_copyFrom_9 rfl (lv_at hl 1 rfl) ?_
  refine gf_X1_15 F hw 1 rfl rfl dX1_copyFrom_10 ?_
  refine pf_X1_15 F hw 0 rfl (Nat.le_of_ble_eq_true rfl) dX1_copyFrom_13 (fun H locs hw => ?_)
  replace hw : Wd dd g mv A s H locs (w_X1_copyFrom g q_t q_p1 p1_places p1_deep t_turn t_wheel t_leaks t_wants p1_places p1_deep p1_turn p1_wheel p1_leaks p1_wants) := hw
  refine lv_aload_n F.1 F.2.1 dX1_copyFrom_16 rfl (lv_at hl 0 rfl) ?_
  refine lv_aload_n F.1 F.2.1 dX1_copyFrom_17 rfl (lv_at hl 1 rfl) ?_
  refine gf_X1_18 F hw 1 rfl rfl dX1_copyFrom_18 ?_
  refine pf_X1_18 F hw 0 rfl (Nat.le_of_ble_eq_true rfl) dX1_copyFrom_21 (fun H locs hw => ?_)
  replace hw : Wd dd g mv A s H locs (w_X1_copyFrom g q_t q_p1 p1_places p1_deep p1_turn t_wheel t_leaks t_wants p1_places p1_deep p1_turn p1_wheel p1_leaks p1_wants) := hw
  refine lv_aload_n F.1 F.2.1 dX1_copyFrom_24 rfl (lv_at hl 0 rfl) ?_
  refine lv_aload_n F.1 F.2.1 dX1_copyFrom_25 rfl (lv_at hl 1 rfl) ?_
  refine gf_X1_23 F hw 1 rfl rfl dX1_copyFrom_26 ?_
  refine pf_X1_23 F hw 0 rfl (Nat.le_of_ble_eq_true rfl) dX1_copyFrom_29 (fun H locs hw => ?_)
  replace hw : Wd dd g mv A s H locs (w_X1_copyFrom g q_t q_p1 p1_places p1_deep p1_turn p1_wheel t_leaks t_wants p1_places p1_deep p1_turn p1_wheel p1_leaks p1_wants) := hw
  refine lv_aload_n F.1 F.2.1 dX1_copyFrom_32 rfl (lv_at hl 0 rfl) ?_
  refine lv_aload_n F.1 F.2.1 dX1_copyFrom_33 rfl (lv_at hl 1 rfl) ?_
  refine gf_X1_27 F hw 1 rfl rfl dX1_copyFrom_34 ?_
  refine pf_X1_27 F hw 0 rfl (Nat.le_of_ble_eq_true rfl) dX1_copyFrom_37 (fun H locs hw => ?_)
  replace hw : Wd dd g mv A s H locs (w_X1_copyFrom g q_t q_p1 p1_places p1_deep p1_turn p1_wheel p1_leaks t_wants p1_places p1_deep p1_turn p1_wheel p1_leaks p1_wants) := hw
  refine lv_aload_n F.1 F.2.1 dX1_copyFrom_40 rfl (lv_at hl 0 rfl) ?_
  refine lv_aload_n F.1 F.2.1 dX1_copyFrom_41 rfl (lv_at hl 1 rfl) ?_
  refine gf_X1_30 F hw 1 rfl rfl dX1_copyFrom_42 ?_
  refine pf_X1_30 F hw 0 rfl (Nat.le_of_ble_eq_true rfl) dX1_copyFrom_45 (fun H locs hw => ?_)
  replace hw : Wd dd g mv A s H locs (w_X1_copyFrom g q_t q_p1 p1_places p1_deep p1_turn p1_wheel p1_leaks p1_wants p1_places p1_deep p1_turn p1_wheel p1_leaks p1_wants) := hw
  cases hr
  exact ret_v () F hret hlk hw (Nat.le_refl _) (Nat.le_refl _) dX1_copyFrom_48
set_option maxHeartbeats 4000000 in
set_option maxRecDepth 100000 in
theorem c_X1_placeOf (l : Launch) (dd : va_G) (g : Nat → ClassId) (mv : Nat) (q_t : Nat) (t_places : Int32) (t_deep : Int32) (t_turn : Int32) (t_wheel : Int64) (t_leaks : Int64) (t_wants : Int64) (a1 : Int32) (a2 : Int32) (z : Int32) (hr : f_X1_placeOf t_places a1 a2 = some z) (sz : Nat) : Met l yX1_placeOf (.code yX1_placeOf cX1_placeOf 4 (some .int) :: WS) (rmH 0 0 0) (va_Pc [.ref q_t, .int a1, .int a2] (PW dd g mv (w_X1_placeOf g q_t t_places t_deep t_turn t_wheel t_leaks t_wants) sz)) (Qo dd g (some (.int z)) (fun u : Unit => (w_X1_placeOf g q_t t_places t_deep t_turn t_wheel t_leaks t_wants)) (va_A (w_X1_placeOf g q_t t_places t_deep t_turn t_wheel t_leaks t_wants) sz)) 0 0 (va_A (w_X1_placeOf g q_t t_places t_deep t_turn t_wheel t_leaks t_wants) sz) := by
  refine Met_intro (by decide) (Nat.le_of_ble_eq_true rfl) ?_
  intro p e s m below meth c A ls F hret hlk hin hw hl
  replace hl : lv_has ls 4 [(0, .ref q_t), (1, .int a1), (2, .int a2)] := hl
  refine lv_iload_n F.1 F.2.1 dX1_placeOf_0 rfl (lv_at hl 1 rfl) ?_
  refine lv_iload_n F.1 F.2.1 dX1_placeOf_1 rfl (lv_at hl 2 rfl) ?_
  refine lv_iadd F.1 F.2.1 dX1_placeOf_2 ?_
  refine lv_istore_n (lv' := [(3, .int (a1 + a2)), (0, .ref q_t), (1, .int a1), (2, .int a2)]) F.1 F.2.1 dX1_placeOf_3 rfl hl (by decide) rfl (fun ls hl => ?_)
  refine lv_iload_n F.1 F.2.1 dX1_placeOf_4 rfl (lv_at hl 0 rfl) ?_
  refine lv_aload_n F.1 F.2.1 dX1_placeOf_5 rfl (lv_at hl 1 rfl) ?_
  refine gf_X1_9 F hw 0 rfl rfl dX1_placeOf_6 ?_
  refine lv_icmp_lt (tgt := 21) F.1 F.2.1 dX1_placeOf_9 (by decide) (fun hc1 => ?_) (fun hc1 => ?_)
  · replace hr := (if_pos hc1).symm.trans hr
    refine lv_iload_n F.1 F.2.1 dX1_placeOf_21 rfl (lv_at hl 0 rfl) ?_
    cases hr
    exact ret_i () F hret hlk hw (Nat.le_refl _) (Nat.le_refl _) dX1_placeOf_22
  · replace hr := (if_neg hc1).symm.trans hr
    refine lv_iload_n F.1 F.2.1 dX1_placeOf_12 rfl (lv_at hl 0 rfl) ?_
    refine lv_aload_n F.1 F.2.1 dX1_placeOf_13 rfl (lv_at hl 1 rfl) ?_
    refine gf_X1_9 F hw 0 rfl rfl dX1_placeOf_14 ?_
    refine lv_isub F.1 F.2.1 dX1_placeOf_17 ?_
    refine lv_goto (tgt := 22) F.1 F.2.1 dX1_placeOf_18 (by decide) ?_
    cases hr
    exact ret_i () F hret hlk hw (Nat.le_refl _) (Nat.le_refl _) dX1_placeOf_22
set_option maxHeartbeats 4000000 in
set_option maxRecDepth 100000 in
theorem c_X11_lane (l : Launch) (dd : va_G) (g : Nat → ClassId) (mv : Nat) (a1 : Int64) (a2 : Int32) (z : Int32) (hr : f_X11_lane a1 a2 = some z) (sz : Nat) : Met l yX11_lane (.code yX11_lane cX11_lane 3 (some .int) :: WS) (rmH 0 0 0) (va_Pc [.long a1, .int a2] (PW dd g mv (w_X11_lane g ) sz)) (Qo dd g (some (.int z)) (fun u : Unit => (w_X11_lane g )) (va_A (w_X11_lane g ) sz)) 0 0 (va_A (w_X11_lane g ) sz) := by
  refine Met_intro (by decide) (Nat.le_of_ble_eq_true rfl) ?_
  intro p e s m below meth c A ls F hret hlk hin hw hl
  replace hl : lv_has ls 3 [(0, .long a1), (2, .int a2)] := hl
  refine lv_lload_n F.1 F.2.1 dX11_lane_0 rfl (lv_at hl 0 rfl) ?_
  refine lv_iconst (v := 5) F.1 F.2.1 dX11_lane_1 (by decide) ?_
  refine lv_iload_n F.1 F.2.1 dX11_lane_2 rfl (lv_at hl 1 rfl) ?_
  refine lv_imul F.1 F.2.1 dX11_lane_3 ?_
  refine lv_lushr F.1 F.2.1 dX11_lane_4 rfl ?_
  refine lv_ldc2 F.1 F.2.1 F.2.2.2.1 (F.2.2.2.2 _ cl_X11_299) dX11_lane_5 ?_
  refine lv_land F.1 F.2.1 dX11_lane_8 ?_
  refine lv_l2i F.1 F.2.1 dX11_lane_9 rfl ?_
  cases hr
  exact ret_i () F hret hlk hw (Nat.le_refl _) (Nat.le_refl _) dX11_lane_10
set_option maxHeartbeats 4000000 in
set_option maxRecDepth 100000 in
theorem b_X1_highest_4 {q_t : Nat} {z : Int32} (F : Fx p m c cX1_highest 3 s args RX1) (hret : meth.sig.returnType = some .int) (hlk : meth.locks = false) : ∀ (n : Nat), ∀ {x1 : Int32} {x2 : Int32} {t_places : Int32} {t_wheel : Int64} {t_deep : Int32} {t_turn : Int32} {t_leaks : Int64} {t_wants : Int64} {H : Heap} {locs : List Loc} {ls : Array Slot}, f_X1_highest_4  n x1 x2 t_places t_wheel = some z → Wd dd g mv A s H locs (w_X1_highest g q_t t_places t_deep t_turn t_wheel t_leaks t_wants) → lv_has ls 3 [(0, .ref q_t), (1, .int x1), (2, .int x2)] → W p l e (rmH (1) 0 0) s m args below meth c H locs 0 0 (MQ below (Qo dd g (some (.int z)) (fun u : Unit => (w_X1_highest g q_t t_places t_deep t_turn t_wheel t_leaks t_wants)) A) args s 0 0 A) (F0 m 4 ls []) := by
  intro n
  induction n with
  | zero =>
    intros
    rename_i hr _ _
    cases hr
  | succ n ih =>
    intro x1 x2 t_places t_wheel t_deep t_turn t_leaks t_wants H locs ls hr hw hl
    refine lv_iload_n F.1 F.2.1 dX1_highest_4 rfl (lv_at hl 2 rfl) ?_
    refine lv_aload_n F.1 F.2.1 dX1_highest_5 rfl (lv_at hl 0 rfl) ?_
    refine gf_X1_9 F hw 0 rfl rfl dX1_highest_6 ?_
    refine lv_icmp_ge (tgt := 31) F.1 F.2.1 dX1_highest_9 (by decide) (fun hc1 => ?_) (fun hc1 => ?_)
    · replace hr := (if_pos hc1).symm.trans hr
      refine lv_iload_n F.1 F.2.1 dX1_highest_31 rfl (lv_at hl 1 rfl) ?_
      cases hr
      exact ret_i () F hret hlk hw (Nat.le_refl _) (Nat.le_refl _) dX1_highest_32
    · replace hr := (if_neg hc1).symm.trans hr
      refine lv_iload_n F.1 F.2.1 dX1_highest_12 rfl (lv_at hl 1 rfl) ?_
      refine lv_aload_n F.1 F.2.1 dX1_highest_13 rfl (lv_at hl 0 rfl) ?_
      refine gf_X1_23 F hw 0 rfl rfl dX1_highest_14 ?_
      refine lv_iload_n F.1 F.2.1 dX1_highest_17 rfl (lv_at hl 2 rfl) ?_
      obtain ⟨z2, hz2, hr⟩ := Option.bind_eq_some_iff.mp hr
      refine call_o (wr := [(q_t, .inr (1, [.int t_places, .int t_deep, .int t_turn, .long t_wheel, .long t_leaks, .long t_wants]))]) (run_N (As := [.long t_wheel, .int x2]) (rest := [.int x1]) F k_X1_33 (c_X11_lane l dd g mv t_wheel x2 z2 hz2 _) hw [] (by decide) rfl rfl hl.1 rfl (Nat.le_of_ble_eq_true rfl) dX1_highest_18 ⟨Nat.le_of_ble_eq_true rfl, Nat.le_of_ble_eq_true rfl⟩ ⟨Nat.le_of_ble_eq_true rfl, Nat.le_of_ble_eq_true rfl⟩) hw [] [0] rfl rfl (by decide) (by decide) (fun u3 H locs hw => ?_)
      replace hw : Wd dd g mv A s H locs (w_X1_highest g q_t t_places t_deep t_turn t_wheel t_leaks t_wants) := hw.sub [0] (by decide) rfl
      refine W.eq (g2 := F0 m 21 ls (.int z2 :: .int x1 :: [])) rfl ?_
      refine m_max F hl.1 ml_X1_37 (Nat.le_of_ble_eq_true rfl) (Nat.le_of_ble_eq_true rfl) (Nat.le_of_ble_eq_true rfl) (Nat.le_of_ble_eq_true rfl) dX1_highest_21 ?_
      refine lv_istore_n (lv' := [(1, .int (if x1 < z2 then z2 else x1)), (0, .ref q_t), (2, .int x2)]) F.1 F.2.1 dX1_highest_24 rfl hl (by decide) rfl (fun ls hl => ?_)
      refine lv_iinc (v := (x2 + 1)) (lv' := [(2, .int (x2 + 1)), (1, .int (if x1 < z2 then z2 else x1)), (0, .ref q_t)]) F.1 F.2.1 dX1_highest_25 hl (k := 2) rfl rfl (by decide) rfl (fun ls hl => ?_)
      refine lv_goto (tgt := 4) F.1 F.2.1 dX1_highest_28 (by decide) ?_
      exact ih hr hw (lv_sub hl [2, 1, 0] rfl)
set_option maxHeartbeats 4000000 in
set_option maxRecDepth 100000 in
theorem c_X1_highest (l : Launch) (dd : va_G) (g : Nat → ClassId) (mv : Nat) (q_t : Nat) (t_places : Int32) (t_deep : Int32) (t_turn : Int32) (t_wheel : Int64) (t_leaks : Int64) (t_wants : Int64) (z : Int32) (hr : f_X1_highest t_places t_wheel = some z) (sz : Nat) : Met l yX1_highest (.code yX1_highest cX1_highest 3 (some .int) :: WS) (rmH 1 0 0) (va_Pc [.ref q_t] (PW dd g mv (w_X1_highest g q_t t_places t_deep t_turn t_wheel t_leaks t_wants) sz)) (Qo dd g (some (.int z)) (fun u : Unit => (w_X1_highest g q_t t_places t_deep t_turn t_wheel t_leaks t_wants)) (va_A (w_X1_highest g q_t t_places t_deep t_turn t_wheel t_leaks t_wants) sz)) 0 0 (va_A (w_X1_highest g q_t t_places t_deep t_turn t_wheel t_leaks t_wants) sz) := by
  refine Met_intro (by decide) (Nat.le_of_ble_eq_true rfl) ?_
  intro p e s m below meth c A ls F hret hlk hin hw hl
  replace hl : lv_has ls 3 [(0, .ref q_t)] := hl
  refine lv_iconst (v := 0) F.1 F.2.1 dX1_highest_0 (by decide) ?_
  refine lv_istore_n (lv' := [(1, .int (0 : Int32)), (0, .ref q_t)]) F.1 F.2.1 dX1_highest_1 rfl hl (by decide) rfl (fun ls hl => ?_)
  refine lv_iconst (v := 0) F.1 F.2.1 dX1_highest_2 (by decide) ?_
  refine lv_istore_n (lv' := [(2, .int (0 : Int32)), (1, .int (0 : Int32)), (0, .ref q_t)]) F.1 F.2.1 dX1_highest_3 rfl hl (by decide) rfl (fun ls hl => ?_)
  exact b_X1_highest_4 F hret hlk  fuel hr hw (lv_sub hl [2, 1, 0] rfl)
set_option maxHeartbeats 4000000 in
set_option maxRecDepth 100000 in
theorem b_X1_servedBits_33 {q_t : Nat} {z : Int32} (F : Fx p m c cX1_servedBits 5 s args RX1) (hret : meth.sig.returnType = some .int) (hlk : meth.locks = false) {k5 : Int64 → Int32 → Int32 → Int32 → Option (Int32)} (hk5 : ∀ {x1 : Int64} {x3 : Int32} {x4 : Int32} {t_places : Int32} {t_deep : Int32} {t_turn : Int32} {t_wheel : Int64} {t_leaks : Int64} {t_wants : Int64} {H : Heap} {locs : List Loc} {ls : Array Slot}, k5 x1 x3 x4 t_places = some z → Wd dd g mv A s H locs (w_X1_servedBits g q_t t_places t_deep t_turn t_wheel t_leaks t_wants) → lv_has ls 5 [(0, .ref q_t), (1, .long x1), (3, .int x3), (4, .int x4)] → W p l e (rmH (1) 0 0) s m args below meth c H locs 0 0 (MQ below (Qo dd g (some (.int z)) (fun u : Unit => (w_X1_servedBits g q_t t_places t_deep t_turn t_wheel t_leaks t_wants)) A) args s 0 0 A) (F0 m 5 ls [])) : ∀ {x1 : Int64} {x3 : Int32} {x4 : Int32} {t_places : Int32} {t_deep : Int32} {t_turn : Int32} {t_wheel : Int64} {t_leaks : Int64} {t_wants : Int64} {H : Heap} {locs : List Loc} {ls : Array Slot}, f_X1_servedBits_33 k5 x1 x3 x4 t_places = some z → Wd dd g mv A s H locs (w_X1_servedBits g q_t t_places t_deep t_turn t_wheel t_leaks t_wants) → lv_has ls 5 [(0, .ref q_t), (1, .long x1), (3, .int x3), (4, .int x4)] → W p l e (rmH (1) 0 0) s m args below meth c H locs 0 0 (MQ below (Qo dd g (some (.int z)) (fun u : Unit => (w_X1_servedBits g q_t t_places t_deep t_turn t_wheel t_leaks t_wants)) A) args s 0 0 A) (F0 m 33 ls []) := by
  intro x1 x3 x4 t_places t_deep t_turn t_wheel t_leaks t_wants H locs ls hr hw hl
  refine lv_iinc (v := (x4 + 1)) (lv' := [(4, .int (x4 + 1)), (0, .ref q_t), (1, .long x1), (3, .int x3)]) F.1 F.2.1 dX1_servedBits_33 hl (k := 3) rfl rfl (by decide) rfl (fun ls hl => ?_)
  refine lv_goto (tgt := 5) F.1 F.2.1 dX1_servedBits_36 (by decide) ?_
  exact hk5 hr hw (lv_sub hl [1, 2, 3, 0] rfl)
set_option maxHeartbeats 4000000 in
set_option maxRecDepth 100000 in
theorem b_X1_servedBits_5 {q_t : Nat} {z : Int32} (F : Fx p m c cX1_servedBits 5 s args RX1) (hret : meth.sig.returnType = some .int) (hlk : meth.locks = false) : ∀ (n : Nat), ∀ {x1 : Int64} {x3 : Int32} {x4 : Int32} {t_places : Int32} {t_deep : Int32} {t_turn : Int32} {t_wheel : Int64} {t_leaks : Int64} {t_wants : Int64} {H : Heap} {locs : List Loc} {ls : Array Slot}, f_X1_servedBits_5  n x1 x3 x4 t_places = some z → Wd dd g mv A s H locs (w_X1_servedBits g q_t t_places t_deep t_turn t_wheel t_leaks t_wants) → lv_has ls 5 [(0, .ref q_t), (1, .long x1), (3, .int x3), (4, .int x4)] → W p l e (rmH (1) 0 0) s m args below meth c H locs 0 0 (MQ below (Qo dd g (some (.int z)) (fun u : Unit => (w_X1_servedBits g q_t t_places t_deep t_turn t_wheel t_leaks t_wants)) A) args s 0 0 A) (F0 m 5 ls []) := by
  intro n
  induction n with
  | zero =>
    intros
    rename_i hr _ _
    cases hr
  | succ n ih =>
    intro x1 x3 x4 t_places t_deep t_turn t_wheel t_leaks t_wants H locs ls hr hw hl
    refine lv_iload F.1 F.2.1 dX1_servedBits_5 (lv_at hl 3 rfl) ?_
    refine lv_aload_n F.1 F.2.1 dX1_servedBits_7 rfl (lv_at hl 0 rfl) ?_
    refine gf_X1_9 F hw 0 rfl rfl dX1_servedBits_8 ?_
    refine lv_icmp_ge (tgt := 39) F.1 F.2.1 dX1_servedBits_11 (by decide) (fun hc1 => ?_) (fun hc1 => ?_)
    · replace hr := (if_pos hc1).symm.trans hr
      refine lv_iload_n F.1 F.2.1 dX1_servedBits_39 rfl (lv_at hl 2 rfl) ?_
      cases hr
      exact ret_i () F hret hlk hw (Nat.le_refl _) (Nat.le_refl _) dX1_servedBits_40
    · replace hr := (if_neg hc1).symm.trans hr
      refine lv_lload_n F.1 F.2.1 dX1_servedBits_14 rfl (lv_at hl 1 rfl) ?_
      refine lv_iload F.1 F.2.1 dX1_servedBits_15 (lv_at hl 3 rfl) ?_
      obtain ⟨z2, hz2, hr⟩ := Option.bind_eq_some_iff.mp hr
      refine call_o (wr := [(q_t, .inr (1, [.int t_places, .int t_deep, .int t_turn, .long t_wheel, .long t_leaks, .long t_wants]))]) (run_N (As := [.int x4]) (rest := [.long x1]) F k_X1_43 (c_X11_flag l dd g mv x4 z2 hz2 _) hw [] (by decide) rfl rfl hl.1 rfl (Nat.le_of_ble_eq_true rfl) dX1_servedBits_17 ⟨Nat.le_of_ble_eq_true rfl, Nat.le_of_ble_eq_true rfl⟩ ⟨Nat.le_of_ble_eq_true rfl, Nat.le_of_ble_eq_true rfl⟩) hw [] [0] rfl rfl (by decide) (by decide) (fun u3 H locs hw => ?_)
      replace hw : Wd dd g mv A s H locs (w_X1_servedBits g q_t t_places t_deep t_turn t_wheel t_leaks t_wants) := hw.sub [0] (by decide) rfl
      refine W.eq (g2 := F0 m 20 ls (.long z2 :: .long x1 :: [])) rfl ?_
      refine lv_land F.1 F.2.1 dX1_servedBits_20 ?_
      refine lv_lconst (v := 0) F.1 F.2.1 dX1_servedBits_21 (by decide) ?_
      refine W.lcmp F.1 F.2.1 dX1_servedBits_22 ?_
      refine lv_if_ne (tgt := 33) F.1 F.2.1 dX1_servedBits_23 (by decide) (fun hc4 => ?_) (fun hc4 => ?_)
      · replace hr := (if_neg hc4).symm.trans hr
        exact b_X1_servedBits_33 F hret hlk (ih) hr hw (lv_sub hl [0, 1, 2, 3] rfl)
      · replace hr := (if_pos hc4).symm.trans hr
        refine lv_iload_n F.1 F.2.1 dX1_servedBits_26 rfl (lv_at hl 2 rfl) ?_
        refine lv_iconst (v := 1) F.1 F.2.1 dX1_servedBits_27 (by decide) ?_
        refine lv_iload F.1 F.2.1 dX1_servedBits_28 (lv_at hl 3 rfl) ?_
        refine lv_ishl F.1 F.2.1 dX1_servedBits_30 ?_
        refine lv_ior F.1 F.2.1 dX1_servedBits_31 ?_
        refine lv_istore_n (lv' := [(3, .int (x3 ||| ((1 : Int32) <<< (x4 &&& 31)))), (0, .ref q_t), (1, .long x1), (4, .int x4)]) F.1 F.2.1 dX1_servedBits_32 rfl hl (by decide) rfl (fun ls hl => ?_)
        exact b_X1_servedBits_33 F hret hlk (ih) hr hw (lv_sub hl [1, 2, 0, 3] rfl)
set_option maxHeartbeats 4000000 in
set_option maxRecDepth 100000 in
theorem c_X1_servedBits (l : Launch) (dd : va_G) (g : Nat → ClassId) (mv : Nat) (q_t : Nat) (t_places : Int32) (t_deep : Int32) (t_turn : Int32) (t_wheel : Int64) (t_leaks : Int64) (t_wants : Int64) (a1 : Int64) (z : Int32) (hr : f_X1_servedBits t_places a1 = some z) (sz : Nat) : Met l yX1_servedBits (.code yX1_servedBits cX1_servedBits 5 (some .int) :: WS) (rmH 1 0 0) (va_Pc [.ref q_t, .long a1] (PW dd g mv (w_X1_servedBits g q_t t_places t_deep t_turn t_wheel t_leaks t_wants) sz)) (Qo dd g (some (.int z)) (fun u : Unit => (w_X1_servedBits g q_t t_places t_deep t_turn t_wheel t_leaks t_wants)) (va_A (w_X1_servedBits g q_t t_places t_deep t_turn t_wheel t_leaks t_wants) sz)) 0 0 (va_A (w_X1_servedBits g q_t t_places t_deep t_turn t_wheel t_leaks t_wants) sz) := by
  refine Met_intro (by decide) (Nat.le_of_ble_eq_true rfl) ?_
  intro p e s m below meth c A ls F hret hlk hin hw hl
  replace hl : lv_has ls 5 [(0, .ref q_t), (1, .long a1)] := hl
  refine lv_iconst (v := 0) F.1 F.2.1 dX1_servedBits_0 (by decide) ?_
  refine lv_istore_n (lv' := [(3, .int (0 : Int32)), (0, .ref q_t), (1, .long a1)]) F.1 F.2.1 dX1_servedBits_1 rfl hl (by decide) rfl (fun ls hl => ?_)
  refine lv_iconst (v := 0) F.1 F.2.1 dX1_servedBits_2 (by decide) ?_
  refine lv_istore (lv' := [(4, .int (0 : Int32)), (3, .int (0 : Int32)), (0, .ref q_t), (1, .long a1)]) F.1 F.2.1 dX1_servedBits_3 hl (by decide) rfl (fun ls hl => ?_)
  exact b_X1_servedBits_5 F hret hlk  fuel hr hw (lv_sub hl [2, 3, 1, 0] rfl)
set_option maxHeartbeats 4000000 in
set_option maxRecDepth 100000 in
theorem c_X2_leakOf (l : Launch) (dd : va_G) (g : Nat → ClassId) (mv : Nat) (q_t : Nat) (q_t_chain : Nat) (o_t_order : Value) (o_t_bestOrder : Value) (o_t_seek : Value) (t_wheel : Int64) (t_most : Int32) (t_best : Int32) (t_chain_places : Int32) (t_chain_deep : Int32) (t_chain_turn : Int32) (t_chain_wheel : Int64) (t_chain_leaks : Int64) (t_chain_wants : Int64) (a1 : Int32) (z : Int32) (hr : f_X2_leakOf t_chain_places t_chain_turn t_chain_leaks a1 = some z) (sz : Nat) : Met l yX2_leakOf (.code yX2_leakOf cX2_leakOf 2 (some .int) :: WS) (rmH 1 0 0) (va_Pc [.ref q_t, .int a1] (PW dd g mv (w_X2_leakOf g q_t q_t_chain o_t_order o_t_bestOrder o_t_seek t_wheel t_most t_best t_chain_places t_chain_deep t_chain_turn t_chain_wheel t_chain_leaks t_chain_wants) sz)) (Qo dd g (some (.int z)) (fun u : Unit => (w_X2_leakOf g q_t q_t_chain o_t_order o_t_bestOrder o_t_seek t_wheel t_most t_best t_chain_places t_chain_deep t_chain_turn t_chain_wheel t_chain_leaks t_chain_wants)) (va_A (w_X2_leakOf g q_t q_t_chain o_t_order o_t_bestOrder o_t_seek t_wheel t_most t_best t_chain_places t_chain_deep t_chain_turn t_chain_wheel t_chain_leaks t_chain_wants) sz)) 0 0 (va_A (w_X2_leakOf g q_t q_t_chain o_t_order o_t_bestOrder o_t_seek t_wheel t_most t_best t_chain_places t_chain_deep t_chain_turn t_chain_wheel t_chain_leaks t_chain_wants) sz) := by
  refine Met_intro (by decide) (Nat.le_of_ble_eq_true rfl) ?_
  intro p e s m below meth c A ls F hret hlk hin hw hl
  replace hl : lv_has ls 2 [(0, .ref q_t), (1, .int a1)] := hl
  refine lv_aload_n F.1 F.2.1 dX2_leakOf_0 rfl (lv_at hl 0 rfl) ?_
  refine gf_X2_18 F hw 0 rfl rfl dX2_leakOf_1 ?_
  refine gf_X2_76 F hw 1 rfl rfl dX2_leakOf_4 ?_
  refine lv_aload_n F.1 F.2.1 dX2_leakOf_7 rfl (lv_at hl 0 rfl) ?_
  refine gf_X2_18 F hw 0 rfl rfl dX2_leakOf_8 ?_
  refine lv_iload_n F.1 F.2.1 dX2_leakOf_11 rfl (lv_at hl 1 rfl) ?_
  refine lv_aload_n F.1 F.2.1 dX2_leakOf_12 rfl (lv_at hl 0 rfl) ?_
  refine gf_X2_18 F hw 0 rfl rfl dX2_leakOf_13 ?_
  refine gf_X2_79 F hw 1 rfl rfl dX2_leakOf_16 ?_
  obtain ⟨z1, hz1, hr⟩ := Option.bind_eq_some_iff.mp hr
  refine call_o (wr := [(q_t, .inr (2, [o_t_order, o_t_bestOrder, .ref q_t_chain, o_t_seek, .long t_wheel, .int t_most, .int t_best]))]) (run_V (As := [.int a1, .int t_chain_turn]) (rest := [.long t_chain_leaks]) F k_X2_82 (c_X1_placeOf l dd g mv q_t_chain t_chain_places t_chain_deep t_chain_turn t_chain_wheel t_chain_leaks t_chain_wants a1 t_chain_turn z1 hz1 _) hw [1] (by decide) rfl (ci := 1) rfl rfl rfl rfl hl.1 rfl (Nat.le_of_ble_eq_true rfl) dX2_leakOf_19 ⟨Nat.le_of_ble_eq_true rfl, Nat.le_of_ble_eq_true rfl⟩ ⟨Nat.le_of_ble_eq_true rfl, Nat.le_of_ble_eq_true rfl⟩) hw [1] [0] rfl rfl (by decide) (by decide) (fun u2 H locs hw => ?_)
  replace hw : Wd dd g mv A s H locs (w_X2_leakOf g q_t q_t_chain o_t_order o_t_bestOrder o_t_seek t_wheel t_most t_best t_chain_places t_chain_deep t_chain_turn t_chain_wheel t_chain_leaks t_chain_wants) := hw.sub [0, 1] (by decide) rfl
  refine W.eq (g2 := F0 m 22 ls (.int z1 :: .long t_chain_leaks :: [])) rfl ?_
  obtain ⟨z3, hz3, hr⟩ := Option.bind_eq_some_iff.mp hr
  refine call_o (wr := [(q_t, .inr (2, [o_t_order, o_t_bestOrder, .ref q_t_chain, o_t_seek, .long t_wheel, .int t_most, .int t_best])), (q_t_chain, .inr (1, [.int t_chain_places, .int t_chain_deep, .int t_chain_turn, .long t_chain_wheel, .long t_chain_leaks, .long t_chain_wants]))]) (run_N (As := [.long t_chain_leaks, .int z1]) (rest := []) F k_X2_86 (c_X11_lane l dd g mv t_chain_leaks z1 z3 hz3 _) hw [] (by decide) rfl rfl hl.1 rfl (Nat.le_of_ble_eq_true rfl) dX2_leakOf_22 ⟨Nat.le_of_ble_eq_true rfl, Nat.le_of_ble_eq_true rfl⟩ ⟨Nat.le_of_ble_eq_true rfl, Nat.le_of_ble_eq_true rfl⟩) hw [] [0, 1] rfl rfl (by decide) (by decide) (fun u4 H locs hw => ?_)
  replace hw : Wd dd g mv A s H locs (w_X2_leakOf g q_t q_t_chain o_t_order o_t_bestOrder o_t_seek t_wheel t_most t_best t_chain_places t_chain_deep t_chain_turn t_chain_wheel t_chain_leaks t_chain_wants) := hw.sub [0, 1] (by decide) rfl
  refine W.eq (g2 := F0 m 25 ls (.int z3 :: [])) rfl ?_
  cases hr
  exact ret_i () F hret hlk hw (Nat.le_refl _) (Nat.le_refl _) dX2_leakOf_25
set_option maxHeartbeats 4000000 in
set_option maxRecDepth 100000 in
theorem b_X2_isFirstOfItsLeak_30 {q_t q_t_chain : Nat} {z : Int32} (F : Fx p m c cX2_isFirstOfItsLeak 4 s args RX2) (hret : meth.sig.returnType = some .boolean) (hlk : meth.locks = false) {k2 : Int32 → Int32 → Int32 → Int32 → Int32 → Int64 → Option (Int32)} (hk2 : ∀ {x1 : Int32} {x2 : Int32} {x3 : Int32} {t_chain_places : Int32} {t_chain_turn : Int32} {t_chain_leaks : Int64} {t_wheel : Int64} {t_most : Int32} {t_best : Int32} {t_chain_deep : Int32} {t_chain_wheel : Int64} {t_chain_wants : Int64} {o_t_order : Value} {o_t_bestOrder : Value} {o_t_seek : Value} {H : Heap} {locs : List Loc} {ls : Array Slot}, k2 x1 x2 x3 t_chain_places t_chain_turn t_chain_leaks = some z → Wd dd g mv A s H locs (w_X2_isFirstOfItsLeak g q_t q_t_chain o_t_order o_t_bestOrder o_t_seek t_wheel t_most t_best t_chain_places t_chain_deep t_chain_turn t_chain_wheel t_chain_leaks t_chain_wants) → lv_has ls 4 [(0, .ref q_t), (1, .int x1), (2, .int x2), (3, .int x3)] → W p l e (rmH (2) 0 0) s m args below meth c H locs 0 0 (MQ below (Qo dd g (some (.int z)) (fun u : Unit => (w_X2_isFirstOfItsLeak g q_t q_t_chain o_t_order o_t_bestOrder o_t_seek t_wheel t_most t_best t_chain_places t_chain_deep t_chain_turn t_chain_wheel t_chain_leaks t_chain_wants)) A) args s 0 0 A) (F0 m 2 ls [])) : ∀ {x1 : Int32} {x2 : Int32} {x3 : Int32} {t_chain_places : Int32} {t_chain_turn : Int32} {t_chain_leaks : Int64} {t_wheel : Int64} {t_most : Int32} {t_best : Int32} {t_chain_deep : Int32} {t_chain_wheel : Int64} {t_chain_wants : Int64} {o_t_order : Value} {o_t_bestOrder : Value} {o_t_seek : Value} {H : Heap} {locs : List Loc} {ls : Array Slot}, f_X2_isFirstOfItsLeak_30 k2 x1 x2 x3 t_chain_places t_chain_turn t_chain_leaks = some z → Wd dd g mv A s H locs (w_X2_isFirstOfItsLeak g q_t q_t_chain o_t_order o_t_bestOrder o_t_seek t_wheel t_most t_best t_chain_places t_chain_deep t_chain_turn t_chain_wheel t_chain_leaks t_chain_wants) → lv_has ls 4 [(0, .ref q_t), (1, .int x1), (2, .int x2), (3, .int x3)] → W p l e (rmH (2) 0 0) s m args below meth c H locs 0 0 (MQ below (Qo dd g (some (.int z)) (fun u : Unit => (w_X2_isFirstOfItsLeak g q_t q_t_chain o_t_order o_t_bestOrder o_t_seek t_wheel t_most t_best t_chain_places t_chain_deep t_chain_turn t_chain_wheel t_chain_leaks t_chain_wants)) A) args s 0 0 A) (F0 m 30 ls []) := by
  intro x1 x2 x3 t_chain_places t_chain_turn t_chain_leaks t_wheel t_most t_best t_chain_deep t_chain_wheel t_chain_wants o_t_order o_t_bestOrder o_t_seek H locs ls hr hw hl
  refine lv_iinc (v := (x3 + 1)) (lv' := [(3, .int (x3 + 1)), (0, .ref q_t), (1, .int x1), (2, .int x2)]) F.1 F.2.1 dX2_isFirstOfItsLeak_30 hl (k := 3) rfl rfl (by decide) rfl (fun ls hl => ?_)
  refine lv_goto (tgt := 2) F.1 F.2.1 dX2_isFirstOfItsLeak_33 (by decide) ?_
  exact hk2 hr hw (lv_sub hl [1, 2, 3, 0] rfl)
set_option maxHeartbeats 4000000 in
set_option maxRecDepth 100000 in
theorem b_X2_isFirstOfItsLeak_2 {q_t q_t_chain : Nat} {z : Int32} (F : Fx p m c cX2_isFirstOfItsLeak 4 s args RX2) (hret : meth.sig.returnType = some .boolean) (hlk : meth.locks = false) : ∀ (n : Nat), ∀ {x1 : Int32} {x2 : Int32} {x3 : Int32} {t_chain_places : Int32} {t_chain_turn : Int32} {t_chain_leaks : Int64} {t_wheel : Int64} {t_most : Int32} {t_best : Int32} {t_chain_deep : Int32} {t_chain_wheel : Int64} {t_chain_wants : Int64} {o_t_order : Value} {o_t_bestOrder : Value} {o_t_seek : Value} {H : Heap} {locs : List Loc} {ls : Array Slot}, f_X2_isFirstOfItsLeak_2  n x1 x2 x3 t_chain_places t_chain_turn t_chain_leaks = some z → Wd dd g mv A s H locs (w_X2_isFirstOfItsLeak g q_t q_t_chain o_t_order o_t_bestOrder o_t_seek t_wheel t_most t_best t_chain_places t_chain_deep t_chain_turn t_chain_wheel t_chain_leaks t_chain_wants) → lv_has ls 4 [(0, .ref q_t), (1, .int x1), (2, .int x2), (3, .int x3)] → W p l e (rmH (2) 0 0) s m args below meth c H locs 0 0 (MQ below (Qo dd g (some (.int z)) (fun u : Unit => (w_X2_isFirstOfItsLeak g q_t q_t_chain o_t_order o_t_bestOrder o_t_seek t_wheel t_most t_best t_chain_places t_chain_deep t_chain_turn t_chain_wheel t_chain_leaks t_chain_wants)) A) args s 0 0 A) (F0 m 2 ls []) := by
  intro n
  induction n with
  | zero =>
    intros
    rename_i hr _ _
    cases hr
  | succ n ih =>
    intro x1 x2 x3 t_chain_places t_chain_turn t_chain_leaks t_wheel t_most t_best t_chain_deep t_chain_wheel t_chain_wants o_t_order o_t_bestOrder o_t_seek H locs ls hr hw hl
    refine lv_iload_n F.1 F.2.1 dX2_isFirstOfItsLeak_2 rfl (lv_at hl 3 rfl) ?_
    refine lv_iload_n F.1 F.2.1 dX2_isFirstOfItsLeak_3 rfl (lv_at hl 1 rfl) ?_
    refine lv_icmp_ge (tgt := 36) F.1 F.2.1 dX2_isFirstOfItsLeak_4 (by decide) (fun hc1 => ?_) (fun hc1 => ?_)
    · replace hr := (if_pos hc1).symm.trans hr
      refine lv_iconst (v := 1) F.1 F.2.1 dX2_isFirstOfItsLeak_36 (by decide) ?_
      cases hr
      exact ret_z (v := (1 : Int32)) () F hret hlk (by decide) hw (Nat.le_refl _) (Nat.le_refl _) dX2_isFirstOfItsLeak_37
    · replace hr := (if_neg hc1).symm.trans hr
      refine lv_iload_n F.1 F.2.1 dX2_isFirstOfItsLeak_7 rfl (lv_at hl 2 rfl) ?_
      refine lv_iload_n F.1 F.2.1 dX2_isFirstOfItsLeak_8 rfl (lv_at hl 3 rfl) ?_
      refine lv_ishr F.1 F.2.1 dX2_isFirstOfItsLeak_9 ?_
      refine lv_iconst (v := 1) F.1 F.2.1 dX2_isFirstOfItsLeak_10 (by decide) ?_
      refine lv_iand F.1 F.2.1 dX2_isFirstOfItsLeak_11 ?_
      refine lv_if_ne (tgt := 30) F.1 F.2.1 dX2_isFirstOfItsLeak_12 (by decide) (fun hc2 => ?_) (fun hc2 => ?_)
      · replace hr := (if_neg hc2).symm.trans hr
        exact b_X2_isFirstOfItsLeak_30 F hret hlk (ih) hr hw (lv_sub hl [0, 1, 2, 3] rfl)
      · replace hr := (if_pos hc2).symm.trans hr
        refine lv_aload_n F.1 F.2.1 dX2_isFirstOfItsLeak_15 rfl (lv_at hl 0 rfl) ?_
        refine lv_iload_n F.1 F.2.1 dX2_isFirstOfItsLeak_16 rfl (lv_at hl 3 rfl) ?_
        obtain ⟨z3, hz3, hr⟩ := Option.bind_eq_some_iff.mp hr
        refine call_o (wr := []) (run_V (As := [.int x3]) (rest := []) F k_X2_65 (c_X2_leakOf l dd g mv q_t q_t_chain o_t_order o_t_bestOrder o_t_seek t_wheel t_most t_best t_chain_places t_chain_deep t_chain_turn t_chain_wheel t_chain_leaks t_chain_wants x3 z3 hz3 _) hw [0, 1] (by decide) rfl (ci := 2) rfl rfl rfl rfl hl.1 rfl (Nat.le_of_ble_eq_true rfl) dX2_isFirstOfItsLeak_17 ⟨Nat.le_of_ble_eq_true rfl, Nat.le_of_ble_eq_true rfl⟩ ⟨Nat.le_of_ble_eq_true rfl, Nat.le_of_ble_eq_true rfl⟩) hw [0, 1] [] rfl rfl (by decide) (by decide) (fun u4 H locs hw => ?_)
        replace hw : Wd dd g mv A s H locs (w_X2_isFirstOfItsLeak g q_t q_t_chain o_t_order o_t_bestOrder o_t_seek t_wheel t_most t_best t_chain_places t_chain_deep t_chain_turn t_chain_wheel t_chain_leaks t_chain_wants) := hw.sub [0, 1] (by decide) rfl
        refine W.eq (g2 := F0 m 20 ls (.int z3 :: [])) rfl ?_
        refine lv_aload_n F.1 F.2.1 dX2_isFirstOfItsLeak_20 rfl (lv_at hl 0 rfl) ?_
        refine lv_iload_n F.1 F.2.1 dX2_isFirstOfItsLeak_21 rfl (lv_at hl 1 rfl) ?_
        obtain ⟨z5, hz5, hr⟩ := Option.bind_eq_some_iff.mp hr
        refine call_o (wr := []) (run_V (As := [.int x1]) (rest := [.int z3]) F k_X2_65 (c_X2_leakOf l dd g mv q_t q_t_chain o_t_order o_t_bestOrder o_t_seek t_wheel t_most t_best t_chain_places t_chain_deep t_chain_turn t_chain_wheel t_chain_leaks t_chain_wants x1 z5 hz5 _) hw [0, 1] (by decide) rfl (ci := 2) rfl rfl rfl rfl hl.1 rfl (Nat.le_of_ble_eq_true rfl) dX2_isFirstOfItsLeak_22 ⟨Nat.le_of_ble_eq_true rfl, Nat.le_of_ble_eq_true rfl⟩ ⟨Nat.le_of_ble_eq_true rfl, Nat.le_of_ble_eq_true rfl⟩) hw [0, 1] [] rfl rfl (by decide) (by decide) (fun u6 H locs hw => ?_)
        replace hw : Wd dd g mv A s H locs (w_X2_isFirstOfItsLeak g q_t q_t_chain o_t_order o_t_bestOrder o_t_seek t_wheel t_most t_best t_chain_places t_chain_deep t_chain_turn t_chain_wheel t_chain_leaks t_chain_wants) := hw.sub [0, 1] (by decide) rfl
        refine W.eq (g2 := F0 m 25 ls (.int z5 :: .int z3 :: [])) rfl ?_
        refine lv_icmp_ne (tgt := 30) F.1 F.2.1 dX2_isFirstOfItsLeak_25 (by decide) (fun hc7 => ?_) (fun hc7 => ?_)
        · replace hr := (if_neg hc7).symm.trans hr
          exact b_X2_isFirstOfItsLeak_30 F hret hlk (ih) hr hw (lv_sub hl [0, 1, 2, 3] rfl)
        · replace hr := (if_pos hc7).symm.trans hr
          refine lv_iconst (v := 0) F.1 F.2.1 dX2_isFirstOfItsLeak_28 (by decide) ?_
          cases hr
          exact ret_z (v := (0 : Int32)) () F hret hlk (by decide) hw (Nat.le_refl _) (Nat.le_refl _) dX2_isFirstOfItsLeak_29
set_option maxHeartbeats 4000000 in
set_option maxRecDepth 100000 in
theorem c_X2_isFirstOfItsLeak (l : Launch) (dd : va_G) (g : Nat → ClassId) (mv : Nat) (q_t : Nat) (q_t_chain : Nat) (o_t_order : Value) (o_t_bestOrder : Value) (o_t_seek : Value) (t_wheel : Int64) (t_most : Int32) (t_best : Int32) (t_chain_places : Int32) (t_chain_deep : Int32) (t_chain_turn : Int32) (t_chain_wheel : Int64) (t_chain_leaks : Int64) (t_chain_wants : Int64) (a1 : Int32) (a2 : Int32) (z : Int32) (hr : f_X2_isFirstOfItsLeak t_chain_places t_chain_turn t_chain_leaks a1 a2 = some z) (sz : Nat) : Met l yX2_isFirstOfItsLeak (.code yX2_isFirstOfItsLeak cX2_isFirstOfItsLeak 4 (some .boolean) :: WS) (rmH 2 0 0) (va_Pc [.ref q_t, .int a1, .int a2] (PW dd g mv (w_X2_isFirstOfItsLeak g q_t q_t_chain o_t_order o_t_bestOrder o_t_seek t_wheel t_most t_best t_chain_places t_chain_deep t_chain_turn t_chain_wheel t_chain_leaks t_chain_wants) sz)) (Qo dd g (some (.int z)) (fun u : Unit => (w_X2_isFirstOfItsLeak g q_t q_t_chain o_t_order o_t_bestOrder o_t_seek t_wheel t_most t_best t_chain_places t_chain_deep t_chain_turn t_chain_wheel t_chain_leaks t_chain_wants)) (va_A (w_X2_isFirstOfItsLeak g q_t q_t_chain o_t_order o_t_bestOrder o_t_seek t_wheel t_most t_best t_chain_places t_chain_deep t_chain_turn t_chain_wheel t_chain_leaks t_chain_wants) sz)) 0 0 (va_A (w_X2_isFirstOfItsLeak g q_t q_t_chain o_t_order o_t_bestOrder o_t_seek t_wheel t_most t_best t_chain_places t_chain_deep t_chain_turn t_chain_wheel t_chain_leaks t_chain_wants) sz) := by
  refine Met_intro (by decide) (Nat.le_of_ble_eq_true rfl) ?_
  intro p e s m below meth c A ls F hret hlk hin hw hl
  replace hl : lv_has ls 4 [(0, .ref q_t), (1, .int a1), (2, .int a2)] := hl
  refine lv_iconst (v := 0) F.1 F.2.1 dX2_isFirstOfItsLeak_0 (by decide) ?_
  refine lv_istore_n (lv' := [(3, .int (0 : Int32)), (0, .ref q_t), (1, .int a1), (2, .int a2)]) F.1 F.2.1 dX2_isFirstOfItsLeak_1 rfl hl (by decide) rfl (fun ls hl => ?_)
  exact b_X2_isFirstOfItsLeak_2 F hret hlk  fuel hr hw (lv_sub hl [1, 2, 3, 0] rfl)
set_option maxHeartbeats 4000000 in
set_option maxRecDepth 100000 in
theorem c_X2_keepBetter (l : Launch) (dd : va_G) (g : Nat → ClassId) (mv : Nat) (q_t : Nat) (q_t_seek : Nat) (q_t_order : Nat) (q_t_bestOrder : Nat) (o_t_chain : Value) (o_t_seek_chain : Value) (t_wheel : Int64) (t_most : Int32) (t_best : Int32) (t_seek_doors : Int64) (t_seek_most : Int32) (t_seek_best : Int32) (t_seek_row : Int32) (t_order : Nat → Int32) (t_bestOrder : Nat → Int32) (z : Int32 × Int32 × (Nat → Int32)) (hr : f_X2_keepBetter t_most t_best t_seek_best t_order t_bestOrder = some z) (sz : Nat) : Met l yX2_keepBetter (.code yX2_keepBetter cX2_keepBetter 1 none :: WS) (rmH 1 0 0) (va_Pc [.ref q_t] (PW dd g mv (w_X2_keepBetter g q_t q_t_seek q_t_order q_t_bestOrder o_t_chain o_t_seek_chain t_wheel t_most t_best t_seek_doors t_seek_most t_seek_best t_seek_row t_order t_bestOrder) sz)) (Qo dd g none (fun u : Unit => (w_X2_keepBetter g q_t q_t_seek q_t_order q_t_bestOrder o_t_chain o_t_seek_chain t_wheel z.1 z.2.1 t_seek_doors t_seek_most t_seek_best t_seek_row t_order z.2.2)) (va_A (w_X2_keepBetter g q_t q_t_seek q_t_order q_t_bestOrder o_t_chain o_t_seek_chain t_wheel t_most t_best t_seek_doors t_seek_most t_seek_best t_seek_row t_order t_bestOrder) sz)) 0 0 (va_A (w_X2_keepBetter g q_t q_t_seek q_t_order q_t_bestOrder o_t_chain o_t_seek_chain t_wheel t_most t_best t_seek_doors t_seek_most t_seek_best t_seek_row t_order t_bestOrder) sz) := by
  refine Met_intro (by decide) (Nat.le_of_ble_eq_true rfl) ?_
  intro p e s m below meth c A ls F hret hlk hin hw hl
  replace hl : lv_has ls 1 [(0, .ref q_t)] := hl
  refine lv_aload_n F.1 F.2.1 dX2_keepBetter_0 rfl (lv_at hl 0 rfl) ?_
  refine gf_X2_22 F hw 0 rfl rfl dX2_keepBetter_1 ?_
  refine gf_X2_69 F hw 1 rfl rfl dX2_keepBetter_4 ?_
  refine lv_bipush (v := -6) F.1 F.2.1 dX2_keepBetter_7 (by decide) ?_
  refine lv_icmp_ne (tgt := 13) F.1 F.2.1 dX2_keepBetter_9 (by decide) (fun hc1 => ?_) (fun hc1 => ?_)
  · replace hr := (if_neg hc1).symm.trans hr
    refine lv_aload_n F.1 F.2.1 dX2_keepBetter_13 rfl (lv_at hl 0 rfl) ?_
    refine lv_aload_n F.1 F.2.1 dX2_keepBetter_14 rfl (lv_at hl 0 rfl) ?_
    refine gf_X2_22 F hw 0 rfl rfl dX2_keepBetter_15 ?_
    refine gf_X2_69 F hw 1 rfl rfl dX2_keepBetter_18 ?_
    refine pf_X2_34 F hw 0 rfl (Nat.le_of_ble_eq_true rfl) dX2_keepBetter_21 (fun H locs hw => ?_)
    replace hw : Wd dd g mv A s H locs (w_X2_keepBetter g q_t q_t_seek q_t_order q_t_bestOrder o_t_chain o_t_seek_chain t_wheel t_most t_seek_best t_seek_doors t_seek_most t_seek_best t_seek_row t_order t_bestOrder) := hw
    refine lv_aload_n F.1 F.2.1 dX2_keepBetter_24 rfl (lv_at hl 0 rfl) ?_
    refine lv_aload_n F.1 F.2.1 dX2_keepBetter_25 rfl (lv_at hl 0 rfl) ?_
    refine gf_X2_34 F hw 0 rfl rfl dX2_keepBetter_26 ?_
    refine lv_iconst (v := 1) F.1 F.2.1 dX2_keepBetter_29 (by decide) ?_
    refine lv_isub F.1 F.2.1 dX2_keepBetter_30 ?_
    refine pf_X2_30 F hw 0 rfl (Nat.le_of_ble_eq_true rfl) dX2_keepBetter_31 (fun H locs hw => ?_)
    replace hw : Wd dd g mv A s H locs (w_X2_keepBetter g q_t q_t_seek q_t_order q_t_bestOrder o_t_chain o_t_seek_chain t_wheel ((t_seek_best - (1 : Int32))) t_seek_best t_seek_doors t_seek_most t_seek_best t_seek_row t_order t_bestOrder) := hw
    refine lv_aload_n F.1 F.2.1 dX2_keepBetter_34 rfl (lv_at hl 0 rfl) ?_
    refine gf_X2_9 F hw 0 rfl rfl dX2_keepBetter_35 ?_
    refine lv_iconst (v := 0) F.1 F.2.1 dX2_keepBetter_38 (by decide) ?_
    refine lv_aload_n F.1 F.2.1 dX2_keepBetter_39 rfl (lv_at hl 0 rfl) ?_
    refine gf_X2_15 F hw 0 rfl rfl dX2_keepBetter_40 ?_
    refine lv_iconst (v := 0) F.1 F.2.1 dX2_keepBetter_43 (by decide) ?_
    refine lv_bipush (v := 6) F.1 F.2.1 dX2_keepBetter_44 (by decide) ?_
    refine va_copyi F.1 F.2.1 (F.2.2.1.trans hl.1.symm) F.2.2.2.1 (F.2.2.2.2 _ ml_X2_70) (F.2.2.2.2 _ wJ_ac_n) (F.2.2.2.2 _ wJ_ac_s) (F.2.2.2.2 _ wJ_sys) hw.1 hw.2.1 hw.2.2.1 hw.2.2.2.1 2 3 0 0 rfl rfl rfl rfl rfl (by decide) (by decide) (by decide) (by decide) (by decide) (fun _ _ => rfl) (Nat.le_of_ble_eq_true rfl) (Nat.le_of_ble_eq_true rfl) dX2_keepBetter_46 (fun H locs hP hD hS => ?_)
    replace hw : Wd dd g mv A s H locs (w_X2_keepBetter g q_t q_t_seek q_t_order q_t_bestOrder o_t_chain o_t_seek_chain t_wheel ((t_seek_best - (1 : Int32))) t_seek_best t_seek_doors t_seek_most t_seek_best t_seek_row t_order ((va_cpy t_order t_bestOrder ((0 : Int32)).toNatClampNeg ((0 : Int32)).toNatClampNeg ((6 : Int32)).toNatClampNeg))) := ⟨hw.1, hP, hD, hS, hw.2.2.2.2⟩
    cases hr
    exact ret_v () F hret hlk hw (Nat.le_refl _) (Nat.le_refl _) dX2_keepBetter_49
  · replace hr := (if_pos hc1).symm.trans hr
    cases hr
    exact ret_v () F hret hlk hw (Nat.le_refl _) (Nat.le_refl _) dX2_keepBetter_12
set_option maxHeartbeats 4000000 in
set_option maxRecDepth 100000 in
theorem c_X7_way (l : Launch) (dd : va_G) (g : Nat → ClassId) (mv : Nat) (q_t : Nat) (q_t_chain : Nat) (t_doors : Int64) (t_most : Int32) (t_best : Int32) (t_row : Int32) (t_chain_places : Int32) (t_chain_deep : Int32) (t_chain_turn : Int32) (t_chain_wheel : Int64) (t_chain_leaks : Int64) (t_chain_wants : Int64) (a1 : Int32) (a2 : Int32) (z : Int32) (hr : f_X7_way t_chain_places a1 a2 = some z) (sz : Nat) : Met l yX7_way (.code yX7_way cX7_way 4 (some .int) :: WS) (rmH 1 0 0) (va_Pc [.ref q_t, .int a1, .int a2] (PW dd g mv (w_X7_way g q_t q_t_chain t_doors t_most t_best t_row t_chain_places t_chain_deep t_chain_turn t_chain_wheel t_chain_leaks t_chain_wants) sz)) (Qo dd g (some (.int z)) (fun u : Unit => (w_X7_way g q_t q_t_chain t_doors t_most t_best t_row t_chain_places t_chain_deep t_chain_turn t_chain_wheel t_chain_leaks t_chain_wants)) (va_A (w_X7_way g q_t q_t_chain t_doors t_most t_best t_row t_chain_places t_chain_deep t_chain_turn t_chain_wheel t_chain_leaks t_chain_wants) sz)) 0 0 (va_A (w_X7_way g q_t q_t_chain t_doors t_most t_best t_row t_chain_places t_chain_deep t_chain_turn t_chain_wheel t_chain_leaks t_chain_wants) sz) := by
  refine Met_intro (by decide) (Nat.le_of_ble_eq_true rfl) ?_
  intro p e s m below meth c A ls F hret hlk hin hw hl
  replace hl : lv_has ls 4 [(0, .ref q_t), (1, .int a1), (2, .int a2)] := hl
  refine lv_iload_n F.1 F.2.1 dX7_way_0 rfl (lv_at hl 1 rfl) ?_
  refine lv_iload_n F.1 F.2.1 dX7_way_1 rfl (lv_at hl 2 rfl) ?_
  refine lv_isub F.1 F.2.1 dX7_way_2 ?_
  refine m_abs F hl.1 ml_X7_81 (Nat.le_of_ble_eq_true rfl) (Nat.le_of_ble_eq_true rfl) (Nat.le_of_ble_eq_true rfl) (Nat.le_of_ble_eq_true rfl) dX7_way_3 ?_
  refine lv_istore_n (lv' := [(3, .int (if 0 ≤ (a1 - a2) then (a1 - a2) else 0 - (a1 - a2))), (0, .ref q_t), (1, .int a1), (2, .int a2)]) F.1 F.2.1 dX7_way_6 rfl hl (by decide) rfl (fun ls hl => ?_)
  refine lv_iload_n F.1 F.2.1 dX7_way_7 rfl (lv_at hl 0 rfl) ?_
  refine lv_aload_n F.1 F.2.1 dX7_way_8 rfl (lv_at hl 1 rfl) ?_
  refine gf_X7_9 F hw 0 rfl rfl dX7_way_9 ?_
  refine gf_X7_51 F hw 1 rfl rfl dX7_way_12 ?_
  refine lv_iload_n F.1 F.2.1 dX7_way_15 rfl (lv_at hl 0 rfl) ?_
  refine lv_isub F.1 F.2.1 dX7_way_16 ?_
  refine m_min F hl.1 ml_X7_85 (Nat.le_of_ble_eq_true rfl) (Nat.le_of_ble_eq_true rfl) (Nat.le_of_ble_eq_true rfl) (Nat.le_of_ble_eq_true rfl) dX7_way_17 ?_
  cases hr
  exact ret_i () F hret hlk hw (Nat.le_refl _) (Nat.le_refl _) dX7_way_20
set_option maxHeartbeats 4000000 in
set_option maxRecDepth 100000 in
theorem b_X7_canOne_24 {q_t q_t_chain : Nat} {z : Int32} (F : Fx p m c cX7_canOne 11 s args RX7) (hret : meth.sig.returnType = some .boolean) (hlk : meth.locks = false) : ∀ (n : Nat), ∀ {x1 : Int32} {x2 : Int64} {x4 : Int64} {x6 : Int32} {x7 : Int32} {x8 : Int32} {t_chain_places : Int32} {t_chain_deep : Int32} {t_doors : Int64} {t_most : Int32} {t_best : Int32} {t_row : Int32} {t_chain_turn : Int32} {t_chain_wheel : Int64} {t_chain_leaks : Int64} {t_chain_wants : Int64} {H : Heap} {locs : List Loc} {ls : Array Slot}, f_X7_canOne_24  n x1 x2 x4 x6 x7 x8 t_chain_places t_chain_deep = some z → Wd dd g mv A s H locs (w_X7_canOne g q_t q_t_chain t_doors t_most t_best t_row t_chain_places t_chain_deep t_chain_turn t_chain_wheel t_chain_leaks t_chain_wants) → lv_has ls 11 [(0, .ref q_t), (1, .int x1), (2, .long x2), (4, .long x4), (6, .int x6), (7, .int x7), (8, .int x8)] → W p l e (rmH (2) 0 0) s m args below meth c H locs 0 0 (MQ below (Qo dd g (some (.int z)) (fun u : Unit => (w_X7_canOne g q_t q_t_chain t_doors t_most t_best t_row t_chain_places t_chain_deep t_chain_turn t_chain_wheel t_chain_leaks t_chain_wants)) A) args s 0 0 A) (F0 m 24 ls []) := by
  intro n
  induction n with
  | zero =>
    intros
    rename_i hr _ _
    cases hr
  | succ n ih =>
    intro x1 x2 x4 x6 x7 x8 t_chain_places t_chain_deep t_doors t_most t_best t_row t_chain_turn t_chain_wheel t_chain_leaks t_chain_wants H locs ls hr hw hl
    refine lv_iload F.1 F.2.1 dX7_canOne_24 (lv_at hl 6 rfl) ?_
    refine lv_aload_n F.1 F.2.1 dX7_canOne_26 rfl (lv_at hl 0 rfl) ?_
    refine gf_X7_9 F hw 0 rfl rfl dX7_canOne_27 ?_
    refine gf_X7_51 F hw 1 rfl rfl dX7_canOne_30 ?_
    refine lv_icmp_ge (tgt := 99) F.1 F.2.1 dX7_canOne_33 (by decide) (fun hc1 => ?_) (fun hc1 => ?_)
    · replace hr := (if_pos hc1).symm.trans hr
      refine lv_iconst (v := 0) F.1 F.2.1 dX7_canOne_99 (by decide) ?_
      cases hr
      exact ret_z (v := (0 : Int32)) () F hret hlk (by decide) hw (Nat.le_refl _) (Nat.le_refl _) dX7_canOne_100
    · replace hr := (if_neg hc1).symm.trans hr
      refine lv_lload F.1 F.2.1 dX7_canOne_36 (lv_at hl 3 rfl) ?_
      refine lv_iload F.1 F.2.1 dX7_canOne_38 (lv_at hl 6 rfl) ?_
      obtain ⟨z2, hz2, hr⟩ := Option.bind_eq_some_iff.mp hr
      refine call_o (wr := [(q_t, .inr (7, [.ref q_t_chain, .long t_doors, .int t_most, .int t_best, .int t_row])), (q_t_chain, .inr (1, [.int t_chain_places, .int t_chain_deep, .int t_chain_turn, .long t_chain_wheel, .long t_chain_leaks, .long t_chain_wants]))]) (run_N (As := [.long x4, .int x8]) (rest := []) F k_X7_65 (c_X11_lane l dd g mv x4 x8 z2 hz2 _) hw [] (by decide) rfl rfl hl.1 rfl (Nat.le_of_ble_eq_true rfl) dX7_canOne_40 ⟨Nat.le_of_ble_eq_true rfl, Nat.le_of_ble_eq_true rfl⟩ ⟨Nat.le_of_ble_eq_true rfl, Nat.le_of_ble_eq_true rfl⟩) hw [] [0, 1] rfl rfl (by decide) (by decide) (fun u3 H locs hw => ?_)
      replace hw : Wd dd g mv A s H locs (w_X7_canOne g q_t q_t_chain t_doors t_most t_best t_row t_chain_places t_chain_deep t_chain_turn t_chain_wheel t_chain_leaks t_chain_wants) := hw.sub [0, 1] (by decide) rfl
      refine W.eq (g2 := F0 m 43 ls (.int z2 :: [])) rfl ?_
      refine lv_istore (lv' := [(9, .int z2), (0, .ref q_t), (1, .int x1), (2, .long x2), (4, .long x4), (6, .int x6), (7, .int x7), (8, .int x8)]) F.1 F.2.1 dX7_canOne_43 hl (by decide) rfl (fun ls hl => ?_)
      refine lv_lload_n F.1 F.2.1 dX7_canOne_45 rfl (lv_at hl 3 rfl) ?_
      refine lv_iload F.1 F.2.1 dX7_canOne_46 (lv_at hl 7 rfl) ?_
      obtain ⟨z4, hz4, hr⟩ := Option.bind_eq_some_iff.mp hr
      refine call_o (wr := [(q_t, .inr (7, [.ref q_t_chain, .long t_doors, .int t_most, .int t_best, .int t_row])), (q_t_chain, .inr (1, [.int t_chain_places, .int t_chain_deep, .int t_chain_turn, .long t_chain_wheel, .long t_chain_leaks, .long t_chain_wants]))]) (run_N (As := [.long x2, .int x8]) (rest := []) F k_X7_65 (c_X11_lane l dd g mv x2 x8 z4 hz4 _) hw [] (by decide) rfl rfl hl.1 rfl (Nat.le_of_ble_eq_true rfl) dX7_canOne_48 ⟨Nat.le_of_ble_eq_true rfl, Nat.le_of_ble_eq_true rfl⟩ ⟨Nat.le_of_ble_eq_true rfl, Nat.le_of_ble_eq_true rfl⟩) hw [] [0, 1] rfl rfl (by decide) (by decide) (fun u5 H locs hw => ?_)
      replace hw : Wd dd g mv A s H locs (w_X7_canOne g q_t q_t_chain t_doors t_most t_best t_row t_chain_places t_chain_deep t_chain_turn t_chain_wheel t_chain_leaks t_chain_wants) := hw.sub [0, 1] (by decide) rfl
      refine W.eq (g2 := F0 m 51 ls (.int z4 :: [])) rfl ?_
      refine lv_iload F.1 F.2.1 dX7_canOne_51 (lv_at hl 0 rfl) ?_
      refine lv_iconst (v := 1) F.1 F.2.1 dX7_canOne_53 (by decide) ?_
      refine lv_aload_n F.1 F.2.1 dX7_canOne_54 rfl (lv_at hl 1 rfl) ?_
      refine lv_iload F.1 F.2.1 dX7_canOne_55 (lv_at hl 7 rfl) ?_
      refine lv_iload_n F.1 F.2.1 dX7_canOne_57 rfl (lv_at hl 2 rfl) ?_
      obtain ⟨z6, hz6, hr⟩ := Option.bind_eq_some_iff.mp hr
      refine call_o (wr := []) (run_V (As := [.int x8, .int x1]) (rest := [.int (1 : Int32), .int z2, .int z4]) F k_X7_69 (c_X7_way l dd g mv q_t q_t_chain t_doors t_most t_best t_row t_chain_places t_chain_deep t_chain_turn t_chain_wheel t_chain_leaks t_chain_wants x8 x1 z6 hz6 _) hw [0, 1] (by decide) rfl (ci := 7) rfl rfl rfl rfl hl.1 rfl (Nat.le_of_ble_eq_true rfl) dX7_canOne_58 ⟨Nat.le_of_ble_eq_true rfl, Nat.le_of_ble_eq_true rfl⟩ ⟨Nat.le_of_ble_eq_true rfl, Nat.le_of_ble_eq_true rfl⟩) hw [0, 1] [] rfl rfl (by decide) (by decide) (fun u7 H locs hw => ?_)
      replace hw : Wd dd g mv A s H locs (w_X7_canOne g q_t q_t_chain t_doors t_most t_best t_row t_chain_places t_chain_deep t_chain_turn t_chain_wheel t_chain_leaks t_chain_wants) := hw.sub [0, 1] (by decide) rfl
      refine W.eq (g2 := F0 m 61 ls (.int z6 :: .int (1 : Int32) :: .int z2 :: .int z4 :: [])) rfl ?_
      refine m_max F hl.1 ml_X7_73 (Nat.le_of_ble_eq_true rfl) (Nat.le_of_ble_eq_true rfl) (Nat.le_of_ble_eq_true rfl) (Nat.le_of_ble_eq_true rfl) dX7_canOne_61 ?_
      refine lv_imul F.1 F.2.1 dX7_canOne_64 ?_
      refine lv_isub F.1 F.2.1 dX7_canOne_65 ?_
      refine lv_istore (lv' := [(10, .int (z4 - (z2 * (if (1 : Int32) < z6 then z6 else (1 : Int32))))), (9, .int z2), (0, .ref q_t), (1, .int x1), (2, .long x2), (4, .long x4), (6, .int x6), (7, .int x7), (8, .int x8)]) F.1 F.2.1 dX7_canOne_66 hl (by decide) rfl (fun ls hl => ?_)
      refine lv_iload F.1 F.2.1 dX7_canOne_68 (lv_at hl 0 rfl) ?_
      refine lv_aload_n F.1 F.2.1 dX7_canOne_70 rfl (lv_at hl 2 rfl) ?_
      refine gf_X7_9 F hw 0 rfl rfl dX7_canOne_71 ?_
      refine gf_X7_78 F hw 1 rfl rfl dX7_canOne_74 ?_
      refine lv_iload F.1 F.2.1 dX7_canOne_77 (lv_at hl 1 rfl) ?_
      refine lv_iload F.1 F.2.1 dX7_canOne_79 (lv_at hl 7 rfl) ?_
      refine lv_imul F.1 F.2.1 dX7_canOne_81 ?_
      refine lv_isub F.1 F.2.1 dX7_canOne_82 ?_
      refine m_max F hl.1 ml_X7_73 (Nat.le_of_ble_eq_true rfl) (Nat.le_of_ble_eq_true rfl) (Nat.le_of_ble_eq_true rfl) (Nat.le_of_ble_eq_true rfl) dX7_canOne_83 ?_
      refine lv_iload F.1 F.2.1 dX7_canOne_86 (lv_at hl 6 rfl) ?_
      refine lv_icmp_lt (tgt := 93) F.1 F.2.1 dX7_canOne_88 (by decide) (fun hc8 => ?_) (fun hc8 => ?_)
      · replace hr := (if_pos hc8).symm.trans hr
        refine lv_iinc (v := (x8 + 1)) (lv' := [(8, .int (x8 + 1)), (10, .int (z4 - (z2 * (if (1 : Int32) < z6 then z6 else (1 : Int32))))), (9, .int z2), (0, .ref q_t), (1, .int x1), (2, .long x2), (4, .long x4), (6, .int x6), (7, .int x7)]) F.1 F.2.1 dX7_canOne_93 hl (k := 8) rfl rfl (by decide) rfl (fun ls hl => ?_)
        refine lv_goto (tgt := 24) F.1 F.2.1 dX7_canOne_96 (by decide) ?_
        exact ih hr hw (lv_sub hl [3, 4, 5, 6, 7, 8, 0] rfl)
      · replace hr := (if_neg hc8).symm.trans hr
        refine lv_iconst (v := 1) F.1 F.2.1 dX7_canOne_91 (by decide) ?_
        cases hr
        exact ret_z (v := (1 : Int32)) () F hret hlk (by decide) hw (Nat.le_refl _) (Nat.le_refl _) dX7_canOne_92
set_option maxHeartbeats 4000000 in
set_option maxRecDepth 100000 in
theorem c_X7_canOne (l : Launch) (dd : va_G) (g : Nat → ClassId) (mv : Nat) (q_t : Nat) (q_t_chain : Nat) (t_doors : Int64) (t_most : Int32) (t_best : Int32) (t_row : Int32) (t_chain_places : Int32) (t_chain_deep : Int32) (t_chain_turn : Int32) (t_chain_wheel : Int64) (t_chain_leaks : Int64) (t_chain_wants : Int64) (a1 : Int32) (a2 : Int64) (a3 : Int64) (z : Int32) (hr : f_X7_canOne t_chain_places t_chain_deep t_chain_wants a1 a2 a3 = some z) (sz : Nat) : Met l yX7_canOne (.code yX7_canOne cX7_canOne 11 (some .boolean) :: WS) (rmH 2 0 0) (va_Pc [.ref q_t, .int a1, .long a2, .long a3] (PW dd g mv (w_X7_canOne g q_t q_t_chain t_doors t_most t_best t_row t_chain_places t_chain_deep t_chain_turn t_chain_wheel t_chain_leaks t_chain_wants) sz)) (Qo dd g (some (.int z)) (fun u : Unit => (w_X7_canOne g q_t q_t_chain t_doors t_most t_best t_row t_chain_places t_chain_deep t_chain_turn t_chain_wheel t_chain_leaks t_chain_wants)) (va_A (w_X7_canOne g q_t q_t_chain t_doors t_most t_best t_row t_chain_places t_chain_deep t_chain_turn t_chain_wheel t_chain_leaks t_chain_wants) sz)) 0 0 (va_A (w_X7_canOne g q_t q_t_chain t_doors t_most t_best t_row t_chain_places t_chain_deep t_chain_turn t_chain_wheel t_chain_leaks t_chain_wants) sz) := by
  refine Met_intro (by decide) (Nat.le_of_ble_eq_true rfl) ?_
  intro p e s m below meth c A ls F hret hlk hin hw hl
  replace hl : lv_has ls 11 [(0, .ref q_t), (1, .int a1), (2, .long a2), (4, .long a3)] := hl
  refine lv_aload_n F.1 F.2.1 dX7_canOne_0 rfl (lv_at hl 0 rfl) ?_
  refine gf_X7_9 F hw 0 rfl rfl dX7_canOne_1 ?_
  refine gf_X7_62 F hw 1 rfl rfl dX7_canOne_4 ?_
  refine lv_iload_n F.1 F.2.1 dX7_canOne_7 rfl (lv_at hl 1 rfl) ?_
  obtain ⟨z9, hz9, hr⟩ := Option.bind_eq_some_iff.mp hr
  refine call_o (wr := [(q_t, .inr (7, [.ref q_t_chain, .long t_doors, .int t_most, .int t_best, .int t_row])), (q_t_chain, .inr (1, [.int t_chain_places, .int t_chain_deep, .int t_chain_turn, .long t_chain_wheel, .long t_chain_leaks, .long t_chain_wants]))]) (run_N (As := [.long t_chain_wants, .int a1]) (rest := []) F k_X7_65 (c_X11_lane l dd g mv t_chain_wants a1 z9 hz9 _) hw [] (by decide) rfl rfl hl.1 rfl (Nat.le_of_ble_eq_true rfl) dX7_canOne_8 ⟨Nat.le_of_ble_eq_true rfl, Nat.le_of_ble_eq_true rfl⟩ ⟨Nat.le_of_ble_eq_true rfl, Nat.le_of_ble_eq_true rfl⟩) hw [] [0, 1] rfl rfl (by decide) (by decide) (fun u10 H locs hw => ?_)
  replace hw : Wd dd g mv A s H locs (w_X7_canOne g q_t q_t_chain t_doors t_most t_best t_row t_chain_places t_chain_deep t_chain_turn t_chain_wheel t_chain_leaks t_chain_wants) := hw.sub [0, 1] (by decide) rfl
  refine W.eq (g2 := F0 m 11 ls (.int z9 :: [])) rfl ?_
  refine lv_istore (lv' := [(6, .int z9), (0, .ref q_t), (1, .int a1), (2, .long a2), (4, .long a3)]) F.1 F.2.1 dX7_canOne_11 hl (by decide) rfl (fun ls hl => ?_)
  refine lv_aload_n F.1 F.2.1 dX7_canOne_13 rfl (lv_at hl 1 rfl) ?_
  refine lv_iconst (v := 0) F.1 F.2.1 dX7_canOne_14 (by decide) ?_
  refine lv_iload_n F.1 F.2.1 dX7_canOne_15 rfl (lv_at hl 2 rfl) ?_
  obtain ⟨z11, hz11, hr⟩ := Option.bind_eq_some_iff.mp hr
  refine call_o (wr := []) (run_V (As := [.int (0 : Int32), .int a1]) (rest := []) F k_X7_69 (c_X7_way l dd g mv q_t q_t_chain t_doors t_most t_best t_row t_chain_places t_chain_deep t_chain_turn t_chain_wheel t_chain_leaks t_chain_wants ((0 : Int32)) a1 z11 hz11 _) hw [0, 1] (by decide) rfl (ci := 7) rfl rfl rfl rfl hl.1 rfl (Nat.le_of_ble_eq_true rfl) dX7_canOne_16 ⟨Nat.le_of_ble_eq_true rfl, Nat.le_of_ble_eq_true rfl⟩ ⟨Nat.le_of_ble_eq_true rfl, Nat.le_of_ble_eq_true rfl⟩) hw [0, 1] [] rfl rfl (by decide) (by decide) (fun u12 H locs hw => ?_)
  replace hw : Wd dd g mv A s H locs (w_X7_canOne g q_t q_t_chain t_doors t_most t_best t_row t_chain_places t_chain_deep t_chain_turn t_chain_wheel t_chain_leaks t_chain_wants) := hw.sub [0, 1] (by decide) rfl
  refine W.eq (g2 := F0 m 19 ls (.int z11 :: [])) rfl ?_
  refine lv_istore (lv' := [(7, .int z11), (6, .int z9), (0, .ref q_t), (1, .int a1), (2, .long a2), (4, .long a3)]) F.1 F.2.1 dX7_canOne_19 hl (by decide) rfl (fun ls hl => ?_)
  refine lv_iconst (v := 0) F.1 F.2.1 dX7_canOne_21 (by decide) ?_
  refine lv_istore (lv' := [(8, .int (0 : Int32)), (7, .int z11), (6, .int z9), (0, .ref q_t), (1, .int a1), (2, .long a2), (4, .long a3)]) F.1 F.2.1 dX7_canOne_22 hl (by decide) rfl (fun ls hl => ?_)
  exact b_X7_canOne_24 F hret hlk  fuel hr hw (lv_sub hl [3, 4, 5, 6, 2, 1, 0] rfl)
set_option maxHeartbeats 4000000 in
set_option maxRecDepth 100000 in
theorem b_X7_canAll_45 {q_t q_t_chain : Nat} {z : Int32} (F : Fx p m c cX7_canAll 6 s args RX7) (hret : meth.sig.returnType = some .boolean) (hlk : meth.locks = false) {k3 : Int64 → Int64 → Int32 → Int64 → Int32 → Int32 → Int64 → Option (Int32)} (hk3 : ∀ {x1 : Int64} {x3 : Int64} {x5 : Int32} {t_doors : Int64} {t_chain_places : Int32} {t_chain_deep : Int32} {t_chain_wants : Int64} {t_most : Int32} {t_best : Int32} {t_row : Int32} {t_chain_turn : Int32} {t_chain_wheel : Int64} {t_chain_leaks : Int64} {H : Heap} {locs : List Loc} {ls : Array Slot}, k3 x1 x3 x5 t_doors t_chain_places t_chain_deep t_chain_wants = some z → Wd dd g mv A s H locs (w_X7_canAll g q_t q_t_chain t_doors t_most t_best t_row t_chain_places t_chain_deep t_chain_turn t_chain_wheel t_chain_leaks t_chain_wants) → lv_has ls 6 [(0, .ref q_t), (1, .long x1), (3, .long x3), (5, .int x5)] → W p l e (rmH (3) 0 0) s m args below meth c H locs 0 0 (MQ below (Qo dd g (some (.int z)) (fun u : Unit => (w_X7_canAll g q_t q_t_chain t_doors t_most t_best t_row t_chain_places t_chain_deep t_chain_turn t_chain_wheel t_chain_leaks t_chain_wants)) A) args s 0 0 A) (F0 m 3 ls [])) : ∀ {x1 : Int64} {x3 : Int64} {x5 : Int32} {t_doors : Int64} {t_chain_places : Int32} {t_chain_deep : Int32} {t_chain_wants : Int64} {t_most : Int32} {t_best : Int32} {t_row : Int32} {t_chain_turn : Int32} {t_chain_wheel : Int64} {t_chain_leaks : Int64} {H : Heap} {locs : List Loc} {ls : Array Slot}, f_X7_canAll_45 k3 x1 x3 x5 t_doors t_chain_places t_chain_deep t_chain_wants = some z → Wd dd g mv A s H locs (w_X7_canAll g q_t q_t_chain t_doors t_most t_best t_row t_chain_places t_chain_deep t_chain_turn t_chain_wheel t_chain_leaks t_chain_wants) → lv_has ls 6 [(0, .ref q_t), (1, .long x1), (3, .long x3), (5, .int x5)] → W p l e (rmH (3) 0 0) s m args below meth c H locs 0 0 (MQ below (Qo dd g (some (.int z)) (fun u : Unit => (w_X7_canAll g q_t q_t_chain t_doors t_most t_best t_row t_chain_places t_chain_deep t_chain_turn t_chain_wheel t_chain_leaks t_chain_wants)) A) args s 0 0 A) (F0 m 45 ls []) := by
  intro x1 x3 x5 t_doors t_chain_places t_chain_deep t_chain_wants t_most t_best t_row t_chain_turn t_chain_wheel t_chain_leaks H locs ls hr hw hl
  refine lv_iinc (v := (x5 + 1)) (lv' := [(5, .int (x5 + 1)), (0, .ref q_t), (1, .long x1), (3, .long x3)]) F.1 F.2.1 dX7_canAll_45 hl (k := 3) rfl rfl (by decide) rfl (fun ls hl => ?_)
  refine lv_goto (tgt := 3) F.1 F.2.1 dX7_canAll_48 (by decide) ?_
  exact hk3 hr hw (lv_sub hl [1, 2, 3, 0] rfl)
set_option maxHeartbeats 4000000 in
set_option maxRecDepth 100000 in
theorem b_X7_canAll_3 {q_t q_t_chain : Nat} {z : Int32} (F : Fx p m c cX7_canAll 6 s args RX7) (hret : meth.sig.returnType = some .boolean) (hlk : meth.locks = false) : ∀ (n : Nat), ∀ {x1 : Int64} {x3 : Int64} {x5 : Int32} {t_doors : Int64} {t_chain_places : Int32} {t_chain_deep : Int32} {t_chain_wants : Int64} {t_most : Int32} {t_best : Int32} {t_row : Int32} {t_chain_turn : Int32} {t_chain_wheel : Int64} {t_chain_leaks : Int64} {H : Heap} {locs : List Loc} {ls : Array Slot}, f_X7_canAll_3  n x1 x3 x5 t_doors t_chain_places t_chain_deep t_chain_wants = some z → Wd dd g mv A s H locs (w_X7_canAll g q_t q_t_chain t_doors t_most t_best t_row t_chain_places t_chain_deep t_chain_turn t_chain_wheel t_chain_leaks t_chain_wants) → lv_has ls 6 [(0, .ref q_t), (1, .long x1), (3, .long x3), (5, .int x5)] → W p l e (rmH (3) 0 0) s m args below meth c H locs 0 0 (MQ below (Qo dd g (some (.int z)) (fun u : Unit => (w_X7_canAll g q_t q_t_chain t_doors t_most t_best t_row t_chain_places t_chain_deep t_chain_turn t_chain_wheel t_chain_leaks t_chain_wants)) A) args s 0 0 A) (F0 m 3 ls []) := by
  intro n
  induction n with
  | zero =>
    intros
    rename_i hr _ _
    cases hr
  | succ n ih =>
    intro x1 x3 x5 t_doors t_chain_places t_chain_deep t_chain_wants t_most t_best t_row t_chain_turn t_chain_wheel t_chain_leaks H locs ls hr hw hl
    refine lv_iload F.1 F.2.1 dX7_canAll_3 (lv_at hl 3 rfl) ?_
    refine lv_aload_n F.1 F.2.1 dX7_canAll_5 rfl (lv_at hl 0 rfl) ?_
    refine gf_X7_9 F hw 0 rfl rfl dX7_canAll_6 ?_
    refine gf_X7_51 F hw 1 rfl rfl dX7_canAll_9 ?_
    refine lv_icmp_ge (tgt := 51) F.1 F.2.1 dX7_canAll_12 (by decide) (fun hc1 => ?_) (fun hc1 => ?_)
    · replace hr := (if_pos hc1).symm.trans hr
      refine lv_iconst (v := 1) F.1 F.2.1 dX7_canAll_51 (by decide) ?_
      cases hr
      exact ret_z (v := (1 : Int32)) () F hret hlk (by decide) hw (Nat.le_refl _) (Nat.le_refl _) dX7_canAll_52
    · replace hr := (if_neg hc1).symm.trans hr
      refine lv_lload_n F.1 F.2.1 dX7_canAll_15 rfl (lv_at hl 1 rfl) ?_
      refine lv_aload_n F.1 F.2.1 dX7_canAll_16 rfl (lv_at hl 0 rfl) ?_
      refine gf_X7_15 F hw 0 rfl rfl dX7_canAll_17 ?_
      refine lv_land F.1 F.2.1 dX7_canAll_20 ?_
      refine lv_iload F.1 F.2.1 dX7_canAll_21 (lv_at hl 3 rfl) ?_
      obtain ⟨z2, hz2, hr⟩ := Option.bind_eq_some_iff.mp hr
      refine call_o (wr := [(q_t, .inr (7, [.ref q_t_chain, .long t_doors, .int t_most, .int t_best, .int t_row])), (q_t_chain, .inr (1, [.int t_chain_places, .int t_chain_deep, .int t_chain_turn, .long t_chain_wheel, .long t_chain_leaks, .long t_chain_wants]))]) (run_N (As := [.int x5]) (rest := [.long (x1 &&& t_doors)]) F k_X7_54 (c_X11_flag l dd g mv x5 z2 hz2 _) hw [] (by decide) rfl rfl hl.1 rfl (Nat.le_of_ble_eq_true rfl) dX7_canAll_23 ⟨Nat.le_of_ble_eq_true rfl, Nat.le_of_ble_eq_true rfl⟩ ⟨Nat.le_of_ble_eq_true rfl, Nat.le_of_ble_eq_true rfl⟩) hw [] [0, 1] rfl rfl (by decide) (by decide) (fun u3 H locs hw => ?_)
      replace hw : Wd dd g mv A s H locs (w_X7_canAll g q_t q_t_chain t_doors t_most t_best t_row t_chain_places t_chain_deep t_chain_turn t_chain_wheel t_chain_leaks t_chain_wants) := hw.sub [0, 1] (by decide) rfl
      refine W.eq (g2 := F0 m 26 ls (.long z2 :: .long (x1 &&& t_doors) :: [])) rfl ?_
      refine lv_land F.1 F.2.1 dX7_canAll_26 ?_
      refine lv_lconst (v := 0) F.1 F.2.1 dX7_canAll_27 (by decide) ?_
      refine W.lcmp F.1 F.2.1 dX7_canAll_28 ?_
      refine lv_if_eq (tgt := 45) F.1 F.2.1 dX7_canAll_29 (by decide) (fun hc4 => ?_) (fun hc4 => ?_)
      · replace hr := (if_pos hc4).symm.trans hr
        exact b_X7_canAll_45 F hret hlk (ih) hr hw (lv_sub hl [0, 1, 2, 3] rfl)
      · replace hr := (if_neg hc4).symm.trans hr
        refine lv_aload_n F.1 F.2.1 dX7_canAll_32 rfl (lv_at hl 0 rfl) ?_
        refine lv_iload F.1 F.2.1 dX7_canAll_33 (lv_at hl 3 rfl) ?_
        refine lv_lload_n F.1 F.2.1 dX7_canAll_35 rfl (lv_at hl 1 rfl) ?_
        refine lv_lload_n F.1 F.2.1 dX7_canAll_36 rfl (lv_at hl 2 rfl) ?_
        obtain ⟨z5, hz5, hr⟩ := Option.bind_eq_some_iff.mp hr
        refine call_o (wr := []) (run_V (As := [.int x5, .long x1, .long x3]) (rest := []) F k_X7_58 (c_X7_canOne l dd g mv q_t q_t_chain t_doors t_most t_best t_row t_chain_places t_chain_deep t_chain_turn t_chain_wheel t_chain_leaks t_chain_wants x5 x1 x3 z5 hz5 _) hw [0, 1] (by decide) rfl (ci := 7) rfl rfl rfl rfl hl.1 rfl (Nat.le_of_ble_eq_true rfl) dX7_canAll_37 ⟨Nat.le_of_ble_eq_true rfl, Nat.le_of_ble_eq_true rfl⟩ ⟨Nat.le_of_ble_eq_true rfl, Nat.le_of_ble_eq_true rfl⟩) hw [0, 1] [] rfl rfl (by decide) (by decide) (fun u6 H locs hw => ?_)
        replace hw : Wd dd g mv A s H locs (w_X7_canAll g q_t q_t_chain t_doors t_most t_best t_row t_chain_places t_chain_deep t_chain_turn t_chain_wheel t_chain_leaks t_chain_wants) := hw.sub [0, 1] (by decide) rfl
        refine W.eq (g2 := F0 m 40 ls (.int z5 :: [])) rfl ?_
        refine lv_if_ne (tgt := 45) F.1 F.2.1 dX7_canAll_40 (by decide) (fun hc7 => ?_) (fun hc7 => ?_)
        · replace hr := (if_neg hc7).symm.trans hr
          exact b_X7_canAll_45 F hret hlk (ih) hr hw (lv_sub hl [0, 1, 2, 3] rfl)
        · replace hr := (if_pos hc7).symm.trans hr
          refine lv_iconst (v := 0) F.1 F.2.1 dX7_canAll_43 (by decide) ?_
          cases hr
          exact ret_z (v := (0 : Int32)) () F hret hlk (by decide) hw (Nat.le_refl _) (Nat.le_refl _) dX7_canAll_44
set_option maxHeartbeats 4000000 in
set_option maxRecDepth 100000 in
theorem c_X7_canAll (l : Launch) (dd : va_G) (g : Nat → ClassId) (mv : Nat) (q_t : Nat) (q_t_chain : Nat) (t_doors : Int64) (t_most : Int32) (t_best : Int32) (t_row : Int32) (t_chain_places : Int32) (t_chain_deep : Int32) (t_chain_turn : Int32) (t_chain_wheel : Int64) (t_chain_leaks : Int64) (t_chain_wants : Int64) (a1 : Int64) (a2 : Int64) (z : Int32) (hr : f_X7_canAll t_doors t_chain_places t_chain_deep t_chain_wants a1 a2 = some z) (sz : Nat) : Met l yX7_canAll (.code yX7_canAll cX7_canAll 6 (some .boolean) :: WS) (rmH 3 0 0) (va_Pc [.ref q_t, .long a1, .long a2] (PW dd g mv (w_X7_canAll g q_t q_t_chain t_doors t_most t_best t_row t_chain_places t_chain_deep t_chain_turn t_chain_wheel t_chain_leaks t_chain_wants) sz)) (Qo dd g (some (.int z)) (fun u : Unit => (w_X7_canAll g q_t q_t_chain t_doors t_most t_best t_row t_chain_places t_chain_deep t_chain_turn t_chain_wheel t_chain_leaks t_chain_wants)) (va_A (w_X7_canAll g q_t q_t_chain t_doors t_most t_best t_row t_chain_places t_chain_deep t_chain_turn t_chain_wheel t_chain_leaks t_chain_wants) sz)) 0 0 (va_A (w_X7_canAll g q_t q_t_chain t_doors t_most t_best t_row t_chain_places t_chain_deep t_chain_turn t_chain_wheel t_chain_leaks t_chain_wants) sz) := by
  refine Met_intro (by decide) (Nat.le_of_ble_eq_true rfl) ?_
  intro p e s m below meth c A ls F hret hlk hin hw hl
  replace hl : lv_has ls 6 [(0, .ref q_t), (1, .long a1), (3, .long a2)] := hl
  refine lv_iconst (v := 0) F.1 F.2.1 dX7_canAll_0 (by decide) ?_
  refine lv_istore (lv' := [(5, .int (0 : Int32)), (0, .ref q_t), (1, .long a1), (3, .long a2)]) F.1 F.2.1 dX7_canAll_1 hl (by decide) rfl (fun ls hl => ?_)
  exact b_X7_canAll_3 F hret hlk  fuel hr hw (lv_sub hl [1, 2, 3, 0] rfl)
set_option maxHeartbeats 4000000 in
set_option maxRecDepth 100000 in
theorem b_X7_seekOn_69 {q_p1 q_p1_chain : Nat} {d : Nat} {z : Int32 × Int32 × Int32} (F : Fx p m c cX7_seekOn 12 s args RX7) (hret : meth.sig.returnType = none) (hlk : meth.locks = false) {rc : Int64 → Int32 → Int32 → Int32 → Int32 → Int32 → Int64 → Int64 → Int64 → Int32 → Int32 → Option (Int32 × Int32 × Int32)} (hrc : ∀ (q_p1 : Nat) (q_p1_chain : Nat) (p1_doors : Int64) (p1_most : Int32) (p1_best : Int32) (p1_row : Int32) (p1_chain_places : Int32) (p1_chain_deep : Int32) (p1_chain_turn : Int32) (p1_chain_wheel : Int64) (p1_chain_leaks : Int64) (p1_chain_wants : Int64) (a2 : Int64) (a3 : Int64) (a4 : Int32) (a5 : Int32) (z : Int32 × Int32 × Int32), rc p1_doors p1_most p1_best p1_row p1_chain_places p1_chain_deep p1_chain_wants a2 a3 a4 a5 = some z → ∀ (sz : Nat), Met l yX7_seekOn (.code yX7_seekOn cX7_seekOn 12 none :: WS) (rmH (3 + d) 0 0) (va_Pc [.ref q_p1, .long a2, .long a3, .int a4, .int a5] (PW dd g mv (w_X7_seekOn g q_p1 q_p1_chain p1_doors p1_most p1_best p1_row p1_chain_places p1_chain_deep p1_chain_turn p1_chain_wheel p1_chain_leaks p1_chain_wants) sz)) (Qo dd g none (fun u : Unit => (w_X7_seekOn g q_p1 q_p1_chain p1_doors z.1 z.2.1 z.2.2 p1_chain_places p1_chain_deep p1_chain_turn p1_chain_wheel p1_chain_leaks p1_chain_wants)) (va_A (w_X7_seekOn g q_p1 q_p1_chain p1_doors p1_most p1_best p1_row p1_chain_places p1_chain_deep p1_chain_turn p1_chain_wheel p1_chain_leaks p1_chain_wants) sz)) 0 0 (va_A (w_X7_seekOn g q_p1 q_p1_chain p1_doors p1_most p1_best p1_row p1_chain_places p1_chain_deep p1_chain_turn p1_chain_wheel p1_chain_leaks p1_chain_wants) sz)) : ∀ (n : Nat), ∀ {x1 : Int64} {x3 : Int64} {x5 : Int32} {x6 : Int32} {x7 : Int32} {p1_doors : Int64} {p1_most : Int32} {p1_best : Int32} {p1_row : Int32} {p1_chain_places : Int32} {p1_chain_deep : Int32} {p1_chain_wants : Int64} {p1_chain_turn : Int32} {p1_chain_wheel : Int64} {p1_chain_leaks : Int64} {H : Heap} {locs : List Loc} {ls : Array Slot}, f_X7_seekOn_69 rc  n x1 x3 x5 x6 x7 p1_doors p1_most p1_best p1_row p1_chain_places p1_chain_deep p1_chain_wants = some z → Wd dd g mv A s H locs (w_X7_seekOn g q_p1 q_p1_chain p1_doors p1_most p1_best p1_row p1_chain_places p1_chain_deep p1_chain_turn p1_chain_wheel p1_chain_leaks p1_chain_wants) → lv_has ls 12 [(0, .ref q_p1), (1, .long x1), (3, .long x3), (5, .int x5), (6, .int x6), (7, .int x7)] → W p l e (rmH (3 + (d + 1)) 0 0) s m args below meth c H locs 0 0 (MQ below (Qo dd g none (fun u : Unit => (w_X7_seekOn g q_p1 q_p1_chain p1_doors z.1 z.2.1 z.2.2 p1_chain_places p1_chain_deep p1_chain_turn p1_chain_wheel p1_chain_leaks p1_chain_wants)) A) args s 0 0 A) (F0 m 69 ls []) := by
  intro n
  induction n with
  | zero =>
    intros
    rename_i hr _ _
    cases hr
  | succ n ih =>
    intro x1 x3 x5 x6 x7 p1_doors p1_most p1_best p1_row p1_chain_places p1_chain_deep p1_chain_wants p1_chain_turn p1_chain_wheel p1_chain_leaks H locs ls hr hw hl
    refine lv_iload F.1 F.2.1 dX7_seekOn_69 (lv_at hl 5 rfl) ?_
    refine lv_iconst (v := 2) F.1 F.2.1 dX7_seekOn_71 (by decide) ?_
    refine lv_icmp_ge (tgt := 141) F.1 F.2.1 dX7_seekOn_72 (by decide) (fun hc1 => ?_) (fun hc1 => ?_)
    · replace hr := (if_pos hc1).symm.trans hr
      cases hr
      exact ret_v () F hret hlk hw (Nat.le_refl _) (Nat.le_refl _) dX7_seekOn_141
    · replace hr := (if_neg hc1).symm.trans hr
      refine lv_aload_n F.1 F.2.1 dX7_seekOn_75 rfl (lv_at hl 0 rfl) ?_
      refine gf_X7_9 F hw 0 rfl rfl dX7_seekOn_76 ?_
      refine lv_lload_n F.1 F.2.1 dX7_seekOn_79 rfl (lv_at hl 2 rfl) ?_
      refine gs_n F (by decide +kernel) hw dX7_seekOn_80 ?_
      refine lv_iload F.1 F.2.1 dX7_seekOn_83 (lv_at hl 5 rfl) ?_
      obtain ⟨hg2, hr⟩ := g_no hr
      refine ar_m F hw hg2 dX7_seekOn_85 ?_
      obtain ⟨z3, hz3, hr⟩ := Option.bind_eq_some_iff.mp hr
      refine call_o (wr := [(q_p1, .inr (7, [.ref q_p1_chain, .long p1_doors, .int p1_most, .int p1_best, .int p1_row]))]) (run_V (As := [.long x3, .int (mvI (x7).toNatClampNeg)]) (rest := []) F k_X7_41 (c_X1_turned l dd g mv q_p1_chain p1_chain_places p1_chain_deep p1_chain_turn p1_chain_wheel p1_chain_leaks p1_chain_wants x3 ((mvI (x7).toNatClampNeg)) z3 hz3 _) hw [1] (by decide) rfl (ci := 1) rfl rfl rfl rfl hl.1 rfl (Nat.le_of_ble_eq_true rfl) dX7_seekOn_86 (by refine ⟨?_, ?_⟩ <;> simp only [rmH] <;> omega) ⟨Nat.zero_le _, Nat.zero_le _⟩) hw [1] [0] rfl rfl (by decide) (by decide) (fun u4 H locs hw => ?_)
      replace hw : Wd dd g mv A s H locs (w_X7_seekOn g q_p1 q_p1_chain p1_doors p1_most p1_best p1_row p1_chain_places p1_chain_deep p1_chain_turn p1_chain_wheel p1_chain_leaks p1_chain_wants) := hw.sub [0, 1] (by decide) rfl
      refine W.eq (g2 := F0 m 89 ls (.long z3 :: [])) rfl ?_
      refine lv_lstore (lv' := [(8, .long z3), (0, .ref q_p1), (1, .long x1), (3, .long x3), (5, .int x5), (6, .int x6), (7, .int x7)]) F.1 F.2.1 dX7_seekOn_89 hl (by decide) rfl (fun ls hl => ?_)
      refine lv_aload_n F.1 F.2.1 dX7_seekOn_91 rfl (lv_at hl 1 rfl) ?_
      refine gf_X7_9 F hw 0 rfl rfl dX7_seekOn_92 ?_
      refine lv_aload_n F.1 F.2.1 dX7_seekOn_95 rfl (lv_at hl 1 rfl) ?_
      refine gf_X7_9 F hw 0 rfl rfl dX7_seekOn_96 ?_
      refine lv_lload_n F.1 F.2.1 dX7_seekOn_99 rfl (lv_at hl 2 rfl) ?_
      refine gs_n F (by decide +kernel) hw dX7_seekOn_100 ?_
      refine lv_iload F.1 F.2.1 dX7_seekOn_103 (lv_at hl 6 rfl) ?_
      obtain ⟨hg5, hr⟩ := g_no hr
      refine ar_m F hw hg5 dX7_seekOn_105 ?_
      obtain ⟨z6, hz6, hr⟩ := Option.bind_eq_some_iff.mp hr
      refine call_o (wr := [(q_p1, .inr (7, [.ref q_p1_chain, .long p1_doors, .int p1_most, .int p1_best, .int p1_row]))]) (run_V (As := [.long x1, .int (mvI (x7).toNatClampNeg)]) (rest := [.ref q_p1_chain]) F k_X7_41 (c_X1_turned l dd g mv q_p1_chain p1_chain_places p1_chain_deep p1_chain_turn p1_chain_wheel p1_chain_leaks p1_chain_wants x1 ((mvI (x7).toNatClampNeg)) z6 hz6 _) hw [1] (by decide) rfl (ci := 1) rfl rfl rfl rfl hl.1 rfl (Nat.le_of_ble_eq_true rfl) dX7_seekOn_106 (by refine ⟨?_, ?_⟩ <;> simp only [rmH] <;> omega) ⟨Nat.zero_le _, Nat.zero_le _⟩) hw [1] [0] rfl rfl (by decide) (by decide) (fun u7 H locs hw => ?_)
      replace hw : Wd dd g mv A s H locs (w_X7_seekOn g q_p1 q_p1_chain p1_doors p1_most p1_best p1_row p1_chain_places p1_chain_deep p1_chain_turn p1_chain_wheel p1_chain_leaks p1_chain_wants) := hw.sub [0, 1] (by decide) rfl
      refine W.eq (g2 := F0 m 109 ls (.long z6 :: .ref q_p1_chain :: [])) rfl ?_
      refine lv_lload F.1 F.2.1 dX7_seekOn_109 (lv_at hl 0 rfl) ?_
      obtain ⟨z8, hz8, hr⟩ := Option.bind_eq_some_iff.mp hr
      refine call_o (wr := [(q_p1, .inr (7, [.ref q_p1_chain, .long p1_doors, .int p1_most, .int p1_best, .int p1_row]))]) (run_V (As := [.long z6, .long z3]) (rest := []) F k_X7_47 (c_X1_step l dd g mv q_p1_chain p1_chain_places p1_chain_deep p1_chain_turn p1_chain_wheel p1_chain_leaks p1_chain_wants z6 z3 z8 hz8 _) hw [1] (by decide) rfl (ci := 1) rfl rfl rfl rfl hl.1 rfl (Nat.le_of_ble_eq_true rfl) dX7_seekOn_111 (by refine ⟨?_, ?_⟩ <;> simp only [rmH] <;> omega) ⟨Nat.zero_le _, Nat.zero_le _⟩) hw [1] [0] rfl rfl (by decide) (by decide) (fun u9 H locs hw => ?_)
      replace hw : Wd dd g mv A s H locs (w_X7_seekOn g q_p1 q_p1_chain p1_doors p1_most p1_best p1_row p1_chain_places p1_chain_deep p1_chain_turn p1_chain_wheel p1_chain_leaks p1_chain_wants) := hw.sub [0, 1] (by decide) rfl
      refine W.eq (g2 := F0 m 114 ls (.long z8 :: [])) rfl ?_
      refine lv_lstore (lv' := [(10, .long z8), (8, .long z3), (0, .ref q_p1), (1, .long x1), (3, .long x3), (5, .int x5), (6, .int x6), (7, .int x7)]) F.1 F.2.1 dX7_seekOn_114 hl (by decide) rfl (fun ls hl => ?_)
      refine lv_aload_n F.1 F.2.1 dX7_seekOn_116 rfl (lv_at hl 2 rfl) ?_
      refine lv_lload F.1 F.2.1 dX7_seekOn_117 (lv_at hl 0 rfl) ?_
      refine lv_lload F.1 F.2.1 dX7_seekOn_119 (lv_at hl 1 rfl) ?_
      refine lv_iconst (v := 2) F.1 F.2.1 dX7_seekOn_121 (by decide) ?_
      refine lv_iload F.1 F.2.1 dX7_seekOn_122 (lv_at hl 5 rfl) ?_
      refine lv_imul F.1 F.2.1 dX7_seekOn_124 ?_
      refine lv_iload F.1 F.2.1 dX7_seekOn_125 (lv_at hl 7 rfl) ?_
      refine lv_iadd F.1 F.2.1 dX7_seekOn_127 ?_
      refine lv_iload F.1 F.2.1 dX7_seekOn_128 (lv_at hl 6 rfl) ?_
      refine lv_iconst (v := 1) F.1 F.2.1 dX7_seekOn_130 (by decide) ?_
      refine lv_iadd F.1 F.2.1 dX7_seekOn_131 ?_
      obtain ⟨z10, hz10, hr⟩ := Option.bind_eq_some_iff.mp hr
      refine call_o (wr := []) (run_S (As := [.ref q_p1, .long z8, .long z3, .int (((2 : Int32) * x5) + x7), .int (x6 + (1 : Int32))]) (rest := []) F k_X7_33 (hrc q_p1 q_p1_chain p1_doors p1_most p1_best p1_row p1_chain_places p1_chain_deep p1_chain_turn p1_chain_wheel p1_chain_leaks p1_chain_wants z8 z3 ((((2 : Int32) * x5) + x7)) ((x6 + (1 : Int32))) z10 hz10 _) hw [0, 1] (by decide) rfl rfl hl.1 rfl (Nat.le_of_ble_eq_true rfl) dX7_seekOn_132 (by refine ⟨?_, ?_⟩ <;> simp only [rmH] <;> omega) ⟨Nat.zero_le _, Nat.zero_le _⟩) hw [0, 1] [] rfl rfl (by decide) (by decide) (fun u11 H locs hw => ?_)
      replace hw : Wd dd g mv A s H locs (w_X7_seekOn g q_p1 q_p1_chain p1_doors z10.1 z10.2.1 z10.2.2 p1_chain_places p1_chain_deep p1_chain_turn p1_chain_wheel p1_chain_leaks p1_chain_wants) := hw.sub [0, 1] (by decide) rfl
      refine lv_iinc (v := (x7 + 1)) (lv' := [(7, .int (x7 + 1)), (10, .long z8), (8, .long z3), (0, .ref q_p1), (1, .long x1), (3, .long x3), (5, .int x5), (6, .int x6)]) F.1 F.2.1 dX7_seekOn_135 hl (k := 7) rfl rfl (by decide) rfl (fun ls hl => ?_)
      refine lv_goto (tgt := 69) F.1 F.2.1 dX7_seekOn_138 (by decide) ?_
      exact ih hr hw (lv_sub hl [3, 4, 5, 6, 7, 0] rfl)
set_option maxHeartbeats 4000000 in
set_option maxRecDepth 100000 in
theorem c_X7_seekOn (l : Launch) (dd : va_G) (g : Nat → ClassId) (mv : Nat) : ∀ (d : Nat) (q_p1 : Nat) (q_p1_chain : Nat) (p1_doors : Int64) (p1_most : Int32) (p1_best : Int32) (p1_row : Int32) (p1_chain_places : Int32) (p1_chain_deep : Int32) (p1_chain_turn : Int32) (p1_chain_wheel : Int64) (p1_chain_leaks : Int64) (p1_chain_wants : Int64) (a2 : Int64) (a3 : Int64) (a4 : Int32) (a5 : Int32) (z : Int32 × Int32 × Int32), f_X7_seekOn d p1_doors p1_most p1_best p1_row p1_chain_places p1_chain_deep p1_chain_wants a2 a3 a4 a5 = some z → ∀ (sz : Nat), Met l yX7_seekOn (.code yX7_seekOn cX7_seekOn 12 none :: WS) (rmH (3 + d) 0 0) (va_Pc [.ref q_p1, .long a2, .long a3, .int a4, .int a5] (PW dd g mv (w_X7_seekOn g q_p1 q_p1_chain p1_doors p1_most p1_best p1_row p1_chain_places p1_chain_deep p1_chain_turn p1_chain_wheel p1_chain_leaks p1_chain_wants) sz)) (Qo dd g none (fun u : Unit => (w_X7_seekOn g q_p1 q_p1_chain p1_doors z.1 z.2.1 z.2.2 p1_chain_places p1_chain_deep p1_chain_turn p1_chain_wheel p1_chain_leaks p1_chain_wants)) (va_A (w_X7_seekOn g q_p1 q_p1_chain p1_doors p1_most p1_best p1_row p1_chain_places p1_chain_deep p1_chain_turn p1_chain_wheel p1_chain_leaks p1_chain_wants) sz)) 0 0 (va_A (w_X7_seekOn g q_p1 q_p1_chain p1_doors p1_most p1_best p1_row p1_chain_places p1_chain_deep p1_chain_turn p1_chain_wheel p1_chain_leaks p1_chain_wants) sz) := by
  intro d
  induction d with
  | zero =>
    intros
    rename_i hr _
    cases hr
  | succ d hrc =>
    intro q_p1 q_p1_chain p1_doors p1_most p1_best p1_row p1_chain_places p1_chain_deep p1_chain_turn p1_chain_wheel p1_chain_leaks p1_chain_wants a2 a3 a4 a5 z hr sz
    refine Met_intro (by decide) (Nat.le_of_ble_eq_true rfl) ?_
    intro p e s m below meth c A ls F hret hlk hin hw hl
    replace hl : lv_has ls 12 [(0, .ref q_p1), (1, .long a2), (3, .long a3), (5, .int a4), (6, .int a5)] := hl
    refine lv_iload F.1 F.2.1 dX7_seekOn_0 (lv_at hl 4 rfl) ?_
    refine lv_aload_n F.1 F.2.1 dX7_seekOn_2 rfl (lv_at hl 0 rfl) ?_
    refine gf_X7_19 F hw 0 rfl rfl dX7_seekOn_3 ?_
    refine lv_icmp_gt (tgt := 23) F.1 F.2.1 dX7_seekOn_6 (by decide) (fun hc12 => ?_) (fun hc12 => ?_)
    · replace hr := (if_pos hc12).symm.trans hr
      cases hr
      exact ret_v () F hret hlk hw (Nat.le_refl _) (Nat.le_refl _) dX7_seekOn_23
    · replace hr := (if_neg hc12).symm.trans hr
      refine lv_iload F.1 F.2.1 dX7_seekOn_9 (lv_at hl 4 rfl) ?_
      refine lv_bipush (v := 14) F.1 F.2.1 dX7_seekOn_11 (by decide) ?_
      refine lv_icmp_gt (tgt := 23) F.1 F.2.1 dX7_seekOn_13 (by decide) (fun hc13 => ?_) (fun hc13 => ?_)
      · replace hr := (if_pos hc13).symm.trans hr
        cases hr
        exact ret_v () F hret hlk hw (Nat.le_refl _) (Nat.le_refl _) dX7_seekOn_23
      · replace hr := (if_neg hc13).symm.trans hr
        refine lv_aload_n F.1 F.2.1 dX7_seekOn_16 rfl (lv_at hl 0 rfl) ?_
        refine gf_X7_9 F hw 0 rfl rfl dX7_seekOn_17 ?_
        refine lv_ifnonnull (tgt := 24) F.1 F.2.1 dX7_seekOn_20 (by decide) ?_
        refine lv_lload_n F.1 F.2.1 dX7_seekOn_24 rfl (lv_at hl 1 rfl) ?_
        refine lv_aload_n F.1 F.2.1 dX7_seekOn_25 rfl (lv_at hl 0 rfl) ?_
        refine gf_X7_15 F hw 0 rfl rfl dX7_seekOn_26 ?_
        refine lv_land F.1 F.2.1 dX7_seekOn_29 ?_
        refine lv_lconst (v := 0) F.1 F.2.1 dX7_seekOn_30 (by decide) ?_
        refine W.lcmp F.1 F.2.1 dX7_seekOn_31 ?_
        refine lv_if_ne (tgt := 56) F.1 F.2.1 dX7_seekOn_32 (by decide) (fun hc14 => ?_) (fun hc14 => ?_)
        · replace hr := (if_neg hc14).symm.trans hr
          refine lv_iload F.1 F.2.1 dX7_seekOn_56 (lv_at hl 4 rfl) ?_
          refine lv_aload_n F.1 F.2.1 dX7_seekOn_58 rfl (lv_at hl 0 rfl) ?_
          refine gf_X7_19 F hw 0 rfl rfl dX7_seekOn_59 ?_
          refine lv_icmp_ne (tgt := 66) F.1 F.2.1 dX7_seekOn_62 (by decide) (fun hc15 => ?_) (fun hc15 => ?_)
          · replace hr := (if_neg hc15).symm.trans hr
            refine lv_iconst (v := 0) F.1 F.2.1 dX7_seekOn_66 (by decide) ?_
            refine lv_istore (lv' := [(7, .int (0 : Int32)), (0, .ref q_p1), (1, .long a2), (3, .long a3), (5, .int a4), (6, .int a5)]) F.1 F.2.1 dX7_seekOn_67 hl (by decide) rfl (fun ls hl => ?_)
            exact b_X7_seekOn_69 F hret hlk hrc  fuel hr hw (lv_sub hl [1, 2, 3, 4, 5, 0] rfl)
          · replace hr := (if_pos hc15).symm.trans hr
            cases hr
            exact ret_v () F hret hlk hw (Nat.le_refl _) (Nat.le_refl _) dX7_seekOn_65
        · replace hr := (if_pos hc14).symm.trans hr
          refine lv_aload_n F.1 F.2.1 dX7_seekOn_35 rfl (lv_at hl 0 rfl) ?_
          refine lv_iload F.1 F.2.1 dX7_seekOn_36 (lv_at hl 4 rfl) ?_
          refine pf_X7_23 F hw 0 rfl (Nat.le_of_ble_eq_true rfl) dX7_seekOn_38 (fun H locs hw => ?_)
          replace hw : Wd dd g mv A s H locs (w_X7_seekOn g q_p1 q_p1_chain p1_doors p1_most a5 p1_row p1_chain_places p1_chain_deep p1_chain_turn p1_chain_wheel p1_chain_leaks p1_chain_wants) := hw
          refine lv_aload_n F.1 F.2.1 dX7_seekOn_41 rfl (lv_at hl 0 rfl) ?_
          refine lv_iload F.1 F.2.1 dX7_seekOn_42 (lv_at hl 3 rfl) ?_
          refine pf_X7_26 F hw 0 rfl (Nat.le_of_ble_eq_true rfl) dX7_seekOn_44 (fun H locs hw => ?_)
          replace hw : Wd dd g mv A s H locs (w_X7_seekOn g q_p1 q_p1_chain p1_doors p1_most a5 a4 p1_chain_places p1_chain_deep p1_chain_turn p1_chain_wheel p1_chain_leaks p1_chain_wants) := hw
          refine lv_aload_n F.1 F.2.1 dX7_seekOn_47 rfl (lv_at hl 0 rfl) ?_
          refine lv_iload F.1 F.2.1 dX7_seekOn_48 (lv_at hl 4 rfl) ?_
          refine lv_iconst (v := 1) F.1 F.2.1 dX7_seekOn_50 (by decide) ?_
          refine lv_isub F.1 F.2.1 dX7_seekOn_51 ?_
          refine pf_X7_19 F hw 0 rfl (Nat.le_of_ble_eq_true rfl) dX7_seekOn_52 (fun H locs hw => ?_)
          replace hw : Wd dd g mv A s H locs (w_X7_seekOn g q_p1 q_p1_chain p1_doors ((a5 - (1 : Int32))) a5 a4 p1_chain_places p1_chain_deep p1_chain_turn p1_chain_wheel p1_chain_leaks p1_chain_wants) := hw
          cases hr
          exact ret_v () F hret hlk hw (Nat.le_refl _) (Nat.le_refl _) dX7_seekOn_55
end WALK
