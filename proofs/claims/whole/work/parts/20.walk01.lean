section WALK
variable {p : Program} {l : Launch} {e : Env} {s : State} {m : MethodId} {args : Array Value} {below : List Frame} {meth : Method} {c : Code} {dd : va_G} {g : Nat → ClassId} {mv : Nat} {A : Nat → Prop}
set_option maxHeartbeats 4000000 in
set_option maxRecDepth 100000 in
theorem b_X0_allFrom_47 {q_t q_t_could q_t_row q_t_first : Nat} {z : Int32 × Int32 × (Nat → Int32) × (Nat → Int32) × (Nat → Int32)} (F : Fx p m c cX0_allFrom 4 s args RX0) (hret : meth.sig.returnType = some .int) (hlk : meth.locks = false) : ∀ {x2 : Int32} {t_isFound : Int32} {t_could : Nat → Int32} {t_row : Nat → Int32} {t_first : Nat → Int32} {t_m : Int32} {t_count : Int32} {o_t_needed : Value} {o_t_neededLater : Value} {o_t_barred : Value} {o_t_chain : Value} {H : Heap} {locs : List Loc} {ls : Array Slot}, f_X0_allFrom_47  x2 t_isFound t_could t_row t_first = some z → Wd dd g mv A s H locs (w_X0_allFrom g q_t q_t_could q_t_row q_t_first o_t_needed o_t_neededLater o_t_barred o_t_chain t_m t_count t_isFound t_could t_row t_first) → lv_has ls 4 [(0, .ref q_t), (2, .int x2)] → W p l e (rmH (1) 0 0) s m args below meth c H locs 0 0 (MQ below (Qo dd g (some (.int z.1)) (fun u : Unit => (w_X0_allFrom g q_t q_t_could q_t_row q_t_first o_t_needed o_t_neededLater o_t_barred o_t_chain t_m t_count z.2.1 z.2.2.1 z.2.2.2.1 z.2.2.2.2)) A) args s 0 0 A) (F0 m 47 ls []) := by
  intro x2 t_isFound t_could t_row t_first t_m t_count o_t_needed o_t_neededLater o_t_barred o_t_chain H locs ls hr hw hl
  refine lv_aload_n F.1 F.2.1 dX0_allFrom_47 rfl (lv_at hl 0 rfl) ?_
  refine gf_X0_42 F hw 0 rfl rfl dX0_allFrom_48 ?_
  refine lv_if_ne (tgt := 74) F.1 F.2.1 dX0_allFrom_51 (by decide) (fun hc1 => ?_) (fun hc1 => ?_)
  · replace hr := (if_neg hc1).symm.trans hr
    refine lv_iload_n F.1 F.2.1 dX0_allFrom_74 rfl (lv_at hl 1 rfl) ?_
    cases hr
    exact ret_i () F hret hlk hw (Nat.le_refl _) (Nat.le_refl _) dX0_allFrom_75
  · replace hr := (if_pos hc1).symm.trans hr
    refine lv_aload_n F.1 F.2.1 dX0_allFrom_54 rfl (lv_at hl 0 rfl) ?_
    refine lv_iconst (v := 1) F.1 F.2.1 dX0_allFrom_55 (by decide) ?_
    refine pf_X0_42 F hw 0 rfl (by decide) (by decide) (Nat.le_of_ble_eq_true rfl) dX0_allFrom_56 (fun H locs hw => ?_)
    replace hw : Wd dd g mv A s H locs (w_X0_allFrom g q_t q_t_could q_t_row q_t_first o_t_needed o_t_neededLater o_t_barred o_t_chain t_m t_count ((1 : Int32)) t_could t_row t_first) := hw
    refine lv_aload_n F.1 F.2.1 dX0_allFrom_59 rfl (lv_at hl 0 rfl) ?_
    refine gf_X0_21 F hw 0 rfl rfl dX0_allFrom_60 ?_
    refine lv_iconst (v := 0) F.1 F.2.1 dX0_allFrom_63 (by decide) ?_
    refine lv_aload_n F.1 F.2.1 dX0_allFrom_64 rfl (lv_at hl 0 rfl) ?_
    refine gf_X0_25 F hw 0 rfl rfl dX0_allFrom_65 ?_
    refine lv_iconst (v := 0) F.1 F.2.1 dX0_allFrom_68 (by decide) ?_
    refine lv_bipush (v := 10) F.1 F.2.1 dX0_allFrom_69 (by decide) ?_
    refine va_copyi F.1 F.2.1 (F.2.2.1.trans hl.1.symm) F.2.2.2.1 (F.2.2.2.2 _ ml_X0_97) (F.2.2.2.2 _ wJ_ac_n) (F.2.2.2.2 _ wJ_ac_s) (F.2.2.2.2 _ wJ_sys) hw.1 hw.2.1 hw.2.2.1 hw.2.2.2.1 2 3 0 0 rfl rfl rfl rfl rfl (by decide) (by decide) (by decide) (by decide) (by decide) (fun _ _ => rfl) (Nat.le_of_ble_eq_true rfl) (Nat.le_of_ble_eq_true rfl) dX0_allFrom_71 (fun H locs hP hD hS => ?_)
    replace hw : Wd dd g mv A s H locs (w_X0_allFrom g q_t q_t_could q_t_row q_t_first o_t_needed o_t_neededLater o_t_barred o_t_chain t_m t_count ((1 : Int32)) t_could t_row ((va_cpy t_row t_first ((0 : Int32)).toNatClampNeg ((0 : Int32)).toNatClampNeg ((10 : Int32)).toNatClampNeg))) := ⟨hw.1, hP, hD, hS, hw.2.2.2.2⟩
    refine lv_iload_n F.1 F.2.1 dX0_allFrom_74 rfl (lv_at hl 1 rfl) ?_
    cases hr
    exact ret_i () F hret hlk hw (Nat.le_refl _) (Nat.le_refl _) dX0_allFrom_75
set_option maxHeartbeats 4000000 in
set_option maxRecDepth 100000 in
theorem b_X0_allFrom_4 {q_t q_t_could q_t_row q_t_first : Nat} {z : Int32 × Int32 × (Nat → Int32) × (Nat → Int32) × (Nat → Int32)} (F : Fx p m c cX0_allFrom 4 s args RX0) (hret : meth.sig.returnType = some .int) (hlk : meth.locks = false) : ∀ (n : Nat), ∀ {x2 : Int32} {x3 : Int32} {t_m : Int32} {t_isFound : Int32} {t_could : Nat → Int32} {t_row : Nat → Int32} {t_first : Nat → Int32} {t_count : Int32} {o_t_needed : Value} {o_t_neededLater : Value} {o_t_barred : Value} {o_t_chain : Value} {H : Heap} {locs : List Loc} {ls : Array Slot}, f_X0_allFrom_4  n x2 x3 t_m t_isFound t_could t_row t_first = some z → Wd dd g mv A s H locs (w_X0_allFrom g q_t q_t_could q_t_row q_t_first o_t_needed o_t_neededLater o_t_barred o_t_chain t_m t_count t_isFound t_could t_row t_first) → lv_has ls 4 [(0, .ref q_t), (2, .int x2), (3, .int x3)] → W p l e (rmH (1) 0 0) s m args below meth c H locs 0 0 (MQ below (Qo dd g (some (.int z.1)) (fun u : Unit => (w_X0_allFrom g q_t q_t_could q_t_row q_t_first o_t_needed o_t_neededLater o_t_barred o_t_chain t_m t_count z.2.1 z.2.2.1 z.2.2.2.1 z.2.2.2.2)) A) args s 0 0 A) (F0 m 4 ls []) := by
  intro n
  induction n with
  | zero =>
    intros
    rename_i hr _ _
    cases hr
  | succ n ih =>
    intro x2 x3 t_m t_isFound t_could t_row t_first t_count o_t_needed o_t_neededLater o_t_barred o_t_chain H locs ls hr hw hl
    refine lv_iload_n F.1 F.2.1 dX0_allFrom_4 rfl (lv_at hl 2 rfl) ?_
    refine lv_aload_n F.1 F.2.1 dX0_allFrom_5 rfl (lv_at hl 0 rfl) ?_
    refine gf_X0_35 F hw 0 rfl rfl dX0_allFrom_6 ?_
    refine lv_icmp_ge (tgt := 47) F.1 F.2.1 dX0_allFrom_9 (by decide) (fun hc2 => ?_) (fun hc2 => ?_)
    · replace hr := (if_pos hc2).symm.trans hr
      exact b_X0_allFrom_47 F hret hlk  hr hw (lv_sub hl [0, 1] rfl)
    · replace hr := (if_neg hc2).symm.trans hr
      refine lv_iload_n F.1 F.2.1 dX0_allFrom_12 rfl (lv_at hl 2 rfl) ?_
      refine lv_bipush (v := 10) F.1 F.2.1 dX0_allFrom_13 (by decide) ?_
      refine lv_icmp_ge (tgt := 47) F.1 F.2.1 dX0_allFrom_15 (by decide) (fun hc3 => ?_) (fun hc3 => ?_)
      · replace hr := (if_pos hc3).symm.trans hr
        exact b_X0_allFrom_47 F hret hlk  hr hw (lv_sub hl [0, 1] rfl)
      · replace hr := (if_neg hc3).symm.trans hr
        refine lv_aload_n F.1 F.2.1 dX0_allFrom_18 rfl (lv_at hl 0 rfl) ?_
        refine gf_X0_28 F hw 0 rfl rfl dX0_allFrom_19 ?_
        refine lv_iload_n F.1 F.2.1 dX0_allFrom_22 rfl (lv_at hl 2 rfl) ?_
        refine lv_dup2_11 F.1 F.2.1 dX0_allFrom_23 rfl rfl ?_
        obtain ⟨hg4, hr⟩ := g_no hr
        refine ar_i F hw 1 rfl hg4 dX0_allFrom_24 ?_
        refine lv_bipush (v := 7) F.1 F.2.1 dX0_allFrom_25 (by decide) ?_
        refine lv_ior F.1 F.2.1 dX0_allFrom_27 ?_
        obtain ⟨hg5, hr⟩ := g_no hr
        refine aw_i F hw 1 rfl hg5 dX0_allFrom_28 (fun H locs hw => ?_)
        replace hw : Wd dd g mv A s H locs (w_X0_allFrom g q_t q_t_could q_t_row q_t_first o_t_needed o_t_neededLater o_t_barred o_t_chain t_m t_count t_isFound ((upd t_could (x3).toNatClampNeg (((t_could (x3).toNatClampNeg) ||| (7 : Int32))))) t_row t_first) := hw
        refine lv_aload_n F.1 F.2.1 dX0_allFrom_29 rfl (lv_at hl 0 rfl) ?_
        refine gf_X0_21 F hw 0 rfl rfl dX0_allFrom_30 ?_
        refine lv_iload_n F.1 F.2.1 dX0_allFrom_33 rfl (lv_at hl 2 rfl) ?_
        refine lv_bipush (v := 43) F.1 F.2.1 dX0_allFrom_34 (by decide) ?_
        obtain ⟨hg6, hr⟩ := g_no hr
        refine aw_i F hw 2 rfl hg6 dX0_allFrom_36 (fun H locs hw => ?_)
        replace hw : Wd dd g mv A s H locs (w_X0_allFrom g q_t q_t_could q_t_row q_t_first o_t_needed o_t_neededLater o_t_barred o_t_chain t_m t_count t_isFound ((upd t_could (x3).toNatClampNeg (((t_could (x3).toNatClampNeg) ||| (7 : Int32))))) ((upd t_row (x3).toNatClampNeg ((43 : Int32)))) t_first) := hw
        refine lv_iload_n F.1 F.2.1 dX0_allFrom_37 rfl (lv_at hl 1 rfl) ?_
        refine lv_iconst (v := 3) F.1 F.2.1 dX0_allFrom_38 (by decide) ?_
        refine lv_imul F.1 F.2.1 dX0_allFrom_39 ?_
        refine lv_istore_n (lv' := [(2, .int (x2 * (3 : Int32))), (0, .ref q_t), (3, .int x3)]) F.1 F.2.1 dX0_allFrom_40 rfl hl (by decide) rfl (fun ls hl => ?_)
        refine lv_iinc (v := (x3 + 1)) (lv' := [(3, .int (x3 + 1)), (2, .int (x2 * (3 : Int32))), (0, .ref q_t)]) F.1 F.2.1 dX0_allFrom_41 hl (k := 2) rfl rfl (by decide) rfl (fun ls hl => ?_)
        refine lv_goto (tgt := 4) F.1 F.2.1 dX0_allFrom_44 (by decide) ?_
        exact ih hr hw (lv_sub hl [2, 1, 0] rfl)
set_option maxHeartbeats 4000000 in
set_option maxRecDepth 100000 in
theorem c_X0_allFrom (l : Launch) (dd : va_G) (g : Nat → ClassId) (mv : Nat) (q_t : Nat) (q_t_could : Nat) (q_t_row : Nat) (q_t_first : Nat) (o_t_needed : Value) (o_t_neededLater : Value) (o_t_barred : Value) (o_t_chain : Value) (t_m : Int32) (t_count : Int32) (t_isFound : Int32) (t_could : Nat → Int32) (t_row : Nat → Int32) (t_first : Nat → Int32) (a1 : Int32) (z : Int32 × Int32 × (Nat → Int32) × (Nat → Int32) × (Nat → Int32)) (hr : f_X0_allFrom t_m t_isFound t_could t_row t_first a1 = some z) (sz : Nat) : Met l yX0_allFrom (.code yX0_allFrom cX0_allFrom 4 (some .int) :: WS) (rmH 1 0 0) (va_Pc [.ref q_t, .int a1] (PW dd g mv (w_X0_allFrom g q_t q_t_could q_t_row q_t_first o_t_needed o_t_neededLater o_t_barred o_t_chain t_m t_count t_isFound t_could t_row t_first) sz)) (Qo dd g (some (.int z.1)) (fun u : Unit => (w_X0_allFrom g q_t q_t_could q_t_row q_t_first o_t_needed o_t_neededLater o_t_barred o_t_chain t_m t_count z.2.1 z.2.2.1 z.2.2.2.1 z.2.2.2.2)) (va_A (w_X0_allFrom g q_t q_t_could q_t_row q_t_first o_t_needed o_t_neededLater o_t_barred o_t_chain t_m t_count t_isFound t_could t_row t_first) sz)) 0 0 (va_A (w_X0_allFrom g q_t q_t_could q_t_row q_t_first o_t_needed o_t_neededLater o_t_barred o_t_chain t_m t_count t_isFound t_could t_row t_first) sz) := by
  refine Met_intro (by decide) (Nat.le_of_ble_eq_true rfl) ?_
  intro p e s m below meth c A ls F hret hlk hin hw hl
  replace hl : lv_has ls 4 [(0, .ref q_t), (1, .int a1)] := hl
  refine lv_iconst (v := 1) F.1 F.2.1 dX0_allFrom_0 (by decide) ?_
  refine lv_istore_n (lv' := [(2, .int (1 : Int32)), (0, .ref q_t), (1, .int a1)]) F.1 F.2.1 dX0_allFrom_1 rfl hl (by decide) rfl (fun ls hl => ?_)
  refine lv_iload_n F.1 F.2.1 dX0_allFrom_2 rfl (lv_at hl 2 rfl) ?_
  refine lv_istore_n (lv' := [(3, .int a1), (2, .int (1 : Int32)), (0, .ref q_t), (1, .int a1)]) F.1 F.2.1 dX0_allFrom_3 rfl hl (by decide) rfl (fun ls hl => ?_)
  exact b_X0_allFrom_4 F hret hlk  fuel hr hw (lv_sub hl [2, 1, 0] rfl)
set_option maxHeartbeats 4000000 in
set_option maxRecDepth 100000 in
theorem c_X11_numbersOf (l : Launch) (dd : va_G) (g : Nat → ClassId) (mv : Nat) (a1 : Int64) (z : Int64) (hr : f_X11_numbersOf a1 = some z) (sz : Nat) : Met l yX11_numbersOf (.code yX11_numbersOf cX11_numbersOf 2 (some .long) :: WS) (rmH 0 0 0) (va_Pc [.long a1] (PW dd g mv (w_X11_numbersOf g ) sz)) (Qo dd g (some (.long z)) (fun u : Unit => (w_X11_numbersOf g )) (va_A (w_X11_numbersOf g ) sz)) 0 0 (va_A (w_X11_numbersOf g ) sz) := by
  refine Met_intro (by decide) (Nat.le_of_ble_eq_true rfl) ?_
  intro p e s m below meth c A ls F hret hlk hin hw hl
  replace hl : lv_has ls 2 [(0, .long a1)] := hl
  refine lv_lload_n F.1 F.2.1 dX11_numbersOf_0 rfl (lv_at hl 0 rfl) ?_
  refine lv_lload_n F.1 F.2.1 dX11_numbersOf_1 rfl (lv_at hl 0 rfl) ?_
  refine lv_iconst (v := 4) F.1 F.2.1 dX11_numbersOf_2 (by decide) ?_
  refine lv_lushr F.1 F.2.1 dX11_numbersOf_3 rfl ?_
  refine lv_lsub F.1 F.2.1 dX11_numbersOf_4 ?_
  cases hr
  exact ret_l () F hret hlk hw (Nat.le_refl _) (Nat.le_refl _) dX11_numbersOf_5
set_option maxHeartbeats 4000000 in
set_option maxRecDepth 100000 in
theorem c_X1_drunk (l : Launch) (dd : va_G) (g : Nat → ClassId) (mv : Nat) (q_t : Nat) (t_places : Int32) (t_deep : Int32) (t_turn : Int32) (t_wheel : Int64) (t_leaks : Int64) (t_wants : Int64) (a1 : Int64) (z : Int64) (hr : f_X1_drunk t_wants a1 = some z) (sz : Nat) : Met l yX1_drunk (.code yX1_drunk cX1_drunk 7 (some .long) :: WS) (rmH 1 0 0) (va_Pc [.ref q_t, .long a1] (PW dd g mv (w_X1_drunk g q_t t_places t_deep t_turn t_wheel t_leaks t_wants) sz)) (Qo dd g (some (.long z)) (fun u : Unit => (w_X1_drunk g q_t t_places t_deep t_turn t_wheel t_leaks t_wants)) (va_A (w_X1_drunk g q_t t_places t_deep t_turn t_wheel t_leaks t_wants) sz)) 0 0 (va_A (w_X1_drunk g q_t t_places t_deep t_turn t_wheel t_leaks t_wants) sz) := by
  refine Met_intro (by decide) (Nat.le_of_ble_eq_true rfl) ?_
  intro p e s m below meth c A ls F hret hlk hin hw hl
  replace hl : lv_has ls 7 [(0, .ref q_t), (1, .long a1)] := hl
  refine lv_lload_n F.1 F.2.1 dX1_drunk_0 rfl (lv_at hl 1 rfl) ?_
  refine lv_ldc2 F.1 F.2.1 F.2.2.2.1 (F.2.2.2.2 _ cl_X1_53) dX1_drunk_1 ?_
  refine lv_lor F.1 F.2.1 dX1_drunk_4 ?_
  refine lv_aload_n F.1 F.2.1 dX1_drunk_5 rfl (lv_at hl 0 rfl) ?_
  refine gf_X1_30 F hw 0 rfl rfl dX1_drunk_6 ?_
  refine lv_lsub F.1 F.2.1 dX1_drunk_9 ?_
  refine lv_lstore_n (lv' := [(3, .long ((a1 ||| (18159675916816 : Int64)) - t_wants)), (0, .ref q_t), (1, .long a1)]) F.1 F.2.1 dX1_drunk_10 rfl hl (by decide) rfl (fun ls hl => ?_)
  refine lv_lload_n F.1 F.2.1 dX1_drunk_11 rfl (lv_at hl 0 rfl) ?_
  refine lv_lload_n F.1 F.2.1 dX1_drunk_12 rfl (lv_at hl 2 rfl) ?_
  refine lv_land F.1 F.2.1 dX1_drunk_13 ?_
  refine lv_ldc2 F.1 F.2.1 F.2.2.2.1 (F.2.2.2.2 _ cl_X1_53) dX1_drunk_14 ?_
  refine lv_land F.1 F.2.1 dX1_drunk_17 ?_
  refine lv_lstore (lv' := [(5, .long ((((a1 ||| (18159675916816 : Int64)) - t_wants) &&& a1) &&& (18159675916816 : Int64))), (3, .long ((a1 ||| (18159675916816 : Int64)) - t_wants)), (0, .ref q_t), (1, .long a1)]) F.1 F.2.1 dX1_drunk_18 hl (by decide) rfl (fun ls hl => ?_)
  refine lv_lload_n F.1 F.2.1 dX1_drunk_20 rfl (lv_at hl 3 rfl) ?_
  refine lv_lload F.1 F.2.1 dX1_drunk_21 (lv_at hl 0 rfl) ?_
  refine lv_lsub F.1 F.2.1 dX1_drunk_23 ?_
  refine lv_aload_n F.1 F.2.1 dX1_drunk_24 rfl (lv_at hl 2 rfl) ?_
  refine gf_X1_30 F hw 0 rfl rfl dX1_drunk_25 ?_
  refine lv_lload F.1 F.2.1 dX1_drunk_28 (lv_at hl 0 rfl) ?_
  obtain ⟨z1, hz1, hr⟩ := Option.bind_eq_some_iff.mp hr
  refine call_o (wr := [(q_t, .inr (1, [.int t_places, .int t_deep, .int t_turn, .long t_wheel, .long t_leaks, .long t_wants]))]) (run_N (As := [.long ((((a1 ||| (18159675916816 : Int64)) - t_wants) &&& a1) &&& (18159675916816 : Int64))]) (rest := [.long t_wants, .long (a1 - ((((a1 ||| (18159675916816 : Int64)) - t_wants) &&& a1) &&& (18159675916816 : Int64)))]) F k_X1_55 (c_X11_numbersOf l dd g mv (((((a1 ||| (18159675916816 : Int64)) - t_wants) &&& a1) &&& (18159675916816 : Int64))) z1 hz1 _) hw [] (by decide) rfl rfl hl.1 rfl (Nat.le_of_ble_eq_true rfl) dX1_drunk_30 ⟨Nat.le_of_ble_eq_true rfl, Nat.le_of_ble_eq_true rfl⟩ ⟨Nat.le_of_ble_eq_true rfl, Nat.le_of_ble_eq_true rfl⟩) hw [] [0] rfl rfl (by decide) (by decide) (fun u2 H locs hw => ?_)
  replace hw : Wd dd g mv A s H locs (w_X1_drunk g q_t t_places t_deep t_turn t_wheel t_leaks t_wants) := hw.sub [0] (by decide) rfl
  refine W.eq (g2 := F0 m 33 ls (.long z1 :: .long t_wants :: .long (a1 - ((((a1 ||| (18159675916816 : Int64)) - t_wants) &&& a1) &&& (18159675916816 : Int64))) :: [])) rfl ?_
  refine lv_land F.1 F.2.1 dX1_drunk_33 ?_
  refine lv_lsub F.1 F.2.1 dX1_drunk_34 ?_
  cases hr
  exact ret_l () F hret hlk hw (Nat.le_refl _) (Nat.le_refl _) dX1_drunk_35
set_option maxHeartbeats 4000000 in
set_option maxRecDepth 100000 in
theorem c_X1_filled (l : Launch) (dd : va_G) (g : Nat → ClassId) (mv : Nat) (q_t : Nat) (t_places : Int32) (t_deep : Int32) (t_turn : Int32) (t_wheel : Int64) (t_leaks : Int64) (t_wants : Int64) (a1 : Int64) (z : Int64) (hr : f_X1_filled t_deep a1 = some z) (sz : Nat) : Met l yX1_filled (.code yX1_filled cX1_filled 3 (some .long) :: WS) (rmH 0 0 0) (va_Pc [.ref q_t, .long a1] (PW dd g mv (w_X1_filled g q_t t_places t_deep t_turn t_wheel t_leaks t_wants) sz)) (Qo dd g (some (.long z)) (fun u : Unit => (w_X1_filled g q_t t_places t_deep t_turn t_wheel t_leaks t_wants)) (va_A (w_X1_filled g q_t t_places t_deep t_turn t_wheel t_leaks t_wants) sz)) 0 0 (va_A (w_X1_filled g q_t t_places t_deep t_turn t_wheel t_leaks t_wants) sz) := by
  refine Met_intro (by decide) (Nat.le_of_ble_eq_true rfl) ?_
  intro p e s m below meth c A ls F hret hlk hin hw hl
  replace hl : lv_has ls 3 [(0, .ref q_t), (1, .long a1)] := hl
  refine lv_lload_n F.1 F.2.1 dX1_filled_0 rfl (lv_at hl 1 rfl) ?_
  refine lv_ldc2 F.1 F.2.1 F.2.2.2.1 (F.2.2.2.2 _ cl_X1_59) dX1_filled_1 ?_
  refine lv_land F.1 F.2.1 dX1_filled_4 ?_
  refine lv_aload_n F.1 F.2.1 dX1_filled_5 rfl (lv_at hl 0 rfl) ?_
  refine gf_X1_15 F hw 0 rfl rfl dX1_filled_6 ?_
  refine lv_i2l F.1 F.2.1 dX1_filled_9 rfl ?_
  refine lv_lor F.1 F.2.1 dX1_filled_10 ?_
  cases hr
  exact ret_l () F hret hlk hw (Nat.le_refl _) (Nat.le_refl _) dX1_filled_11
set_option maxHeartbeats 4000000 in
set_option maxRecDepth 100000 in
theorem c_X1_leaked (l : Launch) (dd : va_G) (g : Nat → ClassId) (mv : Nat) (q_t : Nat) (t_places : Int32) (t_deep : Int32) (t_turn : Int32) (t_wheel : Int64) (t_leaks : Int64) (t_wants : Int64) (a1 : Int64) (a2 : Int64) (z : Int64) (hr : f_X1_leaked a1 a2 = some z) (sz : Nat) : Met l yX1_leaked (.code yX1_leaked cX1_leaked 7 (some .long) :: WS) (rmH 1 0 0) (va_Pc [.ref q_t, .long a1, .long a2] (PW dd g mv (w_X1_leaked g q_t t_places t_deep t_turn t_wheel t_leaks t_wants) sz)) (Qo dd g (some (.long z)) (fun u : Unit => (w_X1_leaked g q_t t_places t_deep t_turn t_wheel t_leaks t_wants)) (va_A (w_X1_leaked g q_t t_places t_deep t_turn t_wheel t_leaks t_wants) sz)) 0 0 (va_A (w_X1_leaked g q_t t_places t_deep t_turn t_wheel t_leaks t_wants) sz) := by
  refine Met_intro (by decide) (Nat.le_of_ble_eq_true rfl) ?_
  intro p e s m below meth c A ls F hret hlk hin hw hl
  replace hl : lv_has ls 7 [(0, .ref q_t), (1, .long a1), (3, .long a2)] := hl
  refine lv_lload_n F.1 F.2.1 dX1_leaked_0 rfl (lv_at hl 1 rfl) ?_
  refine lv_ldc2 F.1 F.2.1 F.2.2.2.1 (F.2.2.2.2 _ cl_X1_53) dX1_leaked_1 ?_
  refine lv_lor F.1 F.2.1 dX1_leaked_4 ?_
  refine lv_lload_n F.1 F.2.1 dX1_leaked_5 rfl (lv_at hl 2 rfl) ?_
  refine lv_lsub F.1 F.2.1 dX1_leaked_6 ?_
  refine lv_lstore (lv' := [(5, .long ((a1 ||| (18159675916816 : Int64)) - a2)), (0, .ref q_t), (1, .long a1), (3, .long a2)]) F.1 F.2.1 dX1_leaked_7 hl (by decide) rfl (fun ls hl => ?_)
  refine lv_lload_n F.1 F.2.1 dX1_leaked_9 rfl (lv_at hl 2 rfl) ?_
  refine lv_ldc2 F.1 F.2.1 F.2.2.2.1 (F.2.2.2.2 _ cl_X1_53) dX1_leaked_10 ?_
  refine lv_land F.1 F.2.1 dX1_leaked_13 ?_
  refine lv_lload F.1 F.2.1 dX1_leaked_14 (lv_at hl 0 rfl) ?_
  refine lv_lload F.1 F.2.1 dX1_leaked_16 (lv_at hl 0 rfl) ?_
  refine lv_ldc2 F.1 F.2.1 F.2.2.2.1 (F.2.2.2.2 _ cl_X1_53) dX1_leaked_18 ?_
  refine lv_land F.1 F.2.1 dX1_leaked_21 ?_
  obtain ⟨z1, hz1, hr⟩ := Option.bind_eq_some_iff.mp hr
  refine call_o (wr := [(q_t, .inr (1, [.int t_places, .int t_deep, .int t_turn, .long t_wheel, .long t_leaks, .long t_wants]))]) (run_N (As := [.long (((a1 ||| (18159675916816 : Int64)) - a2) &&& (18159675916816 : Int64))]) (rest := [.long ((a1 ||| (18159675916816 : Int64)) - a2), .long (a1 &&& (18159675916816 : Int64))]) F k_X1_55 (c_X11_numbersOf l dd g mv ((((a1 ||| (18159675916816 : Int64)) - a2) &&& (18159675916816 : Int64))) z1 hz1 _) hw [] (by decide) rfl rfl hl.1 rfl (Nat.le_of_ble_eq_true rfl) dX1_leaked_22 ⟨Nat.le_of_ble_eq_true rfl, Nat.le_of_ble_eq_true rfl⟩ ⟨Nat.le_of_ble_eq_true rfl, Nat.le_of_ble_eq_true rfl⟩) hw [] [0] rfl rfl (by decide) (by decide) (fun u2 H locs hw => ?_)
  replace hw : Wd dd g mv A s H locs (w_X1_leaked g q_t t_places t_deep t_turn t_wheel t_leaks t_wants) := hw.sub [0] (by decide) rfl
  refine W.eq (g2 := F0 m 25 ls (.long z1 :: .long ((a1 ||| (18159675916816 : Int64)) - a2) :: .long (a1 &&& (18159675916816 : Int64)) :: [])) rfl ?_
  refine lv_land F.1 F.2.1 dX1_leaked_25 ?_
  refine lv_lor F.1 F.2.1 dX1_leaked_26 ?_
  cases hr
  exact ret_l () F hret hlk hw (Nat.le_refl _) (Nat.le_refl _) dX1_leaked_27
set_option maxHeartbeats 4000000 in
set_option maxRecDepth 100000 in
theorem c_X1_step (l : Launch) (dd : va_G) (g : Nat → ClassId) (mv : Nat) (q_t : Nat) (t_places : Int32) (t_deep : Int32) (t_turn : Int32) (t_wheel : Int64) (t_leaks : Int64) (t_wants : Int64) (a1 : Int64) (a2 : Int64) (z : Int64) (hr : f_X1_step t_deep t_wants a1 a2 = some z) (sz : Nat) : Met l yX1_step (.code yX1_step cX1_step 5 (some .long) :: WS) (rmH 2 0 0) (va_Pc [.ref q_t, .long a1, .long a2] (PW dd g mv (w_X1_step g q_t t_places t_deep t_turn t_wheel t_leaks t_wants) sz)) (Qo dd g (some (.long z)) (fun u : Unit => (w_X1_step g q_t t_places t_deep t_turn t_wheel t_leaks t_wants)) (va_A (w_X1_step g q_t t_places t_deep t_turn t_wheel t_leaks t_wants) sz)) 0 0 (va_A (w_X1_step g q_t t_places t_deep t_turn t_wheel t_leaks t_wants) sz) := by
  refine Met_intro (by decide) (Nat.le_of_ble_eq_true rfl) ?_
  intro p e s m below meth c A ls F hret hlk hin hw hl
  replace hl : lv_has ls 5 [(0, .ref q_t), (1, .long a1), (3, .long a2)] := hl
  refine lv_aload_n F.1 F.2.1 dX1_step_0 rfl (lv_at hl 0 rfl) ?_
  refine lv_aload_n F.1 F.2.1 dX1_step_1 rfl (lv_at hl 0 rfl) ?_
  refine lv_aload_n F.1 F.2.1 dX1_step_2 rfl (lv_at hl 0 rfl) ?_
  refine lv_lload_n F.1 F.2.1 dX1_step_3 rfl (lv_at hl 1 rfl) ?_
  refine lv_lload_n F.1 F.2.1 dX1_step_4 rfl (lv_at hl 2 rfl) ?_
  obtain ⟨z1, hz1, hr⟩ := Option.bind_eq_some_iff.mp hr
  refine call_o (wr := []) (run_V (As := [.long a1, .long a2]) (rest := [.ref q_t, .ref q_t]) F k_X1_61 (c_X1_leaked l dd g mv q_t t_places t_deep t_turn t_wheel t_leaks t_wants a1 a2 z1 hz1 _) hw [0] (by decide) rfl (ci := 1) rfl rfl rfl rfl hl.1 rfl (Nat.le_of_ble_eq_true rfl) dX1_step_5 ⟨Nat.le_of_ble_eq_true rfl, Nat.le_of_ble_eq_true rfl⟩ ⟨Nat.le_of_ble_eq_true rfl, Nat.le_of_ble_eq_true rfl⟩) hw [0] [] rfl rfl (by decide) (by decide) (fun u2 H locs hw => ?_)
  replace hw : Wd dd g mv A s H locs (w_X1_step g q_t t_places t_deep t_turn t_wheel t_leaks t_wants) := hw.sub [0] (by decide) rfl
  refine W.eq (g2 := F0 m 8 ls (.long z1 :: .ref q_t :: .ref q_t :: [])) rfl ?_
  obtain ⟨z3, hz3, hr⟩ := Option.bind_eq_some_iff.mp hr
  refine call_o (wr := []) (run_V (As := [.long z1]) (rest := [.ref q_t]) F k_X1_65 (c_X1_filled l dd g mv q_t t_places t_deep t_turn t_wheel t_leaks t_wants z1 z3 hz3 _) hw [0] (by decide) rfl (ci := 1) rfl rfl rfl rfl hl.1 rfl (Nat.le_of_ble_eq_true rfl) dX1_step_8 ⟨Nat.le_of_ble_eq_true rfl, Nat.le_of_ble_eq_true rfl⟩ ⟨Nat.le_of_ble_eq_true rfl, Nat.le_of_ble_eq_true rfl⟩) hw [0] [] rfl rfl (by decide) (by decide) (fun u4 H locs hw => ?_)
  replace hw : Wd dd g mv A s H locs (w_X1_step g q_t t_places t_deep t_turn t_wheel t_leaks t_wants) := hw.sub [0] (by decide) rfl
  refine W.eq (g2 := F0 m 11 ls (.long z3 :: .ref q_t :: [])) rfl ?_
  obtain ⟨z5, hz5, hr⟩ := Option.bind_eq_some_iff.mp hr
  refine call_o (wr := []) (run_V (As := [.long z3]) (rest := []) F k_X1_68 (c_X1_drunk l dd g mv q_t t_places t_deep t_turn t_wheel t_leaks t_wants z3 z5 hz5 _) hw [0] (by decide) rfl (ci := 1) rfl rfl rfl rfl hl.1 rfl (Nat.le_of_ble_eq_true rfl) dX1_step_11 ⟨Nat.le_of_ble_eq_true rfl, Nat.le_of_ble_eq_true rfl⟩ ⟨Nat.le_of_ble_eq_true rfl, Nat.le_of_ble_eq_true rfl⟩) hw [0] [] rfl rfl (by decide) (by decide) (fun u6 H locs hw => ?_)
  replace hw : Wd dd g mv A s H locs (w_X1_step g q_t t_places t_deep t_turn t_wheel t_leaks t_wants) := hw.sub [0] (by decide) rfl
  refine W.eq (g2 := F0 m 14 ls (.long z5 :: [])) rfl ?_
  cases hr
  exact ret_l () F hret hlk hw (Nat.le_refl _) (Nat.le_refl _) dX1_step_14
set_option maxHeartbeats 4000000 in
set_option maxRecDepth 100000 in
theorem b_X1_turned_71 {q_t : Nat} {z : Int64} (F : Fx p m c cX1_turned 7 s args RX1) (hret : meth.sig.returnType = some .long) (hlk : meth.locks = false) : ∀ {x1 : Int64} {x4 : Int64} {t_places : Int32} {t_deep : Int32} {t_turn : Int32} {t_wheel : Int64} {t_leaks : Int64} {t_wants : Int64} {H : Heap} {locs : List Loc} {ls : Array Slot}, f_X1_turned_71  x1 x4 = some z → Wd dd g mv A s H locs (w_X1_turned g q_t t_places t_deep t_turn t_wheel t_leaks t_wants) → lv_has ls 7 [(1, .long x1), (4, .long x4)] → W p l e (rmH (0) 0 0) s m args below meth c H locs 0 0 (MQ below (Qo dd g (some (.long z)) (fun u : Unit => (w_X1_turned g q_t t_places t_deep t_turn t_wheel t_leaks t_wants)) A) args s 0 0 A) (F0 m 71 ls []) := by
  intro x1 x4 t_places t_deep t_turn t_wheel t_leaks t_wants H locs ls hr hw hl
  refine lv_lload_n F.1 F.2.1 dX1_turned_71 rfl (lv_at hl 0 rfl) ?_
  refine lv_ldc2 F.1 F.2.1 F.2.2.2.1 (F.2.2.2.2 _ cl_X1_53) dX1_turned_72 ?_
  refine lv_land F.1 F.2.1 dX1_turned_75 ?_
  refine lv_lload F.1 F.2.1 dX1_turned_76 (lv_at hl 1 rfl) ?_
  refine lv_lor F.1 F.2.1 dX1_turned_78 ?_
  cases hr
  exact ret_l () F hret hlk hw (Nat.le_refl _) (Nat.le_refl _) dX1_turned_79
set_option maxHeartbeats 4000000 in
set_option maxRecDepth 100000 in
theorem c_X1_turned (l : Launch) (dd : va_G) (g : Nat → ClassId) (mv : Nat) (q_t : Nat) (t_places : Int32) (t_deep : Int32) (t_turn : Int32) (t_wheel : Int64) (t_leaks : Int64) (t_wants : Int64) (a1 : Int64) (a2 : Int32) (z : Int64) (hr : f_X1_turned t_places a1 a2 = some z) (sz : Nat) : Met l yX1_turned (.code yX1_turned cX1_turned 7 (some .long) :: WS) (rmH 0 0 0) (va_Pc [.ref q_t, .long a1, .int a2] (PW dd g mv (w_X1_turned g q_t t_places t_deep t_turn t_wheel t_leaks t_wants) sz)) (Qo dd g (some (.long z)) (fun u : Unit => (w_X1_turned g q_t t_places t_deep t_turn t_wheel t_leaks t_wants)) (va_A (w_X1_turned g q_t t_places t_deep t_turn t_wheel t_leaks t_wants) sz)) 0 0 (va_A (w_X1_turned g q_t t_places t_deep t_turn t_wheel t_leaks t_wants) sz) := by
  refine Met_intro (by decide) (Nat.le_of_ble_eq_true rfl) ?_
  intro p e s m below meth c A ls F hret hlk hin hw hl
  replace hl : lv_has ls 7 [(0, .ref q_t), (1, .long a1), (3, .int a2)] := hl
  refine lv_lload_n F.1 F.2.1 dX1_turned_0 rfl (lv_at hl 1 rfl) ?_
  refine lv_ldc2 F.1 F.2.1 F.2.2.2.1 (F.2.2.2.2 _ cl_X1_47) dX1_turned_1 ?_
  refine lv_land F.1 F.2.1 dX1_turned_4 ?_
  refine lv_lstore (lv' := [(4, .long (a1 &&& (17024696172015 : Int64))), (0, .ref q_t), (1, .long a1), (3, .int a2)]) F.1 F.2.1 dX1_turned_5 hl (by decide) rfl (fun ls hl => ?_)
  refine lv_iconst (v := 5) F.1 F.2.1 dX1_turned_7 (by decide) ?_
  refine lv_aload_n F.1 F.2.1 dX1_turned_8 rfl (lv_at hl 1 rfl) ?_
  refine gf_X1_9 F hw 0 rfl rfl dX1_turned_9 ?_
  refine lv_iconst (v := 1) F.1 F.2.1 dX1_turned_12 (by decide) ?_
  refine lv_isub F.1 F.2.1 dX1_turned_13 ?_
  refine lv_imul F.1 F.2.1 dX1_turned_14 ?_
  refine lv_istore (lv' := [(6, .int ((5 : Int32) * (t_places - (1 : Int32)))), (4, .long (a1 &&& (17024696172015 : Int64))), (0, .ref q_t), (1, .long a1), (3, .int a2)]) F.1 F.2.1 dX1_turned_15 hl (by decide) rfl (fun ls hl => ?_)
  refine lv_iload_n F.1 F.2.1 dX1_turned_17 rfl (lv_at hl 4 rfl) ?_
  refine lv_bipush (v := 43) F.1 F.2.1 dX1_turned_18 (by decide) ?_
  refine lv_icmp_ne (tgt := 49) F.1 F.2.1 dX1_turned_20 (by decide) (fun hc1 => ?_) (fun hc1 => ?_)
  · replace hr := (if_neg hc1).symm.trans hr
    refine lv_iload_n F.1 F.2.1 dX1_turned_49 rfl (lv_at hl 4 rfl) ?_
    refine lv_bipush (v := 45) F.1 F.2.1 dX1_turned_50 (by decide) ?_
    refine lv_icmp_ne (tgt := 71) F.1 F.2.1 dX1_turned_52 (by decide) (fun hc2 => ?_) (fun hc2 => ?_)
    · replace hr := (if_neg hc2).symm.trans hr
      exact b_X1_turned_71 F hret hlk  hr hw (lv_sub hl [3, 1] rfl)
    · replace hr := (if_pos hc2).symm.trans hr
      refine lv_lload F.1 F.2.1 dX1_turned_55 (lv_at hl 1 rfl) ?_
      refine lv_iconst (v := 5) F.1 F.2.1 dX1_turned_57 (by decide) ?_
      refine lv_lushr F.1 F.2.1 dX1_turned_58 rfl ?_
      refine lv_lload F.1 F.2.1 dX1_turned_59 (lv_at hl 1 rfl) ?_
      refine lv_ldc2 F.1 F.2.1 F.2.2.2.1 (F.2.2.2.2 _ cl_X1_49) dX1_turned_61 ?_
      refine lv_land F.1 F.2.1 dX1_turned_64 ?_
      refine lv_iload F.1 F.2.1 dX1_turned_65 (lv_at hl 0 rfl) ?_
      refine lv_lshl F.1 F.2.1 dX1_turned_67 rfl ?_
      refine lv_lor F.1 F.2.1 dX1_turned_68 ?_
      refine lv_lstore (lv' := [(4, .long (((((a1 &&& (17024696172015 : Int64))).toUInt64 >>> (((5 : Int32)).toInt64.toUInt64 &&& Int64.toUInt64 63)).toInt64) ||| (((a1 &&& (17024696172015 : Int64)) &&& (15 : Int64)) <<< ((((5 : Int32) * (t_places - (1 : Int32)))).toInt64 &&& 63)))), (6, .int ((5 : Int32) * (t_places - (1 : Int32)))), (0, .ref q_t), (1, .long a1), (3, .int a2)]) F.1 F.2.1 dX1_turned_69 hl (by decide) rfl (fun ls hl => ?_)
      exact b_X1_turned_71 F hret hlk  hr hw (lv_sub hl [3, 0] rfl)
  · replace hr := (if_pos hc1).symm.trans hr
    refine lv_lload F.1 F.2.1 dX1_turned_23 (lv_at hl 1 rfl) ?_
    refine lv_ldc2 F.1 F.2.1 F.2.2.2.1 (F.2.2.2.2 _ cl_X1_49) dX1_turned_25 ?_
    refine lv_iload F.1 F.2.1 dX1_turned_28 (lv_at hl 0 rfl) ?_
    refine lv_lshl F.1 F.2.1 dX1_turned_30 rfl ?_
    refine lv_ldc2 F.1 F.2.1 F.2.2.2.1 (F.2.2.2.2 _ cl_X1_51) dX1_turned_31 ?_
    refine lv_lxor F.1 F.2.1 dX1_turned_34 ?_
    refine lv_land F.1 F.2.1 dX1_turned_35 ?_
    refine lv_iconst (v := 5) F.1 F.2.1 dX1_turned_36 (by decide) ?_
    refine lv_lshl F.1 F.2.1 dX1_turned_37 rfl ?_
    refine lv_lload F.1 F.2.1 dX1_turned_38 (lv_at hl 1 rfl) ?_
    refine lv_iload F.1 F.2.1 dX1_turned_40 (lv_at hl 0 rfl) ?_
    refine lv_lushr F.1 F.2.1 dX1_turned_42 rfl ?_
    refine lv_lor F.1 F.2.1 dX1_turned_43 ?_
    refine lv_lstore (lv' := [(4, .long ((((a1 &&& (17024696172015 : Int64)) &&& (((15 : Int64) <<< ((((5 : Int32) * (t_places - (1 : Int32)))).toInt64 &&& 63)) ^^^ (-1 : Int64))) <<< (((5 : Int32)).toInt64 &&& 63)) ||| ((((a1 &&& (17024696172015 : Int64))).toUInt64 >>> ((((5 : Int32) * (t_places - (1 : Int32)))).toInt64.toUInt64 &&& Int64.toUInt64 63)).toInt64))), (6, .int ((5 : Int32) * (t_places - (1 : Int32)))), (0, .ref q_t), (1, .long a1), (3, .int a2)]) F.1 F.2.1 dX1_turned_44 hl (by decide) rfl (fun ls hl => ?_)
    refine lv_goto (tgt := 71) F.1 F.2.1 dX1_turned_46 (by decide) ?_
    exact b_X1_turned_71 F hret hlk  hr hw (lv_sub hl [3, 0] rfl)
set_option maxHeartbeats 4000000 in
set_option maxRecDepth 100000 in
theorem b_X0_fitting_207 {q_p1 q_p1_chain q_p1_needed q_p1_barred q_p1_neededLater q_p1_could q_p1_row q_p1_first : Nat} {d : Nat} {z : Int32 × Int32 × (Nat → Int32) × (Nat → Int32) × (Nat → Int32)} (F : Fx p m c cX0_fitting 13 s args RX0) (hret : meth.sig.returnType = some .int) (hlk : meth.locks = false) {rc : Int32 → Int32 → Int32 → Int32 → Int64 → (Nat → Int64) → (Nat → Int64) → (Nat → Int64) → (Nat → Int32) → (Nat → Int32) → (Nat → Int32) → Int64 → Int64 → Int32 → Option (Int32 × Int32 × (Nat → Int32) × (Nat → Int32) × (Nat → Int32))} (hrc : ∀ (q_p1 : Nat) (q_p1_chain : Nat) (q_p1_needed : Nat) (q_p1_barred : Nat) (q_p1_neededLater : Nat) (q_p1_could : Nat) (q_p1_row : Nat) (q_p1_first : Nat) (p1_m : Int32) (p1_count : Int32) (p1_isFound : Int32) (p1_chain_places : Int32) (p1_chain_deep : Int32) (p1_chain_turn : Int32) (p1_chain_wheel : Int64) (p1_chain_leaks : Int64) (p1_chain_wants : Int64) (p1_needed : Nat → Int64) (p1_barred : Nat → Int64) (p1_neededLater : Nat → Int64) (p1_could : Nat → Int32) (p1_row : Nat → Int32) (p1_first : Nat → Int32) (a2 : Int64) (a3 : Int64) (a4 : Int32) (z : Int32 × Int32 × (Nat → Int32) × (Nat → Int32) × (Nat → Int32)), rc p1_m p1_isFound p1_chain_places p1_chain_deep p1_chain_wants p1_needed p1_barred p1_neededLater p1_could p1_row p1_first a2 a3 a4 = some z → ∀ (sz : Nat), Met l yX0_fitting (.code yX0_fitting cX0_fitting 13 (some .int) :: WS) (rmH (3 + d) 0 0) (va_Pc [.ref q_p1, .long a2, .long a3, .int a4] (PW dd g mv (w_X0_fitting g q_p1 q_p1_chain q_p1_needed q_p1_barred q_p1_neededLater q_p1_could q_p1_row q_p1_first p1_m p1_count p1_isFound p1_chain_places p1_chain_deep p1_chain_turn p1_chain_wheel p1_chain_leaks p1_chain_wants p1_needed p1_barred p1_neededLater p1_could p1_row p1_first) sz)) (Qo dd g (some (.int z.1)) (fun u : Unit => (w_X0_fitting g q_p1 q_p1_chain q_p1_needed q_p1_barred q_p1_neededLater q_p1_could q_p1_row q_p1_first p1_m p1_count z.2.1 p1_chain_places p1_chain_deep p1_chain_turn p1_chain_wheel p1_chain_leaks p1_chain_wants p1_needed p1_barred p1_neededLater z.2.2.1 z.2.2.2.1 z.2.2.2.2)) (va_A (w_X0_fitting g q_p1 q_p1_chain q_p1_needed q_p1_barred q_p1_neededLater q_p1_could q_p1_row q_p1_first p1_m p1_count p1_isFound p1_chain_places p1_chain_deep p1_chain_turn p1_chain_wheel p1_chain_leaks p1_chain_wants p1_needed p1_barred p1_neededLater p1_could p1_row p1_first) sz)) 0 0 (va_A (w_X0_fitting g q_p1 q_p1_chain q_p1_needed q_p1_barred q_p1_neededLater q_p1_could q_p1_row q_p1_first p1_m p1_count p1_isFound p1_chain_places p1_chain_deep p1_chain_turn p1_chain_wheel p1_chain_leaks p1_chain_wants p1_needed p1_barred p1_neededLater p1_could p1_row p1_first) sz)) {k114 : Int64 → Int64 → Int32 → Int32 → Int32 → Int32 → Int32 → Int32 → Int32 → Int64 → (Nat → Int64) → (Nat → Int64) → (Nat → Int64) → (Nat → Int32) → (Nat → Int32) → (Nat → Int32) → Option (Int32 × Int32 × (Nat → Int32) × (Nat → Int32) × (Nat → Int32))} (hk114 : ∀ {x1 : Int64} {x3 : Int64} {x5 : Int32} {x6 : Int32} {x7 : Int32} {p1_m : Int32} {p1_isFound : Int32} {p1_chain_places : Int32} {p1_chain_deep : Int32} {p1_chain_wants : Int64} {p1_needed : Nat → Int64} {p1_barred : Nat → Int64} {p1_neededLater : Nat → Int64} {p1_could : Nat → Int32} {p1_row : Nat → Int32} {p1_first : Nat → Int32} {p1_count : Int32} {p1_chain_turn : Int32} {p1_chain_wheel : Int64} {p1_chain_leaks : Int64} {H : Heap} {locs : List Loc} {ls : Array Slot}, k114 x1 x3 x5 x6 x7 p1_m p1_isFound p1_chain_places p1_chain_deep p1_chain_wants p1_needed p1_barred p1_neededLater p1_could p1_row p1_first = some z → Wd dd g mv A s H locs (w_X0_fitting g q_p1 q_p1_chain q_p1_needed q_p1_barred q_p1_neededLater q_p1_could q_p1_row q_p1_first p1_m p1_count p1_isFound p1_chain_places p1_chain_deep p1_chain_turn p1_chain_wheel p1_chain_leaks p1_chain_wants p1_needed p1_barred p1_neededLater p1_could p1_row p1_first) → lv_has ls 13 [(0, .ref q_p1), (1, .long x1), (3, .long x3), (5, .int x5), (6, .int x6), (7, .int x7)] → W p l e (rmH (3 + (d + 1)) 0 0) s m args below meth c H locs 0 0 (MQ below (Qo dd g (some (.int z.1)) (fun u : Unit => (w_X0_fitting g q_p1 q_p1_chain q_p1_needed q_p1_barred q_p1_neededLater q_p1_could q_p1_row q_p1_first p1_m p1_count z.2.1 p1_chain_places p1_chain_deep p1_chain_turn p1_chain_wheel p1_chain_leaks p1_chain_wants p1_needed p1_barred p1_neededLater z.2.2.1 z.2.2.2.1 z.2.2.2.2)) A) args s 0 0 A) (F0 m 114 ls [])) : ∀ {x1 : Int64} {x3 : Int64} {x5 : Int32} {x6 : Int32} {x7 : Int32} {x12 : Int32} {p1_m : Int32} {p1_isFound : Int32} {p1_chain_places : Int32} {p1_chain_deep : Int32} {p1_chain_wants : Int64} {p1_needed : Nat → Int64} {p1_barred : Nat → Int64} {p1_neededLater : Nat → Int64} {p1_could : Nat → Int32} {p1_row : Nat → Int32} {p1_first : Nat → Int32} {p1_count : Int32} {p1_chain_turn : Int32} {p1_chain_wheel : Int64} {p1_chain_leaks : Int64} {H : Heap} {locs : List Loc} {ls : Array Slot}, f_X0_fitting_207 rc k114 x1 x3 x5 x6 x7 x12 p1_m p1_isFound p1_chain_places p1_chain_deep p1_chain_wants p1_needed p1_barred p1_neededLater p1_could p1_row p1_first = some z → Wd dd g mv A s H locs (w_X0_fitting g q_p1 q_p1_chain q_p1_needed q_p1_barred q_p1_neededLater q_p1_could q_p1_row q_p1_first p1_m p1_count p1_isFound p1_chain_places p1_chain_deep p1_chain_turn p1_chain_wheel p1_chain_leaks p1_chain_wants p1_needed p1_barred p1_neededLater p1_could p1_row p1_first) → lv_has ls 13 [(0, .ref q_p1), (1, .long x1), (3, .long x3), (5, .int x5), (6, .int x6), (7, .int x7), (12, .int x12)] → W p l e (rmH (3 + (d + 1)) 0 0) s m args below meth c H locs 0 0 (MQ below (Qo dd g (some (.int z.1)) (fun u : Unit => (w_X0_fitting g q_p1 q_p1_chain q_p1_needed q_p1_barred q_p1_neededLater q_p1_could q_p1_row q_p1_first p1_m p1_count z.2.1 p1_chain_places p1_chain_deep p1_chain_turn p1_chain_wheel p1_chain_leaks p1_chain_wants p1_needed p1_barred p1_neededLater z.2.2.1 z.2.2.2.1 z.2.2.2.2)) A) args s 0 0 A) (F0 m 207 ls []) := by
  intro x1 x3 x5 x6 x7 x12 p1_m p1_isFound p1_chain_places p1_chain_deep p1_chain_wants p1_needed p1_barred p1_neededLater p1_could p1_row p1_first p1_count p1_chain_turn p1_chain_wheel p1_chain_leaks H locs ls hr hw hl
  refine lv_iload F.1 F.2.1 dX0_fitting_207 (lv_at hl 4 rfl) ?_
  refine lv_iload F.1 F.2.1 dX0_fitting_209 (lv_at hl 6 rfl) ?_
  refine lv_iadd F.1 F.2.1 dX0_fitting_211 ?_
  refine lv_istore (lv' := [(6, .int (x6 + x12)), (0, .ref q_p1), (1, .long x1), (3, .long x3), (5, .int x5), (7, .int x7), (12, .int x12)]) F.1 F.2.1 dX0_fitting_212 hl (by decide) rfl (fun ls hl => ?_)
  refine lv_iinc (v := (x7 + 1)) (lv' := [(7, .int (x7 + 1)), (6, .int (x6 + x12)), (0, .ref q_p1), (1, .long x1), (3, .long x3), (5, .int x5), (12, .int x12)]) F.1 F.2.1 dX0_fitting_214 hl (k := 5) rfl rfl (by decide) rfl (fun ls hl => ?_)
  refine lv_goto (tgt := 114) F.1 F.2.1 dX0_fitting_217 (by decide) ?_
  exact hk114 hr hw (lv_sub hl [2, 3, 4, 5, 1, 0] rfl)
set_option maxHeartbeats 4000000 in
set_option maxRecDepth 100000 in
theorem b_X0_fitting_114 {q_p1 q_p1_chain q_p1_needed q_p1_barred q_p1_neededLater q_p1_could q_p1_row q_p1_first : Nat} {d : Nat} {z : Int32 × Int32 × (Nat → Int32) × (Nat → Int32) × (Nat → Int32)} (F : Fx p m c cX0_fitting 13 s args RX0) (hret : meth.sig.returnType = some .int) (hlk : meth.locks = false) {rc : Int32 → Int32 → Int32 → Int32 → Int64 → (Nat → Int64) → (Nat → Int64) → (Nat → Int64) → (Nat → Int32) → (Nat → Int32) → (Nat → Int32) → Int64 → Int64 → Int32 → Option (Int32 × Int32 × (Nat → Int32) × (Nat → Int32) × (Nat → Int32))} (hrc : ∀ (q_p1 : Nat) (q_p1_chain : Nat) (q_p1_needed : Nat) (q_p1_barred : Nat) (q_p1_neededLater : Nat) (q_p1_could : Nat) (q_p1_row : Nat) (q_p1_first : Nat) (p1_m : Int32) (p1_count : Int32) (p1_isFound : Int32) (p1_chain_places : Int32) (p1_chain_deep : Int32) (p1_chain_turn : Int32) (p1_chain_wheel : Int64) (p1_chain_leaks : Int64) (p1_chain_wants : Int64) (p1_needed : Nat → Int64) (p1_barred : Nat → Int64) (p1_neededLater : Nat → Int64) (p1_could : Nat → Int32) (p1_row : Nat → Int32) (p1_first : Nat → Int32) (a2 : Int64) (a3 : Int64) (a4 : Int32) (z : Int32 × Int32 × (Nat → Int32) × (Nat → Int32) × (Nat → Int32)), rc p1_m p1_isFound p1_chain_places p1_chain_deep p1_chain_wants p1_needed p1_barred p1_neededLater p1_could p1_row p1_first a2 a3 a4 = some z → ∀ (sz : Nat), Met l yX0_fitting (.code yX0_fitting cX0_fitting 13 (some .int) :: WS) (rmH (3 + d) 0 0) (va_Pc [.ref q_p1, .long a2, .long a3, .int a4] (PW dd g mv (w_X0_fitting g q_p1 q_p1_chain q_p1_needed q_p1_barred q_p1_neededLater q_p1_could q_p1_row q_p1_first p1_m p1_count p1_isFound p1_chain_places p1_chain_deep p1_chain_turn p1_chain_wheel p1_chain_leaks p1_chain_wants p1_needed p1_barred p1_neededLater p1_could p1_row p1_first) sz)) (Qo dd g (some (.int z.1)) (fun u : Unit => (w_X0_fitting g q_p1 q_p1_chain q_p1_needed q_p1_barred q_p1_neededLater q_p1_could q_p1_row q_p1_first p1_m p1_count z.2.1 p1_chain_places p1_chain_deep p1_chain_turn p1_chain_wheel p1_chain_leaks p1_chain_wants p1_needed p1_barred p1_neededLater z.2.2.1 z.2.2.2.1 z.2.2.2.2)) (va_A (w_X0_fitting g q_p1 q_p1_chain q_p1_needed q_p1_barred q_p1_neededLater q_p1_could q_p1_row q_p1_first p1_m p1_count p1_isFound p1_chain_places p1_chain_deep p1_chain_turn p1_chain_wheel p1_chain_leaks p1_chain_wants p1_needed p1_barred p1_neededLater p1_could p1_row p1_first) sz)) 0 0 (va_A (w_X0_fitting g q_p1 q_p1_chain q_p1_needed q_p1_barred q_p1_neededLater q_p1_could q_p1_row q_p1_first p1_m p1_count p1_isFound p1_chain_places p1_chain_deep p1_chain_turn p1_chain_wheel p1_chain_leaks p1_chain_wants p1_needed p1_barred p1_neededLater p1_could p1_row p1_first) sz)) : ∀ (n : Nat), ∀ {x1 : Int64} {x3 : Int64} {x5 : Int32} {x6 : Int32} {x7 : Int32} {p1_m : Int32} {p1_isFound : Int32} {p1_chain_places : Int32} {p1_chain_deep : Int32} {p1_chain_wants : Int64} {p1_needed : Nat → Int64} {p1_barred : Nat → Int64} {p1_neededLater : Nat → Int64} {p1_could : Nat → Int32} {p1_row : Nat → Int32} {p1_first : Nat → Int32} {p1_count : Int32} {p1_chain_turn : Int32} {p1_chain_wheel : Int64} {p1_chain_leaks : Int64} {H : Heap} {locs : List Loc} {ls : Array Slot}, f_X0_fitting_114 rc  n x1 x3 x5 x6 x7 p1_m p1_isFound p1_chain_places p1_chain_deep p1_chain_wants p1_needed p1_barred p1_neededLater p1_could p1_row p1_first = some z → Wd dd g mv A s H locs (w_X0_fitting g q_p1 q_p1_chain q_p1_needed q_p1_barred q_p1_neededLater q_p1_could q_p1_row q_p1_first p1_m p1_count p1_isFound p1_chain_places p1_chain_deep p1_chain_turn p1_chain_wheel p1_chain_leaks p1_chain_wants p1_needed p1_barred p1_neededLater p1_could p1_row p1_first) → lv_has ls 13 [(0, .ref q_p1), (1, .long x1), (3, .long x3), (5, .int x5), (6, .int x6), (7, .int x7)] → W p l e (rmH (3 + (d + 1)) 0 0) s m args below meth c H locs 0 0 (MQ below (Qo dd g (some (.int z.1)) (fun u : Unit => (w_X0_fitting g q_p1 q_p1_chain q_p1_needed q_p1_barred q_p1_neededLater q_p1_could q_p1_row q_p1_first p1_m p1_count z.2.1 p1_chain_places p1_chain_deep p1_chain_turn p1_chain_wheel p1_chain_leaks p1_chain_wants p1_needed p1_barred p1_neededLater z.2.2.1 z.2.2.2.1 z.2.2.2.2)) A) args s 0 0 A) (F0 m 114 ls []) := by
  intro n
  induction n with
  | zero =>
    intros
    rename_i hr _ _
    cases hr
  | succ n ih =>
    intro x1 x3 x5 x6 x7 p1_m p1_isFound p1_chain_places p1_chain_deep p1_chain_wants p1_needed p1_barred p1_neededLater p1_could p1_row p1_first p1_count p1_chain_turn p1_chain_wheel p1_chain_leaks H locs ls hr hw hl
    refine lv_iload F.1 F.2.1 dX0_fitting_114 (lv_at hl 5 rfl) ?_
    refine lv_iconst (v := 3) F.1 F.2.1 dX0_fitting_116 (by decide) ?_
    refine lv_icmp_ge (tgt := 220) F.1 F.2.1 dX0_fitting_117 (by decide) (fun hc1 => ?_) (fun hc1 => ?_)
    · replace hr := (if_pos hc1).symm.trans hr
      refine lv_iload F.1 F.2.1 dX0_fitting_220 (lv_at hl 4 rfl) ?_
      cases hr
      exact ret_i () F hret hlk hw (Nat.le_refl _) (Nat.le_refl _) dX0_fitting_222
    · replace hr := (if_neg hc1).symm.trans hr
      refine lv_aload_n F.1 F.2.1 dX0_fitting_120 rfl (lv_at hl 0 rfl) ?_
      refine gf_X0_21 F hw 0 rfl rfl dX0_fitting_121 ?_
      refine lv_iload F.1 F.2.1 dX0_fitting_124 (lv_at hl 3 rfl) ?_
      refine gs_n F (by decide +kernel) hw dX0_fitting_126 ?_
      refine lv_iload F.1 F.2.1 dX0_fitting_129 (lv_at hl 5 rfl) ?_
      obtain ⟨hg2, hr⟩ := g_no hr
      refine ar_m F hw hg2 dX0_fitting_131 ?_
      obtain ⟨hg3, hr⟩ := g_no hr
      refine aw_i F hw 6 rfl hg3 dX0_fitting_132 (fun H locs hw => ?_)
      replace hw : Wd dd g mv A s H locs (w_X0_fitting g q_p1 q_p1_chain q_p1_needed q_p1_barred q_p1_neededLater q_p1_could q_p1_row q_p1_first p1_m p1_count p1_isFound p1_chain_places p1_chain_deep p1_chain_turn p1_chain_wheel p1_chain_leaks p1_chain_wants p1_needed p1_barred p1_neededLater p1_could ((upd p1_row (x5).toNatClampNeg ((mvI (x7).toNatClampNeg)))) p1_first) := hw
      refine lv_aload_n F.1 F.2.1 dX0_fitting_133 rfl (lv_at hl 0 rfl) ?_
      refine gf_X0_31 F hw 0 rfl rfl dX0_fitting_134 ?_
      refine lv_lload_n F.1 F.2.1 dX0_fitting_137 rfl (lv_at hl 2 rfl) ?_
      refine gs_n F (by decide +kernel) hw dX0_fitting_138 ?_
      refine lv_iload F.1 F.2.1 dX0_fitting_141 (lv_at hl 5 rfl) ?_
      obtain ⟨hg4, hr⟩ := g_no hr
      refine ar_m F hw hg4 dX0_fitting_143 ?_
      obtain ⟨z5, hz5, hr⟩ := Option.bind_eq_some_iff.mp hr
      refine call_o (wr := [(q_p1, .inr (0, [.ref q_p1_needed, .ref q_p1_neededLater, .ref q_p1_barred, .ref q_p1_row, .ref q_p1_first, .ref q_p1_could, .ref q_p1_chain, .int p1_m, .int p1_count, .int p1_isFound])), (q_p1_needed, .inl (g 1, 12, .inr (.inl p1_needed))), (q_p1_barred, .inl (g 1, 12, .inr (.inl p1_barred))), (q_p1_neededLater, .inl (g 1, 12, .inr (.inl p1_neededLater))), (q_p1_could, .inl (g 0, 10, .inl p1_could)), (q_p1_row, .inl (g 0, 10, .inl ((upd p1_row (x5).toNatClampNeg ((mvI (x7).toNatClampNeg)))))), (q_p1_first, .inl (g 0, 10, .inl p1_first))]) (run_V (As := [.long x3, .int (mvI (x7).toNatClampNeg)]) (rest := []) F k_X0_89 (c_X1_turned l dd g mv q_p1_chain p1_chain_places p1_chain_deep p1_chain_turn p1_chain_wheel p1_chain_leaks p1_chain_wants x3 ((mvI (x7).toNatClampNeg)) z5 hz5 _) hw [1] (by decide) rfl (ci := 1) rfl rfl rfl rfl hl.1 rfl (Nat.le_of_ble_eq_true rfl) dX0_fitting_144 (by refine ⟨?_, ?_⟩ <;> simp only [rmH] <;> omega) ⟨Nat.zero_le _, Nat.zero_le _⟩) hw [1] [0, 2, 3, 4, 5, 6, 7] rfl rfl (by decide) (by decide) (fun u6 H locs hw => ?_)
      replace hw : Wd dd g mv A s H locs (w_X0_fitting g q_p1 q_p1_chain q_p1_needed q_p1_barred q_p1_neededLater q_p1_could q_p1_row q_p1_first p1_m p1_count p1_isFound p1_chain_places p1_chain_deep p1_chain_turn p1_chain_wheel p1_chain_leaks p1_chain_wants p1_needed p1_barred p1_neededLater p1_could ((upd p1_row (x5).toNatClampNeg ((mvI (x7).toNatClampNeg)))) p1_first) := hw.sub [0, 7, 1, 2, 3, 4, 5, 6] (by decide) rfl
      refine W.eq (g2 := F0 m 147 ls (.long z5 :: [])) rfl ?_
      refine lv_lstore (lv' := [(8, .long z5), (0, .ref q_p1), (1, .long x1), (3, .long x3), (5, .int x5), (6, .int x6), (7, .int x7)]) F.1 F.2.1 dX0_fitting_147 hl (by decide) rfl (fun ls hl => ?_)
      refine lv_aload_n F.1 F.2.1 dX0_fitting_149 rfl (lv_at hl 1 rfl) ?_
      refine gf_X0_31 F hw 0 rfl rfl dX0_fitting_150 ?_
      refine lv_aload_n F.1 F.2.1 dX0_fitting_153 rfl (lv_at hl 1 rfl) ?_
      refine gf_X0_31 F hw 0 rfl rfl dX0_fitting_154 ?_
      refine lv_lload_n F.1 F.2.1 dX0_fitting_157 rfl (lv_at hl 2 rfl) ?_
      refine gs_n F (by decide +kernel) hw dX0_fitting_158 ?_
      refine lv_iload F.1 F.2.1 dX0_fitting_161 (lv_at hl 6 rfl) ?_
      obtain ⟨hg7, hr⟩ := g_no hr
      refine ar_m F hw hg7 dX0_fitting_163 ?_
      obtain ⟨z8, hz8, hr⟩ := Option.bind_eq_some_iff.mp hr
      refine call_o (wr := [(q_p1, .inr (0, [.ref q_p1_needed, .ref q_p1_neededLater, .ref q_p1_barred, .ref q_p1_row, .ref q_p1_first, .ref q_p1_could, .ref q_p1_chain, .int p1_m, .int p1_count, .int p1_isFound])), (q_p1_needed, .inl (g 1, 12, .inr (.inl p1_needed))), (q_p1_barred, .inl (g 1, 12, .inr (.inl p1_barred))), (q_p1_neededLater, .inl (g 1, 12, .inr (.inl p1_neededLater))), (q_p1_could, .inl (g 0, 10, .inl p1_could)), (q_p1_row, .inl (g 0, 10, .inl ((upd p1_row (x5).toNatClampNeg ((mvI (x7).toNatClampNeg)))))), (q_p1_first, .inl (g 0, 10, .inl p1_first))]) (run_V (As := [.long x1, .int (mvI (x7).toNatClampNeg)]) (rest := [.ref q_p1_chain]) F k_X0_89 (c_X1_turned l dd g mv q_p1_chain p1_chain_places p1_chain_deep p1_chain_turn p1_chain_wheel p1_chain_leaks p1_chain_wants x1 ((mvI (x7).toNatClampNeg)) z8 hz8 _) hw [1] (by decide) rfl (ci := 1) rfl rfl rfl rfl hl.1 rfl (Nat.le_of_ble_eq_true rfl) dX0_fitting_164 (by refine ⟨?_, ?_⟩ <;> simp only [rmH] <;> omega) ⟨Nat.zero_le _, Nat.zero_le _⟩) hw [1] [0, 2, 3, 4, 5, 6, 7] rfl rfl (by decide) (by decide) (fun u9 H locs hw => ?_)
      replace hw : Wd dd g mv A s H locs (w_X0_fitting g q_p1 q_p1_chain q_p1_needed q_p1_barred q_p1_neededLater q_p1_could q_p1_row q_p1_first p1_m p1_count p1_isFound p1_chain_places p1_chain_deep p1_chain_turn p1_chain_wheel p1_chain_leaks p1_chain_wants p1_needed p1_barred p1_neededLater p1_could ((upd p1_row (x5).toNatClampNeg ((mvI (x7).toNatClampNeg)))) p1_first) := hw.sub [0, 7, 1, 2, 3, 4, 5, 6] (by decide) rfl
      refine W.eq (g2 := F0 m 167 ls (.long z8 :: .ref q_p1_chain :: [])) rfl ?_
      refine lv_lload F.1 F.2.1 dX0_fitting_167 (lv_at hl 0 rfl) ?_
      obtain ⟨z10, hz10, hr⟩ := Option.bind_eq_some_iff.mp hr
      refine call_o (wr := [(q_p1, .inr (0, [.ref q_p1_needed, .ref q_p1_neededLater, .ref q_p1_barred, .ref q_p1_row, .ref q_p1_first, .ref q_p1_could, .ref q_p1_chain, .int p1_m, .int p1_count, .int p1_isFound])), (q_p1_needed, .inl (g 1, 12, .inr (.inl p1_needed))), (q_p1_barred, .inl (g 1, 12, .inr (.inl p1_barred))), (q_p1_neededLater, .inl (g 1, 12, .inr (.inl p1_neededLater))), (q_p1_could, .inl (g 0, 10, .inl p1_could)), (q_p1_row, .inl (g 0, 10, .inl ((upd p1_row (x5).toNatClampNeg ((mvI (x7).toNatClampNeg)))))), (q_p1_first, .inl (g 0, 10, .inl p1_first))]) (run_V (As := [.long z8, .long z5]) (rest := []) F k_X0_93 (c_X1_step l dd g mv q_p1_chain p1_chain_places p1_chain_deep p1_chain_turn p1_chain_wheel p1_chain_leaks p1_chain_wants z8 z5 z10 hz10 _) hw [1] (by decide) rfl (ci := 1) rfl rfl rfl rfl hl.1 rfl (Nat.le_of_ble_eq_true rfl) dX0_fitting_169 (by refine ⟨?_, ?_⟩ <;> simp only [rmH] <;> omega) ⟨Nat.zero_le _, Nat.zero_le _⟩) hw [1] [0, 2, 3, 4, 5, 6, 7] rfl rfl (by decide) (by decide) (fun u11 H locs hw => ?_)
      replace hw : Wd dd g mv A s H locs (w_X0_fitting g q_p1 q_p1_chain q_p1_needed q_p1_barred q_p1_neededLater q_p1_could q_p1_row q_p1_first p1_m p1_count p1_isFound p1_chain_places p1_chain_deep p1_chain_turn p1_chain_wheel p1_chain_leaks p1_chain_wants p1_needed p1_barred p1_neededLater p1_could ((upd p1_row (x5).toNatClampNeg ((mvI (x7).toNatClampNeg)))) p1_first) := hw.sub [0, 7, 1, 2, 3, 4, 5, 6] (by decide) rfl
      refine W.eq (g2 := F0 m 172 ls (.long z10 :: [])) rfl ?_
      refine lv_lstore (lv' := [(10, .long z10), (8, .long z5), (0, .ref q_p1), (1, .long x1), (3, .long x3), (5, .int x5), (6, .int x6), (7, .int x7)]) F.1 F.2.1 dX0_fitting_172 hl (by decide) rfl (fun ls hl => ?_)
      refine lv_aload_n F.1 F.2.1 dX0_fitting_174 rfl (lv_at hl 2 rfl) ?_
      refine lv_lload F.1 F.2.1 dX0_fitting_175 (lv_at hl 0 rfl) ?_
      refine lv_lload F.1 F.2.1 dX0_fitting_177 (lv_at hl 1 rfl) ?_
      refine lv_iload F.1 F.2.1 dX0_fitting_179 (lv_at hl 5 rfl) ?_
      refine lv_iconst (v := 1) F.1 F.2.1 dX0_fitting_181 (by decide) ?_
      refine lv_iadd F.1 F.2.1 dX0_fitting_182 ?_
      obtain ⟨z12, hz12, hr⟩ := Option.bind_eq_some_iff.mp hr
      refine call_o (wr := []) (run_S (As := [.ref q_p1, .long z10, .long z5, .int (x5 + (1 : Int32))]) (rest := []) F k_X0_59 (hrc q_p1 q_p1_chain q_p1_needed q_p1_barred q_p1_neededLater q_p1_could q_p1_row q_p1_first p1_m p1_count p1_isFound p1_chain_places p1_chain_deep p1_chain_turn p1_chain_wheel p1_chain_leaks p1_chain_wants p1_needed p1_barred p1_neededLater p1_could ((upd p1_row (x5).toNatClampNeg ((mvI (x7).toNatClampNeg)))) p1_first z10 z5 ((x5 + (1 : Int32))) z12 hz12 _) hw [0, 1, 2, 3, 4, 5, 6, 7] (by decide) rfl rfl hl.1 rfl (Nat.le_of_ble_eq_true rfl) dX0_fitting_183 (by refine ⟨?_, ?_⟩ <;> simp only [rmH] <;> omega) ⟨Nat.zero_le _, Nat.zero_le _⟩) hw [0, 1, 2, 3, 4, 5, 6, 7] [] rfl rfl (by decide) (by decide) (fun u13 H locs hw => ?_)
      replace hw : Wd dd g mv A s H locs (w_X0_fitting g q_p1 q_p1_chain q_p1_needed q_p1_barred q_p1_neededLater q_p1_could q_p1_row q_p1_first p1_m p1_count z12.2.1 p1_chain_places p1_chain_deep p1_chain_turn p1_chain_wheel p1_chain_leaks p1_chain_wants p1_needed p1_barred p1_neededLater z12.2.2.1 z12.2.2.2.1 z12.2.2.2.2) := hw.sub [0, 1, 2, 3, 4, 5, 6, 7] (by decide) rfl
      refine W.eq (g2 := F0 m 186 ls (.int z12.1 :: [])) rfl ?_
      refine lv_istore (lv' := [(12, .int z12.1), (10, .long z10), (8, .long z5), (0, .ref q_p1), (1, .long x1), (3, .long x3), (5, .int x5), (6, .int x6), (7, .int x7)]) F.1 F.2.1 dX0_fitting_186 hl (by decide) rfl (fun ls hl => ?_)
      refine lv_iload F.1 F.2.1 dX0_fitting_188 (lv_at hl 0 rfl) ?_
      refine lv_if_le (tgt := 207) F.1 F.2.1 dX0_fitting_190 (by decide) (fun hc14 => ?_) (fun hc14 => ?_)
      · replace hr := (if_pos hc14).symm.trans hr
        exact b_X0_fitting_207 F hret hlk hrc (ih) hr hw (lv_sub hl [3, 4, 5, 6, 7, 8, 0] rfl)
      · replace hr := (if_neg hc14).symm.trans hr
        refine lv_aload_n F.1 F.2.1 dX0_fitting_193 rfl (lv_at hl 3 rfl) ?_
        refine gf_X0_28 F hw 0 rfl rfl dX0_fitting_194 ?_
        refine lv_iload F.1 F.2.1 dX0_fitting_197 (lv_at hl 6 rfl) ?_
        refine lv_dup2_11 F.1 F.2.1 dX0_fitting_199 rfl rfl ?_
        obtain ⟨hg15, hr⟩ := g_no hr
        refine ar_i F hw 5 rfl hg15 dX0_fitting_200 ?_
        refine lv_iconst (v := 1) F.1 F.2.1 dX0_fitting_201 (by decide) ?_
        refine lv_iload F.1 F.2.1 dX0_fitting_202 (lv_at hl 8 rfl) ?_
        refine lv_ishl F.1 F.2.1 dX0_fitting_204 ?_
        refine lv_ior F.1 F.2.1 dX0_fitting_205 ?_
        obtain ⟨hg16, hr⟩ := g_no hr
        refine aw_i F hw 5 rfl hg16 dX0_fitting_206 (fun H locs hw => ?_)
        replace hw : Wd dd g mv A s H locs (w_X0_fitting g q_p1 q_p1_chain q_p1_needed q_p1_barred q_p1_neededLater q_p1_could q_p1_row q_p1_first p1_m p1_count z12.2.1 p1_chain_places p1_chain_deep p1_chain_turn p1_chain_wheel p1_chain_leaks p1_chain_wants p1_needed p1_barred p1_neededLater ((upd z12.2.2.1 (x5).toNatClampNeg (((z12.2.2.1 (x5).toNatClampNeg) ||| ((1 : Int32) <<< (x7 &&& 31)))))) z12.2.2.2.1 z12.2.2.2.2) := hw
        exact b_X0_fitting_207 F hret hlk hrc (ih) hr hw (lv_sub hl [3, 4, 5, 6, 7, 8, 0] rfl)
set_option maxHeartbeats 4000000 in
set_option maxRecDepth 100000 in
theorem b_X0_fitting_99 {q_p1 q_p1_chain q_p1_needed q_p1_barred q_p1_neededLater q_p1_could q_p1_row q_p1_first : Nat} {d : Nat} {z : Int32 × Int32 × (Nat → Int32) × (Nat → Int32) × (Nat → Int32)} (F : Fx p m c cX0_fitting 13 s args RX0) (hret : meth.sig.returnType = some .int) (hlk : meth.locks = false) {rc : Int32 → Int32 → Int32 → Int32 → Int64 → (Nat → Int64) → (Nat → Int64) → (Nat → Int64) → (Nat → Int32) → (Nat → Int32) → (Nat → Int32) → Int64 → Int64 → Int32 → Option (Int32 × Int32 × (Nat → Int32) × (Nat → Int32) × (Nat → Int32))} (hrc : ∀ (q_p1 : Nat) (q_p1_chain : Nat) (q_p1_needed : Nat) (q_p1_barred : Nat) (q_p1_neededLater : Nat) (q_p1_could : Nat) (q_p1_row : Nat) (q_p1_first : Nat) (p1_m : Int32) (p1_count : Int32) (p1_isFound : Int32) (p1_chain_places : Int32) (p1_chain_deep : Int32) (p1_chain_turn : Int32) (p1_chain_wheel : Int64) (p1_chain_leaks : Int64) (p1_chain_wants : Int64) (p1_needed : Nat → Int64) (p1_barred : Nat → Int64) (p1_neededLater : Nat → Int64) (p1_could : Nat → Int32) (p1_row : Nat → Int32) (p1_first : Nat → Int32) (a2 : Int64) (a3 : Int64) (a4 : Int32) (z : Int32 × Int32 × (Nat → Int32) × (Nat → Int32) × (Nat → Int32)), rc p1_m p1_isFound p1_chain_places p1_chain_deep p1_chain_wants p1_needed p1_barred p1_neededLater p1_could p1_row p1_first a2 a3 a4 = some z → ∀ (sz : Nat), Met l yX0_fitting (.code yX0_fitting cX0_fitting 13 (some .int) :: WS) (rmH (3 + d) 0 0) (va_Pc [.ref q_p1, .long a2, .long a3, .int a4] (PW dd g mv (w_X0_fitting g q_p1 q_p1_chain q_p1_needed q_p1_barred q_p1_neededLater q_p1_could q_p1_row q_p1_first p1_m p1_count p1_isFound p1_chain_places p1_chain_deep p1_chain_turn p1_chain_wheel p1_chain_leaks p1_chain_wants p1_needed p1_barred p1_neededLater p1_could p1_row p1_first) sz)) (Qo dd g (some (.int z.1)) (fun u : Unit => (w_X0_fitting g q_p1 q_p1_chain q_p1_needed q_p1_barred q_p1_neededLater q_p1_could q_p1_row q_p1_first p1_m p1_count z.2.1 p1_chain_places p1_chain_deep p1_chain_turn p1_chain_wheel p1_chain_leaks p1_chain_wants p1_needed p1_barred p1_neededLater z.2.2.1 z.2.2.2.1 z.2.2.2.2)) (va_A (w_X0_fitting g q_p1 q_p1_chain q_p1_needed q_p1_barred q_p1_neededLater q_p1_could q_p1_row q_p1_first p1_m p1_count p1_isFound p1_chain_places p1_chain_deep p1_chain_turn p1_chain_wheel p1_chain_leaks p1_chain_wants p1_needed p1_barred p1_neededLater p1_could p1_row p1_first) sz)) 0 0 (va_A (w_X0_fitting g q_p1 q_p1_chain q_p1_needed q_p1_barred q_p1_neededLater q_p1_could q_p1_row q_p1_first p1_m p1_count p1_isFound p1_chain_places p1_chain_deep p1_chain_turn p1_chain_wheel p1_chain_leaks p1_chain_wants p1_needed p1_barred p1_neededLater p1_could p1_row p1_first) sz)) : ∀ {x1 : Int64} {x3 : Int64} {x5 : Int32} {p1_m : Int32} {p1_isFound : Int32} {p1_chain_places : Int32} {p1_chain_deep : Int32} {p1_chain_wants : Int64} {p1_needed : Nat → Int64} {p1_barred : Nat → Int64} {p1_neededLater : Nat → Int64} {p1_could : Nat → Int32} {p1_row : Nat → Int32} {p1_first : Nat → Int32} {p1_count : Int32} {p1_chain_turn : Int32} {p1_chain_wheel : Int64} {p1_chain_leaks : Int64} {H : Heap} {locs : List Loc} {ls : Array Slot}, f_X0_fitting_99 rc  x1 x3 x5 p1_m p1_isFound p1_chain_places p1_chain_deep p1_chain_wants p1_needed p1_barred p1_neededLater p1_could p1_row p1_first = some z → Wd dd g mv A s H locs (w_X0_fitting g q_p1 q_p1_chain q_p1_needed q_p1_barred q_p1_neededLater q_p1_could q_p1_row q_p1_first p1_m p1_count p1_isFound p1_chain_places p1_chain_deep p1_chain_turn p1_chain_wheel p1_chain_leaks p1_chain_wants p1_needed p1_barred p1_neededLater p1_could p1_row p1_first) → lv_has ls 13 [(0, .ref q_p1), (1, .long x1), (3, .long x3), (5, .int x5)] → W p l e (rmH (3 + (d + 1)) 0 0) s m args below meth c H locs 0 0 (MQ below (Qo dd g (some (.int z.1)) (fun u : Unit => (w_X0_fitting g q_p1 q_p1_chain q_p1_needed q_p1_barred q_p1_neededLater q_p1_could q_p1_row q_p1_first p1_m p1_count z.2.1 p1_chain_places p1_chain_deep p1_chain_turn p1_chain_wheel p1_chain_leaks p1_chain_wants p1_needed p1_barred p1_neededLater z.2.2.1 z.2.2.2.1 z.2.2.2.2)) A) args s 0 0 A) (F0 m 99 ls []) := by
  intro x1 x3 x5 p1_m p1_isFound p1_chain_places p1_chain_deep p1_chain_wants p1_needed p1_barred p1_neededLater p1_could p1_row p1_first p1_count p1_chain_turn p1_chain_wheel p1_chain_leaks H locs ls hr hw hl
  refine lv_iload F.1 F.2.1 dX0_fitting_99 (lv_at hl 3 rfl) ?_
  refine lv_bipush (v := 10) F.1 F.2.1 dX0_fitting_101 (by decide) ?_
  refine lv_icmp_lt (tgt := 108) F.1 F.2.1 dX0_fitting_103 (by decide) (fun hc17 => ?_) (fun hc17 => ?_)
  · replace hr := (if_pos hc17).symm.trans hr
    refine lv_iconst (v := 0) F.1 F.2.1 dX0_fitting_108 (by decide) ?_
    refine lv_istore (lv' := [(6, .int (0 : Int32)), (0, .ref q_p1), (1, .long x1), (3, .long x3), (5, .int x5)]) F.1 F.2.1 dX0_fitting_109 hl (by decide) rfl (fun ls hl => ?_)
    refine lv_iconst (v := 0) F.1 F.2.1 dX0_fitting_111 (by decide) ?_
    refine lv_istore (lv' := [(7, .int (0 : Int32)), (6, .int (0 : Int32)), (0, .ref q_p1), (1, .long x1), (3, .long x3), (5, .int x5)]) F.1 F.2.1 dX0_fitting_112 hl (by decide) rfl (fun ls hl => ?_)
    exact b_X0_fitting_114 F hret hlk hrc  fuel hr hw (lv_sub hl [2, 3, 4, 5, 1, 0] rfl)
  · replace hr := (if_neg hc17).symm.trans hr
    refine lv_iconst (v := 0) F.1 F.2.1 dX0_fitting_106 (by decide) ?_
    cases hr
    exact ret_i () F hret hlk hw (Nat.le_refl _) (Nat.le_refl _) dX0_fitting_107
set_option maxHeartbeats 4000000 in
set_option maxRecDepth 100000 in
theorem c_X0_fitting (l : Launch) (dd : va_G) (g : Nat → ClassId) (mv : Nat) : ∀ (d : Nat) (q_p1 : Nat) (q_p1_chain : Nat) (q_p1_needed : Nat) (q_p1_barred : Nat) (q_p1_neededLater : Nat) (q_p1_could : Nat) (q_p1_row : Nat) (q_p1_first : Nat) (p1_m : Int32) (p1_count : Int32) (p1_isFound : Int32) (p1_chain_places : Int32) (p1_chain_deep : Int32) (p1_chain_turn : Int32) (p1_chain_wheel : Int64) (p1_chain_leaks : Int64) (p1_chain_wants : Int64) (p1_needed : Nat → Int64) (p1_barred : Nat → Int64) (p1_neededLater : Nat → Int64) (p1_could : Nat → Int32) (p1_row : Nat → Int32) (p1_first : Nat → Int32) (a2 : Int64) (a3 : Int64) (a4 : Int32) (z : Int32 × Int32 × (Nat → Int32) × (Nat → Int32) × (Nat → Int32)), f_X0_fitting d p1_m p1_isFound p1_chain_places p1_chain_deep p1_chain_wants p1_needed p1_barred p1_neededLater p1_could p1_row p1_first a2 a3 a4 = some z → ∀ (sz : Nat), Met l yX0_fitting (.code yX0_fitting cX0_fitting 13 (some .int) :: WS) (rmH (3 + d) 0 0) (va_Pc [.ref q_p1, .long a2, .long a3, .int a4] (PW dd g mv (w_X0_fitting g q_p1 q_p1_chain q_p1_needed q_p1_barred q_p1_neededLater q_p1_could q_p1_row q_p1_first p1_m p1_count p1_isFound p1_chain_places p1_chain_deep p1_chain_turn p1_chain_wheel p1_chain_leaks p1_chain_wants p1_needed p1_barred p1_neededLater p1_could p1_row p1_first) sz)) (Qo dd g (some (.int z.1)) (fun u : Unit => (w_X0_fitting g q_p1 q_p1_chain q_p1_needed q_p1_barred q_p1_neededLater q_p1_could q_p1_row q_p1_first p1_m p1_count z.2.1 p1_chain_places p1_chain_deep p1_chain_turn p1_chain_wheel p1_chain_leaks p1_chain_wants p1_needed p1_barred p1_neededLater z.2.2.1 z.2.2.2.1 z.2.2.2.2)) (va_A (w_X0_fitting g q_p1 q_p1_chain q_p1_needed q_p1_barred q_p1_neededLater q_p1_could q_p1_row q_p1_first p1_m p1_count p1_isFound p1_chain_places p1_chain_deep p1_chain_turn p1_chain_wheel p1_chain_leaks p1_chain_wants p1_needed p1_barred p1_neededLater p1_could p1_row p1_first) sz)) 0 0 (va_A (w_X0_fitting g q_p1 q_p1_chain q_p1_needed q_p1_barred q_p1_neededLater q_p1_could q_p1_row q_p1_first p1_m p1_count p1_isFound p1_chain_places p1_chain_deep p1_chain_turn p1_chain_wheel p1_chain_leaks p1_chain_wants p1_needed p1_barred p1_neededLater p1_could p1_row p1_first) sz) := by
  intro d
  induction d with
  | zero =>
    intros
    rename_i hr _
    cases hr
  | succ d hrc =>
    intro q_p1 q_p1_chain q_p1_needed q_p1_barred q_p1_neededLater q_p1_could q_p1_row q_p1_first p1_m p1_count p1_isFound p1_chain_places p1_chain_deep p1_chain_turn p1_chain_wheel p1_chain_leaks p1_chain_wants p1_needed p1_barred p1_neededLater p1_could p1_row p1_first a2 a3 a4 z hr sz
    refine Met_intro (by decide) (Nat.le_of_ble_eq_true rfl) ?_
    intro p e s m below meth c A ls F hret hlk hin hw hl
    replace hl : lv_has ls 13 [(0, .ref q_p1), (1, .long a2), (3, .long a3), (5, .int a4)] := hl
    refine lv_aload_n F.1 F.2.1 dX0_fitting_0 rfl (lv_at hl 0 rfl) ?_
    refine gf_X0_31 F hw 0 rfl rfl dX0_fitting_1 ?_
    refine lv_ifnull F.1 F.2.1 dX0_fitting_4 ?_
    refine lv_iload F.1 F.2.1 dX0_fitting_7 (lv_at hl 3 rfl) ?_
    refine lv_if_lt (tgt := 28) F.1 F.2.1 dX0_fitting_9 (by decide) (fun hc18 => ?_) (fun hc18 => ?_)
    · replace hr := (if_pos hc18).symm.trans hr
      refine lv_iconst (v := 0) F.1 F.2.1 dX0_fitting_28 (by decide) ?_
      cases hr
      exact ret_i () F hret hlk hw (Nat.le_refl _) (Nat.le_refl _) dX0_fitting_29
    · replace hr := (if_neg hc18).symm.trans hr
      refine lv_iload F.1 F.2.1 dX0_fitting_12 (lv_at hl 3 rfl) ?_
      refine lv_aload_n F.1 F.2.1 dX0_fitting_14 rfl (lv_at hl 0 rfl) ?_
      refine gf_X0_35 F hw 0 rfl rfl dX0_fitting_15 ?_
      refine lv_icmp_gt (tgt := 28) F.1 F.2.1 dX0_fitting_18 (by decide) (fun hc19 => ?_) (fun hc19 => ?_)
      · replace hr := (if_pos hc19).symm.trans hr
        refine lv_iconst (v := 0) F.1 F.2.1 dX0_fitting_28 (by decide) ?_
        cases hr
        exact ret_i () F hret hlk hw (Nat.le_refl _) (Nat.le_refl _) dX0_fitting_29
      · replace hr := (if_neg hc19).symm.trans hr
        refine lv_iload F.1 F.2.1 dX0_fitting_21 (lv_at hl 3 rfl) ?_
        refine lv_bipush (v := 10) F.1 F.2.1 dX0_fitting_23 (by decide) ?_
        refine lv_icmp_le (tgt := 30) F.1 F.2.1 dX0_fitting_25 (by decide) (fun hc20 => ?_) (fun hc20 => ?_)
        · replace hr := (if_pos hc20).symm.trans hr
          refine lv_lload_n F.1 F.2.1 dX0_fitting_30 rfl (lv_at hl 1 rfl) ?_
          refine lv_aload_n F.1 F.2.1 dX0_fitting_31 rfl (lv_at hl 0 rfl) ?_
          refine gf_X0_9 F hw 0 rfl rfl dX0_fitting_32 ?_
          refine lv_iload F.1 F.2.1 dX0_fitting_35 (lv_at hl 3 rfl) ?_
          obtain ⟨hg21, hr⟩ := g_no hr
          refine ar_l F hw 2 rfl hg21 dX0_fitting_37 ?_
          refine lv_land F.1 F.2.1 dX0_fitting_38 ?_
          refine lv_lconst (v := 0) F.1 F.2.1 dX0_fitting_39 (by decide) ?_
          refine W.lcmp F.1 F.2.1 dX0_fitting_40 ?_
          refine lv_if_ne (tgt := 62) F.1 F.2.1 dX0_fitting_41 (by decide) (fun hc22 => ?_) (fun hc22 => ?_)
          · replace hr := (if_neg hc22).symm.trans hr
            refine lv_iconst (v := 0) F.1 F.2.1 dX0_fitting_62 (by decide) ?_
            cases hr
            exact ret_i () F hret hlk hw (Nat.le_refl _) (Nat.le_refl _) dX0_fitting_63
          · replace hr := (if_pos hc22).symm.trans hr
            refine lv_lload_n F.1 F.2.1 dX0_fitting_44 rfl (lv_at hl 1 rfl) ?_
            refine lv_ldc2 F.1 F.2.1 F.2.2.2.1 (F.2.2.2.2 _ cl_X0_80) dX0_fitting_45 ?_
            refine lv_lxor F.1 F.2.1 dX0_fitting_48 ?_
            refine lv_aload_n F.1 F.2.1 dX0_fitting_49 rfl (lv_at hl 0 rfl) ?_
            refine gf_X0_18 F hw 0 rfl rfl dX0_fitting_50 ?_
            refine lv_iload F.1 F.2.1 dX0_fitting_53 (lv_at hl 3 rfl) ?_
            obtain ⟨hg23, hr⟩ := g_no hr
            refine ar_l F hw 3 rfl hg23 dX0_fitting_55 ?_
            refine lv_land F.1 F.2.1 dX0_fitting_56 ?_
            refine lv_lconst (v := 0) F.1 F.2.1 dX0_fitting_57 (by decide) ?_
            refine W.lcmp F.1 F.2.1 dX0_fitting_58 ?_
            refine lv_if_eq (tgt := 64) F.1 F.2.1 dX0_fitting_59 (by decide) (fun hc24 => ?_) (fun hc24 => ?_)
            · replace hr := (if_pos hc24).symm.trans hr
              refine lv_lload_n F.1 F.2.1 dX0_fitting_64 rfl (lv_at hl 1 rfl) ?_
              refine lv_aload_n F.1 F.2.1 dX0_fitting_65 rfl (lv_at hl 0 rfl) ?_
              refine gf_X0_15 F hw 0 rfl rfl dX0_fitting_66 ?_
              refine lv_iload F.1 F.2.1 dX0_fitting_69 (lv_at hl 3 rfl) ?_
              obtain ⟨hg25, hr⟩ := g_no hr
              refine ar_l F hw 4 rfl hg25 dX0_fitting_71 ?_
              refine lv_land F.1 F.2.1 dX0_fitting_72 ?_
              refine lv_lconst (v := 0) F.1 F.2.1 dX0_fitting_73 (by decide) ?_
              refine W.lcmp F.1 F.2.1 dX0_fitting_74 ?_
              refine lv_if_ne (tgt := 99) F.1 F.2.1 dX0_fitting_75 (by decide) (fun hc26 => ?_) (fun hc26 => ?_)
              · replace hr := (if_neg hc26).symm.trans hr
                exact b_X0_fitting_99 F hret hlk hrc  hr hw (lv_sub hl [0, 1, 2, 3] rfl)
              · replace hr := (if_pos hc26).symm.trans hr
                refine lv_aload_n F.1 F.2.1 dX0_fitting_78 rfl (lv_at hl 0 rfl) ?_
                refine gf_X0_18 F hw 0 rfl rfl dX0_fitting_79 ?_
                refine lv_iload F.1 F.2.1 dX0_fitting_82 (lv_at hl 3 rfl) ?_
                refine lv_iconst (v := 1) F.1 F.2.1 dX0_fitting_84 (by decide) ?_
                refine lv_iadd F.1 F.2.1 dX0_fitting_85 ?_
                obtain ⟨hg27, hr⟩ := g_no hr
                refine ar_l F hw 3 rfl hg27 dX0_fitting_86 ?_
                refine lv_lconst (v := 0) F.1 F.2.1 dX0_fitting_87 (by decide) ?_
                refine W.lcmp F.1 F.2.1 dX0_fitting_88 ?_
                refine lv_if_ne (tgt := 99) F.1 F.2.1 dX0_fitting_89 (by decide) (fun hc28 => ?_) (fun hc28 => ?_)
                · replace hr := (if_neg hc28).symm.trans hr
                  exact b_X0_fitting_99 F hret hlk hrc  hr hw (lv_sub hl [0, 1, 2, 3] rfl)
                · replace hr := (if_pos hc28).symm.trans hr
                  refine lv_aload_n F.1 F.2.1 dX0_fitting_92 rfl (lv_at hl 0 rfl) ?_
                  refine lv_iload F.1 F.2.1 dX0_fitting_93 (lv_at hl 3 rfl) ?_
                  obtain ⟨z29, hz29, hr⟩ := Option.bind_eq_some_iff.mp hr
                  refine call_o (wr := [(q_p1_chain, .inr (1, [.int p1_chain_places, .int p1_chain_deep, .int p1_chain_turn, .long p1_chain_wheel, .long p1_chain_leaks, .long p1_chain_wants])), (q_p1_needed, .inl (g 1, 12, .inr (.inl p1_needed))), (q_p1_barred, .inl (g 1, 12, .inr (.inl p1_barred))), (q_p1_neededLater, .inl (g 1, 12, .inr (.inl p1_neededLater)))]) (run_V (As := [.int a4]) (rest := []) F k_X0_82 (c_X0_allFrom l dd g mv q_p1 q_p1_could q_p1_row q_p1_first ((.ref q_p1_needed)) ((.ref q_p1_neededLater)) ((.ref q_p1_barred)) ((.ref q_p1_chain)) p1_m p1_count p1_isFound p1_could p1_row p1_first a4 z29 hz29 _) hw [0, 5, 6, 7] (by decide) rfl (ci := 0) rfl rfl rfl rfl hl.1 rfl (Nat.le_of_ble_eq_true rfl) dX0_fitting_95 (by refine ⟨?_, ?_⟩ <;> simp only [rmH] <;> omega) ⟨Nat.zero_le _, Nat.zero_le _⟩) hw [0, 5, 6, 7] [1, 2, 3, 4] rfl rfl (by decide) (by decide) (fun u30 H locs hw => ?_)
                  replace hw : Wd dd g mv A s H locs (w_X0_fitting g q_p1 q_p1_chain q_p1_needed q_p1_barred q_p1_neededLater q_p1_could q_p1_row q_p1_first p1_m p1_count z29.2.1 p1_chain_places p1_chain_deep p1_chain_turn p1_chain_wheel p1_chain_leaks p1_chain_wants p1_needed p1_barred p1_neededLater z29.2.2.1 z29.2.2.2.1 z29.2.2.2.2) := hw.sub [4, 0, 1, 2, 3, 5, 6, 7] (by decide) rfl
                  refine W.eq (g2 := F0 m 98 ls (.int z29.1 :: [])) rfl ?_
                  cases hr
                  exact ret_i () F hret hlk hw (Nat.le_refl _) (Nat.le_refl _) dX0_fitting_98
            · replace hr := (if_neg hc24).symm.trans hr
              refine lv_iconst (v := 0) F.1 F.2.1 dX0_fitting_62 (by decide) ?_
              cases hr
              exact ret_i () F hret hlk hw (Nat.le_refl _) (Nat.le_refl _) dX0_fitting_63
        · replace hr := (if_neg hc20).symm.trans hr
          refine lv_iconst (v := 0) F.1 F.2.1 dX0_fitting_28 (by decide) ?_
          cases hr
          exact ret_i () F hret hlk hw (Nat.le_refl _) (Nat.le_refl _) dX0_fitting_29
set_option maxHeartbeats 4000000 in
set_option maxRecDepth 100000 in
theorem c_X11_flag (l : Launch) (dd : va_G) (g : Nat → ClassId) (mv : Nat) (a1 : Int32) (z : Int64) (hr : f_X11_flag a1 = some z) (sz : Nat) : Met l yX11_flag (.code yX11_flag cX11_flag 1 (some .long) :: WS) (rmH 0 0 0) (va_Pc [.int a1] (PW dd g mv (w_X11_flag g ) sz)) (Qo dd g (some (.long z)) (fun u : Unit => (w_X11_flag g )) (va_A (w_X11_flag g ) sz)) 0 0 (va_A (w_X11_flag g ) sz) := by
  refine Met_intro (by decide) (Nat.le_of_ble_eq_true rfl) ?_
  intro p e s m below meth c A ls F hret hlk hin hw hl
  replace hl : lv_has ls 1 [(0, .int a1)] := hl
  refine lv_ldc2 F.1 F.2.1 F.2.2.2.1 (F.2.2.2.2 _ cl_X11_301) dX11_flag_0 ?_
  refine lv_iconst (v := 5) F.1 F.2.1 dX11_flag_3 (by decide) ?_
  refine lv_iload_n F.1 F.2.1 dX11_flag_4 rfl (lv_at hl 0 rfl) ?_
  refine lv_imul F.1 F.2.1 dX11_flag_5 ?_
  refine lv_lshl F.1 F.2.1 dX11_flag_6 rfl ?_
  cases hr
  exact ret_l () F hret hlk hw (Nat.le_refl _) (Nat.le_refl _) dX11_flag_7
set_option maxHeartbeats 4000000 in
set_option maxRecDepth 100000 in
theorem b_X0_read_124 {q_t q_p1 q_t_needed q_t_neededLater q_t_barred q_p1_behind q_p1_served q_p1_door : Nat} {z : (Nat → Int64) × (Nat → Int64) × (Nat → Int64)} (F : Fx p m c cX0_read 4 s args RX0) (hret : meth.sig.returnType = none) (hlk : meth.locks = false) {k37 : Int32 → Int32 → Int32 → (Nat → Int64) → (Nat → Int64) → (Nat → Int64) → (Nat → Int32) → (Nat → Int32) → (Nat → Int32) → Option ((Nat → Int64) × (Nat → Int64) × (Nat → Int64))} (hk37 : ∀ {x2 : Int32} {t_m : Int32} {p1_count : Int32} {t_needed : Nat → Int64} {t_neededLater : Nat → Int64} {t_barred : Nat → Int64} {p1_behind : Nat → Int32} {p1_served : Nat → Int32} {p1_door : Nat → Int32} {t_count : Int32} {t_isFound : Int32} {o_t_row : Value} {o_t_first : Value} {o_t_could : Value} {o_t_chain : Value} {H : Heap} {locs : List Loc} {ls : Array Slot}, k37 x2 t_m p1_count t_needed t_neededLater t_barred p1_behind p1_served p1_door = some z → Wd dd g mv A s H locs (w_X0_read g q_t q_p1 q_t_needed q_t_neededLater q_t_barred q_p1_behind q_p1_served q_p1_door o_t_row o_t_first o_t_could o_t_chain t_m t_count t_isFound p1_count t_needed t_neededLater t_barred p1_behind p1_served p1_door) → lv_has ls 4 [(0, .ref q_t), (1, .ref q_p1), (2, .int x2)] → W p l e (rmH (1) 0 0) s m args below meth c H locs 0 0 (MQ below (Qo dd g none (fun u : Unit => (w_X0_read g q_t q_p1 q_t_needed q_t_neededLater q_t_barred q_p1_behind q_p1_served q_p1_door o_t_row o_t_first o_t_could o_t_chain t_m t_count t_isFound p1_count z.1 z.2.1 z.2.2 p1_behind p1_served p1_door)) A) args s 0 0 A) (F0 m 37 ls [])) : ∀ {x2 : Int32} {t_m : Int32} {p1_count : Int32} {t_needed : Nat → Int64} {t_neededLater : Nat → Int64} {t_barred : Nat → Int64} {p1_behind : Nat → Int32} {p1_served : Nat → Int32} {p1_door : Nat → Int32} {t_count : Int32} {t_isFound : Int32} {o_t_row : Value} {o_t_first : Value} {o_t_could : Value} {o_t_chain : Value} {H : Heap} {locs : List Loc} {ls : Array Slot}, f_X0_read_124 k37 x2 t_m p1_count t_needed t_neededLater t_barred p1_behind p1_served p1_door = some z → Wd dd g mv A s H locs (w_X0_read g q_t q_p1 q_t_needed q_t_neededLater q_t_barred q_p1_behind q_p1_served q_p1_door o_t_row o_t_first o_t_could o_t_chain t_m t_count t_isFound p1_count t_needed t_neededLater t_barred p1_behind p1_served p1_door) → lv_has ls 4 [(0, .ref q_t), (1, .ref q_p1), (2, .int x2)] → W p l e (rmH (1) 0 0) s m args below meth c H locs 0 0 (MQ below (Qo dd g none (fun u : Unit => (w_X0_read g q_t q_p1 q_t_needed q_t_neededLater q_t_barred q_p1_behind q_p1_served q_p1_door o_t_row o_t_first o_t_could o_t_chain t_m t_count t_isFound p1_count z.1 z.2.1 z.2.2 p1_behind p1_served p1_door)) A) args s 0 0 A) (F0 m 124 ls []) := by
  intro x2 t_m p1_count t_needed t_neededLater t_barred p1_behind p1_served p1_door t_count t_isFound o_t_row o_t_first o_t_could o_t_chain H locs ls hr hw hl
  refine lv_iinc (v := (x2 + 1)) (lv' := [(2, .int (x2 + 1)), (0, .ref q_t), (1, .ref q_p1)]) F.1 F.2.1 dX0_read_124 hl (k := 2) rfl rfl (by decide) rfl (fun ls hl => ?_)
  refine lv_goto (tgt := 37) F.1 F.2.1 dX0_read_127 (by decide) ?_
  exact hk37 hr hw (lv_sub hl [1, 2, 0] rfl)
set_option maxHeartbeats 4000000 in
set_option maxRecDepth 100000 in
theorem b_X0_read_133 {q_t q_p1 q_t_needed q_t_neededLater q_t_barred q_p1_behind q_p1_served q_p1_door : Nat} {z : (Nat → Int64) × (Nat → Int64) × (Nat → Int64)} (F : Fx p m c cX0_read 4 s args RX0) (hret : meth.sig.returnType = none) (hlk : meth.locks = false) : ∀ (n : Nat), ∀ {x2 : Int32} {t_needed : Nat → Int64} {t_neededLater : Nat → Int64} {t_barred : Nat → Int64} {t_m : Int32} {t_count : Int32} {t_isFound : Int32} {p1_count : Int32} {p1_behind : Nat → Int32} {p1_served : Nat → Int32} {p1_door : Nat → Int32} {o_t_row : Value} {o_t_first : Value} {o_t_could : Value} {o_t_chain : Value} {H : Heap} {locs : List Loc} {ls : Array Slot}, f_X0_read_133  n x2 t_needed t_neededLater t_barred = some z → Wd dd g mv A s H locs (w_X0_read g q_t q_p1 q_t_needed q_t_neededLater q_t_barred q_p1_behind q_p1_served q_p1_door o_t_row o_t_first o_t_could o_t_chain t_m t_count t_isFound p1_count t_needed t_neededLater t_barred p1_behind p1_served p1_door) → lv_has ls 4 [(0, .ref q_t), (2, .int x2)] → W p l e (rmH (1) 0 0) s m args below meth c H locs 0 0 (MQ below (Qo dd g none (fun u : Unit => (w_X0_read g q_t q_p1 q_t_needed q_t_neededLater q_t_barred q_p1_behind q_p1_served q_p1_door o_t_row o_t_first o_t_could o_t_chain t_m t_count t_isFound p1_count z.1 z.2.1 z.2.2 p1_behind p1_served p1_door)) A) args s 0 0 A) (F0 m 133 ls []) := by
  intro n
  induction n with
  | zero =>
    intros
    rename_i hr _ _
    cases hr
  | succ n ih =>
    intro x2 t_needed t_neededLater t_barred t_m t_count t_isFound p1_count p1_behind p1_served p1_door o_t_row o_t_first o_t_could o_t_chain H locs ls hr hw hl
    refine lv_iload_n F.1 F.2.1 dX0_read_133 rfl (lv_at hl 1 rfl) ?_
    refine lv_if_lt (tgt := 183) F.1 F.2.1 dX0_read_134 (by decide) (fun hc1 => ?_) (fun hc1 => ?_)
    · replace hr := (if_pos hc1).symm.trans hr
      cases hr
      exact ret_v () F hret hlk hw (Nat.le_refl _) (Nat.le_refl _) dX0_read_183
    · replace hr := (if_neg hc1).symm.trans hr
      refine lv_aload_n F.1 F.2.1 dX0_read_137 rfl (lv_at hl 0 rfl) ?_
      refine gf_X0_15 F hw 0 rfl rfl dX0_read_138 ?_
      refine lv_iload_n F.1 F.2.1 dX0_read_141 rfl (lv_at hl 1 rfl) ?_
      refine lv_aload_n F.1 F.2.1 dX0_read_142 rfl (lv_at hl 0 rfl) ?_
      refine gf_X0_15 F hw 0 rfl rfl dX0_read_143 ?_
      refine lv_iload_n F.1 F.2.1 dX0_read_146 rfl (lv_at hl 1 rfl) ?_
      refine lv_iconst (v := 1) F.1 F.2.1 dX0_read_147 (by decide) ?_
      refine lv_iadd F.1 F.2.1 dX0_read_148 ?_
      obtain ⟨hg2, hr⟩ := g_no hr
      refine ar_l F hw 3 rfl hg2 dX0_read_149 ?_
      refine lv_aload_n F.1 F.2.1 dX0_read_150 rfl (lv_at hl 0 rfl) ?_
      refine gf_X0_9 F hw 0 rfl rfl dX0_read_151 ?_
      refine lv_iload_n F.1 F.2.1 dX0_read_154 rfl (lv_at hl 1 rfl) ?_
      refine lv_iconst (v := 1) F.1 F.2.1 dX0_read_155 (by decide) ?_
      refine lv_iadd F.1 F.2.1 dX0_read_156 ?_
      obtain ⟨hg3, hr⟩ := g_no hr
      refine ar_l F hw 2 rfl hg3 dX0_read_157 ?_
      refine lv_lor F.1 F.2.1 dX0_read_158 ?_
      obtain ⟨hg4, hr⟩ := g_no hr
      refine aw_l F hw 3 rfl hg4 dX0_read_159 (fun H locs hw => ?_)
      replace hw : Wd dd g mv A s H locs (w_X0_read g q_t q_p1 q_t_needed q_t_neededLater q_t_barred q_p1_behind q_p1_served q_p1_door o_t_row o_t_first o_t_could o_t_chain t_m t_count t_isFound p1_count t_needed ((vp_updL t_neededLater (x2).toNatClampNeg (((t_neededLater ((x2 + (1 : Int32))).toNatClampNeg) ||| (t_needed ((x2 + (1 : Int32))).toNatClampNeg))))) t_barred p1_behind p1_served p1_door) := hw
      refine lv_aload_n F.1 F.2.1 dX0_read_160 rfl (lv_at hl 0 rfl) ?_
      refine gf_X0_18 F hw 0 rfl rfl dX0_read_161 ?_
      refine lv_iload_n F.1 F.2.1 dX0_read_164 rfl (lv_at hl 1 rfl) ?_
      refine lv_dup2_11 F.1 F.2.1 dX0_read_165 rfl rfl ?_
      obtain ⟨hg5, hr⟩ := g_no hr
      refine ar_l F hw 4 rfl hg5 dX0_read_166 ?_
      refine lv_aload_n F.1 F.2.1 dX0_read_167 rfl (lv_at hl 0 rfl) ?_
      refine gf_X0_18 F hw 0 rfl rfl dX0_read_168 ?_
      refine lv_iload_n F.1 F.2.1 dX0_read_171 rfl (lv_at hl 1 rfl) ?_
      refine lv_iconst (v := 1) F.1 F.2.1 dX0_read_172 (by decide) ?_
      refine lv_iadd F.1 F.2.1 dX0_read_173 ?_
      obtain ⟨hg6, hr⟩ := g_no hr
      refine ar_l F hw 4 rfl hg6 dX0_read_174 ?_
      refine lv_lor F.1 F.2.1 dX0_read_175 ?_
      obtain ⟨hg7, hr⟩ := g_no hr
      refine aw_l F hw 4 rfl hg7 dX0_read_176 (fun H locs hw => ?_)
      replace hw : Wd dd g mv A s H locs (w_X0_read g q_t q_p1 q_t_needed q_t_neededLater q_t_barred q_p1_behind q_p1_served q_p1_door o_t_row o_t_first o_t_could o_t_chain t_m t_count t_isFound p1_count t_needed ((vp_updL t_neededLater (x2).toNatClampNeg (((t_neededLater ((x2 + (1 : Int32))).toNatClampNeg) ||| (t_needed ((x2 + (1 : Int32))).toNatClampNeg))))) ((vp_updL t_barred (x2).toNatClampNeg (((t_barred (x2).toNatClampNeg) ||| (t_barred ((x2 + (1 : Int32))).toNatClampNeg))))) p1_behind p1_served p1_door) := hw
      refine lv_iinc (v := (x2 + (-1))) (lv' := [(2, .int (x2 + (-1))), (0, .ref q_t)]) F.1 F.2.1 dX0_read_177 hl (k := 1) rfl rfl (by decide) rfl (fun ls hl => ?_)
      refine lv_goto (tgt := 133) F.1 F.2.1 dX0_read_180 (by decide) ?_
      exact ih hr hw (lv_sub hl [1, 0] rfl)
set_option maxHeartbeats 4000000 in
set_option maxRecDepth 100000 in
theorem b_X0_read_130 {q_t q_p1 q_t_needed q_t_neededLater q_t_barred q_p1_behind q_p1_served q_p1_door : Nat} {z : (Nat → Int64) × (Nat → Int64) × (Nat → Int64)} (F : Fx p m c cX0_read 4 s args RX0) (hret : meth.sig.returnType = none) (hlk : meth.locks = false) : ∀ {t_needed : Nat → Int64} {t_neededLater : Nat → Int64} {t_barred : Nat → Int64} {t_m : Int32} {t_count : Int32} {t_isFound : Int32} {p1_count : Int32} {p1_behind : Nat → Int32} {p1_served : Nat → Int32} {p1_door : Nat → Int32} {o_t_row : Value} {o_t_first : Value} {o_t_could : Value} {o_t_chain : Value} {H : Heap} {locs : List Loc} {ls : Array Slot}, f_X0_read_130  t_needed t_neededLater t_barred = some z → Wd dd g mv A s H locs (w_X0_read g q_t q_p1 q_t_needed q_t_neededLater q_t_barred q_p1_behind q_p1_served q_p1_door o_t_row o_t_first o_t_could o_t_chain t_m t_count t_isFound p1_count t_needed t_neededLater t_barred p1_behind p1_served p1_door) → lv_has ls 4 [(0, .ref q_t)] → W p l e (rmH (1) 0 0) s m args below meth c H locs 0 0 (MQ below (Qo dd g none (fun u : Unit => (w_X0_read g q_t q_p1 q_t_needed q_t_neededLater q_t_barred q_p1_behind q_p1_served q_p1_door o_t_row o_t_first o_t_could o_t_chain t_m t_count t_isFound p1_count z.1 z.2.1 z.2.2 p1_behind p1_served p1_door)) A) args s 0 0 A) (F0 m 130 ls []) := by
  intro t_needed t_neededLater t_barred t_m t_count t_isFound p1_count p1_behind p1_served p1_door o_t_row o_t_first o_t_could o_t_chain H locs ls hr hw hl
  refine lv_bipush (v := 10) F.1 F.2.1 dX0_read_130 (by decide) ?_
  refine lv_istore_n (lv' := [(2, .int (10 : Int32)), (0, .ref q_t)]) F.1 F.2.1 dX0_read_132 rfl hl (by decide) rfl (fun ls hl => ?_)
  exact b_X0_read_133 F hret hlk  fuel hr hw (lv_sub hl [1, 0] rfl)
set_option maxHeartbeats 4000000 in
set_option maxRecDepth 100000 in
theorem b_X0_read_37 {q_t q_p1 q_t_needed q_t_neededLater q_t_barred q_p1_behind q_p1_served q_p1_door : Nat} {z : (Nat → Int64) × (Nat → Int64) × (Nat → Int64)} (F : Fx p m c cX0_read 4 s args RX0) (hret : meth.sig.returnType = none) (hlk : meth.locks = false) : ∀ (n : Nat), ∀ {x2 : Int32} {t_m : Int32} {p1_count : Int32} {t_needed : Nat → Int64} {t_neededLater : Nat → Int64} {t_barred : Nat → Int64} {p1_behind : Nat → Int32} {p1_served : Nat → Int32} {p1_door : Nat → Int32} {t_count : Int32} {t_isFound : Int32} {o_t_row : Value} {o_t_first : Value} {o_t_could : Value} {o_t_chain : Value} {H : Heap} {locs : List Loc} {ls : Array Slot}, f_X0_read_37  n x2 t_m p1_count t_needed t_neededLater t_barred p1_behind p1_served p1_door = some z → Wd dd g mv A s H locs (w_X0_read g q_t q_p1 q_t_needed q_t_neededLater q_t_barred q_p1_behind q_p1_served q_p1_door o_t_row o_t_first o_t_could o_t_chain t_m t_count t_isFound p1_count t_needed t_neededLater t_barred p1_behind p1_served p1_door) → lv_has ls 4 [(0, .ref q_t), (1, .ref q_p1), (2, .int x2)] → W p l e (rmH (1) 0 0) s m args below meth c H locs 0 0 (MQ below (Qo dd g none (fun u : Unit => (w_X0_read g q_t q_p1 q_t_needed q_t_neededLater q_t_barred q_p1_behind q_p1_served q_p1_door o_t_row o_t_first o_t_could o_t_chain t_m t_count t_isFound p1_count z.1 z.2.1 z.2.2 p1_behind p1_served p1_door)) A) args s 0 0 A) (F0 m 37 ls []) := by
  intro n
  induction n with
  | zero =>
    intros
    rename_i hr _ _
    cases hr
  | succ n ih =>
    intro x2 t_m p1_count t_needed t_neededLater t_barred p1_behind p1_served p1_door t_count t_isFound o_t_row o_t_first o_t_could o_t_chain H locs ls hr hw hl
    refine lv_iload_n F.1 F.2.1 dX0_read_37 rfl (lv_at hl 2 rfl) ?_
    refine lv_aload_n F.1 F.2.1 dX0_read_38 rfl (lv_at hl 1 rfl) ?_
    refine gf_X0_63 F hw 1 rfl rfl dX0_read_39 ?_
    refine lv_icmp_ge (tgt := 130) F.1 F.2.1 dX0_read_42 (by decide) (fun hc8 => ?_) (fun hc8 => ?_)
    · replace hr := (if_pos hc8).symm.trans hr
      exact b_X0_read_130 F hret hlk  hr hw (lv_sub hl [0] rfl)
    · replace hr := (if_neg hc8).symm.trans hr
      refine lv_iload_n F.1 F.2.1 dX0_read_45 rfl (lv_at hl 2 rfl) ?_
      refine lv_bipush (v := 6) F.1 F.2.1 dX0_read_46 (by decide) ?_
      refine lv_icmp_ge (tgt := 130) F.1 F.2.1 dX0_read_48 (by decide) (fun hc9 => ?_) (fun hc9 => ?_)
      · replace hr := (if_pos hc9).symm.trans hr
        exact b_X0_read_130 F hret hlk  hr hw (lv_sub hl [0] rfl)
      · replace hr := (if_neg hc9).symm.trans hr
        refine lv_aload_n F.1 F.2.1 dX0_read_51 rfl (lv_at hl 1 rfl) ?_
        refine gf_X0_66 F hw 1 rfl rfl dX0_read_52 ?_
        refine lv_iload_n F.1 F.2.1 dX0_read_55 rfl (lv_at hl 2 rfl) ?_
        obtain ⟨hg10, hr⟩ := g_no hr
        refine ar_i F hw 5 rfl hg10 dX0_read_56 ?_
        refine lv_istore_n (lv' := [(3, .int (p1_behind (x2).toNatClampNeg)), (0, .ref q_t), (1, .ref q_p1), (2, .int x2)]) F.1 F.2.1 dX0_read_57 rfl hl (by decide) rfl (fun ls hl => ?_)
        refine lv_iload_n F.1 F.2.1 dX0_read_58 rfl (lv_at hl 0 rfl) ?_
        refine lv_if_lt (tgt := 124) F.1 F.2.1 dX0_read_59 (by decide) (fun hc11 => ?_) (fun hc11 => ?_)
        · replace hr := (if_pos hc11).symm.trans hr
          exact b_X0_read_124 F hret hlk (ih) hr hw (lv_sub hl [1, 2, 3] rfl)
        · replace hr := (if_neg hc11).symm.trans hr
          refine lv_iload_n F.1 F.2.1 dX0_read_62 rfl (lv_at hl 0 rfl) ?_
          refine lv_aload_n F.1 F.2.1 dX0_read_63 rfl (lv_at hl 1 rfl) ?_
          refine gf_X0_35 F hw 0 rfl rfl dX0_read_64 ?_
          refine lv_icmp_gt (tgt := 124) F.1 F.2.1 dX0_read_67 (by decide) (fun hc12 => ?_) (fun hc12 => ?_)
          · replace hr := (if_pos hc12).symm.trans hr
            exact b_X0_read_124 F hret hlk (ih) hr hw (lv_sub hl [1, 2, 3] rfl)
          · replace hr := (if_neg hc12).symm.trans hr
            refine lv_iload_n F.1 F.2.1 dX0_read_70 rfl (lv_at hl 0 rfl) ?_
            refine lv_bipush (v := 10) F.1 F.2.1 dX0_read_71 (by decide) ?_
            refine lv_icmp_gt (tgt := 124) F.1 F.2.1 dX0_read_73 (by decide) (fun hc13 => ?_) (fun hc13 => ?_)
            · replace hr := (if_pos hc13).symm.trans hr
              exact b_X0_read_124 F hret hlk (ih) hr hw (lv_sub hl [1, 2, 3] rfl)
            · replace hr := (if_neg hc13).symm.trans hr
              refine lv_aload_n F.1 F.2.1 dX0_read_76 rfl (lv_at hl 2 rfl) ?_
              refine gf_X0_69 F hw 1 rfl rfl dX0_read_77 ?_
              refine lv_iload_n F.1 F.2.1 dX0_read_80 rfl (lv_at hl 3 rfl) ?_
              obtain ⟨hg14, hr⟩ := g_no hr
              refine ar_z F hw 6 rfl hg14 dX0_read_81 ?_
              refine lv_if_eq (tgt := 106) F.1 F.2.1 dX0_read_82 (by decide) (fun hc15 => ?_) (fun hc15 => ?_)
              · replace hr := (if_pos hc15).symm.trans hr
                refine lv_aload_n F.1 F.2.1 dX0_read_106 rfl (lv_at hl 1 rfl) ?_
                refine gf_X0_18 F hw 0 rfl rfl dX0_read_107 ?_
                refine lv_iload_n F.1 F.2.1 dX0_read_110 rfl (lv_at hl 0 rfl) ?_
                refine lv_dup2_11 F.1 F.2.1 dX0_read_111 rfl rfl ?_
                obtain ⟨hg16, hr⟩ := g_no hr
                refine ar_l F hw 4 rfl hg16 dX0_read_112 ?_
                refine lv_aload_n F.1 F.2.1 dX0_read_113 rfl (lv_at hl 2 rfl) ?_
                refine gf_X0_73 F hw 1 rfl rfl dX0_read_114 ?_
                refine lv_iload_n F.1 F.2.1 dX0_read_117 rfl (lv_at hl 3 rfl) ?_
                obtain ⟨hg17, hr⟩ := g_no hr
                refine ar_i F hw 7 rfl hg17 dX0_read_118 ?_
                obtain ⟨z18, hz18, hr⟩ := Option.bind_eq_some_iff.mp hr
                refine call_o (wr := [(q_t, .inr (0, [.ref q_t_needed, .ref q_t_neededLater, .ref q_t_barred, o_t_row, o_t_first, o_t_could, o_t_chain, .int t_m, .int t_count, .int t_isFound])), (q_p1, .inr (8, [.ref q_p1_behind, .ref q_p1_door, .ref q_p1_served, .int p1_count])), (q_t_needed, .inl (g 1, 12, .inr (.inl t_needed))), (q_t_neededLater, .inl (g 1, 12, .inr (.inl t_neededLater))), (q_t_barred, .inl (g 1, 12, .inr (.inl t_barred))), (q_p1_behind, .inl (g 0, 6, .inl p1_behind)), (q_p1_served, .inl (g 2, 6, .inl p1_served)), (q_p1_door, .inl (g 0, 6, .inl p1_door))]) (run_N (As := [.int (p1_door (x2).toNatClampNeg)]) (rest := [.long (t_barred ((p1_behind (x2).toNatClampNeg)).toNatClampNeg), .int (p1_behind (x2).toNatClampNeg), .ref q_t_barred]) F k_X0_76 (c_X11_flag l dd g mv ((p1_door (x2).toNatClampNeg)) z18 hz18 _) hw [] (by decide) rfl rfl hl.1 rfl (Nat.le_of_ble_eq_true rfl) dX0_read_119 ⟨Nat.le_of_ble_eq_true rfl, Nat.le_of_ble_eq_true rfl⟩ ⟨Nat.le_of_ble_eq_true rfl, Nat.le_of_ble_eq_true rfl⟩) hw [] [0, 1, 2, 3, 4, 5, 6, 7] rfl rfl (by decide) (by decide) (fun u19 H locs hw => ?_)
                replace hw : Wd dd g mv A s H locs (w_X0_read g q_t q_p1 q_t_needed q_t_neededLater q_t_barred q_p1_behind q_p1_served q_p1_door o_t_row o_t_first o_t_could o_t_chain t_m t_count t_isFound p1_count t_needed t_neededLater t_barred p1_behind p1_served p1_door) := hw.sub [0, 1, 2, 3, 4, 5, 6, 7] (by decide) rfl
                refine W.eq (g2 := F0 m 122 ls (.long z18 :: .long (t_barred ((p1_behind (x2).toNatClampNeg)).toNatClampNeg) :: .int (p1_behind (x2).toNatClampNeg) :: .ref q_t_barred :: [])) rfl ?_
                refine lv_lor F.1 F.2.1 dX0_read_122 ?_
                obtain ⟨hg20, hr⟩ := g_no hr
                refine aw_l F hw 4 rfl hg20 dX0_read_123 (fun H locs hw => ?_)
                replace hw : Wd dd g mv A s H locs (w_X0_read g q_t q_p1 q_t_needed q_t_neededLater q_t_barred q_p1_behind q_p1_served q_p1_door o_t_row o_t_first o_t_could o_t_chain t_m t_count t_isFound p1_count t_needed t_neededLater ((vp_updL t_barred ((p1_behind (x2).toNatClampNeg)).toNatClampNeg (((t_barred ((p1_behind (x2).toNatClampNeg)).toNatClampNeg) ||| z18)))) p1_behind p1_served p1_door) := hw
                exact b_X0_read_124 F hret hlk (ih) hr hw (lv_sub hl [1, 2, 3] rfl)
              · replace hr := (if_neg hc15).symm.trans hr
                refine lv_aload_n F.1 F.2.1 dX0_read_85 rfl (lv_at hl 1 rfl) ?_
                refine gf_X0_9 F hw 0 rfl rfl dX0_read_86 ?_
                refine lv_iload_n F.1 F.2.1 dX0_read_89 rfl (lv_at hl 0 rfl) ?_
                refine lv_dup2_11 F.1 F.2.1 dX0_read_90 rfl rfl ?_
                obtain ⟨hg21, hr⟩ := g_no hr
                refine ar_l F hw 2 rfl hg21 dX0_read_91 ?_
                refine lv_aload_n F.1 F.2.1 dX0_read_92 rfl (lv_at hl 2 rfl) ?_
                refine gf_X0_73 F hw 1 rfl rfl dX0_read_93 ?_
                refine lv_iload_n F.1 F.2.1 dX0_read_96 rfl (lv_at hl 3 rfl) ?_
                obtain ⟨hg22, hr⟩ := g_no hr
                refine ar_i F hw 7 rfl hg22 dX0_read_97 ?_
                obtain ⟨z23, hz23, hr⟩ := Option.bind_eq_some_iff.mp hr
                refine call_o (wr := [(q_t, .inr (0, [.ref q_t_needed, .ref q_t_neededLater, .ref q_t_barred, o_t_row, o_t_first, o_t_could, o_t_chain, .int t_m, .int t_count, .int t_isFound])), (q_p1, .inr (8, [.ref q_p1_behind, .ref q_p1_door, .ref q_p1_served, .int p1_count])), (q_t_needed, .inl (g 1, 12, .inr (.inl t_needed))), (q_t_neededLater, .inl (g 1, 12, .inr (.inl t_neededLater))), (q_t_barred, .inl (g 1, 12, .inr (.inl t_barred))), (q_p1_behind, .inl (g 0, 6, .inl p1_behind)), (q_p1_served, .inl (g 2, 6, .inl p1_served)), (q_p1_door, .inl (g 0, 6, .inl p1_door))]) (run_N (As := [.int (p1_door (x2).toNatClampNeg)]) (rest := [.long (t_needed ((p1_behind (x2).toNatClampNeg)).toNatClampNeg), .int (p1_behind (x2).toNatClampNeg), .ref q_t_needed]) F k_X0_76 (c_X11_flag l dd g mv ((p1_door (x2).toNatClampNeg)) z23 hz23 _) hw [] (by decide) rfl rfl hl.1 rfl (Nat.le_of_ble_eq_true rfl) dX0_read_98 ⟨Nat.le_of_ble_eq_true rfl, Nat.le_of_ble_eq_true rfl⟩ ⟨Nat.le_of_ble_eq_true rfl, Nat.le_of_ble_eq_true rfl⟩) hw [] [0, 1, 2, 3, 4, 5, 6, 7] rfl rfl (by decide) (by decide) (fun u24 H locs hw => ?_)
                replace hw : Wd dd g mv A s H locs (w_X0_read g q_t q_p1 q_t_needed q_t_neededLater q_t_barred q_p1_behind q_p1_served q_p1_door o_t_row o_t_first o_t_could o_t_chain t_m t_count t_isFound p1_count t_needed t_neededLater t_barred p1_behind p1_served p1_door) := hw.sub [0, 1, 2, 3, 4, 5, 6, 7] (by decide) rfl
                refine W.eq (g2 := F0 m 101 ls (.long z23 :: .long (t_needed ((p1_behind (x2).toNatClampNeg)).toNatClampNeg) :: .int (p1_behind (x2).toNatClampNeg) :: .ref q_t_needed :: [])) rfl ?_
                refine lv_lor F.1 F.2.1 dX0_read_101 ?_
                obtain ⟨hg25, hr⟩ := g_no hr
                refine aw_l F hw 2 rfl hg25 dX0_read_102 (fun H locs hw => ?_)
                replace hw : Wd dd g mv A s H locs (w_X0_read g q_t q_p1 q_t_needed q_t_neededLater q_t_barred q_p1_behind q_p1_served q_p1_door o_t_row o_t_first o_t_could o_t_chain t_m t_count t_isFound p1_count ((vp_updL t_needed ((p1_behind (x2).toNatClampNeg)).toNatClampNeg (((t_needed ((p1_behind (x2).toNatClampNeg)).toNatClampNeg) ||| z23)))) t_neededLater t_barred p1_behind p1_served p1_door) := hw
                refine lv_goto (tgt := 124) F.1 F.2.1 dX0_read_103 (by decide) ?_
                exact b_X0_read_124 F hret hlk (ih) hr hw (lv_sub hl [1, 2, 3] rfl)
set_option maxHeartbeats 4000000 in
set_option maxRecDepth 100000 in
theorem b_X0_read_2 {q_t q_p1 q_t_needed q_t_neededLater q_t_barred q_p1_behind q_p1_served q_p1_door : Nat} {z : (Nat → Int64) × (Nat → Int64) × (Nat → Int64)} (F : Fx p m c cX0_read 4 s args RX0) (hret : meth.sig.returnType = none) (hlk : meth.locks = false) : ∀ (n : Nat), ∀ {x2 : Int32} {t_m : Int32} {p1_count : Int32} {t_needed : Nat → Int64} {t_neededLater : Nat → Int64} {t_barred : Nat → Int64} {p1_behind : Nat → Int32} {p1_served : Nat → Int32} {p1_door : Nat → Int32} {t_count : Int32} {t_isFound : Int32} {o_t_row : Value} {o_t_first : Value} {o_t_could : Value} {o_t_chain : Value} {H : Heap} {locs : List Loc} {ls : Array Slot}, f_X0_read_2  n x2 t_m p1_count t_needed t_neededLater t_barred p1_behind p1_served p1_door = some z → Wd dd g mv A s H locs (w_X0_read g q_t q_p1 q_t_needed q_t_neededLater q_t_barred q_p1_behind q_p1_served q_p1_door o_t_row o_t_first o_t_could o_t_chain t_m t_count t_isFound p1_count t_needed t_neededLater t_barred p1_behind p1_served p1_door) → lv_has ls 4 [(0, .ref q_t), (1, .ref q_p1), (2, .int x2)] → W p l e (rmH (1) 0 0) s m args below meth c H locs 0 0 (MQ below (Qo dd g none (fun u : Unit => (w_X0_read g q_t q_p1 q_t_needed q_t_neededLater q_t_barred q_p1_behind q_p1_served q_p1_door o_t_row o_t_first o_t_could o_t_chain t_m t_count t_isFound p1_count z.1 z.2.1 z.2.2 p1_behind p1_served p1_door)) A) args s 0 0 A) (F0 m 2 ls []) := by
  intro n
  induction n with
  | zero =>
    intros
    rename_i hr _ _
    cases hr
  | succ n ih =>
    intro x2 t_m p1_count t_needed t_neededLater t_barred p1_behind p1_served p1_door t_count t_isFound o_t_row o_t_first o_t_could o_t_chain H locs ls hr hw hl
    refine lv_iload_n F.1 F.2.1 dX0_read_2 rfl (lv_at hl 2 rfl) ?_
    refine lv_bipush (v := 12) F.1 F.2.1 dX0_read_3 (by decide) ?_
    refine lv_icmp_ge (tgt := 35) F.1 F.2.1 dX0_read_5 (by decide) (fun hc26 => ?_) (fun hc26 => ?_)
    · replace hr := (if_pos hc26).symm.trans hr
      refine lv_iconst (v := 0) F.1 F.2.1 dX0_read_35 (by decide) ?_
      refine lv_istore_n (lv' := [(2, .int (0 : Int32)), (0, .ref q_t), (1, .ref q_p1)]) F.1 F.2.1 dX0_read_36 rfl hl (by decide) rfl (fun ls hl => ?_)
      exact b_X0_read_37 F hret hlk  fuel hr hw (lv_sub hl [1, 2, 0] rfl)
    · replace hr := (if_neg hc26).symm.trans hr
      refine lv_aload_n F.1 F.2.1 dX0_read_8 rfl (lv_at hl 0 rfl) ?_
      refine gf_X0_9 F hw 0 rfl rfl dX0_read_9 ?_
      refine lv_iload_n F.1 F.2.1 dX0_read_12 rfl (lv_at hl 2 rfl) ?_
      refine lv_lconst (v := 0) F.1 F.2.1 dX0_read_13 (by decide) ?_
      obtain ⟨hg27, hr⟩ := g_no hr
      refine aw_l F hw 2 rfl hg27 dX0_read_14 (fun H locs hw => ?_)
      replace hw : Wd dd g mv A s H locs (w_X0_read g q_t q_p1 q_t_needed q_t_neededLater q_t_barred q_p1_behind q_p1_served q_p1_door o_t_row o_t_first o_t_could o_t_chain t_m t_count t_isFound p1_count ((vp_updL t_needed (x2).toNatClampNeg ((0 : Int64)))) t_neededLater t_barred p1_behind p1_served p1_door) := hw
      refine lv_aload_n F.1 F.2.1 dX0_read_15 rfl (lv_at hl 0 rfl) ?_
      refine gf_X0_15 F hw 0 rfl rfl dX0_read_16 ?_
      refine lv_iload_n F.1 F.2.1 dX0_read_19 rfl (lv_at hl 2 rfl) ?_
      refine lv_lconst (v := 0) F.1 F.2.1 dX0_read_20 (by decide) ?_
      obtain ⟨hg28, hr⟩ := g_no hr
      refine aw_l F hw 3 rfl hg28 dX0_read_21 (fun H locs hw => ?_)
      replace hw : Wd dd g mv A s H locs (w_X0_read g q_t q_p1 q_t_needed q_t_neededLater q_t_barred q_p1_behind q_p1_served q_p1_door o_t_row o_t_first o_t_could o_t_chain t_m t_count t_isFound p1_count ((vp_updL t_needed (x2).toNatClampNeg ((0 : Int64)))) ((vp_updL t_neededLater (x2).toNatClampNeg ((0 : Int64)))) t_barred p1_behind p1_served p1_door) := hw
      refine lv_aload_n F.1 F.2.1 dX0_read_22 rfl (lv_at hl 0 rfl) ?_
      refine gf_X0_18 F hw 0 rfl rfl dX0_read_23 ?_
      refine lv_iload_n F.1 F.2.1 dX0_read_26 rfl (lv_at hl 2 rfl) ?_
      refine lv_lconst (v := 0) F.1 F.2.1 dX0_read_27 (by decide) ?_
      obtain ⟨hg29, hr⟩ := g_no hr
      refine aw_l F hw 4 rfl hg29 dX0_read_28 (fun H locs hw => ?_)
      replace hw : Wd dd g mv A s H locs (w_X0_read g q_t q_p1 q_t_needed q_t_neededLater q_t_barred q_p1_behind q_p1_served q_p1_door o_t_row o_t_first o_t_could o_t_chain t_m t_count t_isFound p1_count ((vp_updL t_needed (x2).toNatClampNeg ((0 : Int64)))) ((vp_updL t_neededLater (x2).toNatClampNeg ((0 : Int64)))) ((vp_updL t_barred (x2).toNatClampNeg ((0 : Int64)))) p1_behind p1_served p1_door) := hw
      refine lv_iinc (v := (x2 + 1)) (lv' := [(2, .int (x2 + 1)), (0, .ref q_t), (1, .ref q_p1)]) F.1 F.2.1 dX0_read_29 hl (k := 2) rfl rfl (by decide) rfl (fun ls hl => ?_)
      refine lv_goto (tgt := 2) F.1 F.2.1 dX0_read_32 (by decide) ?_
      exact ih hr hw (lv_sub hl [1, 2, 0] rfl)
set_option maxHeartbeats 4000000 in
set_option maxRecDepth 100000 in
theorem c_X0_read (l : Launch) (dd : va_G) (g : Nat → ClassId) (mv : Nat) (q_t : Nat) (q_p1 : Nat) (q_t_needed : Nat) (q_t_neededLater : Nat) (q_t_barred : Nat) (q_p1_behind : Nat) (q_p1_served : Nat) (q_p1_door : Nat) (o_t_row : Value) (o_t_first : Value) (o_t_could : Value) (o_t_chain : Value) (t_m : Int32) (t_count : Int32) (t_isFound : Int32) (p1_count : Int32) (t_needed : Nat → Int64) (t_neededLater : Nat → Int64) (t_barred : Nat → Int64) (p1_behind : Nat → Int32) (p1_served : Nat → Int32) (p1_door : Nat → Int32) (z : (Nat → Int64) × (Nat → Int64) × (Nat → Int64)) (hr : f_X0_read t_m p1_count t_needed t_neededLater t_barred p1_behind p1_served p1_door = some z) (sz : Nat) : Met l yX0_read (.code yX0_read cX0_read 4 none :: WS) (rmH 1 0 0) (va_Pc [.ref q_t, .ref q_p1] (PW dd g mv (w_X0_read g q_t q_p1 q_t_needed q_t_neededLater q_t_barred q_p1_behind q_p1_served q_p1_door o_t_row o_t_first o_t_could o_t_chain t_m t_count t_isFound p1_count t_needed t_neededLater t_barred p1_behind p1_served p1_door) sz)) (Qo dd g none (fun u : Unit => (w_X0_read g q_t q_p1 q_t_needed q_t_neededLater q_t_barred q_p1_behind q_p1_served q_p1_door o_t_row o_t_first o_t_could o_t_chain t_m t_count t_isFound p1_count z.1 z.2.1 z.2.2 p1_behind p1_served p1_door)) (va_A (w_X0_read g q_t q_p1 q_t_needed q_t_neededLater q_t_barred q_p1_behind q_p1_served q_p1_door o_t_row o_t_first o_t_could o_t_chain t_m t_count t_isFound p1_count t_needed t_neededLater t_barred p1_behind p1_served p1_door) sz)) 0 0 (va_A (w_X0_read g q_t q_p1 q_t_needed q_t_neededLater q_t_barred q_p1_behind q_p1_served q_p1_door o_t_row o_t_first o_t_could o_t_chain t_m t_count t_isFound p1_count t_needed t_neededLater t_barred p1_behind p1_served p1_door) sz) := by
  refine Met_intro (by decide) (Nat.le_of_ble_eq_true rfl) ?_
  intro p e s m below meth c A ls F hret hlk hin hw hl
  replace hl : lv_has ls 4 [(0, .ref q_t), (1, .ref q_p1)] := hl
  refine lv_iconst (v := 0) F.1 F.2.1 dX0_read_0 (by decide) ?_
  refine lv_istore_n (lv' := [(2, .int (0 : Int32)), (0, .ref q_t), (1, .ref q_p1)]) F.1 F.2.1 dX0_read_1 rfl hl (by decide) rfl (fun ls hl => ?_)
  exact b_X0_read_2 F hret hlk  fuel hr hw (lv_sub hl [1, 2, 0] rfl)
end WALK
