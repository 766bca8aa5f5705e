section WALK
variable {p : Program} {l : Launch} {e : Env} {s : State} {m : MethodId} {args : Array Value} {below : List Frame} {meth : Method} {c : Code} {dd : va_G} {g : Nat → ClassId} {mv : Nat} {A : Nat → Prop}
set_option maxHeartbeats 4000000 in
set_option maxRecDepth 100000 in
theorem b_X10_areApart_64 {q_t q_t_lengths q_t_signs : Nat} {z : Int32} (F : Fx p m c cX10_areApart 3 s args RX10) (hret : meth.sig.returnType = some .boolean) (hlk : meth.locks = false) {k2 : Int32 → Int32 → (Nat → Int32) → (Nat → Int32) → Option (Int32)} {k18 : Int32 → Int32 → Int32 → (Nat → Int32) → (Nat → Int32) → Option (Int32)} (hk2 : ∀ {x1 : Int32} {t_count : Int32} {t_lengths : Nat → Int32} {t_signs : Nat → Int32} {o_t_fewestSigns : Value} {o_t_isSettled : Value} {H : Heap} {locs : List Loc} {ls : Array Slot}, k2 x1 t_count t_lengths t_signs = some z → Wd dd g mv A s H locs (w_X10_areApart g q_t q_t_lengths q_t_signs o_t_fewestSigns o_t_isSettled t_count t_lengths t_signs) → lv_has ls 3 [(0, .ref q_t), (1, .int x1)] → W p l e (rmH (1) 0 0) s m args below meth c H locs 0 0 (MQ below (Qo dd g (some (.int z)) (fun u : Unit => (w_X10_areApart g q_t q_t_lengths q_t_signs o_t_fewestSigns o_t_isSettled t_count t_lengths t_signs)) A) args s 0 0 A) (F0 m 2 ls [])) (hk18 : ∀ {x1 : Int32} {x2 : Int32} {t_count : Int32} {t_lengths : Nat → Int32} {t_signs : Nat → Int32} {o_t_fewestSigns : Value} {o_t_isSettled : Value} {H : Heap} {locs : List Loc} {ls : Array Slot}, k18 x1 x2 t_count t_lengths t_signs = some z → Wd dd g mv A s H locs (w_X10_areApart g q_t q_t_lengths q_t_signs o_t_fewestSigns o_t_isSettled t_count t_lengths t_signs) → lv_has ls 3 [(0, .ref q_t), (1, .int x1), (2, .int x2)] → W p l e (rmH (1) 0 0) s m args below meth c H locs 0 0 (MQ below (Qo dd g (some (.int z)) (fun u : Unit => (w_X10_areApart g q_t q_t_lengths q_t_signs o_t_fewestSigns o_t_isSettled t_count t_lengths t_signs)) A) args s 0 0 A) (F0 m 18 ls [])) : ∀ {x1 : Int32} {x2 : Int32} {t_count : Int32} {t_lengths : Nat → Int32} {t_signs : Nat → Int32} {o_t_fewestSigns : Value} {o_t_isSettled : Value} {H : Heap} {locs : List Loc} {ls : Array Slot}, f_X10_areApart_64 k2 k18 x1 x2 t_count t_lengths t_signs = some z → Wd dd g mv A s H locs (w_X10_areApart g q_t q_t_lengths q_t_signs o_t_fewestSigns o_t_isSettled t_count t_lengths t_signs) → lv_has ls 3 [(0, .ref q_t), (1, .int x1), (2, .int x2)] → W p l e (rmH (1) 0 0) s m args below meth c H locs 0 0 (MQ below (Qo dd g (some (.int z)) (fun u : Unit => (w_X10_areApart g q_t q_t_lengths q_t_signs o_t_fewestSigns o_t_isSettled t_count t_lengths t_signs)) A) args s 0 0 A) (F0 m 64 ls []) := by
  intro x1 x2 t_count t_lengths t_signs o_t_fewestSigns o_t_isSettled H locs ls hr hw hl
  refine lv_iinc (v := (x2 + 1)) (lv' := [(2, .int (x2 + 1)), (0, .ref q_t), (1, .int x1)]) F.1 F.2.1 dX10_areApart_64 hl (k := 2) rfl rfl (by decide) rfl (fun ls hl => ?_)
  refine lv_goto (tgt := 18) F.1 F.2.1 dX10_areApart_67 (by decide) ?_
  exact hk18 hr hw (lv_sub hl [1, 2, 0] rfl)
set_option maxHeartbeats 4000000 in
set_option maxRecDepth 100000 in
theorem b_X10_areApart_70 {q_t q_t_lengths q_t_signs : Nat} {z : Int32} (F : Fx p m c cX10_areApart 3 s args RX10) (hret : meth.sig.returnType = some .boolean) (hlk : meth.locks = false) {k2 : Int32 → Int32 → (Nat → Int32) → (Nat → Int32) → Option (Int32)} (hk2 : ∀ {x1 : Int32} {t_count : Int32} {t_lengths : Nat → Int32} {t_signs : Nat → Int32} {o_t_fewestSigns : Value} {o_t_isSettled : Value} {H : Heap} {locs : List Loc} {ls : Array Slot}, k2 x1 t_count t_lengths t_signs = some z → Wd dd g mv A s H locs (w_X10_areApart g q_t q_t_lengths q_t_signs o_t_fewestSigns o_t_isSettled t_count t_lengths t_signs) → lv_has ls 3 [(0, .ref q_t), (1, .int x1)] → W p l e (rmH (1) 0 0) s m args below meth c H locs 0 0 (MQ below (Qo dd g (some (.int z)) (fun u : Unit => (w_X10_areApart g q_t q_t_lengths q_t_signs o_t_fewestSigns o_t_isSettled t_count t_lengths t_signs)) A) args s 0 0 A) (F0 m 2 ls [])) : ∀ {x1 : Int32} {t_count : Int32} {t_lengths : Nat → Int32} {t_signs : Nat → Int32} {o_t_fewestSigns : Value} {o_t_isSettled : Value} {H : Heap} {locs : List Loc} {ls : Array Slot}, f_X10_areApart_70 k2 x1 t_count t_lengths t_signs = some z → Wd dd g mv A s H locs (w_X10_areApart g q_t q_t_lengths q_t_signs o_t_fewestSigns o_t_isSettled t_count t_lengths t_signs) → lv_has ls 3 [(0, .ref q_t), (1, .int x1)] → W p l e (rmH (1) 0 0) s m args below meth c H locs 0 0 (MQ below (Qo dd g (some (.int z)) (fun u : Unit => (w_X10_areApart g q_t q_t_lengths q_t_signs o_t_fewestSigns o_t_isSettled t_count t_lengths t_signs)) A) args s 0 0 A) (F0 m 70 ls []) := by
  intro x1 t_count t_lengths t_signs o_t_fewestSigns o_t_isSettled H locs ls hr hw hl
  refine lv_iinc (v := (x1 + 1)) (lv' := [(1, .int (x1 + 1)), (0, .ref q_t)]) F.1 F.2.1 dX10_areApart_70 hl (k := 1) rfl rfl (by decide) rfl (fun ls hl => ?_)
  refine lv_goto (tgt := 2) F.1 F.2.1 dX10_areApart_73 (by decide) ?_
  exact hk2 hr hw (lv_sub hl [1, 0] rfl)
set_option maxHeartbeats 4000000 in
set_option maxRecDepth 100000 in
theorem b_X10_areApart_18 {q_t q_t_lengths q_t_signs : Nat} {z : Int32} (F : Fx p m c cX10_areApart 3 s args RX10) (hret : meth.sig.returnType = some .boolean) (hlk : meth.locks = false) {k2 : Int32 → Int32 → (Nat → Int32) → (Nat → Int32) → Option (Int32)} (hk2 : ∀ {x1 : Int32} {t_count : Int32} {t_lengths : Nat → Int32} {t_signs : Nat → Int32} {o_t_fewestSigns : Value} {o_t_isSettled : Value} {H : Heap} {locs : List Loc} {ls : Array Slot}, k2 x1 t_count t_lengths t_signs = some z → Wd dd g mv A s H locs (w_X10_areApart g q_t q_t_lengths q_t_signs o_t_fewestSigns o_t_isSettled t_count t_lengths t_signs) → lv_has ls 3 [(0, .ref q_t), (1, .int x1)] → W p l e (rmH (1) 0 0) s m args below meth c H locs 0 0 (MQ below (Qo dd g (some (.int z)) (fun u : Unit => (w_X10_areApart g q_t q_t_lengths q_t_signs o_t_fewestSigns o_t_isSettled t_count t_lengths t_signs)) A) args s 0 0 A) (F0 m 2 ls [])) : ∀ (n : Nat), ∀ {x1 : Int32} {x2 : Int32} {t_count : Int32} {t_lengths : Nat → Int32} {t_signs : Nat → Int32} {o_t_fewestSigns : Value} {o_t_isSettled : Value} {H : Heap} {locs : List Loc} {ls : Array Slot}, f_X10_areApart_18 k2 n x1 x2 t_count t_lengths t_signs = some z → Wd dd g mv A s H locs (w_X10_areApart g q_t q_t_lengths q_t_signs o_t_fewestSigns o_t_isSettled t_count t_lengths t_signs) → lv_has ls 3 [(0, .ref q_t), (1, .int x1), (2, .int x2)] → W p l e (rmH (1) 0 0) s m args below meth c H locs 0 0 (MQ below (Qo dd g (some (.int z)) (fun u : Unit => (w_X10_areApart g q_t q_t_lengths q_t_signs o_t_fewestSigns o_t_isSettled t_count t_lengths t_signs)) A) args s 0 0 A) (F0 m 18 ls []) := by
  intro n
  induction n with
  | zero =>
    intros
    rename_i hr _ _
    cases hr
  | succ n ih =>
    intro x1 x2 t_count t_lengths t_signs o_t_fewestSigns o_t_isSettled H locs ls hr hw hl
    refine lv_iload_n F.1 F.2.1 dX10_areApart_18 rfl (lv_at hl 2 rfl) ?_
    refine lv_aload_n F.1 F.2.1 dX10_areApart_19 rfl (lv_at hl 0 rfl) ?_
    refine gf_X10_18 F hw 0 rfl rfl dX10_areApart_20 ?_
    refine lv_icmp_ge (tgt := 70) F.1 F.2.1 dX10_areApart_23 (by decide) (fun hc1 => ?_) (fun hc1 => ?_)
    · replace hr := (if_pos hc1).symm.trans hr
      exact b_X10_areApart_70 F hret hlk (hk2) hr hw (lv_sub hl [0, 1] rfl)
    · replace hr := (if_neg hc1).symm.trans hr
      refine lv_iload_n F.1 F.2.1 dX10_areApart_26 rfl (lv_at hl 2 rfl) ?_
      refine lv_bipush (v := 8) F.1 F.2.1 dX10_areApart_27 (by decide) ?_
      refine lv_icmp_ge (tgt := 70) F.1 F.2.1 dX10_areApart_29 (by decide) (fun hc2 => ?_) (fun hc2 => ?_)
      · replace hr := (if_pos hc2).symm.trans hr
        exact b_X10_areApart_70 F hret hlk (hk2) hr hw (lv_sub hl [0, 1] rfl)
      · replace hr := (if_neg hc2).symm.trans hr
        refine lv_iload_n F.1 F.2.1 dX10_areApart_32 rfl (lv_at hl 1 rfl) ?_
        refine lv_iload_n F.1 F.2.1 dX10_areApart_33 rfl (lv_at hl 2 rfl) ?_
        refine lv_icmp_eq (tgt := 64) F.1 F.2.1 dX10_areApart_34 (by decide) (fun hc3 => ?_) (fun hc3 => ?_)
        · replace hr := (if_pos hc3).symm.trans hr
          exact b_X10_areApart_64 F hret hlk (hk2) (ih) hr hw (lv_sub hl [0, 1, 2] rfl)
        · replace hr := (if_neg hc3).symm.trans hr
          refine lv_aload_n F.1 F.2.1 dX10_areApart_37 rfl (lv_at hl 0 rfl) ?_
          refine gf_X10_15 F hw 0 rfl rfl dX10_areApart_38 ?_
          refine lv_iload_n F.1 F.2.1 dX10_areApart_41 rfl (lv_at hl 1 rfl) ?_
          obtain ⟨hg4, hr⟩ := g_no hr
          refine ar_i F hw 1 rfl hg4 dX10_areApart_42 ?_
          refine lv_aload_n F.1 F.2.1 dX10_areApart_43 rfl (lv_at hl 0 rfl) ?_
          refine gf_X10_15 F hw 0 rfl rfl dX10_areApart_44 ?_
          refine lv_iload_n F.1 F.2.1 dX10_areApart_47 rfl (lv_at hl 2 rfl) ?_
          obtain ⟨hg5, hr⟩ := g_no hr
          refine ar_i F hw 1 rfl hg5 dX10_areApart_48 ?_
          refine lv_icmp_gt (tgt := 64) F.1 F.2.1 dX10_areApart_49 (by decide) (fun hc6 => ?_) (fun hc6 => ?_)
          · replace hr := (if_pos hc6).symm.trans hr
            exact b_X10_areApart_64 F hret hlk (hk2) (ih) hr hw (lv_sub hl [0, 1, 2] rfl)
          · replace hr := (if_neg hc6).symm.trans hr
            refine lv_aload_n F.1 F.2.1 dX10_areApart_52 rfl (lv_at hl 0 rfl) ?_
            refine lv_iload_n F.1 F.2.1 dX10_areApart_53 rfl (lv_at hl 2 rfl) ?_
            refine lv_iconst (v := 0) F.1 F.2.1 dX10_areApart_54 (by decide) ?_
            refine lv_iload_n F.1 F.2.1 dX10_areApart_55 rfl (lv_at hl 1 rfl) ?_
            obtain ⟨z7, hz7, hr⟩ := Option.bind_eq_some_iff.mp hr
            refine call_o (wr := []) (run_V (As := [.int x2, .int (0 : Int32), .int x1]) (rest := []) F k_X10_43 (c_X10_agree l dd g mv q_t q_t_lengths q_t_signs o_t_fewestSigns o_t_isSettled t_count t_lengths t_signs x2 ((0 : Int32)) x1 z7 hz7 _) hw [0, 1, 2] (by decide) rfl (ci := 10) rfl rfl rfl rfl hl.1 rfl (Nat.le_of_ble_eq_true rfl) dX10_areApart_56 ⟨Nat.le_of_ble_eq_true rfl, Nat.le_of_ble_eq_true rfl⟩ ⟨Nat.le_of_ble_eq_true rfl, Nat.le_of_ble_eq_true rfl⟩) hw [0, 1, 2] [] rfl rfl (by decide) (by decide) (fun u8 H locs hw => ?_)
            replace hw : Wd dd g mv A s H locs (w_X10_areApart g q_t q_t_lengths q_t_signs o_t_fewestSigns o_t_isSettled t_count t_lengths t_signs) := hw.sub [0, 1, 2] (by decide) rfl
            refine W.eq (g2 := F0 m 59 ls (.int z7 :: [])) rfl ?_
            refine lv_if_eq (tgt := 64) F.1 F.2.1 dX10_areApart_59 (by decide) (fun hc9 => ?_) (fun hc9 => ?_)
            · replace hr := (if_pos hc9).symm.trans hr
              exact b_X10_areApart_64 F hret hlk (hk2) (ih) hr hw (lv_sub hl [0, 1, 2] rfl)
            · replace hr := (if_neg hc9).symm.trans hr
              refine lv_iconst (v := 0) F.1 F.2.1 dX10_areApart_62 (by decide) ?_
              cases hr
              exact ret_z (v := (0 : Int32)) () F hret hlk (by decide) hw (Nat.le_refl _) (Nat.le_refl _) dX10_areApart_63
set_option maxHeartbeats 4000000 in
set_option maxRecDepth 100000 in
theorem b_X10_areApart_2 {q_t q_t_lengths q_t_signs : Nat} {z : Int32} (F : Fx p m c cX10_areApart 3 s args RX10) (hret : meth.sig.returnType = some .boolean) (hlk : meth.locks = false) : ∀ (n : Nat), ∀ {x1 : Int32} {t_count : Int32} {t_lengths : Nat → Int32} {t_signs : Nat → Int32} {o_t_fewestSigns : Value} {o_t_isSettled : Value} {H : Heap} {locs : List Loc} {ls : Array Slot}, f_X10_areApart_2  n x1 t_count t_lengths t_signs = some z → Wd dd g mv A s H locs (w_X10_areApart g q_t q_t_lengths q_t_signs o_t_fewestSigns o_t_isSettled t_count t_lengths t_signs) → lv_has ls 3 [(0, .ref q_t), (1, .int x1)] → W p l e (rmH (1) 0 0) s m args below meth c H locs 0 0 (MQ below (Qo dd g (some (.int z)) (fun u : Unit => (w_X10_areApart g q_t q_t_lengths q_t_signs o_t_fewestSigns o_t_isSettled t_count t_lengths t_signs)) A) args s 0 0 A) (F0 m 2 ls []) := by
  intro n
  induction n with
  | zero =>
    intros
    rename_i hr _ _
    cases hr
  | succ n ih =>
    intro x1 t_count t_lengths t_signs o_t_fewestSigns o_t_isSettled H locs ls hr hw hl
    refine lv_iload_n F.1 F.2.1 dX10_areApart_2 rfl (lv_at hl 1 rfl) ?_
    refine lv_aload_n F.1 F.2.1 dX10_areApart_3 rfl (lv_at hl 0 rfl) ?_
    refine gf_X10_18 F hw 0 rfl rfl dX10_areApart_4 ?_
    refine lv_icmp_ge (tgt := 76) F.1 F.2.1 dX10_areApart_7 (by decide) (fun hc10 => ?_) (fun hc10 => ?_)
    · replace hr := (if_pos hc10).symm.trans hr
      refine lv_iconst (v := 1) F.1 F.2.1 dX10_areApart_76 (by decide) ?_
      cases hr
      exact ret_z (v := (1 : Int32)) () F hret hlk (by decide) hw (Nat.le_refl _) (Nat.le_refl _) dX10_areApart_77
    · replace hr := (if_neg hc10).symm.trans hr
      refine lv_iload_n F.1 F.2.1 dX10_areApart_10 rfl (lv_at hl 1 rfl) ?_
      refine lv_bipush (v := 8) F.1 F.2.1 dX10_areApart_11 (by decide) ?_
      refine lv_icmp_ge (tgt := 76) F.1 F.2.1 dX10_areApart_13 (by decide) (fun hc11 => ?_) (fun hc11 => ?_)
      · replace hr := (if_pos hc11).symm.trans hr
        refine lv_iconst (v := 1) F.1 F.2.1 dX10_areApart_76 (by decide) ?_
        cases hr
        exact ret_z (v := (1 : Int32)) () F hret hlk (by decide) hw (Nat.le_refl _) (Nat.le_refl _) dX10_areApart_77
      · replace hr := (if_neg hc11).symm.trans hr
        refine lv_iconst (v := 0) F.1 F.2.1 dX10_areApart_16 (by decide) ?_
        refine lv_istore_n (lv' := [(2, .int (0 : Int32)), (0, .ref q_t), (1, .int x1)]) F.1 F.2.1 dX10_areApart_17 rfl hl (by decide) rfl (fun ls hl => ?_)
        exact b_X10_areApart_18 F hret hlk (ih) fuel hr hw (lv_sub hl [1, 2, 0] rfl)
set_option maxHeartbeats 4000000 in
set_option maxRecDepth 100000 in
theorem c_X10_areApart (l : Launch) (dd : va_G) (g : Nat → ClassId) (mv : Nat) (q_t : Nat) (q_t_lengths : Nat) (q_t_signs : Nat) (o_t_fewestSigns : Value) (o_t_isSettled : Value) (t_count : Int32) (t_lengths : Nat → Int32) (t_signs : Nat → Int32) (z : Int32) (hr : f_X10_areApart t_count t_lengths t_signs = some z) (sz : Nat) : Met l yX10_areApart (.code yX10_areApart cX10_areApart 3 (some .boolean) :: WS) (rmH 1 0 0) (va_Pc [.ref q_t] (PW dd g mv (w_X10_areApart g q_t q_t_lengths q_t_signs o_t_fewestSigns o_t_isSettled t_count t_lengths t_signs) sz)) (Qo dd g (some (.int z)) (fun u : Unit => (w_X10_areApart g q_t q_t_lengths q_t_signs o_t_fewestSigns o_t_isSettled t_count t_lengths t_signs)) (va_A (w_X10_areApart g q_t q_t_lengths q_t_signs o_t_fewestSigns o_t_isSettled t_count t_lengths t_signs) sz)) 0 0 (va_A (w_X10_areApart g q_t q_t_lengths q_t_signs o_t_fewestSigns o_t_isSettled t_count t_lengths t_signs) sz) := by
  refine Met_intro (by decide) (Nat.le_of_ble_eq_true rfl) ?_
  intro p e s m below meth c A ls F hret hlk hin hw hl
  replace hl : lv_has ls 3 [(0, .ref q_t)] := hl
  refine lv_iconst (v := 0) F.1 F.2.1 dX10_areApart_0 (by decide) ?_
  refine lv_istore_n (lv' := [(1, .int (0 : Int32)), (0, .ref q_t)]) F.1 F.2.1 dX10_areApart_1 rfl hl (by decide) rfl (fun ls hl => ?_)
  exact b_X10_areApart_2 F hret hlk  fuel hr hw (lv_sub hl [1, 0] rfl)
set_option maxHeartbeats 4000000 in
set_option maxRecDepth 100000 in
theorem c_X10_reach (l : Launch) (dd : va_G) (g : Nat → ClassId) (mv : Nat) (q_t : Nat) (q_t_fewestSigns : Nat) (o_t_signs : Value) (o_t_lengths : Value) (o_t_isSettled : Value) (t_count : Int32) (t_fewestSigns : Nat → Int32) (a1 : Int32) (a2 : Int32) (a3 : Int32) (z : (Nat → Int32)) (hr : f_X10_reach t_fewestSigns a1 a2 a3 = some z) (sz : Nat) : Met l yX10_reach (.code yX10_reach cX10_reach 5 none :: WS) (rmH 1 0 0) (va_Pc [.ref q_t, .int a1, .int a2, .int a3] (PW dd g mv (w_X10_reach g q_t q_t_fewestSigns o_t_signs o_t_lengths o_t_isSettled t_count t_fewestSigns) sz)) (Qo dd g none (fun u : Unit => (w_X10_reach g q_t q_t_fewestSigns o_t_signs o_t_lengths o_t_isSettled t_count z)) (va_A (w_X10_reach g q_t q_t_fewestSigns o_t_signs o_t_lengths o_t_isSettled t_count t_fewestSigns) sz)) 0 0 (va_A (w_X10_reach g q_t q_t_fewestSigns o_t_signs o_t_lengths o_t_isSettled t_count t_fewestSigns) sz) := by
  refine Met_intro (by decide) (Nat.le_of_ble_eq_true rfl) ?_
  intro p e s m below meth c A ls F hret hlk hin hw hl
  replace hl : lv_has ls 5 [(0, .ref q_t), (1, .int a1), (2, .int a2), (3, .int a3)] := hl
  refine lv_iload_n F.1 F.2.1 dX10_reach_0 rfl (lv_at hl 2 rfl) ?_
  refine lv_if_lt (tgt := 10) F.1 F.2.1 dX10_reach_1 (by decide) (fun hc1 => ?_) (fun hc1 => ?_)
  · replace hr := (if_pos hc1).symm.trans hr
    cases hr
    exact ret_v () F hret hlk hw (Nat.le_refl _) (Nat.le_refl _) dX10_reach_10
  · replace hr := (if_neg hc1).symm.trans hr
    refine lv_iload_n F.1 F.2.1 dX10_reach_4 rfl (lv_at hl 2 rfl) ?_
    refine lv_bipush (v := 8) F.1 F.2.1 dX10_reach_5 (by decide) ?_
    refine lv_icmp_lt (tgt := 11) F.1 F.2.1 dX10_reach_7 (by decide) (fun hc2 => ?_) (fun hc2 => ?_)
    · replace hr := (if_pos hc2).symm.trans hr
      refine lv_iload_n F.1 F.2.1 dX10_reach_11 rfl (lv_at hl 1 rfl) ?_
      refine lv_bipush (v := 8) F.1 F.2.1 dX10_reach_12 (by decide) ?_
      refine lv_imul F.1 F.2.1 dX10_reach_14 ?_
      refine lv_iload_n F.1 F.2.1 dX10_reach_15 rfl (lv_at hl 2 rfl) ?_
      refine lv_iadd F.1 F.2.1 dX10_reach_16 ?_
      refine lv_istore (lv' := [(4, .int ((a1 * (8 : Int32)) + a2)), (0, .ref q_t), (1, .int a1), (2, .int a2), (3, .int a3)]) F.1 F.2.1 dX10_reach_17 hl (by decide) rfl (fun ls hl => ?_)
      refine lv_aload_n F.1 F.2.1 dX10_reach_19 rfl (lv_at hl 1 rfl) ?_
      refine gf_X10_22 F hw 0 rfl rfl dX10_reach_20 ?_
      refine lv_iload F.1 F.2.1 dX10_reach_23 (lv_at hl 0 rfl) ?_
      refine lv_aload_n F.1 F.2.1 dX10_reach_25 rfl (lv_at hl 1 rfl) ?_
      refine gf_X10_22 F hw 0 rfl rfl dX10_reach_26 ?_
      refine lv_iload F.1 F.2.1 dX10_reach_29 (lv_at hl 0 rfl) ?_
      obtain ⟨hg3, hr⟩ := g_no hr
      refine ar_i F hw 1 rfl hg3 dX10_reach_31 ?_
      refine lv_iload_n F.1 F.2.1 dX10_reach_32 rfl (lv_at hl 4 rfl) ?_
      refine m_min F hl.1 ml_X10_63 (Nat.le_of_ble_eq_true rfl) (Nat.le_of_ble_eq_true rfl) (Nat.le_of_ble_eq_true rfl) (Nat.le_of_ble_eq_true rfl) dX10_reach_33 ?_
      obtain ⟨hg4, hr⟩ := g_no hr
      refine aw_i F hw 1 rfl hg4 dX10_reach_36 (fun H locs hw => ?_)
      replace hw : Wd dd g mv A s H locs (w_X10_reach g q_t q_t_fewestSigns o_t_signs o_t_lengths o_t_isSettled t_count ((upd t_fewestSigns (((a1 * (8 : Int32)) + a2)).toNatClampNeg ((if a3 < (t_fewestSigns (((a1 * (8 : Int32)) + a2)).toNatClampNeg) then a3 else (t_fewestSigns (((a1 * (8 : Int32)) + a2)).toNatClampNeg)))))) := hw
      cases hr
      exact ret_v () F hret hlk hw (Nat.le_refl _) (Nat.le_refl _) dX10_reach_37
    · replace hr := (if_neg hc2).symm.trans hr
      cases hr
      exact ret_v () F hret hlk hw (Nat.le_refl _) (Nat.le_refl _) dX10_reach_10
set_option maxHeartbeats 4000000 in
set_option maxRecDepth 100000 in
theorem b_X10_goOn_114 {q_t q_t_lengths q_t_signs q_t_fewestSigns : Nat} {z : Int32 × (Nat → Int32)} (F : Fx p m c cX10_goOn 7 s args RX10) (hret : meth.sig.returnType = some .boolean) (hlk : meth.locks = false) {k23 : Int32 → Int32 → Int32 → Int32 → Int32 → Int32 → (Nat → Int32) → (Nat → Int32) → (Nat → Int32) → Option (Int32 × (Nat → Int32))} (hk23 : ∀ {x1 : Int32} {x2 : Int32} {x3 : Int32} {x4 : Int32} {x5 : Int32} {t_count : Int32} {t_lengths : Nat → Int32} {t_signs : Nat → Int32} {t_fewestSigns : Nat → Int32} {o_t_isSettled : Value} {H : Heap} {locs : List Loc} {ls : Array Slot}, k23 x1 x2 x3 x4 x5 t_count t_lengths t_signs t_fewestSigns = some z → Wd dd g mv A s H locs (w_X10_goOn g q_t q_t_lengths q_t_signs q_t_fewestSigns o_t_isSettled t_count t_lengths t_signs t_fewestSigns) → lv_has ls 7 [(0, .ref q_t), (1, .int x1), (2, .int x2), (3, .int x3), (4, .int x4), (5, .int x5)] → W p l e (rmH (2) 0 0) s m args below meth c H locs 0 0 (MQ below (Qo dd g (some (.int z.1)) (fun u : Unit => (w_X10_goOn g q_t q_t_lengths q_t_signs q_t_fewestSigns o_t_isSettled t_count t_lengths t_signs z.2)) A) args s 0 0 A) (F0 m 23 ls [])) : ∀ {x1 : Int32} {x2 : Int32} {x3 : Int32} {x4 : Int32} {x5 : Int32} {t_count : Int32} {t_lengths : Nat → Int32} {t_signs : Nat → Int32} {t_fewestSigns : Nat → Int32} {o_t_isSettled : Value} {H : Heap} {locs : List Loc} {ls : Array Slot}, f_X10_goOn_114 k23 x1 x2 x3 x4 x5 t_count t_lengths t_signs t_fewestSigns = some z → Wd dd g mv A s H locs (w_X10_goOn g q_t q_t_lengths q_t_signs q_t_fewestSigns o_t_isSettled t_count t_lengths t_signs t_fewestSigns) → lv_has ls 7 [(0, .ref q_t), (1, .int x1), (2, .int x2), (3, .int x3), (4, .int x4), (5, .int x5)] → W p l e (rmH (2) 0 0) s m args below meth c H locs 0 0 (MQ below (Qo dd g (some (.int z.1)) (fun u : Unit => (w_X10_goOn g q_t q_t_lengths q_t_signs q_t_fewestSigns o_t_isSettled t_count t_lengths t_signs z.2)) A) args s 0 0 A) (F0 m 114 ls []) := by
  intro x1 x2 x3 x4 x5 t_count t_lengths t_signs t_fewestSigns o_t_isSettled H locs ls hr hw hl
  refine lv_iinc (v := (x5 + 1)) (lv' := [(5, .int (x5 + 1)), (0, .ref q_t), (1, .int x1), (2, .int x2), (3, .int x3), (4, .int x4)]) F.1 F.2.1 dX10_goOn_114 hl (k := 5) rfl rfl (by decide) rfl (fun ls hl => ?_)
  refine lv_goto (tgt := 23) F.1 F.2.1 dX10_goOn_117 (by decide) ?_
  exact hk23 hr hw (lv_sub hl [1, 2, 3, 4, 5, 0] rfl)
set_option maxHeartbeats 4000000 in
set_option maxRecDepth 100000 in
theorem b_X10_goOn_23 {q_t q_t_lengths q_t_signs q_t_fewestSigns : Nat} {z : Int32 × (Nat → Int32)} (F : Fx p m c cX10_goOn 7 s args RX10) (hret : meth.sig.returnType = some .boolean) (hlk : meth.locks = false) : ∀ (n : Nat), ∀ {x1 : Int32} {x2 : Int32} {x3 : Int32} {x4 : Int32} {x5 : Int32} {t_count : Int32} {t_lengths : Nat → Int32} {t_signs : Nat → Int32} {t_fewestSigns : Nat → Int32} {o_t_isSettled : Value} {H : Heap} {locs : List Loc} {ls : Array Slot}, f_X10_goOn_23  n x1 x2 x3 x4 x5 t_count t_lengths t_signs t_fewestSigns = some z → Wd dd g mv A s H locs (w_X10_goOn g q_t q_t_lengths q_t_signs q_t_fewestSigns o_t_isSettled t_count t_lengths t_signs t_fewestSigns) → lv_has ls 7 [(0, .ref q_t), (1, .int x1), (2, .int x2), (3, .int x3), (4, .int x4), (5, .int x5)] → W p l e (rmH (2) 0 0) s m args below meth c H locs 0 0 (MQ below (Qo dd g (some (.int z.1)) (fun u : Unit => (w_X10_goOn g q_t q_t_lengths q_t_signs q_t_fewestSigns o_t_isSettled t_count t_lengths t_signs z.2)) A) args s 0 0 A) (F0 m 23 ls []) := by
  intro n
  induction n with
  | zero =>
    intros
    rename_i hr _ _
    cases hr
  | succ n ih =>
    intro x1 x2 x3 x4 x5 t_count t_lengths t_signs t_fewestSigns o_t_isSettled H locs ls hr hw hl
    refine lv_iload F.1 F.2.1 dX10_goOn_23 (lv_at hl 5 rfl) ?_
    refine lv_aload_n F.1 F.2.1 dX10_goOn_25 rfl (lv_at hl 0 rfl) ?_
    refine gf_X10_18 F hw 0 rfl rfl dX10_goOn_26 ?_
    refine lv_icmp_ge (tgt := 120) F.1 F.2.1 dX10_goOn_29 (by decide) (fun hc1 => ?_) (fun hc1 => ?_)
    · replace hr := (if_pos hc1).symm.trans hr
      refine lv_iconst (v := 0) F.1 F.2.1 dX10_goOn_120 (by decide) ?_
      cases hr
      exact ret_z (v := (0 : Int32)) () F hret hlk (by decide) hw (Nat.le_refl _) (Nat.le_refl _) dX10_goOn_121
    · replace hr := (if_neg hc1).symm.trans hr
      refine lv_iload F.1 F.2.1 dX10_goOn_32 (lv_at hl 5 rfl) ?_
      refine lv_bipush (v := 8) F.1 F.2.1 dX10_goOn_34 (by decide) ?_
      refine lv_icmp_ge (tgt := 120) F.1 F.2.1 dX10_goOn_36 (by decide) (fun hc2 => ?_) (fun hc2 => ?_)
      · replace hr := (if_pos hc2).symm.trans hr
        refine lv_iconst (v := 0) F.1 F.2.1 dX10_goOn_120 (by decide) ?_
        cases hr
        exact ret_z (v := (0 : Int32)) () F hret hlk (by decide) hw (Nat.le_refl _) (Nat.le_refl _) dX10_goOn_121
      · replace hr := (if_neg hc2).symm.trans hr
        refine lv_aload_n F.1 F.2.1 dX10_goOn_39 rfl (lv_at hl 0 rfl) ?_
        refine lv_iload_n F.1 F.2.1 dX10_goOn_40 rfl (lv_at hl 2 rfl) ?_
        refine lv_iload_n F.1 F.2.1 dX10_goOn_41 rfl (lv_at hl 3 rfl) ?_
        refine lv_iload F.1 F.2.1 dX10_goOn_42 (lv_at hl 5 rfl) ?_
        obtain ⟨z3, hz3, hr⟩ := Option.bind_eq_some_iff.mp hr
        refine call_o (wr := [(q_t_fewestSigns, .inl (g 0, 64, .inl t_fewestSigns))]) (run_V (As := [.int x2, .int x3, .int x5]) (rest := []) F k_X10_43 (c_X10_agree l dd g mv q_t q_t_lengths q_t_signs ((.ref q_t_fewestSigns)) o_t_isSettled t_count t_lengths t_signs x2 x3 x5 z3 hz3 _) hw [0, 1, 2] (by decide) rfl (ci := 10) rfl rfl rfl rfl hl.1 rfl (Nat.le_of_ble_eq_true rfl) dX10_goOn_44 ⟨Nat.le_of_ble_eq_true rfl, Nat.le_of_ble_eq_true rfl⟩ ⟨Nat.le_of_ble_eq_true rfl, Nat.le_of_ble_eq_true rfl⟩) hw [0, 1, 2] [3] rfl rfl (by decide) (by decide) (fun u4 H locs hw => ?_)
        replace hw : Wd dd g mv A s H locs (w_X10_goOn g q_t q_t_lengths q_t_signs q_t_fewestSigns o_t_isSettled t_count t_lengths t_signs t_fewestSigns) := hw.sub [1, 2, 3, 0] (by decide) rfl
        refine W.eq (g2 := F0 m 47 ls (.int z3 :: [])) rfl ?_
        refine lv_if_eq (tgt := 114) F.1 F.2.1 dX10_goOn_47 (by decide) (fun hc5 => ?_) (fun hc5 => ?_)
        · replace hr := (if_pos hc5).symm.trans hr
          exact b_X10_goOn_114 F hret hlk (ih) hr hw (lv_sub hl [0, 1, 2, 3, 4, 5] rfl)
        · replace hr := (if_neg hc5).symm.trans hr
          refine lv_aload_n F.1 F.2.1 dX10_goOn_50 rfl (lv_at hl 0 rfl) ?_
          refine gf_X10_15 F hw 0 rfl rfl dX10_goOn_51 ?_
          refine lv_iload F.1 F.2.1 dX10_goOn_54 (lv_at hl 5 rfl) ?_
          obtain ⟨hg6, hr⟩ := g_no hr
          refine ar_i F hw 1 rfl hg6 dX10_goOn_56 ?_
          refine lv_iload F.1 F.2.1 dX10_goOn_57 (lv_at hl 4 rfl) ?_
          refine lv_isub F.1 F.2.1 dX10_goOn_59 ?_
          refine lv_istore (lv' := [(6, .int ((t_lengths (x5).toNatClampNeg) - x4)), (0, .ref q_t), (1, .int x1), (2, .int x2), (3, .int x3), (4, .int x4), (5, .int x5)]) F.1 F.2.1 dX10_goOn_60 hl (by decide) rfl (fun ls hl => ?_)
          refine lv_iload F.1 F.2.1 dX10_goOn_62 (lv_at hl 0 rfl) ?_
          refine lv_if_ne (tgt := 69) F.1 F.2.1 dX10_goOn_64 (by decide) (fun hc7 => ?_) (fun hc7 => ?_)
          · replace hr := (if_neg hc7).symm.trans hr
            refine lv_iload F.1 F.2.1 dX10_goOn_69 (lv_at hl 0 rfl) ?_
            refine lv_if_ge (tgt := 97) F.1 F.2.1 dX10_goOn_71 (by decide) (fun hc8 => ?_) (fun hc8 => ?_)
            · replace hr := (if_pos hc8).symm.trans hr
              refine lv_aload_n F.1 F.2.1 dX10_goOn_97 rfl (lv_at hl 1 rfl) ?_
              refine lv_iload F.1 F.2.1 dX10_goOn_98 (lv_at hl 6 rfl) ?_
              refine lv_iload F.1 F.2.1 dX10_goOn_100 (lv_at hl 5 rfl) ?_
              refine lv_aload_n F.1 F.2.1 dX10_goOn_102 rfl (lv_at hl 1 rfl) ?_
              refine gf_X10_22 F hw 0 rfl rfl dX10_goOn_103 ?_
              refine lv_iload_n F.1 F.2.1 dX10_goOn_106 rfl (lv_at hl 2 rfl) ?_
              obtain ⟨hg9, hr⟩ := g_no hr
              refine ar_i F hw 3 rfl hg9 dX10_goOn_107 ?_
              refine lv_iload F.1 F.2.1 dX10_goOn_108 (lv_at hl 0 rfl) ?_
              refine lv_iadd F.1 F.2.1 dX10_goOn_110 ?_
              obtain ⟨z10, hz10, hr⟩ := Option.bind_eq_some_iff.mp hr
              refine call_o (wr := [(q_t_lengths, .inl (g 0, 8, .inl t_lengths)), (q_t_signs, .inl (g 0, 64, .inl t_signs))]) (run_V (As := [.int x5, .int x4, .int ((t_fewestSigns (x1).toNatClampNeg) + ((t_lengths (x5).toNatClampNeg) - x4))]) (rest := []) F k_X10_59 (c_X10_reach l dd g mv q_t q_t_fewestSigns ((.ref q_t_signs)) ((.ref q_t_lengths)) o_t_isSettled t_count t_fewestSigns x5 x4 (((t_fewestSigns (x1).toNatClampNeg) + ((t_lengths (x5).toNatClampNeg) - x4))) z10 hz10 _) hw [0, 3] (by decide) rfl (ci := 10) rfl rfl rfl rfl hl.1 rfl (Nat.le_of_ble_eq_true rfl) dX10_goOn_111 ⟨Nat.le_of_ble_eq_true rfl, Nat.le_of_ble_eq_true rfl⟩ ⟨Nat.le_of_ble_eq_true rfl, Nat.le_of_ble_eq_true rfl⟩) hw [0, 3] [1, 2] rfl rfl (by decide) (by decide) (fun u11 H locs hw => ?_)
              replace hw : Wd dd g mv A s H locs (w_X10_goOn g q_t q_t_lengths q_t_signs q_t_fewestSigns o_t_isSettled t_count t_lengths t_signs z10) := hw.sub [2, 0, 1, 3] (by decide) rfl
              exact b_X10_goOn_114 F hret hlk (ih) hr hw (lv_sub hl [1, 2, 3, 4, 5, 6] rfl)
            · replace hr := (if_neg hc8).symm.trans hr
              refine lv_aload_n F.1 F.2.1 dX10_goOn_74 rfl (lv_at hl 1 rfl) ?_
              refine lv_iload_n F.1 F.2.1 dX10_goOn_75 rfl (lv_at hl 3 rfl) ?_
              refine lv_iload_n F.1 F.2.1 dX10_goOn_76 rfl (lv_at hl 4 rfl) ?_
              refine lv_aload_n F.1 F.2.1 dX10_goOn_77 rfl (lv_at hl 1 rfl) ?_
              refine gf_X10_15 F hw 0 rfl rfl dX10_goOn_78 ?_
              refine lv_iload F.1 F.2.1 dX10_goOn_81 (lv_at hl 6 rfl) ?_
              obtain ⟨hg12, hr⟩ := g_no hr
              refine ar_i F hw 1 rfl hg12 dX10_goOn_83 ?_
              refine lv_iadd F.1 F.2.1 dX10_goOn_84 ?_
              refine lv_aload_n F.1 F.2.1 dX10_goOn_85 rfl (lv_at hl 1 rfl) ?_
              refine gf_X10_22 F hw 0 rfl rfl dX10_goOn_86 ?_
              refine lv_iload_n F.1 F.2.1 dX10_goOn_89 rfl (lv_at hl 2 rfl) ?_
              obtain ⟨hg13, hr⟩ := g_no hr
              refine ar_i F hw 3 rfl hg13 dX10_goOn_90 ?_
              obtain ⟨z14, hz14, hr⟩ := Option.bind_eq_some_iff.mp hr
              refine call_o (wr := [(q_t_lengths, .inl (g 0, 8, .inl t_lengths)), (q_t_signs, .inl (g 0, 64, .inl t_signs))]) (run_V (As := [.int x2, .int (x3 + (t_lengths (x5).toNatClampNeg)), .int (t_fewestSigns (x1).toNatClampNeg)]) (rest := []) F k_X10_59 (c_X10_reach l dd g mv q_t q_t_fewestSigns ((.ref q_t_signs)) ((.ref q_t_lengths)) o_t_isSettled t_count t_fewestSigns x2 ((x3 + (t_lengths (x5).toNatClampNeg))) ((t_fewestSigns (x1).toNatClampNeg)) z14 hz14 _) hw [0, 3] (by decide) rfl (ci := 10) rfl rfl rfl rfl hl.1 rfl (Nat.le_of_ble_eq_true rfl) dX10_goOn_91 ⟨Nat.le_of_ble_eq_true rfl, Nat.le_of_ble_eq_true rfl⟩ ⟨Nat.le_of_ble_eq_true rfl, Nat.le_of_ble_eq_true rfl⟩) hw [0, 3] [1, 2] rfl rfl (by decide) (by decide) (fun u15 H locs hw => ?_)
              replace hw : Wd dd g mv A s H locs (w_X10_goOn g q_t q_t_lengths q_t_signs q_t_fewestSigns o_t_isSettled t_count t_lengths t_signs z14) := hw.sub [2, 0, 1, 3] (by decide) rfl
              refine lv_goto (tgt := 114) F.1 F.2.1 dX10_goOn_94 (by decide) ?_
              exact b_X10_goOn_114 F hret hlk (ih) hr hw (lv_sub hl [1, 2, 3, 4, 5, 6] rfl)
          · replace hr := (if_pos hc7).symm.trans hr
            refine lv_iconst (v := 1) F.1 F.2.1 dX10_goOn_67 (by decide) ?_
            cases hr
            exact ret_z (v := (1 : Int32)) () F hret hlk (by decide) hw (Nat.le_refl _) (Nat.le_refl _) dX10_goOn_68
set_option maxHeartbeats 4000000 in
set_option maxRecDepth 100000 in
theorem c_X10_goOn (l : Launch) (dd : va_G) (g : Nat → ClassId) (mv : Nat) (q_t : Nat) (q_t_lengths : Nat) (q_t_signs : Nat) (q_t_fewestSigns : Nat) (o_t_isSettled : Value) (t_count : Int32) (t_lengths : Nat → Int32) (t_signs : Nat → Int32) (t_fewestSigns : Nat → Int32) (a1 : Int32) (z : Int32 × (Nat → Int32)) (hr : f_X10_goOn t_count t_lengths t_signs t_fewestSigns a1 = some z) (sz : Nat) : Met l yX10_goOn (.code yX10_goOn cX10_goOn 7 (some .boolean) :: WS) (rmH 2 0 0) (va_Pc [.ref q_t, .int a1] (PW dd g mv (w_X10_goOn g q_t q_t_lengths q_t_signs q_t_fewestSigns o_t_isSettled t_count t_lengths t_signs t_fewestSigns) sz)) (Qo dd g (some (.int z.1)) (fun u : Unit => (w_X10_goOn g q_t q_t_lengths q_t_signs q_t_fewestSigns o_t_isSettled t_count t_lengths t_signs z.2)) (va_A (w_X10_goOn g q_t q_t_lengths q_t_signs q_t_fewestSigns o_t_isSettled t_count t_lengths t_signs t_fewestSigns) sz)) 0 0 (va_A (w_X10_goOn g q_t q_t_lengths q_t_signs q_t_fewestSigns o_t_isSettled t_count t_lengths t_signs t_fewestSigns) sz) := by
  refine Met_intro (by decide) (Nat.le_of_ble_eq_true rfl) ?_
  intro p e s m below meth c A ls F hret hlk hin hw hl
  replace hl : lv_has ls 7 [(0, .ref q_t), (1, .int a1)] := hl
  refine lv_iload_n F.1 F.2.1 dX10_goOn_0 rfl (lv_at hl 1 rfl) ?_
  refine lv_bipush (v := 8) F.1 F.2.1 dX10_goOn_1 (by decide) ?_
  refine lv_idiv F.1 F.2.1 dX10_goOn_3 (by decide) ?_
  refine lv_istore_n (lv' := [(2, .int (a1 / (8 : Int32))), (0, .ref q_t), (1, .int a1)]) F.1 F.2.1 dX10_goOn_4 rfl hl (by decide) rfl (fun ls hl => ?_)
  refine lv_iload_n F.1 F.2.1 dX10_goOn_5 rfl (lv_at hl 2 rfl) ?_
  refine lv_bipush (v := 8) F.1 F.2.1 dX10_goOn_6 (by decide) ?_
  refine lv_irem F.1 F.2.1 dX10_goOn_8 (by decide) ?_
  refine lv_istore_n (lv' := [(3, .int (a1 - a1 / (8 : Int32) * (8 : Int32))), (2, .int (a1 / (8 : Int32))), (0, .ref q_t), (1, .int a1)]) F.1 F.2.1 dX10_goOn_9 rfl hl (by decide) rfl (fun ls hl => ?_)
  refine lv_aload_n F.1 F.2.1 dX10_goOn_10 rfl (lv_at hl 2 rfl) ?_
  refine gf_X10_15 F hw 0 rfl rfl dX10_goOn_11 ?_
  refine lv_iload_n F.1 F.2.1 dX10_goOn_14 rfl (lv_at hl 1 rfl) ?_
  obtain ⟨hg16, hr⟩ := g_no hr
  refine ar_i F hw 1 rfl hg16 dX10_goOn_15 ?_
  refine lv_iload_n F.1 F.2.1 dX10_goOn_16 rfl (lv_at hl 0 rfl) ?_
  refine lv_isub F.1 F.2.1 dX10_goOn_17 ?_
  refine lv_istore (lv' := [(4, .int ((t_lengths ((a1 / (8 : Int32))).toNatClampNeg) - (a1 - a1 / (8 : Int32) * (8 : Int32)))), (3, .int (a1 - a1 / (8 : Int32) * (8 : Int32))), (2, .int (a1 / (8 : Int32))), (0, .ref q_t), (1, .int a1)]) F.1 F.2.1 dX10_goOn_18 hl (by decide) rfl (fun ls hl => ?_)
  refine lv_iconst (v := 0) F.1 F.2.1 dX10_goOn_20 (by decide) ?_
  refine lv_istore (lv' := [(5, .int (0 : Int32)), (4, .int ((t_lengths ((a1 / (8 : Int32))).toNatClampNeg) - (a1 - a1 / (8 : Int32) * (8 : Int32)))), (3, .int (a1 - a1 / (8 : Int32) * (8 : Int32))), (2, .int (a1 / (8 : Int32))), (0, .ref q_t), (1, .int a1)]) F.1 F.2.1 dX10_goOn_21 hl (by decide) rfl (fun ls hl => ?_)
  exact b_X10_goOn_23 F hret hlk  fuel hr hw (lv_sub hl [4, 5, 3, 2, 1, 0] rfl)
set_option maxHeartbeats 4000000 in
set_option maxRecDepth 100000 in
theorem b_X10_nearest_42 {q_t q_t_isSettled q_t_fewestSigns : Nat} {z : Int32} (F : Fx p m c cX10_nearest 4 s args RX10) (hret : meth.sig.returnType = some .int) (hlk : meth.locks = false) {k8 : Int32 → Int32 → Int32 → (Nat → Int32) → (Nat → Int32) → Option (Int32)} (hk8 : ∀ {x1 : Int32} {x2 : Int32} {x3 : Int32} {t_isSettled : Nat → Int32} {t_fewestSigns : Nat → Int32} {t_count : Int32} {o_t_signs : Value} {o_t_lengths : Value} {H : Heap} {locs : List Loc} {ls : Array Slot}, k8 x1 x2 x3 t_isSettled t_fewestSigns = some z → Wd dd g mv A s H locs (w_X10_nearest g q_t q_t_isSettled q_t_fewestSigns o_t_signs o_t_lengths t_count t_isSettled t_fewestSigns) → lv_has ls 4 [(0, .ref q_t), (1, .int x1), (2, .int x2), (3, .int x3)] → W p l e (rmH (0) 0 0) s m args below meth c H locs 0 0 (MQ below (Qo dd g (some (.int z)) (fun u : Unit => (w_X10_nearest g q_t q_t_isSettled q_t_fewestSigns o_t_signs o_t_lengths t_count t_isSettled t_fewestSigns)) A) args s 0 0 A) (F0 m 8 ls [])) : ∀ {x1 : Int32} {x2 : Int32} {x3 : Int32} {t_isSettled : Nat → Int32} {t_fewestSigns : Nat → Int32} {t_count : Int32} {o_t_signs : Value} {o_t_lengths : Value} {H : Heap} {locs : List Loc} {ls : Array Slot}, f_X10_nearest_42 k8 x1 x2 x3 t_isSettled t_fewestSigns = some z → Wd dd g mv A s H locs (w_X10_nearest g q_t q_t_isSettled q_t_fewestSigns o_t_signs o_t_lengths t_count t_isSettled t_fewestSigns) → lv_has ls 4 [(0, .ref q_t), (1, .int x1), (2, .int x2), (3, .int x3)] → W p l e (rmH (0) 0 0) s m args below meth c H locs 0 0 (MQ below (Qo dd g (some (.int z)) (fun u : Unit => (w_X10_nearest g q_t q_t_isSettled q_t_fewestSigns o_t_signs o_t_lengths t_count t_isSettled t_fewestSigns)) A) args s 0 0 A) (F0 m 42 ls []) := by
  intro x1 x2 x3 t_isSettled t_fewestSigns t_count o_t_signs o_t_lengths H locs ls hr hw hl
  refine lv_iinc (v := (x3 + 1)) (lv' := [(3, .int (x3 + 1)), (0, .ref q_t), (1, .int x1), (2, .int x2)]) F.1 F.2.1 dX10_nearest_42 hl (k := 3) rfl rfl (by decide) rfl (fun ls hl => ?_)
  refine lv_goto (tgt := 8) F.1 F.2.1 dX10_nearest_45 (by decide) ?_
  exact hk8 hr hw (lv_sub hl [1, 2, 3, 0] rfl)
set_option maxHeartbeats 4000000 in
set_option maxRecDepth 100000 in
theorem b_X10_nearest_8 {q_t q_t_isSettled q_t_fewestSigns : Nat} {z : Int32} (F : Fx p m c cX10_nearest 4 s args RX10) (hret : meth.sig.returnType = some .int) (hlk : meth.locks = false) : ∀ (n : Nat), ∀ {x1 : Int32} {x2 : Int32} {x3 : Int32} {t_isSettled : Nat → Int32} {t_fewestSigns : Nat → Int32} {t_count : Int32} {o_t_signs : Value} {o_t_lengths : Value} {H : Heap} {locs : List Loc} {ls : Array Slot}, f_X10_nearest_8  n x1 x2 x3 t_isSettled t_fewestSigns = some z → Wd dd g mv A s H locs (w_X10_nearest g q_t q_t_isSettled q_t_fewestSigns o_t_signs o_t_lengths t_count t_isSettled t_fewestSigns) → lv_has ls 4 [(0, .ref q_t), (1, .int x1), (2, .int x2), (3, .int x3)] → W p l e (rmH (0) 0 0) s m args below meth c H locs 0 0 (MQ below (Qo dd g (some (.int z)) (fun u : Unit => (w_X10_nearest g q_t q_t_isSettled q_t_fewestSigns o_t_signs o_t_lengths t_count t_isSettled t_fewestSigns)) A) args s 0 0 A) (F0 m 8 ls []) := by
  intro n
  induction n with
  | zero =>
    intros
    rename_i hr _ _
    cases hr
  | succ n ih =>
    intro x1 x2 x3 t_isSettled t_fewestSigns t_count o_t_signs o_t_lengths H locs ls hr hw hl
    refine lv_iload_n F.1 F.2.1 dX10_nearest_8 rfl (lv_at hl 3 rfl) ?_
    refine lv_bipush (v := 64) F.1 F.2.1 dX10_nearest_9 (by decide) ?_
    refine lv_icmp_ge (tgt := 48) F.1 F.2.1 dX10_nearest_11 (by decide) (fun hc1 => ?_) (fun hc1 => ?_)
    · replace hr := (if_pos hc1).symm.trans hr
      refine lv_iload_n F.1 F.2.1 dX10_nearest_48 rfl (lv_at hl 1 rfl) ?_
      cases hr
      exact ret_i () F hret hlk hw (Nat.le_refl _) (Nat.le_refl _) dX10_nearest_49
    · replace hr := (if_neg hc1).symm.trans hr
      refine lv_aload_n F.1 F.2.1 dX10_nearest_14 rfl (lv_at hl 0 rfl) ?_
      refine gf_X10_25 F hw 0 rfl rfl dX10_nearest_15 ?_
      refine lv_iload_n F.1 F.2.1 dX10_nearest_18 rfl (lv_at hl 3 rfl) ?_
      obtain ⟨hg2, hr⟩ := g_no hr
      refine ar_z F hw 1 rfl hg2 dX10_nearest_19 ?_
      refine lv_if_ne (tgt := 42) F.1 F.2.1 dX10_nearest_20 (by decide) (fun hc3 => ?_) (fun hc3 => ?_)
      · replace hr := (if_neg hc3).symm.trans hr
        exact b_X10_nearest_42 F hret hlk (ih) hr hw (lv_sub hl [0, 1, 2, 3] rfl)
      · replace hr := (if_pos hc3).symm.trans hr
        refine lv_aload_n F.1 F.2.1 dX10_nearest_23 rfl (lv_at hl 0 rfl) ?_
        refine gf_X10_22 F hw 0 rfl rfl dX10_nearest_24 ?_
        refine lv_iload_n F.1 F.2.1 dX10_nearest_27 rfl (lv_at hl 3 rfl) ?_
        obtain ⟨hg4, hr⟩ := g_no hr
        refine ar_i F hw 2 rfl hg4 dX10_nearest_28 ?_
        refine lv_iload_n F.1 F.2.1 dX10_nearest_29 rfl (lv_at hl 2 rfl) ?_
        refine lv_icmp_ge (tgt := 42) F.1 F.2.1 dX10_nearest_30 (by decide) (fun hc5 => ?_) (fun hc5 => ?_)
        · replace hr := (if_pos hc5).symm.trans hr
          exact b_X10_nearest_42 F hret hlk (ih) hr hw (lv_sub hl [0, 1, 2, 3] rfl)
        · replace hr := (if_neg hc5).symm.trans hr
          refine lv_aload_n F.1 F.2.1 dX10_nearest_33 rfl (lv_at hl 0 rfl) ?_
          refine gf_X10_22 F hw 0 rfl rfl dX10_nearest_34 ?_
          refine lv_iload_n F.1 F.2.1 dX10_nearest_37 rfl (lv_at hl 3 rfl) ?_
          obtain ⟨hg6, hr⟩ := g_no hr
          refine ar_i F hw 2 rfl hg6 dX10_nearest_38 ?_
          refine lv_istore_n (lv' := [(2, .int (t_fewestSigns (x3).toNatClampNeg)), (0, .ref q_t), (1, .int x1), (3, .int x3)]) F.1 F.2.1 dX10_nearest_39 rfl hl (by decide) rfl (fun ls hl => ?_)
          refine lv_iload_n F.1 F.2.1 dX10_nearest_40 rfl (lv_at hl 3 rfl) ?_
          refine lv_istore_n (lv' := [(1, .int x3), (2, .int (t_fewestSigns (x3).toNatClampNeg)), (0, .ref q_t), (3, .int x3)]) F.1 F.2.1 dX10_nearest_41 rfl hl (by decide) rfl (fun ls hl => ?_)
          exact b_X10_nearest_42 F hret hlk (ih) hr hw (lv_sub hl [2, 0, 1, 3] rfl)
set_option maxHeartbeats 4000000 in
set_option maxRecDepth 100000 in
theorem c_X10_nearest (l : Launch) (dd : va_G) (g : Nat → ClassId) (mv : Nat) (q_t : Nat) (q_t_isSettled : Nat) (q_t_fewestSigns : Nat) (o_t_signs : Value) (o_t_lengths : Value) (t_count : Int32) (t_isSettled : Nat → Int32) (t_fewestSigns : Nat → Int32) (z : Int32) (hr : f_X10_nearest t_isSettled t_fewestSigns = some z) (sz : Nat) : Met l yX10_nearest (.code yX10_nearest cX10_nearest 4 (some .int) :: WS) (rmH 0 0 0) (va_Pc [.ref q_t] (PW dd g mv (w_X10_nearest g q_t q_t_isSettled q_t_fewestSigns o_t_signs o_t_lengths t_count t_isSettled t_fewestSigns) sz)) (Qo dd g (some (.int z)) (fun u : Unit => (w_X10_nearest g q_t q_t_isSettled q_t_fewestSigns o_t_signs o_t_lengths t_count t_isSettled t_fewestSigns)) (va_A (w_X10_nearest g q_t q_t_isSettled q_t_fewestSigns o_t_signs o_t_lengths t_count t_isSettled t_fewestSigns) sz)) 0 0 (va_A (w_X10_nearest g q_t q_t_isSettled q_t_fewestSigns o_t_signs o_t_lengths t_count t_isSettled t_fewestSigns) sz) := by
  refine Met_intro (by decide) (Nat.le_of_ble_eq_true rfl) ?_
  intro p e s m below meth c A ls F hret hlk hin hw hl
  replace hl : lv_has ls 4 [(0, .ref q_t)] := hl
  refine lv_bipush (v := -6) F.1 F.2.1 dX10_nearest_0 (by decide) ?_
  refine lv_istore_n (lv' := [(1, .int (-6 : Int32)), (0, .ref q_t)]) F.1 F.2.1 dX10_nearest_2 rfl hl (by decide) rfl (fun ls hl => ?_)
  refine lv_ldc F.1 F.2.1 F.2.2.2.1 (F.2.2.2.2 _ cl_X10_58) dX10_nearest_3 ?_
  refine lv_istore_n (lv' := [(2, .int (1000000 : Int32)), (1, .int (-6 : Int32)), (0, .ref q_t)]) F.1 F.2.1 dX10_nearest_5 rfl hl (by decide) rfl (fun ls hl => ?_)
  refine lv_iconst (v := 0) F.1 F.2.1 dX10_nearest_6 (by decide) ?_
  refine lv_istore_n (lv' := [(3, .int (0 : Int32)), (2, .int (1000000 : Int32)), (1, .int (-6 : Int32)), (0, .ref q_t)]) F.1 F.2.1 dX10_nearest_7 rfl hl (by decide) rfl (fun ls hl => ?_)
  exact b_X10_nearest_8 F hret hlk  fuel hr hw (lv_sub hl [3, 2, 1, 0] rfl)
set_option maxHeartbeats 4000000 in
set_option maxRecDepth 100000 in
theorem b_X10_startUnlike_103 {q_t q_t_fewestSigns q_t_isSettled q_t_lengths q_t_signs : Nat} {z : (Nat → Int32) × (Nat → Int32)} (F : Fx p m c cX10_startUnlike 3 s args RX10) (hret : meth.sig.returnType = none) (hlk : meth.locks = false) {k31 : Int32 → Int32 → (Nat → Int32) → (Nat → Int32) → (Nat → Int32) → (Nat → Int32) → Option ((Nat → Int32) × (Nat → Int32))} {k47 : Int32 → Int32 → Int32 → (Nat → Int32) → (Nat → Int32) → (Nat → Int32) → (Nat → Int32) → Option ((Nat → Int32) × (Nat → Int32))} (hk31 : ∀ {x1 : Int32} {t_count : Int32} {t_fewestSigns : Nat → Int32} {t_isSettled : Nat → Int32} {t_lengths : Nat → Int32} {t_signs : Nat → Int32} {H : Heap} {locs : List Loc} {ls : Array Slot}, k31 x1 t_count t_fewestSigns t_isSettled t_lengths t_signs = some z → Wd dd g mv A s H locs (w_X10_startUnlike g q_t q_t_fewestSigns q_t_isSettled q_t_lengths q_t_signs t_count t_fewestSigns t_isSettled t_lengths t_signs) → lv_has ls 3 [(0, .ref q_t), (1, .int x1)] → W p l e (rmH (2) 0 0) s m args below meth c H locs 0 0 (MQ below (Qo dd g none (fun u : Unit => (w_X10_startUnlike g q_t q_t_fewestSigns q_t_isSettled q_t_lengths q_t_signs t_count z.1 z.2 t_lengths t_signs)) A) args s 0 0 A) (F0 m 31 ls [])) (hk47 : ∀ {x1 : Int32} {x2 : Int32} {t_count : Int32} {t_fewestSigns : Nat → Int32} {t_isSettled : Nat → Int32} {t_lengths : Nat → Int32} {t_signs : Nat → Int32} {H : Heap} {locs : List Loc} {ls : Array Slot}, k47 x1 x2 t_count t_fewestSigns t_isSettled t_lengths t_signs = some z → Wd dd g mv A s H locs (w_X10_startUnlike g q_t q_t_fewestSigns q_t_isSettled q_t_lengths q_t_signs t_count t_fewestSigns t_isSettled t_lengths t_signs) → lv_has ls 3 [(0, .ref q_t), (1, .int x1), (2, .int x2)] → W p l e (rmH (2) 0 0) s m args below meth c H locs 0 0 (MQ below (Qo dd g none (fun u : Unit => (w_X10_startUnlike g q_t q_t_fewestSigns q_t_isSettled q_t_lengths q_t_signs t_count z.1 z.2 t_lengths t_signs)) A) args s 0 0 A) (F0 m 47 ls [])) : ∀ {x1 : Int32} {x2 : Int32} {t_count : Int32} {t_fewestSigns : Nat → Int32} {t_isSettled : Nat → Int32} {t_lengths : Nat → Int32} {t_signs : Nat → Int32} {H : Heap} {locs : List Loc} {ls : Array Slot}, f_X10_startUnlike_103 k31 k47 x1 x2 t_count t_fewestSigns t_isSettled t_lengths t_signs = some z → Wd dd g mv A s H locs (w_X10_startUnlike g q_t q_t_fewestSigns q_t_isSettled q_t_lengths q_t_signs t_count t_fewestSigns t_isSettled t_lengths t_signs) → lv_has ls 3 [(0, .ref q_t), (1, .int x1), (2, .int x2)] → W p l e (rmH (2) 0 0) s m args below meth c H locs 0 0 (MQ below (Qo dd g none (fun u : Unit => (w_X10_startUnlike g q_t q_t_fewestSigns q_t_isSettled q_t_lengths q_t_signs t_count z.1 z.2 t_lengths t_signs)) A) args s 0 0 A) (F0 m 103 ls []) := by
  intro x1 x2 t_count t_fewestSigns t_isSettled t_lengths t_signs H locs ls hr hw hl
  refine lv_iinc (v := (x2 + 1)) (lv' := [(2, .int (x2 + 1)), (0, .ref q_t), (1, .int x1)]) F.1 F.2.1 dX10_startUnlike_103 hl (k := 2) rfl rfl (by decide) rfl (fun ls hl => ?_)
  refine lv_goto (tgt := 47) F.1 F.2.1 dX10_startUnlike_106 (by decide) ?_
  exact hk47 hr hw (lv_sub hl [1, 2, 0] rfl)
set_option maxHeartbeats 4000000 in
set_option maxRecDepth 100000 in
theorem b_X10_startUnlike_109 {q_t q_t_fewestSigns q_t_isSettled q_t_lengths q_t_signs : Nat} {z : (Nat → Int32) × (Nat → Int32)} (F : Fx p m c cX10_startUnlike 3 s args RX10) (hret : meth.sig.returnType = none) (hlk : meth.locks = false) {k31 : Int32 → Int32 → (Nat → Int32) → (Nat → Int32) → (Nat → Int32) → (Nat → Int32) → Option ((Nat → Int32) × (Nat → Int32))} (hk31 : ∀ {x1 : Int32} {t_count : Int32} {t_fewestSigns : Nat → Int32} {t_isSettled : Nat → Int32} {t_lengths : Nat → Int32} {t_signs : Nat → Int32} {H : Heap} {locs : List Loc} {ls : Array Slot}, k31 x1 t_count t_fewestSigns t_isSettled t_lengths t_signs = some z → Wd dd g mv A s H locs (w_X10_startUnlike g q_t q_t_fewestSigns q_t_isSettled q_t_lengths q_t_signs t_count t_fewestSigns t_isSettled t_lengths t_signs) → lv_has ls 3 [(0, .ref q_t), (1, .int x1)] → W p l e (rmH (2) 0 0) s m args below meth c H locs 0 0 (MQ below (Qo dd g none (fun u : Unit => (w_X10_startUnlike g q_t q_t_fewestSigns q_t_isSettled q_t_lengths q_t_signs t_count z.1 z.2 t_lengths t_signs)) A) args s 0 0 A) (F0 m 31 ls [])) : ∀ {x1 : Int32} {t_count : Int32} {t_fewestSigns : Nat → Int32} {t_isSettled : Nat → Int32} {t_lengths : Nat → Int32} {t_signs : Nat → Int32} {H : Heap} {locs : List Loc} {ls : Array Slot}, f_X10_startUnlike_109 k31 x1 t_count t_fewestSigns t_isSettled t_lengths t_signs = some z → Wd dd g mv A s H locs (w_X10_startUnlike g q_t q_t_fewestSigns q_t_isSettled q_t_lengths q_t_signs t_count t_fewestSigns t_isSettled t_lengths t_signs) → lv_has ls 3 [(0, .ref q_t), (1, .int x1)] → W p l e (rmH (2) 0 0) s m args below meth c H locs 0 0 (MQ below (Qo dd g none (fun u : Unit => (w_X10_startUnlike g q_t q_t_fewestSigns q_t_isSettled q_t_lengths q_t_signs t_count z.1 z.2 t_lengths t_signs)) A) args s 0 0 A) (F0 m 109 ls []) := by
  intro x1 t_count t_fewestSigns t_isSettled t_lengths t_signs H locs ls hr hw hl
  refine lv_iinc (v := (x1 + 1)) (lv' := [(1, .int (x1 + 1)), (0, .ref q_t)]) F.1 F.2.1 dX10_startUnlike_109 hl (k := 1) rfl rfl (by decide) rfl (fun ls hl => ?_)
  refine lv_goto (tgt := 31) F.1 F.2.1 dX10_startUnlike_112 (by decide) ?_
  exact hk31 hr hw (lv_sub hl [1, 0] rfl)
set_option maxHeartbeats 4000000 in
set_option maxRecDepth 100000 in
theorem b_X10_startUnlike_47 {q_t q_t_fewestSigns q_t_isSettled q_t_lengths q_t_signs : Nat} {z : (Nat → Int32) × (Nat → Int32)} (F : Fx p m c cX10_startUnlike 3 s args RX10) (hret : meth.sig.returnType = none) (hlk : meth.locks = false) {k31 : Int32 → Int32 → (Nat → Int32) → (Nat → Int32) → (Nat → Int32) → (Nat → Int32) → Option ((Nat → Int32) × (Nat → Int32))} (hk31 : ∀ {x1 : Int32} {t_count : Int32} {t_fewestSigns : Nat → Int32} {t_isSettled : Nat → Int32} {t_lengths : Nat → Int32} {t_signs : Nat → Int32} {H : Heap} {locs : List Loc} {ls : Array Slot}, k31 x1 t_count t_fewestSigns t_isSettled t_lengths t_signs = some z → Wd dd g mv A s H locs (w_X10_startUnlike g q_t q_t_fewestSigns q_t_isSettled q_t_lengths q_t_signs t_count t_fewestSigns t_isSettled t_lengths t_signs) → lv_has ls 3 [(0, .ref q_t), (1, .int x1)] → W p l e (rmH (2) 0 0) s m args below meth c H locs 0 0 (MQ below (Qo dd g none (fun u : Unit => (w_X10_startUnlike g q_t q_t_fewestSigns q_t_isSettled q_t_lengths q_t_signs t_count z.1 z.2 t_lengths t_signs)) A) args s 0 0 A) (F0 m 31 ls [])) : ∀ (n : Nat), ∀ {x1 : Int32} {x2 : Int32} {t_count : Int32} {t_fewestSigns : Nat → Int32} {t_isSettled : Nat → Int32} {t_lengths : Nat → Int32} {t_signs : Nat → Int32} {H : Heap} {locs : List Loc} {ls : Array Slot}, f_X10_startUnlike_47 k31 n x1 x2 t_count t_fewestSigns t_isSettled t_lengths t_signs = some z → Wd dd g mv A s H locs (w_X10_startUnlike g q_t q_t_fewestSigns q_t_isSettled q_t_lengths q_t_signs t_count t_fewestSigns t_isSettled t_lengths t_signs) → lv_has ls 3 [(0, .ref q_t), (1, .int x1), (2, .int x2)] → W p l e (rmH (2) 0 0) s m args below meth c H locs 0 0 (MQ below (Qo dd g none (fun u : Unit => (w_X10_startUnlike g q_t q_t_fewestSigns q_t_isSettled q_t_lengths q_t_signs t_count z.1 z.2 t_lengths t_signs)) A) args s 0 0 A) (F0 m 47 ls []) := by
  intro n
  induction n with
  | zero =>
    intros
    rename_i hr _ _
    cases hr
  | succ n ih =>
    intro x1 x2 t_count t_fewestSigns t_isSettled t_lengths t_signs H locs ls hr hw hl
    refine lv_iload_n F.1 F.2.1 dX10_startUnlike_47 rfl (lv_at hl 2 rfl) ?_
    refine lv_aload_n F.1 F.2.1 dX10_startUnlike_48 rfl (lv_at hl 0 rfl) ?_
    refine gf_X10_18 F hw 0 rfl rfl dX10_startUnlike_49 ?_
    refine lv_icmp_ge (tgt := 109) F.1 F.2.1 dX10_startUnlike_52 (by decide) (fun hc1 => ?_) (fun hc1 => ?_)
    · replace hr := (if_pos hc1).symm.trans hr
      exact b_X10_startUnlike_109 F hret hlk (hk31) hr hw (lv_sub hl [0, 1] rfl)
    · replace hr := (if_neg hc1).symm.trans hr
      refine lv_iload_n F.1 F.2.1 dX10_startUnlike_55 rfl (lv_at hl 2 rfl) ?_
      refine lv_bipush (v := 8) F.1 F.2.1 dX10_startUnlike_56 (by decide) ?_
      refine lv_icmp_ge (tgt := 109) F.1 F.2.1 dX10_startUnlike_58 (by decide) (fun hc2 => ?_) (fun hc2 => ?_)
      · replace hr := (if_pos hc2).symm.trans hr
        exact b_X10_startUnlike_109 F hret hlk (hk31) hr hw (lv_sub hl [0, 1] rfl)
      · replace hr := (if_neg hc2).symm.trans hr
        refine lv_aload_n F.1 F.2.1 dX10_startUnlike_61 rfl (lv_at hl 0 rfl) ?_
        refine gf_X10_15 F hw 0 rfl rfl dX10_startUnlike_62 ?_
        refine lv_iload_n F.1 F.2.1 dX10_startUnlike_65 rfl (lv_at hl 1 rfl) ?_
        obtain ⟨hg3, hr⟩ := g_no hr
        refine ar_i F hw 3 rfl hg3 dX10_startUnlike_66 ?_
        refine lv_aload_n F.1 F.2.1 dX10_startUnlike_67 rfl (lv_at hl 0 rfl) ?_
        refine gf_X10_15 F hw 0 rfl rfl dX10_startUnlike_68 ?_
        refine lv_iload_n F.1 F.2.1 dX10_startUnlike_71 rfl (lv_at hl 2 rfl) ?_
        obtain ⟨hg4, hr⟩ := g_no hr
        refine ar_i F hw 3 rfl hg4 dX10_startUnlike_72 ?_
        refine lv_icmp_ge (tgt := 103) F.1 F.2.1 dX10_startUnlike_73 (by decide) (fun hc5 => ?_) (fun hc5 => ?_)
        · replace hr := (if_pos hc5).symm.trans hr
          exact b_X10_startUnlike_103 F hret hlk (hk31) (ih) hr hw (lv_sub hl [0, 1, 2] rfl)
        · replace hr := (if_neg hc5).symm.trans hr
          refine lv_aload_n F.1 F.2.1 dX10_startUnlike_76 rfl (lv_at hl 0 rfl) ?_
          refine lv_iload_n F.1 F.2.1 dX10_startUnlike_77 rfl (lv_at hl 2 rfl) ?_
          refine lv_iconst (v := 0) F.1 F.2.1 dX10_startUnlike_78 (by decide) ?_
          refine lv_iload_n F.1 F.2.1 dX10_startUnlike_79 rfl (lv_at hl 1 rfl) ?_
          obtain ⟨z6, hz6, hr⟩ := Option.bind_eq_some_iff.mp hr
          refine call_o (wr := [(q_t_fewestSigns, .inl (g 0, 64, .inl t_fewestSigns)), (q_t_isSettled, .inl (g 2, 64, .inl t_isSettled))]) (run_V (As := [.int x2, .int (0 : Int32), .int x1]) (rest := []) F k_X10_43 (c_X10_agree l dd g mv q_t q_t_lengths q_t_signs ((.ref q_t_fewestSigns)) ((.ref q_t_isSettled)) t_count t_lengths t_signs x2 ((0 : Int32)) x1 z6 hz6 _) hw [0, 3, 4] (by decide) rfl (ci := 10) rfl rfl rfl rfl hl.1 rfl (Nat.le_of_ble_eq_true rfl) dX10_startUnlike_80 ⟨Nat.le_of_ble_eq_true rfl, Nat.le_of_ble_eq_true rfl⟩ ⟨Nat.le_of_ble_eq_true rfl, Nat.le_of_ble_eq_true rfl⟩) hw [0, 3, 4] [1, 2] rfl rfl (by decide) (by decide) (fun u7 H locs hw => ?_)
          replace hw : Wd dd g mv A s H locs (w_X10_startUnlike g q_t q_t_fewestSigns q_t_isSettled q_t_lengths q_t_signs t_count t_fewestSigns t_isSettled t_lengths t_signs) := hw.sub [2, 0, 1, 3, 4] (by decide) rfl
          refine W.eq (g2 := F0 m 83 ls (.int z6 :: [])) rfl ?_
          refine lv_if_eq (tgt := 103) F.1 F.2.1 dX10_startUnlike_83 (by decide) (fun hc8 => ?_) (fun hc8 => ?_)
          · replace hr := (if_pos hc8).symm.trans hr
            exact b_X10_startUnlike_103 F hret hlk (hk31) (ih) hr hw (lv_sub hl [0, 1, 2] rfl)
          · replace hr := (if_neg hc8).symm.trans hr
            refine lv_aload_n F.1 F.2.1 dX10_startUnlike_86 rfl (lv_at hl 0 rfl) ?_
            refine lv_iload_n F.1 F.2.1 dX10_startUnlike_87 rfl (lv_at hl 2 rfl) ?_
            refine lv_aload_n F.1 F.2.1 dX10_startUnlike_88 rfl (lv_at hl 0 rfl) ?_
            refine gf_X10_15 F hw 0 rfl rfl dX10_startUnlike_89 ?_
            refine lv_iload_n F.1 F.2.1 dX10_startUnlike_92 rfl (lv_at hl 1 rfl) ?_
            obtain ⟨hg9, hr⟩ := g_no hr
            refine ar_i F hw 3 rfl hg9 dX10_startUnlike_93 ?_
            refine lv_aload_n F.1 F.2.1 dX10_startUnlike_94 rfl (lv_at hl 0 rfl) ?_
            refine gf_X10_15 F hw 0 rfl rfl dX10_startUnlike_95 ?_
            refine lv_iload_n F.1 F.2.1 dX10_startUnlike_98 rfl (lv_at hl 2 rfl) ?_
            obtain ⟨hg10, hr⟩ := g_no hr
            refine ar_i F hw 3 rfl hg10 dX10_startUnlike_99 ?_
            obtain ⟨z11, hz11, hr⟩ := Option.bind_eq_some_iff.mp hr
            refine call_o (wr := [(q_t_isSettled, .inl (g 2, 64, .inl t_isSettled)), (q_t_lengths, .inl (g 0, 8, .inl t_lengths)), (q_t_signs, .inl (g 0, 64, .inl t_signs))]) (run_V (As := [.int x2, .int (t_lengths (x1).toNatClampNeg), .int (t_lengths (x2).toNatClampNeg)]) (rest := []) F k_X10_59 (c_X10_reach l dd g mv q_t q_t_fewestSigns ((.ref q_t_signs)) ((.ref q_t_lengths)) ((.ref q_t_isSettled)) t_count t_fewestSigns x2 ((t_lengths (x1).toNatClampNeg)) ((t_lengths (x2).toNatClampNeg)) z11 hz11 _) hw [0, 1] (by decide) rfl (ci := 10) rfl rfl rfl rfl hl.1 rfl (Nat.le_of_ble_eq_true rfl) dX10_startUnlike_100 ⟨Nat.le_of_ble_eq_true rfl, Nat.le_of_ble_eq_true rfl⟩ ⟨Nat.le_of_ble_eq_true rfl, Nat.le_of_ble_eq_true rfl⟩) hw [0, 1] [2, 3, 4] rfl rfl (by decide) (by decide) (fun u12 H locs hw => ?_)
            replace hw : Wd dd g mv A s H locs (w_X10_startUnlike g q_t q_t_fewestSigns q_t_isSettled q_t_lengths q_t_signs t_count z11 t_isSettled t_lengths t_signs) := hw.sub [3, 4, 0, 1, 2] (by decide) rfl
            exact b_X10_startUnlike_103 F hret hlk (hk31) (ih) hr hw (lv_sub hl [0, 1, 2] rfl)
set_option maxHeartbeats 4000000 in
set_option maxRecDepth 100000 in
theorem b_X10_startUnlike_31 {q_t q_t_fewestSigns q_t_isSettled q_t_lengths q_t_signs : Nat} {z : (Nat → Int32) × (Nat → Int32)} (F : Fx p m c cX10_startUnlike 3 s args RX10) (hret : meth.sig.returnType = none) (hlk : meth.locks = false) : ∀ (n : Nat), ∀ {x1 : Int32} {t_count : Int32} {t_fewestSigns : Nat → Int32} {t_isSettled : Nat → Int32} {t_lengths : Nat → Int32} {t_signs : Nat → Int32} {H : Heap} {locs : List Loc} {ls : Array Slot}, f_X10_startUnlike_31  n x1 t_count t_fewestSigns t_isSettled t_lengths t_signs = some z → Wd dd g mv A s H locs (w_X10_startUnlike g q_t q_t_fewestSigns q_t_isSettled q_t_lengths q_t_signs t_count t_fewestSigns t_isSettled t_lengths t_signs) → lv_has ls 3 [(0, .ref q_t), (1, .int x1)] → W p l e (rmH (2) 0 0) s m args below meth c H locs 0 0 (MQ below (Qo dd g none (fun u : Unit => (w_X10_startUnlike g q_t q_t_fewestSigns q_t_isSettled q_t_lengths q_t_signs t_count z.1 z.2 t_lengths t_signs)) A) args s 0 0 A) (F0 m 31 ls []) := by
  intro n
  induction n with
  | zero =>
    intros
    rename_i hr _ _
    cases hr
  | succ n ih =>
    intro x1 t_count t_fewestSigns t_isSettled t_lengths t_signs H locs ls hr hw hl
    refine lv_iload_n F.1 F.2.1 dX10_startUnlike_31 rfl (lv_at hl 1 rfl) ?_
    refine lv_aload_n F.1 F.2.1 dX10_startUnlike_32 rfl (lv_at hl 0 rfl) ?_
    refine gf_X10_18 F hw 0 rfl rfl dX10_startUnlike_33 ?_
    refine lv_icmp_ge (tgt := 115) F.1 F.2.1 dX10_startUnlike_36 (by decide) (fun hc13 => ?_) (fun hc13 => ?_)
    · replace hr := (if_pos hc13).symm.trans hr
      cases hr
      exact ret_v () F hret hlk hw (Nat.le_refl _) (Nat.le_refl _) dX10_startUnlike_115
    · replace hr := (if_neg hc13).symm.trans hr
      refine lv_iload_n F.1 F.2.1 dX10_startUnlike_39 rfl (lv_at hl 1 rfl) ?_
      refine lv_bipush (v := 8) F.1 F.2.1 dX10_startUnlike_40 (by decide) ?_
      refine lv_icmp_ge (tgt := 115) F.1 F.2.1 dX10_startUnlike_42 (by decide) (fun hc14 => ?_) (fun hc14 => ?_)
      · replace hr := (if_pos hc14).symm.trans hr
        cases hr
        exact ret_v () F hret hlk hw (Nat.le_refl _) (Nat.le_refl _) dX10_startUnlike_115
      · replace hr := (if_neg hc14).symm.trans hr
        refine lv_iconst (v := 0) F.1 F.2.1 dX10_startUnlike_45 (by decide) ?_
        refine lv_istore_n (lv' := [(2, .int (0 : Int32)), (0, .ref q_t), (1, .int x1)]) F.1 F.2.1 dX10_startUnlike_46 rfl hl (by decide) rfl (fun ls hl => ?_)
        exact b_X10_startUnlike_47 F hret hlk (ih) fuel hr hw (lv_sub hl [1, 2, 0] rfl)
set_option maxHeartbeats 4000000 in
set_option maxRecDepth 100000 in
theorem b_X10_startUnlike_2 {q_t q_t_fewestSigns q_t_isSettled q_t_lengths q_t_signs : Nat} {z : (Nat → Int32) × (Nat → Int32)} (F : Fx p m c cX10_startUnlike 3 s args RX10) (hret : meth.sig.returnType = none) (hlk : meth.locks = false) : ∀ (n : Nat), ∀ {x1 : Int32} {t_count : Int32} {t_fewestSigns : Nat → Int32} {t_isSettled : Nat → Int32} {t_lengths : Nat → Int32} {t_signs : Nat → Int32} {H : Heap} {locs : List Loc} {ls : Array Slot}, f_X10_startUnlike_2  n x1 t_count t_fewestSigns t_isSettled t_lengths t_signs = some z → Wd dd g mv A s H locs (w_X10_startUnlike g q_t q_t_fewestSigns q_t_isSettled q_t_lengths q_t_signs t_count t_fewestSigns t_isSettled t_lengths t_signs) → lv_has ls 3 [(0, .ref q_t), (1, .int x1)] → W p l e (rmH (2) 0 0) s m args below meth c H locs 0 0 (MQ below (Qo dd g none (fun u : Unit => (w_X10_startUnlike g q_t q_t_fewestSigns q_t_isSettled q_t_lengths q_t_signs t_count z.1 z.2 t_lengths t_signs)) A) args s 0 0 A) (F0 m 2 ls []) := by
  intro n
  induction n with
  | zero =>
    intros
    rename_i hr _ _
    cases hr
  | succ n ih =>
    intro x1 t_count t_fewestSigns t_isSettled t_lengths t_signs H locs ls hr hw hl
    refine lv_iload_n F.1 F.2.1 dX10_startUnlike_2 rfl (lv_at hl 1 rfl) ?_
    refine lv_bipush (v := 64) F.1 F.2.1 dX10_startUnlike_3 (by decide) ?_
    refine lv_icmp_ge (tgt := 29) F.1 F.2.1 dX10_startUnlike_5 (by decide) (fun hc15 => ?_) (fun hc15 => ?_)
    · replace hr := (if_pos hc15).symm.trans hr
      refine lv_iconst (v := 0) F.1 F.2.1 dX10_startUnlike_29 (by decide) ?_
      refine lv_istore_n (lv' := [(1, .int (0 : Int32)), (0, .ref q_t)]) F.1 F.2.1 dX10_startUnlike_30 rfl hl (by decide) rfl (fun ls hl => ?_)
      exact b_X10_startUnlike_31 F hret hlk  fuel hr hw (lv_sub hl [1, 0] rfl)
    · replace hr := (if_neg hc15).symm.trans hr
      refine lv_aload_n F.1 F.2.1 dX10_startUnlike_8 rfl (lv_at hl 0 rfl) ?_
      refine gf_X10_22 F hw 0 rfl rfl dX10_startUnlike_9 ?_
      refine lv_iload_n F.1 F.2.1 dX10_startUnlike_12 rfl (lv_at hl 1 rfl) ?_
      refine lv_ldc F.1 F.2.1 F.2.2.2.1 (F.2.2.2.2 _ cl_X10_58) dX10_startUnlike_13 ?_
      obtain ⟨hg16, hr⟩ := g_no hr
      refine aw_i F hw 1 rfl hg16 dX10_startUnlike_15 (fun H locs hw => ?_)
      replace hw : Wd dd g mv A s H locs (w_X10_startUnlike g q_t q_t_fewestSigns q_t_isSettled q_t_lengths q_t_signs t_count ((upd t_fewestSigns (x1).toNatClampNeg ((1000000 : Int32)))) t_isSettled t_lengths t_signs) := hw
      refine lv_aload_n F.1 F.2.1 dX10_startUnlike_16 rfl (lv_at hl 0 rfl) ?_
      refine gf_X10_25 F hw 0 rfl rfl dX10_startUnlike_17 ?_
      refine lv_iload_n F.1 F.2.1 dX10_startUnlike_20 rfl (lv_at hl 1 rfl) ?_
      refine lv_iconst (v := 0) F.1 F.2.1 dX10_startUnlike_21 (by decide) ?_
      obtain ⟨hg17, hr⟩ := g_no hr
      refine aw_z F hw 2 rfl hg17 dX10_startUnlike_22 (fun H locs hw => ?_)
      replace hw : Wd dd g mv A s H locs (w_X10_startUnlike g q_t q_t_fewestSigns q_t_isSettled q_t_lengths q_t_signs t_count ((upd t_fewestSigns (x1).toNatClampNeg ((1000000 : Int32)))) ((upd t_isSettled (x1).toNatClampNeg ((vp_nar .boolean ((0 : Int32)))))) t_lengths t_signs) := hw
      refine lv_iinc (v := (x1 + 1)) (lv' := [(1, .int (x1 + 1)), (0, .ref q_t)]) F.1 F.2.1 dX10_startUnlike_23 hl (k := 1) rfl rfl (by decide) rfl (fun ls hl => ?_)
      refine lv_goto (tgt := 2) F.1 F.2.1 dX10_startUnlike_26 (by decide) ?_
      exact ih hr hw (lv_sub hl [1, 0] rfl)
set_option maxHeartbeats 4000000 in
set_option maxRecDepth 100000 in
theorem c_X10_startUnlike (l : Launch) (dd : va_G) (g : Nat → ClassId) (mv : Nat) (q_t : Nat) (q_t_fewestSigns : Nat) (q_t_isSettled : Nat) (q_t_lengths : Nat) (q_t_signs : Nat) (t_count : Int32) (t_fewestSigns : Nat → Int32) (t_isSettled : Nat → Int32) (t_lengths : Nat → Int32) (t_signs : Nat → Int32) (z : (Nat → Int32) × (Nat → Int32)) (hr : f_X10_startUnlike t_count t_fewestSigns t_isSettled t_lengths t_signs = some z) (sz : Nat) : Met l yX10_startUnlike (.code yX10_startUnlike cX10_startUnlike 3 none :: WS) (rmH 2 0 0) (va_Pc [.ref q_t] (PW dd g mv (w_X10_startUnlike g q_t q_t_fewestSigns q_t_isSettled q_t_lengths q_t_signs t_count t_fewestSigns t_isSettled t_lengths t_signs) sz)) (Qo dd g none (fun u : Unit => (w_X10_startUnlike g q_t q_t_fewestSigns q_t_isSettled q_t_lengths q_t_signs t_count z.1 z.2 t_lengths t_signs)) (va_A (w_X10_startUnlike g q_t q_t_fewestSigns q_t_isSettled q_t_lengths q_t_signs t_count t_fewestSigns t_isSettled t_lengths t_signs) sz)) 0 0 (va_A (w_X10_startUnlike g q_t q_t_fewestSigns q_t_isSettled q_t_lengths q_t_signs t_count t_fewestSigns t_isSettled t_lengths t_signs) sz) := by
  refine Met_intro (by decide) (Nat.le_of_ble_eq_true rfl) ?_
  intro p e s m below meth c A ls F hret hlk hin hw hl
  replace hl : lv_has ls 3 [(0, .ref q_t)] := hl
  refine lv_iconst (v := 0) F.1 F.2.1 dX10_startUnlike_0 (by decide) ?_
  refine lv_istore_n (lv' := [(1, .int (0 : Int32)), (0, .ref q_t)]) F.1 F.2.1 dX10_startUnlike_1 rfl hl (by decide) rfl (fun ls hl => ?_)
  exact b_X10_startUnlike_2 F hret hlk  fuel hr hw (lv_sub hl [1, 0] rfl)
set_option maxHeartbeats 4000000 in
set_option maxRecDepth 100000 in
theorem b_X10_doubt_6 {q_t q_t_fewestSigns q_t_isSettled q_t_lengths q_t_signs : Nat} {z : Int32 × (Nat → Int32) × (Nat → Int32)} (F : Fx p m c cX10_doubt 3 s args RX10) (hret : meth.sig.returnType = some .int) (hlk : meth.locks = false) : ∀ (n : Nat), ∀ {x1 : Int32} {t_count : Int32} {t_fewestSigns : Nat → Int32} {t_isSettled : Nat → Int32} {t_lengths : Nat → Int32} {t_signs : Nat → Int32} {H : Heap} {locs : List Loc} {ls : Array Slot}, f_X10_doubt_6  n x1 t_count t_fewestSigns t_isSettled t_lengths t_signs = some z → Wd dd g mv A s H locs (w_X10_doubt g q_t q_t_fewestSigns q_t_isSettled q_t_lengths q_t_signs t_count t_fewestSigns t_isSettled t_lengths t_signs) → lv_has ls 3 [(0, .ref q_t), (1, .int x1)] → W p l e (rmH (3) 0 0) s m args below meth c H locs 0 0 (MQ below (Qo dd g (some (.int z.1)) (fun u : Unit => (w_X10_doubt g q_t q_t_fewestSigns q_t_isSettled q_t_lengths q_t_signs t_count z.2.1 z.2.2 t_lengths t_signs)) A) args s 0 0 A) (F0 m 6 ls []) := by
  intro n
  induction n with
  | zero =>
    intros
    rename_i hr _ _
    cases hr
  | succ n ih =>
    intro x1 t_count t_fewestSigns t_isSettled t_lengths t_signs H locs ls hr hw hl
    refine lv_iload_n F.1 F.2.1 dX10_doubt_6 rfl (lv_at hl 1 rfl) ?_
    refine lv_bipush (v := 64) F.1 F.2.1 dX10_doubt_7 (by decide) ?_
    refine lv_icmp_ge (tgt := 54) F.1 F.2.1 dX10_doubt_9 (by decide) (fun hc1 => ?_) (fun hc1 => ?_)
    · replace hr := (if_pos hc1).symm.trans hr
      refine lv_bipush (v := -6) F.1 F.2.1 dX10_doubt_54 (by decide) ?_
      cases hr
      exact ret_i () F hret hlk hw (Nat.le_refl _) (Nat.le_refl _) dX10_doubt_56
    · replace hr := (if_neg hc1).symm.trans hr
      refine lv_aload_n F.1 F.2.1 dX10_doubt_12 rfl (lv_at hl 0 rfl) ?_
      obtain ⟨z2, hz2, hr⟩ := Option.bind_eq_some_iff.mp hr
      refine call_o (wr := [(q_t_lengths, .inl (g 0, 8, .inl t_lengths)), (q_t_signs, .inl (g 0, 64, .inl t_signs))]) (run_V (As := []) (rest := []) F k_X10_50 (c_X10_nearest l dd g mv q_t q_t_isSettled q_t_fewestSigns ((.ref q_t_signs)) ((.ref q_t_lengths)) t_count t_isSettled t_fewestSigns z2 hz2 _) hw [0, 2, 1] (by decide) rfl (ci := 10) rfl rfl rfl rfl hl.1 rfl (Nat.le_of_ble_eq_true rfl) dX10_doubt_13 ⟨Nat.le_of_ble_eq_true rfl, Nat.le_of_ble_eq_true rfl⟩ ⟨Nat.le_of_ble_eq_true rfl, Nat.le_of_ble_eq_true rfl⟩) hw [0, 2, 1] [3, 4] rfl rfl (by decide) (by decide) (fun u3 H locs hw => ?_)
      replace hw : Wd dd g mv A s H locs (w_X10_doubt g q_t q_t_fewestSigns q_t_isSettled q_t_lengths q_t_signs t_count t_fewestSigns t_isSettled t_lengths t_signs) := hw.sub [2, 4, 3, 0, 1] (by decide) rfl
      refine W.eq (g2 := F0 m 16 ls (.int z2 :: [])) rfl ?_
      refine lv_istore_n (lv' := [(2, .int z2), (0, .ref q_t), (1, .int x1)]) F.1 F.2.1 dX10_doubt_16 rfl hl (by decide) rfl (fun ls hl => ?_)
      refine lv_iload_n F.1 F.2.1 dX10_doubt_17 rfl (lv_at hl 0 rfl) ?_
      refine lv_bipush (v := -6) F.1 F.2.1 dX10_doubt_18 (by decide) ?_
      refine lv_icmp_ne (tgt := 26) F.1 F.2.1 dX10_doubt_20 (by decide) (fun hc4 => ?_) (fun hc4 => ?_)
      · replace hr := (if_neg hc4).symm.trans hr
        refine lv_aload_n F.1 F.2.1 dX10_doubt_26 rfl (lv_at hl 1 rfl) ?_
        refine gf_X10_25 F hw 0 rfl rfl dX10_doubt_27 ?_
        refine lv_iload_n F.1 F.2.1 dX10_doubt_30 rfl (lv_at hl 0 rfl) ?_
        refine lv_iconst (v := 1) F.1 F.2.1 dX10_doubt_31 (by decide) ?_
        obtain ⟨hg5, hr⟩ := g_no hr
        refine aw_z F hw 2 rfl hg5 dX10_doubt_32 (fun H locs hw => ?_)
        replace hw : Wd dd g mv A s H locs (w_X10_doubt g q_t q_t_fewestSigns q_t_isSettled q_t_lengths q_t_signs t_count t_fewestSigns ((upd t_isSettled (z2).toNatClampNeg ((vp_nar .boolean ((1 : Int32)))))) t_lengths t_signs) := hw
        refine lv_aload_n F.1 F.2.1 dX10_doubt_33 rfl (lv_at hl 1 rfl) ?_
        refine lv_iload_n F.1 F.2.1 dX10_doubt_34 rfl (lv_at hl 0 rfl) ?_
        obtain ⟨z6, hz6, hr⟩ := Option.bind_eq_some_iff.mp hr
        refine call_o (wr := [(q_t_isSettled, .inl (g 2, 64, .inl ((upd t_isSettled (z2).toNatClampNeg ((vp_nar .boolean ((1 : Int32))))))))]) (run_V (As := [.int z2]) (rest := []) F k_X10_54 (c_X10_goOn l dd g mv q_t q_t_lengths q_t_signs q_t_fewestSigns ((.ref q_t_isSettled)) t_count t_lengths t_signs t_fewestSigns z2 z6 hz6 _) hw [0, 3, 4, 1] (by decide) rfl (ci := 10) rfl rfl rfl rfl hl.1 rfl (Nat.le_of_ble_eq_true rfl) dX10_doubt_35 ⟨Nat.le_of_ble_eq_true rfl, Nat.le_of_ble_eq_true rfl⟩ ⟨Nat.le_of_ble_eq_true rfl, Nat.le_of_ble_eq_true rfl⟩) hw [0, 3, 4, 1] [2] rfl rfl (by decide) (by decide) (fun u7 H locs hw => ?_)
        replace hw : Wd dd g mv A s H locs (w_X10_doubt g q_t q_t_fewestSigns q_t_isSettled q_t_lengths q_t_signs t_count z6.2 ((upd t_isSettled (z2).toNatClampNeg ((vp_nar .boolean ((1 : Int32)))))) t_lengths t_signs) := hw.sub [1, 4, 0, 2, 3] (by decide) rfl
        refine W.eq (g2 := F0 m 38 ls (.int z6.1 :: [])) rfl ?_
        refine lv_if_eq (tgt := 48) F.1 F.2.1 dX10_doubt_38 (by decide) (fun hc8 => ?_) (fun hc8 => ?_)
        · replace hr := (if_pos hc8).symm.trans hr
          refine lv_iinc (v := (x1 + 1)) (lv' := [(1, .int (x1 + 1)), (2, .int z2), (0, .ref q_t)]) F.1 F.2.1 dX10_doubt_48 hl (k := 2) rfl rfl (by decide) rfl (fun ls hl => ?_)
          refine lv_goto (tgt := 6) F.1 F.2.1 dX10_doubt_51 (by decide) ?_
          exact ih hr hw (lv_sub hl [2, 0] rfl)
        · replace hr := (if_neg hc8).symm.trans hr
          refine lv_aload_n F.1 F.2.1 dX10_doubt_41 rfl (lv_at hl 1 rfl) ?_
          refine gf_X10_22 F hw 0 rfl rfl dX10_doubt_42 ?_
          refine lv_iload_n F.1 F.2.1 dX10_doubt_45 rfl (lv_at hl 0 rfl) ?_
          obtain ⟨hg9, hr⟩ := g_no hr
          refine ar_i F hw 1 rfl hg9 dX10_doubt_46 ?_
          cases hr
          exact ret_i () F hret hlk hw (Nat.le_refl _) (Nat.le_refl _) dX10_doubt_47
      · replace hr := (if_pos hc4).symm.trans hr
        refine lv_bipush (v := -6) F.1 F.2.1 dX10_doubt_23 (by decide) ?_
        cases hr
        exact ret_i () F hret hlk hw (Nat.le_refl _) (Nat.le_refl _) dX10_doubt_25
set_option maxHeartbeats 4000000 in
set_option maxRecDepth 100000 in
theorem c_X10_doubt (l : Launch) (dd : va_G) (g : Nat → ClassId) (mv : Nat) (q_t : Nat) (q_t_fewestSigns : Nat) (q_t_isSettled : Nat) (q_t_lengths : Nat) (q_t_signs : Nat) (t_count : Int32) (t_fewestSigns : Nat → Int32) (t_isSettled : Nat → Int32) (t_lengths : Nat → Int32) (t_signs : Nat → Int32) (z : Int32 × (Nat → Int32) × (Nat → Int32)) (hr : f_X10_doubt t_count t_fewestSigns t_isSettled t_lengths t_signs = some z) (sz : Nat) : Met l yX10_doubt (.code yX10_doubt cX10_doubt 3 (some .int) :: WS) (rmH 3 0 0) (va_Pc [.ref q_t] (PW dd g mv (w_X10_doubt g q_t q_t_fewestSigns q_t_isSettled q_t_lengths q_t_signs t_count t_fewestSigns t_isSettled t_lengths t_signs) sz)) (Qo dd g (some (.int z.1)) (fun u : Unit => (w_X10_doubt g q_t q_t_fewestSigns q_t_isSettled q_t_lengths q_t_signs t_count z.2.1 z.2.2 t_lengths t_signs)) (va_A (w_X10_doubt g q_t q_t_fewestSigns q_t_isSettled q_t_lengths q_t_signs t_count t_fewestSigns t_isSettled t_lengths t_signs) sz)) 0 0 (va_A (w_X10_doubt g q_t q_t_fewestSigns q_t_isSettled q_t_lengths q_t_signs t_count t_fewestSigns t_isSettled t_lengths t_signs) sz) := by
  refine Met_intro (by decide) (Nat.le_of_ble_eq_true rfl) ?_
  intro p e s m below meth c A ls F hret hlk hin hw hl
  replace hl : lv_has ls 3 [(0, .ref q_t)] := hl
  refine lv_aload_n F.1 F.2.1 dX10_doubt_0 rfl (lv_at hl 0 rfl) ?_
  obtain ⟨z10, hz10, hr⟩ := Option.bind_eq_some_iff.mp hr
  refine call_o (wr := []) (run_V (As := []) (rest := []) F k_X10_47 (c_X10_startUnlike l dd g mv q_t q_t_fewestSigns q_t_isSettled q_t_lengths q_t_signs t_count t_fewestSigns t_isSettled t_lengths t_signs z10 hz10 _) hw [0, 1, 2, 3, 4] (by decide) rfl (ci := 10) rfl rfl rfl rfl hl.1 rfl (Nat.le_of_ble_eq_true rfl) dX10_doubt_1 ⟨Nat.le_of_ble_eq_true rfl, Nat.le_of_ble_eq_true rfl⟩ ⟨Nat.le_of_ble_eq_true rfl, Nat.le_of_ble_eq_true rfl⟩) hw [0, 1, 2, 3, 4] [] rfl rfl (by decide) (by decide) (fun u11 H locs hw => ?_)
  replace hw : Wd dd g mv A s H locs (w_X10_doubt g q_t q_t_fewestSigns q_t_isSettled q_t_lengths q_t_signs t_count z10.1 z10.2 t_lengths t_signs) := hw.sub [0, 1, 2, 3, 4] (by decide) rfl
  refine lv_iconst (v := 0) F.1 F.2.1 dX10_doubt_4 (by decide) ?_
  refine lv_istore_n (lv' := [(1, .int (0 : Int32)), (0, .ref q_t)]) F.1 F.2.1 dX10_doubt_5 rfl hl (by decide) rfl (fun ls hl => ?_)
  exact b_X10_doubt_6 F hret hlk  fuel hr hw (lv_sub hl [1, 0] rfl)
set_option maxHeartbeats 4000000 in
set_option maxRecDepth 100000 in
theorem c_X11_places (l : Launch) (dd : va_G) (g : Nat → ClassId) (mv : Nat) (q_t : Nat) (q_t_chain : Nat) (q_t_sights : Nat) (o_t_pad : Value) (o_t_words : Value) (o_t_images : Value) (o_t_run : Value) (o_t_seek : Value) (o_t_hanging : Value) (o_t_race : Value) (o_t_widow : Value) (o_t_came : Value) (o_t_sights_behind : Value) (o_t_sights_door : Value) (o_t_sights_served : Value) (t_changes : Int32) (t_fewestAt : Int32) (t_hungAt : Int32) (t_cameAt : Int32) (t_fewestPulls : Int32) (t_fewestRow : Int32) (t_chain_places : Int32) (t_chain_deep : Int32) (t_chain_turn : Int32) (t_chain_wheel : Int64) (t_chain_leaks : Int64) (t_chain_wants : Int64) (t_sights_count : Int32) (a1 : Int32) (z : Int32 × Int32 × Int32 × Int32 × Int64 × Int64 × Int64 × Int32) (hr : f_X11_places t_changes t_chain_places t_chain_deep t_chain_turn t_chain_wheel t_chain_leaks t_chain_wants t_sights_count a1 = some z) (sz : Nat) : Met l yX11_places (.code yX11_places cX11_places 3 (some .int) :: WS) (rmH 1 0 0) (va_Pc [.ref q_t, .int a1] (PW dd g mv (w_X11_places g q_t q_t_chain q_t_sights o_t_pad o_t_words o_t_images o_t_run o_t_seek o_t_hanging o_t_race o_t_widow o_t_came o_t_sights_behind o_t_sights_door o_t_sights_served t_changes t_fewestAt t_hungAt t_cameAt t_fewestPulls t_fewestRow t_chain_places t_chain_deep t_chain_turn t_chain_wheel t_chain_leaks t_chain_wants t_sights_count) sz)) (Qo dd g (some (.int z.1)) (fun u : Unit => (w_X11_places g q_t q_t_chain q_t_sights o_t_pad o_t_words o_t_images o_t_run o_t_seek o_t_hanging o_t_race o_t_widow o_t_came o_t_sights_behind o_t_sights_door o_t_sights_served z.2.1 t_fewestAt t_hungAt t_cameAt t_fewestPulls t_fewestRow z.2.2.1 t_chain_deep z.2.2.2.1 z.2.2.2.2.1 z.2.2.2.2.2.1 z.2.2.2.2.2.2.1 z.2.2.2.2.2.2.2)) (va_A (w_X11_places g q_t q_t_chain q_t_sights o_t_pad o_t_words o_t_images o_t_run o_t_seek o_t_hanging o_t_race o_t_widow o_t_came o_t_sights_behind o_t_sights_door o_t_sights_served t_changes t_fewestAt t_hungAt t_cameAt t_fewestPulls t_fewestRow t_chain_places t_chain_deep t_chain_turn t_chain_wheel t_chain_leaks t_chain_wants t_sights_count) sz)) 0 0 (va_A (w_X11_places g q_t q_t_chain q_t_sights o_t_pad o_t_words o_t_images o_t_run o_t_seek o_t_hanging o_t_race o_t_widow o_t_came o_t_sights_behind o_t_sights_door o_t_sights_served t_changes t_fewestAt t_hungAt t_cameAt t_fewestPulls t_fewestRow t_chain_places t_chain_deep t_chain_turn t_chain_wheel t_chain_leaks t_chain_wants t_sights_count) sz) := by
  refine Met_intro (by decide) (Nat.le_of_ble_eq_true rfl) ?_
  intro p e s m below meth c A ls F hret hlk hin hw hl
  replace hl : lv_has ls 3 [(0, .ref q_t), (1, .int a1)] := hl
  refine lv_iload_n F.1 F.2.1 dX11_places_0 rfl (lv_at hl 1 rfl) ?_
  refine lv_iconst (v := 3) F.1 F.2.1 dX11_places_1 (by decide) ?_
  refine lv_icmp_lt (tgt := 11) F.1 F.2.1 dX11_places_2 (by decide) (fun hc1 => ?_) (fun hc1 => ?_)
  · replace hr := (if_pos hc1).symm.trans hr
    refine lv_bipush (v := -2) F.1 F.2.1 dX11_places_11 (by decide) ?_
    cases hr
    exact ret_i () F hret hlk hw (Nat.le_refl _) (Nat.le_refl _) dX11_places_13
  · replace hr := (if_neg hc1).symm.trans hr
    refine lv_iload_n F.1 F.2.1 dX11_places_5 rfl (lv_at hl 1 rfl) ?_
    refine lv_bipush (v := 9) F.1 F.2.1 dX11_places_6 (by decide) ?_
    refine lv_icmp_le (tgt := 14) F.1 F.2.1 dX11_places_8 (by decide) (fun hc2 => ?_) (fun hc2 => ?_)
    · replace hr := (if_pos hc2).symm.trans hr
      refine lv_aload_n F.1 F.2.1 dX11_places_14 rfl (lv_at hl 0 rfl) ?_
      refine gf_X11_19 F hw 0 rfl rfl dX11_places_15 ?_
      refine gf_X11_105 F hw 1 rfl rfl dX11_places_18 ?_
      refine lv_istore_n (lv' := [(2, .int t_chain_places), (0, .ref q_t), (1, .int a1)]) F.1 F.2.1 dX11_places_21 rfl hl (by decide) rfl (fun ls hl => ?_)
      refine lv_aload_n F.1 F.2.1 dX11_places_22 rfl (lv_at hl 1 rfl) ?_
      refine gf_X11_19 F hw 0 rfl rfl dX11_places_23 ?_
      refine lv_iload_n F.1 F.2.1 dX11_places_26 rfl (lv_at hl 2 rfl) ?_
      obtain ⟨z3, hz3, hr⟩ := Option.bind_eq_some_iff.mp hr
      refine call_o (wr := [(q_t, .inr (11, [o_t_pad, .ref q_t_chain, o_t_words, .ref q_t_sights, o_t_images, o_t_run, o_t_seek, o_t_hanging, o_t_race, o_t_widow, o_t_came, .int t_changes, .int t_fewestAt, .int t_hungAt, .int t_cameAt, .int t_fewestPulls, .int t_fewestRow])), (q_t_sights, .inr (8, [o_t_sights_behind, o_t_sights_door, o_t_sights_served, .int t_sights_count]))]) (run_V (As := [.int a1]) (rest := []) F k_X11_108 (c_X1_hangAnew l dd g mv q_t_chain t_chain_places t_chain_deep t_chain_turn t_chain_wheel t_chain_leaks t_chain_wants a1 z3 hz3 _) hw [1] (by decide) rfl (ci := 1) rfl rfl rfl rfl hl.1 rfl (Nat.le_of_ble_eq_true rfl) dX11_places_27 ⟨Nat.le_of_ble_eq_true rfl, Nat.le_of_ble_eq_true rfl⟩ ⟨Nat.le_of_ble_eq_true rfl, Nat.le_of_ble_eq_true rfl⟩) hw [1] [0, 2] rfl rfl (by decide) (by decide) (fun u4 H locs hw => ?_)
      replace hw : Wd dd g mv A s H locs (w_X11_places g q_t q_t_chain q_t_sights o_t_pad o_t_words o_t_images o_t_run o_t_seek o_t_hanging o_t_race o_t_widow o_t_came o_t_sights_behind o_t_sights_door o_t_sights_served t_changes t_fewestAt t_hungAt t_cameAt t_fewestPulls t_fewestRow z3.1 t_chain_deep z3.2.1 z3.2.2.1 z3.2.2.2.1 z3.2.2.2.2 t_sights_count) := hw.sub [0, 2, 1] (by decide) rfl
      refine lv_aload_n F.1 F.2.1 dX11_places_30 rfl (lv_at hl 1 rfl) ?_
      refine gf_X11_33 F hw 0 rfl rfl dX11_places_31 ?_
      refine lv_iconst (v := 0) F.1 F.2.1 dX11_places_34 (by decide) ?_
      refine pf_X11_112 F hw 2 rfl (Nat.le_of_ble_eq_true rfl) dX11_places_35 (fun H locs hw => ?_)
      replace hw : Wd dd g mv A s H locs (w_X11_places g q_t q_t_chain q_t_sights o_t_pad o_t_words o_t_images o_t_run o_t_seek o_t_hanging o_t_race o_t_widow o_t_came o_t_sights_behind o_t_sights_door o_t_sights_served t_changes t_fewestAt t_hungAt t_cameAt t_fewestPulls t_fewestRow z3.1 t_chain_deep z3.2.1 z3.2.2.1 z3.2.2.2.1 z3.2.2.2.2 ((0 : Int32))) := hw
      refine lv_aload_n F.1 F.2.1 dX11_places_38 rfl (lv_at hl 1 rfl) ?_
      refine lv_dup F.1 F.2.1 dX11_places_39 rfl ?_
      refine gf_X11_86 F hw 0 rfl rfl dX11_places_40 ?_
      refine lv_iconst (v := 1) F.1 F.2.1 dX11_places_43 (by decide) ?_
      refine lv_iadd F.1 F.2.1 dX11_places_44 ?_
      refine pf_X11_86 F hw 0 rfl (Nat.le_of_ble_eq_true rfl) dX11_places_45 (fun H locs hw => ?_)
      replace hw : Wd dd g mv A s H locs (w_X11_places g q_t q_t_chain q_t_sights o_t_pad o_t_words o_t_images o_t_run o_t_seek o_t_hanging o_t_race o_t_widow o_t_came o_t_sights_behind o_t_sights_door o_t_sights_served ((t_changes + (1 : Int32))) t_fewestAt t_hungAt t_cameAt t_fewestPulls t_fewestRow z3.1 t_chain_deep z3.2.1 z3.2.2.1 z3.2.2.2.1 z3.2.2.2.2 ((0 : Int32))) := hw
      refine lv_iload_n F.1 F.2.1 dX11_places_48 rfl (lv_at hl 0 rfl) ?_
      cases hr
      exact ret_i () F hret hlk hw (Nat.le_refl _) (Nat.le_refl _) dX11_places_49
    · replace hr := (if_neg hc2).symm.trans hr
      refine lv_bipush (v := -2) F.1 F.2.1 dX11_places_11 (by decide) ?_
      cases hr
      exact ret_i () F hret hlk hw (Nat.le_refl _) (Nat.le_refl _) dX11_places_13
end WALK
