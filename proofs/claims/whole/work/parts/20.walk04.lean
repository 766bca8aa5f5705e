section WALK
variable {p : Program} {l : Launch} {e : Env} {s : State} {m : MethodId} {args : Array Value} {below : List Frame} {meth : Method} {c : Code} {dd : va_G} {g : Nat → ClassId} {mv : Nat} {A : Nat → Prop}
set_option maxHeartbeats 4000000 in
set_option maxRecDepth 100000 in
theorem c_X5_winner (l : Launch) (dd : va_G) (g : Nat → ClassId) (mv : Nat) (q_t : Nat) (q_p1 : Nat) (o_t_chain : Value) (t_firstDoor : Int64) (t_secondDoor : Int64) (t_all : Int32) (p1_places : Int32) (p1_deep : Int32) (p1_turn : Int32) (p1_wheel : Int64) (p1_leaks : Int64) (p1_wants : Int64) (a2 : Int64) (a3 : Int64) (a4 : Int32) (z : Int32 × Int64 × Int64 × Int32) (hr : f_X5_winner p1_places p1_deep p1_wheel p1_leaks p1_wants a2 a3 a4 = some z) (sz : Nat) : Met l yX5_winner (.code yX5_winner cX5_winner 8 (some .int) :: WS) (rmH 24 0 0) (va_Pc [.ref q_t, .ref q_p1, .long a2, .long a3, .int a4] (PW dd g mv (w_X5_winner g q_t q_p1 o_t_chain t_firstDoor t_secondDoor t_all p1_places p1_deep p1_turn p1_wheel p1_leaks p1_wants) sz)) (Qo dd g (some (.int z.1)) (fun u : Unit => (w_X5_winner g q_t q_p1 ((.ref q_p1)) z.2.1 z.2.2.1 z.2.2.2 p1_places p1_deep p1_turn p1_wheel p1_leaks p1_wants)) (va_A (w_X5_winner g q_t q_p1 o_t_chain t_firstDoor t_secondDoor t_all p1_places p1_deep p1_turn p1_wheel p1_leaks p1_wants) sz)) 0 0 (va_A (w_X5_winner g q_t q_p1 o_t_chain t_firstDoor t_secondDoor t_all p1_places p1_deep p1_turn p1_wheel p1_leaks p1_wants) sz) := by
  refine Met_intro (by decide) (Nat.le_of_ble_eq_true rfl) ?_
  intro p e s m below meth c A ls F hret hlk hin hw hl
  replace hl : lv_has ls 8 [(0, .ref q_t), (1, .ref q_p1), (2, .long a2), (4, .long a3), (6, .int a4)] := hl
  refine lv_aload_n F.1 F.2.1 dX5_winner_0 rfl (lv_at hl 0 rfl) ?_
  refine lv_aload_n F.1 F.2.1 dX5_winner_1 rfl (lv_at hl 1 rfl) ?_
  refine pf_X5_9 F hw 0 rfl (Nat.le_of_ble_eq_true rfl) dX5_winner_2 (fun H locs hw => ?_)
  replace hw : Wd dd g mv A s H locs (w_X5_winner g q_t q_p1 ((.ref q_p1)) t_firstDoor t_secondDoor t_all p1_places p1_deep p1_turn p1_wheel p1_leaks p1_wants) := hw
  refine lv_aload_n F.1 F.2.1 dX5_winner_5 rfl (lv_at hl 0 rfl) ?_
  refine lv_lload_n F.1 F.2.1 dX5_winner_6 rfl (lv_at hl 2 rfl) ?_
  refine pf_X5_15 F hw 0 rfl (Nat.le_of_ble_eq_true rfl) dX5_winner_7 (fun H locs hw => ?_)
  replace hw : Wd dd g mv A s H locs (w_X5_winner g q_t q_p1 ((.ref q_p1)) a2 t_secondDoor t_all p1_places p1_deep p1_turn p1_wheel p1_leaks p1_wants) := hw
  refine lv_aload_n F.1 F.2.1 dX5_winner_10 rfl (lv_at hl 0 rfl) ?_
  refine lv_lload F.1 F.2.1 dX5_winner_11 (lv_at hl 3 rfl) ?_
  refine pf_X5_19 F hw 0 rfl (Nat.le_of_ble_eq_true rfl) dX5_winner_13 (fun H locs hw => ?_)
  replace hw : Wd dd g mv A s H locs (w_X5_winner g q_t q_p1 ((.ref q_p1)) a2 a3 t_all p1_places p1_deep p1_turn p1_wheel p1_leaks p1_wants) := hw
  refine lv_aload_n F.1 F.2.1 dX5_winner_16 rfl (lv_at hl 0 rfl) ?_
  refine lv_iload F.1 F.2.1 dX5_winner_17 (lv_at hl 4 rfl) ?_
  refine pf_X5_22 F hw 0 rfl (Nat.le_of_ble_eq_true rfl) dX5_winner_19 (fun H locs hw => ?_)
  replace hw : Wd dd g mv A s H locs (w_X5_winner g q_t q_p1 ((.ref q_p1)) a2 a3 a4 p1_places p1_deep p1_turn p1_wheel p1_leaks p1_wants) := hw
  refine lv_aload_n F.1 F.2.1 dX5_winner_22 rfl (lv_at hl 0 rfl) ?_
  refine lv_aload_n F.1 F.2.1 dX5_winner_23 rfl (lv_at hl 1 rfl) ?_
  refine gf_X5_26 F hw 1 rfl rfl dX5_winner_24 ?_
  refine lv_aload_n F.1 F.2.1 dX5_winner_27 rfl (lv_at hl 1 rfl) ?_
  refine gf_X5_31 F hw 1 rfl rfl dX5_winner_28 ?_
  refine lv_iload F.1 F.2.1 dX5_winner_31 (lv_at hl 4 rfl) ?_
  refine lv_iconst (v := -1) F.1 F.2.1 dX5_winner_33 (by decide) ?_
  refine lv_iconst (v := 1) F.1 F.2.1 dX5_winner_34 (by decide) ?_
  obtain ⟨z1, hz1, hr⟩ := Option.bind_eq_some_iff.mp hr
  refine call_o (wr := []) (run_S (As := [.ref q_t, .long p1_wheel, .long p1_leaks, .int a4, .int (-1 : Int32), .int (1 : Int32)]) (rest := []) F k_X5_34 (c_X5_sureOf l dd g mv 20 q_t q_p1 a2 a3 a4 p1_places p1_deep p1_turn p1_wheel p1_leaks p1_wants p1_wheel p1_leaks a4 ((-1 : Int32)) ((1 : Int32)) z1 hz1 _) hw [0, 1] (by decide) rfl rfl hl.1 rfl (Nat.le_of_ble_eq_true rfl) dX5_winner_35 ⟨Nat.le_of_ble_eq_true rfl, Nat.le_of_ble_eq_true rfl⟩ ⟨Nat.le_of_ble_eq_true rfl, Nat.le_of_ble_eq_true rfl⟩) hw [0, 1] [] rfl rfl (by decide) (by decide) (fun u2 H locs hw => ?_)
  replace hw : Wd dd g mv A s H locs (w_X5_winner g q_t q_p1 ((.ref q_p1)) a2 a3 a4 p1_places p1_deep p1_turn p1_wheel p1_leaks p1_wants) := hw.sub [0, 1] (by decide) rfl
  refine W.eq (g2 := F0 m 38 ls (.int z1 :: [])) rfl ?_
  refine lv_istore (lv' := [(7, .int z1), (0, .ref q_t), (1, .ref q_p1), (2, .long a2), (4, .long a3), (6, .int a4)]) F.1 F.2.1 dX5_winner_38 hl (by decide) rfl (fun ls hl => ?_)
  refine lv_iload F.1 F.2.1 dX5_winner_40 (lv_at hl 0 rfl) ?_
  refine lv_if_le (tgt := 49) F.1 F.2.1 dX5_winner_42 (by decide) (fun hc3 => ?_) (fun hc3 => ?_)
  · replace hr := (if_pos hc3).symm.trans hr
    refine lv_iload F.1 F.2.1 dX5_winner_49 (lv_at hl 0 rfl) ?_
    refine lv_if_ge (tgt := 58) F.1 F.2.1 dX5_winner_51 (by decide) (fun hc4 => ?_) (fun hc4 => ?_)
    · replace hr := (if_pos hc4).symm.trans hr
      refine lv_iconst (v := 2) F.1 F.2.1 dX5_winner_58 (by decide) ?_
      cases hr
      exact ret_i () F hret hlk hw (Nat.le_refl _) (Nat.le_refl _) dX5_winner_59
    · replace hr := (if_neg hc4).symm.trans hr
      refine lv_iconst (v := 1) F.1 F.2.1 dX5_winner_54 (by decide) ?_
      refine lv_goto (tgt := 59) F.1 F.2.1 dX5_winner_55 (by decide) ?_
      cases hr
      exact ret_i () F hret hlk hw (Nat.le_refl _) (Nat.le_refl _) dX5_winner_59
  · replace hr := (if_neg hc3).symm.trans hr
    refine lv_iconst (v := 0) F.1 F.2.1 dX5_winner_45 (by decide) ?_
    refine lv_goto (tgt := 59) F.1 F.2.1 dX5_winner_46 (by decide) ?_
    cases hr
    exact ret_i () F hret hlk hw (Nat.le_refl _) (Nat.le_refl _) dX5_winner_59
set_option maxHeartbeats 4000000 in
set_option maxRecDepth 100000 in
theorem b_X6_begin_87 {q_t q_p1 q_t_when : Nat} {z : Int64 × Int64 × Int32 × Int32 × Int32 × Int32 × Int32 × Int32 × (Nat → Int32)} (F : Fx p m c cX6_begin 3 s args RX6) (hret : meth.sig.returnType = none) (hlk : meth.locks = false) {k56 : Int32 → Int64 → Int64 → Int32 → Int32 → Int32 → Int32 → Int32 → Int32 → (Nat → Int32) → Option (Int64 × Int64 × Int32 × Int32 × Int32 × Int32 × Int32 × Int32 × (Nat → Int32))} (hk56 : ∀ {x2 : Int32} {t_wheel : Int64} {t_leaks : Int64} {t_turn : Int32} {t_pulls : Int32} {t_drawn : Int32} {t_leaked : Int32} {t_drunk : Int32} {t_servings : Int32} {t_when : Nat → Int32} {p1_places : Int32} {p1_deep : Int32} {p1_turn : Int32} {p1_wheel : Int64} {p1_leaks : Int64} {p1_wants : Int64} {H : Heap} {locs : List Loc} {ls : Array Slot}, k56 x2 t_wheel t_leaks t_turn t_pulls t_drawn t_leaked t_drunk t_servings t_when = some z → Wd dd g mv A s H locs (w_X6_begin g q_t q_p1 q_t_when ((.ref q_p1)) t_wheel t_leaks t_turn t_pulls t_drawn t_leaked t_drunk t_servings p1_places p1_deep p1_turn p1_wheel p1_leaks p1_wants t_when) → lv_has ls 3 [(0, .ref q_t), (2, .int x2)] → W p l e (rmH (1) 0 0) s m args below meth c H locs 0 0 (MQ below (Qo dd g none (fun u : Unit => (w_X6_begin g q_t q_p1 q_t_when ((.ref q_p1)) z.1 z.2.1 z.2.2.1 z.2.2.2.1 z.2.2.2.2.1 z.2.2.2.2.2.1 z.2.2.2.2.2.2.1 z.2.2.2.2.2.2.2.1 p1_places p1_deep p1_turn p1_wheel p1_leaks p1_wants z.2.2.2.2.2.2.2.2)) A) args s 0 0 A) (F0 m 56 ls [])) : ∀ {x2 : Int32} {y1 : Int32} {y2 : Int32} {t_wheel : Int64} {t_leaks : Int64} {t_turn : Int32} {t_pulls : Int32} {t_drawn : Int32} {t_leaked : Int32} {t_drunk : Int32} {t_servings : Int32} {t_when : Nat → Int32} {p1_places : Int32} {p1_deep : Int32} {p1_turn : Int32} {p1_wheel : Int64} {p1_leaks : Int64} {p1_wants : Int64} {H : Heap} {locs : List Loc} {ls : Array Slot}, f_X6_begin_87 k56 x2 y1 y2 t_wheel t_leaks t_turn t_pulls t_drawn t_leaked t_drunk t_servings t_when = some z → Wd dd g mv A s H locs (w_X6_begin g q_t q_p1 q_t_when ((.ref q_p1)) t_wheel t_leaks t_turn t_pulls t_drawn t_leaked t_drunk t_servings p1_places p1_deep p1_turn p1_wheel p1_leaks p1_wants t_when) → lv_has ls 3 [(0, .ref q_t), (2, .int x2)] → W p l e (rmH (1) 0 0) s m args below meth c H locs 0 0 (MQ below (Qo dd g none (fun u : Unit => (w_X6_begin g q_t q_p1 q_t_when ((.ref q_p1)) z.1 z.2.1 z.2.2.1 z.2.2.2.1 z.2.2.2.2.1 z.2.2.2.2.2.1 z.2.2.2.2.2.2.1 z.2.2.2.2.2.2.2.1 p1_places p1_deep p1_turn p1_wheel p1_leaks p1_wants z.2.2.2.2.2.2.2.2)) A) args s 0 0 A) (F0 m 87 ls [.int y2, .int y1, .ref q_t_when]) := by
  intro x2 y1 y2 t_wheel t_leaks t_turn t_pulls t_drawn t_leaked t_drunk t_servings t_when p1_places p1_deep p1_turn p1_wheel p1_leaks p1_wants H locs ls hr hw hl
  obtain ⟨hg1, hr⟩ := g_no hr
  refine aw_i F hw 2 rfl hg1 dX6_begin_87 (fun H locs hw => ?_)
  replace hw : Wd dd g mv A s H locs (w_X6_begin g q_t q_p1 q_t_when ((.ref q_p1)) t_wheel t_leaks t_turn t_pulls t_drawn t_leaked t_drunk t_servings p1_places p1_deep p1_turn p1_wheel p1_leaks p1_wants ((upd t_when (y1).toNatClampNeg y2))) := hw
  refine lv_iinc (v := (x2 + 1)) (lv' := [(2, .int (x2 + 1)), (0, .ref q_t)]) F.1 F.2.1 dX6_begin_88 hl (k := 1) rfl rfl (by decide) rfl (fun ls hl => ?_)
  refine lv_goto (tgt := 56) F.1 F.2.1 dX6_begin_91 (by decide) ?_
  exact hk56 hr hw (lv_sub hl [1, 0] rfl)
set_option maxHeartbeats 4000000 in
set_option maxRecDepth 100000 in
theorem b_X6_begin_56 {q_t q_p1 q_t_when : Nat} {z : Int64 × Int64 × Int32 × Int32 × Int32 × Int32 × Int32 × Int32 × (Nat → Int32)} (F : Fx p m c cX6_begin 3 s args RX6) (hret : meth.sig.returnType = none) (hlk : meth.locks = false) : ∀ (n : Nat), ∀ {x2 : Int32} {t_wheel : Int64} {t_leaks : Int64} {t_turn : Int32} {t_pulls : Int32} {t_drawn : Int32} {t_leaked : Int32} {t_drunk : Int32} {t_servings : Int32} {t_when : Nat → Int32} {p1_places : Int32} {p1_deep : Int32} {p1_turn : Int32} {p1_wheel : Int64} {p1_leaks : Int64} {p1_wants : Int64} {H : Heap} {locs : List Loc} {ls : Array Slot}, f_X6_begin_56  n x2 t_wheel t_leaks t_turn t_pulls t_drawn t_leaked t_drunk t_servings t_when = some z → Wd dd g mv A s H locs (w_X6_begin g q_t q_p1 q_t_when ((.ref q_p1)) t_wheel t_leaks t_turn t_pulls t_drawn t_leaked t_drunk t_servings p1_places p1_deep p1_turn p1_wheel p1_leaks p1_wants t_when) → lv_has ls 3 [(0, .ref q_t), (2, .int x2)] → W p l e (rmH (1) 0 0) s m args below meth c H locs 0 0 (MQ below (Qo dd g none (fun u : Unit => (w_X6_begin g q_t q_p1 q_t_when ((.ref q_p1)) z.1 z.2.1 z.2.2.1 z.2.2.2.1 z.2.2.2.2.1 z.2.2.2.2.2.1 z.2.2.2.2.2.2.1 z.2.2.2.2.2.2.2.1 p1_places p1_deep p1_turn p1_wheel p1_leaks p1_wants z.2.2.2.2.2.2.2.2)) A) args s 0 0 A) (F0 m 56 ls []) := by
  intro n
  induction n with
  | zero =>
    intros
    rename_i hr _ _
    cases hr
  | succ n ih =>
    intro x2 t_wheel t_leaks t_turn t_pulls t_drawn t_leaked t_drunk t_servings t_when p1_places p1_deep p1_turn p1_wheel p1_leaks p1_wants H locs ls hr hw hl
    refine lv_iload_n F.1 F.2.1 dX6_begin_56 rfl (lv_at hl 1 rfl) ?_
    refine lv_bipush (v := 9) F.1 F.2.1 dX6_begin_57 (by decide) ?_
    refine lv_icmp_ge (tgt := 94) F.1 F.2.1 dX6_begin_59 (by decide) (fun hc2 => ?_) (fun hc2 => ?_)
    · replace hr := (if_pos hc2).symm.trans hr
      cases hr
      exact ret_v () F hret hlk hw (Nat.le_refl _) (Nat.le_refl _) dX6_begin_94
    · replace hr := (if_neg hc2).symm.trans hr
      refine lv_aload_n F.1 F.2.1 dX6_begin_62 rfl (lv_at hl 0 rfl) ?_
      refine gf_X6_9 F hw 0 rfl rfl dX6_begin_63 ?_
      refine lv_iload_n F.1 F.2.1 dX6_begin_66 rfl (lv_at hl 1 rfl) ?_
      refine lv_aload_n F.1 F.2.1 dX6_begin_67 rfl (lv_at hl 0 rfl) ?_
      refine gf_X6_19 F hw 0 rfl rfl dX6_begin_68 ?_
      refine lv_iload_n F.1 F.2.1 dX6_begin_71 rfl (lv_at hl 1 rfl) ?_
      obtain ⟨z3, hz3, hr⟩ := Option.bind_eq_some_iff.mp hr
      refine call_o (wr := [(q_t, .inr (6, [.ref q_t_when, (.ref q_p1), .long t_wheel, .long t_leaks, .int t_turn, .int t_pulls, .int t_drawn, .int t_leaked, .int t_drunk, .int t_servings])), (q_p1, .inr (1, [.int p1_places, .int p1_deep, .int p1_turn, .long p1_wheel, .long p1_leaks, .long p1_wants])), (q_t_when, .inl (g 0, 9, .inl t_when))]) (run_N (As := [.int x2]) (rest := [.long t_wheel, .int x2, .ref q_t_when]) F k_X6_50 (c_X11_flag l dd g mv x2 z3 hz3 _) hw [] (by decide) rfl rfl hl.1 rfl (Nat.le_of_ble_eq_true rfl) dX6_begin_72 ⟨Nat.le_of_ble_eq_true rfl, Nat.le_of_ble_eq_true rfl⟩ ⟨Nat.le_of_ble_eq_true rfl, Nat.le_of_ble_eq_true rfl⟩) hw [] [0, 1, 2] rfl rfl (by decide) (by decide) (fun u4 H locs hw => ?_)
      replace hw : Wd dd g mv A s H locs (w_X6_begin g q_t q_p1 q_t_when ((.ref q_p1)) t_wheel t_leaks t_turn t_pulls t_drawn t_leaked t_drunk t_servings p1_places p1_deep p1_turn p1_wheel p1_leaks p1_wants t_when) := hw.sub [0, 1, 2] (by decide) rfl
      refine W.eq (g2 := F0 m 75 ls (.long z3 :: .long t_wheel :: .int x2 :: .ref q_t_when :: [])) rfl ?_
      refine lv_land F.1 F.2.1 dX6_begin_75 ?_
      refine lv_lconst (v := 0) F.1 F.2.1 dX6_begin_76 (by decide) ?_
      refine W.lcmp F.1 F.2.1 dX6_begin_77 ?_
      refine lv_if_ne (tgt := 85) F.1 F.2.1 dX6_begin_78 (by decide) (fun hc5 => ?_) (fun hc5 => ?_)
      · replace hr := (if_neg hc5).symm.trans hr
        refine lv_bipush (v := -6) F.1 F.2.1 dX6_begin_85 (by decide) ?_
        exact b_X6_begin_87 F hret hlk (ih) hr hw (lv_sub hl [0, 1] rfl)
      · replace hr := (if_pos hc5).symm.trans hr
        refine lv_iconst (v := 0) F.1 F.2.1 dX6_begin_81 (by decide) ?_
        refine lv_goto (tgt := 87) F.1 F.2.1 dX6_begin_82 (by decide) ?_
        exact b_X6_begin_87 F hret hlk (ih) hr hw (lv_sub hl [0, 1] rfl)
set_option maxHeartbeats 4000000 in
set_option maxRecDepth 100000 in
theorem c_X6_begin (l : Launch) (dd : va_G) (g : Nat → ClassId) (mv : Nat) (q_t : Nat) (q_p1 : Nat) (q_t_when : Nat) (o_t_chain : Value) (t_wheel : Int64) (t_leaks : Int64) (t_turn : Int32) (t_pulls : Int32) (t_drawn : Int32) (t_leaked : Int32) (t_drunk : Int32) (t_servings : Int32) (p1_places : Int32) (p1_deep : Int32) (p1_turn : Int32) (p1_wheel : Int64) (p1_leaks : Int64) (p1_wants : Int64) (t_when : Nat → Int32) (z : Int64 × Int64 × Int32 × Int32 × Int32 × Int32 × Int32 × Int32 × (Nat → Int32)) (hr : f_X6_begin p1_turn p1_wheel p1_leaks t_when = some z) (sz : Nat) : Met l yX6_begin (.code yX6_begin cX6_begin 3 none :: WS) (rmH 1 0 0) (va_Pc [.ref q_t, .ref q_p1] (PW dd g mv (w_X6_begin g q_t q_p1 q_t_when o_t_chain t_wheel t_leaks t_turn t_pulls t_drawn t_leaked t_drunk t_servings p1_places p1_deep p1_turn p1_wheel p1_leaks p1_wants t_when) sz)) (Qo dd g none (fun u : Unit => (w_X6_begin g q_t q_p1 q_t_when ((.ref q_p1)) z.1 z.2.1 z.2.2.1 z.2.2.2.1 z.2.2.2.2.1 z.2.2.2.2.2.1 z.2.2.2.2.2.2.1 z.2.2.2.2.2.2.2.1 p1_places p1_deep p1_turn p1_wheel p1_leaks p1_wants z.2.2.2.2.2.2.2.2)) (va_A (w_X6_begin g q_t q_p1 q_t_when o_t_chain t_wheel t_leaks t_turn t_pulls t_drawn t_leaked t_drunk t_servings p1_places p1_deep p1_turn p1_wheel p1_leaks p1_wants t_when) sz)) 0 0 (va_A (w_X6_begin g q_t q_p1 q_t_when o_t_chain t_wheel t_leaks t_turn t_pulls t_drawn t_leaked t_drunk t_servings p1_places p1_deep p1_turn p1_wheel p1_leaks p1_wants t_when) sz) := by
  refine Met_intro (by decide) (Nat.le_of_ble_eq_true rfl) ?_
  intro p e s m below meth c A ls F hret hlk hin hw hl
  replace hl : lv_has ls 3 [(0, .ref q_t), (1, .ref q_p1)] := hl
  refine lv_aload_n F.1 F.2.1 dX6_begin_0 rfl (lv_at hl 0 rfl) ?_
  refine lv_aload_n F.1 F.2.1 dX6_begin_1 rfl (lv_at hl 1 rfl) ?_
  refine pf_X6_15 F hw 0 rfl (Nat.le_of_ble_eq_true rfl) dX6_begin_2 (fun H locs hw => ?_)
  replace hw : Wd dd g mv A s H locs (w_X6_begin g q_t q_p1 q_t_when ((.ref q_p1)) t_wheel t_leaks t_turn t_pulls t_drawn t_leaked t_drunk t_servings p1_places p1_deep p1_turn p1_wheel p1_leaks p1_wants t_when) := hw
  refine lv_aload_n F.1 F.2.1 dX6_begin_5 rfl (lv_at hl 0 rfl) ?_
  refine lv_aload_n F.1 F.2.1 dX6_begin_6 rfl (lv_at hl 1 rfl) ?_
  refine gf_X6_45 F hw 1 rfl rfl dX6_begin_7 ?_
  refine pf_X6_19 F hw 0 rfl (Nat.le_of_ble_eq_true rfl) dX6_begin_10 (fun H locs hw => ?_)
  replace hw : Wd dd g mv A s H locs (w_X6_begin g q_t q_p1 q_t_when ((.ref q_p1)) p1_wheel t_leaks t_turn t_pulls t_drawn t_leaked t_drunk t_servings p1_places p1_deep p1_turn p1_wheel p1_leaks p1_wants t_when) := hw
  refine lv_aload_n F.1 F.2.1 dX6_begin_13 rfl (lv_at hl 0 rfl) ?_
  refine lv_aload_n F.1 F.2.1 dX6_begin_14 rfl (lv_at hl 1 rfl) ?_
  refine gf_X6_48 F hw 1 rfl rfl dX6_begin_15 ?_
  refine pf_X6_23 F hw 0 rfl (Nat.le_of_ble_eq_true rfl) dX6_begin_18 (fun H locs hw => ?_)
  replace hw : Wd dd g mv A s H locs (w_X6_begin g q_t q_p1 q_t_when ((.ref q_p1)) p1_wheel p1_leaks t_turn t_pulls t_drawn t_leaked t_drunk t_servings p1_places p1_deep p1_turn p1_wheel p1_leaks p1_wants t_when) := hw
  refine lv_aload_n F.1 F.2.1 dX6_begin_21 rfl (lv_at hl 0 rfl) ?_
  refine lv_aload_n F.1 F.2.1 dX6_begin_22 rfl (lv_at hl 1 rfl) ?_
  refine gf_X6_49 F hw 1 rfl rfl dX6_begin_23 ?_
  refine pf_X6_26 F hw 0 rfl (Nat.le_of_ble_eq_true rfl) dX6_begin_26 (fun H locs hw => ?_)
  replace hw : Wd dd g mv A s H locs (w_X6_begin g q_t q_p1 q_t_when ((.ref q_p1)) p1_wheel p1_leaks p1_turn t_pulls t_drawn t_leaked t_drunk t_servings p1_places p1_deep p1_turn p1_wheel p1_leaks p1_wants t_when) := hw
  refine lv_aload_n F.1 F.2.1 dX6_begin_29 rfl (lv_at hl 0 rfl) ?_
  refine lv_iconst (v := 0) F.1 F.2.1 dX6_begin_30 (by decide) ?_
  refine pf_X6_30 F hw 0 rfl (Nat.le_of_ble_eq_true rfl) dX6_begin_31 (fun H locs hw => ?_)
  replace hw : Wd dd g mv A s H locs (w_X6_begin g q_t q_p1 q_t_when ((.ref q_p1)) p1_wheel p1_leaks p1_turn ((0 : Int32)) t_drawn t_leaked t_drunk t_servings p1_places p1_deep p1_turn p1_wheel p1_leaks p1_wants t_when) := hw
  refine lv_aload_n F.1 F.2.1 dX6_begin_34 rfl (lv_at hl 0 rfl) ?_
  refine lv_iconst (v := 0) F.1 F.2.1 dX6_begin_35 (by decide) ?_
  refine pf_X6_33 F hw 0 rfl (Nat.le_of_ble_eq_true rfl) dX6_begin_36 (fun H locs hw => ?_)
  replace hw : Wd dd g mv A s H locs (w_X6_begin g q_t q_p1 q_t_when ((.ref q_p1)) p1_wheel p1_leaks p1_turn ((0 : Int32)) ((0 : Int32)) t_leaked t_drunk t_servings p1_places p1_deep p1_turn p1_wheel p1_leaks p1_wants t_when) := hw
  refine lv_aload_n F.1 F.2.1 dX6_begin_39 rfl (lv_at hl 0 rfl) ?_
  refine lv_iconst (v := 0) F.1 F.2.1 dX6_begin_40 (by decide) ?_
  refine pf_X6_36 F hw 0 rfl (Nat.le_of_ble_eq_true rfl) dX6_begin_41 (fun H locs hw => ?_)
  replace hw : Wd dd g mv A s H locs (w_X6_begin g q_t q_p1 q_t_when ((.ref q_p1)) p1_wheel p1_leaks p1_turn ((0 : Int32)) ((0 : Int32)) ((0 : Int32)) t_drunk t_servings p1_places p1_deep p1_turn p1_wheel p1_leaks p1_wants t_when) := hw
  refine lv_aload_n F.1 F.2.1 dX6_begin_44 rfl (lv_at hl 0 rfl) ?_
  refine lv_iconst (v := 0) F.1 F.2.1 dX6_begin_45 (by decide) ?_
  refine pf_X6_39 F hw 0 rfl (Nat.le_of_ble_eq_true rfl) dX6_begin_46 (fun H locs hw => ?_)
  replace hw : Wd dd g mv A s H locs (w_X6_begin g q_t q_p1 q_t_when ((.ref q_p1)) p1_wheel p1_leaks p1_turn ((0 : Int32)) ((0 : Int32)) ((0 : Int32)) ((0 : Int32)) t_servings p1_places p1_deep p1_turn p1_wheel p1_leaks p1_wants t_when) := hw
  refine lv_aload_n F.1 F.2.1 dX6_begin_49 rfl (lv_at hl 0 rfl) ?_
  refine lv_iconst (v := 0) F.1 F.2.1 dX6_begin_50 (by decide) ?_
  refine pf_X6_42 F hw 0 rfl (Nat.le_of_ble_eq_true rfl) dX6_begin_51 (fun H locs hw => ?_)
  replace hw : Wd dd g mv A s H locs (w_X6_begin g q_t q_p1 q_t_when ((.ref q_p1)) p1_wheel p1_leaks p1_turn ((0 : Int32)) ((0 : Int32)) ((0 : Int32)) ((0 : Int32)) ((0 : Int32)) p1_places p1_deep p1_turn p1_wheel p1_leaks p1_wants t_when) := hw
  refine lv_iconst (v := 0) F.1 F.2.1 dX6_begin_54 (by decide) ?_
  refine lv_istore_n (lv' := [(2, .int (0 : Int32)), (0, .ref q_t), (1, .ref q_p1)]) F.1 F.2.1 dX6_begin_55 rfl hl (by decide) rfl (fun ls hl => ?_)
  exact b_X6_begin_56 F hret hlk  fuel hr hw (lv_sub hl [1, 0] rfl)
set_option maxHeartbeats 4000000 in
set_option maxRecDepth 100000 in
theorem b_X11_sum_4 {z : Int32} (F : Fx p m c cX11_sum 4 s args RX11) (hret : meth.sig.returnType = some .int) (hlk : meth.locks = false) : ∀ (n : Nat), ∀ {x0 : Int64} {x2 : Int32} {x3 : Int32} {H : Heap} {locs : List Loc} {ls : Array Slot}, f_X11_sum_4  n x0 x2 x3 = some z → Wd dd g mv A s H locs (w_X11_sum g ) → lv_has ls 4 [(0, .long x0), (2, .int x2), (3, .int x3)] → W p l e (rmH (1) 0 0) s m args below meth c H locs 0 0 (MQ below (Qo dd g (some (.int z)) (fun u : Unit => (w_X11_sum g )) A) args s 0 0 A) (F0 m 4 ls []) := by
  intro n
  induction n with
  | zero =>
    intros
    rename_i hr _ _
    cases hr
  | succ n ih =>
    intro x0 x2 x3 H locs ls hr hw hl
    refine lv_iload_n F.1 F.2.1 dX11_sum_4 rfl (lv_at hl 2 rfl) ?_
    refine lv_bipush (v := 9) F.1 F.2.1 dX11_sum_5 (by decide) ?_
    refine lv_icmp_ge (tgt := 24) F.1 F.2.1 dX11_sum_7 (by decide) (fun hc1 => ?_) (fun hc1 => ?_)
    · replace hr := (if_pos hc1).symm.trans hr
      refine lv_iload_n F.1 F.2.1 dX11_sum_24 rfl (lv_at hl 1 rfl) ?_
      cases hr
      exact ret_i () F hret hlk hw (Nat.le_refl _) (Nat.le_refl _) dX11_sum_25
    · replace hr := (if_neg hc1).symm.trans hr
      refine lv_iload_n F.1 F.2.1 dX11_sum_10 rfl (lv_at hl 1 rfl) ?_
      refine lv_lload_n F.1 F.2.1 dX11_sum_11 rfl (lv_at hl 0 rfl) ?_
      refine lv_iload_n F.1 F.2.1 dX11_sum_12 rfl (lv_at hl 2 rfl) ?_
      obtain ⟨z2, hz2, hr⟩ := Option.bind_eq_some_iff.mp hr
      refine call_o (wr := []) (run_S (As := [.long x0, .int x3]) (rest := [.int x2]) F k_X11_133 (c_X11_lane l dd g mv x0 x3 z2 hz2 _) hw [] (by decide) rfl rfl hl.1 rfl (Nat.le_of_ble_eq_true rfl) dX11_sum_13 ⟨Nat.le_of_ble_eq_true rfl, Nat.le_of_ble_eq_true rfl⟩ ⟨Nat.le_of_ble_eq_true rfl, Nat.le_of_ble_eq_true rfl⟩) hw [] [] rfl rfl (by decide) (by decide) (fun u3 H locs hw => ?_)
      replace hw : Wd dd g mv A s H locs (w_X11_sum g ) := hw.sub [] (by decide) rfl
      refine W.eq (g2 := F0 m 16 ls (.int z2 :: .int x2 :: [])) rfl ?_
      refine lv_iadd F.1 F.2.1 dX11_sum_16 ?_
      refine lv_istore_n (lv' := [(2, .int (x2 + z2)), (0, .long x0), (3, .int x3)]) F.1 F.2.1 dX11_sum_17 rfl hl (by decide) rfl (fun ls hl => ?_)
      refine lv_iinc (v := (x3 + 1)) (lv' := [(3, .int (x3 + 1)), (2, .int (x2 + z2)), (0, .long x0)]) F.1 F.2.1 dX11_sum_18 hl (k := 2) rfl rfl (by decide) rfl (fun ls hl => ?_)
      refine lv_goto (tgt := 4) F.1 F.2.1 dX11_sum_21 (by decide) ?_
      exact ih hr hw (lv_sub hl [2, 1, 0] rfl)
set_option maxHeartbeats 4000000 in
set_option maxRecDepth 100000 in
theorem c_X11_sum (l : Launch) (dd : va_G) (g : Nat → ClassId) (mv : Nat) (a1 : Int64) (z : Int32) (hr : f_X11_sum a1 = some z) (sz : Nat) : Met l yX11_sum (.code yX11_sum cX11_sum 4 (some .int) :: WS) (rmH 1 0 0) (va_Pc [.long a1] (PW dd g mv (w_X11_sum g ) sz)) (Qo dd g (some (.int z)) (fun u : Unit => (w_X11_sum g )) (va_A (w_X11_sum g ) sz)) 0 0 (va_A (w_X11_sum g ) sz) := by
  refine Met_intro (by decide) (Nat.le_of_ble_eq_true rfl) ?_
  intro p e s m below meth c A ls F hret hlk hin hw hl
  replace hl : lv_has ls 4 [(0, .long a1)] := hl
  refine lv_iconst (v := 0) F.1 F.2.1 dX11_sum_0 (by decide) ?_
  refine lv_istore_n (lv' := [(2, .int (0 : Int32)), (0, .long a1)]) F.1 F.2.1 dX11_sum_1 rfl hl (by decide) rfl (fun ls hl => ?_)
  refine lv_iconst (v := 0) F.1 F.2.1 dX11_sum_2 (by decide) ?_
  refine lv_istore_n (lv' := [(3, .int (0 : Int32)), (2, .int (0 : Int32)), (0, .long a1)]) F.1 F.2.1 dX11_sum_3 rfl hl (by decide) rfl (fun ls hl => ?_)
  exact b_X11_sum_4 F hret hlk  fuel hr hw (lv_sub hl [2, 1, 0] rfl)
set_option maxHeartbeats 4000000 in
set_option maxRecDepth 100000 in
theorem b_X6_note_39 {q_t q_t_when : Nat} {z : Int32 × (Nat → Int32)} (F : Fx p m c cX6_note 4 s args RX6) (hret : meth.sig.returnType = none) (hlk : meth.locks = false) {k2 : Int64 → Int32 → Int32 → Int32 → (Nat → Int32) → Option (Int32 × (Nat → Int32))} (hk2 : ∀ {x1 : Int64} {x3 : Int32} {t_pulls : Int32} {t_servings : Int32} {t_when : Nat → Int32} {t_wheel : Int64} {t_leaks : Int64} {t_turn : Int32} {t_drawn : Int32} {t_leaked : Int32} {t_drunk : Int32} {o_t_chain : Value} {H : Heap} {locs : List Loc} {ls : Array Slot}, k2 x1 x3 t_pulls t_servings t_when = some z → Wd dd g mv A s H locs (w_X6_note g q_t q_t_when o_t_chain t_wheel t_leaks t_turn t_pulls t_drawn t_leaked t_drunk t_servings t_when) → lv_has ls 4 [(0, .ref q_t), (1, .long x1), (3, .int x3)] → W p l e (rmH (1) 0 0) s m args below meth c H locs 0 0 (MQ below (Qo dd g none (fun u : Unit => (w_X6_note g q_t q_t_when o_t_chain t_wheel t_leaks t_turn t_pulls t_drawn t_leaked t_drunk z.1 z.2)) A) args s 0 0 A) (F0 m 2 ls [])) : ∀ {x1 : Int64} {x3 : Int32} {t_pulls : Int32} {t_servings : Int32} {t_when : Nat → Int32} {t_wheel : Int64} {t_leaks : Int64} {t_turn : Int32} {t_drawn : Int32} {t_leaked : Int32} {t_drunk : Int32} {o_t_chain : Value} {H : Heap} {locs : List Loc} {ls : Array Slot}, f_X6_note_39 k2 x1 x3 t_pulls t_servings t_when = some z → Wd dd g mv A s H locs (w_X6_note g q_t q_t_when o_t_chain t_wheel t_leaks t_turn t_pulls t_drawn t_leaked t_drunk t_servings t_when) → lv_has ls 4 [(0, .ref q_t), (1, .long x1), (3, .int x3)] → W p l e (rmH (1) 0 0) s m args below meth c H locs 0 0 (MQ below (Qo dd g none (fun u : Unit => (w_X6_note g q_t q_t_when o_t_chain t_wheel t_leaks t_turn t_pulls t_drawn t_leaked t_drunk z.1 z.2)) A) args s 0 0 A) (F0 m 39 ls []) := by
  intro x1 x3 t_pulls t_servings t_when t_wheel t_leaks t_turn t_drawn t_leaked t_drunk o_t_chain H locs ls hr hw hl
  refine lv_iinc (v := (x3 + 1)) (lv' := [(3, .int (x3 + 1)), (0, .ref q_t), (1, .long x1)]) F.1 F.2.1 dX6_note_39 hl (k := 2) rfl rfl (by decide) rfl (fun ls hl => ?_)
  refine lv_goto (tgt := 2) F.1 F.2.1 dX6_note_42 (by decide) ?_
  exact hk2 hr hw (lv_sub hl [1, 2, 0] rfl)
set_option maxHeartbeats 4000000 in
set_option maxRecDepth 100000 in
theorem b_X6_note_2 {q_t q_t_when : Nat} {z : Int32 × (Nat → Int32)} (F : Fx p m c cX6_note 4 s args RX6) (hret : meth.sig.returnType = none) (hlk : meth.locks = false) : ∀ (n : Nat), ∀ {x1 : Int64} {x3 : Int32} {t_pulls : Int32} {t_servings : Int32} {t_when : Nat → Int32} {t_wheel : Int64} {t_leaks : Int64} {t_turn : Int32} {t_drawn : Int32} {t_leaked : Int32} {t_drunk : Int32} {o_t_chain : Value} {H : Heap} {locs : List Loc} {ls : Array Slot}, f_X6_note_2  n x1 x3 t_pulls t_servings t_when = some z → Wd dd g mv A s H locs (w_X6_note g q_t q_t_when o_t_chain t_wheel t_leaks t_turn t_pulls t_drawn t_leaked t_drunk t_servings t_when) → lv_has ls 4 [(0, .ref q_t), (1, .long x1), (3, .int x3)] → W p l e (rmH (1) 0 0) s m args below meth c H locs 0 0 (MQ below (Qo dd g none (fun u : Unit => (w_X6_note g q_t q_t_when o_t_chain t_wheel t_leaks t_turn t_pulls t_drawn t_leaked t_drunk z.1 z.2)) A) args s 0 0 A) (F0 m 2 ls []) := by
  intro n
  induction n with
  | zero =>
    intros
    rename_i hr _ _
    cases hr
  | succ n ih =>
    intro x1 x3 t_pulls t_servings t_when t_wheel t_leaks t_turn t_drawn t_leaked t_drunk o_t_chain H locs ls hr hw hl
    refine lv_iload_n F.1 F.2.1 dX6_note_2 rfl (lv_at hl 2 rfl) ?_
    refine lv_bipush (v := 9) F.1 F.2.1 dX6_note_3 (by decide) ?_
    refine lv_icmp_ge (tgt := 45) F.1 F.2.1 dX6_note_5 (by decide) (fun hc1 => ?_) (fun hc1 => ?_)
    · replace hr := (if_pos hc1).symm.trans hr
      cases hr
      exact ret_v () F hret hlk hw (Nat.le_refl _) (Nat.le_refl _) dX6_note_45
    · replace hr := (if_neg hc1).symm.trans hr
      refine lv_lload_n F.1 F.2.1 dX6_note_8 rfl (lv_at hl 1 rfl) ?_
      refine lv_iload_n F.1 F.2.1 dX6_note_9 rfl (lv_at hl 2 rfl) ?_
      obtain ⟨z2, hz2, hr⟩ := Option.bind_eq_some_iff.mp hr
      refine call_o (wr := [(q_t, .inr (6, [.ref q_t_when, o_t_chain, .long t_wheel, .long t_leaks, .int t_turn, .int t_pulls, .int t_drawn, .int t_leaked, .int t_drunk, .int t_servings])), (q_t_when, .inl (g 0, 9, .inl t_when))]) (run_N (As := [.int x3]) (rest := [.long x1]) F k_X6_50 (c_X11_flag l dd g mv x3 z2 hz2 _) hw [] (by decide) rfl rfl hl.1 rfl (Nat.le_of_ble_eq_true rfl) dX6_note_10 ⟨Nat.le_of_ble_eq_true rfl, Nat.le_of_ble_eq_true rfl⟩ ⟨Nat.le_of_ble_eq_true rfl, Nat.le_of_ble_eq_true rfl⟩) hw [] [0, 1] rfl rfl (by decide) (by decide) (fun u3 H locs hw => ?_)
      replace hw : Wd dd g mv A s H locs (w_X6_note g q_t q_t_when o_t_chain t_wheel t_leaks t_turn t_pulls t_drawn t_leaked t_drunk t_servings t_when) := hw.sub [0, 1] (by decide) rfl
      refine W.eq (g2 := F0 m 13 ls (.long z2 :: .long x1 :: [])) rfl ?_
      refine lv_land F.1 F.2.1 dX6_note_13 ?_
      refine lv_lconst (v := 0) F.1 F.2.1 dX6_note_14 (by decide) ?_
      refine W.lcmp F.1 F.2.1 dX6_note_15 ?_
      refine lv_if_eq (tgt := 39) F.1 F.2.1 dX6_note_16 (by decide) (fun hc4 => ?_) (fun hc4 => ?_)
      · replace hr := (if_pos hc4).symm.trans hr
        exact b_X6_note_39 F hret hlk (ih) hr hw (lv_sub hl [0, 1, 2] rfl)
      · replace hr := (if_neg hc4).symm.trans hr
        refine lv_aload_n F.1 F.2.1 dX6_note_19 rfl (lv_at hl 0 rfl) ?_
        refine gf_X6_9 F hw 0 rfl rfl dX6_note_20 ?_
        refine lv_iload_n F.1 F.2.1 dX6_note_23 rfl (lv_at hl 2 rfl) ?_
        refine lv_aload_n F.1 F.2.1 dX6_note_24 rfl (lv_at hl 0 rfl) ?_
        refine gf_X6_30 F hw 0 rfl rfl dX6_note_25 ?_
        obtain ⟨hg5, hr⟩ := g_no hr
        refine aw_i F hw 1 rfl hg5 dX6_note_28 (fun H locs hw => ?_)
        replace hw : Wd dd g mv A s H locs (w_X6_note g q_t q_t_when o_t_chain t_wheel t_leaks t_turn t_pulls t_drawn t_leaked t_drunk t_servings ((upd t_when (x3).toNatClampNeg t_pulls))) := hw
        refine lv_aload_n F.1 F.2.1 dX6_note_29 rfl (lv_at hl 0 rfl) ?_
        refine lv_dup F.1 F.2.1 dX6_note_30 rfl ?_
        refine gf_X6_42 F hw 0 rfl rfl dX6_note_31 ?_
        refine lv_iconst (v := 1) F.1 F.2.1 dX6_note_34 (by decide) ?_
        refine lv_iadd F.1 F.2.1 dX6_note_35 ?_
        refine pf_X6_42 F hw 0 rfl (Nat.le_of_ble_eq_true rfl) dX6_note_36 (fun H locs hw => ?_)
        replace hw : Wd dd g mv A s H locs (w_X6_note g q_t q_t_when o_t_chain t_wheel t_leaks t_turn t_pulls t_drawn t_leaked t_drunk ((t_servings + (1 : Int32))) ((upd t_when (x3).toNatClampNeg t_pulls))) := hw
        exact b_X6_note_39 F hret hlk (ih) hr hw (lv_sub hl [0, 1, 2] rfl)
set_option maxHeartbeats 4000000 in
set_option maxRecDepth 100000 in
theorem c_X6_note (l : Launch) (dd : va_G) (g : Nat → ClassId) (mv : Nat) (q_t : Nat) (q_t_when : Nat) (o_t_chain : Value) (t_wheel : Int64) (t_leaks : Int64) (t_turn : Int32) (t_pulls : Int32) (t_drawn : Int32) (t_leaked : Int32) (t_drunk : Int32) (t_servings : Int32) (t_when : Nat → Int32) (a1 : Int64) (z : Int32 × (Nat → Int32)) (hr : f_X6_note t_pulls t_servings t_when a1 = some z) (sz : Nat) : Met l yX6_note (.code yX6_note cX6_note 4 none :: WS) (rmH 1 0 0) (va_Pc [.ref q_t, .long a1] (PW dd g mv (w_X6_note g q_t q_t_when o_t_chain t_wheel t_leaks t_turn t_pulls t_drawn t_leaked t_drunk t_servings t_when) sz)) (Qo dd g none (fun u : Unit => (w_X6_note g q_t q_t_when o_t_chain t_wheel t_leaks t_turn t_pulls t_drawn t_leaked t_drunk z.1 z.2)) (va_A (w_X6_note g q_t q_t_when o_t_chain t_wheel t_leaks t_turn t_pulls t_drawn t_leaked t_drunk t_servings t_when) sz)) 0 0 (va_A (w_X6_note g q_t q_t_when o_t_chain t_wheel t_leaks t_turn t_pulls t_drawn t_leaked t_drunk t_servings t_when) sz) := by
  refine Met_intro (by decide) (Nat.le_of_ble_eq_true rfl) ?_
  intro p e s m below meth c A ls F hret hlk hin hw hl
  replace hl : lv_has ls 4 [(0, .ref q_t), (1, .long a1)] := hl
  refine lv_iconst (v := 0) F.1 F.2.1 dX6_note_0 (by decide) ?_
  refine lv_istore_n (lv' := [(3, .int (0 : Int32)), (0, .ref q_t), (1, .long a1)]) F.1 F.2.1 dX6_note_1 rfl hl (by decide) rfl (fun ls hl => ?_)
  exact b_X6_note_2 F hret hlk  fuel hr hw (lv_sub hl [1, 2, 0] rfl)
set_option maxHeartbeats 4000000 in
set_option maxRecDepth 100000 in
theorem c_X6_turnBehind (l : Launch) (dd : va_G) (g : Nat → ClassId) (mv : Nat) (q_t : Nat) (o_t_when : Value) (o_t_chain : Value) (t_wheel : Int64) (t_leaks : Int64) (t_turn : Int32) (t_pulls : Int32) (t_drawn : Int32) (t_leaked : Int32) (t_drunk : Int32) (t_servings : Int32) (a1 : Int32) (a2 : Int32) (z : Int32) (hr : f_X6_turnBehind t_turn a1 a2 = some z) (sz : Nat) : Met l yX6_turnBehind (.code yX6_turnBehind cX6_turnBehind 3 (some .int) :: WS) (rmH 0 0 0) (va_Pc [.ref q_t, .int a1, .int a2] (PW dd g mv (w_X6_turnBehind g q_t o_t_when o_t_chain t_wheel t_leaks t_turn t_pulls t_drawn t_leaked t_drunk t_servings) sz)) (Qo dd g (some (.int z)) (fun u : Unit => (w_X6_turnBehind g q_t o_t_when o_t_chain t_wheel t_leaks t_turn t_pulls t_drawn t_leaked t_drunk t_servings)) (va_A (w_X6_turnBehind g q_t o_t_when o_t_chain t_wheel t_leaks t_turn t_pulls t_drawn t_leaked t_drunk t_servings) sz)) 0 0 (va_A (w_X6_turnBehind g q_t o_t_when o_t_chain t_wheel t_leaks t_turn t_pulls t_drawn t_leaked t_drunk t_servings) sz) := by
  refine Met_intro (by decide) (Nat.le_of_ble_eq_true rfl) ?_
  intro p e s m below meth c A ls F hret hlk hin hw hl
  replace hl : lv_has ls 3 [(0, .ref q_t), (1, .int a1), (2, .int a2)] := hl
  refine lv_iload_n F.1 F.2.1 dX6_turnBehind_0 rfl (lv_at hl 1 rfl) ?_
  refine lv_bipush (v := 43) F.1 F.2.1 dX6_turnBehind_1 (by decide) ?_
  refine lv_icmp_ne (tgt := 27) F.1 F.2.1 dX6_turnBehind_3 (by decide) (fun hc1 => ?_) (fun hc1 => ?_)
  · replace hr := (if_neg hc1).symm.trans hr
    refine lv_iload_n F.1 F.2.1 dX6_turnBehind_27 rfl (lv_at hl 1 rfl) ?_
    refine lv_bipush (v := 45) F.1 F.2.1 dX6_turnBehind_28 (by decide) ?_
    refine lv_icmp_ne (tgt := 53) F.1 F.2.1 dX6_turnBehind_30 (by decide) (fun hc2 => ?_) (fun hc2 => ?_)
    · replace hr := (if_neg hc2).symm.trans hr
      refine lv_aload_n F.1 F.2.1 dX6_turnBehind_53 rfl (lv_at hl 0 rfl) ?_
      refine gf_X6_26 F hw 0 rfl rfl dX6_turnBehind_54 ?_
      cases hr
      exact ret_i () F hret hlk hw (Nat.le_refl _) (Nat.le_refl _) dX6_turnBehind_57
    · replace hr := (if_pos hc2).symm.trans hr
      refine lv_aload_n F.1 F.2.1 dX6_turnBehind_33 rfl (lv_at hl 0 rfl) ?_
      refine gf_X6_26 F hw 0 rfl rfl dX6_turnBehind_34 ?_
      refine lv_if_ne (tgt := 46) F.1 F.2.1 dX6_turnBehind_37 (by decide) (fun hc3 => ?_) (fun hc3 => ?_)
      · replace hr := (if_neg hc3).symm.trans hr
        refine lv_aload_n F.1 F.2.1 dX6_turnBehind_46 rfl (lv_at hl 0 rfl) ?_
        refine gf_X6_26 F hw 0 rfl rfl dX6_turnBehind_47 ?_
        refine lv_iconst (v := 1) F.1 F.2.1 dX6_turnBehind_50 (by decide) ?_
        refine lv_isub F.1 F.2.1 dX6_turnBehind_51 ?_
        cases hr
        exact ret_i () F hret hlk hw (Nat.le_refl _) (Nat.le_refl _) dX6_turnBehind_52
      · replace hr := (if_pos hc3).symm.trans hr
        refine lv_iload_n F.1 F.2.1 dX6_turnBehind_40 rfl (lv_at hl 2 rfl) ?_
        refine lv_iconst (v := 1) F.1 F.2.1 dX6_turnBehind_41 (by decide) ?_
        refine lv_isub F.1 F.2.1 dX6_turnBehind_42 ?_
        refine lv_goto (tgt := 52) F.1 F.2.1 dX6_turnBehind_43 (by decide) ?_
        cases hr
        exact ret_i () F hret hlk hw (Nat.le_refl _) (Nat.le_refl _) dX6_turnBehind_52
  · replace hr := (if_pos hc1).symm.trans hr
    refine lv_aload_n F.1 F.2.1 dX6_turnBehind_6 rfl (lv_at hl 0 rfl) ?_
    refine gf_X6_26 F hw 0 rfl rfl dX6_turnBehind_7 ?_
    refine lv_iconst (v := 1) F.1 F.2.1 dX6_turnBehind_10 (by decide) ?_
    refine lv_iadd F.1 F.2.1 dX6_turnBehind_11 ?_
    refine lv_iload_n F.1 F.2.1 dX6_turnBehind_12 rfl (lv_at hl 2 rfl) ?_
    refine lv_icmp_lt (tgt := 20) F.1 F.2.1 dX6_turnBehind_13 (by decide) (fun hc4 => ?_) (fun hc4 => ?_)
    · replace hr := (if_pos hc4).symm.trans hr
      refine lv_aload_n F.1 F.2.1 dX6_turnBehind_20 rfl (lv_at hl 0 rfl) ?_
      refine gf_X6_26 F hw 0 rfl rfl dX6_turnBehind_21 ?_
      refine lv_iconst (v := 1) F.1 F.2.1 dX6_turnBehind_24 (by decide) ?_
      refine lv_iadd F.1 F.2.1 dX6_turnBehind_25 ?_
      cases hr
      exact ret_i () F hret hlk hw (Nat.le_refl _) (Nat.le_refl _) dX6_turnBehind_26
    · replace hr := (if_neg hc4).symm.trans hr
      refine lv_iconst (v := 0) F.1 F.2.1 dX6_turnBehind_16 (by decide) ?_
      refine lv_goto (tgt := 26) F.1 F.2.1 dX6_turnBehind_17 (by decide) ?_
      cases hr
      exact ret_i () F hret hlk hw (Nat.le_refl _) (Nat.le_refl _) dX6_turnBehind_26
set_option maxHeartbeats 4000000 in
set_option maxRecDepth 100000 in
theorem c_X6_move (l : Launch) (dd : va_G) (g : Nat → ClassId) (mv : Nat) (q_t : Nat) (q_t_chain : Nat) (q_t_when : Nat) (t_wheel : Int64) (t_leaks : Int64) (t_turn : Int32) (t_pulls : Int32) (t_drawn : Int32) (t_leaked : Int32) (t_drunk : Int32) (t_servings : Int32) (t_chain_places : Int32) (t_chain_deep : Int32) (t_chain_turn : Int32) (t_chain_wheel : Int64) (t_chain_leaks : Int64) (t_chain_wants : Int64) (t_when : Nat → Int32) (a1 : Int32) (z : Int64 × Int64 × Int32 × Int32 × Int32 × Int32 × Int32 × Int32 × (Nat → Int32)) (hr : f_X6_move t_wheel t_leaks t_turn t_pulls t_drawn t_leaked t_drunk t_servings t_chain_places t_chain_deep t_chain_wants t_when a1 = some z) (sz : Nat) : Met l yX6_move (.code yX6_move cX6_move 8 none :: WS) (rmH 2 0 0) (va_Pc [.ref q_t, .int a1] (PW dd g mv (w_X6_move g q_t q_t_chain q_t_when t_wheel t_leaks t_turn t_pulls t_drawn t_leaked t_drunk t_servings t_chain_places t_chain_deep t_chain_turn t_chain_wheel t_chain_leaks t_chain_wants t_when) sz)) (Qo dd g none (fun u : Unit => (w_X6_move g q_t q_t_chain q_t_when z.1 z.2.1 z.2.2.1 z.2.2.2.1 z.2.2.2.2.1 z.2.2.2.2.2.1 z.2.2.2.2.2.2.1 z.2.2.2.2.2.2.2.1 t_chain_places t_chain_deep t_chain_turn t_chain_wheel t_chain_leaks t_chain_wants z.2.2.2.2.2.2.2.2)) (va_A (w_X6_move g q_t q_t_chain q_t_when t_wheel t_leaks t_turn t_pulls t_drawn t_leaked t_drunk t_servings t_chain_places t_chain_deep t_chain_turn t_chain_wheel t_chain_leaks t_chain_wants t_when) sz)) 0 0 (va_A (w_X6_move g q_t q_t_chain q_t_when t_wheel t_leaks t_turn t_pulls t_drawn t_leaked t_drunk t_servings t_chain_places t_chain_deep t_chain_turn t_chain_wheel t_chain_leaks t_chain_wants t_when) sz) := by
  refine Met_intro (by decide) (Nat.le_of_ble_eq_true rfl) ?_
  intro p e s m below meth c A ls F hret hlk hin hw hl
  replace hl : lv_has ls 8 [(0, .ref q_t), (1, .int a1)] := hl
  refine lv_aload_n F.1 F.2.1 dX6_move_0 rfl (lv_at hl 0 rfl) ?_
  refine gf_X6_15 F hw 0 rfl rfl dX6_move_1 ?_
  refine lv_ifnonnull (tgt := 8) F.1 F.2.1 dX6_move_4 (by decide) ?_
  refine lv_aload_n F.1 F.2.1 dX6_move_8 rfl (lv_at hl 0 rfl) ?_
  refine lv_dup F.1 F.2.1 dX6_move_9 rfl ?_
  refine gf_X6_30 F hw 0 rfl rfl dX6_move_10 ?_
  refine lv_iconst (v := 1) F.1 F.2.1 dX6_move_13 (by decide) ?_
  refine lv_iadd F.1 F.2.1 dX6_move_14 ?_
  refine pf_X6_30 F hw 0 rfl (Nat.le_of_ble_eq_true rfl) dX6_move_15 (fun H locs hw => ?_)
  replace hw : Wd dd g mv A s H locs (w_X6_move g q_t q_t_chain q_t_when t_wheel t_leaks t_turn ((t_pulls + (1 : Int32))) t_drawn t_leaked t_drunk t_servings t_chain_places t_chain_deep t_chain_turn t_chain_wheel t_chain_leaks t_chain_wants t_when) := hw
  refine lv_aload_n F.1 F.2.1 dX6_move_18 rfl (lv_at hl 0 rfl) ?_
  refine lv_aload_n F.1 F.2.1 dX6_move_19 rfl (lv_at hl 0 rfl) ?_
  refine lv_iload_n F.1 F.2.1 dX6_move_20 rfl (lv_at hl 1 rfl) ?_
  refine lv_aload_n F.1 F.2.1 dX6_move_21 rfl (lv_at hl 0 rfl) ?_
  refine gf_X6_15 F hw 0 rfl rfl dX6_move_22 ?_
  refine gf_X6_54 F hw 1 rfl rfl dX6_move_25 ?_
  obtain ⟨z1, hz1, hr⟩ := Option.bind_eq_some_iff.mp hr
  refine call_o (wr := [(q_t_chain, .inr (1, [.int t_chain_places, .int t_chain_deep, .int t_chain_turn, .long t_chain_wheel, .long t_chain_leaks, .long t_chain_wants])), (q_t_when, .inl (g 0, 9, .inl t_when))]) (run_V (As := [.int a1, .int t_chain_places]) (rest := [.ref q_t]) F k_X6_57 (c_X6_turnBehind l dd g mv q_t ((.ref q_t_when)) ((.ref q_t_chain)) t_wheel t_leaks t_turn ((t_pulls + (1 : Int32))) t_drawn t_leaked t_drunk t_servings a1 t_chain_places z1 hz1 _) hw [0] (by decide) rfl (ci := 6) rfl rfl rfl rfl hl.1 rfl (Nat.le_of_ble_eq_true rfl) dX6_move_28 ⟨Nat.le_of_ble_eq_true rfl, Nat.le_of_ble_eq_true rfl⟩ ⟨Nat.le_of_ble_eq_true rfl, Nat.le_of_ble_eq_true rfl⟩) hw [0] [1, 2] rfl rfl (by decide) (by decide) (fun u2 H locs hw => ?_)
  replace hw : Wd dd g mv A s H locs (w_X6_move g q_t q_t_chain q_t_when t_wheel t_leaks t_turn ((t_pulls + (1 : Int32))) t_drawn t_leaked t_drunk t_servings t_chain_places t_chain_deep t_chain_turn t_chain_wheel t_chain_leaks t_chain_wants t_when) := hw.sub [2, 0, 1] (by decide) rfl
  refine W.eq (g2 := F0 m 31 ls (.int z1 :: .ref q_t :: [])) rfl ?_
  refine pf_X6_26 F hw 0 rfl (Nat.le_of_ble_eq_true rfl) dX6_move_31 (fun H locs hw => ?_)
  replace hw : Wd dd g mv A s H locs (w_X6_move g q_t q_t_chain q_t_when t_wheel t_leaks z1 ((t_pulls + (1 : Int32))) t_drawn t_leaked t_drunk t_servings t_chain_places t_chain_deep t_chain_turn t_chain_wheel t_chain_leaks t_chain_wants t_when) := hw
  refine lv_aload_n F.1 F.2.1 dX6_move_34 rfl (lv_at hl 0 rfl) ?_
  refine lv_aload_n F.1 F.2.1 dX6_move_35 rfl (lv_at hl 0 rfl) ?_
  refine gf_X6_15 F hw 0 rfl rfl dX6_move_36 ?_
  refine lv_aload_n F.1 F.2.1 dX6_move_39 rfl (lv_at hl 0 rfl) ?_
  refine gf_X6_23 F hw 0 rfl rfl dX6_move_40 ?_
  refine lv_iload_n F.1 F.2.1 dX6_move_43 rfl (lv_at hl 1 rfl) ?_
  obtain ⟨z3, hz3, hr⟩ := Option.bind_eq_some_iff.mp hr
  refine call_o (wr := [(q_t, .inr (6, [.ref q_t_when, .ref q_t_chain, .long t_wheel, .long t_leaks, .int z1, .int ((t_pulls + (1 : Int32))), .int t_drawn, .int t_leaked, .int t_drunk, .int t_servings])), (q_t_when, .inl (g 0, 9, .inl t_when))]) (run_V (As := [.long t_leaks, .int a1]) (rest := [.ref q_t]) F k_X6_61 (c_X1_turned l dd g mv q_t_chain t_chain_places t_chain_deep t_chain_turn t_chain_wheel t_chain_leaks t_chain_wants t_leaks a1 z3 hz3 _) hw [1] (by decide) rfl (ci := 1) rfl rfl rfl rfl hl.1 rfl (Nat.le_of_ble_eq_true rfl) dX6_move_44 ⟨Nat.le_of_ble_eq_true rfl, Nat.le_of_ble_eq_true rfl⟩ ⟨Nat.le_of_ble_eq_true rfl, Nat.le_of_ble_eq_true rfl⟩) hw [1] [0, 2] rfl rfl (by decide) (by decide) (fun u4 H locs hw => ?_)
  replace hw : Wd dd g mv A s H locs (w_X6_move g q_t q_t_chain q_t_when t_wheel t_leaks z1 ((t_pulls + (1 : Int32))) t_drawn t_leaked t_drunk t_servings t_chain_places t_chain_deep t_chain_turn t_chain_wheel t_chain_leaks t_chain_wants t_when) := hw.sub [0, 2, 1] (by decide) rfl
  refine W.eq (g2 := F0 m 47 ls (.long z3 :: .ref q_t :: [])) rfl ?_
  refine pf_X6_23 F hw 0 rfl (Nat.le_of_ble_eq_true rfl) dX6_move_47 (fun H locs hw => ?_)
  replace hw : Wd dd g mv A s H locs (w_X6_move g q_t q_t_chain q_t_when t_wheel z3 z1 ((t_pulls + (1 : Int32))) t_drawn t_leaked t_drunk t_servings t_chain_places t_chain_deep t_chain_turn t_chain_wheel t_chain_leaks t_chain_wants t_when) := hw
  refine lv_aload_n F.1 F.2.1 dX6_move_50 rfl (lv_at hl 0 rfl) ?_
  refine gf_X6_15 F hw 0 rfl rfl dX6_move_51 ?_
  refine lv_aload_n F.1 F.2.1 dX6_move_54 rfl (lv_at hl 0 rfl) ?_
  refine gf_X6_19 F hw 0 rfl rfl dX6_move_55 ?_
  refine lv_iload_n F.1 F.2.1 dX6_move_58 rfl (lv_at hl 1 rfl) ?_
  obtain ⟨z5, hz5, hr⟩ := Option.bind_eq_some_iff.mp hr
  refine call_o (wr := [(q_t, .inr (6, [.ref q_t_when, .ref q_t_chain, .long t_wheel, .long z3, .int z1, .int ((t_pulls + (1 : Int32))), .int t_drawn, .int t_leaked, .int t_drunk, .int t_servings])), (q_t_when, .inl (g 0, 9, .inl t_when))]) (run_V (As := [.long t_wheel, .int a1]) (rest := []) F k_X6_61 (c_X1_turned l dd g mv q_t_chain t_chain_places t_chain_deep t_chain_turn t_chain_wheel t_chain_leaks t_chain_wants t_wheel a1 z5 hz5 _) hw [1] (by decide) rfl (ci := 1) rfl rfl rfl rfl hl.1 rfl (Nat.le_of_ble_eq_true rfl) dX6_move_59 ⟨Nat.le_of_ble_eq_true rfl, Nat.le_of_ble_eq_true rfl⟩ ⟨Nat.le_of_ble_eq_true rfl, Nat.le_of_ble_eq_true rfl⟩) hw [1] [0, 2] rfl rfl (by decide) (by decide) (fun u6 H locs hw => ?_)
  replace hw : Wd dd g mv A s H locs (w_X6_move g q_t q_t_chain q_t_when t_wheel z3 z1 ((t_pulls + (1 : Int32))) t_drawn t_leaked t_drunk t_servings t_chain_places t_chain_deep t_chain_turn t_chain_wheel t_chain_leaks t_chain_wants t_when) := hw.sub [0, 2, 1] (by decide) rfl
  refine W.eq (g2 := F0 m 62 ls (.long z5 :: [])) rfl ?_
  refine lv_lstore_n (lv' := [(2, .long z5), (0, .ref q_t), (1, .int a1)]) F.1 F.2.1 dX6_move_62 rfl hl (by decide) rfl (fun ls hl => ?_)
  refine lv_aload_n F.1 F.2.1 dX6_move_63 rfl (lv_at hl 1 rfl) ?_
  refine gf_X6_15 F hw 0 rfl rfl dX6_move_64 ?_
  refine lv_lload_n F.1 F.2.1 dX6_move_67 rfl (lv_at hl 0 rfl) ?_
  refine lv_aload_n F.1 F.2.1 dX6_move_68 rfl (lv_at hl 1 rfl) ?_
  refine gf_X6_23 F hw 0 rfl rfl dX6_move_69 ?_
  obtain ⟨z7, hz7, hr⟩ := Option.bind_eq_some_iff.mp hr
  refine call_o (wr := [(q_t, .inr (6, [.ref q_t_when, .ref q_t_chain, .long t_wheel, .long z3, .int z1, .int ((t_pulls + (1 : Int32))), .int t_drawn, .int t_leaked, .int t_drunk, .int t_servings])), (q_t_when, .inl (g 0, 9, .inl t_when))]) (run_V (As := [.long z5, .long z3]) (rest := []) F k_X6_65 (c_X1_leaked l dd g mv q_t_chain t_chain_places t_chain_deep t_chain_turn t_chain_wheel t_chain_leaks t_chain_wants z5 z3 z7 hz7 _) hw [1] (by decide) rfl (ci := 1) rfl rfl rfl rfl hl.1 rfl (Nat.le_of_ble_eq_true rfl) dX6_move_72 ⟨Nat.le_of_ble_eq_true rfl, Nat.le_of_ble_eq_true rfl⟩ ⟨Nat.le_of_ble_eq_true rfl, Nat.le_of_ble_eq_true rfl⟩) hw [1] [0, 2] rfl rfl (by decide) (by decide) (fun u8 H locs hw => ?_)
  replace hw : Wd dd g mv A s H locs (w_X6_move g q_t q_t_chain q_t_when t_wheel z3 z1 ((t_pulls + (1 : Int32))) t_drawn t_leaked t_drunk t_servings t_chain_places t_chain_deep t_chain_turn t_chain_wheel t_chain_leaks t_chain_wants t_when) := hw.sub [0, 2, 1] (by decide) rfl
  refine W.eq (g2 := F0 m 75 ls (.long z7 :: [])) rfl ?_
  refine lv_lstore (lv' := [(4, .long z7), (2, .long z5), (0, .ref q_t), (1, .int a1)]) F.1 F.2.1 dX6_move_75 hl (by decide) rfl (fun ls hl => ?_)
  refine lv_aload_n F.1 F.2.1 dX6_move_77 rfl (lv_at hl 2 rfl) ?_
  refine gf_X6_15 F hw 0 rfl rfl dX6_move_78 ?_
  refine lv_lload F.1 F.2.1 dX6_move_81 (lv_at hl 0 rfl) ?_
  obtain ⟨z9, hz9, hr⟩ := Option.bind_eq_some_iff.mp hr
  refine call_o (wr := [(q_t, .inr (6, [.ref q_t_when, .ref q_t_chain, .long t_wheel, .long z3, .int z1, .int ((t_pulls + (1 : Int32))), .int t_drawn, .int t_leaked, .int t_drunk, .int t_servings])), (q_t_when, .inl (g 0, 9, .inl t_when))]) (run_V (As := [.long z7]) (rest := []) F k_X6_68 (c_X1_filled l dd g mv q_t_chain t_chain_places t_chain_deep t_chain_turn t_chain_wheel t_chain_leaks t_chain_wants z7 z9 hz9 _) hw [1] (by decide) rfl (ci := 1) rfl rfl rfl rfl hl.1 rfl (Nat.le_of_ble_eq_true rfl) dX6_move_83 ⟨Nat.le_of_ble_eq_true rfl, Nat.le_of_ble_eq_true rfl⟩ ⟨Nat.le_of_ble_eq_true rfl, Nat.le_of_ble_eq_true rfl⟩) hw [1] [0, 2] rfl rfl (by decide) (by decide) (fun u10 H locs hw => ?_)
  replace hw : Wd dd g mv A s H locs (w_X6_move g q_t q_t_chain q_t_when t_wheel z3 z1 ((t_pulls + (1 : Int32))) t_drawn t_leaked t_drunk t_servings t_chain_places t_chain_deep t_chain_turn t_chain_wheel t_chain_leaks t_chain_wants t_when) := hw.sub [0, 2, 1] (by decide) rfl
  refine W.eq (g2 := F0 m 86 ls (.long z9 :: [])) rfl ?_
  refine lv_lstore (lv' := [(6, .long z9), (4, .long z7), (2, .long z5), (0, .ref q_t), (1, .int a1)]) F.1 F.2.1 dX6_move_86 hl (by decide) rfl (fun ls hl => ?_)
  refine lv_aload_n F.1 F.2.1 dX6_move_88 rfl (lv_at hl 3 rfl) ?_
  refine lv_aload_n F.1 F.2.1 dX6_move_89 rfl (lv_at hl 3 rfl) ?_
  refine gf_X6_15 F hw 0 rfl rfl dX6_move_90 ?_
  refine lv_lload F.1 F.2.1 dX6_move_93 (lv_at hl 0 rfl) ?_
  obtain ⟨z11, hz11, hr⟩ := Option.bind_eq_some_iff.mp hr
  refine call_o (wr := [(q_t, .inr (6, [.ref q_t_when, .ref q_t_chain, .long t_wheel, .long z3, .int z1, .int ((t_pulls + (1 : Int32))), .int t_drawn, .int t_leaked, .int t_drunk, .int t_servings])), (q_t_when, .inl (g 0, 9, .inl t_when))]) (run_V (As := [.long z9]) (rest := [.ref q_t]) F k_X6_72 (c_X1_drunk l dd g mv q_t_chain t_chain_places t_chain_deep t_chain_turn t_chain_wheel t_chain_leaks t_chain_wants z9 z11 hz11 _) hw [1] (by decide) rfl (ci := 1) rfl rfl rfl rfl hl.1 rfl (Nat.le_of_ble_eq_true rfl) dX6_move_95 ⟨Nat.le_of_ble_eq_true rfl, Nat.le_of_ble_eq_true rfl⟩ ⟨Nat.le_of_ble_eq_true rfl, Nat.le_of_ble_eq_true rfl⟩) hw [1] [0, 2] rfl rfl (by decide) (by decide) (fun u12 H locs hw => ?_)
  replace hw : Wd dd g mv A s H locs (w_X6_move g q_t q_t_chain q_t_when t_wheel z3 z1 ((t_pulls + (1 : Int32))) t_drawn t_leaked t_drunk t_servings t_chain_places t_chain_deep t_chain_turn t_chain_wheel t_chain_leaks t_chain_wants t_when) := hw.sub [0, 2, 1] (by decide) rfl
  refine W.eq (g2 := F0 m 98 ls (.long z11 :: .ref q_t :: [])) rfl ?_
  refine pf_X6_19 F hw 0 rfl (Nat.le_of_ble_eq_true rfl) dX6_move_98 (fun H locs hw => ?_)
  replace hw : Wd dd g mv A s H locs (w_X6_move g q_t q_t_chain q_t_when z11 z3 z1 ((t_pulls + (1 : Int32))) t_drawn t_leaked t_drunk t_servings t_chain_places t_chain_deep t_chain_turn t_chain_wheel t_chain_leaks t_chain_wants t_when) := hw
  refine lv_aload_n F.1 F.2.1 dX6_move_101 rfl (lv_at hl 3 rfl) ?_
  refine lv_dup F.1 F.2.1 dX6_move_102 rfl ?_
  refine gf_X6_36 F hw 0 rfl rfl dX6_move_103 ?_
  refine lv_lload_n F.1 F.2.1 dX6_move_106 rfl (lv_at hl 2 rfl) ?_
  obtain ⟨z13, hz13, hr⟩ := Option.bind_eq_some_iff.mp hr
  refine call_o (wr := [(q_t, .inr (6, [.ref q_t_when, .ref q_t_chain, .long z11, .long z3, .int z1, .int ((t_pulls + (1 : Int32))), .int t_drawn, .int t_leaked, .int t_drunk, .int t_servings])), (q_t_chain, .inr (1, [.int t_chain_places, .int t_chain_deep, .int t_chain_turn, .long t_chain_wheel, .long t_chain_leaks, .long t_chain_wants])), (q_t_when, .inl (g 0, 9, .inl t_when))]) (run_N (As := [.long z5]) (rest := [.int t_leaked, .ref q_t]) F k_X6_74 (c_X11_sum l dd g mv z5 z13 hz13 _) hw [] (by decide) rfl rfl hl.1 rfl (Nat.le_of_ble_eq_true rfl) dX6_move_107 ⟨Nat.le_of_ble_eq_true rfl, Nat.le_of_ble_eq_true rfl⟩ ⟨Nat.le_of_ble_eq_true rfl, Nat.le_of_ble_eq_true rfl⟩) hw [] [0, 1, 2] rfl rfl (by decide) (by decide) (fun u14 H locs hw => ?_)
  replace hw : Wd dd g mv A s H locs (w_X6_move g q_t q_t_chain q_t_when z11 z3 z1 ((t_pulls + (1 : Int32))) t_drawn t_leaked t_drunk t_servings t_chain_places t_chain_deep t_chain_turn t_chain_wheel t_chain_leaks t_chain_wants t_when) := hw.sub [0, 1, 2] (by decide) rfl
  refine W.eq (g2 := F0 m 110 ls (.int z13 :: .int t_leaked :: .ref q_t :: [])) rfl ?_
  refine lv_lload F.1 F.2.1 dX6_move_110 (lv_at hl 1 rfl) ?_
  obtain ⟨z15, hz15, hr⟩ := Option.bind_eq_some_iff.mp hr
  refine call_o (wr := [(q_t, .inr (6, [.ref q_t_when, .ref q_t_chain, .long z11, .long z3, .int z1, .int ((t_pulls + (1 : Int32))), .int t_drawn, .int t_leaked, .int t_drunk, .int t_servings])), (q_t_chain, .inr (1, [.int t_chain_places, .int t_chain_deep, .int t_chain_turn, .long t_chain_wheel, .long t_chain_leaks, .long t_chain_wants])), (q_t_when, .inl (g 0, 9, .inl t_when))]) (run_N (As := [.long z7]) (rest := [.int z13, .int t_leaked, .ref q_t]) F k_X6_74 (c_X11_sum l dd g mv z7 z15 hz15 _) hw [] (by decide) rfl rfl hl.1 rfl (Nat.le_of_ble_eq_true rfl) dX6_move_112 ⟨Nat.le_of_ble_eq_true rfl, Nat.le_of_ble_eq_true rfl⟩ ⟨Nat.le_of_ble_eq_true rfl, Nat.le_of_ble_eq_true rfl⟩) hw [] [0, 1, 2] rfl rfl (by decide) (by decide) (fun u16 H locs hw => ?_)
  replace hw : Wd dd g mv A s H locs (w_X6_move g q_t q_t_chain q_t_when z11 z3 z1 ((t_pulls + (1 : Int32))) t_drawn t_leaked t_drunk t_servings t_chain_places t_chain_deep t_chain_turn t_chain_wheel t_chain_leaks t_chain_wants t_when) := hw.sub [0, 1, 2] (by decide) rfl
  refine W.eq (g2 := F0 m 115 ls (.int z15 :: .int z13 :: .int t_leaked :: .ref q_t :: [])) rfl ?_
  refine lv_isub F.1 F.2.1 dX6_move_115 ?_
  refine lv_iadd F.1 F.2.1 dX6_move_116 ?_
  refine pf_X6_36 F hw 0 rfl (Nat.le_of_ble_eq_true rfl) dX6_move_117 (fun H locs hw => ?_)
  replace hw : Wd dd g mv A s H locs (w_X6_move g q_t q_t_chain q_t_when z11 z3 z1 ((t_pulls + (1 : Int32))) t_drawn ((t_leaked + (z13 - z15))) t_drunk t_servings t_chain_places t_chain_deep t_chain_turn t_chain_wheel t_chain_leaks t_chain_wants t_when) := hw
  refine lv_aload_n F.1 F.2.1 dX6_move_120 rfl (lv_at hl 3 rfl) ?_
  refine lv_dup F.1 F.2.1 dX6_move_121 rfl ?_
  refine gf_X6_33 F hw 0 rfl rfl dX6_move_122 ?_
  refine lv_lload F.1 F.2.1 dX6_move_125 (lv_at hl 0 rfl) ?_
  obtain ⟨z17, hz17, hr⟩ := Option.bind_eq_some_iff.mp hr
  refine call_o (wr := [(q_t, .inr (6, [.ref q_t_when, .ref q_t_chain, .long z11, .long z3, .int z1, .int ((t_pulls + (1 : Int32))), .int t_drawn, .int ((t_leaked + (z13 - z15))), .int t_drunk, .int t_servings])), (q_t_chain, .inr (1, [.int t_chain_places, .int t_chain_deep, .int t_chain_turn, .long t_chain_wheel, .long t_chain_leaks, .long t_chain_wants])), (q_t_when, .inl (g 0, 9, .inl t_when))]) (run_N (As := [.long z9]) (rest := [.int t_drawn, .ref q_t]) F k_X6_74 (c_X11_sum l dd g mv z9 z17 hz17 _) hw [] (by decide) rfl rfl hl.1 rfl (Nat.le_of_ble_eq_true rfl) dX6_move_127 ⟨Nat.le_of_ble_eq_true rfl, Nat.le_of_ble_eq_true rfl⟩ ⟨Nat.le_of_ble_eq_true rfl, Nat.le_of_ble_eq_true rfl⟩) hw [] [0, 1, 2] rfl rfl (by decide) (by decide) (fun u18 H locs hw => ?_)
  replace hw : Wd dd g mv A s H locs (w_X6_move g q_t q_t_chain q_t_when z11 z3 z1 ((t_pulls + (1 : Int32))) t_drawn ((t_leaked + (z13 - z15))) t_drunk t_servings t_chain_places t_chain_deep t_chain_turn t_chain_wheel t_chain_leaks t_chain_wants t_when) := hw.sub [0, 1, 2] (by decide) rfl
  refine W.eq (g2 := F0 m 130 ls (.int z17 :: .int t_drawn :: .ref q_t :: [])) rfl ?_
  refine lv_lload F.1 F.2.1 dX6_move_130 (lv_at hl 1 rfl) ?_
  obtain ⟨z19, hz19, hr⟩ := Option.bind_eq_some_iff.mp hr
  refine call_o (wr := [(q_t, .inr (6, [.ref q_t_when, .ref q_t_chain, .long z11, .long z3, .int z1, .int ((t_pulls + (1 : Int32))), .int t_drawn, .int ((t_leaked + (z13 - z15))), .int t_drunk, .int t_servings])), (q_t_chain, .inr (1, [.int t_chain_places, .int t_chain_deep, .int t_chain_turn, .long t_chain_wheel, .long t_chain_leaks, .long t_chain_wants])), (q_t_when, .inl (g 0, 9, .inl t_when))]) (run_N (As := [.long z7]) (rest := [.int z17, .int t_drawn, .ref q_t]) F k_X6_74 (c_X11_sum l dd g mv z7 z19 hz19 _) hw [] (by decide) rfl rfl hl.1 rfl (Nat.le_of_ble_eq_true rfl) dX6_move_132 ⟨Nat.le_of_ble_eq_true rfl, Nat.le_of_ble_eq_true rfl⟩ ⟨Nat.le_of_ble_eq_true rfl, Nat.le_of_ble_eq_true rfl⟩) hw [] [0, 1, 2] rfl rfl (by decide) (by decide) (fun u20 H locs hw => ?_)
  replace hw : Wd dd g mv A s H locs (w_X6_move g q_t q_t_chain q_t_when z11 z3 z1 ((t_pulls + (1 : Int32))) t_drawn ((t_leaked + (z13 - z15))) t_drunk t_servings t_chain_places t_chain_deep t_chain_turn t_chain_wheel t_chain_leaks t_chain_wants t_when) := hw.sub [0, 1, 2] (by decide) rfl
  refine W.eq (g2 := F0 m 135 ls (.int z19 :: .int z17 :: .int t_drawn :: .ref q_t :: [])) rfl ?_
  refine lv_isub F.1 F.2.1 dX6_move_135 ?_
  refine lv_iadd F.1 F.2.1 dX6_move_136 ?_
  refine pf_X6_33 F hw 0 rfl (Nat.le_of_ble_eq_true rfl) dX6_move_137 (fun H locs hw => ?_)
  replace hw : Wd dd g mv A s H locs (w_X6_move g q_t q_t_chain q_t_when z11 z3 z1 ((t_pulls + (1 : Int32))) ((t_drawn + (z17 - z19))) ((t_leaked + (z13 - z15))) t_drunk t_servings t_chain_places t_chain_deep t_chain_turn t_chain_wheel t_chain_leaks t_chain_wants t_when) := hw
  refine lv_aload_n F.1 F.2.1 dX6_move_140 rfl (lv_at hl 3 rfl) ?_
  refine lv_dup F.1 F.2.1 dX6_move_141 rfl ?_
  refine gf_X6_39 F hw 0 rfl rfl dX6_move_142 ?_
  refine lv_lload F.1 F.2.1 dX6_move_145 (lv_at hl 0 rfl) ?_
  obtain ⟨z21, hz21, hr⟩ := Option.bind_eq_some_iff.mp hr
  refine call_o (wr := [(q_t, .inr (6, [.ref q_t_when, .ref q_t_chain, .long z11, .long z3, .int z1, .int ((t_pulls + (1 : Int32))), .int ((t_drawn + (z17 - z19))), .int ((t_leaked + (z13 - z15))), .int t_drunk, .int t_servings])), (q_t_chain, .inr (1, [.int t_chain_places, .int t_chain_deep, .int t_chain_turn, .long t_chain_wheel, .long t_chain_leaks, .long t_chain_wants])), (q_t_when, .inl (g 0, 9, .inl t_when))]) (run_N (As := [.long z9]) (rest := [.int t_drunk, .ref q_t]) F k_X6_74 (c_X11_sum l dd g mv z9 z21 hz21 _) hw [] (by decide) rfl rfl hl.1 rfl (Nat.le_of_ble_eq_true rfl) dX6_move_147 ⟨Nat.le_of_ble_eq_true rfl, Nat.le_of_ble_eq_true rfl⟩ ⟨Nat.le_of_ble_eq_true rfl, Nat.le_of_ble_eq_true rfl⟩) hw [] [0, 1, 2] rfl rfl (by decide) (by decide) (fun u22 H locs hw => ?_)
  replace hw : Wd dd g mv A s H locs (w_X6_move g q_t q_t_chain q_t_when z11 z3 z1 ((t_pulls + (1 : Int32))) ((t_drawn + (z17 - z19))) ((t_leaked + (z13 - z15))) t_drunk t_servings t_chain_places t_chain_deep t_chain_turn t_chain_wheel t_chain_leaks t_chain_wants t_when) := hw.sub [0, 1, 2] (by decide) rfl
  refine W.eq (g2 := F0 m 150 ls (.int z21 :: .int t_drunk :: .ref q_t :: [])) rfl ?_
  refine lv_aload_n F.1 F.2.1 dX6_move_150 rfl (lv_at hl 3 rfl) ?_
  refine gf_X6_19 F hw 0 rfl rfl dX6_move_151 ?_
  obtain ⟨z23, hz23, hr⟩ := Option.bind_eq_some_iff.mp hr
  refine call_o (wr := [(q_t, .inr (6, [.ref q_t_when, .ref q_t_chain, .long z11, .long z3, .int z1, .int ((t_pulls + (1 : Int32))), .int ((t_drawn + (z17 - z19))), .int ((t_leaked + (z13 - z15))), .int t_drunk, .int t_servings])), (q_t_chain, .inr (1, [.int t_chain_places, .int t_chain_deep, .int t_chain_turn, .long t_chain_wheel, .long t_chain_leaks, .long t_chain_wants])), (q_t_when, .inl (g 0, 9, .inl t_when))]) (run_N (As := [.long z11]) (rest := [.int z21, .int t_drunk, .ref q_t]) F k_X6_74 (c_X11_sum l dd g mv z11 z23 hz23 _) hw [] (by decide) rfl rfl hl.1 rfl (Nat.le_of_ble_eq_true rfl) dX6_move_154 ⟨Nat.le_of_ble_eq_true rfl, Nat.le_of_ble_eq_true rfl⟩ ⟨Nat.le_of_ble_eq_true rfl, Nat.le_of_ble_eq_true rfl⟩) hw [] [0, 1, 2] rfl rfl (by decide) (by decide) (fun u24 H locs hw => ?_)
  replace hw : Wd dd g mv A s H locs (w_X6_move g q_t q_t_chain q_t_when z11 z3 z1 ((t_pulls + (1 : Int32))) ((t_drawn + (z17 - z19))) ((t_leaked + (z13 - z15))) t_drunk t_servings t_chain_places t_chain_deep t_chain_turn t_chain_wheel t_chain_leaks t_chain_wants t_when) := hw.sub [0, 1, 2] (by decide) rfl
  refine W.eq (g2 := F0 m 157 ls (.int z23 :: .int z21 :: .int t_drunk :: .ref q_t :: [])) rfl ?_
  refine lv_isub F.1 F.2.1 dX6_move_157 ?_
  refine lv_iadd F.1 F.2.1 dX6_move_158 ?_
  refine pf_X6_39 F hw 0 rfl (Nat.le_of_ble_eq_true rfl) dX6_move_159 (fun H locs hw => ?_)
  replace hw : Wd dd g mv A s H locs (w_X6_move g q_t q_t_chain q_t_when z11 z3 z1 ((t_pulls + (1 : Int32))) ((t_drawn + (z17 - z19))) ((t_leaked + (z13 - z15))) ((t_drunk + (z21 - z23))) t_servings t_chain_places t_chain_deep t_chain_turn t_chain_wheel t_chain_leaks t_chain_wants t_when) := hw
  refine lv_aload_n F.1 F.2.1 dX6_move_162 rfl (lv_at hl 3 rfl) ?_
  refine lv_lload F.1 F.2.1 dX6_move_163 (lv_at hl 0 rfl) ?_
  refine lv_aload_n F.1 F.2.1 dX6_move_165 rfl (lv_at hl 3 rfl) ?_
  refine gf_X6_19 F hw 0 rfl rfl dX6_move_166 ?_
  refine lv_ldc2 F.1 F.2.1 F.2.2.2.1 (F.2.2.2.2 _ cl_X6_78) dX6_move_169 ?_
  refine lv_lxor F.1 F.2.1 dX6_move_172 ?_
  refine lv_land F.1 F.2.1 dX6_move_173 ?_
  refine lv_ldc2 F.1 F.2.1 F.2.2.2.1 (F.2.2.2.2 _ cl_X6_80) dX6_move_174 ?_
  refine lv_land F.1 F.2.1 dX6_move_177 ?_
  obtain ⟨z25, hz25, hr⟩ := Option.bind_eq_some_iff.mp hr
  refine call_o (wr := [(q_t_chain, .inr (1, [.int t_chain_places, .int t_chain_deep, .int t_chain_turn, .long t_chain_wheel, .long t_chain_leaks, .long t_chain_wants]))]) (run_V (As := [.long ((z9 &&& (z11 ^^^ (-1 : Int64))) &&& (18159675916816 : Int64))]) (rest := []) F k_X6_82 (c_X6_note l dd g mv q_t q_t_when ((.ref q_t_chain)) z11 z3 z1 ((t_pulls + (1 : Int32))) ((t_drawn + (z17 - z19))) ((t_leaked + (z13 - z15))) ((t_drunk + (z21 - z23))) t_servings t_when (((z9 &&& (z11 ^^^ (-1 : Int64))) &&& (18159675916816 : Int64))) z25 hz25 _) hw [0, 2] (by decide) rfl (ci := 6) rfl rfl rfl rfl hl.1 rfl (Nat.le_of_ble_eq_true rfl) dX6_move_178 ⟨Nat.le_of_ble_eq_true rfl, Nat.le_of_ble_eq_true rfl⟩ ⟨Nat.le_of_ble_eq_true rfl, Nat.le_of_ble_eq_true rfl⟩) hw [0, 2] [1] rfl rfl (by decide) (by decide) (fun u26 H locs hw => ?_)
  replace hw : Wd dd g mv A s H locs (w_X6_move g q_t q_t_chain q_t_when z11 z3 z1 ((t_pulls + (1 : Int32))) ((t_drawn + (z17 - z19))) ((t_leaked + (z13 - z15))) ((t_drunk + (z21 - z23))) z25.1 t_chain_places t_chain_deep t_chain_turn t_chain_wheel t_chain_leaks t_chain_wants z25.2) := hw.sub [1, 0, 2] (by decide) rfl
  cases hr
  exact ret_v () F hret hlk hw (Nat.le_refl _) (Nat.le_refl _) dX6_move_181
set_option maxHeartbeats 4000000 in
set_option maxRecDepth 100000 in
theorem c_X6_wantAnew (l : Launch) (dd : va_G) (g : Nat → ClassId) (mv : Nat) (q_t : Nat) (q_t_chain : Nat) (o_t_when : Value) (t_wheel : Int64) (t_leaks : Int64) (t_turn : Int32) (t_pulls : Int32) (t_drawn : Int32) (t_leaked : Int32) (t_drunk : Int32) (t_servings : Int32) (t_chain_places : Int32) (t_chain_deep : Int32) (t_chain_turn : Int32) (t_chain_wheel : Int64) (t_chain_leaks : Int64) (t_chain_wants : Int64) (z : Int64) (hr : f_X6_wantAnew t_wheel t_chain_wants = some z) (sz : Nat) : Met l yX6_wantAnew (.code yX6_wantAnew cX6_wantAnew 1 none :: WS) (rmH 0 0 0) (va_Pc [.ref q_t] (PW dd g mv (w_X6_wantAnew g q_t q_t_chain o_t_when t_wheel t_leaks t_turn t_pulls t_drawn t_leaked t_drunk t_servings t_chain_places t_chain_deep t_chain_turn t_chain_wheel t_chain_leaks t_chain_wants) sz)) (Qo dd g none (fun u : Unit => (w_X6_wantAnew g q_t q_t_chain o_t_when z t_leaks t_turn t_pulls t_drawn t_leaked t_drunk t_servings t_chain_places t_chain_deep t_chain_turn t_chain_wheel t_chain_leaks t_chain_wants)) (va_A (w_X6_wantAnew g q_t q_t_chain o_t_when t_wheel t_leaks t_turn t_pulls t_drawn t_leaked t_drunk t_servings t_chain_places t_chain_deep t_chain_turn t_chain_wheel t_chain_leaks t_chain_wants) sz)) 0 0 (va_A (w_X6_wantAnew g q_t q_t_chain o_t_when t_wheel t_leaks t_turn t_pulls t_drawn t_leaked t_drunk t_servings t_chain_places t_chain_deep t_chain_turn t_chain_wheel t_chain_leaks t_chain_wants) sz) := by
  refine Met_intro (by decide) (Nat.le_of_ble_eq_true rfl) ?_
  intro p e s m below meth c A ls F hret hlk hin hw hl
  replace hl : lv_has ls 1 [(0, .ref q_t)] := hl
  refine lv_aload_n F.1 F.2.1 dX6_wantAnew_0 rfl (lv_at hl 0 rfl) ?_
  refine gf_X6_15 F hw 0 rfl rfl dX6_wantAnew_1 ?_
  refine lv_ifnull F.1 F.2.1 dX6_wantAnew_4 ?_
  refine lv_aload_n F.1 F.2.1 dX6_wantAnew_7 rfl (lv_at hl 0 rfl) ?_
  refine lv_dup F.1 F.2.1 dX6_wantAnew_8 rfl ?_
  refine gf_X6_19 F hw 0 rfl rfl dX6_wantAnew_9 ?_
  refine lv_aload_n F.1 F.2.1 dX6_wantAnew_12 rfl (lv_at hl 0 rfl) ?_
  refine gf_X6_15 F hw 0 rfl rfl dX6_wantAnew_13 ?_
  refine gf_X6_86 F hw 1 rfl rfl dX6_wantAnew_16 ?_
  refine lv_ldc2 F.1 F.2.1 F.2.2.2.1 (F.2.2.2.2 _ cl_X6_89) dX6_wantAnew_19 ?_
  refine lv_ladd F.1 F.2.1 dX6_wantAnew_22 ?_
  refine lv_ldc2 F.1 F.2.1 F.2.2.2.1 (F.2.2.2.2 _ cl_X6_80) dX6_wantAnew_23 ?_
  refine lv_land F.1 F.2.1 dX6_wantAnew_26 ?_
  refine lv_lor F.1 F.2.1 dX6_wantAnew_27 ?_
  refine pf_X6_19 F hw 0 rfl (Nat.le_of_ble_eq_true rfl) dX6_wantAnew_28 (fun H locs hw => ?_)
  replace hw : Wd dd g mv A s H locs (w_X6_wantAnew g q_t q_t_chain o_t_when ((t_wheel ||| ((t_chain_wants + (17024696172015 : Int64)) &&& (18159675916816 : Int64)))) t_leaks t_turn t_pulls t_drawn t_leaked t_drunk t_servings t_chain_places t_chain_deep t_chain_turn t_chain_wheel t_chain_leaks t_chain_wants) := hw
  cases hr
  exact ret_v () F hret hlk hw (Nat.le_refl _) (Nat.le_refl _) dX6_wantAnew_31
set_option maxHeartbeats 4000000 in
set_option maxRecDepth 100000 in
theorem b_X6_pullsTill_10 {q_t q_t_when : Nat} {z : Int32} (F : Fx p m c cX6_pullsTill 2 s args RX6) (hret : meth.sig.returnType = some .int) (hlk : meth.locks = false) : ∀ {t_wheel : Int64} {t_leaks : Int64} {t_turn : Int32} {t_pulls : Int32} {t_drawn : Int32} {t_leaked : Int32} {t_drunk : Int32} {t_servings : Int32} {t_when : Nat → Int32} {o_t_chain : Value} {H : Heap} {locs : List Loc} {ls : Array Slot}, f_X6_pullsTill_10   = some z → Wd dd g mv A s H locs (w_X6_pullsTill g q_t q_t_when o_t_chain t_wheel t_leaks t_turn t_pulls t_drawn t_leaked t_drunk t_servings t_when) → lv_has ls 2 [] → W p l e (rmH (0) 0 0) s m args below meth c H locs 0 0 (MQ below (Qo dd g (some (.int z)) (fun u : Unit => (w_X6_pullsTill g q_t q_t_when o_t_chain t_wheel t_leaks t_turn t_pulls t_drawn t_leaked t_drunk t_servings t_when)) A) args s 0 0 A) (F0 m 10 ls []) := by
  intro t_wheel t_leaks t_turn t_pulls t_drawn t_leaked t_drunk t_servings t_when o_t_chain H locs ls hr hw hl
  refine lv_bipush (v := -6) F.1 F.2.1 dX6_pullsTill_10 (by decide) ?_
  refine lv_goto (tgt := 21) F.1 F.2.1 dX6_pullsTill_12 (by decide) ?_
  cases hr
  exact ret_i () F hret hlk hw (Nat.le_refl _) (Nat.le_refl _) dX6_pullsTill_21
set_option maxHeartbeats 4000000 in
set_option maxRecDepth 100000 in
theorem c_X6_pullsTill (l : Launch) (dd : va_G) (g : Nat → ClassId) (mv : Nat) (q_t : Nat) (q_t_when : Nat) (o_t_chain : Value) (t_wheel : Int64) (t_leaks : Int64) (t_turn : Int32) (t_pulls : Int32) (t_drawn : Int32) (t_leaked : Int32) (t_drunk : Int32) (t_servings : Int32) (t_when : Nat → Int32) (a1 : Int32) (z : Int32) (hr : f_X6_pullsTill t_when a1 = some z) (sz : Nat) : Met l yX6_pullsTill (.code yX6_pullsTill cX6_pullsTill 2 (some .int) :: WS) (rmH 0 0 0) (va_Pc [.ref q_t, .int a1] (PW dd g mv (w_X6_pullsTill g q_t q_t_when o_t_chain t_wheel t_leaks t_turn t_pulls t_drawn t_leaked t_drunk t_servings t_when) sz)) (Qo dd g (some (.int z)) (fun u : Unit => (w_X6_pullsTill g q_t q_t_when o_t_chain t_wheel t_leaks t_turn t_pulls t_drawn t_leaked t_drunk t_servings t_when)) (va_A (w_X6_pullsTill g q_t q_t_when o_t_chain t_wheel t_leaks t_turn t_pulls t_drawn t_leaked t_drunk t_servings t_when) sz)) 0 0 (va_A (w_X6_pullsTill g q_t q_t_when o_t_chain t_wheel t_leaks t_turn t_pulls t_drawn t_leaked t_drunk t_servings t_when) sz) := by
  refine Met_intro (by decide) (Nat.le_of_ble_eq_true rfl) ?_
  intro p e s m below meth c A ls F hret hlk hin hw hl
  replace hl : lv_has ls 2 [(0, .ref q_t), (1, .int a1)] := hl
  refine lv_iload_n F.1 F.2.1 dX6_pullsTill_0 rfl (lv_at hl 1 rfl) ?_
  refine lv_if_lt (tgt := 10) F.1 F.2.1 dX6_pullsTill_1 (by decide) (fun hc1 => ?_) (fun hc1 => ?_)
  · replace hr := (if_pos hc1).symm.trans hr
    exact b_X6_pullsTill_10 F hret hlk  hr hw (lv_sub hl [] rfl)
  · replace hr := (if_neg hc1).symm.trans hr
    refine lv_iload_n F.1 F.2.1 dX6_pullsTill_4 rfl (lv_at hl 1 rfl) ?_
    refine lv_bipush (v := 9) F.1 F.2.1 dX6_pullsTill_5 (by decide) ?_
    refine lv_icmp_lt (tgt := 15) F.1 F.2.1 dX6_pullsTill_7 (by decide) (fun hc2 => ?_) (fun hc2 => ?_)
    · replace hr := (if_pos hc2).symm.trans hr
      refine lv_aload_n F.1 F.2.1 dX6_pullsTill_15 rfl (lv_at hl 0 rfl) ?_
      refine gf_X6_9 F hw 0 rfl rfl dX6_pullsTill_16 ?_
      refine lv_iload_n F.1 F.2.1 dX6_pullsTill_19 rfl (lv_at hl 1 rfl) ?_
      obtain ⟨hg3, hr⟩ := g_no hr
      refine ar_i F hw 1 rfl hg3 dX6_pullsTill_20 ?_
      cases hr
      exact ret_i () F hret hlk hw (Nat.le_refl _) (Nat.le_refl _) dX6_pullsTill_21
    · replace hr := (if_neg hc2).symm.trans hr
      exact b_X6_pullsTill_10 F hret hlk  hr hw (lv_sub hl [] rfl)
set_option maxHeartbeats 4000000 in
set_option maxRecDepth 100000 in
theorem c_X8_put (l : Launch) (dd : va_G) (g : Nat → ClassId) (mv : Nat) (q_t : Nat) (q_t_behind : Nat) (q_t_door : Nat) (q_t_served : Nat) (t_count : Int32) (t_behind : Nat → Int32) (t_door : Nat → Int32) (t_served : Nat → Int32) (a1 : Int32) (a2 : Int32) (a3 : Int32) (z : Int32 × Int32 × (Nat → Int32) × (Nat → Int32) × (Nat → Int32)) (hr : f_X8_put t_count t_behind t_door t_served a1 a2 a3 = some z) (sz : Nat) : Met l yX8_put (.code yX8_put cX8_put 4 (some .boolean) :: WS) (rmH 0 0 0) (va_Pc [.ref q_t, .int a1, .int a2, .int a3] (PW dd g mv (w_X8_put g q_t q_t_behind q_t_door q_t_served t_count t_behind t_door t_served) sz)) (Qo dd g (some (.int z.1)) (fun u : Unit => (w_X8_put g q_t q_t_behind q_t_door q_t_served z.2.1 z.2.2.1 z.2.2.2.1 z.2.2.2.2)) (va_A (w_X8_put g q_t q_t_behind q_t_door q_t_served t_count t_behind t_door t_served) sz)) 0 0 (va_A (w_X8_put g q_t q_t_behind q_t_door q_t_served t_count t_behind t_door t_served) sz) := by
  refine Met_intro (by decide) (Nat.le_of_ble_eq_true rfl) ?_
  intro p e s m below meth c A ls F hret hlk hin hw hl
  replace hl : lv_has ls 4 [(0, .ref q_t), (1, .int a1), (2, .int a2), (3, .int a3)] := hl
  refine lv_aload_n F.1 F.2.1 dX8_put_0 rfl (lv_at hl 0 rfl) ?_
  refine gf_X8_22 F hw 0 rfl rfl dX8_put_1 ?_
  refine lv_bipush (v := 6) F.1 F.2.1 dX8_put_4 (by decide) ?_
  refine lv_icmp_lt (tgt := 11) F.1 F.2.1 dX8_put_6 (by decide) (fun hc1 => ?_) (fun hc1 => ?_)
  · replace hr := (if_pos hc1).symm.trans hr
    refine lv_aload_n F.1 F.2.1 dX8_put_11 rfl (lv_at hl 0 rfl) ?_
    refine gf_X8_9 F hw 0 rfl rfl dX8_put_12 ?_
    refine lv_aload_n F.1 F.2.1 dX8_put_15 rfl (lv_at hl 0 rfl) ?_
    refine gf_X8_22 F hw 0 rfl rfl dX8_put_16 ?_
    refine lv_iload_n F.1 F.2.1 dX8_put_19 rfl (lv_at hl 1 rfl) ?_
    obtain ⟨hg2, hr⟩ := g_no hr
    refine aw_i F hw 1 rfl hg2 dX8_put_20 (fun H locs hw => ?_)
    replace hw : Wd dd g mv A s H locs (w_X8_put g q_t q_t_behind q_t_door q_t_served t_count ((upd t_behind (t_count).toNatClampNeg a1)) t_door t_served) := hw
    refine lv_aload_n F.1 F.2.1 dX8_put_21 rfl (lv_at hl 0 rfl) ?_
    refine gf_X8_15 F hw 0 rfl rfl dX8_put_22 ?_
    refine lv_aload_n F.1 F.2.1 dX8_put_25 rfl (lv_at hl 0 rfl) ?_
    refine gf_X8_22 F hw 0 rfl rfl dX8_put_26 ?_
    refine lv_iload_n F.1 F.2.1 dX8_put_29 rfl (lv_at hl 2 rfl) ?_
    obtain ⟨hg3, hr⟩ := g_no hr
    refine aw_i F hw 2 rfl hg3 dX8_put_30 (fun H locs hw => ?_)
    replace hw : Wd dd g mv A s H locs (w_X8_put g q_t q_t_behind q_t_door q_t_served t_count ((upd t_behind (t_count).toNatClampNeg a1)) ((upd t_door (t_count).toNatClampNeg a2)) t_served) := hw
    refine lv_aload_n F.1 F.2.1 dX8_put_31 rfl (lv_at hl 0 rfl) ?_
    refine gf_X8_18 F hw 0 rfl rfl dX8_put_32 ?_
    refine lv_aload_n F.1 F.2.1 dX8_put_35 rfl (lv_at hl 0 rfl) ?_
    refine gf_X8_22 F hw 0 rfl rfl dX8_put_36 ?_
    refine lv_iload_n F.1 F.2.1 dX8_put_39 rfl (lv_at hl 3 rfl) ?_
    obtain ⟨hg4, hr⟩ := g_no hr
    refine aw_z F hw 3 rfl hg4 dX8_put_40 (fun H locs hw => ?_)
    replace hw : Wd dd g mv A s H locs (w_X8_put g q_t q_t_behind q_t_door q_t_served t_count ((upd t_behind (t_count).toNatClampNeg a1)) ((upd t_door (t_count).toNatClampNeg a2)) ((upd t_served (t_count).toNatClampNeg ((vp_nar .boolean a3))))) := hw
    refine lv_aload_n F.1 F.2.1 dX8_put_41 rfl (lv_at hl 0 rfl) ?_
    refine lv_dup F.1 F.2.1 dX8_put_42 rfl ?_
    refine gf_X8_22 F hw 0 rfl rfl dX8_put_43 ?_
    refine lv_iconst (v := 1) F.1 F.2.1 dX8_put_46 (by decide) ?_
    refine lv_iadd F.1 F.2.1 dX8_put_47 ?_
    refine pf_X8_22 F hw 0 rfl (Nat.le_of_ble_eq_true rfl) dX8_put_48 (fun H locs hw => ?_)
    replace hw : Wd dd g mv A s H locs (w_X8_put g q_t q_t_behind q_t_door q_t_served ((t_count + (1 : Int32))) ((upd t_behind (t_count).toNatClampNeg a1)) ((upd t_door (t_count).toNatClampNeg a2)) ((upd t_served (t_count).toNatClampNeg ((vp_nar .boolean a3))))) := hw
    refine lv_iconst (v := 1) F.1 F.2.1 dX8_put_51 (by decide) ?_
    cases hr
    exact ret_z (v := (1 : Int32)) () F hret hlk (by decide) hw (Nat.le_refl _) (Nat.le_refl _) dX8_put_52
  · replace hr := (if_neg hc1).symm.trans hr
    refine lv_iconst (v := 0) F.1 F.2.1 dX8_put_9 (by decide) ?_
    cases hr
    exact ret_z (v := (0 : Int32)) () F hret hlk (by decide) hw (Nat.le_refl _) (Nat.le_refl _) dX8_put_10
set_option maxHeartbeats 4000000 in
set_option maxRecDepth 100000 in
theorem b_X8_copyFrom_2 {q_t q_p1 q_t_behind q_p1_behind q_t_door q_p1_door q_t_served q_p1_served : Nat} {z : Int32 × (Nat → Int32) × (Nat → Int32) × (Nat → Int32)} (F : Fx p m c cX8_copyFrom 3 s args RX8) (hret : meth.sig.returnType = none) (hlk : meth.locks = false) : ∀ (n : Nat), ∀ {x2 : Int32} {p1_count : Int32} {t_behind : Nat → Int32} {p1_behind : Nat → Int32} {t_door : Nat → Int32} {p1_door : Nat → Int32} {t_served : Nat → Int32} {p1_served : Nat → Int32} {t_count : Int32} {H : Heap} {locs : List Loc} {ls : Array Slot}, f_X8_copyFrom_2  n x2 p1_count t_behind p1_behind t_door p1_door t_served p1_served = some z → Wd dd g mv A s H locs (w_X8_copyFrom g q_t q_p1 q_t_behind q_p1_behind q_t_door q_p1_door q_t_served q_p1_served t_count p1_count t_behind p1_behind t_door p1_door t_served p1_served) → lv_has ls 3 [(0, .ref q_t), (1, .ref q_p1), (2, .int x2)] → W p l e (rmH (0) 0 0) s m args below meth c H locs 0 0 (MQ below (Qo dd g none (fun u : Unit => (w_X8_copyFrom g q_t q_p1 q_t_behind q_p1_behind q_t_door q_p1_door q_t_served q_p1_served z.1 p1_count z.2.1 p1_behind z.2.2.1 p1_door z.2.2.2 p1_served)) A) args s 0 0 A) (F0 m 2 ls []) := by
  intro n
  induction n with
  | zero =>
    intros
    rename_i hr _ _
    cases hr
  | succ n ih =>
    intro x2 p1_count t_behind p1_behind t_door p1_door t_served p1_served t_count H locs ls hr hw hl
    refine lv_iload_n F.1 F.2.1 dX8_copyFrom_2 rfl (lv_at hl 2 rfl) ?_
    refine lv_bipush (v := 6) F.1 F.2.1 dX8_copyFrom_3 (by decide) ?_
    refine lv_icmp_ge (tgt := 50) F.1 F.2.1 dX8_copyFrom_5 (by decide) (fun hc1 => ?_) (fun hc1 => ?_)
    · replace hr := (if_pos hc1).symm.trans hr
      refine lv_aload_n F.1 F.2.1 dX8_copyFrom_50 rfl (lv_at hl 0 rfl) ?_
      refine lv_aload_n F.1 F.2.1 dX8_copyFrom_51 rfl (lv_at hl 1 rfl) ?_
      refine gf_X8_22 F hw 1 rfl rfl dX8_copyFrom_52 ?_
      refine pf_X8_22 F hw 0 rfl (Nat.le_of_ble_eq_true rfl) dX8_copyFrom_55 (fun H locs hw => ?_)
      replace hw : Wd dd g mv A s H locs (w_X8_copyFrom g q_t q_p1 q_t_behind q_p1_behind q_t_door q_p1_door q_t_served q_p1_served p1_count p1_count t_behind p1_behind t_door p1_door t_served p1_served) := hw
      cases hr
      exact ret_v () F hret hlk hw (Nat.le_refl _) (Nat.le_refl _) dX8_copyFrom_58
    · replace hr := (if_neg hc1).symm.trans hr
      refine lv_aload_n F.1 F.2.1 dX8_copyFrom_8 rfl (lv_at hl 0 rfl) ?_
      refine gf_X8_9 F hw 0 rfl rfl dX8_copyFrom_9 ?_
      refine lv_iload_n F.1 F.2.1 dX8_copyFrom_12 rfl (lv_at hl 2 rfl) ?_
      refine lv_aload_n F.1 F.2.1 dX8_copyFrom_13 rfl (lv_at hl 1 rfl) ?_
      refine gf_X8_9 F hw 1 rfl rfl dX8_copyFrom_14 ?_
      refine lv_iload_n F.1 F.2.1 dX8_copyFrom_17 rfl (lv_at hl 2 rfl) ?_
      obtain ⟨hg2, hr⟩ := g_no hr
      refine ar_i F hw 3 rfl hg2 dX8_copyFrom_18 ?_
      obtain ⟨hg3, hr⟩ := g_no hr
      refine aw_i F hw 2 rfl hg3 dX8_copyFrom_19 (fun H locs hw => ?_)
      replace hw : Wd dd g mv A s H locs (w_X8_copyFrom g q_t q_p1 q_t_behind q_p1_behind q_t_door q_p1_door q_t_served q_p1_served t_count p1_count ((upd t_behind (x2).toNatClampNeg ((p1_behind (x2).toNatClampNeg)))) p1_behind t_door p1_door t_served p1_served) := hw
      refine lv_aload_n F.1 F.2.1 dX8_copyFrom_20 rfl (lv_at hl 0 rfl) ?_
      refine gf_X8_15 F hw 0 rfl rfl dX8_copyFrom_21 ?_
      refine lv_iload_n F.1 F.2.1 dX8_copyFrom_24 rfl (lv_at hl 2 rfl) ?_
      refine lv_aload_n F.1 F.2.1 dX8_copyFrom_25 rfl (lv_at hl 1 rfl) ?_
      refine gf_X8_15 F hw 1 rfl rfl dX8_copyFrom_26 ?_
      refine lv_iload_n F.1 F.2.1 dX8_copyFrom_29 rfl (lv_at hl 2 rfl) ?_
      obtain ⟨hg4, hr⟩ := g_no hr
      refine ar_i F hw 5 rfl hg4 dX8_copyFrom_30 ?_
      obtain ⟨hg5, hr⟩ := g_no hr
      refine aw_i F hw 4 rfl hg5 dX8_copyFrom_31 (fun H locs hw => ?_)
      replace hw : Wd dd g mv A s H locs (w_X8_copyFrom g q_t q_p1 q_t_behind q_p1_behind q_t_door q_p1_door q_t_served q_p1_served t_count p1_count ((upd t_behind (x2).toNatClampNeg ((p1_behind (x2).toNatClampNeg)))) p1_behind ((upd t_door (x2).toNatClampNeg ((p1_door (x2).toNatClampNeg)))) p1_door t_served p1_served) := hw
      refine lv_aload_n F.1 F.2.1 dX8_copyFrom_32 rfl (lv_at hl 0 rfl) ?_
      refine gf_X8_18 F hw 0 rfl rfl dX8_copyFrom_33 ?_
      refine lv_iload_n F.1 F.2.1 dX8_copyFrom_36 rfl (lv_at hl 2 rfl) ?_
      refine lv_aload_n F.1 F.2.1 dX8_copyFrom_37 rfl (lv_at hl 1 rfl) ?_
      refine gf_X8_18 F hw 1 rfl rfl dX8_copyFrom_38 ?_
      refine lv_iload_n F.1 F.2.1 dX8_copyFrom_41 rfl (lv_at hl 2 rfl) ?_
      obtain ⟨hg6, hr⟩ := g_no hr
      refine ar_z F hw 7 rfl hg6 dX8_copyFrom_42 ?_
      obtain ⟨hg7, hr⟩ := g_no hr
      refine aw_z F hw 6 rfl hg7 dX8_copyFrom_43 (fun H locs hw => ?_)
      replace hw : Wd dd g mv A s H locs (w_X8_copyFrom g q_t q_p1 q_t_behind q_p1_behind q_t_door q_p1_door q_t_served q_p1_served t_count p1_count ((upd t_behind (x2).toNatClampNeg ((p1_behind (x2).toNatClampNeg)))) p1_behind ((upd t_door (x2).toNatClampNeg ((p1_door (x2).toNatClampNeg)))) p1_door ((upd t_served (x2).toNatClampNeg ((vp_nar .boolean ((p1_served (x2).toNatClampNeg)))))) p1_served) := hw
      refine lv_iinc (v := (x2 + 1)) (lv' := [(2, .int (x2 + 1)), (0, .ref q_t), (1, .ref q_p1)]) F.1 F.2.1 dX8_copyFrom_44 hl (k := 2) rfl rfl (by decide) rfl (fun ls hl => ?_)
      refine lv_goto (tgt := 2) F.1 F.2.1 dX8_copyFrom_47 (by decide) ?_
      exact ih hr hw (lv_sub hl [1, 2, 0] rfl)
set_option maxHeartbeats 4000000 in
set_option maxRecDepth 100000 in
theorem c_X8_copyFrom (l : Launch) (dd : va_G) (g : Nat → ClassId) (mv : Nat) (q_t : Nat) (q_p1 : Nat) (q_t_behind : Nat) (q_p1_behind : Nat) (q_t_door : Nat) (q_p1_door : Nat) (q_t_served : Nat) (q_p1_served : Nat) (t_count : Int32) (p1_count : Int32) (t_behind : Nat → Int32) (p1_behind : Nat → Int32) (t_door : Nat → Int32) (p1_door : Nat → Int32) (t_served : Nat → Int32) (p1_served : Nat → Int32) (z : Int32 × (Nat → Int32) × (Nat → Int32) × (Nat → Int32)) (hr : f_X8_copyFrom p1_count t_behind p1_behind t_door p1_door t_served p1_served = some z) (sz : Nat) : Met l yX8_copyFrom (.code yX8_copyFrom cX8_copyFrom 3 none :: WS) (rmH 0 0 0) (va_Pc [.ref q_t, .ref q_p1] (PW dd g mv (w_X8_copyFrom g q_t q_p1 q_t_behind q_p1_behind q_t_door q_p1_door q_t_served q_p1_served t_count p1_count t_behind p1_behind t_door p1_door t_served p1_served) sz)) (Qo dd g none (fun u : Unit => (w_X8_copyFrom g q_t q_p1 q_t_behind q_p1_behind q_t_door q_p1_door q_t_served q_p1_served z.1 p1_count z.2.1 p1_behind z.2.2.1 p1_door z.2.2.2 p1_served)) (va_A (w_X8_copyFrom g q_t q_p1 q_t_behind q_p1_behind q_t_door q_p1_door q_t_served q_p1_served t_count p1_count t_behind p1_behind t_door p1_door t_served p1_served) sz)) 0 0 (va_A (w_X8_copyFrom g q_t q_p1 q_t_behind q_p1_behind q_t_door q_p1_door q_t_served q_p1_served t_count p1_count t_behind p1_behind t_door p1_door t_served p1_served) sz) := by
  refine Met_intro (by decide) (Nat.le_of_ble_eq_true rfl) ?_
  intro p e s m below meth c A ls F hret hlk hin hw hl
  replace hl : lv_has ls 3 [(0, .ref q_t), (1, .ref q_p1)] := hl
  refine lv_iconst (v := 0) F.1 F.2.1 dX8_copyFrom_0 (by decide) ?_
  refine lv_istore_n (lv' := [(2, .int (0 : Int32)), (0, .ref q_t), (1, .ref q_p1)]) F.1 F.2.1 dX8_copyFrom_1 rfl hl (by decide) rfl (fun ls hl => ?_)
  exact b_X8_copyFrom_2 F hret hlk  fuel hr hw (lv_sub hl [1, 2, 0] rfl)
end WALK
