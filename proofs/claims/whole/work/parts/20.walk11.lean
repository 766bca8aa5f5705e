section WALK
variable {p : Program} {l : Launch} {e : Env} {s : State} {m : MethodId} {args : Array Value} {below : List Frame} {meth : Method} {c : Code} {dd : va_G} {g : Nat → ClassId} {mv : Nat} {A : Nat → Prop}
set_option maxHeartbeats 4000000 in
set_option maxRecDepth 100000 in
theorem b_X12_layNow_2 {q_t q_t_at q_t_pailAt q_t_has q_t_holds : Nat} {z : Int32 × Int32 × Int32 × Int32 × Int32 × (Nat → Int32) × (Nat → Int32)} (F : Fx p m c cX12_layNow 2 s args RX12) (hret : meth.sig.returnType = none) (hlk : meth.locks = false) : ∀ (n : Nat), ∀ {x1 : Int32} {t_places : Int32} {t_served : Int32} {t_at : Nat → Int32} {t_pailAt : Nat → Int32} {t_has : Nat → Int32} {t_holds : Nat → Int32} {t_deep : Int32} {t_wordMany : Int32} {t_sights : Int32} {t_padMany : Int32} {t_done : Int32} {t_drawn : Int32} {t_leaked : Int32} {t_drunk : Int32} {t_times : Int32} {t_foundNumber : Int32} {t_keptAt : Int32} {t_isWriting : Int32} {o_t_leaks : Value} {o_t_wants : Value} {o_t_words : Value} {o_t_sightBehind : Value} {o_t_sightDoor : Value} {o_t_sightIs : Value} {o_t_pad : Value} {o_t_moved : Value} {o_t_order : Value} {o_t_best : Value} {o_t_wins : Value} {o_t_later : Value} {o_t_signs : Value} {o_t_kept : Value} {o_t_isKept : Value} {H : Heap} {locs : List Loc} {ls : Array Slot}, f_X12_layNow_2  n x1 t_places t_served t_at t_pailAt t_has t_holds = some z → Wd dd g mv A s H locs (w_X12_layNow g q_t q_t_at q_t_pailAt q_t_has q_t_holds o_t_leaks o_t_wants o_t_words o_t_sightBehind o_t_sightDoor o_t_sightIs o_t_pad o_t_moved o_t_order o_t_best o_t_wins o_t_later o_t_signs o_t_kept o_t_isKept t_places t_deep t_served t_wordMany t_sights t_padMany t_done t_drawn t_leaked t_drunk t_times t_foundNumber t_keptAt t_isWriting t_at t_pailAt t_has t_holds) → lv_has ls 2 [(0, .ref q_t), (1, .int x1)] → W p l e (rmH (0) 0 0) s m args below meth c H locs 0 0 (MQ below (Qo dd g none (fun u : Unit => (w_X12_layNow g q_t q_t_at q_t_pailAt q_t_has q_t_holds o_t_leaks o_t_wants o_t_words o_t_sightBehind o_t_sightDoor o_t_sightIs o_t_pad o_t_moved o_t_order o_t_best o_t_wins o_t_later o_t_signs o_t_kept o_t_isKept t_places t_deep t_served t_wordMany t_sights t_padMany z.1 z.2.1 z.2.2.1 z.2.2.2.1 z.2.2.2.2.1 t_foundNumber t_keptAt t_isWriting z.2.2.2.2.2.1 t_pailAt z.2.2.2.2.2.2 t_holds)) A) args s 0 0 A) (F0 m 2 ls []) := by
  intro n
  induction n with
  | zero =>
    intros
    rename_i hr _ _
    cases hr
  | succ n ih =>
    intro x1 t_places t_served t_at t_pailAt t_has t_holds t_deep t_wordMany t_sights t_padMany t_done t_drawn t_leaked t_drunk t_times t_foundNumber t_keptAt t_isWriting o_t_leaks o_t_wants o_t_words o_t_sightBehind o_t_sightDoor o_t_sightIs o_t_pad o_t_moved o_t_order o_t_best o_t_wins o_t_later o_t_signs o_t_kept o_t_isKept H locs ls hr hw hl
    refine lv_iload_n F.1 F.2.1 dX12_layNow_2 rfl (lv_at hl 1 rfl) ?_
    refine lv_aload_n F.1 F.2.1 dX12_layNow_3 rfl (lv_at hl 0 rfl) ?_
    refine gf_X12_77 F hw 0 rfl rfl dX12_layNow_4 ?_
    refine lv_icmp_ge (tgt := 40) F.1 F.2.1 dX12_layNow_7 (by decide) (fun hc1 => ?_) (fun hc1 => ?_)
    · replace hr := (if_pos hc1).symm.trans hr
      refine lv_aload_n F.1 F.2.1 dX12_layNow_40 rfl (lv_at hl 0 rfl) ?_
      refine lv_aload_n F.1 F.2.1 dX12_layNow_41 rfl (lv_at hl 0 rfl) ?_
      refine gf_X12_80 F hw 0 rfl rfl dX12_layNow_42 ?_
      refine pf_X12_105 F hw 0 rfl (Nat.le_of_ble_eq_true rfl) dX12_layNow_45 (fun H locs hw => ?_)
      replace hw : Wd dd g mv A s H locs (w_X12_layNow g q_t q_t_at q_t_pailAt q_t_has q_t_holds o_t_leaks o_t_wants o_t_words o_t_sightBehind o_t_sightDoor o_t_sightIs o_t_pad o_t_moved o_t_order o_t_best o_t_wins o_t_later o_t_signs o_t_kept o_t_isKept t_places t_deep t_served t_wordMany t_sights t_padMany t_served t_drawn t_leaked t_drunk t_times t_foundNumber t_keptAt t_isWriting t_at t_pailAt t_has t_holds) := hw
      refine lv_aload_n F.1 F.2.1 dX12_layNow_48 rfl (lv_at hl 0 rfl) ?_
      refine lv_iconst (v := 0) F.1 F.2.1 dX12_layNow_49 (by decide) ?_
      refine pf_X12_108 F hw 0 rfl (Nat.le_of_ble_eq_true rfl) dX12_layNow_50 (fun H locs hw => ?_)
      replace hw : Wd dd g mv A s H locs (w_X12_layNow g q_t q_t_at q_t_pailAt q_t_has q_t_holds o_t_leaks o_t_wants o_t_words o_t_sightBehind o_t_sightDoor o_t_sightIs o_t_pad o_t_moved o_t_order o_t_best o_t_wins o_t_later o_t_signs o_t_kept o_t_isKept t_places t_deep t_served t_wordMany t_sights t_padMany t_served ((0 : Int32)) t_leaked t_drunk t_times t_foundNumber t_keptAt t_isWriting t_at t_pailAt t_has t_holds) := hw
      refine lv_aload_n F.1 F.2.1 dX12_layNow_53 rfl (lv_at hl 0 rfl) ?_
      refine lv_iconst (v := 0) F.1 F.2.1 dX12_layNow_54 (by decide) ?_
      refine pf_X12_111 F hw 0 rfl (Nat.le_of_ble_eq_true rfl) dX12_layNow_55 (fun H locs hw => ?_)
      replace hw : Wd dd g mv A s H locs (w_X12_layNow g q_t q_t_at q_t_pailAt q_t_has q_t_holds o_t_leaks o_t_wants o_t_words o_t_sightBehind o_t_sightDoor o_t_sightIs o_t_pad o_t_moved o_t_order o_t_best o_t_wins o_t_later o_t_signs o_t_kept o_t_isKept t_places t_deep t_served t_wordMany t_sights t_padMany t_served ((0 : Int32)) ((0 : Int32)) t_drunk t_times t_foundNumber t_keptAt t_isWriting t_at t_pailAt t_has t_holds) := hw
      refine lv_aload_n F.1 F.2.1 dX12_layNow_58 rfl (lv_at hl 0 rfl) ?_
      refine lv_iconst (v := 0) F.1 F.2.1 dX12_layNow_59 (by decide) ?_
      refine pf_X12_114 F hw 0 rfl (Nat.le_of_ble_eq_true rfl) dX12_layNow_60 (fun H locs hw => ?_)
      replace hw : Wd dd g mv A s H locs (w_X12_layNow g q_t q_t_at q_t_pailAt q_t_has q_t_holds o_t_leaks o_t_wants o_t_words o_t_sightBehind o_t_sightDoor o_t_sightIs o_t_pad o_t_moved o_t_order o_t_best o_t_wins o_t_later o_t_signs o_t_kept o_t_isKept t_places t_deep t_served t_wordMany t_sights t_padMany t_served ((0 : Int32)) ((0 : Int32)) ((0 : Int32)) t_times t_foundNumber t_keptAt t_isWriting t_at t_pailAt t_has t_holds) := hw
      refine lv_aload_n F.1 F.2.1 dX12_layNow_63 rfl (lv_at hl 0 rfl) ?_
      refine lv_iconst (v := 0) F.1 F.2.1 dX12_layNow_64 (by decide) ?_
      refine pf_X12_117 F hw 0 rfl (Nat.le_of_ble_eq_true rfl) dX12_layNow_65 (fun H locs hw => ?_)
      replace hw : Wd dd g mv A s H locs (w_X12_layNow g q_t q_t_at q_t_pailAt q_t_has q_t_holds o_t_leaks o_t_wants o_t_words o_t_sightBehind o_t_sightDoor o_t_sightIs o_t_pad o_t_moved o_t_order o_t_best o_t_wins o_t_later o_t_signs o_t_kept o_t_isKept t_places t_deep t_served t_wordMany t_sights t_padMany t_served ((0 : Int32)) ((0 : Int32)) ((0 : Int32)) ((0 : Int32)) t_foundNumber t_keptAt t_isWriting t_at t_pailAt t_has t_holds) := hw
      cases hr
      exact ret_v () F hret hlk hw (Nat.le_refl _) (Nat.le_refl _) dX12_layNow_68
    · replace hr := (if_neg hc1).symm.trans hr
      refine lv_aload_n F.1 F.2.1 dX12_layNow_10 rfl (lv_at hl 0 rfl) ?_
      refine gf_X12_37 F hw 0 rfl rfl dX12_layNow_11 ?_
      refine lv_iload_n F.1 F.2.1 dX12_layNow_14 rfl (lv_at hl 1 rfl) ?_
      refine lv_aload_n F.1 F.2.1 dX12_layNow_15 rfl (lv_at hl 0 rfl) ?_
      refine gf_X12_7 F hw 0 rfl rfl dX12_layNow_16 ?_
      refine lv_iload_n F.1 F.2.1 dX12_layNow_19 rfl (lv_at hl 1 rfl) ?_
      obtain ⟨hg2, hr⟩ := g_no hr
      refine ar_i F hw 2 rfl hg2 dX12_layNow_20 ?_
      obtain ⟨hg3, hr⟩ := g_no hr
      refine aw_i F hw 1 rfl hg3 dX12_layNow_21 (fun H locs hw => ?_)
      replace hw : Wd dd g mv A s H locs (w_X12_layNow g q_t q_t_at q_t_pailAt q_t_has q_t_holds o_t_leaks o_t_wants o_t_words o_t_sightBehind o_t_sightDoor o_t_sightIs o_t_pad o_t_moved o_t_order o_t_best o_t_wins o_t_later o_t_signs o_t_kept o_t_isKept t_places t_deep t_served t_wordMany t_sights t_padMany t_done t_drawn t_leaked t_drunk t_times t_foundNumber t_keptAt t_isWriting ((upd t_at (x1).toNatClampNeg ((t_pailAt (x1).toNatClampNeg)))) t_pailAt t_has t_holds) := hw
      refine lv_aload_n F.1 F.2.1 dX12_layNow_22 rfl (lv_at hl 0 rfl) ?_
      refine gf_X12_43 F hw 0 rfl rfl dX12_layNow_23 ?_
      refine lv_iload_n F.1 F.2.1 dX12_layNow_26 rfl (lv_at hl 1 rfl) ?_
      refine lv_aload_n F.1 F.2.1 dX12_layNow_27 rfl (lv_at hl 0 rfl) ?_
      refine gf_X12_13 F hw 0 rfl rfl dX12_layNow_28 ?_
      refine lv_iload_n F.1 F.2.1 dX12_layNow_31 rfl (lv_at hl 1 rfl) ?_
      obtain ⟨hg4, hr⟩ := g_no hr
      refine ar_i F hw 4 rfl hg4 dX12_layNow_32 ?_
      obtain ⟨hg5, hr⟩ := g_no hr
      refine aw_i F hw 3 rfl hg5 dX12_layNow_33 (fun H locs hw => ?_)
      replace hw : Wd dd g mv A s H locs (w_X12_layNow g q_t q_t_at q_t_pailAt q_t_has q_t_holds o_t_leaks o_t_wants o_t_words o_t_sightBehind o_t_sightDoor o_t_sightIs o_t_pad o_t_moved o_t_order o_t_best o_t_wins o_t_later o_t_signs o_t_kept o_t_isKept t_places t_deep t_served t_wordMany t_sights t_padMany t_done t_drawn t_leaked t_drunk t_times t_foundNumber t_keptAt t_isWriting ((upd t_at (x1).toNatClampNeg ((t_pailAt (x1).toNatClampNeg)))) t_pailAt ((upd t_has (x1).toNatClampNeg ((t_holds (x1).toNatClampNeg)))) t_holds) := hw
      refine lv_iinc (v := (x1 + 1)) (lv' := [(1, .int (x1 + 1)), (0, .ref q_t)]) F.1 F.2.1 dX12_layNow_34 hl (k := 1) rfl rfl (by decide) rfl (fun ls hl => ?_)
      refine lv_goto (tgt := 2) F.1 F.2.1 dX12_layNow_37 (by decide) ?_
      exact ih hr hw (lv_sub hl [1, 0] rfl)
set_option maxHeartbeats 4000000 in
set_option maxRecDepth 100000 in
theorem c_X12_layNow (l : Launch) (dd : va_G) (g : Nat → ClassId) (mv : Nat) (q_t : Nat) (q_t_at : Nat) (q_t_pailAt : Nat) (q_t_has : Nat) (q_t_holds : Nat) (o_t_leaks : Value) (o_t_wants : Value) (o_t_words : Value) (o_t_sightBehind : Value) (o_t_sightDoor : Value) (o_t_sightIs : Value) (o_t_pad : Value) (o_t_moved : Value) (o_t_order : Value) (o_t_best : Value) (o_t_wins : Value) (o_t_later : Value) (o_t_signs : Value) (o_t_kept : Value) (o_t_isKept : Value) (t_places : Int32) (t_deep : Int32) (t_served : Int32) (t_wordMany : Int32) (t_sights : Int32) (t_padMany : Int32) (t_done : Int32) (t_drawn : Int32) (t_leaked : Int32) (t_drunk : Int32) (t_times : Int32) (t_foundNumber : Int32) (t_keptAt : Int32) (t_isWriting : Int32) (t_at : Nat → Int32) (t_pailAt : Nat → Int32) (t_has : Nat → Int32) (t_holds : Nat → Int32) (z : Int32 × Int32 × Int32 × Int32 × Int32 × (Nat → Int32) × (Nat → Int32)) (hr : f_X12_layNow t_places t_served t_at t_pailAt t_has t_holds = some z) (sz : Nat) : Met l yX12_layNow (.code yX12_layNow cX12_layNow 2 none :: WS) (rmH 0 0 0) (va_Pc [.ref q_t] (PW dd g mv (w_X12_layNow g q_t q_t_at q_t_pailAt q_t_has q_t_holds o_t_leaks o_t_wants o_t_words o_t_sightBehind o_t_sightDoor o_t_sightIs o_t_pad o_t_moved o_t_order o_t_best o_t_wins o_t_later o_t_signs o_t_kept o_t_isKept t_places t_deep t_served t_wordMany t_sights t_padMany t_done t_drawn t_leaked t_drunk t_times t_foundNumber t_keptAt t_isWriting t_at t_pailAt t_has t_holds) sz)) (Qo dd g none (fun u : Unit => (w_X12_layNow g q_t q_t_at q_t_pailAt q_t_has q_t_holds o_t_leaks o_t_wants o_t_words o_t_sightBehind o_t_sightDoor o_t_sightIs o_t_pad o_t_moved o_t_order o_t_best o_t_wins o_t_later o_t_signs o_t_kept o_t_isKept t_places t_deep t_served t_wordMany t_sights t_padMany z.1 z.2.1 z.2.2.1 z.2.2.2.1 z.2.2.2.2.1 t_foundNumber t_keptAt t_isWriting z.2.2.2.2.2.1 t_pailAt z.2.2.2.2.2.2 t_holds)) (va_A (w_X12_layNow g q_t q_t_at q_t_pailAt q_t_has q_t_holds o_t_leaks o_t_wants o_t_words o_t_sightBehind o_t_sightDoor o_t_sightIs o_t_pad o_t_moved o_t_order o_t_best o_t_wins o_t_later o_t_signs o_t_kept o_t_isKept t_places t_deep t_served t_wordMany t_sights t_padMany t_done t_drawn t_leaked t_drunk t_times t_foundNumber t_keptAt t_isWriting t_at t_pailAt t_has t_holds) sz)) 0 0 (va_A (w_X12_layNow g q_t q_t_at q_t_pailAt q_t_has q_t_holds o_t_leaks o_t_wants o_t_words o_t_sightBehind o_t_sightDoor o_t_sightIs o_t_pad o_t_moved o_t_order o_t_best o_t_wins o_t_later o_t_signs o_t_kept o_t_isKept t_places t_deep t_served t_wordMany t_sights t_padMany t_done t_drawn t_leaked t_drunk t_times t_foundNumber t_keptAt t_isWriting t_at t_pailAt t_has t_holds) sz) := by
  refine Met_intro (by decide) (Nat.le_of_ble_eq_true rfl) ?_
  intro p e s m below meth c A ls F hret hlk hin hw hl
  replace hl : lv_has ls 2 [(0, .ref q_t)] := hl
  refine lv_iconst (v := 0) F.1 F.2.1 dX12_layNow_0 (by decide) ?_
  refine lv_istore_n (lv' := [(1, .int (0 : Int32)), (0, .ref q_t)]) F.1 F.2.1 dX12_layNow_1 rfl hl (by decide) rfl (fun ls hl => ?_)
  exact b_X12_layNow_2 F hret hlk  fuel hr hw (lv_sub hl [1, 0] rfl)
set_option maxHeartbeats 4000000 in
set_option maxRecDepth 100000 in
theorem b_X12_pullBy_111 {q_t q_t_moved q_t_at q_t_has q_t_leaks q_t_wants : Nat} {z : Int32 × Int32 × Int32 × Int32 × Int32 × (Nat → Int32) × (Nat → Int32) × (Nat → Int32)} (F : Fx p m c cX12_pullBy 5 s args RX12) (hret : meth.sig.returnType = none) (hlk : meth.locks = false) {k61 : Int32 → Int32 → Int32 → Int32 → Int32 → Int32 → Int32 → Int32 → (Nat → Int32) → (Nat → Int32) → (Nat → Int32) → (Nat → Int32) → (Nat → Int32) → Option (Int32 × Int32 × Int32 × Int32 × Int32 × (Nat → Int32) × (Nat → Int32) × (Nat → Int32))} (hk61 : ∀ {x3 : Int32} {t_places : Int32} {t_deep : Int32} {t_done : Int32} {t_drawn : Int32} {t_leaked : Int32} {t_drunk : Int32} {t_times : Int32} {t_moved : Nat → Int32} {t_at : Nat → Int32} {t_has : Nat → Int32} {t_leaks : Nat → Int32} {t_wants : Nat → Int32} {t_served : Int32} {t_wordMany : Int32} {t_sights : Int32} {t_padMany : Int32} {t_foundNumber : Int32} {t_keptAt : Int32} {t_isWriting : Int32} {o_t_pailAt : Value} {o_t_holds : Value} {o_t_words : Value} {o_t_sightBehind : Value} {o_t_sightDoor : Value} {o_t_sightIs : Value} {o_t_pad : Value} {o_t_order : Value} {o_t_best : Value} {o_t_wins : Value} {o_t_later : Value} {o_t_signs : Value} {o_t_kept : Value} {o_t_isKept : Value} {H : Heap} {locs : List Loc} {ls : Array Slot}, k61 x3 t_places t_deep t_done t_drawn t_leaked t_drunk t_times t_moved t_at t_has t_leaks t_wants = some z → Wd dd g mv A s H locs (w_X12_pullBy g q_t q_t_moved q_t_at q_t_has q_t_leaks q_t_wants o_t_pailAt o_t_holds o_t_words o_t_sightBehind o_t_sightDoor o_t_sightIs o_t_pad o_t_order o_t_best o_t_wins o_t_later o_t_signs o_t_kept o_t_isKept t_places t_deep t_served t_wordMany t_sights t_padMany t_done t_drawn t_leaked t_drunk t_times t_foundNumber t_keptAt t_isWriting t_moved t_at t_has t_leaks t_wants) → lv_has ls 5 [(0, .ref q_t), (3, .int x3)] → W p l e (rmH (0) 0 0) s m args below meth c H locs 0 0 (MQ below (Qo dd g none (fun u : Unit => (w_X12_pullBy g q_t q_t_moved q_t_at q_t_has q_t_leaks q_t_wants o_t_pailAt o_t_holds o_t_words o_t_sightBehind o_t_sightDoor o_t_sightIs o_t_pad o_t_order o_t_best o_t_wins o_t_later o_t_signs o_t_kept o_t_isKept t_places t_deep t_served t_wordMany t_sights t_padMany z.1 z.2.1 z.2.2.1 z.2.2.2.1 z.2.2.2.2.1 t_foundNumber t_keptAt t_isWriting z.2.2.2.2.2.1 z.2.2.2.2.2.2.1 z.2.2.2.2.2.2.2 t_leaks t_wants)) A) args s 0 0 A) (F0 m 61 ls [])) : ∀ {x3 : Int32} {y0 : Int32} {t_places : Int32} {t_deep : Int32} {t_done : Int32} {t_drawn : Int32} {t_leaked : Int32} {t_drunk : Int32} {t_times : Int32} {t_moved : Nat → Int32} {t_at : Nat → Int32} {t_has : Nat → Int32} {t_leaks : Nat → Int32} {t_wants : Nat → Int32} {t_served : Int32} {t_wordMany : Int32} {t_sights : Int32} {t_padMany : Int32} {t_foundNumber : Int32} {t_keptAt : Int32} {t_isWriting : Int32} {o_t_pailAt : Value} {o_t_holds : Value} {o_t_words : Value} {o_t_sightBehind : Value} {o_t_sightDoor : Value} {o_t_sightIs : Value} {o_t_pad : Value} {o_t_order : Value} {o_t_best : Value} {o_t_wins : Value} {o_t_later : Value} {o_t_signs : Value} {o_t_kept : Value} {o_t_isKept : Value} {H : Heap} {locs : List Loc} {ls : Array Slot}, f_X12_pullBy_111 k61 x3 y0 t_places t_deep t_done t_drawn t_leaked t_drunk t_times t_moved t_at t_has t_leaks t_wants = some z → Wd dd g mv A s H locs (w_X12_pullBy g q_t q_t_moved q_t_at q_t_has q_t_leaks q_t_wants o_t_pailAt o_t_holds o_t_words o_t_sightBehind o_t_sightDoor o_t_sightIs o_t_pad o_t_order o_t_best o_t_wins o_t_later o_t_signs o_t_kept o_t_isKept t_places t_deep t_served t_wordMany t_sights t_padMany t_done t_drawn t_leaked t_drunk t_times t_foundNumber t_keptAt t_isWriting t_moved t_at t_has t_leaks t_wants) → lv_has ls 5 [(0, .ref q_t), (3, .int x3)] → W p l e (rmH (0) 0 0) s m args below meth c H locs 0 0 (MQ below (Qo dd g none (fun u : Unit => (w_X12_pullBy g q_t q_t_moved q_t_at q_t_has q_t_leaks q_t_wants o_t_pailAt o_t_holds o_t_words o_t_sightBehind o_t_sightDoor o_t_sightIs o_t_pad o_t_order o_t_best o_t_wins o_t_later o_t_signs o_t_kept o_t_isKept t_places t_deep t_served t_wordMany t_sights t_padMany z.1 z.2.1 z.2.2.1 z.2.2.2.1 z.2.2.2.2.1 t_foundNumber t_keptAt t_isWriting z.2.2.2.2.2.1 z.2.2.2.2.2.2.1 z.2.2.2.2.2.2.2 t_leaks t_wants)) A) args s 0 0 A) (F0 m 111 ls [.int y0]) := by
  intro x3 y0 t_places t_deep t_done t_drawn t_leaked t_drunk t_times t_moved t_at t_has t_leaks t_wants t_served t_wordMany t_sights t_padMany t_foundNumber t_keptAt t_isWriting o_t_pailAt o_t_holds o_t_words o_t_sightBehind o_t_sightDoor o_t_sightIs o_t_pad o_t_order o_t_best o_t_wins o_t_later o_t_signs o_t_kept o_t_isKept H locs ls hr hw hl
  refine lv_istore (lv' := [(4, .int y0), (0, .ref q_t), (3, .int x3)]) F.1 F.2.1 dX12_pullBy_111 hl (by decide) rfl (fun ls hl => ?_)
  refine lv_aload_n F.1 F.2.1 dX12_pullBy_113 rfl (lv_at hl 1 rfl) ?_
  refine gf_X12_43 F hw 0 rfl rfl dX12_pullBy_114 ?_
  refine lv_iload_n F.1 F.2.1 dX12_pullBy_117 rfl (lv_at hl 2 rfl) ?_
  refine lv_dup2_11 F.1 F.2.1 dX12_pullBy_118 rfl rfl ?_
  obtain ⟨hg1, hr⟩ := g_no hr
  refine ar_i F hw 3 rfl hg1 dX12_pullBy_119 ?_
  refine lv_iload F.1 F.2.1 dX12_pullBy_120 (lv_at hl 0 rfl) ?_
  refine lv_isub F.1 F.2.1 dX12_pullBy_122 ?_
  obtain ⟨hg2, hr⟩ := g_no hr
  refine aw_i F hw 3 rfl hg2 dX12_pullBy_123 (fun H locs hw => ?_)
  replace hw : Wd dd g mv A s H locs (w_X12_pullBy g q_t q_t_moved q_t_at q_t_has q_t_leaks q_t_wants o_t_pailAt o_t_holds o_t_words o_t_sightBehind o_t_sightDoor o_t_sightIs o_t_pad o_t_order o_t_best o_t_wins o_t_later o_t_signs o_t_kept o_t_isKept t_places t_deep t_served t_wordMany t_sights t_padMany t_done t_drawn t_leaked t_drunk t_times t_foundNumber t_keptAt t_isWriting t_moved t_at ((upd t_has (x3).toNatClampNeg (((t_has (x3).toNatClampNeg) - y0)))) t_leaks t_wants) := hw
  refine lv_aload_n F.1 F.2.1 dX12_pullBy_124 rfl (lv_at hl 1 rfl) ?_
  refine lv_dup F.1 F.2.1 dX12_pullBy_125 rfl ?_
  refine gf_X12_111 F hw 0 rfl rfl dX12_pullBy_126 ?_
  refine lv_iload F.1 F.2.1 dX12_pullBy_129 (lv_at hl 0 rfl) ?_
  refine lv_iadd F.1 F.2.1 dX12_pullBy_131 ?_
  refine pf_X12_111 F hw 0 rfl (Nat.le_of_ble_eq_true rfl) dX12_pullBy_132 (fun H locs hw => ?_)
  replace hw : Wd dd g mv A s H locs (w_X12_pullBy g q_t q_t_moved q_t_at q_t_has q_t_leaks q_t_wants o_t_pailAt o_t_holds o_t_words o_t_sightBehind o_t_sightDoor o_t_sightIs o_t_pad o_t_order o_t_best o_t_wins o_t_later o_t_signs o_t_kept o_t_isKept t_places t_deep t_served t_wordMany t_sights t_padMany t_done t_drawn ((t_leaked + y0)) t_drunk t_times t_foundNumber t_keptAt t_isWriting t_moved t_at ((upd t_has (x3).toNatClampNeg (((t_has (x3).toNatClampNeg) - y0)))) t_leaks t_wants) := hw
  refine lv_iinc (v := (x3 + 1)) (lv' := [(3, .int (x3 + 1)), (4, .int y0), (0, .ref q_t)]) F.1 F.2.1 dX12_pullBy_135 hl (k := 2) rfl rfl (by decide) rfl (fun ls hl => ?_)
  refine lv_goto (tgt := 61) F.1 F.2.1 dX12_pullBy_138 (by decide) ?_
  exact hk61 hr hw (lv_sub hl [2, 0] rfl)
set_option maxHeartbeats 4000000 in
set_option maxRecDepth 100000 in
theorem b_X12_pullBy_279 {q_t q_t_moved q_t_at q_t_has q_t_leaks q_t_wants : Nat} {z : Int32 × Int32 × Int32 × Int32 × Int32 × (Nat → Int32) × (Nat → Int32) × (Nat → Int32)} (F : Fx p m c cX12_pullBy 5 s args RX12) (hret : meth.sig.returnType = none) (hlk : meth.locks = false) {k183 : Int32 → Int32 → Int32 → Int32 → Int32 → Int32 → Int32 → (Nat → Int32) → (Nat → Int32) → (Nat → Int32) → (Nat → Int32) → Option (Int32 × Int32 × Int32 × Int32 × Int32 × (Nat → Int32) × (Nat → Int32) × (Nat → Int32))} (hk183 : ∀ {x3 : Int32} {t_places : Int32} {t_done : Int32} {t_drawn : Int32} {t_leaked : Int32} {t_drunk : Int32} {t_times : Int32} {t_moved : Nat → Int32} {t_at : Nat → Int32} {t_has : Nat → Int32} {t_wants : Nat → Int32} {t_deep : Int32} {t_served : Int32} {t_wordMany : Int32} {t_sights : Int32} {t_padMany : Int32} {t_foundNumber : Int32} {t_keptAt : Int32} {t_isWriting : Int32} {t_leaks : Nat → Int32} {o_t_pailAt : Value} {o_t_holds : Value} {o_t_words : Value} {o_t_sightBehind : Value} {o_t_sightDoor : Value} {o_t_sightIs : Value} {o_t_pad : Value} {o_t_order : Value} {o_t_best : Value} {o_t_wins : Value} {o_t_later : Value} {o_t_signs : Value} {o_t_kept : Value} {o_t_isKept : Value} {H : Heap} {locs : List Loc} {ls : Array Slot}, k183 x3 t_places t_done t_drawn t_leaked t_drunk t_times t_moved t_at t_has t_wants = some z → Wd dd g mv A s H locs (w_X12_pullBy g q_t q_t_moved q_t_at q_t_has q_t_leaks q_t_wants o_t_pailAt o_t_holds o_t_words o_t_sightBehind o_t_sightDoor o_t_sightIs o_t_pad o_t_order o_t_best o_t_wins o_t_later o_t_signs o_t_kept o_t_isKept t_places t_deep t_served t_wordMany t_sights t_padMany t_done t_drawn t_leaked t_drunk t_times t_foundNumber t_keptAt t_isWriting t_moved t_at t_has t_leaks t_wants) → lv_has ls 5 [(0, .ref q_t), (3, .int x3)] → W p l e (rmH (0) 0 0) s m args below meth c H locs 0 0 (MQ below (Qo dd g none (fun u : Unit => (w_X12_pullBy g q_t q_t_moved q_t_at q_t_has q_t_leaks q_t_wants o_t_pailAt o_t_holds o_t_words o_t_sightBehind o_t_sightDoor o_t_sightIs o_t_pad o_t_order o_t_best o_t_wins o_t_later o_t_signs o_t_kept o_t_isKept t_places t_deep t_served t_wordMany t_sights t_padMany z.1 z.2.1 z.2.2.1 z.2.2.2.1 z.2.2.2.2.1 t_foundNumber t_keptAt t_isWriting z.2.2.2.2.2.1 z.2.2.2.2.2.2.1 z.2.2.2.2.2.2.2 t_leaks t_wants)) A) args s 0 0 A) (F0 m 183 ls [])) : ∀ {x3 : Int32} {t_places : Int32} {t_done : Int32} {t_drawn : Int32} {t_leaked : Int32} {t_drunk : Int32} {t_times : Int32} {t_moved : Nat → Int32} {t_at : Nat → Int32} {t_has : Nat → Int32} {t_wants : Nat → Int32} {t_deep : Int32} {t_served : Int32} {t_wordMany : Int32} {t_sights : Int32} {t_padMany : Int32} {t_foundNumber : Int32} {t_keptAt : Int32} {t_isWriting : Int32} {t_leaks : Nat → Int32} {o_t_pailAt : Value} {o_t_holds : Value} {o_t_words : Value} {o_t_sightBehind : Value} {o_t_sightDoor : Value} {o_t_sightIs : Value} {o_t_pad : Value} {o_t_order : Value} {o_t_best : Value} {o_t_wins : Value} {o_t_later : Value} {o_t_signs : Value} {o_t_kept : Value} {o_t_isKept : Value} {H : Heap} {locs : List Loc} {ls : Array Slot}, f_X12_pullBy_279 k183 x3 t_places t_done t_drawn t_leaked t_drunk t_times t_moved t_at t_has t_wants = some z → Wd dd g mv A s H locs (w_X12_pullBy g q_t q_t_moved q_t_at q_t_has q_t_leaks q_t_wants o_t_pailAt o_t_holds o_t_words o_t_sightBehind o_t_sightDoor o_t_sightIs o_t_pad o_t_order o_t_best o_t_wins o_t_later o_t_signs o_t_kept o_t_isKept t_places t_deep t_served t_wordMany t_sights t_padMany t_done t_drawn t_leaked t_drunk t_times t_foundNumber t_keptAt t_isWriting t_moved t_at t_has t_leaks t_wants) → lv_has ls 5 [(0, .ref q_t), (3, .int x3)] → W p l e (rmH (0) 0 0) s m args below meth c H locs 0 0 (MQ below (Qo dd g none (fun u : Unit => (w_X12_pullBy g q_t q_t_moved q_t_at q_t_has q_t_leaks q_t_wants o_t_pailAt o_t_holds o_t_words o_t_sightBehind o_t_sightDoor o_t_sightIs o_t_pad o_t_order o_t_best o_t_wins o_t_later o_t_signs o_t_kept o_t_isKept t_places t_deep t_served t_wordMany t_sights t_padMany z.1 z.2.1 z.2.2.1 z.2.2.2.1 z.2.2.2.2.1 t_foundNumber t_keptAt t_isWriting z.2.2.2.2.2.1 z.2.2.2.2.2.2.1 z.2.2.2.2.2.2.2 t_leaks t_wants)) A) args s 0 0 A) (F0 m 279 ls []) := by
  intro x3 t_places t_done t_drawn t_leaked t_drunk t_times t_moved t_at t_has t_wants t_deep t_served t_wordMany t_sights t_padMany t_foundNumber t_keptAt t_isWriting t_leaks o_t_pailAt o_t_holds o_t_words o_t_sightBehind o_t_sightDoor o_t_sightIs o_t_pad o_t_order o_t_best o_t_wins o_t_later o_t_signs o_t_kept o_t_isKept H locs ls hr hw hl
  refine lv_iinc (v := (x3 + 1)) (lv' := [(3, .int (x3 + 1)), (0, .ref q_t)]) F.1 F.2.1 dX12_pullBy_279 hl (k := 1) rfl rfl (by decide) rfl (fun ls hl => ?_)
  refine lv_goto (tgt := 183) F.1 F.2.1 dX12_pullBy_282 (by decide) ?_
  exact hk183 hr hw (lv_sub hl [1, 0] rfl)
set_option maxHeartbeats 4000000 in
set_option maxRecDepth 100000 in
theorem b_X12_pullBy_183 {q_t q_t_moved q_t_at q_t_has q_t_leaks q_t_wants : Nat} {z : Int32 × Int32 × Int32 × Int32 × Int32 × (Nat → Int32) × (Nat → Int32) × (Nat → Int32)} (F : Fx p m c cX12_pullBy 5 s args RX12) (hret : meth.sig.returnType = none) (hlk : meth.locks = false) : ∀ (n : Nat), ∀ {x3 : Int32} {t_places : Int32} {t_done : Int32} {t_drawn : Int32} {t_leaked : Int32} {t_drunk : Int32} {t_times : Int32} {t_moved : Nat → Int32} {t_at : Nat → Int32} {t_has : Nat → Int32} {t_wants : Nat → Int32} {t_deep : Int32} {t_served : Int32} {t_wordMany : Int32} {t_sights : Int32} {t_padMany : Int32} {t_foundNumber : Int32} {t_keptAt : Int32} {t_isWriting : Int32} {t_leaks : Nat → Int32} {o_t_pailAt : Value} {o_t_holds : Value} {o_t_words : Value} {o_t_sightBehind : Value} {o_t_sightDoor : Value} {o_t_sightIs : Value} {o_t_pad : Value} {o_t_order : Value} {o_t_best : Value} {o_t_wins : Value} {o_t_later : Value} {o_t_signs : Value} {o_t_kept : Value} {o_t_isKept : Value} {H : Heap} {locs : List Loc} {ls : Array Slot}, f_X12_pullBy_183  n x3 t_places t_done t_drawn t_leaked t_drunk t_times t_moved t_at t_has t_wants = some z → Wd dd g mv A s H locs (w_X12_pullBy g q_t q_t_moved q_t_at q_t_has q_t_leaks q_t_wants o_t_pailAt o_t_holds o_t_words o_t_sightBehind o_t_sightDoor o_t_sightIs o_t_pad o_t_order o_t_best o_t_wins o_t_later o_t_signs o_t_kept o_t_isKept t_places t_deep t_served t_wordMany t_sights t_padMany t_done t_drawn t_leaked t_drunk t_times t_foundNumber t_keptAt t_isWriting t_moved t_at t_has t_leaks t_wants) → lv_has ls 5 [(0, .ref q_t), (3, .int x3)] → W p l e (rmH (0) 0 0) s m args below meth c H locs 0 0 (MQ below (Qo dd g none (fun u : Unit => (w_X12_pullBy g q_t q_t_moved q_t_at q_t_has q_t_leaks q_t_wants o_t_pailAt o_t_holds o_t_words o_t_sightBehind o_t_sightDoor o_t_sightIs o_t_pad o_t_order o_t_best o_t_wins o_t_later o_t_signs o_t_kept o_t_isKept t_places t_deep t_served t_wordMany t_sights t_padMany z.1 z.2.1 z.2.2.1 z.2.2.2.1 z.2.2.2.2.1 t_foundNumber t_keptAt t_isWriting z.2.2.2.2.2.1 z.2.2.2.2.2.2.1 z.2.2.2.2.2.2.2 t_leaks t_wants)) A) args s 0 0 A) (F0 m 183 ls []) := by
  intro n
  induction n with
  | zero =>
    intros
    rename_i hr _ _
    cases hr
  | succ n ih =>
    intro x3 t_places t_done t_drawn t_leaked t_drunk t_times t_moved t_at t_has t_wants t_deep t_served t_wordMany t_sights t_padMany t_foundNumber t_keptAt t_isWriting t_leaks o_t_pailAt o_t_holds o_t_words o_t_sightBehind o_t_sightDoor o_t_sightIs o_t_pad o_t_order o_t_best o_t_wins o_t_later o_t_signs o_t_kept o_t_isKept H locs ls hr hw hl
    refine lv_iload_n F.1 F.2.1 dX12_pullBy_183 rfl (lv_at hl 1 rfl) ?_
    refine lv_aload_n F.1 F.2.1 dX12_pullBy_184 rfl (lv_at hl 0 rfl) ?_
    refine gf_X12_77 F hw 0 rfl rfl dX12_pullBy_185 ?_
    refine lv_icmp_ge (tgt := 285) F.1 F.2.1 dX12_pullBy_188 (by decide) (fun hc3 => ?_) (fun hc3 => ?_)
    · replace hr := (if_pos hc3).symm.trans hr
      cases hr
      exact ret_v () F hret hlk hw (Nat.le_refl _) (Nat.le_refl _) dX12_pullBy_285
    · replace hr := (if_neg hc3).symm.trans hr
      refine lv_aload_n F.1 F.2.1 dX12_pullBy_191 rfl (lv_at hl 0 rfl) ?_
      refine gf_X12_105 F hw 0 rfl rfl dX12_pullBy_192 ?_
      refine lv_iload_n F.1 F.2.1 dX12_pullBy_195 rfl (lv_at hl 1 rfl) ?_
      refine lv_ishr F.1 F.2.1 dX12_pullBy_196 ?_
      refine lv_iconst (v := 1) F.1 F.2.1 dX12_pullBy_197 (by decide) ?_
      refine lv_iand F.1 F.2.1 dX12_pullBy_198 ?_
      refine lv_if_ne (tgt := 279) F.1 F.2.1 dX12_pullBy_199 (by decide) (fun hc4 => ?_) (fun hc4 => ?_)
      · replace hr := (if_neg hc4).symm.trans hr
        exact b_X12_pullBy_279 F hret hlk (ih) hr hw (lv_sub hl [0, 1] rfl)
      · replace hr := (if_pos hc4).symm.trans hr
        refine lv_aload_n F.1 F.2.1 dX12_pullBy_202 rfl (lv_at hl 0 rfl) ?_
        refine gf_X12_19 F hw 0 rfl rfl dX12_pullBy_203 ?_
        refine lv_iload_n F.1 F.2.1 dX12_pullBy_206 rfl (lv_at hl 1 rfl) ?_
        obtain ⟨hg5, hr⟩ := g_no hr
        refine ar_i F hw 5 rfl hg5 dX12_pullBy_207 ?_
        refine lv_aload_n F.1 F.2.1 dX12_pullBy_208 rfl (lv_at hl 0 rfl) ?_
        refine gf_X12_43 F hw 0 rfl rfl dX12_pullBy_209 ?_
        refine lv_aload_n F.1 F.2.1 dX12_pullBy_212 rfl (lv_at hl 0 rfl) ?_
        refine gf_X12_37 F hw 0 rfl rfl dX12_pullBy_213 ?_
        refine lv_iload_n F.1 F.2.1 dX12_pullBy_216 rfl (lv_at hl 1 rfl) ?_
        obtain ⟨hg6, hr⟩ := g_no hr
        refine ar_i F hw 2 rfl hg6 dX12_pullBy_217 ?_
        obtain ⟨hg7, hr⟩ := g_no hr
        refine ar_i F hw 3 rfl hg7 dX12_pullBy_218 ?_
        refine lv_icmp_gt (tgt := 279) F.1 F.2.1 dX12_pullBy_219 (by decide) (fun hc8 => ?_) (fun hc8 => ?_)
        · replace hr := (if_pos hc8).symm.trans hr
          exact b_X12_pullBy_279 F hret hlk (ih) hr hw (lv_sub hl [0, 1] rfl)
        · replace hr := (if_neg hc8).symm.trans hr
          refine lv_aload_n F.1 F.2.1 dX12_pullBy_222 rfl (lv_at hl 0 rfl) ?_
          refine gf_X12_43 F hw 0 rfl rfl dX12_pullBy_223 ?_
          refine lv_aload_n F.1 F.2.1 dX12_pullBy_226 rfl (lv_at hl 0 rfl) ?_
          refine gf_X12_37 F hw 0 rfl rfl dX12_pullBy_227 ?_
          refine lv_iload_n F.1 F.2.1 dX12_pullBy_230 rfl (lv_at hl 1 rfl) ?_
          obtain ⟨hg9, hr⟩ := g_no hr
          refine ar_i F hw 2 rfl hg9 dX12_pullBy_231 ?_
          refine lv_dup2_11 F.1 F.2.1 dX12_pullBy_232 rfl rfl ?_
          obtain ⟨hg10, hr⟩ := g_no hr
          refine ar_i F hw 3 rfl hg10 dX12_pullBy_233 ?_
          refine lv_aload_n F.1 F.2.1 dX12_pullBy_234 rfl (lv_at hl 0 rfl) ?_
          refine gf_X12_19 F hw 0 rfl rfl dX12_pullBy_235 ?_
          refine lv_iload_n F.1 F.2.1 dX12_pullBy_238 rfl (lv_at hl 1 rfl) ?_
          obtain ⟨hg11, hr⟩ := g_no hr
          refine ar_i F hw 5 rfl hg11 dX12_pullBy_239 ?_
          refine lv_isub F.1 F.2.1 dX12_pullBy_240 ?_
          obtain ⟨hg12, hr⟩ := g_no hr
          refine aw_i F hw 3 rfl hg12 dX12_pullBy_241 (fun H locs hw => ?_)
          replace hw : Wd dd g mv A s H locs (w_X12_pullBy g q_t q_t_moved q_t_at q_t_has q_t_leaks q_t_wants o_t_pailAt o_t_holds o_t_words o_t_sightBehind o_t_sightDoor o_t_sightIs o_t_pad o_t_order o_t_best o_t_wins o_t_later o_t_signs o_t_kept o_t_isKept t_places t_deep t_served t_wordMany t_sights t_padMany t_done t_drawn t_leaked t_drunk t_times t_foundNumber t_keptAt t_isWriting t_moved t_at ((upd t_has ((t_at (x3).toNatClampNeg)).toNatClampNeg (((t_has ((t_at (x3).toNatClampNeg)).toNatClampNeg) - (t_wants (x3).toNatClampNeg))))) t_leaks t_wants) := hw
          refine lv_aload_n F.1 F.2.1 dX12_pullBy_242 rfl (lv_at hl 0 rfl) ?_
          refine lv_dup F.1 F.2.1 dX12_pullBy_243 rfl ?_
          refine gf_X12_114 F hw 0 rfl rfl dX12_pullBy_244 ?_
          refine lv_aload_n F.1 F.2.1 dX12_pullBy_247 rfl (lv_at hl 0 rfl) ?_
          refine gf_X12_19 F hw 0 rfl rfl dX12_pullBy_248 ?_
          refine lv_iload_n F.1 F.2.1 dX12_pullBy_251 rfl (lv_at hl 1 rfl) ?_
          obtain ⟨hg13, hr⟩ := g_no hr
          refine ar_i F hw 5 rfl hg13 dX12_pullBy_252 ?_
          refine lv_iadd F.1 F.2.1 dX12_pullBy_253 ?_
          refine pf_X12_114 F hw 0 rfl (Nat.le_of_ble_eq_true rfl) dX12_pullBy_254 (fun H locs hw => ?_)
          replace hw : Wd dd g mv A s H locs (w_X12_pullBy g q_t q_t_moved q_t_at q_t_has q_t_leaks q_t_wants o_t_pailAt o_t_holds o_t_words o_t_sightBehind o_t_sightDoor o_t_sightIs o_t_pad o_t_order o_t_best o_t_wins o_t_later o_t_signs o_t_kept o_t_isKept t_places t_deep t_served t_wordMany t_sights t_padMany t_done t_drawn t_leaked ((t_drunk + (t_wants (x3).toNatClampNeg))) t_times t_foundNumber t_keptAt t_isWriting t_moved t_at ((upd t_has ((t_at (x3).toNatClampNeg)).toNatClampNeg (((t_has ((t_at (x3).toNatClampNeg)).toNatClampNeg) - (t_wants (x3).toNatClampNeg))))) t_leaks t_wants) := hw
          refine lv_aload_n F.1 F.2.1 dX12_pullBy_257 rfl (lv_at hl 0 rfl) ?_
          refine lv_dup F.1 F.2.1 dX12_pullBy_258 rfl ?_
          refine gf_X12_105 F hw 0 rfl rfl dX12_pullBy_259 ?_
          refine lv_iconst (v := 1) F.1 F.2.1 dX12_pullBy_262 (by decide) ?_
          refine lv_iload_n F.1 F.2.1 dX12_pullBy_263 rfl (lv_at hl 1 rfl) ?_
          refine lv_ishl F.1 F.2.1 dX12_pullBy_264 ?_
          refine lv_ior F.1 F.2.1 dX12_pullBy_265 ?_
          refine pf_X12_105 F hw 0 rfl (Nat.le_of_ble_eq_true rfl) dX12_pullBy_266 (fun H locs hw => ?_)
          replace hw : Wd dd g mv A s H locs (w_X12_pullBy g q_t q_t_moved q_t_at q_t_has q_t_leaks q_t_wants o_t_pailAt o_t_holds o_t_words o_t_sightBehind o_t_sightDoor o_t_sightIs o_t_pad o_t_order o_t_best o_t_wins o_t_later o_t_signs o_t_kept o_t_isKept t_places t_deep t_served t_wordMany t_sights t_padMany ((t_done ||| ((1 : Int32) <<< (x3 &&& 31)))) t_drawn t_leaked ((t_drunk + (t_wants (x3).toNatClampNeg))) t_times t_foundNumber t_keptAt t_isWriting t_moved t_at ((upd t_has ((t_at (x3).toNatClampNeg)).toNatClampNeg (((t_has ((t_at (x3).toNatClampNeg)).toNatClampNeg) - (t_wants (x3).toNatClampNeg))))) t_leaks t_wants) := hw
          refine lv_aload_n F.1 F.2.1 dX12_pullBy_269 rfl (lv_at hl 0 rfl) ?_
          refine lv_dup F.1 F.2.1 dX12_pullBy_270 rfl ?_
          refine gf_X12_117 F hw 0 rfl rfl dX12_pullBy_271 ?_
          refine lv_iconst (v := 1) F.1 F.2.1 dX12_pullBy_274 (by decide) ?_
          refine lv_iadd F.1 F.2.1 dX12_pullBy_275 ?_
          refine pf_X12_117 F hw 0 rfl (Nat.le_of_ble_eq_true rfl) dX12_pullBy_276 (fun H locs hw => ?_)
          replace hw : Wd dd g mv A s H locs (w_X12_pullBy g q_t q_t_moved q_t_at q_t_has q_t_leaks q_t_wants o_t_pailAt o_t_holds o_t_words o_t_sightBehind o_t_sightDoor o_t_sightIs o_t_pad o_t_order o_t_best o_t_wins o_t_later o_t_signs o_t_kept o_t_isKept t_places t_deep t_served t_wordMany t_sights t_padMany ((t_done ||| ((1 : Int32) <<< (x3 &&& 31)))) t_drawn t_leaked ((t_drunk + (t_wants (x3).toNatClampNeg))) ((t_times + (1 : Int32))) t_foundNumber t_keptAt t_isWriting t_moved t_at ((upd t_has ((t_at (x3).toNatClampNeg)).toNatClampNeg (((t_has ((t_at (x3).toNatClampNeg)).toNatClampNeg) - (t_wants (x3).toNatClampNeg))))) t_leaks t_wants) := hw
          exact b_X12_pullBy_279 F hret hlk (ih) hr hw (lv_sub hl [0, 1] rfl)
set_option maxHeartbeats 4000000 in
set_option maxRecDepth 100000 in
theorem b_X12_pullBy_61 {q_t q_t_moved q_t_at q_t_has q_t_leaks q_t_wants : Nat} {z : Int32 × Int32 × Int32 × Int32 × Int32 × (Nat → Int32) × (Nat → Int32) × (Nat → Int32)} (F : Fx p m c cX12_pullBy 5 s args RX12) (hret : meth.sig.returnType = none) (hlk : meth.locks = false) : ∀ (n : Nat), ∀ {x3 : Int32} {t_places : Int32} {t_deep : Int32} {t_done : Int32} {t_drawn : Int32} {t_leaked : Int32} {t_drunk : Int32} {t_times : Int32} {t_moved : Nat → Int32} {t_at : Nat → Int32} {t_has : Nat → Int32} {t_leaks : Nat → Int32} {t_wants : Nat → Int32} {t_served : Int32} {t_wordMany : Int32} {t_sights : Int32} {t_padMany : Int32} {t_foundNumber : Int32} {t_keptAt : Int32} {t_isWriting : Int32} {o_t_pailAt : Value} {o_t_holds : Value} {o_t_words : Value} {o_t_sightBehind : Value} {o_t_sightDoor : Value} {o_t_sightIs : Value} {o_t_pad : Value} {o_t_order : Value} {o_t_best : Value} {o_t_wins : Value} {o_t_later : Value} {o_t_signs : Value} {o_t_kept : Value} {o_t_isKept : Value} {H : Heap} {locs : List Loc} {ls : Array Slot}, f_X12_pullBy_61  n x3 t_places t_deep t_done t_drawn t_leaked t_drunk t_times t_moved t_at t_has t_leaks t_wants = some z → Wd dd g mv A s H locs (w_X12_pullBy g q_t q_t_moved q_t_at q_t_has q_t_leaks q_t_wants o_t_pailAt o_t_holds o_t_words o_t_sightBehind o_t_sightDoor o_t_sightIs o_t_pad o_t_order o_t_best o_t_wins o_t_later o_t_signs o_t_kept o_t_isKept t_places t_deep t_served t_wordMany t_sights t_padMany t_done t_drawn t_leaked t_drunk t_times t_foundNumber t_keptAt t_isWriting t_moved t_at t_has t_leaks t_wants) → lv_has ls 5 [(0, .ref q_t), (3, .int x3)] → W p l e (rmH (0) 0 0) s m args below meth c H locs 0 0 (MQ below (Qo dd g none (fun u : Unit => (w_X12_pullBy g q_t q_t_moved q_t_at q_t_has q_t_leaks q_t_wants o_t_pailAt o_t_holds o_t_words o_t_sightBehind o_t_sightDoor o_t_sightIs o_t_pad o_t_order o_t_best o_t_wins o_t_later o_t_signs o_t_kept o_t_isKept t_places t_deep t_served t_wordMany t_sights t_padMany z.1 z.2.1 z.2.2.1 z.2.2.2.1 z.2.2.2.2.1 t_foundNumber t_keptAt t_isWriting z.2.2.2.2.2.1 z.2.2.2.2.2.2.1 z.2.2.2.2.2.2.2 t_leaks t_wants)) A) args s 0 0 A) (F0 m 61 ls []) := by
  intro n
  induction n with
  | zero =>
    intros
    rename_i hr _ _
    cases hr
  | succ n ih =>
    intro x3 t_places t_deep t_done t_drawn t_leaked t_drunk t_times t_moved t_at t_has t_leaks t_wants t_served t_wordMany t_sights t_padMany t_foundNumber t_keptAt t_isWriting o_t_pailAt o_t_holds o_t_words o_t_sightBehind o_t_sightDoor o_t_sightIs o_t_pad o_t_order o_t_best o_t_wins o_t_later o_t_signs o_t_kept o_t_isKept H locs ls hr hw hl
    refine lv_iload_n F.1 F.2.1 dX12_pullBy_61 rfl (lv_at hl 1 rfl) ?_
    refine lv_aload_n F.1 F.2.1 dX12_pullBy_62 rfl (lv_at hl 0 rfl) ?_
    refine gf_X12_77 F hw 0 rfl rfl dX12_pullBy_63 ?_
    refine lv_icmp_ge (tgt := 141) F.1 F.2.1 dX12_pullBy_66 (by decide) (fun hc14 => ?_) (fun hc14 => ?_)
    · replace hr := (if_pos hc14).symm.trans hr
      refine lv_aload_n F.1 F.2.1 dX12_pullBy_141 rfl (lv_at hl 0 rfl) ?_
      refine lv_dup F.1 F.2.1 dX12_pullBy_142 rfl ?_
      refine gf_X12_108 F hw 0 rfl rfl dX12_pullBy_143 ?_
      refine lv_aload_n F.1 F.2.1 dX12_pullBy_146 rfl (lv_at hl 0 rfl) ?_
      refine gf_X12_69 F hw 0 rfl rfl dX12_pullBy_147 ?_
      refine lv_aload_n F.1 F.2.1 dX12_pullBy_150 rfl (lv_at hl 0 rfl) ?_
      refine gf_X12_43 F hw 0 rfl rfl dX12_pullBy_151 ?_
      refine lv_aload_n F.1 F.2.1 dX12_pullBy_154 rfl (lv_at hl 0 rfl) ?_
      refine gf_X12_37 F hw 0 rfl rfl dX12_pullBy_155 ?_
      refine lv_iconst (v := 0) F.1 F.2.1 dX12_pullBy_158 (by decide) ?_
      obtain ⟨hg15, hr⟩ := g_no hr
      refine ar_i F hw 2 rfl hg15 dX12_pullBy_159 ?_
      obtain ⟨hg16, hr⟩ := g_no hr
      refine ar_i F hw 3 rfl hg16 dX12_pullBy_160 ?_
      refine lv_isub F.1 F.2.1 dX12_pullBy_161 ?_
      refine lv_iadd F.1 F.2.1 dX12_pullBy_162 ?_
      refine pf_X12_108 F hw 0 rfl (Nat.le_of_ble_eq_true rfl) dX12_pullBy_163 (fun H locs hw => ?_)
      replace hw : Wd dd g mv A s H locs (w_X12_pullBy g q_t q_t_moved q_t_at q_t_has q_t_leaks q_t_wants o_t_pailAt o_t_holds o_t_words o_t_sightBehind o_t_sightDoor o_t_sightIs o_t_pad o_t_order o_t_best o_t_wins o_t_later o_t_signs o_t_kept o_t_isKept t_places t_deep t_served t_wordMany t_sights t_padMany t_done ((t_drawn + (t_deep - (t_has ((t_at ((0 : Int32)).toNatClampNeg)).toNatClampNeg)))) t_leaked t_drunk t_times t_foundNumber t_keptAt t_isWriting t_moved t_at t_has t_leaks t_wants) := hw
      refine lv_aload_n F.1 F.2.1 dX12_pullBy_166 rfl (lv_at hl 0 rfl) ?_
      refine gf_X12_43 F hw 0 rfl rfl dX12_pullBy_167 ?_
      refine lv_aload_n F.1 F.2.1 dX12_pullBy_170 rfl (lv_at hl 0 rfl) ?_
      refine gf_X12_37 F hw 0 rfl rfl dX12_pullBy_171 ?_
      refine lv_iconst (v := 0) F.1 F.2.1 dX12_pullBy_174 (by decide) ?_
      obtain ⟨hg17, hr⟩ := g_no hr
      refine ar_i F hw 2 rfl hg17 dX12_pullBy_175 ?_
      refine lv_aload_n F.1 F.2.1 dX12_pullBy_176 rfl (lv_at hl 0 rfl) ?_
      refine gf_X12_69 F hw 0 rfl rfl dX12_pullBy_177 ?_
      obtain ⟨hg18, hr⟩ := g_no hr
      refine aw_i F hw 3 rfl hg18 dX12_pullBy_180 (fun H locs hw => ?_)
      replace hw : Wd dd g mv A s H locs (w_X12_pullBy g q_t q_t_moved q_t_at q_t_has q_t_leaks q_t_wants o_t_pailAt o_t_holds o_t_words o_t_sightBehind o_t_sightDoor o_t_sightIs o_t_pad o_t_order o_t_best o_t_wins o_t_later o_t_signs o_t_kept o_t_isKept t_places t_deep t_served t_wordMany t_sights t_padMany t_done ((t_drawn + (t_deep - (t_has ((t_at ((0 : Int32)).toNatClampNeg)).toNatClampNeg)))) t_leaked t_drunk t_times t_foundNumber t_keptAt t_isWriting t_moved t_at ((upd t_has ((t_at ((0 : Int32)).toNatClampNeg)).toNatClampNeg t_deep)) t_leaks t_wants) := hw
      refine lv_iconst (v := 0) F.1 F.2.1 dX12_pullBy_181 (by decide) ?_
      refine lv_istore_n (lv' := [(3, .int (0 : Int32)), (0, .ref q_t)]) F.1 F.2.1 dX12_pullBy_182 rfl hl (by decide) rfl (fun ls hl => ?_)
      exact b_X12_pullBy_183 F hret hlk  fuel hr hw (lv_sub hl [1, 0] rfl)
    · replace hr := (if_neg hc14).symm.trans hr
      refine lv_aload_n F.1 F.2.1 dX12_pullBy_69 rfl (lv_at hl 0 rfl) ?_
      refine gf_X12_37 F hw 0 rfl rfl dX12_pullBy_70 ?_
      refine lv_iload_n F.1 F.2.1 dX12_pullBy_73 rfl (lv_at hl 1 rfl) ?_
      refine lv_aload_n F.1 F.2.1 dX12_pullBy_74 rfl (lv_at hl 0 rfl) ?_
      refine gf_X12_40 F hw 0 rfl rfl dX12_pullBy_75 ?_
      refine lv_iload_n F.1 F.2.1 dX12_pullBy_78 rfl (lv_at hl 1 rfl) ?_
      obtain ⟨hg19, hr⟩ := g_no hr
      refine ar_i F hw 1 rfl hg19 dX12_pullBy_79 ?_
      obtain ⟨hg20, hr⟩ := g_no hr
      refine aw_i F hw 2 rfl hg20 dX12_pullBy_80 (fun H locs hw => ?_)
      replace hw : Wd dd g mv A s H locs (w_X12_pullBy g q_t q_t_moved q_t_at q_t_has q_t_leaks q_t_wants o_t_pailAt o_t_holds o_t_words o_t_sightBehind o_t_sightDoor o_t_sightIs o_t_pad o_t_order o_t_best o_t_wins o_t_later o_t_signs o_t_kept o_t_isKept t_places t_deep t_served t_wordMany t_sights t_padMany t_done t_drawn t_leaked t_drunk t_times t_foundNumber t_keptAt t_isWriting t_moved ((upd t_at (x3).toNatClampNeg ((t_moved (x3).toNatClampNeg)))) t_has t_leaks t_wants) := hw
      refine lv_aload_n F.1 F.2.1 dX12_pullBy_81 rfl (lv_at hl 0 rfl) ?_
      refine gf_X12_43 F hw 0 rfl rfl dX12_pullBy_82 ?_
      refine lv_iload_n F.1 F.2.1 dX12_pullBy_85 rfl (lv_at hl 1 rfl) ?_
      obtain ⟨hg21, hr⟩ := g_no hr
      refine ar_i F hw 3 rfl hg21 dX12_pullBy_86 ?_
      refine lv_aload_n F.1 F.2.1 dX12_pullBy_87 rfl (lv_at hl 0 rfl) ?_
      refine gf_X12_16 F hw 0 rfl rfl dX12_pullBy_88 ?_
      refine lv_iload_n F.1 F.2.1 dX12_pullBy_91 rfl (lv_at hl 1 rfl) ?_
      obtain ⟨hg22, hr⟩ := g_no hr
      refine ar_i F hw 4 rfl hg22 dX12_pullBy_92 ?_
      refine lv_icmp_ge (tgt := 105) F.1 F.2.1 dX12_pullBy_93 (by decide) (fun hc23 => ?_) (fun hc23 => ?_)
      · replace hr := (if_pos hc23).symm.trans hr
        refine lv_aload_n F.1 F.2.1 dX12_pullBy_105 rfl (lv_at hl 0 rfl) ?_
        refine gf_X12_16 F hw 0 rfl rfl dX12_pullBy_106 ?_
        refine lv_iload_n F.1 F.2.1 dX12_pullBy_109 rfl (lv_at hl 1 rfl) ?_
        obtain ⟨hg24, hr⟩ := g_no hr
        refine ar_i F hw 4 rfl hg24 dX12_pullBy_110 ?_
        exact b_X12_pullBy_111 F hret hlk (ih) hr hw (lv_sub hl [0, 1] rfl)
      · replace hr := (if_neg hc23).symm.trans hr
        refine lv_aload_n F.1 F.2.1 dX12_pullBy_96 rfl (lv_at hl 0 rfl) ?_
        refine gf_X12_43 F hw 0 rfl rfl dX12_pullBy_97 ?_
        refine lv_iload_n F.1 F.2.1 dX12_pullBy_100 rfl (lv_at hl 1 rfl) ?_
        obtain ⟨hg25, hr⟩ := g_no hr
        refine ar_i F hw 3 rfl hg25 dX12_pullBy_101 ?_
        refine lv_goto (tgt := 111) F.1 F.2.1 dX12_pullBy_102 (by decide) ?_
        exact b_X12_pullBy_111 F hret hlk (ih) hr hw (lv_sub hl [0, 1] rfl)
set_option maxHeartbeats 4000000 in
set_option maxRecDepth 100000 in
theorem b_X12_pullBy_26 {q_t q_t_moved q_t_at q_t_has q_t_leaks q_t_wants : Nat} {z : Int32 × Int32 × Int32 × Int32 × Int32 × (Nat → Int32) × (Nat → Int32) × (Nat → Int32)} (F : Fx p m c cX12_pullBy 5 s args RX12) (hret : meth.sig.returnType = none) (hlk : meth.locks = false) : ∀ (n : Nat), ∀ {x2 : Int32} {x3 : Int32} {t_places : Int32} {t_deep : Int32} {t_done : Int32} {t_drawn : Int32} {t_leaked : Int32} {t_drunk : Int32} {t_times : Int32} {t_moved : Nat → Int32} {t_at : Nat → Int32} {t_has : Nat → Int32} {t_leaks : Nat → Int32} {t_wants : Nat → Int32} {t_served : Int32} {t_wordMany : Int32} {t_sights : Int32} {t_padMany : Int32} {t_foundNumber : Int32} {t_keptAt : Int32} {t_isWriting : Int32} {o_t_pailAt : Value} {o_t_holds : Value} {o_t_words : Value} {o_t_sightBehind : Value} {o_t_sightDoor : Value} {o_t_sightIs : Value} {o_t_pad : Value} {o_t_order : Value} {o_t_best : Value} {o_t_wins : Value} {o_t_later : Value} {o_t_signs : Value} {o_t_kept : Value} {o_t_isKept : Value} {H : Heap} {locs : List Loc} {ls : Array Slot}, f_X12_pullBy_26  n x2 x3 t_places t_deep t_done t_drawn t_leaked t_drunk t_times t_moved t_at t_has t_leaks t_wants = some z → Wd dd g mv A s H locs (w_X12_pullBy g q_t q_t_moved q_t_at q_t_has q_t_leaks q_t_wants o_t_pailAt o_t_holds o_t_words o_t_sightBehind o_t_sightDoor o_t_sightIs o_t_pad o_t_order o_t_best o_t_wins o_t_later o_t_signs o_t_kept o_t_isKept t_places t_deep t_served t_wordMany t_sights t_padMany t_done t_drawn t_leaked t_drunk t_times t_foundNumber t_keptAt t_isWriting t_moved t_at t_has t_leaks t_wants) → lv_has ls 5 [(0, .ref q_t), (2, .int x2), (3, .int x3)] → W p l e (rmH (0) 0 0) s m args below meth c H locs 0 0 (MQ below (Qo dd g none (fun u : Unit => (w_X12_pullBy g q_t q_t_moved q_t_at q_t_has q_t_leaks q_t_wants o_t_pailAt o_t_holds o_t_words o_t_sightBehind o_t_sightDoor o_t_sightIs o_t_pad o_t_order o_t_best o_t_wins o_t_later o_t_signs o_t_kept o_t_isKept t_places t_deep t_served t_wordMany t_sights t_padMany z.1 z.2.1 z.2.2.1 z.2.2.2.1 z.2.2.2.2.1 t_foundNumber t_keptAt t_isWriting z.2.2.2.2.2.1 z.2.2.2.2.2.2.1 z.2.2.2.2.2.2.2 t_leaks t_wants)) A) args s 0 0 A) (F0 m 26 ls []) := by
  intro n
  induction n with
  | zero =>
    intros
    rename_i hr _ _
    cases hr
  | succ n ih =>
    intro x2 x3 t_places t_deep t_done t_drawn t_leaked t_drunk t_times t_moved t_at t_has t_leaks t_wants t_served t_wordMany t_sights t_padMany t_foundNumber t_keptAt t_isWriting o_t_pailAt o_t_holds o_t_words o_t_sightBehind o_t_sightDoor o_t_sightIs o_t_pad o_t_order o_t_best o_t_wins o_t_later o_t_signs o_t_kept o_t_isKept H locs ls hr hw hl
    refine lv_iload_n F.1 F.2.1 dX12_pullBy_26 rfl (lv_at hl 2 rfl) ?_
    refine lv_aload_n F.1 F.2.1 dX12_pullBy_27 rfl (lv_at hl 0 rfl) ?_
    refine gf_X12_77 F hw 0 rfl rfl dX12_pullBy_28 ?_
    refine lv_icmp_ge (tgt := 59) F.1 F.2.1 dX12_pullBy_31 (by decide) (fun hc26 => ?_) (fun hc26 => ?_)
    · replace hr := (if_pos hc26).symm.trans hr
      refine lv_iconst (v := 0) F.1 F.2.1 dX12_pullBy_59 (by decide) ?_
      refine lv_istore_n (lv' := [(3, .int (0 : Int32)), (0, .ref q_t), (2, .int x2)]) F.1 F.2.1 dX12_pullBy_60 rfl hl (by decide) rfl (fun ls hl => ?_)
      exact b_X12_pullBy_61 F hret hlk  fuel hr hw (lv_sub hl [1, 0] rfl)
    · replace hr := (if_neg hc26).symm.trans hr
      refine lv_aload_n F.1 F.2.1 dX12_pullBy_34 rfl (lv_at hl 0 rfl) ?_
      refine gf_X12_40 F hw 0 rfl rfl dX12_pullBy_35 ?_
      refine lv_iload_n F.1 F.2.1 dX12_pullBy_38 rfl (lv_at hl 2 rfl) ?_
      refine lv_iload_n F.1 F.2.1 dX12_pullBy_39 rfl (lv_at hl 1 rfl) ?_
      refine lv_iadd F.1 F.2.1 dX12_pullBy_40 ?_
      refine lv_aload_n F.1 F.2.1 dX12_pullBy_41 rfl (lv_at hl 0 rfl) ?_
      refine gf_X12_77 F hw 0 rfl rfl dX12_pullBy_42 ?_
      obtain ⟨hg27, hr⟩ := g_no hr
      refine lv_irem F.1 F.2.1 dX12_pullBy_45 hg27 ?_
      refine lv_aload_n F.1 F.2.1 dX12_pullBy_46 rfl (lv_at hl 0 rfl) ?_
      refine gf_X12_37 F hw 0 rfl rfl dX12_pullBy_47 ?_
      refine lv_iload_n F.1 F.2.1 dX12_pullBy_50 rfl (lv_at hl 2 rfl) ?_
      obtain ⟨hg28, hr⟩ := g_no hr
      refine ar_i F hw 2 rfl hg28 dX12_pullBy_51 ?_
      obtain ⟨hg29, hr⟩ := g_no hr
      refine aw_i F hw 1 rfl hg29 dX12_pullBy_52 (fun H locs hw => ?_)
      replace hw : Wd dd g mv A s H locs (w_X12_pullBy g q_t q_t_moved q_t_at q_t_has q_t_leaks q_t_wants o_t_pailAt o_t_holds o_t_words o_t_sightBehind o_t_sightDoor o_t_sightIs o_t_pad o_t_order o_t_best o_t_wins o_t_later o_t_signs o_t_kept o_t_isKept t_places t_deep t_served t_wordMany t_sights t_padMany t_done t_drawn t_leaked t_drunk t_times t_foundNumber t_keptAt t_isWriting ((upd t_moved (((x3 + x2) - (x3 + x2) / t_places * t_places)).toNatClampNeg ((t_at (x3).toNatClampNeg)))) t_at t_has t_leaks t_wants) := hw
      refine lv_iinc (v := (x3 + 1)) (lv' := [(3, .int (x3 + 1)), (0, .ref q_t), (2, .int x2)]) F.1 F.2.1 dX12_pullBy_53 hl (k := 2) rfl rfl (by decide) rfl (fun ls hl => ?_)
      refine lv_goto (tgt := 26) F.1 F.2.1 dX12_pullBy_56 (by decide) ?_
      exact ih hr hw (lv_sub hl [1, 2, 0] rfl)
set_option maxHeartbeats 4000000 in
set_option maxRecDepth 100000 in
theorem b_X12_pullBy_23 {q_t q_t_moved q_t_at q_t_has q_t_leaks q_t_wants : Nat} {z : Int32 × Int32 × Int32 × Int32 × Int32 × (Nat → Int32) × (Nat → Int32) × (Nat → Int32)} (F : Fx p m c cX12_pullBy 5 s args RX12) (hret : meth.sig.returnType = none) (hlk : meth.locks = false) : ∀ {y0 : Int32} {t_places : Int32} {t_deep : Int32} {t_done : Int32} {t_drawn : Int32} {t_leaked : Int32} {t_drunk : Int32} {t_times : Int32} {t_moved : Nat → Int32} {t_at : Nat → Int32} {t_has : Nat → Int32} {t_leaks : Nat → Int32} {t_wants : Nat → Int32} {t_served : Int32} {t_wordMany : Int32} {t_sights : Int32} {t_padMany : Int32} {t_foundNumber : Int32} {t_keptAt : Int32} {t_isWriting : Int32} {o_t_pailAt : Value} {o_t_holds : Value} {o_t_words : Value} {o_t_sightBehind : Value} {o_t_sightDoor : Value} {o_t_sightIs : Value} {o_t_pad : Value} {o_t_order : Value} {o_t_best : Value} {o_t_wins : Value} {o_t_later : Value} {o_t_signs : Value} {o_t_kept : Value} {o_t_isKept : Value} {H : Heap} {locs : List Loc} {ls : Array Slot}, f_X12_pullBy_23  y0 t_places t_deep t_done t_drawn t_leaked t_drunk t_times t_moved t_at t_has t_leaks t_wants = some z → Wd dd g mv A s H locs (w_X12_pullBy g q_t q_t_moved q_t_at q_t_has q_t_leaks q_t_wants o_t_pailAt o_t_holds o_t_words o_t_sightBehind o_t_sightDoor o_t_sightIs o_t_pad o_t_order o_t_best o_t_wins o_t_later o_t_signs o_t_kept o_t_isKept t_places t_deep t_served t_wordMany t_sights t_padMany t_done t_drawn t_leaked t_drunk t_times t_foundNumber t_keptAt t_isWriting t_moved t_at t_has t_leaks t_wants) → lv_has ls 5 [(0, .ref q_t)] → W p l e (rmH (0) 0 0) s m args below meth c H locs 0 0 (MQ below (Qo dd g none (fun u : Unit => (w_X12_pullBy g q_t q_t_moved q_t_at q_t_has q_t_leaks q_t_wants o_t_pailAt o_t_holds o_t_words o_t_sightBehind o_t_sightDoor o_t_sightIs o_t_pad o_t_order o_t_best o_t_wins o_t_later o_t_signs o_t_kept o_t_isKept t_places t_deep t_served t_wordMany t_sights t_padMany z.1 z.2.1 z.2.2.1 z.2.2.2.1 z.2.2.2.2.1 t_foundNumber t_keptAt t_isWriting z.2.2.2.2.2.1 z.2.2.2.2.2.2.1 z.2.2.2.2.2.2.2 t_leaks t_wants)) A) args s 0 0 A) (F0 m 23 ls [.int y0]) := by
  intro y0 t_places t_deep t_done t_drawn t_leaked t_drunk t_times t_moved t_at t_has t_leaks t_wants t_served t_wordMany t_sights t_padMany t_foundNumber t_keptAt t_isWriting o_t_pailAt o_t_holds o_t_words o_t_sightBehind o_t_sightDoor o_t_sightIs o_t_pad o_t_order o_t_best o_t_wins o_t_later o_t_signs o_t_kept o_t_isKept H locs ls hr hw hl
  refine lv_istore_n (lv' := [(2, .int y0), (0, .ref q_t)]) F.1 F.2.1 dX12_pullBy_23 rfl hl (by decide) rfl (fun ls hl => ?_)
  refine lv_iconst (v := 0) F.1 F.2.1 dX12_pullBy_24 (by decide) ?_
  refine lv_istore_n (lv' := [(3, .int (0 : Int32)), (2, .int y0), (0, .ref q_t)]) F.1 F.2.1 dX12_pullBy_25 rfl hl (by decide) rfl (fun ls hl => ?_)
  exact b_X12_pullBy_26 F hret hlk  fuel hr hw (lv_sub hl [2, 1, 0] rfl)
set_option maxHeartbeats 4000000 in
set_option maxRecDepth 100000 in
theorem c_X12_pullBy (l : Launch) (dd : va_G) (g : Nat → ClassId) (mv : Nat) (q_t : Nat) (q_t_moved : Nat) (q_t_at : Nat) (q_t_has : Nat) (q_t_leaks : Nat) (q_t_wants : Nat) (o_t_pailAt : Value) (o_t_holds : Value) (o_t_words : Value) (o_t_sightBehind : Value) (o_t_sightDoor : Value) (o_t_sightIs : Value) (o_t_pad : Value) (o_t_order : Value) (o_t_best : Value) (o_t_wins : Value) (o_t_later : Value) (o_t_signs : Value) (o_t_kept : Value) (o_t_isKept : Value) (t_places : Int32) (t_deep : Int32) (t_served : Int32) (t_wordMany : Int32) (t_sights : Int32) (t_padMany : Int32) (t_done : Int32) (t_drawn : Int32) (t_leaked : Int32) (t_drunk : Int32) (t_times : Int32) (t_foundNumber : Int32) (t_keptAt : Int32) (t_isWriting : Int32) (t_moved : Nat → Int32) (t_at : Nat → Int32) (t_has : Nat → Int32) (t_leaks : Nat → Int32) (t_wants : Nat → Int32) (a1 : Int32) (z : Int32 × Int32 × Int32 × Int32 × Int32 × (Nat → Int32) × (Nat → Int32) × (Nat → Int32)) (hr : f_X12_pullBy t_places t_deep t_done t_drawn t_leaked t_drunk t_times t_moved t_at t_has t_leaks t_wants a1 = some z) (sz : Nat) : Met l yX12_pullBy (.code yX12_pullBy cX12_pullBy 5 none :: WS) (rmH 0 0 0) (va_Pc [.ref q_t, .int a1] (PW dd g mv (w_X12_pullBy g q_t q_t_moved q_t_at q_t_has q_t_leaks q_t_wants o_t_pailAt o_t_holds o_t_words o_t_sightBehind o_t_sightDoor o_t_sightIs o_t_pad o_t_order o_t_best o_t_wins o_t_later o_t_signs o_t_kept o_t_isKept t_places t_deep t_served t_wordMany t_sights t_padMany t_done t_drawn t_leaked t_drunk t_times t_foundNumber t_keptAt t_isWriting t_moved t_at t_has t_leaks t_wants) sz)) (Qo dd g none (fun u : Unit => (w_X12_pullBy g q_t q_t_moved q_t_at q_t_has q_t_leaks q_t_wants o_t_pailAt o_t_holds o_t_words o_t_sightBehind o_t_sightDoor o_t_sightIs o_t_pad o_t_order o_t_best o_t_wins o_t_later o_t_signs o_t_kept o_t_isKept t_places t_deep t_served t_wordMany t_sights t_padMany z.1 z.2.1 z.2.2.1 z.2.2.2.1 z.2.2.2.2.1 t_foundNumber t_keptAt t_isWriting z.2.2.2.2.2.1 z.2.2.2.2.2.2.1 z.2.2.2.2.2.2.2 t_leaks t_wants)) (va_A (w_X12_pullBy g q_t q_t_moved q_t_at q_t_has q_t_leaks q_t_wants o_t_pailAt o_t_holds o_t_words o_t_sightBehind o_t_sightDoor o_t_sightIs o_t_pad o_t_order o_t_best o_t_wins o_t_later o_t_signs o_t_kept o_t_isKept t_places t_deep t_served t_wordMany t_sights t_padMany t_done t_drawn t_leaked t_drunk t_times t_foundNumber t_keptAt t_isWriting t_moved t_at t_has t_leaks t_wants) sz)) 0 0 (va_A (w_X12_pullBy g q_t q_t_moved q_t_at q_t_has q_t_leaks q_t_wants o_t_pailAt o_t_holds o_t_words o_t_sightBehind o_t_sightDoor o_t_sightIs o_t_pad o_t_order o_t_best o_t_wins o_t_later o_t_signs o_t_kept o_t_isKept t_places t_deep t_served t_wordMany t_sights t_padMany t_done t_drawn t_leaked t_drunk t_times t_foundNumber t_keptAt t_isWriting t_moved t_at t_has t_leaks t_wants) sz) := by
  refine Met_intro (by decide) (Nat.le_of_ble_eq_true rfl) ?_
  intro p e s m below meth c A ls F hret hlk hin hw hl
  replace hl : lv_has ls 5 [(0, .ref q_t), (1, .int a1)] := hl
  refine lv_iload_n F.1 F.2.1 dX12_pullBy_0 rfl (lv_at hl 1 rfl) ?_
  refine lv_if_ne (tgt := 8) F.1 F.2.1 dX12_pullBy_1 (by decide) (fun hc30 => ?_) (fun hc30 => ?_)
  · replace hr := (if_neg hc30).symm.trans hr
    refine lv_iload_n F.1 F.2.1 dX12_pullBy_8 rfl (lv_at hl 1 rfl) ?_
    refine lv_iconst (v := 1) F.1 F.2.1 dX12_pullBy_9 (by decide) ?_
    refine lv_icmp_ne (tgt := 22) F.1 F.2.1 dX12_pullBy_10 (by decide) (fun hc31 => ?_) (fun hc31 => ?_)
    · replace hr := (if_neg hc31).symm.trans hr
      refine lv_iconst (v := 0) F.1 F.2.1 dX12_pullBy_22 (by decide) ?_
      exact b_X12_pullBy_23 F hret hlk  hr hw (lv_sub hl [0] rfl)
    · replace hr := (if_pos hc31).symm.trans hr
      refine lv_aload_n F.1 F.2.1 dX12_pullBy_13 rfl (lv_at hl 0 rfl) ?_
      refine gf_X12_77 F hw 0 rfl rfl dX12_pullBy_14 ?_
      refine lv_iconst (v := 1) F.1 F.2.1 dX12_pullBy_17 (by decide) ?_
      refine lv_isub F.1 F.2.1 dX12_pullBy_18 ?_
      refine lv_goto (tgt := 23) F.1 F.2.1 dX12_pullBy_19 (by decide) ?_
      exact b_X12_pullBy_23 F hret hlk  hr hw (lv_sub hl [0] rfl)
  · replace hr := (if_pos hc30).symm.trans hr
    refine lv_iconst (v := 1) F.1 F.2.1 dX12_pullBy_4 (by decide) ?_
    refine lv_goto (tgt := 23) F.1 F.2.1 dX12_pullBy_5 (by decide) ?_
    exact b_X12_pullBy_23 F hret hlk  hr hw (lv_sub hl [0] rfl)
set_option maxHeartbeats 4000000 in
set_option maxRecDepth 100000 in
theorem c_X12_howOf (l : Launch) (dd : va_G) (g : Nat → ClassId) (mv : Nat) (a1 : Int32) (z : Int32) (hr : f_X12_howOf a1 = some z) (sz : Nat) : Met l yX12_howOf (.code yX12_howOf cX12_howOf 1 (some .int) :: WS) (rmH 0 0 0) (va_Pc [.int a1] (PW dd g mv (w_X12_howOf g ) sz)) (Qo dd g (some (.int z)) (fun u : Unit => (w_X12_howOf g )) (va_A (w_X12_howOf g ) sz)) 0 0 (va_A (w_X12_howOf g ) sz) := by
  refine Met_intro (by decide) (Nat.le_of_ble_eq_true rfl) ?_
  intro p e s m below meth c A ls F hret hlk hin hw hl
  replace hl : lv_has ls 1 [(0, .int a1)] := hl
  refine lv_iload_n F.1 F.2.1 dX12_howOf_0 rfl (lv_at hl 0 rfl) ?_
  refine lv_bipush (v := 43) F.1 F.2.1 dX12_howOf_1 (by decide) ?_
  refine lv_icmp_ne (tgt := 10) F.1 F.2.1 dX12_howOf_3 (by decide) (fun hc1 => ?_) (fun hc1 => ?_)
  · replace hr := (if_neg hc1).symm.trans hr
    refine lv_iload_n F.1 F.2.1 dX12_howOf_10 rfl (lv_at hl 0 rfl) ?_
    refine lv_bipush (v := 45) F.1 F.2.1 dX12_howOf_11 (by decide) ?_
    refine lv_icmp_ne (tgt := 20) F.1 F.2.1 dX12_howOf_13 (by decide) (fun hc2 => ?_) (fun hc2 => ?_)
    · replace hr := (if_neg hc2).symm.trans hr
      refine lv_iconst (v := 2) F.1 F.2.1 dX12_howOf_20 (by decide) ?_
      cases hr
      exact ret_i () F hret hlk hw (Nat.le_refl _) (Nat.le_refl _) dX12_howOf_21
    · replace hr := (if_pos hc2).symm.trans hr
      refine lv_iconst (v := 1) F.1 F.2.1 dX12_howOf_16 (by decide) ?_
      refine lv_goto (tgt := 21) F.1 F.2.1 dX12_howOf_17 (by decide) ?_
      cases hr
      exact ret_i () F hret hlk hw (Nat.le_refl _) (Nat.le_refl _) dX12_howOf_21
  · replace hr := (if_pos hc1).symm.trans hr
    refine lv_iconst (v := 0) F.1 F.2.1 dX12_howOf_6 (by decide) ?_
    refine lv_goto (tgt := 21) F.1 F.2.1 dX12_howOf_7 (by decide) ?_
    cases hr
    exact ret_i () F hret hlk hw (Nat.le_refl _) (Nat.le_refl _) dX12_howOf_21
set_option maxHeartbeats 4000000 in
set_option maxRecDepth 100000 in
theorem c_X12_signOf (l : Launch) (dd : va_G) (g : Nat → ClassId) (mv : Nat) (a1 : Int32) (z : Int32) (hr : f_X12_signOf a1 = some z) (sz : Nat) : Met l yX12_signOf (.code yX12_signOf cX12_signOf 1 (some .int) :: WS) (rmH 0 0 0) (va_Pc [.int a1] (PW dd g mv (w_X12_signOf g ) sz)) (Qo dd g (some (.int z)) (fun u : Unit => (w_X12_signOf g )) (va_A (w_X12_signOf g ) sz)) 0 0 (va_A (w_X12_signOf g ) sz) := by
  refine Met_intro (by decide) (Nat.le_of_ble_eq_true rfl) ?_
  intro p e s m below meth c A ls F hret hlk hin hw hl
  replace hl : lv_has ls 1 [(0, .int a1)] := hl
  refine lv_iload_n F.1 F.2.1 dX12_signOf_0 rfl (lv_at hl 0 rfl) ?_
  refine lv_if_ne (tgt := 9) F.1 F.2.1 dX12_signOf_1 (by decide) (fun hc1 => ?_) (fun hc1 => ?_)
  · replace hr := (if_neg hc1).symm.trans hr
    refine lv_iload_n F.1 F.2.1 dX12_signOf_9 rfl (lv_at hl 0 rfl) ?_
    refine lv_iconst (v := 1) F.1 F.2.1 dX12_signOf_10 (by decide) ?_
    refine lv_icmp_ne (tgt := 19) F.1 F.2.1 dX12_signOf_11 (by decide) (fun hc2 => ?_) (fun hc2 => ?_)
    · replace hr := (if_neg hc2).symm.trans hr
      refine lv_bipush (v := 46) F.1 F.2.1 dX12_signOf_19 (by decide) ?_
      cases hr
      exact ret_i () F hret hlk hw (Nat.le_refl _) (Nat.le_refl _) dX12_signOf_21
    · replace hr := (if_pos hc2).symm.trans hr
      refine lv_bipush (v := 45) F.1 F.2.1 dX12_signOf_14 (by decide) ?_
      refine lv_goto (tgt := 21) F.1 F.2.1 dX12_signOf_16 (by decide) ?_
      cases hr
      exact ret_i () F hret hlk hw (Nat.le_refl _) (Nat.le_refl _) dX12_signOf_21
  · replace hr := (if_pos hc1).symm.trans hr
    refine lv_bipush (v := 43) F.1 F.2.1 dX12_signOf_4 (by decide) ?_
    refine lv_goto (tgt := 21) F.1 F.2.1 dX12_signOf_6 (by decide) ?_
    cases hr
    exact ret_i () F hret hlk hw (Nat.le_refl _) (Nat.le_refl _) dX12_signOf_21
set_option maxHeartbeats 4000000 in
set_option maxRecDepth 100000 in
theorem b_X12_goPad_6 {q_t q_t_at q_t_pailAt q_t_has q_t_holds q_t_pad q_t_moved q_t_leaks q_t_wants : Nat} {z : Int32 × Int32 × Int32 × Int32 × Int32 × (Nat → Int32) × (Nat → Int32) × (Nat → Int32)} (F : Fx p m c cX12_goPad 3 s args RX12) (hret : meth.sig.returnType = none) (hlk : meth.locks = false) : ∀ (n : Nat), ∀ {x1 : Int32} {x2 : Int32} {t_places : Int32} {t_deep : Int32} {t_done : Int32} {t_drawn : Int32} {t_leaked : Int32} {t_drunk : Int32} {t_times : Int32} {t_at : Nat → Int32} {t_has : Nat → Int32} {t_pad : Nat → Int32} {t_moved : Nat → Int32} {t_leaks : Nat → Int32} {t_wants : Nat → Int32} {t_served : Int32} {t_wordMany : Int32} {t_sights : Int32} {t_padMany : Int32} {t_foundNumber : Int32} {t_keptAt : Int32} {t_isWriting : Int32} {t_pailAt : Nat → Int32} {t_holds : Nat → Int32} {o_t_words : Value} {o_t_sightBehind : Value} {o_t_sightDoor : Value} {o_t_sightIs : Value} {o_t_order : Value} {o_t_best : Value} {o_t_wins : Value} {o_t_later : Value} {o_t_signs : Value} {o_t_kept : Value} {o_t_isKept : Value} {H : Heap} {locs : List Loc} {ls : Array Slot}, f_X12_goPad_6  n x1 x2 t_places t_deep t_done t_drawn t_leaked t_drunk t_times t_at t_has t_pad t_moved t_leaks t_wants = some z → Wd dd g mv A s H locs (w_X12_goPad g q_t q_t_at q_t_pailAt q_t_has q_t_holds q_t_pad q_t_moved q_t_leaks q_t_wants o_t_words o_t_sightBehind o_t_sightDoor o_t_sightIs o_t_order o_t_best o_t_wins o_t_later o_t_signs o_t_kept o_t_isKept t_places t_deep t_served t_wordMany t_sights t_padMany t_done t_drawn t_leaked t_drunk t_times t_foundNumber t_keptAt t_isWriting t_at t_pailAt t_has t_holds t_pad t_moved t_leaks t_wants) → lv_has ls 3 [(0, .ref q_t), (1, .int x1), (2, .int x2)] → W p l e (rmH (1) 0 0) s m args below meth c H locs 0 0 (MQ below (Qo dd g none (fun u : Unit => (w_X12_goPad g q_t q_t_at q_t_pailAt q_t_has q_t_holds q_t_pad q_t_moved q_t_leaks q_t_wants o_t_words o_t_sightBehind o_t_sightDoor o_t_sightIs o_t_order o_t_best o_t_wins o_t_later o_t_signs o_t_kept o_t_isKept t_places t_deep t_served t_wordMany t_sights t_padMany z.1 z.2.1 z.2.2.1 z.2.2.2.1 z.2.2.2.2.1 t_foundNumber t_keptAt t_isWriting z.2.2.2.2.2.1 t_pailAt z.2.2.2.2.2.2.1 t_holds t_pad z.2.2.2.2.2.2.2 t_leaks t_wants)) A) args s 0 0 A) (F0 m 6 ls []) := by
  intro n
  induction n with
  | zero =>
    intros
    rename_i hr _ _
    cases hr
  | succ n ih =>
    intro x1 x2 t_places t_deep t_done t_drawn t_leaked t_drunk t_times t_at t_has t_pad t_moved t_leaks t_wants t_served t_wordMany t_sights t_padMany t_foundNumber t_keptAt t_isWriting t_pailAt t_holds o_t_words o_t_sightBehind o_t_sightDoor o_t_sightIs o_t_order o_t_best o_t_wins o_t_later o_t_signs o_t_kept o_t_isKept H locs ls hr hw hl
    refine lv_iload_n F.1 F.2.1 dX12_goPad_6 rfl (lv_at hl 2 rfl) ?_
    refine lv_iload_n F.1 F.2.1 dX12_goPad_7 rfl (lv_at hl 1 rfl) ?_
    refine lv_icmp_ge (tgt := 30) F.1 F.2.1 dX12_goPad_8 (by decide) (fun hc1 => ?_) (fun hc1 => ?_)
    · replace hr := (if_pos hc1).symm.trans hr
      cases hr
      exact ret_v () F hret hlk hw (Nat.le_refl _) (Nat.le_refl _) dX12_goPad_30
    · replace hr := (if_neg hc1).symm.trans hr
      refine lv_aload_n F.1 F.2.1 dX12_goPad_11 rfl (lv_at hl 0 rfl) ?_
      refine lv_aload_n F.1 F.2.1 dX12_goPad_12 rfl (lv_at hl 0 rfl) ?_
      refine gf_X12_34 F hw 0 rfl rfl dX12_goPad_13 ?_
      refine lv_iload_n F.1 F.2.1 dX12_goPad_16 rfl (lv_at hl 2 rfl) ?_
      obtain ⟨hg2, hr⟩ := g_no hr
      refine ar_i F hw 5 rfl hg2 dX12_goPad_17 ?_
      obtain ⟨z3, hz3, hr⟩ := Option.bind_eq_some_iff.mp hr
      refine call_o (wr := [(q_t, .inr (12, [.int t_places, .int t_deep, .ref q_t_pailAt, .ref q_t_holds, .ref q_t_leaks, .ref q_t_wants, .int t_served, o_t_words, .int t_wordMany, o_t_sightBehind, o_t_sightDoor, o_t_sightIs, .int t_sights, .ref q_t_pad, .int t_padMany, .ref q_t_at, .ref q_t_moved, .ref q_t_has, .int t_done, .int t_drawn, .int t_leaked, .int t_drunk, .int t_times, .int t_foundNumber, o_t_order, o_t_best, o_t_wins, o_t_later, o_t_signs, o_t_kept, o_t_isKept, .int t_keptAt, .int t_isWriting])), (q_t_at, .inl (g 0, 9, .inl t_at)), (q_t_pailAt, .inl (g 0, 9, .inl t_pailAt)), (q_t_has, .inl (g 0, 9, .inl t_has)), (q_t_holds, .inl (g 0, 9, .inl t_holds)), (q_t_pad, .inl (g 0, 40, .inl t_pad)), (q_t_moved, .inl (g 0, 9, .inl t_moved)), (q_t_leaks, .inl (g 0, 9, .inl t_leaks)), (q_t_wants, .inl (g 0, 9, .inl t_wants))]) (run_S (As := [.int (t_pad (x2).toNatClampNeg)]) (rest := [.ref q_t]) F k_X12_123 (c_X12_howOf l dd g mv ((t_pad (x2).toNatClampNeg)) z3 hz3 _) hw [] (by decide) rfl rfl hl.1 rfl (Nat.le_of_ble_eq_true rfl) dX12_goPad_18 ⟨Nat.le_of_ble_eq_true rfl, Nat.le_of_ble_eq_true rfl⟩ ⟨Nat.le_of_ble_eq_true rfl, Nat.le_of_ble_eq_true rfl⟩) hw [] [0, 1, 2, 3, 4, 5, 6, 7, 8] rfl rfl (by decide) (by decide) (fun u4 H locs hw => ?_)
      replace hw : Wd dd g mv A s H locs (w_X12_goPad g q_t q_t_at q_t_pailAt q_t_has q_t_holds q_t_pad q_t_moved q_t_leaks q_t_wants o_t_words o_t_sightBehind o_t_sightDoor o_t_sightIs o_t_order o_t_best o_t_wins o_t_later o_t_signs o_t_kept o_t_isKept t_places t_deep t_served t_wordMany t_sights t_padMany t_done t_drawn t_leaked t_drunk t_times t_foundNumber t_keptAt t_isWriting t_at t_pailAt t_has t_holds t_pad t_moved t_leaks t_wants) := hw.sub [0, 1, 2, 3, 4, 5, 6, 7, 8] (by decide) rfl
      refine W.eq (g2 := F0 m 21 ls (.int z3 :: .ref q_t :: [])) rfl ?_
      obtain ⟨z5, hz5, hr⟩ := Option.bind_eq_some_iff.mp hr
      refine call_o (wr := [(q_t_pailAt, .inl (g 0, 9, .inl t_pailAt)), (q_t_holds, .inl (g 0, 9, .inl t_holds)), (q_t_pad, .inl (g 0, 40, .inl t_pad))]) (run_V (As := [.int z3]) (rest := []) F k_X12_127 (c_X12_pullBy l dd g mv q_t q_t_moved q_t_at q_t_has q_t_leaks q_t_wants ((.ref q_t_pailAt)) ((.ref q_t_holds)) o_t_words o_t_sightBehind o_t_sightDoor o_t_sightIs ((.ref q_t_pad)) o_t_order o_t_best o_t_wins o_t_later o_t_signs o_t_kept o_t_isKept t_places t_deep t_served t_wordMany t_sights t_padMany t_done t_drawn t_leaked t_drunk t_times t_foundNumber t_keptAt t_isWriting t_moved t_at t_has t_leaks t_wants z3 z5 hz5 _) hw [0, 6, 1, 3, 7, 8] (by decide) rfl (ci := 12) rfl rfl rfl rfl hl.1 rfl (Nat.le_of_ble_eq_true rfl) dX12_goPad_21 ⟨Nat.le_of_ble_eq_true rfl, Nat.le_of_ble_eq_true rfl⟩ ⟨Nat.le_of_ble_eq_true rfl, Nat.le_of_ble_eq_true rfl⟩) hw [0, 6, 1, 3, 7, 8] [2, 4, 5] rfl rfl (by decide) (by decide) (fun u6 H locs hw => ?_)
      replace hw : Wd dd g mv A s H locs (w_X12_goPad g q_t q_t_at q_t_pailAt q_t_has q_t_holds q_t_pad q_t_moved q_t_leaks q_t_wants o_t_words o_t_sightBehind o_t_sightDoor o_t_sightIs o_t_order o_t_best o_t_wins o_t_later o_t_signs o_t_kept o_t_isKept t_places t_deep t_served t_wordMany t_sights t_padMany z5.1 z5.2.1 z5.2.2.1 z5.2.2.2.1 z5.2.2.2.2.1 t_foundNumber t_keptAt t_isWriting z5.2.2.2.2.2.2.1 t_pailAt z5.2.2.2.2.2.2.2 t_holds t_pad z5.2.2.2.2.2.1 t_leaks t_wants) := hw.sub [3, 5, 0, 6, 1, 2, 4, 7, 8] (by decide) rfl
      refine lv_iinc (v := (x2 + 1)) (lv' := [(2, .int (x2 + 1)), (0, .ref q_t), (1, .int x1)]) F.1 F.2.1 dX12_goPad_24 hl (k := 2) rfl rfl (by decide) rfl (fun ls hl => ?_)
      refine lv_goto (tgt := 6) F.1 F.2.1 dX12_goPad_27 (by decide) ?_
      exact ih hr hw (lv_sub hl [1, 2, 0] rfl)
set_option maxHeartbeats 4000000 in
set_option maxRecDepth 100000 in
theorem c_X12_goPad (l : Launch) (dd : va_G) (g : Nat → ClassId) (mv : Nat) (q_t : Nat) (q_t_at : Nat) (q_t_pailAt : Nat) (q_t_has : Nat) (q_t_holds : Nat) (q_t_pad : Nat) (q_t_moved : Nat) (q_t_leaks : Nat) (q_t_wants : Nat) (o_t_words : Value) (o_t_sightBehind : Value) (o_t_sightDoor : Value) (o_t_sightIs : Value) (o_t_order : Value) (o_t_best : Value) (o_t_wins : Value) (o_t_later : Value) (o_t_signs : Value) (o_t_kept : Value) (o_t_isKept : Value) (t_places : Int32) (t_deep : Int32) (t_served : Int32) (t_wordMany : Int32) (t_sights : Int32) (t_padMany : Int32) (t_done : Int32) (t_drawn : Int32) (t_leaked : Int32) (t_drunk : Int32) (t_times : Int32) (t_foundNumber : Int32) (t_keptAt : Int32) (t_isWriting : Int32) (t_at : Nat → Int32) (t_pailAt : Nat → Int32) (t_has : Nat → Int32) (t_holds : Nat → Int32) (t_pad : Nat → Int32) (t_moved : Nat → Int32) (t_leaks : Nat → Int32) (t_wants : Nat → Int32) (a1 : Int32) (z : Int32 × Int32 × Int32 × Int32 × Int32 × (Nat → Int32) × (Nat → Int32) × (Nat → Int32)) (hr : f_X12_goPad t_places t_deep t_served t_at t_pailAt t_has t_holds t_pad t_moved t_leaks t_wants a1 = some z) (sz : Nat) : Met l yX12_goPad (.code yX12_goPad cX12_goPad 3 none :: WS) (rmH 1 0 0) (va_Pc [.ref q_t, .int a1] (PW dd g mv (w_X12_goPad g q_t q_t_at q_t_pailAt q_t_has q_t_holds q_t_pad q_t_moved q_t_leaks q_t_wants o_t_words o_t_sightBehind o_t_sightDoor o_t_sightIs o_t_order o_t_best o_t_wins o_t_later o_t_signs o_t_kept o_t_isKept t_places t_deep t_served t_wordMany t_sights t_padMany t_done t_drawn t_leaked t_drunk t_times t_foundNumber t_keptAt t_isWriting t_at t_pailAt t_has t_holds t_pad t_moved t_leaks t_wants) sz)) (Qo dd g none (fun u : Unit => (w_X12_goPad g q_t q_t_at q_t_pailAt q_t_has q_t_holds q_t_pad q_t_moved q_t_leaks q_t_wants o_t_words o_t_sightBehind o_t_sightDoor o_t_sightIs o_t_order o_t_best o_t_wins o_t_later o_t_signs o_t_kept o_t_isKept t_places t_deep t_served t_wordMany t_sights t_padMany z.1 z.2.1 z.2.2.1 z.2.2.2.1 z.2.2.2.2.1 t_foundNumber t_keptAt t_isWriting z.2.2.2.2.2.1 t_pailAt z.2.2.2.2.2.2.1 t_holds t_pad z.2.2.2.2.2.2.2 t_leaks t_wants)) (va_A (w_X12_goPad g q_t q_t_at q_t_pailAt q_t_has q_t_holds q_t_pad q_t_moved q_t_leaks q_t_wants o_t_words o_t_sightBehind o_t_sightDoor o_t_sightIs o_t_order o_t_best o_t_wins o_t_later o_t_signs o_t_kept o_t_isKept t_places t_deep t_served t_wordMany t_sights t_padMany t_done t_drawn t_leaked t_drunk t_times t_foundNumber t_keptAt t_isWriting t_at t_pailAt t_has t_holds t_pad t_moved t_leaks t_wants) sz)) 0 0 (va_A (w_X12_goPad g q_t q_t_at q_t_pailAt q_t_has q_t_holds q_t_pad q_t_moved q_t_leaks q_t_wants o_t_words o_t_sightBehind o_t_sightDoor o_t_sightIs o_t_order o_t_best o_t_wins o_t_later o_t_signs o_t_kept o_t_isKept t_places t_deep t_served t_wordMany t_sights t_padMany t_done t_drawn t_leaked t_drunk t_times t_foundNumber t_keptAt t_isWriting t_at t_pailAt t_has t_holds t_pad t_moved t_leaks t_wants) sz) := by
  refine Met_intro (by decide) (Nat.le_of_ble_eq_true rfl) ?_
  intro p e s m below meth c A ls F hret hlk hin hw hl
  replace hl : lv_has ls 3 [(0, .ref q_t), (1, .int a1)] := hl
  refine lv_aload_n F.1 F.2.1 dX12_goPad_0 rfl (lv_at hl 0 rfl) ?_
  obtain ⟨z7, hz7, hr⟩ := Option.bind_eq_some_iff.mp hr
  refine call_o (wr := [(q_t_pad, .inl (g 0, 40, .inl t_pad)), (q_t_moved, .inl (g 0, 9, .inl t_moved)), (q_t_leaks, .inl (g 0, 9, .inl t_leaks)), (q_t_wants, .inl (g 0, 9, .inl t_wants))]) (run_V (As := []) (rest := []) F k_X12_120 (c_X12_layNow l dd g mv q_t q_t_at q_t_pailAt q_t_has q_t_holds ((.ref q_t_leaks)) ((.ref q_t_wants)) o_t_words o_t_sightBehind o_t_sightDoor o_t_sightIs ((.ref q_t_pad)) ((.ref q_t_moved)) o_t_order o_t_best o_t_wins o_t_later o_t_signs o_t_kept o_t_isKept t_places t_deep t_served t_wordMany t_sights t_padMany t_done t_drawn t_leaked t_drunk t_times t_foundNumber t_keptAt t_isWriting t_at t_pailAt t_has t_holds z7 hz7 _) hw [0, 1, 2, 3, 4] (by decide) rfl (ci := 12) rfl rfl rfl rfl hl.1 rfl (Nat.le_of_ble_eq_true rfl) dX12_goPad_1 ⟨Nat.le_of_ble_eq_true rfl, Nat.le_of_ble_eq_true rfl⟩ ⟨Nat.le_of_ble_eq_true rfl, Nat.le_of_ble_eq_true rfl⟩) hw [0, 1, 2, 3, 4] [5, 6, 7, 8] rfl rfl (by decide) (by decide) (fun u8 H locs hw => ?_)
  replace hw : Wd dd g mv A s H locs (w_X12_goPad g q_t q_t_at q_t_pailAt q_t_has q_t_holds q_t_pad q_t_moved q_t_leaks q_t_wants o_t_words o_t_sightBehind o_t_sightDoor o_t_sightIs o_t_order o_t_best o_t_wins o_t_later o_t_signs o_t_kept o_t_isKept t_places t_deep t_served t_wordMany t_sights t_padMany z7.1 z7.2.1 z7.2.2.1 z7.2.2.2.1 z7.2.2.2.2.1 t_foundNumber t_keptAt t_isWriting z7.2.2.2.2.2.1 t_pailAt z7.2.2.2.2.2.2 t_holds t_pad t_moved t_leaks t_wants) := hw.sub [4, 5, 6, 7, 8, 0, 1, 2, 3] (by decide) rfl
  refine lv_iconst (v := 0) F.1 F.2.1 dX12_goPad_4 (by decide) ?_
  refine lv_istore_n (lv' := [(2, .int (0 : Int32)), (0, .ref q_t), (1, .int a1)]) F.1 F.2.1 dX12_goPad_5 rfl hl (by decide) rfl (fun ls hl => ?_)
  exact b_X12_goPad_6 F hret hlk  fuel hr hw (lv_sub hl [1, 2, 0] rfl)
set_option maxHeartbeats 4000000 in
set_option maxRecDepth 100000 in
theorem b_X12_pull_32 {q_t q_t_pad q_t_at q_t_pailAt q_t_has q_t_holds q_t_moved q_t_leaks q_t_wants : Nat} {z : Int32 × Int32 × Int32 × Int32 × Int32 × Int32 × Int32 × Int32 × (Nat → Int32) × (Nat → Int32) × (Nat → Int32) × (Nat → Int32) × (Nat → Int32)} (F : Fx p m c cX12_pull 3 s args RX12) (hret : meth.sig.returnType = some .int) (hlk : meth.locks = false) : ∀ (n : Nat), ∀ {x1 : Int32} {x2 : Int32} {t_places : Int32} {t_done : Int32} {t_drawn : Int32} {t_leaked : Int32} {t_drunk : Int32} {t_times : Int32} {t_at : Nat → Int32} {t_pailAt : Nat → Int32} {t_has : Nat → Int32} {t_holds : Nat → Int32} {t_moved : Nat → Int32} {t_deep : Int32} {t_served : Int32} {t_wordMany : Int32} {t_sights : Int32} {t_padMany : Int32} {t_foundNumber : Int32} {t_keptAt : Int32} {t_isWriting : Int32} {t_pad : Nat → Int32} {t_leaks : Nat → Int32} {t_wants : Nat → Int32} {o_t_words : Value} {o_t_sightBehind : Value} {o_t_sightDoor : Value} {o_t_sightIs : Value} {o_t_order : Value} {o_t_best : Value} {o_t_wins : Value} {o_t_later : Value} {o_t_signs : Value} {o_t_kept : Value} {o_t_isKept : Value} {H : Heap} {locs : List Loc} {ls : Array Slot}, f_X12_pull_32  n x1 x2 t_places t_done t_drawn t_leaked t_drunk t_times t_at t_pailAt t_has t_holds t_moved = some z → Wd dd g mv A s H locs (w_X12_pull g q_t q_t_pad q_t_at q_t_pailAt q_t_has q_t_holds q_t_moved q_t_leaks q_t_wants o_t_words o_t_sightBehind o_t_sightDoor o_t_sightIs o_t_order o_t_best o_t_wins o_t_later o_t_signs o_t_kept o_t_isKept t_places t_deep t_served t_wordMany t_sights t_padMany t_done t_drawn t_leaked t_drunk t_times t_foundNumber t_keptAt t_isWriting t_pad t_at t_pailAt t_has t_holds t_moved t_leaks t_wants) → lv_has ls 3 [(0, .ref q_t), (1, .int x1), (2, .int x2)] → W p l e (rmH (2) 0 0) s m args below meth c H locs 0 0 (MQ below (Qo dd g (some (.int z.1)) (fun u : Unit => (w_X12_pull g q_t q_t_pad q_t_at q_t_pailAt q_t_has q_t_holds q_t_moved q_t_leaks q_t_wants o_t_words o_t_sightBehind o_t_sightDoor o_t_sightIs o_t_order o_t_best o_t_wins o_t_later o_t_signs o_t_kept o_t_isKept t_places t_deep z.2.1 t_wordMany t_sights z.2.2.1 z.2.2.2.1 z.2.2.2.2.1 z.2.2.2.2.2.1 z.2.2.2.2.2.2.1 z.2.2.2.2.2.2.2.1 t_foundNumber t_keptAt t_isWriting t_pad z.2.2.2.2.2.2.2.2.1 z.2.2.2.2.2.2.2.2.2.1 z.2.2.2.2.2.2.2.2.2.2.1 z.2.2.2.2.2.2.2.2.2.2.2.1 z.2.2.2.2.2.2.2.2.2.2.2.2 t_leaks t_wants)) A) args s 0 0 A) (F0 m 32 ls []) := by
  intro n
  induction n with
  | zero =>
    intros
    rename_i hr _ _
    cases hr
  | succ n ih =>
    intro x1 x2 t_places t_done t_drawn t_leaked t_drunk t_times t_at t_pailAt t_has t_holds t_moved t_deep t_served t_wordMany t_sights t_padMany t_foundNumber t_keptAt t_isWriting t_pad t_leaks t_wants o_t_words o_t_sightBehind o_t_sightDoor o_t_sightIs o_t_order o_t_best o_t_wins o_t_later o_t_signs o_t_kept o_t_isKept H locs ls hr hw hl
    refine lv_iload_n F.1 F.2.1 dX12_pull_32 rfl (lv_at hl 2 rfl) ?_
    refine lv_aload_n F.1 F.2.1 dX12_pull_33 rfl (lv_at hl 0 rfl) ?_
    refine gf_X12_77 F hw 0 rfl rfl dX12_pull_34 ?_
    refine lv_icmp_ge (tgt := 70) F.1 F.2.1 dX12_pull_37 (by decide) (fun hc1 => ?_) (fun hc1 => ?_)
    · replace hr := (if_pos hc1).symm.trans hr
      refine lv_aload_n F.1 F.2.1 dX12_pull_70 rfl (lv_at hl 0 rfl) ?_
      refine lv_aload_n F.1 F.2.1 dX12_pull_71 rfl (lv_at hl 0 rfl) ?_
      refine gf_X12_105 F hw 0 rfl rfl dX12_pull_72 ?_
      refine pf_X12_80 F hw 0 rfl (Nat.le_of_ble_eq_true rfl) dX12_pull_75 (fun H locs hw => ?_)
      replace hw : Wd dd g mv A s H locs (w_X12_pull g q_t q_t_pad q_t_at q_t_pailAt q_t_has q_t_holds q_t_moved q_t_leaks q_t_wants o_t_words o_t_sightBehind o_t_sightDoor o_t_sightIs o_t_order o_t_best o_t_wins o_t_later o_t_signs o_t_kept o_t_isKept t_places t_deep t_done t_wordMany t_sights t_padMany t_done t_drawn t_leaked t_drunk t_times t_foundNumber t_keptAt t_isWriting t_pad t_at t_pailAt t_has t_holds t_moved t_leaks t_wants) := hw
      refine lv_aload_n F.1 F.2.1 dX12_pull_78 rfl (lv_at hl 0 rfl) ?_
      refine lv_iconst (v := 0) F.1 F.2.1 dX12_pull_79 (by decide) ?_
      refine pf_X12_102 F hw 0 rfl (Nat.le_of_ble_eq_true rfl) dX12_pull_80 (fun H locs hw => ?_)
      replace hw : Wd dd g mv A s H locs (w_X12_pull g q_t q_t_pad q_t_at q_t_pailAt q_t_has q_t_holds q_t_moved q_t_leaks q_t_wants o_t_words o_t_sightBehind o_t_sightDoor o_t_sightIs o_t_order o_t_best o_t_wins o_t_later o_t_signs o_t_kept o_t_isKept t_places t_deep t_done t_wordMany t_sights ((0 : Int32)) t_done t_drawn t_leaked t_drunk t_times t_foundNumber t_keptAt t_isWriting t_pad t_at t_pailAt t_has t_holds t_moved t_leaks t_wants) := hw
      refine lv_iload_n F.1 F.2.1 dX12_pull_83 rfl (lv_at hl 1 rfl) ?_
      cases hr
      exact ret_i () F hret hlk hw (Nat.le_refl _) (Nat.le_refl _) dX12_pull_84
    · replace hr := (if_neg hc1).symm.trans hr
      refine lv_aload_n F.1 F.2.1 dX12_pull_40 rfl (lv_at hl 0 rfl) ?_
      refine gf_X12_7 F hw 0 rfl rfl dX12_pull_41 ?_
      refine lv_iload_n F.1 F.2.1 dX12_pull_44 rfl (lv_at hl 2 rfl) ?_
      refine lv_aload_n F.1 F.2.1 dX12_pull_45 rfl (lv_at hl 0 rfl) ?_
      refine gf_X12_37 F hw 0 rfl rfl dX12_pull_46 ?_
      refine lv_iload_n F.1 F.2.1 dX12_pull_49 rfl (lv_at hl 2 rfl) ?_
      obtain ⟨hg2, hr⟩ := g_no hr
      refine ar_i F hw 2 rfl hg2 dX12_pull_50 ?_
      obtain ⟨hg3, hr⟩ := g_no hr
      refine aw_i F hw 3 rfl hg3 dX12_pull_51 (fun H locs hw => ?_)
      replace hw : Wd dd g mv A s H locs (w_X12_pull g q_t q_t_pad q_t_at q_t_pailAt q_t_has q_t_holds q_t_moved q_t_leaks q_t_wants o_t_words o_t_sightBehind o_t_sightDoor o_t_sightIs o_t_order o_t_best o_t_wins o_t_later o_t_signs o_t_kept o_t_isKept t_places t_deep t_served t_wordMany t_sights t_padMany t_done t_drawn t_leaked t_drunk t_times t_foundNumber t_keptAt t_isWriting t_pad t_at ((upd t_pailAt (x2).toNatClampNeg ((t_at (x2).toNatClampNeg)))) t_has t_holds t_moved t_leaks t_wants) := hw
      refine lv_aload_n F.1 F.2.1 dX12_pull_52 rfl (lv_at hl 0 rfl) ?_
      refine gf_X12_13 F hw 0 rfl rfl dX12_pull_53 ?_
      refine lv_iload_n F.1 F.2.1 dX12_pull_56 rfl (lv_at hl 2 rfl) ?_
      refine lv_aload_n F.1 F.2.1 dX12_pull_57 rfl (lv_at hl 0 rfl) ?_
      refine gf_X12_43 F hw 0 rfl rfl dX12_pull_58 ?_
      refine lv_iload_n F.1 F.2.1 dX12_pull_61 rfl (lv_at hl 2 rfl) ?_
      obtain ⟨hg4, hr⟩ := g_no hr
      refine ar_i F hw 4 rfl hg4 dX12_pull_62 ?_
      obtain ⟨hg5, hr⟩ := g_no hr
      refine aw_i F hw 5 rfl hg5 dX12_pull_63 (fun H locs hw => ?_)
      replace hw : Wd dd g mv A s H locs (w_X12_pull g q_t q_t_pad q_t_at q_t_pailAt q_t_has q_t_holds q_t_moved q_t_leaks q_t_wants o_t_words o_t_sightBehind o_t_sightDoor o_t_sightIs o_t_order o_t_best o_t_wins o_t_later o_t_signs o_t_kept o_t_isKept t_places t_deep t_served t_wordMany t_sights t_padMany t_done t_drawn t_leaked t_drunk t_times t_foundNumber t_keptAt t_isWriting t_pad t_at ((upd t_pailAt (x2).toNatClampNeg ((t_at (x2).toNatClampNeg)))) t_has ((upd t_holds (x2).toNatClampNeg ((t_has (x2).toNatClampNeg)))) t_moved t_leaks t_wants) := hw
      refine lv_iinc (v := (x2 + 1)) (lv' := [(2, .int (x2 + 1)), (0, .ref q_t), (1, .int x1)]) F.1 F.2.1 dX12_pull_64 hl (k := 2) rfl rfl (by decide) rfl (fun ls hl => ?_)
      refine lv_goto (tgt := 32) F.1 F.2.1 dX12_pull_67 (by decide) ?_
      exact ih hr hw (lv_sub hl [1, 2, 0] rfl)
set_option maxHeartbeats 4000000 in
set_option maxRecDepth 100000 in
theorem c_X12_pull (l : Launch) (dd : va_G) (g : Nat → ClassId) (mv : Nat) (q_t : Nat) (q_t_pad : Nat) (q_t_at : Nat) (q_t_pailAt : Nat) (q_t_has : Nat) (q_t_holds : Nat) (q_t_moved : Nat) (q_t_leaks : Nat) (q_t_wants : Nat) (o_t_words : Value) (o_t_sightBehind : Value) (o_t_sightDoor : Value) (o_t_sightIs : Value) (o_t_order : Value) (o_t_best : Value) (o_t_wins : Value) (o_t_later : Value) (o_t_signs : Value) (o_t_kept : Value) (o_t_isKept : Value) (t_places : Int32) (t_deep : Int32) (t_served : Int32) (t_wordMany : Int32) (t_sights : Int32) (t_padMany : Int32) (t_done : Int32) (t_drawn : Int32) (t_leaked : Int32) (t_drunk : Int32) (t_times : Int32) (t_foundNumber : Int32) (t_keptAt : Int32) (t_isWriting : Int32) (t_pad : Nat → Int32) (t_at : Nat → Int32) (t_pailAt : Nat → Int32) (t_has : Nat → Int32) (t_holds : Nat → Int32) (t_moved : Nat → Int32) (t_leaks : Nat → Int32) (t_wants : Nat → Int32) (z : Int32 × Int32 × Int32 × Int32 × Int32 × Int32 × Int32 × Int32 × (Nat → Int32) × (Nat → Int32) × (Nat → Int32) × (Nat → Int32) × (Nat → Int32)) (hr : f_X12_pull t_places t_deep t_served t_padMany t_done t_drawn t_leaked t_drunk t_times t_pad t_at t_pailAt t_has t_holds t_moved t_leaks t_wants = some z) (sz : Nat) : Met l yX12_pull (.code yX12_pull cX12_pull 3 (some .int) :: WS) (rmH 2 0 0) (va_Pc [.ref q_t] (PW dd g mv (w_X12_pull g q_t q_t_pad q_t_at q_t_pailAt q_t_has q_t_holds q_t_moved q_t_leaks q_t_wants o_t_words o_t_sightBehind o_t_sightDoor o_t_sightIs o_t_order o_t_best o_t_wins o_t_later o_t_signs o_t_kept o_t_isKept t_places t_deep t_served t_wordMany t_sights t_padMany t_done t_drawn t_leaked t_drunk t_times t_foundNumber t_keptAt t_isWriting t_pad t_at t_pailAt t_has t_holds t_moved t_leaks t_wants) sz)) (Qo dd g (some (.int z.1)) (fun u : Unit => (w_X12_pull g q_t q_t_pad q_t_at q_t_pailAt q_t_has q_t_holds q_t_moved q_t_leaks q_t_wants o_t_words o_t_sightBehind o_t_sightDoor o_t_sightIs o_t_order o_t_best o_t_wins o_t_later o_t_signs o_t_kept o_t_isKept t_places t_deep z.2.1 t_wordMany t_sights z.2.2.1 z.2.2.2.1 z.2.2.2.2.1 z.2.2.2.2.2.1 z.2.2.2.2.2.2.1 z.2.2.2.2.2.2.2.1 t_foundNumber t_keptAt t_isWriting t_pad z.2.2.2.2.2.2.2.2.1 z.2.2.2.2.2.2.2.2.2.1 z.2.2.2.2.2.2.2.2.2.2.1 z.2.2.2.2.2.2.2.2.2.2.2.1 z.2.2.2.2.2.2.2.2.2.2.2.2 t_leaks t_wants)) (va_A (w_X12_pull g q_t q_t_pad q_t_at q_t_pailAt q_t_has q_t_holds q_t_moved q_t_leaks q_t_wants o_t_words o_t_sightBehind o_t_sightDoor o_t_sightIs o_t_order o_t_best o_t_wins o_t_later o_t_signs o_t_kept o_t_isKept t_places t_deep t_served t_wordMany t_sights t_padMany t_done t_drawn t_leaked t_drunk t_times t_foundNumber t_keptAt t_isWriting t_pad t_at t_pailAt t_has t_holds t_moved t_leaks t_wants) sz)) 0 0 (va_A (w_X12_pull g q_t q_t_pad q_t_at q_t_pailAt q_t_has q_t_holds q_t_moved q_t_leaks q_t_wants o_t_words o_t_sightBehind o_t_sightDoor o_t_sightIs o_t_order o_t_best o_t_wins o_t_later o_t_signs o_t_kept o_t_isKept t_places t_deep t_served t_wordMany t_sights t_padMany t_done t_drawn t_leaked t_drunk t_times t_foundNumber t_keptAt t_isWriting t_pad t_at t_pailAt t_has t_holds t_moved t_leaks t_wants) sz) := by
  refine Met_intro (by decide) (Nat.le_of_ble_eq_true rfl) ?_
  intro p e s m below meth c A ls F hret hlk hin hw hl
  replace hl : lv_has ls 3 [(0, .ref q_t)] := hl
  refine lv_aload_n F.1 F.2.1 dX12_pull_0 rfl (lv_at hl 0 rfl) ?_
  obtain ⟨z6, hz6, hr⟩ := Option.bind_eq_some_iff.mp hr
  refine call_o (wr := [(q_t_at, .inl (g 0, 9, .inl t_at)), (q_t_pailAt, .inl (g 0, 9, .inl t_pailAt)), (q_t_has, .inl (g 0, 9, .inl t_has)), (q_t_holds, .inl (g 0, 9, .inl t_holds)), (q_t_moved, .inl (g 0, 9, .inl t_moved)), (q_t_leaks, .inl (g 0, 9, .inl t_leaks)), (q_t_wants, .inl (g 0, 9, .inl t_wants))]) (run_V (As := []) (rest := []) F k_X12_130 (c_X12_fault l dd g mv q_t q_t_pad ((.ref q_t_pailAt)) ((.ref q_t_holds)) ((.ref q_t_leaks)) ((.ref q_t_wants)) o_t_words o_t_sightBehind o_t_sightDoor o_t_sightIs ((.ref q_t_at)) ((.ref q_t_moved)) ((.ref q_t_has)) o_t_order o_t_best o_t_wins o_t_later o_t_signs o_t_kept o_t_isKept t_places t_deep t_served t_wordMany t_sights t_padMany t_done t_drawn t_leaked t_drunk t_times t_foundNumber t_keptAt t_isWriting t_pad z6 hz6 _) hw [0, 1] (by decide) rfl (ci := 12) rfl rfl rfl rfl hl.1 rfl (Nat.le_of_ble_eq_true rfl) dX12_pull_1 ⟨Nat.le_of_ble_eq_true rfl, Nat.le_of_ble_eq_true rfl⟩ ⟨Nat.le_of_ble_eq_true rfl, Nat.le_of_ble_eq_true rfl⟩) hw [0, 1] [2, 3, 4, 5, 6, 7, 8] rfl rfl (by decide) (by decide) (fun u7 H locs hw => ?_)
  replace hw : Wd dd g mv A s H locs (w_X12_pull g q_t q_t_pad q_t_at q_t_pailAt q_t_has q_t_holds q_t_moved q_t_leaks q_t_wants o_t_words o_t_sightBehind o_t_sightDoor o_t_sightIs o_t_order o_t_best o_t_wins o_t_later o_t_signs o_t_kept o_t_isKept t_places t_deep t_served t_wordMany t_sights t_padMany t_done t_drawn t_leaked t_drunk t_times t_foundNumber t_keptAt t_isWriting t_pad t_at t_pailAt t_has t_holds t_moved t_leaks t_wants) := hw.sub [7, 8, 0, 1, 2, 3, 4, 5, 6] (by decide) rfl
  refine W.eq (g2 := F0 m 4 ls (.int z6 :: [])) rfl ?_
  refine lv_if_lt (tgt := 10) F.1 F.2.1 dX12_pull_4 (by decide) (fun hc8 => ?_) (fun hc8 => ?_)
  · replace hr := (if_pos hc8).symm.trans hr
    refine lv_aload_n F.1 F.2.1 dX12_pull_10 rfl (lv_at hl 0 rfl) ?_
    refine lv_aload_n F.1 F.2.1 dX12_pull_11 rfl (lv_at hl 0 rfl) ?_
    refine gf_X12_102 F hw 0 rfl rfl dX12_pull_12 ?_
    obtain ⟨z9, hz9, hr⟩ := Option.bind_eq_some_iff.mp hr
    refine call_o (wr := []) (run_V (As := [.int t_padMany]) (rest := []) F k_X12_134 (c_X12_goPad l dd g mv q_t q_t_at q_t_pailAt q_t_has q_t_holds q_t_pad q_t_moved q_t_leaks q_t_wants o_t_words o_t_sightBehind o_t_sightDoor o_t_sightIs o_t_order o_t_best o_t_wins o_t_later o_t_signs o_t_kept o_t_isKept t_places t_deep t_served t_wordMany t_sights t_padMany t_done t_drawn t_leaked t_drunk t_times t_foundNumber t_keptAt t_isWriting t_at t_pailAt t_has t_holds t_pad t_moved t_leaks t_wants t_padMany z9 hz9 _) hw [0, 2, 3, 4, 5, 1, 6, 7, 8] (by decide) rfl (ci := 12) rfl rfl rfl rfl hl.1 rfl (Nat.le_of_ble_eq_true rfl) dX12_pull_15 ⟨Nat.le_of_ble_eq_true rfl, Nat.le_of_ble_eq_true rfl⟩ ⟨Nat.le_of_ble_eq_true rfl, Nat.le_of_ble_eq_true rfl⟩) hw [0, 2, 3, 4, 5, 1, 6, 7, 8] [] rfl rfl (by decide) (by decide) (fun u10 H locs hw => ?_)
    replace hw : Wd dd g mv A s H locs (w_X12_pull g q_t q_t_pad q_t_at q_t_pailAt q_t_has q_t_holds q_t_moved q_t_leaks q_t_wants o_t_words o_t_sightBehind o_t_sightDoor o_t_sightIs o_t_order o_t_best o_t_wins o_t_later o_t_signs o_t_kept o_t_isKept t_places t_deep t_served t_wordMany t_sights t_padMany z9.1 z9.2.1 z9.2.2.1 z9.2.2.2.1 z9.2.2.2.2.1 t_foundNumber t_keptAt t_isWriting t_pad z9.2.2.2.2.2.1 t_pailAt z9.2.2.2.2.2.2.1 t_holds z9.2.2.2.2.2.2.2 t_leaks t_wants) := hw.sub [0, 5, 1, 2, 3, 4, 6, 7, 8] (by decide) rfl
    refine lv_aload_n F.1 F.2.1 dX12_pull_18 rfl (lv_at hl 0 rfl) ?_
    refine gf_X12_105 F hw 0 rfl rfl dX12_pull_19 ?_
    refine lv_aload_n F.1 F.2.1 dX12_pull_22 rfl (lv_at hl 0 rfl) ?_
    refine gf_X12_80 F hw 0 rfl rfl dX12_pull_23 ?_
    refine lv_iconst (v := -1) F.1 F.2.1 dX12_pull_26 (by decide) ?_
    refine lv_ixor F.1 F.2.1 dX12_pull_27 ?_
    refine lv_iand F.1 F.2.1 dX12_pull_28 ?_
    refine lv_istore_n (lv' := [(1, .int (z9.1 &&& (t_served ^^^ (-1 : Int32)))), (0, .ref q_t)]) F.1 F.2.1 dX12_pull_29 rfl hl (by decide) rfl (fun ls hl => ?_)
    refine lv_iconst (v := 0) F.1 F.2.1 dX12_pull_30 (by decide) ?_
    refine lv_istore_n (lv' := [(2, .int (0 : Int32)), (1, .int (z9.1 &&& (t_served ^^^ (-1 : Int32)))), (0, .ref q_t)]) F.1 F.2.1 dX12_pull_31 rfl hl (by decide) rfl (fun ls hl => ?_)
    exact b_X12_pull_32 F hret hlk  fuel hr hw (lv_sub hl [2, 1, 0] rfl)
  · replace hr := (if_neg hc8).symm.trans hr
    refine lv_bipush (v := -5) F.1 F.2.1 dX12_pull_7 (by decide) ?_
    cases hr
    exact ret_i () F hret hlk hw (Nat.le_refl _) (Nat.le_refl _) dX12_pull_9
set_option maxHeartbeats 4000000 in
set_option maxRecDepth 100000 in
theorem b_X12_placeOf_21 {q_t q_t_pailAt q_t_at : Nat} {z : Int32} (F : Fx p m c cX12_placeOf 4 s args RX12) (hret : meth.sig.returnType = some .int) (hlk : meth.locks = false) {k2 : Int32 → Int32 → Int32 → (Nat → Int32) → (Nat → Int32) → Option (Int32)} (hk2 : ∀ {x1 : Int32} {x2 : Int32} {x3 : Int32} {t_pailAt : Nat → Int32} {t_at : Nat → Int32} {t_places : Int32} {t_deep : Int32} {t_served : Int32} {t_wordMany : Int32} {t_sights : Int32} {t_padMany : Int32} {t_done : Int32} {t_drawn : Int32} {t_leaked : Int32} {t_drunk : Int32} {t_times : Int32} {t_foundNumber : Int32} {t_keptAt : Int32} {t_isWriting : Int32} {o_t_holds : Value} {o_t_leaks : Value} {o_t_wants : Value} {o_t_words : Value} {o_t_sightBehind : Value} {o_t_sightDoor : Value} {o_t_sightIs : Value} {o_t_pad : Value} {o_t_moved : Value} {o_t_has : Value} {o_t_order : Value} {o_t_best : Value} {o_t_wins : Value} {o_t_later : Value} {o_t_signs : Value} {o_t_kept : Value} {o_t_isKept : Value} {H : Heap} {locs : List Loc} {ls : Array Slot}, k2 x1 x2 x3 t_pailAt t_at = some z → Wd dd g mv A s H locs (w_X12_placeOf g q_t q_t_pailAt q_t_at o_t_holds o_t_leaks o_t_wants o_t_words o_t_sightBehind o_t_sightDoor o_t_sightIs o_t_pad o_t_moved o_t_has o_t_order o_t_best o_t_wins o_t_later o_t_signs o_t_kept o_t_isKept t_places t_deep t_served t_wordMany t_sights t_padMany t_done t_drawn t_leaked t_drunk t_times t_foundNumber t_keptAt t_isWriting t_pailAt t_at) → lv_has ls 4 [(0, .ref q_t), (1, .int x1), (2, .int x2), (3, .int x3)] → W p l e (rmH (0) 0 0) s m args below meth c H locs 0 0 (MQ below (Qo dd g (some (.int z)) (fun u : Unit => (w_X12_placeOf g q_t q_t_pailAt q_t_at o_t_holds o_t_leaks o_t_wants o_t_words o_t_sightBehind o_t_sightDoor o_t_sightIs o_t_pad o_t_moved o_t_has o_t_order o_t_best o_t_wins o_t_later o_t_signs o_t_kept o_t_isKept t_places t_deep t_served t_wordMany t_sights t_padMany t_done t_drawn t_leaked t_drunk t_times t_foundNumber t_keptAt t_isWriting t_pailAt t_at)) A) args s 0 0 A) (F0 m 2 ls [])) : ∀ {x1 : Int32} {x2 : Int32} {x3 : Int32} {y0 : Int32} {t_pailAt : Nat → Int32} {t_at : Nat → Int32} {t_places : Int32} {t_deep : Int32} {t_served : Int32} {t_wordMany : Int32} {t_sights : Int32} {t_padMany : Int32} {t_done : Int32} {t_drawn : Int32} {t_leaked : Int32} {t_drunk : Int32} {t_times : Int32} {t_foundNumber : Int32} {t_keptAt : Int32} {t_isWriting : Int32} {o_t_holds : Value} {o_t_leaks : Value} {o_t_wants : Value} {o_t_words : Value} {o_t_sightBehind : Value} {o_t_sightDoor : Value} {o_t_sightIs : Value} {o_t_pad : Value} {o_t_moved : Value} {o_t_has : Value} {o_t_order : Value} {o_t_best : Value} {o_t_wins : Value} {o_t_later : Value} {o_t_signs : Value} {o_t_kept : Value} {o_t_isKept : Value} {H : Heap} {locs : List Loc} {ls : Array Slot}, f_X12_placeOf_21 k2 x1 x2 x3 y0 t_pailAt t_at = some z → Wd dd g mv A s H locs (w_X12_placeOf g q_t q_t_pailAt q_t_at o_t_holds o_t_leaks o_t_wants o_t_words o_t_sightBehind o_t_sightDoor o_t_sightIs o_t_pad o_t_moved o_t_has o_t_order o_t_best o_t_wins o_t_later o_t_signs o_t_kept o_t_isKept t_places t_deep t_served t_wordMany t_sights t_padMany t_done t_drawn t_leaked t_drunk t_times t_foundNumber t_keptAt t_isWriting t_pailAt t_at) → lv_has ls 4 [(0, .ref q_t), (1, .int x1), (2, .int x2), (3, .int x3)] → W p l e (rmH (0) 0 0) s m args below meth c H locs 0 0 (MQ below (Qo dd g (some (.int z)) (fun u : Unit => (w_X12_placeOf g q_t q_t_pailAt q_t_at o_t_holds o_t_leaks o_t_wants o_t_words o_t_sightBehind o_t_sightDoor o_t_sightIs o_t_pad o_t_moved o_t_has o_t_order o_t_best o_t_wins o_t_later o_t_signs o_t_kept o_t_isKept t_places t_deep t_served t_wordMany t_sights t_padMany t_done t_drawn t_leaked t_drunk t_times t_foundNumber t_keptAt t_isWriting t_pailAt t_at)) A) args s 0 0 A) (F0 m 21 ls [.int y0]) := by
  intro x1 x2 x3 y0 t_pailAt t_at t_places t_deep t_served t_wordMany t_sights t_padMany t_done t_drawn t_leaked t_drunk t_times t_foundNumber t_keptAt t_isWriting o_t_holds o_t_leaks o_t_wants o_t_words o_t_sightBehind o_t_sightDoor o_t_sightIs o_t_pad o_t_moved o_t_has o_t_order o_t_best o_t_wins o_t_later o_t_signs o_t_kept o_t_isKept H locs ls hr hw hl
  refine lv_iload_n F.1 F.2.1 dX12_placeOf_21 rfl (lv_at hl 1 rfl) ?_
  refine lv_icmp_eq (tgt := 31) F.1 F.2.1 dX12_placeOf_22 (by decide) (fun hc1 => ?_) (fun hc1 => ?_)
  · replace hr := (if_pos hc1).symm.trans hr
    refine lv_iload_n F.1 F.2.1 dX12_placeOf_31 rfl (lv_at hl 3 rfl) ?_
    cases hr
    exact ret_i () F hret hlk hw (Nat.le_refl _) (Nat.le_refl _) dX12_placeOf_32
  · replace hr := (if_neg hc1).symm.trans hr
    refine lv_iinc (v := (x3 + 1)) (lv' := [(3, .int (x3 + 1)), (0, .ref q_t), (1, .int x1), (2, .int x2)]) F.1 F.2.1 dX12_placeOf_25 hl (k := 3) rfl rfl (by decide) rfl (fun ls hl => ?_)
    refine lv_goto (tgt := 2) F.1 F.2.1 dX12_placeOf_28 (by decide) ?_
    exact hk2 hr hw (lv_sub hl [1, 2, 3, 0] rfl)
set_option maxHeartbeats 4000000 in
set_option maxRecDepth 100000 in
theorem b_X12_placeOf_2 {q_t q_t_pailAt q_t_at : Nat} {z : Int32} (F : Fx p m c cX12_placeOf 4 s args RX12) (hret : meth.sig.returnType = some .int) (hlk : meth.locks = false) : ∀ (n : Nat), ∀ {x1 : Int32} {x2 : Int32} {x3 : Int32} {t_pailAt : Nat → Int32} {t_at : Nat → Int32} {t_places : Int32} {t_deep : Int32} {t_served : Int32} {t_wordMany : Int32} {t_sights : Int32} {t_padMany : Int32} {t_done : Int32} {t_drawn : Int32} {t_leaked : Int32} {t_drunk : Int32} {t_times : Int32} {t_foundNumber : Int32} {t_keptAt : Int32} {t_isWriting : Int32} {o_t_holds : Value} {o_t_leaks : Value} {o_t_wants : Value} {o_t_words : Value} {o_t_sightBehind : Value} {o_t_sightDoor : Value} {o_t_sightIs : Value} {o_t_pad : Value} {o_t_moved : Value} {o_t_has : Value} {o_t_order : Value} {o_t_best : Value} {o_t_wins : Value} {o_t_later : Value} {o_t_signs : Value} {o_t_kept : Value} {o_t_isKept : Value} {H : Heap} {locs : List Loc} {ls : Array Slot}, f_X12_placeOf_2  n x1 x2 x3 t_pailAt t_at = some z → Wd dd g mv A s H locs (w_X12_placeOf g q_t q_t_pailAt q_t_at o_t_holds o_t_leaks o_t_wants o_t_words o_t_sightBehind o_t_sightDoor o_t_sightIs o_t_pad o_t_moved o_t_has o_t_order o_t_best o_t_wins o_t_later o_t_signs o_t_kept o_t_isKept t_places t_deep t_served t_wordMany t_sights t_padMany t_done t_drawn t_leaked t_drunk t_times t_foundNumber t_keptAt t_isWriting t_pailAt t_at) → lv_has ls 4 [(0, .ref q_t), (1, .int x1), (2, .int x2), (3, .int x3)] → W p l e (rmH (0) 0 0) s m args below meth c H locs 0 0 (MQ below (Qo dd g (some (.int z)) (fun u : Unit => (w_X12_placeOf g q_t q_t_pailAt q_t_at o_t_holds o_t_leaks o_t_wants o_t_words o_t_sightBehind o_t_sightDoor o_t_sightIs o_t_pad o_t_moved o_t_has o_t_order o_t_best o_t_wins o_t_later o_t_signs o_t_kept o_t_isKept t_places t_deep t_served t_wordMany t_sights t_padMany t_done t_drawn t_leaked t_drunk t_times t_foundNumber t_keptAt t_isWriting t_pailAt t_at)) A) args s 0 0 A) (F0 m 2 ls []) := by
  intro n
  induction n with
  | zero =>
    intros
    rename_i hr _ _
    cases hr
  | succ n ih =>
    intro x1 x2 x3 t_pailAt t_at t_places t_deep t_served t_wordMany t_sights t_padMany t_done t_drawn t_leaked t_drunk t_times t_foundNumber t_keptAt t_isWriting o_t_holds o_t_leaks o_t_wants o_t_words o_t_sightBehind o_t_sightDoor o_t_sightIs o_t_pad o_t_moved o_t_has o_t_order o_t_best o_t_wins o_t_later o_t_signs o_t_kept o_t_isKept H locs ls hr hw hl
    refine lv_iload_n F.1 F.2.1 dX12_placeOf_2 rfl (lv_at hl 2 rfl) ?_
    refine lv_if_eq (tgt := 15) F.1 F.2.1 dX12_placeOf_3 (by decide) (fun hc2 => ?_) (fun hc2 => ?_)
    · replace hr := (if_pos hc2).symm.trans hr
      refine lv_aload_n F.1 F.2.1 dX12_placeOf_15 rfl (lv_at hl 0 rfl) ?_
      refine gf_X12_37 F hw 0 rfl rfl dX12_placeOf_16 ?_
      refine lv_iload_n F.1 F.2.1 dX12_placeOf_19 rfl (lv_at hl 3 rfl) ?_
      obtain ⟨hg3, hr⟩ := g_no hr
      refine ar_i F hw 2 rfl hg3 dX12_placeOf_20 ?_
      exact b_X12_placeOf_21 F hret hlk (ih) hr hw (lv_sub hl [0, 1, 2, 3] rfl)
    · replace hr := (if_neg hc2).symm.trans hr
      refine lv_aload_n F.1 F.2.1 dX12_placeOf_6 rfl (lv_at hl 0 rfl) ?_
      refine gf_X12_7 F hw 0 rfl rfl dX12_placeOf_7 ?_
      refine lv_iload_n F.1 F.2.1 dX12_placeOf_10 rfl (lv_at hl 3 rfl) ?_
      obtain ⟨hg4, hr⟩ := g_no hr
      refine ar_i F hw 1 rfl hg4 dX12_placeOf_11 ?_
      refine lv_goto (tgt := 21) F.1 F.2.1 dX12_placeOf_12 (by decide) ?_
      exact b_X12_placeOf_21 F hret hlk (ih) hr hw (lv_sub hl [0, 1, 2, 3] rfl)
set_option maxHeartbeats 4000000 in
set_option maxRecDepth 100000 in
theorem c_X12_placeOf (l : Launch) (dd : va_G) (g : Nat → ClassId) (mv : Nat) (q_t : Nat) (q_t_pailAt : Nat) (q_t_at : Nat) (o_t_holds : Value) (o_t_leaks : Value) (o_t_wants : Value) (o_t_words : Value) (o_t_sightBehind : Value) (o_t_sightDoor : Value) (o_t_sightIs : Value) (o_t_pad : Value) (o_t_moved : Value) (o_t_has : Value) (o_t_order : Value) (o_t_best : Value) (o_t_wins : Value) (o_t_later : Value) (o_t_signs : Value) (o_t_kept : Value) (o_t_isKept : Value) (t_places : Int32) (t_deep : Int32) (t_served : Int32) (t_wordMany : Int32) (t_sights : Int32) (t_padMany : Int32) (t_done : Int32) (t_drawn : Int32) (t_leaked : Int32) (t_drunk : Int32) (t_times : Int32) (t_foundNumber : Int32) (t_keptAt : Int32) (t_isWriting : Int32) (t_pailAt : Nat → Int32) (t_at : Nat → Int32) (a1 : Int32) (a2 : Int32) (z : Int32) (hr : f_X12_placeOf t_pailAt t_at a1 a2 = some z) (sz : Nat) : Met l yX12_placeOf (.code yX12_placeOf cX12_placeOf 4 (some .int) :: WS) (rmH 0 0 0) (va_Pc [.ref q_t, .int a1, .int a2] (PW dd g mv (w_X12_placeOf g q_t q_t_pailAt q_t_at o_t_holds o_t_leaks o_t_wants o_t_words o_t_sightBehind o_t_sightDoor o_t_sightIs o_t_pad o_t_moved o_t_has o_t_order o_t_best o_t_wins o_t_later o_t_signs o_t_kept o_t_isKept t_places t_deep t_served t_wordMany t_sights t_padMany t_done t_drawn t_leaked t_drunk t_times t_foundNumber t_keptAt t_isWriting t_pailAt t_at) sz)) (Qo dd g (some (.int z)) (fun u : Unit => (w_X12_placeOf g q_t q_t_pailAt q_t_at o_t_holds o_t_leaks o_t_wants o_t_words o_t_sightBehind o_t_sightDoor o_t_sightIs o_t_pad o_t_moved o_t_has o_t_order o_t_best o_t_wins o_t_later o_t_signs o_t_kept o_t_isKept t_places t_deep t_served t_wordMany t_sights t_padMany t_done t_drawn t_leaked t_drunk t_times t_foundNumber t_keptAt t_isWriting t_pailAt t_at)) (va_A (w_X12_placeOf g q_t q_t_pailAt q_t_at o_t_holds o_t_leaks o_t_wants o_t_words o_t_sightBehind o_t_sightDoor o_t_sightIs o_t_pad o_t_moved o_t_has o_t_order o_t_best o_t_wins o_t_later o_t_signs o_t_kept o_t_isKept t_places t_deep t_served t_wordMany t_sights t_padMany t_done t_drawn t_leaked t_drunk t_times t_foundNumber t_keptAt t_isWriting t_pailAt t_at) sz)) 0 0 (va_A (w_X12_placeOf g q_t q_t_pailAt q_t_at o_t_holds o_t_leaks o_t_wants o_t_words o_t_sightBehind o_t_sightDoor o_t_sightIs o_t_pad o_t_moved o_t_has o_t_order o_t_best o_t_wins o_t_later o_t_signs o_t_kept o_t_isKept t_places t_deep t_served t_wordMany t_sights t_padMany t_done t_drawn t_leaked t_drunk t_times t_foundNumber t_keptAt t_isWriting t_pailAt t_at) sz) := by
  refine Met_intro (by decide) (Nat.le_of_ble_eq_true rfl) ?_
  intro p e s m below meth c A ls F hret hlk hin hw hl
  replace hl : lv_has ls 4 [(0, .ref q_t), (1, .int a1), (2, .int a2)] := hl
  refine lv_iconst (v := 0) F.1 F.2.1 dX12_placeOf_0 (by decide) ?_
  refine lv_istore_n (lv' := [(3, .int (0 : Int32)), (0, .ref q_t), (1, .int a1), (2, .int a2)]) F.1 F.2.1 dX12_placeOf_1 rfl hl (by decide) rfl (fun ls hl => ?_)
  exact b_X12_placeOf_2 F hret hlk  fuel hr hw (lv_sub hl [1, 2, 3, 0] rfl)
end WALK
