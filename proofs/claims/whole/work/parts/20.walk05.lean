section WALK
variable {p : Program} {l : Launch} {e : Env} {s : State} {m : MethodId} {args : Array Value} {below : List Frame} {meth : Method} {c : Code} {dd : va_G} {g : Nat → ClassId} {mv : Nat} {A : Nat → Prop}
set_option maxHeartbeats 4000000 in
set_option maxRecDepth 100000 in
theorem b_X9_commonDivisor_9 {z : Int64} (F : Fx p m c cX9_commonDivisor 11 s args RX9) (hret : meth.sig.returnType = some .long) (hlk : meth.locks = false) : ∀ (n : Nat), ∀ {x4 : Int64} {x6 : Int64} {x8 : Int32} {H : Heap} {locs : List Loc} {ls : Array Slot}, f_X9_commonDivisor_9  n x4 x6 x8 = some z → Wd dd g mv A s H locs (w_X9_commonDivisor g ) → lv_has ls 11 [(4, .long x4), (6, .long x6), (8, .int x8)] → W p l e (rmH (0) 0 0) s m args below meth c H locs 0 0 (MQ below (Qo dd g (some (.long z)) (fun u : Unit => (w_X9_commonDivisor g )) A) args s 0 0 A) (F0 m 9 ls []) := by
  intro n
  induction n with
  | zero =>
    intros
    rename_i hr _ _
    cases hr
  | succ n ih =>
    intro x4 x6 x8 H locs ls hr hw hl
    refine lv_iload F.1 F.2.1 dX9_commonDivisor_9 (lv_at hl 2 rfl) ?_
    refine lv_sipush (v := 200) F.1 F.2.1 dX9_commonDivisor_11 (by decide) ?_
    refine lv_icmp_ge (tgt := 45) F.1 F.2.1 dX9_commonDivisor_14 (by decide) (fun hc1 => ?_) (fun hc1 => ?_)
    · replace hr := (if_pos hc1).symm.trans hr
      refine lv_lload F.1 F.2.1 dX9_commonDivisor_45 (lv_at hl 0 rfl) ?_
      cases hr
      exact ret_l () F hret hlk hw (Nat.le_refl _) (Nat.le_refl _) dX9_commonDivisor_47
    · replace hr := (if_neg hc1).symm.trans hr
      refine lv_lload F.1 F.2.1 dX9_commonDivisor_17 (lv_at hl 1 rfl) ?_
      refine lv_lconst (v := 0) F.1 F.2.1 dX9_commonDivisor_19 (by decide) ?_
      refine W.lcmp F.1 F.2.1 dX9_commonDivisor_20 ?_
      refine lv_if_eq (tgt := 45) F.1 F.2.1 dX9_commonDivisor_21 (by decide) (fun hc2 => ?_) (fun hc2 => ?_)
      · replace hr := (if_pos hc2).symm.trans hr
        refine lv_lload F.1 F.2.1 dX9_commonDivisor_45 (lv_at hl 0 rfl) ?_
        cases hr
        exact ret_l () F hret hlk hw (Nat.le_refl _) (Nat.le_refl _) dX9_commonDivisor_47
      · replace hr := (if_neg hc2).symm.trans hr
        refine lv_lload F.1 F.2.1 dX9_commonDivisor_24 (lv_at hl 0 rfl) ?_
        refine lv_lload F.1 F.2.1 dX9_commonDivisor_26 (lv_at hl 1 rfl) ?_
        obtain ⟨hg3, hr⟩ := g_no hr
        refine lv_lrem F.1 F.2.1 dX9_commonDivisor_28 hg3 ?_
        refine lv_lstore (lv' := [(9, .long (x4 - x4 / x6 * x6)), (4, .long x4), (6, .long x6), (8, .int x8)]) F.1 F.2.1 dX9_commonDivisor_29 hl (by decide) rfl (fun ls hl => ?_)
        refine lv_lload F.1 F.2.1 dX9_commonDivisor_31 (lv_at hl 2 rfl) ?_
        refine lv_lstore (lv' := [(4, .long x6), (9, .long (x4 - x4 / x6 * x6)), (6, .long x6), (8, .int x8)]) F.1 F.2.1 dX9_commonDivisor_33 hl (by decide) rfl (fun ls hl => ?_)
        refine lv_lload F.1 F.2.1 dX9_commonDivisor_35 (lv_at hl 1 rfl) ?_
        refine lv_lstore (lv' := [(6, .long (x4 - x4 / x6 * x6)), (4, .long x6), (9, .long (x4 - x4 / x6 * x6)), (8, .int x8)]) F.1 F.2.1 dX9_commonDivisor_37 hl (by decide) rfl (fun ls hl => ?_)
        refine lv_iinc (v := (x8 + 1)) (lv' := [(8, .int (x8 + 1)), (6, .long (x4 - x4 / x6 * x6)), (4, .long x6), (9, .long (x4 - x4 / x6 * x6))]) F.1 F.2.1 dX9_commonDivisor_39 hl (k := 3) rfl rfl (by decide) rfl (fun ls hl => ?_)
        refine lv_goto (tgt := 9) F.1 F.2.1 dX9_commonDivisor_42 (by decide) ?_
        exact ih hr hw (lv_sub hl [2, 1, 0] rfl)
set_option maxHeartbeats 4000000 in
set_option maxRecDepth 100000 in
theorem c_X9_commonDivisor (l : Launch) (dd : va_G) (g : Nat → ClassId) (mv : Nat) (a1 : Int64) (a2 : Int64) (z : Int64) (hr : f_X9_commonDivisor a1 a2 = some z) (sz : Nat) : Met l yX9_commonDivisor (.code yX9_commonDivisor cX9_commonDivisor 11 (some .long) :: WS) (rmH 0 0 0) (va_Pc [.long a1, .long a2] (PW dd g mv (w_X9_commonDivisor g ) sz)) (Qo dd g (some (.long z)) (fun u : Unit => (w_X9_commonDivisor g )) (va_A (w_X9_commonDivisor g ) sz)) 0 0 (va_A (w_X9_commonDivisor g ) sz) := by
  refine Met_intro (by decide) (Nat.le_of_ble_eq_true rfl) ?_
  intro p e s m below meth c A ls F hret hlk hin hw hl
  replace hl : lv_has ls 11 [(0, .long a1), (2, .long a2)] := hl
  refine lv_lload_n F.1 F.2.1 dX9_commonDivisor_0 rfl (lv_at hl 0 rfl) ?_
  refine lv_lstore (lv' := [(4, .long a1), (0, .long a1), (2, .long a2)]) F.1 F.2.1 dX9_commonDivisor_1 hl (by decide) rfl (fun ls hl => ?_)
  refine lv_lload_n F.1 F.2.1 dX9_commonDivisor_3 rfl (lv_at hl 2 rfl) ?_
  refine lv_lstore (lv' := [(6, .long a2), (4, .long a1), (0, .long a1), (2, .long a2)]) F.1 F.2.1 dX9_commonDivisor_4 hl (by decide) rfl (fun ls hl => ?_)
  refine lv_iconst (v := 0) F.1 F.2.1 dX9_commonDivisor_6 (by decide) ?_
  refine lv_istore (lv' := [(8, .int (0 : Int32)), (6, .long a2), (4, .long a1), (0, .long a1), (2, .long a2)]) F.1 F.2.1 dX9_commonDivisor_7 hl (by decide) rfl (fun ls hl => ?_)
  exact b_X9_commonDivisor_9 F hret hlk  fuel hr hw (lv_sub hl [2, 1, 0] rfl)
set_option maxHeartbeats 4000000 in
set_option maxRecDepth 100000 in
theorem b_X9_ways_144 {q_p1 q_p1_chain q_p1_powers : Nat} {d : Nat} {z : Int64} (F : Fx p m c cX9_ways 14 s args RX9) (hret : meth.sig.returnType = some .long) (hlk : meth.locks = false) {rc : Int64 → Int32 → Int32 → Int32 → Int32 → Int64 → (Nat → Int64) → Int64 → Int64 → Int32 → Option (Int64)} (hrc : ∀ (q_p1 : Nat) (q_p1_chain : Nat) (q_p1_powers : Nat) (p1_doors : Int64) (p1_plus : Int32) (p1_minus : Int32) (p1_upper : Int64) (p1_lower : Int64) (p1_chain_places : Int32) (p1_chain_deep : Int32) (p1_chain_turn : Int32) (p1_chain_wheel : Int64) (p1_chain_leaks : Int64) (p1_chain_wants : Int64) (p1_powers : Nat → Int64) (a2 : Int64) (a3 : Int64) (a4 : Int32) (z : Int64), rc p1_doors p1_plus p1_minus p1_chain_places p1_chain_deep p1_chain_wants p1_powers a2 a3 a4 = some z → ∀ (sz : Nat), Met l yX9_ways (.code yX9_ways cX9_ways 14 (some .long) :: WS) (rmH (3 + d) 0 0) (va_Pc [.ref q_p1, .long a2, .long a3, .int a4] (PW dd g mv (w_X9_ways g q_p1 q_p1_chain q_p1_powers p1_doors p1_plus p1_minus p1_upper p1_lower p1_chain_places p1_chain_deep p1_chain_turn p1_chain_wheel p1_chain_leaks p1_chain_wants p1_powers) sz)) (Qo dd g (some (.long z)) (fun u : Unit => (w_X9_ways g q_p1 q_p1_chain q_p1_powers p1_doors p1_plus p1_minus p1_upper p1_lower p1_chain_places p1_chain_deep p1_chain_turn p1_chain_wheel p1_chain_leaks p1_chain_wants p1_powers)) (va_A (w_X9_ways g q_p1 q_p1_chain q_p1_powers p1_doors p1_plus p1_minus p1_upper p1_lower p1_chain_places p1_chain_deep p1_chain_turn p1_chain_wheel p1_chain_leaks p1_chain_wants p1_powers) sz)) 0 0 (va_A (w_X9_ways g q_p1 q_p1_chain q_p1_powers p1_doors p1_plus p1_minus p1_upper p1_lower p1_chain_places p1_chain_deep p1_chain_turn p1_chain_wheel p1_chain_leaks p1_chain_wants p1_powers) sz)) {k53 : Int64 → Int64 → Int32 → Int64 → Int32 → Int64 → Int32 → Int32 → Int32 → Int32 → Int64 → (Nat → Int64) → Option (Int64)} (hk53 : ∀ {x1 : Int64} {x3 : Int64} {x5 : Int32} {x6 : Int64} {x8 : Int32} {p1_doors : Int64} {p1_plus : Int32} {p1_minus : Int32} {p1_chain_places : Int32} {p1_chain_deep : Int32} {p1_chain_wants : Int64} {p1_powers : Nat → Int64} {p1_upper : Int64} {p1_lower : Int64} {p1_chain_turn : Int32} {p1_chain_wheel : Int64} {p1_chain_leaks : Int64} {H : Heap} {locs : List Loc} {ls : Array Slot}, k53 x1 x3 x5 x6 x8 p1_doors p1_plus p1_minus p1_chain_places p1_chain_deep p1_chain_wants p1_powers = some z → Wd dd g mv A s H locs (w_X9_ways g q_p1 q_p1_chain q_p1_powers p1_doors p1_plus p1_minus p1_upper p1_lower p1_chain_places p1_chain_deep p1_chain_turn p1_chain_wheel p1_chain_leaks p1_chain_wants p1_powers) → lv_has ls 14 [(0, .ref q_p1), (1, .long x1), (3, .long x3), (5, .int x5), (6, .long x6), (8, .int x8)] → W p l e (rmH (3 + (d + 1)) 0 0) s m args below meth c H locs 0 0 (MQ below (Qo dd g (some (.long z)) (fun u : Unit => (w_X9_ways g q_p1 q_p1_chain q_p1_powers p1_doors p1_plus p1_minus p1_upper p1_lower p1_chain_places p1_chain_deep p1_chain_turn p1_chain_wheel p1_chain_leaks p1_chain_wants p1_powers)) A) args s 0 0 A) (F0 m 53 ls [])) : ∀ {x1 : Int64} {x3 : Int64} {x5 : Int32} {x6 : Int64} {x8 : Int32} {p1_doors : Int64} {p1_plus : Int32} {p1_minus : Int32} {p1_chain_places : Int32} {p1_chain_deep : Int32} {p1_chain_wants : Int64} {p1_powers : Nat → Int64} {p1_upper : Int64} {p1_lower : Int64} {p1_chain_turn : Int32} {p1_chain_wheel : Int64} {p1_chain_leaks : Int64} {H : Heap} {locs : List Loc} {ls : Array Slot}, f_X9_ways_144 rc k53 x1 x3 x5 x6 x8 p1_doors p1_plus p1_minus p1_chain_places p1_chain_deep p1_chain_wants p1_powers = some z → Wd dd g mv A s H locs (w_X9_ways g q_p1 q_p1_chain q_p1_powers p1_doors p1_plus p1_minus p1_upper p1_lower p1_chain_places p1_chain_deep p1_chain_turn p1_chain_wheel p1_chain_leaks p1_chain_wants p1_powers) → lv_has ls 14 [(0, .ref q_p1), (1, .long x1), (3, .long x3), (5, .int x5), (6, .long x6), (8, .int x8)] → W p l e (rmH (3 + (d + 1)) 0 0) s m args below meth c H locs 0 0 (MQ below (Qo dd g (some (.long z)) (fun u : Unit => (w_X9_ways g q_p1 q_p1_chain q_p1_powers p1_doors p1_plus p1_minus p1_upper p1_lower p1_chain_places p1_chain_deep p1_chain_turn p1_chain_wheel p1_chain_leaks p1_chain_wants p1_powers)) A) args s 0 0 A) (F0 m 144 ls []) := by
  intro x1 x3 x5 x6 x8 p1_doors p1_plus p1_minus p1_chain_places p1_chain_deep p1_chain_wants p1_powers p1_upper p1_lower p1_chain_turn p1_chain_wheel p1_chain_leaks H locs ls hr hw hl
  refine lv_iinc (v := (x8 + 1)) (lv' := [(8, .int (x8 + 1)), (0, .ref q_p1), (1, .long x1), (3, .long x3), (5, .int x5), (6, .long x6)]) F.1 F.2.1 dX9_ways_144 hl (k := 5) rfl rfl (by decide) rfl (fun ls hl => ?_)
  refine lv_goto (tgt := 53) F.1 F.2.1 dX9_ways_147 (by decide) ?_
  exact hk53 hr hw (lv_sub hl [1, 2, 3, 4, 5, 0] rfl)
set_option maxHeartbeats 4000000 in
set_option maxRecDepth 100000 in
theorem b_X9_ways_75 {q_p1 q_p1_chain q_p1_powers : Nat} {d : Nat} {z : Int64} (F : Fx p m c cX9_ways 14 s args RX9) (hret : meth.sig.returnType = some .long) (hlk : meth.locks = false) {rc : Int64 → Int32 → Int32 → Int32 → Int32 → Int64 → (Nat → Int64) → Int64 → Int64 → Int32 → Option (Int64)} (hrc : ∀ (q_p1 : Nat) (q_p1_chain : Nat) (q_p1_powers : Nat) (p1_doors : Int64) (p1_plus : Int32) (p1_minus : Int32) (p1_upper : Int64) (p1_lower : Int64) (p1_chain_places : Int32) (p1_chain_deep : Int32) (p1_chain_turn : Int32) (p1_chain_wheel : Int64) (p1_chain_leaks : Int64) (p1_chain_wants : Int64) (p1_powers : Nat → Int64) (a2 : Int64) (a3 : Int64) (a4 : Int32) (z : Int64), rc p1_doors p1_plus p1_minus p1_chain_places p1_chain_deep p1_chain_wants p1_powers a2 a3 a4 = some z → ∀ (sz : Nat), Met l yX9_ways (.code yX9_ways cX9_ways 14 (some .long) :: WS) (rmH (3 + d) 0 0) (va_Pc [.ref q_p1, .long a2, .long a3, .int a4] (PW dd g mv (w_X9_ways g q_p1 q_p1_chain q_p1_powers p1_doors p1_plus p1_minus p1_upper p1_lower p1_chain_places p1_chain_deep p1_chain_turn p1_chain_wheel p1_chain_leaks p1_chain_wants p1_powers) sz)) (Qo dd g (some (.long z)) (fun u : Unit => (w_X9_ways g q_p1 q_p1_chain q_p1_powers p1_doors p1_plus p1_minus p1_upper p1_lower p1_chain_places p1_chain_deep p1_chain_turn p1_chain_wheel p1_chain_leaks p1_chain_wants p1_powers)) (va_A (w_X9_ways g q_p1 q_p1_chain q_p1_powers p1_doors p1_plus p1_minus p1_upper p1_lower p1_chain_places p1_chain_deep p1_chain_turn p1_chain_wheel p1_chain_leaks p1_chain_wants p1_powers) sz)) 0 0 (va_A (w_X9_ways g q_p1 q_p1_chain q_p1_powers p1_doors p1_plus p1_minus p1_upper p1_lower p1_chain_places p1_chain_deep p1_chain_turn p1_chain_wheel p1_chain_leaks p1_chain_wants p1_powers) sz)) {k53 : Int64 → Int64 → Int32 → Int64 → Int32 → Int64 → Int32 → Int32 → Int32 → Int32 → Int64 → (Nat → Int64) → Option (Int64)} (hk53 : ∀ {x1 : Int64} {x3 : Int64} {x5 : Int32} {x6 : Int64} {x8 : Int32} {p1_doors : Int64} {p1_plus : Int32} {p1_minus : Int32} {p1_chain_places : Int32} {p1_chain_deep : Int32} {p1_chain_wants : Int64} {p1_powers : Nat → Int64} {p1_upper : Int64} {p1_lower : Int64} {p1_chain_turn : Int32} {p1_chain_wheel : Int64} {p1_chain_leaks : Int64} {H : Heap} {locs : List Loc} {ls : Array Slot}, k53 x1 x3 x5 x6 x8 p1_doors p1_plus p1_minus p1_chain_places p1_chain_deep p1_chain_wants p1_powers = some z → Wd dd g mv A s H locs (w_X9_ways g q_p1 q_p1_chain q_p1_powers p1_doors p1_plus p1_minus p1_upper p1_lower p1_chain_places p1_chain_deep p1_chain_turn p1_chain_wheel p1_chain_leaks p1_chain_wants p1_powers) → lv_has ls 14 [(0, .ref q_p1), (1, .long x1), (3, .long x3), (5, .int x5), (6, .long x6), (8, .int x8)] → W p l e (rmH (3 + (d + 1)) 0 0) s m args below meth c H locs 0 0 (MQ below (Qo dd g (some (.long z)) (fun u : Unit => (w_X9_ways g q_p1 q_p1_chain q_p1_powers p1_doors p1_plus p1_minus p1_upper p1_lower p1_chain_places p1_chain_deep p1_chain_turn p1_chain_wheel p1_chain_leaks p1_chain_wants p1_powers)) A) args s 0 0 A) (F0 m 53 ls [])) : ∀ {x1 : Int64} {x3 : Int64} {x5 : Int32} {x6 : Int64} {x8 : Int32} {y0 : Int32} {p1_doors : Int64} {p1_plus : Int32} {p1_minus : Int32} {p1_chain_places : Int32} {p1_chain_deep : Int32} {p1_chain_wants : Int64} {p1_powers : Nat → Int64} {p1_upper : Int64} {p1_lower : Int64} {p1_chain_turn : Int32} {p1_chain_wheel : Int64} {p1_chain_leaks : Int64} {H : Heap} {locs : List Loc} {ls : Array Slot}, f_X9_ways_75 rc k53 x1 x3 x5 x6 x8 y0 p1_doors p1_plus p1_minus p1_chain_places p1_chain_deep p1_chain_wants p1_powers = some z → Wd dd g mv A s H locs (w_X9_ways g q_p1 q_p1_chain q_p1_powers p1_doors p1_plus p1_minus p1_upper p1_lower p1_chain_places p1_chain_deep p1_chain_turn p1_chain_wheel p1_chain_leaks p1_chain_wants p1_powers) → lv_has ls 14 [(0, .ref q_p1), (1, .long x1), (3, .long x3), (5, .int x5), (6, .long x6), (8, .int x8)] → W p l e (rmH (3 + (d + 1)) 0 0) s m args below meth c H locs 0 0 (MQ below (Qo dd g (some (.long z)) (fun u : Unit => (w_X9_ways g q_p1 q_p1_chain q_p1_powers p1_doors p1_plus p1_minus p1_upper p1_lower p1_chain_places p1_chain_deep p1_chain_turn p1_chain_wheel p1_chain_leaks p1_chain_wants p1_powers)) A) args s 0 0 A) (F0 m 75 ls [.int y0]) := by
  intro x1 x3 x5 x6 x8 y0 p1_doors p1_plus p1_minus p1_chain_places p1_chain_deep p1_chain_wants p1_powers p1_upper p1_lower p1_chain_turn p1_chain_wheel p1_chain_leaks H locs ls hr hw hl
  refine lv_istore (lv' := [(9, .int y0), (0, .ref q_p1), (1, .long x1), (3, .long x3), (5, .int x5), (6, .long x6), (8, .int x8)]) F.1 F.2.1 dX9_ways_75 hl (by decide) rfl (fun ls hl => ?_)
  refine lv_iload F.1 F.2.1 dX9_ways_77 (lv_at hl 0 rfl) ?_
  refine lv_if_le (tgt := 144) F.1 F.2.1 dX9_ways_79 (by decide) (fun hc1 => ?_) (fun hc1 => ?_)
  · replace hr := (if_pos hc1).symm.trans hr
    exact b_X9_ways_144 F hret hlk hrc (hk53) hr hw (lv_sub hl [1, 2, 3, 4, 5, 6] rfl)
  · replace hr := (if_neg hc1).symm.trans hr
    refine lv_aload_n F.1 F.2.1 dX9_ways_82 rfl (lv_at hl 1 rfl) ?_
    refine gf_X9_15 F hw 0 rfl rfl dX9_ways_83 ?_
    refine lv_lload_n F.1 F.2.1 dX9_ways_86 rfl (lv_at hl 3 rfl) ?_
    refine gs_n F (by decide +kernel) hw dX9_ways_87 ?_
    refine lv_iload F.1 F.2.1 dX9_ways_90 (lv_at hl 6 rfl) ?_
    obtain ⟨hg2, hr⟩ := g_no hr
    refine ar_m F hw hg2 dX9_ways_92 ?_
    obtain ⟨z3, hz3, hr⟩ := Option.bind_eq_some_iff.mp hr
    refine call_o (wr := [(q_p1, .inr (9, [.ref q_p1_powers, .ref q_p1_chain, .long p1_doors, .int p1_plus, .int p1_minus, .long p1_upper, .long p1_lower])), (q_p1_powers, .inl (g 1, 13, .inr (.inl p1_powers)))]) (run_V (As := [.long x3, .int (mvI (x8).toNatClampNeg)]) (rest := []) F k_X9_56 (c_X1_turned l dd g mv q_p1_chain p1_chain_places p1_chain_deep p1_chain_turn p1_chain_wheel p1_chain_leaks p1_chain_wants x3 ((mvI (x8).toNatClampNeg)) z3 hz3 _) hw [1] (by decide) rfl (ci := 1) rfl rfl rfl rfl hl.1 rfl (Nat.le_of_ble_eq_true rfl) dX9_ways_93 (by refine ⟨?_, ?_⟩ <;> simp only [rmH] <;> omega) ⟨Nat.zero_le _, Nat.zero_le _⟩) hw [1] [0, 2] rfl rfl (by decide) (by decide) (fun u4 H locs hw => ?_)
    replace hw : Wd dd g mv A s H locs (w_X9_ways g q_p1 q_p1_chain q_p1_powers p1_doors p1_plus p1_minus p1_upper p1_lower p1_chain_places p1_chain_deep p1_chain_turn p1_chain_wheel p1_chain_leaks p1_chain_wants p1_powers) := hw.sub [0, 2, 1] (by decide) rfl
    refine W.eq (g2 := F0 m 96 ls (.long z3 :: [])) rfl ?_
    refine lv_lstore (lv' := [(10, .long z3), (9, .int y0), (0, .ref q_p1), (1, .long x1), (3, .long x3), (5, .int x5), (6, .long x6), (8, .int x8)]) F.1 F.2.1 dX9_ways_96 hl (by decide) rfl (fun ls hl => ?_)
    refine lv_aload_n F.1 F.2.1 dX9_ways_98 rfl (lv_at hl 2 rfl) ?_
    refine gf_X9_15 F hw 0 rfl rfl dX9_ways_99 ?_
    refine lv_aload_n F.1 F.2.1 dX9_ways_102 rfl (lv_at hl 2 rfl) ?_
    refine gf_X9_15 F hw 0 rfl rfl dX9_ways_103 ?_
    refine lv_lload_n F.1 F.2.1 dX9_ways_106 rfl (lv_at hl 3 rfl) ?_
    refine gs_n F (by decide +kernel) hw dX9_ways_107 ?_
    refine lv_iload F.1 F.2.1 dX9_ways_110 (lv_at hl 7 rfl) ?_
    obtain ⟨hg5, hr⟩ := g_no hr
    refine ar_m F hw hg5 dX9_ways_112 ?_
    obtain ⟨z6, hz6, hr⟩ := Option.bind_eq_some_iff.mp hr
    refine call_o (wr := [(q_p1, .inr (9, [.ref q_p1_powers, .ref q_p1_chain, .long p1_doors, .int p1_plus, .int p1_minus, .long p1_upper, .long p1_lower])), (q_p1_powers, .inl (g 1, 13, .inr (.inl p1_powers)))]) (run_V (As := [.long x1, .int (mvI (x8).toNatClampNeg)]) (rest := [.ref q_p1_chain]) F k_X9_56 (c_X1_turned l dd g mv q_p1_chain p1_chain_places p1_chain_deep p1_chain_turn p1_chain_wheel p1_chain_leaks p1_chain_wants x1 ((mvI (x8).toNatClampNeg)) z6 hz6 _) hw [1] (by decide) rfl (ci := 1) rfl rfl rfl rfl hl.1 rfl (Nat.le_of_ble_eq_true rfl) dX9_ways_113 (by refine ⟨?_, ?_⟩ <;> simp only [rmH] <;> omega) ⟨Nat.zero_le _, Nat.zero_le _⟩) hw [1] [0, 2] rfl rfl (by decide) (by decide) (fun u7 H locs hw => ?_)
    replace hw : Wd dd g mv A s H locs (w_X9_ways g q_p1 q_p1_chain q_p1_powers p1_doors p1_plus p1_minus p1_upper p1_lower p1_chain_places p1_chain_deep p1_chain_turn p1_chain_wheel p1_chain_leaks p1_chain_wants p1_powers) := hw.sub [0, 2, 1] (by decide) rfl
    refine W.eq (g2 := F0 m 116 ls (.long z6 :: .ref q_p1_chain :: [])) rfl ?_
    refine lv_lload F.1 F.2.1 dX9_ways_116 (lv_at hl 0 rfl) ?_
    obtain ⟨z8, hz8, hr⟩ := Option.bind_eq_some_iff.mp hr
    refine call_o (wr := [(q_p1, .inr (9, [.ref q_p1_powers, .ref q_p1_chain, .long p1_doors, .int p1_plus, .int p1_minus, .long p1_upper, .long p1_lower])), (q_p1_powers, .inl (g 1, 13, .inr (.inl p1_powers)))]) (run_V (As := [.long z6, .long z3]) (rest := []) F k_X9_60 (c_X1_step l dd g mv q_p1_chain p1_chain_places p1_chain_deep p1_chain_turn p1_chain_wheel p1_chain_leaks p1_chain_wants z6 z3 z8 hz8 _) hw [1] (by decide) rfl (ci := 1) rfl rfl rfl rfl hl.1 rfl (Nat.le_of_ble_eq_true rfl) dX9_ways_118 (by refine ⟨?_, ?_⟩ <;> simp only [rmH] <;> omega) ⟨Nat.zero_le _, Nat.zero_le _⟩) hw [1] [0, 2] rfl rfl (by decide) (by decide) (fun u9 H locs hw => ?_)
    replace hw : Wd dd g mv A s H locs (w_X9_ways g q_p1 q_p1_chain q_p1_powers p1_doors p1_plus p1_minus p1_upper p1_lower p1_chain_places p1_chain_deep p1_chain_turn p1_chain_wheel p1_chain_leaks p1_chain_wants p1_powers) := hw.sub [0, 2, 1] (by decide) rfl
    refine W.eq (g2 := F0 m 121 ls (.long z8 :: [])) rfl ?_
    refine lv_lstore (lv' := [(12, .long z8), (10, .long z3), (9, .int y0), (0, .ref q_p1), (1, .long x1), (3, .long x3), (5, .int x5), (6, .long x6), (8, .int x8)]) F.1 F.2.1 dX9_ways_121 hl (by decide) rfl (fun ls hl => ?_)
    refine lv_lload F.1 F.2.1 dX9_ways_123 (lv_at hl 7 rfl) ?_
    refine lv_iload F.1 F.2.1 dX9_ways_125 (lv_at hl 2 rfl) ?_
    refine lv_i2l F.1 F.2.1 dX9_ways_127 rfl ?_
    refine lv_aload_n F.1 F.2.1 dX9_ways_128 rfl (lv_at hl 3 rfl) ?_
    refine lv_lload F.1 F.2.1 dX9_ways_129 (lv_at hl 0 rfl) ?_
    refine lv_lload F.1 F.2.1 dX9_ways_131 (lv_at hl 1 rfl) ?_
    refine lv_iload F.1 F.2.1 dX9_ways_133 (lv_at hl 6 rfl) ?_
    refine lv_iconst (v := 1) F.1 F.2.1 dX9_ways_135 (by decide) ?_
    refine lv_isub F.1 F.2.1 dX9_ways_136 ?_
    obtain ⟨z10, hz10, hr⟩ := Option.bind_eq_some_iff.mp hr
    refine call_o (wr := []) (run_S (As := [.ref q_p1, .long z8, .long z3, .int (x5 - (1 : Int32))]) (rest := [.long y0.toInt64, .long x6]) F k_X9_44 (hrc q_p1 q_p1_chain q_p1_powers p1_doors p1_plus p1_minus p1_upper p1_lower p1_chain_places p1_chain_deep p1_chain_turn p1_chain_wheel p1_chain_leaks p1_chain_wants p1_powers z8 z3 ((x5 - (1 : Int32))) z10 hz10 _) hw [0, 1, 2] (by decide) rfl rfl hl.1 rfl (Nat.le_of_ble_eq_true rfl) dX9_ways_137 (by refine ⟨?_, ?_⟩ <;> simp only [rmH] <;> omega) ⟨Nat.zero_le _, Nat.zero_le _⟩) hw [0, 1, 2] [] rfl rfl (by decide) (by decide) (fun u11 H locs hw => ?_)
    replace hw : Wd dd g mv A s H locs (w_X9_ways g q_p1 q_p1_chain q_p1_powers p1_doors p1_plus p1_minus p1_upper p1_lower p1_chain_places p1_chain_deep p1_chain_turn p1_chain_wheel p1_chain_leaks p1_chain_wants p1_powers) := hw.sub [0, 1, 2] (by decide) rfl
    refine W.eq (g2 := F0 m 140 ls (.long z10 :: .long y0.toInt64 :: .long x6 :: [])) rfl ?_
    refine lv_lmul F.1 F.2.1 dX9_ways_140 ?_
    refine lv_ladd F.1 F.2.1 dX9_ways_141 ?_
    refine lv_lstore (lv' := [(6, .long (x6 + (y0.toInt64 * z10))), (12, .long z8), (10, .long z3), (9, .int y0), (0, .ref q_p1), (1, .long x1), (3, .long x3), (5, .int x5), (8, .int x8)]) F.1 F.2.1 dX9_ways_142 hl (by decide) rfl (fun ls hl => ?_)
    exact b_X9_ways_144 F hret hlk hrc (hk53) hr hw (lv_sub hl [4, 5, 6, 7, 0, 8] rfl)
set_option maxHeartbeats 4000000 in
set_option maxRecDepth 100000 in
theorem b_X9_ways_53 {q_p1 q_p1_chain q_p1_powers : Nat} {d : Nat} {z : Int64} (F : Fx p m c cX9_ways 14 s args RX9) (hret : meth.sig.returnType = some .long) (hlk : meth.locks = false) {rc : Int64 → Int32 → Int32 → Int32 → Int32 → Int64 → (Nat → Int64) → Int64 → Int64 → Int32 → Option (Int64)} (hrc : ∀ (q_p1 : Nat) (q_p1_chain : Nat) (q_p1_powers : Nat) (p1_doors : Int64) (p1_plus : Int32) (p1_minus : Int32) (p1_upper : Int64) (p1_lower : Int64) (p1_chain_places : Int32) (p1_chain_deep : Int32) (p1_chain_turn : Int32) (p1_chain_wheel : Int64) (p1_chain_leaks : Int64) (p1_chain_wants : Int64) (p1_powers : Nat → Int64) (a2 : Int64) (a3 : Int64) (a4 : Int32) (z : Int64), rc p1_doors p1_plus p1_minus p1_chain_places p1_chain_deep p1_chain_wants p1_powers a2 a3 a4 = some z → ∀ (sz : Nat), Met l yX9_ways (.code yX9_ways cX9_ways 14 (some .long) :: WS) (rmH (3 + d) 0 0) (va_Pc [.ref q_p1, .long a2, .long a3, .int a4] (PW dd g mv (w_X9_ways g q_p1 q_p1_chain q_p1_powers p1_doors p1_plus p1_minus p1_upper p1_lower p1_chain_places p1_chain_deep p1_chain_turn p1_chain_wheel p1_chain_leaks p1_chain_wants p1_powers) sz)) (Qo dd g (some (.long z)) (fun u : Unit => (w_X9_ways g q_p1 q_p1_chain q_p1_powers p1_doors p1_plus p1_minus p1_upper p1_lower p1_chain_places p1_chain_deep p1_chain_turn p1_chain_wheel p1_chain_leaks p1_chain_wants p1_powers)) (va_A (w_X9_ways g q_p1 q_p1_chain q_p1_powers p1_doors p1_plus p1_minus p1_upper p1_lower p1_chain_places p1_chain_deep p1_chain_turn p1_chain_wheel p1_chain_leaks p1_chain_wants p1_powers) sz)) 0 0 (va_A (w_X9_ways g q_p1 q_p1_chain q_p1_powers p1_doors p1_plus p1_minus p1_upper p1_lower p1_chain_places p1_chain_deep p1_chain_turn p1_chain_wheel p1_chain_leaks p1_chain_wants p1_powers) sz)) : ∀ (n : Nat), ∀ {x1 : Int64} {x3 : Int64} {x5 : Int32} {x6 : Int64} {x8 : Int32} {p1_doors : Int64} {p1_plus : Int32} {p1_minus : Int32} {p1_chain_places : Int32} {p1_chain_deep : Int32} {p1_chain_wants : Int64} {p1_powers : Nat → Int64} {p1_upper : Int64} {p1_lower : Int64} {p1_chain_turn : Int32} {p1_chain_wheel : Int64} {p1_chain_leaks : Int64} {H : Heap} {locs : List Loc} {ls : Array Slot}, f_X9_ways_53 rc  n x1 x3 x5 x6 x8 p1_doors p1_plus p1_minus p1_chain_places p1_chain_deep p1_chain_wants p1_powers = some z → Wd dd g mv A s H locs (w_X9_ways g q_p1 q_p1_chain q_p1_powers p1_doors p1_plus p1_minus p1_upper p1_lower p1_chain_places p1_chain_deep p1_chain_turn p1_chain_wheel p1_chain_leaks p1_chain_wants p1_powers) → lv_has ls 14 [(0, .ref q_p1), (1, .long x1), (3, .long x3), (5, .int x5), (6, .long x6), (8, .int x8)] → W p l e (rmH (3 + (d + 1)) 0 0) s m args below meth c H locs 0 0 (MQ below (Qo dd g (some (.long z)) (fun u : Unit => (w_X9_ways g q_p1 q_p1_chain q_p1_powers p1_doors p1_plus p1_minus p1_upper p1_lower p1_chain_places p1_chain_deep p1_chain_turn p1_chain_wheel p1_chain_leaks p1_chain_wants p1_powers)) A) args s 0 0 A) (F0 m 53 ls []) := by
  intro n
  induction n with
  | zero =>
    intros
    rename_i hr _ _
    cases hr
  | succ n ih =>
    intro x1 x3 x5 x6 x8 p1_doors p1_plus p1_minus p1_chain_places p1_chain_deep p1_chain_wants p1_powers p1_upper p1_lower p1_chain_turn p1_chain_wheel p1_chain_leaks H locs ls hr hw hl
    refine lv_iload F.1 F.2.1 dX9_ways_53 (lv_at hl 5 rfl) ?_
    refine lv_iconst (v := 2) F.1 F.2.1 dX9_ways_55 (by decide) ?_
    refine lv_icmp_ge (tgt := 150) F.1 F.2.1 dX9_ways_56 (by decide) (fun hc12 => ?_) (fun hc12 => ?_)
    · replace hr := (if_pos hc12).symm.trans hr
      refine lv_lload F.1 F.2.1 dX9_ways_150 (lv_at hl 4 rfl) ?_
      cases hr
      exact ret_l () F hret hlk hw (Nat.le_refl _) (Nat.le_refl _) dX9_ways_152
    · replace hr := (if_neg hc12).symm.trans hr
      refine lv_iload F.1 F.2.1 dX9_ways_59 (lv_at hl 5 rfl) ?_
      refine lv_if_ne (tgt := 71) F.1 F.2.1 dX9_ways_61 (by decide) (fun hc13 => ?_) (fun hc13 => ?_)
      · replace hr := (if_neg hc13).symm.trans hr
        refine lv_aload_n F.1 F.2.1 dX9_ways_71 rfl (lv_at hl 0 rfl) ?_
        refine gf_X9_27 F hw 0 rfl rfl dX9_ways_72 ?_
        exact b_X9_ways_75 F hret hlk hrc (ih) hr hw (lv_sub hl [0, 1, 2, 3, 4, 5] rfl)
      · replace hr := (if_pos hc13).symm.trans hr
        refine lv_aload_n F.1 F.2.1 dX9_ways_64 rfl (lv_at hl 0 rfl) ?_
        refine gf_X9_23 F hw 0 rfl rfl dX9_ways_65 ?_
        refine lv_goto (tgt := 75) F.1 F.2.1 dX9_ways_68 (by decide) ?_
        exact b_X9_ways_75 F hret hlk hrc (ih) hr hw (lv_sub hl [0, 1, 2, 3, 4, 5] rfl)
set_option maxHeartbeats 4000000 in
set_option maxRecDepth 100000 in
theorem c_X9_ways (l : Launch) (dd : va_G) (g : Nat → ClassId) (mv : Nat) : ∀ (d : Nat) (q_p1 : Nat) (q_p1_chain : Nat) (q_p1_powers : Nat) (p1_doors : Int64) (p1_plus : Int32) (p1_minus : Int32) (p1_upper : Int64) (p1_lower : Int64) (p1_chain_places : Int32) (p1_chain_deep : Int32) (p1_chain_turn : Int32) (p1_chain_wheel : Int64) (p1_chain_leaks : Int64) (p1_chain_wants : Int64) (p1_powers : Nat → Int64) (a2 : Int64) (a3 : Int64) (a4 : Int32) (z : Int64), f_X9_ways d p1_doors p1_plus p1_minus p1_chain_places p1_chain_deep p1_chain_wants p1_powers a2 a3 a4 = some z → ∀ (sz : Nat), Met l yX9_ways (.code yX9_ways cX9_ways 14 (some .long) :: WS) (rmH (3 + d) 0 0) (va_Pc [.ref q_p1, .long a2, .long a3, .int a4] (PW dd g mv (w_X9_ways g q_p1 q_p1_chain q_p1_powers p1_doors p1_plus p1_minus p1_upper p1_lower p1_chain_places p1_chain_deep p1_chain_turn p1_chain_wheel p1_chain_leaks p1_chain_wants p1_powers) sz)) (Qo dd g (some (.long z)) (fun u : Unit => (w_X9_ways g q_p1 q_p1_chain q_p1_powers p1_doors p1_plus p1_minus p1_upper p1_lower p1_chain_places p1_chain_deep p1_chain_turn p1_chain_wheel p1_chain_leaks p1_chain_wants p1_powers)) (va_A (w_X9_ways g q_p1 q_p1_chain q_p1_powers p1_doors p1_plus p1_minus p1_upper p1_lower p1_chain_places p1_chain_deep p1_chain_turn p1_chain_wheel p1_chain_leaks p1_chain_wants p1_powers) sz)) 0 0 (va_A (w_X9_ways g q_p1 q_p1_chain q_p1_powers p1_doors p1_plus p1_minus p1_upper p1_lower p1_chain_places p1_chain_deep p1_chain_turn p1_chain_wheel p1_chain_leaks p1_chain_wants p1_powers) sz) := by
  intro d
  induction d with
  | zero =>
    intros
    rename_i hr _
    cases hr
  | succ d hrc =>
    intro q_p1 q_p1_chain q_p1_powers p1_doors p1_plus p1_minus p1_upper p1_lower p1_chain_places p1_chain_deep p1_chain_turn p1_chain_wheel p1_chain_leaks p1_chain_wants p1_powers a2 a3 a4 z hr sz
    refine Met_intro (by decide) (Nat.le_of_ble_eq_true rfl) ?_
    intro p e s m below meth c A ls F hret hlk hin hw hl
    replace hl : lv_has ls 14 [(0, .ref q_p1), (1, .long a2), (3, .long a3), (5, .int a4)] := hl
    refine lv_iload F.1 F.2.1 dX9_ways_0 (lv_at hl 3 rfl) ?_
    refine lv_if_lt (tgt := 19) F.1 F.2.1 dX9_ways_2 (by decide) (fun hc14 => ?_) (fun hc14 => ?_)
    · replace hr := (if_pos hc14).symm.trans hr
      refine lv_lconst (v := 0) F.1 F.2.1 dX9_ways_19 (by decide) ?_
      cases hr
      exact ret_l () F hret hlk hw (Nat.le_refl _) (Nat.le_refl _) dX9_ways_20
    · replace hr := (if_neg hc14).symm.trans hr
      refine lv_iload F.1 F.2.1 dX9_ways_5 (lv_at hl 3 rfl) ?_
      refine lv_bipush (v := 12) F.1 F.2.1 dX9_ways_7 (by decide) ?_
      refine lv_icmp_gt (tgt := 19) F.1 F.2.1 dX9_ways_9 (by decide) (fun hc15 => ?_) (fun hc15 => ?_)
      · replace hr := (if_pos hc15).symm.trans hr
        refine lv_lconst (v := 0) F.1 F.2.1 dX9_ways_19 (by decide) ?_
        cases hr
        exact ret_l () F hret hlk hw (Nat.le_refl _) (Nat.le_refl _) dX9_ways_20
      · replace hr := (if_neg hc15).symm.trans hr
        refine lv_aload_n F.1 F.2.1 dX9_ways_12 rfl (lv_at hl 0 rfl) ?_
        refine gf_X9_15 F hw 0 rfl rfl dX9_ways_13 ?_
        refine lv_ifnonnull (tgt := 21) F.1 F.2.1 dX9_ways_16 (by decide) ?_
        refine lv_lload_n F.1 F.2.1 dX9_ways_21 rfl (lv_at hl 1 rfl) ?_
        refine lv_aload_n F.1 F.2.1 dX9_ways_22 rfl (lv_at hl 0 rfl) ?_
        refine gf_X9_19 F hw 0 rfl rfl dX9_ways_23 ?_
        refine lv_land F.1 F.2.1 dX9_ways_26 ?_
        refine lv_lconst (v := 0) F.1 F.2.1 dX9_ways_27 (by decide) ?_
        refine W.lcmp F.1 F.2.1 dX9_ways_28 ?_
        refine lv_if_ne (tgt := 40) F.1 F.2.1 dX9_ways_29 (by decide) (fun hc16 => ?_) (fun hc16 => ?_)
        · replace hr := (if_neg hc16).symm.trans hr
          refine lv_iload F.1 F.2.1 dX9_ways_40 (lv_at hl 3 rfl) ?_
          refine lv_if_ne (tgt := 47) F.1 F.2.1 dX9_ways_42 (by decide) (fun hc17 => ?_) (fun hc17 => ?_)
          · replace hr := (if_neg hc17).symm.trans hr
            refine lv_lconst (v := 0) F.1 F.2.1 dX9_ways_47 (by decide) ?_
            refine lv_lstore (lv' := [(6, .long (0 : Int64)), (0, .ref q_p1), (1, .long a2), (3, .long a3), (5, .int a4)]) F.1 F.2.1 dX9_ways_48 hl (by decide) rfl (fun ls hl => ?_)
            refine lv_iconst (v := 0) F.1 F.2.1 dX9_ways_50 (by decide) ?_
            refine lv_istore (lv' := [(8, .int (0 : Int32)), (6, .long (0 : Int64)), (0, .ref q_p1), (1, .long a2), (3, .long a3), (5, .int a4)]) F.1 F.2.1 dX9_ways_51 hl (by decide) rfl (fun ls hl => ?_)
            exact b_X9_ways_53 F hret hlk hrc  fuel hr hw (lv_sub hl [2, 3, 4, 5, 1, 0] rfl)
          · replace hr := (if_pos hc17).symm.trans hr
            refine lv_lconst (v := 0) F.1 F.2.1 dX9_ways_45 (by decide) ?_
            cases hr
            exact ret_l () F hret hlk hw (Nat.le_refl _) (Nat.le_refl _) dX9_ways_46
        · replace hr := (if_pos hc16).symm.trans hr
          refine lv_aload_n F.1 F.2.1 dX9_ways_32 rfl (lv_at hl 0 rfl) ?_
          refine gf_X9_9 F hw 0 rfl rfl dX9_ways_33 ?_
          refine lv_iload F.1 F.2.1 dX9_ways_36 (lv_at hl 3 rfl) ?_
          obtain ⟨hg18, hr⟩ := g_no hr
          refine ar_l F hw 2 rfl hg18 dX9_ways_38 ?_
          cases hr
          exact ret_l () F hret hlk hw (Nat.le_refl _) (Nat.le_refl _) dX9_ways_39
set_option maxHeartbeats 4000000 in
set_option maxRecDepth 100000 in
theorem b_X9_look_105 {q_t q_p1 q_t_powers : Nat} {z : Int64 × Int32 × Int32 × Int64 × Int64 × (Nat → Int64)} (F : Fx p m c cX9_look 9 s args RX9) (hret : meth.sig.returnType = none) (hlk : meth.locks = false) : ∀ {y1 : Int64} {t_doors : Int64} {t_plus : Int32} {t_minus : Int32} {t_upper : Int64} {t_powers : Nat → Int64} {t_lower : Int64} {p1_places : Int32} {p1_deep : Int32} {p1_turn : Int32} {p1_wheel : Int64} {p1_leaks : Int64} {p1_wants : Int64} {H : Heap} {locs : List Loc} {ls : Array Slot}, f_X9_look_105  y1 t_doors t_plus t_minus t_upper t_powers = some z → Wd dd g mv A s H locs (w_X9_look g q_t q_p1 q_t_powers ((.ref q_p1)) t_doors t_plus t_minus t_upper t_lower p1_places p1_deep p1_turn p1_wheel p1_leaks p1_wants t_powers) → lv_has ls 9 [(0, .ref q_t)] → W p l e (rmH (24) 0 0) s m args below meth c H locs 0 0 (MQ below (Qo dd g none (fun u : Unit => (w_X9_look g q_t q_p1 q_t_powers ((.ref q_p1)) z.1 z.2.1 z.2.2.1 z.2.2.2.1 z.2.2.2.2.1 p1_places p1_deep p1_turn p1_wheel p1_leaks p1_wants z.2.2.2.2.2)) A) args s 0 0 A) (F0 m 105 ls [.long y1, .ref q_t]) := by
  intro y1 t_doors t_plus t_minus t_upper t_powers t_lower p1_places p1_deep p1_turn p1_wheel p1_leaks p1_wants H locs ls hr hw hl
  refine pf_X9_33 F hw 0 rfl (Nat.le_of_ble_eq_true rfl) dX9_look_105 (fun H locs hw => ?_)
  replace hw : Wd dd g mv A s H locs (w_X9_look g q_t q_p1 q_t_powers ((.ref q_p1)) t_doors t_plus t_minus t_upper y1 p1_places p1_deep p1_turn p1_wheel p1_leaks p1_wants t_powers) := hw
  refine lv_aload_n F.1 F.2.1 dX9_look_108 rfl (lv_at hl 0 rfl) ?_
  refine gf_X9_30 F hw 0 rfl rfl dX9_look_109 ?_
  refine lv_aload_n F.1 F.2.1 dX9_look_112 rfl (lv_at hl 0 rfl) ?_
  refine gf_X9_33 F hw 0 rfl rfl dX9_look_113 ?_
  obtain ⟨z1, hz1, hr⟩ := Option.bind_eq_some_iff.mp hr
  refine call_o (wr := [(q_t, .inr (9, [.ref q_t_powers, (.ref q_p1), .long t_doors, .int t_plus, .int t_minus, .long t_upper, .long y1])), (q_p1, .inr (1, [.int p1_places, .int p1_deep, .int p1_turn, .long p1_wheel, .long p1_leaks, .long p1_wants])), (q_t_powers, .inl (g 1, 13, .inr (.inl t_powers)))]) (run_S (As := [.long t_upper, .long y1]) (rest := []) F k_X9_48 (c_X9_commonDivisor l dd g mv t_upper y1 z1 hz1 _) hw [] (by decide) rfl rfl hl.1 rfl (Nat.le_of_ble_eq_true rfl) dX9_look_116 ⟨Nat.le_of_ble_eq_true rfl, Nat.le_of_ble_eq_true rfl⟩ ⟨Nat.le_of_ble_eq_true rfl, Nat.le_of_ble_eq_true rfl⟩) hw [] [0, 1, 2] rfl rfl (by decide) (by decide) (fun u2 H locs hw => ?_)
  replace hw : Wd dd g mv A s H locs (w_X9_look g q_t q_p1 q_t_powers ((.ref q_p1)) t_doors t_plus t_minus t_upper y1 p1_places p1_deep p1_turn p1_wheel p1_leaks p1_wants t_powers) := hw.sub [0, 1, 2] (by decide) rfl
  refine W.eq (g2 := F0 m 119 ls (.long z1 :: [])) rfl ?_
  refine lv_lstore (lv' := [(7, .long z1), (0, .ref q_t)]) F.1 F.2.1 dX9_look_119 hl (by decide) rfl (fun ls hl => ?_)
  refine lv_lload F.1 F.2.1 dX9_look_121 (lv_at hl 0 rfl) ?_
  refine lv_lconst (v := 1) F.1 F.2.1 dX9_look_123 (by decide) ?_
  refine W.lcmp F.1 F.2.1 dX9_look_124 ?_
  refine lv_if_le (tgt := 150) F.1 F.2.1 dX9_look_125 (by decide) (fun hc3 => ?_) (fun hc3 => ?_)
  · replace hr := (if_pos hc3).symm.trans hr
    cases hr
    exact ret_v () F hret hlk hw (Nat.le_refl _) (Nat.le_refl _) dX9_look_150
  · replace hr := (if_neg hc3).symm.trans hr
    refine lv_aload_n F.1 F.2.1 dX9_look_128 rfl (lv_at hl 1 rfl) ?_
    refine lv_aload_n F.1 F.2.1 dX9_look_129 rfl (lv_at hl 1 rfl) ?_
    refine gf_X9_30 F hw 0 rfl rfl dX9_look_130 ?_
    refine lv_lload F.1 F.2.1 dX9_look_133 (lv_at hl 0 rfl) ?_
    obtain ⟨hg4, hr⟩ := g_no hr
    refine lv_ldiv F.1 F.2.1 dX9_look_135 hg4 ?_
    refine pf_X9_30 F hw 0 rfl (Nat.le_of_ble_eq_true rfl) dX9_look_136 (fun H locs hw => ?_)
    replace hw : Wd dd g mv A s H locs (w_X9_look g q_t q_p1 q_t_powers ((.ref q_p1)) t_doors t_plus t_minus ((t_upper / z1)) y1 p1_places p1_deep p1_turn p1_wheel p1_leaks p1_wants t_powers) := hw
    refine lv_aload_n F.1 F.2.1 dX9_look_139 rfl (lv_at hl 1 rfl) ?_
    refine lv_aload_n F.1 F.2.1 dX9_look_140 rfl (lv_at hl 1 rfl) ?_
    refine gf_X9_33 F hw 0 rfl rfl dX9_look_141 ?_
    refine lv_lload F.1 F.2.1 dX9_look_144 (lv_at hl 0 rfl) ?_
    obtain ⟨hg5, hr⟩ := g_no hr
    refine lv_ldiv F.1 F.2.1 dX9_look_146 hg5 ?_
    refine pf_X9_33 F hw 0 rfl (Nat.le_of_ble_eq_true rfl) dX9_look_147 (fun H locs hw => ?_)
    replace hw : Wd dd g mv A s H locs (w_X9_look g q_t q_p1 q_t_powers ((.ref q_p1)) t_doors t_plus t_minus ((t_upper / z1)) ((y1 / z1)) p1_places p1_deep p1_turn p1_wheel p1_leaks p1_wants t_powers) := hw
    cases hr
    exact ret_v () F hret hlk hw (Nat.le_refl _) (Nat.le_refl _) dX9_look_150
set_option maxHeartbeats 4000000 in
set_option maxRecDepth 100000 in
theorem b_X9_look_95 {q_t q_p1 q_t_powers : Nat} {z : Int64 × Int32 × Int32 × Int64 × Int64 × (Nat → Int64)} (F : Fx p m c cX9_look 9 s args RX9) (hret : meth.sig.returnType = none) (hlk : meth.locks = false) : ∀ {t_doors : Int64} {t_plus : Int32} {t_minus : Int32} {t_upper : Int64} {t_powers : Nat → Int64} {t_lower : Int64} {p1_places : Int32} {p1_deep : Int32} {p1_turn : Int32} {p1_wheel : Int64} {p1_leaks : Int64} {p1_wants : Int64} {H : Heap} {locs : List Loc} {ls : Array Slot}, f_X9_look_95  t_doors t_plus t_minus t_upper t_powers = some z → Wd dd g mv A s H locs (w_X9_look g q_t q_p1 q_t_powers ((.ref q_p1)) t_doors t_plus t_minus t_upper t_lower p1_places p1_deep p1_turn p1_wheel p1_leaks p1_wants t_powers) → lv_has ls 9 [(0, .ref q_t)] → W p l e (rmH (24) 0 0) s m args below meth c H locs 0 0 (MQ below (Qo dd g none (fun u : Unit => (w_X9_look g q_t q_p1 q_t_powers ((.ref q_p1)) z.1 z.2.1 z.2.2.1 z.2.2.2.1 z.2.2.2.2.1 p1_places p1_deep p1_turn p1_wheel p1_leaks p1_wants z.2.2.2.2.2)) A) args s 0 0 A) (F0 m 95 ls [.ref q_t]) := by
  intro t_doors t_plus t_minus t_upper t_powers t_lower p1_places p1_deep p1_turn p1_wheel p1_leaks p1_wants H locs ls hr hw hl
  refine lv_lconst (v := 1) F.1 F.2.1 dX9_look_95 (by decide) ?_
  refine lv_goto (tgt := 105) F.1 F.2.1 dX9_look_96 (by decide) ?_
  exact b_X9_look_105 F hret hlk  hr hw (lv_sub hl [0] rfl)
set_option maxHeartbeats 4000000 in
set_option maxRecDepth 100000 in
theorem b_X9_look_34 {q_t q_p1 q_t_powers : Nat} {z : Int64 × Int32 × Int32 × Int64 × Int64 × (Nat → Int64)} (F : Fx p m c cX9_look 9 s args RX9) (hret : meth.sig.returnType = none) (hlk : meth.locks = false) : ∀ (n : Nat), ∀ {x2 : Int32} {x4 : Int32} {x7 : Int32} {t_doors : Int64} {t_plus : Int32} {t_minus : Int32} {p1_places : Int32} {p1_deep : Int32} {p1_wheel : Int64} {p1_leaks : Int64} {p1_wants : Int64} {t_powers : Nat → Int64} {t_upper : Int64} {t_lower : Int64} {p1_turn : Int32} {H : Heap} {locs : List Loc} {ls : Array Slot}, f_X9_look_34  n x2 x4 x7 t_doors t_plus t_minus p1_places p1_deep p1_wheel p1_leaks p1_wants t_powers = some z → Wd dd g mv A s H locs (w_X9_look g q_t q_p1 q_t_powers ((.ref q_p1)) t_doors t_plus t_minus t_upper t_lower p1_places p1_deep p1_turn p1_wheel p1_leaks p1_wants t_powers) → lv_has ls 9 [(0, .ref q_t), (1, .ref q_p1), (2, .int x2), (4, .int x4), (7, .int x7)] → W p l e (rmH (24) 0 0) s m args below meth c H locs 0 0 (MQ below (Qo dd g none (fun u : Unit => (w_X9_look g q_t q_p1 q_t_powers ((.ref q_p1)) z.1 z.2.1 z.2.2.1 z.2.2.2.1 z.2.2.2.2.1 p1_places p1_deep p1_turn p1_wheel p1_leaks p1_wants z.2.2.2.2.2)) A) args s 0 0 A) (F0 m 34 ls []) := by
  intro n
  induction n with
  | zero =>
    intros
    rename_i hr _ _
    cases hr
  | succ n ih =>
    intro x2 x4 x7 t_doors t_plus t_minus p1_places p1_deep p1_wheel p1_leaks p1_wants t_powers t_upper t_lower p1_turn H locs ls hr hw hl
    refine lv_iload F.1 F.2.1 dX9_look_34 (lv_at hl 4 rfl) ?_
    refine lv_bipush (v := 12) F.1 F.2.1 dX9_look_36 (by decide) ?_
    refine lv_icmp_gt (tgt := 67) F.1 F.2.1 dX9_look_38 (by decide) (fun hc6 => ?_) (fun hc6 => ?_)
    · replace hr := (if_pos hc6).symm.trans hr
      refine lv_aload_n F.1 F.2.1 dX9_look_67 rfl (lv_at hl 0 rfl) ?_
      refine lv_aload_n F.1 F.2.1 dX9_look_68 rfl (lv_at hl 0 rfl) ?_
      refine lv_aload_n F.1 F.2.1 dX9_look_69 rfl (lv_at hl 1 rfl) ?_
      refine gf_X9_36 F hw 1 rfl rfl dX9_look_70 ?_
      refine lv_aload_n F.1 F.2.1 dX9_look_73 rfl (lv_at hl 1 rfl) ?_
      refine gf_X9_41 F hw 1 rfl rfl dX9_look_74 ?_
      refine lv_iload_n F.1 F.2.1 dX9_look_77 rfl (lv_at hl 2 rfl) ?_
      obtain ⟨z7, hz7, hr⟩ := Option.bind_eq_some_iff.mp hr
      refine call_o (wr := []) (run_S (As := [.ref q_t, .long p1_wheel, .long p1_leaks, .int x2]) (rest := [.ref q_t]) F k_X9_44 (c_X9_ways l dd g mv 20 q_t q_p1 q_t_powers t_doors t_plus t_minus t_upper t_lower p1_places p1_deep p1_turn p1_wheel p1_leaks p1_wants t_powers p1_wheel p1_leaks x2 z7 hz7 _) hw [0, 1, 2] (by decide) rfl rfl hl.1 rfl (Nat.le_of_ble_eq_true rfl) dX9_look_78 ⟨Nat.le_of_ble_eq_true rfl, Nat.le_of_ble_eq_true rfl⟩ ⟨Nat.le_of_ble_eq_true rfl, Nat.le_of_ble_eq_true rfl⟩) hw [0, 1, 2] [] rfl rfl (by decide) (by decide) (fun u8 H locs hw => ?_)
      replace hw : Wd dd g mv A s H locs (w_X9_look g q_t q_p1 q_t_powers ((.ref q_p1)) t_doors t_plus t_minus t_upper t_lower p1_places p1_deep p1_turn p1_wheel p1_leaks p1_wants t_powers) := hw.sub [0, 1, 2] (by decide) rfl
      refine W.eq (g2 := F0 m 81 ls (.long z7 :: .ref q_t :: [])) rfl ?_
      refine pf_X9_30 F hw 0 rfl (Nat.le_of_ble_eq_true rfl) dX9_look_81 (fun H locs hw => ?_)
      replace hw : Wd dd g mv A s H locs (w_X9_look g q_t q_p1 q_t_powers ((.ref q_p1)) t_doors t_plus t_minus z7 t_lower p1_places p1_deep p1_turn p1_wheel p1_leaks p1_wants t_powers) := hw
      refine lv_aload_n F.1 F.2.1 dX9_look_84 rfl (lv_at hl 0 rfl) ?_
      refine lv_iload_n F.1 F.2.1 dX9_look_85 rfl (lv_at hl 2 rfl) ?_
      refine lv_if_lt (tgt := 95) F.1 F.2.1 dX9_look_86 (by decide) (fun hc9 => ?_) (fun hc9 => ?_)
      · replace hr := (if_pos hc9).symm.trans hr
        exact b_X9_look_95 F hret hlk  hr hw (lv_sub hl [0] rfl)
      · replace hr := (if_neg hc9).symm.trans hr
        refine lv_iload_n F.1 F.2.1 dX9_look_89 rfl (lv_at hl 2 rfl) ?_
        refine lv_bipush (v := 12) F.1 F.2.1 dX9_look_90 (by decide) ?_
        refine lv_icmp_le (tgt := 99) F.1 F.2.1 dX9_look_92 (by decide) (fun hc10 => ?_) (fun hc10 => ?_)
        · replace hr := (if_pos hc10).symm.trans hr
          refine lv_aload_n F.1 F.2.1 dX9_look_99 rfl (lv_at hl 0 rfl) ?_
          refine gf_X9_9 F hw 0 rfl rfl dX9_look_100 ?_
          refine lv_iload_n F.1 F.2.1 dX9_look_103 rfl (lv_at hl 2 rfl) ?_
          obtain ⟨hg11, hr⟩ := g_no hr
          refine ar_l F hw 2 rfl hg11 dX9_look_104 ?_
          exact b_X9_look_105 F hret hlk  hr hw (lv_sub hl [0] rfl)
        · replace hr := (if_neg hc10).symm.trans hr
          exact b_X9_look_95 F hret hlk  hr hw (lv_sub hl [0] rfl)
    · replace hr := (if_neg hc6).symm.trans hr
      refine lv_aload_n F.1 F.2.1 dX9_look_41 rfl (lv_at hl 0 rfl) ?_
      refine gf_X9_9 F hw 0 rfl rfl dX9_look_42 ?_
      refine lv_iload F.1 F.2.1 dX9_look_45 (lv_at hl 4 rfl) ?_
      refine lv_aload_n F.1 F.2.1 dX9_look_47 rfl (lv_at hl 0 rfl) ?_
      refine gf_X9_9 F hw 0 rfl rfl dX9_look_48 ?_
      refine lv_iload F.1 F.2.1 dX9_look_51 (lv_at hl 4 rfl) ?_
      refine lv_iconst (v := 1) F.1 F.2.1 dX9_look_53 (by decide) ?_
      refine lv_isub F.1 F.2.1 dX9_look_54 ?_
      obtain ⟨hg12, hr⟩ := g_no hr
      refine ar_l F hw 2 rfl hg12 dX9_look_55 ?_
      refine lv_iload F.1 F.2.1 dX9_look_56 (lv_at hl 3 rfl) ?_
      refine lv_i2l F.1 F.2.1 dX9_look_58 rfl ?_
      refine lv_lmul F.1 F.2.1 dX9_look_59 ?_
      obtain ⟨hg13, hr⟩ := g_no hr
      refine aw_l F hw 2 rfl hg13 dX9_look_60 (fun H locs hw => ?_)
      replace hw : Wd dd g mv A s H locs (w_X9_look g q_t q_p1 q_t_powers ((.ref q_p1)) t_doors t_plus t_minus t_upper t_lower p1_places p1_deep p1_turn p1_wheel p1_leaks p1_wants ((vp_updL t_powers (x7).toNatClampNeg (((t_powers ((x7 - (1 : Int32))).toNatClampNeg) * x4.toInt64))))) := hw
      refine lv_iinc (v := (x7 + 1)) (lv' := [(7, .int (x7 + 1)), (0, .ref q_t), (1, .ref q_p1), (2, .int x2), (4, .int x4)]) F.1 F.2.1 dX9_look_61 hl (k := 4) rfl rfl (by decide) rfl (fun ls hl => ?_)
      refine lv_goto (tgt := 34) F.1 F.2.1 dX9_look_64 (by decide) ?_
      exact ih hr hw (lv_sub hl [1, 2, 3, 4, 0] rfl)
set_option maxHeartbeats 4000000 in
set_option maxRecDepth 100000 in
theorem c_X9_look (l : Launch) (dd : va_G) (g : Nat → ClassId) (mv : Nat) (q_t : Nat) (q_p1 : Nat) (q_t_powers : Nat) (o_t_chain : Value) (t_doors : Int64) (t_plus : Int32) (t_minus : Int32) (t_upper : Int64) (t_lower : Int64) (p1_places : Int32) (p1_deep : Int32) (p1_turn : Int32) (p1_wheel : Int64) (p1_leaks : Int64) (p1_wants : Int64) (t_powers : Nat → Int64) (a2 : Int32) (a3 : Int32) (a4 : Int32) (a5 : Int64) (z : Int64 × Int32 × Int32 × Int64 × Int64 × (Nat → Int64)) (hr : f_X9_look p1_places p1_deep p1_wheel p1_leaks p1_wants t_powers a2 a3 a4 a5 = some z) (sz : Nat) : Met l yX9_look (.code yX9_look cX9_look 9 none :: WS) (rmH 24 0 0) (va_Pc [.ref q_t, .ref q_p1, .int a2, .int a3, .int a4, .long a5] (PW dd g mv (w_X9_look g q_t q_p1 q_t_powers o_t_chain t_doors t_plus t_minus t_upper t_lower p1_places p1_deep p1_turn p1_wheel p1_leaks p1_wants t_powers) sz)) (Qo dd g none (fun u : Unit => (w_X9_look g q_t q_p1 q_t_powers ((.ref q_p1)) z.1 z.2.1 z.2.2.1 z.2.2.2.1 z.2.2.2.2.1 p1_places p1_deep p1_turn p1_wheel p1_leaks p1_wants z.2.2.2.2.2)) (va_A (w_X9_look g q_t q_p1 q_t_powers o_t_chain t_doors t_plus t_minus t_upper t_lower p1_places p1_deep p1_turn p1_wheel p1_leaks p1_wants t_powers) sz)) 0 0 (va_A (w_X9_look g q_t q_p1 q_t_powers o_t_chain t_doors t_plus t_minus t_upper t_lower p1_places p1_deep p1_turn p1_wheel p1_leaks p1_wants t_powers) sz) := by
  refine Met_intro (by decide) (Nat.le_of_ble_eq_true rfl) ?_
  intro p e s m below meth c A ls F hret hlk hin hw hl
  replace hl : lv_has ls 9 [(0, .ref q_t), (1, .ref q_p1), (2, .int a2), (3, .int a3), (4, .int a4), (5, .long a5)] := hl
  refine lv_aload_n F.1 F.2.1 dX9_look_0 rfl (lv_at hl 0 rfl) ?_
  refine lv_aload_n F.1 F.2.1 dX9_look_1 rfl (lv_at hl 1 rfl) ?_
  refine pf_X9_15 F hw 0 rfl (Nat.le_of_ble_eq_true rfl) dX9_look_2 (fun H locs hw => ?_)
  replace hw : Wd dd g mv A s H locs (w_X9_look g q_t q_p1 q_t_powers ((.ref q_p1)) t_doors t_plus t_minus t_upper t_lower p1_places p1_deep p1_turn p1_wheel p1_leaks p1_wants t_powers) := hw
  refine lv_aload_n F.1 F.2.1 dX9_look_5 rfl (lv_at hl 0 rfl) ?_
  refine lv_lload F.1 F.2.1 dX9_look_6 (lv_at hl 5 rfl) ?_
  refine pf_X9_19 F hw 0 rfl (Nat.le_of_ble_eq_true rfl) dX9_look_8 (fun H locs hw => ?_)
  replace hw : Wd dd g mv A s H locs (w_X9_look g q_t q_p1 q_t_powers ((.ref q_p1)) a5 t_plus t_minus t_upper t_lower p1_places p1_deep p1_turn p1_wheel p1_leaks p1_wants t_powers) := hw
  refine lv_aload_n F.1 F.2.1 dX9_look_11 rfl (lv_at hl 0 rfl) ?_
  refine lv_iload_n F.1 F.2.1 dX9_look_12 rfl (lv_at hl 3 rfl) ?_
  refine pf_X9_23 F hw 0 rfl (Nat.le_of_ble_eq_true rfl) dX9_look_13 (fun H locs hw => ?_)
  replace hw : Wd dd g mv A s H locs (w_X9_look g q_t q_p1 q_t_powers ((.ref q_p1)) a5 a3 t_minus t_upper t_lower p1_places p1_deep p1_turn p1_wheel p1_leaks p1_wants t_powers) := hw
  refine lv_aload_n F.1 F.2.1 dX9_look_16 rfl (lv_at hl 0 rfl) ?_
  refine lv_iload F.1 F.2.1 dX9_look_17 (lv_at hl 4 rfl) ?_
  refine lv_iload_n F.1 F.2.1 dX9_look_19 rfl (lv_at hl 3 rfl) ?_
  refine lv_isub F.1 F.2.1 dX9_look_20 ?_
  refine pf_X9_27 F hw 0 rfl (Nat.le_of_ble_eq_true rfl) dX9_look_21 (fun H locs hw => ?_)
  replace hw : Wd dd g mv A s H locs (w_X9_look g q_t q_p1 q_t_powers ((.ref q_p1)) a5 a3 ((a4 - a3)) t_upper t_lower p1_places p1_deep p1_turn p1_wheel p1_leaks p1_wants t_powers) := hw
  refine lv_aload_n F.1 F.2.1 dX9_look_24 rfl (lv_at hl 0 rfl) ?_
  refine gf_X9_9 F hw 0 rfl rfl dX9_look_25 ?_
  refine lv_iconst (v := 0) F.1 F.2.1 dX9_look_28 (by decide) ?_
  refine lv_lconst (v := 1) F.1 F.2.1 dX9_look_29 (by decide) ?_
  obtain ⟨hg14, hr⟩ := g_no hr
  refine aw_l F hw 2 rfl hg14 dX9_look_30 (fun H locs hw => ?_)
  replace hw : Wd dd g mv A s H locs (w_X9_look g q_t q_p1 q_t_powers ((.ref q_p1)) a5 a3 ((a4 - a3)) t_upper t_lower p1_places p1_deep p1_turn p1_wheel p1_leaks p1_wants ((vp_updL t_powers ((0 : Int32)).toNatClampNeg ((1 : Int64))))) := hw
  refine lv_iconst (v := 1) F.1 F.2.1 dX9_look_31 (by decide) ?_
  refine lv_istore (lv' := [(7, .int (1 : Int32)), (0, .ref q_t), (1, .ref q_p1), (2, .int a2), (3, .int a3), (4, .int a4), (5, .long a5)]) F.1 F.2.1 dX9_look_32 hl (by decide) rfl (fun ls hl => ?_)
  exact b_X9_look_34 F hret hlk  fuel hr hw (lv_sub hl [1, 2, 3, 5, 0] rfl)
set_option maxHeartbeats 4000000 in
set_option maxRecDepth 100000 in
theorem c_X10_copyFrom (l : Launch) (dd : va_G) (g : Nat → ClassId) (mv : Nat) (q_t : Nat) (q_p1 : Nat) (q_p1_signs : Nat) (q_t_signs : Nat) (q_p1_lengths : Nat) (q_t_lengths : Nat) (o_t_fewestSigns : Value) (o_t_isSettled : Value) (o_p1_fewestSigns : Value) (o_p1_isSettled : Value) (t_count : Int32) (p1_count : Int32) (p1_signs : Nat → Int32) (t_signs : Nat → Int32) (p1_lengths : Nat → Int32) (t_lengths : Nat → Int32) (z : Int32 × (Nat → Int32) × (Nat → Int32)) (hr : f_X10_copyFrom p1_count p1_signs t_signs p1_lengths t_lengths = some z) (sz : Nat) : Met l yX10_copyFrom (.code yX10_copyFrom cX10_copyFrom 2 none :: WS) (rmH 1 0 0) (va_Pc [.ref q_t, .ref q_p1] (PW dd g mv (w_X10_copyFrom g q_t q_p1 q_p1_signs q_t_signs q_p1_lengths q_t_lengths o_t_fewestSigns o_t_isSettled o_p1_fewestSigns o_p1_isSettled t_count p1_count p1_signs t_signs p1_lengths t_lengths) sz)) (Qo dd g none (fun u : Unit => (w_X10_copyFrom g q_t q_p1 q_p1_signs q_t_signs q_p1_lengths q_t_lengths o_t_fewestSigns o_t_isSettled o_p1_fewestSigns o_p1_isSettled z.1 p1_count p1_signs z.2.1 p1_lengths z.2.2)) (va_A (w_X10_copyFrom g q_t q_p1 q_p1_signs q_t_signs q_p1_lengths q_t_lengths o_t_fewestSigns o_t_isSettled o_p1_fewestSigns o_p1_isSettled t_count p1_count p1_signs t_signs p1_lengths t_lengths) sz)) 0 0 (va_A (w_X10_copyFrom g q_t q_p1 q_p1_signs q_t_signs q_p1_lengths q_t_lengths o_t_fewestSigns o_t_isSettled o_p1_fewestSigns o_p1_isSettled t_count p1_count p1_signs t_signs p1_lengths t_lengths) sz) := by
  refine Met_intro (by decide) (Nat.le_of_ble_eq_true rfl) ?_
  intro p e s m below meth c A ls F hret hlk hin hw hl
  replace hl : lv_has ls 2 [(0, .ref q_t), (1, .ref q_p1)] := hl
  refine lv_aload_n F.1 F.2.1 dX10_copyFrom_0 rfl (lv_at hl 1 rfl) ?_
  refine gf_X10_11 F hw 1 rfl rfl dX10_copyFrom_1 ?_
  refine lv_iconst (v := 0) F.1 F.2.1 dX10_copyFrom_4 (by decide) ?_
  refine lv_aload_n F.1 F.2.1 dX10_copyFrom_5 rfl (lv_at hl 0 rfl) ?_
  refine gf_X10_11 F hw 0 rfl rfl dX10_copyFrom_6 ?_
  refine lv_iconst (v := 0) F.1 F.2.1 dX10_copyFrom_9 (by decide) ?_
  refine lv_bipush (v := 64) F.1 F.2.1 dX10_copyFrom_10 (by decide) ?_
  refine va_copyi F.1 F.2.1 (F.2.2.1.trans hl.1.symm) F.2.2.2.1 (F.2.2.2.2 _ ml_X10_29) (F.2.2.2.2 _ wJ_ac_n) (F.2.2.2.2 _ wJ_ac_s) (F.2.2.2.2 _ wJ_sys) hw.1 hw.2.1 hw.2.2.1 hw.2.2.2.1 2 3 0 0 rfl rfl rfl rfl rfl (by decide) (by decide) (by decide) (by decide) (by decide) (fun _ _ => rfl) (Nat.le_of_ble_eq_true rfl) (Nat.le_of_ble_eq_true rfl) dX10_copyFrom_12 (fun H locs hP hD hS => ?_)
  replace hw : Wd dd g mv A s H locs (w_X10_copyFrom g q_t q_p1 q_p1_signs q_t_signs q_p1_lengths q_t_lengths o_t_fewestSigns o_t_isSettled o_p1_fewestSigns o_p1_isSettled t_count p1_count p1_signs ((va_cpy p1_signs t_signs ((0 : Int32)).toNatClampNeg ((0 : Int32)).toNatClampNeg ((64 : Int32)).toNatClampNeg)) p1_lengths t_lengths) := ⟨hw.1, hP, hD, hS, hw.2.2.2.2⟩
  refine lv_aload_n F.1 F.2.1 dX10_copyFrom_15 rfl (lv_at hl 1 rfl) ?_
  refine gf_X10_15 F hw 1 rfl rfl dX10_copyFrom_16 ?_
  refine lv_iconst (v := 0) F.1 F.2.1 dX10_copyFrom_19 (by decide) ?_
  refine lv_aload_n F.1 F.2.1 dX10_copyFrom_20 rfl (lv_at hl 0 rfl) ?_
  refine gf_X10_15 F hw 0 rfl rfl dX10_copyFrom_21 ?_
  refine lv_iconst (v := 0) F.1 F.2.1 dX10_copyFrom_24 (by decide) ?_
  refine lv_bipush (v := 8) F.1 F.2.1 dX10_copyFrom_25 (by decide) ?_
  refine va_copyi F.1 F.2.1 (F.2.2.1.trans hl.1.symm) F.2.2.2.1 (F.2.2.2.2 _ ml_X10_29) (F.2.2.2.2 _ wJ_ac_n) (F.2.2.2.2 _ wJ_ac_s) (F.2.2.2.2 _ wJ_sys) hw.1 hw.2.1 hw.2.2.1 hw.2.2.2.1 4 5 0 0 rfl rfl rfl rfl rfl (by decide) (by decide) (by decide) (by decide) (by decide) (fun _ _ => rfl) (Nat.le_of_ble_eq_true rfl) (Nat.le_of_ble_eq_true rfl) dX10_copyFrom_27 (fun H locs hP hD hS => ?_)
  replace hw : Wd dd g mv A s H locs (w_X10_copyFrom g q_t q_p1 q_p1_signs q_t_signs q_p1_lengths q_t_lengths o_t_fewestSigns o_t_isSettled o_p1_fewestSigns o_p1_isSettled t_count p1_count p1_signs ((va_cpy p1_signs t_signs ((0 : Int32)).toNatClampNeg ((0 : Int32)).toNatClampNeg ((64 : Int32)).toNatClampNeg)) p1_lengths ((va_cpy p1_lengths t_lengths ((0 : Int32)).toNatClampNeg ((0 : Int32)).toNatClampNeg ((8 : Int32)).toNatClampNeg))) := ⟨hw.1, hP, hD, hS, hw.2.2.2.2⟩
  refine lv_aload_n F.1 F.2.1 dX10_copyFrom_30 rfl (lv_at hl 0 rfl) ?_
  refine lv_aload_n F.1 F.2.1 dX10_copyFrom_31 rfl (lv_at hl 1 rfl) ?_
  refine gf_X10_18 F hw 1 rfl rfl dX10_copyFrom_32 ?_
  refine pf_X10_18 F hw 0 rfl (Nat.le_of_ble_eq_true rfl) dX10_copyFrom_35 (fun H locs hw => ?_)
  replace hw : Wd dd g mv A s H locs (w_X10_copyFrom g q_t q_p1 q_p1_signs q_t_signs q_p1_lengths q_t_lengths o_t_fewestSigns o_t_isSettled o_p1_fewestSigns o_p1_isSettled p1_count p1_count p1_signs ((va_cpy p1_signs t_signs ((0 : Int32)).toNatClampNeg ((0 : Int32)).toNatClampNeg ((64 : Int32)).toNatClampNeg)) p1_lengths ((va_cpy p1_lengths t_lengths ((0 : Int32)).toNatClampNeg ((0 : Int32)).toNatClampNeg ((8 : Int32)).toNatClampNeg))) := hw
  cases hr
  exact ret_v () F hret hlk hw (Nat.le_refl _) (Nat.le_refl _) dX10_copyFrom_38
set_option maxHeartbeats 4000000 in
set_option maxRecDepth 100000 in
theorem b_X10_isOnPad_2 {q_t q_p2 q_t_signs q_p2_signs : Nat} {z : Int32} (F : Fx p m c cX10_isOnPad 4 s args RX10) (hret : meth.sig.returnType = some .boolean) (hlk : meth.locks = false) : ∀ (n : Nat), ∀ {x1 : Int32} {x3 : Int32} {p2_count : Int32} {t_signs : Nat → Int32} {p2_signs : Nat → Int32} {t_count : Int32} {o_t_lengths : Value} {o_t_fewestSigns : Value} {o_t_isSettled : Value} {H : Heap} {locs : List Loc} {ls : Array Slot}, f_X10_isOnPad_2  n x1 x3 p2_count t_signs p2_signs = some z → Wd dd g mv A s H locs (w_X10_isOnPad g q_t q_p2 q_t_signs q_p2_signs o_t_lengths o_t_fewestSigns o_t_isSettled t_count p2_count t_signs p2_signs) → lv_has ls 4 [(0, .ref q_t), (1, .int x1), (2, .ref q_p2), (3, .int x3)] → W p l e (rmH (0) 0 0) s m args below meth c H locs 0 0 (MQ below (Qo dd g (some (.int z)) (fun u : Unit => (w_X10_isOnPad g q_t q_p2 q_t_signs q_p2_signs o_t_lengths o_t_fewestSigns o_t_isSettled t_count p2_count t_signs p2_signs)) A) args s 0 0 A) (F0 m 2 ls []) := by
  intro n
  induction n with
  | zero =>
    intros
    rename_i hr _ _
    cases hr
  | succ n ih =>
    intro x1 x3 p2_count t_signs p2_signs t_count o_t_lengths o_t_fewestSigns o_t_isSettled H locs ls hr hw hl
    refine lv_iload_n F.1 F.2.1 dX10_isOnPad_2 rfl (lv_at hl 3 rfl) ?_
    refine lv_aload_n F.1 F.2.1 dX10_isOnPad_3 rfl (lv_at hl 2 rfl) ?_
    refine gf_X10_35 F hw 1 rfl rfl dX10_isOnPad_4 ?_
    refine lv_icmp_ge (tgt := 44) F.1 F.2.1 dX10_isOnPad_7 (by decide) (fun hc1 => ?_) (fun hc1 => ?_)
    · replace hr := (if_pos hc1).symm.trans hr
      refine lv_iconst (v := 1) F.1 F.2.1 dX10_isOnPad_44 (by decide) ?_
      cases hr
      exact ret_z (v := (1 : Int32)) () F hret hlk (by decide) hw (Nat.le_refl _) (Nat.le_refl _) dX10_isOnPad_45
    · replace hr := (if_neg hc1).symm.trans hr
      refine lv_iload_n F.1 F.2.1 dX10_isOnPad_10 rfl (lv_at hl 3 rfl) ?_
      refine lv_bipush (v := 8) F.1 F.2.1 dX10_isOnPad_11 (by decide) ?_
      refine lv_icmp_ge (tgt := 44) F.1 F.2.1 dX10_isOnPad_13 (by decide) (fun hc2 => ?_) (fun hc2 => ?_)
      · replace hr := (if_pos hc2).symm.trans hr
        refine lv_iconst (v := 1) F.1 F.2.1 dX10_isOnPad_44 (by decide) ?_
        cases hr
        exact ret_z (v := (1 : Int32)) () F hret hlk (by decide) hw (Nat.le_refl _) (Nat.le_refl _) dX10_isOnPad_45
      · replace hr := (if_neg hc2).symm.trans hr
        refine lv_aload_n F.1 F.2.1 dX10_isOnPad_16 rfl (lv_at hl 0 rfl) ?_
        refine gf_X10_11 F hw 0 rfl rfl dX10_isOnPad_17 ?_
        refine lv_iload_n F.1 F.2.1 dX10_isOnPad_20 rfl (lv_at hl 1 rfl) ?_
        refine lv_bipush (v := 8) F.1 F.2.1 dX10_isOnPad_21 (by decide) ?_
        refine lv_imul F.1 F.2.1 dX10_isOnPad_23 ?_
        refine lv_iload_n F.1 F.2.1 dX10_isOnPad_24 rfl (lv_at hl 3 rfl) ?_
        refine lv_iadd F.1 F.2.1 dX10_isOnPad_25 ?_
        obtain ⟨hg3, hr⟩ := g_no hr
        refine ar_i F hw 2 rfl hg3 dX10_isOnPad_26 ?_
        refine lv_aload_n F.1 F.2.1 dX10_isOnPad_27 rfl (lv_at hl 2 rfl) ?_
        refine gf_X10_42 F hw 1 rfl rfl dX10_isOnPad_28 ?_
        refine lv_iload_n F.1 F.2.1 dX10_isOnPad_31 rfl (lv_at hl 3 rfl) ?_
        obtain ⟨hg4, hr⟩ := g_no hr
        refine ar_i F hw 3 rfl hg4 dX10_isOnPad_32 ?_
        refine lv_icmp_eq (tgt := 38) F.1 F.2.1 dX10_isOnPad_33 (by decide) (fun hc5 => ?_) (fun hc5 => ?_)
        · replace hr := (if_pos hc5).symm.trans hr
          refine lv_iinc (v := (x3 + 1)) (lv' := [(3, .int (x3 + 1)), (0, .ref q_t), (1, .int x1), (2, .ref q_p2)]) F.1 F.2.1 dX10_isOnPad_38 hl (k := 3) rfl rfl (by decide) rfl (fun ls hl => ?_)
          refine lv_goto (tgt := 2) F.1 F.2.1 dX10_isOnPad_41 (by decide) ?_
          exact ih hr hw (lv_sub hl [1, 2, 3, 0] rfl)
        · replace hr := (if_neg hc5).symm.trans hr
          refine lv_iconst (v := 0) F.1 F.2.1 dX10_isOnPad_36 (by decide) ?_
          cases hr
          exact ret_z (v := (0 : Int32)) () F hret hlk (by decide) hw (Nat.le_refl _) (Nat.le_refl _) dX10_isOnPad_37
set_option maxHeartbeats 4000000 in
set_option maxRecDepth 100000 in
theorem c_X10_isOnPad (l : Launch) (dd : va_G) (g : Nat → ClassId) (mv : Nat) (q_t : Nat) (q_p2 : Nat) (q_t_signs : Nat) (q_p2_signs : Nat) (o_t_lengths : Value) (o_t_fewestSigns : Value) (o_t_isSettled : Value) (t_count : Int32) (p2_count : Int32) (t_signs : Nat → Int32) (p2_signs : Nat → Int32) (a1 : Int32) (z : Int32) (hr : f_X10_isOnPad p2_count t_signs p2_signs a1 = some z) (sz : Nat) : Met l yX10_isOnPad (.code yX10_isOnPad cX10_isOnPad 4 (some .boolean) :: WS) (rmH 0 0 0) (va_Pc [.ref q_t, .int a1, .ref q_p2] (PW dd g mv (w_X10_isOnPad g q_t q_p2 q_t_signs q_p2_signs o_t_lengths o_t_fewestSigns o_t_isSettled t_count p2_count t_signs p2_signs) sz)) (Qo dd g (some (.int z)) (fun u : Unit => (w_X10_isOnPad g q_t q_p2 q_t_signs q_p2_signs o_t_lengths o_t_fewestSigns o_t_isSettled t_count p2_count t_signs p2_signs)) (va_A (w_X10_isOnPad g q_t q_p2 q_t_signs q_p2_signs o_t_lengths o_t_fewestSigns o_t_isSettled t_count p2_count t_signs p2_signs) sz)) 0 0 (va_A (w_X10_isOnPad g q_t q_p2 q_t_signs q_p2_signs o_t_lengths o_t_fewestSigns o_t_isSettled t_count p2_count t_signs p2_signs) sz) := by
  refine Met_intro (by decide) (Nat.le_of_ble_eq_true rfl) ?_
  intro p e s m below meth c A ls F hret hlk hin hw hl
  replace hl : lv_has ls 4 [(0, .ref q_t), (1, .int a1), (2, .ref q_p2)] := hl
  refine lv_iconst (v := 0) F.1 F.2.1 dX10_isOnPad_0 (by decide) ?_
  refine lv_istore_n (lv' := [(3, .int (0 : Int32)), (0, .ref q_t), (1, .int a1), (2, .ref q_p2)]) F.1 F.2.1 dX10_isOnPad_1 rfl hl (by decide) rfl (fun ls hl => ?_)
  exact b_X10_isOnPad_2 F hret hlk  fuel hr hw (lv_sub hl [1, 2, 3, 0] rfl)
set_option maxHeartbeats 4000000 in
set_option maxRecDepth 100000 in
theorem b_X10_has_40 {q_t q_p1 q_t_lengths q_t_signs q_p1_signs : Nat} {z : Int32} (F : Fx p m c cX10_has 3 s args RX10) (hret : meth.sig.returnType = some .boolean) (hlk : meth.locks = false) {k2 : Int32 → Int32 → Int32 → (Nat → Int32) → (Nat → Int32) → (Nat → Int32) → Option (Int32)} (hk2 : ∀ {x2 : Int32} {t_count : Int32} {p1_count : Int32} {t_lengths : Nat → Int32} {t_signs : Nat → Int32} {p1_signs : Nat → Int32} {o_t_fewestSigns : Value} {o_t_isSettled : Value} {H : Heap} {locs : List Loc} {ls : Array Slot}, k2 x2 t_count p1_count t_lengths t_signs p1_signs = some z → Wd dd g mv A s H locs (w_X10_has g q_t q_p1 q_t_lengths q_t_signs q_p1_signs o_t_fewestSigns o_t_isSettled t_count p1_count t_lengths t_signs p1_signs) → lv_has ls 3 [(0, .ref q_t), (1, .ref q_p1), (2, .int x2)] → W p l e (rmH (1) 0 0) s m args below meth c H locs 0 0 (MQ below (Qo dd g (some (.int z)) (fun u : Unit => (w_X10_has g q_t q_p1 q_t_lengths q_t_signs q_p1_signs o_t_fewestSigns o_t_isSettled t_count p1_count t_lengths t_signs p1_signs)) A) args s 0 0 A) (F0 m 2 ls [])) : ∀ {x2 : Int32} {t_count : Int32} {p1_count : Int32} {t_lengths : Nat → Int32} {t_signs : Nat → Int32} {p1_signs : Nat → Int32} {o_t_fewestSigns : Value} {o_t_isSettled : Value} {H : Heap} {locs : List Loc} {ls : Array Slot}, f_X10_has_40 k2 x2 t_count p1_count t_lengths t_signs p1_signs = some z → Wd dd g mv A s H locs (w_X10_has g q_t q_p1 q_t_lengths q_t_signs q_p1_signs o_t_fewestSigns o_t_isSettled t_count p1_count t_lengths t_signs p1_signs) → lv_has ls 3 [(0, .ref q_t), (1, .ref q_p1), (2, .int x2)] → W p l e (rmH (1) 0 0) s m args below meth c H locs 0 0 (MQ below (Qo dd g (some (.int z)) (fun u : Unit => (w_X10_has g q_t q_p1 q_t_lengths q_t_signs q_p1_signs o_t_fewestSigns o_t_isSettled t_count p1_count t_lengths t_signs p1_signs)) A) args s 0 0 A) (F0 m 40 ls []) := by
  intro x2 t_count p1_count t_lengths t_signs p1_signs o_t_fewestSigns o_t_isSettled H locs ls hr hw hl
  refine lv_iinc (v := (x2 + 1)) (lv' := [(2, .int (x2 + 1)), (0, .ref q_t), (1, .ref q_p1)]) F.1 F.2.1 dX10_has_40 hl (k := 2) rfl rfl (by decide) rfl (fun ls hl => ?_)
  refine lv_goto (tgt := 2) F.1 F.2.1 dX10_has_43 (by decide) ?_
  exact hk2 hr hw (lv_sub hl [1, 2, 0] rfl)
set_option maxHeartbeats 4000000 in
set_option maxRecDepth 100000 in
theorem b_X10_has_2 {q_t q_p1 q_t_lengths q_t_signs q_p1_signs : Nat} {z : Int32} (F : Fx p m c cX10_has 3 s args RX10) (hret : meth.sig.returnType = some .boolean) (hlk : meth.locks = false) : ∀ (n : Nat), ∀ {x2 : Int32} {t_count : Int32} {p1_count : Int32} {t_lengths : Nat → Int32} {t_signs : Nat → Int32} {p1_signs : Nat → Int32} {o_t_fewestSigns : Value} {o_t_isSettled : Value} {H : Heap} {locs : List Loc} {ls : Array Slot}, f_X10_has_2  n x2 t_count p1_count t_lengths t_signs p1_signs = some z → Wd dd g mv A s H locs (w_X10_has g q_t q_p1 q_t_lengths q_t_signs q_p1_signs o_t_fewestSigns o_t_isSettled t_count p1_count t_lengths t_signs p1_signs) → lv_has ls 3 [(0, .ref q_t), (1, .ref q_p1), (2, .int x2)] → W p l e (rmH (1) 0 0) s m args below meth c H locs 0 0 (MQ below (Qo dd g (some (.int z)) (fun u : Unit => (w_X10_has g q_t q_p1 q_t_lengths q_t_signs q_p1_signs o_t_fewestSigns o_t_isSettled t_count p1_count t_lengths t_signs p1_signs)) A) args s 0 0 A) (F0 m 2 ls []) := by
  intro n
  induction n with
  | zero =>
    intros
    rename_i hr _ _
    cases hr
  | succ n ih =>
    intro x2 t_count p1_count t_lengths t_signs p1_signs o_t_fewestSigns o_t_isSettled H locs ls hr hw hl
    refine lv_iload_n F.1 F.2.1 dX10_has_2 rfl (lv_at hl 2 rfl) ?_
    refine lv_aload_n F.1 F.2.1 dX10_has_3 rfl (lv_at hl 0 rfl) ?_
    refine gf_X10_18 F hw 0 rfl rfl dX10_has_4 ?_
    refine lv_icmp_ge (tgt := 46) F.1 F.2.1 dX10_has_7 (by decide) (fun hc1 => ?_) (fun hc1 => ?_)
    · replace hr := (if_pos hc1).symm.trans hr
      refine lv_iconst (v := 0) F.1 F.2.1 dX10_has_46 (by decide) ?_
      cases hr
      exact ret_z (v := (0 : Int32)) () F hret hlk (by decide) hw (Nat.le_refl _) (Nat.le_refl _) dX10_has_47
    · replace hr := (if_neg hc1).symm.trans hr
      refine lv_iload_n F.1 F.2.1 dX10_has_10 rfl (lv_at hl 2 rfl) ?_
      refine lv_bipush (v := 8) F.1 F.2.1 dX10_has_11 (by decide) ?_
      refine lv_icmp_ge (tgt := 46) F.1 F.2.1 dX10_has_13 (by decide) (fun hc2 => ?_) (fun hc2 => ?_)
      · replace hr := (if_pos hc2).symm.trans hr
        refine lv_iconst (v := 0) F.1 F.2.1 dX10_has_46 (by decide) ?_
        cases hr
        exact ret_z (v := (0 : Int32)) () F hret hlk (by decide) hw (Nat.le_refl _) (Nat.le_refl _) dX10_has_47
      · replace hr := (if_neg hc2).symm.trans hr
        refine lv_aload_n F.1 F.2.1 dX10_has_16 rfl (lv_at hl 0 rfl) ?_
        refine gf_X10_15 F hw 0 rfl rfl dX10_has_17 ?_
        refine lv_iload_n F.1 F.2.1 dX10_has_20 rfl (lv_at hl 2 rfl) ?_
        obtain ⟨hg3, hr⟩ := g_no hr
        refine ar_i F hw 2 rfl hg3 dX10_has_21 ?_
        refine lv_aload_n F.1 F.2.1 dX10_has_22 rfl (lv_at hl 1 rfl) ?_
        refine gf_X10_35 F hw 1 rfl rfl dX10_has_23 ?_
        refine lv_icmp_ne (tgt := 40) F.1 F.2.1 dX10_has_26 (by decide) (fun hc4 => ?_) (fun hc4 => ?_)
        · replace hr := (if_neg hc4).symm.trans hr
          exact b_X10_has_40 F hret hlk (ih) hr hw (lv_sub hl [0, 1, 2] rfl)
        · replace hr := (if_pos hc4).symm.trans hr
          refine lv_aload_n F.1 F.2.1 dX10_has_29 rfl (lv_at hl 0 rfl) ?_
          refine lv_iload_n F.1 F.2.1 dX10_has_30 rfl (lv_at hl 2 rfl) ?_
          refine lv_aload_n F.1 F.2.1 dX10_has_31 rfl (lv_at hl 1 rfl) ?_
          obtain ⟨z5, hz5, hr⟩ := Option.bind_eq_some_iff.mp hr
          refine call_o (wr := [(q_t_lengths, .inl (g 0, 8, .inl t_lengths))]) (run_V (As := [.int x2, .ref q_p1]) (rest := []) F k_X10_38 (c_X10_isOnPad l dd g mv q_t q_p1 q_t_signs q_p1_signs ((.ref q_t_lengths)) o_t_fewestSigns o_t_isSettled t_count p1_count t_signs p1_signs x2 z5 hz5 _) hw [0, 1, 3, 4] (by decide) rfl (ci := 10) rfl rfl rfl rfl hl.1 rfl (Nat.le_of_ble_eq_true rfl) dX10_has_32 ⟨Nat.le_of_ble_eq_true rfl, Nat.le_of_ble_eq_true rfl⟩ ⟨Nat.le_of_ble_eq_true rfl, Nat.le_of_ble_eq_true rfl⟩) hw [0, 1, 3, 4] [2] rfl rfl (by decide) (by decide) (fun u6 H locs hw => ?_)
          replace hw : Wd dd g mv A s H locs (w_X10_has g q_t q_p1 q_t_lengths q_t_signs q_p1_signs o_t_fewestSigns o_t_isSettled t_count p1_count t_lengths t_signs p1_signs) := hw.sub [1, 2, 0, 3, 4] (by decide) rfl
          refine W.eq (g2 := F0 m 35 ls (.int z5 :: [])) rfl ?_
          refine lv_if_eq (tgt := 40) F.1 F.2.1 dX10_has_35 (by decide) (fun hc7 => ?_) (fun hc7 => ?_)
          · replace hr := (if_pos hc7).symm.trans hr
            exact b_X10_has_40 F hret hlk (ih) hr hw (lv_sub hl [0, 1, 2] rfl)
          · replace hr := (if_neg hc7).symm.trans hr
            refine lv_iconst (v := 1) F.1 F.2.1 dX10_has_38 (by decide) ?_
            cases hr
            exact ret_z (v := (1 : Int32)) () F hret hlk (by decide) hw (Nat.le_refl _) (Nat.le_refl _) dX10_has_39
set_option maxHeartbeats 4000000 in
set_option maxRecDepth 100000 in
theorem c_X10_has (l : Launch) (dd : va_G) (g : Nat → ClassId) (mv : Nat) (q_t : Nat) (q_p1 : Nat) (q_t_lengths : Nat) (q_t_signs : Nat) (q_p1_signs : Nat) (o_t_fewestSigns : Value) (o_t_isSettled : Value) (t_count : Int32) (p1_count : Int32) (t_lengths : Nat → Int32) (t_signs : Nat → Int32) (p1_signs : Nat → Int32) (z : Int32) (hr : f_X10_has t_count p1_count t_lengths t_signs p1_signs = some z) (sz : Nat) : Met l yX10_has (.code yX10_has cX10_has 3 (some .boolean) :: WS) (rmH 1 0 0) (va_Pc [.ref q_t, .ref q_p1] (PW dd g mv (w_X10_has g q_t q_p1 q_t_lengths q_t_signs q_p1_signs o_t_fewestSigns o_t_isSettled t_count p1_count t_lengths t_signs p1_signs) sz)) (Qo dd g (some (.int z)) (fun u : Unit => (w_X10_has g q_t q_p1 q_t_lengths q_t_signs q_p1_signs o_t_fewestSigns o_t_isSettled t_count p1_count t_lengths t_signs p1_signs)) (va_A (w_X10_has g q_t q_p1 q_t_lengths q_t_signs q_p1_signs o_t_fewestSigns o_t_isSettled t_count p1_count t_lengths t_signs p1_signs) sz)) 0 0 (va_A (w_X10_has g q_t q_p1 q_t_lengths q_t_signs q_p1_signs o_t_fewestSigns o_t_isSettled t_count p1_count t_lengths t_signs p1_signs) sz) := by
  refine Met_intro (by decide) (Nat.le_of_ble_eq_true rfl) ?_
  intro p e s m below meth c A ls F hret hlk hin hw hl
  replace hl : lv_has ls 3 [(0, .ref q_t), (1, .ref q_p1)] := hl
  refine lv_iconst (v := 0) F.1 F.2.1 dX10_has_0 (by decide) ?_
  refine lv_istore_n (lv' := [(2, .int (0 : Int32)), (0, .ref q_t), (1, .ref q_p1)]) F.1 F.2.1 dX10_has_1 rfl hl (by decide) rfl (fun ls hl => ?_)
  exact b_X10_has_2 F hret hlk  fuel hr hw (lv_sub hl [1, 2, 0] rfl)
set_option maxHeartbeats 4000000 in
set_option maxRecDepth 100000 in
theorem b_X10_put_53 {q_t q_p1 q_t_signs q_p1_signs q_t_lengths : Nat} {z : Int32 × Int32 × (Nat → Int32) × (Nat → Int32)} (F : Fx p m c cX10_put 3 s args RX10) (hret : meth.sig.returnType = some .boolean) (hlk : meth.locks = false) : ∀ {t_count : Int32} {p1_count : Int32} {t_signs : Nat → Int32} {t_lengths : Nat → Int32} {p1_signs : Nat → Int32} {o_t_fewestSigns : Value} {o_t_isSettled : Value} {H : Heap} {locs : List Loc} {ls : Array Slot}, f_X10_put_53  t_count p1_count t_signs t_lengths = some z → Wd dd g mv A s H locs (w_X10_put g q_t q_p1 q_t_signs q_p1_signs q_t_lengths o_t_fewestSigns o_t_isSettled t_count p1_count t_signs p1_signs t_lengths) → lv_has ls 3 [(0, .ref q_t), (1, .ref q_p1)] → W p l e (rmH (0) 0 0) s m args below meth c H locs 0 0 (MQ below (Qo dd g (some (.int z.1)) (fun u : Unit => (w_X10_put g q_t q_p1 q_t_signs q_p1_signs q_t_lengths o_t_fewestSigns o_t_isSettled z.2.1 p1_count z.2.2.1 p1_signs z.2.2.2)) A) args s 0 0 A) (F0 m 53 ls []) := by
  intro t_count p1_count t_signs t_lengths p1_signs o_t_fewestSigns o_t_isSettled H locs ls hr hw hl
  refine lv_aload_n F.1 F.2.1 dX10_put_53 rfl (lv_at hl 0 rfl) ?_
  refine gf_X10_15 F hw 0 rfl rfl dX10_put_54 ?_
  refine lv_aload_n F.1 F.2.1 dX10_put_57 rfl (lv_at hl 0 rfl) ?_
  refine gf_X10_18 F hw 0 rfl rfl dX10_put_58 ?_
  refine lv_aload_n F.1 F.2.1 dX10_put_61 rfl (lv_at hl 1 rfl) ?_
  refine gf_X10_35 F hw 1 rfl rfl dX10_put_62 ?_
  obtain ⟨hg1, hr⟩ := g_no hr
  refine aw_i F hw 4 rfl hg1 dX10_put_65 (fun H locs hw => ?_)
  replace hw : Wd dd g mv A s H locs (w_X10_put g q_t q_p1 q_t_signs q_p1_signs q_t_lengths o_t_fewestSigns o_t_isSettled t_count p1_count t_signs p1_signs ((upd t_lengths (t_count).toNatClampNeg p1_count))) := hw
  refine lv_aload_n F.1 F.2.1 dX10_put_66 rfl (lv_at hl 0 rfl) ?_
  refine lv_dup F.1 F.2.1 dX10_put_67 rfl ?_
  refine gf_X10_18 F hw 0 rfl rfl dX10_put_68 ?_
  refine lv_iconst (v := 1) F.1 F.2.1 dX10_put_71 (by decide) ?_
  refine lv_iadd F.1 F.2.1 dX10_put_72 ?_
  refine pf_X10_18 F hw 0 rfl (Nat.le_of_ble_eq_true rfl) dX10_put_73 (fun H locs hw => ?_)
  replace hw : Wd dd g mv A s H locs (w_X10_put g q_t q_p1 q_t_signs q_p1_signs q_t_lengths o_t_fewestSigns o_t_isSettled ((t_count + (1 : Int32))) p1_count t_signs p1_signs ((upd t_lengths (t_count).toNatClampNeg p1_count))) := hw
  refine lv_iconst (v := 1) F.1 F.2.1 dX10_put_76 (by decide) ?_
  cases hr
  exact ret_z (v := (1 : Int32)) () F hret hlk (by decide) hw (Nat.le_refl _) (Nat.le_refl _) dX10_put_77
set_option maxHeartbeats 4000000 in
set_option maxRecDepth 100000 in
theorem b_X10_put_13 {q_t q_p1 q_t_signs q_p1_signs q_t_lengths : Nat} {z : Int32 × Int32 × (Nat → Int32) × (Nat → Int32)} (F : Fx p m c cX10_put 3 s args RX10) (hret : meth.sig.returnType = some .boolean) (hlk : meth.locks = false) : ∀ (n : Nat), ∀ {x2 : Int32} {t_count : Int32} {p1_count : Int32} {t_signs : Nat → Int32} {p1_signs : Nat → Int32} {t_lengths : Nat → Int32} {o_t_fewestSigns : Value} {o_t_isSettled : Value} {H : Heap} {locs : List Loc} {ls : Array Slot}, f_X10_put_13  n x2 t_count p1_count t_signs p1_signs t_lengths = some z → Wd dd g mv A s H locs (w_X10_put g q_t q_p1 q_t_signs q_p1_signs q_t_lengths o_t_fewestSigns o_t_isSettled t_count p1_count t_signs p1_signs t_lengths) → lv_has ls 3 [(0, .ref q_t), (1, .ref q_p1), (2, .int x2)] → W p l e (rmH (0) 0 0) s m args below meth c H locs 0 0 (MQ below (Qo dd g (some (.int z.1)) (fun u : Unit => (w_X10_put g q_t q_p1 q_t_signs q_p1_signs q_t_lengths o_t_fewestSigns o_t_isSettled z.2.1 p1_count z.2.2.1 p1_signs z.2.2.2)) A) args s 0 0 A) (F0 m 13 ls []) := by
  intro n
  induction n with
  | zero =>
    intros
    rename_i hr _ _
    cases hr
  | succ n ih =>
    intro x2 t_count p1_count t_signs p1_signs t_lengths o_t_fewestSigns o_t_isSettled H locs ls hr hw hl
    refine lv_iload_n F.1 F.2.1 dX10_put_13 rfl (lv_at hl 2 rfl) ?_
    refine lv_aload_n F.1 F.2.1 dX10_put_14 rfl (lv_at hl 1 rfl) ?_
    refine gf_X10_35 F hw 1 rfl rfl dX10_put_15 ?_
    refine lv_icmp_ge (tgt := 53) F.1 F.2.1 dX10_put_18 (by decide) (fun hc2 => ?_) (fun hc2 => ?_)
    · replace hr := (if_pos hc2).symm.trans hr
      exact b_X10_put_53 F hret hlk  hr hw (lv_sub hl [0, 1] rfl)
    · replace hr := (if_neg hc2).symm.trans hr
      refine lv_iload_n F.1 F.2.1 dX10_put_21 rfl (lv_at hl 2 rfl) ?_
      refine lv_bipush (v := 8) F.1 F.2.1 dX10_put_22 (by decide) ?_
      refine lv_icmp_ge (tgt := 53) F.1 F.2.1 dX10_put_24 (by decide) (fun hc3 => ?_) (fun hc3 => ?_)
      · replace hr := (if_pos hc3).symm.trans hr
        exact b_X10_put_53 F hret hlk  hr hw (lv_sub hl [0, 1] rfl)
      · replace hr := (if_neg hc3).symm.trans hr
        refine lv_aload_n F.1 F.2.1 dX10_put_27 rfl (lv_at hl 0 rfl) ?_
        refine gf_X10_11 F hw 0 rfl rfl dX10_put_28 ?_
        refine lv_aload_n F.1 F.2.1 dX10_put_31 rfl (lv_at hl 0 rfl) ?_
        refine gf_X10_18 F hw 0 rfl rfl dX10_put_32 ?_
        refine lv_bipush (v := 8) F.1 F.2.1 dX10_put_35 (by decide) ?_
        refine lv_imul F.1 F.2.1 dX10_put_37 ?_
        refine lv_iload_n F.1 F.2.1 dX10_put_38 rfl (lv_at hl 2 rfl) ?_
        refine lv_iadd F.1 F.2.1 dX10_put_39 ?_
        refine lv_aload_n F.1 F.2.1 dX10_put_40 rfl (lv_at hl 1 rfl) ?_
        refine gf_X10_42 F hw 1 rfl rfl dX10_put_41 ?_
        refine lv_iload_n F.1 F.2.1 dX10_put_44 rfl (lv_at hl 2 rfl) ?_
        obtain ⟨hg4, hr⟩ := g_no hr
        refine ar_i F hw 3 rfl hg4 dX10_put_45 ?_
        obtain ⟨hg5, hr⟩ := g_no hr
        refine aw_i F hw 2 rfl hg5 dX10_put_46 (fun H locs hw => ?_)
        replace hw : Wd dd g mv A s H locs (w_X10_put g q_t q_p1 q_t_signs q_p1_signs q_t_lengths o_t_fewestSigns o_t_isSettled t_count p1_count ((upd t_signs (((t_count * (8 : Int32)) + x2)).toNatClampNeg ((p1_signs (x2).toNatClampNeg)))) p1_signs t_lengths) := hw
        refine lv_iinc (v := (x2 + 1)) (lv' := [(2, .int (x2 + 1)), (0, .ref q_t), (1, .ref q_p1)]) F.1 F.2.1 dX10_put_47 hl (k := 2) rfl rfl (by decide) rfl (fun ls hl => ?_)
        refine lv_goto (tgt := 13) F.1 F.2.1 dX10_put_50 (by decide) ?_
        exact ih hr hw (lv_sub hl [1, 2, 0] rfl)
set_option maxHeartbeats 4000000 in
set_option maxRecDepth 100000 in
theorem c_X10_put (l : Launch) (dd : va_G) (g : Nat → ClassId) (mv : Nat) (q_t : Nat) (q_p1 : Nat) (q_t_signs : Nat) (q_p1_signs : Nat) (q_t_lengths : Nat) (o_t_fewestSigns : Value) (o_t_isSettled : Value) (t_count : Int32) (p1_count : Int32) (t_signs : Nat → Int32) (p1_signs : Nat → Int32) (t_lengths : Nat → Int32) (z : Int32 × Int32 × (Nat → Int32) × (Nat → Int32)) (hr : f_X10_put t_count p1_count t_signs p1_signs t_lengths = some z) (sz : Nat) : Met l yX10_put (.code yX10_put cX10_put 3 (some .boolean) :: WS) (rmH 0 0 0) (va_Pc [.ref q_t, .ref q_p1] (PW dd g mv (w_X10_put g q_t q_p1 q_t_signs q_p1_signs q_t_lengths o_t_fewestSigns o_t_isSettled t_count p1_count t_signs p1_signs t_lengths) sz)) (Qo dd g (some (.int z.1)) (fun u : Unit => (w_X10_put g q_t q_p1 q_t_signs q_p1_signs q_t_lengths o_t_fewestSigns o_t_isSettled z.2.1 p1_count z.2.2.1 p1_signs z.2.2.2)) (va_A (w_X10_put g q_t q_p1 q_t_signs q_p1_signs q_t_lengths o_t_fewestSigns o_t_isSettled t_count p1_count t_signs p1_signs t_lengths) sz)) 0 0 (va_A (w_X10_put g q_t q_p1 q_t_signs q_p1_signs q_t_lengths o_t_fewestSigns o_t_isSettled t_count p1_count t_signs p1_signs t_lengths) sz) := by
  refine Met_intro (by decide) (Nat.le_of_ble_eq_true rfl) ?_
  intro p e s m below meth c A ls F hret hlk hin hw hl
  replace hl : lv_has ls 3 [(0, .ref q_t), (1, .ref q_p1)] := hl
  refine lv_aload_n F.1 F.2.1 dX10_put_0 rfl (lv_at hl 0 rfl) ?_
  refine gf_X10_18 F hw 0 rfl rfl dX10_put_1 ?_
  refine lv_bipush (v := 8) F.1 F.2.1 dX10_put_4 (by decide) ?_
  refine lv_icmp_lt (tgt := 11) F.1 F.2.1 dX10_put_6 (by decide) (fun hc6 => ?_) (fun hc6 => ?_)
  · replace hr := (if_pos hc6).symm.trans hr
    refine lv_iconst (v := 0) F.1 F.2.1 dX10_put_11 (by decide) ?_
    refine lv_istore_n (lv' := [(2, .int (0 : Int32)), (0, .ref q_t), (1, .ref q_p1)]) F.1 F.2.1 dX10_put_12 rfl hl (by decide) rfl (fun ls hl => ?_)
    exact b_X10_put_13 F hret hlk  fuel hr hw (lv_sub hl [1, 2, 0] rfl)
  · replace hr := (if_neg hc6).symm.trans hr
    refine lv_iconst (v := 0) F.1 F.2.1 dX10_put_9 (by decide) ?_
    cases hr
    exact ret_z (v := (0 : Int32)) () F hret hlk (by decide) hw (Nat.le_refl _) (Nat.le_refl _) dX10_put_10
set_option maxHeartbeats 4000000 in
set_option maxRecDepth 100000 in
theorem b_X10_agree_3 {q_t q_t_lengths q_t_signs : Nat} {z : Int32} (F : Fx p m c cX10_agree 5 s args RX10) (hret : meth.sig.returnType = some .boolean) (hlk : meth.locks = false) : ∀ (n : Nat), ∀ {x1 : Int32} {x2 : Int32} {x3 : Int32} {x4 : Int32} {t_lengths : Nat → Int32} {t_signs : Nat → Int32} {t_count : Int32} {o_t_fewestSigns : Value} {o_t_isSettled : Value} {H : Heap} {locs : List Loc} {ls : Array Slot}, f_X10_agree_3  n x1 x2 x3 x4 t_lengths t_signs = some z → Wd dd g mv A s H locs (w_X10_agree g q_t q_t_lengths q_t_signs o_t_fewestSigns o_t_isSettled t_count t_lengths t_signs) → lv_has ls 5 [(0, .ref q_t), (1, .int x1), (2, .int x2), (3, .int x3), (4, .int x4)] → W p l e (rmH (0) 0 0) s m args below meth c H locs 0 0 (MQ below (Qo dd g (some (.int z)) (fun u : Unit => (w_X10_agree g q_t q_t_lengths q_t_signs o_t_fewestSigns o_t_isSettled t_count t_lengths t_signs)) A) args s 0 0 A) (F0 m 3 ls []) := by
  intro n
  induction n with
  | zero =>
    intros
    rename_i hr _ _
    cases hr
  | succ n ih =>
    intro x1 x2 x3 x4 t_lengths t_signs t_count o_t_fewestSigns o_t_isSettled H locs ls hr hw hl
    refine lv_iload_n F.1 F.2.1 dX10_agree_3 rfl (lv_at hl 2 rfl) ?_
    refine lv_iload F.1 F.2.1 dX10_agree_4 (lv_at hl 4 rfl) ?_
    refine lv_iadd F.1 F.2.1 dX10_agree_6 ?_
    refine lv_aload_n F.1 F.2.1 dX10_agree_7 rfl (lv_at hl 0 rfl) ?_
    refine gf_X10_15 F hw 0 rfl rfl dX10_agree_8 ?_
    refine lv_iload_n F.1 F.2.1 dX10_agree_11 rfl (lv_at hl 1 rfl) ?_
    obtain ⟨hg1, hr⟩ := g_no hr
    refine ar_i F hw 1 rfl hg1 dX10_agree_12 ?_
    refine lv_icmp_ge (tgt := 64) F.1 F.2.1 dX10_agree_13 (by decide) (fun hc2 => ?_) (fun hc2 => ?_)
    · replace hr := (if_pos hc2).symm.trans hr
      refine lv_iconst (v := 1) F.1 F.2.1 dX10_agree_64 (by decide) ?_
      cases hr
      exact ret_z (v := (1 : Int32)) () F hret hlk (by decide) hw (Nat.le_refl _) (Nat.le_refl _) dX10_agree_65
    · replace hr := (if_neg hc2).symm.trans hr
      refine lv_iload F.1 F.2.1 dX10_agree_16 (lv_at hl 4 rfl) ?_
      refine lv_aload_n F.1 F.2.1 dX10_agree_18 rfl (lv_at hl 0 rfl) ?_
      refine gf_X10_15 F hw 0 rfl rfl dX10_agree_19 ?_
      refine lv_iload_n F.1 F.2.1 dX10_agree_22 rfl (lv_at hl 3 rfl) ?_
      obtain ⟨hg3, hr⟩ := g_no hr
      refine ar_i F hw 1 rfl hg3 dX10_agree_23 ?_
      refine lv_icmp_ge (tgt := 64) F.1 F.2.1 dX10_agree_24 (by decide) (fun hc4 => ?_) (fun hc4 => ?_)
      · replace hr := (if_pos hc4).symm.trans hr
        refine lv_iconst (v := 1) F.1 F.2.1 dX10_agree_64 (by decide) ?_
        cases hr
        exact ret_z (v := (1 : Int32)) () F hret hlk (by decide) hw (Nat.le_refl _) (Nat.le_refl _) dX10_agree_65
      · replace hr := (if_neg hc4).symm.trans hr
        refine lv_aload_n F.1 F.2.1 dX10_agree_27 rfl (lv_at hl 0 rfl) ?_
        refine gf_X10_11 F hw 0 rfl rfl dX10_agree_28 ?_
        refine lv_iload_n F.1 F.2.1 dX10_agree_31 rfl (lv_at hl 1 rfl) ?_
        refine lv_bipush (v := 8) F.1 F.2.1 dX10_agree_32 (by decide) ?_
        refine lv_imul F.1 F.2.1 dX10_agree_34 ?_
        refine lv_iload_n F.1 F.2.1 dX10_agree_35 rfl (lv_at hl 2 rfl) ?_
        refine lv_iadd F.1 F.2.1 dX10_agree_36 ?_
        refine lv_iload F.1 F.2.1 dX10_agree_37 (lv_at hl 4 rfl) ?_
        refine lv_iadd F.1 F.2.1 dX10_agree_39 ?_
        obtain ⟨hg5, hr⟩ := g_no hr
        refine ar_i F hw 2 rfl hg5 dX10_agree_40 ?_
        refine lv_aload_n F.1 F.2.1 dX10_agree_41 rfl (lv_at hl 0 rfl) ?_
        refine gf_X10_11 F hw 0 rfl rfl dX10_agree_42 ?_
        refine lv_iload_n F.1 F.2.1 dX10_agree_45 rfl (lv_at hl 3 rfl) ?_
        refine lv_bipush (v := 8) F.1 F.2.1 dX10_agree_46 (by decide) ?_
        refine lv_imul F.1 F.2.1 dX10_agree_48 ?_
        refine lv_iload F.1 F.2.1 dX10_agree_49 (lv_at hl 4 rfl) ?_
        refine lv_iadd F.1 F.2.1 dX10_agree_51 ?_
        obtain ⟨hg6, hr⟩ := g_no hr
        refine ar_i F hw 2 rfl hg6 dX10_agree_52 ?_
        refine lv_icmp_eq (tgt := 58) F.1 F.2.1 dX10_agree_53 (by decide) (fun hc7 => ?_) (fun hc7 => ?_)
        · replace hr := (if_pos hc7).symm.trans hr
          refine lv_iinc (v := (x4 + 1)) (lv' := [(4, .int (x4 + 1)), (0, .ref q_t), (1, .int x1), (2, .int x2), (3, .int x3)]) F.1 F.2.1 dX10_agree_58 hl (k := 4) rfl rfl (by decide) rfl (fun ls hl => ?_)
          refine lv_goto (tgt := 3) F.1 F.2.1 dX10_agree_61 (by decide) ?_
          exact ih hr hw (lv_sub hl [1, 2, 3, 4, 0] rfl)
        · replace hr := (if_neg hc7).symm.trans hr
          refine lv_iconst (v := 0) F.1 F.2.1 dX10_agree_56 (by decide) ?_
          cases hr
          exact ret_z (v := (0 : Int32)) () F hret hlk (by decide) hw (Nat.le_refl _) (Nat.le_refl _) dX10_agree_57
set_option maxHeartbeats 4000000 in
set_option maxRecDepth 100000 in
theorem c_X10_agree (l : Launch) (dd : va_G) (g : Nat → ClassId) (mv : Nat) (q_t : Nat) (q_t_lengths : Nat) (q_t_signs : Nat) (o_t_fewestSigns : Value) (o_t_isSettled : Value) (t_count : Int32) (t_lengths : Nat → Int32) (t_signs : Nat → Int32) (a1 : Int32) (a2 : Int32) (a3 : Int32) (z : Int32) (hr : f_X10_agree t_lengths t_signs a1 a2 a3 = some z) (sz : Nat) : Met l yX10_agree (.code yX10_agree cX10_agree 5 (some .boolean) :: WS) (rmH 0 0 0) (va_Pc [.ref q_t, .int a1, .int a2, .int a3] (PW dd g mv (w_X10_agree g q_t q_t_lengths q_t_signs o_t_fewestSigns o_t_isSettled t_count t_lengths t_signs) sz)) (Qo dd g (some (.int z)) (fun u : Unit => (w_X10_agree g q_t q_t_lengths q_t_signs o_t_fewestSigns o_t_isSettled t_count t_lengths t_signs)) (va_A (w_X10_agree g q_t q_t_lengths q_t_signs o_t_fewestSigns o_t_isSettled t_count t_lengths t_signs) sz)) 0 0 (va_A (w_X10_agree g q_t q_t_lengths q_t_signs o_t_fewestSigns o_t_isSettled t_count t_lengths t_signs) sz) := by
  refine Met_intro (by decide) (Nat.le_of_ble_eq_true rfl) ?_
  intro p e s m below meth c A ls F hret hlk hin hw hl
  replace hl : lv_has ls 5 [(0, .ref q_t), (1, .int a1), (2, .int a2), (3, .int a3)] := hl
  refine lv_iconst (v := 0) F.1 F.2.1 dX10_agree_0 (by decide) ?_
  refine lv_istore (lv' := [(4, .int (0 : Int32)), (0, .ref q_t), (1, .int a1), (2, .int a2), (3, .int a3)]) F.1 F.2.1 dX10_agree_1 hl (by decide) rfl (fun ls hl => ?_)
  exact b_X10_agree_3 F hret hlk  fuel hr hw (lv_sub hl [1, 2, 3, 4, 0] rfl)
end WALK
