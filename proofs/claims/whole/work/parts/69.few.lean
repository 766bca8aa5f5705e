theorem mo_ltB {s p : Nat} (hs : s < 100) (hp : p < 2 ^ 31) : (nI s - 1 < nI p) ↔ s < p + 1 := by
  rw [fa_lt, mo_toInt hs, nI_toInt hp]; omega
theorem mask_all : (18159675916816 : Int64) = mask (fun _ => true) := by
  rw [c_THIRST]
  exact v9_congr (fun k _ => (if_pos rfl).symm)
theorem mask_one {k : Nat} (hk : k < 9) : f_X11_flag (nI k) = some (mask (fun j => decide (j = k))) := by
  rw [c_flag hk]
  exact congrArg some (v9_congr (fun j _ => by simp))
theorem sign_b {b : Nat} (h : b < 2) : f_X12_signOf (nI b) = some (mvI b) := by
  have h2 : b = 0 ∨ b = 1 := by omega
  rcases h2 with rfl | rfl <;> rfl
theorem ush_bit {y j : Nat} (hy : y < 65536) (hj : j < 16) : (((nI y).toUInt32 >>> ((nI j).toUInt32 &&& Int32.toUInt32 31)).toInt32 &&& 1) = nI (y / 2 ^ j % 2) := by
  rw [nx_ush hy (by omega), Nat.shiftRight_eq_div_pow, pk_andN (Nat.lt_of_le_of_lt (Nat.div_le_self _ _) (by omega)) 1 (by decide), show 2 ^ 1 = 2 by decide]
theorem few_tail {n dp : Nat} {wt : Nat → Nat} {a : AS} {o : Option (Nat × Nat)} (ho : isF n dp wt (fun _ => true) 15 a o) (a1 At : Int32) (s1 : Int64) (s2 s3 s4 : Int32) (r0 : Int32) (hr : ∀ m y, o = some (m, y) → r0 = nI y) {β : Type} (rest : β) : ∃ r, f_X11_fewest_71 a1 At (bestI o) (rowI o) s1 s2 s3 s4 = some (r, At, bestI o, rowI o, s1, s2, s3, s4) ∧ (if bestI o < 0 then some (bestI o, rest) else if a1 = -1 then some (bestI o, rest) else (f_X12_in a1.toInt64 0 ((bestI o - 1).toInt64)).bind fun z7 => if z7 = 0 then some (-6, rest) else (f_X12_signOf ((r0 >>> (((bestI o - 1) - a1) &&& 31)) &&& 1)).bind fun z10 => some (z10, rest)) = some (r, rest) := by
  unfold f_X11_fewest_71
  cases o with
  | none =>
    refine ⟨-6, ?_, by rw [if_pos (show bestI none < 0 by decide)]; rfl⟩
    by_cases q : a1 = -1
    · rw [if_pos q]; rfl
    · rw [if_neg q]
      by_cases q2 : a1 < 0
      · rw [if_pos q2]
      · rw [if_neg q2, if_neg (fun q3 => q2 ?_)]
        have q3' : a1 < -6 := q3
        rw [fa_lt] at q3' ⊢
        rw [show (-6 : Int32).toInt = -6 from rfl] at q3'
        rw [show (0 : Int32).toInt = 0 from rfl]
        omega
  | some p =>
    obtain ⟨m, y⟩ := p
    obtain ⟨hm, hy, -⟩ := ho
    have hp : 2 ^ m ≤ 2 ^ 14 := Nat.pow_le_pow_right (by omega) (by omega)
    rw [hr m y rfl]
    show ∃ r, (if a1 = -1 then some (nI m, At, nI m, nI y, s1, s2, s3, s4) else _) = _ ∧ (if nI m < 0 then some (nI m, rest) else if a1 = -1 then some (nI m, rest) else (f_X12_in a1.toInt64 0 ((nI m - 1).toInt64)).bind fun z7 => if z7 = 0 then some (-6, rest) else (f_X12_signOf ((nI y >>> (((nI m - 1) - a1) &&& 31)) &&& 1)).bind fun z10 => some (z10, rest)) = some (r, rest)
    rw [if_neg (nI_pos (by omega))]
    by_cases q : a1 = -1
    · rw [if_pos q, if_pos q]
      exact ⟨_, rfl, rfl⟩
    · rw [if_neg q, if_neg q, show (0 : Int64) = (0 : Int32).toInt64 from rfl]
      by_cases q2 : a1 < 0
      · rw [if_pos q2, in_lo q2]
        exact ⟨_, rfl, rfl⟩
      · rw [if_neg q2]
        obtain ⟨k, hk, rfl⟩ := nI_of q2
        by_cases q3 : k < m
        · have hb : y / 2 ^ (m - 1 - k) % 2 < 2 := Nat.mod_lt _ (by omega)
          rw [show nI m - 1 = nI (m - 1) by rw [show (1 : Int32) = nI 1 from rfl, pk_sub (by omega)], pk_sub (by omega)]
          show ∃ r, (if nI k < nI m then (if ((((nI y).toUInt32 >>> (((nI m - 1) - nI k).toUInt32 &&& Int32.toUInt32 31)).toInt32 &&& 1) < 0 ∨ 3 ≤ ((((nI y).toUInt32 >>> (((nI m - 1) - nI k).toUInt32 &&& Int32.toUInt32 31)).toInt32 &&& 1)).toNatClampNeg) then none else some (mvI ((((nI y).toUInt32 >>> (((nI m - 1) - nI k).toUInt32 &&& Int32.toUInt32 31)).toInt32 &&& 1)).toNatClampNeg, At, nI m, nI y, s1, s2, s3, s4)) else _) = _ ∧ _
          rw [show nI m - 1 = nI (m - 1) by rw [show (1 : Int32) = nI 1 from rfl, pk_sub (by omega)], pk_sub (by omega), ush_bit (by omega) (by omega), if_pos (nI_lt q3 (by omega)), if_neg (nI_in (by omega) (by omega)), nI_clamp (by omega), in_ok (nI_pos (by omega)) (nI_nlt (by omega) (by omega)), Option.bind_some, if_neg (show ¬ (1 : Int32) = 0 by decide), bit_of (by omega) (by omega), sign_b hb]
          exact ⟨_, rfl, rfl⟩
        · rw [if_neg (show ¬ nI k < bestI (some (m, y)) from nI_nlt (by omega) (by omega)), in_hi ((mo_ltB (by omega) hk).mpr (by omega))]
          exact ⟨_, rfl, rfl⟩
theorem st_fewest {j : Nat} (hj : j + 6 ≤ 3072) (sI : Nat → Int32) (sJ : Nat → Int64) (sA : Nat → Nat → Int32) (sB : Nat → Nat → Int64) (h : Inv j sI sJ sA sB) (a1 : Int32) : ∃ (z : Int32 × Int32 × Int32 × Int32 × Int64 × Int32 × Int32 × Int32) (y : Int32 × Int32 × Int32 × Int32 × Int32 × Int32 × Int32 × (Nat → Int32) × (Nat → Int32) × (Nat → Int32)), f_X11_fewest (sI 0) (sI 1) (sI 4) (sI 5) (sJ 11) (sI 30) (sI 31) (sI 32) (sI 7) (sI 8) (sJ 0) (sJ 1) (sJ 2) a1 = some z ∧ f_X12_fewest (sI 41) (sI 42) (sI 43) (sI 47) (sI 48) (sI 49) (sI 50) (sI 51) (sI 52) (sA 33) (sA 43) (sA 35) (sA 44) (sA 36) (sA 34) (sA 45) (sA 46) a1 = some y ∧ z.1 = y.1 ∧ Inv (j + 6) (va_up (va_up (va_up (va_up (va_up (va_up (va_up (va_up (va_up (va_up (va_up (va_up sI 1 z.2.1) 4 z.2.2.1) 5 z.2.2.2.1) 30 z.2.2.2.2.2.1) 31 z.2.2.2.2.2.2.1) 32 z.2.2.2.2.2.2.2) 47 y.2.1) 48 y.2.2.1) 49 y.2.2.2.1) 50 y.2.2.2.2.1) 51 y.2.2.2.2.2.1) 52 y.2.2.2.2.2.2.1) (va_up sJ 11 z.2.2.2.2.1) (va_up (va_up (va_up sA 33 y.2.2.2.2.2.2.2.1) 35 y.2.2.2.2.2.2.2.2.1) 34 y.2.2.2.2.2.2.2.2.2) sB := by
  obtain ⟨ch, pc, n, t, dp, w, c, wt, a, W, bh, dr, sv, h1, h2, h3, h4, h5, h6, i0, i1, k1, k2, k3⟩ := h
  obtain ⟨⟨hw, ha, ht, hth⟩, ⟨r1, r2, r3, r4, r5, r6⟩, ⟨m1, m2, m3, mm, mw⟩⟩ := id h4
  obtain ⟨o, ho, q1, q2, q3, q4, q5, q0, q6, q7, q8, er, hr⟩ := ml_few (D := fun _ => true) (b := 15) hw mw ha (lay_now (dp := dp) (sA 36) hw.2.1 mm) (by omega) (sI 47) (sI 48) (sI 49) (sI 50) (sI 51) (sI 52) (sA 33) (sA 35) (sA 34)
  have er' : f_X12_fewestFor (sI 41) (sI 42) (sI 43) (sI 47) (sI 48) (sI 49) (sI 50) (sI 51) (sI 52) (sA 33) (sA 43) (sA 35) (sA 44) (sA 36) (sA 34) (sA 45) (sA 46) (((1 : Int32) <<< (sI 41 &&& 31)) - 1) 14 0 = some (bestI o, q1, q2, q3, q4, q5, q0, q6, q7, q8) := by
    rw [m1, m2, m3, all_bits hw.2.1]
    exact er
  have fin : ∃ (At : Int32) (s1 : Int64) (s2 s3 s4 : Int32), f_X11_fewest (sI 0) (sI 1) (sI 4) (sI 5) (sJ 11) (sI 30) (sI 31) (sI 32) (sI 7) (sI 8) (sJ 0) (sJ 1) (sJ 2) a1 = f_X11_fewest_71 a1 At (bestI o) (rowI o) s1 s2 s3 s4 ∧ At = sI 0 := by
    by_cases q : sI 1 = sI 0
    · obtain ⟨o', ho', e1, e2⟩ := k1.2 (q.trans h2)
      rw [isF_uniq ho' ho] at e1 e2
      refine ⟨sI 1, sJ 11, sI 30, sI 31, sI 32, ?_, q⟩
      unfold f_X11_fewest
      rw [if_pos q, e1, e2]
    · obtain ⟨o', ho', mo, e1⟩ := cl_look (D := fun _ => true) (b := 15) hw ha hth (by omega)
      rw [isF_uniq ho' ho] at e1
      refine ⟨sI 0, mask (fun _ => true), mo, bestI o, rowI o, ?_, rfl⟩
      unfold f_X11_fewest
      rw [if_neg q, r1, r2, r4, r5, r6, mask_all, show (14 : Int32) = nI 15 - 1 by decide, e1, Option.bind_some]
  obtain ⟨At, s1, s2, s3, s4, e, eA⟩ := fin
  obtain ⟨r, e1, e2⟩ := few_tail ho a1 At s1 s2 s3 s4 q0 hr (q1, q2, q3, q4, q5, q0, q6, q7, q8)
  refine ⟨(r, At, bestI o, rowI o, s1, s2, s3, s4), (r, q1, q2, q3, q4, q5, q0, q6, q7, q8), e.trans e1, ?_, rfl, ch, pc, n, t, dp, w, c, wt, a, W, bh, dr, sv, by omega, h2, h3, h4, h5, h6, i0, i1, ⟨?_, fun _ => ⟨o, ho, rfl, rfl⟩⟩, k2, k3⟩
  · unfold f_X12_fewest f_X12_allDoors
    rw [Option.bind_some, er', Option.bind_some]
    exact e2
  · exact Or.inr ⟨ch, Nat.le_refl _, eA.trans h2⟩
theorem st_soon {j : Nat} (hj : j + 6 ≤ 3072) (sI : Nat → Int32) (sJ : Nat → Int64) (sA : Nat → Nat → Int32) (sB : Nat → Nat → Int64) (h : Inv j sI sJ sA sB) (a1 : Int32) : ∃ (z : Int32 × Int64 × Int32 × Int32 × Int32) (y : Int32 × Int32 × Int32 × Int32 × Int32 × Int32 × Int32 × (Nat → Int32) × (Nat → Int32) × (Nat → Int32)), f_X11_soon (sI 7) (sI 8) (sJ 0) (sJ 1) (sJ 2) (sJ 11) (sI 30) (sI 31) (sI 32) a1 = some z ∧ f_X12_soon (sI 41) (sI 42) (sI 43) (sI 47) (sI 48) (sI 49) (sI 50) (sI 51) (sI 52) (sA 33) (sA 43) (sA 35) (sA 44) (sA 36) (sA 34) (sA 45) (sA 46) a1 = some y ∧ z.1 = y.1 ∧ Inv (j + 6) (va_up (va_up (va_up (va_up (va_up (va_up (va_up (va_up (va_up sI 30 z.2.2.1) 31 z.2.2.2.1) 32 z.2.2.2.2) 47 y.2.1) 48 y.2.2.1) 49 y.2.2.2.1) 50 y.2.2.2.2.1) 51 y.2.2.2.2.2.1) 52 y.2.2.2.2.2.2.1) (va_up sJ 11 z.2.1) (va_up (va_up (va_up sA 33 y.2.2.2.2.2.2.2.1) 35 y.2.2.2.2.2.2.2.2.1) 34 y.2.2.2.2.2.2.2.2.2) sB := by
  refine (fun (q : ∃ r zz yy, f_X11_soon (sI 7) (sI 8) (sJ 0) (sJ 1) (sJ 2) (sJ 11) (sI 30) (sI 31) (sI 32) a1 = some (r, zz) ∧ f_X12_soon (sI 41) (sI 42) (sI 43) (sI 47) (sI 48) (sI 49) (sI 50) (sI 51) (sI 52) (sA 33) (sA 43) (sA 35) (sA 44) (sA 36) (sA 34) (sA 45) (sA 46) a1 = some (r, yy)) => q.elim (fun r q => q.elim (fun zz q => q.elim (fun yy e => ⟨(r, zz), (r, yy), e.1, e.2, rfl, Inv_grow h⟩)))) ?_
  obtain ⟨ch, pc, n, t, dp, w, c, wt, a, W, bh, dr, sv, h1, h2, h3, h4, h5, h6, i0, i1, k1, k2, k3⟩ := id h
  obtain ⟨⟨hw, ha, ht, hth⟩, ⟨r1, r2, r3, r4, r5, r6⟩, ⟨m1, m2, m3, mm, mw⟩⟩ := id h4
  have h9 := hw.2.1
  unfold f_X11_soon f_X12_soon
  rw [r1, r2, r4, r5, r6, m1, m2, m3]
  rcases place3 a1 hw.1 hw.2.1 with ⟨e1, e2⟩ | ⟨k, hk, rfl, e1, e2⟩
  · rw [e1, e2]
    exact ⟨_, _, _, rfl, rfl⟩
  · obtain ⟨o, ho, q1, q2, q3, q4, q5, q0, q6, q7, q8, er, hr⟩ := ml_few (D := fun j => decide (j = k)) (b := 15) hw mw ha (lay_now (dp := dp) (sA 36) hw.2.1 mm) (by omega) (sI 47) (sI 48) (sI 49) (sI 50) (sI 51) (sI 52) (sA 33) (sA 35) (sA 34)
    obtain ⟨o', ho', mo, e3⟩ := cl_look (D := fun j => decide (j = k)) (b := 15) hw ha hth (by omega)
    rw [isF_uniq ho' ho] at e3
    rw [e1, e2, mask_one (by omega), one_bit hk h9, show (14 : Int32) = nI 15 - 1 by decide]
    simp only [Option.bind_some]
    rw [if_neg (show ¬ (1 : Int32) = 0 by decide), if_neg (show ¬ (1 : Int32) = 0 by decide), e3, er]
    exact ⟨_, _, _, rfl, rfl⟩
