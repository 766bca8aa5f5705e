theorem st_race {j : Nat} (hj : j + 6 ≤ 3072) (sI : Nat → Int32) (sJ : Nat → Int64) (sA : Nat → Nat → Int32) (sB : Nat → Nat → Int64) (h : Inv j sI sJ sA sB) (a1 : Int32) (a2 : Int32) (a3 : Int32) : ∃ (z : Int32 × Int64 × Int64 × Int32) (y : Int32 × Int32 × Int32 × Int32 × Int32 × Int32 × (Nat → Int32) × (Nat → Int32) × (Nat → Int32) × (Nat → Int32) × (Nat → Int32)), f_X11_race (sI 7) (sI 8) (sJ 0) (sJ 1) (sJ 2) (sJ 13) (sJ 14) (sI 35) a1 a2 a3 = some z ∧ f_X12_race (sI 41) (sI 42) (sI 43) (sI 47) (sI 48) (sI 49) (sI 50) (sI 51) (sA 33) (sA 43) (sA 35) (sA 44) (sA 34) (sA 45) (sA 46) (sA 39) (sA 38) a1 a2 a3 = some y ∧ z.1 = y.1 ∧ Inv (j + 6) (va_up (va_up (va_up (va_up (va_up (va_up sI 35 z.2.2.2) 47 y.2.1) 48 y.2.2.1) 49 y.2.2.2.1) 50 y.2.2.2.2.1) 51 y.2.2.2.2.2.1) (va_up (va_up sJ 13 z.2.1) 14 z.2.2.1) (va_up (va_up (va_up (va_up (va_up sA 33 y.2.2.2.2.2.2.1) 35 y.2.2.2.2.2.2.2.1) 34 y.2.2.2.2.2.2.2.2.1) 39 y.2.2.2.2.2.2.2.2.2.1) 38 y.2.2.2.2.2.2.2.2.2.2) sB := by
  refine (fun (q : ∃ r zz yy, f_X11_race (sI 7) (sI 8) (sJ 0) (sJ 1) (sJ 2) (sJ 13) (sJ 14) (sI 35) a1 a2 a3 = some (r, zz) ∧ f_X12_race (sI 41) (sI 42) (sI 43) (sI 47) (sI 48) (sI 49) (sI 50) (sI 51) (sA 33) (sA 43) (sA 35) (sA 44) (sA 34) (sA 45) (sA 46) (sA 39) (sA 38) a1 a2 a3 = some (r, yy)) => q.elim (fun r q => q.elim (fun zz q => q.elim (fun yy e => ⟨(r, zz), (r, yy), e.1, e.2, rfl, Inv_grow h⟩)))) ?_
  obtain ⟨ch, pc, n, t, dp, w, c, wt, a, W, bh, dr, sv, h1, h2, h3, h4, h5, h6, i0, i1, k1, k2, k3⟩ := id h
  obtain ⟨⟨hw, ha, ht, hth⟩, ⟨r1, r2, r3, r4, r5, r6⟩, ⟨m1, m2, m3, mm, mw⟩⟩ := id h4
  have h9 := hw.2.1
  unfold f_X11_race f_X12_race
  rw [r1, r2, r4, r5, r6, m1, m2, m3, show (1 : Int64) = lN 1 from rfl, show (10 : Int64) = lN 10 from rfl]
  rcases place3 a1 hw.1 hw.2.1 with ⟨e1, e2⟩ | ⟨d1, hd1, rfl, e1, e2⟩
  · rw [e1, e2]
    exact ⟨_, _, _, rfl, rfl⟩
  · rw [e1, e2, Option.bind_some, Option.bind_some, if_neg (show ¬ (1 : Int32) = 0 by decide), if_neg (show ¬ (1 : Int32) = 0 by decide)]
    rcases place3 a2 hw.1 hw.2.1 with ⟨e1, e2⟩ | ⟨d2, hd2, rfl, e1, e2⟩
    · rw [e1, e2]
      exact ⟨_, _, _, rfl, rfl⟩
    · rw [e1, e2, Option.bind_some, Option.bind_some, if_neg (show ¬ (1 : Int32) = 0 by decide), if_neg (show ¬ (1 : Int32) = 0 by decide)]
      by_cases q : nI d1 = nI d2
      · rw [if_pos q, if_pos q]
        exact ⟨_, _, _, rfl, rfl⟩
      · rw [if_neg q, if_neg q]
        rcases in3 a3 1 10 (by omega) (by omega) with ⟨q, e⟩ | ⟨q1, q2, e⟩ | ⟨m, qm1, qm, rfl, e⟩
        · rw [if_pos (show a3 < 1 from q), e]
          exact ⟨_, _, _, rfl, rfl⟩
        · rw [if_neg (show ¬ a3 < 1 from q1), if_neg (show ¬ a3 ≤ 10 from (fa_of_lt q2).2.1), e]
          exact ⟨_, _, _, rfl, rfl⟩
        · rw [if_neg (show ¬ nI m < 1 from nI_nlt (b := 1) qm1 (by omega)), if_pos (show nI m ≤ 10 from nI_le (b := 10) qm (by omega)), e, Option.bind_some, if_neg (show ¬ (1 : Int32) = 0 by decide), c_flag (show d1 < 9 by omega), c_flag (show d2 < 9 by omega), Option.bind_some, Option.bind_some, Option.bind_some, bit_ask _ h9 hd1, bit_ask _ h9 hd2]
          have f1 := w9_flag (th := a.2.2) (k := d1) (lt16 hw.2.2.2.1 ha.1) (by omega)
          have f2 := w9_flag (th := a.2.2) (k := d2) (lt16 hw.2.2.2.1 ha.1) (by omega)
          by_cases g1 : a.2.2 d1 = false
          · rw [if_pos ((lg0 _ _).mpr (f1.mpr g1)), g1, if_pos (show nI (if false = true then 0 else 1) = 1 from rfl)]
            exact ⟨_, _, _, rfl, rfl⟩
          · rw [if_neg (fun q2 => g1 (f1.mp ((lg0 _ _).mp q2))), show a.2.2 d1 = true by simpa using g1, if_neg (show ¬ nI (if true = true then 0 else 1) = 1 by decide)]
            by_cases g2 : a.2.2 d2 = false
            · rw [if_pos ((lg0 _ _).mpr (f2.mpr g2)), g2, if_pos (show nI (if false = true then 0 else 1) = 1 from rfl)]
              exact ⟨_, _, _, rfl, rfl⟩
            · have en : ¬ endd d1 d2 a := fun q => q.elim g1 g2
              obtain ⟨s1, s2, s3, s4, s5, s6, s7, s8, s9, s10, er⟩ := ml_race hw mw hd1 hd2 qm ha mm en (sI 47) (sI 48) (sI 49) (sI 50) (sI 51) (sA 33) (sA 35) (sA 34) (sA 39) (sA 38)
              rw [if_neg (fun q2 => g2 (f2.mp ((lg0 _ _).mp q2))), show a.2.2 d2 = true by simpa using g2, if_neg (show ¬ nI (if true = true then 0 else 1) = 1 by decide), Option.bind_some, cl_winner hw ha hd1 hd2 qm en, er]
              exact ⟨_, _, _, rfl, rfl⟩
theorem st_widow {j : Nat} (hj : j + 6 ≤ 3072) (sI : Nat → Int32) (sJ : Nat → Int64) (sA : Nat → Nat → Int32) (sB : Nat → Nat → Int64) (h : Inv j sI sJ sA sB) (a1 : Int32) (a2 : Int32) (a3 : Int32) (a4 : Int32) (a5 : Int32) : ∃ (z : Int64 × Int64 × Int32 × Int32 × Int64 × Int64 × (Nat → Int64)) (y : Int64 × Int32 × Int32 × Int32 × Int32 × Int32 × (Nat → Int32) × (Nat → Int32) × (Nat → Int32)), f_X11_widow (sI 7) (sI 8) (sJ 0) (sJ 1) (sJ 2) (sJ 15) (sI 36) (sI 37) (sJ 16) (sJ 17) (sB 0) a1 a2 a3 a4 a5 = some z ∧ f_X12_widow (sI 41) (sI 42) (sI 43) (sI 47) (sI 48) (sI 49) (sI 50) (sI 51) (sA 33) (sA 43) (sA 35) (sA 44) (sA 34) (sA 45) (sA 46) a1 a2 a3 a4 a5 = some y ∧ z.1 = y.1 ∧ Inv (j + 6) (va_up (va_up (va_up (va_up (va_up (va_up (va_up sI 36 z.2.2.1) 37 z.2.2.2.1) 47 y.2.1) 48 y.2.2.1) 49 y.2.2.2.1) 50 y.2.2.2.2.1) 51 y.2.2.2.2.2.1) (va_up (va_up (va_up sJ 15 z.2.1) 16 z.2.2.2.2.1) 17 z.2.2.2.2.2.1) (va_up (va_up (va_up sA 33 y.2.2.2.2.2.2.1) 35 y.2.2.2.2.2.2.2.1) 34 y.2.2.2.2.2.2.2.2) (va_up sB 0 z.2.2.2.2.2.2) := by
  refine (fun (q : ∃ r zz yy, f_X11_widow (sI 7) (sI 8) (sJ 0) (sJ 1) (sJ 2) (sJ 15) (sI 36) (sI 37) (sJ 16) (sJ 17) (sB 0) a1 a2 a3 a4 a5 = some (r, zz) ∧ f_X12_widow (sI 41) (sI 42) (sI 43) (sI 47) (sI 48) (sI 49) (sI 50) (sI 51) (sA 33) (sA 43) (sA 35) (sA 44) (sA 34) (sA 45) (sA 46) a1 a2 a3 a4 a5 = some (r, yy)) => q.elim (fun r q => q.elim (fun zz q => q.elim (fun yy e => ⟨(r, zz), (r, yy), e.1, e.2, rfl, Inv_grow h⟩)))) ?_
  obtain ⟨ch, pc, n, t, dp, w, c, wt, a, W, bh, dr, sv, h1, h2, h3, h4, h5, h6, i0, i1, k1, k2, k3⟩ := id h
  obtain ⟨⟨hw, ha, ht, hth⟩, ⟨r1, r2, r3, r4, r5, r6⟩, ⟨m1, m2, m3, mm, mw⟩⟩ := id h4
  have h9 := hw.2.1
  unfold f_X11_widow f_X12_widow
  have main : ∀ (D : Nat → Bool) (M : Int64) (B : Int32), mask D = M → nI (sbit n (fun j => !D j)) = B → ∀ (m p q part : Nat), p ≤ q → 1 ≤ q → q ≤ 10 → m ≤ 12 → part < 2 → ∃ r zz yy, f_X11_widow_96 (nI part) (nI m) (nI p) (nI q) M (nI n) (nI dp) (w9 a.1 a.2.2) (v9 a.2.1) (v9 wt) (sB 0) = some (r, zz) ∧ f_X12_widow_86 (nI m) (nI p) (nI q) (nI part) B (nI n) (nI dp) (nI (sbit n a.2.2)) (sI 47) (sI 48) (sI 49) (sI 50) (sI 51) (sA 33) (sA 43) (sA 35) (sA 44) (sA 34) (sA 45) (sA 46) = some (r, yy) := by
    intro D M B hM hB m p q part b1 b2 b3 b4 b5
    subst hM hB
    obtain ⟨pw', e1⟩ := cl_widow (D := D) (sB 0) hw ha b1 b2 b3 b4
    obtain ⟨r, e2⟩ := ml_widow (D := D) hw mw ha mm b1 b2 b3 b4 b5 (sI 47) (sI 48) (sI 49) (sI 50) (sI 51) (sA 33) (sA 35) (sA 34)
    unfold f_X11_widow_96
    rw [e1, e2, Option.bind_some]
    by_cases q0 : part = 0
    · rw [if_pos (show nI part = 0 by rw [q0]; rfl), if_pos q0]
      exact ⟨_, _, _, rfl, rfl⟩
    · rw [if_neg (nI_ne0 (by omega) (by omega)), if_neg q0]
      exact ⟨_, _, _, rfl, rfl⟩
  have rest : ((a4 = -1 ∧ True) ∨ ∃ k, k < n ∧ a4 = nI k) → ∃ r zz yy, f_X11_widow_19 a1 a2 a3 a4 a5 (sI 7) (sI 8) (sJ 0) (sJ 1) (sJ 2) (sJ 15) (sI 36) (sI 37) (sJ 16) (sJ 17) (sB 0) = some (r, zz) ∧ f_X12_widow_19 a1 a2 a3 a4 a5 (sI 41) (sI 42) (sI 43) (sI 47) (sI 48) (sI 49) (sI 50) (sI 51) (sA 33) (sA 43) (sA 35) (sA 44) (sA 34) (sA 45) (sA 46) = some (r, yy) := by
    intro hd
    unfold f_X11_widow_19 f_X12_widow_19 f_X12_allDoors
    rw [r1, r2, r4, r5, r6, m1, m2, m3, show (1 : Int64) = lN 1 from rfl, show (10 : Int64) = lN 10 from rfl, show (0 : Int64) = lN 0 from rfl, show (12 : Int64) = lN 12 from rfl]
    rcases in3 a1 0 12 (by omega) (by omega) with ⟨q, e⟩ | ⟨q1, q2, e⟩ | ⟨m, -, qm, rfl, e⟩
    · rw [if_pos (show a1 < 0 from q), e]
      exact ⟨_, _, _, rfl, rfl⟩
    · rw [if_neg (show ¬ a1 < 0 from q1), if_pos (show (12 : Int32) < a1 from q2), e]
      exact ⟨_, _, _, rfl, rfl⟩
    · rw [if_neg (nI_pos (by omega)), if_neg (show ¬ (12 : Int32) < nI m from nI_nlt (a := 12) qm (by omega)), e, Option.bind_some, if_neg (show ¬ (1 : Int32) = 0 by decide)]
      rcases in3 a3 1 10 (by omega) (by omega) with ⟨q, e⟩ | ⟨q1, q2, e⟩ | ⟨q, qq1, qq, rfl, e⟩
      · rw [if_pos (show a3 < 1 from q), e]
        exact ⟨_, _, _, rfl, rfl⟩
      · rw [if_neg (show ¬ a3 < 1 from q1), if_pos (show (10 : Int32) < a3 from q2), e]
        exact ⟨_, _, _, rfl, rfl⟩
      · rw [if_neg (show ¬ nI q < 1 from nI_nlt (b := 1) qq1 (by omega)), if_neg (show ¬ (10 : Int32) < nI q from nI_nlt (a := 10) qq (by omega)), e, Option.bind_some, if_neg (show ¬ (1 : Int32) = 0 by decide), nI_l (n := q) (by omega)]
        rcases in3 a2 0 q (by omega) (by omega) with ⟨q, e⟩ | ⟨q1, q2, e⟩ | ⟨p, -, qp, rfl, e⟩
        · rw [if_pos (show a2 < 0 from q), e]
          exact ⟨_, _, _, rfl, rfl⟩
        · rw [if_neg (show ¬ a2 < 0 from q1), if_neg (show ¬ a2 ≤ nI q from (fa_of_lt q2).2.1), e]
          exact ⟨_, _, _, rfl, rfl⟩
        · rw [if_neg (nI_pos (by omega)), if_pos (nI_le qp (by omega)), e, Option.bind_some, if_neg (show ¬ (1 : Int32) = 0 by decide)]
          rcases in3 a5 0 1 (by omega) (by omega) with ⟨q, e⟩ | ⟨q1, q2, e⟩ | ⟨part, -, qt, rfl, e⟩
          · rw [if_pos (show a5 < 0 from q), e]
            exact ⟨_, _, _, rfl, rfl⟩
          · rw [if_neg (show ¬ a5 < 0 from q1), if_neg (show ¬ a5 ≤ 1 from (fa_of_lt q2).2.1), e]
            exact ⟨_, _, _, rfl, rfl⟩
          · rw [if_neg (nI_pos (by omega)), if_pos (show nI part ≤ 1 from nI_le (b := 1) qt (by omega)), e, Option.bind_some, if_neg (show ¬ (1 : Int32) = 0 by decide)]
            rcases hd with ⟨q4, -⟩ | ⟨k, hk, rfl⟩
            · rw [if_pos q4, if_pos q4, Option.bind_some]
              exact main (fun _ => true) _ _ mask_all.symm (all_bits h9).symm m p q part qp qq1 qq qm (by omega)
            · have ne : ¬ nI k = (-1 : Int32) := fun e => by
                have := congrArg Int32.toInt e
                rw [nI_toInt (by omega), show (-1 : Int32).toInt = -1 from rfl] at this
                omega
              rw [if_neg ne, if_neg ne, mask_one (show k < 9 by omega), Option.bind_some]
              exact main (fun j => decide (j = k)) _ _ rfl (one_bit hk h9).symm m p q part qp qq1 qq qm (by omega)
  by_cases q4 : a4 = -1
  · rw [if_pos q4, if_pos q4]
    exact rest (Or.inl ⟨q4, trivial⟩)
  · rw [if_neg q4, if_neg q4]
    rcases place3 a4 hw.1 hw.2.1 with ⟨e1, e2⟩ | ⟨k, hk, e0, e1, e2⟩
    · rw [r1, m1, e1, e2]
      exact ⟨_, _, _, rfl, rfl⟩
    · rw [r1] at rest ⊢
      rw [m1] at rest ⊢
      rw [e1, e2, Option.bind_some, Option.bind_some, if_neg (show ¬ (1 : Int32) = 0 by decide), if_neg (show ¬ (1 : Int32) = 0 by decide)]
      exact rest (Or.inr ⟨k, hk, e0⟩)
