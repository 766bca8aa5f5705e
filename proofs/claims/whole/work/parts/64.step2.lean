theorem st_places {j : Nat} (hj : j + 6 ≤ 3072) (sI : Nat → Int32) (sJ : Nat → Int64) (sA : Nat → Nat → Int32) (sB : Nat → Nat → Int64) (h : Inv j sI sJ sA sB) (a1 : Int32) : ∃ (z : Int32 × Int32 × Int32 × Int32 × Int64 × Int64 × Int64 × Int32) (y : Int32 × Int32 × Int32 × Int32 × (Nat → Int32) × (Nat → Int32) × (Nat → Int32) × (Nat → Int32)), f_X11_places (sI 0) (sI 7) (sI 8) (sI 9) (sJ 0) (sJ 1) (sJ 2) (sI 11) a1 = some z ∧ f_X12_places (sI 41) (sI 42) (sI 43) (sI 45) (sA 43) (sA 44) (sA 45) (sA 46) a1 = some y ∧ z.1 = y.1 ∧ Inv (j + 6) (va_up (va_up (va_up (va_up (va_up (va_up (va_up sI 0 z.2.1) 7 z.2.2.1) 9 z.2.2.2.1) 11 z.2.2.2.2.2.2.2) 41 y.2.1) 43 y.2.2.1) 45 y.2.2.2.1) (va_up (va_up (va_up sJ 0 z.2.2.2.2.1) 1 z.2.2.2.2.2.1) 2 z.2.2.2.2.2.2.1) (va_up (va_up (va_up (va_up sA 43 y.2.2.2.2.1) 44 y.2.2.2.2.2.1) 45 y.2.2.2.2.2.2.1) 46 y.2.2.2.2.2.2.2) sB := by
  obtain ⟨ch, pc, n, t, dp, w, c, wt, a, W, bh, dr, sv, h1, h2, h3, h4, h5, h6, i0, i1, k1, k2, k3⟩ := id h
  obtain ⟨⟨⟨w1, w2, w3, w4, -⟩, -⟩, ⟨r1, r2, r3, r4, r5, r6⟩, ⟨m1, m2, m3, -⟩⟩ := id h4
  unfold f_X11_places f_X12_places
  rw [show (3 : Int64) = lN 3 from rfl, show (9 : Int64) = lN 9 from rfl, show (3 : Int32) = nI 3 from rfl, show (9 : Int32) = nI 9 from rfl]
  rcases in3 a1 3 9 (by omega) (by omega) with ⟨q, e⟩ | ⟨q1, q2, e⟩ | ⟨k, q1, q2, rfl, e⟩
  · rw [if_pos q, e]
    exact ⟨_, _, rfl, rfl, rfl, Inv_grow h⟩
  · rw [if_neg q1, if_neg (fa_of_lt q2).2.1, e]
    exact ⟨_, _, rfl, rfl, rfl, Inv_grow h⟩
  · obtain ⟨pa', ho', le', wa', eb, hb⟩ := begin_ok q1 q2 (nI dp) (sA 43) (sA 44) (sA 45) (sA 46)
    rw [if_neg (nI_nlt q1 (by omega)), if_pos (nI_le q2 (by omega)), e, m2]
    simp only [Option.bind_some]
    rw [if_neg (show ¬ (1 : Int32) = 0 by decide), eb]
    refine ⟨_, _, rfl, rfl, r1.trans m1.symm, ch + 1, pc, k, 0, dp, w, 0, (fun _ => 0), a0 dp, W, bh, dr, sv, by omega, ?_, h3, ?_, h5, ⟨Nat.zero_le _, rfl, rfl, fun i hi => absurd hi (Nat.not_lt_zero i)⟩, i0, i1, k1.next (by omega) _, k2.next (by omega) _, k3.next (by omega) _⟩
    · show sI 0 + 1 = nI (ch + 1)
      rw [h2, nI_1]
    · show CH k 0 dp (fun _ => 0) (a0 dp) (nI k) (sI 8) 0 (sI 8).toInt64 0 0 (nI k) (sI 42) (nI (sbit k (fun _ => false))) pa' ho' le' wa'
      rw [r2, m2]
      exact new_CH q1 q2 w3 w4 hb
theorem st_told {j : Nat} (hj : j + 6 ≤ 3072) (sI : Nat → Int32) (sJ : Nat → Int64) (sA : Nat → Nat → Int32) (sB : Nat → Nat → Int64) (h : Inv j sI sJ sA sB) (a1 : Int32) : ∃ (z : Int32) (y : Int32), f_X11_told (sI 7) (sI 8) (sI 9) (sJ 0) (sJ 1) (sJ 2) (sI 11) (sI 10) (sI 6) a1 = some z ∧ f_X12_told (sI 41) (sI 42) (sI 43) (sI 44) (sI 45) (sI 46) (sA 43) (sA 33) (sA 44) (sA 45) (sA 46) a1 = some y ∧ z = y ∧ Inv (j + 6) sI sJ sA sB := by
  refine (fun (q : ∃ z, f_X11_told (sI 7) (sI 8) (sI 9) (sJ 0) (sJ 1) (sJ 2) (sI 11) (sI 10) (sI 6) a1 = some z ∧ f_X12_told (sI 41) (sI 42) (sI 43) (sI 44) (sI 45) (sI 46) (sA 43) (sA 33) (sA 44) (sA 45) (sA 46) a1 = some z) => q.elim (fun z e => ⟨z, z, e.1, e.2, rfl, Inv_grow h⟩)) ?_
  obtain ⟨ch, pc, n, t, dp, w, c, wt, a, W, bh, dr, sv, h1, h2, h3, h4, h5, h6, i0, i1, k1, k2, k3⟩ := h
  obtain ⟨⟨hw, ha, ht, hth⟩, ⟨r1, r2, r3, r4, r5, r6⟩, ⟨m1, m2, m3, ⟨mp, mr, ml⟩, mw⟩⟩ := id h4
  obtain ⟨w1, w2, w3, w4, w5, w6⟩ := id hw
  have hl16 := lt16 w4 ha.1
  rw [r1, r2, r3, r4, r5, r6, m1, m2, m3, h3.2.1, h3.2.2.1, h5.2.1, h5.2.2.1, h6.2.1, h6.2.2.1]
  unfold f_X11_told f_X12_told
  rw [show (10 : Int64) = lN 10 from rfl, show (49 : Int64) = lN 49 from rfl]
  have small : ∀ (q : f_X12_in a1.toInt64 (lN 10) (lN 49) = some 0) (q2 : f_X11_toldOfEach (nI n) (nI t) (w9 a.1 a.2.2) (v9 a.2.1) (v9 wt) a1 = some (-2)), ∃ z, (if a1 = 0 then (some (nI pc)) else (if a1 = 1 then (some (nI n)) else (if a1 = 2 then (some (nI dp)) else (if a1 = 3 then ((f_X1_servedBits (nI n) (w9 a.1 a.2.2)).bind fun z5 => (some z5)) else (if a1 = 4 then (some (nI w)) else (if a1 = 5 then (some (nI c)) else ((f_X11_toldOfEach (nI n) (nI t) (w9 a.1 a.2.2) (v9 a.2.1) (v9 wt) a1).bind fun z9 => (some z9)))))))) = some z ∧ (if a1 = 0 then (some (nI pc)) else (if a1 = (1 : Int32) then (some (nI n)) else (if a1 = (2 : Int32) then (some (nI dp)) else (if a1 = (3 : Int32) then (some (nI (sbit n a.2.2))) else (if a1 = (4 : Int32) then (some (nI w)) else (if a1 = (5 : Int32) then (some (nI c)) else (some ((-2 : Int32))))))))) = some z := by
    intro q q2
    rw [c_servedBits hl16 w2, q2]
    simp only [Option.bind_some]
    by_cases e0 : a1 = 0
    · exact ⟨_, if_pos e0, if_pos e0⟩
    · rw [if_neg e0]
      by_cases e1 : a1 = 1
      · exact ⟨_, if_pos e1, if_pos e1⟩
      · rw [if_neg e1]
        by_cases e2 : a1 = 2
        · exact ⟨_, if_pos e2, if_pos e2⟩
        · rw [if_neg e2]
          by_cases e3 : a1 = 3
          · exact ⟨_, if_pos e3, if_pos e3⟩
          · rw [if_neg e3]
            by_cases e4 : a1 = 4
            · exact ⟨_, if_pos e4, if_pos e4⟩
            · rw [if_neg e4]
              by_cases e5 : a1 = 5
              · exact ⟨_, if_pos e5, if_pos e5⟩
              · exact ⟨_, if_neg e5, if_neg e5⟩
  rcases in3 a1 10 49 (by omega) (by omega) with ⟨q, e⟩ | ⟨q1, q2, e⟩ | ⟨k, q1, q2, rfl, e⟩
  · rw [e]
    exact small e (by unfold f_X11_toldOfEach; exact if_pos q)
  · rw [e]
    exact small e (by unfold f_X11_toldOfEach; rw [if_neg (show ¬ a1 < 10 from q1)]; exact if_pos q2)
  · rw [e]
    simp only [Option.bind_some]
    have ne : ∀ i : Nat, i < 10 → ¬ nI k = nI i := fun i hi q => by have := (nI_eq (by omega) (by omega)).mp q; omega
    rw [if_neg (show ¬ nI k = 0 from ne 0 (by omega)), if_neg (show ¬ nI k = 1 from ne 1 (by omega)), if_neg (show ¬ nI k = 2 from ne 2 (by omega)), if_neg (show ¬ nI k = 3 from ne 3 (by omega)), if_neg (show ¬ nI k = 4 from ne 4 (by omega)), if_neg (show ¬ nI k = 5 from ne 5 (by omega)), if_neg (show ¬ (1 : Int32) = 0 by decide)]
    unfold f_X11_toldOfEach
    rw [if_neg (show ¬ nI k < 10 from nI_nlt (b := 10) (by omega) (by omega)), if_neg (show ¬ (49 : Int32) < nI k from nI_nlt (a := 49) (by omega) (by omega)), show (10 : Int32) = nI 10 from rfl, pk_rem (by omega) (by omega) (by omega), pk_div (by omega) (by omega) (by omega)]
    rcases place3 (nI (k % 10)) w1 w2 with ⟨p1, p2⟩ | ⟨i, hi, ei, p1, p2⟩
    · rw [p1, p2]
      exact ⟨_, rfl, rfl⟩
    · rw [p1, p2]
      simp only [Option.bind_some]
      have ei2 : k % 10 = i := (nI_eq (by omega) (by omega)).mp ei
      rw [if_neg (show ¬ (1 : Int32) = 0 by decide), if_neg (show ¬ (1 : Int32) = 0 by decide), ei2, cl_place w2 ht hi]
      simp only [Option.bind_some]
      obtain ⟨hpl, hpe⟩ := tpi_at ht hi
      have hho : sA 44 i = nI (a.1 ((i + t) % n)) := by have := mr.2 _ hpl; rwa [hpe] at this
      have hle : sA 45 i = nI (a.2.1 ((i + t) % n)) := by have := ml _ hpl; rwa [hpe] at this
      rw [c_lane _ hl16 (by omega), c_laneV (lt16 (by omega) ha.2.2.1) (by omega), c_laneV (lt16 (by omega) w5) (by omega), nI_clamp (by omega), ml_place w2 hi mp (sA 43) (sA 33) 1 (fun p hp => by rw [if_neg (by decide)]; exact mr.1 p hp) hpl hpe, if_neg (gin (by omega) (by omega)), hho, hle, mw i hi]
      simp only [Option.bind_some]
      have q10 : k / 10 = 1 ∨ k / 10 = 2 ∨ k / 10 = 3 ∨ k / 10 = 4 := by omega
      rcases q10 with q | q | q | q
      · rw [q, if_pos (show nI 1 = 1 from rfl), if_neg (show ¬ (20 : Int32) ≤ nI k from nI_ge (b := 20) (by omega) (by omega))]
        exact ⟨_, rfl, rfl⟩
      · rw [q, if_neg (show ¬ nI 2 = 1 by decide), if_pos (show nI 2 = 2 from rfl), if_pos (show (20 : Int32) ≤ nI k from nI_le (a := 20) (by omega) (by omega)), if_neg (show ¬ (30 : Int32) ≤ nI k from nI_ge (b := 30) (by omega) (by omega))]
        exact ⟨_, rfl, if_neg (gin (by omega) (by omega))⟩
      · rw [q, if_neg (show ¬ nI 3 = 1 by decide), if_neg (show ¬ nI 3 = 2 by decide), if_pos (show nI 3 = 3 from rfl), if_pos (show (20 : Int32) ≤ nI k from nI_le (a := 20) (by omega) (by omega)), if_pos (show (30 : Int32) ≤ nI k from nI_le (a := 30) (by omega) (by omega)), if_neg (show ¬ (40 : Int32) ≤ nI k from nI_ge (b := 40) (by omega) (by omega))]
        exact ⟨_, rfl, if_neg (gin (by omega) (by omega))⟩
      · rw [q, if_neg (show ¬ nI 4 = 1 by decide), if_neg (show ¬ nI 4 = 2 by decide), if_neg (show ¬ nI 4 = 3 by decide), if_pos (show (20 : Int32) ≤ nI k from nI_le (a := 20) (by omega) (by omega)), if_pos (show (30 : Int32) ≤ nI k from nI_le (a := 30) (by omega) (by omega)), if_pos (show (40 : Int32) ≤ nI k from nI_le (a := 40) (by omega) (by omega))]
        exact ⟨_, rfl, rfl⟩
