theorem st_wipe {j : Nat} (hj : j + 6 ≤ 3072) (sI : Nat → Int32) (sJ : Nat → Int64) (sA : Nat → Nat → Int32) (sB : Nat → Nat → Int64) (h : Inv j sI sJ sA sB) : ∃ (z : Int32 × Int32) (y : Int32 × Int32), f_X11_wipe (sI 6) = some z ∧ f_X12_wipe (sI 46) = some y ∧ z.1 = y.1 ∧ Inv (j + 6) (va_up (va_up sI 6 z.2) 46 y.2) sJ sA sB := by
  obtain ⟨ch, pc, n, t, dp, w, c, wt, a, W, bh, dr, sv, h1, h2, h3, h4⟩ := Inv_grow h
  exact ⟨_, _, rfl, rfl, h3.2.1.trans h3.2.2.1.symm, ch, 0, n, t, dp, w, c, wt, a, W, bh, dr, sv, h1, h2, ⟨Nat.zero_le _, rfl, rfl, fun i hi => absurd hi (Nat.not_lt_zero i)⟩, h4⟩
theorem st_drop {j : Nat} (hj : j + 6 ≤ 3072) (sI : Nat → Int32) (sJ : Nat → Int64) (sA : Nat → Nat → Int32) (sB : Nat → Nat → Int64) (h : Inv j sI sJ sA sB) : ∃ (z : Int32 × Int32) (y : Int32 × Int32), f_X11_drop (sI 10) = some z ∧ f_X12_drop (sI 44) = some y ∧ z.1 = y.1 ∧ Inv (j + 6) (va_up (va_up sI 10 z.2) 44 y.2) sJ sA sB := by
  obtain ⟨ch, pc, n, t, dp, w, c, wt, a, W, bh, dr, sv, h1, h2, h3, h4, h5, h6⟩ := Inv_grow h
  exact ⟨_, _, rfl, rfl, h5.2.1.trans h5.2.2.1.symm, ch, pc, n, t, dp, 0, c, wt, a, W, bh, dr, sv, h1, h2, h3, h4, ⟨Nat.zero_le _, rfl, rfl, fun k hk => absurd hk (Nat.not_lt_zero k), fun i k _ hk => absurd hk (Nat.not_lt_zero k)⟩, h6⟩
theorem st_forget {j : Nat} (hj : j + 6 ≤ 3072) (sI : Nat → Int32) (sJ : Nat → Int64) (sA : Nat → Nat → Int32) (sB : Nat → Nat → Int64) (h : Inv j sI sJ sA sB) : ∃ (z : Int32 × Int32 × Int32) (y : Int32 × Int32), f_X11_forget (sI 0) (sI 11) = some z ∧ f_X12_forget (sI 45) = some y ∧ z.1 = y.1 ∧ Inv (j + 6) (va_up (va_up (va_up sI 0 z.2.1) 11 z.2.2) 45 y.2) sJ sA sB := by
  obtain ⟨ch, pc, n, t, dp, w, c, wt, a, W, bh, dr, sv, h1, h2, h3, h4, h5, h6, i0, i1, k1, k2, k3⟩ := h
  refine ⟨_, _, rfl, rfl, h6.2.1.trans h6.2.2.1.symm, ch + 1, pc, n, t, dp, w, 0, wt, a, W, bh, dr, sv, by omega, ?_, h3, h4, h5, ⟨Nat.zero_le _, rfl, rfl, fun i hi => absurd hi (Nat.not_lt_zero i)⟩, i0, i1, k1.next (by omega) _, k2.next (by omega) _, k3.next (by omega) _⟩
  show sI 0 + 1 = nI (ch + 1)
  rw [h2, nI_1]
theorem st_say {j : Nat} (hj : j + 6 ≤ 3072) (sI : Nat → Int32) (sJ : Nat → Int64) (sA : Nat → Nat → Int32) (sB : Nat → Nat → Int64) (h : Inv j sI sJ sA sB) (a1 : Int32) : ∃ (z : Int32 × Int32 × (Nat → Int32)) (y : Int32 × Int32 × (Nat → Int32)), f_X11_say (sI 6) (sA 0) a1 = some z ∧ f_X12_say (sI 46) (sA 32) a1 = some y ∧ z.1 = y.1 ∧ Inv (j + 6) (va_up (va_up sI 6 z.2.1) 46 y.2.1) sJ (va_up (va_up sA 0 z.2.2) 32 y.2.2) sB := by
  obtain ⟨ch, pc, n, t, dp, w, c, wt, a, W, bh, dr, sv, h1, h2, h3, h4⟩ := Inv_grow h
  unfold f_X11_say f_X12_say
  obtain ⟨p1, p2, p3, p4⟩ := id h3
  rw [show (33 : Int64) = lN 33 from rfl, show (126 : Int64) = lN 126 from rfl, show (33 : Int32) = nI 33 from rfl, show (126 : Int32) = nI 126 from rfl]
  rcases in3 a1 33 126 (by omega) (by omega) with ⟨q, e⟩ | ⟨q1, q2, e⟩ | ⟨k, q1, q2, rfl, e⟩
  · rw [if_pos q, e]
    exact ⟨_, _, rfl, rfl, rfl, ch, pc, n, t, dp, w, c, wt, a, W, bh, dr, sv, h1, h2, h3, h4⟩
  · rw [if_neg q1, if_neg (fa_of_lt q2).2.1, e]
    exact ⟨_, _, rfl, rfl, rfl, ch, pc, n, t, dp, w, c, wt, a, W, bh, dr, sv, h1, h2, h3, h4⟩
  · rw [if_neg (nI_nlt q1 (by omega)), if_pos (nI_le q2 (by omega)), e]
    simp only [Option.bind_some]
    rw [if_neg (show ¬ (1 : Int32) = 0 by decide)]
    unfold f_X4_put
    by_cases hf : pc = 40
    · subst hf
      rw [p2, p3, if_neg (show ¬ nI 40 < 40 by decide), if_pos (show nI 40 = 40 from rfl)]
      exact ⟨_, _, rfl, rfl, rfl, ch, 40, n, t, dp, w, c, wt, a, W, bh, dr, sv, h1, h2, ⟨p1, rfl, rfl, p4⟩, h4⟩
    · rw [p2, p3, if_pos (show nI pc < 40 from nI_lt (b := 40) (by omega) (by omega)), if_neg (nI_in (by omega) (by omega)), if_neg (show ¬ nI pc = 40 from fun e => hf ((nI_eq (b := 40) (by omega) (by omega)).mp e)), if_neg (nI_in (by omega) (by omega)), nI_clamp (by omega)]
      refine ⟨_, _, rfl, rfl, rfl, ch, pc + 1, n, t, dp, w, c, wt, a, W, bh, dr, sv, h1, h2, ⟨by omega, nI_1 pc, nI_1 pc, fun i hi => ?_⟩, h4⟩
      show upd (sA 0) pc (nI k) i = upd (sA 32) pc (nI k) i
      by_cases hi2 : i = pc
      · subst hi2; rw [up_s, up_s]
      · rw [up_n hi2, up_n hi2]; exact p4 i (by omega)
