theorem hung_tail {n dp b9 : Nat} {o : Option Nat} {best best' : Nat → Int32} (h3 : 3 ≤ n) (h6 : n ≤ 6) (hb9 : b9 = 9) (ho : ∀ b, o = some b → b < b9 ∧ ∀ p, p < n → best p = best' p) (a1 At : Int32) (W : Int64) (mo : Int32) (s1 : Int64) (s2 s3 s4 : Int32) (order : Nat → Int32) (sv q1 q2 q3 q4 q5 q6 : Int32) (order' at' pa has' hh moved' leaks wants : Nat → Int32) : ∃ r, f_X11_hung_49 a1 At (nI n) W mo (hg_b o) s1 s2 s3 s4 order best = some (r, At, W, mo, hg_b o, s1, s2, s3, s4, order, best) ∧ f_X12_hung_43 (0 + 1) a1 (nI (n ^ n)) (hg_b o) (nI (n ^ n)) (nI n) (nI dp) sv q1 q2 q3 q4 q5 q6 order' at' pa has' hh moved' leaks wants best' = some (r, q1, q2, q3, q4, q5, q6, order', at', has', moved', best') := by
  have hp := hg_pow h3 h6
  rw [f_X12_hung_43, if_pos (nI_le (Nat.le_refl _) (by omega))]
  unfold f_X11_hung_49 f_X12_hung_140
  cases o with
  | none =>
    refine ⟨-6, ?_, by rw [if_pos (show hg_b none < 0 by decide)]; rfl⟩
    by_cases q : a1 = -1
    · rw [if_pos q]; rfl
    · rw [if_neg q, if_pos (show hg_b none = -6 from rfl)]
  | some b =>
    obtain ⟨b1, b2⟩ := ho b rfl
    rw [show hg_b (some b) = nI b from rfl, if_neg (nI_pos (n := b) (by omega))]
    by_cases q : a1 = -1
    · rw [if_pos q, if_pos q]
      exact ⟨_, rfl, rfl⟩
    · rw [if_neg q, if_neg q, if_neg (fun q2 => nI_pos (n := b) (by omega) (by rw [q2]; decide)), show (0 : Int64) = (0 : Int32).toInt64 from rfl]
      by_cases q2 : a1 < 0
      · rw [if_pos q2, in_lo q2]
        exact ⟨_, rfl, rfl⟩
      · rw [if_neg q2]
        obtain ⟨k, hk, rfl⟩ := nI_of q2
        by_cases q3 : k < n
        · rw [if_neg (nI_ge q3 (by omega)), if_pos (show nI k < 6 from nI_lt (b := 6) (by omega) (by decide)), if_neg (nI_in (show k < 6 by omega) (by omega)), nI_clamp (by omega), in_ok (nI_pos (by omega)) (fun q4 => by have := (mo_ltB (by omega) (by omega)).mp q4; omega), Option.bind_some, if_neg (show ¬ (1 : Int32) = 0 by decide), if_neg (show ¬ (nI k < 0 ∨ 6 ≤ k) from fun q5 => q5.elim q2 (fun q6 => by omega)), b2 k q3]
          exact ⟨_, rfl, rfl⟩
        · rw [if_pos (nI_le (show n ≤ k by omega) (by omega)), in_hi ((mo_ltB (by omega) hk).mpr (by omega))]
          exact ⟨_, rfl, rfl⟩
theorem st_hung {j : Nat} (hj : j + 6 ≤ 3072) (sI : Nat → Int32) (sJ : Nat → Int64) (sA : Nat → Nat → Int32) (sB : Nat → Nat → Int64) (h : Inv j sI sJ sA sB) (a1 : Int32) : ∃ (z : Int32 × Int32 × Int64 × Int32 × Int32 × Int64 × Int32 × Int32 × Int32 × (Nat → Int32) × (Nat → Int32)) (y : Int32 × Int32 × Int32 × Int32 × Int32 × Int32 × Int32 × (Nat → Int32) × (Nat → Int32) × (Nat → Int32) × (Nat → Int32) × (Nat → Int32)), f_X11_hung (sI 0) (sI 2) (sI 7) (sI 8) (sI 9) (sJ 0) (sJ 1) (sJ 2) (sJ 12) (sI 33) (sI 34) (sJ 11) (sI 30) (sI 31) (sI 32) (sA 23) (sA 24) a1 = some z ∧ f_X12_hung (sI 41) (sI 42) (sI 43) (sI 47) (sI 48) (sI 49) (sI 50) (sI 51) (sI 52) (sA 36) (sA 33) (sA 43) (sA 35) (sA 44) (sA 34) (sA 45) (sA 46) (sA 37) a1 = some y ∧ z.1 = y.1 ∧ Inv (j + 6) (va_up (va_up (va_up (va_up (va_up (va_up (va_up (va_up (va_up (va_up (va_up (va_up sI 2 z.2.1) 33 z.2.2.2.1) 34 z.2.2.2.2.1) 30 z.2.2.2.2.2.2.1) 31 z.2.2.2.2.2.2.2.1) 32 z.2.2.2.2.2.2.2.2.1) 47 y.2.1) 48 y.2.2.1) 49 y.2.2.2.1) 50 y.2.2.2.2.1) 51 y.2.2.2.2.2.1) 52 y.2.2.2.2.2.2.1) (va_up (va_up sJ 12 z.2.2.1) 11 z.2.2.2.2.2.1) (va_up (va_up (va_up (va_up (va_up (va_up (va_up sA 23 z.2.2.2.2.2.2.2.2.2.1) 24 z.2.2.2.2.2.2.2.2.2.2) 36 y.2.2.2.2.2.2.2.1) 33 y.2.2.2.2.2.2.2.2.1) 35 y.2.2.2.2.2.2.2.2.2.1) 34 y.2.2.2.2.2.2.2.2.2.2.1) 37 y.2.2.2.2.2.2.2.2.2.2.2) sB := by
  obtain ⟨ch, pc, n, t, dp, w, c, wt, a, W, bh, dr, sv, h1, h2, h3, h4, h5, h6, i0, i1, k1, k2, k3⟩ := h
  obtain ⟨⟨hw, ha, ht, hth⟩, ⟨r1, r2, r3, r4, r5, r6⟩, ⟨m1, m2, m3, mm, mw⟩⟩ := id h4
  by_cases hn : n ≤ 6
  · have hl : ∀ i, i < n → sA 45 i = nI (hg_lk n t a i) := fun i hi => by
      obtain ⟨p1, p2⟩ := tpi_at ht hi
      have := mm.2.2 _ p1
      rw [p2] at this
      exact this
    obtain ⟨o, q1, q2, q3, q4, q5, q6, order', at', has', moved', best', hS, er⟩ := ml_hung hn hw ha mw hl a1 (sI 47) (sI 48) (sI 49) (sI 50) (sI 51) (sI 52) (sA 36) (sA 33) (sA 35) (sA 34) (sA 37) (pa := sA 43) (ho := sA 44)
    have fin : ∃ (At : Int32) (Wh : Int64) (mo : Int32) (s1 : Int64) (s2 s3 s4 : Int32) (order best : Nat → Int32), f_X11_hung (sI 0) (sI 2) (sI 7) (sI 8) (sI 9) (sJ 0) (sJ 1) (sJ 2) (sJ 12) (sI 33) (sI 34) (sJ 11) (sI 30) (sI 31) (sI 32) (sA 23) (sA 24) a1 = f_X11_hung_49 a1 At (nI n) Wh mo (hg_b o) s1 s2 s3 s4 order best ∧ At = sI 0 ∧ hg_S n t dp wt a (n ^ n) o best := by
      unfold f_X11_hung
      rw [r1, if_pos (show nI n ≤ 6 from nI_le (b := 6) hn (by decide))]
      by_cases q : sI 2 = sI 0
      · obtain ⟨o', hS', e1⟩ := k2.2 (q.trans h2)
        obtain ⟨rfl, -⟩ := hg_uniq hS' hS
        refine ⟨sI 2, sJ 12, sI 33, sJ 11, sI 30, sI 31, sI 32, sA 23, sA 24, ?_, q, hS'⟩
        rw [if_pos q, e1]
      · obtain ⟨o', a1', a2', a3', a4', order2, best2, hS', e1⟩ := cl_hlook hn hw ha ht hth (sJ 11) (sI 30) (sI 31) (sI 32) (sA 23) (sA 24)
        obtain ⟨rfl, -⟩ := hg_uniq hS' hS
        refine ⟨sI 0, hg_W dp a, nI (hg_bd o') - 1, a1', a2', a3', a4', order2, best2, ?_, rfl, hS'⟩
        rw [if_neg q, r2, r3, r4, r5, r6, e1, Option.bind_some]
    obtain ⟨At, Wh, mo, s1, s2, s3, s4, order, best, e, eA, hS'⟩ := fin
    obtain ⟨r, e1, e2⟩ := hung_tail (dp := dp) (best := best) (best' := best') hw.1 hn rfl (fun b hb => ⟨(hS.2 b hb).1, (hg_uniq hS' hS).2 b hb⟩) a1 At Wh mo s1 s2 s3 s4 order (nI (sbit n a.2.2)) q1 q2 q3 q4 q5 q6 order' at' (sA 43) has' (sA 44) moved' (sA 45) (sA 46)
    refine ⟨(r, At, Wh, mo, hg_b o, s1, s2, s3, s4, order, best), (r, q1, q2, q3, q4, q5, q6, order', at', has', moved', best'), e.trans e1, ?_, rfl, ch, pc, n, t, dp, w, c, wt, a, W, bh, dr, sv, by omega, h2, h3, h4, h5, h6, i0, i1, k1, ⟨?_, fun _ => ⟨o, hS', rfl⟩⟩, k3⟩
    · rw [m1, m2, m3]
      exact er.trans e2
    · exact Or.inr ⟨ch, Nat.le_refl _, eA.trans h2⟩
  · have h9 := hw.2.1
    refine ⟨(-4, sI 2, sJ 12, sI 33, sI 34, sJ 11, sI 30, sI 31, sI 32, sA 23, sA 24), (-4, sI 47, sI 48, sI 49, sI 50, sI 51, sI 52, sA 36, sA 33, sA 35, sA 34, sA 37), ?_, ?_, rfl, ch, pc, n, t, dp, w, c, wt, a, W, bh, dr, sv, by omega, h2, h3, h4, h5, h6, i0, i1, k1, k2, k3⟩
    · unfold f_X11_hung
      rw [r1, if_neg (show ¬ nI n ≤ 6 from nI_ge (a := 6) (by omega) (by omega))]
    · unfold f_X12_hung
      rw [m1, if_neg (show ¬ nI n ≤ 6 from nI_ge (a := 6) (by omega) (by omega))]
