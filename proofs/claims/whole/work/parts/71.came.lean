theorem cl_fit {ch n dp c m : Nat} {wt bh dr : Nat → Nat} {sv : Nat → Bool} {a : AS} {At cm cn fd0 : Int32} {could first : Nat → Int32} {b d s : Nat → Int32} (hw : wOK n dp wt) (ha : aOK n dp a) (hm : m ≤ 10) (hc : c ≤ 6) (hS : ∀ i, i < c → b i = nI (bh i) ∧ bh i ≤ 10 ∧ d i = nI (dr i) ∧ dr i < n ∧ s i = z01 (sv i)) (row : Nat → Int32) (nd nl br : Nat → Int64) (hk : Cache ch At (CameOK n dp wt a c bh dr sv cm cn first could)) : ∃ fd could' nd' nl' br' row' first', f_X11_fit (nI ch) At cm cn fd0 (nI n) (nI dp) (w9 a.1 a.2.2) (v9 a.2.1) (v9 wt) (nI c) could nd nl br b s d row first (nI m) = some (nI ch, nI m, nI (ct n dp wt c bh dr sv m 0 a), fd, could', nd', nl', br', row', first') ∧ (∀ i, i < m → could' i = nI (sb3 (cd n dp wt c bh dr sv m 0 a i))) ∧ (0 < ct n dp wt c bh dr sv m 0 a → ∀ i, i < m → first' i = mvI (fi n dp wt c bh dr sv m 0 a i)) := by
  obtain ⟨fd, could', nd', nl', br', row', first', e1, e2, e3⟩ := cl_came hw ha hm hc hS could row first nd nl br
  have go : f_X11_fit_22 (nI m) (nI ch) (nI n) (nI dp) (w9 a.1 a.2.2) (v9 a.2.1) (v9 wt) (nI c) could nd nl br b s d row first = some (nI ch, nI m, nI (ct n dp wt c bh dr sv m 0 a), fd, could', nd', nl', br', row', first') := by
    unfold f_X11_fit_22
    rw [e1, Option.bind_some]
  unfold f_X11_fit
  by_cases q : At = nI ch
  · rw [if_pos q]
    by_cases q2 : cm = nI m
    · rw [if_pos q2]
      obtain ⟨mm, g1, g2, g3, g4, g5⟩ := hk.2 q
      obtain rfl : mm = m := (nI_eq (by omega) (by omega)).mp (g2.symm.trans q2)
      rw [q, g2, g3]
      exact ⟨_, _, _, _, _, _, _, rfl, g4, g5⟩
    · rw [if_neg q2, go]
      exact ⟨_, _, _, _, _, _, _, rfl, e2, e3⟩
  · rw [if_neg q, go]
    exact ⟨_, _, _, _, _, _, _, rfl, e2, e3⟩
theorem st_came {j : Nat} (hj : j + 6 ≤ 3072) (sI : Nat → Int32) (sJ : Nat → Int64) (sA : Nat → Nat → Int32) (sB : Nat → Nat → Int64) (h : Inv j sI sJ sA sB) (a1 : Int32) (a2 : Int32) : ∃ (z : Int32 × Int32 × Int32 × Int32 × Int32 × (Nat → Int32) × (Nat → Int64) × (Nat → Int64) × (Nat → Int64) × (Nat → Int32) × (Nat → Int32)) (y : Int32 × Int32 × Int32 × Int32 × Int32 × Int32 × (Nat → Int32) × (Nat → Int32) × (Nat → Int32)), f_X11_came (sI 0) (sI 3) (sI 38) (sI 39) (sI 40) (sI 7) (sI 8) (sJ 0) (sJ 1) (sJ 2) (sI 11) (sA 27) (sB 1) (sB 2) (sB 3) (sA 5) (sA 7) (sA 6) (sA 25) (sA 26) a1 a2 = some z ∧ f_X12_came (sI 41) (sI 42) (sI 43) (sI 45) (sI 47) (sI 48) (sI 49) (sI 50) (sI 51) (sA 33) (sA 43) (sA 35) (sA 44) (sA 29) (sA 30) (sA 31) (sA 34) (sA 45) (sA 46) a1 a2 = some y ∧ z.1 = y.1 ∧ Inv (j + 6) (va_up (va_up (va_up (va_up (va_up (va_up (va_up (va_up (va_up sI 3 z.2.1) 38 z.2.2.1) 39 z.2.2.2.1) 40 z.2.2.2.2.1) 47 y.2.1) 48 y.2.2.1) 49 y.2.2.2.1) 50 y.2.2.2.2.1) 51 y.2.2.2.2.2.1) sJ (va_up (va_up (va_up (va_up (va_up (va_up sA 27 z.2.2.2.2.2.1) 25 z.2.2.2.2.2.2.2.2.2.1) 26 z.2.2.2.2.2.2.2.2.2.2) 33 y.2.2.2.2.2.2.1) 35 y.2.2.2.2.2.2.2.1) 34 y.2.2.2.2.2.2.2.2) (va_up (va_up (va_up sB 1 z.2.2.2.2.2.2.1) 2 z.2.2.2.2.2.2.2.1) 3 z.2.2.2.2.2.2.2.2.1) := by
  obtain ⟨ch, pc, n, t, dp, w, c, wt, a, W, bh, dr, sv, h1, h2, h3, h4, h5, h6, i0, i1, k1, k2, k3⟩ := id h
  obtain ⟨⟨hw, ha, ht, hth⟩, ⟨r1, r2, r3, r4, r5, r6⟩, ⟨m1, m2, m3, mm, mw⟩⟩ := id h4
  obtain ⟨hc, c1, c2, hs⟩ := id h6
  have h9 := hw.2.1
  have hS : ∀ i, i < c → sA 5 i = nI (bh i) ∧ bh i ≤ 10 ∧ sA 6 i = nI (dr i) ∧ dr i < n ∧ sA 7 i = z01 (sv i) := fun i hi => ⟨(hs i hi).1.1, (hs i hi).1.2.2, (hs i hi).2.1.1, (hs i hi).2.1.2.2, (hs i hi).2.2.1⟩
  have hM : ∀ i, i < c → sA 29 i = nI (bh i) ∧ bh i ≤ 10 ∧ sA 30 i = nI (dr i) ∧ dr i < n ∧ sA 31 i = z01 (sv i) := fun i hi => ⟨(hs i hi).1.2.1, (hs i hi).1.2.2, (hs i hi).2.1.2.1, (hs i hi).2.1.2.2, (hs i hi).2.2.2⟩
  have res : (f_X11_came (sI 0) (sI 3) (sI 38) (sI 39) (sI 40) (sI 7) (sI 8) (sJ 0) (sJ 1) (sJ 2) (sI 11) (sA 27) (sB 1) (sB 2) (sB 3) (sA 5) (sA 7) (sA 6) (sA 25) (sA 26) a1 a2 = some (-2, sI 3, sI 38, sI 39, sI 40, sA 27, sB 1, sB 2, sB 3, sA 25, sA 26) ∧ f_X12_came (sI 41) (sI 42) (sI 43) (sI 45) (sI 47) (sI 48) (sI 49) (sI 50) (sI 51) (sA 33) (sA 43) (sA 35) (sA 44) (sA 29) (sA 30) (sA 31) (sA 34) (sA 45) (sA 46) a1 a2 = some (-2, sI 47, sI 48, sI 49, sI 50, sI 51, sA 33, sA 35, sA 34)) ∨ ∃ m r R fd could' nd' nl' br' row' first', m ≤ 10 ∧ f_X11_came (sI 0) (sI 3) (sI 38) (sI 39) (sI 40) (sI 7) (sI 8) (sJ 0) (sJ 1) (sJ 2) (sI 11) (sA 27) (sB 1) (sB 2) (sB 3) (sA 5) (sA 7) (sA 6) (sA 25) (sA 26) a1 a2 = some (r, nI ch, nI m, nI (ct n dp wt c bh dr sv m 0 a), fd, could', nd', nl', br', row', first') ∧ f_X12_came (sI 41) (sI 42) (sI 43) (sI 45) (sI 47) (sI 48) (sI 49) (sI 50) (sI 51) (sA 33) (sA 43) (sA 35) (sA 44) (sA 29) (sA 30) (sA 31) (sA 34) (sA 45) (sA 46) a1 a2 = some (r, R) ∧ (∀ i, i < m → could' i = nI (sb3 (cd n dp wt c bh dr sv m 0 a i))) ∧ (0 < ct n dp wt c bh dr sv m 0 a → ∀ i, i < m → first' i = mvI (fi n dp wt c bh dr sv m 0 a i)) := by
    unfold f_X11_came f_X12_came
    rw [show (0 : Int64) = lN 0 from rfl, show (10 : Int64) = lN 10 from rfl]
    rcases in3 a1 0 10 (by omega) (by omega) with ⟨q, e⟩ | ⟨q1, q2, e⟩ | ⟨m, -, qm, rfl, e⟩
    · left
      rw [if_pos (show a1 < 0 from q), e]
      exact ⟨rfl, rfl⟩
    · left
      rw [if_neg (show ¬ a1 < 0 from q1), if_neg (show ¬ a1 ≤ 10 from (fa_of_lt q2).2.1), e]
      exact ⟨rfl, rfl⟩
    · right
      obtain ⟨fd, could', nd', nl', br', row', first', e1, e2, e3⟩ := cl_fit (fd0 := sI 40) hw ha qm hc hS (sA 25) (sB 1) (sB 2) (sB 3) k3
      obtain ⟨r, R, f1, f2, f3, f4⟩ := ml_came_26 hw mw hc qm hM ha mm a2 (3 ^ m) 0 fuel (sI 47) (sI 48) (sI 49) (sI 50) (sI 51) (sA 33) (sA 35) (sA 34) (by omega) (fuel_big (by have := pow3_le qm; omega)) (fun _ y' hy' => absurd hy' (Nat.not_lt_zero y'))
      have f1' : f_X12_came_26 fuel (nI m) a2 (nI (3 ^ m)) 0 0 (nI n) (nI dp) (nI (sbit n a.2.2)) (nI c) (sI 47) (sI 48) (sI 49) (sI 50) (sI 51) (sA 33) (sA 43) (sA 35) (sA 44) (sA 29) (sA 30) (sA 31) (sA 34) (sA 45) (sA 46) = some (r, R) := f1
      have hct := ct_le (n := n) (dp := dp) (wt := wt) (c := c) (bh := bh) (dr := dr) (sv := sv) m 0 a
      have hp := pow3_le qm
      refine ⟨m, r, R, fd, could', nd', nl', br', row', first', qm, ?_, ?_, e2, e3⟩
      · unfold f_X11_came_50
        rw [if_neg (nI_pos (by omega)), if_pos (show nI m ≤ 10 from nI_le (b := 10) qm (by omega)), h2, r1, r2, r4, r5, r6, c1, e1, Option.bind_some]
        by_cases g : a2 = -1
        · rw [if_pos g, f2 g]
        · rw [if_neg g]
          by_cases z : ct n dp wt c bh dr sv m 0 a = 0
          · rw [if_pos (show nI (ct n dp wt c bh dr sv m 0 a) = 0 by rw [z]; rfl), f3 g z]
          · obtain ⟨g1, g2⟩ := f4 g (by omega)
            rw [if_neg (nI_ne0 (by omega) (by omega))]
            by_cases q0 : a2 < 0
            · rw [if_pos q0, g2 (fun i hi e => by rw [e] at q0; exact nI_pos (by omega) q0)]
            · rw [if_neg q0]
              obtain ⟨k, hk, rfl⟩ := nI_of q0
              by_cases q3 : k < m
              · rw [if_pos (nI_lt q3 (by omega)), if_neg (nI_in (by omega) (by omega)), nI_clamp (by omega), g1 k q3 rfl]
                dsimp only
                rw [e3 (by omega) k q3]
              · rw [if_neg (nI_nlt (by omega) (by omega)), g2 (fun i hi e => q3 (by have := (nI_eq hk (by omega)).mp e; omega))]
      · rw [e, Option.bind_some, if_neg (show ¬ (1 : Int32) = 0 by decide), ml_rowsOf qm, Option.bind_some, m1, m2, m3, c2]
        exact f1'
  rcases res with ⟨e1, e2⟩ | ⟨m, r, R, fd, could', nd', nl', br', row', first', qm, f1, f2, e2, e3⟩
  · exact ⟨_, _, e1, e2, rfl, Inv_grow h⟩
  · exact ⟨_, _, f1, f2, rfl, ch, pc, n, t, dp, w, c, wt, a, W, bh, dr, sv, by omega, h2, h3, h4, h5, h6, i0, i1, k1, k2, ⟨Or.inr ⟨ch, Nat.le_refl _, rfl⟩, fun _ => ⟨m, qm, rfl, rfl, e2, e3⟩⟩⟩
theorem st_could {j : Nat} (hj : j + 6 ≤ 3072) (sI : Nat → Int32) (sJ : Nat → Int64) (sA : Nat → Nat → Int32) (sB : Nat → Nat → Int64) (h : Inv j sI sJ sA sB) (a1 : Int32) (a2 : Int32) : ∃ (z : Int32 × Int32 × Int32 × Int32 × Int32 × (Nat → Int32) × (Nat → Int64) × (Nat → Int64) × (Nat → Int64) × (Nat → Int32) × (Nat → Int32)) (y : Int32 × Int32 × Int32 × Int32 × Int32 × Int32 × (Nat → Int32) × (Nat → Int32) × (Nat → Int32)), f_X11_could (sI 0) (sI 3) (sI 38) (sI 39) (sI 40) (sI 7) (sI 8) (sJ 0) (sJ 1) (sJ 2) (sI 11) (sA 27) (sB 1) (sB 2) (sB 3) (sA 5) (sA 7) (sA 6) (sA 25) (sA 26) a1 a2 = some z ∧ f_X12_could (sI 41) (sI 42) (sI 43) (sI 45) (sI 47) (sI 48) (sI 49) (sI 50) (sI 51) (sA 33) (sA 43) (sA 35) (sA 44) (sA 29) (sA 30) (sA 31) (sA 34) (sA 45) (sA 46) a1 a2 = some y ∧ z.1 = y.1 ∧ Inv (j + 6) (va_up (va_up (va_up (va_up (va_up (va_up (va_up (va_up (va_up sI 3 z.2.1) 38 z.2.2.1) 39 z.2.2.2.1) 40 z.2.2.2.2.1) 47 y.2.1) 48 y.2.2.1) 49 y.2.2.2.1) 50 y.2.2.2.2.1) 51 y.2.2.2.2.2.1) sJ (va_up (va_up (va_up (va_up (va_up (va_up sA 27 z.2.2.2.2.2.1) 25 z.2.2.2.2.2.2.2.2.2.1) 26 z.2.2.2.2.2.2.2.2.2.2) 33 y.2.2.2.2.2.2.1) 35 y.2.2.2.2.2.2.2.1) 34 y.2.2.2.2.2.2.2.2) (va_up (va_up (va_up sB 1 z.2.2.2.2.2.2.1) 2 z.2.2.2.2.2.2.2.1) 3 z.2.2.2.2.2.2.2.2.1) := by
  obtain ⟨ch, pc, n, t, dp, w, c, wt, a, W, bh, dr, sv, h1, h2, h3, h4, h5, h6, i0, i1, k1, k2, k3⟩ := id h
  obtain ⟨⟨hw, ha, ht, hth⟩, ⟨r1, r2, r3, r4, r5, r6⟩, ⟨m1, m2, m3, mm, mw⟩⟩ := id h4
  obtain ⟨hc, c1, c2, hs⟩ := id h6
  have h9 := hw.2.1
  have hS : ∀ i, i < c → sA 5 i = nI (bh i) ∧ bh i ≤ 10 ∧ sA 6 i = nI (dr i) ∧ dr i < n ∧ sA 7 i = z01 (sv i) := fun i hi => ⟨(hs i hi).1.1, (hs i hi).1.2.2, (hs i hi).2.1.1, (hs i hi).2.1.2.2, (hs i hi).2.2.1⟩
  have hM : ∀ i, i < c → sA 29 i = nI (bh i) ∧ bh i ≤ 10 ∧ sA 30 i = nI (dr i) ∧ dr i < n ∧ sA 31 i = z01 (sv i) := fun i hi => ⟨(hs i hi).1.2.1, (hs i hi).1.2.2, (hs i hi).2.1.2.1, (hs i hi).2.1.2.2, (hs i hi).2.2.2⟩
  have res : (f_X11_could (sI 0) (sI 3) (sI 38) (sI 39) (sI 40) (sI 7) (sI 8) (sJ 0) (sJ 1) (sJ 2) (sI 11) (sA 27) (sB 1) (sB 2) (sB 3) (sA 5) (sA 7) (sA 6) (sA 25) (sA 26) a1 a2 = some (-2, sI 3, sI 38, sI 39, sI 40, sA 27, sB 1, sB 2, sB 3, sA 25, sA 26) ∧ f_X12_could (sI 41) (sI 42) (sI 43) (sI 45) (sI 47) (sI 48) (sI 49) (sI 50) (sI 51) (sA 33) (sA 43) (sA 35) (sA 44) (sA 29) (sA 30) (sA 31) (sA 34) (sA 45) (sA 46) a1 a2 = some (-2, sI 47, sI 48, sI 49, sI 50, sI 51, sA 33, sA 35, sA 34)) ∨ ∃ m r R fd could' nd' nl' br' row' first', m ≤ 10 ∧ f_X11_could (sI 0) (sI 3) (sI 38) (sI 39) (sI 40) (sI 7) (sI 8) (sJ 0) (sJ 1) (sJ 2) (sI 11) (sA 27) (sB 1) (sB 2) (sB 3) (sA 5) (sA 7) (sA 6) (sA 25) (sA 26) a1 a2 = some (r, nI ch, nI m, nI (ct n dp wt c bh dr sv m 0 a), fd, could', nd', nl', br', row', first') ∧ f_X12_could (sI 41) (sI 42) (sI 43) (sI 45) (sI 47) (sI 48) (sI 49) (sI 50) (sI 51) (sA 33) (sA 43) (sA 35) (sA 44) (sA 29) (sA 30) (sA 31) (sA 34) (sA 45) (sA 46) a1 a2 = some (r, R) ∧ (∀ i, i < m → could' i = nI (sb3 (cd n dp wt c bh dr sv m 0 a i))) ∧ (0 < ct n dp wt c bh dr sv m 0 a → ∀ i, i < m → first' i = mvI (fi n dp wt c bh dr sv m 0 a i)) := by
    unfold f_X11_could f_X12_could
    rw [show (0 : Int64) = lN 0 from rfl, show (10 : Int64) = lN 10 from rfl]
    rcases in3 a1 0 10 (by omega) (by omega) with ⟨q, e⟩ | ⟨q1, q2, e⟩ | ⟨m, -, qm, rfl, e⟩
    · left
      rw [if_pos (show a1 < 0 from q), e]
      exact ⟨rfl, rfl⟩
    · left
      rw [if_neg (show ¬ a1 < 0 from q1), if_pos (show (10 : Int32) < a1 from q2), e]
      exact ⟨rfl, rfl⟩
    · rw [if_neg (nI_pos (by omega)), if_neg (show ¬ (10 : Int32) < nI m from nI_nlt (a := 10) qm (by omega)), e, Option.bind_some, if_neg (show ¬ (1 : Int32) = 0 by decide)]
      by_cases q0 : a2 < 0
      · left
        rw [if_pos q0, show lN 0 = (0 : Int32).toInt64 from rfl, in_lo q0]
        exact ⟨rfl, rfl⟩
      · obtain ⟨i, hi, rfl⟩ := nI_of q0
        by_cases q3 : i < m
        · right
          have ein : f_X12_in (nI i).toInt64 (lN 0) (nI m - 1).toInt64 = some 1 := in_ok (b := 0) (nI_pos (by omega)) (by
            obtain ⟨m', rfl⟩ : ∃ m', m = m' + 1 := ⟨m - 1, by omega⟩
            rw [nI_p1]
            exact nI_nlt (by omega) (by omega))
          obtain ⟨fd, could', nd', nl', br', row', first', e1, e2, e3⟩ := cl_fit (fd0 := sI 40) hw ha qm hc hS (sA 25) (sB 1) (sB 2) (sB 3) k3
          obtain ⟨R, f1⟩ := ml_could_39 (i := i) hw mw hc qm q3 hM ha mm (3 ^ m) 0 fuel (sI 47) (sI 48) (sI 49) (sI 50) (sI 51) (sA 33) (sA 35) (sA 34) (by omega) (fuel_big (by have := pow3_le qm; omega))
          have f1' : f_X12_could_39 fuel (nI m) (nI i) (nI (3 ^ m)) 0 0 (nI n) (nI dp) (nI (sbit n a.2.2)) (nI c) (sI 47) (sI 48) (sI 49) (sI 50) (sI 51) (sA 33) (sA 43) (sA 35) (sA 44) (sA 29) (sA 30) (sA 31) (sA 34) (sA 45) (sA 46) = some (_, R) := f1
          have hct := ct_le (n := n) (dp := dp) (wt := wt) (c := c) (bh := bh) (dr := dr) (sv := sv) m 0 a
          have hp := pow3_le qm
          refine ⟨m, if ct n dp wt c bh dr sv m 0 a = 0 then -6 else nI (sb3 (cd n dp wt c bh dr sv m 0 a i)), R, fd, could', nd', nl', br', row', first', qm, ?_, ?_, e2, e3⟩
          · rw [if_neg q0, if_pos (nI_lt q3 (by omega)), h2, r1, r2, r4, r5, r6, c1, e1, Option.bind_some]
            by_cases z : ct n dp wt c bh dr sv m 0 a = 0
            · rw [if_pos (show nI (ct n dp wt c bh dr sv m 0 a) = 0 by rw [z]; rfl), if_pos z]
            · rw [if_neg (nI_ne0 (by omega) (by omega)), if_neg z, if_neg (nI_in (by omega) (by omega)), nI_clamp (by omega)]
              dsimp only
              rw [e2 i q3]
          · rw [ein, Option.bind_some, if_neg (show ¬ (1 : Int32) = 0 by decide), ml_rowsOf qm, Option.bind_some, m1, m2, m3, c2]
            exact f1'
        · left
          rw [if_neg q0, if_neg (nI_nlt (by omega) (by omega)), show lN 0 = (0 : Int32).toInt64 from rfl, in_hi ((mo_ltB (by omega) hi).mpr (by omega))]
          exact ⟨rfl, rfl⟩
  rcases res with ⟨e1, e2⟩ | ⟨m, r, R, fd, could', nd', nl', br', row', first', qm, f1, f2, e2, e3⟩
  · exact ⟨_, _, e1, e2, rfl, Inv_grow h⟩
  · exact ⟨_, _, f1, f2, rfl, ch, pc, n, t, dp, w, c, wt, a, W, bh, dr, sv, by omega, h2, h3, h4, h5, h6, i0, i1, k1, k2, ⟨Or.inr ⟨ch, Nat.le_refl _, rfl⟩, fun _ => ⟨m, qm, rfl, rfl, e2, e3⟩⟩⟩
