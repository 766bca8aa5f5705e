def hwS (x : Int32) : Nat := if x = 43 then 0 else if x = 45 then 1 else 2
theorem hwS_ok {x : Int32} (h : okS x) : x = mvI (hwS x) ∧ hwS x < 3 := by
  rcases h with rfl | rfl | rfl <;> exact ⟨rfl, by decide⟩
theorem tRs_lt {n : Nat} (h3 : 3 ≤ n) : ∀ (l : List Nat) {t : Nat}, t < n → tRs n l t < n
  | [], _, h => h
  | _ :: l, _, _ => tRs_lt h3 l (tR_lt h3)
theorem aRun_th {n dp : Nat} {wt : Nat → Nat} {l : List Nat} {a : AS} {d : Nat} (h : (aRun n dp wt l a).2.2 d = true) : a.2.2 d = true := by
  cases q : a.2.2 d
  · rw [aRun_served l q] at h; cases h
  · rfl
theorem neg_six {i : Nat} (h : i < 1000) : ¬ nI i = -6 := fun q => by
  have q2 := congrArg Int32.toInt q
  rw [nI_toInt (by omega)] at q2
  exact absurd q2 (by rw [show (-6 : Int32).toInt = -6 from rfl]; omega)
theorem ml_keep {n : Nat} (h9 : n ≤ 9) (x1 d1 d2 d3 d4 d5 : Int32) (at_ has moved : Nat → Int32) (pa ho : Nat → Int32) : ∃ pa' ho', f_X12_pull_32 fuel x1 0 (nI n) d1 d2 d3 d4 d5 at_ pa has ho moved = some (x1, d1, 0, d1, d2, d3, d4, d5, at_, pa', has, ho', moved) ∧ ∀ p, p < n → pa' p = at_ p ∧ ho' p = has p := by
  have key : ∀ (d k fu : Nat) (pa ho : Nat → Int32), k + d = n → d < fu → (∀ p, p < k → pa p = at_ p ∧ ho p = has p) → ∃ pa' ho', f_X12_pull_32 fu x1 (nI k) (nI n) d1 d2 d3 d4 d5 at_ pa has ho moved = some (x1, d1, 0, d1, d2, d3, d4, d5, at_, pa', has, ho', moved) ∧ ∀ p, p < n → pa' p = at_ p ∧ ho' p = has p := by
    intro d
    induction d with
    | zero =>
      intro k fu pa ho hk hf hh
      obtain ⟨f, rfl⟩ : ∃ f, fu = f + 1 := ⟨fu - 1, by omega⟩
      refine ⟨pa, ho, ?_, fun p hp => hh p (by omega)⟩
      rw [f_X12_pull_32, if_pos (nI_le (by omega) (by omega))]
    | succ d ih =>
      intro k fu pa ho hk hf hh
      obtain ⟨f, rfl⟩ : ∃ f, fu = f + 1 := ⟨fu - 1, by omega⟩
      rw [f_X12_pull_32, if_neg (nI_ge (by omega) (by omega)), if_neg (nI_in (by omega) (by omega)), if_neg (nI_in (by omega) (by omega)), if_neg (nI_in (by omega) (by omega)), if_neg (nI_in (by omega) (by omega)), nI_clamp (by omega), nI_1]
      exact ih (k + 1) f (upd pa k (at_ k)) (upd ho k (has k)) (by omega) (by omega) (fun p hp => by
        by_cases h : p = k
        · subst h; rw [up_s, up_s]; exact ⟨rfl, rfl⟩
        · rw [up_n h, up_n h]; exact hh p (by omega))
  exact key n 0 fuel pa ho (by omega) (fuel_big (by omega)) (fun p hp => absurd hp (Nat.not_lt_zero p))
theorem st_pull {j : Nat} (hj : j + 6 ≤ 3072) (sI : Nat → Int32) (sJ : Nat → Int64) (sA : Nat → Nat → Int32) (sB : Nat → Nat → Int64) (h : Inv j sI sJ sA sB) : ∃ (z : Int32 × Int32 × Int32 × Int32 × Int64 × Int64 × Int64 × Int64 × Int32 × Int32 × Int32 × Int32 × Int32 × Int32 × (Nat → Int32)) (y : Int32 × Int32 × Int32 × Int32 × Int32 × Int32 × Int32 × Int32 × (Nat → Int32) × (Nat → Int32) × (Nat → Int32) × (Nat → Int32) × (Nat → Int32)), f_X11_pull (sI 0) (sI 6) (sA 0) (sI 7) (sI 8) (sI 9) (sJ 0) (sJ 1) (sJ 2) (sJ 9) (sJ 10) (sI 24) (sI 25) (sI 26) (sI 27) (sI 28) (sI 29) (sA 22) = some z ∧ f_X12_pull (sI 41) (sI 42) (sI 43) (sI 46) (sI 47) (sI 48) (sI 49) (sI 50) (sI 51) (sA 32) (sA 33) (sA 43) (sA 35) (sA 44) (sA 34) (sA 45) (sA 46) = some y ∧ z.1 = y.1 ∧ Inv (j + 6) (va_up (va_up (va_up (va_up (va_up (va_up (va_up (va_up (va_up (va_up (va_up (va_up (va_up (va_up (va_up (va_up sI 0 z.2.1) 6 z.2.2.1) 9 z.2.2.2.1) 24 z.2.2.2.2.2.2.2.2.1) 25 z.2.2.2.2.2.2.2.2.2.1) 26 z.2.2.2.2.2.2.2.2.2.2.1) 27 z.2.2.2.2.2.2.2.2.2.2.2.1) 28 z.2.2.2.2.2.2.2.2.2.2.2.2.1) 29 z.2.2.2.2.2.2.2.2.2.2.2.2.2.1) 43 y.2.1) 46 y.2.2.1) 47 y.2.2.2.1) 48 y.2.2.2.2.1) 49 y.2.2.2.2.2.1) 50 y.2.2.2.2.2.2.1) 51 y.2.2.2.2.2.2.2.1) (va_up (va_up (va_up (va_up sJ 0 z.2.2.2.2.1) 1 z.2.2.2.2.2.1) 9 z.2.2.2.2.2.2.1) 10 z.2.2.2.2.2.2.2.1) (va_up (va_up (va_up (va_up (va_up (va_up sA 22 z.2.2.2.2.2.2.2.2.2.2.2.2.2.2) 33 y.2.2.2.2.2.2.2.2.1) 43 y.2.2.2.2.2.2.2.2.2.1) 35 y.2.2.2.2.2.2.2.2.2.2.1) 44 y.2.2.2.2.2.2.2.2.2.2.2.1) 34 y.2.2.2.2.2.2.2.2.2.2.2.2) sB := by
  obtain ⟨ch, pc, n, t, dp, w, c, wt, a, W, bh, dr, sv, h1, h2, h3, h4, h5, h6, i0, i1, k1, k2, k3⟩ := id h
  obtain ⟨⟨hw, ha, ht, hth⟩, ⟨r1, r2, r3, r4, r5, r6⟩, ⟨m1, m2, m3, mm, mw⟩⟩ := id h4
  obtain ⟨p1, p2, p3, p4⟩ := id h3
  obtain ⟨r, e1, e2, hr⟩ := fault_ok p1 p4
  unfold f_X11_pull f_X12_pull
  rw [p2, p3, e1, e2]
  simp only [Option.bind_some]
  rcases hr with ⟨rfl, hok⟩ | ⟨i, hi, rfl⟩
  · rw [if_pos rfl, if_pos (show (-6 : Int32) < 0 by decide), r1, r2, r3, r4, r5, r6, m1, m2, m3]
    have hs1 : ∀ i, i < pc → sA 0 i = mvI (hwS (sA 0 i)) ∧ hwS (sA 0 i) < 3 := fun i hi => hwS_ok (hok i hi)
    have hs2 : ∀ i, i < pc → sA 32 i = mvI (hwS (sA 0 i)) ∧ hwS (sA 0 i) < 3 := fun i hi => by rw [← p4 i hi]; exact hs1 i hi
    obtain ⟨when', ec, hwh⟩ := cl_runPad (hw := fun i => hwS (sA 0 i)) hw ha ht p1 hs1 (sA 22)
    obtain ⟨at', has', mv', em, hm⟩ := ml_goPad (hw := fun i => hwS (sA 0 i)) hw ha p1 hs2 mw mm (sA 33) (sA 35) (sA 34)
    have hra := aRun_ok hw (hlist (fun i => hwS (sA 0 i)) 0 pc) ha
    rw [c_servedBits (lt16 hw.2.2.2.1 ha.1) hw.2.1, ec, em]
    simp only [Option.bind_some]
    rw [c_servedBits (lt16 hw.2.2.2.1 hra.1) hw.2.1]
    simp only [Option.bind_some]
    obtain ⟨pa', ho', ek, hk⟩ := ml_keep hw.2.1 (nI (sbit n (aRun n dp wt (hlist (fun i => hwS (sA 0 i)) 0 pc) a).2.2) &&& (nI (sbit n a.2.2) ^^^ (-1))) (nI (sbit n (aRun n dp wt (hlist (fun i => hwS (sA 0 i)) 0 pc) a).2.2)) (nI (sD n dp wt (hlist (fun i => hwS (sA 0 i)) 0 pc) a)) (nI (sL n dp wt (hlist (fun i => hwS (sA 0 i)) 0 pc) a)) (nI (sK n dp wt (hlist (fun i => hwS (sA 0 i)) 0 pc) a)) (nI (sT n dp wt (hlist (fun i => hwS (sA 0 i)) 0 pc) a)) at' has' mv' (sA 43) (sA 44)
    rw [ek]
    have hm2 : mR n (tpi n (tRs n (hlist (fun i => hwS (sA 0 i)) 0 pc) t)) (aRun n dp wt (hlist (fun i => hwS (sA 0 i)) 0 pc) a) at' has' (sA 45) := hm.congr (rotps_tpi hw.1 _ t _ ht (fun p _ => rfl))
    refine ⟨_, _, rfl, rfl, rfl, ch + 1, 0, n, tRs n (hlist (fun i => hwS (sA 0 i)) 0 pc) t, dp, w, c, wt, aRun n dp wt (hlist (fun i => hwS (sA 0 i)) 0 pc) a, W, bh, dr, sv, by omega, ?_, ⟨Nat.zero_le _, rfl, rfl, fun i hi => absurd hi (Nat.not_lt_zero i)⟩, ⟨⟨hw, hra, tRs_lt hw.1 _ ht, fun d hd => hth d (aRun_th hd)⟩, ⟨r1, r2, rfl, rfl, rfl, r6⟩, ⟨m1, m2, rfl, ⟨hm2.1, ⟨fun p hp => ?_, fun p hp => ?_⟩, hm2.2.2⟩, mw⟩⟩, h5, h6, i0, i1, k1.next (by omega) _, k2.next (by omega) _, k3.next (by omega) _⟩
    · show sI 0 + 1 = nI (ch + 1)
      rw [h2, nI_1]
    · show pa' p = _
      rw [(hk p hp).1]; exact hm2.2.1.1 p hp
    · show ho' _ = _
      rw [(hk _ (hm2.1.1 p hp)).2]; exact hm2.2.1.2 p hp
  · rw [if_neg (neg_six (by omega)), if_neg (nI_pos (by omega))]
    exact ⟨_, _, rfl, rfl, rfl, ch, pc, n, t, dp, w, c, wt, a, W, bh, dr, sv, by omega, h2, ⟨p1, rfl, rfl, p4⟩, h4, h5, h6, i0, i1, k1, k2, k3⟩
theorem st_behind {j : Nat} (hj : j + 6 ≤ 3072) (sI : Nat → Int32) (sJ : Nat → Int64) (sA : Nat → Nat → Int32) (sB : Nat → Nat → Int64) (h : Inv j sI sJ sA sB) (a1 : Int32) (a2 : Int32) : ∃ (z : Int32 × Int64 × Int64 × Int32 × Int32 × Int32 × Int32 × Int32 × Int32 × (Nat → Int32)) (y : Int32 × Int32 × Int32 × Int32 × Int32 × Int32 × (Nat → Int32) × (Nat → Int32) × (Nat → Int32)), f_X11_behind (sI 7) (sI 8) (sI 9) (sJ 0) (sJ 1) (sJ 2) (sI 6) (sA 0) (sJ 9) (sJ 10) (sI 24) (sI 25) (sI 26) (sI 27) (sI 28) (sI 29) (sA 22) a1 a2 = some z ∧ f_X12_behind (sI 41) (sI 42) (sI 43) (sI 46) (sI 47) (sI 48) (sI 49) (sI 50) (sI 51) (sA 32) (sA 33) (sA 43) (sA 35) (sA 44) (sA 34) (sA 45) (sA 46) a1 a2 = some y ∧ z.1 = y.1 ∧ Inv (j + 6) (va_up (va_up (va_up (va_up (va_up (va_up (va_up (va_up (va_up (va_up (va_up sI 24 z.2.2.2.1) 25 z.2.2.2.2.1) 26 z.2.2.2.2.2.1) 27 z.2.2.2.2.2.2.1) 28 z.2.2.2.2.2.2.2.1) 29 z.2.2.2.2.2.2.2.2.1) 47 y.2.1) 48 y.2.2.1) 49 y.2.2.2.1) 50 y.2.2.2.2.1) 51 y.2.2.2.2.2.1) (va_up (va_up sJ 9 z.2.1) 10 z.2.2.1) (va_up (va_up (va_up (va_up sA 22 z.2.2.2.2.2.2.2.2.2) 33 y.2.2.2.2.2.2.1) 35 y.2.2.2.2.2.2.2.1) 34 y.2.2.2.2.2.2.2.2) sB := by
  refine (fun (q : ∃ r zz yy, f_X11_behind (sI 7) (sI 8) (sI 9) (sJ 0) (sJ 1) (sJ 2) (sI 6) (sA 0) (sJ 9) (sJ 10) (sI 24) (sI 25) (sI 26) (sI 27) (sI 28) (sI 29) (sA 22) a1 a2 = some (r, zz) ∧ f_X12_behind (sI 41) (sI 42) (sI 43) (sI 46) (sI 47) (sI 48) (sI 49) (sI 50) (sI 51) (sA 32) (sA 33) (sA 43) (sA 35) (sA 44) (sA 34) (sA 45) (sA 46) a1 a2 = some (r, yy)) => q.elim (fun r q => q.elim (fun zz q => q.elim (fun yy e => ⟨(r, zz), (r, yy), e.1, e.2, rfl, Inv_grow h⟩)))) ?_
  obtain ⟨ch, pc, n, t, dp, w, c, wt, a, W, bh, dr, sv, h1, h2, h3, h4, h5, h6, i0, i1, k1, k2, k3⟩ := id h
  obtain ⟨⟨hw, ha, ht, hth⟩, ⟨r1, r2, r3, r4, r5, r6⟩, ⟨m1, m2, m3, mm, mw⟩⟩ := id h4
  obtain ⟨p1, p2, p3, p4⟩ := id h3
  obtain ⟨r, e1, e2, hr⟩ := fault_ok p1 p4
  unfold f_X11_behind f_X12_behind
  rw [p2, p3, e1, e2, r1, m1]
  rcases place3 a1 hw.1 hw.2.1 with ⟨q1, q2⟩ | ⟨i, hi, rfl, q1, q2⟩
  · rw [q1, q2]
    exact ⟨_, _, _, rfl, rfl⟩
  · rw [q1, q2]
    simp only [Option.bind_some]
    rw [if_neg (show ¬ (1 : Int32) = 0 by decide), if_neg (show ¬ (1 : Int32) = 0 by decide), show (0 : Int64) = lN 0 from rfl, show (1 : Int64) = lN 1 from rfl]
    rcases in3 a2 0 1 (by omega) (by omega) with ⟨q, e⟩ | ⟨q1, q2, e⟩ | ⟨v, -, q2, rfl, e⟩
    · rw [if_pos (show a2 < 0 from q), e]
      exact ⟨_, _, _, rfl, rfl⟩
    · rw [if_neg (show ¬ a2 < 0 from q1), if_neg (show ¬ a2 ≤ 1 from (fa_of_lt q2).2.1), e]
      exact ⟨_, _, _, rfl, rfl⟩
    · rw [if_neg (nI_pos (by omega)), if_pos (show nI v ≤ 1 from nI_le (b := 1) q2 (by omega)), e]
      simp only [Option.bind_some]
      rw [if_neg (show ¬ (1 : Int32) = 0 by decide)]
      rcases hr with ⟨rfl, hok⟩ | ⟨x, hx, rfl⟩
      · rw [if_pos rfl, if_pos (show (-6 : Int32) < 0 by decide), r2, r3, r4, r5, r6, m2, m3]
        have hs1 : ∀ i, i < pc → sA 0 i = mvI (hwS (sA 0 i)) ∧ hwS (sA 0 i) < 3 := fun i hi => hwS_ok (hok i hi)
        have hs2 : ∀ i, i < pc → sA 32 i = mvI (hwS (sA 0 i)) ∧ hwS (sA 0 i) < 3 := fun i hi => by rw [← p4 i hi]; exact hs1 i hi
        obtain ⟨when', ec, hwh⟩ := cl_runPad (hw := fun i => hwS (sA 0 i)) hw ha ht p1 hs1 (sA 22)
        obtain ⟨at', has', mv', em, hm⟩ := ml_goPad (hw := fun i => hwS (sA 0 i)) hw ha p1 hs2 mw mm (sA 33) (sA 35) (sA 34)
        have hra := aRun_ok hw (hlist (fun i => hwS (sA 0 i)) 0 pc) ha
        have htt := tRs_lt hw.1 (hlist (fun i => hwS (sA 0 i)) 0 pc) ht
        have hm2 : mR n (tpi n (tRs n (hlist (fun i => hwS (sA 0 i)) 0 pc) t)) (aRun n dp wt (hlist (fun i => hwS (sA 0 i)) 0 pc) a) at' has' (sA 45) := hm.congr (rotps_tpi hw.1 _ t _ ht (fun p _ => rfl))
        have h9 := hw.2.1
        rw [ec, em]
        simp only [Option.bind_some]
        obtain ⟨hpl, hpe⟩ := tpi_at htt hi
        have hho : has' i = nI ((aRun n dp wt (hlist (fun i => hwS (sA 0 i)) 0 pc) a).1 ((i + tRs n (hlist (fun i => hwS (sA 0 i)) 0 pc) t) % n)) := by have := hm2.2.1.2 _ hpl; rwa [hpe] at this
        rw [cl_place hw.2.1 htt hi, ml_place hw.2.1 hi hm2.1 (sA 43) at' 0 (fun p hp => by rw [if_pos rfl]; exact hm2.2.1.1 p hp) hpl hpe, if_neg (nI_in (by omega) (by omega)), nI_clamp (by omega)]
        simp only [Option.bind_some]
        rw [c_lane _ (lt16 hw.2.2.2.1 hra.1) (by omega), hho]
        have v01 : v = 0 ∨ v = 1 := by omega
        rcases v01 with rfl | rfl
        · rw [if_pos (show nI 0 = 0 from rfl), if_pos (show nI 0 = 0 from rfl)]
          exact ⟨_, _, _, rfl, rfl⟩
        · rw [if_neg (show ¬ nI 1 = 0 by decide), if_neg (show ¬ nI 1 = 0 by decide)]
          exact ⟨_, _, _, rfl, rfl⟩
      · rw [if_neg (neg_six (by omega)), if_neg (nI_pos (by omega))]
        exact ⟨_, _, _, rfl, rfl⟩
theorem st_after {j : Nat} (hj : j + 6 ≤ 3072) (sI : Nat → Int32) (sJ : Nat → Int64) (sA : Nat → Nat → Int32) (sB : Nat → Nat → Int64) (h : Inv j sI sJ sA sB) (a1 : Int32) : ∃ (z : Int32 × Int64 × Int64 × Int32 × Int32 × Int32 × Int32 × Int32 × Int32 × (Nat → Int32)) (y : Int32 × Int32 × Int32 × Int32 × Int32 × Int32 × (Nat → Int32) × (Nat → Int32) × (Nat → Int32)), f_X11_after (sI 7) (sI 8) (sI 9) (sJ 0) (sJ 1) (sJ 2) (sI 6) (sA 0) (sJ 9) (sJ 10) (sI 24) (sI 25) (sI 26) (sI 27) (sI 28) (sI 29) (sA 22) a1 = some z ∧ f_X12_after (sI 41) (sI 42) (sI 43) (sI 46) (sI 47) (sI 48) (sI 49) (sI 50) (sI 51) (sA 32) (sA 33) (sA 43) (sA 35) (sA 44) (sA 34) (sA 45) (sA 46) a1 = some y ∧ z.1 = y.1 ∧ Inv (j + 6) (va_up (va_up (va_up (va_up (va_up (va_up (va_up (va_up (va_up (va_up (va_up sI 24 z.2.2.2.1) 25 z.2.2.2.2.1) 26 z.2.2.2.2.2.1) 27 z.2.2.2.2.2.2.1) 28 z.2.2.2.2.2.2.2.1) 29 z.2.2.2.2.2.2.2.2.1) 47 y.2.1) 48 y.2.2.1) 49 y.2.2.2.1) 50 y.2.2.2.2.1) 51 y.2.2.2.2.2.1) (va_up (va_up sJ 9 z.2.1) 10 z.2.2.1) (va_up (va_up (va_up (va_up sA 22 z.2.2.2.2.2.2.2.2.2) 33 y.2.2.2.2.2.2.1) 35 y.2.2.2.2.2.2.2.1) 34 y.2.2.2.2.2.2.2.2) sB := by
  refine (fun (q : ∃ r zz yy, f_X11_after (sI 7) (sI 8) (sI 9) (sJ 0) (sJ 1) (sJ 2) (sI 6) (sA 0) (sJ 9) (sJ 10) (sI 24) (sI 25) (sI 26) (sI 27) (sI 28) (sI 29) (sA 22) a1 = some (r, zz) ∧ f_X12_after (sI 41) (sI 42) (sI 43) (sI 46) (sI 47) (sI 48) (sI 49) (sI 50) (sI 51) (sA 32) (sA 33) (sA 43) (sA 35) (sA 44) (sA 34) (sA 45) (sA 46) a1 = some (r, yy)) => q.elim (fun r q => q.elim (fun zz q => q.elim (fun yy e => ⟨(r, zz), (r, yy), e.1, e.2, rfl, Inv_grow h⟩)))) ?_
  obtain ⟨ch, pc, n, t, dp, w, c, wt, a, W, bh, dr, sv, h1, h2, h3, h4, h5, h6, i0, i1, k1, k2, k3⟩ := id h
  obtain ⟨⟨hw, ha, ht, hth⟩, ⟨r1, r2, r3, r4, r5, r6⟩, ⟨m1, m2, m3, mm, mw⟩⟩ := id h4
  obtain ⟨p1, p2, p3, p4⟩ := id h3
  obtain ⟨r, e1, e2, hr⟩ := fault_ok p1 p4
  have h9 := hw.2.1
  have h3' := hw.1
  -- the run itself, for a number of 0 to 3 or for a door
  have go : ∀ x : Int32, ((∃ k, k ≤ 3 ∧ x = nI k) → ∃ r zz yy, f_X11_after_42 x (sI 7) (sI 8) (sI 9) (sJ 0) (sJ 1) (sJ 2) (sI 6) (sA 0) (sJ 9) (sJ 10) (sI 24) (sI 25) (sI 26) (sI 27) (sI 28) (sI 29) (sA 22) = some (r, zz) ∧ f_X12_after_42 x 0 (sI 41) (sI 42) (sI 43) (sI 46) (sI 47) (sI 48) (sI 49) (sI 50) (sI 51) (sA 32) (sA 33) (sA 43) (sA 35) (sA 44) (sA 34) (sA 45) (sA 46) = some (r, yy)) ∧ ((∃ k, k < n ∧ x = nI (10 + k)) → ∃ r zz yy, f_X11_after_42 x (sI 7) (sI 8) (sI 9) (sJ 0) (sJ 1) (sJ 2) (sI 6) (sA 0) (sJ 9) (sJ 10) (sI 24) (sI 25) (sI 26) (sI 27) (sI 28) (sI 29) (sA 22) = some (r, zz) ∧ f_X12_after_42 x 1 (sI 41) (sI 42) (sI 43) (sI 46) (sI 47) (sI 48) (sI 49) (sI 50) (sI 51) (sA 32) (sA 33) (sA 43) (sA 35) (sA 44) (sA 34) (sA 45) (sA 46) = some (r, yy)) := by
    intro x
    unfold f_X11_after_42 f_X12_after_42
    rw [p2, p3, e1, e2]
    simp only [Option.bind_some]
    rcases hr with ⟨rfl, hok⟩ | ⟨y, hy, rfl⟩
    · rw [if_pos (show (-6 : Int32) = -6 from rfl), if_pos (show (-6 : Int32) < 0 by decide), if_pos (show (-6 : Int32) < 0 by decide)]
      try rw [if_pos (show (0 : Int32) = 0 from rfl)]
      try rw [if_neg (show ¬ (1 : Int32) = 0 by decide)]
      rw [r1, r2, r3, r4, r5, r6, m1, m2, m3]
      have hs1 : ∀ i, i < pc → sA 0 i = mvI (hwS (sA 0 i)) ∧ hwS (sA 0 i) < 3 := fun i hi => hwS_ok (hok i hi)
      have hs2 : ∀ i, i < pc → sA 32 i = mvI (hwS (sA 0 i)) ∧ hwS (sA 0 i) < 3 := fun i hi => by rw [← p4 i hi]; exact hs1 i hi
      obtain ⟨when', ec, hwh⟩ := cl_runPad (hw := fun i => hwS (sA 0 i)) hw ha ht p1 hs1 (sA 22)
      have hra := aRun_ok hw (hlist (fun i => hwS (sA 0 i)) 0 pc) ha
      rw [ec]
      simp only [Option.bind_some]
      rw [c_servedBits (lt16 hw.2.2.2.1 hra.1) hw.2.1]
      simp only [Option.bind_some]
      constructor
      · rintro ⟨k, hk, rfl⟩
        obtain ⟨at', has', mv', em, hm⟩ := ml_goPad (hw := fun i => hwS (sA 0 i)) hw ha p1 hs2 mw mm (sA 33) (sA 35) (sA 34)
        rw [em]
        simp only [Option.bind_some]
        have k4 : k = 0 ∨ k = 1 ∨ k = 2 ∨ k = 3 := by omega
        rcases k4 with rfl | rfl | rfl | rfl
        · exact ⟨_, _, _, rfl, rfl⟩
        · exact ⟨_, _, _, rfl, rfl⟩
        · exact ⟨_, _, _, rfl, rfl⟩
        · exact ⟨_, _, _, rfl, rfl⟩
      · rintro ⟨k, hk, rfl⟩
        have ne : ∀ i : Nat, i < 10 → ¬ nI (10 + k) = nI i := fun i hi q => by have := (nI_eq (by omega) (by omega)).mp q; omega
        rw [if_neg (show ¬ nI (10 + k) = 0 from ne 0 (by omega)), if_neg (show ¬ nI (10 + k) = 1 from ne 1 (by omega)), if_neg (show ¬ nI (10 + k) = 2 from ne 2 (by omega)), if_neg (show ¬ nI (10 + k) = 3 from ne 3 (by omega)), show (10 : Int32) = nI 10 from rfl, pk_sub (by omega), show 10 + k - 10 = k by omega]
        obtain ⟨o, em⟩ := ml_till (hw := fun i => hwS (sA 0 i)) hw ha hk p1 hs2 mw mm (sA 33) (sA 35) (sA 34)
        rw [em]
        unfold f_X6_pullsTill
        rw [if_neg (nI_pos (by omega)), if_pos (show nI k < 9 from nI_lt (b := 9) (by omega) (by omega)), if_neg (nI_in (by omega) (by omega)), nI_clamp (by omega), hwh k (by omega)]
        simp only [Option.bind_some]
        exact ⟨_, _, _, rfl, rfl⟩
    · rw [if_neg (neg_six (by omega)), if_neg (nI_pos (by omega)), if_neg (nI_pos (by omega))]
      exact ⟨fun _ => ⟨_, _, _, rfl, rfl⟩, fun _ => ⟨_, _, _, rfl, rfl⟩⟩
  -- small numbers, and none
  have sm : ∀ x : Int32, ∃ r zz yy, f_X11_after_24 x (sI 7) (sI 8) (sI 9) (sJ 0) (sJ 1) (sJ 2) (sI 6) (sA 0) (sJ 9) (sJ 10) (sI 24) (sI 25) (sI 26) (sI 27) (sI 28) (sI 29) (sA 22) = some (r, zz) ∧ f_X12_after_21 x (sI 41) (sI 42) (sI 43) (sI 46) (sI 47) (sI 48) (sI 49) (sI 50) (sI 51) (sA 32) (sA 33) (sA 43) (sA 35) (sA 44) (sA 34) (sA 45) (sA 46) = some (r, yy) := by
    intro x
    have g := go x
    unfold f_X11_after_24 f_X12_after_21 f_X11_after_25 f_X12_after_22
    rw [if_pos rfl, show (0 : Int64) = lN 0 from rfl, show (3 : Int64) = lN 3 from rfl]
    rcases in3 x 0 3 (by omega) (by omega) with ⟨q, e⟩ | ⟨q1, q2, e⟩ | ⟨k, -, q2, rfl, e⟩
    · rw [if_pos (show x < 0 from q), e]
      exact ⟨_, _, _, rfl, rfl⟩
    · rw [if_neg (show ¬ x < 0 from q1), if_neg (show ¬ x ≤ 3 from (fa_of_lt q2).2.1), e]
      exact ⟨_, _, _, rfl, rfl⟩
    · rw [if_neg (nI_pos (by omega)), if_pos (show nI k ≤ 3 from nI_le (b := 3) q2 (by omega)), e]
      exact g.1 ⟨k, q2, rfl⟩
  unfold f_X11_after f_X12_after
  by_cases q : a1 < 10
  · rw [if_pos q, if_pos q]
    exact sm a1
  · rw [if_neg q, if_neg q]
    have hp : ¬ a1 < 0 := fun q2 => q (by
      rw [fa_lt] at q2 ⊢
      have : (0 : Int32).toInt = 0 := rfl
      have : (10 : Int32).toInt = 10 := rfl
      omega)
    obtain ⟨k, hk, rfl⟩ := nI_of hp
    have hk10 : 10 ≤ k := by
      rcases Nat.lt_or_ge k 10 with q2 | q2
      · exact absurd (show nI k < 10 from nI_lt (b := 10) q2 (by omega)) q
      · exact q2
    rw [show (10 : Int32) = nI 10 from rfl, pk_sub hk10]
    rcases place3 (nI (k - 10)) hw.1 hw.2.1 with ⟨q1, q2⟩ | ⟨i, hi, ei, q1, q2⟩
    · rw [m1, q2]
      simp only [Option.bind_some]
      rw [if_pos (by
        rw [r1, nI_add]
        refine nI_le ?_ hk
        rcases Nat.lt_or_ge k (10 + n) with q3 | q3
        · unfold f_X11_isThere at q1
          rw [if_neg (nI_pos (by omega)), if_neg (nI_ge (by omega) (by omega))] at q1
          exact absurd (Option.some.inj q1) (by decide)
        · exact q3), ← m1]
      exact sm (nI k)
    · have ei2 : k - 10 = i := (nI_eq (by omega) (by omega)).mp ei
      have g := (go (nI k)).2 ⟨i, hi, by rw [show 10 + i = k by omega]⟩
      rw [m1, q2]
      simp only [Option.bind_some]
      rw [if_neg (show ¬ (1 : Int32) = 0 by decide), if_neg (by
        rw [r1, nI_add]
        exact nI_ge (by omega) (by omega)), ← m1]
      unfold f_X11_after_25 f_X12_after_22
      rw [if_neg (show ¬ (1 : Int32) = 0 by decide), if_neg (show ¬ (1 : Int32) = 0 by decide)]
      rw [show (0 : Int64) = lN 0 from rfl, show (3 : Int64) = lN 3 from rfl]
      rcases in3 (nI k) 0 3 (by omega) (by omega) with ⟨q, e⟩ | ⟨q1, q2, e⟩ | ⟨k', -, q2, e', e⟩
      · exact absurd q (nI_pos (by omega))
      · rw [e]
        exact g
      · have := (nI_eq (by omega) (by omega)).mp e'
        omega
