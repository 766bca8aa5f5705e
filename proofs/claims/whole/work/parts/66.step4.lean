/-- the first sign that is none: class and reference alike -/
def okS (x : Int32) : Prop := x = 43 ∨ x = 45 ∨ x = 46
theorem fault_ok {pc : Nat} {s m : Nat → Int32} (hc : pc ≤ 40) (hs : ∀ i, i < pc → s i = m i) : ∃ r, f_X4_firstFault (nI pc) s = some r ∧ f_X12_fault (nI pc) m = some r ∧ ((r = -6 ∧ ∀ i, i < pc → okS (s i)) ∨ (∃ i, i < pc ∧ r = nI i)) := by
  unfold f_X4_firstFault f_X12_fault
  have key : ∀ (d k fu : Nat), k + d = pc → d < fu → (∀ i, i < k → okS (s i)) → ∃ r, f_X4_firstFault_2 fu (nI k) (nI pc) s = some r ∧ f_X12_fault_2 fu (nI k) (nI pc) m = some r ∧ ((r = -6 ∧ ∀ i, i < pc → okS (s i)) ∨ (∃ i, i < pc ∧ r = nI i)) := by
    intro d
    induction d with
    | zero =>
      intro k fu hk hf ho
      obtain ⟨f, rfl⟩ : ∃ f, fu = f + 1 := ⟨fu - 1, by omega⟩
      rw [f_X4_firstFault_2, f_X12_fault_2, if_pos (nI_le (by omega) (by omega)), if_pos (nI_le (by omega) (by omega))]
      exact ⟨_, rfl, rfl, Or.inl ⟨rfl, fun i hi => ho i (by omega)⟩⟩
    | succ d ih =>
      intro k fu hk hf ho
      obtain ⟨f, rfl⟩ : ∃ f, fu = f + 1 := ⟨fu - 1, by omega⟩
      have e1 : f_X4_firstFault_51 (f_X4_firstFault_2 f) (nI k) (nI pc) s = f_X4_firstFault_2 f (nI (k + 1)) (nI pc) s := by unfold f_X4_firstFault_51; rw [nI_1]
      have e2 : f_X12_fault_45 (f_X12_fault_2 f) (nI k) (nI pc) m = f_X12_fault_2 f (nI (k + 1)) (nI pc) m := by unfold f_X12_fault_45; rw [nI_1]
      rw [f_X4_firstFault_2, f_X12_fault_2, if_neg (nI_ge (by omega) (by omega)), if_neg (nI_ge (by omega) (by omega)), if_neg (show ¬ (40 : Int32) ≤ nI k from nI_ge (b := 40) (by omega) (by omega)), if_neg (nI_in (by omega) (by omega)), if_neg (nI_in (by omega) (by omega)), nI_clamp (by omega), if_neg (gin (by omega) (by omega)), if_neg (gin (by omega) (by omega)), e1, e2, ← hs k (by omega)]
      have nx : okS (s k) → ∃ r, f_X4_firstFault_2 f (nI (k + 1)) (nI pc) s = some r ∧ f_X12_fault_2 f (nI (k + 1)) (nI pc) m = some r ∧ ((r = -6 ∧ ∀ i, i < pc → okS (s i)) ∨ (∃ i, i < pc ∧ r = nI i)) := fun q => ih (k + 1) f (by omega) (by omega) (fun i hi => by
        by_cases hik : i = k
        · rw [hik]; exact q
        · exact ho i (by omega))
      by_cases q1 : s k = 43
      · rw [if_pos q1, if_pos q1]; exact nx (Or.inl q1)
      · rw [if_neg q1, if_neg q1]
        by_cases q2 : s k = 45
        · rw [if_pos q2, if_pos q2, if_neg (gin (by omega) (by omega))]; exact nx (Or.inr (Or.inl q2))
        · rw [if_neg q2, if_neg q2]
          by_cases q3 : s k = 46
          · rw [if_pos q3, if_neg (gin (by omega) (by omega)), if_neg (gin (by omega) (by omega)), if_pos q3]; exact nx (Or.inr (Or.inr q3))
          · rw [if_neg q3, if_neg (gin (by omega) (by omega)), if_neg (gin (by omega) (by omega)), if_neg q3]
            exact ⟨_, rfl, rfl, Or.inr ⟨k, by omega, rfl⟩⟩
  exact key pc 0 fuel (by omega) (fuel_big (by omega)) (fun i hi => absurd hi (Nat.not_lt_zero i))
theorem st_fault {j : Nat} (hj : j + 6 ≤ 3072) (sI : Nat → Int32) (sJ : Nat → Int64) (sA : Nat → Nat → Int32) (sB : Nat → Nat → Int64) (h : Inv j sI sJ sA sB) : ∃ (z : Int32) (y : Int32), f_X11_fault (sI 6) (sA 0) = some z ∧ f_X12_fault (sI 46) (sA 32) = some y ∧ z = y ∧ Inv (j + 6) sI sJ sA sB := by
  obtain ⟨ch, pc, n, t, dp, w, c, wt, a, W, bh, dr, sv, h1, h2, ⟨p1, p2, p3, p4⟩, -⟩ := id h
  obtain ⟨r, e1, e2, -⟩ := fault_ok p1 p4
  unfold f_X11_fault
  rw [p2, p3, e1, e2]
  exact ⟨r, r, rfl, rfl, rfl, Inv_grow h⟩
theorem st_deep {j : Nat} (hj : j + 6 ≤ 3072) (sI : Nat → Int32) (sJ : Nat → Int64) (sA : Nat → Nat → Int32) (sB : Nat → Nat → Int64) (h : Inv j sI sJ sA sB) (a1 : Int32) : ∃ (z : Int32 × Int32 × Int32) (y : Int32 × Int32), f_X11_deep (sI 0) (sI 7) (sI 8) (sJ 0) a1 = some z ∧ f_X12_deep (sI 41) (sI 42) (sA 44) a1 = some y ∧ z.1 = y.1 ∧ Inv (j + 6) (va_up (va_up (va_up sI 0 z.2.1) 8 z.2.2) 42 y.2) sJ sA sB := by
  obtain ⟨ch, pc, n, t, dp, w, c, wt, a, W, bh, dr, sv, h1, h2, h3, h4, h5, h6, i0, i1, k1, k2, k3⟩ := id h
  obtain ⟨⟨hw, ha, ht, hth⟩, ⟨r1, r2, r3, r4, r5, r6⟩, ⟨m1, m2, m3, ⟨mp, mr, ml⟩, mw⟩⟩ := id h4
  obtain ⟨w1, w2, w3, w4, w5, w6⟩ := id hw
  have hl16 := lt16 w4 ha.1
  unfold f_X11_deep f_X12_deep
  rw [show (1 : Int64) = lN 1 from rfl, show (9 : Int64) = lN 9 from rfl, show (9 : Int32) = nI 9 from rfl]
  rcases in3 a1 1 9 (by omega) (by omega) with ⟨q, e⟩ | ⟨q1, q2, e⟩ | ⟨v, q1, q2, rfl, e⟩
  · rw [if_pos (show a1 < 1 from q), e]
    exact ⟨_, _, rfl, rfl, rfl, Inv_grow h⟩
  · rw [if_neg (show ¬ a1 < 1 from q1), if_neg (fa_of_lt q2).2.1, e]
    exact ⟨_, _, rfl, rfl, rfl, Inv_grow h⟩
  · rw [if_neg (show ¬ nI v < 1 from nI_nlt (b := 1) q1 (by omega)), if_pos (nI_le q2 (by omega)), e, r1, r4, c_highest _ hl16 w2, m1, m2, r2]
    simp only [Option.bind_some]
    rw [if_neg (show ¬ (1 : Int32) = 0 by decide)]
    have hmx := maxl_le n a.1 v
    have hmx15 : maxl n a.1 ≤ 15 := (maxl_le n a.1 15).mpr (fun i _ => by have := hl16 i; omega)
    -- the reference asks pail by pail
    have hh : ∀ i, i < n → ∃ q, q < n ∧ sA 44 i = nI (a.1 q) := fun i hi => by
      obtain ⟨q, hq, e⟩ := mp.onto hi
      exact ⟨q, hq, by have := mr.2 q hq; rwa [e] at this⟩
    have key : ∀ (d k fu : Nat), k + d = n → d < fu → (∀ i, i < k → sA 44 i ≤ nI v) → f_X12_deep_17 fu (nI v) (nI k) (nI n) (nI dp) (sA 44) = if maxl n a.1 ≤ v then some (nI dp, nI v) else some (-3, nI dp) := by
      intro d
      induction d with
      | zero =>
        intro k fu hk hf ho
        obtain ⟨f, rfl⟩ : ∃ f, fu = f + 1 := ⟨fu - 1, by omega⟩
        rw [f_X12_deep_17, if_pos (nI_le (by omega) (by omega)), if_pos]
        refine hmx.mpr (fun p hp => ?_)
        have hpn := mp.1 p hp
        have := ho (tpi n t p) (by omega)
        rw [mr.2 p hp] at this
        have h16 := hl16 p
        exact (nI_leI (by omega) (by omega)).mp this
      | succ d ih =>
        intro k fu hk hf ho
        obtain ⟨f, rfl⟩ : ∃ f, fu = f + 1 := ⟨fu - 1, by omega⟩
        obtain ⟨q, hq, eq⟩ := hh k (by omega)
        have h16 := hl16 q
        rw [f_X12_deep_17, if_neg (nI_ge (by omega) (by omega)), if_neg (nI_in (by omega) (by omega)), nI_clamp (by omega), nI_1]
        by_cases hc : a.1 q ≤ v
        · rw [if_pos (by rw [eq]; exact nI_le hc (by omega))]
          exact ih (k + 1) f (by omega) (by omega) (fun i hi => by
            by_cases hik : i = k
            · rw [hik, eq]; exact nI_le hc (by omega)
            · exact ho i (by omega))
        · rw [if_neg (by rw [eq]; exact nI_ge (by omega) (by omega)), if_neg (fun q2 => hc (hmx.mp q2 q hq))]
    rw [show (0 : Int32) = nI 0 from rfl, key n 0 fuel (by omega) (fuel_big (by omega)) (fun i hi => absurd hi (Nat.not_lt_zero i))]
    by_cases hc : maxl n a.1 ≤ v
    · rw [if_pos hc, if_pos (nI_le hc (by omega))]
      refine ⟨_, _, rfl, rfl, rfl, ch + 1, pc, n, t, v, w, c, wt, a, W, bh, dr, sv, by omega, ?_, h3, ⟨⟨⟨w1, w2, q1, q2, w5, w6⟩, ⟨fun k => ?_, ha.2⟩, ht, hth⟩, ⟨r1, rfl, r3, r4, r5, r6⟩, ⟨m1, rfl, m3, ⟨mp, mr, ml⟩, mw⟩⟩, h5, h6, i0, i1, k1.next (by omega) _, k2.next (by omega) _, k3.next (by omega) _⟩
      · show sI 0 + 1 = nI (ch + 1)
        rw [h2, nI_1]
      · by_cases hk : k < n
        · exact hmx.mp hc k hk
        · rw [ha.2.1 k (by omega)]; exact Nat.zero_le _
    · rw [if_neg hc, if_neg (nI_ge (by omega) (by omega))]
      exact ⟨_, _, rfl, rfl, rfl, ch, pc, n, t, dp, w, c, wt, a, W, bh, dr, sv, by omega, h2, h3, ⟨⟨hw, ha, ht, hth⟩, ⟨r1, rfl, r3, r4, r5, r6⟩, ⟨m1, rfl, m3, ⟨mp, mr, ml⟩, mw⟩⟩, h5, h6, i0, i1, k1, k2, k3⟩
theorem st_seen {j : Nat} (hj : j + 6 ≤ 3072) (sI : Nat → Int32) (sJ : Nat → Int64) (sA : Nat → Nat → Int32) (sB : Nat → Nat → Int64) (h : Inv j sI sJ sA sB) (a1 : Int32) (a2 : Int32) (a3 : Int32) (ha : a3 = 0 ∨ a3 = 1) : ∃ (z : Int32 × Int32 × Int32 × (Nat → Int32) × (Nat → Int32) × (Nat → Int32)) (y : Int32 × Int32 × (Nat → Int32) × (Nat → Int32) × (Nat → Int32)), f_X11_seen (sI 0) (sI 7) (sI 11) (sA 5) (sA 6) (sA 7) a1 a2 a3 = some z ∧ f_X12_seen (sI 41) (sI 45) (sA 29) (sA 30) (sA 31) a1 a2 a3 = some y ∧ z.1 = y.1 ∧ Inv (j + 6) (va_up (va_up (va_up sI 0 z.2.1) 11 z.2.2.1) 45 y.2.1) sJ (va_up (va_up (va_up (va_up (va_up (va_up sA 5 z.2.2.2.1) 6 z.2.2.2.2.1) 7 z.2.2.2.2.2) 29 y.2.2.1) 30 y.2.2.2.1) 31 y.2.2.2.2) sB := by
  obtain ⟨ch, pc, n, t, dp, w, c, wt, a, W, bh, dr, sv, h1, h2, h3, h4, h5, h6, i0, i1, k1, k2, k3⟩ := id h
  obtain ⟨⟨⟨w1, w2, -⟩, -⟩, ⟨r1, -⟩, ⟨m1, -⟩⟩ := id h4
  obtain ⟨s1, s2, s3, s4⟩ := id h6
  unfold f_X11_seen f_X12_seen
  rw [r1, m1]
  rcases place3 a2 w1 w2 with ⟨p1, p2⟩ | ⟨d, hd, rfl, p1, p2⟩
  · rw [p1, p2]
    exact ⟨_, _, rfl, rfl, rfl, Inv_grow h⟩
  · rw [p1, p2]
    simp only [Option.bind_some]
    rw [if_neg (show ¬ (1 : Int32) = 0 by decide), if_neg (show ¬ (1 : Int32) = 0 by decide), show (0 : Int64) = lN 0 from rfl, show (10 : Int64) = lN 10 from rfl, show (10 : Int32) = nI 10 from rfl]
    rcases in3 a1 0 10 (by omega) (by omega) with ⟨q, e⟩ | ⟨q1, q2, e⟩ | ⟨b, -, q2, rfl, e⟩
    · rw [if_pos (show a1 < 0 from q), e]
      exact ⟨_, _, rfl, rfl, rfl, Inv_grow h⟩
    · rw [if_neg (show ¬ a1 < 0 from q1), if_neg (fa_of_lt q2).2.1, e]
      exact ⟨_, _, rfl, rfl, rfl, Inv_grow h⟩
    · rw [if_neg (nI_pos (by omega)), if_pos (nI_le q2 (by omega)), e]
      simp only [Option.bind_some]
      rw [if_neg (show ¬ (1 : Int32) = 0 by decide)]
      unfold f_X8_put f_X12_seen_74
      by_cases hf : c = 6
      · subst hf
        rw [s2, s3, if_neg (show ¬ nI 6 < 6 by decide), if_pos (show nI 6 = 6 from rfl)]
        refine ⟨_, _, rfl, rfl, rfl, ?_⟩
        refine ⟨ch, pc, n, t, dp, w, 6, wt, a, W, bh, dr, sv, by omega, h2, h3, h4, h5, ⟨s1, rfl, rfl, s4⟩, i0, i1, k1, k2, k3⟩
      · rw [s2, s3, if_pos (show nI c < 6 from nI_lt (b := 6) (by omega) (by omega)), if_neg (nI_in (by omega) (by omega)), if_neg (nI_in (by omega) (by omega)), if_neg (nI_in (by omega) (by omega)), if_neg (show ¬ nI c = 6 from fun e => hf ((nI_eq (b := 6) (by omega) (by omega)).mp e)), if_neg (nI_in (by omega) (by omega)), if_neg (nI_in (by omega) (by omega)), nI_clamp (by omega)]
        have fin : ∀ sb : Bool, a3 = b01 sb → ∃ (z : Int32 × Int32 × Int32 × (Nat → Int32) × (Nat → Int32) × (Nat → Int32)) (y : Int32 × Int32 × (Nat → Int32) × (Nat → Int32) × (Nat → Int32)), some (nI c + 1, sI 0 + 1, nI c + 1, upd (sA 5) c (nI b), upd (sA 6) c (nI d), upd (sA 7) c (vp_nar .boolean a3)) = some z ∧ some (nI c + 1, nI c + 1, upd (sA 29) c (nI b), upd (sA 30) c (nI d), upd (sA 31) c (b01 sb)) = some y ∧ z.1 = y.1 ∧ Inv (j + 6) (va_up (va_up (va_up sI 0 z.2.1) 11 z.2.2.1) 45 y.2.1) sJ (va_up (va_up (va_up (va_up (va_up (va_up sA 5 z.2.2.2.1) 6 z.2.2.2.2.1) 7 z.2.2.2.2.2) 29 y.2.2.1) 30 y.2.2.2.1) 31 y.2.2.2.2) sB := by
          intro sb hsb
          have hnar : vp_nar .boolean a3 = b01 sb := by rw [hsb]; cases sb <;> decide
          refine ⟨_, _, rfl, rfl, rfl, ch + 1, pc, n, t, dp, w, c + 1, wt, a, W, fset bh c b, fset dr c d, thset sv c sb, by omega, ?_, h3, h4, h5, ⟨by omega, nI_1 c, nI_1 c, fun i hi => ?_⟩, i0, i1, k1.next (by omega) _, k2.next (by omega) _, k3.next (by omega) _⟩
          · show sI 0 + 1 = nI (ch + 1)
            rw [h2, nI_1]
          · show (upd (sA 5) c (nI b) i = nI (fset bh c b i) ∧ upd (sA 29) c (nI b) i = nI (fset bh c b i) ∧ fset bh c b i ≤ 10) ∧ (upd (sA 6) c (nI d) i = nI (fset dr c d i) ∧ upd (sA 30) c (nI d) i = nI (fset dr c d i) ∧ fset dr c d i < n) ∧ upd (sA 7) c (vp_nar .boolean a3) i = b01 (thset sv c sb i) ∧ upd (sA 31) c (b01 sb) i = b01 (thset sv c sb i)
            unfold fset thset
            by_cases hic : i = c
            · subst hic
              rw [if_pos rfl, if_pos rfl, if_pos rfl, up_s, up_s, up_s, up_s, up_s, up_s, hnar]
              exact ⟨⟨rfl, rfl, q2⟩, ⟨rfl, rfl, hd⟩, rfl, rfl⟩
            · rw [if_neg hic, if_neg hic, if_neg hic, up_n hic, up_n hic, up_n hic, up_n hic, up_n hic, up_n hic]
              exact s4 i (by omega)
        rcases ha with rfl | rfl
        · rw [if_pos rfl, if_neg (gin (by omega) (by omega))]
          exact fin false rfl
        · rw [if_neg (show ¬ (1 : Int32) = 0 by decide), if_neg (gin (by omega) (by omega))]
          exact fin true rfl
theorem st_init : ∃ z : Int32 × Int32 × Int32 × (Nat → Int32) × (Nat → Int32) × (Nat → Int32) × (Nat → Int32), f_X12_begin ((6 : Int32)) (fun _ => 0) (fun _ => 0) (fun _ => 0) (fun _ => 0) (6 : Int32) = some z ∧ Inv 0 (iI z) iJ (iA z) iB := by
  obtain ⟨pa', ho', le', wa', e, hb⟩ := begin_ok (n := 6) (by omega) (by omega) (6 : Int32) (fun _ => 0) (fun _ => 0) (fun _ => 0) (fun _ => 0)
  refine ⟨_, e, 0, 0, 6, 0, 6, 0, 0, (fun _ => 0), a0 6, (fun _ => []), (fun _ => 0), (fun _ => 0), (fun _ => false), Nat.le_refl _, rfl, ⟨Nat.zero_le _, rfl, rfl, fun i hi => absurd hi (Nat.not_lt_zero i)⟩, new_CH (n := 6) (dp := 6) (by omega) (by omega) (by omega) (by omega) hb, ⟨Nat.zero_le _, rfl, rfl, fun k hk => absurd hk (Nat.not_lt_zero k), fun i k _ hk => absurd hk (Nat.not_lt_zero k)⟩, ⟨Nat.zero_le _, rfl, rfl, fun i hi => absurd hi (Nat.not_lt_zero i)⟩, ⟨false, rfl, rfl, fun q => by cases q⟩, ⟨false, rfl, rfl, fun q => by cases q⟩, ⟨Or.inl rfl, fun q => absurd q (show ¬ (-1 : Int32) = nI 0 by decide)⟩, ⟨Or.inl rfl, fun q => absurd q (show ¬ (-1 : Int32) = nI 0 by decide)⟩, ⟨Or.inl rfl, fun q => absurd q (show ¬ (-1 : Int32) = nI 0 by decide)⟩⟩
