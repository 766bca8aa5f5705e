def aW (wt : Nat → Nat) (a : AS) : AS := (a.1, a.2.1, fun d => a.2.2 d || decide (1 ≤ wt d))
theorem aW_ok {n dp : Nat} {wt : Nat → Nat} {a : AS} (hw : wOK n dp wt) (h : aOK n dp a) : aOK n dp (aW wt a) := ⟨h.1, h.2.1, h.2.2.1, h.2.2.2.1, fun k hk => by
  show (a.2.2 k || decide (1 ≤ wt k)) = false
  rw [h.2.2.2.2 k hk, hw.2.2.2.2.2 k hk]; rfl⟩
theorem ln_w1 : ∀ b, b < 10 → (b + 15) &&& 16 = (if decide (1 ≤ b) then 16 else 0) := by decide
theorem ln_w2 : ∀ a, a < 16 → ∀ f g : Bool, (a + (if f then 16 else 0)) ||| (if g then 16 else 0) = a + (if f || g then 16 else 0) := by decide
theorem cl_want {n dp : Nat} {wt : Nat → Nat} {a : AS} (hw : wOK n dp wt) (h : aOK n dp a) : f_X6_wantAnew (w9 a.1 a.2.2) (v9 wt) = some (w9 (aW wt a).1 (aW wt a).2.2) := by
  unfold f_X6_wantAnew
  have hl16 := lt16 hw.2.2.2.1 h.1
  have w5 := hw.2.2.2.2.1
  rw [c_LEVELS, lN_add, pak_add, c_THIRST, v9_and (fun k => by have := w5 k; show wt k + 15 < 32; omega) (fun _ => by omega), v9_congr (v := fun k => if decide (1 ≤ wt k) then 16 else 0) (fun k _ => ln_w1 _ (by have := w5 k; omega)), v9_or (u9_lt hl16) (ff_lt (fun k => decide (1 ≤ wt k)) 16 (by omega))]
  exact congrArg some (v9_congr (fun k _ => ln_w2 _ (hl16 k) _ _))
theorem ml_want {n dp x : Nat} {wt : Nat → Nat} (hw : wOK n dp wt) (hx : x < 65537) (K : _) (x2 x3 x5 dr le du ti : Int32) (at_ has wants moved leaks : Nat → Int32) (hwt : ∀ d, d < n → wants d = nI (wt d)) (th : Nat → Bool) : f_X12_day_74 K fuel x2 x3 (nI x) x5 0 (nI n) (nI dp) (nI (sbit n th)) dr le du ti at_ has wants moved leaks = f_X12_day_129 K x2 x3 (nI x) x5 (nI n) (nI dp) (nI (sbit n (fun d => if x % 7 = 0 then th d || decide (1 ≤ wt d) else th d))) dr le du ti at_ has wants moved leaks := by
  have h9 := hw.2.1
  have w5 := hw.2.2.2.2.1
  have e7 : (nI x - nI x / 7 * 7 = 0) ↔ x % 7 = 0 := by
    rw [show (7 : Int32) = nI 7 from rfl, pk_rem (by omega) (by omega) (by omega), show (0 : Int32) = nI 0 from rfl, nI_eq (by omega) (by omega)]
  by_cases q : x % 7 = 0
  · have key : ∀ (d k fu : Nat), k + d = n → d < fu → f_X12_day_74 K fu x2 x3 (nI x) x5 (nI k) (nI n) (nI dp) (nI (sbit n (fun d => if d < k then th d || decide (1 ≤ wt d) else th d))) dr le du ti at_ has wants moved leaks = f_X12_day_129 K x2 x3 (nI x) x5 (nI n) (nI dp) (nI (sbit n (fun d => th d || decide (1 ≤ wt d)))) dr le du ti at_ has wants moved leaks := by
      intro d
      induction d with
      | zero =>
        intro k fu hk hf
        obtain ⟨f, rfl⟩ : ∃ f, fu = f + 1 := ⟨fu - 1, by omega⟩
        rw [f_X12_day_74, if_pos (nI_le (by omega) (by omega)), sbit_congr (th' := fun d => th d || decide (1 ≤ wt d)) (fun i hi => if_pos (by omega))]
      | succ d ih =>
        intro k fu hk hf
        obtain ⟨f, rfl⟩ : ∃ f, fu = f + 1 := ⟨fu - 1, by omega⟩
        have hwk := w5 k
        have e := ih (k + 1) f (by omega) (by omega)
        rw [f_X12_day_74, if_neg (nI_ge (by omega) (by omega)), if_pos (e7.mpr q), if_neg (nI_in (by omega) (by omega)), nI_clamp (by omega), hwt k (by omega), bit_clear _ (by omega) h9]
        unfold f_X12_day_120
        rw [nI_1]
        by_cases q2 : wt k = 0
        · rw [if_pos (show nI (wt k) ≤ 0 from nI_le (b := 0) (by omega) (by omega)), ← e]
          rw [sbit_congr (fun i hi => ?_)]
          by_cases hik : i = k
          · subst hik; rw [if_neg (by omega), if_pos (by omega), q2]; simp
          · by_cases h2 : i < k
            · rw [if_pos h2, if_pos (by omega)]
            · rw [if_neg h2, if_neg (by omega)]
        · rw [if_neg (show ¬ nI (wt k) ≤ 0 from nI_ge (a := 0) (by omega) (by omega)), ← e]
          rw [sbit_congr (fun i hi => ?_)]
          unfold thset
          by_cases hik : i = k
          · subst hik
            rw [if_pos rfl, if_pos (by omega), decide_eq_true (show 1 ≤ wt i by omega)]; simp
          · rw [if_neg hik]
            dsimp only
            by_cases h2 : i < k
            · rw [if_pos h2, if_pos (by omega)]
            · rw [if_neg h2, if_neg (by omega)]
    have e := key n 0 fuel (by omega) (fuel_big (by omega))
    rw [sbit_congr (th' := th) (fun i _ => if_neg (Nat.not_lt_zero i))] at e
    simp only [q, if_true]
    exact e
  · obtain ⟨f, hf⟩ : ∃ f, fuel = f + 1 := ⟨fuel - 1, by rw [fuel_eq]⟩
    have h3 := hw.1
    rw [hf, f_X12_day_74, if_neg (show ¬ nI n ≤ 0 from nI_ge (a := 0) (by omega) (by omega)), if_neg (fun r => q (e7.mp r))]
    simp only [q, if_false]
theorem day_ok {n dp m wh : Nat} {wt : Nat → Nat} (hw : wOK n dp wt) (hm : m < 100) (hwh : wh ≤ 1) (leaks wants : Nat → Int32) (hwt : ∀ d, d < n → wants d = nI (wt d)) : ∀ (d k fu x t P D Lq K T : Nat) (a : AS) (pi : Nat → Nat) (when at_ has moved : Nat → Int32), k + d = m → d < fu → x < 65537 → t < n → aOK n dp a → mR n pi a at_ has leaks →
    ∃ r zz yy, f_X11_day_51 fu (nI m) (nI wh) (nI x) (nI k) (w9 a.1 a.2.2) (v9 a.2.1) (nI t) (nI P) (nI D) (nI Lq) (nI K) (nI T) (nI n) (nI dp) (v9 wt) when = some (r, zz) ∧ f_X12_day_47 fu (nI m) (nI wh) (nI x) (nI k) (nI n) (nI dp) (nI (sbit n a.2.2)) (nI D) (nI Lq) (nI K) (nI T) at_ has wants moved leaks = some (r, yy) := by
  intro d
  induction d with
  | zero =>
    intro k fu x t P D Lq K T a pi when at_ has moved hk hf hx ht ha hmr
    obtain ⟨f, rfl⟩ : ∃ f, fu = f + 1 := ⟨fu - 1, by omega⟩
    rw [f_X11_day_51, f_X12_day_47, if_pos (nI_le (by omega) (by omega)), if_pos (nI_le (by omega) (by omega))]
    have v01 : wh = 0 ∨ wh = 1 := by omega
    rcases v01 with rfl | rfl
    · exact ⟨_, _, _, rfl, rfl⟩
    · exact ⟨_, _, _, rfl, rfl⟩
  | succ d ih =>
    intro k fu x t P D Lq K T a pi when at_ has moved hk hf hx ht ha hmr
    obtain ⟨f, rfl⟩ : ∃ f, fu = f + 1 := ⟨fu - 1, by omega⟩
    have hx2 : (75 * x + 74) % 65537 < 65537 := Nat.mod_lt _ (by omega)
    have ec : ((75 : Int32) * nI x + 74) - ((75 : Int32) * nI x + 74) / 65537 * 65537 = nI ((75 * x + 74) % 65537) := by
      rw [show (75 : Int32) = nI 75 from rfl, show (74 : Int32) = nI 74 from rfl, show (65537 : Int32) = nI 65537 from rfl, pk_mul, nI_add, pk_rem (by omega) (by omega) (by omega)]
    have em : (((75 : Int64) * (nI x).toInt64 + 74) - ((75 : Int64) * (nI x).toInt64 + 74) / 65537 * 65537).toInt32 = nI ((75 * x + 74) % 65537) := by
      rw [show (75 : Int64) = lN 75 from rfl, show (74 : Int64) = lN 74 from rfl, show (65537 : Int64) = lN 65537 from rfl, nI_l (by omega), lN_mul, lN_add, pk_lRem (by omega) (by omega) (by omega), lN_i]
    rw [f_X11_day_51, f_X12_day_47, if_neg (nI_ge (by omega) (by omega)), if_neg (nI_ge (by omega) (by omega)), ec, em]
    generalize (75 * x + 74) % 65537 = y at hx2
    rw [ml_want hw hx2 _ _ _ _ _ _ _ _ _ _ _ _ _ hwt a.2.2]
    have e7 : (nI y - nI y / 7 * 7 = 0) ↔ y % 7 = 0 := by
      rw [show (7 : Int32) = nI 7 from rfl, pk_rem (by omega) (by omega) (by omega), show (0 : Int32) = nI 0 from rfl, nI_eq (by omega) (by omega)]
    -- the pull, from either wheel
    have go : ∀ b : AS, aOK n dp b → mR n pi b at_ has leaks → ∃ r zz yy, f_X11_day_86 (f_X11_day_51 f) (nI m) (nI wh) (nI y) (nI k) (w9 b.1 b.2.2) (v9 b.2.1) (nI t) (nI P) (nI D) (nI Lq) (nI K) (nI T) (nI n) (nI dp) (v9 wt) when = some (r, zz) ∧ f_X12_day_129 (f_X12_day_47 f) (nI m) (nI wh) (nI y) (nI k) (nI n) (nI dp) (nI (sbit n b.2.2)) (nI D) (nI Lq) (nI K) (nI T) at_ has wants moved leaks = some (r, yy) := by
      intro b hb hbr
      have hy3 : y % 3 < 3 := Nat.mod_lt _ (by omega)
      unfold f_X11_day_86 f_X12_day_129
      rw [show (3 : Int32) = nI 3 from rfl, pk_rem (by omega) (by omega) (by omega), if_neg (nI_in hy3 (by omega)), nI_clamp (by omega)]
      obtain ⟨when1, e1, -⟩ := cl_move hw hb ht hy3 P D Lq K T when
      obtain ⟨mv1, at1, has1, e2, hp⟩ := ml_pull (D := D) (Lq := Lq) (K := K) (T := T) (moved := moved) hw hb hy3 hbr hwt
      rw [e1, e2]
      simp only [Option.bind_some]
      rw [nI_1]
      exact ih (k + 1) f y (tR n t (y % 3)) (P + 1) _ _ _ _ (aP n dp wt (y % 3) b) _ when1 at1 has1 mv1 (by omega) (by omega) hx2 (tR_lt hw.1) (aP_ok hw hb) hp
    by_cases q : y % 7 = 0
    · rw [if_pos (e7.mpr q), cl_want hw ha]
      simp only [Option.bind_some, q, if_true]
      exact go (aW wt a) (aW_ok hw ha) hmr
    · rw [if_neg (fun r => q (e7.mp r))]
      simp only [q, if_false]
      exact go a ha hmr
theorem st_day {j : Nat} (hj : j + 6 ≤ 3072) (sI : Nat → Int32) (sJ : Nat → Int64) (sA : Nat → Nat → Int32) (sB : Nat → Nat → Int64) (h : Inv j sI sJ sA sB) (a1 : Int32) (a2 : Int32) (a3 : Int32) : ∃ (z : Int32 × Int64 × Int64 × Int32 × Int32 × Int32 × Int32 × Int32 × Int32 × (Nat → Int32)) (y : Int32 × Int32 × Int32 × Int32 × Int32 × Int32 × (Nat → Int32) × (Nat → Int32) × (Nat → Int32)), f_X11_day (sJ 9) (sJ 10) (sI 24) (sI 25) (sI 26) (sI 27) (sI 28) (sI 29) (sI 7) (sI 8) (sI 9) (sJ 0) (sJ 1) (sJ 2) (sA 22) a1 a2 a3 = some z ∧ f_X12_day (sI 41) (sI 42) (sI 43) (sI 47) (sI 48) (sI 49) (sI 50) (sI 51) (sA 33) (sA 43) (sA 35) (sA 44) (sA 46) (sA 34) (sA 45) a1 a2 a3 = some y ∧ z.1 = y.1 ∧ Inv (j + 6) (va_up (va_up (va_up (va_up (va_up (va_up (va_up (va_up (va_up (va_up (va_up sI 24 z.2.2.2.1) 25 z.2.2.2.2.1) 26 z.2.2.2.2.2.1) 27 z.2.2.2.2.2.2.1) 28 z.2.2.2.2.2.2.2.1) 29 z.2.2.2.2.2.2.2.2.1) 47 y.2.1) 48 y.2.2.1) 49 y.2.2.2.1) 50 y.2.2.2.2.1) 51 y.2.2.2.2.2.1) (va_up (va_up sJ 9 z.2.1) 10 z.2.2.1) (va_up (va_up (va_up (va_up sA 22 z.2.2.2.2.2.2.2.2.2) 33 y.2.2.2.2.2.2.1) 35 y.2.2.2.2.2.2.2.1) 34 y.2.2.2.2.2.2.2.2) sB := by
  refine (fun (q : ∃ r zz yy, f_X11_day (sJ 9) (sJ 10) (sI 24) (sI 25) (sI 26) (sI 27) (sI 28) (sI 29) (sI 7) (sI 8) (sI 9) (sJ 0) (sJ 1) (sJ 2) (sA 22) a1 a2 a3 = some (r, zz) ∧ f_X12_day (sI 41) (sI 42) (sI 43) (sI 47) (sI 48) (sI 49) (sI 50) (sI 51) (sA 33) (sA 43) (sA 35) (sA 44) (sA 46) (sA 34) (sA 45) a1 a2 a3 = some (r, yy)) => q.elim (fun r q => q.elim (fun zz q => q.elim (fun yy e => ⟨(r, zz), (r, yy), e.1, e.2, rfl, Inv_grow h⟩)))) ?_
  obtain ⟨ch, pc, n, t, dp, w, c, wt, a, W, bh, dr, sv, h1, h2, h3, h4, h5, h6, i0, i1, k1, k2, k3⟩ := id h
  obtain ⟨⟨hw, ha, ht, hth⟩, ⟨r1, r2, r3, r4, r5, r6⟩, ⟨m1, m2, m3, mm, mw⟩⟩ := id h4
  unfold f_X11_day f_X12_day
  rw [show (0 : Int64) = lN 0 from rfl, show (1 : Int64) = lN 1 from rfl, show (99 : Int64) = lN 99 from rfl, show (9999 : Int64) = lN 9999 from rfl]
  rcases in3b a1 0 9999 (by omega) (by omega) with ⟨q, e⟩ | ⟨q1, q2, e⟩ | ⟨x, -, qx, rfl, e⟩
  · rw [if_pos (show a1 < 0 from q), e]
    exact ⟨_, _, _, rfl, rfl⟩
  · rw [if_neg (show ¬ a1 < 0 from q1), if_pos (show (9999 : Int32) < a1 from q2), e]
    exact ⟨_, _, _, rfl, rfl⟩
  · rw [if_neg (nI_pos (by omega)), if_neg (show ¬ (9999 : Int32) < nI x from nI_nlt (a := 9999) qx (by omega)), e]
    simp only [Option.bind_some]
    rw [if_neg (show ¬ (1 : Int32) = 0 by decide)]
    rcases in3 a2 1 99 (by omega) (by omega) with ⟨q, e⟩ | ⟨q1, q2, e⟩ | ⟨m, qm1, qm, rfl, e⟩
    · rw [if_pos (show a2 < 1 from q), e]
      exact ⟨_, _, _, rfl, rfl⟩
    · rw [if_neg (show ¬ a2 < 1 from q1), if_pos (show (99 : Int32) < a2 from q2), e]
      exact ⟨_, _, _, rfl, rfl⟩
    · rw [if_neg (show ¬ nI m < 1 from nI_nlt (b := 1) qm1 (by omega)), if_neg (show ¬ (99 : Int32) < nI m from nI_nlt (a := 99) qm (by omega)), e]
      simp only [Option.bind_some]
      rw [if_neg (show ¬ (1 : Int32) = 0 by decide)]
      rcases in3 a3 0 1 (by omega) (by omega) with ⟨q, e⟩ | ⟨q1, q2, e⟩ | ⟨wh, -, qw, rfl, e⟩
      · rw [if_pos (show a3 < 0 from q), e]
        exact ⟨_, _, _, rfl, rfl⟩
      · rw [if_neg (show ¬ a3 < 0 from q1), if_neg (show ¬ a3 ≤ 1 from (fa_of_lt q2).2.1), e]
        exact ⟨_, _, _, rfl, rfl⟩
      · rw [if_neg (nI_pos (by omega)), if_pos (show nI wh ≤ 1 from nI_le (b := 1) qw (by omega)), e, r1, r2, r3, r4, r5, r6, m1, m2, m3]
        obtain ⟨w1, e1, hb1⟩ := cl_begin hw.2.2.2.1 ha (nI t) (v9 a.2.1) (sA 22)
        obtain ⟨at1, has1, e2, hl1⟩ := ml_lay hw.2.1 (nI (sbit n a.2.2)) (sA 33) (sA 43) (sA 35) (sA 44) (sA 45) mm
        rw [e1, e2]
        simp only [Option.bind_some]
        rw [if_neg (show ¬ (1 : Int32) = 0 by decide)]
        exact day_ok hw (by omega) qw (sA 45) (sA 46) mw m 0 fuel x t 0 0 0 0 0 a (tpi n t) w1 at1 has1 (sA 34) (by omega) (fuel_big (by omega)) (by omega) ht ha hl1
