theorem lgl0 (x y : Int64) : lg_cmp x y < 0 ↔ x < y := by
  unfold lg_cmp
  by_cases h1 : x > y
  · rw [if_pos h1]
    constructor
    · intro h; exact absurd h (by decide)
    · intro h; exact absurd (Int64.lt_trans h h1) Int64.lt_irrefl
  · rw [if_neg h1]
    by_cases h2 : x = y
    · rw [if_pos h2]
      constructor
      · intro h; exact absurd h (by decide)
      · intro h; rw [h2] at h; exact absurd h Int64.lt_irrefl
    · rw [if_neg h2]
      constructor
      · intro _
        have := Int64.not_lt.mp h1
        exact Int64.lt_of_le_of_ne this h2
      · intro _; decide
theorem lgg0 (x y : Int64) : 0 < lg_cmp x y ↔ y < x := by
  unfold lg_cmp
  by_cases h1 : x > y
  · rw [if_pos h1]
    constructor
    · intro _; exact h1
    · intro _; decide
  · rw [if_neg h1]
    constructor
    · intro h
      by_cases h2 : x = y
      · rw [if_pos h2] at h; exact absurd h (by decide)
      · rw [if_neg h2] at h; exact absurd h (by decide)
    · intro h; exact absurd h h1
theorem in_lo0 {a b c : Int32} (h : a < b) : f_X12_in a.toInt64 b.toInt64 c.toInt64 = some 0 := by
  unfold f_X12_in
  rw [if_pos ((lgl0 _ _).mpr ((fa_wide_lt a b).mpr h))]
theorem in_hi0 {a b c : Int32} (h : c < a) : f_X12_in a.toInt64 b.toInt64 c.toInt64 = some 0 := by
  unfold f_X12_in
  by_cases q : lg_cmp a.toInt64 b.toInt64 < 0
  · rw [if_pos q]
  · rw [if_neg q, if_pos ((lgg0 _ _).mpr ((fa_wide_lt c a).mpr h))]
theorem in_ok0 {a b c : Int32} (h1 : ¬ a < b) (h2 : ¬ c < a) : f_X12_in a.toInt64 b.toInt64 c.toInt64 = some 1 := by
  unfold f_X12_in
  rw [if_neg (fun q => h1 ((fa_wide_lt a b).mp ((lgl0 _ _).mp q))), if_neg (fun q => h2 ((fa_wide_lt c a).mp ((lgg0 _ _).mp q)))]
def isM1 (x : Int32) : Prop := x = -1
/-- the reference's came -/
theorem ml_came_26 {n dp c m : Nat} {wt bh dr : Nat → Nat} {sv : Nat → Bool} {mb md ms leaks wants pa ho : Nat → Int32} {a : AS} {pi : Nat → Nat} (hwk : wOK n dp wt) (hwt : ∀ d, d < n → wants d = nI (wt d)) (hc : c ≤ 6) (hm : m ≤ 10) (hS : ∀ i, i < c → mb i = nI (bh i) ∧ bh i ≤ 10 ∧ md i = nI (dr i) ∧ dr i < n ∧ ms i = z01 (sv i)) (ha : aOK n dp a) (hmr : mR n pi a pa ho leaks) (a2 : Int32) : ∀ (e y fu : Nat) (dn drr le du ti : Int32) (at_ has moved : Nat → Int32), y + e = 3 ^ m → e < fu → (a2 ≠ -1 → ∀ y', y' < y → fitB n dp wt c bh dr sv 0 (tl m y') a = false) →
    ∃ r R, f_X12_came_26 fu (nI m) a2 (nI (3 ^ m)) (nI (fb_ct (fun y => fitB n dp wt c bh dr sv 0 (tl m y) a) y)) (nI y) (nI n) (nI dp) (nI (sbit n a.2.2)) (nI c) dn drr le du ti at_ pa has ho mb md ms moved leaks wants = some (r, R) ∧ (a2 = -1 → r = nI (ct n dp wt c bh dr sv m 0 a)) ∧ (a2 ≠ -1 → ct n dp wt c bh dr sv m 0 a = 0 → r = -6) ∧ (a2 ≠ -1 → 0 < ct n dp wt c bh dr sv m 0 a → (∀ i, i < m → a2 = nI i → r = mvI (fi n dp wt c bh dr sv m 0 a i)) ∧ ((∀ i, i < m → a2 ≠ nI i) → r = -6)) := by
  have hp := pow3_le hm
  intro e
  induction e with
  | zero =>
    intro y fu dn drr le du ti at_ has moved hy hf hh
    obtain ⟨f, rfl⟩ : ∃ f, fu = f + 1 := ⟨fu - 1, by omega⟩
    obtain rfl : y = 3 ^ m := by omega
    rw [f_X12_came_26, if_pos (nI_le (by omega) (by omega)), ct_num]
    by_cases q : a2 = -1
    · rw [if_pos q]
      exact ⟨_, _, rfl, fun _ => rfl, fun q2 => absurd q q2, fun q2 => absurd q q2⟩
    · rw [if_neg q]
      refine ⟨_, _, rfl, fun q2 => absurd q2 q, fun _ _ => rfl, fun _ q2 => ?_⟩
      obtain ⟨y, hy, hf⟩ := ct_pos.mp q2
      rw [hh q y hy] at hf
      exact absurd hf (by decide)
  | succ e ih =>
    intro y fu dn drr le du ti at_ has moved hy hf hh
    obtain ⟨f, rfl⟩ : ∃ f, fu = f + 1 := ⟨fu - 1, by omega⟩
    obtain ⟨r1, r2, r3, r4, r5, r6, r7, r8, e1⟩ := ml_fits (y := y) hwk hwt hc hm hS (by omega) ha hmr at_ has moved
    rw [f_X12_came_26, if_neg (nI_ge (by omega) (by omega)), e1, Option.bind_some]
    unfold f_X12_came_80
    rw [nI_1]
    cases hfb : fitB n dp wt c bh dr sv 0 (tl m y) a with
    | false =>
      have i1 := ih (y + 1) f r1 r2 r3 r4 r5 r6 r7 r8 (by omega) (by omega) (fun q y' hy' => by
        by_cases e : y' = y
        · subst e; exact hfb
        · exact hh q y' (by omega))
      rw [fb_ct_succ, hfb, if_neg (show ¬ false = true by decide), Nat.add_zero] at i1
      rw [if_pos (show z01 false = 0 from rfl)]
      exact i1
    | true =>
      rw [if_neg (show ¬ z01 true = 0 by decide)]
      by_cases q : a2 = -1
      · have i1 := ih (y + 1) f r1 r2 r3 r4 r5 r6 r7 r8 (by omega) (by omega) (fun q2 => absurd q q2)
        rw [fb_ct_succ, hfb, if_pos rfl] at i1
        rw [if_pos q, nI_1]
        exact i1
      · have hpos : 0 < ct n dp wt c bh dr sv m 0 a := ct_pos.mpr ⟨y, by omega, hfb⟩
        rw [if_neg q, show (0 : Int64) = (0 : Int32).toInt64 from rfl]
        by_cases q2 : a2 < 0
        · rw [in_lo0 q2]
          refine ⟨_, _, rfl, fun q3 => absurd q3 q, fun _ q3 => by omega, fun _ _ => ⟨fun i hi q3 => ?_, fun _ => rfl⟩⟩
          rw [q3] at q2
          exact absurd q2 (nI_pos (by omega))
        · obtain ⟨k, hk, rfl⟩ := nI_of q2
          by_cases q3 : k < m
          · have ein : f_X12_in (nI k).toInt64 (0 : Int32).toInt64 (nI m - 1).toInt64 = some 1 := in_ok0 (nI_pos (by omega)) (by
              obtain ⟨m', rfl⟩ : ∃ m', m = m' + 1 := ⟨m - 1, by omega⟩
              rw [nI_p1]
              exact nI_nlt (by omega) (by omega))
            rw [ein, Option.bind_some, if_neg (show ¬ (1 : Int32) = 0 by decide), ml_pullAt hm q3 (by omega), Option.bind_some, sign_3 (dg_lt _ _ _), Option.bind_some]
            refine ⟨_, _, rfl, fun q3 => absurd q3 q, fun _ q3 => by omega, fun _ _ => ⟨fun i hi q4 => ?_, fun q4 => absurd rfl (q4 k q3)⟩⟩
            have : k = i := (nI_eq (by omega) (by omega)).mp q4
            subst this
            rw [fi_num m 0 a y (by omega) hfb (hh q) k hi]
          · have ein : f_X12_in (nI k).toInt64 (0 : Int32).toInt64 (nI m - 1).toInt64 = some 0 := in_hi0 (by
              rw [fa_lt, mo_toInt (by omega), nI_toInt hk]; omega)
            rw [ein]
            refine ⟨_, _, rfl, fun q3 => absurd q3 q, fun _ q3 => by omega, fun _ _ => ⟨fun i hi q4 => ?_, fun _ => rfl⟩⟩
            have : k = i := (nI_eq (by omega) (by omega)).mp q4
            omega
def cdA (p : Nat → Bool) (g : Nat → Nat) : Nat → Nat → Bool
  | 0, _ => false
  | y + 1, h => cdA p g y h || (p y && decide (g y = h))
theorem cdA_iff {p : Nat → Bool} {g : Nat → Nat} {h : Nat} : ∀ n, cdA p g n h = true ↔ ∃ y, y < n ∧ p y = true ∧ g y = h
  | 0 => by simp [cdA]
  | n + 1 => by
    rw [cdA, Bool.or_eq_true, cdA_iff n, Bool.and_eq_true, decide_eq_true_iff]
    constructor
    · rintro (⟨y, h1, h2⟩ | h2)
      · exact ⟨y, by omega, h2⟩
      · exact ⟨n, by omega, h2⟩
    · rintro ⟨y, h1, h2⟩
      by_cases e : y = n
      · subst e; exact Or.inr h2
      · exact Or.inl ⟨y, by omega, h2⟩
theorem ml_could_39 {n dp c m i : Nat} {wt bh dr : Nat → Nat} {sv : Nat → Bool} {mb md ms leaks wants pa ho : Nat → Int32} {a : AS} {pi : Nat → Nat} (hwk : wOK n dp wt) (hwt : ∀ d, d < n → wants d = nI (wt d)) (hc : c ≤ 6) (hm : m ≤ 10) (hi : i < m) (hS : ∀ i, i < c → mb i = nI (bh i) ∧ bh i ≤ 10 ∧ md i = nI (dr i) ∧ dr i < n ∧ ms i = z01 (sv i)) (ha : aOK n dp a) (hmr : mR n pi a pa ho leaks) : ∀ (e y fu : Nat) (dn drr le du ti : Int32) (at_ has moved : Nat → Int32), y + e = 3 ^ m → e < fu →
    ∃ R, f_X12_could_39 fu (nI m) (nI i) (nI (3 ^ m)) (nI (sb3 (cdA (fun y => fitB n dp wt c bh dr sv 0 (tl m y) a) (fun y => dg m y i) y))) (nI y) (nI n) (nI dp) (nI (sbit n a.2.2)) (nI c) dn drr le du ti at_ pa has ho mb md ms moved leaks wants = some (if ct n dp wt c bh dr sv m 0 a = 0 then -6 else nI (sb3 (cd n dp wt c bh dr sv m 0 a i)), R) := by
  have hp := pow3_le hm
  intro e
  induction e with
  | zero =>
    intro y fu dn drr le du ti at_ has moved hy hf
    obtain ⟨f, rfl⟩ : ∃ f, fu = f + 1 := ⟨fu - 1, by omega⟩
    obtain rfl : y = 3 ^ m := by omega
    have e1 : ∀ h, h < 3 → cdA (fun y => fitB n dp wt c bh dr sv 0 (tl m y) a) (fun y => dg m y i) (3 ^ m) h = cd n dp wt c bh dr sv m 0 a i h := fun h hh => by
      rw [Bool.eq_iff_iff, cdA_iff, cd_num m 0 a i h hi hh]
    have hs := sb3_lt (cd n dp wt c bh dr sv m 0 a i)
    rw [f_X12_could_39, if_pos (nI_le (by omega) (by omega)), sb3_cong e1]
    by_cases q : ct n dp wt c bh dr sv m 0 a = 0
    · rw [if_pos q, if_pos (show nI (sb3 (cd n dp wt c bh dr sv m 0 a i)) = 0 by rw [sb3_zero (fun j hj => cd_zero m 0 a i j hj q)]; rfl)]
      exact ⟨_, rfl⟩
    · have hne : sb3 (cd n dp wt c bh dr sv m 0 a i) ≠ 0 := fun z => by
        obtain ⟨y, hy, hf⟩ := ct_pos.mp (show 0 < ct n dp wt c bh dr sv m 0 a by omega)
        have := sb3_pos.mp z (dg m y i) (dg_lt _ _ _)
        rw [(cd_num m 0 a i _ hi (dg_lt _ _ _)).mpr ⟨y, hy, hf, rfl⟩] at this
        exact absurd this (by decide)
      rw [if_neg q, if_neg (nI_ne0 (by omega) (by omega))]
      exact ⟨_, rfl⟩
  | succ e ih =>
    intro y fu dn drr le du ti at_ has moved hy hf
    obtain ⟨f, rfl⟩ : ∃ f, fu = f + 1 := ⟨fu - 1, by omega⟩
    obtain ⟨r1, r2, r3, r4, r5, r6, r7, r8, e1⟩ := ml_fits (y := y) hwk hwt hc hm hS (by omega) ha hmr at_ has moved
    have i1 := ih (y + 1) f r1 r2 r3 r4 r5 r6 r7 r8 (by omega) (by omega)
    rw [f_X12_could_39, if_neg (nI_ge (by omega) (by omega)), e1, Option.bind_some]
    unfold f_X12_could_71
    rw [nI_1]
    cases hfb : fitB n dp wt c bh dr sv 0 (tl m y) a with
    | false =>
      rw [if_pos (show z01 false = 0 from rfl), show (0 : Int32) = nI 0 from rfl, or_z]
      rw [sb3_cong (g := cdA (fun y => fitB n dp wt c bh dr sv 0 (tl m y) a) (fun y => dg m y i) y) (fun h _ => by rw [cdA, hfb]; simp)] at i1
      exact i1
    | true =>
      rw [if_neg (show ¬ z01 true = 0 by decide), ml_pullAt hm hi (by omega), Option.bind_some, shl1 (by have := dg_lt m y i; omega), ← sb3_bit (dg_lt m y i), sb3_or]
      rw [sb3_cong (f := cdA (fun y => fitB n dp wt c bh dr sv 0 (tl m y) a) (fun y => dg m y i) (y + 1)) (g := fun h => cdA (fun y => fitB n dp wt c bh dr sv 0 (tl m y) a) (fun y => dg m y i) y h || decide (dg m y i = h)) (fun h _ => by rw [cdA, hfb]; simp)] at i1
      exact i1
