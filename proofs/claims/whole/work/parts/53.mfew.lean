/-! the reference's search -/
theorem bit_of {y k : Nat} (hy : y < 2 ^ 20) (hk : k < 20) : (nI y >>> (nI k &&& 31)) &&& 1 = nI (y / 2 ^ k % 2) := by
  rw [pk_shrN (by omega) (nI k &&& 31) k (s_l k (by omega)), pk_andN (Nat.lt_of_le_of_lt (Nat.div_le_self _ _) (by omega)) 1 (by decide), show 2 ^ 1 = 2 by decide]
theorem nI_m1 (m : Nat) : nI m + (-1) = nI m - 1 := (Int32.sub_eq_add_neg (nI m) 1).symm
theorem nI_p1 (m : Nat) : nI (m + 1) - 1 = nI m := by
  rw [show (1 : Int32) = nI 1 from rfl, pk_sub (by omega), Nat.add_sub_cancel]
theorem ml_goBits_4 {n dp y : Nat} {wt : Nat → Nat} {leaks wants : Nat → Int32} (hwk : wOK n dp wt) (hwt : ∀ d, d < n → wants d = nI (wt d)) (hy : y < 2 ^ 20) : ∀ (m fu D Lq K T : Nat) (a : AS) (pi : Nat → Nat) (at_ has moved : Nat → Int32), m < 20 → m < fu → aOK n dp a → mR n pi a at_ has leaks →
    ∃ D' L' K' T' at' has' moved', f_X12_goBits_4 fu (nI y) (nI m - 1) (nI n) (nI dp) (nI (sbit n a.2.2)) (nI D) (nI Lq) (nI K) (nI T) moved at_ has leaks wants = some (nI (sbit n (aRun n dp wt (bl m y) a).2.2), D', L', K', T', moved', at', has') := by
  intro m
  induction m with
  | zero =>
    intro fu D Lq K T a pi at_ has moved hm hf ha hmr
    obtain ⟨f, rfl⟩ : ∃ f, fu = f + 1 := ⟨fu - 1, by omega⟩
    refine ⟨nI D, nI Lq, nI K, nI T, at_, has, moved, ?_⟩
    rw [f_X12_goBits_4, if_pos (show nI 0 - 1 < 0 by decide)]
    rfl
  | succ m ih =>
    intro fu D Lq K T a pi at_ has moved hm hf ha hmr
    obtain ⟨f, rfl⟩ : ∃ f, fu = f + 1 := ⟨fu - 1, by omega⟩
    have hb : y / 2 ^ m % 2 < 3 := by have := Nat.mod_lt (y / 2 ^ m) (show 0 < 2 by omega); omega
    obtain ⟨mv1, at1, has1, ep, hp⟩ := ml_pull (D := D) (Lq := Lq) (K := K) (T := T) (moved := moved) hwk ha hb hmr hwt
    obtain ⟨D', L', K', T', at2, has2, mv2, er⟩ := ih f _ _ _ _ _ _ at1 has1 mv1 (by omega) (by omega) (aP_ok (how := y / 2 ^ m % 2) hwk ha) hp
    refine ⟨D', L', K', T', at2, has2, mv2, ?_⟩
    rw [f_X12_goBits_4, nI_p1, if_neg (nI_pos (by omega)), bit_of hy (by omega), ep, Option.bind_some, nI_m1]
    exact er
theorem ml_goBits {n dp y m : Nat} {wt : Nat → Nat} {leaks wants : Nat → Int32} {a : AS} {pi : Nat → Nat} {at_ has : Nat → Int32} (moved : Nat → Int32) (hwk : wOK n dp wt) (hwt : ∀ d, d < n → wants d = nI (wt d)) (hy : y < 2 ^ 20) (hm : m < 20) (ha : aOK n dp a) (hmr : mR n pi a at_ has leaks) :
    ∃ D' L' K' T' at' has' moved', f_X12_goBits (nI n) (nI dp) (nI (sbit n a.2.2)) 0 0 0 0 moved at_ has leaks wants (nI y) (nI m) = some (nI (sbit n (aRun n dp wt (bl m y) a).2.2), D', L', K', T', moved', at', has') := by
  unfold f_X12_goBits
  exact ml_goBits_4 hwk hwt hy m fuel 0 0 0 0 a pi at_ has moved hm (fuel_big (by omega)) ha hmr
/-- how the wheel is laid before each row: as it is, or as it is hung -/
noncomputable def LAY (x3 n dp served : Int32) (at_ pa has ho order : Nat → Int32) := if x3 = 0 then f_X12_layNow n served at_ pa has ho else f_X12_layHung n dp served at_ pa has ho order
theorem few_12 (k3) (f : Nat) (x1 x2 x3 x4 x5 p dp sv dn dr le du ti fn : Int32) (at_ pa has ho order moved leaks wants : Nat → Int32) : f_X12_fewestFor_12 k3 (f + 1) x1 x2 x3 x4 x5 p dp sv dn dr le du ti fn at_ pa has ho order moved leaks wants = if ((1 : Int32) <<< (x4 &&& 31)) ≤ x5 then k3 x1 x2 x3 (x4 + 1) p dp sv dn dr le du ti fn at_ pa has ho order moved leaks wants else (LAY x3 p dp sv at_ pa has ho order).bind fun z => f_X12_fewestFor_36 k3 (f_X12_fewestFor_12 k3 f) x1 x2 x3 x4 x5 p dp sv z.1 z.2.1 z.2.2.1 z.2.2.2.1 z.2.2.2.2.1 fn z.2.2.2.2.2.1 pa z.2.2.2.2.2.2 ho order moved leaks wants := by
  rw [f_X12_fewestFor_12]
  unfold LAY
  by_cases h : x3 = 0
  · rw [if_pos h, if_pos h]
  · rw [if_neg h, if_neg h]
theorem ml_few_12 {n dp m : Nat} {wt : Nat → Nat} {D : Nat → Bool} {a : AS} {pi : Nat → Nat} {leaks wants pa ho order : Nat → Int32} {x3 : Int32} (hwk : wOK n dp wt) (hwt : ∀ d, d < n → wants d = nI (wt d)) (ha : aOK n dp a) (hlay : ∀ at_ has, ∃ at' has', LAY x3 (nI n) (nI dp) (nI (sbit n a.2.2)) at_ pa has ho order = some (nI (sbit n a.2.2), 0, 0, 0, 0, at', has') ∧ mR n pi a at' has' leaks) (hm : m < 15) (k3) (x2 : Int32) :
    ∀ (e y fu : Nat) (dn dr le du ti fn : Int32) (at_ has moved : Nat → Int32), y + e = 2 ^ m → e < fu → (∀ y', y' < y → ¬ rowS n dp wt D a m y') →
    (∃ g, g < 2 ^ m ∧ rowS n dp wt D a m g ∧ (∀ y', y' < g → ¬ rowS n dp wt D a m y') ∧ ∃ r1 r2 r3 r4 r5 r6 r7 r8, f_X12_fewestFor_12 k3 fu (nI (sbit n (fun j => !D j))) x2 x3 (nI m) (nI y) (nI n) (nI dp) (nI (sbit n a.2.2)) dn dr le du ti fn at_ pa has ho order moved leaks wants = some (nI m, r1, r2, r3, r4, r5, nI g, r6, r7, r8)) ∨
    ((∀ y, y < 2 ^ m → ¬ rowS n dp wt D a m y) ∧ ∃ r1 r2 r3 r4 r5 r6 r7 r8, f_X12_fewestFor_12 k3 fu (nI (sbit n (fun j => !D j))) x2 x3 (nI m) (nI y) (nI n) (nI dp) (nI (sbit n a.2.2)) dn dr le du ti fn at_ pa has ho order moved leaks wants = k3 (nI (sbit n (fun j => !D j))) x2 x3 (nI (m + 1)) (nI n) (nI dp) (nI (sbit n a.2.2)) r1 r2 r3 r4 r5 fn r6 pa r7 ho order r8 leaks wants) := by
  have hp : 2 ^ m ≤ 2 ^ 14 := Nat.pow_le_pow_right (by omega) (by omega)
  intro e
  induction e with
  | zero =>
    intro y fu dn dr le du ti fn at_ has moved hy hf hh
    obtain ⟨f, rfl⟩ : ∃ f, fu = f + 1 := ⟨fu - 1, by omega⟩
    refine Or.inr ⟨fun y' hy' => hh y' (by omega), dn, dr, le, du, ti, at_, has, moved, ?_⟩
    rw [few_12, shl1 (by omega), if_pos (nI_le (by omega) (by omega)), nI_1]
  | succ e ih =>
    intro y fu dn dr le du ti fn at_ has moved hy hf hh
    obtain ⟨f, rfl⟩ : ∃ f, fu = f + 1 := ⟨fu - 1, by omega⟩
    obtain ⟨at1, has1, e1, h1⟩ := hlay at_ has
    obtain ⟨D', L', K', T', at2, has2, mv2, e2⟩ := ml_goBits (y := y) (m := m) moved hwk hwt (by omega) (by omega) ha h1
    have ef : f_X12_fewestFor_12 k3 (f + 1) (nI (sbit n (fun j => !D j))) x2 x3 (nI m) (nI y) (nI n) (nI dp) (nI (sbit n a.2.2)) dn dr le du ti fn at_ pa has ho order moved leaks wants = if (nI (sbit n (aRun n dp wt (bl m y) a).2.2) &&& nI (sbit n (fun j => !D j))) = nI (sbit n (fun j => !D j)) then some (nI m, nI (sbit n (aRun n dp wt (bl m y) a).2.2), D', L', K', T', nI y, at2, has2, mv2) else f_X12_fewestFor_12 k3 f (nI (sbit n (fun j => !D j))) x2 x3 (nI m) (nI (y + 1)) (nI n) (nI dp) (nI (sbit n a.2.2)) (nI (sbit n (aRun n dp wt (bl m y) a).2.2)) D' L' K' T' fn at2 pa has2 ho order mv2 leaks wants := by
      rw [few_12, shl1 (by omega), if_neg (nI_ge (by omega) (by omega)), e1, Option.bind_some]
      unfold f_X12_fewestFor_36
      rw [e2, Option.bind_some, nI_1]
    have hs : (nI (sbit n (aRun n dp wt (bl m y) a).2.2) &&& nI (sbit n (fun j => !D j)) = nI (sbit n (fun j => !D j))) ↔ rowS n dp wt D a m y := by
      rw [bits_all _ _ hwk.2.1]
      unfold rowS srv
      constructor
      · intro h i hi hd; exact h i hi (by rw [hd]; rfl)
      · intro h i hi hd; exact h i hi (by simpa using hd)
    by_cases q : rowS n dp wt D a m y
    · rw [if_pos (hs.mpr q)] at ef
      exact Or.inl ⟨y, by omega, q, hh, _, _, _, _, _, _, _, _, ef⟩
    · rw [if_neg (fun q2 => q (hs.mp q2))] at ef
      rw [ef]
      rcases ih (y + 1) f (nI (sbit n (aRun n dp wt (bl m y) a).2.2)) D' L' K' T' fn at2 has2 mv2 (by omega) (by omega) (fun y' hy' => by
        by_cases e : y' = y
        · subst e; exact q
        · exact hh y' (by omega)) with r | r
      · exact Or.inl r
      · exact Or.inr r
theorem ml_few {n dp b : Nat} {wt : Nat → Nat} {D : Nat → Bool} {a : AS} {pi : Nat → Nat} {leaks wants pa ho order : Nat → Int32} {x3 : Int32} (hwk : wOK n dp wt) (hwt : ∀ d, d < n → wants d = nI (wt d)) (ha : aOK n dp a) (hlay : ∀ at_ has, ∃ at' has', LAY x3 (nI n) (nI dp) (nI (sbit n a.2.2)) at_ pa has ho order = some (nI (sbit n a.2.2), 0, 0, 0, 0, at', has') ∧ mR n pi a at' has' leaks) (hb : b ≤ 15) (dn dr le du ti fn : Int32) (at_ has moved : Nat → Int32) :
    ∃ o, isF n dp wt D b a o ∧ ∃ r1 r2 r3 r4 r5 r0 r6 r7 r8, f_X12_fewestFor (nI n) (nI dp) (nI (sbit n a.2.2)) dn dr le du ti fn at_ pa has ho order moved leaks wants (nI (sbit n (fun j => !D j))) (nI b - 1) x3 = some (bestI o, r1, r2, r3, r4, r5, r0, r6, r7, r8) ∧ ∀ m y, o = some (m, y) → r0 = nI y := by
  have key : ∀ (e m fu : Nat) (dn dr le du ti fn : Int32) (at_ has moved : Nat → Int32), m + e = b → e < fu → (∀ m' y', m' < m → y' < 2 ^ m' → ¬ rowS n dp wt D a m' y') → ∃ o, isF n dp wt D b a o ∧ ∃ r1 r2 r3 r4 r5 r0 r6 r7 r8, f_X12_fewestFor_3 fu (nI (sbit n (fun j => !D j))) (nI b - 1) x3 (nI m) (nI n) (nI dp) (nI (sbit n a.2.2)) dn dr le du ti fn at_ pa has ho order moved leaks wants = some (bestI o, r1, r2, r3, r4, r5, r0, r6, r7, r8) ∧ ∀ m y, o = some (m, y) → r0 = nI y := by
    intro e
    induction e with
    | zero =>
      intro m fu dn dr le du ti fn at_ has moved hm hf hh
      obtain ⟨f, rfl⟩ : ∃ f, fu = f + 1 := ⟨fu - 1, by omega⟩
      refine ⟨none, fun m' y' h1 h2 => hh m' y' (by omega) h2, dn, dr, le, du, ti, fn, at_, has, moved, ?_, fun m y h => by cases h⟩
      rw [f_X12_fewestFor_3, if_pos ((mo_lt (by omega) (by omega)).mpr (by omega))]
      rfl
    | succ e ih =>
      intro m fu dn dr le du ti fn at_ has moved hm hf hh
      obtain ⟨f, rfl⟩ : ∃ f, fu = f + 1 := ⟨fu - 1, by omega⟩
      have hp : 2 ^ m ≤ 2 ^ 14 := Nat.pow_le_pow_right (by omega) (by omega)
      rw [f_X12_fewestFor_3, if_neg (fun q => by have := (mo_lt (by omega) (by omega)).mp q; omega)]
      rcases ml_few_12 (D := D) (m := m) hwk hwt ha hlay (by omega) (f_X12_fewestFor_3 f) (nI b - 1) (2 ^ m) 0 fuel dn dr le du ti fn at_ has moved (by omega) (fuel_big (by omega)) (fun y' hy' => absurd hy' (Nat.not_lt_zero y')) with ⟨y, y1, y2, y3, r1, r2, r3, r4, r5, r6, r7, r8, ee⟩ | ⟨y1, r1, r2, r3, r4, r5, r6, r7, r8, ee⟩
      · refine ⟨some (m, y), ⟨by omega, y1, y2, hh, y3⟩, r1, r2, r3, r4, r5, nI y, r6, r7, r8, ee, fun m' y' h => by cases h; rfl⟩
      · obtain ⟨o, o1, o2⟩ := ih (m + 1) f r1 r2 r3 r4 r5 fn r6 r7 r8 (by omega) (by omega) (fun m' y' h1 h2 => by
          by_cases e : m' = m
          · subst e; exact y1 y' h2
          · exact hh m' y' (by omega) h2)
        refine ⟨o, o1, ?_⟩
        rw [show (0 : Int32) = nI 0 from rfl, ee]
        exact o2
  unfold f_X12_fewestFor
  exact key b 0 fuel dn dr le du ti fn at_ has moved (by omega) (fuel_big (by omega)) (fun m' y' h => absurd h (Nat.not_lt_zero m'))
theorem lay_now {n dp : Nat} {pi : Nat → Nat} {a : AS} {pa ho leaks : Nat → Int32} (order : Nat → Int32) (h9 : n ≤ 9) (hm : mR n pi a pa ho leaks) : ∀ at_ has, ∃ at' has', LAY 0 (nI n) (nI dp) (nI (sbit n a.2.2)) at_ pa has ho order = some (nI (sbit n a.2.2), 0, 0, 0, 0, at', has') ∧ mR n pi a at' has' leaks := fun at_ has => by
  unfold LAY
  rw [if_pos rfl]
  exact ml_lay h9 _ at_ pa has ho leaks hm
