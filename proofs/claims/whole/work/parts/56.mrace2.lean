theorem ml_race_193 {R : Nat} (hR : R ≤ 59049) (k92) (x1 x2 x3 x5 p dp sv dn dr le du ti : Int32) (at_ pa has ho moved leaks wants wins : Nat → Int32) : ∀ (d x fu : Nat) (later : Nat → Int32), x + d = R → d < fu → (∀ i, i < x → later i = wins i) → ∃ later', f_X12_race_193 k92 fu x1 x2 x3 (nI R) x5 (nI x) p dp sv dn dr le du ti at_ pa has ho moved leaks wants later wins = k92 x1 x2 x3 (nI (R / 3)) (x5 + (-1)) p dp sv dn dr le du ti at_ pa has ho moved leaks wants later' wins ∧ ∀ i, i < R → later' i = wins i := by
  intro d
  induction d with
  | zero =>
    intro x fu later hx hf hh
    obtain ⟨f, rfl⟩ : ∃ f, fu = f + 1 := ⟨fu - 1, by omega⟩
    refine ⟨later, ?_, fun i hi => hh i (by omega)⟩
    rw [f_X12_race_193, if_pos (nI_le (by omega) (by omega)), show (3 : Int32) = nI 3 from rfl, pk_div (by omega) (by omega) (by omega)]
  | succ d ih =>
    intro x fu later hx hf hh
    obtain ⟨f, rfl⟩ : ∃ f, fu = f + 1 := ⟨fu - 1, by omega⟩
    rw [f_X12_race_193, if_neg (nI_ge (by omega) (by omega)), if_neg (nI_in (by omega) (by omega)), if_neg (nI_in (by omega) (by omega)), nI_clamp (by omega), nI_1]
    exact ih (x + 1) f (upd later x (wins x)) (by omega) (by omega) (fun i hi => by
      by_cases e : i = x
      · subst e; rw [up_s]
      · rw [up_n e]; exact hh i (by omega))
theorem ml_race_100 {n dp d1 d2 m many : Nat} {wt : Nat → Nat} {leaks wants pa ho later : Nat → Int32} {a : AS} {pi : Nat → Nat} (hwk : wOK n dp wt) (hwt : ∀ d, d < n → wants d = nI (wt d)) (hd1 : d1 < n) (hd2 : d2 < n) (hm10 : m ≤ 10) (hmany : many ≤ m) (ha : aOK n dp a) (hm : mR n pi a pa ho leaks) (en : ¬ endd d1 d2 a) (hlat : many < m → ∀ x, x < 3 ^ (many + 1) → later x = nI (Wv n dp wt d1 d2 m a (many + 1) x)) (k92) : ∀ (d x fu : Nat) (dn dr le du ti : Int32) (at_ has moved wins : Nat → Int32), x + d = 3 ^ many → d < fu → (∀ i, i < x → wins i = nI (Wv n dp wt d1 d2 m a many i)) →
    ∃ dn' dr' le' du' ti' at' has' moved' wins', f_X12_race_100 k92 fu (nI d1) (nI d2) (nI m) (nI (3 ^ many)) (nI many) (nI x) (nI n) (nI dp) (nI (sbit n a.2.2)) dn dr le du ti at_ pa has ho moved leaks wants later wins = f_X12_race_193 k92 fuel (nI d1) (nI d2) (nI m) (nI (3 ^ many)) (nI many) 0 (nI n) (nI dp) (nI (sbit n a.2.2)) dn' dr' le' du' ti' at' pa has' ho moved' leaks wants later wins' ∧ ∀ i, i < 3 ^ many → wins' i = nI (Wv n dp wt d1 d2 m a many i) := by
  have hp : 3 ^ many ≤ 59049 := pow3_le (by omega)
  intro d
  induction d with
  | zero =>
    intro x fu dn dr le du ti at_ has moved wins hx hf hh
    obtain ⟨f, rfl⟩ : ∃ f, fu = f + 1 := ⟨fu - 1, by omega⟩
    refine ⟨dn, dr, le, du, ti, at_, has, moved, wins, ?_, fun i hi => hh i (by omega)⟩
    rw [f_X12_race_100, if_pos (nI_le (by omega) (by omega))]
  | succ d ih =>
    intro x fu dn dr le du ti at_ has moved wins hx hf hh
    obtain ⟨f, rfl⟩ : ∃ f, fu = f + 1 := ⟨fu - 1, by omega⟩
    obtain ⟨r1, r2, r3, r4, r5, r6, r7, r8, e1⟩ := ml_ahead (y := x) hwk hwt hd1 hd2 (show many ≤ 10 by omega) (by omega) ha hm at_ has moved
    rw [f_X12_race_100, if_neg (nI_ge (by omega) (by omega)), e1, Option.bind_some]
    unfold f_X12_race_173 f_X12_race_175
    have fin : ∀ v, v = Wv n dp wt d1 d2 m a many x → ∃ dn' dr' le' du' ti' at' has' moved' wins', (if (nI x < 0 ∨ 59049 ≤ (nI x).toNatClampNeg) then none else (f_X12_race_100 k92 f (nI d1) (nI d2) (nI m) (nI (3 ^ many)) (nI many) (nI x + 1) (nI n) (nI dp) (nI (sbit n a.2.2)) r1 r2 r3 r4 r5 r6 pa r7 ho r8 leaks wants later (upd wins (nI x).toNatClampNeg (nI v)))) = f_X12_race_193 k92 fuel (nI d1) (nI d2) (nI m) (nI (3 ^ many)) (nI many) 0 (nI n) (nI dp) (nI (sbit n a.2.2)) dn' dr' le' du' ti' at' pa has' ho moved' leaks wants later wins' ∧ ∀ i, i < 3 ^ many → wins' i = nI (Wv n dp wt d1 d2 m a many i) := by
      intro v hv
      rw [if_neg (nI_in (by omega) (by omega)), nI_clamp (by omega), nI_1]
      exact ih (x + 1) f r1 r2 r3 r4 r5 r6 r7 r8 (upd wins x (nI v)) (by omega) (by omega) (fun i hi => by
        by_cases e : i = x
        · subst e; rw [up_s, hv]
        · rw [up_n e]; exact hh i (by omega))
    cases hH : Hd n dp wt d1 d2 (tl many x) a with
    | some v =>
      obtain ⟨g1, g2⟩ := Gv_some (l := m - many) (who := many % 2) _ _ hH
      rw [if_pos (show (0 : Int32) ≤ ahI (some v) from nI_le (a := 0) (by omega) (by omega))]
      exact fin v g1.symm
    | none =>
      obtain ⟨g1, g2, g3⟩ := Gv_none (l := m - many) (who := many % 2) _ _ hH
      obtain ⟨-, -, k3⟩ := Gv_none (l := m - (many + 1)) (who := (many + 1) % 2) _ _ hH
      rw [if_neg (show ¬ (0 : Int32) ≤ ahI none by decide)]
      by_cases q : many = m
      · rw [if_pos (show nI many = nI m by rw [q])]
        refine fin 2 ?_
        unfold Wv
        rw [g1, show m - many = 0 by omega, ev, if_neg (g2 en)]
      · have hp1 : 3 ^ (many + 1) ≤ 59049 := pow3_le (by omega)
        have hp2 : 3 ^ (many + 1) = 3 ^ many * 3 := Nat.pow_succ ..
        have hL := hlat (by omega)
        have c0 : ∀ h, h < 3 → later (3 * x + h) = nI (ev n dp wt d1 d2 (m - (many + 1)) ((many + 1) % 2) (aP n dp wt h (aRun n dp wt (tl many x) a))) := fun h hh => by
          rw [hL (3 * x + h) (by omega)]
          unfold Wv
          rw [tl_app _ _ _ hh, k3 h]
        have a3 : (3 : Int32) * nI x = nI (3 * x + 0) := by rw [show (3 : Int32) = nI 3 from rfl, pk_mul]; rfl
        have a4 : (3 : Int32) * nI x + 1 = nI (3 * x + 1) := by rw [a3, nI_1]
        have a5 : (3 : Int32) * nI x + 2 = nI (3 * x + 2) := by rw [a3, show (2 : Int32) = nI 2 from rfl, nI_add]
        rw [if_neg (fun e => q ((nI_eq (by omega) (by omega)).mp e)), a4, a5, a3, if_neg (nI_in (by omega) (by omega)), if_neg (nI_in (by omega) (by omega)), if_neg (nI_in (by omega) (by omega)), nI_clamp (n := 3 * x + 0) (by omega), nI_clamp (n := 3 * x + 1) (by omega), nI_clamp (n := 3 * x + 2) (by omega), c0 0 (by omega), c0 1 (by omega), c0 2 (by omega), show (2 : Int32) = nI 2 from rfl, pk_rem (by omega) (by omega) (by omega), ml_bestOf (by omega) (ev_lt _ _ (by omega)) (ev_lt _ _ (by omega)) (ev_lt _ _ (by omega)), Option.bind_some]
        refine fin _ ?_
        unfold Wv
        rw [g1, show m - many = (m - (many + 1)) + 1 by omega, ev, if_neg (g2 en), show 1 - many % 2 = (many + 1) % 2 by omega]
theorem ml_race_92 {n dp d1 d2 m : Nat} {wt : Nat → Nat} {leaks wants pa ho : Nat → Int32} {a : AS} {pi : Nat → Nat} (hwk : wOK n dp wt) (hwt : ∀ d, d < n → wants d = nI (wt d)) (hd1 : d1 < n) (hd2 : d2 < n) (hm10 : m ≤ 10) (ha : aOK n dp a) (hm : mR n pi a pa ho leaks) (en : ¬ endd d1 d2 a) : ∀ (e fu : Nat) (dn dr le du ti : Int32) (at_ has moved later wins : Nat → Int32), e ≤ m + 1 → e < fu → (e ≤ m → (∀ x, x < 3 ^ e → later x = nI (Wv n dp wt d1 d2 m a e x)) ∧ (e = 0 → wins 0 = nI (Wv n dp wt d1 d2 m a 0 0))) →
    ∃ r1 r2 r3 r4 r5 r6 r7 r8 r9 r10, f_X12_race_92 fu (nI d1) (nI d2) (nI m) (nI (3 ^ e / 3)) (nI e - 1) (nI n) (nI dp) (nI (sbit n a.2.2)) dn dr le du ti at_ pa has ho moved leaks wants later wins = some (nI (Wv n dp wt d1 d2 m a 0 0), r1, r2, r3, r4, r5, r6, r7, r8, r9, r10) := by
  intro e
  induction e with
  | zero =>
    intro fu dn dr le du ti at_ has moved later wins he hf hh
    obtain ⟨f, rfl⟩ : ∃ f, fu = f + 1 := ⟨fu - 1, by omega⟩
    have h0 := (hh (by omega)).2 rfl
    rw [f_X12_race_92, if_pos (show nI 0 - 1 < 0 by decide), if_neg (show ¬ ((0 : Int32) < 0 ∨ 59049 ≤ (0 : Int32).toNatClampNeg) from nI_in (c := 0) (by omega) (by omega)), show (0 : Int32).toNatClampNeg = 0 from nI_clamp (n := 0) (by omega), h0]
    exact ⟨_, _, _, _, _, _, _, _, _, _, rfl⟩
  | succ e ih =>
    intro fu dn dr le du ti at_ has moved later wins he hf hh
    obtain ⟨f, rfl⟩ : ∃ f, fu = f + 1 := ⟨fu - 1, by omega⟩
    have hp : 3 ^ e ≤ 59049 := pow3_le (by omega)
    have hp0 := pow3_pos e
    rw [f_X12_race_92, nI_p1, if_neg (nI_pos (by omega)), Nat.pow_succ, Nat.mul_div_cancel _ (by omega)]
    obtain ⟨dn', dr', le', du', ti', at', has', moved', wins', e1, w1⟩ := ml_race_100 (many := e) hwk hwt hd1 hd2 hm10 (by omega) ha hm en (fun q => (hh (by omega)).1) (f_X12_race_92 f) (3 ^ e) 0 fuel dn dr le du ti at_ has moved wins (by omega) (fuel_big (by omega)) (fun i hi => absurd hi (Nat.not_lt_zero i))
    obtain ⟨later', e2, l2⟩ := ml_race_193 hp (f_X12_race_92 f) (nI d1) (nI d2) (nI m) (nI e) (nI n) (nI dp) (nI (sbit n a.2.2)) dn' dr' le' du' ti' at' pa has' ho moved' leaks wants wins' (3 ^ e) 0 fuel later (by omega) (fuel_big (by omega)) (fun i hi => absurd hi (Nat.not_lt_zero i))
    have e1' : f_X12_race_100 (f_X12_race_92 f) fuel (nI d1) (nI d2) (nI m) (nI (3 ^ e)) (nI e) 0 (nI n) (nI dp) (nI (sbit n a.2.2)) dn dr le du ti at_ pa has ho moved leaks wants later wins = _ := e1
    have e2' : f_X12_race_193 (f_X12_race_92 f) fuel (nI d1) (nI d2) (nI m) (nI (3 ^ e)) (nI e) 0 (nI n) (nI dp) (nI (sbit n a.2.2)) dn' dr' le' du' ti' at' pa has' ho moved' leaks wants later wins' = _ := e2
    rw [e1', e2', nI_m1]
    exact ih f dn' dr' le' du' ti' at' has' moved' later' wins' (by omega) (by omega) (fun _ => ⟨fun x hx => by rw [l2 x hx, w1 x hx], fun q => by subst q; exact w1 0 (by omega)⟩)
theorem ml_race {n dp d1 d2 m : Nat} {wt : Nat → Nat} {leaks wants pa ho : Nat → Int32} {a : AS} {pi : Nat → Nat} (hwk : wOK n dp wt) (hwt : ∀ d, d < n → wants d = nI (wt d)) (hd1 : d1 < n) (hd2 : d2 < n) (hm10 : m ≤ 10) (ha : aOK n dp a) (hm : mR n pi a pa ho leaks) (en : ¬ endd d1 d2 a) (dn dr le du ti : Int32) (at_ has moved later wins : Nat → Int32) : ∃ r1 r2 r3 r4 r5 r6 r7 r8 r9 r10, f_X12_race_71 fuel (nI d1) (nI d2) (nI m) 1 0 (nI n) (nI dp) (nI (sbit n a.2.2)) dn dr le du ti at_ pa has ho moved leaks wants later wins = some (nI (ev n dp wt d1 d2 m 0 a), r1, r2, r3, r4, r5, r6, r7, r8, r9, r10) := by
  have key : ∀ (d k fu : Nat), k + d = m → d < fu → f_X12_race_71 fu (nI d1) (nI d2) (nI m) (nI (3 ^ k)) (nI k) (nI n) (nI dp) (nI (sbit n a.2.2)) dn dr le du ti at_ pa has ho moved leaks wants later wins = f_X12_race_92 fuel (nI d1) (nI d2) (nI m) (nI (3 ^ m)) (nI m) (nI n) (nI dp) (nI (sbit n a.2.2)) dn dr le du ti at_ pa has ho moved leaks wants later wins := by
    intro d
    induction d with
    | zero =>
      intro k fu hk hf
      obtain ⟨f, rfl⟩ : ∃ f, fu = f + 1 := ⟨fu - 1, by omega⟩
      obtain rfl : k = m := by omega
      rw [f_X12_race_71, if_pos (nI_le (by omega) (by omega))]
    | succ d ih =>
      intro k fu hk hf
      obtain ⟨f, rfl⟩ : ∃ f, fu = f + 1 := ⟨fu - 1, by omega⟩
      rw [f_X12_race_71, if_neg (nI_ge (by omega) (by omega)), show (3 : Int32) = nI 3 from rfl, pk_mul, nI_1, ← Nat.pow_succ]
      exact ih (k + 1) f (by omega) (by omega)
  have k0 : f_X12_race_71 fuel (nI d1) (nI d2) (nI m) 1 0 (nI n) (nI dp) (nI (sbit n a.2.2)) dn dr le du ti at_ pa has ho moved leaks wants later wins = _ := key m 0 fuel (by omega) (fuel_big (by omega))
  rw [k0]
  have l := ml_race_92 (m := m) hwk hwt hd1 hd2 hm10 ha hm en (m + 1) fuel dn dr le du ti at_ has moved later wins (by omega) (fuel_big (by omega)) (fun q => by omega)
  rw [nI_p1, Nat.pow_succ, Nat.mul_div_cancel _ (by omega)] at l
  exact l
