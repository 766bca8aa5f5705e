/-! rows of three signs, by number -/
def tl : Nat → Nat → List Nat
  | 0, _ => []
  | m + 1, y => (y / 3 ^ m % 3) :: tl m y
theorem tl_mod : ∀ (m y : Nat), tl m (y % 3 ^ m) = tl m y
  | 0, _ => rfl
  | m + 1, y => by
    have e1 : y % 3 ^ (m + 1) / 3 ^ m % 3 = y / 3 ^ m % 3 := by
      rw [Nat.pow_succ, Nat.mod_mul_right_div_self, Nat.mod_mod]
    have e2 : tl m (y % 3 ^ (m + 1)) = tl m y := by
      rw [← tl_mod m (y % 3 ^ (m + 1)), ← tl_mod m y, Nat.pow_succ, Nat.mod_mul_right_mod]
    rw [tl, tl, e1, e2]
theorem tl_app : ∀ (m y h : Nat), h < 3 → tl (m + 1) (3 * y + h) = tl m y ++ [h]
  | 0, y, h, hh => by
    show [(3 * y + h) / 3 ^ 0 % 3] = [h]
    rw [Nat.pow_zero, Nat.div_one, show (3 * y + h) % 3 = h by omega]
  | m + 1, y, h, hh => by
    have ih := tl_app m y h hh
    rw [tl, ih, tl]
    have e : (3 * y + h) / 3 ^ (m + 1) = y / 3 ^ m := by
      rw [Nat.pow_succ, Nat.mul_comm (3 ^ m) 3, ← Nat.div_div_eq_div_mul, show (3 * y + h) / 3 = y by omega]
    rw [e]
    rfl
theorem pow3_le {k : Nat} (h : k ≤ 10) : 3 ^ k ≤ 59049 := by
  have : 3 ^ k ≤ 3 ^ 10 := Nat.pow_le_pow_right (by omega) h
  exact this
theorem pow3_pos (k : Nat) : 0 < 3 ^ k := Nat.pow_pos (by omega)
theorem dig_lt {e y : Nat} (h : y < 3 ^ (e + 1)) : y / 3 ^ e < 3 := Nat.div_lt_of_lt_mul (by rw [Nat.pow_succ] at h; exact h)
/-! the reference's race -/
def Hd (n dp : Nat) (wt : Nat → Nat) (d1 d2 : Nat) : List Nat → AS → Option Nat
  | [], _ => none
  | h :: t, a => if endd d1 d2 (aP n dp wt h a) then some (hcode d1 d2 (aP n dp wt h a)) else Hd n dp wt d1 d2 t (aP n dp wt h a)
def Gv (n dp : Nat) (wt : Nat → Nat) (d1 d2 l who : Nat) : List Nat → AS → Nat
  | [], a => ev n dp wt d1 d2 l who a
  | h :: t, a => if endd d1 d2 (aP n dp wt h a) then hcode d1 d2 (aP n dp wt h a) else Gv n dp wt d1 d2 l who t (aP n dp wt h a)
theorem Gv_lt {n dp : Nat} {wt : Nat → Nat} {d1 d2 l who : Nat} (hw : who < 2) : ∀ (t : List Nat) (a : AS), Gv n dp wt d1 d2 l who t a < 3
  | [], a => ev_lt l a hw
  | h :: t, a => by
    unfold Gv
    split
    · exact hcode_lt _ _ _
    · exact Gv_lt hw t _
theorem Gv_some {n dp : Nat} {wt : Nat → Nat} {d1 d2 l who v : Nat} : ∀ (t : List Nat) (a : AS), Hd n dp wt d1 d2 t a = some v → Gv n dp wt d1 d2 l who t a = v ∧ v < 3
  | [], a, h => by cases h
  | x :: t, a, h => by
    unfold Hd at h
    unfold Gv
    by_cases q : endd d1 d2 (aP n dp wt x a)
    · rw [if_pos q] at h ⊢
      cases h
      exact ⟨rfl, hcode_lt _ _ _⟩
    · rw [if_neg q] at h ⊢
      exact Gv_some t _ h
theorem Gv_none {n dp : Nat} {wt : Nat → Nat} {d1 d2 l who : Nat} : ∀ (t : List Nat) (a : AS), Hd n dp wt d1 d2 t a = none → Gv n dp wt d1 d2 l who t a = ev n dp wt d1 d2 l who (aRun n dp wt t a) ∧ (¬ endd d1 d2 a → ¬ endd d1 d2 (aRun n dp wt t a)) ∧ ∀ h, Gv n dp wt d1 d2 l who (t ++ [h]) a = ev n dp wt d1 d2 l who (aP n dp wt h (aRun n dp wt t a))
  | [], a, _ => ⟨rfl, id, fun h => by
    show (if endd d1 d2 (aP n dp wt h a) then hcode d1 d2 (aP n dp wt h a) else ev n dp wt d1 d2 l who (aP n dp wt h a)) = ev n dp wt d1 d2 l who (aP n dp wt h a)
    by_cases q : endd d1 d2 (aP n dp wt h a)
    · rw [if_pos q, ev_end q]
    · rw [if_neg q]⟩
  | x :: t, a, h => by
    unfold Hd at h
    by_cases q : endd d1 d2 (aP n dp wt x a)
    · rw [if_pos q] at h; cases h
    · rw [if_neg q] at h
      obtain ⟨g1, g2, g3⟩ := Gv_none (l := l) (who := who) t _ h
      refine ⟨?_, fun _ => g2 q, fun y => ?_⟩
      · rw [Gv, if_neg q]; exact g1
      · show Gv n dp wt d1 d2 l who (x :: (t ++ [y])) a = _
        rw [Gv, if_neg q]; exact g3 y
def ahI : Option Nat → Int32
  | none => -6
  | some v => nI v
theorem th_b (b : Bool) : nI (if b then 0 else 1) = if b = false then 1 else 0 := by cases b <;> rfl
theorem ml_ahead_35 {n dp d1 d2 many : Nat} {wt : Nat → Nat} {leaks wants : Nat → Int32} (hwk : wOK n dp wt) (hwt : ∀ d, d < n → wants d = nI (wt d)) (hd1 : d1 < n) (hd2 : d2 < n) (hmany : many ≤ 10) : ∀ (e k fu y D Lq K T : Nat) (part : Int32) (a : AS) (pi : Nat → Nat) (at_ has moved : Nat → Int32), k + e = many → e < fu → y < 3 ^ e → (∀ e', e = e' + 1 → part = nI (3 ^ e')) → aOK n dp a → mR n pi a at_ has leaks →
    ∃ r1 r2 r3 r4 r5 r6 r7 r8, f_X12_aheadBy_35 fu (nI d1) (nI d2) (nI many) part (nI y) (nI k) (nI n) (nI dp) (nI (sbit n a.2.2)) (nI D) (nI Lq) (nI K) (nI T) at_ has moved leaks wants = some (ahI (Hd n dp wt d1 d2 (tl e y) a), r1, r2, r3, r4, r5, r6, r7, r8) := by
  have h9 := hwk.2.1
  intro e
  induction e with
  | zero =>
    intro k fu y D Lq K T part a pi at_ has moved hk hf hy hp ha hm
    obtain ⟨f, rfl⟩ : ∃ f, fu = f + 1 := ⟨fu - 1, by omega⟩
    rw [f_X12_aheadBy_35, if_pos (nI_le (by omega) (by omega))]
    exact ⟨_, _, _, _, _, _, _, _, rfl⟩
  | succ e ih =>
    intro k fu y D Lq K T part a pi at_ has moved hk hf hy hp ha hm
    obtain ⟨f, rfl⟩ : ∃ f, fu = f + 1 := ⟨fu - 1, by omega⟩
    have hpp := pow3_pos e
    have hpl : 3 ^ e ≤ 59049 := pow3_le (by omega)
    have hpl2 : 3 ^ (e + 1) ≤ 59049 := pow3_le (by omega)
    have hdg := dig_lt hy
    rw [f_X12_aheadBy_35, if_neg (nI_ge (by omega) (by omega)), hp e rfl, if_neg (nI_ne0 hpp (by omega)), pk_rem (by omega) hpp (by omega), pk_div (by omega) hpp (by omega)]
    obtain ⟨mv1, at1, has1, ep, hp1⟩ := ml_pull (D := D) (Lq := Lq) (K := K) (T := T) (moved := moved) hwk ha hdg hm hwt
    rw [ep, Option.bind_some, if_neg (nI_ne0 hpp (by omega)), bit_ask _ h9 hd1, bit_ask _ h9 hd2, tl, Hd, Nat.mod_eq_of_lt hdg, th_b, th_b]
    by_cases q : endd d1 d2 (aP n dp wt (y / 3 ^ e) a)
    · rw [if_pos q]
      unfold hcode
      have q' : (aP n dp wt (y / 3 ^ e) a).2.2 d1 = false ∨ (aP n dp wt (y / 3 ^ e) a).2.2 d2 = false := q
      clear q
      generalize (aP n dp wt (y / 3 ^ e) a).2.2 d1 = b1 at q' ⊢
      generalize (aP n dp wt (y / 3 ^ e) a).2.2 d2 = b2 at q' ⊢
      cases b1 <;> cases b2
      · exact ⟨_, _, _, _, _, _, _, _, rfl⟩
      · exact ⟨_, _, _, _, _, _, _, _, rfl⟩
      · exact ⟨_, _, _, _, _, _, _, _, rfl⟩
      · exact absurd q' (by decide)
    · have q1 : (aP n dp wt (y / 3 ^ e) a).2.2 d1 ≠ false := fun r => q (Or.inl r)
      have q2 : (aP n dp wt (y / 3 ^ e) a).2.2 d2 ≠ false := fun r => q (Or.inr r)
      rw [if_neg q, if_neg q1, if_neg q2, if_pos (show (0 : Int32) + 0 ≤ 0 by decide), show (3 : Int32) = nI 3 from rfl, pk_div (by omega) (by omega) (by omega), nI_1, ← tl_mod e y]
      refine ih (k + 1) f (y % 3 ^ e) _ _ _ _ _ _ _ at1 has1 mv1 (by omega) (by omega) (Nat.mod_lt _ hpp) (fun e' he => ?_) (aP_ok hwk ha) hp1
      rw [he, Nat.pow_succ, Nat.mul_div_cancel _ (by omega)]
theorem ml_ahead {n dp d1 d2 many y : Nat} {wt : Nat → Nat} {leaks wants pa ho : Nat → Int32} {a : AS} {pi : Nat → Nat} (hwk : wOK n dp wt) (hwt : ∀ d, d < n → wants d = nI (wt d)) (hd1 : d1 < n) (hd2 : d2 < n) (hmany : many ≤ 10) (hy : y < 3 ^ many) (ha : aOK n dp a) (hm : mR n pi a pa ho leaks) (at_ has moved : Nat → Int32) :
    ∃ r1 r2 r3 r4 r5 r6 r7 r8, f_X12_aheadBy (nI n) (nI dp) (nI (sbit n a.2.2)) at_ pa has ho moved leaks wants (nI d1) (nI d2) (nI y) (nI many) = some (ahI (Hd n dp wt d1 d2 (tl many y) a), r1, r2, r3, r4, r5, r6, r7, r8) := by
  obtain ⟨at1, has1, e1, h1⟩ := ml_lay hwk.2.1 (nI (sbit n a.2.2)) at_ pa has ho leaks hm
  unfold f_X12_aheadBy
  rw [e1, Option.bind_some]
  have key : ∀ (d k fu : Nat) (dn dr le du ti : Int32) (at_ has moved : Nat → Int32), k + d = many → d < fu → 1 ≤ k → f_X12_aheadBy_10 fu (nI d1) (nI d2) (nI y) (nI many) (nI (3 ^ (k - 1))) (nI k) (nI n) (nI dp) dn dr le du ti at_ has moved leaks wants = f_X12_aheadBy_35 fuel (nI d1) (nI d2) (nI many) (nI (3 ^ (many - 1))) (nI y) 0 (nI n) (nI dp) dn dr le du ti at_ has moved leaks wants := by
    intro d
    induction d with
    | zero =>
      intro k fu dn dr le du ti at_ has moved hk hf h1
      obtain ⟨f, rfl⟩ : ∃ f, fu = f + 1 := ⟨fu - 1, by omega⟩
      obtain rfl : k = many := by omega
      rw [f_X12_aheadBy_10, if_pos (nI_le (by omega) (by omega))]
    | succ d ih =>
      intro k fu dn dr le du ti at_ has moved hk hf h1
      obtain ⟨f, rfl⟩ : ∃ f, fu = f + 1 := ⟨fu - 1, by omega⟩
      rw [f_X12_aheadBy_10, if_neg (nI_ge (by omega) (by omega)), show (3 : Int32) = nI 3 from rfl, pk_mul, nI_1, ← Nat.pow_succ, show (k - 1).succ = k + 1 - 1 by omega]
      exact ih (k + 1) f dn dr le du ti at_ has moved (by omega) (by omega) (by omega)
  cases many with
  | zero =>
    obtain ⟨f, hf⟩ : ∃ f, fuel = f + 1 := ⟨fuel - 1, by rw [fuel_eq]⟩
    have e2 : ∀ (dn dr le du ti : Int32) (at_ has moved : Nat → Int32), f_X12_aheadBy_10 fuel (nI d1) (nI d2) (nI y) (nI 0) 1 1 (nI n) (nI dp) dn dr le du ti at_ has moved leaks wants = f_X12_aheadBy_35 fuel (nI d1) (nI d2) (nI 0) 1 (nI y) 0 (nI n) (nI dp) dn dr le du ti at_ has moved leaks wants := by
      intro dn dr le du ti at_ has moved
      rw [hf, f_X12_aheadBy_10, if_pos (show nI 0 ≤ 1 by decide), hf]
    rw [e2]
    exact ml_ahead_35 hwk hwt hd1 hd2 (by omega) 0 0 fuel y 0 0 0 0 1 a pi at1 has1 moved rfl (fuel_big (by omega)) hy (fun e' h => by omega) ha h1
  | succ many =>
    have e2 := key many 1 fuel (nI (sbit n a.2.2)) 0 0 0 0 at1 has1 moved (by omega) (fuel_big (by omega)) (by omega)
    have e3 : f_X12_aheadBy_10 fuel (nI d1) (nI d2) (nI y) (nI (many + 1)) 1 1 (nI n) (nI dp) (nI (sbit n a.2.2)) 0 0 0 0 at1 has1 moved leaks wants = _ := e2
    rw [e3]
    exact ml_ahead_35 hwk hwt hd1 hd2 hmany (many + 1) 0 fuel y 0 0 0 0 _ a pi at1 has1 moved (by omega) (fuel_big (by omega)) hy (fun e' h => by
      obtain rfl : many = e' := by omega
      rfl) ha h1
def Wv (n dp : Nat) (wt : Nat → Nat) (d1 d2 m : Nat) (a : AS) (many x : Nat) : Nat := Gv n dp wt d1 d2 (m - many) (many % 2) (tl many x) a
theorem Wv_lt {n dp : Nat} {wt : Nat → Nat} {d1 d2 m : Nat} {a : AS} (many x : Nat) : Wv n dp wt d1 d2 m a many x < 3 := Gv_lt (by omega) _ _
theorem bestOf_ok : ∀ who, who < 2 → ∀ x, x < 3 → ∀ y, y < 3 → ∀ z, z < 3 → (if nI x = nI who then some (nI who) else (if nI y = nI who then some (nI who) else (if nI z = nI who then some (nI who) else (if nI x = (2 : Int32) then some (2 : Int32) else (if nI y = (2 : Int32) then some 2 else (if nI z = (2 : Int32) then some 2 else some (1 - nI who))))))) = some (nI (bestN who x y z)) := by decide +kernel
theorem ml_bestOf {who x y z : Nat} (hw : who < 2) (hx : x < 3) (hy : y < 3) (hz : z < 3) : f_X12_bestOf (nI who) (nI x) (nI y) (nI z) = some (nI (bestN who x y z)) := by
  unfold f_X12_bestOf f_X12_bestOf_34
  exact bestOf_ok who hw x hx y hy z hz
