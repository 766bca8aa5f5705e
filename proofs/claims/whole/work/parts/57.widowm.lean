/-! the reference's widow -/
def wg (p r : Nat) : Nat → Nat → Nat
  | 0, _ => 1
  | k + 1, y => wg p r k y * (if y / 2 ^ k % 2 = 0 then p else r)
theorem wg_up {p r : Nat} : ∀ (k m y : Nat), k ≤ m → wg p r k (2 ^ m + y) = wg p r k y
  | 0, _, _, _ => rfl
  | k + 1, m, y, h => by
    rw [wg, wg, wg_up k m y (by omega)]
    have hp : 0 < 2 ^ k := Nat.pow_pos (by omega)
    have e : (2 ^ m + y) / 2 ^ k % 2 = y / 2 ^ k % 2 := by
      rw [wb_pw (show k ≤ m by omega), Nat.mul_add_div hp, show m - k = (m - k - 1) + 1 by omega, Nat.pow_succ]
      omega
    rw [e]
theorem wg_s0 {p r m y : Nat} (h : y < 2 ^ m) : wg p r (m + 1) y = p * wg p r m y := by
  rw [wg, Nat.div_eq_of_lt h, if_pos rfl, Nat.mul_comm]
theorem wg_s1 {p r m y : Nat} (h : y < 2 ^ m) : wg p r (m + 1) (2 ^ m + y) = r * wg p r m y := by
  have hp : 0 < 2 ^ m := Nat.pow_pos (by omega)
  rw [wg, wg_up m m y (Nat.le_refl _), Nat.add_div_left _ hp, Nat.div_eq_of_lt h, if_neg (by decide), Nat.mul_comm]
theorem sm_mul (c : Nat) (f : Nat → Nat) : ∀ n, fb_sm (fun k => c * f k) n = c * fb_sm f n
  | 0 => rfl
  | n + 1 => by rw [fb_sm_succ, fb_sm_succ, sm_mul c f n, Nat.mul_add]
theorem wg_all (p r : Nat) : ∀ m, fb_sm (wg p r m) (2 ^ m) = (p + r) ^ m
  | 0 => rfl
  | m + 1 => by
    rw [Nat.pow_succ, Nat.mul_comm (2 ^ m) 2, Nat.two_mul, fb_sm_split, fb_sm_cong (fun k hk => wg_s0 hk), fb_sm_cong (f := fun k => wg p r (m + 1) (2 ^ m + k)) (fun k hk => wg_s1 hk), sm_mul, sm_mul, wg_all p r m, ← Nat.add_mul, Nat.pow_succ, Nat.mul_comm]
theorem wg_some {n dp : Nat} {wt : Nat → Nat} {D : Nat → Bool} (p r : Nat) : ∀ (m : Nat) (a : AS), fb_sm (fun y => wg p r m y * one (rowS n dp wt D a m y)) (2 ^ m) = Uw n dp wt D p r m a
  | 0, a => by
    show 0 + 1 * one (rowS n dp wt D a 0 0) = _
    rw [Nat.zero_add, Nat.one_mul, Uw]
    exact one_iff rowS_0
  | m + 1, a => by
    have g0 : ∀ k, k < 2 ^ m → wg p r (m + 1) k * one (rowS n dp wt D a (m + 1) k) = p * (wg p r m k * one (rowS n dp wt D (aP n dp wt 0 a) m k)) := fun k hk => by
      have h := rowS_s (n := n) (dp := dp) (wt := wt) (D := D) (a := a) (b := 0) hk (by omega)
      rw [Nat.zero_mul, Nat.zero_add] at h
      rw [wg_s0 hk, one_iff h, Nat.mul_assoc]
    have g1 : ∀ k, k < 2 ^ m → wg p r (m + 1) (2 ^ m + k) * one (rowS n dp wt D a (m + 1) (2 ^ m + k)) = r * (wg p r m k * one (rowS n dp wt D (aP n dp wt 1 a) m k)) := fun k hk => by
      have h := rowS_s (n := n) (dp := dp) (wt := wt) (D := D) (a := a) (b := 1) hk (by omega)
      rw [Nat.one_mul] at h
      rw [wg_s1 hk, one_iff h, Nat.mul_assoc]
    rw [Nat.pow_succ, Nat.mul_comm (2 ^ m) 2, Nat.two_mul, fb_sm_split, fb_sm_cong g0, fb_sm_cong (f := fun k => wg p r (m + 1) (2 ^ m + k) * one (rowS n dp wt D a (m + 1) (2 ^ m + k))) g1, sm_mul, sm_mul, wg_some p r m, wg_some p r m, Uw]
theorem ml_gcd {S Tt part : Nat} (dn dr le du ti : Int32) (at_ has moved : Nat → Int32) (hS : S < 2 ^ 63) (hT : Tt < 2 ^ 63) (hpart : part < 2) : ∀ (j a b fu : Nat), b < 2 ^ j → a < 2 ^ 63 → b < 2 ^ 63 → 0 < Nat.gcd a b → 2 * j + 1 < fu → f_X12_widow_202 fu (nI part) (lN S) (lN Tt) (lN a) (lN b) dn dr le du ti at_ has moved = some (lN ((if part = 0 then S else Tt) / Nat.gcd a b), dn, dr, le, du, ti, at_, has, moved) := by
  intro j
  have zero : ∀ (a fu : Nat), 0 < fu → a < 2 ^ 63 → 0 < a → f_X12_widow_202 fu (nI part) (lN S) (lN Tt) (lN a) (lN 0) dn dr le du ti at_ has moved = some (lN ((if part = 0 then S else Tt) / Nat.gcd a 0), dn, dr, le, du, ti, at_, has, moved) := by
    intro a fu hf ha h0
    obtain ⟨f, rfl⟩ : ∃ f, fu = f + 1 := ⟨fu - 1, by omega⟩
    have hn : ¬ lN a = 0 := fun q => by have := (lN0 ha).mp q; omega
    rw [f_X12_widow_202, if_pos (show lg_cmp (lN 0) 0 = 0 from (lg0 _ _).mpr rfl), if_neg hn, if_neg hn, Nat.gcd_zero_right, pk_lDiv hS h0 ha, pk_lDiv hT h0 ha]
    by_cases q : part = 0
    · rw [if_pos (show nI part = 0 by rw [q]; rfl), if_pos q]
    · rw [if_neg (nI_ne0 (by omega) (by omega)), if_neg q]
  induction j with
  | zero =>
    intro a b fu h1 h2 h3 h4 h5
    obtain rfl : b = 0 := by omega
    rw [Nat.gcd_zero_right] at h4
    exact zero a fu (by omega) h2 h4
  | succ j ih =>
    intro a b fu h1 h2 h3 h4 h5
    by_cases b0 : b = 0
    · subst b0
      rw [Nat.gcd_zero_right] at h4
      exact zero a fu (by omega) h2 h4
    · obtain ⟨f, rfl⟩ : ∃ f, fu = f + 2 := ⟨fu - 2, by omega⟩
      have hlt := Nat.mod_lt a (show 0 < b by omega)
      rw [gcd_step a b] at h4
      rw [f_X12_widow_202, if_neg (fun q => b0 ((lN0 h3).mp ((lg0 _ _).mp q))), if_neg (fun q => b0 ((lN0 h3).mp q)), pk_lRem h2 (by omega) h3, gcd_step a b]
      by_cases r0 : a % b = 0
      · rw [r0]; exact zero b (f + 1) (by omega) h3 (by omega)
      · have h6 := euc (b := b) (r := a % b) (by omega) hlt
        have h7 := Nat.mod_lt b (show 0 < a % b by omega)
        rw [gcd_step b (a % b)] at h4
        rw [f_X12_widow_202, if_neg (fun q => r0 ((lN0 (by omega)).mp ((lg0 _ _).mp q))), if_neg (fun q => r0 ((lN0 (by omega)).mp q)), pk_lRem h3 (by omega) (by omega), gcd_step b (a % b)]
        exact ih (a % b) (b % (a % b)) f (by rw [Nat.pow_succ] at h1; omega) (by omega) (by omega) h4 (by omega)
theorem ml_wd_111 {n dp p q m y : Nat} {wt : Nat → Nat} {D : Nat → Bool} {a : AS} {pi : Nat → Nat} {leaks wants pa ho : Nat → Int32} (k97) (x5 : Int32) (S Tt : Nat) (hwk : wOK n dp wt) (hwt : ∀ d, d < n → wants d = nI (wt d)) (ha : aOK n dp a) (hm : mR n pi a pa ho leaks) (hp : p ≤ q) (hq : q ≤ 10) (hm12 : m ≤ 12) (hy : y < 2 ^ m) (at_ has moved : Nat → Int32) : ∀ (d k fu : Nat), k + d = m → d < fu →
    ∃ r1 r2 r3 r4 r5 r6 r7 r8, f_X12_widow_111 k97 fu (nI m) (nI p) (nI q) x5 (nI (sbit n (fun j => !D j))) (lN S) (lN Tt) (nI y) (lN (wg p (q - p) k y)) (nI k) (nI n) (nI dp) (nI (sbit n a.2.2)) at_ pa has ho moved leaks wants = k97 (nI m) (nI p) (nI q) x5 (nI (sbit n (fun j => !D j))) (lN (S + wg p (q - p) m y * one (rowS n dp wt D a m y))) (lN (Tt + wg p (q - p) m y)) (nI (y + 1)) (nI n) (nI dp) (nI (sbit n a.2.2)) r1 r2 r3 r4 r5 r6 pa r7 ho r8 leaks wants := by
  have h2m : 2 ^ m ≤ 2 ^ 12 := Nat.pow_le_pow_right (by omega) hm12
  intro d
  induction d with
  | zero =>
    intro k fu hk hf
    obtain ⟨f, rfl⟩ : ∃ f, fu = f + 1 := ⟨fu - 1, by omega⟩
    obtain rfl : k = m := by omega
    obtain ⟨at1, has1, e1, h1⟩ := ml_lay hwk.2.1 (nI (sbit n a.2.2)) at_ pa has ho leaks hm
    obtain ⟨D', L', K', T', at2, has2, mv2, e2⟩ := ml_goBits (y := y) (m := k) moved hwk hwt (by omega) (by omega) ha h1
    have hs : (nI (sbit n (aRun n dp wt (bl k y) a).2.2) &&& nI (sbit n (fun j => !D j)) = nI (sbit n (fun j => !D j))) ↔ rowS n dp wt D a k y := by
      rw [bits_all _ _ hwk.2.1]
      unfold rowS srv
      constructor
      · intro h i hi hd; exact h i hi (by rw [hd]; rfl)
      · intro h i hi hd; exact h i hi (by simpa using hd)
    rw [f_X12_widow_111, if_pos (nI_le (by omega) (by omega)), e1, Option.bind_some, e2, Option.bind_some]
    unfold f_X12_widow_185
    rw [lN_add, lN_add, nI_1]
    by_cases r : rowS n dp wt D a k y
    · rw [if_pos (hs.mpr r), one_t r, Nat.mul_one]
      exact ⟨_, _, _, _, _, _, _, _, rfl⟩
    · rw [if_neg (fun q => r (hs.mp q)), one_f r, Nat.mul_zero, show (0 : Int64) = lN 0 from rfl, lN_add]
      exact ⟨_, _, _, _, _, _, _, _, rfl⟩
  | succ d ih =>
    intro k fu hk hf
    obtain ⟨f, rfl⟩ : ∃ f, fu = f + 1 := ⟨fu - 1, by omega⟩
    have hb : y / 2 ^ k % 2 < 2 := Nat.mod_lt _ (by omega)
    rw [f_X12_widow_111, if_neg (nI_ge (by omega) (by omega)), bit_of (by omega) (by omega)]
    unfold f_X12_widow_138
    rw [nI_l (by omega), pk_sub hp, nI_l (by omega), lN_mul, lN_mul, nI_1]
    have i1 := ih (k + 1) f (by omega) (by omega)
    by_cases b0 : y / 2 ^ k % 2 = 0
    · rw [if_pos (show nI (y / 2 ^ k % 2) = 0 by rw [b0]; rfl)]
      rw [wg, if_pos b0] at i1
      exact i1
    · rw [if_neg (nI_ne0 (by omega) (by omega))]
      rw [wg, if_neg b0] at i1
      exact i1
theorem ml_widow {n dp p q m part : Nat} {wt : Nat → Nat} {D : Nat → Bool} {a : AS} {pi : Nat → Nat} {leaks wants pa ho : Nat → Int32} (hwk : wOK n dp wt) (hwt : ∀ d, d < n → wants d = nI (wt d)) (ha : aOK n dp a) (hm : mR n pi a pa ho leaks) (hp : p ≤ q) (hq1 : 1 ≤ q) (hq : q ≤ 10) (hm12 : m ≤ 12) (hpart : part < 2) (dn dr le du ti : Int32) (at_ has moved : Nat → Int32) :
    ∃ r, f_X12_widow_86 (nI m) (nI p) (nI q) (nI part) (nI (sbit n (fun j => !D j))) (nI n) (nI dp) (nI (sbit n a.2.2)) dn dr le du ti at_ pa has ho moved leaks wants = some (lN ((if part = 0 then Uw n dp wt D p (q - p) m a else q ^ m) / Nat.gcd (Uw n dp wt D p (q - p) m a) (q ^ m)), r) := by
  have h2m : 2 ^ m ≤ 2 ^ 12 := Nat.pow_le_pow_right (by omega) hm12
  have key : ∀ (d y fu : Nat) (dn dr le du ti : Int32) (at_ has moved : Nat → Int32), y + d = 2 ^ m → d < fu → ∃ r, f_X12_widow_97 fu (nI m) (nI p) (nI q) (nI part) (nI (sbit n (fun j => !D j))) (lN (fb_sm (fun y => wg p (q - p) m y * one (rowS n dp wt D a m y)) y)) (lN (fb_sm (wg p (q - p) m) y)) (nI y) (nI n) (nI dp) (nI (sbit n a.2.2)) dn dr le du ti at_ pa has ho moved leaks wants = some (lN ((if part = 0 then Uw n dp wt D p (q - p) m a else q ^ m) / Nat.gcd (Uw n dp wt D p (q - p) m a) (q ^ m)), r) := by
    intro d
    induction d with
    | zero =>
      intro y fu dn dr le du ti at_ has moved hy hf
      obtain ⟨f, rfl⟩ : ∃ f, fu = f + 1 := ⟨fu - 1, by omega⟩
      obtain rfl : y = 2 ^ m := by omega
      have hU := Uw_le (n := n) (dp := dp) (wt := wt) (D := D) (p := p) (r := q - p) m a
      rw [show p + (q - p) = q by omega] at hU
      have h12 := pw12 hq hm12
      have hQ : 0 < q ^ m := Nat.pow_pos (by omega)
      have b40 : (10 : Nat) ^ 12 < 2 ^ 40 := by decide
      have b63 : (2 : Nat) ^ 40 < 2 ^ 63 := by decide
      rw [f_X12_widow_97, shl1 (by omega), if_pos (nI_le (by omega) (by omega)), wg_some, wg_all, show p + (q - p) = q by omega]
      exact ⟨_, ml_gcd dn dr le du ti at_ has moved (by omega) (by omega) hpart 40 _ _ fuel (by omega) (by omega) (by omega) (Nat.gcd_pos_of_pos_right _ hQ) (fuel_big (by omega))⟩
    | succ d ih =>
      intro y fu dn dr le du ti at_ has moved hy hf
      obtain ⟨f, rfl⟩ : ∃ f, fu = f + 1 := ⟨fu - 1, by omega⟩
      obtain ⟨r1, r2, r3, r4, r5, r6, r7, r8, e1⟩ := ml_wd_111 (D := D) (f_X12_widow_97 f) (nI part) (fb_sm (fun y => wg p (q - p) m y * one (rowS n dp wt D a m y)) y) (fb_sm (wg p (q - p) m) y) hwk hwt ha hm hp hq hm12 (show y < 2 ^ m by omega) at_ has moved m 0 fuel (by omega) (fuel_big (by omega))
      have e1' : f_X12_widow_111 (f_X12_widow_97 f) fuel (nI m) (nI p) (nI q) (nI part) (nI (sbit n (fun j => !D j))) (lN (fb_sm (fun y => wg p (q - p) m y * one (rowS n dp wt D a m y)) y)) (lN (fb_sm (wg p (q - p) m) y)) (nI y) 1 0 (nI n) (nI dp) (nI (sbit n a.2.2)) at_ pa has ho moved leaks wants = _ := e1
      rw [f_X12_widow_97, shl1 (by omega), if_neg (nI_ge (by omega) (by omega)), e1']
      exact ih (y + 1) f r1 r2 r3 r4 r5 r6 r7 r8 (by omega) (by omega)
  unfold f_X12_widow_86
  exact key (2 ^ m) 0 fuel dn dr le du ti at_ has moved (by omega) (fuel_big (by omega))
