/-! the widow -/
noncomputable def one (P : Prop) : Nat := @ite Nat P (Classical.propDecidable P) 1 0
theorem one_t {P : Prop} (h : P) : one P = 1 := @if_pos P (Classical.propDecidable P) h _ _ _
theorem one_f {P : Prop} (h : ¬ P) : one P = 0 := @if_neg P (Classical.propDecidable P) h _ _ _
theorem one_iff {P Q : Prop} (h : P ↔ Q) : one P = one Q := by rw [propext h]
noncomputable def Uw (n dp : Nat) (wt : Nat → Nat) (D : Nat → Bool) (p r : Nat) : Nat → AS → Nat
  | 0, a => one (srv n D a)
  | m + 1, a => p * Uw n dp wt D p r m (aP n dp wt 0 a) + r * Uw n dp wt D p r m (aP n dp wt 1 a)
theorem srv_next {n dp how : Nat} {wt : Nat → Nat} {D : Nat → Bool} {a : AS} (h : srv n D a) : srv n D (aP n dp wt how a) := fun i hi hd => aP_served (h i hi hd)
theorem Uw_srv {n dp : Nat} {wt : Nat → Nat} {D : Nat → Bool} {p r : Nat} : ∀ (m : Nat) {a : AS}, srv n D a → Uw n dp wt D p r m a = (p + r) ^ m
  | 0, _, h => by rw [Uw, one_t h, Nat.pow_zero]
  | m + 1, _, h => by rw [Uw, Uw_srv m (srv_next h), Uw_srv m (srv_next h), ← Nat.add_mul, Nat.pow_succ, Nat.mul_comm]
theorem Uw_le {n dp : Nat} {wt : Nat → Nat} {D : Nat → Bool} {p r : Nat} : ∀ (m : Nat) (a : AS), Uw n dp wt D p r m a ≤ (p + r) ^ m
  | 0, a => by
    rw [Uw, Nat.pow_zero]
    by_cases h : srv n D a
    · rw [one_t h]; exact Nat.le_refl _
    · rw [one_f h]; omega
  | m + 1, a => by
    rw [Uw, Nat.pow_succ, Nat.mul_comm ((p + r) ^ m), Nat.add_mul]
    exact Nat.add_le_add (Nat.mul_le_mul_left _ (Uw_le m _)) (Nat.mul_le_mul_left _ (Uw_le m _))
theorem pw12 {q m : Nat} (hq : q ≤ 10) (hm : m ≤ 12) : q ^ m ≤ 10 ^ 12 := Nat.le_trans (Nat.pow_le_pow_left hq m) (Nat.pow_le_pow_right (by omega) hm)
theorem cl_ways {n dp : Nat} {wt : Nat → Nat} {D : Nat → Bool} {p r : Nat} {pw : Nat → Int64} (hw : wOK n dp wt) (hp : p ≤ 10) (hr : r ≤ 10) (hpw : ∀ i, i ≤ 12 → pw i = lN ((p + r) ^ i)) : ∀ (d l : Nat) (a : AS), l < d → l ≤ 12 → aOK n dp a → f_X9_ways d (mask D) (nI p) (nI r) (nI n) (nI dp) (v9 wt) pw (w9 a.1 a.2.2) (v9 a.2.1) (nI l) = some (lN (Uw n dp wt D p r l a)) := by
  intro d
  induction d with
  | zero => intro l a h; exact absurd h (Nat.not_lt_zero l)
  | succ d ih =>
    intro l a hl hl12 ha
    show g_X9_ways (f_X9_ways d) (mask D) (nI p) (nI r) (nI n) (nI dp) (v9 wt) pw (w9 a.1 a.2.2) (v9 a.2.1) (nI l) = _
    unfold g_X9_ways
    rw [if_neg (nI_pos (by omega)), if_neg (show ¬ (12 : Int32) < nI l from nI_nlt (a := 12) hl12 (by omega))]
    by_cases hs : srv n D a
    · rw [if_pos ((lg0 _ _).mpr ((srv_mask hw ha).mpr hs)), if_neg (nI_in (by omega) (by omega)), nI_clamp (by omega), hpw l hl12, Uw_srv l hs]
    · rw [if_neg (fun q => hs ((srv_mask hw ha).mp ((lg0 _ _).mp q)))]
      cases l with
      | zero => rw [if_pos (show nI 0 = 0 from rfl), Uw, one_f hs]; rfl
      | succ l =>
        rw [if_neg (nI_ne0 (by omega) (by omega))]
        have step : ∀ (g kk w s : Nat), kk < 2 → w ≤ 10 → f_X9_ways_75 (f_X9_ways d) (f_X9_ways_53 (f_X9_ways d) g) (w9 a.1 a.2.2) (v9 a.2.1) (nI (l + 1)) (lN s) (nI kk) (nI w) (mask D) (nI p) (nI r) (nI n) (nI dp) (v9 wt) pw = f_X9_ways_53 (f_X9_ways d) g (w9 a.1 a.2.2) (v9 a.2.1) (nI (l + 1)) (lN (s + w * Uw n dp wt D p r l (aP n dp wt kk a))) (nI (kk + 1)) (mask D) (nI p) (nI r) (nI n) (nI dp) (v9 wt) pw := by
          intro g kk w s hk hw10
          unfold f_X9_ways_75 f_X9_ways_144
          by_cases w0 : w = 0
          · rw [if_pos (show nI w ≤ 0 from nI_le (b := 0) (by omega) (by omega)), w0, Nat.zero_mul, nI_1]; rfl
          · rw [if_neg (show ¬ nI w ≤ 0 from nI_ge (a := 0) (by omega) (by omega)), if_neg (nI_in (by omega) (by omega)), nI_clamp (by omega), cl_leaks (wt := wt) hw ha, Option.bind_some, if_neg (gin (by omega) (by omega)), cl_wheel hw ha, Option.bind_some, cl_step hw ha, Option.bind_some, nI_p1, ih l _ (by omega) (by omega) (aP_ok hw ha), Option.bind_some, nI_l (by omega), lN_mul, lN_add, nI_1]
        obtain ⟨f, hf⟩ : ∃ f, fuel = f + 3 := ⟨fuel - 3, by rw [fuel_eq]⟩
        have s0 := step (f + 2) 0 p 0 (by omega) hp
        have s1 := step (f + 1) 1 r (0 + p * Uw n dp wt D p r l (aP n dp wt 0 a)) (by omega) hr
        rw [hf, f_X9_ways_53, if_neg (show ¬ (2 : Int32) ≤ 0 by decide), if_pos rfl]
        have s0' : f_X9_ways_75 (f_X9_ways d) (f_X9_ways_53 (f_X9_ways d) (f + 2)) (w9 a.1 a.2.2) (v9 a.2.1) (nI (l + 1)) 0 0 (nI p) (mask D) (nI p) (nI r) (nI n) (nI dp) (v9 wt) pw = _ := s0
        rw [s0', show f + 2 = (f + 1) + 1 by omega, f_X9_ways_53, if_neg (show ¬ (2 : Int32) ≤ nI (0 + 1) by decide), if_neg (show ¬ nI (0 + 1) = 0 by decide)]
        have s1' : f_X9_ways_75 (f_X9_ways d) (f_X9_ways_53 (f_X9_ways d) (f + 1)) (w9 a.1 a.2.2) (v9 a.2.1) (nI (l + 1)) (lN (0 + p * Uw n dp wt D p r l (aP n dp wt 0 a))) (nI (0 + 1)) (nI r) (mask D) (nI p) (nI r) (nI n) (nI dp) (v9 wt) pw = _ := s1
        rw [s1', f_X9_ways_53, if_pos (show (2 : Int32) ≤ nI (1 + 1) by decide), Nat.zero_add, Uw]
theorem euc {b r : Nat} (h0 : 0 < r) (hr : r < b) : 2 * (b % r) < b := by
  rcases Nat.lt_or_ge (2 * r) b with h | h
  · have := Nat.mod_lt b h0; omega
  · rw [Nat.mod_eq_sub_mod (by omega)]
    have := Nat.mod_le (b - r) r
    rcases Nat.lt_or_ge (b - r) r with h2 | h2
    · rw [Nat.mod_eq_of_lt h2]; omega
    · have e : b - r = r := by omega
      rw [e, Nat.mod_self]; omega
theorem gcd_step (a b : Nat) : Nat.gcd a b = Nat.gcd b (a % b) := by rw [Nat.gcd_comm a b, Nat.gcd_rec b a, Nat.gcd_comm]
theorem cl_gcd : ∀ (j a b k fu : Nat), b < 2 ^ j → a < 2 ^ 63 → b < 2 ^ 63 → k + 2 * j ≤ 200 → 2 * j + 1 < fu → f_X9_commonDivisor_9 fu (lN a) (lN b) (nI k) = some (lN (Nat.gcd a b)) := by
  intro j
  have zero : ∀ (a k fu : Nat), 0 < fu → f_X9_commonDivisor_9 fu (lN a) (lN 0) (nI k) = some (lN (Nat.gcd a 0)) := by
    intro a k fu hf
    obtain ⟨f, rfl⟩ : ∃ f, fu = f + 1 := ⟨fu - 1, by omega⟩
    rw [f_X9_commonDivisor_9, if_pos (show lg_cmp (lN 0) 0 = 0 from (lg0 _ _).mpr rfl), ite_self, Nat.gcd_zero_right]
  induction j with
  | zero =>
    intro a b k fu h1 h2 h3 h4 h5
    obtain rfl : b = 0 := by omega
    exact zero a k fu (by omega)
  | succ j ih =>
    intro a b k fu h1 h2 h3 h4 h5
    by_cases b0 : b = 0
    · subst b0; exact zero a k fu (by omega)
    · obtain ⟨f, rfl⟩ : ∃ f, fu = f + 2 := ⟨fu - 2, by omega⟩
      have hlt := Nat.mod_lt a (show 0 < b by omega)
      rw [f_X9_commonDivisor_9, if_neg (show ¬ (200 : Int32) ≤ nI k from nI_ge (b := 200) (by omega) (by omega)), if_neg (fun q => b0 ((lN0 h3).mp ((lg0 _ _).mp q))), if_neg (fun q => b0 ((lN0 h3).mp q)), pk_lRem h2 (by omega) h3, nI_1, gcd_step a b]
      by_cases r0 : a % b = 0
      · rw [r0]; exact zero b (k + 1) (f + 1) (by omega)
      · have h6 := euc (b := b) (r := a % b) (by omega) hlt
        have h7 := Nat.mod_lt b (show 0 < a % b by omega)
        rw [f_X9_commonDivisor_9, if_neg (show ¬ (200 : Int32) ≤ nI (k + 1) from nI_ge (b := 200) (by omega) (by omega)), if_neg (fun q => r0 ((lN0 (by omega)).mp ((lg0 _ _).mp q))), if_neg (fun q => r0 ((lN0 (by omega)).mp q)), pk_lRem h3 (by omega) (by omega), nI_1, gcd_step b (a % b)]
        exact ih (a % b) (b % (a % b)) (k + 1 + 1) f (by rw [Nat.pow_succ] at h1; omega) (by omega) (by omega) (by omega) (by omega)
theorem cl_widow {n dp : Nat} {wt : Nat → Nat} {D : Nat → Bool} {p q m : Nat} {a : AS} (pw : Nat → Int64) (hw : wOK n dp wt) (ha : aOK n dp a) (hp : p ≤ q) (hq1 : 1 ≤ q) (hq : q ≤ 10) (hm : m ≤ 12) : ∃ pw', f_X9_look (nI n) (nI dp) (w9 a.1 a.2.2) (v9 a.2.1) (v9 wt) pw (nI m) (nI p) (nI q) (mask D) = some (mask D, nI p, nI (q - p), lN (Uw n dp wt D p (q - p) m a / Nat.gcd (Uw n dp wt D p (q - p) m a) (q ^ m)), lN (q ^ m / Nat.gcd (Uw n dp wt D p (q - p) m a) (q ^ m)), pw') := by
  have key : ∀ (d k fu : Nat) (pw : Nat → Int64), k + d = 13 → d < fu → 1 ≤ k → (∀ i, i < k → pw i = lN (q ^ i)) → ∃ pw', f_X9_look_34 fu (nI m) (nI q) (nI k) (mask D) (nI p) (nI (q - p)) (nI n) (nI dp) (w9 a.1 a.2.2) (v9 a.2.1) (v9 wt) pw = some (mask D, nI p, nI (q - p), lN (Uw n dp wt D p (q - p) m a / Nat.gcd (Uw n dp wt D p (q - p) m a) (q ^ m)), lN (q ^ m / Nat.gcd (Uw n dp wt D p (q - p) m a) (q ^ m)), pw') := by
    intro d
    induction d with
    | zero =>
      intro k fu pw hk hf h1 hh
      obtain ⟨f, rfl⟩ : ∃ f, fu = f + 1 := ⟨fu - 1, by omega⟩
      have hU := Uw_le (n := n) (dp := dp) (wt := wt) (D := D) (p := p) (r := q - p) m a
      rw [show p + (q - p) = q by omega] at hU
      have h12 := pw12 hq hm
      have hQ : 0 < q ^ m := Nat.pow_pos (by omega)
      have b40 : (10 : Nat) ^ 12 < 2 ^ 40 := by decide
      have b63 : (2 : Nat) ^ 40 < 2 ^ 63 := by decide
      refine ⟨pw, ?_⟩
      rw [f_X9_look_34, if_pos (show (12 : Int32) < nI k from nI_lt (a := 12) (by omega) (by omega)), cl_ways hw (by omega) (by omega) (fun i hi => by rw [hh i (by omega), show p + (q - p) = q by omega]) 20 m a (by omega) hm ha, Option.bind_some, if_neg (nI_pos (by omega)), if_pos (show nI m ≤ 12 from nI_le (b := 12) hm (by omega)), if_neg (nI_in (by omega) (by omega)), nI_clamp (by omega), hh m (by omega)]
      unfold f_X9_look_105 f_X9_commonDivisor
      generalize Uw n dp wt D p (q - p) m a = U at *
      generalize q ^ m = Q at *
      have hg : f_X9_commonDivisor_9 fuel (lN U) (lN Q) 0 = some (lN (Nat.gcd U Q)) := cl_gcd 40 U Q 0 fuel (by omega) (by omega) (by omega) (by omega) (fuel_big (by omega))
      have hgp : 0 < Nat.gcd U Q := Nat.gcd_pos_of_pos_right U hQ
      have hgl : Nat.gcd U Q ≤ Q := Nat.gcd_le_right U hQ
      rw [hg, Option.bind_some]
      by_cases g1 : Nat.gcd U Q = 1
      · rw [g1, if_pos (show lg_cmp (lN 1) 1 ≤ 0 by rw [(lg0 (lN 1) 1).mpr rfl]; decide), Nat.div_one, Nat.div_one]
      · have c1 : ¬ lg_cmp (lN (Nat.gcd U Q)) 1 ≤ 0 := by
          have hlt : (1 : Int64) < lN (Nat.gcd U Q) := (pk_lLT (a := 1) (by omega) (by omega)).mpr (by omega)
          unfold lg_cmp
          rw [if_pos hlt]
          decide
        rw [if_neg c1, if_neg (fun e => by have := (lN0 (by omega)).mp e; omega), if_neg (fun e => by have := (lN0 (by omega)).mp e; omega), pk_lDiv (by omega) hgp (by omega), pk_lDiv (by omega) hgp (by omega)]
    | succ d ih =>
      intro k fu pw hk hf h1 hh
      obtain ⟨f, rfl⟩ : ∃ f, fu = f + 1 := ⟨fu - 1, by omega⟩
      obtain ⟨k', rfl⟩ : ∃ k', k = k' + 1 := ⟨k - 1, by omega⟩
      rw [f_X9_look_34, if_neg (show ¬ (12 : Int32) < nI (k' + 1) from nI_nlt (a := 12) (by omega) (by omega)), nI_p1, if_neg (nI_in (by omega) (by omega)), if_neg (nI_in (by omega) (by omega)), nI_clamp (by omega), nI_clamp (by omega), nI_1, hh k' (by omega), nI_l (by omega), lN_mul, ← Nat.pow_succ]
      exact ih (k' + 1 + 1) f _ (by omega) (by omega) (by omega) (fun i hi => by
        by_cases e : i = k' + 1
        · subst e; rw [pk_uLs]
        · rw [pk_uLn e]; exact hh i (by omega))
  unfold f_X9_look
  rw [if_neg (show ¬ ((0 : Int32) < 0 ∨ 13 ≤ (0 : Int32).toNatClampNeg) from nI_in (c := 0) (by omega) (by omega)), show (0 : Int32).toNatClampNeg = 0 from nI_clamp (n := 0) (by omega), pk_sub hp]
  exact key 12 1 fuel _ (by omega) (fuel_big (by omega)) (by omega) (fun i hi => by
    obtain rfl : i = 0 := by omega
    rw [pk_uLs]; rfl)
