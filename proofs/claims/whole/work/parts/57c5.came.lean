theorem cl_came {n dp : Nat} {wt : Nat → Nat} {c m : Nat} {bh dr : Nat → Nat} {sv : Nat → Bool} {a : AS} {b d s : Nat → Int32} (hw : wOK n dp wt) (ha : aOK n dp a) (hm : m ≤ 10) (hc : c ≤ 6) (hS : ∀ i, i < c → b i = nI (bh i) ∧ bh i ≤ 10 ∧ d i = nI (dr i) ∧ dr i < n ∧ s i = z01 (sv i)) (could row first : Nat → Int32) (nd nl br : Nat → Int64) : ∃ fd could' nd' nl' br' row' first', f_X0_look (nI n) (nI dp) (w9 a.1 a.2.2) (v9 a.2.1) (v9 wt) (nI c) could nd nl br b s d row first (nI m) = some (nI m, nI (ct n dp wt c bh dr sv m 0 a), fd, could', nd', nl', br', row', first') ∧ (∀ i, i < m → could' i = nI (sb3 (cd n dp wt c bh dr sv m 0 a i))) ∧ (0 < ct n dp wt c bh dr sv m 0 a → ∀ i, i < m → first' i = mvI (fi n dp wt c bh dr sv m 0 a i)) := by
  have key : ∀ (e i fu : Nat) (could : Nat → Int32), i + e = 10 → e < fu → (∀ j, j < i → could j = 0) → ∃ fd could' nd' nl' br' row' first', f_X0_look_18 fu (nI i) (nI m) 0 (nI n) (nI dp) (w9 a.1 a.2.2) (v9 a.2.1) (v9 wt) (nI c) could nd nl br b s d row first = some (nI m, nI (ct n dp wt c bh dr sv m 0 a), fd, could', nd', nl', br', row', first') ∧ (∀ i, i < m → could' i = nI (sb3 (cd n dp wt c bh dr sv m 0 a i))) ∧ (0 < ct n dp wt c bh dr sv m 0 a → ∀ i, i < m → first' i = mvI (fi n dp wt c bh dr sv m 0 a i)) := by
    intro e
    induction e with
    | zero =>
      intro i fu could hi hf hh
      obtain ⟨f, rfl⟩ : ∃ f, fu = f + 1 := ⟨fu - 1, by omega⟩
      obtain ⟨nd', nl', br', e1, hT⟩ := cl_read hw.2.1 hm hc hS nd nl br
      obtain ⟨could', row', first', e2, p1, p2, p3, p4, p5⟩ := cl_fitting hw hm (fun i hi => ⟨(hS i hi).2.2.2.1, (hS i hi).2.1⟩) hT 20 m 0 a false could row first (by omega) (by omega) ha
      have e2' : f_X0_fitting 20 (nI m) 0 (nI n) (nI dp) (v9 wt) nd' br' nl' could row first (w9 a.1 a.2.2) (v9 a.2.1) 0 = _ := e2
      rw [f_X0_look_18, if_pos (show (10 : Int32) ≤ nI i from nI_le (a := 10) (by omega) (by omega)), e1, Option.bind_some, e2', Option.bind_some]
      refine ⟨_, _, _, _, _, _, _, rfl, fun i hi => ?_, fun q i hi => ?_⟩
      · have := p2 i hi
        rw [Nat.zero_add, hh i (by omega)] at this
        have z : ∀ x : Int32, 0 ||| x = x := fun x => by
          apply b_ext
          intro j _
          rw [b_or, b_0, Bool.false_or]
        exact this.trans (z _)
      · have := (p5 rfl q).2 i hi
        rw [Nat.zero_add] at this
        exact this
    | succ e ih =>
      intro i fu could hi hf hh
      obtain ⟨f, rfl⟩ : ∃ f, fu = f + 1 := ⟨fu - 1, by omega⟩
      rw [f_X0_look_18, if_neg (show ¬ (10 : Int32) ≤ nI i from nI_ge (b := 10) (by omega) (by omega)), if_neg (nI_in (by omega) (by omega)), nI_clamp (by omega), nI_1]
      exact ih (i + 1) f _ (by omega) (by omega) (fun j hj => by
        by_cases e : j = i
        · subst e; rw [up_s]
        · rw [up_n e]; exact hh j (by omega))
  exact key 10 0 fuel could (by omega) (fuel_big (by omega)) (fun j hj => absurd hj (Nat.not_lt_zero j))
/-! the reference's rows -/
theorem ml_fitsAt {n c k : Nat} {bh dr : Nat → Nat} {sv : Nat → Bool} {a : AS} {mb md ms : Nat → Int32} (h9 : n ≤ 9) (hc : c ≤ 6) (hk : k ≤ 10) (hS : ∀ i, i < c → mb i = nI (bh i) ∧ bh i ≤ 10 ∧ md i = nI (dr i) ∧ dr i < n ∧ ms i = z01 (sv i)) : f_X12_fitsAt (nI c) (nI (sbit n a.2.2)) mb md ms (nI k) = some (z01 (fitAb bh dr sv k a c)) := by
  have key : ∀ (e i fu : Nat), i + e = c → e < fu → f_X12_fitsAt_4 fu (nI k) (z01 (fitAb bh dr sv k a i)) (nI i) (nI c) (nI (sbit n a.2.2)) mb md ms = some (z01 (fitAb bh dr sv k a c)) := by
    intro e
    induction e with
    | zero =>
      intro i fu hi hf
      obtain ⟨f, rfl⟩ : ∃ f, fu = f + 1 := ⟨fu - 1, by omega⟩
      obtain rfl : i = c := by omega
      rw [f_X12_fitsAt_4, if_pos (nI_le (by omega) (by omega)), if_neg (by cases fitAb bh dr sv k a i <;> simp [z01])]
    | succ e ih =>
      intro i fu hi hf
      obtain ⟨f, rfl⟩ : ∃ f, fu = f + 1 := ⟨fu - 1, by omega⟩
      obtain ⟨s1, s2, s3, s4, s5⟩ := hS i (by omega)
      have ih' := ih (i + 1) f (by omega) (by omega)
      rw [f_X12_fitsAt_4, if_neg (nI_ge (by omega) (by omega))]
      unfold f_X12_fitsAt_52 f_X12_fitsAt_48 f_X12_fitsAt_53
      rw [nI_1]
      cases hf1 : fitAb bh dr sv k a i with
      | false =>
        rw [if_pos (show z01 false = 0 from rfl)]
        rw [fitAb, hf1, Bool.false_and] at ih'
        exact ih'
      | true =>
        rw [fitAb, hf1, Bool.true_and] at ih'
        rw [if_neg (show ¬ z01 true = 0 by decide), if_neg (nI_in (by omega) (by omega)), nI_clamp (n := i) (by omega), s1, s3, s5, if_neg (gin (by omega) (by omega)), if_neg (gin (by omega) (by omega)), bit_ask _ h9 s4]
        by_cases q : bh i = k
        · rw [if_pos (by rw [q])]
          rw [decide_eq_true q] at ih'
          cases h1 : a.2.2 (dr i) <;> cases h2 : sv i <;> rw [h1, h2] at ih' <;> first
            | (rw [if_pos (by decide)]; exact ih')
            | (rw [if_neg (by decide)]; exact ih')
        · rw [if_neg (fun e => q ((nI_eq (by omega) (by omega)).mp e))]
          rw [decide_eq_false q] at ih'
          exact ih'
  exact key c 0 fuel (by omega) (fuel_big (by omega))
theorem ml_fits_20 {n dp c m : Nat} {wt bh dr : Nat → Nat} {sv : Nat → Bool} {mb md ms leaks wants : Nat → Int32} (hwk : wOK n dp wt) (hwt : ∀ d, d < n → wants d = nI (wt d)) (hc : c ≤ 6) (hm : m ≤ 10) (hS : ∀ i, i < c → mb i = nI (bh i) ∧ bh i ≤ 10 ∧ md i = nI (dr i) ∧ dr i < n ∧ ms i = z01 (sv i)) : ∀ (e k fu y D Lq K T : Nat) (a : AS) (pi : Nat → Nat) (at_ has moved : Nat → Int32), k + e = m → e < fu → y < 3 ^ e → aOK n dp a → mR n pi a at_ has leaks →
    ∃ r1 r2 r3 r4 r5 r6 r7 r8, f_X12_fits_20 fu (nI m) (nI (3 ^ e)) (nI y) (z01 (fitAb bh dr sv k a c)) (nI k) (nI n) (nI dp) (nI c) (nI (sbit n a.2.2)) (nI D) (nI Lq) (nI K) (nI T) at_ has mb md ms moved leaks wants = some (z01 (fitB n dp wt c bh dr sv k (tl e y) a), r1, r2, r3, r4, r5, r6, r7, r8) := by
  have h9 := hwk.2.1
  have nar : ∀ b : Bool, ¬ ¬ (z01 b = 0 ∨ z01 b = 1) := fun b => by cases b <;> simp [z01]
  intro e
  induction e with
  | zero =>
    intro k fu y D Lq K T a pi at_ has moved hk hf hy ha hmr
    obtain ⟨f, rfl⟩ : ∃ f, fu = f + 1 := ⟨fu - 1, by omega⟩
    rw [f_X12_fits_20, if_pos (nI_le (by omega) (by omega)), if_neg (nar _)]
    exact ⟨_, _, _, _, _, _, _, _, rfl⟩
  | succ e ih =>
    intro k fu y D Lq K T a pi at_ has moved hk hf hy ha hmr
    obtain ⟨f, rfl⟩ : ∃ f, fu = f + 1 := ⟨fu - 1, by omega⟩
    have hpp := pow3_pos e
    have hpl : 3 ^ e ≤ 59049 := pow3_le (by omega)
    have hpl2 : 3 ^ (e + 1) ≤ 59049 := pow3_le (by omega)
    have hdg := dig_lt hy
    rw [f_X12_fits_20, if_neg (nI_ge (by omega) (by omega)), tl, fitB, Nat.mod_eq_of_lt hdg]
    cases hf1 : fitAb bh dr sv k a c with
    | false =>
      rw [if_pos (show z01 false = 0 from rfl), if_neg (nar _)]
      exact ⟨_, _, _, _, _, _, _, _, rfl⟩
    | true =>
      obtain ⟨mv1, at1, has1, ep, hp1⟩ := ml_pull (D := D) (Lq := Lq) (K := K) (T := T) (moved := moved) hwk ha hdg hmr hwt
      have e3 : nI (3 ^ (e + 1)) / (3 : Int32) = nI (3 ^ e) := by
        rw [show (3 : Int32) = nI 3 from rfl, pk_div (by omega) (by omega) (by omega), Nat.pow_succ, Nat.mul_div_cancel _ (by omega)]
      rw [if_neg (show ¬ z01 true = 0 by decide), e3, if_neg (nI_ne0 hpp (by omega)), pk_rem (by omega) hpp (by omega), pk_div (by omega) hpp (by omega), ep, Option.bind_some, if_neg (nI_ne0 hpp (by omega)), nI_1, ml_fitsAt h9 hc (by omega) hS, Option.bind_some, Bool.true_and, ← tl_mod e y]
      exact ih (k + 1) f (y % 3 ^ e) _ _ _ _ _ _ at1 has1 mv1 (by omega) (by omega) (Nat.mod_lt _ hpp) (aP_ok hwk ha) hp1
theorem ml_fits {n dp c m y : Nat} {wt bh dr : Nat → Nat} {sv : Nat → Bool} {mb md ms leaks wants pa ho : Nat → Int32} {a : AS} {pi : Nat → Nat} (hwk : wOK n dp wt) (hwt : ∀ d, d < n → wants d = nI (wt d)) (hc : c ≤ 6) (hm : m ≤ 10) (hS : ∀ i, i < c → mb i = nI (bh i) ∧ bh i ≤ 10 ∧ md i = nI (dr i) ∧ dr i < n ∧ ms i = z01 (sv i)) (hy : y < 3 ^ m) (ha : aOK n dp a) (hmr : mR n pi a pa ho leaks) (at_ has moved : Nat → Int32) :
    ∃ r1 r2 r3 r4 r5 r6 r7 r8, f_X12_fits (nI n) (nI dp) (nI (sbit n a.2.2)) (nI c) at_ pa has ho mb md ms moved leaks wants (nI y) (nI m) (nI (3 ^ m)) = some (z01 (fitB n dp wt c bh dr sv 0 (tl m y) a), r1, r2, r3, r4, r5, r6, r7, r8) := by
  obtain ⟨at1, has1, e1, h1⟩ := ml_lay hwk.2.1 (nI (sbit n a.2.2)) at_ pa has ho leaks hmr
  have e0 : f_X12_fitsAt (nI c) (nI (sbit n a.2.2)) mb md ms 0 = some (z01 (fitAb bh dr sv 0 a c)) := ml_fitsAt (k := 0) hwk.2.1 hc (by omega) hS
  unfold f_X12_fits
  rw [e1, Option.bind_some, e0, Option.bind_some]
  exact ml_fits_20 hwk hwt hc hm hS m 0 fuel y 0 0 0 0 a pi at1 has1 moved (by omega) (fuel_big (by omega)) hy ha h1
theorem ml_rowsOf {m : Nat} (hm : m ≤ 10) : f_X12_rowsOf (nI m) = some (nI (3 ^ m)) := by
  have key : ∀ (d k fu : Nat), k + d = m → d < fu → f_X12_rowsOf_4 fu (nI m) (nI (3 ^ k)) (nI k) = some (nI (3 ^ m)) := by
    intro d
    induction d with
    | zero =>
      intro k fu hk hf
      obtain ⟨f, rfl⟩ : ∃ f, fu = f + 1 := ⟨fu - 1, by omega⟩
      obtain rfl : k = m := by omega
      rw [f_X12_rowsOf_4, if_pos (nI_le (by omega) (by omega))]
    | succ d ih =>
      intro k fu hk hf
      obtain ⟨f, rfl⟩ : ∃ f, fu = f + 1 := ⟨fu - 1, by omega⟩
      rw [f_X12_rowsOf_4, if_neg (nI_ge (by omega) (by omega)), show (3 : Int32) = nI 3 from rfl, pk_mul, nI_1, ← Nat.pow_succ]
      exact ih (k + 1) f (by omega) (by omega)
  exact key m 0 fuel (by omega) (fuel_big (by omega))
theorem ml_pullAt {m y i : Nat} (hm : m ≤ 10) (hi : i < m) (hy : y < 100000) : f_X12_pullAt (nI y) (nI i) (nI m) = some (nI (dg m y i)) := by
  have key : ∀ (d fu y : Nat), i + d < m → d < fu → y < 100000 → f_X12_pullAt_7 fu (nI i) (nI y) (nI (i + d)) = some (nI (y / 3 ^ d % 3)) := by
    intro d
    induction d with
    | zero =>
      intro fu y hk hf hy
      obtain ⟨f, rfl⟩ : ∃ f, fu = f + 1 := ⟨fu - 1, by omega⟩
      rw [f_X12_pullAt_7, if_pos (nI_le (by omega) (by omega)), show (3 : Int32) = nI 3 from rfl, pk_rem (by omega) (by omega) (by omega), Nat.pow_zero, Nat.div_one]
    | succ d ih =>
      intro fu y hk hf hy
      obtain ⟨f, rfl⟩ : ∃ f, fu = f + 1 := ⟨fu - 1, by omega⟩
      rw [f_X12_pullAt_7, if_neg (nI_ge (by omega) (by omega)), show (3 : Int32) = nI 3 from rfl, pk_div (by omega) (by omega) (by omega), nI_m1, show i + (d + 1) = (i + d) + 1 by omega, nI_p1, Nat.pow_succ, Nat.mul_comm, ← Nat.div_div_eq_div_mul]
      exact ih f (y / 3) (by omega) (by omega) (by omega)
  unfold f_X12_pullAt dg
  obtain ⟨m', rfl⟩ : ∃ m', m = m' + 1 := ⟨m - 1, by omega⟩
  have := key (m' - i) fuel y (by omega) (fuel_big (by omega)) hy
  rw [show i + (m' - i) = m' by omega] at this
  rw [nI_p1, this, show m' + 1 - 1 - i = m' - i by omega]
theorem sign_3 {b : Nat} (h : b < 3) : f_X12_signOf (nI b) = some (mvI b) := by
  have h2 : b = 0 ∨ b = 1 ∨ b = 2 := by omega
  rcases h2 with rfl | rfl | rfl <;> rfl
theorem dg_lt (L y i : Nat) : dg L y i < 3 := Nat.mod_lt _ (by omega)
