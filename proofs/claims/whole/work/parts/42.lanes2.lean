/-! reading lanes and flags -/
theorem m5 (k : Nat) : (5 : Int32) * nI k = nI (5 * k) := by rw [show (5 : Int32) = nI 5 from rfl, pk_mul]
theorem lg0 (x y : Int64) : lg_cmp x y = 0 ↔ x = y := by
  unfold lg_cmp
  by_cases h1 : x > y
  · rw [if_pos h1]
    constructor
    · intro h; exact absurd h (by decide)
    · intro h; subst h; exact absurd h1 Int64.lt_irrefl
  · rw [if_neg h1]
    by_cases h2 : x = y
    · rw [if_pos h2]; simp [h2]
    · rw [if_neg h2]
      constructor
      · intro h; exact absurd h (by decide)
      · intro h; exact absurd h h2
theorem lN0 {a : Nat} (h : a < 2 ^ 63) : lN a = 0 ↔ a = 0 := by
  rw [show (0 : Int64) = lN 0 from rfl, fb_lN_inj h (by decide)]
theorem pow32_lt {k : Nat} (h : k < 9) : 32 ^ k ≤ 2 ^ 40 := by
  rw [show (2 : Nat) ^ 40 = 32 ^ 8 by decide]
  exact Nat.pow_le_pow_right (by omega) (by omega)
theorem c_lane {lev : Nat → Nat} (th : Nat → Bool) {k : Nat} (hl : ∀ k, lev k < 16) (hk : k < 9) : f_X11_lane (w9 lev th) (nI k) = some (nI (lev k)) := by
  unfold f_X11_lane
  have hu := u9_lt (th := th) hl
  rw [m5, wb_shr (Nat.lt_trans (pak_lt64 hu) (by decide)) (show 5 * k < 64 by omega), p5, show (15 : Int64) = lN (2 ^ 4 - 1) from rfl, fb_maskL, lN_i]
  have e := pak_divi k (9 - k) hu
  rw [show 9 - k + k = 9 by omega] at e
  obtain ⟨m, hm⟩ : ∃ m, 9 - k = m + 1 := ⟨9 - k - 1, by omega⟩
  rw [e, hm, pak_s]
  have h1 := hl k
  have h2 : (u9 lev th (0 + k) + 32 * pak m fun k_1 => u9 lev th (k_1 + 1 + k)) % 2 ^ 4 = lev k := by
    rw [Nat.zero_add]
    simp only [u9]
    by_cases q : th k = true
    · rw [if_pos q]; omega
    · rw [if_neg q]; omega
  rw [h2]
theorem v9_w9 {f : Nat → Nat} : v9 f = w9 f (fun _ => false) := v9_congr (fun k _ => by simp [u9])
theorem c_laneV {f : Nat → Nat} {k : Nat} (hl : ∀ k, f k < 16) (hk : k < 9) : f_X11_lane (v9 f) (nI k) = some (nI (f k)) := by
  rw [v9_w9, c_lane _ hl hk]
theorem c_turnedV {n : Nat} {f : Nat → Nat} (how : Nat) (h3 : 3 ≤ n) (h9 : n ≤ 9) (hl : ∀ k, f k < 16) (hz : ∀ k, n ≤ k → f k = 0) : f_X1_turned (nI n) (v9 f) (mvI how) = some (v9 (rot n how f)) := by
  rw [v9_w9, c_turned _ how h3 h9 hl hz, ← v9_w9]
theorem c_flag {k : Nat} (hk : k < 9) : f_X11_flag (nI k) = some (v9 (fun j => if j = k then 16 else 0)) := by
  unfold f_X11_flag
  rw [m5, show (16 : Int64) = lN 16 from rfl, wb_shl 16 (show 5 * k < 64 by omega), p5, v9_one k 16 hk]
theorem fl_lt (k c : Nat) (hc : c < 32) (j : Nat) : (if j = k then c else 0) < 32 := by by_cases h : j = k <;> simp [h, hc]
theorem w9_flag {lev : Nat → Nat} {th : Nat → Bool} {k : Nat} (hl : ∀ k, lev k < 16) (hk : k < 9) : w9 lev th &&& v9 (fun j => if j = k then 16 else 0) = 0 ↔ th k = false := by
  rw [v9_and (u9_lt hl) (fl_lt k 16 (by omega)), v9_congr (v := fun j => if j = k then (if th k then 16 else 0) else 0) (fun j _ => by
    by_cases h : j = k
    · subst h
      rw [if_pos rfl, if_pos rfl]
      exact ln_a16 _ (hl j) _
    · rw [if_neg h, if_neg h, Nat.and_zero]), ← v9_one k _ hk, lN0]
  · cases th k
    · simp
    · have : 0 < 32 ^ k := Nat.pow_pos (by omega)
      simp
      omega
  · have := pow32_lt hk
    have h16 : (if th k then 16 else 0) ≤ 16 := by cases th k <;> simp
    calc (if th k then 16 else 0) * 32 ^ k ≤ 16 * 2 ^ 40 := Nat.mul_le_mul h16 this
      _ < 2 ^ 63 := by decide
/-- the DOORS that are served, as bits -/
def sbit : Nat → (Nat → Bool) → Nat
  | 0, _ => 0
  | k + 1, th => sbit k th + (if th k then 0 else 2 ^ k)
theorem sbit_lt : ∀ (n : Nat) (th : Nat → Bool), sbit n th < 2 ^ n
  | 0, _ => by simp [sbit]
  | n + 1, th => by
    have := sbit_lt n th
    simp only [sbit]
    have h2 : 2 ^ (n + 1) = 2 ^ n + 2 ^ n := by rw [Nat.pow_succ]; omega
    cases th n
    · rw [if_neg (by decide)]; omega
    · rw [if_pos rfl]; omega
theorem shl1 {k : Nat} (h : k < 31) : (1 : Int32) <<< (nI k &&& 31) = nI (2 ^ k) := by
  have := pk_shlN (n := 1) (nI k &&& 31) k (s_l k (by omega)) (by
    rw [Nat.one_mul]
    exact Nat.pow_lt_pow_right (by omega) (by omega))
  rw [Nat.one_mul] at this
  exact this
theorem or_pow {a k : Nat} (h : a < 2 ^ k) : nI a ||| nI (2 ^ k) = nI (a + 2 ^ k) := by
  have e := Nat.two_pow_add_eq_or_of_lt h 1
  rw [Nat.mul_one] at e
  rw [fa_or, Nat.or_comm, ← e, Nat.add_comm]
theorem c_servedBits_5 {lev : Nat → Nat} {th : Nat → Bool} {n : Nat} (hl : ∀ k, lev k < 16) (h9 : n ≤ 9) : ∀ (d k fu : Nat), k + d = n → d < fu → f_X1_servedBits_5 fu (w9 lev th) (nI (sbit k th)) (nI k) (nI n) = some (nI (sbit n th)) := by
  intro d
  induction d with
  | zero =>
    intro k fu hk hf
    obtain ⟨m, rfl⟩ : ∃ m, fu = m + 1 := ⟨fu - 1, by omega⟩
    rw [f_X1_servedBits_5, if_pos ((nI_leI (by omega) (by omega)).mpr (by omega)), show k = n by omega]
  | succ d ih =>
    intro k fu hk hf
    obtain ⟨m, rfl⟩ : ∃ m, fu = m + 1 := ⟨fu - 1, by omega⟩
    rw [f_X1_servedBits_5, if_neg (fun h => by have := (nI_leI (by omega) (by omega)).mp h; omega), c_flag (by omega)]
    simp only [Option.bind_some]
    have e : ∀ a, f_X1_servedBits_33 (f_X1_servedBits_5 m) (w9 lev th) a (nI k) (nI n) = f_X1_servedBits_5 m (w9 lev th) a (nI (k + 1)) (nI n) := fun a => by unfold f_X1_servedBits_33; rw [nI_1]
    by_cases ht : th k = true
    · rw [if_neg (fun h => by have := (w9_flag hl (by omega)).mp ((lg0 _ _).mp h); rw [ht] at this; cases this), e]
      have h2 := ih (k + 1) m (by omega) (by omega)
      rwa [sbit, if_pos ht, Nat.add_zero] at h2
    · have hf' : th k = false := by cases h : th k <;> simp_all
      rw [if_pos ((lg0 _ _).mpr ((w9_flag hl (by omega)).mpr hf')), e, shl1 (by omega), or_pow (sbit_lt k th)]
      have h2 := ih (k + 1) m (by omega) (by omega)
      rwa [sbit, if_neg ht] at h2
theorem fuel_big {a : Nat} (h : a < 1000000) : a < fuel := by rw [fuel_eq]; exact h
theorem c_servedBits {lev : Nat → Nat} {th : Nat → Bool} {n : Nat} (hl : ∀ k, lev k < 16) (h9 : n ≤ 9) : f_X1_servedBits (nI n) (w9 lev th) = some (nI (sbit n th)) := by
  unfold f_X1_servedBits
  exact c_servedBits_5 hl h9 n 0 fuel (by omega) (fuel_big (by omega))
/-- the sum of all levels -/
def lsum : Nat → (Nat → Nat) → Nat
  | 0, _ => 0
  | k + 1, f => lsum k f + f k
theorem c_sum_4 {lev : Nat → Nat} {th : Nat → Bool} (hl : ∀ k, lev k < 16) : ∀ (d k fu : Nat), k + d = 9 → d < fu → f_X11_sum_4 fu (w9 lev th) (nI (lsum k lev)) (nI k) = some (nI (lsum 9 lev)) := by
  intro d
  induction d with
  | zero =>
    intro k fu hk hf
    obtain ⟨m, rfl⟩ : ∃ m, fu = m + 1 := ⟨fu - 1, by omega⟩
    rw [f_X11_sum_4, if_pos (show (9 : Int32) ≤ nI k from nI_le (a := 9) (by omega) (by omega)), show k = 9 by omega]
  | succ d ih =>
    intro k fu hk hf
    obtain ⟨m, rfl⟩ : ∃ m, fu = m + 1 := ⟨fu - 1, by omega⟩
    rw [f_X11_sum_4, if_neg (show ¬ (9 : Int32) ≤ nI k from nI_ge (b := 9) (by omega) (by omega)), c_lane th hl (by omega)]
    simp only [Option.bind_some]
    rw [nI_add, nI_1]
    exact ih (k + 1) m (by omega) (by omega)
theorem c_sum {lev : Nat → Nat} {th : Nat → Bool} (hl : ∀ k, lev k < 16) : f_X11_sum (w9 lev th) = some (nI (lsum 9 lev)) := by
  unfold f_X11_sum
  exact c_sum_4 hl 9 0 fuel (by omega) (fuel_big (by omega))
