/-! HUNG: orders by numbers -/
def hg_dg (n x p : Nat) : Nat := x / n ^ (n - 1 - p) % n
def hg_cd (n : Nat) (τ : Nat → Nat) : Nat → Nat
  | 0 => 0
  | k + 1 => hg_cd n τ k * n + τ k
theorem hg_cd_s (n : Nat) (τ : Nat → Nat) (k : Nat) : hg_cd n τ (k + 1) = hg_cd n τ k * n + τ k := rfl
theorem hg_cd_congr {n : Nat} {σ τ : Nat → Nat} : ∀ (k : Nat), (∀ p, p < k → σ p = τ p) → hg_cd n σ k = hg_cd n τ k
  | 0, _ => rfl
  | k + 1, h => by rw [hg_cd_s, hg_cd_s, hg_cd_congr k (fun p hp => h p (by omega)), h k (by omega)]
theorem hg_dm {n u v : Nat} (hv : v < n) : (u * n + v) / n = u ∧ (u * n + v) % n = v := by
  constructor
  · rw [Nat.add_comm, Nat.add_mul_div_right _ _ (by omega), Nat.div_eq_of_lt hv, Nat.zero_add]
  · rw [Nat.add_comm, Nat.add_mul_mod_self_right, Nat.mod_eq_of_lt hv]
theorem hg_cd_div {n : Nat} {τ : Nat → Nat} (k : Nat) : ∀ (j : Nat), (∀ p, p < k + j → τ p < n) → hg_cd n τ (k + j) / n ^ j = hg_cd n τ k
  | 0, _ => by rw [Nat.pow_zero, Nat.div_one]; rfl
  | j + 1, h => by
    rw [show k + (j + 1) = (k + j) + 1 by omega, hg_cd_s, Nat.pow_succ, Nat.mul_comm (n ^ j) n, ← Nat.div_div_eq_div_mul, (hg_dm (h (k + j) (by omega))).1]
    exact hg_cd_div k j (fun p hp => h p (by omega))
theorem hg_cd_lt {n : Nat} {τ : Nat → Nat} : ∀ (k : Nat), (∀ p, p < k → τ p < n) → hg_cd n τ k < n ^ k
  | 0, _ => by rw [Nat.pow_zero]; exact Nat.zero_lt_one
  | k + 1, h => by
    have h1 := hg_cd_lt k (fun p hp => h p (by omega))
    have h2 := h k (by omega)
    rw [hg_cd_s, Nat.pow_succ]
    have h3 : (hg_cd n τ k + 1) * n ≤ n ^ k * n := Nat.mul_le_mul_right n h1
    rw [Nat.add_mul, Nat.one_mul] at h3
    omega
theorem hg_dg_cd {n : Nat} {τ : Nat → Nat} (h : ∀ p, p < n → τ p < n) {p : Nat} (hp : p < n) : hg_dg n (hg_cd n τ n) p = τ p := by
  unfold hg_dg
  have e := hg_cd_div (n := n) (τ := τ) (p + 1) (n - 1 - p) (fun q hq => h q (by omega))
  rw [show p + 1 + (n - 1 - p) = n by omega] at e
  rw [e, hg_cd_s, (hg_dm (h p hp)).2]
theorem hg_dg_lt {n x p : Nat} (h0 : 0 < n) : hg_dg n x p < n := Nat.mod_lt _ h0
theorem hg_pre {n x : Nat} (hx : x < n ^ n) : ∀ (k : Nat), k ≤ n → x / n ^ (n - k) = hg_cd n (hg_dg n x) k
  | 0, _ => by rw [Nat.sub_zero, Nat.div_eq_of_lt hx]; rfl
  | k + 1, h => by
    have ih := hg_pre hx k (by omega)
    have e : n ^ (n - k) = n ^ (n - (k + 1)) * n := by rw [← Nat.pow_succ, show (n - (k + 1)).succ = n - k by omega]
    rw [hg_cd_s, ← ih, e, ← Nat.div_div_eq_div_mul]
    unfold hg_dg
    rw [show n - 1 - k = n - (k + 1) by omega]
    have h1 := Nat.div_add_mod (x / n ^ (n - (k + 1))) n
    rw [Nat.mul_comm] at h1
    exact h1.symm
theorem hg_cd_inj {n : Nat} {σ τ : Nat → Nat} : ∀ (k : Nat), (∀ p, p < k → σ p < n) → (∀ p, p < k → τ p < n) → hg_cd n σ k = hg_cd n τ k → ∀ p, p < k → σ p = τ p
  | 0, _, _, _, p, hp => absurd hp (Nat.not_lt_zero p)
  | k + 1, h1, h2, e, p, hp => by
    rw [hg_cd_s, hg_cd_s] at e
    obtain ⟨a1, a2⟩ := hg_dm (u := hg_cd n σ k) (h1 k (by omega))
    obtain ⟨b1, b2⟩ := hg_dm (u := hg_cd n τ k) (h2 k (by omega))
    by_cases q : p = k
    · rw [q, ← a2, e, b2]
    · refine hg_cd_inj k (fun p hp => h1 p (by omega)) (fun p hp => h2 p (by omega)) ?_ p (by omega)
      rw [← a1, e, b1]
/-- a number's digits, by where it lies -/
theorem hg_range {n x k j : Nat} {σ : Nat → Nat} (hk : k < n) (hσ : ∀ p, p < k → σ p < n) (hj : j < n) (hx : x < n ^ n) (h1 : (hg_cd n σ k * n + j) * n ^ (n - (k + 1)) ≤ x) (h2 : x < (hg_cd n σ k * n + j + 1) * n ^ (n - (k + 1))) : (∀ p, p < k → hg_dg n x p = σ p) ∧ hg_dg n x k = j := by
  have e := hg_pre hx (k + 1) (by omega)
  rw [Nat.div_eq_of_lt_le h1 h2] at e
  have e2 : hg_cd n (fun p => if p = k then j else σ p) (k + 1) = hg_cd n (hg_dg n x) (k + 1) := by
    rw [← e, hg_cd_s, if_pos rfl, hg_cd_congr k (τ := σ) (fun p hp => if_neg (by omega))]
  have hi := hg_cd_inj (k + 1) (fun p hp => by
    by_cases q : p = k
    · rw [if_pos q]; exact hj
    · rw [if_neg q]; exact hσ p (by omega)) (fun p _ => hg_dg_lt (by omega)) e2
  refine ⟨fun p hp => ?_, ?_⟩
  · have := hi p (by omega)
    rw [if_neg (show ¬ p = k by omega)] at this
    exact this.symm
  · have := hi k (by omega)
    rw [if_pos rfl] at this
    exact this.symm
/-- the wheel with its pails hung in another order -/
def hg_lk (n t : Nat) (a : AS) (i : Nat) : Nat := a.2.1 ((i + t) % n)
def hg_st (n t dp : Nat) (a : AS) (σ : Nat → Nat) : AS := (fun p => if p = 0 then dp else 0, fun p => if p < n then hg_lk n t a (σ p) else 0, a.2.2)
theorem hg_st_eq {n t dp : Nat} {a : AS} {σ τ : Nat → Nat} (h : ∀ p, p < n → hg_lk n t a (σ p) = hg_lk n t a (τ p)) : hg_st n t dp a σ = hg_st n t dp a τ := by
  unfold hg_st
  have e : (fun p => if p < n then hg_lk n t a (σ p) else 0) = (fun p => if p < n then hg_lk n t a (τ p) else 0) := funext fun p => by
    by_cases q : p < n
    · rw [if_pos q, if_pos q, h p q]
    · rw [if_neg q, if_neg q]
  rw [e]
theorem hg_ok {n t dp : Nat} {wt : Nat → Nat} {a : AS} (hw : wOK n dp wt) (ha : aOK n dp a) (σ : Nat → Nat) : aOK n dp (hg_st n t dp a σ) := by
  obtain ⟨a1, a2, a3, a4, a5⟩ := ha
  have h3 := hw.1
  refine ⟨fun k => ?_, fun k hk => ?_, fun k => ?_, fun k hk => ?_, a5⟩
  · show (if k = 0 then dp else 0) ≤ dp
    split <;> omega
  · show (if k = 0 then dp else 0) = 0
    rw [if_neg (by omega)]
  · show (if k < n then hg_lk n t a (σ k) else 0) ≤ 9
    by_cases q : k < n
    · rw [if_pos q]; exact a3 _
    · rw [if_neg q]; omega
  · show (if k < n then hg_lk n t a (σ k) else 0) = 0
    rw [if_neg (by omega)]
def hg_r (n t dp : Nat) (wt : Nat → Nat) (a : AS) (x m : Nat) : Prop := ∃ y, y < 2 ^ m ∧ rowS n dp wt (fun _ => true) (hg_st n t dp a (hg_dg n x)) m y
def hg_bd : Option Nat → Nat
  | none => 9
  | some b => b
def hg_b : Option Nat → Int32
  | none => -6
  | some b => nI b
/-- the best of the orders before N -/
def hg_S (n t dp : Nat) (wt : Nat → Nat) (a : AS) (N : Nat) (o : Option Nat) (ord : Nat → Int32) : Prop := (∀ x, x < N → PM n (hg_dg n x) → ∀ m, m < hg_bd o → ¬ hg_r n t dp wt a x m) ∧ ∀ b, o = some b → b < 9 ∧ ∃ x0, x0 < N ∧ PM n (hg_dg n x0) ∧ hg_r n t dp wt a x0 b ∧ (∀ p, p < n → ord p = nI (hg_dg n x0 p)) ∧ ∀ x, x < x0 → PM n (hg_dg n x) → ∀ m, m ≤ b → ¬ hg_r n t dp wt a x m
theorem hg_bd9 {n t dp N : Nat} {wt : Nat → Nat} {a : AS} {o : Option Nat} {ord : Nat → Int32} (h : hg_S n t dp wt a N o ord) : hg_bd o ≤ 9 := by
  cases o with
  | none => exact Nat.le_refl _
  | some b => exact Nat.le_of_lt (h.2 b rfl).1
theorem hg_jump {n t dp N N' : Nat} {wt : Nat → Nat} {a : AS} {o : Option Nat} {ord : Nat → Int32} (h : hg_S n t dp wt a N o ord) (hN : N ≤ N') (hj : ∀ x, N ≤ x → x < N' → PM n (hg_dg n x) → ∀ m, m < hg_bd o → ¬ hg_r n t dp wt a x m) : hg_S n t dp wt a N' o ord := by
  obtain ⟨h1, h2⟩ := h
  refine ⟨fun x hx hP m hm => ?_, fun b hb => ?_⟩
  · rcases Nat.lt_or_ge x N with q | q
    · exact h1 x q hP m hm
    · exact hj x q hx hP m hm
  · obtain ⟨b1, x0, x1, x2, x3, x4, x5⟩ := h2 b hb
    exact ⟨b1, x0, by omega, x2, x3, x4, x5⟩
theorem hg_none {n t dp N : Nat} {wt : Nat → Nat} {a : AS} {o : Option Nat} {ord : Nat → Int32} (h : hg_S n t dp wt a N o ord) (hF : isF n dp wt (fun _ => true) (hg_bd o) (hg_st n t dp a (hg_dg n N)) none) : hg_S n t dp wt a (N + 1) o ord :=
  hg_jump h (Nat.le_succ N) (fun x h1 h2 _ m hm ⟨y, y1, y2⟩ => by
    obtain rfl : x = N := by omega
    exact hF m y hm y1 y2)
theorem hg_some {n t dp N m y : Nat} {wt : Nat → Nat} {a : AS} {o : Option Nat} {ord ord' : Nat → Int32} (h : hg_S n t dp wt a N o ord) (hP : PM n (hg_dg n N)) (hF : isF n dp wt (fun _ => true) (hg_bd o) (hg_st n t dp a (hg_dg n N)) (some (m, y))) (ho : ∀ p, p < n → ord' p = nI (hg_dg n N p)) : hg_S n t dp wt a (N + 1) (some m) ord' := by
  have h9 := hg_bd9 h
  obtain ⟨f1, f2, f3, f4, f5⟩ := hF
  refine ⟨fun x hx hPx m' hm' => ?_, fun b hb => ?_⟩
  · have hm2 : m' < m := hm'
    rcases Nat.lt_or_ge x N with q | q
    · exact h.1 x q hPx m' (by omega)
    · obtain rfl : x = N := by omega
      rintro ⟨y', y1, y2⟩
      exact f4 m' y' hm2 y1 y2
  · cases hb
    exact ⟨by omega, N, by omega, hP, ⟨y, f2, f3⟩, ho, fun x hx hPx m' hm' => h.1 x hx hPx m' (by omega)⟩
theorem hg_uniq {n t dp N : Nat} {wt : Nat → Nat} {a : AS} {o o' : Option Nat} {ord ord' : Nat → Int32} (h : hg_S n t dp wt a N o ord) (h' : hg_S n t dp wt a N o' ord') : o = o' ∧ ∀ b, o = some b → ∀ p, p < n → ord p = ord' p := by
  cases o with
  | none =>
    cases o' with
    | none => exact ⟨rfl, fun b hb => by cases hb⟩
    | some b =>
      obtain ⟨b1, x0, x1, x2, x3, -⟩ := h'.2 b rfl
      exact absurd x3 (h.1 x0 x1 x2 b b1)
  | some b =>
    obtain ⟨b1, x0, x1, x2, x3, x4, x5⟩ := h.2 b rfl
    cases o' with
    | none => exact absurd x3 (h'.1 x0 x1 x2 b b1)
    | some b' =>
      obtain ⟨b1', y0, y1, y2, y3, y4, y5⟩ := h'.2 b' rfl
      have e : b = b' := by
        rcases Nat.lt_trichotomy b b' with q | q | q
        · exact absurd x3 (h'.1 x0 x1 x2 b q)
        · exact q
        · exact absurd y3 (h.1 y0 y1 y2 b' q)
      subst e
      have e2 : x0 = y0 := by
        rcases Nat.lt_trichotomy x0 y0 with q | q | q
        · exact absurd x3 (y5 x0 q x2 b (Nat.le_refl _))
        · exact q
        · exact absurd y3 (x5 y0 q y2 b (Nat.le_refl _))
      subst e2
      exact ⟨rfl, fun b _ p hp => by rw [x4 p hp, y4 p hp]⟩
theorem PM.cong {n : Nat} {σ τ : Nat → Nat} (h : PM n σ) (e : ∀ p, p < n → σ p = τ p) : PM n τ :=
  ⟨fun p hp => by rw [← e p hp]; exact h.1 p hp, fun p q hp hq r => h.2 p q hp hq (by rw [e p hp, e q hq]; exact r)⟩
/-- a pail that hangs already -/
theorem hg_dup {n x k j p0 : Nat} {σ : Nat → Nat} (hk : k < n) (hσ : ∀ p, p < k → σ p < n) (hj : j < n) (hx : x < n ^ n) (h1 : (hg_cd n σ k * n + j) * n ^ (n - (k + 1)) ≤ x) (h2 : x < (hg_cd n σ k * n + j + 1) * n ^ (n - (k + 1))) (hp : p0 < k) (he : σ p0 = j) : ¬ PM n (hg_dg n x) := fun hP => by
  obtain ⟨d1, d2⟩ := hg_range hk hσ hj hx h1 h2
  have := hP.2 p0 k (by omega) hk (by rw [d1 p0 hp, d2, he])
  omega
/-- two pails that leak alike: the order with the first one ahead comes before -/
theorem hg_twin {n t dp x k i j : Nat} {a : AS} {σ : Nat → Nat} (hk : k < n) (hσ : ∀ p, p < k → σ p < n) (hi : i < j) (hj : j < n) (ui : ∀ p, p < k → σ p ≠ i) (uj : ∀ p, p < k → σ p ≠ j) (hl : hg_lk n t a i = hg_lk n t a j) (hx : x < n ^ n) (h1 : (hg_cd n σ k * n + j) * n ^ (n - (k + 1)) ≤ x) (h2 : x < (hg_cd n σ k * n + j + 1) * n ^ (n - (k + 1))) (hP : PM n (hg_dg n x)) : ∃ x', x' < (hg_cd n σ k * n + j) * n ^ (n - (k + 1)) ∧ PM n (hg_dg n x') ∧ hg_st n t dp a (hg_dg n x') = hg_st n t dp a (hg_dg n x) := by
  obtain ⟨d1, d2⟩ := hg_range hk hσ hj hx h1 h2
  have hsw : ∃ sw : Nat → Nat, sw = fun v => if v = i then j else if v = j then i else v := ⟨_, rfl⟩
  obtain ⟨sw, hsw⟩ := hsw
  have s1 : sw i = j := by rw [hsw]; exact if_pos rfl
  have s2 : sw j = i := by rw [hsw]; show (if j = i then j else if j = j then i else j) = i; rw [if_neg (by omega), if_pos rfl]
  have s3 : ∀ v, v ≠ i → v ≠ j → sw v = v := fun v q1 q2 => by rw [hsw]; show (if v = i then j else if v = j then i else v) = v; rw [if_neg q1, if_neg q2]
  have s4 : ∀ v, sw (sw v) = v := fun v => by
    by_cases q1 : v = i
    · rw [q1, s1, s2]
    · by_cases q2 : v = j
      · rw [q2, s2, s1]
      · rw [s3 v q1 q2, s3 v q1 q2]
  have s5 : ∀ v, v < n → sw v < n := fun v hv => by
    by_cases q1 : v = i
    · rw [q1, s1]; exact hj
    · by_cases q2 : v = j
      · rw [q2, s2]; omega
      · rw [s3 v q1 q2]; exact hv
  have s6 : ∀ v, hg_lk n t a (sw v) = hg_lk n t a v := fun v => by
    by_cases q1 : v = i
    · rw [q1, s1, hl]
    · by_cases q2 : v = j
      · rw [q2, s2, hl]
      · rw [s3 v q1 q2]
  have hτ : ∀ p, p < n → sw (hg_dg n x p) < n := fun p hp => s5 _ (hP.1 p hp)
  have hdg : ∀ p, p < n → hg_dg n (hg_cd n (fun p => sw (hg_dg n x p)) n) p = sw (hg_dg n x p) := fun p hp => hg_dg_cd (τ := fun p => sw (hg_dg n x p)) hτ hp
  refine ⟨hg_cd n (fun p => sw (hg_dg n x p)) n, ?_, ?_, ?_⟩
  · have e := hg_cd_div (n := n) (τ := fun p => sw (hg_dg n x p)) (k + 1) (n - (k + 1)) (fun q hq => hτ q (by omega))
    rw [show k + 1 + (n - (k + 1)) = n by omega] at e
    rw [← Nat.div_lt_iff_lt_mul (Nat.pow_pos (by omega)), e, hg_cd_s, d2, s2, hg_cd_congr k (τ := σ) (fun p hp => by
      show sw (hg_dg n x p) = σ p
      rw [d1 p hp]; exact s3 _ (ui p hp) (uj p hp))]
    omega
  · refine PM.cong (σ := fun p => sw (hg_dg n x p)) ⟨hτ, fun p q hp hq e => hP.2 p q hp hq ?_⟩ (fun p hp => (hdg p hp).symm)
    have := congrArg sw e
    rwa [s4, s4] at this
  · exact hg_st_eq (fun p hp => by rw [hdg p hp]; exact s6 _)
