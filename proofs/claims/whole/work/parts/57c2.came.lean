/-! the class's tables of sights -/
def NdF (m : Nat) (bh dr : Nat → Nat) (sv : Nat → Bool) (want : Bool) : Nat → Nat → Nat → Bool
  | 0, _, _ => false
  | i + 1, k, d => NdF m bh dr sv want i k d || (decide (sv i = want) && decide (bh i ≤ m) && decide (bh i = k) && decide (d = dr i))
theorem NdF_iff {m : Nat} {bh dr : Nat → Nat} {sv : Nat → Bool} {want : Bool} {k d : Nat} : ∀ c, NdF m bh dr sv want c k d = true ↔ ∃ i, i < c ∧ sv i = want ∧ bh i ≤ m ∧ bh i = k ∧ d = dr i
  | 0 => by simp [NdF]
  | c + 1 => by
    rw [NdF, Bool.or_eq_true, NdF_iff c]
    simp only [Bool.and_eq_true, decide_eq_true_iff]
    constructor
    · rintro (⟨i, hi, h⟩ | ⟨⟨⟨h1, h2⟩, h3⟩, h4⟩)
      · exact ⟨i, by omega, h⟩
      · exact ⟨c, by omega, h1, h2, h3, h4⟩
    · rintro ⟨i, hi, h1, h2, h3, h4⟩
      by_cases e : i = c
      · subst e; exact Or.inr ⟨⟨⟨h1, h2⟩, h3⟩, h4⟩
      · exact Or.inl ⟨i, by omega, h1, h2, h3, h4⟩
def NLe (N : Nat → Nat → Bool) : Nat → Nat → Bool
  | 0, _ => false
  | e + 1, d => NLe N e d || N (11 - e) d
def Bre (N : Nat → Nat → Bool) : Nat → Nat → Bool
  | 0, d => N 11 d
  | e + 1, d => N (10 - e) d || Bre N e d
theorem NLe_iff {N : Nat → Nat → Bool} {d : Nat} : ∀ e, e ≤ 11 → (NLe N e d = true ↔ ∃ k, 11 - e < k ∧ k ≤ 11 ∧ N k d = true)
  | 0, _ => by
    constructor
    · intro h; cases h
    · rintro ⟨k, h1, h2, _⟩; omega
  | e + 1, he => by
    rw [NLe, Bool.or_eq_true, NLe_iff e (by omega)]
    constructor
    · rintro (⟨k, h1, h2, h3⟩ | h)
      · exact ⟨k, by omega, h2, h3⟩
      · exact ⟨11 - e, by omega, by omega, h⟩
    · rintro ⟨k, h1, h2, h3⟩
      by_cases q : k = 11 - e
      · subst q; exact Or.inr h3
      · exact Or.inl ⟨k, by omega, h2, h3⟩
theorem Bre_iff {N : Nat → Nat → Bool} {d : Nat} : ∀ e, e ≤ 11 → (Bre N e d = true ↔ ∃ k, 11 - e ≤ k ∧ k ≤ 11 ∧ N k d = true)
  | 0, _ => by
    constructor
    · intro h; exact ⟨11, by omega, by omega, h⟩
    · rintro ⟨k, h1, h2, h3⟩
      obtain rfl : k = 11 := by omega
      exact h3
  | e + 1, he => by
    rw [Bre, Bool.or_eq_true, Bre_iff e (by omega)]
    constructor
    · rintro (h | ⟨k, h1, h2, h3⟩)
      · exact ⟨10 - e, by omega, by omega, h⟩
      · exact ⟨k, by omega, h2, h3⟩
    · rintro ⟨k, h1, h2, h3⟩
      by_cases q : k = 10 - e
      · subst q; exact Or.inl h3
      · exact Or.inr ⟨k, by omega, h2, h3⟩
theorem mask_congr {D E : Nat → Bool} (h : ∀ j, D j = E j) : mask D = mask E := v9_congr (fun k _ => by rw [h k])
theorem ln_oo : ∀ f g : Bool, (if f then 16 else 0) ||| (if g then 16 else 0) = (if f || g then 16 else 0) := by decide
theorem mask_or (D E : Nat → Bool) : mask D ||| mask E = mask (fun j => D j || E j) := by
  unfold mask
  rw [v9_or (ff_lt D 16 (by omega)) (ff_lt E 16 (by omega))]
  exact v9_congr (fun k _ => ln_oo _ _)
theorem mask_fl {k : Nat} (hk : k < 9) : f_X11_flag (nI k) = some (mask (fun j => decide (j = k))) := by
  rw [c_flag hk]
  exact congrArg some (v9_congr (fun j _ => by simp))
theorem mask_0 : mask (fun _ => false) = 0 := (v9_eq0 (ff_lt (fun _ => false) 16 (by omega))).mpr (fun _ _ => rfl)
theorem mask_eq0 {D : Nat → Bool} : mask D = 0 ↔ ∀ k, k < 9 → D k = false := by
  unfold mask
  rw [v9_eq0 (ff_lt D 16 (by omega))]
  constructor
  · intro h k hk
    have := h k hk
    cases q : D k
    · rfl
    · rw [q] at this; simp at this
  · intro h k hk; rw [h k hk]; rfl
theorem ln_mx : ∀ a, a < 16 → ∀ f g : Bool, (if g then 16 else 0) &&& ((a + (if f then 16 else 0)) ^^^ 31) = (if g && !f then 16 else 0) := by decide
theorem w9_bar {lev : Nat → Nat} {th D : Nat → Bool} (hl : ∀ k, lev k < 16) : (w9 lev th ^^^ (-1)) &&& mask D = 0 ↔ ∀ k, k < 9 → D k = true → th k = true := by
  have hc : (w9 lev th ^^^ (-1)) &&& mask D = mask D &&& (w9 lev th ^^^ (-1)) := Int64.and_comm _ _
  rw [hc]
  unfold mask
  rw [v9_clr (ff_lt D 16 (by omega)) (u9_lt hl), v9_congr (v := fun k => if (D k && !th k) then 16 else 0) (fun k _ => ln_mx _ (hl k) _ _), v9_eq0 (ff_lt (fun k => D k && !th k) 16 (by omega))]
  constructor
  · intro h k hk hd
    have := h k hk
    cases ht : th k
    · rw [ht, hd] at this; simp at this
    · rfl
  · intro h k hk
    cases hd : D k
    · simp
    · rw [h k hk hd]; rfl
def z01 (b : Bool) : Int32 := if b then 1 else 0
theorem cl_read_133 {N B : Nat → Nat → Bool} {nd : Nat → Int64} (hnd : ∀ k, k ≤ 11 → nd k = mask (N k)) : ∀ (r fu : Nat) (nl br : Nat → Int64), r ≤ 11 → r < fu → (∀ k, r ≤ k → k ≤ 11 → nl k = mask (NLe N (11 - k)) ∧ br k = mask (Bre B (11 - k))) → (∀ k, k < r → br k = mask (B k)) → ∃ nl' br', f_X0_read_133 fu (nI r - 1) nd nl br = some (nd, nl', br') ∧ ∀ k, k ≤ 11 → nl' k = mask (NLe N (11 - k)) ∧ br' k = mask (Bre B (11 - k)) := by
  intro r
  induction r with
  | zero =>
    intro fu nl br hr hf h1 h2
    obtain ⟨f, rfl⟩ : ∃ f, fu = f + 1 := ⟨fu - 1, by omega⟩
    exact ⟨nl, br, by rw [f_X0_read_133, if_pos (show nI 0 - 1 < 0 by decide)], fun k hk => h1 k (by omega) hk⟩
  | succ r ih =>
    intro fu nl br hr hf h1 h2
    obtain ⟨f, rfl⟩ : ∃ f, fu = f + 1 := ⟨fu - 1, by omega⟩
    have i1 : ¬ (nI (r + 1) < 0 ∨ 12 ≤ (nI (r + 1)).toNatClampNeg) := nI_in (by omega) (by omega)
    have i2 : ¬ (nI r < 0 ∨ 12 ≤ (nI r).toNatClampNeg) := nI_in (by omega) (by omega)
    rw [f_X0_read_133, nI_p1, if_neg (nI_pos (by omega)), nI_1, if_neg i1, if_neg i1, if_neg i2, if_neg i2, if_neg i1, if_neg i2, nI_clamp (by omega), nI_clamp (by omega), nI_m1, (h1 (r + 1) (by omega) (by omega)).1, (h1 (r + 1) (by omega) (by omega)).2, hnd (r + 1) (by omega), h2 r (by omega), mask_or, mask_or]
    refine ih f _ _ (by omega) (by omega) (fun k hk1 hk2 => ?_) (fun k hk => ?_)
    · by_cases e : k = r
      · subst e
        rw [pk_uLs, pk_uLs]
        constructor
        · apply mask_congr
          intro j
          rw [show 11 - k = (10 - k) + 1 by omega, NLe, show 11 - (10 - k) = k + 1 by omega, show 11 - (k + 1) = 10 - k by omega]
        · apply mask_congr
          intro j
          rw [show 11 - k = (10 - k) + 1 by omega, Bre, show 10 - (10 - k) = k by omega, show 11 - (k + 1) = 10 - k by omega]
      · rw [pk_uLn e, pk_uLn e]; exact h1 k (by omega) hk2
    · rw [pk_uLn (by omega)]; exact h2 k (by omega)
