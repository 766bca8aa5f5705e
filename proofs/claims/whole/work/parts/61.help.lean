theorem lgl (x y : Int64) : lg_cmp x y < 0 ↔ x < y := by
  unfold lg_cmp
  by_cases h1 : x > y
  · rw [if_pos h1]
    constructor
    · intro h; exact absurd h (by decide)
    · intro h; exact absurd (Int64.lt_trans h h1) Int64.lt_irrefl
  · rw [if_neg h1]
    by_cases h2 : x = y
    · rw [if_pos h2]
      constructor
      · intro h; exact absurd h (by decide)
      · intro h; rw [h2] at h; exact absurd h Int64.lt_irrefl
    · rw [if_neg h2]
      constructor
      · intro _
        have := Int64.not_lt.mp h1
        exact Int64.lt_of_le_of_ne this h2
      · intro _; decide
theorem lgg (x y : Int64) : 0 < lg_cmp x y ↔ y < x := by
  unfold lg_cmp
  by_cases h1 : x > y
  · rw [if_pos h1]
    constructor
    · intro _; exact h1
    · intro _; decide
  · rw [if_neg h1]
    constructor
    · intro h
      by_cases h2 : x = y
      · rw [if_pos h2] at h; exact absurd h (by decide)
      · rw [if_neg h2] at h; exact absurd h (by decide)
    · intro h; exact absurd h h1
theorem in_lo {a b c : Int32} (h : a < b) : f_X12_in a.toInt64 b.toInt64 c.toInt64 = some 0 := by
  unfold f_X12_in
  rw [if_pos ((lgl _ _).mpr ((fa_wide_lt a b).mpr h))]
theorem in_hi {a b c : Int32} (h : c < a) : f_X12_in a.toInt64 b.toInt64 c.toInt64 = some 0 := by
  unfold f_X12_in
  by_cases q : lg_cmp a.toInt64 b.toInt64 < 0
  · rw [if_pos q]
  · rw [if_neg q, if_pos ((lgg _ _).mpr ((fa_wide_lt c a).mpr h))]
theorem in_ok {a b c : Int32} (h1 : ¬ a < b) (h2 : ¬ c < a) : f_X12_in a.toInt64 b.toInt64 c.toInt64 = some 1 := by
  unfold f_X12_in
  rw [if_neg (fun q => h1 ((fa_wide_lt a b).mp ((lgl _ _).mp q))), if_neg (fun q => h2 ((fa_wide_lt c a).mp ((lgg _ _).mp q)))]
theorem lw64 (k : Nat) (h : k < 1000) : (lN k) = (nI k).toInt64 := (nI_l (by omega)).symm
/-- in a range of small constants, three ways -/
theorem in3 (a : Int32) (lo hi : Nat) (h1 : lo < 1000) (h2 : hi < 1000) : (a < nI lo ∧ f_X12_in a.toInt64 (lN lo) (lN hi) = some 0) ∨ (¬ a < nI lo ∧ nI hi < a ∧ f_X12_in a.toInt64 (lN lo) (lN hi) = some 0) ∨ (∃ k, lo ≤ k ∧ k ≤ hi ∧ a = nI k ∧ f_X12_in a.toInt64 (lN lo) (lN hi) = some 1) := by
  rw [lw64 lo h1, lw64 hi h2]
  by_cases q1 : a < nI lo
  · exact Or.inl ⟨q1, in_lo q1⟩
  · by_cases q2 : nI hi < a
    · exact Or.inr (Or.inl ⟨q1, q2, in_hi q2⟩)
    · refine Or.inr (Or.inr ?_)
      have h0 : ¬ a < 0 := fun q => q1 (by
        rw [fa_lt] at q ⊢
        rw [nI_toInt (by omega)]
        have : (0 : Int32).toInt = 0 := rfl
        omega)
      obtain ⟨k, hk, rfl⟩ := nI_of h0
      refine ⟨k, ?_, ?_, rfl, in_ok q1 q2⟩
      · rcases Nat.lt_or_ge k lo with q | q
        · exact absurd (nI_lt q (by omega)) q1
        · exact q
      · rcases Nat.lt_or_ge hi k with q | q
        · exact absurd (nI_lt q (by omega)) q2
        · exact q
theorem lw64b (k : Nat) (h : k < 100000) : (lN k) = (nI k).toInt64 := (nI_l (by omega)).symm
/-- in a range of small constants, three ways -/
theorem in3b (a : Int32) (lo hi : Nat) (h1 : lo < 100000) (h2 : hi < 100000) : (a < nI lo ∧ f_X12_in a.toInt64 (lN lo) (lN hi) = some 0) ∨ (¬ a < nI lo ∧ nI hi < a ∧ f_X12_in a.toInt64 (lN lo) (lN hi) = some 0) ∨ (∃ k, lo ≤ k ∧ k ≤ hi ∧ a = nI k ∧ f_X12_in a.toInt64 (lN lo) (lN hi) = some 1) := by
  rw [lw64b lo h1, lw64b hi h2]
  by_cases q1 : a < nI lo
  · exact Or.inl ⟨q1, in_lo q1⟩
  · by_cases q2 : nI hi < a
    · exact Or.inr (Or.inl ⟨q1, q2, in_hi q2⟩)
    · refine Or.inr (Or.inr ?_)
      have h0 : ¬ a < 0 := fun q => q1 (by
        rw [fa_lt] at q ⊢
        rw [nI_toInt (by omega)]
        have : (0 : Int32).toInt = 0 := rfl
        omega)
      obtain ⟨k, hk, rfl⟩ := nI_of h0
      refine ⟨k, ?_, ?_, rfl, in_ok q1 q2⟩
      · rcases Nat.lt_or_ge k lo with q | q
        · exact absurd (nI_lt q (by omega)) q1
        · exact q
      · rcases Nat.lt_or_ge hi k with q | q
        · exact absurd (nI_lt q (by omega)) q2
        · exact q
/-- a place, or none -/
theorem place3 (a : Int32) {n : Nat} (h3 : 3 ≤ n) (h9 : n ≤ 9) : (f_X11_isThere (nI n) a = some 0 ∧ f_X12_isPlace (nI n) a = some 0) ∨ ∃ k, k < n ∧ a = nI k ∧ f_X11_isThere (nI n) a = some 1 ∧ f_X12_isPlace (nI n) a = some 1 := by
  unfold f_X11_isThere f_X12_isPlace
  rw [show (1 : Int32) = nI 1 from rfl, pk_sub (by omega), show (0 : Int64) = lN 0 from rfl, nI_l (n := n - 1) (by omega)]
  rcases in3 a 0 (n - 1) (by omega) (by omega) with ⟨q, e⟩ | ⟨q1, q2, e⟩ | ⟨k, q1, q2, rfl, e⟩
  · refine Or.inl ⟨if_pos q, ?_⟩
    rw [e]; rfl
  · refine Or.inl ⟨?_, by rw [e]; rfl⟩
    rw [if_neg (show ¬ a < 0 from q1), if_pos]
    rcases pk_ix a (n := n) (by omega) with q | q | ⟨k, hk, rfl⟩
    · exact absurd q q1
    · exact q
    · exact absurd q2 (nI_nlt (by omega) (by omega))
  · refine Or.inr ⟨k, by omega, rfl, ?_, by rw [e]; rfl⟩
    rw [if_neg (nI_pos (by omega)), if_neg (nI_ge (by omega) (by omega))]
