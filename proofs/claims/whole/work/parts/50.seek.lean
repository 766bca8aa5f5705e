/-! the fewest pulls: what both searches look for -/
def bl : Nat → Nat → List Nat
  | 0, _ => []
  | m + 1, y => (y / 2 ^ m % 2) :: bl m y
theorem bl_mod : ∀ (m y : Nat), bl m (y % 2 ^ m) = bl m y
  | 0, _ => rfl
  | m + 1, y => by
    have e1 : y % 2 ^ (m + 1) / 2 ^ m % 2 = y / 2 ^ m % 2 := by
      rw [Nat.pow_succ, Nat.mod_mul_right_div_self, Nat.mod_mod]
    have e2 : bl m (y % 2 ^ (m + 1)) = bl m y := by
      rw [← bl_mod m (y % 2 ^ (m + 1)), ← bl_mod m y, Nat.pow_succ, Nat.mod_mul_right_mod]
    rw [bl, bl, e1, e2]
theorem bl_hi (m : Nat) {y : Nat} (h : y < 2 ^ m) (b : Nat) (hb : b < 2) : bl (m + 1) (b * 2 ^ m + y) = b :: bl m y := by
  have hp : 0 < 2 ^ m := Nat.pow_pos (by omega)
  have e1 : (b * 2 ^ m + y) / 2 ^ m % 2 = b := by
    rw [Nat.add_comm, Nat.add_mul_div_right _ _ hp, Nat.div_eq_of_lt h, Nat.zero_add, Nat.mod_eq_of_lt hb]
  have e2 : bl m (b * 2 ^ m + y) = bl m y := by
    rw [← bl_mod m (b * 2 ^ m + y), Nat.add_comm, Nat.add_mul_mod_self_right, Nat.mod_eq_of_lt h]
  rw [bl, e1, e2]
/-- the doors of D are served -/
def srv (n : Nat) (D : Nat → Bool) (a : AS) : Prop := ∀ i, i < n → D i = true → a.2.2 i = false
def rowS (n dp : Nat) (wt : Nat → Nat) (D : Nat → Bool) (a : AS) (m y : Nat) : Prop := srv n D (aRun n dp wt (bl m y) a)
/-- the first row, by length and then by number, with less than b pulls -/
def isF (n dp : Nat) (wt : Nat → Nat) (D : Nat → Bool) (b : Nat) (a : AS) : Option (Nat × Nat) → Prop
  | none => ∀ m y, m < b → y < 2 ^ m → ¬ rowS n dp wt D a m y
  | some (m, y) => m < b ∧ y < 2 ^ m ∧ rowS n dp wt D a m y ∧ (∀ m' y', m' < m → y' < 2 ^ m' → ¬ rowS n dp wt D a m' y') ∧ ∀ y', y' < y → ¬ rowS n dp wt D a m y'
theorem rowS_0 {n dp : Nat} {wt : Nat → Nat} {D : Nat → Bool} {a : AS} {y : Nat} : rowS n dp wt D a 0 y ↔ srv n D a := Iff.rfl
theorem rowS_s {n dp : Nat} {wt : Nat → Nat} {D : Nat → Bool} {a : AS} {m y b : Nat} (h : y < 2 ^ m) (hb : b < 2) : rowS n dp wt D a (m + 1) (b * 2 ^ m + y) ↔ rowS n dp wt D (aP n dp wt b a) m y := by
  unfold rowS
  rw [bl_hi m h b hb]
  rfl
theorem split2 {m y : Nat} (h : y < 2 ^ (m + 1)) : ∃ b y', b < 2 ∧ y' < 2 ^ m ∧ y = b * 2 ^ m + y' := by
  have hp : 0 < 2 ^ m := Nat.pow_pos (by omega)
  refine ⟨y / 2 ^ m, y % 2 ^ m, ?_, Nat.mod_lt _ hp, ?_⟩
  · rw [Nat.pow_succ] at h
    exact Nat.div_lt_of_lt_mul (by rw [Nat.mul_comm] at h; rwa [Nat.mul_comm])
  · rw [Nat.mul_comm]; exact (Nat.div_add_mod y (2 ^ m)).symm
theorem isF_z {n dp : Nat} {wt : Nat → Nat} {D : Nat → Bool} {a : AS} : isF n dp wt D 0 a none := fun m y h _ => absurd h (Nat.not_lt_zero m)
theorem isF_here {n dp b : Nat} {wt : Nat → Nat} {D : Nat → Bool} {a : AS} (hb : 0 < b) (h : srv n D a) : isF n dp wt D b a (some (0, 0)) :=
  ⟨hb, by simp, h, fun m' y' hm => absurd hm (Nat.not_lt_zero m'), fun y' hy => absurd hy (Nat.not_lt_zero y')⟩
theorem isF_one {n dp : Nat} {wt : Nat → Nat} {D : Nat → Bool} {a : AS} (h : ¬ srv n D a) : isF n dp wt D 1 a none := fun m y hm _ => by
  rw [show m = 0 by omega]; exact h
def nextB (b : Nat) : Option (Nat × Nat) → Nat
  | none => b
  | some (m, _) => m
def joinF (o0 o1 : Option (Nat × Nat)) : Option (Nat × Nat) := match o1 with
  | some (m, y) => some (m + 1, 2 ^ m + y)
  | none => match o0 with
    | some (m, y) => some (m + 1, y)
    | none => none
theorem isF_step {n dp b : Nat} {wt : Nat → Nat} {D : Nat → Bool} {a : AS} {o0 o1 : Option (Nat × Nat)} (h : ¬ srv n D a) (h0 : isF n dp wt D b (aP n dp wt 0 a) o0) (h1 : isF n dp wt D (nextB b o0) (aP n dp wt 1 a) o1) : isF n dp wt D (b + 1) a (joinF o0 o1) := by
  have r0 : ∀ m y, y < 2 ^ m → (rowS n dp wt D a (m + 1) y ↔ rowS n dp wt D (aP n dp wt 0 a) m y) := fun m y hy => by
    have := rowS_s (n := n) (dp := dp) (wt := wt) (D := D) (a := a) (b := 0) hy (by omega)
    simpa using this
  have r1 : ∀ m y, y < 2 ^ m → (rowS n dp wt D a (m + 1) (2 ^ m + y) ↔ rowS n dp wt D (aP n dp wt 1 a) m y) := fun m y hy => by
    have := rowS_s (n := n) (dp := dp) (wt := wt) (D := D) (a := a) (b := 1) hy (by omega)
    simpa using this
  -- no row of so few pulls, when none of either child's
  have none_of : ∀ m y, y < 2 ^ m → (∀ m' y', m' + 1 = m → y' < 2 ^ m' → ¬ rowS n dp wt D (aP n dp wt 0 a) m' y') → (∀ m' y', m' + 1 = m → y' < 2 ^ m' → ¬ rowS n dp wt D (aP n dp wt 1 a) m' y') → ¬ rowS n dp wt D a m y := by
    intro m y hy q0 q1
    cases m with
    | zero => exact h
    | succ m =>
      obtain ⟨c, y', hc, hy', rfl⟩ := split2 hy
      have hc2 : c = 0 ∨ c = 1 := by omega
      rcases hc2 with rfl | rfl
      · rw [Nat.zero_mul, Nat.zero_add, r0 m y' hy']; exact q0 m y' rfl hy'
      · rw [Nat.one_mul, r1 m y' hy']; exact q1 m y' rfl hy'
  cases o1 with
  | some p =>
    obtain ⟨m1, y1⟩ := p
    obtain ⟨c1, c2, c3, c4, c5⟩ := h1
    have hlt : m1 < b ∧ ∀ m y, m ≤ m1 → y < 2 ^ m → ¬ rowS n dp wt D (aP n dp wt 0 a) m y := by
      cases o0 with
      | none => exact ⟨c1, fun m y hm hy => h0 m y (Nat.lt_of_le_of_lt hm c1) hy⟩
      | some p =>
        obtain ⟨m0, y0⟩ := p
        obtain ⟨d1, d2, d3, d4, d5⟩ := h0
        have c1' : m1 < m0 := c1
        exact ⟨by omega, fun m y hm hy => d4 m y (by omega) hy⟩
    refine ⟨by omega, ?_, (r1 m1 y1 c2).mpr c3, fun m' y' hm hy => ?_, fun y' hy => ?_⟩
    · rw [Nat.pow_succ]; omega
    · exact none_of m' y' hy (fun m y hm' hy' => hlt.2 m y (by omega) hy') (fun m y hm' hy' => c4 m y (by omega) hy')
    · rcases Nat.lt_or_ge y' (2 ^ m1) with q | q
      · rw [r0 m1 y' q]; exact hlt.2 m1 y' (Nat.le_refl _) q
      · obtain ⟨z, rfl⟩ : ∃ z, y' = 2 ^ m1 + z := ⟨y' - 2 ^ m1, by omega⟩
        rw [r1 m1 z (by omega)]; exact c5 z (by omega)
  | none =>
    cases o0 with
    | some p =>
      obtain ⟨m0, y0⟩ := p
      obtain ⟨d1, d2, d3, d4, d5⟩ := h0
      have h1' : ∀ m y, m < m0 → y < 2 ^ m → ¬ rowS n dp wt D (aP n dp wt 1 a) m y := h1
      refine ⟨by omega, by rw [Nat.pow_succ]; omega, (r0 m0 y0 d2).mpr d3, fun m' y' hm hy => ?_, fun y' hy => ?_⟩
      · exact none_of m' y' hy (fun m y hm' hy' => d4 m y (by omega) hy') (fun m y hm' hy' => h1' m y (by omega) hy')
      · rw [r0 m0 y' (by omega)]; exact d5 y' hy
    | none =>
      intro m y hm hy
      exact none_of m y hy (fun m' y' hm' hy' => h0 m' y' (by omega) hy') (fun m' y' hm' hy' => h1 m' y' (by show m' < b; omega) hy')
theorem isF_ex {n dp : Nat} {wt : Nat → Nat} {D : Nat → Bool} : ∀ (b : Nat) (a : AS), ∃ o, isF n dp wt D b a o
  | 0, _ => ⟨none, isF_z⟩
  | b + 1, a => by
    by_cases h : srv n D a
    · exact ⟨_, isF_here (by omega) h⟩
    · obtain ⟨o0, h0⟩ := isF_ex (n := n) (dp := dp) (wt := wt) (D := D) b (aP n dp wt 0 a)
      by_cases hb : nextB b o0 ≤ b
      · obtain ⟨o1, h1⟩ : ∃ o1, isF n dp wt D (nextB b o0) (aP n dp wt 1 a) o1 := by
          obtain ⟨o, ho⟩ := isF_ex (n := n) (dp := dp) (wt := wt) (D := D) b (aP n dp wt 1 a)
          cases o with
          | none => exact ⟨none, fun m y hm hy => ho m y (by omega) hy⟩
          | some p =>
            obtain ⟨m, y⟩ := p
            by_cases q : m < nextB b o0
            · exact ⟨some (m, y), q, ho.2⟩
            · exact ⟨none, fun m' y' hm hy => ho.2.2.2.1 m' y' (by omega) hy⟩
        exact ⟨_, isF_step h h0 h1⟩
      · cases o0 with
        | none => exact absurd (Nat.le_refl b) hb
        | some p => obtain ⟨m, y⟩ := p; have h2 : m < b := h0.1; exact absurd (Nat.le_of_lt h2) hb
theorem isF_uniq {n dp b : Nat} {wt : Nat → Nat} {D : Nat → Bool} {a : AS} {o o' : Option (Nat × Nat)} (h : isF n dp wt D b a o) (h' : isF n dp wt D b a o') : o = o' := by
  cases o with
  | none =>
    cases o' with
    | none => rfl
    | some p => obtain ⟨m, y⟩ := p; exact absurd h'.2.2.1 (h m y h'.1 h'.2.1)
  | some p =>
    obtain ⟨m, y⟩ := p
    cases o' with
    | none => exact absurd h.2.2.1 (h' m y h.1 h.2.1)
    | some p =>
      obtain ⟨m', y'⟩ := p
      have e1 : m = m' := by
        rcases Nat.lt_trichotomy m m' with q | q | q
        · exact absurd h.2.2.1 (h'.2.2.2.1 m y q h.2.1)
        · exact q
        · exact absurd h'.2.2.1 (h.2.2.2.1 m' y' q h'.2.1)
      subst e1
      have e2 : y = y' := by
        rcases Nat.lt_trichotomy y y' with q | q | q
        · exact absurd h.2.2.1 (h'.2.2.2.2 y q)
        · exact q
        · exact absurd h'.2.2.1 (h.2.2.2.2 y' q)
      rw [e2]
