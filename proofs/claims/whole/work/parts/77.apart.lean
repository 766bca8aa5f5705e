/-! APART: none begins with another one -/
def PA (w : Nat) (W : Nat → List Bool) (a : Nat) : Prop := ∀ b, b < w → a ≠ b → ¬ ∃ r, W b = W a ++ r
def PB (w : Nat) (W : Nat → List Bool) (a : Nat) : Prop := ∀ b, b < w → a ≠ b → ¬ ∃ r, W a = W b ++ r
theorem cl_pre {w : Nat} {W : Nat → List Bool} {cc mc : Int32} {sg ln mw : Nat → Int32} (hW : WRd w W cc sg ln mc mw) {a b : Nat} (ha : a < w) (hb : b < w) (hl : (W a).length ≤ (W b).length) : ((∃ r, W b = W a ++ r) → f_X10_agree ln sg (nI b) 0 (nI a) = some 1) ∧ (¬ (∃ r, W b = W a ++ r) → f_X10_agree ln sg (nI b) 0 (nI a) = some 0) := by
  have h := cl_agree (fr := 0) hW hb ha (Nat.zero_le _)
  rw [List.drop_zero] at h
  exact ⟨fun q => h.1 ((agr_ge hl).mpr q), fun q => h.2 (fun q2 => q ((agr_ge hl).mp q2))⟩
theorem cl_areApart {w : Nat} {W : Nat → List Bool} {cc mc : Int32} {sg ln mw : Nat → Int32} (hW : WRd w W cc sg ln mc mw) : ((∀ a, a < w → PA w W a) → f_X10_areApart (nI w) ln sg = some 1) ∧ (¬ (∀ a, a < w → PA w W a) → f_X10_areApart (nI w) ln sg = some 0) := by
  obtain ⟨w8, -, -, h4, -⟩ := id hW
  have inner : ∀ (a : Nat) (k2 : Int32 → Int32 → (Nat → Int32) → (Nat → Int32) → Option Int32), a < w → ∀ (d b fu : Nat), b + d = w → d < fu → (∀ b', b' < b → a ≠ b' → ¬ ∃ r, W b' = W a ++ r) → (PA w W a → f_X10_areApart_18 k2 fu (nI a) (nI b) (nI w) ln sg = k2 (nI (a + 1)) (nI w) ln sg) ∧ (¬ PA w W a → f_X10_areApart_18 k2 fu (nI a) (nI b) (nI w) ln sg = some 0) := by
    intro a k2 ha d
    induction d with
    | zero =>
      intro b fu hb hf hh
      obtain ⟨f, rfl⟩ : ∃ f, fu = f + 1 := ⟨fu - 1, by omega⟩
      rw [f_X10_areApart_18, if_pos (nI_le (by omega) (by omega))]
      unfold f_X10_areApart_70
      rw [nI_1]
      exact ⟨fun _ => rfl, fun q => absurd (fun b' hb' => hh b' (by omega)) q⟩
    | succ d ih =>
      intro b fu hb hf hh
      obtain ⟨f, rfl⟩ : ∃ f, fu = f + 1 := ⟨fu - 1, by omega⟩
      obtain ⟨a1, a2, a3, -⟩ := h4 a ha
      obtain ⟨b1, b2, b3, -⟩ := h4 b (by omega)
      rw [f_X10_areApart_18, if_neg (nI_ge (by omega) (by omega)), if_neg (show ¬ (8 : Int32) ≤ nI b from nI_ge (b := 8) (by omega) (by omega))]
      unfold f_X10_areApart_64
      rw [nI_1]
      have next : (a ≠ b → ¬ ∃ r, W b = W a ++ r) → _ := fun q => ih (b + 1) f (by omega) (by omega) (fun b' hb' => by
        by_cases e : b' = b
        · subst e; exact q
        · exact hh b' (by omega))
      by_cases q : a = b
      · rw [if_pos (by rw [q])]
        exact next (fun r => absurd q r)
      · rw [if_neg (fun e => q ((nI_eq (by omega) (by omega)).mp e)), if_neg (nI_in (by omega) (by omega)), if_neg (nI_in (by omega) (by omega)), nI_clamp (n := a) (by omega), nI_clamp (n := b) (by omega), a3, b3]
        by_cases q2 : (W b).length < (W a).length
        · rw [if_pos (nI_lt q2 (by omega))]
          exact next (fun _ ⟨r, e⟩ => by rw [e, List.length_append] at q2; omega)
        · rw [if_neg (nI_nlt (by omega) (by omega))]
          obtain ⟨g1, g2⟩ := cl_pre hW ha (show b < w by omega) (show (W a).length ≤ (W b).length by omega)
          by_cases q3 : ∃ r, W b = W a ++ r
          · rw [g1 q3, Option.bind_some, if_neg (show ¬ (1 : Int32) = 0 by decide)]
            exact ⟨fun p => absurd q3 (p b (by omega) q), fun _ => rfl⟩
          · rw [g2 q3, Option.bind_some, if_pos rfl]
            exact next (fun _ => q3)
  have outer : ∀ (d a fu : Nat), a + d = w → d < fu → (∀ a', a' < a → PA w W a') → ((∀ a, a < w → PA w W a) → f_X10_areApart_2 fu (nI a) (nI w) ln sg = some 1) ∧ (¬ (∀ a, a < w → PA w W a) → f_X10_areApart_2 fu (nI a) (nI w) ln sg = some 0) := by
    intro d
    induction d with
    | zero =>
      intro a fu ha hf hh
      obtain ⟨f, rfl⟩ : ∃ f, fu = f + 1 := ⟨fu - 1, by omega⟩
      rw [f_X10_areApart_2, if_pos (nI_le (by omega) (by omega))]
      exact ⟨fun _ => rfl, fun q => absurd (fun a' h => hh a' (by omega)) q⟩
    | succ d ih =>
      intro a fu ha hf hh
      obtain ⟨f, rfl⟩ : ∃ f, fu = f + 1 := ⟨fu - 1, by omega⟩
      rw [f_X10_areApart_2, if_neg (nI_ge (by omega) (by omega)), if_neg (show ¬ (8 : Int32) ≤ nI a from nI_ge (b := 8) (by omega) (by omega))]
      obtain ⟨i1, i2⟩ := inner a (f_X10_areApart_2 f) (by omega) w 0 fuel (by omega) (fuel_big (by omega)) (fun b' hb' => absurd hb' (Nat.not_lt_zero b'))
      rw [show nI 0 = (0 : Int32) from rfl] at i1 i2
      by_cases q : PA w W a
      · rw [i1 q]
        exact ih (a + 1) f (by omega) (by omega) (fun a' ha' => by
          by_cases e : a' = a
          · subst e; exact q
          · exact hh a' (by omega))
      · rw [i2 q]
        exact ⟨fun p => absurd (p a (by omega)) q, fun _ => rfl⟩
  exact outer w 0 fuel (by omega) (fuel_big (by omega)) (fun a' h => absurd h (Nat.not_lt_zero a'))
theorem lc_cases {x y : List Bool} (hx : x.length ≤ 8) : ((∃ r, x = y ++ r) ∧ 0 ≤ lcI (leftL x y)) ∨ (¬ (∃ r, x = y ++ r) ∧ ¬ 0 ≤ lcI (leftL x y)) := by
  cases h : leftL x y with
  | none =>
    refine Or.inr ⟨fun ⟨r, e⟩ => ?_, by show ¬ (0 : Int32) ≤ -6; decide⟩
    rw [leftL_some.mpr e] at h
    cases h
  | some r =>
    have e := leftL_some.mp h
    have hr := wcode_8 (l := r) (by have := congrArg List.length e; rw [List.length_append] at this; omega)
    exact Or.inl ⟨⟨r, e⟩, nI_pos' (by omega)⟩
theorem ml_areApart {w : Nat} {W : Nat → List Bool} {mw : Nat → Int32} (w8 : w ≤ 8) (h4 : ∀ k, k < w → (W k).length ≤ 8 ∧ mw k = nI (wcode (W k))) : ((∀ a, a < w → PB w W a) → f_X12_areApart (nI w) mw = some 1) ∧ (¬ (∀ a, a < w → PB w W a) → f_X12_areApart (nI w) mw = some 0) := by
  have i0 : ∀ (a : Nat) (k4 : Int32 → Int32 → Int32 → (Nat → Int32) → Option Int32), ∀ (d b fu : Nat), b + d = w → d < fu → f_X12_areApart_14 k4 fu 0 (nI a) (nI b) (nI w) mw = k4 0 (nI (a + 1)) (nI w) mw := by
    intro a k4 d
    induction d with
    | zero =>
      intro b fu hb hf
      obtain ⟨f, rfl⟩ : ∃ f, fu = f + 1 := ⟨fu - 1, by omega⟩
      rw [f_X12_areApart_14, if_pos (nI_le (by omega) (by omega)), nI_1]
    | succ d ih =>
      intro b fu hb hf
      obtain ⟨f, rfl⟩ : ∃ f, fu = f + 1 := ⟨fu - 1, by omega⟩
      rw [f_X12_areApart_14, if_neg (nI_ge (by omega) (by omega)), if_pos rfl]
      unfold f_X12_areApart_53 f_X12_areApart_54
      rw [nI_1]
      exact ih (b + 1) f (by omega) (by omega)
  have i1 : ∀ (a : Nat) (k4 : Int32 → Int32 → Int32 → (Nat → Int32) → Option Int32), a < w → ∀ (d b fu : Nat), b + d = w → d < fu → (∀ b', b' < b → a ≠ b' → ¬ ∃ r, W a = W b' ++ r) → (PB w W a → f_X12_areApart_14 k4 fu 1 (nI a) (nI b) (nI w) mw = k4 1 (nI (a + 1)) (nI w) mw) ∧ (¬ PB w W a → f_X12_areApart_14 k4 fu 1 (nI a) (nI b) (nI w) mw = k4 0 (nI (a + 1)) (nI w) mw) := by
    intro a k4 ha d
    induction d with
    | zero =>
      intro b fu hb hf hh
      obtain ⟨f, rfl⟩ : ∃ f, fu = f + 1 := ⟨fu - 1, by omega⟩
      rw [f_X12_areApart_14, if_pos (nI_le (by omega) (by omega)), nI_1]
      exact ⟨fun _ => rfl, fun q => absurd (fun b' hb' => hh b' (by omega)) q⟩
    | succ d ih =>
      intro b fu hb hf hh
      obtain ⟨f, rfl⟩ : ∃ f, fu = f + 1 := ⟨fu - 1, by omega⟩
      obtain ⟨a2, a5⟩ := h4 a ha
      obtain ⟨b2, b5⟩ := h4 b (by omega)
      rw [f_X12_areApart_14, if_neg (nI_ge (by omega) (by omega)), if_neg (show ¬ (1 : Int32) = 0 by decide)]
      unfold f_X12_areApart_49 f_X12_areApart_53 f_X12_areApart_54
      rw [nI_1]
      have next : (a ≠ b → ¬ ∃ r, W a = W b ++ r) → _ := fun q => ih (b + 1) f (by omega) (by omega) (fun b' hb' => by
        by_cases e : b' = b
        · subst e; exact q
        · exact hh b' (by omega))
      by_cases q : a = b
      · rw [if_pos (by rw [q])]
        exact next (fun r => absurd q r)
      · rw [if_neg (fun e => q ((nI_eq (by omega) (by omega)).mp e)), if_neg (nI_in (by omega) (by omega)), if_neg (nI_in (by omega) (by omega)), nI_clamp (n := a) (by omega), nI_clamp (n := b) (by omega), a5, b5, ml_leftOf a2 b2, Option.bind_some]
        rcases lc_cases (x := W a) (y := W b) a2 with ⟨q3, e⟩ | ⟨q3, e⟩
        · rw [if_pos e, i0 a k4 d (b + 1) f (by omega) (by omega)]
          exact ⟨fun p => absurd q3 (p b (by omega) q), fun _ => rfl⟩
        · rw [if_neg e]
          exact next (fun _ => q3)
  have o0 : ∀ (d a fu : Nat), a + d = w → d < fu → f_X12_areApart_4 fu 0 (nI a) (nI w) mw = some 0 := by
    intro d
    induction d with
    | zero =>
      intro a fu ha hf
      obtain ⟨f, rfl⟩ : ∃ f, fu = f + 1 := ⟨fu - 1, by omega⟩
      rw [f_X12_areApart_4, if_pos (nI_le (by omega) (by omega)), if_neg (fun q => q (Or.inl rfl))]
    | succ d ih =>
      intro a fu ha hf
      obtain ⟨f, rfl⟩ : ∃ f, fu = f + 1 := ⟨fu - 1, by omega⟩
      have e := i0 a (f_X12_areApart_4 f) w 0 fuel (by omega) (fuel_big (by omega))
      rw [show nI 0 = (0 : Int32) from rfl] at e
      rw [f_X12_areApart_4, if_neg (nI_ge (by omega) (by omega)), e]
      exact ih (a + 1) f (by omega) (by omega)
  have o1 : ∀ (d a fu : Nat), a + d = w → d < fu → (∀ a', a' < a → PB w W a') → ((∀ a, a < w → PB w W a) → f_X12_areApart_4 fu 1 (nI a) (nI w) mw = some 1) ∧ (¬ (∀ a, a < w → PB w W a) → f_X12_areApart_4 fu 1 (nI a) (nI w) mw = some 0) := by
    intro d
    induction d with
    | zero =>
      intro a fu ha hf hh
      obtain ⟨f, rfl⟩ : ∃ f, fu = f + 1 := ⟨fu - 1, by omega⟩
      rw [f_X12_areApart_4, if_pos (nI_le (by omega) (by omega)), if_neg (fun q => q (Or.inr rfl))]
      exact ⟨fun _ => rfl, fun q => absurd (fun a' h => hh a' (by omega)) q⟩
    | succ d ih =>
      intro a fu ha hf hh
      obtain ⟨f, rfl⟩ : ∃ f, fu = f + 1 := ⟨fu - 1, by omega⟩
      rw [f_X12_areApart_4, if_neg (nI_ge (by omega) (by omega))]
      obtain ⟨j1, j2⟩ := i1 a (f_X12_areApart_4 f) (by omega) w 0 fuel (by omega) (fuel_big (by omega)) (fun b' hb' => absurd hb' (Nat.not_lt_zero b'))
      rw [show nI 0 = (0 : Int32) from rfl] at j1 j2
      by_cases q : PB w W a
      · rw [j1 q]
        exact ih (a + 1) f (by omega) (by omega) (fun a' ha' => by
          by_cases e : a' = a
          · subst e; exact q
          · exact hh a' (by omega))
      · rw [j2 q, o0 d (a + 1) f (by omega) (by omega)]
        exact ⟨fun p => absurd (p a (by omega)) q, fun _ => rfl⟩
  exact o1 w 0 fuel (by omega) (fuel_big (by omega)) (fun a' h => absurd h (Nat.not_lt_zero a'))
theorem PAB {w : Nat} {W : Nat → List Bool} : (∀ a, a < w → PA w W a) ↔ ∀ a, a < w → PB w W a :=
  ⟨fun h a ha b hb hn => h b hb a ha (fun e => hn e.symm), fun h a ha b hb hn => h b hb a ha (fun e => hn e.symm)⟩
