/-! the class's search -/
def mask (D : Nat → Bool) : Int64 := v9 (fun j => if D j then 16 else 0)
theorem pak_eq0 : ∀ (m : Nat) {f : Nat → Nat}, pak m f = 0 ↔ ∀ k, k < m → f k = 0
  | 0, f => by simp [pak]
  | m + 1, f => by
    rw [pak_s]
    have ih := pak_eq0 m (f := fun k => f (k + 1))
    constructor
    · intro h k hk
      cases k with
      | zero => omega
      | succ k => exact ih.mp (by omega) k (by omega)
    · intro h
      have h0 := h 0 (by omega)
      have h1 := ih.mpr (fun k hk => h (k + 1) (by omega))
      omega
theorem v9_eq0 {f : Nat → Nat} (h : ∀ k, f k < 32) : v9 f = 0 ↔ ∀ k, k < 9 → f k = 0 := by
  rw [lN0 (Nat.lt_trans (pak_lt64 h) (by decide)), pak_eq0]
theorem ln_m : ∀ a, a < 16 → ∀ f g : Bool, (a + (if f then 16 else 0)) &&& (if g then 16 else 0) = (if f && g then 16 else 0) := by decide
theorem w9_mask {lev : Nat → Nat} {th D : Nat → Bool} (hl : ∀ k, lev k < 16) : w9 lev th &&& mask D = 0 ↔ ∀ k, k < 9 → D k = true → th k = false := by
  unfold mask
  rw [v9_and (u9_lt hl) (ff_lt D 16 (by omega)), v9_congr (v := fun k => if (th k && D k) then 16 else 0) (fun k _ => ln_m _ (hl k) _ _), v9_eq0 (ff_lt (fun k => th k && D k) 16 (by omega))]
  constructor
  · intro h k hk hd
    have := h k hk
    cases ht : th k
    · rfl
    · rw [ht, hd] at this; simp at this
  · intro h k hk
    cases hd : D k
    · simp
    · rw [h k hk hd]; rfl
theorem srv_mask {n dp : Nat} {wt : Nat → Nat} {D : Nat → Bool} {a : AS} (hw : wOK n dp wt) (ha : aOK n dp a) : (w9 a.1 a.2.2 &&& mask D = 0) ↔ srv n D a := by
  rw [w9_mask (lt16 hw.2.2.2.1 ha.1)]
  have h9 := hw.2.1
  constructor
  · intro h i hi hd; exact h i (by omega) hd
  · intro h k hk hd
    by_cases q : k < n
    · exact h k q hd
    · exact ha.2.2.2.2 k (by omega)
theorem mo_toInt {s : Nat} (h : s < 100) : (nI s - 1).toInt = (s : Int) - 1 := by
  rw [show (1 : Int32) = nI 1 from rfl, pk_sub_toInt (by omega) (by omega)]; rfl
theorem mo_lt {s p : Nat} (hs : s < 100) (hp : p < 100) : (nI s - 1 < nI p) ↔ s < p + 1 := by
  rw [fa_lt, mo_toInt hs, nI_toInt (by omega)]; omega
theorem mo_eq {s p : Nat} (hs : s < 100) (hp : p < 100) : (nI p = nI s - 1) ↔ p + 1 = s := by
  rw [fa_eq, mo_toInt hs, nI_toInt (by omega)]; omega
def sres (p x : Nat) (mo be ro : Int32) : Option (Nat × Nat) → Int32 × Int32 × Int32
  | none => (mo, be, ro)
  | some (m, y) => (nI (p + m) - 1, nI (p + m), nI (x * 2 ^ m + y))
theorem cl_seekOn {n dp : Nat} {wt : Nat → Nat} {D : Nat → Bool} (hw : wOK n dp wt) : ∀ (d b p x : Nat) (a : AS) (best row : Int32), b < d → p + b ≤ 15 → aOK n dp a → ∃ o, isF n dp wt D b a o ∧ f_X7_seekOn d (mask D) (nI (p + b) - 1) best row (nI n) (nI dp) (v9 wt) (w9 a.1 a.2.2) (v9 a.2.1) (nI x) (nI p) = some (sres p x (nI (p + b) - 1) best row o) := by
  intro d
  induction d with
  | zero => intro b p x a best row h; exact absurd h (Nat.not_lt_zero b)
  | succ d ih =>
    intro b p x a best row hb hpb ha
    show ∃ o, isF n dp wt D b a o ∧ g_X7_seekOn (f_X7_seekOn d) (mask D) (nI (p + b) - 1) best row (nI n) (nI dp) (v9 wt) (w9 a.1 a.2.2) (v9 a.2.1) (nI x) (nI p) = _
    unfold g_X7_seekOn
    cases b with
    | zero =>
      refine ⟨none, isF_z, ?_⟩
      rw [if_pos ((mo_lt (by omega) (by omega)).mpr (by omega))]
      rfl
    | succ b =>
      rw [if_neg (fun q => by have := (mo_lt (by omega) (by omega)).mp q; omega), if_neg (show ¬ (14 : Int32) < nI p from nI_nlt (a := 14) (by omega) (by omega))]
      by_cases hs : srv n D a
      · refine ⟨some (0, 0), isF_here (by omega) hs, ?_⟩
        rw [if_pos ((lg0 _ _).mpr ((srv_mask hw ha).mpr hs))]
        show some (nI p - 1, nI p, nI x) = some (nI (p + 0) - 1, nI (p + 0), nI (x * 2 ^ 0 + 0))
        simp
      · rw [if_neg (fun q => hs ((srv_mask hw ha).mp ((lg0 _ _).mp q)))]
        cases b with
        | zero =>
          refine ⟨none, isF_one hs, ?_⟩
          rw [if_pos ((mo_eq (by omega) (by omega)).mpr (by omega))]
          rfl
        | succ b =>
          rw [if_neg (fun q => by have := (mo_eq (by omega) (by omega)).mp q; omega)]
          obtain ⟨f, hf⟩ : ∃ f, fuel = f + 3 := ⟨fuel - 3, by rw [fuel_eq]⟩
          have m0 : ¬ (nI 0 < 0 ∨ 3 ≤ (nI 0).toNatClampNeg) := nI_in (by omega) (by omega)
          have m1 : ¬ (nI 1 < 0 ∨ 3 ≤ (nI 1).toNatClampNeg) := nI_in (by omega) (by omega)
          have loop : ∀ (g kk : Nat) (mo be ro : Int32), kk < 2 → f_X7_seekOn_69 (f_X7_seekOn d) (g + 1) (w9 a.1 a.2.2) (v9 a.2.1) (nI x) (nI p) (nI kk) (mask D) mo be ro (nI n) (nI dp) (v9 wt) = (f_X7_seekOn d (mask D) mo be ro (nI n) (nI dp) (v9 wt) (w9 (aP n dp wt kk a).1 (aP n dp wt kk a).2.2) (v9 (aP n dp wt kk a).2.1) (nI (2 * x + kk)) (nI (p + 1))).bind fun z10 => f_X7_seekOn_69 (f_X7_seekOn d) g (w9 a.1 a.2.2) (v9 a.2.1) (nI x) (nI p) (nI (kk + 1)) (mask D) z10.1 z10.2.1 z10.2.2 (nI n) (nI dp) (v9 wt) := by
            intro g kk mo be ro hk
            rw [f_X7_seekOn_69, if_neg (show ¬ (2 : Int32) ≤ nI kk from nI_ge (b := 2) (by omega) (by omega)), if_neg (nI_in (by omega) (by omega)), nI_clamp (by omega), cl_leaks (wt := wt) hw ha, cl_wheel hw ha]
            simp only [Option.bind_some]
            rw [if_neg (gin (by omega) (by omega)), cl_step hw ha]
            simp only [Option.bind_some]
            rw [show (2 : Int32) = nI 2 from rfl, pk_mul, nI_add, show (1 : Int32) = nI 1 from rfl, nI_add, nI_add]
          obtain ⟨o0, f0, e0⟩ := ih (b + 1) (p + 1) (2 * x + 0) (aP n dp wt 0 a) best row (by omega) (by omega) (aP_ok hw ha)
          rw [show p + 1 + (b + 1) = p + (b + 1 + 1) by omega] at e0
          -- the second child, with what the first one left
          have hnb : nextB (b + 1) o0 ≤ b + 1 := by
            cases o0 with
            | none => exact Nat.le_refl _
            | some q => obtain ⟨m, y⟩ := q; exact Nat.le_of_lt f0.1
          obtain ⟨o1, f1, e1⟩ := ih (nextB (b + 1) o0) (p + 1) (2 * x + 1) (aP n dp wt 1 a) (sres (p + 1) (2 * x + 0) (nI (p + (b + 1 + 1)) - 1) best row o0).2.1 (sres (p + 1) (2 * x + 0) (nI (p + (b + 1 + 1)) - 1) best row o0).2.2 (by omega) (by omega) (aP_ok hw ha)
          have hmo : nI (p + 1 + nextB (b + 1) o0) - 1 = (sres (p + 1) (2 * x + 0) (nI (p + (b + 1 + 1)) - 1) best row o0).1 := by
            cases o0 with
            | none => show nI (p + 1 + (b + 1)) - 1 = nI (p + (b + 1 + 1)) - 1; rw [show p + 1 + (b + 1) = p + (b + 1 + 1) by omega]
            | some q => obtain ⟨m, y⟩ := q; rfl
          rw [hmo] at e1
          refine ⟨joinF o0 o1, isF_step hs f0 f1, ?_⟩
          rw [hf, show (0 : Int32) = nI 0 from rfl, show f + 3 = (f + 2) + 1 by omega, loop (f + 2) 0 _ _ _ (by omega), e0]
          simp only [Option.bind_some]
          rw [show f + 2 = (f + 1) + 1 by omega, loop (f + 1) 1 _ _ _ (by omega), e1]
          simp only [Option.bind_some]
          rw [f_X7_seekOn_69, if_pos (show (2 : Int32) ≤ nI (1 + 1) by decide)]
          cases o1 with
          | some q =>
            obtain ⟨m, y⟩ := q
            show some (nI (p + 1 + m) - 1, nI (p + 1 + m), nI ((2 * x + 1) * 2 ^ m + y)) = some (nI (p + (m + 1)) - 1, nI (p + (m + 1)), nI (x * 2 ^ (m + 1) + (2 ^ m + y)))
            have ex : (2 * x + 1) * 2 ^ m + y = x * 2 ^ (m + 1) + (2 ^ m + y) := by
              rw [Nat.add_mul, Nat.one_mul, Nat.pow_succ, Nat.mul_comm 2 x, Nat.mul_assoc, Nat.mul_comm 2 (2 ^ m), Nat.add_assoc]
            rw [show p + 1 + m = p + (m + 1) by omega, ex]
          | none =>
            cases o0 with
            | some q =>
              obtain ⟨m, y⟩ := q
              show some (nI (p + 1 + m) - 1, nI (p + 1 + m), nI ((2 * x + 0) * 2 ^ m + y)) = some (nI (p + (m + 1)) - 1, nI (p + (m + 1)), nI (x * 2 ^ (m + 1) + y))
              have ex : (2 * x + 0) * 2 ^ m + y = x * 2 ^ (m + 1) + y := by
                rw [Nat.add_zero, Nat.pow_succ, Nat.mul_comm 2 x, Nat.mul_assoc, Nat.mul_comm 2 (2 ^ m)]
              rw [show p + 1 + m = p + (m + 1) by omega, ex]
            | none => rfl
