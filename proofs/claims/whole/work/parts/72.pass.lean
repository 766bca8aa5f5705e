/-! what is kept -/
theorem ml_pass {o : Nat} (ho : o < 200) (wr : Bool) (K : Nat → Int32) (v : Int32) : ∃ x, f_X12_pass (nI o) (z01 wr) K v = some (x, nI (o + 1), upd K o x) ∧ (wr = true → x = v) ∧ (wr = false → x = K o) := by
  unfold f_X12_pass f_X12_pass_20
  cases wr with
  | false =>
    refine ⟨K o, ?_, (fun q => by cases q), fun _ => rfl⟩
    rw [if_pos (show z01 false = 0 from rfl), if_neg (nI_in (by omega) (by omega)), if_neg (nI_in (by omega) (by omega)), nI_clamp (by omega), nI_1]
  | true =>
    refine ⟨v, ?_, fun _ => rfl, fun q => by cases q⟩
    rw [if_neg (show ¬ z01 true = 0 by decide), if_neg (nI_in (by omega) (by omega)), nI_clamp (by omega), nI_1]
theorem up_same {K : Nat → Int32} {o : Nat} {x : Int32} (h : x = K o) (i : Nat) : upd K o x i = K i := by
  by_cases e : i = o
  · subst e; rw [up_s, h]
  · rw [up_n e]
/-- a number of the wheel and its slot -/
theorem ml_pass_62 {o : Nat} (ho : o ≤ 100) (wr : Bool) (pl de se wm sg : Int32) (K0 pa0 ho0 le0 wa0 wo sb sd ss : Nat → Int32) : ∀ (d p fu : Nat) (K pa ho_ le wa : Nat → Int32), p + d = 9 → d < fu → (∀ q, q < p → pa q = K (o + 5 + 4 * q) ∧ ho_ q = K (o + 6 + 4 * q) ∧ le q = K (o + 7 + 4 * q) ∧ wa q = K (o + 8 + 4 * q)) → (wr = true → ∀ q, pa q = pa0 q ∧ ho_ q = ho0 q ∧ le q = le0 q ∧ wa q = wa0 q) → (wr = false → ∀ i, K i = K0 i) → (∀ i, i < o + 5 ∨ o + 41 ≤ i → K i = K0 i) →
    ∃ K' pa' ho' le' wa', f_X12_passAll_62 fu (nI p) pl de se wm sg (nI (o + 5 + 4 * p)) (z01 wr) K pa ho_ le wa wo sb sd ss = f_X12_passAll_140 fuel 0 pl de se wm sg (nI (o + 41)) (z01 wr) K' pa' ho' le' wa' wo sb sd ss ∧ (∀ q, q < 9 → pa' q = K' (o + 5 + 4 * q) ∧ ho' q = K' (o + 6 + 4 * q) ∧ le' q = K' (o + 7 + 4 * q) ∧ wa' q = K' (o + 8 + 4 * q)) ∧ (wr = true → ∀ q, pa' q = pa0 q ∧ ho' q = ho0 q ∧ le' q = le0 q ∧ wa' q = wa0 q) ∧ (wr = false → ∀ i, K' i = K0 i) ∧ (∀ i, i < o + 5 ∨ o + 41 ≤ i → K' i = K0 i) := by
  intro d
  induction d with
  | zero =>
    intro p fu K pa ho_ le wa hp hf g1 g2 g3 g4
    obtain ⟨f, rfl⟩ : ∃ f, fu = f + 1 := ⟨fu - 1, by omega⟩
    obtain rfl : p = 9 := by omega
    refine ⟨K, pa, ho_, le, wa, ?_, g1, g2, g3, g4⟩
    rw [f_X12_passAll_62, if_pos (show (9 : Int32) ≤ nI 9 by decide)]
  | succ d ih =>
    intro p fu K pa ho_ le wa hp hf g1 g2 g3 g4
    obtain ⟨f, rfl⟩ : ∃ f, fu = f + 1 := ⟨fu - 1, by omega⟩
    have i9 : ¬ (nI p < 0 ∨ 9 ≤ (nI p).toNatClampNeg) := nI_in (by omega) (by omega)
    obtain ⟨x1, e1, a1, b1⟩ := ml_pass (o := o + 5 + 4 * p) (by omega) wr K (pa p)
    obtain ⟨x2, e2, a2, b2⟩ := ml_pass (o := o + 5 + 4 * p + 1) (by omega) wr (upd K (o + 5 + 4 * p) x1) (ho_ p)
    obtain ⟨x3, e3, a3, b3⟩ := ml_pass (o := o + 5 + 4 * p + 1 + 1) (by omega) wr (upd (upd K (o + 5 + 4 * p) x1) (o + 5 + 4 * p + 1) x2) (le p)
    obtain ⟨x4, e4, a4, b4⟩ := ml_pass (o := o + 5 + 4 * p + 1 + 1 + 1) (by omega) wr (upd (upd (upd K (o + 5 + 4 * p) x1) (o + 5 + 4 * p + 1) x2) (o + 5 + 4 * p + 1 + 1) x3) (wa p)
    rw [f_X12_passAll_62, if_neg (show ¬ (9 : Int32) ≤ nI p from nI_ge (b := 9) (by omega) (by omega)), if_neg i9, nI_clamp (n := p) (by omega), e1, Option.bind_some, if_neg (gin (by omega) (by omega)), if_neg (gin (by omega) (by omega)), e2, Option.bind_some, if_neg (gin (by omega) (by omega)), if_neg (gin (by omega) (by omega)), e3, Option.bind_some, if_neg (gin (by omega) (by omega)), if_neg (gin (by omega) (by omega)), e4, Option.bind_some, if_neg (gin (by omega) (by omega)), nI_1, show o + 5 + 4 * p + 1 + 1 + 1 + 1 = o + 5 + 4 * (p + 1) by omega]
    dsimp only
    refine ih (p + 1) f _ _ _ _ _ (by omega) (by omega) (fun q hq => ?_) (fun hw q => ?_) (fun hw i => ?_) (fun i hi => ?_)
    · by_cases e : q = p
      · subst e
        rw [up_s, up_s, up_s, up_s]
        refine ⟨?_, ?_, ?_, ?_⟩
        · rw [up_n (by omega), up_n (by omega), up_n (by omega), up_s]
        · rw [up_n (by omega), up_n (by omega), show o + 6 + 4 * q = o + 5 + 4 * q + 1 by omega, up_s]
        · rw [up_n (by omega), show o + 7 + 4 * q = o + 5 + 4 * q + 1 + 1 by omega, up_s]
        · rw [show o + 8 + 4 * q = o + 5 + 4 * q + 1 + 1 + 1 by omega, up_s]
      · rw [up_n e, up_n e, up_n e, up_n e]
        have o1 : ∀ i, i < o + 5 + 4 * p → upd (upd (upd (upd K (o + 5 + 4 * p) x1) (o + 5 + 4 * p + 1) x2) (o + 5 + 4 * p + 1 + 1) x3) (o + 5 + 4 * p + 1 + 1 + 1) x4 i = K i := fun i hi => by
          rw [up_n (by omega), up_n (by omega), up_n (by omega), up_n (by omega)]
        rw [o1 _ (by omega), o1 _ (by omega), o1 _ (by omega), o1 _ (by omega)]
        exact g1 q (by omega)
    · obtain ⟨c1, c2, c3, c4⟩ := g2 hw q
      rw [a1 hw, a2 hw, a3 hw, a4 hw, up_same rfl, up_same rfl, up_same rfl, up_same rfl]
      exact ⟨c1, c2, c3, c4⟩
    · rw [up_same (b4 hw), up_same (b3 hw), up_same (b2 hw), up_same (b1 hw)]
      exact g3 hw i
    · rw [up_n (by omega), up_n (by omega), up_n (by omega), up_n (by omega)]
      exact g4 i hi
theorem ml_pass_140 {o : Nat} (ho : o ≤ 100) (wr : Bool) (pl de se wm sg : Int32) (K0 pa ho_ le wa wo0 sb sd ss : Nat → Int32) : ∀ (d p fu : Nat) (K wo : Nat → Int32), p + d = 8 → d < fu → (∀ q, q < p → wo q = K (o + 41 + q)) → (wr = true → ∀ q, wo q = wo0 q) → (wr = false → ∀ i, K i = K0 i) → (∀ i, i < o + 41 ∨ o + 49 ≤ i → K i = K0 i) →
    ∃ K' wo', f_X12_passAll_140 fu (nI p) pl de se wm sg (nI (o + 41 + p)) (z01 wr) K pa ho_ le wa wo sb sd ss = f_X12_passAll_170 fuel 0 pl de se wm sg (nI (o + 49)) (z01 wr) K' pa ho_ le wa wo' sb sd ss ∧ (∀ q, q < 8 → wo' q = K' (o + 41 + q)) ∧ (wr = true → ∀ q, wo' q = wo0 q) ∧ (wr = false → ∀ i, K' i = K0 i) ∧ (∀ i, i < o + 41 ∨ o + 49 ≤ i → K' i = K0 i) := by
  intro d
  induction d with
  | zero =>
    intro p fu K wo hp hf g1 g2 g3 g4
    obtain ⟨f, rfl⟩ : ∃ f, fu = f + 1 := ⟨fu - 1, by omega⟩
    obtain rfl : p = 8 := by omega
    refine ⟨K, wo, ?_, g1, g2, g3, g4⟩
    rw [f_X12_passAll_140, if_pos (show (8 : Int32) ≤ nI 8 by decide)]
  | succ d ih =>
    intro p fu K wo hp hf g1 g2 g3 g4
    obtain ⟨f, rfl⟩ : ∃ f, fu = f + 1 := ⟨fu - 1, by omega⟩
    obtain ⟨x1, e1, a1, b1⟩ := ml_pass (o := o + 41 + p) (by omega) wr K (wo p)
    rw [f_X12_passAll_140, if_neg (show ¬ (8 : Int32) ≤ nI p from nI_ge (b := 8) (by omega) (by omega)), if_neg (nI_in (by omega) (by omega)), nI_clamp (n := p) (by omega), e1, Option.bind_some, if_neg (gin (by omega) (by omega)), nI_1, show o + 41 + p + 1 = o + 41 + (p + 1) by omega]
    dsimp only
    refine ih (p + 1) f _ _ (by omega) (by omega) (fun q hq => ?_) (fun hw q => ?_) (fun hw i => ?_) (fun i hi => ?_)
    · by_cases e : q = p
      · subst e
        rw [up_s, up_s]
      · rw [up_n e, up_n (by omega)]
        exact g1 q (by omega)
    · rw [a1 hw, up_same rfl]
      exact g2 hw q
    · rw [up_same (b1 hw)]
      exact g3 hw i
    · rw [up_n (by omega)]
      exact g4 i hi
theorem ml_pass_170 {o : Nat} (ho : o ≤ 100) (wr : Bool) (pl de se wm sg : Int32) (K0 pa ho_ le wa wo sb0 sd0 ss0 : Nat → Int32) : ∀ (d p fu : Nat) (K sb sd ss : Nat → Int32), p + d = 6 → d < fu → (∀ q, q < p → sb q = K (o + 49 + 3 * q) ∧ sd q = K (o + 50 + 3 * q) ∧ ss q = K (o + 51 + 3 * q)) → (wr = true → ∀ q, sb q = sb0 q ∧ sd q = sd0 q ∧ ss q = ss0 q) → (wr = false → ∀ i, K i = K0 i) → (∀ i, i < o + 49 ∨ o + 67 ≤ i → K i = K0 i) →
    ∃ ka K' sb' sd' ss', f_X12_passAll_170 fu (nI p) pl de se wm sg (nI (o + 49 + 3 * p)) (z01 wr) K pa ho_ le wa wo sb sd ss = some (pl, de, se, wm, sg, ka, K', pa, ho_, le, wa, wo, sb', sd', ss') ∧ (∀ q, q < 6 → sb' q = K' (o + 49 + 3 * q) ∧ sd' q = K' (o + 50 + 3 * q) ∧ ss' q = K' (o + 51 + 3 * q)) ∧ (wr = true → ∀ q, sb' q = sb0 q ∧ sd' q = sd0 q ∧ ss' q = ss0 q) ∧ (wr = false → ∀ i, K' i = K0 i) ∧ (∀ i, i < o + 49 ∨ o + 67 ≤ i → K' i = K0 i) := by
  intro d
  induction d with
  | zero =>
    intro p fu K sb sd ss hp hf g1 g2 g3 g4
    obtain ⟨f, rfl⟩ : ∃ f, fu = f + 1 := ⟨fu - 1, by omega⟩
    obtain rfl : p = 6 := by omega
    refine ⟨nI (o + 49 + 3 * 6), K, sb, sd, ss, ?_, g1, g2, g3, g4⟩
    rw [f_X12_passAll_170, if_pos (show (6 : Int32) ≤ nI 6 by decide)]
  | succ d ih =>
    intro p fu K sb sd ss hp hf g1 g2 g3 g4
    obtain ⟨f, rfl⟩ : ∃ f, fu = f + 1 := ⟨fu - 1, by omega⟩
    obtain ⟨x1, e1, a1, b1⟩ := ml_pass (o := o + 49 + 3 * p) (by omega) wr K (sb p)
    obtain ⟨x2, e2, a2, b2⟩ := ml_pass (o := o + 49 + 3 * p + 1) (by omega) wr (upd K (o + 49 + 3 * p) x1) (sd p)
    obtain ⟨x3, e3, a3, b3⟩ := ml_pass (o := o + 49 + 3 * p + 1 + 1) (by omega) wr (upd (upd K (o + 49 + 3 * p) x1) (o + 49 + 3 * p + 1) x2) (ss p)
    rw [f_X12_passAll_170, if_neg (show ¬ (6 : Int32) ≤ nI p from nI_ge (b := 6) (by omega) (by omega)), if_neg (nI_in (by omega) (by omega)), nI_clamp (n := p) (by omega), e1, Option.bind_some, if_neg (gin (by omega) (by omega)), if_neg (gin (by omega) (by omega)), e2, Option.bind_some, if_neg (gin (by omega) (by omega)), if_neg (gin (by omega) (by omega)), e3, Option.bind_some, if_neg (gin (by omega) (by omega)), nI_1, show o + 49 + 3 * p + 1 + 1 + 1 = o + 49 + 3 * (p + 1) by omega]
    dsimp only
    refine ih (p + 1) f _ _ _ _ (by omega) (by omega) (fun q hq => ?_) (fun hw q => ?_) (fun hw i => ?_) (fun i hi => ?_)
    · by_cases e : q = p
      · subst e
        rw [up_s, up_s, up_s]
        refine ⟨?_, ?_, ?_⟩
        · rw [up_n (by omega), up_n (by omega), up_s]
        · rw [up_n (by omega), show o + 50 + 3 * q = o + 49 + 3 * q + 1 by omega, up_s]
        · rw [show o + 51 + 3 * q = o + 49 + 3 * q + 1 + 1 by omega, up_s]
      · rw [up_n e, up_n e, up_n e]
        have o1 : ∀ i, i < o + 49 + 3 * p → upd (upd (upd K (o + 49 + 3 * p) x1) (o + 49 + 3 * p + 1) x2) (o + 49 + 3 * p + 1 + 1) x3 i = K i := fun i hi => by
          rw [up_n (by omega), up_n (by omega), up_n (by omega)]
        rw [o1 _ (by omega), o1 _ (by omega), o1 _ (by omega)]
        exact g1 q (by omega)
    · obtain ⟨c1, c2, c3⟩ := g2 hw q
      rw [a1 hw, a2 hw, a3 hw, up_same rfl, up_same rfl, up_same rfl]
      exact ⟨c1, c2, c3⟩
    · rw [up_same (b3 hw), up_same (b2 hw), up_same (b1 hw)]
      exact g3 hw i
    · rw [up_n (by omega), up_n (by omega), up_n (by omega)]
      exact g4 i hi
/-- what passes, slot by slot -/
def PS (o : Nat) (pl de se wm sg : Int32) (K pa ho le wa wo sb sd ss : Nat → Int32) : Prop := (pl = K o ∧ de = K (o + 1) ∧ se = K (o + 2) ∧ wm = K (o + 3) ∧ sg = K (o + 4)) ∧ (∀ q, q < 9 → pa q = K (o + 5 + 4 * q) ∧ ho q = K (o + 6 + 4 * q) ∧ le q = K (o + 7 + 4 * q) ∧ wa q = K (o + 8 + 4 * q)) ∧ (∀ q, q < 8 → wo q = K (o + 41 + q)) ∧ (∀ q, q < 6 → sb q = K (o + 49 + 3 * q) ∧ sd q = K (o + 50 + 3 * q) ∧ ss q = K (o + 51 + 3 * q))
theorem ml_passAll {o : Nat} (ho : o ≤ 100) (wr : Bool) (pl de se wm sg : Int32) (K pa ho_ le wa wo sb sd ss : Nat → Int32) : ∃ pl' de' se' wm' sg' ka K' pa' ho' le' wa' wo' sb' sd' ss', f_X12_passAll pl de se wm sg (nI o) (z01 wr) K pa ho_ le wa wo sb sd ss = some (pl', de', se', wm', sg', ka, K', pa', ho', le', wa', wo', sb', sd', ss') ∧ PS o pl' de' se' wm' sg' K' pa' ho' le' wa' wo' sb' sd' ss' ∧ (wr = true → (pl' = pl ∧ de' = de ∧ se' = se ∧ wm' = wm ∧ sg' = sg) ∧ (∀ q, pa' q = pa q ∧ ho' q = ho_ q ∧ le' q = le q ∧ wa' q = wa q) ∧ (∀ q, wo' q = wo q) ∧ ∀ q, sb' q = sb q ∧ sd' q = sd q ∧ ss' q = ss q) ∧ (wr = false → ∀ i, K' i = K i) ∧ ∀ i, i < o ∨ o + 67 ≤ i → K' i = K i := by
  obtain ⟨x1, e1, a1, b1⟩ := ml_pass (o := o) (by omega) wr K pl
  obtain ⟨x2, e2, a2, b2⟩ := ml_pass (o := o + 1) (by omega) wr (upd K o x1) de
  obtain ⟨x3, e3, a3, b3⟩ := ml_pass (o := o + 1 + 1) (by omega) wr (upd (upd K o x1) (o + 1) x2) se
  obtain ⟨x4, e4, a4, b4⟩ := ml_pass (o := o + 1 + 1 + 1) (by omega) wr (upd (upd (upd K o x1) (o + 1) x2) (o + 1 + 1) x3) wm
  obtain ⟨x5, e5, a5, b5⟩ := ml_pass (o := o + 1 + 1 + 1 + 1) (by omega) wr (upd (upd (upd (upd K o x1) (o + 1) x2) (o + 1 + 1) x3) (o + 1 + 1 + 1) x4) sg
  generalize hK5 : upd (upd (upd (upd (upd K o x1) (o + 1) x2) (o + 1 + 1) x3) (o + 1 + 1 + 1) x4) (o + 1 + 1 + 1 + 1) x5 = K5 at e5
  obtain ⟨K6, pa', ho', le', wa', e6, c1, c2, c3, c4⟩ := ml_pass_62 ho wr x1 x2 x3 x4 x5 K5 pa ho_ le wa wo sb sd ss 9 0 fuel K5 pa ho_ le wa (by omega) (fuel_big (by omega)) (fun q hq => absurd hq (Nat.not_lt_zero q)) (fun _ q => ⟨rfl, rfl, rfl, rfl⟩) (fun _ _ => rfl) (fun _ _ => rfl)
  obtain ⟨K7, wo', e7, d1, d2, d3, d4⟩ := ml_pass_140 ho wr x1 x2 x3 x4 x5 K6 pa' ho' le' wa' wo sb sd ss 8 0 fuel K6 wo (by omega) (fuel_big (by omega)) (fun q hq => absurd hq (Nat.not_lt_zero q)) (fun _ q => rfl) (fun _ _ => rfl) (fun _ _ => rfl)
  obtain ⟨ka, K8, sb', sd', ss', e8, f1, f2, f3, f4⟩ := ml_pass_170 ho wr x1 x2 x3 x4 x5 K7 pa' ho' le' wa' wo' sb sd ss 6 0 fuel K7 sb sd ss (by omega) (fuel_big (by omega)) (fun q hq => absurd hq (Nat.not_lt_zero q)) (fun _ q => ⟨rfl, rfl, rfl⟩) (fun _ _ => rfl) (fun _ _ => rfl)
  have k5 : K5 o = x1 ∧ K5 (o + 1) = x2 ∧ K5 (o + 2) = x3 ∧ K5 (o + 3) = x4 ∧ K5 (o + 4) = x5 := by
    rw [← hK5]
    refine ⟨?_, ?_, ?_, ?_, ?_⟩
    · rw [up_n (by omega), up_n (by omega), up_n (by omega), up_n (by omega), up_s]
    · rw [up_n (by omega), up_n (by omega), up_n (by omega), up_s]
    · rw [up_n (by omega), up_n (by omega), show o + 2 = o + 1 + 1 by omega, up_s]
    · rw [up_n (by omega), show o + 3 = o + 1 + 1 + 1 by omega, up_s]
    · rw [show o + 4 = o + 1 + 1 + 1 + 1 by omega, up_s]
  have low : ∀ i, i < o + 5 → K8 i = K5 i := fun i hi => by rw [f4 i (by omega), d4 i (by omega), c4 i (by omega)]
  refine ⟨x1, x2, x3, x4, x5, ka, K8, pa', ho', le', wa', wo', sb', sd', ss', ?_, ⟨⟨?_, ?_, ?_, ?_, ?_⟩, fun q hq => ?_, fun q hq => ?_, f1⟩, fun hw => ⟨⟨a1 hw, a2 hw, a3 hw, a4 hw, a5 hw⟩, c2 hw, d2 hw, f2 hw⟩, fun hw i => ?_, fun i hi => ?_⟩
  · unfold f_X12_passAll
    rw [e1, Option.bind_some, e2, Option.bind_some, e3, Option.bind_some, e4, Option.bind_some, e5, Option.bind_some]
    exact e6.trans (e7.trans e8)
  · rw [low o (by omega), k5.1]
  · rw [low (o + 1) (by omega), k5.2.1]
  · rw [low (o + 2) (by omega), k5.2.2.1]
  · rw [low (o + 3) (by omega), k5.2.2.2.1]
  · rw [low (o + 4) (by omega), k5.2.2.2.2]
  · rw [f4 _ (by omega), f4 _ (by omega), f4 _ (by omega), f4 _ (by omega), d4 _ (by omega), d4 _ (by omega), d4 _ (by omega), d4 _ (by omega)]
    exact c1 q hq
  · rw [f4 _ (by omega)]
    exact d1 q hq
  · rw [f3 hw i, d3 hw i, c3 hw i, ← hK5, up_same (b5 hw), up_same (b4 hw), up_same (b3 hw), up_same (b2 hw), up_same (b1 hw)]
  · rw [f4 i (by omega), d4 i (by omega), c4 i (by omega), ← hK5, up_n (by omega), up_n (by omega), up_n (by omega), up_n (by omega), up_n (by omega)]
theorem cl_copyS {c : Int32} (tb b td d ts s : Nat → Int32) : ∃ tb' td' ts', f_X8_copyFrom c tb b td d ts s = some (c, tb', td', ts') ∧ ∀ i, i < 6 → tb' i = b i ∧ td' i = d i ∧ ts' i = vp_nar .boolean (s i) := by
  have key : ∀ (e i fu : Nat) (tb td ts : Nat → Int32), i + e = 6 → e < fu → (∀ j, j < i → tb j = b j ∧ td j = d j ∧ ts j = vp_nar .boolean (s j)) → ∃ tb' td' ts', f_X8_copyFrom_2 fu (nI i) c tb b td d ts s = some (c, tb', td', ts') ∧ ∀ i, i < 6 → tb' i = b i ∧ td' i = d i ∧ ts' i = vp_nar .boolean (s i) := by
    intro e
    induction e with
    | zero =>
      intro i fu tb td ts hi hf hh
      obtain ⟨f, rfl⟩ : ∃ f, fu = f + 1 := ⟨fu - 1, by omega⟩
      refine ⟨tb, td, ts, ?_, fun j hj => hh j (by omega)⟩
      rw [f_X8_copyFrom_2, if_pos (show (6 : Int32) ≤ nI i from nI_le (a := 6) (by omega) (by omega))]
    | succ e ih =>
      intro i fu tb td ts hi hf hh
      obtain ⟨f, rfl⟩ : ∃ f, fu = f + 1 := ⟨fu - 1, by omega⟩
      have i6 : ¬ (nI i < 0 ∨ 6 ≤ (nI i).toNatClampNeg) := nI_in (by omega) (by omega)
      rw [f_X8_copyFrom_2, if_neg (show ¬ (6 : Int32) ≤ nI i from nI_ge (b := 6) (by omega) (by omega)), if_neg i6, if_neg i6, if_neg i6, if_neg i6, if_neg i6, if_neg i6, nI_clamp (by omega), nI_1]
      exact ih (i + 1) f _ _ _ (by omega) (by omega) (fun j hj => by
        by_cases e : j = i
        · subst e; rw [up_s, up_s, up_s]; exact ⟨rfl, rfl, rfl⟩
        · rw [up_n e, up_n e, up_n e]; exact hh j (by omega))
  exact key 6 0 fuel tb td ts (by omega) (fuel_big (by omega)) (fun j hj => absurd hj (Nat.not_lt_zero j))
theorem cl_copyW {c : Int32} (sg tsg ln tln : Nat → Int32) : ∃ tsg' tln', f_X10_copyFrom c sg tsg ln tln = some (c, tsg', tln') ∧ (∀ i, i < 64 → tsg' i = sg i) ∧ ∀ i, i < 8 → tln' i = ln i := by
  refine ⟨_, _, rfl, fun i hi => ?_, fun i hi => ?_⟩
  · rw [show ((0 : Int32)).toNatClampNeg = 0 from nI_clamp (n := 0) (by omega), show ((64 : Int32)).toNatClampNeg = 64 from nI_clamp (n := 64) (by omega), pk_cpy_in (by omega) (by omega), Nat.sub_zero, Nat.zero_add]
  · rw [show ((0 : Int32)).toNatClampNeg = 0 from nI_clamp (n := 0) (by omega), show ((8 : Int32)).toNatClampNeg = 8 from nI_clamp (n := 8) (by omega), pk_cpy_in (by omega) (by omega), Nat.sub_zero, Nat.zero_add]
theorem CH.cong {n t dp : Nat} {wt : Nat → Nat} {a : AS} {pl de tu : Int32} {wh le wa : Int64} {mpl mde mse mpl' mde' mse' : Int32} {mpa mho mle mwa mpa' mho' mle' mwa' : Nat → Int32} (h : CH n t dp wt a pl de tu wh le wa mpl mde mse mpa mho mle mwa) (e1 : mpl' = mpl) (e2 : mde' = mde) (e3 : mse' = mse) (e4 : ∀ q, q < 9 → mpa' q = mpa q ∧ mho' q = mho q ∧ mle' q = mle q ∧ mwa' q = mwa q) : CH n t dp wt a pl de tu wh le wa mpl' mde' mse' mpa' mho' mle' mwa' := by
  subst e1 e2 e3
  obtain ⟨h1, h2, m1, m2, m3, ⟨p1, ⟨q1, q2⟩, q3⟩, m5⟩ := h
  have h9 := h1.1.2.1
  refine ⟨h1, h2, m1, m2, m3, ⟨p1, ⟨fun p hp => ?_, fun p hp => ?_⟩, fun p hp => ?_⟩, fun d hd => ?_⟩
  · rw [(e4 p (by omega)).1]; exact q1 p hp
  · have := p1.1 p hp
    rw [(e4 _ (by omega)).2.1]; exact q2 p hp
  · have := p1.1 p hp
    rw [(e4 _ (by omega)).2.2.1]; exact q3 p hp
  · rw [(e4 d (by omega)).2.2.2]; exact m5 d hd
theorem WRd.cong {w : Nat} {W : Nat → List Bool} {cc cc' mc mc' : Int32} {sg sg' ln ln' mw mw' : Nat → Int32} (h : WRd w W cc sg ln mc mw) (e1 : cc' = cc) (e2 : ∀ i, i < 64 → sg' i = sg i) (e3 : ∀ i, i < 8 → ln' i = ln i) (e4 : mc' = mc) (e5 : ∀ i, i < 8 → mw' i = mw i) : WRd w W cc' sg' ln' mc' mw' := by
  subst e1 e4
  obtain ⟨h1, h2, h3, h4, h5⟩ := h
  refine ⟨h1, h2, h3, fun k hk => ?_, h5⟩
  obtain ⟨g1, g2, g3, g4, g5⟩ := h4 k hk
  refine ⟨g1, g2, by rw [e3 k (by omega)]; exact g3, fun i hi => by rw [e2 _ (by omega)]; exact g4 i hi, by rw [e5 k (by omega)]; exact g5⟩
theorem nar01 (b : Bool) : vp_nar .boolean (b01 b) = b01 b := by cases b <;> decide
theorem SI.cong {n c : Nat} {bh dr : Nat → Nat} {sv : Nat → Bool} {cc cc' mc mc' : Int32} {b d s b' d' s' mb md ms mb' md' ms' : Nat → Int32} (h : SI n c bh dr sv cc b d s mc mb md ms) (e1 : cc' = cc) (e2 : ∀ i, i < 6 → b' i = b i ∧ d' i = d i ∧ (s' i = s i ∨ s' i = vp_nar .boolean (s i))) (e3 : mc' = mc) (e4 : ∀ i, i < 6 → mb' i = mb i ∧ md' i = md i ∧ ms' i = ms i) : SI n c bh dr sv cc' b' d' s' mc' mb' md' ms' := by
  subst e1 e3
  obtain ⟨h1, h2, h3, h4⟩ := h
  refine ⟨h1, h2, h3, fun i hi => ?_⟩
  obtain ⟨⟨g1, g2, g3⟩, ⟨g4, g5, g6⟩, g7, g8⟩ := h4 i hi
  obtain ⟨x1, x2, x3⟩ := e2 i (by omega)
  obtain ⟨y1, y2, y3⟩ := e4 i (by omega)
  refine ⟨⟨x1.trans g1, y1.trans g2, g3⟩, ⟨x2.trans g4, y2.trans g5, g6⟩, ?_, y3.trans g8⟩
  rcases x3 with x3 | x3
  · exact x3.trans g7
  · rw [x3, g7, nar01]
