/-! DOUBT: two rows of WORDS, one ahead of the other one by s; the longer one has m signs -/
def RD (w : Nat) (W : Nat → List Bool) : Nat → List Bool → Nat → Prop
  | 0, s, m => ∃ a b, a < w ∧ b < w ∧ a ≠ b ∧ W a = W b ++ s ∧ m = (W a).length
  | n + 1, s, m => ∃ s' m', RD w W n s' m' ∧ s' ≠ [] ∧ ((∃ k, k < w ∧ W k = s' ++ s ∧ m = m' + s.length) ∨ (∃ k, k < w ∧ s' = W k ++ s ∧ m = m'))
/-- the fewest signs of two rows that come together -/
def DS (w : Nat) (W : Nat → List Bool) (r : Int32) : Prop := (∃ v, v < 1000 ∧ r = nI v ∧ (∃ n, RD w W n [] v) ∧ ∀ n m, RD w W n [] m → v ≤ m) ∨ (r = -6 ∧ ∀ n m, RD w W n [] m → 1000 ≤ m)
theorem DS_uniq {w : Nat} {W : Nat → List Bool} {r r' : Int32} (h : DS w W r) (h' : DS w W r') : r = r' := by
  rcases h with ⟨v, v1, v2, ⟨n, v3⟩, v4⟩ | ⟨v1, v2⟩
  · rcases h' with ⟨u, u1, u2, ⟨n', u3⟩, u4⟩ | ⟨u1, u2⟩
    · have a1 := v4 _ _ u3
      have a2 := u4 _ _ v3
      rw [v2, u2, show v = u by omega]
    · have := u2 _ _ v3
      omega
  · rcases h' with ⟨u, u1, u2, ⟨n', u3⟩, u4⟩ | ⟨u1, u2⟩
    · have := v2 _ _ u3
      omega
    · rw [v1, u1]
theorem RD_len {w : Nat} {W : Nat → List Bool} (h8 : ∀ k, k < w → (W k).length ≤ 8) : ∀ (n : Nat) (s : List Bool) (m : Nat), RD w W n s m → s.length ≤ 8 := by
  intro n
  induction n with
  | zero =>
    rintro s m ⟨a, b, ha, hb, -, e, -⟩
    have := h8 a ha
    rw [e, List.length_append] at this
    omega
  | succ n ih =>
    rintro s m ⟨s', m', h, -, q⟩
    rcases q with ⟨k, hk, e, -⟩ | ⟨k, hk, e, -⟩
    · have := h8 k hk
      rw [e, List.length_append] at this
      omega
    · have := ih s' m' h
      rw [e, List.length_append] at this
      omega
theorem wcode_sur (c : Nat) : 1 ≤ c → ∃ l, wcode l = c := by
  induction c using Nat.strongRecOn with
  | ind c ih =>
    intro h
    by_cases q : c = 1
    · exact ⟨[], q.symm⟩
    · obtain ⟨l, e⟩ := ih (c / 2) (by omega) (by omega)
      refine ⟨l ++ [decide (c % 2 = 1)], ?_⟩
      rw [wcode_app, e]
      by_cases q2 : c % 2 = 1
      · rw [decide_eq_true q2, if_pos rfl]; omega
      · rw [decide_eq_false q2, if_neg (by decide)]; omega
theorem wcode_le8 {l : List Bool} (h : wcode l < 512) : l.length ≤ 8 := by
  rcases Nat.lt_or_ge 8 l.length with q | q
  · have h1 := (wcode_lt l).1
    have h2 : 2 ^ 9 ≤ 2 ^ l.length := Nat.pow_le_pow_right (by omega) q
    omega
  · exact q
theorem wcode_ne {l : List Bool} (h : l ≠ []) : 2 ≤ wcode l := by
  have h1 := (wcode_lt l).1
  have h2 : 0 < l.length := List.length_pos_iff.mpr h
  have h3 : 2 ^ 1 ≤ 2 ^ l.length := Nat.pow_le_pow_right (by omega) h2
  omega
/-- the reference's table, by numbers of rows -/
def TB (sg : Nat → Int32) (T : Nat → Nat) : Prop := ∀ c, c < 512 → sg c = nI (T c) ∧ T c ≤ 1000
def SN (w : Nat) (W : Nat → List Bool) (T : Nat → Nat) : Prop := ∀ l : List Bool, l.length ≤ 8 → T (wcode l) < 1000 → ∃ n, RD w W n l (T (wcode l))
def tput (T : Nat → Nat) (c v : Nat) : Nat → Nat := fun k => if k = c then v else T k
theorem tput_le {T : Nat → Nat} {c v : Nat} (h : v ≤ T c) (k : Nat) : tput T c v k ≤ T k := by
  unfold tput
  by_cases q : k = c
  · rw [if_pos q, q]; exact h
  · rw [if_neg q]; exact Nat.le_refl _
theorem ml_fewer0 (sg : Nat → Int32) (x : Int32) : f_X12_fewer sg (lcI none) x = some (0, sg) := by
  show f_X12_fewer sg (-6) x = some (0, sg)
  unfold f_X12_fewer
  rw [if_pos (show (-6 : Int32) < 0 by decide)]
  unfold f_X12_fewer_18 f_X12_fewer_19
  rw [if_pos rfl, if_neg (fun q => q (Or.inl rfl))]
theorem ml_fewer1 {T : Nat → Nat} {sg : Nat → Int32} (hT : TB sg T) {r : List Bool} (hr : r.length ≤ 8) {m : Nat} (hm : m < 100000) : (f_X12_fewer sg (lcI (some r)) (nI m) = some (0, sg) ∧ T (wcode r) ≤ m) ∨ (m < T (wcode r) ∧ f_X12_fewer sg (lcI (some r)) (nI m) = some (1, upd sg (wcode r) (nI m))) := by
  show (f_X12_fewer sg (nI (wcode r)) (nI m) = some (0, sg) ∧ T (wcode r) ≤ m) ∨ (m < T (wcode r) ∧ f_X12_fewer sg (nI (wcode r)) (nI m) = some (1, upd sg (wcode r) (nI m)))
  have hc := wcode_8 hr
  obtain ⟨t1, t2⟩ := hT (wcode r) hc.2
  unfold f_X12_fewer
  rw [if_neg (nI_pos (by omega)), if_neg (nI_in (by omega) (by omega)), nI_clamp (by omega), t1]
  by_cases q : T (wcode r) ≤ m
  · refine Or.inl ⟨?_, q⟩
    rw [if_pos (nI_le q (by omega))]
    unfold f_X12_fewer_18 f_X12_fewer_19
    rw [if_pos rfl, if_neg (fun q => q (Or.inl rfl))]
  · refine Or.inr ⟨by omega, ?_⟩
    rw [if_neg (nI_ge (by omega) (by omega))]
    unfold f_X12_fewer_19
    rw [if_neg (show ¬ (1 : Int32) = 0 by decide), if_neg (nI_in (by omega) (by omega)), if_neg (fun q => q (Or.inr rfl)), nI_clamp (by omega)]
theorem ml_fw {w : Nat} {W : Nat → List Bool} {T : Nat → Nat} {sg : Nat → Int32} (hT : TB sg T) (hS : SN w W T) (o : Option (List Bool)) (x : Int32) (v : List Bool → Nat) (ho : ∀ r, o = some r → r.length ≤ 8 ∧ x = nI (v r) ∧ v r < 100000 ∧ ∃ n, RD w W n r (v r)) :
    ∃ y sg1 T1, f_X12_fewer sg (lcI o) x = some (y, sg1) ∧ TB sg1 T1 ∧ SN w W T1 ∧ (∀ c, T1 c ≤ T c) ∧ ((y = 0 ∧ sg1 = sg ∧ T1 = T ∧ ∀ r, o = some r → T (wcode r) ≤ v r) ∨ (y = 1 ∧ fb_sm T1 512 < fb_sm T 512 ∧ ∀ r, o = some r → T1 (wcode r) ≤ v r)) := by
  cases o with
  | none => exact ⟨0, sg, T, ml_fewer0 sg x, hT, hS, fun _ => Nat.le_refl _, Or.inl ⟨rfl, rfl, rfl, fun r h => by cases h⟩⟩
  | some r =>
    obtain ⟨r1, r2, r3, n, r4⟩ := ho r rfl
    have hc := wcode_8 r1
    rw [r2]
    rcases ml_fewer1 hT r1 r3 with ⟨e, q⟩ | ⟨q, e⟩
    · exact ⟨0, sg, T, e, hT, hS, fun _ => Nat.le_refl _, Or.inl ⟨rfl, rfl, rfl, fun r' h => by cases h; exact q⟩⟩
    · have hsum := fb_sm_upd T (v r) (i := wcode r) (n := 512) hc.2
      refine ⟨1, _, tput T (wcode r) (v r), e, fun c hcc => ?_, fun l hl hlt => ?_, tput_le (Nat.le_of_lt q), Or.inr ⟨rfl, ?_, fun r' h => ?_⟩⟩
      · have h2 := hT c hcc
        have h3 := (hT (wcode r) hc.2).2
        unfold tput
        by_cases e2 : c = wcode r
        · rw [if_pos e2, e2, up_s]; exact ⟨rfl, by omega⟩
        · rw [if_neg e2, up_n e2]; exact h2
      · by_cases e2 : wcode l = wcode r
        · obtain rfl := wcode_inj e2
          have e3 : tput T (wcode l) (v l) (wcode l) = v l := if_pos rfl
          rw [e3]
          exact ⟨n, r4⟩
        · have e3 : tput T (wcode r) (v r) (wcode l) = T (wcode l) := if_neg e2
          rw [e3] at hlt ⊢
          exact hS l hl hlt
      · show fb_sm (fun k => if k = wcode r then v r else T k) 512 < fb_sm T 512
        omega
      · cases h
        show (if wcode r = wcode r then v r else T (wcode r)) ≤ v r
        rw [if_pos rfl]
        exact Nat.le_refl _
/-- the first rows: one WORD begins with the other one -/
def SC (w : Nat) (W : Nat → List Bool) (T : Nat → Nat) (a : Nat) : Prop := ∀ b, b < w → a ≠ b → ∀ s, W a = W b ++ s → T (wcode s) ≤ (W a).length
theorem ml_36 {w : Nat} {W : Nat → List Bool} {mw : Nat → Int32} (w8 : w ≤ 8) (h4 : ∀ k, k < w → (W k).length ≤ 8 ∧ mw k = nI (wcode (W k))) (k26 : Int32 → Int32 → (Nat → Int32) → (Nat → Int32) → Option (Int32 × (Nat → Int32))) {a : Nat} (ha : a < w) : ∀ (d b fu : Nat) (sg : Nat → Int32) (T : Nat → Nat), b + d = w → d < fu → TB sg T → SN w W T → (∀ b', b' < b → a ≠ b' → ∀ s, W a = W b' ++ s → T (wcode s) ≤ (W a).length) →
    ∃ sg' T', f_X12_doubt_36 k26 fu (nI a) (nI b) (nI w) sg mw = k26 (nI (a + 1)) (nI w) sg' mw ∧ TB sg' T' ∧ SN w W T' ∧ (∀ c, T' c ≤ T c) ∧ SC w W T' a := by
  intro d
  induction d with
  | zero =>
    intro b fu sg T hb hf hT hS hh
    obtain ⟨f, rfl⟩ : ∃ f, fu = f + 1 := ⟨fu - 1, by omega⟩
    refine ⟨sg, T, ?_, hT, hS, fun _ => Nat.le_refl _, fun b' hb' => hh b' (by omega)⟩
    rw [f_X12_doubt_36, if_pos (nI_le (by omega) (by omega)), nI_1]
  | succ d ih =>
    intro b fu sg T hb hf hT hS hh
    obtain ⟨f, rfl⟩ : ∃ f, fu = f + 1 := ⟨fu - 1, by omega⟩
    obtain ⟨a2, a5⟩ := h4 a ha
    obtain ⟨b2, b5⟩ := h4 b (by omega)
    rw [f_X12_doubt_36, if_neg (nI_ge (by omega) (by omega))]
    unfold f_X12_doubt_78
    rw [nI_1]
    by_cases q : a = b
    · rw [if_pos (by rw [q])]
      exact ih (b + 1) f sg T (by omega) (by omega) hT hS (fun b' hb' hn => by
        by_cases e : b' = b
        · exact absurd (q.trans e.symm) hn
        · exact hh b' (by omega) hn)
    · rw [if_neg (fun e => q ((nI_eq (by omega) (by omega)).mp e)), if_neg (nI_in (by omega) (by omega)), if_neg (nI_in (by omega) (by omega)), nI_clamp (n := a) (by omega), nI_clamp (n := b) (by omega), a5, b5, ml_leftOf a2 b2, Option.bind_some, if_neg (gin (by omega) (by omega)), ml_longOf (by omega), Option.bind_some]
      obtain ⟨y, sg1, T1, e1, hT1, hS1, hle, hor⟩ := ml_fw hT hS (leftL (W a) (W b)) (nI (W a).length) (fun _ => (W a).length) (fun r hr => by
        have e := leftL_some.mp hr
        have hl := congrArg List.length e
        rw [List.length_append] at hl
        exact ⟨by omega, rfl, by omega, 0, a, b, ha, by omega, q, e, rfl⟩)
      rw [e1, Option.bind_some]
      have hcov : ∀ s, W a = W b ++ s → T1 (wcode s) ≤ (W a).length := fun s hs => by
        have := leftL_some.mpr hs
        rcases hor with ⟨-, -, hTT, h5⟩ | ⟨-, -, h5⟩
        · rw [hTT]; exact h5 s this
        · exact h5 s this
      obtain ⟨sg2, T2, g1, g2, g3, g4, g5⟩ := ih (b + 1) f sg1 T1 (by omega) (by omega) hT1 hS1 (fun b' hb' hn s hs => by
        by_cases e : b' = b
        · subst e; exact hcov s hs
        · exact Nat.le_trans (hle _) (hh b' (by omega) hn s hs))
      exact ⟨sg2, T2, g1, g2, g3, fun c => Nat.le_trans (g4 c) (hle c), g5⟩
theorem ml_26 {w : Nat} {W : Nat → List Bool} {mw : Nat → Int32} (w8 : w ≤ 8) (h4 : ∀ k, k < w → (W k).length ≤ 8 ∧ mw k = nI (wcode (W k))) : ∀ (d a fu : Nat) (sg : Nat → Int32) (T : Nat → Nat), a + d = w → d < fu → TB sg T → SN w W T → (∀ a', a' < a → SC w W T a') →
    ∃ sg' T', f_X12_doubt_26 fu (nI a) (nI w) sg mw = f_X12_doubt_92 fuel 1 (nI w) sg' mw ∧ TB sg' T' ∧ SN w W T' ∧ ∀ a', a' < w → SC w W T' a' := by
  intro d
  induction d with
  | zero =>
    intro a fu sg T ha hf hT hS hh
    obtain ⟨f, rfl⟩ : ∃ f, fu = f + 1 := ⟨fu - 1, by omega⟩
    refine ⟨sg, T, ?_, hT, hS, fun a' h => hh a' (by omega)⟩
    rw [f_X12_doubt_26, if_pos (nI_le (by omega) (by omega))]
  | succ d ih =>
    intro a fu sg T ha hf hT hS hh
    obtain ⟨f, rfl⟩ : ∃ f, fu = f + 1 := ⟨fu - 1, by omega⟩
    obtain ⟨sg1, T1, e1, hT1, hS1, hle, hsc⟩ := ml_36 w8 h4 (f_X12_doubt_26 f) (show a < w by omega) w 0 fuel sg T (by omega) (fuel_big (by omega)) hT hS (fun b' hb' => absurd hb' (Nat.not_lt_zero b'))
    rw [show nI 0 = (0 : Int32) from rfl] at e1
    rw [f_X12_doubt_26, if_neg (nI_ge (by omega) (by omega)), e1]
    exact ih (a + 1) f sg1 T1 (by omega) (by omega) hT1 hS1 (fun a' ha' => by
      by_cases e : a' = a
      · subst e; exact hsc
      · exact fun b hb hn s hs => Nat.le_trans (hle _) (hh a' (by omega) b hb hn s hs))
/-- nothing is fewer by WORD k behind l -/
def dt_RL (W : Nat → List Bool) (T : Nat → Nat) (l : List Bool) (k : Nat) : Prop := T (wcode l) < 1000 → (∀ r, W k = l ++ r → T (wcode r) ≤ T (wcode l) + r.length) ∧ (∀ r, l = W k ++ r → T (wcode r) ≤ T (wcode l))
def PI (w : Nat) (W : Nat → List Bool) (sg0 : Nat → Int32) (T0 : Nat → Nat) (x1 : Int32) (sg : Nat → Int32) (T : Nat → Nat) (rel : Prop) : Prop := TB sg T ∧ SN w W T ∧ (∀ c, T c ≤ T0 c) ∧ ((x1 = 0 ∧ sg = sg0 ∧ T = T0 ∧ rel) ∨ (x1 = 1 ∧ fb_sm T 512 < fb_sm T0 512))
theorem ml_192 {w k : Nat} {W : Nat → List Bool} {mw : Nat → Int32} {l : List Bool} (k92 k100 k109) (hk : k < w) (hl : l.length ≤ 8) (hne : l ≠ []) {sg : Nat → Int32} {T : Nat → Nat} (hT : TB sg T) (hS : SN w W T) (ht : T (wcode l) < 1000) (y0 : Int32) (hy : y0 = 0 ∨ y0 = 1) :
    ∃ y1 sg2 T2, f_X12_doubt_192 k92 k100 k109 (nI (wcode l)) (nI k) (lcI (leftL l (W k))) y0 (nI w) sg mw = k109 y1 (nI (wcode l)) (nI (k + 1)) (nI w) sg2 mw ∧ TB sg2 T2 ∧ SN w W T2 ∧ (∀ c, T2 c ≤ T c) ∧ ((y1 = y0 ∧ sg2 = sg ∧ T2 = T ∧ ∀ r, l = W k ++ r → T (wcode r) ≤ T (wcode l)) ∨ (y1 = 1 ∧ fb_sm T2 512 < fb_sm T 512)) := by
  have hc := wcode_8 hl
  obtain ⟨n, hn⟩ := hS l hl ht
  obtain ⟨y, sg1, T1, e1, hT1, hS1, hle, hor⟩ := ml_fw hT hS (leftL l (W k)) (nI (T (wcode l))) (fun _ => T (wcode l)) (fun r hr => by
    have e := leftL_some.mp hr
    have hl2 := congrArg List.length e
    rw [List.length_append] at hl2
    exact ⟨by omega, rfl, by omega, n + 1, l, T (wcode l), hn, hne, Or.inr ⟨k, hk, e, rfl⟩⟩)
  unfold f_X12_doubt_192 f_X12_doubt_212 f_X12_doubt_217
  rw [if_neg (nI_in (by omega) (by omega)), nI_clamp (by omega), (hT _ hc.2).1, e1, Option.bind_some, nI_1]
  rcases hor with ⟨y0', s0, t0, h5⟩ | ⟨y1', s1, h5⟩
  · subst y0' s0 t0
    rw [if_pos rfl]
    refine ⟨y0, sg1, T1, ?_, hT1, hS1, fun _ => Nat.le_refl _, Or.inl ⟨rfl, rfl, rfl, fun r hr => h5 r (leftL_some.mpr hr)⟩⟩
    rcases hy with rfl | rfl
    · rw [if_pos rfl]
    · rw [if_neg (show ¬ (1 : Int32) = 0 by decide)]
  · subst y1'
    rw [if_neg (show ¬ (1 : Int32) = 0 by decide)]
    exact ⟨1, sg1, T1, rfl, hT1, hS1, hle, Or.inr ⟨rfl, s1⟩⟩
theorem ml_109 {w : Nat} {W : Nat → List Bool} {mw : Nat → Int32} (w8 : w ≤ 8) (h4 : ∀ k, k < w → (W k).length ≤ 8 ∧ mw k = nI (wcode (W k))) {l : List Bool} (hl : l.length ≤ 8) (hne : l ≠ []) (k92 k100) (sg0 : Nat → Int32) (T0 : Nat → Nat) (rel : Prop) : ∀ (d k fu : Nat) (x1 : Int32) (sg : Nat → Int32) (T : Nat → Nat), k + d = w → d < fu → PI w W sg0 T0 x1 sg T (rel ∧ ∀ k', k' < k → dt_RL W T0 l k') →
    ∃ x1' sg' T', f_X12_doubt_109 k92 k100 fu x1 (nI (wcode l)) (nI k) (nI w) sg mw = k100 x1' (nI (wcode l + 1)) (nI w) sg' mw ∧ PI w W sg0 T0 x1' sg' T' (rel ∧ ∀ k', k' < w → dt_RL W T0 l k') := by
  have hc := wcode_8 hl
  intro d
  induction d with
  | zero =>
    intro k fu x1 sg T hk hf hP
    obtain ⟨f, rfl⟩ : ∃ f, fu = f + 1 := ⟨fu - 1, by omega⟩
    obtain rfl : k = w := by omega
    refine ⟨x1, sg, T, ?_, hP⟩
    rw [f_X12_doubt_109, if_pos (nI_le (by omega) (by omega))]
    unfold f_X12_doubt_224
    rw [nI_1]
  | succ d ih =>
    intro k fu x1 sg T hk hf hP
    obtain ⟨f, rfl⟩ : ∃ f, fu = f + 1 := ⟨fu - 1, by omega⟩
    obtain ⟨hT, hS, hle0, hor⟩ := hP
    obtain ⟨k2, k5⟩ := h4 k (by omega)
    have htl := hT (wcode l) hc.2
    rw [f_X12_doubt_109, if_neg (nI_ge (by omega) (by omega)), if_neg (nI_in (by omega) (by omega)), nI_clamp (n := wcode l) (by omega), htl.1]
    by_cases q : 1000 ≤ T (wcode l)
    · rw [if_pos (show (1000 : Int32) ≤ nI (T (wcode l)) from nI_le (a := 1000) q (by omega))]
      unfold f_X12_doubt_224
      rw [nI_1]
      refine ⟨x1, sg, T, rfl, hT, hS, hle0, ?_⟩
      rcases hor with ⟨e1, e2, e3, e4⟩ | r
      · exact Or.inl ⟨e1, e2, e3, e4.1, fun k' _ ht => by rw [e3] at q; omega⟩
      · exact Or.inr r
    · rw [if_neg (show ¬ (1000 : Int32) ≤ nI (T (wcode l)) from nI_ge (b := 1000) (by omega) (by omega)), if_neg (nI_in (by omega) (by omega)), nI_clamp (n := k) (by omega), k5, ml_leftOf k2 hl, Option.bind_some, if_neg (gin (by omega) (by omega)), ml_leftOf hl k2, Option.bind_some, if_neg (gin (by omega) (by omega)), if_neg (gin (by omega) (by omega)), ml_longOf (by omega), Option.bind_some, ml_longOf (by omega), Option.bind_some, nI_add]
      obtain ⟨n, hn⟩ := hS l hl (by omega)
      obtain ⟨y, sg1, T1, e1, hT1, hS1, hle1, hor1⟩ := ml_fw hT hS (leftL (W k) l) (nI (T (wcode l) + (W k).length) - nI l.length) (fun r => T (wcode l) + r.length) (fun r hr => by
        have e := leftL_some.mp hr
        have hl2 := congrArg List.length e
        rw [List.length_append] at hl2
        refine ⟨by omega, ?_, by omega, n + 1, l, T (wcode l), hn, hne, Or.inl ⟨k, by omega, e, rfl⟩⟩
        rw [pk_sub (by omega), show T (wcode l) + (W k).length - l.length = T (wcode l) + r.length by omega])
      rw [e1, Option.bind_some]
      unfold f_X12_doubt_187
      have hx : x1 = 0 ∨ x1 = 1 := hor.imp (fun h => h.1) (fun h => h.1)
      have ht1 : T1 (wcode l) < 1000 := by have := hle1 (wcode l); omega
      -- what the second one leaves
      have go : ∀ y0 : Int32, y0 = 0 ∨ y0 = 1 → ((y = 0 ∧ y0 = x1) ∨ (y = 1 ∧ y0 = 1)) → ∃ x1' sg' T', f_X12_doubt_192 k92 k100 (f_X12_doubt_109 k92 k100 f) (nI (wcode l)) (nI k) (lcI (leftL l (W k))) y0 (nI w) sg1 mw = k100 x1' (nI (wcode l + 1)) (nI w) sg' mw ∧ PI w W sg0 T0 x1' sg' T' (rel ∧ ∀ k', k' < w → dt_RL W T0 l k') := by
        intro y0 hy hyy
        obtain ⟨y1, sg2, T2, e2, hT2, hS2, hle2, hor2⟩ := ml_192 (mw := mw) k92 k100 (f_X12_doubt_109 k92 k100 f) (show k < w by omega) hl hne hT1 hS1 ht1 y0 hy
        obtain ⟨x1', sg', T', e3, h3⟩ := ih (k + 1) f y1 sg2 T2 (by omega) (by omega) ⟨hT2, hS2, fun c => Nat.le_trans (hle2 c) (Nat.le_trans (hle1 c) (hle0 c)), by
          rcases hor with ⟨p1, p2, p3, p4⟩ | ⟨p1, p2⟩
          · rcases hor1 with ⟨a1, a2, a3, a4⟩ | ⟨a1, a2, a3⟩
            · rcases hor2 with ⟨b1, b2, b3, b4⟩ | ⟨b1, b2⟩
              · refine Or.inl ⟨?_, b2.trans (a2.trans p2), b3.trans (a3.trans p3), p4.1, fun k' hk' => ?_⟩
                · rcases hyy with ⟨-, c2⟩ | ⟨c1, -⟩
                  · rw [b1, c2, p1]
                  · exact absurd (a1.symm.trans c1) (by decide)
                · by_cases e : k' = k
                  · subst e
                    intro _
                    rw [a3, p3] at b4
                    rw [p3] at a4
                    exact ⟨fun r hr => a4 r (leftL_some.mpr hr), b4⟩
                  · exact p4.2 k' (by omega)
              · exact Or.inr ⟨b1, by rw [a3, p3] at b2; exact b2⟩
            · refine Or.inr ?_
              rw [p3] at a2
              rcases hor2 with ⟨b1, b2, b3, b4⟩ | ⟨b1, b2⟩
              · refine ⟨?_, by rw [b3]; exact a2⟩
                rcases hyy with ⟨c1, -⟩ | ⟨-, c2⟩
                · exact absurd (c1.symm.trans a1) (by decide)
                · rw [b1, c2]
              · exact ⟨b1, Nat.lt_trans b2 a2⟩
          · have y01 : y0 = 1 := by
              rcases hyy with ⟨-, c2⟩ | ⟨-, c2⟩
              · rw [c2, p1]
              · exact c2
            have s1 : fb_sm T1 512 < fb_sm T0 512 := by
              rcases hor1 with ⟨a1, a2, a3, a4⟩ | ⟨a1, a2, a3⟩
              · rw [a3]; exact p2
              · exact Nat.lt_trans a2 p2
            rcases hor2 with ⟨b1, b2, b3, b4⟩ | ⟨b1, b2⟩
            · exact Or.inr ⟨b1.trans y01, by rw [b3]; exact s1⟩
            · exact Or.inr ⟨b1, Nat.lt_trans b2 s1⟩⟩
        exact ⟨x1', sg', T', e2.trans e3, h3⟩
      rcases hor1 with ⟨a1, -, -, -⟩ | ⟨a1, -, -⟩
      · subst a1
        rw [if_pos rfl]
        rcases hx with rfl | rfl
        · rw [if_pos rfl]
          exact go 0 (Or.inl rfl) (Or.inl ⟨rfl, rfl⟩)
        · rw [if_neg (show ¬ (1 : Int32) = 0 by decide)]
          exact go 1 (Or.inr rfl) (Or.inl ⟨rfl, rfl⟩)
      · subst a1
        rw [if_neg (show ¬ (1 : Int32) = 0 by decide)]
        exact go 1 (Or.inr rfl) (Or.inr ⟨rfl, rfl⟩)
theorem ml_100 {w : Nat} {W : Nat → List Bool} {mw : Nat → Int32} (w8 : w ≤ 8) (h4 : ∀ k, k < w → (W k).length ≤ 8 ∧ mw k = nI (wcode (W k))) (k92) (sg0 : Nat → Int32) (T0 : Nat → Nat) : ∀ (d c fu : Nat) (x1 : Int32) (sg : Nat → Int32) (T : Nat → Nat), c + d = 512 → 2 ≤ c → d < fu → PI w W sg0 T0 x1 sg T (∀ l : List Bool, l.length ≤ 8 → l ≠ [] → wcode l < c → ∀ k, k < w → dt_RL W T0 l k) →
    ∃ x1' sg' T', f_X12_doubt_100 k92 fu x1 (nI c) (nI w) sg mw = k92 x1' (nI w) sg' mw ∧ PI w W sg0 T0 x1' sg' T' (∀ l : List Bool, l.length ≤ 8 → l ≠ [] → ∀ k, k < w → dt_RL W T0 l k) := by
  intro d
  induction d with
  | zero =>
    intro c fu x1 sg T hc h2 hf hP
    obtain ⟨f, rfl⟩ : ∃ f, fu = f + 1 := ⟨fu - 1, by omega⟩
    obtain ⟨p1, p2, p3, p4⟩ := hP
    refine ⟨x1, sg, T, ?_, p1, p2, p3, p4.imp (fun ⟨q1, q2, q3, q4⟩ => ⟨q1, q2, q3, fun l hl hn => q4 l hl hn (by have := wcode_8 hl; omega)⟩) id⟩
    rw [f_X12_doubt_100, if_pos (show (512 : Int32) ≤ nI c from nI_le (a := 512) (by omega) (by omega))]
  | succ d ih =>
    intro c fu x1 sg T hc h2 hf hP
    obtain ⟨f, rfl⟩ : ∃ f, fu = f + 1 := ⟨fu - 1, by omega⟩
    obtain ⟨l, rfl⟩ := wcode_sur c (by omega)
    have hl : l.length ≤ 8 := wcode_le8 (by omega)
    have hne : l ≠ [] := fun e => by rw [e] at h2; exact absurd h2 (by decide)
    obtain ⟨p1, p2, p3, p4⟩ := hP
    obtain ⟨x1', sg', T', e1, g1, g2, g3, g4⟩ := ml_109 w8 h4 hl hne k92 (f_X12_doubt_100 k92 f) sg0 T0 (∀ l' : List Bool, l'.length ≤ 8 → l' ≠ [] → wcode l' < wcode l → ∀ k, k < w → dt_RL W T0 l' k) w 0 fuel x1 sg T (by omega) (fuel_big (by omega)) ⟨p1, p2, p3, p4.imp (fun ⟨q1, q2, q3, q4⟩ => ⟨q1, q2, q3, q4, fun k' hk' => absurd hk' (Nat.not_lt_zero k')⟩) id⟩
    rw [show nI 0 = (0 : Int32) from rfl] at e1
    rw [f_X12_doubt_100, if_neg (show ¬ (512 : Int32) ≤ nI (wcode l) from nI_ge (b := 512) (by omega) (by omega)), e1]
    exact ih (wcode l + 1) f x1' sg' T' (by omega) (by omega) (by omega) ⟨g1, g2, g3, g4.imp (fun ⟨q1, q2, q3, q4, q5⟩ => ⟨q1, q2, q3, fun l' hl' hn' hlt k hk => by
      by_cases e : wcode l' = wcode l
      · rw [wcode_inj e]; exact q5 k hk
      · exact q4 l' hl' hn' (by omega) k hk⟩) id⟩
theorem ml_end {w : Nat} {W : Nat → List Bool} {T : Nat → Nat} {sg : Nat → Int32} (h8 : ∀ k, k < w → (W k).length ≤ 8) (hT : TB sg T) (hS : SN w W T) (hC : ∀ a, a < w → SC w W T a) (hR : ∀ l : List Bool, l.length ≤ 8 → l ≠ [] → ∀ k, k < w → dt_RL W T l k) : (1000 ≤ T 1 → DS w W (-6)) ∧ (T 1 < 1000 → DS w W (nI (T 1))) := by
  have comp : ∀ (n : Nat) (s : List Bool) (m : Nat), RD w W n s m → m < 1000 → T (wcode s) ≤ m := by
    intro n
    induction n with
    | zero =>
      rintro s m ⟨a, b, ha, hb, hn, e, rfl⟩ hm
      exact hC a ha b hb hn s e
    | succ n ih =>
      rintro s m ⟨s', m', h, hn, q⟩ hm
      have hl := RD_len h8 n s' m' h
      rcases q with ⟨k, hk, e, rfl⟩ | ⟨k, hk, e, rfl⟩
      · have h1 := ih s' m' h (by omega)
        have h2 := (hR s' hl hn k hk (by omega)).1 s e
        omega
      · have h1 := ih s' m h hm
        have h2 := (hR s' hl hn k hk (by omega)).2 s e
        omega
  constructor
  · intro h
    refine Or.inr ⟨rfl, fun n m hr => ?_⟩
    rcases Nat.lt_or_ge m 1000 with q | q
    · have h1 : T 1 ≤ m := comp n [] m hr q
      omega
    · exact q
  · intro h
    refine Or.inl ⟨T 1, h, rfl, hS [] (by decide) h, fun n m hr => ?_⟩
    rcases Nat.lt_or_ge m 1000 with q | q
    · exact comp n [] m hr q
    · omega
theorem ml_92 {w : Nat} {W : Nat → List Bool} {mw : Nat → Int32} (w8 : w ≤ 8) (h4 : ∀ k, k < w → (W k).length ≤ 8 ∧ mw k = nI (wcode (W k))) : ∀ (S fu : Nat) (sg : Nat → Int32) (T : Nat → Nat), fb_sm T 512 ≤ S → S + 1 < fu → TB sg T → SN w W T → (∀ a, a < w → SC w W T a) → ∃ r sg', f_X12_doubt_92 fu 1 (nI w) sg mw = some (r, sg') ∧ DS w W r := by
  intro S
  induction S with
  | zero =>
    intro fu sg T hs hf hT hS hC
    obtain ⟨f, rfl⟩ : ∃ f, fu = f + 2 := ⟨fu - 2, by omega⟩
    obtain ⟨x1', sg', T', e1, g1, g2, g3, g4⟩ := ml_100 w8 h4 (f_X12_doubt_92 (f + 1)) sg T 510 2 fuel 0 sg T (by omega) (by omega) (fuel_big (by omega)) ⟨hT, hS, fun _ => Nat.le_refl _, Or.inl ⟨rfl, rfl, rfl, fun l hl hn hlt => by have := wcode_ne hn; omega⟩⟩
    have e1' : f_X12_doubt_100 (f_X12_doubt_92 (f + 1)) fuel 0 2 (nI w) sg mw = f_X12_doubt_92 (f + 1) x1' (nI w) sg' mw := e1
    rw [f_X12_doubt_92, if_neg (show ¬ (1 : Int32) = 0 by decide), e1']
    rcases g4 with ⟨q1, q2, q3, q4⟩ | ⟨q1, q2⟩
    · subst q1 q2 q3
      have hend := ml_end (fun k hk => (h4 k hk).1) hT hS hC q4
      rw [f_X12_doubt_92, if_pos rfl, if_neg (show ¬ ((1 : Int32) < 0 ∨ 512 ≤ (1 : Int32).toNatClampNeg) from nI_in (c := 1) (by omega) (by omega)), show ((1 : Int32)).toNatClampNeg = 1 from rfl, (hT 1 (by omega)).1]
      by_cases q : 1000 ≤ T' 1
      · rw [if_pos (show (1000 : Int32) ≤ nI (T' 1) from nI_le (a := 1000) q (by have := (hT 1 (by omega)).2; omega))]
        exact ⟨_, _, rfl, hend.1 q⟩
      · rw [if_neg (show ¬ (1000 : Int32) ≤ nI (T' 1) from nI_ge (b := 1000) (by omega) (by omega)), if_neg (show ¬ ((1 : Int32) < 0 ∨ 512 ≤ 1) from gin (k := 1) (N := 512) (by omega) (by omega))]
        exact ⟨_, _, rfl, hend.2 (by omega)⟩
    · omega
  | succ S ih =>
    intro fu sg T hs hf hT hS hC
    obtain ⟨f, rfl⟩ : ∃ f, fu = f + 2 := ⟨fu - 2, by omega⟩
    obtain ⟨x1', sg', T', e1, g1, g2, g3, g4⟩ := ml_100 w8 h4 (f_X12_doubt_92 (f + 1)) sg T 510 2 fuel 0 sg T (by omega) (by omega) (fuel_big (by omega)) ⟨hT, hS, fun _ => Nat.le_refl _, Or.inl ⟨rfl, rfl, rfl, fun l hl hn hlt => by have := wcode_ne hn; omega⟩⟩
    have e1' : f_X12_doubt_100 (f_X12_doubt_92 (f + 1)) fuel 0 2 (nI w) sg mw = f_X12_doubt_92 (f + 1) x1' (nI w) sg' mw := e1
    rw [f_X12_doubt_92, if_neg (show ¬ (1 : Int32) = 0 by decide), e1']
    rcases g4 with ⟨q1, q2, q3, q4⟩ | ⟨q1, q2⟩
    · subst q1 q2 q3
      have hend := ml_end (fun k hk => (h4 k hk).1) hT hS hC q4
      rw [f_X12_doubt_92, if_pos rfl, if_neg (show ¬ ((1 : Int32) < 0 ∨ 512 ≤ (1 : Int32).toNatClampNeg) from nI_in (c := 1) (by omega) (by omega)), show ((1 : Int32)).toNatClampNeg = 1 from rfl, (hT 1 (by omega)).1]
      by_cases q : 1000 ≤ T' 1
      · rw [if_pos (show (1000 : Int32) ≤ nI (T' 1) from nI_le (a := 1000) q (by have := (hT 1 (by omega)).2; omega))]
        exact ⟨_, _, rfl, hend.1 q⟩
      · rw [if_neg (show ¬ (1000 : Int32) ≤ nI (T' 1) from nI_ge (b := 1000) (by omega) (by omega)), if_neg (show ¬ ((1 : Int32) < 0 ∨ 512 ≤ 1) from gin (k := 1) (N := 512) (by omega) (by omega))]
        exact ⟨_, _, rfl, hend.2 (by omega)⟩
    · subst q1
      exact ih (f + 1) sg' T' (by omega) (by omega) g1 g2 (fun a ha b hb hn s hss => Nat.le_trans (g3 _) (hC a ha b hb hn s hss))
theorem ml_doubt {w : Nat} {W : Nat → List Bool} {mw : Nat → Int32} (w8 : w ≤ 8) (h4 : ∀ k, k < w → (W k).length ≤ 8 ∧ mw k = nI (wcode (W k))) (sg : Nat → Int32) : ∃ r sg', f_X12_doubt (nI w) sg mw = some (r, sg') ∧ DS w W r := by
  have fill : ∀ (d k fu : Nat) (sg : Nat → Int32), k + d = 512 → d < fu → (∀ c, c < k → sg c = nI 1000) → ∃ sg', f_X12_doubt_2 fu (nI k) (nI w) sg mw = f_X12_doubt_26 fuel 0 (nI w) sg' mw ∧ ∀ c, c < 512 → sg' c = nI 1000 := by
    intro d
    induction d with
    | zero =>
      intro k fu sg hk hf hh
      obtain ⟨f, rfl⟩ : ∃ f, fu = f + 1 := ⟨fu - 1, by omega⟩
      refine ⟨sg, ?_, fun c hc => hh c (by omega)⟩
      rw [f_X12_doubt_2, if_pos (show (512 : Int32) ≤ nI k from nI_le (a := 512) (by omega) (by omega))]
    | succ d ih =>
      intro k fu sg hk hf hh
      obtain ⟨f, rfl⟩ : ∃ f, fu = f + 1 := ⟨fu - 1, by omega⟩
      rw [f_X12_doubt_2, if_neg (show ¬ (512 : Int32) ≤ nI k from nI_ge (b := 512) (by omega) (by omega)), if_neg (nI_in (by omega) (by omega)), nI_clamp (by omega), nI_1]
      exact ih (k + 1) f _ (by omega) (by omega) (fun c hc => by
        by_cases e : c = k
        · subst e; rw [up_s]; rfl
        · rw [up_n e]; exact hh c (by omega))
  obtain ⟨sg1, e1, h1⟩ := fill 512 0 fuel sg (by omega) (fuel_big (by omega)) (fun c hc => absurd hc (Nat.not_lt_zero c))
  obtain ⟨sg2, T2, e2, g1, g2, g3⟩ := ml_26 (mw := mw) w8 h4 w 0 fuel sg1 (fun _ => 1000) (by omega) (fuel_big (by omega)) (fun c hc => ⟨h1 c hc, Nat.le_refl _⟩) (fun l hl h => absurd h (Nat.lt_irrefl 1000)) (fun a ha => absurd ha (Nat.not_lt_zero a))
  have hb : fb_sm T2 512 ≤ 512 * 1000 := fb_sm_bound (fun k hk => (g1 k hk).2)
  obtain ⟨r, sg3, e3, h3⟩ := ml_92 w8 h4 (512 * 1000) fuel sg2 T2 hb (fuel_big (by omega)) g1 g2 g3
  refine ⟨r, sg3, ?_, h3⟩
  unfold f_X12_doubt
  exact e1.trans (e2.trans e3)
