/-! the class's DOUBT: what of a WORD one row can be ahead by -/
def FB (fs : Nat → Int32) (F : Nat → Nat) : Prop := ∀ p, p < 64 → fs p = nI (F p) ∧ F p ≤ 1000000
def sx (W : Nat → List Bool) (p : Nat) : List Bool := (W (p / 8)).drop (p % 8)
def VP (w : Nat) (W : Nat → List Bool) (p : Nat) : Prop := p / 8 < w ∧ p % 8 < (W (p / 8)).length
def SF (w : Nat) (W : Nat → List Bool) (B : Nat) (F : Nat → Nat) : Prop := ∀ p, p < 64 → F p < 1000000 → VP w W p ∧ F p ≤ B ∧ ∃ n, RD w W n (sx W p) (F p)
def rput (F : Nat → Nat) (c v : Nat) : Nat → Nat := fun k => if k = c then (if v < F c then v else F c) else F k
theorem rput_le {F : Nat → Nat} {c v : Nat} (k : Nat) : rput F c v k ≤ F k := by
  unfold rput
  by_cases q : k = c
  · rw [if_pos q, q]; split <;> omega
  · rw [if_neg q]; exact Nat.le_refl _
theorem rput_at {F : Nat → Nat} {c v : Nat} : rput F c v c ≤ v := by
  unfold rput
  rw [if_pos rfl]; split <;> omega
theorem rput_or {F : Nat → Nat} {c v : Nat} (k : Nat) : rput F c v k = F k ∨ (k = c ∧ v < F c ∧ rput F c v k = v) := by
  unfold rput
  by_cases q : k = c
  · rw [if_pos q, q]
    by_cases q2 : v < F c
    · rw [if_pos q2]; exact Or.inr ⟨rfl, q2, rfl⟩
    · rw [if_neg q2]; exact Or.inl rfl
  · rw [if_neg q]; exact Or.inl rfl
theorem cl_reach {F : Nat → Nat} {fs : Nat → Int32} (hF : FB fs F) {x f m : Nat} (hx : x < 8) (hf : f < 8) (hm : m < 2000000) : ∃ fs', f_X10_reach fs (nI x) (nI f) (nI m) = some fs' ∧ FB fs' (rput F (8 * x + f) m) := by
  obtain ⟨t1, t2⟩ := hF (8 * x + f) (by omega)
  unfold f_X10_reach
  rw [if_neg (nI_pos (by omega)), if_pos (show nI f < 8 from nI_lt (b := 8) hf (by omega)), mul8, if_neg (nI_in (by omega) (by omega)), if_neg (nI_in (by omega) (by omega)), nI_clamp (by omega), t1]
  refine ⟨_, rfl, fun p hp => ?_⟩
  have h2 := hF p hp
  unfold rput
  by_cases e : p = 8 * x + f
  · rw [if_pos e, e, up_s]
    by_cases q : m < F (8 * x + f)
    · rw [if_pos (nI_lt q (by omega)), if_pos q]; exact ⟨rfl, by omega⟩
    · rw [if_neg (nI_nlt (by omega) (by omega)), if_neg q]; exact ⟨rfl, t2⟩
  · rw [if_neg e, up_n e]; exact h2
theorem sx_pos {w : Nat} {W : Nat → List Bool} {p : Nat} (h : VP w W p) : sx W p ≠ [] := fun e => by
  have h1 := congrArg List.length e
  have h2 := h.2
  unfold sx at h1
  rw [List.length_drop, List.length_nil] at h1
  omega
theorem sx_at {W : Nat → List Bool} {x f : Nat} (hf : f < 8) : sx W (8 * x + f) = (W x).drop f := by
  unfold sx
  rw [show (8 * x + f) / 8 = x by omega, show (8 * x + f) % 8 = f by omega]
theorem vp_at {w : Nat} {W : Nat → List Bool} {x f : Nat} (hx : x < w) (hf : f < 8) (hl : f < (W x).length) : VP w W (8 * x + f) := by
  unfold VP
  rw [show (8 * x + f) / 8 = x by omega, show (8 * x + f) % 8 = f by omega]
  exact ⟨hx, hl⟩
/-- what goOn has set behind the row, WORDS before k -/
def GI (w : Nat) (W : Nat → List Bool) (p : Nat) (F0 F : Nat → Nat) (k : Nat) : Prop := (∀ q, q < 64 → F q ≤ F0 q) ∧ (∀ q, q < 64 → F q = F0 q ∨ (F0 p ≤ F q ∧ VP w W q ∧ F q ≤ F0 p + 8 ∧ ∃ n, RD w W n (sx W q) (F q))) ∧ F p = F0 p ∧ ∀ k', k' < k → ¬ W k' = sx W p ∧ ∀ r, (W k' = sx W p ++ r → ∃ q, q < 64 ∧ sx W q = r ∧ F q ≤ F0 p + r.length) ∧ (sx W p = W k' ++ r → ∃ q, q < 64 ∧ sx W q = r ∧ F q ≤ F0 p)
theorem GI_put {w : Nat} {W : Nat → List Bool} {p : Nat} {F0 F : Nat → Nat} {k c v : Nat} (h : GI w W p F0 F k) (hp : p < 64) (h1 : F0 p ≤ v) (h2 : VP w W c) (h3 : v ≤ F0 p + 8) (h4 : ∃ n, RD w W n (sx W c) v) (hk : ¬ W k = sx W p ∧ ∀ r, (W k = sx W p ++ r → ∃ q, q < 64 ∧ sx W q = r ∧ rput F c v q ≤ F0 p + r.length) ∧ (sx W p = W k ++ r → ∃ q, q < 64 ∧ sx W q = r ∧ rput F c v q ≤ F0 p)) : GI w W p F0 (rput F c v) (k + 1) := by
  obtain ⟨g1, g2, g3, g4⟩ := h
  refine ⟨fun q hq => Nat.le_trans (rput_le q) (g1 q hq), fun q hq => ?_, ?_, fun k' hk' => ?_⟩
  · rcases rput_or (F := F) (c := c) (v := v) q with e | ⟨e1, e2, e3⟩
    · rw [e]; exact g2 q hq
    · rw [e3, e1]
      exact Or.inr ⟨h1, h2, h3, h4⟩
  · rcases rput_or (F := F) (c := c) (v := v) p with e | ⟨e1, e2, e3⟩
    · rw [e]; exact g3
    · rw [← e1, g3] at e2
      omega
  · by_cases e : k' = k
    · subst e; exact hk
    · obtain ⟨n1, n2⟩ := g4 k' (by omega)
      refine ⟨n1, fun r => ⟨fun hr => ?_, fun hr => ?_⟩⟩
      · obtain ⟨q, q1, q2, q3⟩ := (n2 r).1 hr
        exact ⟨q, q1, q2, Nat.le_trans (rput_le q) q3⟩
      · obtain ⟨q, q1, q2, q3⟩ := (n2 r).2 hr
        exact ⟨q, q1, q2, Nat.le_trans (rput_le q) q3⟩
theorem cl_goOn_23 {w : Nat} {W : Nat → List Bool} {cc mc : Int32} {sg ln mw : Nat → Int32} (hW : WRd w W cc sg ln mc mw) {p : Nat} (hp : p < 64) (hv : VP w W p) {F0 : Nat → Nat} (hf : F0 p < 1000000) (hr : ∃ n, RD w W n (sx W p) (F0 p)) : ∀ (d k fu : Nat) (fs : Nat → Int32) (F : Nat → Nat), k + d = w → d < fu → FB fs F → GI w W p F0 F k →
    ∃ y fs' F', f_X10_goOn_23 fu (nI p) (nI (p / 8)) (nI (p % 8)) (nI (sx W p).length) (nI k) (nI w) ln sg fs = some (y, fs') ∧ FB fs' F' ∧ ((y = 1 ∧ F' p = F0 p ∧ ∃ k, k < w ∧ W k = sx W p) ∨ (y = 0 ∧ GI w W p F0 F' w)) := by
  obtain ⟨w8, -, -, h4, -⟩ := id hW
  obtain ⟨v1, v2⟩ := hv
  obtain ⟨p1, p2, p3, -⟩ := h4 (p / 8) v1
  have hsl : (sx W p).length = (W (p / 8)).length - p % 8 := List.length_drop
  obtain ⟨n, hn⟩ := hr
  have hsne : sx W p ≠ [] := sx_pos ⟨v1, v2⟩
  intro d
  induction d with
  | zero =>
    intro k fu fs F hk hfu hF hG
    obtain ⟨f, rfl⟩ : ∃ f, fu = f + 1 := ⟨fu - 1, by omega⟩
    obtain rfl : k = w := by omega
    refine ⟨0, fs, F, ?_, hF, Or.inr ⟨rfl, hG⟩⟩
    rw [f_X10_goOn_23, if_pos (nI_le (by omega) (by omega))]
  | succ d ih =>
    intro k fu fs F hk hfu hF hG
    obtain ⟨f, rfl⟩ : ∃ f, fu = f + 1 := ⟨fu - 1, by omega⟩
    obtain ⟨k1, k2, k3, -⟩ := h4 k (by omega)
    obtain ⟨a1, a2⟩ := cl_agree hW v1 (show k < w by omega) (show p % 8 ≤ (W (p / 8)).length by omega)
    rw [f_X10_goOn_23, if_neg (nI_ge (by omega) (by omega)), if_neg (show ¬ (8 : Int32) ≤ nI k from nI_ge (b := 8) (by omega) (by omega))]
    unfold f_X10_goOn_114
    rw [nI_1]
    by_cases q : agr (sx W p) (W k)
    · rw [a1 q, Option.bind_some, if_neg (show ¬ (1 : Int32) = 0 by decide), if_neg (nI_in (by omega) (by omega)), nI_clamp (n := k) (by omega), k3]
      rcases Nat.lt_trichotomy (W k).length (sx W p).length with hlt | heq | hgt
      · -- the row goes on behind the WORD
        have hneg := pk_sneg (a := (W k).length) (b := (sx W p).length) (by omega) hlt
        obtain ⟨n1, n2, n3, n4, n5⟩ := fa_of_lt hneg
        obtain ⟨r0, e0⟩ := (agr_ge (Nat.le_of_lt hlt)).mp q
        have hl0 := congrArg List.length e0
        rw [List.length_append] at hl0
        obtain ⟨fs1, e1, hF1⟩ := cl_reach hF (x := p / 8) (f := p % 8 + (W k).length) (m := F p) (by omega) (by omega) (by have := (hF p hp).2; omega)
        have hq : 8 * (p / 8) + (p % 8 + (W k).length) < 64 := by omega
        have hs : sx W (8 * (p / 8) + (p % 8 + (W k).length)) = r0 := by
          rw [sx_at (by omega)]
          have e2 : sx W p = (W (p / 8)).drop (p % 8) := rfl
          rw [e2] at e0
          have e3 := congrArg (List.drop (W k).length) e0
          rw [List.drop_left, List.drop_drop] at e3
          exact e3
        rw [if_neg n4, if_neg n2, if_neg (gin (by omega) (by omega)), if_neg (nI_in (by omega) (by omega)), nI_clamp (n := p) (by omega), (hF p hp).1, nI_add, e1, Option.bind_some]
        refine ih (k + 1) f fs1 _ (by omega) (by omega) hF1 (GI_put hG hp ?_ (vp_at v1 (by omega) (by omega)) ?_ ⟨n + 1, sx W p, F0 p, hn, hsne, Or.inr ⟨k, by omega, by rw [hs]; exact e0, hG.2.2.1⟩⟩ ⟨fun e => ?_, fun r => ⟨fun e => ?_, fun e => ?_⟩⟩)
        · rw [hG.2.2.1]; exact Nat.le_refl _
        · rw [hG.2.2.1]; omega
        · rw [e] at hlt; omega
        · have := congrArg List.length e
          rw [List.length_append] at this
          omega
        · refine ⟨_, hq, ?_, ?_⟩
          · rw [hs]
            exact List.append_cancel_left (e0.symm.trans e)
          · rw [← hG.2.2.1]; exact rput_at
      · -- both are the same
        rw [heq, pk_sub (Nat.le_refl _), Nat.sub_self, if_pos (show nI 0 = 0 from rfl)]
        refine ⟨1, fs, F, rfl, hF, Or.inl ⟨rfl, hG.2.2.1, k, by omega, ?_⟩⟩
        obtain ⟨r0, e0⟩ := (agr_ge (show (W k).length ≤ (sx W p).length by omega)).mp q
        have hl0 := congrArg List.length e0
        rw [List.length_append] at hl0
        have : r0 = [] := List.length_eq_zero_iff.mp (by omega)
        rw [this, List.append_nil] at e0
        exact e0.symm
      · -- the WORD goes on behind the row
        obtain ⟨r0, e0⟩ := (agr_ge (Nat.le_of_lt hgt)).mp (agr_sym.mp q)
        have hl0 := congrArg List.length e0
        rw [List.length_append] at hl0
        obtain ⟨fs1, e1, hF1⟩ := cl_reach hF (x := k) (f := (sx W p).length) (m := F p + r0.length) (by omega) (by omega) (by have := (hF p hp).2; omega)
        have hq : 8 * k + (sx W p).length < 64 := by omega
        have hs : sx W (8 * k + (sx W p).length) = r0 := by
          rw [sx_at (by omega)]
          have e3 := congrArg (List.drop (sx W p).length) e0
          rw [List.drop_left] at e3
          exact e3
        rw [pk_sub (by omega), show (W k).length - (sx W p).length = r0.length by omega, if_neg (nI_ne0 (by omega) (by omega)), if_pos (nI_pos' (by omega)), if_neg (nI_in (by omega) (by omega)), nI_clamp (n := p) (by omega), (hF p hp).1, nI_add, e1, Option.bind_some]
        refine ih (k + 1) f fs1 _ (by omega) (by omega) hF1 (GI_put hG hp ?_ (vp_at (by omega) (by omega) (by omega)) ?_ ⟨n + 1, sx W p, F0 p, hn, hsne, Or.inl ⟨k, by omega, by rw [hs]; exact e0, by rw [hs, hG.2.2.1]⟩⟩ ⟨fun e => ?_, fun r => ⟨fun e => ?_, fun e => ?_⟩⟩)
        · rw [hG.2.2.1]; omega
        · rw [hG.2.2.1]; omega
        · rw [e] at hgt; omega
        · have er : r0 = r := List.append_cancel_left (e0.symm.trans e)
          refine ⟨_, hq, by rw [hs, er], ?_⟩
          rw [← hG.2.2.1, ← er]; exact rput_at
        · have := congrArg List.length e
          rw [List.length_append] at this
          omega
    · rw [a2 q, Option.bind_some, if_pos rfl]
      obtain ⟨g1, g2, g3, g4⟩ := hG
      refine ih (k + 1) f fs F (by omega) (by omega) hF ⟨g1, g2, g3, fun k' hk' => ?_⟩
      by_cases e : k' = k
      · subst e
        refine ⟨fun e => q ?_, fun r => ⟨fun e => absurd ?_ q, fun e => absurd ?_ q⟩⟩
        · rw [← e]; exact fun _ _ _ => rfl
        · exact agr_sym.mp ((agr_ge (by rw [e, List.length_append]; omega)).mpr ⟨r, e⟩)
        · exact (agr_ge (by rw [e, List.length_append]; omega)).mpr ⟨r, e⟩
      · exact g4 k' (by omega)
theorem cl_goOn {w : Nat} {W : Nat → List Bool} {cc mc : Int32} {sg ln mw : Nat → Int32} (hW : WRd w W cc sg ln mc mw) {p : Nat} (hp : p < 64) (hv : VP w W p) {F : Nat → Nat} {fs : Nat → Int32} (hF : FB fs F) (hf : F p < 1000000) (hr : ∃ n, RD w W n (sx W p) (F p)) :
    ∃ y fs' F', f_X10_goOn (nI w) ln sg fs (nI p) = some (y, fs') ∧ FB fs' F' ∧ ((y = 1 ∧ F' p = F p ∧ ∃ k, k < w ∧ W k = sx W p) ∨ (y = 0 ∧ GI w W p F F' w)) := by
  obtain ⟨w8, -, -, h4, -⟩ := id hW
  obtain ⟨p1, p2, p3, -⟩ := h4 (p / 8) hv.1
  have hsl : (sx W p).length = (W (p / 8)).length - p % 8 := List.length_drop
  have hv2 := hv.2
  obtain ⟨y, fs', F', e, h1, h2⟩ := cl_goOn_23 hW hp hv hf hr w 0 fuel fs F (by omega) (fuel_big (by omega)) hF ⟨fun q _ => Nat.le_refl _, fun q _ => Or.inl rfl, rfl, fun k' hk' => absurd hk' (Nat.not_lt_zero k')⟩
  refine ⟨y, fs', F', ?_, h1, h2⟩
  unfold f_X10_goOn
  rw [show (8 : Int32) = nI 8 from rfl, pk_rem (by omega) (by omega) (by omega), pk_div (by omega) (by omega) (by omega), if_neg (nI_in (by omega) (by omega)), nI_clamp (by omega), p3, pk_sub (by omega), ← hsl]
  exact e
theorem cl_nearest {F : Nat → Nat} {S : Nat → Bool} {fs st : Nat → Int32} (hF : FB fs F) (hS : ∀ p, p < 64 → st p = b01 (S p)) : (∃ at_, at_ < 64 ∧ S at_ = false ∧ F at_ < 1000000 ∧ (∀ p, p < 64 → S p = false → F at_ ≤ F p) ∧ f_X10_nearest st fs = some (nI at_)) ∨ (f_X10_nearest st fs = some (-6) ∧ ∀ p, p < 64 → S p = false → 1000000 ≤ F p) := by
  have key : ∀ (d k fu : Nat) (x1 : Int32) (L : Nat), k + d = 64 → d < fu → (∀ p, p < k → S p = false → L ≤ F p) → ((x1 = -6 ∧ L = 1000000) ∨ ∃ at_, at_ < 64 ∧ x1 = nI at_ ∧ S at_ = false ∧ F at_ = L ∧ L < 1000000) → (∃ at_, at_ < 64 ∧ S at_ = false ∧ F at_ < 1000000 ∧ (∀ p, p < 64 → S p = false → F at_ ≤ F p) ∧ f_X10_nearest_8 fu x1 (nI L) (nI k) st fs = some (nI at_)) ∨ (f_X10_nearest_8 fu x1 (nI L) (nI k) st fs = some (-6) ∧ ∀ p, p < 64 → S p = false → 1000000 ≤ F p) := by
    intro d
    induction d with
    | zero =>
      intro k fu x1 L hk hf hL hx
      obtain ⟨f, rfl⟩ : ∃ f, fu = f + 1 := ⟨fu - 1, by omega⟩
      rw [f_X10_nearest_8, if_pos (show (64 : Int32) ≤ nI k from nI_le (a := 64) (by omega) (by omega))]
      rcases hx with ⟨e1, e2⟩ | ⟨at_, e1, e2, e3, e4, e5⟩
      · exact Or.inr ⟨by rw [e1], fun p hp hs => by have := hL p (by omega) hs; omega⟩
      · exact Or.inl ⟨at_, e1, e3, by omega, fun p hp hs => by have := hL p (by omega) hs; omega, by rw [e2]⟩
    | succ d ih =>
      intro k fu x1 L hk hf hL hx
      obtain ⟨f, rfl⟩ : ∃ f, fu = f + 1 := ⟨fu - 1, by omega⟩
      have hL6 : L ≤ 1000000 := by
        rcases hx with ⟨-, e2⟩ | ⟨_, -, -, -, -, e5⟩ <;> omega
      obtain ⟨t1, t2⟩ := hF k (by omega)
      rw [f_X10_nearest_8, if_neg (show ¬ (64 : Int32) ≤ nI k from nI_ge (b := 64) (by omega) (by omega)), if_neg (nI_in (by omega) (by omega)), nI_clamp (n := k) (by omega), hS k (by omega), t1]
      unfold f_X10_nearest_42
      rw [nI_1]
      by_cases q : S k = true
      · rw [q, if_neg (show ¬ b01 true = 0 by decide)]
        exact ih (k + 1) f x1 L (by omega) (by omega) (fun p hp hs => by
          by_cases e : p = k
          · subst e; rw [q] at hs; cases hs
          · exact hL p (by omega) hs) hx
      · have q' : S k = false := by simpa using q
        rw [q', if_pos (show b01 false = 0 from rfl), if_neg (gin (by omega) (by omega))]
        by_cases q2 : L ≤ F k
        · rw [if_pos (nI_le q2 (by omega))]
          exact ih (k + 1) f x1 L (by omega) (by omega) (fun p hp hs => by
            by_cases e : p = k
            · subst e; exact q2
            · exact hL p (by omega) hs) hx
        · rw [if_neg (nI_ge (by omega) (by omega)), if_neg (gin (by omega) (by omega))]
          exact ih (k + 1) f (nI k) (F k) (by omega) (by omega) (fun p hp hs => by
            by_cases e : p = k
            · subst e; exact Nat.le_refl _
            · have := hL p (by omega) hs; omega) (Or.inr ⟨k, by omega, rfl, q', rfl, by omega⟩)
  exact key 64 0 fuel (-6) 1000000 (by omega) (fuel_big (by omega)) (fun p hp => absurd hp (Nat.not_lt_zero p)) (Or.inl ⟨rfl, rfl⟩)
/-- the search behind r rounds -/
def DI (w : Nat) (W : Nat → List Bool) (r : Nat) (F : Nat → Nat) (S : Nat → Bool) : Prop := SF w W (8 + 8 * r) F ∧ fb_ct S 64 = r ∧ (∀ p q, p < 64 → q < 64 → S p = true → S q = false → F p ≤ F q) ∧
  (∀ p, p < 64 → S p = true → F p < 1000000 ∧ ∀ k, k < w → ¬ W k = sx W p ∧ ∀ t, (W k = sx W p ++ t → ∃ q, q < 64 ∧ sx W q = t ∧ F q ≤ F p + t.length) ∧ (sx W p = W k ++ t → ∃ q, q < 64 ∧ sx W q = t ∧ F q ≤ F p)) ∧
  (∀ s m, RD w W 0 s m → ∃ p, p < 64 ∧ sx W p = s ∧ F p ≤ m)
theorem DI_front {w r : Nat} {W : Nat → List Bool} {F : Nat → Nat} {S : Nat → Bool} (h : DI w W r F S) : ∀ (n : Nat) (s : List Bool) (m : Nat), RD w W n s m → (∃ p, p < 64 ∧ S p = false ∧ F p ≤ m) ∨ (∃ p, p < 64 ∧ S p = true ∧ sx W p = s ∧ F p ≤ m) := by
  obtain ⟨h1, h2, h3, h4, h5⟩ := h
  have two : ∀ (s : List Bool) (m : Nat), (∃ q, q < 64 ∧ sx W q = s ∧ F q ≤ m) → (∃ p, p < 64 ∧ S p = false ∧ F p ≤ m) ∨ (∃ p, p < 64 ∧ S p = true ∧ sx W p = s ∧ F p ≤ m) := by
    rintro s m ⟨q, q1, q2, q3⟩
    cases hs : S q
    · exact Or.inl ⟨q, q1, hs, q3⟩
    · exact Or.inr ⟨q, q1, hs, q2, q3⟩
  intro n
  induction n with
  | zero => exact fun s m hr => two s m (h5 s m hr)
  | succ n ih =>
    rintro s m ⟨s', m', hr, hn, q⟩
    have hm : m' ≤ m := by rcases q with ⟨k, -, -, e⟩ | ⟨k, -, -, e⟩ <;> omega
    rcases ih s' m' hr with ⟨p, a1, a2, a3⟩ | ⟨p, a1, a2, a3, a4⟩
    · exact Or.inl ⟨p, a1, a2, by omega⟩
    · subst a3
      obtain ⟨b1, b2⟩ := h4 p a1 a2
      rcases q with ⟨k, hk, e, em⟩ | ⟨k, hk, e, em⟩
      · obtain ⟨c, c1, c2, c3⟩ := ((b2 k hk).2 s).1 e
        exact two s m ⟨c, c1, c2, by omega⟩
      · obtain ⟨c, c1, c2, c3⟩ := ((b2 k hk).2 s).2 e
        exact two s m ⟨c, c1, c2, by omega⟩
theorem DI_nil {w r : Nat} {W : Nat → List Bool} {F : Nat → Nat} {S : Nat → Bool} (h : DI w W r F S) {n m : Nat} (hr : RD w W n [] m) : ∃ p, p < 64 ∧ S p = false ∧ F p ≤ m := by
  rcases DI_front h n [] m hr with q | ⟨p, a1, a2, a3, a4⟩
  · exact q
  · exact absurd a3 (sx_pos (h.1 p a1 (h.2.2.2.1 p a1 a2).1).1)
def sset (S : Nat → Bool) (p : Nat) : Nat → Bool := fun k => if k = p then true else S k
theorem DI_next {w r p : Nat} {W : Nat → List Bool} {F F' : Nat → Nat} {S : Nat → Bool} (h : DI w W r F S) (hp : p < 64) (hs : S p = false) (hf : F p < 1000000) (hmin : ∀ q, q < 64 → S q = false → F p ≤ F q) (hG : GI w W p F F' w) : DI w W (r + 1) F' (sset S p) := by
  obtain ⟨h1, h2, h3, h4, h5⟩ := h
  obtain ⟨g1, g2, g3, g4⟩ := hG
  have hbp := (h1 p hp hf).2.1
  have old : ∀ q, q < 64 → S q = true → F' q = F q := fun q hq hsq => by
    have a1 := g1 q hq
    have a2 := h3 q p hq hp hsq hs
    rcases g2 q hq with e | ⟨e, -⟩
    · exact e
    · omega
  refine ⟨fun q hq hlt => ?_, ?_, fun q1 q2 hq1 hq2 s1 s2 => ?_, fun q hq hsq => ?_, fun s m hr => ?_⟩
  · rcases g2 q hq with e | ⟨-, e2, e3, e4⟩
    · rw [e] at hlt ⊢
      obtain ⟨a1, a2, a3⟩ := h1 q hq hlt
      exact ⟨a1, by omega, a3⟩
    · exact ⟨e2, by omega, e4⟩
  · have := fb_ct_upd S true (i := p) (n := 64) hp
    rw [hs, if_neg (by decide), if_pos rfl, h2] at this
    exact this
  · have b1 : F' q1 ≤ F p := by
      by_cases e : q1 = p
      · rw [e, g3]; exact Nat.le_refl _
      · have s1' : S q1 = true := by unfold sset at s1; rwa [if_neg e] at s1
        exact Nat.le_trans (g1 q1 hq1) (h3 q1 p hq1 hp s1' hs)
    have b2 : F p ≤ F' q2 := by
      have e : q2 ≠ p := fun e => by unfold sset at s2; rw [if_pos e] at s2; cases s2
      have s2' : S q2 = false := by unfold sset at s2; rwa [if_neg e] at s2
      rcases g2 q2 hq2 with e3 | ⟨e3, -⟩
      · rw [e3]; exact hmin q2 hq2 s2'
      · exact e3
    exact Nat.le_trans b1 b2
  · by_cases e : q = p
    · subst e
      rw [g3]
      refine ⟨hf, fun k hk => ?_⟩
      exact g4 k hk
    · have hs' : S q = true := by unfold sset at hsq; rwa [if_neg e] at hsq
      rw [old q hq hs']
      obtain ⟨a1, a2⟩ := h4 q hq hs'
      refine ⟨a1, fun k hk => ⟨(a2 k hk).1, fun t => ⟨fun ht => ?_, fun ht => ?_⟩⟩⟩
      · obtain ⟨c, c1, c2, c3⟩ := ((a2 k hk).2 t).1 ht
        exact ⟨c, c1, c2, Nat.le_trans (g1 c c1) c3⟩
      · obtain ⟨c, c1, c2, c3⟩ := ((a2 k hk).2 t).2 ht
        exact ⟨c, c1, c2, Nat.le_trans (g1 c c1) c3⟩
  · obtain ⟨c, c1, c2, c3⟩ := h5 s m hr
    exact ⟨c, c1, c2, Nat.le_trans (g1 c c1) c3⟩
theorem cl_doubt_6 {w : Nat} {W : Nat → List Bool} {cc mc : Int32} {sg ln mw : Nat → Int32} (hW : WRd w W cc sg ln mc mw) : ∀ (d r fu : Nat) (fs st : Nat → Int32) (F : Nat → Nat) (S : Nat → Bool), r + d = 64 → d < fu → FB fs F → (∀ p, p < 64 → st p = b01 (S p)) → DI w W r F S → ∃ z fs' st', f_X10_doubt_6 fu (nI r) (nI w) fs st ln sg = some (z, fs', st') ∧ DS w W z := by
  intro d
  induction d with
  | zero =>
    intro r fu fs st F S hr hf hF hS hD
    obtain ⟨f, rfl⟩ : ∃ f, fu = f + 1 := ⟨fu - 1, by omega⟩
    refine ⟨-6, fs, st, ?_, Or.inr ⟨rfl, fun n m h => ?_⟩⟩
    · rw [f_X10_doubt_6, if_pos (show (64 : Int32) ≤ nI r from nI_le (a := 64) (by omega) (by omega))]
    · obtain ⟨p, a1, a2, a3⟩ := DI_nil hD h
      have := fb_ct_all.mp (show fb_ct S 64 = 64 by rw [hD.2.1]; omega) p a1
      rw [this] at a2
      cases a2
  | succ d ih =>
    intro r fu fs st F S hr hf hF hS hD
    obtain ⟨f, rfl⟩ : ∃ f, fu = f + 1 := ⟨fu - 1, by omega⟩
    rw [f_X10_doubt_6, if_neg (show ¬ (64 : Int32) ≤ nI r from nI_ge (b := 64) (by omega) (by omega))]
    rcases cl_nearest hF hS with ⟨p, p1, p2, p3, p4, e1⟩ | ⟨e1, p4⟩
    · obtain ⟨v1, v2, v3⟩ := hD.1 p p1 p3
      rw [e1, Option.bind_some, if_neg (fun e => by
        have := congrArg Int32.toInt e
        rw [nI_toInt (by omega), show (-6 : Int32).toInt = -6 from rfl] at this
        omega), if_neg (nI_in (by omega) (by omega)), nI_clamp (by omega)]
      obtain ⟨y, fs', F', e2, hF', hor⟩ := cl_goOn hW p1 v1 hF p3 v3
      rw [e2, Option.bind_some]
      rcases hor with ⟨rfl, f1, k, k1, k2⟩ | ⟨rfl, hG⟩
      · rw [if_neg (show ¬ (1 : Int32) = 0 by decide), if_neg (gin (by omega) (by omega))]
        dsimp only
        rw [(hF' p p1).1, f1]
        obtain ⟨n, hn⟩ := v3
        refine ⟨_, _, _, rfl, Or.inl ⟨F p, by omega, rfl, ⟨n + 1, sx W p, F p, hn, sx_pos v1, Or.inl ⟨k, k1, by rw [List.append_nil]; exact k2, rfl⟩⟩, fun n m h => ?_⟩⟩
        obtain ⟨q, a1, a2, a3⟩ := DI_nil hD h
        exact Nat.le_trans (p4 q a1 a2) a3
      · rw [if_pos rfl, nI_1]
        exact ih (r + 1) f fs' _ F' (sset S p) (by omega) (by omega) hF' (fun q hq => by
          unfold sset
          by_cases e : q = p
          · rw [e, up_s, if_pos rfl]; exact nar01 true
          · rw [up_n e, if_neg e]; exact hS q hq) (DI_next hD p1 p2 p3 p4 hG)
    · rw [e1, Option.bind_some, if_pos rfl]
      refine ⟨_, _, _, rfl, Or.inr ⟨rfl, fun n m h => ?_⟩⟩
      obtain ⟨q, a1, a2, a3⟩ := DI_nil hD h
      have := p4 q a1 a2
      omega
/-- the first rows -/
def UC (W : Nat → List Bool) (F : Nat → Nat) (a b : Nat) : Prop := ∀ s, s ≠ [] → W b = W a ++ s → ∃ p, p < 64 ∧ sx W p = s ∧ F p ≤ (W b).length
theorem UC_le {W : Nat → List Bool} {F F' : Nat → Nat} {a b : Nat} (h : UC W F a b) (hle : ∀ p, p < 64 → F' p ≤ F p) : UC W F' a b := fun s hs e => by
  obtain ⟨p, p1, p2, p3⟩ := h s hs e
  exact ⟨p, p1, p2, Nat.le_trans (hle p p1) p3⟩
theorem cl_47 {w : Nat} {W : Nat → List Bool} {cc mc : Int32} {sg ln mw : Nat → Int32} (hW : WRd w W cc sg ln mc mw) (k31) (st : Nat → Int32) {a : Nat} (ha : a < w) : ∀ (d b fu : Nat) (fs : Nat → Int32) (F : Nat → Nat), b + d = w → d < fu → FB fs F → SF w W 8 F → (∀ b', b' < b → UC W F a b') →
    ∃ fs' F', f_X10_startUnlike_47 k31 fu (nI a) (nI b) (nI w) fs st ln sg = k31 (nI (a + 1)) (nI w) fs' st ln sg ∧ FB fs' F' ∧ SF w W 8 F' ∧ (∀ p, p < 64 → F' p ≤ F p) ∧ ∀ b', b' < w → UC W F' a b' := by
  obtain ⟨w8, -, -, h4, -⟩ := id hW
  obtain ⟨a1, a2, a3, -⟩ := h4 a ha
  intro d
  induction d with
  | zero =>
    intro b fu fs F hb hf hF hS hh
    obtain ⟨f, rfl⟩ : ∃ f, fu = f + 1 := ⟨fu - 1, by omega⟩
    refine ⟨fs, F, ?_, hF, hS, fun _ _ => Nat.le_refl _, fun b' hb' => hh b' (by omega)⟩
    rw [f_X10_startUnlike_47, if_pos (nI_le (by omega) (by omega))]
    unfold f_X10_startUnlike_109
    rw [nI_1]
  | succ d ih =>
    intro b fu fs F hb hf hF hS hh
    obtain ⟨f, rfl⟩ : ∃ f, fu = f + 1 := ⟨fu - 1, by omega⟩
    obtain ⟨b1, b2, b3, -⟩ := h4 b (by omega)
    rw [f_X10_startUnlike_47, if_neg (nI_ge (by omega) (by omega)), if_neg (show ¬ (8 : Int32) ≤ nI b from nI_ge (b := 8) (by omega) (by omega)), if_neg (nI_in (by omega) (by omega)), if_neg (nI_in (by omega) (by omega)), nI_clamp (n := a) (by omega), nI_clamp (n := b) (by omega), a3, b3]
    unfold f_X10_startUnlike_103
    rw [nI_1]
    have next : UC W F a b → _ := fun q => ih (b + 1) f fs F (by omega) (by omega) hF hS (fun b' hb' => by
      by_cases e : b' = b
      · subst e; exact q
      · exact hh b' (by omega))
    by_cases q : (W b).length ≤ (W a).length
    · rw [if_pos (nI_le q (by omega))]
      refine next (fun s hs e => ?_)
      have h1 := congrArg List.length e
      have h2 := List.length_pos_iff.mpr hs
      rw [List.length_append] at h1
      omega
    · rw [if_neg (nI_ge (by omega) (by omega))]
      obtain ⟨g1, g2⟩ := cl_pre hW ha (show b < w by omega) (show (W a).length ≤ (W b).length by omega)
      by_cases q3 : ∃ t, W b = W a ++ t
      · obtain ⟨t, et⟩ := id q3
        have h1 := congrArg List.length et
        rw [List.length_append] at h1
        obtain ⟨fs1, e1, hF1⟩ := cl_reach hF (x := b) (f := (W a).length) (m := (W b).length) (by omega) (by omega) (by omega)
        have hs : sx W (8 * b + (W a).length) = t := by
          rw [sx_at (by omega)]
          have e3 := congrArg (List.drop (W a).length) et
          rw [List.drop_left] at e3
          exact e3
        rw [g1 q3, Option.bind_some, if_neg (show ¬ (1 : Int32) = 0 by decide), if_neg (gin (by omega) (by omega)), if_neg (gin (by omega) (by omega)), e1, Option.bind_some]
        obtain ⟨fs', F', i1, i2, i3, i4, i5⟩ := ih (b + 1) f fs1 (rput F (8 * b + (W a).length) (W b).length) (by omega) (by omega) hF1 (fun p hp hlt => by
          rcases rput_or (F := F) (c := 8 * b + (W a).length) (v := (W b).length) p with e | ⟨c1, c2, c3⟩
          · rw [e] at hlt ⊢; exact hS p hp hlt
          · rw [c3, c1]
            exact ⟨vp_at (by omega) (by omega) (by omega), b2, 0, b, a, by omega, ha, fun e => by rw [e] at q; omega, by rw [hs]; exact et, rfl⟩) (fun b' hb' => by
          by_cases e : b' = b
          · subst e
            intro s hss e2
            have er : t = s := List.append_cancel_left (et.symm.trans e2)
            exact ⟨8 * b' + (W a).length, by omega, by rw [hs, er], rput_at⟩
          · exact UC_le (hh b' (by omega)) (fun p _ => rput_le p))
        exact ⟨fs', F', i1, i2, i3, fun p hp => Nat.le_trans (i4 p hp) (rput_le p), i5⟩
      · rw [g2 q3, Option.bind_some, if_pos rfl]
        exact next (fun s _ e => absurd ⟨s, e⟩ q3)
theorem cl_31 {w : Nat} {W : Nat → List Bool} {cc mc : Int32} {sg ln mw : Nat → Int32} (hW : WRd w W cc sg ln mc mw) (st : Nat → Int32) : ∀ (d a fu : Nat) (fs : Nat → Int32) (F : Nat → Nat), a + d = w → d < fu → FB fs F → SF w W 8 F → (∀ a', a' < a → ∀ b', b' < w → UC W F a' b') →
    ∃ fs' F', f_X10_startUnlike_31 fu (nI a) (nI w) fs st ln sg = some (fs', st) ∧ FB fs' F' ∧ SF w W 8 F' ∧ ∀ a', a' < w → ∀ b', b' < w → UC W F' a' b' := by
  have w8 := hW.1
  intro d
  induction d with
  | zero =>
    intro a fu fs F ha hf hF hS hh
    obtain ⟨f, rfl⟩ : ∃ f, fu = f + 1 := ⟨fu - 1, by omega⟩
    refine ⟨fs, F, ?_, hF, hS, fun a' ha' => hh a' (by omega)⟩
    rw [f_X10_startUnlike_31, if_pos (nI_le (by omega) (by omega))]
  | succ d ih =>
    intro a fu fs F ha hf hF hS hh
    obtain ⟨f, rfl⟩ : ∃ f, fu = f + 1 := ⟨fu - 1, by omega⟩
    obtain ⟨fs1, F1, e1, i1, i2, i3, i4⟩ := cl_47 hW (f_X10_startUnlike_31 f) st (show a < w by omega) w 0 fuel fs F (by omega) (fuel_big (by omega)) hF hS (fun b' hb' => absurd hb' (Nat.not_lt_zero b'))
    rw [show nI 0 = (0 : Int32) from rfl] at e1
    rw [f_X10_startUnlike_31, if_neg (nI_ge (by omega) (by omega)), if_neg (show ¬ (8 : Int32) ≤ nI a from nI_ge (b := 8) (by omega) (by omega)), e1]
    exact ih (a + 1) f fs1 F1 (by omega) (by omega) i1 i2 (fun a' ha' b' hb' => by
      by_cases e : a' = a
      · subst e; exact i4 b' hb'
      · exact UC_le (hh a' (by omega) b' hb') i3)
theorem cl_doubt {w : Nat} {W : Nat → List Bool} {cc mc : Int32} {sg ln mw : Nat → Int32} (hW : WRd w W cc sg ln mc mw) (fs st : Nat → Int32) : ∃ z fs' st', f_X10_doubt (nI w) fs st ln sg = some (z, fs', st') ∧ DS w W z := by
  have fill : ∀ (d k fu : Nat) (fs st : Nat → Int32), k + d = 64 → d < fu → (∀ c, c < k → fs c = nI 1000000 ∧ st c = b01 false) → ∃ fs' st', f_X10_startUnlike_2 fu (nI k) (nI w) fs st ln sg = f_X10_startUnlike_31 fuel 0 (nI w) fs' st' ln sg ∧ ∀ c, c < 64 → fs' c = nI 1000000 ∧ st' c = b01 false := by
    intro d
    induction d with
    | zero =>
      intro k fu fs st hk hf hh
      obtain ⟨f, rfl⟩ : ∃ f, fu = f + 1 := ⟨fu - 1, by omega⟩
      refine ⟨fs, st, ?_, fun c hc => hh c (by omega)⟩
      rw [f_X10_startUnlike_2, if_pos (show (64 : Int32) ≤ nI k from nI_le (a := 64) (by omega) (by omega))]
    | succ d ih =>
      intro k fu fs st hk hf hh
      obtain ⟨f, rfl⟩ : ∃ f, fu = f + 1 := ⟨fu - 1, by omega⟩
      rw [f_X10_startUnlike_2, if_neg (show ¬ (64 : Int32) ≤ nI k from nI_ge (b := 64) (by omega) (by omega)), if_neg (nI_in (by omega) (by omega)), if_neg (nI_in (by omega) (by omega)), nI_clamp (by omega), nI_1]
      exact ih (k + 1) f _ _ (by omega) (by omega) (fun c hc => by
        by_cases e : c = k
        · subst e; rw [up_s, up_s]; exact ⟨rfl, nar01 false⟩
        · rw [up_n e, up_n e]; exact hh c (by omega))
  obtain ⟨fs1, st1, e1, h1⟩ := fill 64 0 fuel fs st (by omega) (fuel_big (by omega)) (fun c hc => absurd hc (Nat.not_lt_zero c))
  obtain ⟨fs2, F2, e2, g1, g2, g3⟩ := cl_31 hW st1 w 0 fuel fs1 (fun _ => 1000000) (by omega) (fuel_big (by have := hW.1; omega)) (fun p hp => ⟨(h1 p hp).1, Nat.le_refl _⟩) (fun p hp hlt => absurd hlt (Nat.lt_irrefl _)) (fun a ha => absurd ha (Nat.not_lt_zero a))
  have hct : fb_ct (fun _ => false) 64 = 0 := fb_ct_zero.mpr (fun _ _ => rfl)
  obtain ⟨z, fs3, st3, e3, h3⟩ := cl_doubt_6 hW 64 0 fuel fs2 st1 F2 (fun _ => false) (by omega) (fuel_big (by omega)) g1 (fun p hp => (h1 p hp).2) ⟨g2, hct, fun p q _ _ hs => absurd hs Bool.false_ne_true, fun p _ hs => absurd hs Bool.false_ne_true, by
    rintro s m ⟨a, b, ha, hb, hn, e, rfl⟩
    refine g3 b hb a ha s (fun es => ?_) e
    rw [es, List.append_nil] at e
    rcases Nat.lt_trichotomy a b with q | q | q
    · exact hW.2.2.2.2 a b q hb e
    · exact hn q
    · exact hW.2.2.2.2 b a q ha e.symm⟩
  refine ⟨z, fs3, st3, ?_, h3⟩
  have e12 := e1.trans e2
  have e12' : f_X10_startUnlike (nI w) fs st ln sg = some (fs2, st1) := e12
  unfold f_X10_doubt
  rw [e12', Option.bind_some]
  exact e3
theorem st_apart {j : Nat} (hj : j + 6 ≤ 3072) (sI : Nat → Int32) (sJ : Nat → Int64) (sA : Nat → Nat → Int32) (sB : Nat → Nat → Int64) (h : Inv j sI sJ sA sB) (a1 : Int32) : ∃ (z : Int32 × (Nat → Int32) × (Nat → Int32)) (y : Int32 × (Nat → Int32)), f_X11_apart (sI 10) (sA 3) (sA 4) (sA 2) (sA 1) a1 = some z ∧ f_X12_apart (sI 44) (sA 28) (sA 40) a1 = some y ∧ z.1 = y.1 ∧ Inv (j + 6) sI sJ (va_up (va_up (va_up sA 3 z.2.1) 4 z.2.2) 40 y.2) sB := by
  refine (fun (q : ∃ r z1 z2 yy, f_X11_apart (sI 10) (sA 3) (sA 4) (sA 2) (sA 1) a1 = some (r, z1, z2) ∧ f_X12_apart (sI 44) (sA 28) (sA 40) a1 = some (r, yy)) => q.elim (fun r q => q.elim (fun z1 q => q.elim (fun z2 q => q.elim (fun yy e => ⟨(r, z1, z2), (r, yy), e.1, e.2, rfl, Inv_grow h⟩))))) ?_
  obtain ⟨ch, pc, n, t, dp, w, c, wt, a, W, bh, dr, sv, h1, h2, h3, h4, h5, h6, i0, i1, k1, k2, k3⟩ := id h
  obtain ⟨w1, w2, w3, w4, w5⟩ := id h5
  have hW : ∀ k, k < w → (W k).length ≤ 8 ∧ sA 28 k = nI (wcode (W k)) := fun k hk => ⟨(w4 k hk).2.1, (w4 k hk).2.2.2.2⟩
  unfold f_X11_apart f_X12_apart
  rw [w2, w3, show (0 : Int64) = lN 0 from rfl, show (2 : Int64) = lN 2 from rfl]
  obtain ⟨z, fs', st', e1, d1⟩ := cl_doubt h5 (sA 3) (sA 4)
  obtain ⟨r, sg', e2, d2⟩ := ml_doubt w1 hW (sA 40)
  obtain rfl : z = r := DS_uniq d1 d2
  rcases in3 a1 0 2 (by omega) (by omega) with ⟨q, e⟩ | ⟨q1, q2, e⟩ | ⟨k, q1, q2, rfl, e⟩
  · have n0 : ¬ a1 = 0 := fun e => by rw [e] at q; exact absurd q (by decide)
    have n1 : ¬ a1 = 1 := fun e => by rw [e] at q; exact absurd q (by decide)
    have n2 : ¬ a1 = 2 := fun e => by rw [e] at q; exact absurd q (by decide)
    rw [if_neg n0, if_neg n1, if_neg n2, e, Option.bind_some, if_pos rfl]
    exact ⟨_, _, _, _, rfl, rfl⟩
  · have n0 : ¬ a1 = 0 := fun e => by rw [e] at q2; exact absurd q2 (by decide)
    have n1 : ¬ a1 = 1 := fun e => by rw [e] at q2; exact absurd q2 (by decide)
    have n2 : ¬ a1 = 2 := fun e => by rw [e] at q2; exact absurd q2 (by decide)
    rw [if_neg n0, if_neg n1, if_neg n2, e, Option.bind_some, if_pos rfl]
    exact ⟨_, _, _, _, rfl, rfl⟩
  · rw [e, Option.bind_some, if_neg (show ¬ (1 : Int32) = 0 by decide), e1, e2, Option.bind_some, Option.bind_some, Option.bind_some, Option.bind_some]
    have k012 : k = 0 ∨ k = 1 ∨ k = 2 := by omega
    rcases k012 with rfl | rfl | rfl
    · rw [if_pos (show nI 0 = 0 from rfl), if_pos (show nI 0 = 0 from rfl)]
      by_cases q : ∀ a, a < w → PA w W a
      · rw [(cl_areApart h5).1 q, (ml_areApart w1 hW).1 (PAB.mp q), Option.bind_some, Option.bind_some, if_neg (show ¬ (1 : Int32) = 0 by decide), if_neg (show ¬ (1 : Int32) = 0 by decide)]
        exact ⟨_, _, _, _, rfl, rfl⟩
      · rw [(cl_areApart h5).2 q, (ml_areApart w1 hW).2 (fun q2 => q (PAB.mpr q2)), Option.bind_some, Option.bind_some, if_pos rfl, if_pos rfl]
        exact ⟨_, _, _, _, rfl, rfl⟩
    · rw [if_neg (show ¬ nI 1 = 0 by decide), if_neg (show ¬ nI 1 = 0 by decide), if_pos (show nI 1 = 1 from rfl), if_pos (show nI 1 = 1 from rfl)]
      rcases d1 with ⟨v, v1, rfl, -⟩ | ⟨rfl, -⟩
      · rw [if_neg (fun e => by
          have := congrArg Int32.toInt e
          rw [nI_toInt (by omega), show (-6 : Int32).toInt = -6 from rfl] at this
          omega), if_pos (nI_pos' (by omega))]
        exact ⟨_, _, _, _, rfl, rfl⟩
      · rw [if_pos rfl, if_neg (show ¬ (0 : Int32) ≤ -6 by decide)]
        exact ⟨_, _, _, _, rfl, rfl⟩
    · rw [if_neg (show ¬ nI 2 = 0 by decide), if_neg (show ¬ nI 2 = 0 by decide), if_neg (show ¬ nI 2 = 1 by decide), if_neg (show ¬ nI 2 = 1 by decide), if_pos (show nI 2 = 2 from rfl)]
      exact ⟨_, _, _, _, rfl, rfl⟩
