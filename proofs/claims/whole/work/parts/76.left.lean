/-! what is left of a word behind its beginning -/
theorem wc_app : ∀ (r t : List Bool), wcode (t ++ r) + 2 ^ r.length = wcode t * 2 ^ r.length + wcode r
  | [], t => by rw [List.append_nil, List.length_nil, Nat.pow_zero, Nat.mul_one]; rfl
  | b :: r, t => by
    have h1 := wc_app r (t ++ [b])
    have h2 := wc_app r [b]
    rw [List.append_assoc] at h1
    have e1 : [b] ++ r = b :: r := rfl
    rw [e1] at h1 h2
    rw [wcode_app] at h1
    have e2 : wcode [b] = 2 + (if b then 1 else 0) := by cases b <;> rfl
    rw [e2] at h2
    rw [List.length_cons, Nat.pow_succ]
    generalize 2 ^ r.length = P at *
    generalize wcode t = T at *
    have x1 : T * (P * 2) = 2 * T * P := by rw [Nat.mul_comm P 2, ← Nat.mul_assoc, Nat.mul_comm T 2]
    rw [Nat.add_mul] at h1 h2
    rw [x1]
    omega
theorem ml_longOf {l : List Bool} (h : l.length ≤ 20) : f_X12_longOf (nI (wcode l)) = some (nI l.length) := by
  have key : ∀ (l : List Bool) (fu x : Nat), l.length ≤ 20 → l.length < fu → x + l.length < 1000 → f_X12_longOf_4 fu (nI x) (nI (rcode l)) = some (nI (x + l.length)) := by
    intro l
    induction l with
    | nil =>
      intro fu x h1 hf hx
      obtain ⟨f, rfl⟩ : ∃ f, fu = f + 1 := ⟨fu - 1, by omega⟩
      rw [f_X12_longOf_4, rcode, if_pos (show nI 1 ≤ 1 by decide)]
      rfl
    | cons b l ih =>
      intro fu x h1 hf hx
      rw [List.length_cons] at h1 hf hx
      obtain ⟨f, rfl⟩ : ∃ f, fu = f + 1 := ⟨fu - 1, by omega⟩
      have hl := rcode_lt l
      have h20 : 2 ^ (l.length + 1) ≤ 2 ^ 21 := Nat.pow_le_pow_right (by omega) (by omega)
      have h0 := rcode_pos l
      rw [f_X12_longOf_4, rcode]
      have hb : (if b = true then 1 else 0) < 2 := by split <;> omega
      generalize (if b = true then 1 else 0) = y at hb
      rw [if_neg (show ¬ nI (2 * rcode l + y) ≤ 1 from nI_ge (a := 1) (by omega) (by omega)), show (2 : Int32) = nI 2 from rfl, pk_div (by omega) (by omega) (by omega), show (2 * rcode l + y) / 2 = rcode l by omega, nI_1, ih f (x + 1) (by omega) (by omega) (by omega), List.length_cons]
      congr 2
      omega
  have e := key l.reverse fuel 0 (by rw [List.length_reverse]; omega) (fuel_big (by rw [List.length_reverse]; omega)) (by rw [List.length_reverse]; omega)
  rw [← wcode_r, List.reverse_reverse, List.length_reverse, Nat.zero_add] at e
  exact e
def leftL (x y : List Bool) : Option (List Bool) := if x.take y.length = y then some (x.drop y.length) else none
def lcI : Option (List Bool) → Int32
  | none => -6
  | some r => nI (wcode r)
theorem leftL_some {x y r : List Bool} : leftL x y = some r ↔ x = y ++ r := by
  unfold leftL
  constructor
  · intro h
    by_cases q : x.take y.length = y
    · rw [if_pos q] at h
      cases h
      have := List.take_append_drop y.length x
      rw [q] at this
      exact this.symm
    · rw [if_neg q] at h; cases h
  · rintro rfl
    rw [List.take_left, if_pos rfl, List.drop_left]
theorem ml_leftOf {x y : List Bool} (hx : x.length ≤ 8) (hy : y.length ≤ 8) : f_X12_leftOf (nI (wcode x)) (nI (wcode y)) = some (lcI (leftL x y)) := by
  have cx := wcode_8 hx
  have cy := wcode_8 hy
  unfold f_X12_leftOf
  rw [ml_longOf (by omega), ml_longOf (by omega), Option.bind_some, Option.bind_some]
  by_cases q : x.length < y.length
  · have e : (nI x.length - nI y.length).toInt = (x.length : Int) - y.length := pk_sub_toInt (by omega) (by omega)
    rw [if_pos (by rw [fa_lt, e, show (0 : Int32).toInt = 0 from rfl]; omega)]
    have : leftL x y = none := by
      unfold leftL
      rw [if_neg (fun e => by
        have := congrArg List.length e
        rw [List.length_take] at this
        omega)]
    rw [this]
    rfl
  · rw [pk_sub (by omega), if_neg (nI_pos (by omega)), pk_shrN (by omega) (nI (x.length - y.length) &&& 31) (x.length - y.length) (s_l _ (by omega)), shl1 (by omega)]
    have hs := List.take_append_drop y.length x
    have hr : (x.drop y.length).length = x.length - y.length := List.length_drop
    have ha := wc_app (x.drop y.length) (x.take y.length)
    rw [hs, hr] at ha
    have hd := wcode_lt (x.drop y.length)
    rw [hr, Nat.pow_succ] at hd
    have hP : 0 < 2 ^ (x.length - y.length) := Nat.pow_pos (by omega)
    have hP8 : 2 ^ (x.length - y.length) ≤ 2 ^ 8 := Nat.pow_le_pow_right (by omega) (by omega)
    have e1 : wcode x = (wcode (x.drop y.length) - 2 ^ (x.length - y.length)) + wcode (x.take y.length) * 2 ^ (x.length - y.length) := by omega
    have e2 : wcode x / 2 ^ (x.length - y.length) = wcode (x.take y.length) := by
      rw [e1, Nat.add_mul_div_right _ _ hP, Nat.div_eq_of_lt (by omega), Nat.zero_add]
    have e3 : wcode x % 2 ^ (x.length - y.length) = wcode (x.drop y.length) - 2 ^ (x.length - y.length) := by
      rw [e1, Nat.add_mul_mod_self_right, Nat.mod_eq_of_lt (by omega)]
    have ct : wcode (x.take y.length) < 512 := (wcode_8 (by rw [List.length_take]; omega)).2
    rw [e2]
    unfold leftL
    by_cases q2 : x.take y.length = y
    · rw [if_pos (by rw [q2]), if_pos q2, show (1 : Int32) = nI 1 from rfl, pk_sub (by omega), fa_mask, e3]
      have := fa_or_sum (a := wcode (x.drop y.length) - 2 ^ (x.length - y.length)) (k := x.length - y.length) 1 (by omega)
      rw [Nat.mul_one] at this
      rw [this, show 2 ^ (x.length - y.length) + (wcode (x.drop y.length) - 2 ^ (x.length - y.length)) = wcode (x.drop y.length) by omega]
      rfl
    · rw [if_neg (fun e => q2 (wcode_inj ((nI_eq (by omega) (by omega)).mp e))), if_neg q2]
      rfl
/-- two words are the same as far as both go -/
def agr (s o : List Bool) : Prop := ∀ k, k < s.length → k < o.length → s.getD k false = o.getD k false
theorem agr_ge {s o : List Bool} (h : o.length ≤ s.length) : agr s o ↔ ∃ r, s = o ++ r := by
  constructor
  · intro ha
    refine ⟨s.drop o.length, ?_⟩
    have e : s.take o.length = o := list_get_ext (by rw [List.length_take]; omega) (fun i hi => by
      rw [List.length_take] at hi
      have := ha i (by omega) (by omega)
      rw [← this]
      rw [List.getD_eq_getElem?_getD, List.getD_eq_getElem?_getD, List.getElem?_take, if_pos (by omega)])
    have := List.take_append_drop o.length s
    rw [e] at this
    exact this.symm
  · rintro ⟨r, rfl⟩ k h1 h2
    exact gd_app_l h2
theorem agr_sym {s o : List Bool} : agr s o ↔ agr o s := ⟨fun h k h1 h2 => (h k h2 h1).symm, fun h k h1 h2 => (h k h2 h1).symm⟩
theorem gd_drop {l : List Bool} {f k : Nat} : (l.drop f).getD k false = l.getD (f + k) false := by
  rw [List.getD_eq_getElem?_getD, List.getD_eq_getElem?_getD, List.getElem?_drop]
theorem cl_agree {w wi fr o : Nat} {W : Nat → List Bool} {cc mc : Int32} {sg ln mw : Nat → Int32} (hW : WRd w W cc sg ln mc mw) (h1 : wi < w) (h2 : o < w) (hf : fr ≤ (W wi).length) : (agr ((W wi).drop fr) (W o) → f_X10_agree ln sg (nI wi) (nI fr) (nI o) = some 1) ∧ (¬ agr ((W wi).drop fr) (W o) → f_X10_agree ln sg (nI wi) (nI fr) (nI o) = some 0) := by
  obtain ⟨w8, -, -, h4, -⟩ := hW
  obtain ⟨a1, a2, a3, a4, -⟩ := h4 wi h1
  obtain ⟨b1, b2, b3, b4, -⟩ := h4 o h2
  have key : ∀ (d k fu : Nat), k + d = 8 → d < fu → (∀ j, j < k → j < ((W wi).drop fr).length ∧ j < (W o).length ∧ ((W wi).drop fr).getD j false = (W o).getD j false) → (agr ((W wi).drop fr) (W o) → f_X10_agree_3 fu (nI wi) (nI fr) (nI o) (nI k) ln sg = some 1) ∧ (¬ agr ((W wi).drop fr) (W o) → f_X10_agree_3 fu (nI wi) (nI fr) (nI o) (nI k) ln sg = some 0) := by
    intro d
    induction d with
    | zero =>
      intro k fu hk hfu hh
      obtain ⟨f, rfl⟩ : ∃ f, fu = f + 1 := ⟨fu - 1, by omega⟩
      have hag : agr ((W wi).drop fr) (W o) := fun j hj1 hj2 => (hh j (by omega)).2.2
      refine ⟨fun _ => ?_, fun q => absurd hag q⟩
      rw [f_X10_agree_3, if_neg (nI_in (by omega) (by omega)), nI_clamp (n := wi) (by omega), a3, nI_add]
      by_cases q : (W wi).length ≤ fr + k
      · rw [if_pos (nI_le q (by omega))]
      · rw [if_neg (nI_ge (by omega) (by omega)), if_neg (nI_in (by omega) (by omega)), nI_clamp (n := o) (by omega), b3, if_pos (nI_le (by omega) (by omega))]
    | succ d ih =>
      intro k fu hk hfu hh
      obtain ⟨f, rfl⟩ : ∃ f, fu = f + 1 := ⟨fu - 1, by omega⟩
      have hdl : ((W wi).drop fr).length = (W wi).length - fr := List.length_drop
      rw [f_X10_agree_3, if_neg (nI_in (by omega) (by omega)), nI_clamp (n := wi) (by omega), a3, nI_add]
      by_cases q : (W wi).length ≤ fr + k
      · rw [if_pos (nI_le q (by omega))]
        have hag : agr ((W wi).drop fr) (W o) := fun j hj1 hj2 => (hh j (by omega)).2.2
        exact ⟨fun _ => rfl, fun q => absurd hag q⟩
      · rw [if_neg (nI_ge (by omega) (by omega)), if_neg (nI_in (by omega) (by omega)), nI_clamp (n := o) (by omega), b3]
        by_cases q2 : (W o).length ≤ k
        · rw [if_pos (nI_le q2 (by omega))]
          have hag : agr ((W wi).drop fr) (W o) := fun j hj1 hj2 => (hh j (by omega)).2.2
          exact ⟨fun _ => rfl, fun q => absurd hag q⟩
        · rw [if_neg (nI_ge (by omega) (by omega)), mul8, mul8, nI_add, if_neg (nI_in (by omega) (by omega)), if_neg (nI_in (by omega) (by omega)), nI_clamp (by omega), nI_clamp (by omega), nI_1, show 8 * wi + fr + k = 8 * wi + (fr + k) by omega, a4 _ (by omega), b4 _ (by omega)]
          have eg : ((W wi).drop fr).getD k false = (W wi).getD (fr + k) false := gd_drop
          by_cases q3 : (W wi).getD (fr + k) false = (W o).getD k false
          · rw [if_pos (by rw [q3])]
            exact ih (k + 1) f (by omega) (by omega) (fun j hj => by
              by_cases e : j = k
              · subst e; exact ⟨by omega, by omega, eg.trans q3⟩
              · exact hh j (by omega))
          · rw [if_neg (fun e => q3 (sgb_inj _ _ e))]
            exact ⟨fun ha => absurd (eg.symm.trans (ha k (by omega) (by omega))) q3, fun _ => rfl⟩
  exact key 8 0 fuel (by omega) (fuel_big (by omega)) (fun j hj => absurd hj (Nat.not_lt_zero j))
