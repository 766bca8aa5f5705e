/-! places, lanes put, the highest level, a new wheel -/
theorem tpi_at {n t k : Nat} (ht : t < n) (hk : k < n) : (k + t) % n < n ∧ tpi n t ((k + t) % n) = k := by
  refine ⟨Nat.mod_lt _ (by omega), ?_⟩
  unfold tpi
  by_cases h1 : k + t < n
  · rw [Nat.mod_eq_of_lt h1, show k + t + n - t = k + n by omega, Nat.add_mod_right, Nat.mod_eq_of_lt hk]
  · have h2 : (k + t) % n = k + t - n := by rw [Nat.mod_eq_sub_mod (by omega), Nat.mod_eq_of_lt (by omega)]
    rw [h2, show k + t - n + n - t = k by omega, Nat.mod_eq_of_lt hk]
theorem tpi_PM {n t : Nat} (ht : t < n) : PM n (tpi n t) := ⟨fun p hp => Nat.mod_lt _ (by omega), fun p q hp hq e => back_inj ht hp hq e⟩
theorem cl_place {n t k : Nat} (h9 : n ≤ 9) (ht : t < n) (hk : k < n) : f_X1_placeOf (nI n) (nI k) (nI t) = some (nI ((k + t) % n)) := by
  unfold f_X1_placeOf
  rw [nI_add]
  by_cases h1 : k + t < n
  · rw [if_pos (nI_lt h1 (by omega)), Nat.mod_eq_of_lt h1]
  · rw [if_neg (nI_nlt (by omega) (by omega)), pk_sub (by omega), Nat.mod_eq_sub_mod (by omega), Nat.mod_eq_of_lt (by omega)]
theorem ml_place {n k : Nat} {pi : Nat → Nat} (h9 : n ≤ 9) (hk : k < n) (hpi : PM n pi) (pa at_ : Nat → Int32) (now : Int32) (h : ∀ p, p < n → (if now = 0 then at_ p else pa p) = nI (pi p)) {q : Nat} (hq : q < n) (e : pi q = k) : f_X12_placeOf pa at_ (nI k) now = some (nI q) := by
  unfold f_X12_placeOf
  have key : ∀ (d i fu : Nat), i + d = q → d < fu → f_X12_placeOf_2 fu (nI k) now (nI i) pa at_ = some (nI q) := by
    intro d
    induction d with
    | zero =>
      intro i fu hi hf
      obtain ⟨m, rfl⟩ : ∃ m, fu = m + 1 := ⟨fu - 1, by omega⟩
      rw [show i = q by omega]
      have h1 := h q hq
      rw [f_X12_placeOf_2, if_neg (nI_in (by omega) (by omega)), nI_clamp (by omega), if_neg (gin (by omega) (by omega))]
      unfold f_X12_placeOf_21
      by_cases hn : now = 0
      · rw [if_pos hn] at h1 ⊢
        rw [h1, e, if_pos rfl]
      · rw [if_neg hn] at h1 ⊢
        rw [h1, e, if_pos rfl]
    | succ d ih =>
      intro i fu hi hf
      obtain ⟨m, rfl⟩ : ∃ m, fu = m + 1 := ⟨fu - 1, by omega⟩
      have h1 := h i (by omega)
      have hne : ¬ nI (pi i) = nI k := fun q2 => by
        have hlt := hpi.1 i (by omega)
        have := (nI_eq (by omega) (by omega)).mp q2
        have := hpi.2 i q (by omega) hq (by rw [this, e])
        omega
      rw [f_X12_placeOf_2, if_neg (nI_in (by omega) (by omega)), nI_clamp (by omega), if_neg (gin (by omega) (by omega))]
      unfold f_X12_placeOf_21
      have e2 := ih (i + 1) m (by omega) (by omega)
      by_cases hn : now = 0
      · rw [if_pos hn] at h1 ⊢
        rw [h1, if_neg hne, nI_1]
        exact e2
      · rw [if_neg hn] at h1 ⊢
        rw [h1, if_neg hne, nI_1]
        exact e2
  exact key q 0 fuel (by omega) (fuel_big (by omega))
def fset (f : Nat → Nat) (k v : Nat) : Nat → Nat := fun j => if j = k then v else f j
theorem c_with {lev : Nat → Nat} (th : Nat → Bool) {k v : Nat} (hl : ∀ k, lev k < 16) (hk : k < 9) (hv : v < 16) : f_X11_withLane (w9 lev th) (nI k) (nI v) = some (w9 (fset lev k v) th) := by
  unfold f_X11_withLane
  rw [m5, show (15 : Int64) = lN 15 from rfl, wb_shl 15 (show 5 * k < 64 by omega), nI_l (by omega), wb_shl v (show 5 * k < 64 by omega), p5, v9_one k 15 hk, v9_one k v hk, v9_clr (u9_lt hl) (fl_lt k 15 (by omega)), v9_or]
  · refine congrArg some (v9_congr (fun j _ => ?_))
    show ((lev j + (if th j then 16 else 0)) &&& ((if j = k then 15 else 0) ^^^ 31) ||| (if j = k then v else 0)) = (fset lev k v j) + (if th j then 16 else 0)
    unfold fset
    by_cases h : j = k
    · rw [if_pos h, if_pos h, if_pos h, ln_c15 _ (hl j), ln_o _ hv]
    · rw [if_neg h, if_neg h, if_neg h, ln_31 _ (hl j), Nat.or_zero]
  · intro j
    show ((lev j + (if th j then 16 else 0)) &&& ((if j = k then 15 else 0) ^^^ 31)) < 32
    by_cases h : j = k
    · rw [if_pos h, ln_c15 _ (hl j)]; exact ff_lt th 16 (by omega) j
    · rw [if_neg h, ln_31 _ (hl j)]; exact u9_lt hl j
  · exact fl_lt k v (by omega)
theorem c_withV {f : Nat → Nat} {k v : Nat} (hl : ∀ k, f k < 16) (hk : k < 9) (hv : v < 16) : f_X11_withLane (v9 f) (nI k) (nI v) = some (v9 (fset f k v)) := by
  rw [v9_w9, c_with _ hl hk hv, ← v9_w9]
theorem ln_f1 : ∀ a, a < 16 → ∀ f : Bool, (a + (if f then 16 else 0)) ||| 16 = a + 16 := by decide
theorem ln_f0 : ∀ a, a < 16 → ∀ f : Bool, (a + (if f then 16 else 0)) &&& (16 ^^^ 31) = a := by decide
theorem w9_or {lev : Nat → Nat} {th : Nat → Bool} {k : Nat} (hl : ∀ k, lev k < 16) : w9 lev th ||| v9 (fun j => if j = k then 16 else 0) = w9 lev (thset th k true) := by
  rw [v9_or (u9_lt hl) (fl_lt k 16 (by omega))]
  refine v9_congr (fun j _ => ?_)
  show (lev j + (if th j then 16 else 0)) ||| (if j = k then 16 else 0) = lev j + (if thset th k true j then 16 else 0)
  unfold thset
  by_cases h : j = k
  · rw [if_pos h, if_pos h, ln_f1 _ (hl j)]; rfl
  · rw [if_neg h, if_neg h, Nat.or_zero]
theorem w9_clr {lev : Nat → Nat} {th : Nat → Bool} {k : Nat} (hl : ∀ k, lev k < 16) : w9 lev th &&& (v9 (fun j => if j = k then 16 else 0) ^^^ (-1)) = w9 lev (thset th k false) := by
  rw [v9_clr (u9_lt hl) (fl_lt k 16 (by omega))]
  refine v9_congr (fun j _ => ?_)
  show (lev j + (if th j then 16 else 0)) &&& ((if j = k then 16 else 0) ^^^ 31) = lev j + (if thset th k false j then 16 else 0)
  unfold thset
  by_cases h : j = k
  · rw [if_pos h, if_pos h, ln_f0 _ (hl j)]; rfl
  · rw [if_neg h, if_neg h, ln_31 _ (hl j)]
def maxl : Nat → (Nat → Nat) → Nat
  | 0, _ => 0
  | k + 1, f => max (maxl k f) (f k)
theorem maxl_le : ∀ (n : Nat) (f : Nat → Nat) (v : Nat), maxl n f ≤ v ↔ ∀ k, k < n → f k ≤ v
  | 0, f, v => by simp [maxl]
  | n + 1, f, v => by
    rw [maxl, Nat.max_le, maxl_le n f v]
    constructor
    · intro h k hk
      by_cases q : k = n
      · rw [q]; exact h.2
      · exact h.1 k (by omega)
    · intro h
      exact ⟨fun k hk => h k (by omega), h n (by omega)⟩
theorem c_highest {lev : Nat → Nat} (th : Nat → Bool) {n : Nat} (hl : ∀ k, lev k < 16) (h9 : n ≤ 9) : f_X1_highest (nI n) (w9 lev th) = some (nI (maxl n lev)) := by
  unfold f_X1_highest
  have hm : ∀ k, maxl k lev ≤ 15 := fun k => (maxl_le k lev 15).mpr (fun i _ => by have := hl i; omega)
  have key : ∀ (d k fu : Nat), k + d = n → d < fu → f_X1_highest_4 fu (nI (maxl k lev)) (nI k) (nI n) (w9 lev th) = some (nI (maxl n lev)) := by
    intro d
    induction d with
    | zero =>
      intro k fu hk hf
      obtain ⟨m, rfl⟩ : ∃ m, fu = m + 1 := ⟨fu - 1, by omega⟩
      rw [f_X1_highest_4, if_pos (nI_le (by omega) (by omega)), show k = n by omega]
    | succ d ih =>
      intro k fu hk hf
      obtain ⟨m, rfl⟩ : ∃ m, fu = m + 1 := ⟨fu - 1, by omega⟩
      rw [f_X1_highest_4, if_neg (nI_ge (by omega) (by omega)), c_lane th hl (by omega)]
      simp only [Option.bind_some]
      have e := ih (k + 1) m (by omega) (by omega)
      have h1 := hm k
      have h2 := hl k
      rw [maxl] at e
      rw [nI_1]
      by_cases q : maxl k lev < lev k
      · rw [if_pos (nI_lt q (by omega))]
        rwa [Nat.max_eq_right (by omega)] at e
      · rw [if_neg (nI_nlt (by omega) (by omega))]
        rwa [Nat.max_eq_left (by omega)] at e
  exact key n 0 fuel (by omega) (fuel_big (by omega))
/-- begin: nine rows are laid anew -/
theorem begin_ok {n : Nat} (h3 : 3 ≤ n) (h9 : n ≤ 9) (deep : Int32) (pa ho le wa : Nat → Int32) : ∃ pa' ho' le' wa', f_X12_begin deep pa ho le wa (nI n) = some (nI n, nI (sbit n (fun _ => false)), 0, pa', ho', le', wa') ∧ ∀ p, p < 9 → pa' p = nI p ∧ ho' p = (if p = 0 then deep else 0) ∧ le' p = 0 ∧ wa' p = 0 := by
  unfold f_X12_begin
  have key : ∀ (d k fu : Nat) (pa ho le wa : Nat → Int32), k + d = 9 → d < fu → (∀ p, p < k → pa p = nI p ∧ ho p = (if p = 0 then deep else 0) ∧ le p = 0 ∧ wa p = 0) → ∃ pa' ho' le' wa', f_X12_begin_7 fu (nI n) (nI k) (nI n) deep pa ho le wa = some (nI n, nI (sbit n (fun _ => false)), 0, pa', ho', le', wa') ∧ ∀ p, p < 9 → pa' p = nI p ∧ ho' p = (if p = 0 then deep else 0) ∧ le' p = 0 ∧ wa' p = 0 := by
    intro d
    induction d with
    | zero =>
      intro k fu pa ho le wa hk hf hp
      obtain ⟨m, rfl⟩ : ∃ m, fu = m + 1 := ⟨fu - 1, by omega⟩
      refine ⟨pa, ho, le, wa, ?_, fun p hp9 => hp p (by omega)⟩
      rw [f_X12_begin_7, if_pos (show (9 : Int32) ≤ nI k from nI_le (a := 9) (by omega) (by omega)), all_bits h9]
    | succ d ih =>
      intro k fu pa ho le wa hk hf hp
      obtain ⟨m, rfl⟩ : ∃ m, fu = m + 1 := ⟨fu - 1, by omega⟩
      obtain ⟨pa', ho', le', wa', r1, r2⟩ := ih (k + 1) m (upd pa k (nI k)) (upd ho k (if k = 0 then deep else 0)) (upd le k 0) (upd wa k 0) (by omega) (by omega) (fun p hpk => by
        by_cases h : p = k
        · subst h; rw [up_s, up_s, up_s, up_s]; exact ⟨rfl, rfl, rfl, rfl⟩
        · rw [up_n h, up_n h, up_n h, up_n h]; exact hp p (by omega))
      refine ⟨pa', ho', le', wa', ?_, r2⟩
      rw [← r1, f_X12_begin_7, if_neg (show ¬ (9 : Int32) ≤ nI k from nI_ge (b := 9) (by omega) (by omega)), if_neg (nI_in (by omega) (by omega))]
      unfold f_X12_begin_37
      by_cases h0 : k = 0
      · subst h0
        rw [if_pos (show nI 0 = 0 from rfl), if_neg (nI_in (by omega) (by omega)), if_neg (nI_in (by omega) (by omega)), if_neg (nI_in (by omega) (by omega)), nI_clamp (by omega), if_pos rfl, nI_1]
      · rw [if_neg (nI_ne0 (by omega) (by omega)), if_neg (nI_in (by omega) (by omega)), if_neg (nI_in (by omega) (by omega)), if_neg (nI_in (by omega) (by omega)), nI_clamp (by omega), if_neg h0, nI_1]
  exact key 9 0 fuel pa ho le wa (by omega) (fuel_big (by omega)) (fun p hp => absurd hp (Nat.not_lt_zero p))
def a0 (dp : Nat) : AS := (fun k => if k = 0 then dp else 0, fun _ => 0, fun _ => false)
theorem new_CH {n dp : Nat} (h3 : 3 ≤ n) (h9 : n ≤ 9) (hd1 : 1 ≤ dp) (hd9 : dp ≤ 9) {pa ho le wa : Nat → Int32} (h : ∀ p, p < 9 → pa p = nI p ∧ ho p = (if p = 0 then nI dp else 0) ∧ le p = 0 ∧ wa p = 0) : CH n 0 dp (fun _ => 0) (a0 dp) (nI n) (nI dp) 0 (nI dp).toInt64 0 0 (nI n) (nI dp) (nI (sbit n (fun _ => false))) pa ho le wa := by
  have hz : ∀ p, p < n → tpi n 0 p = p := fun p hp => by unfold tpi; rw [Nat.sub_zero, Nat.add_mod_right, Nat.mod_eq_of_lt hp]
  refine ⟨⟨⟨h3, h9, hd1, hd9, fun _ => Nat.zero_le _, fun _ _ => rfl⟩, ⟨fun k => ?_, fun k hk => ?_, fun _ => Nat.zero_le _, fun _ _ => rfl, fun _ _ => rfl⟩, by omega, fun d hd => absurd hd (by simp [a0])⟩, ⟨rfl, rfl, rfl, ?_, ?_, ?_⟩, rfl, rfl, rfl, ⟨tpi_PM (by omega), ⟨fun p hp => ?_, fun p hp => ?_⟩, fun p hp => ?_⟩, fun d hd => (h d (by omega)).2.2.2⟩
  · show (if k = 0 then dp else 0) ≤ dp
    by_cases q : k = 0 <;> simp [q]
  · show (if k = 0 then dp else 0) = 0
    rw [if_neg (by omega)]
  · rw [nI_l (by omega), show lN dp = lN (dp * 32 ^ 0) by simp, v9_one 0 dp (by omega), v9_w9]
    rfl
  · rw [show a0 dp = a0 dp from rfl]
    show (0 : Int64) = v9 (fun _ => 0)
    decide
  · decide
  · rw [(h p (by omega)).1, hz p hp]
  · rw [hz p hp, (h p (by omega)).2.1]
    show (if p = 0 then nI dp else 0) = nI (if p = 0 then dp else 0)
    by_cases q : p = 0 <;> simp [q] <;> rfl
  · rw [hz p hp, (h p (by omega)).2.2.1]; rfl
