/-! what rows fit the sights -/
def fitAb (bh dr : Nat → Nat) (sv : Nat → Bool) (k : Nat) (a : AS) : Nat → Bool
  | 0 => true
  | i + 1 => fitAb bh dr sv k a i && (!decide (bh i = k) || (a.2.2 (dr i) == !(sv i)))
theorem fitAb_iff {bh dr : Nat → Nat} {sv : Nat → Bool} {k : Nat} {a : AS} : ∀ c, fitAb bh dr sv k a c = true ↔ ∀ i, i < c → bh i = k → a.2.2 (dr i) = !(sv i)
  | 0 => by simp [fitAb]
  | c + 1 => by
    rw [fitAb, Bool.and_eq_true, fitAb_iff c]
    constructor
    · rintro ⟨h1, h2⟩ i hi hb
      by_cases e : i = c
      · subst e
        rw [decide_eq_true hb] at h2
        simpa using h2
      · exact h1 i (by omega) hb
    · intro h
      refine ⟨fun i hi hb => h i (by omega) hb, ?_⟩
      by_cases q : bh c = k
      · have := h c (by omega) q
        rw [this]; simp
      · rw [decide_eq_false q]; rfl
def fitB (n dp : Nat) (wt : Nat → Nat) (c : Nat) (bh dr : Nat → Nat) (sv : Nat → Bool) : Nat → List Nat → AS → Bool
  | k, [], a => fitAb bh dr sv k a c
  | k, h :: t, a => fitAb bh dr sv k a c && fitB n dp wt c bh dr sv (k + 1) t (aP n dp wt h a)
def ct (n dp : Nat) (wt : Nat → Nat) (c : Nat) (bh dr : Nat → Nat) (sv : Nat → Bool) : Nat → Nat → AS → Nat
  | 0, k, a => if fitAb bh dr sv k a c then 1 else 0
  | L + 1, k, a => if fitAb bh dr sv k a c then ct n dp wt c bh dr sv L (k + 1) (aP n dp wt 0 a) + ct n dp wt c bh dr sv L (k + 1) (aP n dp wt 1 a) + ct n dp wt c bh dr sv L (k + 1) (aP n dp wt 2 a) else 0
def cd (n dp : Nat) (wt : Nat → Nat) (c : Nat) (bh dr : Nat → Nat) (sv : Nat → Bool) : Nat → Nat → AS → Nat → Nat → Bool
  | 0, _, _, _, _ => false
  | L + 1, k, a, 0, h => fitAb bh dr sv k a c && decide (0 < ct n dp wt c bh dr sv L (k + 1) (aP n dp wt h a))
  | L + 1, k, a, i + 1, h => fitAb bh dr sv k a c && (cd n dp wt c bh dr sv L (k + 1) (aP n dp wt 0 a) i h || cd n dp wt c bh dr sv L (k + 1) (aP n dp wt 1 a) i h || cd n dp wt c bh dr sv L (k + 1) (aP n dp wt 2 a) i h)
def lh (f : Nat → Nat) : Nat := if 0 < f 0 then 0 else if 0 < f 1 then 1 else 2
def fi (n dp : Nat) (wt : Nat → Nat) (c : Nat) (bh dr : Nat → Nat) (sv : Nat → Bool) : Nat → Nat → AS → Nat → Nat
  | 0, _, _, _ => 0
  | L + 1, k, a, 0 => lh (fun h => ct n dp wt c bh dr sv L (k + 1) (aP n dp wt h a))
  | L + 1, k, a, i + 1 => fi n dp wt c bh dr sv L (k + 1) (aP n dp wt (lh (fun h => ct n dp wt c bh dr sv L (k + 1) (aP n dp wt h a))) a) i
theorem ct_le {n dp : Nat} {wt : Nat → Nat} {c : Nat} {bh dr : Nat → Nat} {sv : Nat → Bool} : ∀ (L k : Nat) (a : AS), ct n dp wt c bh dr sv L k a ≤ 3 ^ L
  | 0, k, a => by unfold ct; split <;> simp
  | L + 1, k, a => by
    unfold ct
    have h0 := ct_le (n := n) (dp := dp) (wt := wt) (c := c) (bh := bh) (dr := dr) (sv := sv) L (k + 1) (aP n dp wt 0 a)
    have h1 := ct_le (n := n) (dp := dp) (wt := wt) (c := c) (bh := bh) (dr := dr) (sv := sv) L (k + 1) (aP n dp wt 1 a)
    have h2 := ct_le (n := n) (dp := dp) (wt := wt) (c := c) (bh := bh) (dr := dr) (sv := sv) L (k + 1) (aP n dp wt 2 a)
    rw [Nat.pow_succ]
    split <;> omega
theorem ct_no {n dp : Nat} {wt : Nat → Nat} {c : Nat} {bh dr : Nat → Nat} {sv : Nat → Bool} {L k : Nat} {a : AS} (h : fitAb bh dr sv k a c = false) : ct n dp wt c bh dr sv L k a = 0 := by
  cases L <;> (unfold ct; rw [h]; rfl)
theorem ct_barred {n dp : Nat} {wt : Nat → Nat} {c : Nat} {bh dr : Nat → Nat} {sv : Nat → Bool} {i : Nat} (hi : i < c) (hs : sv i = false) : ∀ (L k : Nat) (a : AS), k ≤ bh i → bh i ≤ k + L → a.2.2 (dr i) = false → ct n dp wt c bh dr sv L k a = 0 := by
  have no : ∀ (k : Nat) (a : AS), bh i = k → a.2.2 (dr i) = false → fitAb bh dr sv k a c = false := by
    intro k a e h
    cases q : fitAb bh dr sv k a c with
    | false => rfl
    | true =>
      have := (fitAb_iff c).mp q i hi e
      rw [h, hs] at this
      exact absurd this (by decide)
  intro L
  induction L with
  | zero => intro k a h1 h2 h3; exact ct_no (no k a (by omega) h3)
  | succ L ih =>
    intro k a h1 h2 h3
    by_cases e : bh i = k
    · exact ct_no (no k a e h3)
    · unfold ct
      rw [ih (k + 1) _ (by omega) (by omega) (aP_served h3), ih (k + 1) _ (by omega) (by omega) (aP_served h3), ih (k + 1) _ (by omega) (by omega) (aP_served h3)]
      split <;> rfl
theorem cd_zero {n dp : Nat} {wt : Nat → Nat} {c : Nat} {bh dr : Nat → Nat} {sv : Nat → Bool} : ∀ (L k : Nat) (a : AS) (i h : Nat), h < 3 → ct n dp wt c bh dr sv L k a = 0 → cd n dp wt c bh dr sv L k a i h = false
  | 0, _, _, _, _, _, _ => rfl
  | L + 1, k, a, i, h, hh, e => by
    unfold ct at e
    cases hf : fitAb bh dr sv k a c with
    | false => cases i <;> (unfold cd; rw [hf]; rfl)
    | true =>
      rw [hf, if_pos rfl] at e
      have e0 : ct n dp wt c bh dr sv L (k + 1) (aP n dp wt 0 a) = 0 := by omega
      have e1 : ct n dp wt c bh dr sv L (k + 1) (aP n dp wt 1 a) = 0 := by omega
      have e2 : ct n dp wt c bh dr sv L (k + 1) (aP n dp wt 2 a) = 0 := by omega
      cases i with
      | zero =>
        unfold cd
        have : ct n dp wt c bh dr sv L (k + 1) (aP n dp wt h a) = 0 := by
          have h3 : h = 0 ∨ h = 1 ∨ h = 2 := by omega
          rcases h3 with rfl | rfl | rfl
          · exact e0
          · exact e1
          · exact e2
        rw [this]; simp
      | succ i =>
        unfold cd
        rw [cd_zero L (k + 1) _ i h hh e0, cd_zero L (k + 1) _ i h hh e1, cd_zero L (k + 1) _ i h hh e2]; simp
theorem ct_all {n dp : Nat} {wt : Nat → Nat} {c : Nat} {bh dr : Nat → Nat} {sv : Nat → Bool} : ∀ (L k : Nat) (a : AS), (∀ i, i < c → k ≤ bh i → bh i ≤ k + L → (sv i = true ∧ a.2.2 (dr i) = false) ∨ (sv i = false ∧ bh i = k ∧ a.2.2 (dr i) = true)) → ct n dp wt c bh dr sv L k a = 3 ^ L ∧ (∀ i h, i < L → h < 3 → cd n dp wt c bh dr sv L k a i h = true) ∧ ∀ i, i < L → fi n dp wt c bh dr sv L k a i = 0 := by
  intro L
  induction L with
  | zero =>
    intro k a H
    have hf : fitAb bh dr sv k a c = true := (fitAb_iff c).mpr (fun i hi e => by
      rcases H i hi (by omega) (by omega) with ⟨s, h⟩ | ⟨s, _, h⟩ <;> rw [s, h] <;> rfl)
    refine ⟨by unfold ct; rw [hf]; rfl, fun i h hi => absurd hi (Nat.not_lt_zero i), fun i hi => absurd hi (Nat.not_lt_zero i)⟩
  | succ L ih =>
    intro k a H
    have hf : fitAb bh dr sv k a c = true := (fitAb_iff c).mpr (fun i hi e => by
      rcases H i hi (by omega) (by omega) with ⟨s, h⟩ | ⟨s, _, h⟩ <;> rw [s, h] <;> rfl)
    have child : ∀ h, _ := fun h => ih (k + 1) (aP n dp wt h a) (fun i hi h1 h2 => by
      rcases H i hi (by omega) (by omega) with ⟨s, q⟩ | ⟨s, e, q⟩
      · exact Or.inl ⟨s, aP_served q⟩
      · omega)
    have hp := pow3_pos L
    have l0 : lh (fun h => ct n dp wt c bh dr sv L (k + 1) (aP n dp wt h a)) = 0 := by
      unfold lh
      dsimp only
      rw [if_pos (by rw [(child 0).1]; exact hp)]
    refine ⟨?_, ?_, ?_⟩
    · unfold ct
      rw [hf, if_pos rfl, (child 0).1, (child 1).1, (child 2).1, Nat.pow_succ]; omega
    · intro i h hi hh
      cases i with
      | zero => unfold cd; rw [hf, (child h).1, decide_eq_true hp]; rfl
      | succ i => unfold cd; rw [hf, (child 0).2.1 i h (by omega) hh]; rfl
    · intro i hi
      cases i with
      | zero => unfold fi; exact l0
      | succ i => unfold fi; rw [l0]; exact (child 0).2.2 i (by omega)
def sb3 (f : Nat → Bool) : Nat := (if f 0 then 1 else 0) + (if f 1 then 2 else 0) + (if f 2 then 4 else 0)
theorem sb3_or_b : ∀ a b c x y z : Bool, nI ((if a then 1 else 0) + (if b then 2 else 0) + (if c then 4 else 0)) ||| nI ((if x then 1 else 0) + (if y then 2 else 0) + (if z then 4 else 0)) = nI ((if a || x then 1 else 0) + (if b || y then 2 else 0) + (if c || z then 4 else 0)) := by decide +kernel
theorem sb3_or (f g : Nat → Bool) : nI (sb3 f) ||| nI (sb3 g) = nI (sb3 (fun h => f h || g h)) := sb3_or_b _ _ _ _ _ _
theorem sb3_cong {f g : Nat → Bool} (h : ∀ i, i < 3 → f i = g i) : sb3 f = sb3 g := by unfold sb3; rw [h 0 (by omega), h 1 (by omega), h 2 (by omega)]
theorem sb3_zero {f : Nat → Bool} (h : ∀ i, i < 3 → f i = false) : sb3 f = 0 := by unfold sb3; rw [h 0 (by omega), h 1 (by omega), h 2 (by omega)]; rfl
theorem sb3_seven {f : Nat → Bool} (h : ∀ i, i < 3 → f i = true) : sb3 f = 7 := by unfold sb3; rw [h 0 (by omega), h 1 (by omega), h 2 (by omega)]; rfl
theorem sb3_lt (f : Nat → Bool) : sb3 f < 8 := by unfold sb3; (repeat' split) <;> omega
theorem sb3_pos {f : Nat → Bool} : sb3 f = 0 ↔ ∀ i, i < 3 → f i = false := by
  constructor
  · intro h i hi
    have h3 : i = 0 ∨ i = 1 ∨ i = 2 := by omega
    unfold sb3 at h
    cases q : f i
    · rfl
    · rcases h3 with rfl | rfl | rfl <;> rw [q] at h <;> simp at h
  · exact sb3_zero
theorem sb3_bit {d : Nat} (h : d < 3) : sb3 (fun i => decide (d = i)) = 2 ^ d := by
  have h3 : d = 0 ∨ d = 1 ∨ d = 2 := by omega
  rcases h3 with rfl | rfl | rfl <;> rfl
theorem or_z (x : Int32) : x ||| nI 0 = x := by
  apply b_ext
  intro i _
  rw [b_or, show nI 0 = (0 : Int32) from rfl, b_0, Bool.or_false]
theorem or_as (x y z : Int32) : (x ||| y) ||| z = x ||| (y ||| z) := by
  apply b_ext
  intro i _
  rw [b_or, b_or, b_or, b_or, Bool.or_assoc]
/-! the same by numbers -/
def dg (L y i : Nat) : Nat := y / 3 ^ (L - 1 - i) % 3
theorem tl_hi (m : Nat) {y : Nat} (h : y < 3 ^ m) (b : Nat) (hb : b < 3) : tl (m + 1) (b * 3 ^ m + y) = b :: tl m y := by
  have hp : 0 < 3 ^ m := pow3_pos m
  have e1 : (b * 3 ^ m + y) / 3 ^ m % 3 = b := by
    rw [Nat.add_comm, Nat.add_mul_div_right _ _ hp, Nat.div_eq_of_lt h, Nat.zero_add, Nat.mod_eq_of_lt hb]
  have e2 : tl m (b * 3 ^ m + y) = tl m y := by
    rw [← tl_mod m (b * 3 ^ m + y), Nat.add_comm, Nat.add_mul_mod_self_right, Nat.mod_eq_of_lt h]
  rw [tl, e1, e2]
theorem dg_0 {L y b : Nat} (h : y < 3 ^ L) (hb : b < 3) : dg (L + 1) (b * 3 ^ L + y) 0 = b := by
  unfold dg
  rw [show L + 1 - 1 - 0 = L by omega, Nat.add_comm, Nat.add_mul_div_right _ _ (pow3_pos L), Nat.div_eq_of_lt h, Nat.zero_add, Nat.mod_eq_of_lt hb]
theorem dg_s {L y b i : Nat} (hi : i < L) : dg (L + 1) (b * 3 ^ L + y) (i + 1) = dg L y i := by
  unfold dg
  rw [show L + 1 - 1 - (i + 1) = L - 1 - i by omega]
  have e : 3 ^ L = 3 ^ (L - 1 - i) * (3 * 3 ^ i) := by
    rw [← Nat.pow_succ', ← Nat.pow_add]; congr 1; omega
  rw [e, show b * (3 ^ (L - 1 - i) * (3 * 3 ^ i)) = 3 ^ (L - 1 - i) * (3 * (b * 3 ^ i)) by rw [Nat.mul_left_comm, Nat.mul_left_comm b 3], Nat.mul_add_div (pow3_pos _)]
  omega
theorem split3 {m y : Nat} (h : y < 3 ^ (m + 1)) : ∃ b y', b < 3 ∧ y' < 3 ^ m ∧ y = b * 3 ^ m + y' :=
  ⟨y / 3 ^ m, y % 3 ^ m, dig_lt h, Nat.mod_lt _ (pow3_pos m), by rw [Nat.mul_comm]; exact (Nat.div_add_mod y (3 ^ m)).symm⟩
theorem fit_hi {n dp : Nat} {wt : Nat → Nat} {c : Nat} {bh dr : Nat → Nat} {sv : Nat → Bool} {L k y b : Nat} {a : AS} (h : y < 3 ^ L) (hb : b < 3) : fitB n dp wt c bh dr sv k (tl (L + 1) (b * 3 ^ L + y)) a = (fitAb bh dr sv k a c && fitB n dp wt c bh dr sv (k + 1) (tl L y) (aP n dp wt b a)) := by
  rw [tl_hi L h b hb, fitB]
theorem ct_num {n dp : Nat} {wt : Nat → Nat} {c : Nat} {bh dr : Nat → Nat} {sv : Nat → Bool} : ∀ (L k : Nat) (a : AS), fb_ct (fun y => fitB n dp wt c bh dr sv k (tl L y) a) (3 ^ L) = ct n dp wt c bh dr sv L k a
  | 0, k, a => by
    show 0 + (if fitAb bh dr sv k a c then 1 else 0) = ct n dp wt c bh dr sv 0 k a
    rw [Nat.zero_add, ct]
  | L + 1, k, a => by
    have g0 : ∀ y, y < 3 ^ L → fitB n dp wt c bh dr sv k (tl (L + 1) y) a = (fitAb bh dr sv k a c && fitB n dp wt c bh dr sv (k + 1) (tl L y) (aP n dp wt 0 a)) := fun y hy => by
      have := fit_hi (n := n) (dp := dp) (wt := wt) (c := c) (bh := bh) (dr := dr) (sv := sv) (k := k) (a := a) hy (show 0 < 3 by omega)
      rwa [Nat.zero_mul, Nat.zero_add] at this
    have g1 : ∀ y, y < 3 ^ L → fitB n dp wt c bh dr sv k (tl (L + 1) (3 ^ L + y)) a = (fitAb bh dr sv k a c && fitB n dp wt c bh dr sv (k + 1) (tl L y) (aP n dp wt 1 a)) := fun y hy => by
      have := fit_hi (n := n) (dp := dp) (wt := wt) (c := c) (bh := bh) (dr := dr) (sv := sv) (k := k) (a := a) hy (show 1 < 3 by omega)
      rwa [Nat.one_mul] at this
    have g2 : ∀ y, y < 3 ^ L → fitB n dp wt c bh dr sv k (tl (L + 1) (3 ^ L + (3 ^ L + y))) a = (fitAb bh dr sv k a c && fitB n dp wt c bh dr sv (k + 1) (tl L y) (aP n dp wt 2 a)) := fun y hy => by
      have := fit_hi (n := n) (dp := dp) (wt := wt) (c := c) (bh := bh) (dr := dr) (sv := sv) (k := k) (a := a) hy (show 2 < 3 by omega)
      rwa [Nat.two_mul, Nat.add_assoc] at this
    rw [Nat.pow_succ, show 3 ^ L * 3 = 3 ^ L + (3 ^ L + 3 ^ L) by omega, fb_ct_split, fb_ct_split, fb_ct_cong g0, fb_ct_cong (p := fun y => fitB n dp wt c bh dr sv k (tl (L + 1) (3 ^ L + y)) a) g1, fb_ct_cong (p := fun y => fitB n dp wt c bh dr sv k (tl (L + 1) (3 ^ L + (3 ^ L + y))) a) g2]
    cases hf : fitAb bh dr sv k a c with
    | false =>
      rw [ct_no hf]
      have z : fb_ct (fun _ : Nat => false) (3 ^ L) = 0 := fb_ct_zero.mpr (fun _ _ => rfl)
      simp only [Bool.false_and]
      rw [z]
    | true =>
      simp only [Bool.true_and]
      rw [ct_num L (k + 1), ct_num L (k + 1), ct_num L (k + 1), ct, hf, if_pos rfl, Nat.add_assoc]
theorem ct_pos {n dp : Nat} {wt : Nat → Nat} {c : Nat} {bh dr : Nat → Nat} {sv : Nat → Bool} {L k : Nat} {a : AS} : 0 < ct n dp wt c bh dr sv L k a ↔ ∃ y, y < 3 ^ L ∧ fitB n dp wt c bh dr sv k (tl L y) a = true := by
  rw [← ct_num]; exact fb_ct_pos
theorem cd_num {n dp : Nat} {wt : Nat → Nat} {c : Nat} {bh dr : Nat → Nat} {sv : Nat → Bool} : ∀ (L k : Nat) (a : AS) (i h : Nat), i < L → h < 3 → (cd n dp wt c bh dr sv L k a i h = true ↔ ∃ y, y < 3 ^ L ∧ fitB n dp wt c bh dr sv k (tl L y) a = true ∧ dg L y i = h)
  | 0, _, _, i, _, hi, _ => absurd hi (Nat.not_lt_zero i)
  | L + 1, k, a, 0, h, hi, hh => by
    have hp2 : 3 ^ (L + 1) = 3 ^ L * 3 := Nat.pow_succ ..
    rw [cd, Bool.and_eq_true, decide_eq_true_iff, ct_pos]
    constructor
    · rintro ⟨q, y, hy, hf⟩
      refine ⟨h * 3 ^ L + y, ?_, ?_, dg_0 hy hh⟩
      · have : h * 3 ^ L ≤ 2 * 3 ^ L := Nat.mul_le_mul_right _ (by omega)
        omega
      · rw [fit_hi hy hh, q, hf]; rfl
    · rintro ⟨y, hy, hf, hd⟩
      obtain ⟨b, y', hb, hy', rfl⟩ := split3 hy
      rw [dg_0 hy' hb] at hd
      subst hd
      rw [fit_hi hy' hb, Bool.and_eq_true] at hf
      exact ⟨hf.1, y', hy', hf.2⟩
  | L + 1, k, a, i + 1, h, hi, hh => by
    have hp2 : 3 ^ (L + 1) = 3 ^ L * 3 := Nat.pow_succ ..
    have ih := fun b => cd_num (n := n) (dp := dp) (wt := wt) (c := c) (bh := bh) (dr := dr) (sv := sv) L (k + 1) (aP n dp wt b a) i h (by omega) hh
    rw [cd, Bool.and_eq_true, Bool.or_eq_true, Bool.or_eq_true, ih 0, ih 1, ih 2]
    constructor
    · rintro ⟨q, (⟨y, hy, hf, hd⟩ | ⟨y, hy, hf, hd⟩) | ⟨y, hy, hf, hd⟩⟩
      · exact ⟨0 * 3 ^ L + y, by omega, by rw [fit_hi hy (by omega), q, hf]; rfl, by rw [dg_s (by omega), hd]⟩
      · exact ⟨1 * 3 ^ L + y, by omega, by rw [fit_hi hy (by omega), q, hf]; rfl, by rw [dg_s (by omega), hd]⟩
      · exact ⟨2 * 3 ^ L + y, by omega, by rw [fit_hi hy (by omega), q, hf]; rfl, by rw [dg_s (by omega), hd]⟩
    · rintro ⟨y, hy, hf, hd⟩
      obtain ⟨b, y', hb, hy', rfl⟩ := split3 hy
      rw [dg_s (by omega)] at hd
      rw [fit_hi hy' hb, Bool.and_eq_true] at hf
      have h3 : b = 0 ∨ b = 1 ∨ b = 2 := by omega
      rcases h3 with rfl | rfl | rfl
      · exact ⟨hf.1, Or.inl (Or.inl ⟨y', hy', hf.2, hd⟩)⟩
      · exact ⟨hf.1, Or.inl (Or.inr ⟨y', hy', hf.2, hd⟩)⟩
      · exact ⟨hf.1, Or.inr ⟨y', hy', hf.2, hd⟩⟩
theorem fi_num {n dp : Nat} {wt : Nat → Nat} {c : Nat} {bh dr : Nat → Nat} {sv : Nat → Bool} : ∀ (L k : Nat) (a : AS) (y : Nat), y < 3 ^ L → fitB n dp wt c bh dr sv k (tl L y) a = true → (∀ y', y' < y → fitB n dp wt c bh dr sv k (tl L y') a = false) → ∀ i, i < L → dg L y i = fi n dp wt c bh dr sv L k a i
  | 0, _, _, _, _, _, _, i, hi => absurd hi (Nat.not_lt_zero i)
  | L + 1, k, a, y, hy, hf, hmin, i, hi => by
    obtain ⟨b, y', hb, hy', rfl⟩ := split3 hy
    rw [fit_hi hy' hb, Bool.and_eq_true] at hf
    have hz : ∀ b', b' < b → ct n dp wt c bh dr sv L (k + 1) (aP n dp wt b' a) = 0 := fun b' hb' => by
      rcases Nat.eq_zero_or_pos (ct n dp wt c bh dr sv L (k + 1) (aP n dp wt b' a)) with q | q
      · exact q
      · obtain ⟨y2, hy2, hf2⟩ := ct_pos.mp q
        have hm : (b' + 1) * 3 ^ L ≤ b * 3 ^ L := Nat.mul_le_mul_right _ hb'
        rw [Nat.add_mul, Nat.one_mul] at hm
        have := hmin (b' * 3 ^ L + y2) (by omega)
        rw [fit_hi hy2 (by omega), hf.1, hf2] at this
        exact absurd this (by decide)
    have hl : lh (fun h => ct n dp wt c bh dr sv L (k + 1) (aP n dp wt h a)) = b := by
      have hpos : 0 < ct n dp wt c bh dr sv L (k + 1) (aP n dp wt b a) := ct_pos.mpr ⟨y', hy', hf.2⟩
      have h3 : b = 0 ∨ b = 1 ∨ b = 2 := by omega
      unfold lh
      dsimp only
      rcases h3 with rfl | rfl | rfl
      · rw [if_pos hpos]
      · rw [if_neg (by rw [hz 0 (by omega)]; omega), if_pos hpos]
      · rw [if_neg (by rw [hz 0 (by omega)]; omega), if_neg (by rw [hz 1 (by omega)]; omega)]
    cases i with
    | zero => rw [dg_0 hy' hb, fi, hl]
    | succ i =>
      rw [dg_s (by omega), fi, hl]
      exact fi_num L (k + 1) (aP n dp wt b a) y' hy' hf.2 (fun y2 hy2 => by
        have := hmin (b * 3 ^ L + y2) (by omega)
        rw [fit_hi (by omega) hb, hf.1, Bool.true_and] at this
        exact this) i (by omega)
