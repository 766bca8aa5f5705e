/-! the class's first look: a door that no pail can reach with enough -/
def wayN (n p q : Nat) : Nat := if p ≤ q then (if n - (q - p) < q - p then n - (q - p) else q - p) else (if n - (p - q) < p - q then n - (p - q) else p - q)
theorem way_lt {n p q : Nat} (hp : p < n) (hq : q < n) : wayN n p q < n := by
  unfold wayN
  (repeat' split) <;> omega
theorem way_self {n p : Nat} : wayN n p p = 0 := by
  unfold wayN
  rw [if_pos (Nat.le_refl _), Nat.sub_self]
  split <;> omega
theorem way_step {n b p d : Nat} (h3 : 3 ≤ n) (hb : b = 0 ∨ b = 1 ∨ b = n - 1) (hp : p < n) (hd : d < n) : wayN n ((p + n - b) % n) d ≤ wayN n p d + 1 := by
  have e1 : (p + n - b) % n = if b ≤ p then p - b else p + n - b := by
    by_cases h : b ≤ p
    · rw [if_pos h, show p + n - b = (p - b) + n by omega, Nat.add_mod_right, Nat.mod_eq_of_lt (by omega)]
    · rw [if_neg h, Nat.mod_eq_of_lt (by omega)]
  rw [e1]
  unfold wayN
  rcases hb with rfl | rfl | rfl <;> (repeat' split) <;> omega
theorem hb_three (n how : Nat) : hb n how = 0 ∨ hb n how = 1 ∨ hb n how = n - 1 := by
  unfold hb
  (repeat' split) <;> omega
def mx1 (x : Nat) : Nat := if 1 < x then x else 1
/-- no pail can serve door d -/
def NC (n dp : Nat) (wt : Nat → Nat) (d : Nat) (a : AS) : Prop := ∀ p, p < n → a.1 p < wt d + a.2.1 p * mx1 (wayN n p d) ∧ dp < wt d + a.2.1 p * wayN n 0 d
theorem NC_step {n dp how d : Nat} {wt : Nat → Nat} {a : AS} (h3 : 3 ≤ n) (hd : d < n) (hw1 : 1 ≤ wt d) (h : NC n dp wt d a) (ht : a.2.2 d = true) : NC n dp wt d (aP n dp wt how a) ∧ (aP n dp wt how a).2.2 d = true := by
  have full : ∀ p, p < n → aFull n dp how a p < wt d + rot n how a.2.1 p * mx1 (wayN n p d) ∧ dp < wt d + rot n how a.2.1 p * wayN n 0 d ∧ (p = d → aFull n dp how a p < wt d) := by
    intro p hp
    have hq : (p + n - hb n how) % n < n := Nat.mod_lt _ (by omega)
    have hs := way_step (b := hb n how) (p := p) (d := d) h3 (hb_three n how) hp hd
    obtain ⟨h1, h2⟩ := h _ hq
    unfold aFull a_full a_fill
    dsimp only
    rw [rot_in hp, rot_in hp]
    generalize hqe : (p + n - hb n how) % n = q at *
    generalize a.2.1 q = k at *
    generalize a.1 q = l at *
    have m1 : k * mx1 (wayN n q d) ≤ k * mx1 (wayN n p d) + k := by
      rw [← Nat.mul_succ]
      apply Nat.mul_le_mul_left
      unfold mx1
      (repeat' split) <;> omega
    refine ⟨?_, h2, ?_⟩
    · by_cases q0 : p = 0
      · rw [if_pos q0]
        have m2 : k * wayN n 0 d ≤ k * mx1 (wayN n p d) := by
          apply Nat.mul_le_mul_left
          rw [q0]
          unfold mx1
          split <;> omega
        omega
      · rw [if_neg q0]; omega
    · intro e
      subst e
      by_cases q0 : p = 0
      · rw [if_pos q0]
        rw [q0, way_self, Nat.mul_zero] at h2
        rw [q0]
        omega
      · rw [if_neg q0]
        have e1 : mx1 (wayN n q p) = 1 := by
          rw [way_self] at hs
          unfold mx1
          rw [if_neg (by omega)]
        rw [e1] at h1
        omega
  refine ⟨fun p hp => ?_, ?_⟩
  · obtain ⟨f1, f2, _⟩ := full p hp
    exact ⟨Nat.lt_of_le_of_lt (drL_le p) f1, f2⟩
  · have f3 := (full d hd).2.2 rfl
    show (a.2.2 d && !decide (wt d ≤ aFull n dp how a d)) = true
    rw [ht, decide_eq_false (by omega)]
    rfl
theorem NC_run {n dp d : Nat} {wt : Nat → Nat} (h3 : 3 ≤ n) (hd : d < n) (hw1 : 1 ≤ wt d) : ∀ (l : List Nat) {a : AS}, NC n dp wt d a → a.2.2 d = true → (aRun n dp wt l a).2.2 d = true
  | [], _, _, ht => ht
  | _ :: t, _, h, ht => by
    obtain ⟨h', ht'⟩ := NC_step h3 hd hw1 h ht
    exact NC_run h3 hd hw1 t h' ht'
theorem NC_none {n dp d : Nat} {wt : Nat → Nat} {D : Nat → Bool} {a : AS} (b : Nat) (h3 : 3 ≤ n) (hd : d < n) (hw1 : 1 ≤ wt d) (hD : D d = true) (h : NC n dp wt d a) (ht : a.2.2 d = true) : isF n dp wt D b a none := fun m y _ _ hr => by
  have h1 := hr d hd hD
  rw [NC_run h3 hd hw1 _ h ht] at h1
  exact absurd h1 (by decide)
theorem abs_nI {p q : Nat} (hp : p < 100) (hq : q < 100) : (if 0 ≤ nI p - nI q then nI p - nI q else 0 - (nI p - nI q)) = nI (if q ≤ p then p - q else q - p) := by
  by_cases h : q ≤ p
  · rw [pk_sub h, if_pos (show (0 : Int32) ≤ nI (p - q) from nI_le (a := 0) (by omega) (by omega)), if_pos h]
  · have e : (nI p - nI q).toInt = (p : Int) - q := pk_sub_toInt (by omega) (by omega)
    rw [if_neg (fun q2 => by rw [fa_le, e] at q2; rw [show (0 : Int32).toInt = 0 from rfl] at q2; omega), if_neg h, fa_eq, fb_subI (by rw [e, show (0 : Int32).toInt = 0 from rfl]; omega) (by rw [e, show (0 : Int32).toInt = 0 from rfl]; omega), e, nI_toInt (by omega), show (0 : Int32).toInt = 0 from rfl]
    omega
theorem cl_way {n p q : Nat} (h9 : n ≤ 9) (hp : p < n) (hq : q < n) : f_X7_way (nI n) (nI p) (nI q) = some (nI (wayN n p q)) := by
  unfold f_X7_way
  rw [abs_nI (by omega) (by omega)]
  have e : wayN n p q = if n - (if q ≤ p then p - q else q - p) < (if q ≤ p then p - q else q - p) then n - (if q ≤ p then p - q else q - p) else (if q ≤ p then p - q else q - p) := by
    unfold wayN
    (repeat' split) <;> omega
  have hx : (if q ≤ p then p - q else q - p) < n := by split <;> omega
  rw [e]
  generalize (if q ≤ p then p - q else q - p) = x at hx
  rw [pk_sub (by omega)]
  by_cases h : n - x < x
  · rw [if_pos (nI_lt h (by omega)), if_pos h]
  · rw [if_neg (nI_nlt (by omega) (by omega)), if_neg h]
theorem mx_nI {x : Nat} (h : x < 100) : (if (1 : Int32) < nI x then nI x else 1) = nI (mx1 x) := by
  unfold mx1
  by_cases q : 1 < x
  · rw [if_pos (show (1 : Int32) < nI x from nI_lt (a := 1) q (by omega)), if_pos q]
  · rw [if_neg (show ¬ (1 : Int32) < nI x from nI_nlt (a := 1) (by omega) (by omega)), if_neg q]
    rfl
theorem can_cmp {l k m dp w wd : Nat} (h1 : l < 20) (h2 : k < 20) (h3 : m < 20) (h4 : dp < 20) (h5 : w < 20) (h6 : wd < 20) : ((if nI l - nI k * nI m < nI dp - nI k * nI w then nI dp - nI k * nI w else nI l - nI k * nI m) < nI wd) ↔ l < wd + k * m ∧ dp < wd + k * w := by
  have b1 : k * m ≤ 400 := Nat.mul_le_mul (by omega : k ≤ 20) (by omega : m ≤ 20)
  have b2 : k * w ≤ 400 := Nat.mul_le_mul (by omega : k ≤ 20) (by omega : w ≤ 20)
  rw [pk_mul, pk_mul]
  have e1 : (nI l - nI (k * m)).toInt = (l : Int) - (k * m : Nat) := pk_sub_toInt (by omega) (by omega)
  have e2 : (nI dp - nI (k * w)).toInt = (dp : Int) - (k * w : Nat) := pk_sub_toInt (by omega) (by omega)
  by_cases h : nI l - nI (k * m) < nI dp - nI (k * w)
  · rw [if_pos h, fa_lt, e2, nI_toInt (by omega)]
    rw [fa_lt, e1, e2] at h
    omega
  · rw [if_neg h, fa_lt, e1, nI_toInt (by omega)]
    rw [fa_lt, e1, e2] at h
    omega
theorem cl_canOne_24 {n dp d : Nat} {wt : Nat → Nat} {a : AS} (hw : wOK n dp wt) (ha : aOK n dp a) (hd : d < n) : ∀ (e k fu : Nat), k + e = n → e < fu → (∀ p, p < k → a.1 p < wt d + a.2.1 p * mx1 (wayN n p d) ∧ dp < wt d + a.2.1 p * wayN n 0 d) → ∃ z, f_X7_canOne_24 fu (nI d) (w9 a.1 a.2.2) (v9 a.2.1) (nI (wt d)) (nI (wayN n 0 d)) (nI k) (nI n) (nI dp) = some z ∧ (z = 0 → NC n dp wt d a) := by
  obtain ⟨h3, h9, h1, h2, h4, h5⟩ := hw
  obtain ⟨a1, a2, a3, a4, a5⟩ := ha
  have hw0 := way_lt (n := n) (p := 0) (q := d) (by omega) hd
  have hwd := h4 d
  intro e
  induction e with
  | zero =>
    intro k fu hk hf hh
    obtain ⟨f, rfl⟩ : ∃ f, fu = f + 1 := ⟨fu - 1, by omega⟩
    refine ⟨0, ?_, fun _ p hp => hh p (by omega)⟩
    rw [f_X7_canOne_24, if_pos (nI_le (by omega) (by omega))]
  | succ e ih =>
    intro k fu hk hf hh
    obtain ⟨f, rfl⟩ : ∃ f, fu = f + 1 := ⟨fu - 1, by omega⟩
    have hkw := way_lt (n := n) (p := k) (q := d) (by omega) hd
    have hm : mx1 (wayN n k d) < 20 := by
      unfold mx1
      split <;> omega
    have b1 := a1 k
    have b2 := a3 k
    have l1 : f_X11_lane (v9 a.2.1) (nI k) = some (nI (a.2.1 k)) := c_laneV (lt16 (by omega) a3) (by omega)
    have l2 : f_X11_lane (w9 a.1 a.2.2) (nI k) = some (nI (a.1 k)) := c_lane _ (lt16 h2 a1) (by omega)
    have l3 : f_X7_way (nI n) (nI k) (nI d) = some (nI (wayN n k d)) := cl_way h9 (by omega) hd
    have cc := can_cmp (l := a.1 k) (k := a.2.1 k) (m := mx1 (wayN n k d)) (dp := dp) (w := wayN n 0 d) (wd := wt d) (by omega) (by omega) hm (by omega) (by omega) (by omega)
    rw [f_X7_canOne_24, if_neg (nI_ge (by omega) (by omega)), l1, Option.bind_some, l2, Option.bind_some, l3, Option.bind_some, mx_nI (by omega)]
    by_cases q : a.1 k < wt d + a.2.1 k * mx1 (wayN n k d) ∧ dp < wt d + a.2.1 k * wayN n 0 d
    · rw [if_pos (cc.mpr q), nI_1]
      exact ih (k + 1) f (by omega) (by omega) (fun p hp => by
        by_cases e : p = k
        · subst e; exact q
        · exact hh p (by omega))
    · rw [if_neg (fun q2 => q (cc.mp q2))]
      exact ⟨1, rfl, fun e => absurd e (by decide)⟩
theorem cl_canOne {n dp d : Nat} {wt : Nat → Nat} {a : AS} (hw : wOK n dp wt) (ha : aOK n dp a) (hd : d < n) : ∃ z, f_X7_canOne (nI n) (nI dp) (v9 wt) (nI d) (w9 a.1 a.2.2) (v9 a.2.1) = some z ∧ (z = 0 → NC n dp wt d a) := by
  have h3 := hw.1
  have h9 := hw.2.1
  have h4 := hw.2.2.2.2.1
  have l0 : f_X11_lane (v9 wt) (nI d) = some (nI (wt d)) := c_laneV (lt16 (by omega) h4) (by omega)
  have e0 : f_X7_way (nI n) (nI 0) (nI d) = some (nI (wayN n 0 d)) := cl_way (p := 0) h9 (by omega) hd
  unfold f_X7_canOne
  rw [l0, Option.bind_some, show (0 : Int32) = nI 0 from rfl, e0, Option.bind_some]
  exact cl_canOne_24 hw ha hd n 0 fuel (by omega) (fuel_big (by omega)) (fun p hp => absurd hp (Nat.not_lt_zero p))
theorem w9_mask_flag {lev : Nat → Nat} {th D : Nat → Bool} {k : Nat} (hl : ∀ k, lev k < 16) (hk : k < 9) : (w9 lev th &&& mask D) &&& v9 (fun j => if j = k then 16 else 0) = 0 ↔ (th k && D k) = false := by
  have e : w9 lev th &&& mask D = w9 (fun _ => 0) (fun k => th k && D k) := by
    unfold mask
    rw [v9_and (u9_lt hl) (ff_lt D 16 (by omega))]
    exact v9_congr (fun k _ => by show _ = 0 + _; rw [Nat.zero_add]; exact ln_m _ (hl k) _ _)
  rw [e]
  exact w9_flag (fun _ => by omega) hk
theorem cl_canAll {n dp : Nat} {wt : Nat → Nat} {D : Nat → Bool} {a : AS} (hw : wOK n dp wt) (ha : aOK n dp a) : ∃ z, f_X7_canAll (mask D) (nI n) (nI dp) (v9 wt) (w9 a.1 a.2.2) (v9 a.2.1) = some z ∧ (z = 0 → ∃ d, d < n ∧ D d = true ∧ a.2.2 d = true ∧ NC n dp wt d a) := by
  unfold f_X7_canAll
  have h9 := hw.2.1
  have key : ∀ (e k fu : Nat), k + e = n → e < fu → ∃ z, f_X7_canAll_3 fu (w9 a.1 a.2.2) (v9 a.2.1) (nI k) (mask D) (nI n) (nI dp) (v9 wt) = some z ∧ (z = 0 → ∃ d, d < n ∧ D d = true ∧ a.2.2 d = true ∧ NC n dp wt d a) := by
    intro e
    induction e with
    | zero =>
      intro k fu hk hf
      obtain ⟨f, rfl⟩ : ∃ f, fu = f + 1 := ⟨fu - 1, by omega⟩
      refine ⟨1, ?_, fun q => absurd q (by decide)⟩
      rw [f_X7_canAll_3, if_pos (nI_le (by omega) (by omega))]
    | succ e ih =>
      intro k fu hk hf
      obtain ⟨f, rfl⟩ : ∃ f, fu = f + 1 := ⟨fu - 1, by omega⟩
      rw [f_X7_canAll_3, if_neg (nI_ge (by omega) (by omega)), c_flag (by omega)]
      simp only [Option.bind_some]
      unfold f_X7_canAll_45
      rw [nI_1]
      by_cases q : (a.2.2 k && D k) = true
      · rw [if_neg (fun q2 => by rw [(w9_mask_flag (lt16 hw.2.2.2.1 ha.1) (by omega)).mp ((lg0 _ _).mp q2)] at q; exact absurd q (by decide))]
        obtain ⟨z, e1, e2⟩ := cl_canOne (d := k) hw ha (by omega)
        rw [e1]
        simp only [Option.bind_some]
        by_cases z0 : z = 0
        · rw [if_pos z0]
          refine ⟨0, rfl, fun _ => ⟨k, by omega, ?_, ?_, e2 z0⟩⟩
          · cases hD : D k
            · rw [hD, Bool.and_false] at q; exact absurd q (by decide)
            · rfl
          · cases hD : a.2.2 k
            · rw [hD, Bool.false_and] at q; exact absurd q (by decide)
            · rfl
        · rw [if_neg z0]
          exact ih (k + 1) f (by omega) (by omega)
      · rw [if_pos ((lg0 _ _).mpr ((w9_mask_flag (lt16 hw.2.2.2.1 ha.1) (by omega)).mpr (by simpa using q)))]
        exact ih (k + 1) f (by omega) (by omega)
  exact key n 0 fuel (by omega) (fuel_big (by omega))
def bestI : Option (Nat × Nat) → Int32
  | none => -6
  | some (m, _) => nI m
def rowI : Option (Nat × Nat) → Int32
  | none => 0
  | some (_, y) => nI y
theorem cl_look {n dp b : Nat} {wt : Nat → Nat} {D : Nat → Bool} {a : AS} (hw : wOK n dp wt) (ha : aOK n dp a) (hth : ∀ d, a.2.2 d = true → 1 ≤ wt d) (hb : b ≤ 15) : ∃ o, isF n dp wt D b a o ∧ ∃ mo, f_X7_look (nI n) (nI dp) (v9 wt) (w9 a.1 a.2.2) (v9 a.2.1) (mask D) (nI b - 1) = some (mask D, mo, bestI o, rowI o) := by
  unfold f_X7_look
  obtain ⟨z, e1, e2⟩ := cl_canAll (D := D) hw ha
  rw [e1]
  simp only [Option.bind_some]
  by_cases z0 : z = 0
  · rw [if_pos z0]
    obtain ⟨d, d1, d2, d3, d4⟩ := e2 z0
    exact ⟨none, NC_none b hw.1 d1 (hth d d3) d2 d4 d3, _, rfl⟩
  · rw [if_neg z0]
    obtain ⟨o, f1, f2⟩ := cl_seekOn (D := D) hw 20 b 0 0 a (-6) 0 (by omega) (by omega) ha
    rw [Nat.zero_add, show nI 0 = (0 : Int32) from rfl] at f2
    refine ⟨o, f1, ?_⟩
    rw [f2]
    simp only [Option.bind_some]
    cases o with
    | none => exact ⟨_, rfl⟩
    | some p =>
      obtain ⟨m, y⟩ := p
      refine ⟨(sres 0 0 (nI b - 1) (-6) 0 (some (m, y))).1, ?_⟩
      show some (mask D, _, nI (0 + m), nI (0 * 2 ^ m + y)) = some (mask D, _, nI m, nI y)
      rw [Nat.zero_add, Nat.zero_mul, Nat.zero_add]
