/-! the race: what both tables tell -/
abbrev endd (d1 d2 : Nat) (a : AS) : Prop := a.2.2 d1 = false ∨ a.2.2 d2 = false
def hcode (d1 d2 : Nat) (a : AS) : Nat := if a.2.2 d1 = false then (if a.2.2 d2 = false then 2 else 0) else 1
def bestN (who x y z : Nat) : Nat := if x = who ∨ y = who ∨ z = who then who else if x = 2 ∨ y = 2 ∨ z = 2 then 2 else 1 - who
def ev (n dp : Nat) (wt : Nat → Nat) (d1 d2 : Nat) : Nat → Nat → AS → Nat
  | 0, _, a => if endd d1 d2 a then hcode d1 d2 a else 2
  | l + 1, who, a => if endd d1 d2 a then hcode d1 d2 a else bestN who (ev n dp wt d1 d2 l (1 - who) (aP n dp wt 0 a)) (ev n dp wt d1 d2 l (1 - who) (aP n dp wt 1 a)) (ev n dp wt d1 d2 l (1 - who) (aP n dp wt 2 a))
theorem hcode_lt (d1 d2 : Nat) (a : AS) : hcode d1 d2 a < 3 := by
  unfold hcode
  (repeat' split) <;> omega
theorem bestN_lt {who x y z : Nat} (h : who < 2) : bestN who x y z < 3 := by
  unfold bestN
  (repeat' split) <;> omega
theorem ev_lt {n dp : Nat} {wt : Nat → Nat} {d1 d2 : Nat} : ∀ (l : Nat) {who : Nat} (a : AS), who < 2 → ev n dp wt d1 d2 l who a < 3
  | 0, who, a, h => by
    unfold ev
    split
    · exact hcode_lt _ _ _
    · omega
  | l + 1, who, a, h => by
    unfold ev
    split
    · exact hcode_lt _ _ _
    · exact bestN_lt h
def sgn (who x : Nat) : Int := if x = who then 1 else if x = 2 then 0 else -1
theorem sgn_neg : ∀ who, who < 2 → ∀ x, x < 3 → sgn (1 - who) x = - sgn who x := by decide
theorem sgn_rng (who x : Nat) : -1 ≤ sgn who x ∧ sgn who x ≤ 1 := by
  unfold sgn
  (repeat' split) <;> omega
theorem sgn_best : ∀ who, who < 2 → ∀ x, x < 3 → ∀ y, y < 3 → ∀ z, z < 3 → sgn who (bestN who x y z) = max (sgn who x) (max (sgn who y) (sgn who z)) := by decide
def Mx (lo : Int) (c : Nat → Int) : Nat → Int
  | 0 => lo
  | k + 1 => max (Mx lo c k) (c k)
def SS (r v lo hi : Int) : Prop := (v ≤ lo → r ≤ lo) ∧ (lo < v → v < hi → r = v) ∧ (hi ≤ v → hi ≤ r)
theorem oI {i : Int} (h : -1 ≤ i ∧ i ≤ 1) : (Int32.ofInt i).toInt = i := fb_ofI (by omega) (by omega)
theorem oI_le {i j : Int} (h : -1 ≤ i ∧ i ≤ 1) (h' : -1 ≤ j ∧ j ≤ 1) : Int32.ofInt i ≤ Int32.ofInt j ↔ i ≤ j := by rw [fa_le, oI h, oI h']
theorem oI_lt {i j : Int} (h : -1 ≤ i ∧ i ≤ 1) (h' : -1 ≤ j ∧ j ≤ 1) : Int32.ofInt i < Int32.ofInt j ↔ i < j := by rw [fa_lt, oI h, oI h']
theorem oI_neg {i : Int} (h : -1 ≤ i ∧ i ≤ 1) : -(Int32.ofInt i) = Int32.ofInt (-i) := by
  rw [fa_eq, fb_negI (by rw [oI h]; omega), oI h, oI (by omega)]
theorem oI_max {i j : Int} (h : -1 ≤ i ∧ i ≤ 1) (h' : -1 ≤ j ∧ j ≤ 1) : (if Int32.ofInt i < Int32.ofInt j then Int32.ofInt j else Int32.ofInt i) = Int32.ofInt (max i j) := by
  by_cases q : i < j
  · rw [if_pos ((oI_lt h h').mpr q), Int.max_eq_right (by omega)]
  · rw [if_neg (fun q2 => q ((oI_lt h h').mp q2)), Int.max_eq_left (by omega)]
abbrev fl (d : Nat) : Int64 := v9 (fun j => if j = d then 16 else 0)
def dd2 (d1 d2 who : Nat) : Nat := if who = 0 then d1 else d2
theorem end_sgn {d1 d2 who : Nat} {a : AS} (hw : who < 2) (h : endd d1 d2 a) : sgn who (hcode d1 d2 a) = (if a.2.2 (dd2 d1 d2 who) = false then 1 else 0) - (if a.2.2 (dd2 d1 d2 (1 - who)) = false then 1 else 0) := by
  have h2 : who = 0 ∨ who = 1 := by omega
  unfold hcode dd2 endd at *
  rcases h2 with rfl | rfl <;> cases e1 : a.2.2 d1 <;> cases e2 : a.2.2 d2 <;> simp_all [sgn]
theorem ev_end {n dp : Nat} {wt : Nat → Nat} {d1 d2 l who : Nat} {a : AS} (h : endd d1 d2 a) : ev n dp wt d1 d2 l who a = hcode d1 d2 a := by
  cases l with
  | zero => rw [ev, if_pos h]
  | succ l => rw [ev, if_pos h]
theorem cl_sure_loop {n dp : Nat} {wt : Nat → Nat} {d1 d2 who m l : Nat} {a : AS} {lo hi : Int} (hw : wOK n dp wt) (ha : aOK n dp a) (hd1 : d1 < n) (hd2 : d2 < n) (hwho : who < 2) (hlo : -1 ≤ lo) (hlh : lo < hi) (hhi : hi ≤ 1) (rc : _)
    (hrc : ∀ (lo hi : Int) (a : AS), aOK n dp a → ¬ endd d1 d2 a → -1 ≤ lo → lo < hi → hi ≤ 1 → ∃ r : Int, rc (fl d1) (fl d2) (nI m) (nI n) (nI dp) (v9 wt) (w9 a.1 a.2.2) (v9 a.2.1) (nI l) (Int32.ofInt lo) (Int32.ofInt hi) = some (Int32.ofInt r) ∧ -1 ≤ r ∧ r ≤ 1 ∧ SS r (sgn (1 - who) (ev n dp wt d1 d2 l (1 - who) a)) lo hi) :
    ∀ (e k fu : Nat) (b : Int), k + e = 3 → e < fu → lo ≤ b → b ≤ 1 → (b < hi → b = Mx lo (fun h => sgn who (ev n dp wt d1 d2 l (1 - who) (aP n dp wt h a))) k) → (hi ≤ b → hi ≤ Mx lo (fun h => sgn who (ev n dp wt d1 d2 l (1 - who) (aP n dp wt h a))) k) → ∃ r : Int, f_X5_sureOf_83 rc fu (w9 a.1 a.2.2) (v9 a.2.1) (nI (l + 1)) (Int32.ofInt hi) (fl (dd2 d1 d2 who)) (fl (dd2 d1 d2 (1 - who))) (Int32.ofInt b) (nI k) (fl d1) (fl d2) (nI m) (nI n) (nI dp) (v9 wt) = some (Int32.ofInt r) ∧ -1 ≤ r ∧ r ≤ 1 ∧ (r < hi → r = Mx lo (fun h => sgn who (ev n dp wt d1 d2 l (1 - who) (aP n dp wt h a))) 3) ∧ (hi ≤ r → hi ≤ Mx lo (fun h => sgn who (ev n dp wt d1 d2 l (1 - who) (aP n dp wt h a))) 3) := by
  have h9 := hw.2.1
  intro e
  induction e with
  | zero =>
    intro k fu b hk hf h1 h2 h3 h4
    obtain ⟨f, rfl⟩ : ∃ f, fu = f + 1 := ⟨fu - 1, by omega⟩
    obtain rfl : k = 3 := by omega
    refine ⟨b, ?_, by omega, by omega, h3, h4⟩
    rw [f_X5_sureOf_83, if_pos (show (3 : Int32) ≤ nI 3 by decide)]
  | succ e ih =>
    intro k fu b hk hf h1 h2 h3 h4
    obtain ⟨f, rfl⟩ : ∃ f, fu = f + 1 := ⟨fu - 1, by omega⟩
    rw [f_X5_sureOf_83, if_neg (show ¬ (3 : Int32) ≤ nI k from nI_ge (b := 3) (by omega) (by omega))]
    by_cases q : hi ≤ b
    · rw [if_pos ((oI_le (by omega) (by omega)).mpr q)]
      refine ⟨b, rfl, by omega, by omega, fun q2 => by omega, fun _ => ?_⟩
      have := h4 q
      have mono : ∀ i, Mx lo (fun h => sgn who (ev n dp wt d1 d2 l (1 - who) (aP n dp wt h a))) k ≤ Mx lo (fun h => sgn who (ev n dp wt d1 d2 l (1 - who) (aP n dp wt h a))) (k + i) := by
        intro i
        induction i with
        | zero => exact Int.le_refl _
        | succ i ih =>
          have : Mx lo (fun h => sgn who (ev n dp wt d1 d2 l (1 - who) (aP n dp wt h a))) (k + (i + 1)) = max (Mx lo (fun h => sgn who (ev n dp wt d1 d2 l (1 - who) (aP n dp wt h a))) (k + i)) (sgn who (ev n dp wt d1 d2 l (1 - who) (aP n dp wt (k + i) a))) := rfl
          omega
      have := mono (e + 1)
      rw [hk] at this
      omega
    · rw [if_neg (fun q2 => q ((oI_le (by omega) (by omega)).mp q2)), if_neg (nI_in (by omega) (by omega)), nI_clamp (by omega), cl_leaks (wt := wt) hw ha, Option.bind_some, if_neg (gin (by omega) (by omega)), cl_wheel hw ha, Option.bind_some, cl_step hw ha, Option.bind_some]
      have hb := h3 (by omega)
      -- what the new best is
      have fin : ∀ v : Int, -1 ≤ v → v ≤ 1 → (hi ≤ sgn who (ev n dp wt d1 d2 l (1 - who) (aP n dp wt k a)) → hi ≤ v) → (b < sgn who (ev n dp wt d1 d2 l (1 - who) (aP n dp wt k a)) → sgn who (ev n dp wt d1 d2 l (1 - who) (aP n dp wt k a)) < hi → v = sgn who (ev n dp wt d1 d2 l (1 - who) (aP n dp wt k a))) → (sgn who (ev n dp wt d1 d2 l (1 - who) (aP n dp wt k a)) ≤ b → v ≤ b) → ∃ r : Int, f_X5_sureOf_214 rc (f_X5_sureOf_83 rc f) (w9 a.1 a.2.2) (v9 a.2.1) (nI (l + 1)) (Int32.ofInt hi) (fl (dd2 d1 d2 who)) (fl (dd2 d1 d2 (1 - who))) (Int32.ofInt b) (nI k) (Int32.ofInt v) (fl d1) (fl d2) (nI m) (nI n) (nI dp) (v9 wt) = some (Int32.ofInt r) ∧ -1 ≤ r ∧ r ≤ 1 ∧ (r < hi → r = Mx lo (fun h => sgn who (ev n dp wt d1 d2 l (1 - who) (aP n dp wt h a))) 3) ∧ (hi ≤ r → hi ≤ Mx lo (fun h => sgn who (ev n dp wt d1 d2 l (1 - who) (aP n dp wt h a))) 3) := by
        intro v v1 v2 v3 v4 v5
        unfold f_X5_sureOf_214
        rw [oI_max (by omega) (by omega), nI_1]
        have eM : Mx lo (fun h => sgn who (ev n dp wt d1 d2 l (1 - who) (aP n dp wt h a))) (k + 1) = max (Mx lo (fun h => sgn who (ev n dp wt d1 d2 l (1 - who) (aP n dp wt h a))) k) (sgn who (ev n dp wt d1 d2 l (1 - who) (aP n dp wt k a))) := rfl
        generalize sgn who (ev n dp wt d1 d2 l (1 - who) (aP n dp wt k a)) = cc at *
        refine ih (k + 1) f (max b v) (by omega) (by omega) (by omega) (by omega) (fun q2 => ?_) (fun q2 => ?_)
        · rw [eM]; omega
        · rw [eM]; omega
      have hr := sgn_rng who (ev n dp wt d1 d2 l (1 - who) (aP n dp wt k a))
      have ha' := aP_ok (how := k) hw ha
      have hl' := lt16 hw.2.2.2.1 ha'.1
      have hdd : ∀ w, dd2 d1 d2 w < 9 := fun w => by unfold dd2; split <;> omega
      have f1 := w9_flag (th := (aP n dp wt k a).2.2) (k := dd2 d1 d2 who) hl' (hdd who)
      have f2 := w9_flag (th := (aP n dp wt k a).2.2) (k := dd2 d1 d2 (1 - who)) hl' (hdd (1 - who))
      by_cases en : endd d1 d2 (aP n dp wt k a)
      · -- somebody is served
        have e3 := end_sgn hwho en
        rw [← ev_end (n := n) (dp := dp) (wt := wt) (l := l) (who := 1 - who) en] at e3
        have en2 : (aP n dp wt k a).2.2 (dd2 d1 d2 who) = false ∨ (aP n dp wt k a).2.2 (dd2 d1 d2 (1 - who)) = false := by
          have h2 : who = 0 ∨ who = 1 := by omega
          rcases h2 with rfl | rfl
          · exact en
          · exact en.symm
        have go : f_X5_sureOf_181 rc (f_X5_sureOf_83 rc f) (w9 a.1 a.2.2) (v9 a.2.1) (nI (l + 1)) (Int32.ofInt hi) (fl (dd2 d1 d2 who)) (fl (dd2 d1 d2 (1 - who))) (Int32.ofInt b) (nI k) (w9 (aP n dp wt k a).1 (aP n dp wt k a).2.2) (fl d1) (fl d2) (nI m) (nI n) (nI dp) (v9 wt) = f_X5_sureOf_214 rc (f_X5_sureOf_83 rc f) (w9 a.1 a.2.2) (v9 a.2.1) (nI (l + 1)) (Int32.ofInt hi) (fl (dd2 d1 d2 who)) (fl (dd2 d1 d2 (1 - who))) (Int32.ofInt b) (nI k) (Int32.ofInt (sgn who (ev n dp wt d1 d2 l (1 - who) (aP n dp wt k a)))) (fl d1) (fl d2) (nI m) (nI n) (nI dp) (v9 wt) := by
          rw [e3]
          unfold f_X5_sureOf_181 f_X5_sureOf_196 f_X5_sureOf_211
          by_cases g1 : (aP n dp wt k a).2.2 (dd2 d1 d2 who) = false
          · rw [if_pos ((lg0 _ _).mpr (f1.mpr g1)), if_pos g1]
            by_cases g2 : (aP n dp wt k a).2.2 (dd2 d1 d2 (1 - who)) = false
            · rw [if_pos ((lg0 _ _).mpr (f2.mpr g2)), if_pos g2]; rfl
            · rw [if_neg (fun q2 => g2 (f2.mp ((lg0 _ _).mp q2))), if_neg g2]; rfl
          · rw [if_neg (fun q2 => g1 (f1.mp ((lg0 _ _).mp q2))), if_neg g1]
            by_cases g2 : (aP n dp wt k a).2.2 (dd2 d1 d2 (1 - who)) = false
            · rw [if_pos ((lg0 _ _).mpr (f2.mpr g2)), if_pos g2]; rfl
            · rw [if_neg (fun q2 => g2 (f2.mp ((lg0 _ _).mp q2))), if_neg g2]; rfl
        have gg := fin _ hr.1 hr.2 id (fun _ _ => rfl) id
        rw [← go] at gg
        by_cases g1 : (aP n dp wt k a).2.2 (dd2 d1 d2 who) = false
        · rw [if_pos ((lg0 _ _).mpr (f1.mpr g1))]; exact gg
        · rw [if_neg (fun q2 => g1 (f1.mp ((lg0 _ _).mp q2))), if_pos ((lg0 _ _).mpr (f2.mpr (en2.resolve_left g1)))]; exact gg
      · have en2 : ¬ (aP n dp wt k a).2.2 (dd2 d1 d2 who) = false ∧ ¬ (aP n dp wt k a).2.2 (dd2 d1 d2 (1 - who)) = false := by
          have h2 : who = 0 ∨ who = 1 := by omega
          rcases h2 with rfl | rfl
          · exact ⟨fun q => en (Or.inl q), fun q => en (Or.inr q)⟩
          · exact ⟨fun q => en (Or.inr q), fun q => en (Or.inl q)⟩
        rw [if_neg (fun q2 => en2.1 (f1.mp ((lg0 _ _).mp q2))), if_neg (fun q2 => en2.2 (f2.mp ((lg0 _ _).mp q2))), nI_p1, oI_neg (by omega), oI_neg (by omega)]
        obtain ⟨r, er, r1, r2, s1, s2, s3⟩ := hrc (-hi) (-b) (aP n dp wt k a) ha' en (by omega) (by omega) (by omega)
        rw [er, Option.bind_some, oI_neg ⟨r1, r2⟩]
        rw [sgn_neg who hwho _ (ev_lt l _ (by omega))] at s1 s2 s3
        refine fin (-r) (by omega) (by omega) (fun q2 => ?_) (fun q2 q3 => ?_) (fun q2 => ?_)
        · have := s1 (by omega); omega
        · have := s2 (by omega) (by omega); omega
        · have := s3 (by omega); omega
theorem and1 {x : Nat} (h : x < 1000) : nI x &&& 1 = nI (x % 2) := by
  rw [pk_andN (by omega) 1 (by decide), show 2 ^ 1 = 2 by decide]
theorem cl_sure {n dp : Nat} {wt : Nat → Nat} {d1 d2 m : Nat} (hw : wOK n dp wt) (hd1 : d1 < n) (hd2 : d2 < n) (hm : m ≤ 10) : ∀ (d l : Nat) (lo hi : Int) (a : AS), l < d → l ≤ m → aOK n dp a → ¬ endd d1 d2 a → -1 ≤ lo → lo < hi → hi ≤ 1 → ∃ r : Int, f_X5_sureOf d (fl d1) (fl d2) (nI m) (nI n) (nI dp) (v9 wt) (w9 a.1 a.2.2) (v9 a.2.1) (nI l) (Int32.ofInt lo) (Int32.ofInt hi) = some (Int32.ofInt r) ∧ -1 ≤ r ∧ r ≤ 1 ∧ SS r (sgn ((m - l) % 2) (ev n dp wt d1 d2 l ((m - l) % 2) a)) lo hi := by
  intro d
  induction d with
  | zero => intro l lo hi a h; exact absurd h (Nat.not_lt_zero l)
  | succ d ih =>
    intro l lo hi a hl hlm ha en h1 h2 h3
    show ∃ r : Int, g_X5_sureOf (f_X5_sureOf d) (fl d1) (fl d2) (nI m) (nI n) (nI dp) (v9 wt) (w9 a.1 a.2.2) (v9 a.2.1) (nI l) (Int32.ofInt lo) (Int32.ofInt hi) = _ ∧ _
    unfold g_X5_sureOf
    cases l with
    | zero =>
      rw [if_pos (show nI 0 ≤ 0 by decide)]
      refine ⟨0, rfl, by omega, by omega, ?_⟩
      rw [ev, if_neg en]
      have : sgn ((m - 0) % 2) 2 = 0 := by unfold sgn; rw [if_neg (by omega), if_pos rfl]
      rw [this]
      exact ⟨id, fun _ _ => rfl, id⟩
    | succ l =>
      rw [if_neg (show ¬ nI (l + 1) ≤ 0 from nI_ge (a := 0) (by omega) (by omega)), if_neg (show ¬ (10 : Int32) < nI (l + 1) from nI_nlt (a := 10) (by omega) (by omega)), pk_sub hlm, and1 (by omega)]
      have hwl : (m - l) % 2 = 1 - (m - (l + 1)) % 2 := by omega
      have hwho : (m - (l + 1)) % 2 < 2 := Nat.mod_lt _ (by omega)
      have lp := cl_sure_loop (m := m) (l := l) (who := (m - (l + 1)) % 2) (lo := lo) (hi := hi) hw ha hd1 hd2 hwho h1 h2 h3 (f_X5_sureOf d) (fun lo hi a ha en g1 g2 g3 => by
        rw [← hwl]
        exact ih l lo hi a (by omega) (by omega) ha en g1 g2 g3) 3 0 fuel lo (by omega) (fuel_big (by omega)) (Int.le_refl _) (by omega) (fun _ => rfl) (fun q => q)
      obtain ⟨r, er, r1, r2, r3, r4⟩ := lp
      refine ⟨r, ?_, r1, r2, ?_⟩
      · have hw2 : (m - (l + 1)) % 2 = 0 ∨ (m - (l + 1)) % 2 = 1 := by omega
        rcases hw2 with q | q
        · rw [q] at er ⊢
          rw [if_pos (show nI 0 = 0 from rfl)]
          unfold f_X5_sureOf_38 f_X5_sureOf_56 f_X5_sureOf_74
          rw [if_neg (show ¬ (1 : Int32) = 0 by decide), if_neg (show ¬ (1 : Int32) = 0 by decide)]
          exact er
        · rw [q] at er ⊢
          rw [if_neg (show ¬ nI 1 = 0 by decide)]
          unfold f_X5_sureOf_38 f_X5_sureOf_56 f_X5_sureOf_74
          rw [if_pos rfl, if_pos rfl]
          exact er
      · have eM : Mx lo (fun h => sgn ((m - (l + 1)) % 2) (ev n dp wt d1 d2 l (1 - (m - (l + 1)) % 2) (aP n dp wt h a))) 3 = max (max (max lo (sgn ((m - (l + 1)) % 2) (ev n dp wt d1 d2 l (1 - (m - (l + 1)) % 2) (aP n dp wt 0 a)))) (sgn ((m - (l + 1)) % 2) (ev n dp wt d1 d2 l (1 - (m - (l + 1)) % 2) (aP n dp wt 1 a)))) (sgn ((m - (l + 1)) % 2) (ev n dp wt d1 d2 l (1 - (m - (l + 1)) % 2) (aP n dp wt 2 a))) := rfl
        rw [eM] at r3 r4
        have hlt : ∀ h, ev n dp wt d1 d2 l (1 - (m - (l + 1)) % 2) (aP n dp wt h a) < 3 := fun h => ev_lt l _ (by omega)
        rw [ev, if_neg en, sgn_best _ hwho _ (hlt 0) _ (hlt 1) _ (hlt 2)]
        refine ⟨fun q => ?_, fun q1 q2 => ?_, fun q => ?_⟩ <;> omega
theorem cl_winner {n dp : Nat} {wt : Nat → Nat} {d1 d2 m : Nat} {a : AS} (hw : wOK n dp wt) (ha : aOK n dp a) (hd1 : d1 < n) (hd2 : d2 < n) (hm : m ≤ 10) (en : ¬ endd d1 d2 a) : f_X5_winner (nI n) (nI dp) (w9 a.1 a.2.2) (v9 a.2.1) (v9 wt) (fl d1) (fl d2) (nI m) = some (nI (ev n dp wt d1 d2 m 0 a), fl d1, fl d2, nI m) := by
  obtain ⟨r, er, r1, r2, s1, s2, s3⟩ := cl_sure hw hd1 hd2 hm 20 m (-1) 1 a (by omega) (by omega) ha en (by omega) (by omega) (by omega)
  unfold f_X5_winner
  rw [show (-1 : Int32) = Int32.ofInt (-1) by decide, show (1 : Int32) = Int32.ofInt 1 by decide, er, Option.bind_some]
  rw [Nat.sub_self, Nat.zero_mod] at s1 s2 s3
  have hlt := ev_lt (n := n) (dp := dp) (wt := wt) (d1 := d1) (d2 := d2) m (who := 0) a (by omega)
  generalize ev n dp wt d1 d2 m 0 a = x at *
  have hx : x = 0 ∨ x = 1 ∨ x = 2 := by omega
  rcases hx with rfl | rfl | rfl
  · rw [show sgn 0 0 = 1 from rfl] at s1 s2 s3
    obtain rfl : r = 1 := by omega
    rw [if_neg (by decide)]; rfl
  · rw [show sgn 0 1 = -1 from rfl] at s1 s2 s3
    obtain rfl : r = -1 := by omega
    rw [if_pos (by decide), if_neg (by decide)]; rfl
  · rw [show sgn 0 2 = 0 from rfl] at s1 s2 s3
    obtain rfl : r = 0 := by omega
    rw [if_pos (by decide), if_pos (by decide)]; rfl
