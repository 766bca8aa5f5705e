/-! a whole row, by class and by reference -/
def hlist (hw : Nat → Nat) : Nat → Nat → List Nat
  | _, 0 => []
  | k, d + 1 => hw k :: hlist hw (k + 1) d
def sD (n dp : Nat) (wt : Nat → Nat) : List Nat → AS → Nat
  | [], _ => 0
  | h :: t, a => cD n dp h a + sD n dp wt t (aP n dp wt h a)
def sL (n dp : Nat) (wt : Nat → Nat) : List Nat → AS → Nat
  | [], _ => 0
  | h :: t, a => cL n h a + sL n dp wt t (aP n dp wt h a)
def sK (n dp : Nat) (wt : Nat → Nat) : List Nat → AS → Nat
  | [], _ => 0
  | h :: t, a => cK n dp wt h a + sK n dp wt t (aP n dp wt h a)
def sT (n dp : Nat) (wt : Nat → Nat) : List Nat → AS → Nat
  | [], _ => 0
  | h :: t, a => cT n dp wt h a + sT n dp wt t (aP n dp wt h a)
def tRs (n : Nat) : List Nat → Nat → Nat
  | [], t => t
  | h :: l, t => tRs n l (tR n t h)
/-- behind how many pulls a door is served first -/
def fT (n dp : Nat) (wt : Nat → Nat) (d : Nat) : List Nat → AS → Option Nat
  | [], a => if a.2.2 d = true then none else some 0
  | h :: l, a => if a.2.2 d = true then (fT n dp wt d l (aP n dp wt h a)).map (· + 1) else some 0
theorem fT_0 {n dp : Nat} {wt : Nat → Nat} {d : Nat} {l : List Nat} {a : AS} (h : a.2.2 d = false) : fT n dp wt d l a = some 0 := by
  cases l with
  | nil => rw [fT, if_neg (by rw [h]; decide)]
  | cons x l => rw [fT, if_neg (by rw [h]; decide)]
def whenF (n dp : Nat) (wt : Nat → Nat) (P : Nat) (l : List Nat) (a : AS) (when : Nat → Int32) (d : Nat) : Int32 := if a.2.2 d = true then (match fT n dp wt d l a with | none => when d | some i => nI (P + i)) else when d
theorem tR_lt {n t how : Nat} (h3 : 3 ≤ n) : tR n t how < n := Nat.mod_lt _ (by omega)
theorem cl_runPad_13 {n dp pc : Nat} {wt : Nat → Nat} {s : Nat → Int32} {hw : Nat → Nat} (hwk : wOK n dp wt) (hpc : pc ≤ 40) (hs : ∀ i, i < pc → s i = mvI (hw i) ∧ hw i < 3) : ∀ (d k fu t P D Lq K T : Nat) (a : AS) (when : Nat → Int32), k + d = pc → d < fu → t < n → aOK n dp a →
    ∃ when', f_X11_runPad_13 fu (nI k) (w9 a.1 a.2.2) (v9 a.2.1) (nI t) (nI P) (nI D) (nI Lq) (nI K) (nI T) (nI n) (nI dp) (v9 wt) when (nI pc) s = some (w9 (aRun n dp wt (hlist hw k d) a).1 (aRun n dp wt (hlist hw k d) a).2.2, v9 (aRun n dp wt (hlist hw k d) a).2.1, nI (tRs n (hlist hw k d) t), nI (P + d), nI (D + sD n dp wt (hlist hw k d) a), nI (Lq + sL n dp wt (hlist hw k d) a), nI (K + sK n dp wt (hlist hw k d) a), nI (T + sT n dp wt (hlist hw k d) a), when') ∧ ∀ i, i < 9 → when' i = whenF n dp wt P (hlist hw k d) a when i := by
  intro d
  induction d with
  | zero =>
    intro k fu t P D Lq K T a when hk hf ht ha
    obtain ⟨f, rfl⟩ : ∃ f, fu = f + 1 := ⟨fu - 1, by omega⟩
    refine ⟨when, ?_, fun i hi => ?_⟩
    · rw [f_X11_runPad_13, if_pos (nI_le (by omega) (by omega))]
      rfl
    · unfold whenF
      by_cases q : a.2.2 i = true
      · rw [if_pos q, hlist, fT, if_pos q]
      · rw [if_neg q]
  | succ d ih =>
    intro k fu t P D Lq K T a when hk hf ht ha
    obtain ⟨f, rfl⟩ : ∃ f, fu = f + 1 := ⟨fu - 1, by omega⟩
    obtain ⟨e1, e2⟩ := hs k (by omega)
    obtain ⟨when1, em, hm⟩ := cl_move hwk ha ht e2 P D Lq K T when
    obtain ⟨when2, er, hr⟩ := ih (k + 1) f (tR n t (hw k)) (P + 1) (D + cD n dp (hw k) a) (Lq + cL n (hw k) a) (K + cK n dp wt (hw k) a) (T + cT n dp wt (hw k) a) (aP n dp wt (hw k) a) when1 (by omega) (by omega) (tR_lt hwk.1) (aP_ok hwk ha)
    refine ⟨when2, ?_, fun i hi => ?_⟩
    · rw [f_X11_runPad_13, if_neg (nI_ge (by omega) (by omega)), if_neg (show ¬ (40 : Int32) ≤ nI k from nI_ge (b := 40) (by omega) (by omega)), if_neg (nI_in (by omega) (by omega)), nI_clamp (by omega), e1, em]
      simp only [Option.bind_some]
      rw [nI_1, er, show P + 1 + d = P + (d + 1) by omega, Nat.add_assoc, Nat.add_assoc, Nat.add_assoc, Nat.add_assoc]
      rfl
    · rw [hr i hi]
      unfold whenF
      rw [hm i hi, hlist]
      by_cases q : a.2.2 i = true
      · rw [if_pos q, fT, if_pos q, q]
        by_cases q2 : (aP n dp wt (hw k) a).2.2 i = true
        · rw [if_pos q2, q2]
          cases h : fT n dp wt i (hlist hw (k + 1) d) (aP n dp wt (hw k) a) with
          | none => simp
          | some x => simp only [Option.map_some]; rw [show P + 1 + x = P + (x + 1) by omega]
        · have q3 : (aP n dp wt (hw k) a).2.2 i = false := by cases h : (aP n dp wt (hw k) a).2.2 i <;> simp_all
          rw [if_neg q2, q3, fT_0 q3]
          rfl
      · have q3 : a.2.2 i = false := by cases h : a.2.2 i <;> simp_all
        rw [if_neg q, if_neg (by rw [aP_served q3]; decide), q3]
        rfl
theorem cl_begin {a : AS} {n dp : Nat} (h9 : dp ≤ 9) (ha : aOK n dp a) (tu : Int32) (le : Int64) (when : Nat → Int32) : ∃ when', f_X6_begin tu (w9 a.1 a.2.2) le when = some (w9 a.1 a.2.2, le, tu, 0, 0, 0, 0, 0, when') ∧ ∀ i, i < 9 → when' i = if a.2.2 i then -6 else 0 := by
  unfold f_X6_begin
  have hl16 := lt16 h9 ha.1
  have key : ∀ (d k fu : Nat) (wh : Nat → Int32), k + d = 9 → d < fu → (∀ i, i < k → wh i = if a.2.2 i then -6 else 0) → ∃ when', f_X6_begin_56 fu (nI k) (w9 a.1 a.2.2) le tu 0 0 0 0 0 wh = some (w9 a.1 a.2.2, le, tu, 0, 0, 0, 0, 0, when') ∧ ∀ i, i < 9 → when' i = if a.2.2 i then -6 else 0 := by
    intro d
    induction d with
    | zero =>
      intro k fu wh hk hf hh
      obtain ⟨f, rfl⟩ : ∃ f, fu = f + 1 := ⟨fu - 1, by omega⟩
      refine ⟨wh, ?_, fun i hi => hh i (by omega)⟩
      rw [f_X6_begin_56, if_pos (show (9 : Int32) ≤ nI k from nI_le (a := 9) (by omega) (by omega))]
    | succ d ih =>
      intro k fu wh hk hf hh
      obtain ⟨f, rfl⟩ : ∃ f, fu = f + 1 := ⟨fu - 1, by omega⟩
      have go : ∀ v, f_X6_begin_87 (f_X6_begin_56 f) (nI k) (nI k) v (w9 a.1 a.2.2) le tu 0 0 0 0 0 wh = f_X6_begin_56 f (nI (k + 1)) (w9 a.1 a.2.2) le tu 0 0 0 0 0 (upd wh k v) := fun v => by
        unfold f_X6_begin_87
        rw [if_neg (nI_in (by omega) (by omega)), nI_clamp (by omega), nI_1]
      have nx : ∀ v, v = (if a.2.2 k then -6 else 0) → ∃ when', f_X6_begin_56 f (nI (k + 1)) (w9 a.1 a.2.2) le tu 0 0 0 0 0 (upd wh k v) = some (w9 a.1 a.2.2, le, tu, 0, 0, 0, 0, 0, when') ∧ ∀ i, i < 9 → when' i = if a.2.2 i then -6 else 0 := fun v hv => ih (k + 1) f (upd wh k v) (by omega) (by omega) (fun i hi => by
        by_cases hik : i = k
        · subst hik; rw [up_s, hv]
        · rw [up_n hik]; exact hh i (by omega))
      rw [f_X6_begin_56, if_neg (show ¬ (9 : Int32) ≤ nI k from nI_ge (b := 9) (by omega) (by omega)), c_flag (by omega)]
      simp only [Option.bind_some]
      by_cases hb : a.2.2 k = true
      · rw [if_neg (fun q => by have := (w9_flag hl16 (by omega)).mp ((lg0 _ _).mp q); rw [hb] at this; cases this), go]
        exact nx _ (by rw [if_pos hb])
      · have hb' : a.2.2 k = false := by cases h : a.2.2 k <;> simp_all
        rw [if_pos ((lg0 _ _).mpr ((w9_flag hl16 (by omega)).mpr hb')), go]
        exact nx _ (by rw [if_neg hb])
  exact key 9 0 fuel when (by omega) (fuel_big (by omega)) (fun i hi => absurd hi (Nat.not_lt_zero i))
theorem cl_runPad {n dp pc t : Nat} {wt : Nat → Nat} {s : Nat → Int32} {hw : Nat → Nat} {a : AS} (hwk : wOK n dp wt) (ha : aOK n dp a) (ht : t < n) (hpc : pc ≤ 40) (hs : ∀ i, i < pc → s i = mvI (hw i) ∧ hw i < 3) (when : Nat → Int32) :
    ∃ when', f_X11_runPad (nI n) (nI dp) (nI t) (w9 a.1 a.2.2) (v9 a.2.1) (v9 wt) when (nI pc) s = some (w9 (aRun n dp wt (hlist hw 0 pc) a).1 (aRun n dp wt (hlist hw 0 pc) a).2.2, v9 (aRun n dp wt (hlist hw 0 pc) a).2.1, nI (tRs n (hlist hw 0 pc) t), nI pc, nI (sD n dp wt (hlist hw 0 pc) a), nI (sL n dp wt (hlist hw 0 pc) a), nI (sK n dp wt (hlist hw 0 pc) a), nI (sT n dp wt (hlist hw 0 pc) a), when') ∧ ∀ i, i < 9 → when' i = match fT n dp wt i (hlist hw 0 pc) a with | none => -6 | some x => nI x := by
  obtain ⟨w1, e1, h1⟩ := cl_begin hwk.2.2.2.1 ha (nI t) (v9 a.2.1) when
  obtain ⟨w2, e2, h2⟩ := cl_runPad_13 hwk hpc hs pc 0 fuel t 0 0 0 0 0 a w1 (by omega) (fuel_big (by omega)) ht ha
  refine ⟨w2, ?_, fun i hi => ?_⟩
  · unfold f_X11_runPad
    rw [e1]
    simp only [Option.bind_some]
    rw [Nat.zero_add, Nat.zero_add, Nat.zero_add, Nat.zero_add, Nat.zero_add] at e2
    exact e2
  · rw [h2 i hi]
    unfold whenF
    rw [h1 i hi]
    by_cases q : a.2.2 i = true
    · rw [if_pos q, if_pos q]
      simp only [Nat.zero_add]
    · have q3 : a.2.2 i = false := by cases h : a.2.2 i <;> simp_all
      rw [if_neg q, if_neg q, fT_0 q3]
      rfl
