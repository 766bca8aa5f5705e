theorem mR.congr {n : Nat} {pi pi' : Nat → Nat} {a : AS} {at_ has leaks : Nat → Int32} (h : mR n pi a at_ has leaks) (e : ∀ p, p < n → pi p = pi' p) : mR n pi' a at_ has leaks := by
  obtain ⟨⟨p1, p2⟩, ⟨r1, r2⟩, l1⟩ := h
  refine ⟨⟨fun p hp => by rw [← e p hp]; exact p1 p hp, fun p q hp hq q2 => p2 p q hp hq (by rw [e p hp, e q hq]; exact q2)⟩, ⟨fun p hp => by rw [← e p hp]; exact r1 p hp, fun p hp => by rw [← e p hp]; exact r2 p hp⟩, fun p hp => by rw [← e p hp]; exact l1 p hp⟩
def rotps (n : Nat) : List Nat → (Nat → Nat) → Nat → Nat
  | [], pi => pi
  | h :: l, pi => rotps n l (rotp n h pi)
theorem rotp_congr {n how : Nat} {pi pi' : Nat → Nat} (h3 : 3 ≤ n) (e : ∀ p, p < n → pi p = pi' p) : ∀ p, p < n → rotp n how pi p = rotp n how pi' p := fun p hp => e _ (back_in (hb_lt h3))
def tpi0 (n t : Nat) : Nat → Nat := fun p => (p + n - t) % n
theorem rotp_tpi {n t how : Nat} (h3 : 3 ≤ n) (ht : t < n) : ∀ p, p < n → rotp n how (tpi0 n t) p = tpi0 n (tR n t how) p := by
  intro p hp
  unfold rotp tpi0 tR
  have hb1 := hb_lt (how := how) h3
  generalize hb n how = b at hb1
  have e1 : (p + n - b) % n = if b ≤ p then p - b else p + n - b := by
    by_cases h : b ≤ p
    · rw [if_pos h, show p + n - b = (p - b) + n by omega, Nat.add_mod_right, Nat.mod_eq_of_lt (by omega)]
    · rw [if_neg h, Nat.mod_eq_of_lt (by omega)]
  have e2 : (t + b) % n = if t + b < n then t + b else t + b - n := by
    by_cases h : t + b < n
    · rw [if_pos h, Nat.mod_eq_of_lt h]
    · rw [if_neg h, Nat.mod_eq_sub_mod (by omega), Nat.mod_eq_of_lt (by omega)]
  have md : ∀ x, x < n → ∀ y, y < n → (x + n - y) % n = if y ≤ x then x - y else x + n - y := fun x hx y hy => by
    by_cases h : y ≤ x
    · rw [if_pos h, show x + n - y = (x - y) + n by omega, Nat.add_mod_right, Nat.mod_eq_of_lt (by omega)]
    · rw [if_neg h, Nat.mod_eq_of_lt (by omega)]
  have hA : (p + n - b) % n < n := Nat.mod_lt _ (by omega)
  have hB : (t + b) % n < n := Nat.mod_lt _ (by omega)
  rw [md _ hA _ ht, md _ hp _ hB, e1, e2]
  by_cases q1 : b ≤ p <;> by_cases q2 : t + b < n <;> simp only [q1, q2, if_true, if_false] <;> (repeat' split) <;> omega
theorem rotps_tpi {n : Nat} (h3 : 3 ≤ n) : ∀ (l : List Nat) (t : Nat) (pi : Nat → Nat), t < n → (∀ p, p < n → pi p = tpi0 n t p) → ∀ p, p < n → rotps n l pi p = tpi0 n (tRs n l t) p
  | [], t, pi, _, h, p, hp => h p hp
  | x :: l, t, pi, ht, h, p, hp => rotps_tpi h3 l (tR n t x) (rotp n x pi) (tR_lt h3) (fun q hq => by rw [rotp_congr h3 h q hq, rotp_tpi h3 ht q hq]) p hp
theorem ml_layNow {n : Nat} (h9 : n ≤ 9) (served : Int32) (at_ pa has ho : Nat → Int32) : ∃ at' has', f_X12_layNow (nI n) served at_ pa has ho = some (served, 0, 0, 0, 0, at', has') ∧ ∀ p, p < n → at' p = pa p ∧ has' p = ho p := by
  unfold f_X12_layNow
  have key : ∀ (d k fu : Nat) (at_ has : Nat → Int32), k + d = n → d < fu → (∀ p, p < k → at_ p = pa p ∧ has p = ho p) → ∃ at' has', f_X12_layNow_2 fu (nI k) (nI n) served at_ pa has ho = some (served, 0, 0, 0, 0, at', has') ∧ ∀ p, p < n → at' p = pa p ∧ has' p = ho p := by
    intro d
    induction d with
    | zero =>
      intro k fu at_ has hk hf hh
      obtain ⟨f, rfl⟩ : ∃ f, fu = f + 1 := ⟨fu - 1, by omega⟩
      refine ⟨at_, has, ?_, fun p hp => hh p (by omega)⟩
      rw [f_X12_layNow_2, if_pos (nI_le (by omega) (by omega))]
    | succ d ih =>
      intro k fu at_ has hk hf hh
      obtain ⟨f, rfl⟩ : ∃ f, fu = f + 1 := ⟨fu - 1, by omega⟩
      rw [f_X12_layNow_2, if_neg (nI_ge (by omega) (by omega)), if_neg (nI_in (by omega) (by omega)), if_neg (nI_in (by omega) (by omega)), if_neg (nI_in (by omega) (by omega)), if_neg (nI_in (by omega) (by omega)), nI_clamp (by omega), nI_1]
      exact ih (k + 1) f (upd at_ k (pa k)) (upd has k (ho k)) (by omega) (by omega) (fun p hp => by
        by_cases h : p = k
        · subst h; rw [up_s, up_s]; exact ⟨rfl, rfl⟩
        · rw [up_n h, up_n h]; exact hh p (by omega))
  exact key n 0 fuel at_ has (by omega) (fuel_big (by omega)) (fun p hp => absurd hp (Nat.not_lt_zero p))
theorem ml_lay {n : Nat} {pi : Nat → Nat} {a : AS} (h9 : n ≤ 9) (served : Int32) (at_ pa has ho leaks : Nat → Int32) (h : mR n pi a pa ho leaks) : ∃ at' has', f_X12_layNow (nI n) served at_ pa has ho = some (served, 0, 0, 0, 0, at', has') ∧ mR n pi a at' has' leaks := by
  obtain ⟨at', has', e, hh⟩ := ml_layNow h9 served at_ pa has ho
  refine ⟨at', has', e, h.1, ⟨fun p hp => ?_, fun p hp => ?_⟩, h.2.2⟩
  · rw [(hh p hp).1]; exact h.2.1.1 p hp
  · rw [(hh _ (h.1.1 p hp)).2]; exact h.2.1.2 p hp
theorem ml_how {h : Nat} (hh : h < 3) : f_X12_howOf (mvI h) = some (nI h) := by
  have h012 : h = 0 ∨ h = 1 ∨ h = 2 := by omega
  rcases h012 with rfl | rfl | rfl <;> rfl
theorem ml_goPad_6 {n dp pc : Nat} {wt : Nat → Nat} {pad leaks wants : Nat → Int32} {hw : Nat → Nat} (hwk : wOK n dp wt) (hpc : pc ≤ 40) (hs : ∀ i, i < pc → pad i = mvI (hw i) ∧ hw i < 3) (hwt : ∀ d, d < n → wants d = nI (wt d)) : ∀ (d k fu D Lq K T : Nat) (a : AS) (pi : Nat → Nat) (at_ has moved : Nat → Int32), k + d = pc → d < fu → aOK n dp a → mR n pi a at_ has leaks →
    ∃ at' has' moved', f_X12_goPad_6 fu (nI pc) (nI k) (nI n) (nI dp) (nI (sbit n a.2.2)) (nI D) (nI Lq) (nI K) (nI T) at_ has pad moved leaks wants = some (nI (sbit n (aRun n dp wt (hlist hw k d) a).2.2), nI (D + sD n dp wt (hlist hw k d) a), nI (Lq + sL n dp wt (hlist hw k d) a), nI (K + sK n dp wt (hlist hw k d) a), nI (T + sT n dp wt (hlist hw k d) a), at', has', moved') ∧ mR n (rotps n (hlist hw k d) pi) (aRun n dp wt (hlist hw k d) a) at' has' leaks := by
  intro d
  induction d with
  | zero =>
    intro k fu D Lq K T a pi at_ has moved hk hf ha hm
    obtain ⟨f, rfl⟩ : ∃ f, fu = f + 1 := ⟨fu - 1, by omega⟩
    refine ⟨at_, has, moved, ?_, hm⟩
    rw [f_X12_goPad_6, if_pos (nI_le (by omega) (by omega))]
    rfl
  | succ d ih =>
    intro k fu D Lq K T a pi at_ has moved hk hf ha hm
    obtain ⟨f, rfl⟩ : ∃ f, fu = f + 1 := ⟨fu - 1, by omega⟩
    obtain ⟨e1, e2⟩ := hs k (by omega)
    obtain ⟨mv1, at1, has1, ep, hp⟩ := ml_pull (D := D) (Lq := Lq) (K := K) (T := T) (moved := moved) hwk ha e2 hm hwt
    obtain ⟨at2, has2, mv2, er, hr⟩ := ih (k + 1) f (D + cD n dp (hw k) a) (Lq + cL n (hw k) a) (K + cK n dp wt (hw k) a) (T + cT n dp wt (hw k) a) (aP n dp wt (hw k) a) (rotp n (hw k) pi) at1 has1 mv1 (by omega) (by omega) (aP_ok hwk ha) hp
    refine ⟨at2, has2, mv2, ?_, hr⟩
    rw [f_X12_goPad_6, if_neg (nI_ge (by omega) (by omega)), if_neg (nI_in (by omega) (by omega)), nI_clamp (by omega), e1, ml_how e2]
    simp only [Option.bind_some]
    rw [ep]
    simp only [Option.bind_some]
    rw [nI_1, er, Nat.add_assoc, Nat.add_assoc, Nat.add_assoc, Nat.add_assoc]
    rfl
theorem ml_goPad {n dp pc : Nat} {wt : Nat → Nat} {pad leaks wants : Nat → Int32} {hw : Nat → Nat} {a : AS} {pi : Nat → Nat} {pa ho : Nat → Int32} (hwk : wOK n dp wt) (ha : aOK n dp a) (hpc : pc ≤ 40) (hs : ∀ i, i < pc → pad i = mvI (hw i) ∧ hw i < 3) (hwt : ∀ d, d < n → wants d = nI (wt d)) (hm : mR n pi a pa ho leaks) (at_ has moved : Nat → Int32) :
    ∃ at' has' moved', f_X12_goPad (nI n) (nI dp) (nI (sbit n a.2.2)) at_ pa has ho pad moved leaks wants (nI pc) = some (nI (sbit n (aRun n dp wt (hlist hw 0 pc) a).2.2), nI (sD n dp wt (hlist hw 0 pc) a), nI (sL n dp wt (hlist hw 0 pc) a), nI (sK n dp wt (hlist hw 0 pc) a), nI (sT n dp wt (hlist hw 0 pc) a), at', has', moved') ∧ mR n (rotps n (hlist hw 0 pc) pi) (aRun n dp wt (hlist hw 0 pc) a) at' has' leaks := by
  obtain ⟨at1, has1, e1, h1⟩ := ml_lay hwk.2.1 (nI (sbit n a.2.2)) at_ pa has ho leaks hm
  obtain ⟨at2, has2, mv2, e2, h2⟩ := ml_goPad_6 hwk hpc hs hwt pc 0 fuel 0 0 0 0 a pi at1 has1 moved (by omega) (fuel_big (by omega)) ha h1
  refine ⟨at2, has2, mv2, ?_, h2⟩
  unfold f_X12_goPad
  rw [e1]
  simp only [Option.bind_some]
  rw [Nat.zero_add, Nat.zero_add, Nat.zero_add, Nat.zero_add] at e2
  exact e2
theorem ml_till {n dp pc dr : Nat} {wt : Nat → Nat} {pad leaks wants : Nat → Int32} {hw : Nat → Nat} {a : AS} {pi : Nat → Nat} {pa ho : Nat → Int32} (hwk : wOK n dp wt) (ha : aOK n dp a) (hd : dr < n) (hpc : pc ≤ 40) (hs : ∀ i, i < pc → pad i = mvI (hw i) ∧ hw i < 3) (hwt : ∀ d, d < n → wants d = nI (wt d)) (hm : mR n pi a pa ho leaks) (at_ has moved : Nat → Int32) :
    ∃ o, f_X12_pullsTill (nI n) (nI dp) (nI (sbit n a.2.2)) (nI pc) at_ pa has ho pad moved leaks wants (nI dr) = some ((match fT n dp wt dr (hlist hw 0 pc) a with | none => -6 | some x => nI x), o) := by
  obtain ⟨at1, has1, e1, h1⟩ := ml_lay hwk.2.1 (nI (sbit n a.2.2)) at_ pa has ho leaks hm
  unfold f_X12_pullsTill
  rw [e1]
  simp only [Option.bind_some]
  have key : ∀ (d k fu D Lq K T : Nat) (a : AS) (pi : Nat → Nat) (at_ has moved : Nat → Int32), k + d = pc → d + 1 < fu → aOK n dp a → mR n pi a at_ has leaks → ∃ o, f_X12_pullsTill_6 fu (nI dr) (nI k) (nI n) (nI dp) (nI pc) (nI (sbit n a.2.2)) (nI D) (nI Lq) (nI K) (nI T) at_ has pad moved leaks wants = some ((match fT n dp wt dr (hlist hw k d) a with | none => -6 | some x => nI (k + x)), o) := by
    intro d
    induction d with
    | zero =>
      intro k fu D Lq K T a pi at_ has moved hk hf ha hm
      obtain ⟨f, rfl⟩ : ∃ f, fu = f + 2 := ⟨fu - 2, by omega⟩
      rw [f_X12_pullsTill_6, if_neg (nI_nlt (by omega) (by omega)), bit_ask _ hwk.2.1 hd, hlist, fT]
      by_cases q : a.2.2 dr = true
      · rw [if_pos q, if_pos q, if_neg (show ¬ nI 0 = 1 by decide), if_pos (nI_le (by omega) (by omega))]
        unfold f_X12_pullsTill_49
        rw [nI_1, f_X12_pullsTill_6, if_pos (nI_lt (by omega) (by omega))]
        exact ⟨_, rfl⟩
      · rw [if_neg q, if_neg q, if_pos (show nI 1 = 1 from rfl)]
        exact ⟨_, rfl⟩
    | succ d ih =>
      intro k fu D Lq K T a pi at_ has moved hk hf ha hm
      obtain ⟨f, rfl⟩ : ∃ f, fu = f + 1 := ⟨fu - 1, by omega⟩
      obtain ⟨e1, e2⟩ := hs k (by omega)
      rw [f_X12_pullsTill_6, if_neg (nI_nlt (by omega) (by omega)), bit_ask _ hwk.2.1 hd, hlist, fT]
      by_cases q : a.2.2 dr = true
      · obtain ⟨mv1, at1, has1, ep, hp⟩ := ml_pull (D := D) (Lq := Lq) (K := K) (T := T) (moved := moved) hwk ha e2 hm hwt
        obtain ⟨o, er⟩ := ih (k + 1) f (D + cD n dp (hw k) a) (Lq + cL n (hw k) a) (K + cK n dp wt (hw k) a) (T + cT n dp wt (hw k) a) (aP n dp wt (hw k) a) (rotp n (hw k) pi) at1 has1 mv1 (by omega) (by omega) (aP_ok hwk ha) hp
        rw [if_pos q, if_pos q, if_neg (show ¬ nI 0 = 1 by decide), if_neg (nI_ge (by omega) (by omega)), if_neg (nI_in (by omega) (by omega)), nI_clamp (by omega), e1, ml_how e2]
        simp only [Option.bind_some]
        rw [ep]
        simp only [Option.bind_some]
        unfold f_X12_pullsTill_49
        rw [nI_1]
        refine ⟨o, er.trans ?_⟩
        cases h : fT n dp wt dr (hlist hw (k + 1) d) (aP n dp wt (hw k) a) with
        | none => rfl
        | some x => simp only [Option.map_some]; rw [show k + 1 + x = k + (x + 1) by omega]
      · rw [if_neg q, if_neg q, if_pos (show nI 1 = 1 from rfl)]
        exact ⟨_, rfl⟩
  obtain ⟨o, e⟩ := key pc 0 fuel 0 0 0 0 a pi at1 has1 moved (by omega) (fuel_big (by omega)) ha h1
  refine ⟨o, e.trans ?_⟩
  cases fT n dp wt dr (hlist hw 0 pc) a with
  | none => rfl
  | some x => simp only [Nat.zero_add]
