/-! HUNG: the reference -/
theorem hg_put {n k : Nat} {σ : Nat → Nat} {at_ has w : Nat → Int32} (hP : PM n σ) (hk : k < n) (hh : ∀ p, p < k → at_ p = nI (σ p) ∧ has (σ p) = w p) : ∀ p, p < k + 1 → upd at_ k (nI (σ k)) p = nI (σ p) ∧ upd has (σ k) (w k) (σ p) = w p := fun p hp => by
  by_cases q : p = k
  · subst q
    exact ⟨pk_us, pk_us⟩
  · have q2 : σ p ≠ σ k := fun e => q (hP.2 p k (by omega) hk e)
    rw [pk_un q, pk_un q2]
    exact hh p (by omega)
def hg_w (dp : Nat) : Nat → Int32 := fun p => nI (if p = 0 then dp else 0)
theorem lay_hung6 {n dp : Nat} {σ : Nat → Nat} {order : Nat → Int32} (h6 : n ≤ 6) (hP : PM n σ) (hor : ∀ p, p < n → order p = nI (σ p)) (served : Int32) : ∀ (d k fu : Nat) (at_ has : Nat → Int32), k + d = n → d < fu → (∀ p, p < k → at_ p = nI (σ p) ∧ has (σ p) = hg_w dp p) → ∃ at' has', f_X12_layHung_6 fu (nI k) (nI n) (nI dp) served 0 0 0 0 at_ has order = some (served, 0, 0, 0, 0, at', has') ∧ ∀ p, p < n → at' p = nI (σ p) ∧ has' (σ p) = hg_w dp p := by
  intro d
  induction d with
  | zero =>
    intro k fu at_ has hk hf hh
    obtain ⟨f, rfl⟩ : ∃ f, fu = f + 1 := ⟨fu - 1, by omega⟩
    refine ⟨at_, has, ?_, fun p hp => hh p (by omega)⟩
    rw [f_X12_layHung_6, if_pos (nI_le (by omega) (by omega))]
  | succ d ih =>
    intro k fu at_ has hk hf hh
    obtain ⟨f, rfl⟩ : ∃ f, fu = f + 1 := ⟨fu - 1, by omega⟩
    have hs := hP.1 k (by omega)
    obtain ⟨at', has', e, r⟩ := ih (k + 1) f _ _ (by omega) (by omega) (hg_put hP (by omega) hh)
    refine ⟨at', has', ?_, r⟩
    rw [f_X12_layHung_6, if_neg (nI_ge (by omega) (by omega)), if_neg (nI_in (by omega) (by omega)), if_neg (nI_in (by omega) (by omega)), if_neg (nI_in (by omega) (by omega)), nI_clamp (by omega), hor k (by omega)]
    by_cases q : k = 0
    · rw [if_pos (show nI k = 0 by rw [q]; rfl)]
      unfold f_X12_layHung_48
      rw [if_neg (nI_in (by omega) (by omega)), nI_clamp (by omega), nI_1]
      rw [show hg_w dp k = nI dp by unfold hg_w; rw [if_pos q]] at e
      exact e
    · rw [if_neg (nI_ne0 (by omega) (by omega))]
      unfold f_X12_layHung_48
      rw [if_neg (nI_in (by omega) (by omega)), nI_clamp (by omega), nI_1]
      rw [show hg_w dp k = 0 by unfold hg_w; rw [if_neg q]; rfl] at e
      exact e
theorem lay_hung {n t dp : Nat} {a : AS} {σ : Nat → Nat} {pa ho leaks order : Nat → Int32} (h6 : n ≤ 6) (hP : PM n σ) (hor : ∀ p, p < n → order p = nI (σ p)) (hl : ∀ i, i < n → leaks i = nI (hg_lk n t a i)) : ∀ at_ has, ∃ at' has', LAY 1 (nI n) (nI dp) (nI (sbit n (hg_st n t dp a σ).2.2)) at_ pa has ho order = some (nI (sbit n (hg_st n t dp a σ).2.2), 0, 0, 0, 0, at', has') ∧ mR n σ (hg_st n t dp a σ) at' has' leaks := fun at_ has => by
  unfold LAY
  rw [if_neg (show ¬ (1 : Int32) = 0 by decide)]
  unfold f_X12_layHung
  obtain ⟨at1, has1, e1, -⟩ := ml_layNow (show n ≤ 9 by omega) (nI (sbit n (hg_st n t dp a σ).2.2)) at_ pa has ho
  obtain ⟨at2, has2, e2, r2⟩ := lay_hung6 (dp := dp) h6 hP hor (nI (sbit n (hg_st n t dp a σ).2.2)) n 0 fuel at1 has1 (by omega) (fuel_big (by omega)) (fun p hp => absurd hp (Nat.not_lt_zero p))
  refine ⟨at2, has2, ?_, hP, ⟨fun p hp => (r2 p hp).1, fun p hp => (r2 p hp).2⟩, fun p hp => ?_⟩
  · rw [e1, Option.bind_some]
    exact e2
  · show leaks (σ p) = nI (if p < n then hg_lk n t a (σ p) else 0)
    rw [if_pos hp]
    exact hl (σ p) (hP.1 p hp)
/-- a number whose digits are all there is an order -/
theorem hg_onto {n : Nat} {σ : Nat → Nat} (hσ : ∀ p, p < n → σ p < n) (h : ∀ i, i < n → ∃ p, p < n ∧ σ p = i) : PM n σ := by
  refine ⟨hσ, fun p q hp hq e => ?_⟩
  have hc : ∃ g : Nat → Nat, ∀ i, i < n → g i < n ∧ σ (g i) = i := by
    refine ⟨fun i => if q : i < n then Classical.choose (h i q) else 0, fun i hi => ?_⟩
    simp only [dif_pos hi]
    exact Classical.choose_spec (h i hi)
  obtain ⟨g, hg⟩ := hc
  have hon : ∀ y, y < n → ∃ i, i < n ∧ g i = y := fun y hy => fb_onto (fun i hi => (hg i hi).1) (fun i j hij hj e2 => by
    have h1 := (hg i (by omega)).2
    have h2 := (hg j hj).2
    rw [e2, h2] at h1
    omega) hy
  obtain ⟨i, hi, rfl⟩ := hon p hp
  obtain ⟨j, hj, rfl⟩ := hon q hq
  rw [(hg i hi).2, (hg j hj).2] at e
  rw [e]
theorem hg_pow {n : Nat} (h3 : 3 ≤ n) (h6 : n ≤ 6) : n ^ n ≤ 46656 := by
  obtain rfl | rfl | rfl | rfl : n = 3 ∨ n = 4 ∨ n = 5 ∨ n = 6 := by omega
  all_goals decide
theorem ml_layOrder {n x : Nat} (h3 : 3 ≤ n) (h6 : n ≤ 6) (hx : x < n ^ n) (order : Nat → Int32) : ∃ z order', f_X12_layOrder (nI n) order (nI x) = some (z, order') ∧ (z = 0 → ¬ PM n (hg_dg n x)) ∧ (z ≠ 0 → PM n (hg_dg n x)) ∧ ∀ p, p < n → order' p = nI (hg_dg n x p) := by
  have hp := hg_pow h3 h6
  have hd : ∀ p, hg_dg n x p < n := fun p => hg_dg_lt (by omega)
  have key : ∀ (k fu : Nat) (th : Nat → Bool) (order : Nat → Int32), k ≤ n → k < fu → (∀ i, i < n → (th i = false ↔ ∃ p, k ≤ p ∧ p < n ∧ hg_dg n x p = i)) → (∀ p, k ≤ p → p < n → order p = nI (hg_dg n x p)) → ∃ z order', f_X12_layOrder_12 fu (nI (x / n ^ (n - k))) (nI (sbit n th)) (nI k - 1) (nI n) order = some (z, order') ∧ (z = 0 → ¬ PM n (hg_dg n x)) ∧ (z ≠ 0 → PM n (hg_dg n x)) ∧ ∀ p, p < n → order' p = nI (hg_dg n x p) := by
    intro k
    induction k with
    | zero =>
      intro fu th order hk hf ht ho
      obtain ⟨f, rfl⟩ : ∃ f, fu = f + 1 := ⟨fu - 1, by omega⟩
      rw [f_X12_layOrder_12, if_pos (show nI 0 - 1 < 0 by decide)]
      unfold f_X12_allDoors
      rw [Option.bind_some, all_bits (show n ≤ 9 by omega)]
      by_cases q : nI (sbit n th) = nI (sbit n (fun _ => false))
      · rw [if_pos q]
        refine ⟨1, order, rfl, fun q2 => absurd q2 (by decide), fun _ => hg_onto (fun p _ => hd p) (fun i hi => ?_), fun p hp => ho p (by omega) hp⟩
        have e1 : th i = false := by
          have hall := (bits_all th (fun _ => false) (show n ≤ 9 by omega)).mp (by rw [q, nx_and, Nat.and_self])
          exact hall i hi rfl
        obtain ⟨p, -, p2, p3⟩ := (ht i hi).mp e1
        exact ⟨p, p2, p3⟩
      · rw [if_neg q]
        refine ⟨0, order, rfl, fun _ hPM => q ?_, fun q2 => absurd rfl q2, fun p hp => ho p (by omega) hp⟩
        refine congrArg nI (sbit_congr (fun i hi => ?_))
        obtain ⟨p, p1, p2⟩ := fb_onto hPM.1 (fun i j hij hj e => by have := hPM.2 i j (by omega) hj e; omega) hi
        exact (ht i hi).mpr ⟨p, by omega, p1, p2⟩
    | succ k ih =>
      intro fu th order hk hf ht ho
      obtain ⟨f, rfl⟩ : ∃ f, fu = f + 1 := ⟨fu - 1, by omega⟩
      have hxs : x / n ^ (n - (k + 1)) < 2 ^ 31 := Nat.lt_of_le_of_lt (Nat.div_le_self _ _) (by omega)
      have edg : x / n ^ (n - (k + 1)) % n = hg_dg n x k := by unfold hg_dg; rw [show n - 1 - k = n - (k + 1) by omega]
      have ediv : x / n ^ (n - (k + 1)) / n = x / n ^ (n - k) := by
        rw [Nat.div_div_eq_div_mul, ← Nat.pow_succ, show (n - (k + 1)).succ = n - k by omega]
      obtain ⟨z, order', e, r⟩ := ih f (thset th (hg_dg n x k) false) (upd order k (nI (hg_dg n x k))) (by omega) (by omega) (fun i hi => by
        unfold thset
        by_cases q : i = hg_dg n x k
        · rw [if_pos q]
          exact ⟨fun _ => ⟨k, Nat.le_refl _, by omega, q.symm⟩, fun _ => rfl⟩
        · rw [if_neg q, ht i hi]
          constructor
          · rintro ⟨p, p1, p2, p3⟩; exact ⟨p, by omega, p2, p3⟩
          · rintro ⟨p, p1, p2, p3⟩
            have : p ≠ k := fun q2 => q (by rw [← p3, q2])
            exact ⟨p, by omega, p2, p3⟩) (fun p p1 p2 => by
        by_cases q : p = k
        · subst q; exact pk_us
        · rw [pk_un q]; exact ho p (by omega) p2)
      refine ⟨z, order', ?_, r⟩
      rw [f_X12_layOrder_12, nI_p1, if_neg (nI_pos (by omega)), if_neg (nI_ne0 (by omega) (by omega)), if_neg (nI_in (by omega) (by omega)), if_neg (nI_in (by omega) (by omega)), if_neg (nI_ne0 (by omega) (by omega)), nI_clamp (by omega), pk_us, pk_rem hxs (by omega) (by omega), pk_div hxs (by omega) (by omega), edg, ediv, bit_set th (hd k) (by omega), nI_m1]
      exact e
  unfold f_X12_layOrder
  have e0 := key n fuel (fun _ => true) order (Nat.le_refl _) (fuel_big (by omega)) (fun i _ => ⟨fun q => absurd q (by decide), fun ⟨p, p1, p2, _⟩ => absurd p2 (by omega)⟩) (fun p p1 p2 => absurd p2 (by omega))
  rw [Nat.sub_self, Nat.pow_zero, Nat.div_one, show nI (sbit n (fun _ => true)) = 0 by rw [show sbit n (fun _ => true) = 0 from (sbit_ext (fun i => by simp)).symm]; rfl] at e0
  exact e0
theorem ml_hung96 {n : Nat} {order : Nat → Int32} (h6 : n ≤ 6) (k43) (x1 x2 x3 x4 dp sv dn dr le du ti fn : Int32) (at_ pa has ho moved leaks wants : Nat → Int32) : ∀ (d k fu : Nat) (best : Nat → Int32), k + d = n → d < fu → (∀ p, p < k → best p = order p) → ∃ best', f_X12_hung_96 k43 fu x1 x2 x3 x4 (nI k) (nI n) dp sv dn dr le du ti fn order at_ pa has ho moved leaks wants best = k43 x1 x2 x3 (x4 + 1) (nI n) dp sv dn dr le du ti fn order at_ pa has ho moved leaks wants best' ∧ ∀ p, p < n → best' p = order p := by
  intro d
  induction d with
  | zero =>
    intro k fu best hk hf hh
    obtain ⟨f, rfl⟩ : ∃ f, fu = f + 1 := ⟨fu - 1, by omega⟩
    refine ⟨best, ?_, fun p hp => hh p (by omega)⟩
    rw [f_X12_hung_96, if_pos (nI_le (by omega) (by omega))]
    rfl
  | succ d ih =>
    intro k fu best hk hf hh
    obtain ⟨f, rfl⟩ : ∃ f, fu = f + 1 := ⟨fu - 1, by omega⟩
    obtain ⟨best', e, r⟩ := ih (k + 1) f (upd best k (order k)) (by omega) (by omega) (fun p hp => by
      by_cases q : p = k
      · subst q; exact pk_us
      · rw [pk_un q]; exact hh p (by omega))
    refine ⟨best', ?_, r⟩
    rw [f_X12_hung_96, if_neg (nI_ge (by omega) (by omega)), if_neg (nI_in (by omega) (by omega)), if_neg (nI_in (by omega) (by omega)), nI_clamp (by omega), nI_1]
    exact e
theorem hg_bm {o : Option Nat} (h : hg_bd o ≤ 9) : (if 0 ≤ hg_b o then hg_b o - 1 else (8 : Int32)) = nI (hg_bd o) - 1 := by
  cases o with
  | none => decide
  | some b =>
    have h2 : b ≤ 9 := h
    show (if 0 ≤ nI b then nI b - 1 else (8 : Int32)) = nI b - 1
    rw [if_pos (nI_pos' (by omega))]
/-- one order more -/
theorem ml_hung_step {n t dp N : Nat} {wt : Nat → Nat} {a : AS} {leaks wants pa ho : Nat → Int32} (h6 : n ≤ 6) (hw : wOK n dp wt) (ha : aOK n dp a) (hwt : ∀ d, d < n → wants d = nI (wt d)) (hl : ∀ i, i < n → leaks i = nI (hg_lk n t a i)) (hN : N < n ^ n) (k43) (x1 x2 : Int32) (o : Option Nat) (dn dr le du ti fn : Int32) (order at_ has moved best : Nat → Int32) (hS : hg_S n t dp wt a N o best) (hP : PM n (hg_dg n N)) (hor : ∀ p, p < n → order p = nI (hg_dg n N p)) :
    ∃ o' q1 q2 q3 q4 q5 q6 at' has' moved' best', hg_S n t dp wt a (N + 1) o' best' ∧ f_X12_hung_70 k43 x1 x2 (hg_b o) (nI N) (nI (hg_bd o) - 1) (nI n) (nI dp) (nI (sbit n a.2.2)) dn dr le du ti fn order at_ pa has ho moved leaks wants best = k43 x1 x2 (hg_b o') (nI (N + 1)) (nI n) (nI dp) (nI (sbit n a.2.2)) q1 q2 q3 q4 q5 q6 order at' pa has' ho moved' leaks wants best' := by
  have h9 := hg_bd9 hS
  obtain ⟨o2, f1, r1, r2, r3, r4, r5, r0, r6, r7, r8, er, -⟩ := ml_few (D := fun _ => true) (b := hg_bd o) hw hwt (hg_ok (t := t) hw ha (hg_dg n N)) (lay_hung (pa := pa) (ho := ho) (order := order) h6 hP hor hl) (by omega) dn dr le du ti fn at_ has moved
  have er' : f_X12_fewestFor (nI n) (nI dp) (nI (sbit n a.2.2)) dn dr le du ti fn at_ pa has ho order moved leaks wants (nI (sbit n (fun _ => false))) (nI (hg_bd o) - 1) 1 = some (bestI o2, r1, r2, r3, r4, r5, r0, r6, r7, r8) := er
  unfold f_X12_hung_70 f_X12_allDoors
  rw [Option.bind_some, all_bits (show n ≤ 9 by omega), er', Option.bind_some]
  cases o2 with
  | none =>
    refine ⟨o, r1, r2, r3, r4, r5, r0, r6, r7, r8, best, hg_none hS f1, ?_⟩
    show (if (-6 : Int32) < 0 then _ else _) = _
    rw [if_pos (by decide)]
    unfold f_X12_hung_125
    rw [nI_1]
  | some p =>
    obtain ⟨m, y⟩ := p
    have hm : m < hg_bd o := f1.1
    show ∃ o' q1 q2 q3 q4 q5 q6 at' has' moved' best', hg_S n t dp wt a (N + 1) o' best' ∧ (if nI m < 0 then _ else f_X12_hung_96 k43 fuel x1 x2 (nI m) (nI N) (0 : Int32) (nI n) (nI dp) (nI (sbit n a.2.2)) r1 r2 r3 r4 r5 r0 order r6 pa r7 ho r8 leaks wants best) = k43 x1 x2 (hg_b o') (nI (N + 1)) (nI n) (nI dp) (nI (sbit n a.2.2)) q1 q2 q3 q4 q5 q6 order at' pa has' ho moved' leaks wants best'
    obtain ⟨best', e, rb⟩ := ml_hung96 (order := order) h6 k43 x1 x2 (nI m) (nI N) (nI dp) (nI (sbit n a.2.2)) r1 r2 r3 r4 r5 r0 r6 pa r7 ho r8 leaks wants n 0 fuel best (by omega) (fuel_big (by omega)) (fun p hp => absurd hp (Nat.not_lt_zero p))
    refine ⟨some m, r1, r2, r3, r4, r5, r0, r6, r7, r8, best', hg_some hS hP f1 (fun p hp => by rw [rb p hp, hor p hp]), ?_⟩
    rw [if_neg (nI_pos (by omega)), show (0 : Int32) = nI 0 from rfl, e, nI_1]
    rfl
theorem ml_hung43 {n t dp : Nat} {wt : Nat → Nat} {a : AS} {leaks wants pa ho : Nat → Int32} (h6 : n ≤ 6) (hw : wOK n dp wt) (ha : aOK n dp a) (hwt : ∀ d, d < n → wants d = nI (wt d)) (hl : ∀ i, i < n → leaks i = nI (hg_lk n t a i)) (x1 : Int32) : ∀ (e N fu : Nat) (o : Option Nat) (dn dr le du ti fn : Int32) (order at_ has moved best : Nat → Int32), N + e = n ^ n → e < fu → hg_S n t dp wt a N o best →
    ∃ o' q1 q2 q3 q4 q5 q6 order' at' has' moved' best', hg_S n t dp wt a (n ^ n) o' best' ∧ f_X12_hung_43 fu x1 (nI (n ^ n)) (hg_b o) (nI N) (nI n) (nI dp) (nI (sbit n a.2.2)) dn dr le du ti fn order at_ pa has ho moved leaks wants best = f_X12_hung_43 (0 + 1) x1 (nI (n ^ n)) (hg_b o') (nI (n ^ n)) (nI n) (nI dp) (nI (sbit n a.2.2)) q1 q2 q3 q4 q5 q6 order' at' pa has' ho moved' leaks wants best' := by
  have hp := hg_pow hw.1 h6
  intro e
  induction e with
  | zero =>
    intro N fu o dn dr le du ti fn order at_ has moved best hN hf hS
    obtain ⟨f, rfl⟩ : ∃ f, fu = f + 1 := ⟨fu - 1, by omega⟩
    obtain rfl : N = n ^ n := by omega
    refine ⟨o, dn, dr, le, du, ti, fn, order, at_, has, moved, best, hS, ?_⟩
    rw [f_X12_hung_43, f_X12_hung_43, if_pos (nI_le (Nat.le_refl _) (by omega)), if_pos (nI_le (Nat.le_refl _) (by omega))]
  | succ e ih =>
    intro N fu o dn dr le du ti fn order at_ has moved best hN hf hS
    obtain ⟨f, rfl⟩ : ∃ f, fu = f + 1 := ⟨fu - 1, by omega⟩
    obtain ⟨z, order', e1, z1, z2, hor⟩ := ml_layOrder hw.1 h6 (show N < n ^ n by omega) order
    rw [f_X12_hung_43, if_neg (nI_ge (by omega) (by omega)), e1, Option.bind_some]
    by_cases q : z = 0
    · rw [if_pos q]
      unfold f_X12_hung_125
      rw [nI_1]
      exact ih (N + 1) f o dn dr le du ti fn order' at_ has moved best (by omega) (by omega) (hg_jump hS (Nat.le_succ N) (fun x h1 h2 hP => by
        obtain rfl : x = N := by omega
        exact absurd hP (z1 q)))
    · rw [if_neg q]
      obtain ⟨o', q1, q2, q3, q4, q5, q6, at', has', moved', best', hS', e2⟩ := ml_hung_step h6 hw ha hwt hl (show N < n ^ n by omega) (f_X12_hung_43 f) x1 (nI (n ^ n)) o dn dr le du ti fn order' at_ has moved best hS (z2 q) hor
      have hb := hg_bm (hg_bd9 hS)
      have e3 : (if 0 ≤ hg_b o then f_X12_hung_70 (f_X12_hung_43 f) x1 (nI (n ^ n)) (hg_b o) (nI N) (hg_b o - 1) (nI n) (nI dp) (nI (sbit n a.2.2)) dn dr le du ti fn order' at_ pa has ho moved leaks wants best else f_X12_hung_70 (f_X12_hung_43 f) x1 (nI (n ^ n)) (hg_b o) (nI N) (8 : Int32) (nI n) (nI dp) (nI (sbit n a.2.2)) dn dr le du ti fn order' at_ pa has ho moved leaks wants best) = f_X12_hung_70 (f_X12_hung_43 f) x1 (nI (n ^ n)) (hg_b o) (nI N) (nI (hg_bd o) - 1) (nI n) (nI dp) (nI (sbit n a.2.2)) dn dr le du ti fn order' at_ pa has ho moved leaks wants best := by
        rw [← hb]
        by_cases q2 : 0 ≤ hg_b o
        · rw [if_pos q2, if_pos q2]
        · rw [if_neg q2, if_neg q2]
      rw [e3, e2]
      exact ih (N + 1) f o' q1 q2 q3 q4 q5 q6 order' at' has' moved' best' (by omega) (by omega) hS'
theorem ml_hung16 {n : Nat} (h6 : n ≤ 6) (x1 dp sv dn dr le du ti fn : Int32) (order at_ pa has ho moved leaks wants best : Nat → Int32) : ∀ (d k fu : Nat), k + d = n → d < fu → f_X12_hung_16 fu x1 (nI (n ^ k)) (nI k) (nI n) dp sv dn dr le du ti fn order at_ pa has ho moved leaks wants best = f_X12_hung_43 fuel x1 (nI (n ^ n)) (-6) 0 (nI n) dp sv dn dr le du ti fn order at_ pa has ho moved leaks wants best := by
  intro d
  induction d with
  | zero =>
    intro k fu hk hf
    obtain ⟨f, rfl⟩ : ∃ f, fu = f + 1 := ⟨fu - 1, by omega⟩
    obtain rfl : k = n := by omega
    rw [f_X12_hung_16, if_pos (nI_le (by omega) (by omega))]
  | succ d ih =>
    intro k fu hk hf
    obtain ⟨f, rfl⟩ : ∃ f, fu = f + 1 := ⟨fu - 1, by omega⟩
    rw [f_X12_hung_16, if_neg (nI_ge (by omega) (by omega)), pk_mul, nI_1, ← Nat.pow_succ]
    exact ih (k + 1) f (by omega) (by omega)
theorem hg_S0 (n t dp : Nat) (wt : Nat → Nat) (a : AS) (ord : Nat → Int32) : hg_S n t dp wt a 0 none ord := ⟨fun x hx => absurd hx (Nat.not_lt_zero x), fun b hb => by cases hb⟩
theorem ml_hung {n t dp : Nat} {wt : Nat → Nat} {a : AS} {leaks wants pa ho : Nat → Int32} (h6 : n ≤ 6) (hw : wOK n dp wt) (ha : aOK n dp a) (hwt : ∀ d, d < n → wants d = nI (wt d)) (hl : ∀ i, i < n → leaks i = nI (hg_lk n t a i)) (x1 dn dr le du ti fn : Int32) (order at_ has moved best : Nat → Int32) :
    ∃ o' q1 q2 q3 q4 q5 q6 order' at' has' moved' best', hg_S n t dp wt a (n ^ n) o' best' ∧ f_X12_hung (nI n) (nI dp) (nI (sbit n a.2.2)) dn dr le du ti fn order at_ pa has ho moved leaks wants best x1 = f_X12_hung_43 (0 + 1) x1 (nI (n ^ n)) (hg_b o') (nI (n ^ n)) (nI n) (nI dp) (nI (sbit n a.2.2)) q1 q2 q3 q4 q5 q6 order' at' pa has' ho moved' leaks wants best' := by
  have hp := hg_pow hw.1 h6
  obtain ⟨o', q1, q2, q3, q4, q5, q6, order', at', has', moved', best', hS, e⟩ := ml_hung43 h6 hw ha hwt hl x1 (n ^ n) 0 fuel none dn dr le du ti fn order at_ has moved best (by omega) (fuel_big (by omega)) (hg_S0 n t dp wt a best)
  refine ⟨o', q1, q2, q3, q4, q5, q6, order', at', has', moved', best', hS, ?_⟩
  unfold f_X12_hung
  rw [if_pos (show nI n ≤ 6 from nI_le (b := 6) h6 (by decide))]
  exact (ml_hung16 h6 x1 (nI dp) (nI (sbit n a.2.2)) dn dr le du ti fn order at_ pa has ho moved leaks wants best n 0 fuel (by omega) (fuel_big (by omega))).trans e
