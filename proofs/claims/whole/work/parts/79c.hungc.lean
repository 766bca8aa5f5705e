/-! HUNG: the class -/
theorem hg_lk9 {n t dp : Nat} {a : AS} (ha : aOK n dp a) (i : Nat) : hg_lk n t a i ≤ 9 := ha.2.2.1 _
theorem cl_leakOf {n t dp j : Nat} {a : AS} (h9 : n ≤ 9) (ht : t < n) (ha : aOK n dp a) (hj : j < n) : f_X2_leakOf (nI n) (nI t) (v9 a.2.1) (nI j) = some (nI (hg_lk n t a j)) := by
  unfold f_X2_leakOf
  have hm : (j + t) % n < n := Nat.mod_lt _ (by omega)
  rw [cl_place h9 ht hj, Option.bind_some, c_laneV (lt16 (Nat.le_refl 9) ha.2.2.1) (by omega), Option.bind_some]
  rfl
theorem cl_first {n t dp j : Nat} {a : AS} (th : Nat → Bool) (h9 : n ≤ 9) (ht : t < n) (ha : aOK n dp a) (hj : j < n) : ∃ z, f_X2_isFirstOfItsLeak (nI n) (nI t) (v9 a.2.1) (nI j) (nI (sbit n th)) = some z ∧ (z = 0 → ∃ i, i < j ∧ th i = true ∧ hg_lk n t a i = hg_lk n t a j) := by
  have key : ∀ (d k fu : Nat), k + d = j → d < fu → ∃ z, f_X2_isFirstOfItsLeak_2 fu (nI j) (nI (sbit n th)) (nI k) (nI n) (nI t) (v9 a.2.1) = some z ∧ (z = 0 → ∃ i, i < j ∧ th i = true ∧ hg_lk n t a i = hg_lk n t a j) := by
    intro d
    induction d with
    | zero =>
      intro k fu hk hf
      obtain ⟨f, rfl⟩ : ∃ f, fu = f + 1 := ⟨fu - 1, by omega⟩
      rw [f_X2_isFirstOfItsLeak_2, if_pos (nI_le (by omega) (by omega))]
      exact ⟨1, rfl, fun q => absurd q (by decide)⟩
    | succ d ih =>
      intro k fu hk hf
      obtain ⟨f, rfl⟩ : ∃ f, fu = f + 1 := ⟨fu - 1, by omega⟩
      rw [f_X2_isFirstOfItsLeak_2, if_neg (nI_ge (by omega) (by omega)), bit_ask th h9 (show k < n by omega)]
      by_cases q : th k = true
      · rw [if_pos (show nI (if th k = true then 0 else 1) = 0 by rw [if_pos q]; rfl), cl_leakOf h9 ht ha (show k < n by omega), Option.bind_some, cl_leakOf h9 ht ha hj, Option.bind_some]
        have l1 := hg_lk9 (t := t) ha k
        have l2 := hg_lk9 (t := t) ha j
        by_cases q2 : hg_lk n t a k = hg_lk n t a j
        · rw [q2, if_pos rfl]
          exact ⟨0, rfl, fun _ => ⟨k, by omega, q, q2⟩⟩
        · rw [if_neg (fun q3 => q2 ((nI_eq (by omega) (by omega)).mp q3))]
          unfold f_X2_isFirstOfItsLeak_30
          rw [nI_1]
          exact ih (k + 1) f (by omega) (by omega)
      · rw [if_neg (show ¬ nI (if th k = true then 0 else 1) = 0 by rw [if_neg q]; decide)]
        unfold f_X2_isFirstOfItsLeak_30
        rw [nI_1]
        exact ih (k + 1) f (by omega) (by omega)
  unfold f_X2_isFirstOfItsLeak
  exact key j 0 fuel (by omega) (fuel_big (by omega))
theorem hg_lor {k v : Nat} {f : Nat → Nat} (hk : k < 9) (hv : v < 16) (hf : ∀ p, f p < 16) : v9 (fun p => if p < k then f p else 0) ||| ((nI v).toInt64 <<< (((5 : Int32) * nI k).toInt64 &&& 63)) = v9 (fun p => if p < k then f p else if p = k then v else 0) := by
  rw [m5, nI_l (by omega), wb_shl v (show 5 * k < 64 by omega), p5, v9_one k v hk, v9_or]
  · refine v9_congr (fun p _ => ?_)
    show (if p < k then f p else 0) ||| (if p = k then v else 0) = if p < k then f p else if p = k then v else 0
    by_cases q : p < k
    · rw [if_pos q, if_pos q, if_neg (by omega), Nat.or_zero]
    · rw [if_neg q, if_neg q, Nat.zero_or]
  · intro p
    show (if p < k then f p else 0) < 32
    have := hf p
    by_cases q : p < k
    · rw [if_pos q]; omega
    · rw [if_neg q]; omega
  · exact fl_lt k v (by omega)
theorem hg_top {n k j : Nat} {σ : Nat → Nat} (hk : k < n) (hσ : ∀ p, p < k → σ p < n) (hj : j < n) : (hg_cd n σ k * n + j + 1) * n ^ (n - (k + 1)) ≤ n ^ n := by
  have h1 := hg_cd_lt k hσ
  have h2 : hg_cd n σ k * n + j + 1 ≤ n ^ k * n := by
    have h3 : (hg_cd n σ k + 1) * n ≤ n ^ k * n := Nat.mul_le_mul_right n h1
    rw [Nat.add_mul, Nat.one_mul] at h3
    omega
  have h4 : (hg_cd n σ k * n + j + 1) * n ^ (n - (k + 1)) ≤ (n ^ k * n) * n ^ (n - (k + 1)) := Nat.mul_le_mul_right _ h2
  rw [← Nat.pow_succ, ← Nat.pow_add, show k.succ + (n - (k + 1)) = n by omega] at h4
  exact h4
theorem hg_pk {n k : Nat} (A : Nat) (hk : k < n) : A * n ^ (n - k) = A * n * n ^ (n - (k + 1)) := by
  rw [Nat.mul_assoc, ← Nat.pow_succ', show (n - (k + 1)).succ = n - k by omega]
def hg_W (dp : Nat) (a : AS) : Int64 := w9 (fun p => if p = 0 then dp else 0) a.2.2
def hg_L (n t k : Nat) (a : AS) (σ : Nat → Nat) : Int64 := v9 (fun p => if p < k then hg_lk n t a (σ p) else 0)
theorem cl_hang_leaf {n t dp : Nat} {wt : Nat → Nat} {a : AS} {σ : Nat → Nat} {o : Option Nat} {order best : Nat → Int32} (h6 : n ≤ 6) (hw : wOK n dp wt) (ha : aOK n dp a) (hth : ∀ d, a.2.2 d = true → 1 ≤ wt d) (hP : PM n σ) (hor : ∀ p, p < n → order p = nI (σ p)) (hS : hg_S n t dp wt a (hg_cd n σ n) o best) (rc) : ∃ o' s1 s2 s3 s4 best', hg_S n t dp wt a (hg_cd n σ n + 1) o' best' ∧ f_X2_hangOn_39 rc (hg_L n t n a σ) (hg_W dp a) (nI (hg_bd o) - 1) (hg_b o) (nI n) (nI dp) (v9 wt) order best = some (nI (hg_bd o') - 1, hg_b o', s1, s2, s3, s4, order, best') := by
  have h9 := hg_bd9 hS
  have hdg : ∀ p, p < n → hg_dg n (hg_cd n σ n) p = σ p := fun p hp => hg_dg_cd hP.1 hp
  have hst : hg_st n t dp a (hg_dg n (hg_cd n σ n)) = hg_st n t dp a σ := hg_st_eq (fun p hp => by rw [hdg p hp])
  have hP2 : PM n (hg_dg n (hg_cd n σ n)) := PM.cong hP (fun p hp => (hdg p hp).symm)
  obtain ⟨o2, f1, mo, e⟩ := cl_look (D := fun _ => true) (b := hg_bd o) (a := hg_st n t dp a σ) hw (hg_ok (t := t) hw ha σ) hth (by omega)
  have e' : f_X7_look (nI n) (nI dp) (v9 wt) (hg_W dp a) (hg_L n t n a σ) 18159675916816 (nI (hg_bd o) - 1) = some (mask (fun _ => true), mo, bestI o2, rowI o2) := by
    rw [mask_all]; exact e
  rw [← hst] at f1
  unfold f_X2_hangOn_39
  rw [e', Option.bind_some]
  unfold f_X2_keepBetter
  cases o2 with
  | none =>
    refine ⟨o, mask (fun _ => true), mo, -6, 0, best, hg_none hS f1, ?_⟩
    show ((if (-6 : Int32) = (-6 : Int32) then some (nI (hg_bd o) - 1, hg_b o, best) else _) : Option (Int32 × Int32 × (Nat → Int32))).bind _ = _
    rw [if_pos rfl, Option.bind_some]
    rfl
  | some p =>
    obtain ⟨m, y⟩ := p
    have hm : m < hg_bd o := f1.1
    have c0 : ((0 : Int32)).toNatClampNeg = 0 := by decide
    have c6 : ((6 : Int32)).toNatClampNeg = 6 := by decide
    refine ⟨some m, mask (fun _ => true), mo, nI m, nI y, va_cpy order best 0 0 6, hg_some hS hP2 f1 (fun p hp => ?_), ?_⟩
    · rw [pk_cpy_in (by omega) (by omega), Nat.zero_add, Nat.sub_zero, hor p hp, hdg p hp]
    · show ((if nI m = (-6 : Int32) then _ else some (nI m - 1, nI m, va_cpy order best ((0 : Int32)).toNatClampNeg ((0 : Int32)).toNatClampNeg ((6 : Int32)).toNatClampNeg)) : Option (Int32 × Int32 × (Nat → Int32))).bind _ = _
      rw [if_neg (fun q => nI_pos (n := m) (by omega) (by rw [q]; decide)), c0, c6, Option.bind_some]
      rfl
theorem cl_hang_loop {n t dp k : Nat} {wt : Nat → Nat} {a : AS} {σ : Nat → Nat} {th : Nat → Bool} (h6 : n ≤ 6) (ha : aOK n dp a) (ht : t < n) (hk : k < n) (hσ : ∀ p, p < k → σ p < n) (hus : ∀ i, i < n → (th i = false ↔ ∃ p, p < k ∧ σ p = i)) (rc : Int64 → Int32 → Int32 → Int32 → Int32 → Int32 → Int64 → Int64 → Int64 → Int32 → Int32 → Int32 → (Nat → Int32) → (Nat → Int32) → Int32 → Int32 → Int64 → Option (Int32 × Int32 × Int64 × Int32 × Int32 × Int32 × (Nat → Int32) × (Nat → Int32)))
    (hrc : ∀ (j : Nat) (o : Option Nat) (s1 : Int64) (s2 s3 s4 : Int32) (order best : Nat → Int32), j < n → th j = true → order k = nI j → (∀ p, p < k → order p = nI (σ p)) → hg_S n t dp wt a ((hg_cd n σ k * n + j) * n ^ (n - (k + 1))) o best → ∃ o' s1' s2' s3' s4' order' best', hg_S n t dp wt a ((hg_cd n σ k * n + j + 1) * n ^ (n - (k + 1))) o' best' ∧ (∀ p, p < k → order' p = order p) ∧ rc (hg_W dp a) (nI (hg_bd o) - 1) (hg_b o) (nI n) (nI dp) (nI t) (v9 a.2.1) (v9 wt) s1 s2 s3 s4 order best (nI k + 1) (nI (sbit n th) ||| ((1 : Int32) <<< (nI j &&& 31))) (hg_L n t k a σ ||| ((nI (hg_lk n t a j)).toInt64 <<< (((5 : Int32) * nI k).toInt64 &&& 63))) = some (nI (hg_bd o') - 1, hg_b o', s1', s2', s3', s4', order', best')) :
    ∀ (e j fu : Nat) (o : Option Nat) (s1 : Int64) (s2 s3 s4 : Int32) (order best : Nat → Int32), j + e = n → e < fu → (∀ p, p < k → order p = nI (σ p)) → hg_S n t dp wt a ((hg_cd n σ k * n + j) * n ^ (n - (k + 1))) o best → ∃ o' s1' s2' s3' s4' order' best', hg_S n t dp wt a ((hg_cd n σ k * n + n) * n ^ (n - (k + 1))) o' best' ∧ (∀ p, p < k → order' p = order p) ∧ f_X2_hangOn_70 rc fu (nI k) (nI (sbit n th)) (hg_L n t k a σ) (nI j) (hg_W dp a) (nI (hg_bd o) - 1) (hg_b o) (nI n) (nI dp) (nI t) (v9 a.2.1) (v9 wt) s1 s2 s3 s4 order best = some (nI (hg_bd o') - 1, hg_b o', s1', s2', s3', s4', order', best') := by
  intro e
  induction e with
  | zero =>
    intro j fu o s1 s2 s3 s4 order best hj hf hor hS
    obtain ⟨f, rfl⟩ : ∃ f, fu = f + 1 := ⟨fu - 1, by omega⟩
    obtain rfl : j = n := by omega
    refine ⟨o, s1, s2, s3, s4, order, best, hS, fun _ _ => rfl, ?_⟩
    rw [f_X2_hangOn_70, if_pos (nI_le (Nat.le_refl _) (by omega))]
  | succ e ih =>
    intro j fu o s1 s2 s3 s4 order best hj hf hor hS
    obtain ⟨f, rfl⟩ : ∃ f, fu = f + 1 := ⟨fu - 1, by omega⟩
    have hjn : j < n := by omega
    have htop := hg_top hk hσ hjn
    have hmono : (hg_cd n σ k * n + j) * n ^ (n - (k + 1)) ≤ (hg_cd n σ k * n + (j + 1)) * n ^ (n - (k + 1)) := Nat.mul_le_mul_right _ (by omega)
    have hadd : hg_cd n σ k * n + (j + 1) = hg_cd n σ k * n + j + 1 := rfl
    rw [f_X2_hangOn_70, if_neg (nI_ge hjn (by omega)), bit_ask th (show n ≤ 9 by omega) hjn]
    by_cases q : th j = true
    · rw [if_pos (show nI (if th j = true then 0 else 1) = 0 by rw [if_pos q]; rfl)]
      obtain ⟨z, e1, z1⟩ := cl_first th (show n ≤ 9 by omega) ht ha hjn
      rw [e1, Option.bind_some]
      by_cases z0 : z = 0
      · rw [if_pos z0]
        unfold f_X2_hangOn_139
        rw [nI_1]
        obtain ⟨i, i1, i2, i3⟩ := z1 z0
        refine ih (j + 1) f o s1 s2 s3 s4 order best (by omega) (by omega) hor (hg_jump hS hmono (fun x x1 x2 hPx m hm hr => ?_))
        rw [hadd] at x2
        have ui : ∀ p, p < k → σ p ≠ i := fun p hp e2 => by
          have := (hus i (by omega)).mpr ⟨p, hp, e2⟩
          rw [i2] at this
          exact absurd this (by decide)
        have uj : ∀ p, p < k → σ p ≠ j := fun p hp e2 => by
          have := (hus j hjn).mpr ⟨p, hp, e2⟩
          rw [q] at this
          exact absurd this (by decide)
        obtain ⟨x', y1, y2, y3⟩ := hg_twin (dp := dp) hk hσ i1 hjn ui uj i3 (Nat.lt_of_lt_of_le x2 htop) x1 x2 hPx
        refine hS.1 x' y1 y2 m hm ?_
        unfold hg_r at hr ⊢
        rw [y3]
        exact hr
      · rw [if_neg z0, if_neg (nI_in (show k < 6 by omega) (by omega)), cl_leakOf (show n ≤ 9 by omega) ht ha hjn, Option.bind_some, nI_clamp (by omega)]
        obtain ⟨o1, a1, a2, a3, a4, order1, best1, hS1, r1, e2⟩ := hrc j o s1 s2 s3 s4 (upd order k (nI j)) best hjn q pk_us (fun p hp => by rw [pk_un (by omega)]; exact hor p hp) hS
        rw [e2, Option.bind_some]
        unfold f_X2_hangOn_139
        rw [nI_1]
        have r2 : ∀ p, p < k → order1 p = order p := fun p hp => by rw [r1 p hp, pk_un (by omega)]
        obtain ⟨o', b1, b2, b3, b4, order', best', hS', r3, e3⟩ := ih (j + 1) f o1 a1 a2 a3 a4 order1 best1 (by omega) (by omega) (fun p hp => by rw [r2 p hp]; exact hor p hp) hS1
        exact ⟨o', b1, b2, b3, b4, order', best', hS', fun p hp => by rw [r3 p hp, r2 p hp], e3⟩
    · rw [if_neg (show ¬ nI (if th j = true then 0 else 1) = 0 by rw [if_neg q]; decide)]
      unfold f_X2_hangOn_139
      rw [nI_1]
      have qf : th j = false := by simpa using q
      obtain ⟨p0, p1, p2⟩ := (hus j hjn).mp qf
      refine ih (j + 1) f o s1 s2 s3 s4 order best (by omega) (by omega) hor (hg_jump hS hmono (fun x x1 x2 hPx => ?_))
      rw [hadd] at x2
      exact absurd hPx (hg_dup hk hσ hjn (Nat.lt_of_lt_of_le x2 htop) x1 x2 p1 p2)
theorem cl_hangOn {n t dp : Nat} {wt : Nat → Nat} {a : AS} (h6 : n ≤ 6) (hw : wOK n dp wt) (ha : aOK n dp a) (ht : t < n) (hth : ∀ d, a.2.2 d = true → 1 ≤ wt d) : ∀ (e k d : Nat) (σ : Nat → Nat) (th : Nat → Bool) (o : Option Nat) (s1 : Int64) (s2 s3 s4 : Int32) (order best : Nat → Int32), k + e = n → e < d → (∀ p, p < k → σ p < n) → (∀ p q, p < k → q < k → σ p = σ q → p = q) → (∀ i, i < n → (th i = false ↔ ∃ p, p < k ∧ σ p = i)) → (∀ p, p < k → order p = nI (σ p)) → hg_S n t dp wt a (hg_cd n σ k * n ^ (n - k)) o best →
    ∃ o' s1' s2' s3' s4' order' best', hg_S n t dp wt a ((hg_cd n σ k + 1) * n ^ (n - k)) o' best' ∧ (∀ p, p < k → order' p = order p) ∧ f_X2_hangOn d (hg_W dp a) (nI (hg_bd o) - 1) (hg_b o) (nI n) (nI dp) (nI t) (v9 a.2.1) (v9 wt) s1 s2 s3 s4 order best (nI k) (nI (sbit n th)) (hg_L n t k a σ) = some (nI (hg_bd o') - 1, hg_b o', s1', s2', s3', s4', order', best') := by
  intro e
  induction e with
  | zero =>
    intro k d σ th o s1 s2 s3 s4 order best hk hd hσ hinj hus hor hS
    obtain ⟨d, rfl⟩ : ∃ f, d = f + 1 := ⟨d - 1, by omega⟩
    obtain rfl : k = n := by omega
    rw [f_X2_hangOn]
    unfold g_X2_hangOn
    by_cases hz : hg_bd o = 0
    · refine ⟨o, s1, s2, s3, s4, order, best, hg_jump hS (Nat.mul_le_mul_right _ (by omega)) (fun x _ _ _ m hm => absurd hm (by omega)), fun _ _ => rfl, ?_⟩
      rw [hz, if_neg (show ¬ (0 : Int32) ≤ nI 0 - 1 by decide)]
    · have h9 := hg_bd9 hS
      have hge : (0 : Int32) ≤ nI (hg_bd o) - 1 := by
        obtain ⟨b, hb⟩ : ∃ b, hg_bd o = b + 1 := ⟨hg_bd o - 1, by omega⟩
        rw [hb, nI_p1]
        exact nI_pos' (by omega)
      rw [if_pos hge, if_pos (nI_le (Nat.le_refl _) (by omega))]
      rw [Nat.sub_self, Nat.pow_zero, Nat.mul_one] at hS
      rw [Nat.sub_self, Nat.pow_zero, Nat.mul_one]
      obtain ⟨o', a1, a2, a3, a4, best', hS', e'⟩ := cl_hang_leaf h6 hw ha hth ⟨hσ, hinj⟩ hor hS (f_X2_hangOn d)
      exact ⟨o', a1, a2, a3, a4, order, best', hS', fun _ _ => rfl, e'⟩
  | succ e ih =>
    intro k d σ th o s1 s2 s3 s4 order best hk hd hσ hinj hus hor hS
    obtain ⟨d, rfl⟩ : ∃ f, d = f + 1 := ⟨d - 1, by omega⟩
    have hkn : k < n := by omega
    rw [f_X2_hangOn]
    unfold g_X2_hangOn
    by_cases hz : hg_bd o = 0
    · refine ⟨o, s1, s2, s3, s4, order, best, hg_jump hS (Nat.mul_le_mul_right _ (by omega)) (fun x _ _ _ m hm => absurd hm (by omega)), fun _ _ => rfl, ?_⟩
      rw [hz, if_neg (show ¬ (0 : Int32) ≤ nI 0 - 1 by decide)]
    · have h9 := hg_bd9 hS
      have hge : (0 : Int32) ≤ nI (hg_bd o) - 1 := by
        obtain ⟨b, hb⟩ : ∃ b, hg_bd o = b + 1 := ⟨hg_bd o - 1, by omega⟩
        rw [hb, nI_p1]
        exact nI_pos' (by omega)
      rw [if_pos hge, if_neg (nI_ge hkn (by omega)), if_pos (show nI k < 6 from nI_lt (b := 6) (by omega) (by decide))]
      rw [hg_pk _ hkn] at hS
      rw [hg_pk _ hkn, Nat.add_mul, Nat.one_mul]
      have hlf : ∀ p, hg_lk n t a (σ p) < 16 := fun p => by have := hg_lk9 (t := t) ha (σ p); omega
      refine cl_hang_loop h6 ha ht hkn hσ hus (f_X2_hangOn d) ?_ n 0 fuel o s1 s2 s3 s4 order best (by omega) (fuel_big (by omega)) hor hS
      intro j o s1 s2 s3 s4 order best hjn hj hok hor hS
      have hl9 := hg_lk9 (t := t) ha j
      have uj : ∀ p, p < k → σ p ≠ j := fun p hp e2 => by
        have := (hus j hjn).mpr ⟨p, hp, e2⟩
        rw [hj] at this
        exact absurd this (by decide)
      have hτ : ∃ τ : Nat → Nat, τ k = j ∧ ∀ p, p < k → τ p = σ p := ⟨fun p => if p = k then j else σ p, if_pos rfl, fun p hp => if_neg (by omega)⟩
      obtain ⟨τ, t1, t2⟩ := hτ
      have hcd : hg_cd n τ (k + 1) = hg_cd n σ k * n + j := by rw [hg_cd_s, t1, hg_cd_congr k t2]
      have hL : hg_L n t k a σ ||| ((nI (hg_lk n t a j)).toInt64 <<< (((5 : Int32) * nI k).toInt64 &&& 63)) = hg_L n t (k + 1) a τ := by
        unfold hg_L
        rw [hg_lor (f := fun p => hg_lk n t a (σ p)) (by omega) (by omega) hlf]
        refine v9_congr (fun p _ => ?_)
        show (if p < k then hg_lk n t a (σ p) else if p = k then hg_lk n t a j else 0) = if p < k + 1 then hg_lk n t a (τ p) else 0
        by_cases q1 : p < k
        · rw [if_pos q1, if_pos (by omega), t2 p q1]
        · rw [if_neg q1]
          by_cases q2 : p = k
          · rw [if_pos q2, if_pos (by omega), q2, t1]
          · rw [if_neg q2, if_neg (by omega)]
      have hr := ih (k + 1) d τ (thset th j false) o s1 s2 s3 s4 order best (by omega) (by omega) (fun p hp => by
        by_cases q : p = k
        · rw [q, t1]; exact hjn
        · rw [t2 p (by omega)]; exact hσ p (by omega)) (fun p q hp hq e2 => by
        by_cases q1 : p = k
        · by_cases q2 : q = k
          · omega
          · rw [q1, t1, t2 q (by omega)] at e2
            exact absurd e2.symm (uj q (by omega))
        · by_cases q2 : q = k
          · rw [q2, t1, t2 p (by omega)] at e2
            exact absurd e2 (uj p (by omega))
          · rw [t2 p (by omega), t2 q (by omega)] at e2
            exact hinj p q (by omega) (by omega) e2) (fun i hi => by
        unfold thset
        by_cases q : i = j
        · rw [if_pos q]
          exact ⟨fun _ => ⟨k, by omega, by rw [t1, q]⟩, fun _ => rfl⟩
        · rw [if_neg q, hus i hi]
          constructor
          · rintro ⟨p, p1, p2⟩; exact ⟨p, by omega, by rw [t2 p p1]; exact p2⟩
          · rintro ⟨p, p1, p2⟩
            have q2 : p ≠ k := fun q3 => q (by rw [← p2, q3, t1])
            exact ⟨p, by omega, by rw [← t2 p (by omega)]; exact p2⟩) (fun p hp => by
        by_cases q : p = k
        · rw [q, t1]; exact hok
        · rw [t2 p (by omega)]; exact hor p (by omega)) (by rw [hcd]; exact hS)
      obtain ⟨o', a1, a2, a3, a4, order', best', hS', r', e'⟩ := hr
      rw [hcd] at hS'
      refine ⟨o', a1, a2, a3, a4, order', best', hS', fun p hp => r' p (by omega), ?_⟩
      rw [nI_1, bit_set th hjn (by omega), hL]
      exact e'
theorem cl_hlook {n t dp : Nat} {wt : Nat → Nat} {a : AS} (h6 : n ≤ 6) (hw : wOK n dp wt) (ha : aOK n dp a) (ht : t < n) (hth : ∀ d, a.2.2 d = true → 1 ≤ wt d) (s1 : Int64) (s2 s3 s4 : Int32) (order best : Nat → Int32) : ∃ o' s1' s2' s3' s4' order' best', hg_S n t dp wt a (n ^ n) o' best' ∧ f_X2_look (nI n) (nI dp) (nI t) (w9 a.1 a.2.2) (v9 a.2.1) (v9 wt) s1 s2 s3 s4 order best = some (hg_W dp a, nI (hg_bd o') - 1, hg_b o', s1', s2', s3', s4', order', best') := by
  have hd9 := hw.2.2.2.1
  have eW : (w9 a.1 a.2.2 &&& 18159675916816) ||| (nI dp).toInt64 = hg_W dp a := by
    unfold hg_W
    rw [v9_th (lt16 hd9 ha.1), nI_l (by omega), show lN dp = lN (dp * 32 ^ 0) by rw [Nat.pow_zero, Nat.mul_one], v9_one 0 dp (by omega), v9_join (fun p => by
      by_cases q : p = 0
      · rw [if_pos q]; omega
      · rw [if_neg q]; omega)]
  obtain ⟨o', a1, a2, a3, a4, order', best', hS, -, e⟩ := cl_hangOn h6 hw ha ht hth n 0 20 (fun _ => 0) (fun _ => true) none s1 s2 s3 s4 order best (by omega) (by omega) (fun p hp => absurd hp (Nat.not_lt_zero p)) (fun p q hp => absurd hp (Nat.not_lt_zero p)) (fun i _ => ⟨fun q => absurd q (by decide), fun ⟨p, hp, _⟩ => absurd hp (Nat.not_lt_zero p)⟩) (fun p hp => absurd hp (Nat.not_lt_zero p)) (by
      rw [show hg_cd n (fun _ => 0) 0 = 0 from rfl, Nat.zero_mul]
      exact hg_S0 n t dp wt a best)
  rw [show hg_cd n (fun _ => 0) 0 = 0 from rfl, Nat.zero_add, Nat.one_mul, Nat.sub_zero] at hS
  have eL : hg_L n t 0 a (fun _ => 0) = 0 := by
    unfold hg_L
    rw [v9_congr (v := fun _ => 0) (fun p _ => if_neg (Nat.not_lt_zero p))]
    decide
  have e0 : nI (sbit n (fun _ => true)) = 0 := by
    rw [show sbit n (fun _ => true) = 0 from (sbit_ext (fun i => by simp)).symm]
    rfl
  rw [eL, e0] at e
  refine ⟨o', a1, a2, a3, a4, order', best', hS, ?_⟩
  unfold f_X2_look
  rw [eW, show (8 : Int32) = nI (hg_bd none) - 1 by decide]
  have e1 : f_X2_hangOn 20 (hg_W dp a) (nI (hg_bd none) - 1) (-6) (nI n) (nI dp) (nI t) (v9 a.2.1) (v9 wt) s1 s2 s3 s4 order best 0 0 0 = some (nI (hg_bd o') - 1, hg_b o', a1, a2, a3, a4, order', best') := e
  rw [e1, Option.bind_some]
