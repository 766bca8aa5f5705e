/-- the keeps of a search, as it goes on from a state -/
def FR (n dp : Nat) (wt : Nat → Nat) (c : Nat) (bh dr : Nat → Nat) (sv : Nat → Bool) (L k : Nat) (a : AS) (fd : Bool) (could row first could' row' first' : Nat → Int32) : Prop :=
  (∀ i, i < k → could' i = could i) ∧ (∀ i, i < L → could' (k + i) = could (k + i) ||| nI (sb3 (cd n dp wt c bh dr sv L k a i))) ∧ (∀ i, i < k → row' i = row i) ∧ ((fd = true ∨ ct n dp wt c bh dr sv L k a = 0) → first' = first) ∧ (fd = false → 0 < ct n dp wt c bh dr sv L k a → (∀ i, i < k → first' i = row i) ∧ ∀ i, i < L → first' (k + i) = mvI (fi n dp wt c bh dr sv L k a i))
theorem FR_zero {n dp : Nat} {wt : Nat → Nat} {c : Nat} {bh dr : Nat → Nat} {sv : Nat → Bool} {L k : Nat} {a : AS} {fd : Bool} {could row first : Nat → Int32} (h : ct n dp wt c bh dr sv L k a = 0) : FR n dp wt c bh dr sv L k a fd could row first could row first := by
  refine ⟨fun _ _ => rfl, fun i hi => ?_, fun _ _ => rfl, fun _ => rfl, fun _ q => by omega⟩
  rw [sb3_zero (fun j hj => cd_zero L k a i j hj h), or_z]
/-- one child -/
theorem cl_fit_step {n dp : Nat} {wt : Nat → Nat} {c : Nat} {bh dr : Nat → Nat} {sv : Nat → Bool} {L k m h : Nat} {a : AS} {nd nl br : Nat → Int64} (hw : wOK n dp wt) (ha : aOK n dp a) (hk : k + 1 + L = m) (hm : m ≤ 10) (hh : h < 3) (rc)
    (hrc : ∀ (a : AS) (fd : Bool) (could row first : Nat → Int32), aOK n dp a → ∃ could' row' first', rc (nI m) (z01 fd) (nI n) (nI dp) (v9 wt) nd br nl could row first (w9 a.1 a.2.2) (v9 a.2.1) (nI (k + 1)) = some (nI (ct n dp wt c bh dr sv L (k + 1) a), z01 (fd || decide (0 < ct n dp wt c bh dr sv L (k + 1) a)), could', row', first') ∧ FR n dp wt c bh dr sv L (k + 1) a fd could row first could' row' first')
    (f s : Nat) (fd : Bool) (could row first : Nat → Int32) : ∃ could' row' first', f_X0_fitting_114 rc (f + 1) (w9 a.1 a.2.2) (v9 a.2.1) (nI k) (nI s) (nI h) (nI m) (z01 fd) (nI n) (nI dp) (v9 wt) nd br nl could row first = f_X0_fitting_114 rc f (w9 a.1 a.2.2) (v9 a.2.1) (nI k) (nI (s + ct n dp wt c bh dr sv L (k + 1) (aP n dp wt h a))) (nI (h + 1)) (nI m) (z01 (fd || decide (0 < ct n dp wt c bh dr sv L (k + 1) (aP n dp wt h a)))) (nI n) (nI dp) (v9 wt) nd br nl could' row' first' ∧ (∀ i, i < k → could' i = could i) ∧ could' k = could k ||| nI (sb3 (fun j => decide (h = j) && decide (0 < ct n dp wt c bh dr sv L (k + 1) (aP n dp wt h a)))) ∧ (∀ i, i < L → could' (k + 1 + i) = could (k + 1 + i) ||| nI (sb3 (cd n dp wt c bh dr sv L (k + 1) (aP n dp wt h a) i))) ∧ (∀ i, i < k → row' i = row i) ∧ ((fd = true ∨ ct n dp wt c bh dr sv L (k + 1) (aP n dp wt h a) = 0) → first' = first) ∧ (fd = false → 0 < ct n dp wt c bh dr sv L (k + 1) (aP n dp wt h a) → (∀ i, i < k → first' i = row i) ∧ first' k = mvI h ∧ ∀ i, i < L → first' (k + 1 + i) = mvI (fi n dp wt c bh dr sv L (k + 1) (aP n dp wt h a) i)) := by
  obtain ⟨could', row', first', e1, p1, p2, p3, p4, p5⟩ := hrc (aP n dp wt h a) fd could (upd row k (mvI h)) first (aP_ok hw ha)
  have hle := ct_le (n := n) (dp := dp) (wt := wt) (c := c) (bh := bh) (dr := dr) (sv := sv) L (k + 1) (aP n dp wt h a)
  have hp3 : 3 ^ L ≤ 59049 := pow3_le (by omega)
  rw [f_X0_fitting_114, if_neg (show ¬ (3 : Int32) ≤ nI h from nI_ge (b := 3) (by omega) (by omega)), if_neg (nI_in (by omega) (by omega)), if_neg (nI_in (by omega) (by omega)), nI_clamp (n := h) (by omega), nI_clamp (n := k) (by omega), if_neg (gin (by omega) (by omega)), cl_leaks (wt := wt) hw ha, Option.bind_some, if_neg (gin (by omega) (by omega)), cl_wheel hw ha, Option.bind_some, cl_step hw ha, Option.bind_some, nI_1, e1, Option.bind_some]
  unfold f_X0_fitting_207
  rw [nI_add, nI_1]
  by_cases q : ct n dp wt c bh dr sv L (k + 1) (aP n dp wt h a) = 0
  · rw [if_pos (show nI (ct n dp wt c bh dr sv L (k + 1) (aP n dp wt h a)) ≤ 0 from nI_le (b := 0) (by omega) (by omega))]
    refine ⟨could', row', first', rfl, fun i hi => p1 i (by omega), ?_, p2, fun i hi => ?_, p4, fun _ q2 => by omega⟩
    · rw [p1 k (by omega), sb3_zero (fun j _ => by rw [q]; simp), or_z]
    · rw [p3 i (by omega), up_n (by omega)]
  · rw [if_neg (show ¬ nI (ct n dp wt c bh dr sv L (k + 1) (aP n dp wt h a)) ≤ 0 from nI_ge (a := 0) (by omega) (by omega)), if_neg (gin (by omega) (by omega)), if_neg (gin (by omega) (by omega))]
    refine ⟨_, row', first', rfl, fun i hi => ?_, ?_, fun i hi => ?_, fun i hi => ?_, p4, fun q1 q2 => ?_⟩
    · rw [up_n (by omega)]; exact p1 i (by omega)
    · rw [up_s]
      dsimp only
      rw [p1 k (by omega), shl1 (by omega), ← sb3_bit hh]
      congr 2
      exact sb3_cong (fun j _ => by rw [decide_eq_true (show 0 < ct n dp wt c bh dr sv L (k + 1) (aP n dp wt h a) by omega), Bool.and_true])
    · rw [up_n (by omega)]; exact p2 i hi
    · rw [p3 i (by omega), up_n (by omega)]
    · obtain ⟨g1, g2⟩ := p5 q1 q2
      exact ⟨fun i hi => by rw [g1 i (by omega), up_n (by omega)], by rw [g1 k (by omega), up_s], g2⟩
theorem cl_fitting {n dp : Nat} {wt : Nat → Nat} {c m : Nat} {bh dr : Nat → Nat} {sv : Nat → Bool} {nd nl br : Nat → Int64} (hw : wOK n dp wt) (hm : m ≤ 10) (hdr : ∀ i, i < c → dr i < n ∧ bh i ≤ 10) (hT : ∀ k, k ≤ 11 → nd k = mask (NdF m bh dr sv true c k) ∧ nl k = mask (NLe (NdF m bh dr sv true c) (11 - k)) ∧ br k = mask (Bre (NdF m bh dr sv false c) (11 - k))) :
    ∀ (d L k : Nat) (a : AS) (fd : Bool) (could row first : Nat → Int32), L < d → k + L = m → aOK n dp a → ∃ could' row' first', f_X0_fitting d (nI m) (z01 fd) (nI n) (nI dp) (v9 wt) nd br nl could row first (w9 a.1 a.2.2) (v9 a.2.1) (nI k) = some (nI (ct n dp wt c bh dr sv L k a), z01 (fd || decide (0 < ct n dp wt c bh dr sv L k a)), could', row', first') ∧ FR n dp wt c bh dr sv L k a fd could row first could' row' first' := by
  have h9 := hw.2.1
  intro d
  induction d with
  | zero => intro L k a fd could row first h; exact absurd h (Nat.not_lt_zero L)
  | succ d ih =>
    intro L k a fd could row first hL hk ha
    show ∃ could' row' first', g_X0_fitting (f_X0_fitting d) (nI m) (z01 fd) (nI n) (nI dp) (v9 wt) nd br nl could row first (w9 a.1 a.2.2) (v9 a.2.1) (nI k) = _ ∧ _
    unfold g_X0_fitting
    have hl16 := lt16 hw.2.2.2.1 ha.1
    have i12 : ¬ (nI k < 0 ∨ 12 ≤ (nI k).toNatClampNeg) := nI_in (by omega) (by omega)
    have zero : ct n dp wt c bh dr sv L k a = 0 → ∃ could' row' first', some ((0 : Int32), z01 fd, could, row, first) = some (nI (ct n dp wt c bh dr sv L k a), z01 (fd || decide (0 < ct n dp wt c bh dr sv L k a)), could', row', first') ∧ FR n dp wt c bh dr sv L k a fd could row first could' row' first' := fun q => by
      refine ⟨could, row, first, ?_, FR_zero q⟩
      rw [q]
      simp
      rfl
    rw [if_neg (nI_pos (by omega)), if_neg (nI_nlt (by omega) (by omega)), if_pos (show nI k ≤ 10 from nI_le (b := 10) (by omega) (by omega)), if_neg i12, nI_clamp (n := k) (by omega), (hT k (by omega)).1, (hT k (by omega)).2.1, (hT k (by omega)).2.2]
    by_cases q1 : ∀ j, j < 9 → NdF m bh dr sv true c k j = true → a.2.2 j = false
    · rw [if_pos ((lg0 _ _).mpr ((w9_mask hl16).mpr q1)), if_neg (gin (by omega) (by omega))]
      by_cases q2 : ∀ j, j < 9 → Bre (NdF m bh dr sv false c) (11 - k) j = true → a.2.2 j = true
      · rw [if_pos ((lg0 _ _).mpr ((w9_bar hl16).mpr q2)), if_neg (gin (by omega) (by omega)), nI_1, nI_clamp (n := k + 1) (by omega), (hT (k + 1) (by omega)).2.2, if_neg (gin (show k + 1 < 12 by omega) (by omega))]
        have n1 : ∀ i, i < c → sv i = true → bh i = k → a.2.2 (dr i) = false := fun i hi hs hb => q1 (dr i) (by have := (hdr i hi).1; omega) ((NdF_iff c).mpr ⟨i, hi, hs, by omega, hb, rfl⟩)
        have n2 : ∀ i, i < c → sv i = false → k ≤ bh i → bh i ≤ m → a.2.2 (dr i) = true := fun i hi hs hb hb2 => q2 (dr i) (by have := (hdr i hi).1; omega) ((Bre_iff _ (by omega)).mpr ⟨bh i, by omega, by omega, (NdF_iff c).mpr ⟨i, hi, hs, by omega, rfl, rfl⟩⟩)
        have hf : fitAb bh dr sv k a c = true := (fitAb_iff c).mpr (fun i hi hb => by
          cases hs : sv i with
          | true => exact n1 i hi hs hb
          | false => exact n2 i hi hs (by omega) (by omega))
        by_cases q3 : (∀ j, j < 9 → NLe (NdF m bh dr sv true c) (11 - k) j = true → a.2.2 j = false) ∧ ∀ j, j < 9 → Bre (NdF m bh dr sv false c) (11 - (k + 1)) j = false
        · rw [if_pos ((lg0 _ _).mpr ((w9_mask hl16).mpr q3.1)), if_pos ((lg0 _ _).mpr (mask_eq0.mpr q3.2))]
          obtain ⟨c1, c2, c3⟩ := ct_all (n := n) (dp := dp) (wt := wt) (c := c) (bh := bh) (dr := dr) (sv := sv) L k a (fun i hi h1 h2 => by
            have hd9 : dr i < 9 := by have := (hdr i hi).1; omega
            have hb10 := (hdr i hi).2
            cases hs : sv i with
            | true =>
              refine Or.inl ⟨rfl, ?_⟩
              by_cases e : bh i = k
              · exact n1 i hi hs e
              · exact q3.1 (dr i) hd9 ((NLe_iff _ (by omega)).mpr ⟨bh i, by omega, by omega, (NdF_iff c).mpr ⟨i, hi, hs, by omega, rfl, rfl⟩⟩)
            | false =>
              refine Or.inr ⟨rfl, ?_, n2 i hi hs h1 (by omega)⟩
              rcases Nat.lt_or_ge k (bh i) with q | q
              · have := q3.2 (dr i) hd9
                rw [(Bre_iff _ (by omega)).mpr ⟨bh i, by omega, by omega, (NdF_iff c).mpr ⟨i, hi, hs, by omega, rfl, rfl⟩⟩] at this
                exact absurd this (by decide)
              · omega)
          obtain ⟨could', row', first', e1, p1, p2, p3⟩ := cl_allFrom hm (show k ≤ m by omega) fd could row first
          have hp := pow3_pos L
          refine ⟨could', row', first', ?_, fun i hi => (p1 i hi).1, fun i hi => ?_, fun i hi => (p1 i hi).2, fun q => ?_, fun q _ => ?_⟩
          · rw [e1, Option.bind_some, c1, show m - k = L by omega, decide_eq_true hp, Bool.or_true]
            rfl
          · rw [(p2 (k + i) (by omega) (by omega)).1, sb3_seven (fun j hj => c2 i j hi hj)]
            rfl
          · rcases q with q | q
            · rw [if_pos q] at p3; exact p3
            · omega
          · rw [if_neg (by rw [q]; decide)] at p3
            exact ⟨fun i hi => by rw [p3 i (by omega), (p1 i hi).2], fun i hi => by rw [p3 (k + i) (by omega), (p2 (k + i) (by omega) (by omega)).2, c3 i hi]; rfl⟩
        · -- the three children
          have hkm : k < m := by
            rcases Nat.lt_or_ge k m with q | q
            · exact q
            · refine absurd ⟨fun j _ hj => ?_, fun j _ => ?_⟩ q3
              · obtain ⟨k', g1, g2, g3⟩ := (NLe_iff _ (by omega)).mp hj
                obtain ⟨i, _, _, g4, g5, _⟩ := (NdF_iff c).mp g3
                omega
              · cases hB : Bre (NdF m bh dr sv false c) (11 - (k + 1)) j with
                | false => rfl
                | true =>
                  obtain ⟨k', g1, g2, g3⟩ := (Bre_iff _ (by omega)).mp hB
                  obtain ⟨i, _, _, g4, g5, _⟩ := (NdF_iff c).mp g3
                  omega
          obtain ⟨L, rfl⟩ : ∃ L', L = L' + 1 := ⟨L - 1, by omega⟩
          have hgo : ∀ X : Option (Int32 × Int32 × (Nat → Int32) × (Nat → Int32) × (Nat → Int32)), (if lg_cmp (w9 a.1 a.2.2 &&& mask (NLe (NdF m bh dr sv true c) (11 - k))) 0 = 0 then (if lg_cmp (mask (Bre (NdF m bh dr sv false c) (11 - (k + 1)))) 0 = 0 then X else f_X0_fitting_99 (f_X0_fitting d) (w9 a.1 a.2.2) (v9 a.2.1) (nI k) (nI m) (z01 fd) (nI n) (nI dp) (v9 wt) nd br nl could row first) else f_X0_fitting_99 (f_X0_fitting d) (w9 a.1 a.2.2) (v9 a.2.1) (nI k) (nI m) (z01 fd) (nI n) (nI dp) (v9 wt) nd br nl could row first) = f_X0_fitting_99 (f_X0_fitting d) (w9 a.1 a.2.2) (v9 a.2.1) (nI k) (nI m) (z01 fd) (nI n) (nI dp) (v9 wt) nd br nl could row first := by
            intro X
            by_cases g1 : lg_cmp (w9 a.1 a.2.2 &&& mask (NLe (NdF m bh dr sv true c) (11 - k))) 0 = 0
            · rw [if_pos g1]
              by_cases g2 : lg_cmp (mask (Bre (NdF m bh dr sv false c) (11 - (k + 1)))) 0 = 0
              · exact absurd ⟨(w9_mask hl16).mp ((lg0 _ _).mp g1), mask_eq0.mp ((lg0 _ _).mp g2)⟩ q3
              · rw [if_neg g2]
            · rw [if_neg g1]
          rw [hgo]
          unfold f_X0_fitting_99
          rw [if_pos (show nI k < 10 from nI_lt (b := 10) (by omega) (by omega))]
          have hrc : ∀ (a : AS) (fd : Bool) (could row first : Nat → Int32), aOK n dp a → _ := fun a fd could row first ha => ih L (k + 1) a fd could row first (by omega) (by omega) ha
          obtain ⟨f, hfu⟩ : ∃ f, fuel = f + 4 := ⟨fuel - 4, by rw [fuel_eq]⟩
          obtain ⟨co0, ro0, fi0, e0, a1, a2, a3, a4, a5, a6⟩ := cl_fit_step (h := 0) hw ha (show k + 1 + L = m by omega) hm (by omega) (f_X0_fitting d) hrc (f + 3) 0 fd could row first
          obtain ⟨co1, ro1, fi1, e1, b1, b2, b3, b4, b5, b6⟩ := cl_fit_step (h := 1) hw ha (show k + 1 + L = m by omega) hm (by omega) (f_X0_fitting d) hrc (f + 2) (0 + ct n dp wt c bh dr sv L (k + 1) (aP n dp wt 0 a)) (fd || decide (0 < ct n dp wt c bh dr sv L (k + 1) (aP n dp wt 0 a))) co0 ro0 fi0
          obtain ⟨co2, ro2, fi2, e2, d1, d2, d3, d4, d5, d6⟩ := cl_fit_step (h := 2) hw ha (show k + 1 + L = m by omega) hm (by omega) (f_X0_fitting d) hrc (f + 1) (0 + ct n dp wt c bh dr sv L (k + 1) (aP n dp wt 0 a) + ct n dp wt c bh dr sv L (k + 1) (aP n dp wt 1 a)) (fd || decide (0 < ct n dp wt c bh dr sv L (k + 1) (aP n dp wt 0 a)) || decide (0 < ct n dp wt c bh dr sv L (k + 1) (aP n dp wt 1 a))) co1 ro1 fi1
          have ef : f_X0_fitting_114 (f_X0_fitting d) fuel (w9 a.1 a.2.2) (v9 a.2.1) (nI k) 0 0 (nI m) (z01 fd) (nI n) (nI dp) (v9 wt) nd br nl could row first = f_X0_fitting_114 (f_X0_fitting d) (f + 3 + 1) (w9 a.1 a.2.2) (v9 a.2.1) (nI k) (nI 0) (nI 0) (nI m) (z01 fd) (nI n) (nI dp) (v9 wt) nd br nl could row first := by rw [hfu]; rfl
          have ect : ct n dp wt c bh dr sv (L + 1) k a = 0 + ct n dp wt c bh dr sv L (k + 1) (aP n dp wt 0 a) + ct n dp wt c bh dr sv L (k + 1) (aP n dp wt 1 a) + ct n dp wt c bh dr sv L (k + 1) (aP n dp wt 2 a) := by
            rw [ct, hf, if_pos rfl, Nat.zero_add]
          have ecd0 : ∀ j, j < 3 → cd n dp wt c bh dr sv (L + 1) k a 0 j = decide (0 < ct n dp wt c bh dr sv L (k + 1) (aP n dp wt j a)) := fun j _ => by
            rw [cd, hf, Bool.true_and]
          have ecds : ∀ i j, cd n dp wt c bh dr sv (L + 1) k a (i + 1) j = (cd n dp wt c bh dr sv L (k + 1) (aP n dp wt 0 a) i j || cd n dp wt c bh dr sv L (k + 1) (aP n dp wt 1 a) i j || cd n dp wt c bh dr sv L (k + 1) (aP n dp wt 2 a) i j) := fun i j => by
            rw [cd, hf, Bool.true_and]
          refine ⟨co2, ro2, fi2, ?_, fun i hi => ?_, fun i hi => ?_, fun i hi => ?_, fun q => ?_, fun q q' => ?_⟩
          · rw [ef, e0, show f + 3 = f + 2 + 1 by omega, e1, show f + 2 = f + 1 + 1 by omega, e2, f_X0_fitting_114, if_pos (show (3 : Int32) ≤ nI (2 + 1) by decide), ect]
            congr 3
            generalize ct n dp wt c bh dr sv L (k + 1) (aP n dp wt 0 a) = x0
            generalize ct n dp wt c bh dr sv L (k + 1) (aP n dp wt 1 a) = x1
            generalize ct n dp wt c bh dr sv L (k + 1) (aP n dp wt 2 a) = x2
            congr 1
            cases fd
            · by_cases z0 : 0 < x0
              · rw [decide_eq_true z0, decide_eq_true (show 0 < 0 + x0 + x1 + x2 by omega)]; simp
              · by_cases z1 : 0 < x1
                · rw [decide_eq_true z1, decide_eq_true (show 0 < 0 + x0 + x1 + x2 by omega)]; simp
                · rw [decide_eq_false z0, decide_eq_false z1, show 0 + x0 + x1 + x2 = x2 by omega]; simp
            · simp
          · rw [d1 i hi, b1 i hi, a1 i hi]
          · cases i with
            | zero =>
              rw [Nat.add_zero, d2, b2, a2, or_as, or_as, sb3_or, sb3_or]
              congr 2
              apply sb3_cong
              intro j hj
              rw [ecd0 j hj]
              have h3 : j = 0 ∨ j = 1 ∨ j = 2 := by omega
              rcases h3 with rfl | rfl | rfl <;> simp
            | succ i =>
              rw [show k + (i + 1) = k + 1 + i by omega, d3 i (by omega), b3 i (by omega), a3 i (by omega), or_as, or_as, sb3_or, sb3_or]
              congr 2
              apply sb3_cong
              intro j hj
              rw [ecds i j, Bool.or_assoc]
          · rw [d4 i hi, b4 i hi, a4 i hi]
          · rw [d5 ?_, b5 ?_, a5 ?_]
            · rcases q with q | q
              · exact Or.inl q
              · right; omega
            · rcases q with q | q
              · left; rw [q]; rfl
              · right; omega
            · rcases q with q | q
              · left; rw [q]; rfl
              · right; omega
          · subst q
            have row1 : ∀ i, i < k → ro0 i = row i := a4
            have row2 : ∀ i, i < k → ro1 i = row i := fun i hi => by rw [b4 i hi, a4 i hi]
            rw [ect] at q'
            by_cases z0 : 0 < ct n dp wt c bh dr sv L (k + 1) (aP n dp wt 0 a)
            · have hl : lh (fun h => ct n dp wt c bh dr sv L (k + 1) (aP n dp wt h a)) = 0 := by unfold lh; exact if_pos z0
              rw [d5 (Or.inl (by rw [decide_eq_true z0]; rfl)), b5 (Or.inl (by rw [decide_eq_true z0]; rfl))]
              obtain ⟨g1, g2, g3⟩ := a6 rfl z0
              refine ⟨g1, fun i hi => ?_⟩
              cases i with
              | zero => rw [Nat.add_zero, g2, fi, hl]
              | succ i => rw [show k + (i + 1) = k + 1 + i by omega, g3 i (by omega), fi, hl]
            · by_cases z1 : 0 < ct n dp wt c bh dr sv L (k + 1) (aP n dp wt 1 a)
              · have hl : lh (fun h => ct n dp wt c bh dr sv L (k + 1) (aP n dp wt h a)) = 1 := by unfold lh; rw [if_neg z0, if_pos z1]
                rw [d5 (Or.inl (by rw [decide_eq_true z1]; simp))]
                obtain ⟨g1, g2, g3⟩ := b6 (by rw [decide_eq_false z0]; rfl) z1
                refine ⟨fun i hi => by rw [g1 i hi, row1 i hi], fun i hi => ?_⟩
                cases i with
                | zero => rw [Nat.add_zero, g2, fi, hl]
                | succ i => rw [show k + (i + 1) = k + 1 + i by omega, g3 i (by omega), fi, hl]
              · have hl : lh (fun h => ct n dp wt c bh dr sv L (k + 1) (aP n dp wt h a)) = 2 := by unfold lh; rw [if_neg z0, if_neg z1]
                obtain ⟨g1, g2, g3⟩ := d6 (by rw [decide_eq_false z0, decide_eq_false z1]; rfl) (by omega)
                refine ⟨fun i hi => by rw [g1 i hi, row2 i hi], fun i hi => ?_⟩
                cases i with
                | zero => rw [Nat.add_zero, g2, fi, hl]
                | succ i => rw [show k + (i + 1) = k + 1 + i by omega, g3 i (by omega), fi, hl]
      · rw [if_neg (fun q => q2 ((w9_bar hl16).mp ((lg0 _ _).mp q)))]
        refine zero ?_
        obtain ⟨j, q2⟩ := Classical.not_forall.mp q2
        obtain ⟨j9, q2⟩ := Classical.not_imp.mp q2
        obtain ⟨jb, q2⟩ := Classical.not_imp.mp q2
        obtain ⟨k', g1, g2, g3⟩ := (Bre_iff _ (by omega)).mp jb
        obtain ⟨i, hi, hs, g4, g5, rfl⟩ := (NdF_iff c).mp g3
        exact ct_barred hi hs L k a (by omega) (by omega) (by simpa using q2)
    · rw [if_neg (fun q => q1 ((w9_mask hl16).mp ((lg0 _ _).mp q)))]
      refine zero (ct_no ?_)
      obtain ⟨j, q1⟩ := Classical.not_forall.mp q1
      obtain ⟨j9, q1⟩ := Classical.not_imp.mp q1
      obtain ⟨jb, q1⟩ := Classical.not_imp.mp q1
      obtain ⟨i, hi, hs, g4, g5, rfl⟩ := (NdF_iff c).mp jb
      cases hf : fitAb bh dr sv k a c with
      | false => rfl
      | true =>
        have := (fitAb_iff c).mp hf i hi g5
        rw [hs] at this
        exact absurd this q1
