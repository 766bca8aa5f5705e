theorem cl_read_37 {n m c : Nat} {bh dr : Nat → Nat} {sv : Nat → Bool} {b d s : Nat → Int32} (h9 : n ≤ 9) (hm : m ≤ 10) (hc : c ≤ 6) (hS : ∀ i, i < c → b i = nI (bh i) ∧ bh i ≤ 10 ∧ d i = nI (dr i) ∧ dr i < n ∧ s i = z01 (sv i)) : ∀ (e i fu : Nat) (nd nl br : Nat → Int64), i + e = c → e < fu → (∀ k, k ≤ 11 → nd k = mask (NdF m bh dr sv true i k) ∧ br k = mask (NdF m bh dr sv false i k) ∧ nl k = 0) → ∃ nd' nl' br', f_X0_read_37 fu (nI i) (nI m) (nI c) nd nl br b s d = some (nd', nl', br') ∧ ∀ k, k ≤ 11 → nd' k = mask (NdF m bh dr sv true c k) ∧ nl' k = mask (NLe (NdF m bh dr sv true c) (11 - k)) ∧ br' k = mask (Bre (NdF m bh dr sv false c) (11 - k)) := by
  intro e
  induction e with
  | zero =>
    intro i fu nd nl br hi hf hh
    obtain ⟨f, rfl⟩ : ∃ f, fu = f + 1 := ⟨fu - 1, by omega⟩
    obtain rfl : i = c := by omega
    rw [f_X0_read_37, if_pos (nI_le (by omega) (by omega))]
    unfold f_X0_read_130
    obtain ⟨nl', br', e1, e2⟩ := cl_read_133 (N := NdF m bh dr sv true i) (B := NdF m bh dr sv false i) (nd := nd) (fun k hk => (hh k hk).1) 11 fuel nl br (by omega) (fuel_big (by omega)) (fun k h1 h2 => by
      obtain rfl : k = 11 := by omega
      exact ⟨by rw [(hh 11 (by omega)).2.2]; exact mask_0.symm, (hh 11 (by omega)).2.1⟩) (fun k hk => (hh k (by omega)).2.1)
    exact ⟨nd, nl', br', e1, fun k hk => ⟨(hh k hk).1, (e2 k hk).1, (e2 k hk).2⟩⟩
  | succ e ih =>
    intro i fu nd nl br hi hf hh
    obtain ⟨f, rfl⟩ : ∃ f, fu = f + 1 := ⟨fu - 1, by omega⟩
    obtain ⟨s1, s2, s3, s4, s5⟩ := hS i (by omega)
    have i6 : ¬ (nI i < 0 ∨ 6 ≤ (nI i).toNatClampNeg) := nI_in (by omega) (by omega)
    have i12 : ¬ (nI (bh i) < 0 ∨ 12 ≤ (nI (bh i)).toNatClampNeg) := nI_in (by omega) (by omega)
    have hcl : (nI (bh i)).toNatClampNeg = bh i := nI_clamp (by omega)
    rw [f_X0_read_37, if_neg (nI_ge (by omega) (by omega)), if_neg (show ¬ (6 : Int32) ≤ nI i from nI_ge (b := 6) (by omega) (by omega)), if_neg i6, nI_clamp (n := i) (by omega), s1, s3, s5, if_neg (nI_pos (by omega))]
    unfold f_X0_read_124
    rw [nI_1]
    by_cases q : m < bh i
    · rw [if_pos (nI_lt q (by omega))]
      refine ih (i + 1) f nd nl br (by omega) (by omega) (fun k hk => ⟨?_, ?_, (hh k hk).2.2⟩)
      · rw [(hh k hk).1]
        exact mask_congr (fun j => by rw [NdF, decide_eq_false (show ¬ bh i ≤ m by omega)]; simp)
      · rw [(hh k hk).2.1]
        exact mask_congr (fun j => by rw [NdF, decide_eq_false (show ¬ bh i ≤ m by omega)]; simp)
    · rw [if_neg (nI_nlt (by omega) (by omega)), if_neg (show ¬ (10 : Int32) < nI (bh i) from nI_nlt (a := 10) (by omega) (by omega)), if_neg (gin (by omega) (by omega)), mask_fl (by omega)]
      simp only [Option.bind_some]
      rw [if_neg i12, if_neg (gin (by omega) (by omega)), if_neg i12, if_neg i12, if_neg (gin (by omega) (by omega)), if_neg i12, hcl]
      cases hs : sv i with
      | false =>
        rw [if_pos (show z01 false = 0 from rfl), (hh (bh i) (by omega)).2.1, mask_or]
        refine ih (i + 1) f _ _ _ (by omega) (by omega) (fun k hk => ⟨?_, ?_, (hh k hk).2.2⟩)
        · rw [(hh k hk).1]
          exact mask_congr (fun j => by rw [NdF, hs]; simp)
        · by_cases e : k = bh i
          · subst e
            rw [pk_uLs]
            exact mask_congr (fun j => by rw [NdF, hs, decide_eq_true (show bh i ≤ m by omega)]; simp)
          · rw [pk_uLn e, (hh k hk).2.1]
            exact mask_congr (fun j => by rw [NdF, decide_eq_false (show ¬ bh i = k from fun q => e q.symm)]; simp)
      | true =>
        rw [if_neg (show ¬ z01 true = 0 by decide), (hh (bh i) (by omega)).1, mask_or]
        refine ih (i + 1) f _ _ _ (by omega) (by omega) (fun k hk => ⟨?_, ?_, (hh k hk).2.2⟩)
        · by_cases e : k = bh i
          · subst e
            rw [pk_uLs]
            exact mask_congr (fun j => by rw [NdF, hs, decide_eq_true (show bh i ≤ m by omega)]; simp)
          · rw [pk_uLn e, (hh k hk).1]
            exact mask_congr (fun j => by rw [NdF, decide_eq_false (show ¬ bh i = k from fun q => e q.symm)]; simp)
        · rw [(hh k hk).2.1]
          exact mask_congr (fun j => by rw [NdF, hs]; simp)
theorem cl_read {n m c : Nat} {bh dr : Nat → Nat} {sv : Nat → Bool} {b d s : Nat → Int32} (h9 : n ≤ 9) (hm : m ≤ 10) (hc : c ≤ 6) (hS : ∀ i, i < c → b i = nI (bh i) ∧ bh i ≤ 10 ∧ d i = nI (dr i) ∧ dr i < n ∧ s i = z01 (sv i)) (nd nl br : Nat → Int64) : ∃ nd' nl' br', f_X0_read (nI m) (nI c) nd nl br b s d = some (nd', nl', br') ∧ ∀ k, k ≤ 11 → nd' k = mask (NdF m bh dr sv true c k) ∧ nl' k = mask (NLe (NdF m bh dr sv true c) (11 - k)) ∧ br' k = mask (Bre (NdF m bh dr sv false c) (11 - k)) := by
  have key : ∀ (e i fu : Nat) (nd nl br : Nat → Int64), i + e = 12 → e < fu → (∀ k, k < i → nd k = 0 ∧ nl k = 0 ∧ br k = 0) → ∃ nd' nl' br', f_X0_read_2 fu (nI i) (nI m) (nI c) nd nl br b s d = some (nd', nl', br') ∧ ∀ k, k ≤ 11 → nd' k = mask (NdF m bh dr sv true c k) ∧ nl' k = mask (NLe (NdF m bh dr sv true c) (11 - k)) ∧ br' k = mask (Bre (NdF m bh dr sv false c) (11 - k)) := by
    intro e
    induction e with
    | zero =>
      intro i fu nd nl br hi hf hh
      obtain ⟨f, rfl⟩ : ∃ f, fu = f + 1 := ⟨fu - 1, by omega⟩
      rw [f_X0_read_2, if_pos (show (12 : Int32) ≤ nI i from nI_le (a := 12) (by omega) (by omega))]
      refine cl_read_37 h9 hm hc hS c 0 fuel nd nl br (by omega) (fuel_big (by omega)) (fun k hk => ?_)
      obtain ⟨z1, z2, z3⟩ := hh k (by omega)
      rw [z1, z2, z3]
      exact ⟨mask_0.symm, mask_0.symm, rfl⟩
    | succ e ih =>
      intro i fu nd nl br hi hf hh
      obtain ⟨f, rfl⟩ : ∃ f, fu = f + 1 := ⟨fu - 1, by omega⟩
      have i12 : ¬ (nI i < 0 ∨ 12 ≤ (nI i).toNatClampNeg) := nI_in (by omega) (by omega)
      rw [f_X0_read_2, if_neg (show ¬ (12 : Int32) ≤ nI i from nI_ge (b := 12) (by omega) (by omega)), if_neg i12, if_neg i12, if_neg i12, nI_clamp (by omega), nI_1]
      exact ih (i + 1) f _ _ _ (by omega) (by omega) (fun k hk => by
        by_cases e : k = i
        · subst e; rw [pk_uLs, pk_uLs, pk_uLs]; exact ⟨rfl, rfl, rfl⟩
        · rw [pk_uLn e, pk_uLn e, pk_uLn e]; exact hh k (by omega))
  exact key 12 0 fuel nd nl br (by omega) (fuel_big (by omega)) (fun k hk => absurd hk (Nat.not_lt_zero k))
theorem cl_allFrom {m k : Nat} (hm : m ≤ 10) (hk : k ≤ m) (fd : Bool) (could row first : Nat → Int32) : ∃ could' row' first', f_X0_allFrom (nI m) (z01 fd) could row first (nI k) = some (nI (3 ^ (m - k)), 1, could', row', first') ∧ (∀ i, i < k → could' i = could i ∧ row' i = row i) ∧ (∀ i, k ≤ i → i < m → could' i = could i ||| 7 ∧ row' i = 43) ∧ (if fd = true then first' = first else ∀ i, i < 10 → first' i = row' i) := by
  have key : ∀ (e i fu : Nat) (co ro : Nat → Int32), i + e = m → e < fu → k ≤ i → (∀ j, j < k → co j = could j ∧ ro j = row j) → (∀ j, k ≤ j → j < i → co j = could j ||| 7 ∧ ro j = 43) → (∀ j, i ≤ j → co j = could j) → ∃ could' row' first', f_X0_allFrom_4 fu (nI (3 ^ (i - k))) (nI i) (nI m) (z01 fd) co ro first = some (nI (3 ^ (m - k)), 1, could', row', first') ∧ (∀ i, i < k → could' i = could i ∧ row' i = row i) ∧ (∀ i, k ≤ i → i < m → could' i = could i ||| 7 ∧ row' i = 43) ∧ (if fd = true then first' = first else ∀ i, i < 10 → first' i = row' i) := by
    intro e
    induction e with
    | zero =>
      intro i fu co ro hi hf hki h1 h2 h3
      obtain ⟨f, rfl⟩ : ∃ f, fu = f + 1 := ⟨fu - 1, by omega⟩
      obtain rfl : i = m := by omega
      rw [f_X0_allFrom_4, if_pos (nI_le (by omega) (by omega))]
      unfold f_X0_allFrom_47
      cases fd with
      | false =>
        rw [if_pos (show z01 false = 0 from rfl)]
        refine ⟨_, _, _, rfl, h1, h2, ?_⟩
        rw [if_neg (by decide)]
        intro j hj
        rw [show ((0 : Int32)).toNatClampNeg = 0 from nI_clamp (n := 0) (by omega), show ((10 : Int32)).toNatClampNeg = 10 from nI_clamp (n := 10) (by omega), pk_cpy_in (by omega) (by omega), Nat.sub_zero, Nat.zero_add]
      | true =>
        rw [if_neg (show ¬ z01 true = 0 by decide)]
        exact ⟨_, _, _, rfl, h1, h2, by rw [if_pos rfl]⟩
    | succ e ih =>
      intro i fu co ro hi hf hki h1 h2 h3
      obtain ⟨f, rfl⟩ : ∃ f, fu = f + 1 := ⟨fu - 1, by omega⟩
      have i10 : ¬ (nI i < 0 ∨ 10 ≤ (nI i).toNatClampNeg) := nI_in (by omega) (by omega)
      rw [f_X0_allFrom_4, if_neg (nI_ge (by omega) (by omega)), if_neg (show ¬ (10 : Int32) ≤ nI i from nI_ge (b := 10) (by omega) (by omega)), if_neg i10, if_neg i10, if_neg i10, nI_clamp (by omega), show (3 : Int32) = nI 3 from rfl, pk_mul, nI_1, ← Nat.pow_succ, show (i - k).succ = i + 1 - k by omega]
      refine ih (i + 1) f _ _ (by omega) (by omega) (by omega) (fun j hj => ?_) (fun j hj1 hj2 => ?_) (fun j hj => ?_)
      · rw [up_n (by omega), up_n (by omega)]; exact h1 j hj
      · by_cases e : j = i
        · subst e; rw [up_s, up_s, h3 j (by omega)]; exact ⟨rfl, rfl⟩
        · rw [up_n e, up_n e]; exact h2 j hj1 (by omega)
      · rw [up_n (by omega)]; exact h3 j (by omega)
  unfold f_X0_allFrom
  have := key (m - k) k fuel could row (by omega) (fuel_big (by omega)) (Nat.le_refl _) (fun j _ => ⟨rfl, rfl⟩) (fun j h1 h2 => absurd h1 (by omega)) (fun j _ => rfl)
  rw [Nat.sub_self] at this
  exact this
