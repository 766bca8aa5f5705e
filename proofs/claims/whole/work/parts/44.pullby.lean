/-! the reference's pull -/
def PM (n : Nat) (pi : Nat → Nat) : Prop := (∀ p, p < n → pi p < n) ∧ (∀ p q, p < n → q < n → pi p = pi q → p = q)
def RM (n : Nat) (pi lev : Nat → Nat) (at_ has : Nat → Int32) : Prop := (∀ p, p < n → at_ p = nI (pi p)) ∧ (∀ p, p < n → has (pi p) = nI (lev p))
def rotp (n how : Nat) (pi : Nat → Nat) : Nat → Nat := fun p => pi ((p + n - hb n how) % n)
theorem hb_lt {n how : Nat} (h3 : 3 ≤ n) : hb n how < n := by
  unfold hb
  by_cases h0 : how = 0
  · rw [if_pos h0]; omega
  · rw [if_neg h0]
    by_cases h1 : how = 1
    · rw [if_pos h1]; omega
    · rw [if_neg h1]; omega
theorem back_in {n b p : Nat} (hb : b < n) : (p + n - b) % n < n := Nat.mod_lt _ (by omega)
theorem back_fwd {n b p : Nat} (hb : b < n) (hp : p < n) : ((p + n - b) % n + b) % n = p := by
  rw [Nat.mod_add_mod, show p + n - b + b = p + n by omega, Nat.add_mod_right, Nat.mod_eq_of_lt hp]
theorem fwd_inj {n b p q : Nat} (hb : b < n) (hp : p < n) (hq : q < n) (h : (p + b) % n = (q + b) % n) : p = q := by
  have e1 : ((p + b) % n + n - b) % n = p := by
    by_cases h1 : p + b < n
    · rw [Nat.mod_eq_of_lt h1, show p + b + n - b = p + n by omega, Nat.add_mod_right, Nat.mod_eq_of_lt hp]
    · have h2 : (p + b) % n = p + b - n := by rw [Nat.mod_eq_sub_mod (by omega), Nat.mod_eq_of_lt (by omega)]
      rw [h2, show p + b - n + n - b = p by omega, Nat.mod_eq_of_lt hp]
  have e2 : ((q + b) % n + n - b) % n = q := by
    by_cases h1 : q + b < n
    · rw [Nat.mod_eq_of_lt h1, show q + b + n - b = q + n by omega, Nat.add_mod_right, Nat.mod_eq_of_lt hq]
    · have h2 : (q + b) % n = q + b - n := by rw [Nat.mod_eq_sub_mod (by omega), Nat.mod_eq_of_lt (by omega)]
      rw [h2, show q + b - n + n - b = q by omega, Nat.mod_eq_of_lt hq]
  rw [← e1, ← e2, h]
theorem back_inj {n b p q : Nat} (hb : b < n) (hp : p < n) (hq : q < n) (h : (p + n - b) % n = (q + n - b) % n) : p = q := by
  rw [← back_fwd hb hp, ← back_fwd hb hq, h]
theorem PM.rot {n : Nat} {pi : Nat → Nat} (h : PM n pi) (how : Nat) (h3 : 3 ≤ n) : PM n (rotp n how pi) :=
  ⟨fun p hp => h.1 _ (back_in (hb_lt h3)), fun p q hp hq e => back_inj (hb_lt h3) hp hq (h.2 _ _ (back_in (hb_lt h3)) (back_in (hb_lt h3)) e)⟩
theorem up_s {f : Nat → Int32} {k : Nat} {x : Int32} : upd f k x k = x := pk_us
theorem up_n {f : Nat → Int32} {k j : Nat} {x : Int32} (h : j ≠ k) : upd f k x j = f j := pk_un h
theorem gin {k N : Nat} (h : k < N) (hN : N < 2 ^ 31) : ¬ (nI k < 0 ∨ N ≤ k) := fun q => q.elim (fun q => nI_pos (by omega) q) (fun q => by omega)
theorem pullA {n b : Nat} (h3 : 3 ≤ n) (h9 : n ≤ 9) (hb : b < n) (deep done drawn leaked drunk times : Int32) (at_ has leaks wants : Nat → Int32) : ∀ (d k fu : Nat) (moved : Nat → Int32), k + d = n → d < fu → (∀ p, p < k → moved ((p + b) % n) = at_ p) →
    ∃ moved', (∀ p, p < n → moved' ((p + b) % n) = at_ p) ∧ f_X12_pullBy_26 fu (nI b) (nI k) (nI n) deep done drawn leaked drunk times moved at_ has leaks wants = f_X12_pullBy_61 fuel 0 (nI n) deep done drawn leaked drunk times moved' at_ has leaks wants := by
  intro d
  induction d with
  | zero =>
    intro k fu moved hk hf hm
    obtain ⟨m, rfl⟩ : ∃ m, fu = m + 1 := ⟨fu - 1, by omega⟩
    refine ⟨moved, fun p hp => hm p (by omega), ?_⟩
    rw [f_X12_pullBy_26, if_pos (nI_le (by omega) (by omega))]
  | succ d ih =>
    intro k fu moved hk hf hm
    obtain ⟨m, rfl⟩ : ∃ m, fu = m + 1 := ⟨fu - 1, by omega⟩
    have hmod : (k + b) % n < n := Nat.mod_lt _ (by omega)
    rw [f_X12_pullBy_26, if_neg (nI_ge (by omega) (by omega)), if_neg (nI_ne0 (by omega) (by omega)), if_neg (nI_in (by omega) (by omega)), nI_add, pk_rem (by omega) (by omega) (by omega), if_neg (nI_in (by omega) (by omega)), nI_clamp (by omega), nI_clamp (by omega), nI_1]
    obtain ⟨moved', h1, h2⟩ := ih (k + 1) m (upd moved ((k + b) % n) (at_ k)) (by omega) (by omega) (fun p hp => by
      by_cases h : p = k
      · subst h; exact up_s
      · rw [up_n (fun e => h (fwd_inj hb (by omega) (by omega) e))]
        exact hm p (by omega))
    exact ⟨moved', h1, h2⟩
theorem lsum_congr : ∀ (n : Nat) {f g : Nat → Nat}, (∀ k, k < n → f k = g k) → lsum n f = lsum n g
  | 0, _, _, _ => rfl
  | n + 1, f, g, h => by rw [lsum, lsum, lsum_congr n (fun k hk => h k (by omega)), h n (by omega)]
theorem pullB {n dp : Nat} (h3 : 3 ≤ n) (h9 : n ≤ 9) (done drawn drunk times : Int32) (moved wants leaks : Nat → Int32) (hv lv : Nat → Nat) (hh : ∀ p, hv p < 16) (hlk : ∀ p, p < n → leaks p = nI (lv p)) (hl16 : ∀ p, lv p < 16) : ∀ (d k fu : Nat) (Lq : Nat) (at_ has : Nat → Int32), k + d = n → d < fu → (∀ p, p < k → at_ p = moved p) → (∀ p, p < n → has p = nI (if p < k then hv p - lv p else hv p)) →
    ∃ at' has', (∀ p, p < n → at' p = moved p) ∧ (∀ p, p < n → has' p = nI (hv p - lv p)) ∧ f_X12_pullBy_61 fu (nI k) (nI n) (nI dp) done drawn (nI (Lq + lsum k (fun p => hv p - (hv p - lv p)))) drunk times moved at_ has leaks wants = (if ((0 : Int32) < 0 ∨ 9 ≤ ((0 : Int32)).toNatClampNeg) then none else (if ((at' ((0 : Int32)).toNatClampNeg) < 0 ∨ 9 ≤ ((at' ((0 : Int32)).toNatClampNeg)).toNatClampNeg) then none else (if ((0 : Int32) < 0 ∨ 9 ≤ ((0 : Int32)).toNatClampNeg) then none else (if ((at' ((0 : Int32)).toNatClampNeg) < 0 ∨ 9 ≤ ((at' ((0 : Int32)).toNatClampNeg)).toNatClampNeg) then none else (f_X12_pullBy_183 fuel ((0 : Int32)) (nI n) done ((drawn + (nI dp - (has' ((at' ((0 : Int32)).toNatClampNeg)).toNatClampNeg)))) (nI (Lq + lsum n (fun p => hv p - (hv p - lv p)))) drunk times moved at' ((upd has' ((at' ((0 : Int32)).toNatClampNeg)).toNatClampNeg (nI dp))) wants))))) := by
  intro d
  induction d with
  | zero =>
    intro k fu Lq at_ has hk hf ha hs
    obtain ⟨m, rfl⟩ : ∃ m, fu = m + 1 := ⟨fu - 1, by omega⟩
    refine ⟨at_, has, fun p hp => ha p (by omega), fun p hp => by rw [hs p hp, if_pos (by omega)], ?_⟩
    rw [f_X12_pullBy_61, if_pos (nI_le (by omega) (by omega)), show k = n by omega]
  | succ d ih =>
    intro k fu Lq at_ has hk hf ha hs
    obtain ⟨m, rfl⟩ : ∃ m, fu = m + 1 := ⟨fu - 1, by omega⟩
    have hkk : has k = nI (hv k) := by rw [hs k (by omega), if_neg (by omega)]
    have h1 := hh k
    have h2 := hl16 k
    have fin : ∀ lost, lost = hv k - (hv k - lv k) → f_X12_pullBy_111 (f_X12_pullBy_61 m) (nI k) (nI lost) (nI n) (nI dp) done drawn (nI (Lq + lsum k (fun p => hv p - (hv p - lv p)))) drunk times moved (upd at_ k (moved k)) has leaks wants = f_X12_pullBy_61 m (nI (k + 1)) (nI n) (nI dp) done drawn (nI (Lq + lsum (k + 1) (fun p => hv p - (hv p - lv p)))) drunk times moved (upd at_ k (moved k)) (upd has k (nI (hv k - lv k))) leaks wants := by
      intro lost hlost
      unfold f_X12_pullBy_111
      rw [if_neg (nI_in (by omega) (by omega)), if_neg (nI_in (by omega) (by omega)), nI_clamp (by omega), hkk, pk_sub (by omega), nI_add, nI_1, show hv k - lost = hv k - lv k by omega, lsum, ← hlost, Nat.add_assoc]
    obtain ⟨at', has', r1, r2, r3⟩ := ih (k + 1) m Lq (upd at_ k (moved k)) (upd has k (nI (hv k - lv k))) (by omega) (by omega) (fun p hp => by
        by_cases h : p = k
        · subst h; exact up_s
        · rw [up_n h]; exact ha p (by omega)) (fun p hp => by
        by_cases h : p = k
        · subst h; rw [up_s, if_pos (by omega)]
        · rw [up_n h, hs p hp]
          by_cases h2 : p < k
          · rw [if_pos h2, if_pos (by omega)]
          · rw [if_neg h2, if_neg (by omega)])
    refine ⟨at', has', r1, r2, ?_⟩
    rw [← r3, f_X12_pullBy_61, if_neg (nI_ge (by omega) (by omega)), if_neg (nI_in (by omega) (by omega)), if_neg (nI_in (by omega) (by omega)), if_neg (nI_in (by omega) (by omega)), if_neg (nI_in (by omega) (by omega)), nI_clamp (by omega), hkk, hlk k (by omega)]
    by_cases hc : lv k ≤ hv k
    · rw [if_pos (nI_le hc (by omega)), if_neg (gin (by omega) (by omega)), fin _ (by omega)]
    · rw [if_neg (nI_ge (by omega) (by omega)), if_neg (gin (by omega) (by omega)), fin _ (by omega)]
/-- the doors drink, from door k on: what is left -/
theorem pullC {n : Nat} (h3 : 3 ≤ n) (h9 : n ≤ 9) (drawn leaked : Int32) (moved at_ wants : Nat → Int32) (pi full wt : Nat → Nat) (th : Nat → Bool) (hpi : PM n pi) (hat : ∀ p, p < n → at_ p = nI (pi p)) (hf16 : ∀ p, full p < 16) (hw : ∀ d, d < n → wants d = nI (wt d)) (hw16 : ∀ d, wt d < 16) : ∀ (e k fu : Nat) (K T : Nat) (has : Nat → Int32), k + e = n → e < fu → (∀ p, p < n → has (pi p) = nI (if p < k then a_drL wt full th p else full p)) →
    ∃ has', (∀ p, p < n → has' (pi p) = nI (a_drL wt full th p)) ∧ f_X12_pullBy_183 fu (nI k) (nI n) (nI (sbit n (fun j => if j < k then a_drT wt full th j else th j))) drawn leaked (nI (K + lsum k (fun d => if th d && decide (wt d ≤ full d) then wt d else 0))) (nI (T + lsum k (fun d => if th d && decide (wt d ≤ full d) then 1 else 0))) moved at_ has wants = some (nI (sbit n (a_drT wt full th)), drawn, leaked, nI (K + lsum n (fun d => if th d && decide (wt d ≤ full d) then wt d else 0)), nI (T + lsum n (fun d => if th d && decide (wt d ≤ full d) then 1 else 0)), moved, at_, has') := by
  intro e
  induction e with
  | zero =>
    intro k fu K T has hk hf hs
    obtain ⟨m, rfl⟩ : ∃ m, fu = m + 1 := ⟨fu - 1, by omega⟩
    refine ⟨has, fun p hp => by rw [hs p hp, if_pos (by omega)], ?_⟩
    rw [f_X12_pullBy_183, if_pos (nI_le (by omega) (by omega)), show k = n by omega, sbit_congr (th' := a_drT wt full th) (fun i hi => if_pos hi)]
  | succ e ih =>
    intro k fu K T has hk hf hs
    obtain ⟨m, rfl⟩ : ∃ m, fu = m + 1 := ⟨fu - 1, by omega⟩
    have hkn : k < n := by omega
    have hpk := hpi.1 k hkn
    have hkk : has (pi k) = nI (full k) := by rw [hs k hkn, if_neg (by omega)]
    have h1 := hf16 k
    have h2 := hw16 k
    have go : ∀ (dn dr ti : Int32) (hs' : Nat → Int32), f_X12_pullBy_279 (f_X12_pullBy_183 m) (nI k) (nI n) dn drawn leaked dr ti moved at_ hs' wants = f_X12_pullBy_183 m (nI (k + 1)) (nI n) dn drawn leaked dr ti moved at_ hs' wants := fun dn dr ti hs' => by unfold f_X12_pullBy_279; rw [nI_1]
    rw [f_X12_pullBy_183, if_neg (nI_ge (by omega) (by omega)), bit_ask _ h9 hkn, if_neg (show ¬ k < k by omega)]
    by_cases hc : th k = true ∧ wt k ≤ full k
    · have hb : (th k && decide (wt k ≤ full k)) = true := by simp [hc.1, hc.2]
      obtain ⟨has', r1, r2⟩ := ih (k + 1) m K T (upd has (pi k) (nI (full k - wt k))) (by omega) (by omega) (fun p hp => by
        by_cases h : p = k
        · subst h
          rw [up_s, if_pos (by omega)]
          unfold a_drL
          rw [if_pos hb]
        · rw [up_n (fun e => h (hpi.2 p k hp hkn e)), hs p hp]
          by_cases h2 : p < k
          · rw [if_pos h2, if_pos (by omega)]
          · rw [if_neg h2, if_neg (by omega)])
      refine ⟨has', r1, ?_⟩
      rw [← r2, if_pos (by rw [hc.1]; rfl), if_neg (nI_in (by omega) (by omega)), nI_clamp (by omega), if_neg (gin (by omega) (by omega)), hat k hkn, if_neg (nI_in (by omega) (by omega)), nI_clamp (by omega), hkk, hw k hkn, if_neg (nI_nlt hc.2 (by omega)), if_neg (gin (by omega) (by omega)), if_neg (gin (by omega) (by omega)), if_neg (gin (by omega) (by omega)), if_neg (gin (by omega) (by omega)), if_neg (gin (by omega) (by omega)), bit_set _ hkn h9, pk_sub hc.2, nI_add, show (1 : Int32) = nI 1 from rfl, nI_add, go]
      rw [lsum, lsum, if_pos hb, if_pos hb, Nat.add_assoc, Nat.add_assoc]
      rw [sbit_congr (th' := fun j => if j < k + 1 then a_drT wt full th j else th j) (fun i hi => by
        unfold thset
        by_cases h : i = k
        · subst h
          rw [if_pos rfl, if_pos (by omega)]
          unfold a_drT
          simp [hc.1, hc.2]
        · rw [if_neg h]
          dsimp only
          by_cases h2 : i < k
          · rw [if_pos h2, if_pos (by omega)]
          · rw [if_neg h2, if_neg (by omega)])]
    · have hb : ¬ (th k && decide (wt k ≤ full k)) = true := by
        simp only [Bool.and_eq_true, decide_eq_true_eq]
        exact hc
      obtain ⟨has', r1, r2⟩ := ih (k + 1) m K T has (by omega) (by omega) (fun p hp => by
        by_cases h : p = k
        · subst h
          rw [hkk, if_pos (by omega)]
          unfold a_drL
          rw [if_neg hb]
        · rw [hs p hp]
          by_cases h2 : p < k
          · rw [if_pos h2, if_pos (by omega)]
          · rw [if_neg h2, if_neg (by omega)])
      refine ⟨has', r1, ?_⟩
      rw [← r2, lsum, lsum, if_neg hb, if_neg hb]
      simp only [Nat.add_zero]
      rw [sbit_congr (th := fun j => if j < k + 1 then a_drT wt full th j else th j) (th' := fun j => if j < k then a_drT wt full th j else th j) (fun i hi => by
        by_cases h : i = k
        · subst h
          rw [if_pos (by omega), if_neg (by omega)]
          unfold a_drT
          cases ht : th i
          · simp
          · have : ¬ wt i ≤ full i := fun q => hc ⟨ht, q⟩
            simp [this]
        · by_cases h2 : i < k
          · rw [if_pos h2, if_pos (by omega)]
          · rw [if_neg h2, if_neg (by omega)])]
      cases ht : th k
      · rw [if_neg (by decide), go]
      · have hnw : ¬ wt k ≤ full k := fun q => hc ⟨ht, q⟩
        rw [if_pos rfl, if_pos (show nI 0 = 0 from rfl), if_neg (nI_in (by omega) (by omega)), nI_clamp (by omega), if_neg (gin (by omega) (by omega)), hat k hkn, if_neg (nI_in (by omega) (by omega)), nI_clamp (by omega), hkk, hw k hkn, if_pos (nI_lt (by omega) (by omega)), go]
