theorem lsum_sm : ∀ (n : Nat) (f : Nat → Nat), lsum n f = fb_sm f n
  | 0, _ => rfl
  | n + 1, f => by rw [lsum, fb_sm_succ, lsum_sm n f]
theorem lsum_upd {n i : Nat} (f : Nat → Nat) (v : Nat) (h : i < n) : lsum n (fun k => if k = i then v else f k) + f i = lsum n f + v := by
  rw [lsum_sm, lsum_sm]
  exact fb_sm_upd f v h
theorem PM.onto {n : Nat} {pi : Nat → Nat} (h : PM n pi) {y : Nat} (hy : y < n) : ∃ i, i < n ∧ pi i = y :=
  fb_onto h.1 (fun i j hij hj e => by have := h.2 i j (by omega) hj e; omega) hy
theorem lsum_perm : ∀ (n : Nat) {pi : Nat → Nat} (g : Nat → Nat), PM n pi → lsum n (fun q => g (pi q)) = lsum n g
  | 0, _, _, _ => rfl
  | n + 1, pi, g, h => by
    obtain ⟨i, hi, ei⟩ := h.onto (show n < n + 1 by omega)
    have hP : PM n (fun k => if k = i then pi n else pi k) := by
      refine ⟨fun p hp => ?_, fun p q hp hq e => ?_⟩
      · dsimp only
        by_cases hpi : p = i
        · rw [if_pos hpi]
          have h1 := h.1 n (by omega)
          have h2 : pi n ≠ n := fun e => by have := h.2 n i (by omega) hi (by rw [e, ei]); omega
          omega
        · rw [if_neg hpi]
          have h1 := h.1 p (by omega)
          have h2 : pi p ≠ n := fun e => hpi (h.2 p i (by omega) hi (by rw [e, ei]))
          omega
      · dsimp only at e
        by_cases hpi : p = i
        · by_cases hqi : q = i
          · omega
          · rw [if_pos hpi, if_neg hqi] at e
            have := h.2 n q (by omega) (by omega) e
            omega
        · by_cases hqi : q = i
          · rw [if_neg hpi, if_pos hqi] at e
            have := h.2 p n (by omega) (by omega) e
            omega
          · rw [if_neg hpi, if_neg hqi] at e
            exact h.2 p q (by omega) (by omega) e
    have ih := lsum_perm n g hP
    rw [lsum, lsum, ← ih]
    by_cases hin : i = n
    · subst hin
      rw [ei, lsum_congr i (f := fun q => g (pi q)) (g := fun q => g (if q = i then pi i else pi q)) (fun k hk => by rw [if_neg (by omega)])]
      simp only [ei]
    · have hu := lsum_upd (n := n) (i := i) (fun q => g (pi q)) (g (pi n)) (by omega)
      rw [ei] at hu
      have e2 : lsum n (fun q => g (if q = i then pi n else pi q)) = lsum n (fun k => if k = i then g (pi n) else g (pi k)) := lsum_congr n (fun k _ => by by_cases hk : k = i <;> simp [hk])
      rw [e2]
      omega
theorem rot_in {n how : Nat} {f : Nat → Nat} {q : Nat} (h : q < n) : rot n how f q = f ((q + n - hb n how) % n) := if_pos h
/-- one PULL of the reference, by places -/
theorem pullBy_ok {n dp how : Nat} {pi lev lk wt : Nat → Nat} {th : Nat → Bool} {D Lq K T : Nat} {moved at_ has leaks wants : Nat → Int32} (h3 : 3 ≤ n) (h9 : n ≤ 9) (hhow : how < 3) (hpi : PM n pi) (hR : RM n pi lev at_ has) (hlk : ∀ p, p < n → leaks (pi p) = nI (lk p)) (hwt : ∀ d, d < n → wants d = nI (wt d)) (hl : ∀ p, lev p ≤ dp) (hd : dp < 16) (hk16 : ∀ p, lk p < 16) (hw16 : ∀ p, wt p < 16) :
    ∃ moved' at' has', f_X12_pullBy (nI n) (nI dp) (nI (sbit n th)) (nI D) (nI Lq) (nI K) (nI T) moved at_ has leaks wants (nI how) = some (nI (sbit n (a_drT wt (a_full dp (rot n how lev) (rot n how lk)) th)), nI (D + (dp - (rot n how lev 0 - rot n how lk 0))), nI (Lq + lsum n (fun q => rot n how lev q - (rot n how lev q - rot n how lk q))), nI (K + lsum n (fun d => if th d && decide (wt d ≤ a_full dp (rot n how lev) (rot n how lk) d) then wt d else 0)), nI (T + lsum n (fun d => if th d && decide (wt d ≤ a_full dp (rot n how lev) (rot n how lk) d) then 1 else 0)), moved', at', has') ∧ RM n (rotp n how pi) (a_drL wt (a_full dp (rot n how lev) (rot n how lk)) th) at' has' := by
  have hbn := hb_lt (how := how) h3
  have hpr := hpi.rot how h3
  -- by pails
  obtain ⟨hv, ehv⟩ : ∃ hv : Nat → Nat, hv = fun p => if p < n then (has p).toNatClampNeg else 0 := ⟨_, rfl⟩
  obtain ⟨lv, elv⟩ : ∃ lv : Nat → Nat, lv = fun p => if p < n then (leaks p).toNatClampNeg else 0 := ⟨_, rfl⟩
  have hvq : ∀ q, q < n → hv (pi q) = lev q := fun q hq => by
    have := hl q
    rw [ehv]
    dsimp only
    rw [if_pos (hpi.1 q hq), hR.2 q hq, nI_clamp (by omega)]
  have lvq : ∀ q, q < n → lv (pi q) = lk q := fun q hq => by
    have := hk16 q
    rw [elv]
    dsimp only
    rw [if_pos (hpi.1 q hq), hlk q hq, nI_clamp (by omega)]
  have hv16 : ∀ p, hv p < 16 := fun p => by
    by_cases hp : p < n
    · obtain ⟨q, hq, rfl⟩ := hpi.onto hp
      rw [hvq q hq]
      have := hl q
      omega
    · rw [ehv]; dsimp only; rw [if_neg hp]; omega
  have lv16 : ∀ p, lv p < 16 := fun p => by
    by_cases hp : p < n
    · obtain ⟨q, hq, rfl⟩ := hpi.onto hp
      rw [lvq q hq]
      exact hk16 q
    · rw [elv]; dsimp only; rw [if_neg hp]; omega
  have hhas : ∀ p, p < n → has p = nI (hv p) := fun p hp => by
    obtain ⟨q, hq, rfl⟩ := hpi.onto hp
    rw [hvq q hq, hR.2 q hq]
  have hleak : ∀ p, p < n → leaks p = nI (lv p) := fun p hp => by
    obtain ⟨q, hq, rfl⟩ := hpi.onto hp
    rw [lvq q hq, hlk q hq]
  have hr1 : ∀ q, q < n → hv (rotp n how pi q) = rot n how lev q := fun q hq => by
    rw [rot_in hq]; exact hvq _ (back_in hbn)
  have hr2 : ∀ q, q < n → lv (rotp n how pi q) = rot n how lk q := fun q hq => by
    rw [rot_in hq]; exact lvq _ (back_in hbn)
  have hrl : ∀ q, rot n how lev q < 16 := fun q => by
    unfold rot
    by_cases hq : q < n
    · rw [if_pos hq]; have := hl ((q + n - hb n how) % n); omega
    · rw [if_neg hq]; omega
  -- the three loops
  obtain ⟨moved', mA, eA⟩ := pullA h3 h9 hbn (nI dp) (nI (sbit n th)) (nI D) (nI Lq) (nI K) (nI T) at_ has leaks wants n 0 fuel moved (by omega) (fuel_big (by omega)) (fun p hp => absurd hp (Nat.not_lt_zero p))
  obtain ⟨at', has', aB, sB, eB⟩ := pullB (dp := dp) h3 h9 (nI (sbit n th)) (nI D) (nI K) (nI T) moved' wants leaks hv lv hv16 hleak lv16 n 0 fuel Lq at_ has (by omega) (fuel_big (by omega)) (fun p hp => absurd hp (Nat.not_lt_zero p)) (fun p hp => by rw [if_neg (Nat.not_lt_zero p)]; exact hhas p hp)
  have hat : ∀ q, q < n → at' q = nI (rotp n how pi q) := fun q hq => by
    rw [aB q hq]
    have h := mA ((q + n - hb n how) % n) (back_in hbn)
    rw [back_fwd hbn hq] at h
    rw [h, hR.1 _ (back_in hbn)]
    rfl
  have hp0 := hpr.1 0 (by omega)
  have hs0 : has' (rotp n how pi 0) = nI (rot n how lev 0 - rot n how lk 0) := by
    rw [sB _ hp0, hr1 0 (by omega), hr2 0 (by omega)]
  obtain ⟨has2, sC, eC⟩ := pullC h3 h9 (nI (D + (dp - (rot n how lev 0 - rot n how lk 0)))) (nI (Lq + lsum n (fun q => rot n how lev q - (rot n how lev q - rot n how lk q)))) moved' at' wants (rotp n how pi) (a_full dp (rot n how lev) (rot n how lk)) wt th hpr hat (fun p => by
      unfold a_full a_fill
      dsimp only
      by_cases hp : p = 0
      · rw [if_pos hp]; exact hd
      · rw [if_neg hp]; have := hrl p; omega) hwt hw16 n 0 fuel K T (upd has' (rotp n how pi 0) (nI dp)) (by omega) (fuel_big (by omega)) (fun p hp => by
      rw [if_neg (Nat.not_lt_zero p)]
      unfold a_full a_fill
      dsimp only
      by_cases h : p = 0
      · subst h; rw [if_pos rfl, up_s]
      · rw [if_neg h, up_n (fun e => h (hpr.2 p 0 hp (by omega) e)), sB _ (hpr.1 p hp), hr1 p hp, hr2 p hp])
  refine ⟨moved', at', has2, ?_, hat, sC⟩
  have hby : f_X12_pullBy (nI n) (nI dp) (nI (sbit n th)) (nI D) (nI Lq) (nI K) (nI T) moved at_ has leaks wants (nI how) = f_X12_pullBy_26 fuel (nI (hb n how)) 0 (nI n) (nI dp) (nI (sbit n th)) (nI D) (nI Lq) (nI K) (nI T) moved at_ has leaks wants := by
    unfold f_X12_pullBy f_X12_pullBy_23 hb
    by_cases h0 : how = 0
    · subst h0; rw [if_pos (show nI 0 = 0 from rfl), if_pos rfl]; rfl
    · rw [if_neg (nI_ne0 (by omega) (by omega)), if_neg h0]
      by_cases h1 : how = 1
      · subst h1; rw [if_pos (show nI 1 = 1 from rfl), if_pos rfl, show (1 : Int32) = nI 1 from rfl, pk_sub (by omega)]
      · rw [if_neg (show ¬ nI how = 1 from fun e => h1 ((nI_eq (b := 1) (by omega) (by omega)).mp e)), if_neg h1]; rfl
  have e0 : f_X12_pullBy_61 fuel 0 (nI n) (nI dp) (nI (sbit n th)) (nI D) (nI Lq) (nI K) (nI T) moved' at_ has leaks wants = _ := eB
  have hL : lsum n (fun p => hv p - (hv p - lv p)) = lsum n (fun q => rot n how lev q - (rot n how lev q - rot n how lk q)) := by
    rw [← lsum_perm n (fun p => hv p - (hv p - lv p)) hpr]
    exact lsum_congr n (fun q hq => by rw [hr1 q hq, hr2 q hq])
  have hle : rot n how lev 0 - rot n how lk 0 ≤ dp := by
    rw [rot_in (by omega)]
    have := hl ((0 + n - hb n how) % n)
    omega
  rw [hby]
  refine eA.trans (e0.trans ?_)
  rw [show ((0 : Int32)).toNatClampNeg = 0 from rfl, hat 0 (by omega), if_neg (by decide), if_neg (nI_in (by omega) (by omega)), if_neg (by decide), if_neg (nI_in (by omega) (by omega)), nI_clamp (by omega), hs0, pk_sub hle, nI_add, hL]
  have h0 : sbit n (fun j => if j < 0 then a_drT wt (a_full dp (rot n how lev) (rot n how lk)) th j else th j) = sbit n th := sbit_congr (fun i _ => if_neg (Nat.not_lt_zero i))
  rw [h0] at eC
  exact eC
