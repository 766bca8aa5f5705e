/-! the class's Run: one move -/
theorem lsum_tail {n m : Nat} {f : Nat → Nat} (h : n ≤ m) (hz : ∀ k, n ≤ k → f k = 0) : lsum m f = lsum n f := by
  obtain ⟨d, rfl⟩ : ∃ d, m = n + d := ⟨m - n, by omega⟩
  clear h
  induction d with
  | zero => rfl
  | succ d ih => rw [← Nat.add_assoc, lsum, ih, hz _ (by omega), Nat.add_zero]
theorem lsum_sub : ∀ (n : Nat) {f g : Nat → Nat}, (∀ k, g k ≤ f k) → lsum n g ≤ lsum n f ∧ lsum n f - lsum n g = lsum n (fun k => f k - g k)
  | 0, _, _, _ => ⟨Nat.le_refl _, rfl⟩
  | n + 1, f, g, h => by
    have ih := lsum_sub n h
    have := h n
    simp only [lsum]
    omega
theorem lsum_le : ∀ (n b : Nat) {f : Nat → Nat}, (∀ k, f k ≤ b) → lsum n f ≤ n * b
  | 0, _, _, _ => by simp [lsum]
  | n + 1, b, f, h => by
    have ih := lsum_le n b h
    have := h n
    rw [lsum, Nat.succ_mul]
    omega
def tR (n t how : Nat) : Nat := (t + hb n how) % n
theorem cl_turnBehind {n t how : Nat} (h3 : 3 ≤ n) (h9 : n ≤ 9) (ht : t < n) (hh : how < 3) : f_X6_turnBehind (nI t) (mvI how) (nI n) = some (nI (tR n t how)) := by
  unfold f_X6_turnBehind tR
  have h012 : how = 0 ∨ how = 1 ∨ how = 2 := by omega
  rcases h012 with rfl | rfl | rfl
  · rw [if_pos (show mvI 0 = 43 from rfl), show hb n 0 = 1 from rfl, show (1 : Int32) = nI 1 from rfl, nI_add]
    by_cases h : t + 1 < n
    · rw [if_pos (nI_lt h (by omega)), Nat.mod_eq_of_lt h]
    · rw [if_neg (nI_nlt (by omega) (by omega)), show t + 1 = n by omega, Nat.mod_self]; rfl
  · rw [if_neg (show ¬ mvI 1 = 43 by decide), if_pos (show mvI 1 = 45 from rfl), show hb n 1 = n - 1 from rfl, show (1 : Int32) = nI 1 from rfl]
    by_cases h : t = 0
    · subst h; rw [if_pos (show nI 0 = 0 from rfl), pk_sub (by omega), Nat.zero_add, Nat.mod_eq_of_lt (show n - 1 < n by omega)]
    · rw [if_neg (nI_ne0 (by omega) (by omega)), pk_sub (by omega), show t + (n - 1) = (t - 1) + n by omega, Nat.add_mod_right, Nat.mod_eq_of_lt (by omega)]
  · rw [if_neg (show ¬ mvI 2 = 43 by decide), if_neg (show ¬ mvI 2 = 45 by decide), show hb n 2 = 0 from rfl, Nat.add_zero, Nat.mod_eq_of_lt ht]
theorem ln_n : ∀ a, a < 16 → ∀ b, b < 16 → ∀ f g : Bool, (a + (if f then 16 else 0)) &&& ((b + (if g then 16 else 0)) ^^^ 31) &&& 16 = (if f && !g then 16 else 0) := by decide
theorem w9_note {lev lev' : Nat → Nat} {th th' : Nat → Bool} (hl : ∀ k, lev k < 16) (hl' : ∀ k, lev' k < 16) : (w9 lev th &&& (w9 lev' th' ^^^ (-1))) &&& 18159675916816 = w9 (fun _ => 0) (fun k => th k && !th' k) := by
  rw [v9_clr (u9_lt hl) (u9_lt hl'), c_THIRST, v9_and (fun k => Nat.and_lt_two_pow (n := 5) _ (by
    have := Nat.xor_lt_two_pow (n := 5) (show u9 lev' th' k < 2 ^ 5 by have := u9_lt (th := th') hl' k; simpa using this) (show 31 < 2 ^ 5 by decide)
    exact this)) (fun _ => by omega)]
  refine v9_congr (fun k _ => ?_)
  show (lev k + (if th k then 16 else 0)) &&& ((lev' k + (if th' k then 16 else 0)) ^^^ 31) &&& 16 = 0 + (if (th k && !th' k) then 16 else 0)
  rw [ln_n _ (hl k) _ (hl' k), Nat.zero_add]
theorem cl_note {b : Nat → Bool} {T : Nat} (P : Int32) (when : Nat → Int32) : ∃ when', f_X6_note P (nI T) when (w9 (fun _ => 0) b) = some (nI (T + lsum 9 (fun k => if b k then 1 else 0)), when') ∧ ∀ k, k < 9 → when' k = if b k then P else when k := by
  unfold f_X6_note
  have key : ∀ (d k fu : Nat) (wh : Nat → Int32), k + d = 9 → d < fu → (∀ i, i < 9 → wh i = if i < k ∧ b i = true then P else when i) → ∃ when', f_X6_note_2 fu (w9 (fun _ => 0) b) (nI k) P (nI (T + lsum k (fun k => if b k then 1 else 0))) wh = some (nI (T + lsum 9 (fun k => if b k then 1 else 0)), when') ∧ ∀ k, k < 9 → when' k = if b k then P else when k := by
    intro d
    induction d with
    | zero =>
      intro k fu wh hk hf hh
      obtain ⟨f, rfl⟩ : ∃ f, fu = f + 1 := ⟨fu - 1, by omega⟩
      refine ⟨wh, ?_, fun i hi => ?_⟩
      · rw [f_X6_note_2, if_pos (show (9 : Int32) ≤ nI k from nI_le (a := 9) (by omega) (by omega)), show k = 9 by omega]
      · rw [hh i hi]
        by_cases hb : b i = true
        · rw [if_pos ⟨by omega, hb⟩, if_pos hb]
        · rw [if_neg (fun q => hb q.2), if_neg hb]
    | succ d ih =>
      intro k fu wh hk hf hh
      obtain ⟨f, rfl⟩ : ∃ f, fu = f + 1 := ⟨fu - 1, by omega⟩
      rw [f_X6_note_2, if_neg (show ¬ (9 : Int32) ≤ nI k from nI_ge (b := 9) (by omega) (by omega)), c_flag (by omega)]
      simp only [Option.bind_some]
      have go : ∀ s w', f_X6_note_39 (f_X6_note_2 f) (w9 (fun _ => 0) b) (nI k) P s w' = f_X6_note_2 f (w9 (fun _ => 0) b) (nI (k + 1)) P s w' := fun s w' => by unfold f_X6_note_39; rw [nI_1]
      by_cases hb : b k = true
      · rw [if_neg (fun q => by have := (w9_flag (fun _ => by omega) (by omega)).mp ((lg0 _ _).mp q); rw [hb] at this; cases this), if_neg (nI_in (by omega) (by omega)), nI_clamp (by omega), show (1 : Int32) = nI 1 from rfl, nI_add, go]
        have h2 := ih (k + 1) f (upd wh k P) (by omega) (by omega) (fun i hi => by
          by_cases hik : i = k
          · subst hik; rw [up_s, if_pos ⟨by omega, hb⟩]
          · rw [up_n hik, hh i hi]
            by_cases q : i < k ∧ b i = true
            · rw [if_pos q, if_pos ⟨by omega, q.2⟩]
            · rw [if_neg q, if_neg (fun r => q ⟨by omega, r.2⟩)])
        rw [lsum, if_pos hb, ← Nat.add_assoc] at h2
        exact h2
      · have hb' : b k = false := by cases h : b k <;> simp_all
        rw [if_pos ((lg0 _ _).mpr ((w9_flag (fun _ => by omega) (by omega)).mpr hb')), go]
        have h2 := ih (k + 1) f wh (by omega) (by omega) (fun i hi => by
          rw [hh i hi]
          by_cases hik : i = k
          · subst hik; rw [if_neg (fun q => hb q.2), if_neg (fun q => hb q.2)]
          · by_cases q : i < k ∧ b i = true
            · rw [if_pos q, if_pos ⟨by omega, q.2⟩]
            · rw [if_neg q, if_neg (fun r => q ⟨by omega, r.2⟩)])
        rw [lsum, if_neg hb, Nat.add_zero] at h2
        exact h2
  exact key 9 0 fuel when (by omega) (fuel_big (by omega)) (fun i hi => by rw [if_neg (fun q => absurd q.1 (Nat.not_lt_zero i))])
theorem cl_move {n t dp how : Nat} {wt : Nat → Nat} {a : AS} (hw : wOK n dp wt) (h : aOK n dp a) (ht : t < n) (hh : how < 3) (P D Lq K T : Nat) (when : Nat → Int32) :
    ∃ when', f_X6_move (w9 a.1 a.2.2) (v9 a.2.1) (nI t) (nI P) (nI D) (nI Lq) (nI K) (nI T) (nI n) (nI dp) (v9 wt) when (mvI how) = some (w9 (aP n dp wt how a).1 (aP n dp wt how a).2.2, v9 (aP n dp wt how a).2.1, nI (tR n t how), nI (P + 1), nI (D + cD n dp how a), nI (Lq + cL n how a), nI (K + cK n dp wt how a), nI (T + cT n dp wt how a), when') ∧ ∀ k, k < 9 → when' k = if a.2.2 k && !(aP n dp wt how a).2.2 k then nI (P + 1) else when k := by
  obtain ⟨w1, w2, w3, w4, w5, w6⟩ := id hw
  have hl16 := lt16 w4 (rot_le (n := n) (how := how) h.1)
  have hk16 := lt16 (show 9 ≤ 9 by omega) (rot_le (n := n) (how := how) h.2.2.1)
  have hw16 := lt16 (show 9 ≤ 9 by omega) w5
  have hf16 : ∀ k, aFull n dp how a k < 16 := lt16 w4 (full_le h)
  have hd16 : ∀ k, rot n how a.1 k - rot n how a.2.1 k < 16 := fun k => by have := hl16 k; omega
  have hn16 : ∀ k, a_drL wt (aFull n dp how a) a.2.2 k < 16 := fun k => Nat.lt_of_le_of_lt (drL_le k) (hf16 k)
  have e_b : ∀ k, (a.2.2 k && !(a_drT wt (aFull n dp how a) a.2.2) k) = (a.2.2 k && decide (wt k ≤ aFull n dp how a k)) := fun k => by
    unfold a_drT
    cases a.2.2 k <;> simp
  obtain ⟨when', en, hn⟩ := cl_note (b := fun k => a.2.2 k && !(a_drT wt (aFull n dp how a) a.2.2) k) (T := T) (nI (P + 1)) when
  refine ⟨when', ?_, hn⟩
  unfold f_X6_move
  rw [cl_turnBehind w1 w2 ht hh, cl_leaks (wt := wt) hw h, cl_wheel hw h]
  simp only [Option.bind_some]
  show ((f_X1_leaked (w9 (rot n how a.1) a.2.2) (v9 (rot n how a.2.1))).bind _) = _
  rw [c_leaked _ hl16 hk16]
  simp only [Option.bind_some]
  rw [c_filled _ hd16 (by omega)]
  simp only [Option.bind_some]
  show ((f_X1_drunk (v9 wt) (w9 (aFull n dp how a) a.2.2)).bind _) = _
  rw [c_drunk _ hf16 hw16]
  simp only [Option.bind_some]
  rw [c_sum hl16, c_sum hd16]
  show (some (nI (lsum 9 (rot n how a.1)))).bind _ = _
  simp only [Option.bind_some]
  rw [show (fun k => if k = 0 then dp else rot n how a.1 k - rot n how a.2.1 k) = aFull n dp how a from rfl, c_sum hf16]
  rw [show (fun k => if (a.2.2 k && decide (wt k ≤ aFull n dp how a k)) = true then aFull n dp how a k - wt k else aFull n dp how a k) = a_drL wt (aFull n dp how a) a.2.2 from rfl, show (fun k => a.2.2 k && !decide (wt k ≤ aFull n dp how a k)) = a_drT wt (aFull n dp how a) a.2.2 from rfl, c_sum hn16]
  simp only [Option.bind_some]
  rw [w9_note hf16 hn16, show (1 : Int32) = nI 1 from rfl, nI_add, en]
  simp only [Option.bind_some]
  -- the four sums
  have eD : lsum 9 (aFull n dp how a) - lsum 9 (fun k => rot n how a.1 k - rot n how a.2.1 k) = cD n dp how a ∧ lsum 9 (fun k => rot n how a.1 k - rot n how a.2.1 k) ≤ lsum 9 (aFull n dp how a) := by
    have hu := lsum_upd (n := 9) (i := 0) (fun k => rot n how a.1 k - rot n how a.2.1 k) dp (by omega)
    have hle : rot n how a.1 0 - rot n how a.2.1 0 ≤ dp := by
      have := rot_le (n := n) (how := how) h.1 0
      omega
    have hu2 : lsum 9 (aFull n dp how a) + (rot n how a.1 0 - rot n how a.2.1 0) = lsum 9 (fun k => rot n how a.1 k - rot n how a.2.1 k) + dp := hu
    unfold cD
    omega
  have eL := lsum_sub 9 (f := rot n how a.1) (g := fun k => rot n how a.1 k - rot n how a.2.1 k) (fun k => Nat.sub_le _ _)
  have eL2 : lsum 9 (fun k => rot n how a.1 k - (rot n how a.1 k - rot n how a.2.1 k)) = cL n how a := lsum_tail w2 (fun k hk => by rw [rot_z hk]; omega)
  have eK := lsum_sub 9 (f := aFull n dp how a) (g := a_drL wt (aFull n dp how a) a.2.2) (fun k => drL_le k)
  have eK2 : lsum 9 (fun k => aFull n dp how a k - a_drL wt (aFull n dp how a) a.2.2 k) = cK n dp wt how a := by
    have e1 : ∀ k, aFull n dp how a k - a_drL wt (aFull n dp how a) a.2.2 k = if a.2.2 k && decide (wt k ≤ aFull n dp how a k) then wt k else 0 := fun k => by
      unfold a_drL
      by_cases q : (a.2.2 k && decide (wt k ≤ aFull n dp how a k)) = true
      · rw [if_pos q, if_pos q]
        have : wt k ≤ aFull n dp how a k := by simp only [Bool.and_eq_true, decide_eq_true_eq] at q; exact q.2
        omega
      · rw [if_neg q, if_neg q, Nat.sub_self]
    rw [lsum_congr 9 (fun k _ => e1 k)]
    exact lsum_tail w2 (fun k hk => by rw [h.2.2.2.2 k hk]; rfl)
  have eT : lsum 9 (fun k => if (a.2.2 k && !(a_drT wt (aFull n dp how a) a.2.2) k) = true then 1 else 0) = cT n dp wt how a := by
    rw [lsum_congr 9 (g := fun k => if (a.2.2 k && decide (wt k ≤ aFull n dp how a k)) = true then 1 else 0) (fun k _ => by rw [e_b k])]
    exact lsum_tail w2 (fun k hk => by rw [h.2.2.2.2 k hk]; rfl)
  rw [pk_sub eD.2, eD.1, pk_sub eL.1, eL.2, eL2, pk_sub eK.1, eK.2, eK2, nI_add, nI_add, nI_add, eT]
  rfl
