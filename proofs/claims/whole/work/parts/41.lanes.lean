/-! the class's wheels: what its sums do, lane by lane -/
abbrev u9 (lev : Nat → Nat) (th : Nat → Bool) : Nat → Nat := fun k => lev k + (if th k then 16 else 0)
abbrev w9 (lev : Nat → Nat) (th : Nat → Bool) : Int64 := lN (pak 9 (u9 lev th))
abbrev v9 (f : Nat → Nat) : Int64 := lN (pak 9 f)
theorem u9_lt {lev : Nat → Nat} {th : Nat → Bool} (h : ∀ k, lev k < 16) (k : Nat) : u9 lev th k < 32 := by
  have := h k
  simp only [u9]
  by_cases q : th k = true
  · rw [if_pos q]; omega
  · rw [if_neg q]; omega
theorem c_THIRST : (18159675916816 : Int64) = v9 (fun _ => 16) := by decide
theorem c_LEVELS : (17024696172015 : Int64) = v9 (fun _ => 15) := by decide
theorem c_m1 : (-1 : Int64) = lN (2 ^ 64 - 1) := by decide
theorem v9_and {u v : Nat → Nat} (hu : ∀ k, u k < 32) (hv : ∀ k, v k < 32) : v9 u &&& v9 v = v9 (fun k => u k &&& v k) := by rw [fb_andL, pak_and 9 hu hv]
theorem v9_or {u v : Nat → Nat} (hu : ∀ k, u k < 32) (hv : ∀ k, v k < 32) : v9 u ||| v9 v = v9 (fun k => u k ||| v k) := by rw [fb_orL, pak_or 9 hu hv]
theorem v9_sub {u v : Nat → Nat} (h : ∀ k, v k ≤ u k) : v9 u - v9 v = v9 (fun k => u k - v k) := by
  obtain ⟨h1, h2⟩ := pak_sub_le 9 (u := u) (v := v) (fun k _ => h k)
  rw [lN_sub h1, h2]
theorem v9_congr {u v : Nat → Nat} (h : ∀ k, k < 9 → u k = v k) : v9 u = v9 v := by rw [v9, pak_congr 9 h]
theorem nat_clr {x a : Nat} (hx : x < 2 ^ 45) (ha : a < 2 ^ 45) : x &&& (a ^^^ (2 ^ 64 - 1)) = x &&& (a ^^^ (2 ^ 45 - 1)) := by
  apply Nat.eq_of_testBit_eq
  intro j
  rw [Nat.testBit_and, Nat.testBit_and, Nat.testBit_xor, Nat.testBit_xor, Nat.testBit_two_pow_sub_one, Nat.testBit_two_pow_sub_one]
  by_cases h : j < 45
  · have h2 : j < 64 := by omega
    simp [h, h2]
  · have hx2 : x.testBit j = false := Nat.testBit_lt_two_pow (Nat.lt_of_lt_of_le hx (Nat.pow_le_pow_right (by omega) (by omega)))
    simp [hx2]
theorem v9_clr {u v : Nat → Nat} (hu : ∀ k, u k < 32) (hv : ∀ k, v k < 32) : v9 u &&& (v9 v ^^^ (-1)) = v9 (fun k => u k &&& (v k ^^^ 31)) := by
  rw [c_m1, fb_xorL, fb_andL, nat_clr (pak_lt64 hu) (pak_lt64 hv), show (2 ^ 45 - 1 : Nat) = pak 9 (fun _ => 31) by decide, pak_xor 9 hv (fun _ => by omega), pak_and 9 hu]
  intro k
  exact Nat.xor_lt_two_pow (n := 5) (by simpa using hv k) (by decide)
theorem v9_one (i c : Nat) (h : i < 9) : lN (c * 32 ^ i) = v9 (fun k => if k = i then c else 0) := by rw [v9, pak_one 9 i c h]
-- lanes, by counting
theorem ln_a15 : ∀ a, a < 16 → ∀ f : Bool, (a + (if f then 16 else 0)) &&& 15 = a := by decide
theorem ln_a16 : ∀ a, a < 16 → ∀ f : Bool, (a + (if f then 16 else 0)) &&& 16 = (if f then 16 else 0) := by decide
theorem ln_o16 : ∀ a, a < 16 → ∀ f : Bool, (a + (if f then 16 else 0)) ||| 16 = a + 16 := by decide
theorem ln_o : ∀ a, a < 16 → ∀ f : Bool, (if f then 16 else 0) ||| a = a + (if f then 16 else 0) := by decide
theorem ln_31 : ∀ a, a < 16 → ∀ f : Bool, (a + (if f then 16 else 0)) &&& (0 ^^^ 31) = a + (if f then 16 else 0) := by decide
theorem ln_c15 : ∀ a, a < 16 → ∀ f : Bool, (a + (if f then 16 else 0)) &&& (15 ^^^ 31) = (if f then 16 else 0) := by decide
theorem ln_l1 : ∀ a, a < 16 → ∀ b, b < 16 → (a + 16 - b) &&& 16 = (if b ≤ a then 16 else 0) := by decide
theorem ln_l2 : ∀ a, a < 16 → ∀ b, b < 16 → (a + 16 - b) &&& (if b ≤ a then 15 else 0) = a - b := by decide
theorem ln_d1 : ∀ a, a < 16 → ∀ b, b < 16 → ∀ f : Bool, (a + 16 - b) &&& (a + (if f then 16 else 0)) &&& 16 = (if f && decide (b ≤ a) then 16 else 0) := by decide
theorem ln_d2 : ∀ b, b < 16 → ∀ f : Bool, b &&& (if f then 15 else 0) = (if f then b else 0) := by decide
theorem ff_lt (b : Nat → Bool) (c : Nat) (hc : c < 32) (k : Nat) : (if b k then c else 0) < 32 := by by_cases h : b k = true <;> simp [h, hc]
theorem c_numbersOf (b : Nat → Bool) : f_X11_numbersOf (v9 (fun k => if b k then 16 else 0)) = some (v9 (fun k => if b k then 15 else 0)) := by
  unfold f_X11_numbersOf
  have e : pak 9 (fun k => if b k then 16 else 0) = 16 * pak 9 (fun k => if b k then 1 else 0) := by
    rw [← pak_mul]
    exact pak_congr 9 (fun k _ => by by_cases h : b k = true <;> simp [h])
  have h2 := wb_shr (n := pak 9 (fun k => if b k then 16 else 0)) (k := 4) (Nat.lt_trans (pak_lt64 (ff_lt b 16 (by omega))) (by decide)) (by decide)
  rw [show (4 : Int32) = nI 4 from rfl, h2, e, show (2 : Nat) ^ 4 = 16 by decide, Nat.mul_div_cancel_left _ (by decide : 0 < 16), v9_sub]
  · exact congrArg some (v9_congr (fun k _ => by by_cases h : b k = true <;> simp [h]))
  · intro k
    by_cases h : b k = true <;> simp [h]
theorem c_leaked {lev lk : Nat → Nat} (th : Nat → Bool) (hl : ∀ k, lev k < 16) (hk : ∀ k, lk k < 16) : f_X1_leaked (w9 lev th) (v9 lk) = some (w9 (fun k => lev k - lk k) th) := by
  unfold f_X1_leaked
  have hu := u9_lt (th := th) hl
  have e1 : (w9 lev th ||| 18159675916816) - v9 lk = v9 (fun k => lev k + 16 - lk k) := by
    rw [c_THIRST, v9_or hu (fun _ => by omega), v9_congr (v := fun k => lev k + 16) (fun k _ => ln_o16 _ (hl k) _), v9_sub (fun k => by have := hl k; have := hk k; omega)]
  have h32 : ∀ k, lev k + 16 - lk k < 32 := fun k => by have := hl k; omega
  have e2 : v9 (fun k => lev k + 16 - lk k) &&& 18159675916816 = v9 (fun k => if (fun k => decide (lk k ≤ lev k)) k then 16 else 0) := by
    rw [c_THIRST, v9_and h32 (fun _ => by omega)]
    exact v9_congr (fun k _ => by rw [ln_l1 _ (hl k) _ (hk k)]; simp)
  rw [e1, e2, c_numbersOf]
  simp only [Option.bind_some]
  rw [c_THIRST, v9_and hu (fun _ => by omega), v9_and h32 (ff_lt _ 15 (by omega))]
  have e3 : (fun k => (lev k + 16 - lk k) &&& (if (fun k => decide (lk k ≤ lev k)) k then 15 else 0)) = fun k => lev k - lk k := by
    funext k
    have := ln_l2 _ (hl k) _ (hk k)
    simpa using this
  rw [e3, v9_or]
  · refine congrArg some (v9_congr (fun k _ => ?_))
    show (lev k + (if th k then 16 else 0)) &&& 16 ||| (lev k - lk k) = _
    rw [ln_a16 _ (hl k), ln_o _ (by have := hl k; omega)]
  · intro k
    show (lev k + (if th k then 16 else 0)) &&& 16 < 32
    rw [ln_a16 _ (hl k)]
    exact ff_lt th 16 (by omega) k
  · intro k
    have := hl k
    omega
theorem c_filled {lev : Nat → Nat} (th : Nat → Bool) {dp : Nat} (hl : ∀ k, lev k < 16) (hd : dp < 16) : f_X1_filled (nI dp) (w9 lev th) = some (w9 (fun k => if k = 0 then dp else lev k) th) := by
  unfold f_X1_filled
  have e1 : (-16 : Int64) = v9 (fun k => if k = 0 then 15 else 0) ^^^ (-1) := by decide
  have h0 : ∀ c, c < 32 → ∀ k, (if k = 0 then c else 0) < 32 := fun c hc k => by by_cases h : k = 0 <;> simp [h, hc]
  rw [e1, v9_clr (u9_lt hl) (h0 15 (by omega)), nI_l (by omega), show lN dp = lN (dp * 32 ^ 0) by simp, v9_one 0 dp (by omega), v9_or]
  · refine congrArg some (v9_congr (fun k _ => ?_))
    show ((lev k + (if th k then 16 else 0)) &&& ((if k = 0 then 15 else 0) ^^^ 31) ||| (if k = 0 then dp else 0)) = (if k = 0 then dp else lev k) + (if th k then 16 else 0)
    by_cases h : k = 0
    · rw [if_pos h, if_pos h, if_pos h, ln_c15 _ (hl k), ln_o _ hd]
    · rw [if_neg h, if_neg h, if_neg h, ln_31 _ (hl k), Nat.or_zero]
  · intro k
    show ((lev k + (if th k then 16 else 0)) &&& ((if k = 0 then 15 else 0) ^^^ 31)) < 32
    by_cases h : k = 0
    · rw [if_pos h, ln_c15 _ (hl k)]; exact ff_lt th 16 (by omega) k
    · rw [if_neg h, ln_31 _ (hl k)]; exact u9_lt hl k
  · exact h0 dp (by omega)
theorem c_drunk {lev wt : Nat → Nat} (th : Nat → Bool) (hl : ∀ k, lev k < 16) (hk : ∀ k, wt k < 16) : f_X1_drunk (v9 wt) (w9 lev th) = some (w9 (fun k => if th k && decide (wt k ≤ lev k) then lev k - wt k else lev k) (fun k => th k && !decide (wt k ≤ lev k))) := by
  unfold f_X1_drunk
  have hu := u9_lt (th := th) hl
  have e1 : (w9 lev th ||| 18159675916816) - v9 wt = v9 (fun k => lev k + 16 - wt k) := by
    rw [c_THIRST, v9_or hu (fun _ => by omega), v9_congr (v := fun k => lev k + 16) (fun k _ => ln_o16 _ (hl k) _), v9_sub (fun k => by have := hl k; have := hk k; omega)]
  have h32 : ∀ k, lev k + 16 - wt k < 32 := fun k => by have := hl k; omega
  have e2 : v9 (fun k => lev k + 16 - wt k) &&& w9 lev th &&& 18159675916816 = v9 (fun k => if (fun k => th k && decide (wt k ≤ lev k)) k then 16 else 0) := by
    rw [c_THIRST, v9_and h32 hu, v9_and (fun k => Nat.and_lt_two_pow (n := 5) _ (by simpa using hu k)) (fun _ => by omega)]
    exact v9_congr (fun k _ => ln_d1 _ (hl k) _ (hk k) _)
  rw [e1, e2, c_numbersOf]
  simp only [Option.bind_some]
  rw [v9_and (fun k => by have := hk k; omega) (ff_lt _ 15 (by omega)), v9_sub, v9_sub]
  · refine congrArg some (v9_congr (fun k _ => ?_))
    show lev k + (if th k then 16 else 0) - (if (th k && decide (wt k ≤ lev k)) then 16 else 0) - (wt k &&& (if (th k && decide (wt k ≤ lev k)) then 15 else 0)) = _
    rw [ln_d2 _ (hk k)]
    cases ht : th k <;> by_cases hw : wt k ≤ lev k <;> simp [u9, ht, hw]
  · intro k
    show wt k &&& (if (th k && decide (wt k ≤ lev k)) then 15 else 0) ≤ lev k + (if th k then 16 else 0) - (if (th k && decide (wt k ≤ lev k)) then 16 else 0)
    rw [ln_d2 _ (hk k)]
    cases ht : th k <;> by_cases hw : wt k ≤ lev k <;> simp [hw]
  · intro k
    show (if (th k && decide (wt k ≤ lev k)) then 16 else 0) ≤ lev k + (if th k then 16 else 0)
    cases ht : th k <;> by_cases hw : wt k ≤ lev k <;> simp [hw]
def hb (n how : Nat) : Nat := if how = 0 then 1 else if how = 1 then n - 1 else 0
def rot (n how : Nat) (f : Nat → Nat) : Nat → Nat := fun k => if k < n then f ((k + n - hb n how) % n) else 0
def a_fill (dp : Nat) (lev : Nat → Nat) : Nat → Nat := fun k => if k = 0 then dp else lev k
def a_drL (wt lev : Nat → Nat) (th : Nat → Bool) : Nat → Nat := fun k => if th k && decide (wt k ≤ lev k) then lev k - wt k else lev k
def a_drT (wt lev : Nat → Nat) (th : Nat → Bool) : Nat → Bool := fun k => th k && !decide (wt k ≤ lev k)
def a_full (dp : Nat) (lev lk : Nat → Nat) : Nat → Nat := a_fill dp (fun k => lev k - lk k)
theorem c_step {lev lk wt : Nat → Nat} (th : Nat → Bool) {dp : Nat} (hl : ∀ k, lev k < 16) (hk : ∀ k, lk k < 16) (hw : ∀ k, wt k < 16) (hd : dp < 16) : f_X1_step (nI dp) (v9 wt) (w9 lev th) (v9 lk) = some (w9 (a_drL wt (a_full dp lev lk) th) (a_drT wt (a_full dp lev lk) th)) := by
  unfold f_X1_step
  rw [c_leaked th hl hk]
  simp only [Option.bind_some]
  rw [c_filled th (fun k => by have := hl k; omega) hd]
  simp only [Option.bind_some]
  rw [c_drunk th (fun k => by
    by_cases h : k = 0
    · simp only [h, if_true]; exact hd
    · simp only [h, if_false]; have := hl k; omega) hw]
  rfl
theorem s5 {n : Nat} (h1 : 1 ≤ n) : (5 : Int32) * (nI n - 1) = nI (5 * (n - 1)) := by
  rw [show (1 : Int32) = nI 1 from rfl, pk_sub h1, show (5 : Int32) = nI 5 from rfl, pk_mul]
theorem p5 (i : Nat) : (2 : Nat) ^ (5 * i) = 32 ^ i := by rw [Nat.pow_mul]
theorem v9_lev {lev : Nat → Nat} {th : Nat → Bool} (hl : ∀ k, lev k < 16) : w9 lev th &&& 17024696172015 = v9 lev := by
  rw [c_LEVELS, v9_and (u9_lt hl) (fun _ => by omega)]
  exact v9_congr (fun k _ => ln_a15 _ (hl k) _)
theorem v9_th {lev : Nat → Nat} {th : Nat → Bool} (hl : ∀ k, lev k < 16) : w9 lev th &&& 18159675916816 = v9 (fun k => if th k then 16 else 0) := by
  rw [c_THIRST, v9_and (u9_lt hl) (fun _ => by omega)]
  exact v9_congr (fun k _ => ln_a16 _ (hl k) _)
theorem v9_join {lev : Nat → Nat} {th : Nat → Bool} (hl : ∀ k, lev k < 16) : v9 (fun k => if th k then 16 else 0) ||| v9 lev = w9 lev th := by
  rw [v9_or (ff_lt th 16 (by omega)) (fun k => by have := hl k; omega)]
  exact v9_congr (fun k _ => ln_o _ (hl k) _)
theorem c_turned {n : Nat} {lev : Nat → Nat} (th : Nat → Bool) (how : Nat) (h3 : 3 ≤ n) (h9 : n ≤ 9) (hl : ∀ k, lev k < 16) (hz : ∀ k, n ≤ k → lev k = 0) : f_X1_turned (nI n) (w9 lev th) (mvI how) = some (w9 (rot n how lev) th) := by
  have l32 : ∀ k, lev k < 32 := fun k => by have := hl k; omega
  have fin : ∀ r : Nat → Nat, (∀ k, k < 9 → r k = rot n how lev k) → f_X1_turned_71 (w9 lev th) (v9 r) = some (w9 (rot n how lev) th) := by
    intro r hr
    have hrl : ∀ k, rot n how lev k < 16 := fun k => by
      unfold rot
      by_cases h : k < n
      · rw [if_pos h]; exact hl _
      · rw [if_neg h]; omega
    unfold f_X1_turned_71
    rw [v9_th hl, v9_congr hr, v9_join hrl]
  unfold f_X1_turned
  rw [v9_lev hl, s5 (by omega)]
  have hsz : pak 9 lev < 2 ^ 64 := Nat.lt_trans (pak_lt64 l32) (by decide)
  by_cases h0 : how = 0
  · subst h0
    rw [if_pos (show mvI 0 = 43 from rfl), show (15 : Int64) = lN 15 from rfl, wb_shl 15 (show 5 * (n - 1) < 64 by omega), p5, v9_one (n - 1) 15 (by omega), v9_clr l32 (fun k => by by_cases h : k = n - 1 <;> simp [h]), show (5 : Int32) = nI 5 from rfl, wb_shl _ (show 5 < 64 by omega), wb_shr hsz (show 5 * (n - 1) < 64 by omega), p5]
    have e1 : pak 9 (fun k => lev k &&& ((if k = n - 1 then 15 else 0) ^^^ 31)) = pak 9 (fun k => if k = n - 1 then 0 else lev k) := pak_congr 9 (fun k _ => by
      by_cases h : k = n - 1
      · rw [if_pos h, if_pos h]
        have := ln_c15 _ (hl k) false
        simpa using this
      · rw [if_neg h, if_neg h]
        have := ln_31 _ (hl k) false
        simpa using this)
    have e2 : pak 9 (fun k => if k = n - 1 then 0 else lev k) * 2 ^ 5 = pak 9 (fun k => if k = 0 then 0 else (if k - 1 = n - 1 then 0 else lev (k - 1))) := by
      have := pak_up 8 (v := fun k => if k = n - 1 then 0 else lev k) (by
        show (if 8 = n - 1 then 0 else lev 8) = 0
        by_cases h : 8 = n - 1
        · rw [if_pos h]
        · rw [if_neg h]; exact hz 8 (by omega))
      simpa using this
    have e3 : pak 9 lev / 32 ^ (n - 1) = lev (n - 1) := by
      have := pak_divi (n - 1) (9 - (n - 1)) l32
      rw [show 9 - (n - 1) + (n - 1) = 9 by omega] at this
      rw [this]
      obtain ⟨m, hm⟩ : ∃ m, 9 - (n - 1) = m + 1 := ⟨9 - (n - 1) - 1, by omega⟩
      rw [hm, pak_s, pak_zero m (fun k _ => hz _ (by omega))]
      simp
    rw [e1, e2, e3, show lN (lev (n - 1)) = lN (lev (n - 1) * 32 ^ 0) by simp, v9_one 0 (lev (n - 1)) (by omega), v9_or]
    · refine fin _ (fun k hk => ?_)
      unfold rot hb
      by_cases hk0 : k = 0
      · subst hk0
        rw [if_pos rfl, if_pos rfl, if_pos (by omega), if_pos rfl, Nat.zero_or, Nat.mod_eq_of_lt (by omega)]
        simp
      · rw [if_neg hk0, if_neg hk0, Nat.or_zero]
        by_cases hkn : k < n
        · rw [if_pos hkn, if_neg (by omega), if_pos rfl, show k + n - 1 = (k - 1) + n by omega, Nat.add_mod_right, Nat.mod_eq_of_lt (by omega)]
        · rw [if_neg hkn]
          by_cases h : k - 1 = n - 1
          · rw [if_pos h]
          · rw [if_neg h]; exact hz _ (by omega)
    · intro k
      by_cases h : k = 0
      · simp [h]
      · by_cases h2 : k - 1 = n - 1
        · simp [h2]
        · simp [h, h2]; exact l32 _
    · intro k
      by_cases h : k = 0
      · simp [h]; exact l32 _
      · simp [h]
  · by_cases h1 : how = 1
    · subst h1
      rw [if_neg (show ¬ mvI 1 = 43 by decide), if_pos (show mvI 1 = 45 from rfl), show (5 : Int32) = nI 5 from rfl, wb_shr hsz (show 5 < 64 by omega), show (15 : Int64) = v9 (fun k => if k = 0 then 15 else 0) by decide, v9_and l32 (fun k => by by_cases h : k = 0 <;> simp [h]), wb_shl _ (show 5 * (n - 1) < 64 by omega), p5]
      have e1 : pak 9 lev / 2 ^ 5 = pak 9 (fun k => if k < 8 then lev (k + 1) else 0) := by
        have := pak_div1 8 (v := lev) (l32 0)
        rw [show (2 : Nat) ^ 5 = 32 by decide, this, pak_last 8 (v := fun k => if k < 8 then lev (k + 1) else 0) (by simp)]
        exact pak_congr 8 (fun k hk => by simp [hk])
      have e2 : pak 9 (fun k => lev k &&& (if k = 0 then 15 else 0)) = lev 0 := by
        rw [pak_congr 9 (v := fun k => if k = 0 then lev 0 else 0) (fun k _ => by
          by_cases h : k = 0
          · subst h
            rw [if_pos rfl, if_pos rfl]
            have := ln_a15 _ (hl 0) false
            simpa using this
          · rw [if_neg h, if_neg h, Nat.and_zero]), pak_one 9 0 _ (by omega)]
        simp
      rw [e1, e2, v9_one (n - 1) (lev 0) (by omega), v9_or]
      · refine fin _ (fun k hk => ?_)
        unfold rot
        rw [show hb n 1 = n - 1 from rfl]
        by_cases hkn : k < n
        · rw [if_pos hkn, show k + n - (n - 1) = k + 1 by omega]
          by_cases h : k = n - 1
          · rw [if_pos h, h, show n - 1 + 1 = n by omega, Nat.mod_self]
            by_cases h8 : n - 1 < 8
            · rw [if_pos h8, hz n (by omega), Nat.zero_or]
            · rw [if_neg h8, Nat.zero_or]
          · rw [if_neg h, Nat.or_zero, if_pos (by omega), Nat.mod_eq_of_lt (by omega)]
        · rw [if_neg hkn, if_neg (show ¬ k = n - 1 by omega), Nat.or_zero]
          by_cases h8 : k < 8
          · rw [if_pos h8]; exact hz _ (by omega)
          · rw [if_neg h8]
      · intro k
        by_cases h : k < 8
        · simp [h]; exact l32 _
        · simp [h]
      · intro k
        by_cases h : k = n - 1
        · simp [h]; exact l32 _
        · simp [h]
    · rw [if_neg (show ¬ mvI how = 43 by unfold mvI; rw [if_neg h0, if_neg h1]; decide), if_neg (show ¬ mvI how = 45 by unfold mvI; rw [if_neg h0, if_neg h1]; decide)]
      refine fin _ (fun k hk => ?_)
      unfold rot hb
      rw [if_neg h0, if_neg h1]
      by_cases hkn : k < n
      · rw [if_pos hkn, Nat.sub_zero, Nat.add_mod_right, Nat.mod_eq_of_lt hkn]
      · rw [if_neg hkn]; exact hz _ (by omega)
