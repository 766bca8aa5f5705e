/-! served DOORS as bits -/
theorem sbit_tb : ∀ (n : Nat) (th : Nat → Bool) (i : Nat), (sbit n th).testBit i = (decide (i < n) && !th i)
  | 0, _, i => by simp [sbit]
  | n + 1, th, i => by
    have ih := sbit_tb n th i
    have hlt := sbit_lt n th
    simp only [sbit]
    cases hn : th n
    · rw [if_neg (by decide), Nat.add_comm, show 2 ^ n + sbit n th = 2 ^ n * 1 + sbit n th by omega, Nat.testBit_two_pow_mul_add 1 hlt]
      by_cases h : i < n
      · rw [if_pos h, ih]; simp [h, Nat.lt_succ_of_lt h]
      · rw [if_neg h]
        by_cases h2 : i = n
        · subst h2; simp [hn]
        · have h3 : ¬ i < n + 1 := by omega
          have h4 : (1 : Nat).testBit (i - n) = false := Nat.testBit_lt_two_pow (Nat.one_lt_two_pow (by omega))
          simp [h3, h4]
    · rw [if_pos rfl, Nat.add_zero, ih]
      by_cases h : i < n
      · simp [h, Nat.lt_succ_of_lt h]
      · by_cases h2 : i = n
        · subst h2; simp [hn]
        · have h3 : ¬ i < n + 1 := by omega
          simp [h, h3]
theorem sbit_ext {D n : Nat} {th : Nat → Bool} (h : ∀ i, D.testBit i = (decide (i < n) && !th i)) : D = sbit n th := Nat.eq_of_testBit_eq (fun i => by rw [h, sbit_tb])
theorem sbit_congr {n : Nat} {th th' : Nat → Bool} (h : ∀ i, i < n → th i = th' i) : sbit n th = sbit n th' := sbit_ext (fun i => by
  rw [sbit_tb]
  by_cases hi : i < n
  · rw [h i hi]
  · simp [hi])
theorem sbit_lt31 {n : Nat} (th : Nat → Bool) (h : n ≤ 9) : sbit n th < 2 ^ 9 := Nat.lt_of_lt_of_le (sbit_lt n th) (Nat.pow_le_pow_right (by omega) h)
/-- a door's bit, asked by the reference -/
theorem bit_ask {n d : Nat} (th : Nat → Bool) (h9 : n ≤ 9) (hd : d < n) : (nI (sbit n th) >>> (nI d &&& 31)) &&& 1 = nI (if th d then 0 else 1) := by
  have hlt := sbit_lt31 th h9
  rw [pk_shrN (by omega) (nI d &&& 31) d (s_l d (by omega)), pk_andN (Nat.lt_of_le_of_lt (Nat.div_le_self _ _) (by omega)) 1 (by decide)]
  have h := sbit_tb n th d
  rw [Nat.testBit_eq_decide_div_mod_eq] at h
  simp only [hd, decide_true, Bool.true_and] at h
  cases ht : th d
  · rw [ht] at h
    simp at h
    rw [if_neg (by decide), show 2 ^ 1 = 2 by decide, h]
  · rw [ht] at h
    simp at h
    rw [if_pos rfl, show 2 ^ 1 = 2 by decide, h]
def thset (th : Nat → Bool) (d : Nat) (b : Bool) : Nat → Bool := fun j => if j = d then b else th j
theorem bit_set {n d : Nat} (th : Nat → Bool) (hd : d < n) (h9 : n ≤ 9) : nI (sbit n th) ||| ((1 : Int32) <<< (nI d &&& 31)) = nI (sbit n (thset th d false)) := by
  rw [shl1 (by omega), fa_or]
  refine congrArg nI (sbit_ext (fun i => ?_))
  rw [fb_bit_set, sbit_tb]
  by_cases h : i = d
  · subst h; simp [thset, hd]
  · simp [thset, h]
theorem bit_clear {n d : Nat} (th : Nat → Bool) (hd : d < n) (h9 : n ≤ 9) : nI (sbit n th) &&& (((1 : Int32) <<< (nI d &&& 31)) ^^^ (-1)) = nI (sbit n (thset th d true)) := by
  rw [shl1 (by omega), show (-1 : Int32) = nI (2 ^ 32 - 1) by decide, fb_xorI, fa_and]
  refine congrArg nI (sbit_ext (fun i => ?_))
  rw [Nat.testBit_and, Nat.testBit_xor, Nat.testBit_two_pow_sub_one, sbit_tb, Nat.testBit_two_pow]
  by_cases h : i = d
  · subst h
    have : i < 32 := by omega
    simp [thset, this]
  · by_cases h2 : i < n
    · have : i < 32 := by omega
      have h3 : ¬ d = i := fun e => h e.symm
      simp [thset, h, h2, this, h3]
    · simp [h2]
/-- new bits: those of the one that the other has not -/
theorem bit_new {n : Nat} (th th' : Nat → Bool) (h9 : n ≤ 9) : nI (sbit n th') &&& (nI (sbit n th) ^^^ (-1)) = nI (sbit n (fun j => th' j || !th j)) := by
  rw [show (-1 : Int32) = nI (2 ^ 32 - 1) by decide, fb_xorI, fa_and]
  refine congrArg nI (sbit_ext (fun i => ?_))
  rw [Nat.testBit_and, Nat.testBit_xor, Nat.testBit_two_pow_sub_one, sbit_tb, sbit_tb]
  by_cases h2 : i < n
  · have : i < 32 := by omega
    cases th i <;> cases th' i <;> simp [h2, this]
  · simp [h2]
/-- all doors of a set are served -/
theorem bits_all {n : Nat} (th dd : Nat → Bool) (h9 : n ≤ 9) : (nI (sbit n th) &&& nI (sbit n dd) = nI (sbit n dd)) ↔ ∀ i, i < n → dd i = false → th i = false := by
  have h1 := sbit_lt31 th h9
  have h2 := sbit_lt31 dd h9
  have h3 : sbit n th &&& sbit n dd < 2 ^ 9 := Nat.and_lt_two_pow _ h2
  rw [fa_and, nI_eq (by omega) (by omega)]
  constructor
  · intro h i hi hd
    have e := congrArg (fun x => x.testBit i) h
    simp only [Nat.testBit_and, sbit_tb, hi, hd] at e
    simpa using e
  · intro h
    apply Nat.eq_of_testBit_eq
    intro i
    rw [Nat.testBit_and, sbit_tb, sbit_tb]
    by_cases hi : i < n
    · cases hd : dd i
      · rw [h i hi hd]; simp [hi]
      · simp
    · simp [hi]
theorem all_bits {n : Nat} (h9 : n ≤ 9) : ((1 : Int32) <<< (nI n &&& 31)) - 1 = nI (sbit n (fun _ => false)) := by
  rw [shl1 (by omega), show (1 : Int32) = nI 1 from rfl, pk_sub (Nat.one_le_two_pow)]
  refine congrArg nI (sbit_ext (fun i => ?_))
  rw [Nat.testBit_two_pow_sub_one]
  simp
theorem one_bit {n d : Nat} (hd : d < n) (h9 : n ≤ 9) : (1 : Int32) <<< (nI d &&& 31) = nI (sbit n (fun j => !decide (j = d))) := by
  rw [shl1 (by omega)]
  refine congrArg nI (sbit_ext (fun i => ?_))
  rw [Nat.testBit_two_pow]
  by_cases h : i = d
  · subst h; simp [hd]
  · have h3 : ¬ d = i := fun e => h e.symm
    simp [h, h3]
