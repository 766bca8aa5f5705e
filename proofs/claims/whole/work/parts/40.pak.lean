/-! lanes of five bits, packed -/
def pak : Nat → (Nat → Nat) → Nat
  | 0, _ => 0
  | m + 1, v => v 0 + 32 * pak m (fun k => v (k + 1))
theorem pak_s (m : Nat) (v : Nat → Nat) : pak (m + 1) v = v 0 + 32 * pak m (fun k => v (k + 1)) := rfl
theorem pak_lt : ∀ (m : Nat) (v : Nat → Nat), (∀ k, v k < 32) → pak m v < 32 ^ m
  | 0, _, _ => by simp [pak]
  | m + 1, v, h => by
    have h1 := pak_lt m (fun k => v (k + 1)) (fun k => h (k + 1))
    have h0 := h 0
    rw [pak_s, Nat.pow_succ]
    omega
theorem pak_congr : ∀ (m : Nat) {u v : Nat → Nat}, (∀ k, k < m → u k = v k) → pak m u = pak m v
  | 0, _, _, _ => rfl
  | m + 1, u, v, h => by
    rw [pak_s, pak_s, h 0 (by omega), pak_congr m (u := fun k => u (k + 1)) (v := fun k => v (k + 1)) (fun k hk => h (k + 1) (by omega))]
theorem pak_tb (a A j : Nat) (ha : a < 32) : (a + 32 * A).testBit j = if j < 5 then a.testBit j else A.testBit (j - 5) := by
  have h := Nat.testBit_two_pow_mul_add A (i := 5) (b := a) (by simpa using ha) j
  rw [show a + 32 * A = 2 ^ 5 * A + a by omega]
  exact h
theorem lane_and {a b : Nat} (A B : Nat) (ha : a < 32) (hb : b < 32) : (a + 32 * A) &&& (b + 32 * B) = (a &&& b) + 32 * (A &&& B) := by
  have hc : a &&& b < 32 := Nat.and_lt_two_pow (n := 5) a (by simpa using hb)
  apply Nat.eq_of_testBit_eq
  intro j
  rw [Nat.testBit_and, pak_tb _ _ _ ha, pak_tb _ _ _ hb, pak_tb _ _ _ hc]
  by_cases h : j < 5
  · rw [if_pos h, if_pos h, if_pos h, Nat.testBit_and]
  · rw [if_neg h, if_neg h, if_neg h, Nat.testBit_and]
theorem lane_or {a b : Nat} (A B : Nat) (ha : a < 32) (hb : b < 32) : (a + 32 * A) ||| (b + 32 * B) = (a ||| b) + 32 * (A ||| B) := by
  have hc : a ||| b < 32 := Nat.or_lt_two_pow (n := 5) (by simpa using ha) (by simpa using hb)
  apply Nat.eq_of_testBit_eq
  intro j
  rw [Nat.testBit_or, pak_tb _ _ _ ha, pak_tb _ _ _ hb, pak_tb _ _ _ hc]
  by_cases h : j < 5
  · rw [if_pos h, if_pos h, if_pos h, Nat.testBit_or]
  · rw [if_neg h, if_neg h, if_neg h, Nat.testBit_or]
theorem lane_xor {a b : Nat} (A B : Nat) (ha : a < 32) (hb : b < 32) : (a + 32 * A) ^^^ (b + 32 * B) = (a ^^^ b) + 32 * (A ^^^ B) := by
  have hc : a ^^^ b < 32 := Nat.xor_lt_two_pow (n := 5) (by simpa using ha) (by simpa using hb)
  apply Nat.eq_of_testBit_eq
  intro j
  rw [Nat.testBit_xor, pak_tb _ _ _ ha, pak_tb _ _ _ hb, pak_tb _ _ _ hc]
  by_cases h : j < 5
  · rw [if_pos h, if_pos h, if_pos h, Nat.testBit_xor]
  · rw [if_neg h, if_neg h, if_neg h, Nat.testBit_xor]
theorem pak_and : ∀ (m : Nat) {u v : Nat → Nat}, (∀ k, u k < 32) → (∀ k, v k < 32) → pak m u &&& pak m v = pak m (fun k => u k &&& v k)
  | 0, _, _, _, _ => by simp [pak]
  | m + 1, u, v, hu, hv => by
    rw [pak_s, pak_s, pak_s, lane_and _ _ (hu 0) (hv 0), pak_and m (fun k => hu (k + 1)) (fun k => hv (k + 1))]
theorem pak_or : ∀ (m : Nat) {u v : Nat → Nat}, (∀ k, u k < 32) → (∀ k, v k < 32) → pak m u ||| pak m v = pak m (fun k => u k ||| v k)
  | 0, _, _, _, _ => by simp [pak]
  | m + 1, u, v, hu, hv => by
    rw [pak_s, pak_s, pak_s, lane_or _ _ (hu 0) (hv 0), pak_or m (fun k => hu (k + 1)) (fun k => hv (k + 1))]
theorem pak_xor : ∀ (m : Nat) {u v : Nat → Nat}, (∀ k, u k < 32) → (∀ k, v k < 32) → pak m u ^^^ pak m v = pak m (fun k => u k ^^^ v k)
  | 0, _, _, _, _ => by simp [pak]
  | m + 1, u, v, hu, hv => by
    rw [pak_s, pak_s, pak_s, lane_xor _ _ (hu 0) (hv 0), pak_xor m (fun k => hu (k + 1)) (fun k => hv (k + 1))]
theorem pak_add : ∀ (m : Nat) (u v : Nat → Nat), pak m u + pak m v = pak m (fun k => u k + v k)
  | 0, _, _ => rfl
  | m + 1, u, v => by
    rw [pak_s, pak_s, pak_s, ← pak_add m]
    omega
theorem pak_sub_le (m : Nat) {u v : Nat → Nat} (h : ∀ k, k < m → v k ≤ u k) : pak m v ≤ pak m u ∧ pak m u - pak m v = pak m (fun k => u k - v k) := by
  have e : pak m (fun k => u k - v k) + pak m v = pak m u := by
    rw [pak_add]
    exact pak_congr m (fun k hk => Nat.sub_add_cancel (h k hk))
  omega
theorem pak_div1 (m : Nat) {v : Nat → Nat} (h : v 0 < 32) : pak (m + 1) v / 32 = pak m (fun k => v (k + 1)) := by
  rw [pak_s]
  omega
theorem pak_divi : ∀ (i m : Nat) {v : Nat → Nat}, (∀ k, v k < 32) → pak (m + i) v / 32 ^ i = pak m (fun k => v (k + i))
  | 0, m, v, _ => by simp
  | i + 1, m, v, h => by
    have e : pak (m + (i + 1)) v / 32 = pak (m + i) (fun k => v (k + 1)) := pak_div1 (m + i) (h 0)
    rw [Nat.pow_succ, Nat.mul_comm, ← Nat.div_div_eq_div_mul, e, pak_divi i m (fun k => h (k + 1))]
    exact pak_congr m (fun k _ => by rw [show k + i + 1 = k + (i + 1) by omega])
theorem pak_zero : ∀ (m : Nat) {v : Nat → Nat}, (∀ k, k < m → v k = 0) → pak m v = 0
  | 0, _, _ => rfl
  | m + 1, v, h => by
    rw [pak_s, h 0 (by omega), pak_zero m (fun k hk => h (k + 1) (by omega))]
/-- only lane i -/
theorem pak_one : ∀ (m i c : Nat), i < m → pak m (fun k => if k = i then c else 0) = c * 32 ^ i
  | 0, _, _, h => absurd h (Nat.not_lt_zero _)
  | m + 1, 0, c, _ => by
    rw [pak_s, if_pos rfl, pak_zero m (fun k _ => if_neg (by omega))]
    simp
  | m + 1, i + 1, c, h => by
    rw [pak_s, if_neg (by omega)]
    have e : pak m (fun k => if k + 1 = i + 1 then c else 0) = pak m (fun k => if k = i then c else 0) := pak_congr m (fun k _ => by simp)
    rw [e, pak_one m i c (by omega), Nat.pow_succ, Nat.zero_add, Nat.mul_comm (32 ^ i) 32, Nat.mul_left_comm]
theorem pak_last : ∀ (m : Nat) {v : Nat → Nat}, v m = 0 → pak (m + 1) v = pak m v
  | 0, v, h => by rw [pak_s, h]; rfl
  | m + 1, v, h => by
    rw [pak_s (m + 1) v, pak_last m (v := fun k => v (k + 1)) h]
    rfl
/-- all lanes one up, from a last lane that is empty -/
theorem pak_up (m : Nat) {v : Nat → Nat} (h : v m = 0) : pak (m + 1) v * 32 = pak (m + 1) (fun k => if k = 0 then 0 else v (k - 1)) := by
  have e1 : pak (m + 2) (fun k => if k = 0 then 0 else v (k - 1)) = pak (m + 1) v * 32 := by
    rw [pak_s, if_pos rfl]
    have : pak (m + 1) (fun k => if k + 1 = 0 then 0 else v (k + 1 - 1)) = pak (m + 1) v := pak_congr _ (fun k _ => by simp)
    rw [this]
    omega
  rw [← e1]
  exact pak_last (m + 1) (by simp [h])
theorem pak_mul : ∀ (m c : Nat) (v : Nat → Nat), pak m (fun k => c * v k) = c * pak m v
  | 0, _, _ => by simp [pak]
  | m + 1, c, v => by
    rw [pak_s, pak_s, pak_mul m c (fun k => v (k + 1)), Nat.mul_add, Nat.mul_left_comm]
theorem pak_lt64 {v : Nat → Nat} (h : ∀ k, v k < 32) : pak 9 v < 2 ^ 45 := by
  have := pak_lt 9 v h
  rwa [show (32 : Nat) ^ 9 = 2 ^ 45 by decide] at this
