/-! a wheel with its doors, pulled: by places -/
abbrev AS : Type := (Nat → Nat) × (Nat → Nat) × (Nat → Bool)
def aFull (n dp how : Nat) (a : AS) : Nat → Nat := a_full dp (rot n how a.1) (rot n how a.2.1)
def aP (n dp : Nat) (wt : Nat → Nat) (how : Nat) (a : AS) : AS := (a_drL wt (aFull n dp how a) a.2.2, rot n how a.2.1, a_drT wt (aFull n dp how a) a.2.2)
def aOK (n dp : Nat) (a : AS) : Prop := (∀ k, a.1 k ≤ dp) ∧ (∀ k, n ≤ k → a.1 k = 0) ∧ (∀ k, a.2.1 k ≤ 9) ∧ (∀ k, n ≤ k → a.2.1 k = 0) ∧ (∀ k, n ≤ k → a.2.2 k = false)
def wOK (n dp : Nat) (wt : Nat → Nat) : Prop := 3 ≤ n ∧ n ≤ 9 ∧ 1 ≤ dp ∧ dp ≤ 9 ∧ (∀ k, wt k ≤ 9) ∧ (∀ k, n ≤ k → wt k = 0)
theorem rot_le {n how b : Nat} {f : Nat → Nat} (h : ∀ k, f k ≤ b) (k : Nat) : rot n how f k ≤ b := by
  unfold rot
  by_cases q : k < n
  · rw [if_pos q]; exact h _
  · rw [if_neg q]; exact Nat.zero_le _
theorem rot_z {n how : Nat} {f : Nat → Nat} {k : Nat} (h : n ≤ k) : rot n how f k = 0 := if_neg (by omega)
theorem full_le {n dp how : Nat} {a : AS} (h : aOK n dp a) (k : Nat) : aFull n dp how a k ≤ dp := by
  unfold aFull a_full a_fill
  dsimp only
  by_cases q : k = 0
  · rw [if_pos q]; exact Nat.le_refl _
  · rw [if_neg q]
    have := rot_le (n := n) (how := how) h.1 k
    omega
theorem full_z {n dp how : Nat} {a : AS} (h3 : 3 ≤ n) {k : Nat} (hk : n ≤ k) : aFull n dp how a k = 0 := by
  unfold aFull a_full a_fill
  dsimp only
  rw [if_neg (by omega), rot_z hk, Nat.zero_sub]
theorem drL_le {wt lev : Nat → Nat} {th : Nat → Bool} (k : Nat) : a_drL wt lev th k ≤ lev k := by
  unfold a_drL
  by_cases q : (th k && decide (wt k ≤ lev k)) = true
  · rw [if_pos q]; omega
  · rw [if_neg q]; exact Nat.le_refl _
theorem aP_ok {n dp how : Nat} {wt : Nat → Nat} {a : AS} (hw : wOK n dp wt) (h : aOK n dp a) : aOK n dp (aP n dp wt how a) := by
  refine ⟨fun k => Nat.le_trans (drL_le k) (full_le h k), fun k hk => ?_, fun k => rot_le h.2.2.1 k, fun k hk => rot_z hk, fun k hk => ?_⟩
  · have h1 : a_drL wt (aFull n dp how a) a.2.2 k ≤ 0 := by
      have := drL_le (wt := wt) (lev := aFull n dp how a) (th := a.2.2) k
      rwa [full_z hw.1 hk] at this
    exact Nat.le_zero.mp h1
  · show (a.2.2 k && _) = false
    rw [h.2.2.2.2 k hk]; rfl
theorem lt16 {b : Nat} (hb : b ≤ 9) {f : Nat → Nat} (h : ∀ k, f k ≤ b) (k : Nat) : f k < 16 := by have := h k; omega
/-- the class: leaks turn, the wheel turns, and the rest of the PULL -/
theorem cl_leaks {n dp how : Nat} {wt : Nat → Nat} {a : AS} (hw : wOK n dp wt) (h : aOK n dp a) : f_X1_turned (nI n) (v9 a.2.1) (mvI how) = some (v9 (aP n dp wt how a).2.1) :=
  c_turnedV how hw.1 hw.2.1 (lt16 (by omega) h.2.2.1) h.2.2.2.1
theorem cl_wheel {n dp how : Nat} {wt : Nat → Nat} {a : AS} (hw : wOK n dp wt) (h : aOK n dp a) : f_X1_turned (nI n) (w9 a.1 a.2.2) (mvI how) = some (w9 (rot n how a.1) a.2.2) :=
  c_turned a.2.2 how hw.1 hw.2.1 (lt16 hw.2.2.2.1 h.1) h.2.1
theorem cl_step {n dp how : Nat} {wt : Nat → Nat} {a : AS} (hw : wOK n dp wt) (h : aOK n dp a) : f_X1_step (nI dp) (v9 wt) (w9 (rot n how a.1) a.2.2) (v9 (aP n dp wt how a).2.1) = some (w9 (aP n dp wt how a).1 (aP n dp wt how a).2.2) :=
  c_step a.2.2 (lt16 hw.2.2.2.1 (rot_le h.1)) (lt16 (by omega) (rot_le h.2.2.1)) (lt16 (by omega) hw.2.2.2.2.1) (by have := hw.2.2.2.1; omega)
-- what flows
def cD (n dp how : Nat) (a : AS) : Nat := dp - (rot n how a.1 0 - rot n how a.2.1 0)
def cL (n how : Nat) (a : AS) : Nat := lsum n (fun q => rot n how a.1 q - (rot n how a.1 q - rot n how a.2.1 q))
def cK (n dp : Nat) (wt : Nat → Nat) (how : Nat) (a : AS) : Nat := lsum n (fun d => if a.2.2 d && decide (wt d ≤ aFull n dp how a d) then wt d else 0)
def cT (n dp : Nat) (wt : Nat → Nat) (how : Nat) (a : AS) : Nat := lsum n (fun d => if a.2.2 d && decide (wt d ≤ aFull n dp how a d) then 1 else 0)
/-- the reference's run stands at a -/
def mR (n : Nat) (pi : Nat → Nat) (a : AS) (at_ has leaks : Nat → Int32) : Prop := PM n pi ∧ RM n pi a.1 at_ has ∧ ∀ p, p < n → leaks (pi p) = nI (a.2.1 p)
theorem ml_pull {n dp how : Nat} {wt pi : Nat → Nat} {a : AS} {D Lq K T : Nat} {moved at_ has leaks wants : Nat → Int32} (hw : wOK n dp wt) (h : aOK n dp a) (hhow : how < 3) (hm : mR n pi a at_ has leaks) (hwt : ∀ d, d < n → wants d = nI (wt d)) :
    ∃ moved' at' has', f_X12_pullBy (nI n) (nI dp) (nI (sbit n a.2.2)) (nI D) (nI Lq) (nI K) (nI T) moved at_ has leaks wants (nI how) = some (nI (sbit n (aP n dp wt how a).2.2), nI (D + cD n dp how a), nI (Lq + cL n how a), nI (K + cK n dp wt how a), nI (T + cT n dp wt how a), moved', at', has') ∧ mR n (rotp n how pi) (aP n dp wt how a) at' has' leaks := by
  obtain ⟨hpi, hR, hlk⟩ := hm
  obtain ⟨moved', at', has', e, r⟩ := pullBy_ok (th := a.2.2) (D := D) (Lq := Lq) (K := K) (T := T) (moved := moved) hw.1 hw.2.1 hhow hpi hR hlk hwt h.1 (by have := hw.2.2.2.1; omega) (lt16 (by omega) h.2.2.1) (lt16 (by omega) hw.2.2.2.2.1)
  refine ⟨moved', at', has', e, hpi.rot how hw.1, r, fun p hp => ?_⟩
  show leaks (rotp n how pi p) = nI (rot n how a.2.1 p)
  rw [rot_in hp]
  exact hlk _ (back_in (hb_lt hw.1))
/-- doors that are served stay so -/
theorem aP_served {n dp how : Nat} {wt : Nat → Nat} {a : AS} {d : Nat} (h : a.2.2 d = false) : (aP n dp wt how a).2.2 d = false := by
  show (a.2.2 d && _) = false
  rw [h]; rfl
/-- a row of pulls -/
def aRun (n dp : Nat) (wt : Nat → Nat) : List Nat → AS → AS
  | [], a => a
  | h :: t, a => aRun n dp wt t (aP n dp wt h a)
theorem aRun_ok {n dp : Nat} {wt : Nat → Nat} (hw : wOK n dp wt) : ∀ (l : List Nat) {a : AS}, aOK n dp a → aOK n dp (aRun n dp wt l a)
  | [], _, h => h
  | _ :: t, _, h => aRun_ok hw t (aP_ok hw h)
theorem aRun_app {n dp : Nat} {wt : Nat → Nat} : ∀ (l m : List Nat) (a : AS), aRun n dp wt (l ++ m) a = aRun n dp wt m (aRun n dp wt l a)
  | [], _, _ => rfl
  | _ :: t, m, a => aRun_app t m _
theorem aRun_served {n dp : Nat} {wt : Nat → Nat} {d : Nat} : ∀ (l : List Nat) {a : AS}, a.2.2 d = false → (aRun n dp wt l a).2.2 d = false
  | [], _, h => h
  | _ :: t, _, h => aRun_served t (aP_served h)
