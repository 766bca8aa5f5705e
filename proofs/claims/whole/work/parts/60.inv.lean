/-! the states of class and reference, side by side -/
def tpi (n t : Nat) : Nat → Nat := fun p => (p + n - t) % n
def cOK (n t dp : Nat) (wt : Nat → Nat) (a : AS) : Prop := wOK n dp wt ∧ aOK n dp a ∧ t < n ∧ ∀ d, a.2.2 d = true → 1 ≤ wt d
def CR (n t dp : Nat) (wt : Nat → Nat) (a : AS) (pl de tu : Int32) (wh le wa : Int64) : Prop := pl = nI n ∧ de = nI dp ∧ tu = nI t ∧ wh = w9 a.1 a.2.2 ∧ le = v9 a.2.1 ∧ wa = v9 wt
def MC (n t dp : Nat) (wt : Nat → Nat) (a : AS) (pl de se : Int32) (pa ho le wa : Nat → Int32) : Prop := pl = nI n ∧ de = nI dp ∧ se = nI (sbit n a.2.2) ∧ mR n (tpi n t) a pa ho le ∧ ∀ d, d < n → wa d = nI (wt d)
def CH (n t dp : Nat) (wt : Nat → Nat) (a : AS) (pl de tu : Int32) (wh le wa : Int64) (mpl mde mse : Int32) (mpa mho mle mwa : Nat → Int32) : Prop := cOK n t dp wt a ∧ CR n t dp wt a pl de tu wh le wa ∧ MC n t dp wt a mpl mde mse mpa mho mle mwa
def wcode : List Bool → Nat := fun l => l.foldl (fun c b => 2 * c + (if b then 1 else 0)) 1
def sgb (b : Bool) : Int32 := if b then 45 else 43
def WRd (w : Nat) (W : Nat → List Bool) (cc : Int32) (sg ln : Nat → Int32) (mc : Int32) (mw : Nat → Int32) : Prop := w ≤ 8 ∧ cc = nI w ∧ mc = nI w ∧ (∀ k, k < w → 1 ≤ (W k).length ∧ (W k).length ≤ 8 ∧ ln k = nI (W k).length ∧ (∀ i, i < (W k).length → sg (8 * k + i) = sgb ((W k).getD i false)) ∧ mw k = nI (wcode (W k))) ∧ ∀ j k, j < k → k < w → W j ≠ W k
def b01 (b : Bool) : Int32 := if b then 1 else 0
def SI (n c : Nat) (bh dr : Nat → Nat) (sv : Nat → Bool) (cc : Int32) (b d s : Nat → Int32) (mc : Int32) (mb md ms : Nat → Int32) : Prop := c ≤ 6 ∧ cc = nI c ∧ mc = nI c ∧ ∀ i, i < c → (b i = nI (bh i) ∧ mb i = nI (bh i) ∧ bh i ≤ 10) ∧ (d i = nI (dr i) ∧ md i = nI (dr i) ∧ dr i < n) ∧ s i = b01 (sv i) ∧ ms i = b01 (sv i)
def PD (c : Nat) (cc mc : Int32) (s m : Nat → Int32) : Prop := c ≤ 40 ∧ cc = nI c ∧ mc = nI c ∧ ∀ i, i < c → s i = m i
def IM (o : Nat) (kp mk : Int32) (pl de tu : Int32) (wh le wa : Int64) (wc : Int32) (wsg wln : Nat → Int32) (sc : Int32) (sb sd ss : Nat → Int32) (K : Nat → Int32) : Prop := ∃ b : Bool, kp = b01 b ∧ mk = b01 b ∧ (b = true → ∃ (n t dp w c : Nat) (wt : Nat → Nat) (a : AS) (W : Nat → List Bool) (bh dr : Nat → Nat) (sv : Nat → Bool),
  CH n t dp wt a pl de tu wh le wa (K o) (K (o + 1)) (K (o + 2)) (fun p => K (o + 5 + 4 * p)) (fun p => K (o + 6 + 4 * p)) (fun p => K (o + 7 + 4 * p)) (fun p => K (o + 8 + 4 * p)) ∧ WRd w W wc wsg wln (K (o + 3)) (fun k => K (o + 41 + k)) ∧ SI n c bh dr sv sc sb sd ss (K (o + 4)) (fun k => K (o + 49 + 3 * k)) (fun k => K (o + 50 + 3 * k)) (fun k => K (o + 51 + 3 * k)))
def Cache (ch : Nat) (At : Int32) (V : Prop) : Prop := (At = -1 ∨ ∃ f, f ≤ ch ∧ At = nI f) ∧ (At = nI ch → V)
def Inv (j : Nat) (sI : Nat → Int32) (sJ : Nat → Int64) (sA : Nat → Nat → Int32) (sB : Nat → Nat → Int64) : Prop := ∃ (ch pc n t dp w c : Nat) (wt : Nat → Nat) (a : AS) (W : Nat → List Bool) (bh dr : Nat → Nat) (sv : Nat → Bool),
  ch ≤ j ∧ sI 0 = nI ch ∧ PD pc (sI 6) (sI 46) (sA 0) (sA 32) ∧ CH n t dp wt a (sI 7) (sI 8) (sI 9) (sJ 0) (sJ 1) (sJ 2) (sI 41) (sI 42) (sI 43) (sA 43) (sA 44) (sA 45) (sA 46) ∧ WRd w W (sI 10) (sA 1) (sA 2) (sI 44) (sA 28) ∧ SI n c bh dr sv (sI 11) (sA 5) (sA 6) (sA 7) (sI 45) (sA 29) (sA 30) (sA 31) ∧
  IM 0 (sI 12) (sA 42 0) (sI 13) (sI 14) (sI 15) (sJ 3) (sJ 4) (sJ 5) (sI 16) (sA 8) (sA 9) (sI 17) (sA 12) (sA 13) (sA 14) (sA 41) ∧ IM 100 (sI 18) (sA 42 1) (sI 19) (sI 20) (sI 21) (sJ 6) (sJ 7) (sJ 8) (sI 22) (sA 15) (sA 16) (sI 23) (sA 19) (sA 20) (sA 21) (sA 41) ∧
  Cache ch (sI 1) (FewOK n dp wt a (sI 4) (sI 5)) ∧ Cache ch (sI 2) (HungOK n t dp wt a (sI 34) (sA 24)) ∧ Cache ch (sI 3) (CameOK n dp wt a c bh dr sv (sI 38) (sI 39) (sA 26) (sA 27))
theorem Inv_grow {j : Nat} {sI : Nat → Int32} {sJ : Nat → Int64} {sA : Nat → Nat → Int32} {sB : Nat → Nat → Int64} (h : Inv j sI sJ sA sB) : Inv (j + 6) sI sJ sA sB := by
  obtain ⟨ch, pc, n, t, dp, w, c, wt, a, W, bh, dr, sv, h1, h2⟩ := h
  exact ⟨ch, pc, n, t, dp, w, c, wt, a, W, bh, dr, sv, by omega, h2⟩
theorem Cache.next {ch : Nat} {At : Int32} {V : Prop} (h : Cache ch At V) (hb : ch < 4000) (V' : Prop) : Cache (ch + 1) At V' := by
  rcases h.1 with e | ⟨f, hf, e⟩
  · refine ⟨Or.inl e, fun q => ?_⟩
    rw [e] at q
    have q2 := congrArg Int32.toInt q
    rw [nI_toInt (by omega)] at q2
    exact absurd q2 (by rw [show (-1 : Int32).toInt = -1 from rfl]; omega)
  · refine ⟨Or.inr ⟨f, by omega, e⟩, fun q => ?_⟩
    rw [e, nI_eq (by omega) (by omega)] at q
    omega
