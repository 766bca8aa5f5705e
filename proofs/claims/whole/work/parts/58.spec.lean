/-! what the searches' keeps hold (filled in by the parts that prove them) -/
def FewOK (n dp : Nat) (wt : Nat → Nat) (a : AS) (r row : Int32) : Prop := ∃ o, isF n dp wt (fun _ => true) 15 a o ∧ r = bestI o ∧ row = rowI o
def HungOK (n t dp : Nat) (wt : Nat → Nat) (a : AS) (best : Int32) (ord : Nat → Int32) : Prop := ∃ o, hg_S n t dp wt a (n ^ n) o ord ∧ best = hg_b o
def CameOK (n dp : Nat) (wt : Nat → Nat) (a : AS) (c : Nat) (bh dr : Nat → Nat) (sv : Nat → Bool) (m cnt : Int32) (first could : Nat → Int32) : Prop := ∃ mm, mm ≤ 10 ∧ m = nI mm ∧ cnt = nI (ct n dp wt c bh dr sv mm 0 a) ∧ (∀ i, i < mm → could i = nI (sb3 (cd n dp wt c bh dr sv mm 0 a i))) ∧ (0 < ct n dp wt c bh dr sv mm 0 a → ∀ i, i < mm → first i = mvI (fi n dp wt c bh dr sv mm 0 a i))
