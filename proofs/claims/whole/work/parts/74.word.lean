/-! words -/
theorem wcode_app (l : List Bool) (b : Bool) : wcode (l ++ [b]) = 2 * wcode l + (if b then 1 else 0) := by
  unfold wcode
  rw [List.foldl_append]
  rfl
def rcode : List Bool → Nat
  | [] => 1
  | b :: l => 2 * rcode l + (if b then 1 else 0)
theorem rcode_pos : ∀ l, 1 ≤ rcode l
  | [] => Nat.le_refl _
  | b :: l => by have := rcode_pos l; unfold rcode; omega
theorem rcode_inj : ∀ {l m : List Bool}, rcode l = rcode m → l = m
  | [], [], _ => rfl
  | [], b :: m, h => by have := rcode_pos m; unfold rcode at h; cases b <;> simp at h <;> omega
  | b :: l, [], h => by have := rcode_pos l; unfold rcode at h; cases b <;> simp at h <;> omega
  | b :: l, c :: m, h => by
    unfold rcode at h
    have hb : b = c := by cases b <;> cases c <;> simp at h <;> first | rfl | omega
    subst hb
    have : rcode l = rcode m := by cases b <;> simp at h <;> omega
    rw [rcode_inj this]
theorem wcode_r (l : List Bool) : wcode l.reverse = rcode l := by
  induction l with
  | nil => rfl
  | cons b l ih => rw [List.reverse_cons, wcode_app, ih, rcode]
theorem wcode_inj {l m : List Bool} (h : wcode l = wcode m) : l = m := by
  have e1 := wcode_r l.reverse
  have e2 := wcode_r m.reverse
  rw [List.reverse_reverse] at e1 e2
  rw [e1, e2] at h
  have := congrArg List.reverse (rcode_inj h)
  rwa [List.reverse_reverse, List.reverse_reverse] at this
theorem rcode_lt : ∀ l : List Bool, 2 ^ l.length ≤ rcode l ∧ rcode l < 2 ^ (l.length + 1)
  | [] => by simp [rcode]
  | b :: l => by
    obtain ⟨h1, h2⟩ := rcode_lt l
    rw [List.length_cons, rcode, Nat.pow_succ, Nat.pow_succ]
    rw [Nat.pow_succ] at h2
    cases b <;> simp <;> omega
theorem wcode_lt (l : List Bool) : 2 ^ l.length ≤ wcode l ∧ wcode l < 2 ^ (l.length + 1) := by
  have e1 := wcode_r l.reverse
  rw [List.reverse_reverse] at e1
  have := rcode_lt l.reverse
  rw [List.length_reverse] at this
  rw [e1]
  exact this
theorem wcode_8 {l : List Bool} (h : l.length ≤ 8) : 1 ≤ wcode l ∧ wcode l < 512 := by
  obtain ⟨h1, h2⟩ := wcode_lt l
  have : 2 ^ (l.length + 1) ≤ 2 ^ 9 := Nat.pow_le_pow_right (by omega) (by omega)
  have h3 : 0 < 2 ^ l.length := Nat.pow_pos (by omega)
  omega
/-- the signs on the pad -/
def pdl (s : Nat → Int32) : Nat → List Bool
  | 0 => []
  | k + 1 => pdl s k ++ [decide (s k = 45)]
theorem pdl_len (s : Nat → Int32) : ∀ k, (pdl s k).length = k
  | 0 => rfl
  | k + 1 => by rw [pdl, List.length_append, pdl_len s k]; rfl
theorem gd_app_l {l m : List Bool} {i : Nat} (h : i < l.length) : (l ++ m).getD i false = l.getD i false := by
  rw [List.getD_eq_getElem?_getD, List.getD_eq_getElem?_getD, List.getElem?_append_left h]
theorem gd_app_r {l m : List Bool} {i : Nat} (h : l.length ≤ i) : (l ++ m).getD i false = m.getD (i - l.length) false := by
  rw [List.getD_eq_getElem?_getD, List.getD_eq_getElem?_getD, List.getElem?_append_right h]
theorem gd_el {l : List Bool} {i : Nat} (h : i < l.length) : l.getD i false = l[i] := by
  rw [List.getD_eq_getElem?_getD, List.getElem?_eq_getElem h]; rfl
theorem pdl_get (s : Nat → Int32) : ∀ (k i : Nat), i < k → (pdl s k).getD i false = decide (s i = 45)
  | 0, i, h => absurd h (Nat.not_lt_zero i)
  | k + 1, i, h => by
    rw [pdl]
    by_cases e : i = k
    · subst e
      rw [gd_app_r (by rw [pdl_len]; exact Nat.le_refl _), pdl_len, Nat.sub_self]
      rfl
    · rw [gd_app_l (by rw [pdl_len]; omega)]
      exact pdl_get s k i (by omega)
theorem list_get_ext {l m : List Bool} (h : l.length = m.length) (hg : ∀ i, i < l.length → l.getD i false = m.getD i false) : l = m := by
  refine List.ext_getElem h (fun i h1 h2 => ?_)
  have := hg i h1
  rwa [gd_el h1, gd_el h2] at this
theorem pdl_congr {s m : Nat → Int32} : ∀ {k : Nat}, (∀ i, i < k → s i = m i) → pdl s k = pdl m k
  | 0, _ => rfl
  | k + 1, h => by rw [pdl, pdl, pdl_congr (fun i hi => h i (by omega)), h k (by omega)]
def Vp (s : Nat → Int32) (pc : Nat) : Prop := ∀ i, i < pc → s i = 43 ∨ s i = 45
theorem sgb_pad {s : Nat → Int32} {pc i : Nat} (h : Vp s pc) (hi : i < pc) : sgb (decide (s i = 45)) = s i := by
  unfold sgb
  rcases h i hi with q | q
  · rw [q, decide_eq_false (by decide)]; rfl
  · rw [q]; rfl
theorem sgb_inj : ∀ b c : Bool, sgb b = sgb c → b = c := by decide
theorem ml_padWord {pc : Nat} {m : Nat → Int32} (hpc : pc ≤ 8) : (Vp m pc → 1 ≤ pc → f_X12_padWord (nI pc) m = some (nI (wcode (pdl m pc)))) ∧ (¬ Vp m pc ∨ pc = 0 → f_X12_padWord (nI pc) m = some (-6)) := by
  have key : ∀ (d k fu : Nat), k + d = pc → d < fu → (∀ i, i < k → m i = 43 ∨ m i = 45) → (Vp m pc → 1 ≤ pc → f_X12_padWord_4 fu (nI (wcode (pdl m k))) (nI k) (nI pc) m = some (nI (wcode (pdl m pc)))) ∧ (¬ Vp m pc ∨ pc = 0 → f_X12_padWord_4 fu (nI (wcode (pdl m k))) (nI k) (nI pc) m = some (-6)) := by
    intro d
    induction d with
    | zero =>
      intro k fu hk hf hh
      obtain ⟨f, rfl⟩ : ∃ f, fu = f + 1 := ⟨fu - 1, by omega⟩
      obtain rfl : k = pc := by omega
      rw [f_X12_padWord_4, if_pos (nI_le (by omega) (by omega)), show (1 : Int64) = lN 1 from rfl, show (8 : Int64) = lN 8 from rfl]
      refine ⟨fun _ h1 => ?_, fun q => ?_⟩
      · rcases in3 (nI k) 1 8 (by omega) (by omega) with ⟨q, e⟩ | ⟨q1, q2, e⟩ | ⟨x, q1, q2, -, e⟩
        · exact absurd q (nI_nlt (by omega) (by omega))
        · exact absurd q2 (nI_nlt (by omega) (by omega))
        · rw [e]; rfl
      · rcases q with q | q
        · exact absurd hh q
        · subst q
          rcases in3 (nI 0) 1 8 (by omega) (by omega) with ⟨q, e⟩ | ⟨q1, q2, e⟩ | ⟨x, q1, q2, q3, e⟩
          · rw [e]; rfl
          · exact absurd q2 (nI_nlt (by omega) (by omega))
          · have := (nI_eq (by omega) (by omega)).mp q3
            omega
    | succ d ih =>
      intro k fu hk hf hh
      obtain ⟨f, rfl⟩ : ∃ f, fu = f + 1 := ⟨fu - 1, by omega⟩
      have i40 : ¬ (nI k < 0 ∨ 40 ≤ (nI k).toNatClampNeg) := nI_in (by omega) (by omega)
      have go : (m k = 43 ∨ m k = 45) → f_X12_padWord_37 (f_X12_padWord_4 f) (nI (wcode (pdl m k))) (nI k) (nI pc) m = f_X12_padWord_4 f (nI (wcode (pdl m (k + 1)))) (nI (k + 1)) (nI pc) m := fun hv => by
        unfold f_X12_padWord_37 f_X12_padWord_56
        rw [if_neg i40, nI_clamp (by omega), show (2 : Int32) = nI 2 from rfl, pk_mul, pdl, wcode_app]
        by_cases q : m k = 45
        · rw [if_pos q, decide_eq_true q, if_pos rfl, nI_1, nI_1]
        · rw [if_neg q, decide_eq_false q, show (0 : Int32) = nI 0 from rfl, nI_add, nI_1]; rfl
      rw [f_X12_padWord_4, if_neg (nI_ge (by omega) (by omega)), if_neg i40, nI_clamp (n := k) (by omega)]
      by_cases q : m k = 43
      · rw [if_pos q, go (Or.inl q)]
        exact ih (k + 1) f (by omega) (by omega) (fun i hi => by
          by_cases e : i = k
          · subst e; exact Or.inl q
          · exact hh i (by omega))
      · rw [if_neg q, if_neg (gin (by omega) (by omega))]
        by_cases q2 : m k = 45
        · rw [if_pos q2, go (Or.inr q2)]
          exact ih (k + 1) f (by omega) (by omega) (fun i hi => by
            by_cases e : i = k
            · subst e; exact Or.inr q2
            · exact hh i (by omega))
        · rw [if_neg q2]
          exact ⟨fun hv => absurd (hv k (by omega)) (fun r => r.elim q q2), fun _ => rfl⟩
  exact key pc 0 fuel (by omega) (fuel_big (by omega)) (fun i hi => absurd hi (Nat.not_lt_zero i))
theorem cl_isWord {pc : Nat} {s : Nat → Int32} (hpc : pc ≤ 40) : (Vp s pc → 1 ≤ pc → pc ≤ 8 → f_X4_isWord (nI pc) s = some 1) ∧ (¬ Vp s pc ∨ pc = 0 ∨ 8 < pc → f_X4_isWord (nI pc) s = some 0) := by
  have key : ∀ (d k fu : Nat), k + d = pc → d < fu → (∀ i, i < k → s i = 43 ∨ s i = 45) → (Vp s pc → f_X4_isWord_21 fu (nI k) (nI pc) s = some 1) ∧ (¬ Vp s pc → f_X4_isWord_21 fu (nI k) (nI pc) s = some 0) := by
    intro d
    induction d with
    | zero =>
      intro k fu hk hf hh
      obtain ⟨f, rfl⟩ : ∃ f, fu = f + 1 := ⟨fu - 1, by omega⟩
      obtain rfl : k = pc := by omega
      rw [f_X4_isWord_21, if_pos (nI_le (by omega) (by omega))]
      exact ⟨fun _ => rfl, fun q => absurd hh q⟩
    | succ d ih =>
      intro k fu hk hf hh
      obtain ⟨f, rfl⟩ : ∃ f, fu = f + 1 := ⟨fu - 1, by omega⟩
      have i40 : ¬ (nI k < 0 ∨ 40 ≤ (nI k).toNatClampNeg) := nI_in (by omega) (by omega)
      rw [f_X4_isWord_21, if_neg (nI_ge (by omega) (by omega)), if_neg (show ¬ (40 : Int32) ≤ nI k from nI_ge (b := 40) (by omega) (by omega)), if_neg i40, nI_clamp (n := k) (by omega)]
      unfold f_X4_isWord_59
      rw [nI_1]
      by_cases q : s k = 43
      · rw [if_pos q]
        exact ih (k + 1) f (by omega) (by omega) (fun i hi => by
          by_cases e : i = k
          · subst e; exact Or.inl q
          · exact hh i (by omega))
      · rw [if_neg q, if_neg (gin (by omega) (by omega))]
        by_cases q2 : s k = 45
        · rw [if_pos q2]
          exact ih (k + 1) f (by omega) (by omega) (fun i hi => by
            by_cases e : i = k
            · subst e; exact Or.inr q2
            · exact hh i (by omega))
        · rw [if_neg q2]
          exact ⟨fun hv => absurd (hv k (by omega)) (fun r => r.elim q q2), fun _ => rfl⟩
  obtain ⟨k1, k2⟩ := key pc 0 fuel (by omega) (fuel_big (by omega)) (fun i hi => absurd hi (Nat.not_lt_zero i))
  have e0 : nI 0 = (0 : Int32) := rfl
  rw [e0] at k1 k2
  unfold f_X4_isWord
  refine ⟨fun hv h1 h8 => ?_, fun q => ?_⟩
  · rw [if_neg (show ¬ nI pc < 1 from nI_nlt (b := 1) h1 (by omega)), if_pos (show nI pc ≤ 8 from nI_le (b := 8) h8 (by omega))]
    exact k1 hv
  · by_cases h1 : pc = 0
    · rw [if_pos (show nI pc < 1 from nI_lt (b := 1) (by omega) (by omega))]
    · rw [if_neg (show ¬ nI pc < 1 from nI_nlt (b := 1) (by omega) (by omega))]
      by_cases h8 : pc ≤ 8
      · rw [if_pos (show nI pc ≤ 8 from nI_le (b := 8) h8 (by omega))]
        rcases q with q | q | q
        · exact k2 q
        · exact absurd q h1
        · omega
      · rw [if_neg (show ¬ nI pc ≤ 8 from nI_ge (a := 8) (by omega) (by omega))]
theorem mul8 (w k : Nat) : nI w * 8 + nI k = nI (8 * w + k) := by
  rw [show (8 : Int32) = nI 8 from rfl, pk_mul, nI_add, Nat.mul_comm]
theorem cl_isOnPad {pc w : Nat} {sg s : Nat → Int32} (hpc : pc ≤ 8) (hw : w < 8) : ((∀ i, i < pc → sg (8 * w + i) = s i) → f_X10_isOnPad (nI pc) sg s (nI w) = some 1) ∧ (¬ (∀ i, i < pc → sg (8 * w + i) = s i) → f_X10_isOnPad (nI pc) sg s (nI w) = some 0) := by
  have key : ∀ (d k fu : Nat), k + d = pc → d < fu → (∀ i, i < k → sg (8 * w + i) = s i) → ((∀ i, i < pc → sg (8 * w + i) = s i) → f_X10_isOnPad_2 fu (nI w) (nI k) (nI pc) sg s = some 1) ∧ (¬ (∀ i, i < pc → sg (8 * w + i) = s i) → f_X10_isOnPad_2 fu (nI w) (nI k) (nI pc) sg s = some 0) := by
    intro d
    induction d with
    | zero =>
      intro k fu hk hf hh
      obtain ⟨f, rfl⟩ : ∃ f, fu = f + 1 := ⟨fu - 1, by omega⟩
      obtain rfl : k = pc := by omega
      rw [f_X10_isOnPad_2, if_pos (nI_le (by omega) (by omega))]
      exact ⟨fun _ => rfl, fun q => absurd hh q⟩
    | succ d ih =>
      intro k fu hk hf hh
      obtain ⟨f, rfl⟩ : ∃ f, fu = f + 1 := ⟨fu - 1, by omega⟩
      rw [f_X10_isOnPad_2, if_neg (nI_ge (by omega) (by omega)), if_neg (show ¬ (8 : Int32) ≤ nI k from nI_ge (b := 8) (by omega) (by omega)), mul8, if_neg (nI_in (by omega) (by omega)), if_neg (nI_in (by omega) (by omega)), nI_clamp (n := k) (by omega), nI_clamp (n := 8 * w + k) (by omega), nI_1]
      by_cases q : sg (8 * w + k) = s k
      · rw [if_pos q]
        exact ih (k + 1) f (by omega) (by omega) (fun i hi => by
          by_cases e : i = k
          · subst e; exact q
          · exact hh i (by omega))
      · rw [if_neg q]
        exact ⟨fun hv => absurd (hv k (by omega)) q, fun _ => rfl⟩
  exact key pc 0 fuel (by omega) (fuel_big (by omega)) (fun i hi => absurd hi (Nat.not_lt_zero i))
theorem on_iff {l : List Bool} {pc w : Nat} {sg s : Nat → Int32} (hv : Vp s pc) (hl : l.length = pc) (hs : ∀ i, i < l.length → sg (8 * w + i) = sgb (l.getD i false)) : (∀ i, i < pc → sg (8 * w + i) = s i) ↔ l = pdl s pc := by
  constructor
  · intro h
    refine list_get_ext (by rw [hl, pdl_len]) (fun i hi => ?_)
    rw [pdl_get s pc i (by omega)]
    apply sgb_inj
    rw [← hs i hi, h i (by omega), sgb_pad hv (by omega)]
  · rintro rfl i hi
    rw [hs i (by rw [pdl_len]; exact hi), pdl_get s pc i hi, sgb_pad hv hi]
theorem cl_has {pc w : Nat} {W : Nat → List Bool} {sg ln s mw : Nat → Int32} {cc mc : Int32} (hpc : pc ≤ 8) (hv : Vp s pc) (hW : WRd w W cc sg ln mc mw) : ((∃ k, k < w ∧ W k = pdl s pc) → f_X10_has (nI w) (nI pc) ln sg s = some 1) ∧ (¬ (∃ k, k < w ∧ W k = pdl s pc) → f_X10_has (nI w) (nI pc) ln sg s = some 0) := by
  obtain ⟨h1, -, -, h4, -⟩ := hW
  have key : ∀ (d k fu : Nat), k + d = w → d < fu → (∀ i, i < k → W i ≠ pdl s pc) → ((∃ k, k < w ∧ W k = pdl s pc) → f_X10_has_2 fu (nI k) (nI w) (nI pc) ln sg s = some 1) ∧ (¬ (∃ k, k < w ∧ W k = pdl s pc) → f_X10_has_2 fu (nI k) (nI w) (nI pc) ln sg s = some 0) := by
    intro d
    induction d with
    | zero =>
      intro k fu hk hf hh
      obtain ⟨f, rfl⟩ : ∃ f, fu = f + 1 := ⟨fu - 1, by omega⟩
      rw [f_X10_has_2, if_pos (nI_le (by omega) (by omega))]
      exact ⟨fun ⟨i, hi, e⟩ => absurd e (hh i (by omega)), fun _ => rfl⟩
    | succ d ih =>
      intro k fu hk hf hh
      obtain ⟨f, rfl⟩ : ∃ f, fu = f + 1 := ⟨fu - 1, by omega⟩
      obtain ⟨g1, g2, g3, g4, g5⟩ := h4 k (by omega)
      rw [f_X10_has_2, if_neg (nI_ge (by omega) (by omega)), if_neg (show ¬ (8 : Int32) ≤ nI k from nI_ge (b := 8) (by omega) (by omega)), if_neg (nI_in (by omega) (by omega)), nI_clamp (n := k) (by omega), g3]
      unfold f_X10_has_40
      rw [nI_1]
      have next : W k ≠ pdl s pc → _ := fun q => ih (k + 1) f (by omega) (by omega) (fun i hi => by
        by_cases e : i = k
        · subst e; exact q
        · exact hh i (by omega))
      by_cases q : (W k).length = pc
      · rw [if_pos (by rw [q])]
        obtain ⟨o1, o2⟩ := cl_isOnPad (sg := sg) (s := s) hpc (show k < 8 by omega)
        by_cases q2 : W k = pdl s pc
        · rw [o1 ((on_iff hv q g4).mpr q2), Option.bind_some, if_neg (show ¬ (1 : Int32) = 0 by decide)]
          exact ⟨fun _ => rfl, fun r => absurd ⟨k, by omega, q2⟩ r⟩
        · rw [o2 (fun r => q2 ((on_iff hv q g4).mp r)), Option.bind_some, if_pos rfl]
          exact next q2
      · rw [if_neg (fun e => q ((nI_eq (by omega) (by omega)).mp e))]
        exact next (fun e => q (by rw [e, pdl_len]))
  exact key w 0 fuel (by omega) (fuel_big (by omega)) (fun i hi => absurd hi (Nat.not_lt_zero i))
theorem cl_put {pc w : Nat} (sg ln s : Nat → Int32) (hpc : pc ≤ 8) (hw : w < 8) : ∃ sg', f_X10_put (nI w) (nI pc) sg s ln = some (1, nI (w + 1), sg', upd ln w (nI pc)) ∧ (∀ i, i < pc → sg' (8 * w + i) = s i) ∧ ∀ j, j < 8 * w → sg' j = sg j := by
  have key : ∀ (d k fu : Nat) (sg1 : Nat → Int32), k + d = pc → d < fu → (∀ i, i < k → sg1 (8 * w + i) = s i) → (∀ j, j < 8 * w → sg1 j = sg j) → ∃ sg', f_X10_put_13 fu (nI k) (nI w) (nI pc) sg1 s ln = some (1, nI (w + 1), sg', upd ln w (nI pc)) ∧ (∀ i, i < pc → sg' (8 * w + i) = s i) ∧ ∀ j, j < 8 * w → sg' j = sg j := by
    intro d
    induction d with
    | zero =>
      intro k fu sg1 hk hf hh hh2
      obtain ⟨f, rfl⟩ : ∃ f, fu = f + 1 := ⟨fu - 1, by omega⟩
      obtain rfl : k = pc := by omega
      refine ⟨sg1, ?_, hh, hh2⟩
      rw [f_X10_put_13, if_pos (nI_le (by omega) (by omega))]
      unfold f_X10_put_53
      rw [if_neg (nI_in (by omega) (by omega)), nI_clamp (by omega), nI_1]
    | succ d ih =>
      intro k fu sg1 hk hf hh hh2
      obtain ⟨f, rfl⟩ : ∃ f, fu = f + 1 := ⟨fu - 1, by omega⟩
      rw [f_X10_put_13, if_neg (nI_ge (by omega) (by omega)), if_neg (show ¬ (8 : Int32) ≤ nI k from nI_ge (b := 8) (by omega) (by omega)), if_neg (nI_in (by omega) (by omega)), mul8, if_neg (nI_in (by omega) (by omega)), nI_clamp (n := k) (by omega), nI_clamp (n := 8 * w + k) (by omega), nI_1]
      exact ih (k + 1) f _ (by omega) (by omega) (fun i hi => by
        by_cases e : i = k
        · subst e; rw [up_s]
        · rw [up_n (by omega)]; exact hh i (by omega)) (fun j hj => by rw [up_n (by omega)]; exact hh2 j hj)
  unfold f_X10_put
  rw [if_pos (show nI w < 8 from nI_lt (b := 8) hw (by omega))]
  exact key pc 0 fuel sg (by omega) (fuel_big (by omega)) (fun i hi => absurd hi (Nat.not_lt_zero i)) (fun _ _ => rfl)
/-- the reference: is the word among the words? -/
theorem ml_word_21 {w : Nat} {W : Nat → List Bool} {mw : Nat → Int32} (pm : Int32) (hw : w ≤ 8) (h4 : ∀ k, k < w → (W k).length ≤ 8 ∧ mw k = nI (wcode (W k))) (l : List Bool) (hl : l.length ≤ 8) : ((∃ k, k < w ∧ W k = l) → f_X12_word_21 fuel (nI (wcode l)) 0 (nI w) pm mw = some (-5, nI w, pm, mw)) ∧ (¬ (∃ k, k < w ∧ W k = l) → f_X12_word_21 fuel (nI (wcode l)) 0 (nI w) pm mw = if w = 8 then some (-4, nI w, pm, mw) else some (nI (w + 1), nI (w + 1), 0, upd mw w (nI (wcode l)))) ∧ f_X12_word_21 fuel (-6) 0 (nI w) pm mw = some (-5, nI w, pm, mw) := by
  have hcl := wcode_8 hl
  have neg : ∀ (d k fu : Nat), k + d = w → d < fu → f_X12_word_21 fu (-6) (nI k) (nI w) pm mw = some (-5, nI w, pm, mw) := by
    intro d
    induction d with
    | zero =>
      intro k fu hk hf
      obtain ⟨f, rfl⟩ : ∃ f, fu = f + 1 := ⟨fu - 1, by omega⟩
      rw [f_X12_word_21, if_pos (nI_le (by omega) (by omega)), if_neg (show ¬ (0 : Int32) ≤ -6 by decide)]
    | succ d ih =>
      intro k fu hk hf
      obtain ⟨f, rfl⟩ : ∃ f, fu = f + 1 := ⟨fu - 1, by omega⟩
      obtain ⟨g1, g2⟩ := h4 k (by omega)
      rw [f_X12_word_21, if_neg (nI_ge (by omega) (by omega)), if_neg (nI_in (by omega) (by omega))]
      unfold f_X12_word_45
      rw [nI_1, ite_self]
      exact ih (k + 1) f (by omega) (by omega)
  have key : ∀ (d k fu : Nat), k + d = w → d < fu → (∀ i, i < k → W i ≠ l) → ((∃ k, k < w ∧ W k = l) → f_X12_word_21 fu (nI (wcode l)) (nI k) (nI w) pm mw = some (-5, nI w, pm, mw)) ∧ (¬ (∃ k, k < w ∧ W k = l) → f_X12_word_21 fu (nI (wcode l)) (nI k) (nI w) pm mw = if w = 8 then some (-4, nI w, pm, mw) else some (nI (w + 1), nI (w + 1), 0, upd mw w (nI (wcode l)))) := by
    intro d
    induction d with
    | zero =>
      intro k fu hk hf hh
      obtain ⟨f, rfl⟩ : ∃ f, fu = f + 1 := ⟨fu - 1, by omega⟩
      refine ⟨fun ⟨i, hi, e⟩ => absurd e (hh i (by omega)), fun _ => ?_⟩
      rw [f_X12_word_21, if_pos (nI_le (by omega) (by omega)), if_pos (show (0 : Int32) ≤ nI (wcode l) from nI_le (a := 0) (by omega) (by omega))]
      by_cases q : w = 8
      · rw [if_pos (show nI w = 8 by rw [q]; rfl), if_pos q]
      · rw [if_neg (show ¬ nI w = 8 from fun e => q ((nI_eq (b := 8) (by omega) (by omega)).mp e)), if_neg q, if_neg (nI_in (by omega) (by omega)), nI_clamp (by omega), nI_1]
    | succ d ih =>
      intro k fu hk hf hh
      obtain ⟨f, rfl⟩ : ∃ f, fu = f + 1 := ⟨fu - 1, by omega⟩
      obtain ⟨g1, g2⟩ := h4 k (by omega)
      have hck := wcode_8 g1
      rw [f_X12_word_21, if_neg (nI_ge (by omega) (by omega)), if_neg (nI_in (by omega) (by omega)), nI_clamp (n := k) (by omega), g2]
      unfold f_X12_word_45
      rw [nI_1]
      by_cases q : W k = l
      · rw [if_pos (by rw [q])]
        exact ⟨fun _ => neg d (k + 1) f (by omega) (by omega), fun r => absurd ⟨k, by omega, q⟩ r⟩
      · rw [if_neg (fun e => q (wcode_inj ((nI_eq (by omega) (by omega)).mp e)))]
        exact ih (k + 1) f (by omega) (by omega) (fun i hi => by
          by_cases e : i = k
          · subst e; exact q
          · exact hh i (by omega))
  obtain ⟨k1, k2⟩ := key w 0 fuel (by omega) (fuel_big (by omega)) (fun i hi => absurd hi (Nat.not_lt_zero i))
  exact ⟨k1, k2, neg w 0 fuel (by omega) (fuel_big (by omega))⟩
