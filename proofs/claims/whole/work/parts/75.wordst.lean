theorem st_word {j : Nat} (hj : j + 6 ≤ 3072) (sI : Nat → Int32) (sJ : Nat → Int64) (sA : Nat → Nat → Int32) (sB : Nat → Nat → Int64) (h : Inv j sI sJ sA sB) : ∃ (z : Int32 × Int32 × Int32 × (Nat → Int32) × (Nat → Int32)) (y : Int32 × Int32 × Int32 × (Nat → Int32)), f_X11_word (sI 6) (sA 0) (sI 10) (sA 2) (sA 1) = some z ∧ f_X12_word (sI 44) (sI 46) (sA 28) (sA 32) = some y ∧ z.1 = y.1 ∧ Inv (j + 6) (va_up (va_up (va_up (va_up sI 6 z.2.1) 10 z.2.2.1) 44 y.2.1) 46 y.2.2.1) sJ (va_up (va_up (va_up sA 2 z.2.2.2.1) 1 z.2.2.2.2) 28 y.2.2.2) sB := by
  obtain ⟨ch, pc, n, t, dp, w, c, wt, a, W, bh, dr, sv, h1, h2, h3, h4, h5, h6, i0, i1, k1, k2, k3⟩ := id h
  obtain ⟨p1, p2, p3, p4⟩ := id h3
  obtain ⟨w1, w2, w3, w4, w5⟩ := id h5
  have hW : ∀ k, k < w → (W k).length ≤ 8 ∧ sA 28 k = nI (wcode (W k)) := fun k hk => ⟨(w4 k hk).2.1, (w4 k hk).2.2.2.2⟩
  have hVV : Vp (sA 0) pc ↔ Vp (sA 32) pc := ⟨fun q i hi => by rw [← p4 i hi]; exact q i hi, fun q i hi => by rw [p4 i hi]; exact q i hi⟩
  unfold f_X11_word f_X12_word f_X12_word_18
  rw [p2, p3, w2, w3]
  obtain ⟨c1, c2⟩ := cl_isWord (s := sA 0) p1
  by_cases hv : Vp (sA 0) pc ∧ 1 ≤ pc ∧ pc ≤ 8
  · obtain ⟨v1, v2, v3⟩ := hv
    obtain ⟨o1, o2⟩ := cl_has v3 v1 h5
    have hpl : (pdl (sA 0) pc).length ≤ 8 := by rw [pdl_len]; exact v3
    obtain ⟨q1, q2, q3⟩ := ml_word_21 (nI pc) w1 hW (pdl (sA 0) pc) hpl
    rw [c1 v1 v2 v3, Option.bind_some, if_neg (show ¬ (1 : Int32) = 0 by decide), if_pos (show nI pc ≤ 8 from nI_le (b := 8) v3 (by omega)), (ml_padWord v3).1 (hVV.mp v1) v2, Option.bind_some, ← pdl_congr p4]
    by_cases hh : ∃ k, k < w ∧ W k = pdl (sA 0) pc
    · rw [o1 hh, Option.bind_some, if_neg (show ¬ (1 : Int32) = 0 by decide), q1 hh]
      exact ⟨_, _, rfl, rfl, rfl, ch, pc, n, t, dp, w, c, wt, a, W, bh, dr, sv, by omega, h2, ⟨p1, rfl, rfl, p4⟩, h4, ⟨w1, rfl, rfl, w4, w5⟩, h6, i0, i1, k1, k2, k3⟩
    · rw [o2 hh, Option.bind_some, if_pos rfl, q2 hh]
      by_cases h8 : w = 8
      · rw [if_pos h8]
        unfold f_X10_put
        rw [if_neg (show ¬ nI w < 8 by rw [h8]; decide), Option.bind_some, if_pos rfl]
        exact ⟨_, _, rfl, rfl, rfl, ch, pc, n, t, dp, w, c, wt, a, W, bh, dr, sv, by omega, h2, ⟨p1, rfl, rfl, p4⟩, h4, ⟨w1, rfl, rfl, w4, w5⟩, h6, i0, i1, k1, k2, k3⟩
      · obtain ⟨sg', e1, e2, e3⟩ := cl_put (sA 1) (sA 2) (sA 0) v3 (show w < 8 by omega)
        rw [if_neg h8, e1, Option.bind_some, if_neg (show ¬ (1 : Int32) = 0 by decide)]
        have hnew : WRd (w + 1) (fun k => if k = w then pdl (sA 0) pc else W k) (nI (w + 1)) sg' (upd (sA 2) w (nI pc)) (nI (w + 1)) (upd (sA 28) w (nI (wcode (pdl (sA 0) pc)))) := by
          refine ⟨by omega, rfl, rfl, fun k hk => ?_, fun j k hjk hk => ?_⟩
          · dsimp only
            by_cases e : k = w
            · subst e
              rw [if_pos rfl, up_s, up_s, pdl_len]
              exact ⟨v2, v3, rfl, fun i hi => by rw [e2 i hi, pdl_get _ _ _ hi, sgb_pad v1 hi], rfl⟩
            · rw [if_neg e, up_n e, up_n e]
              obtain ⟨g1, g2, g3, g4, g5⟩ := w4 k (by omega)
              exact ⟨g1, g2, g3, fun i hi => by rw [e3 _ (by omega)]; exact g4 i hi, g5⟩
          · dsimp only
            rw [if_neg (show ¬ j = w by omega)]
            by_cases e : k = w
            · rw [if_pos e]
              exact fun q => hh ⟨j, by omega, q⟩
            · rw [if_neg e]
              exact w5 j k hjk (by omega)
        exact ⟨_, _, rfl, rfl, rfl, ch, 0, n, t, dp, w + 1, c, wt, a, _, bh, dr, sv, by omega, h2, ⟨by omega, rfl, rfl, fun i hi => absurd hi (Nat.not_lt_zero i)⟩, h4, hnew, h6, i0, i1, k1, k2, k3⟩
  · have hv' : ¬ Vp (sA 0) pc ∨ pc = 0 ∨ 8 < pc := by
      by_cases q : Vp (sA 0) pc
      · by_cases q1 : pc = 0
        · exact Or.inr (Or.inl q1)
        · by_cases q2 : 8 < pc
          · exact Or.inr (Or.inr q2)
          · exact absurd ⟨q, by omega, by omega⟩ hv
      · exact Or.inl q
    have q3 := (ml_word_21 (nI pc) w1 hW [] (by decide)).2.2
    rw [c2 hv', Option.bind_some, if_pos rfl]
    refine (fun (e : (if nI pc ≤ 8 then ((f_X12_padWord (nI pc) (sA 32)).bind fun z8 => f_X12_word_21 fuel z8 0 (nI w) (nI pc) (sA 28)) else f_X12_word_21 fuel (-6) 0 (nI w) (nI pc) (sA 28)) = some (-5, nI w, nI pc, sA 28)) => ⟨_, _, rfl, e, rfl, ch, pc, n, t, dp, w, c, wt, a, W, bh, dr, sv, by omega, h2, ⟨p1, rfl, rfl, p4⟩, h4, ⟨w1, rfl, rfl, w4, w5⟩, h6, i0, i1, k1, k2, k3⟩) ?_
    by_cases h8 : pc ≤ 8
    · rw [if_pos (show nI pc ≤ 8 from nI_le (b := 8) h8 (by omega)), (ml_padWord h8).2 (by
        rcases hv' with q | q | q
        · exact Or.inl (fun r => q (hVV.mpr r))
        · exact Or.inr q
        · omega), Option.bind_some, q3]
    · rw [if_neg (show ¬ nI pc ≤ 8 from nI_ge (a := 8) (by omega) (by omega)), q3]
