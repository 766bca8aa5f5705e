theorem st_door {j : Nat} (hj : j + 6 ≤ 3072) (sI : Nat → Int32) (sJ : Nat → Int64) (sA : Nat → Nat → Int32) (sB : Nat → Nat → Int64) (h : Inv j sI sJ sA sB) (a1 : Int32) (a2 : Int32) : ∃ (z : Int32 × Int32 × Int64 × Int64) (y : Int32 × Int32 × (Nat → Int32)), f_X11_door (sI 0) (sI 7) (sJ 0) (sJ 2) a1 a2 = some z ∧ f_X12_door (sI 41) (sI 43) (sA 46) a1 a2 = some y ∧ z.1 = y.1 ∧ Inv (j + 6) (va_up (va_up sI 0 z.2.1) 43 y.2.1) (va_up (va_up sJ 0 z.2.2.1) 2 z.2.2.2) (va_up sA 46 y.2.2) sB := by
  obtain ⟨ch, pc, n, t, dp, w, c, wt, a, W, bh, dr, sv, h1, h2, h3, h4, h5, h6, i0, i1, k1, k2, k3⟩ := id h
  obtain ⟨⟨hw, ha, ht, hth⟩, ⟨r1, r2, r3, r4, r5, r6⟩, ⟨m1, m2, m3, ⟨mp, mr, ml⟩, mw⟩⟩ := id h4
  obtain ⟨w1, w2, w3, w4, w5, w6⟩ := id hw
  have hl16 := lt16 w4 ha.1
  have hw16 := lt16 (show 9 ≤ 9 by omega) w5
  unfold f_X11_door f_X12_door
  rw [r1, m1]
  rcases place3 a1 w1 w2 with ⟨p1, p2⟩ | ⟨d, hd, rfl, p1, p2⟩
  · rw [p1, p2]
    refine ⟨_, _, rfl, rfl, rfl, ?_⟩
    exact Inv_grow h
  · rw [p1, p2]
    simp only [Option.bind_some]
    rw [if_neg (show ¬ (1 : Int32) = 0 by decide), show (0 : Int64) = lN 0 from rfl, show (9 : Int64) = lN 9 from rfl, show (9 : Int32) = nI 9 from rfl]
    rcases in3 a2 0 9 (by omega) (by omega) with ⟨q, e⟩ | ⟨q1, q2, e⟩ | ⟨v, -, q2, rfl, e⟩
    · rw [if_pos (show a2 < 0 from q), e]
      exact ⟨_, _, rfl, rfl, rfl, Inv_grow h⟩
    · rw [if_neg (show ¬ a2 < 0 from q1), if_neg (fa_of_lt q2).2.1, e]
      exact ⟨_, _, rfl, rfl, rfl, Inv_grow h⟩
    · rw [if_neg (nI_pos (by omega)), if_pos (nI_le q2 (by omega)), e, r6, c_laneV hw16 (by omega), c_withV hw16 (by omega) (by omega), r4, c_flag (by omega)]
      simp only [Option.bind_some]
      rw [if_neg (show ¬ (1 : Int32) = 0 by decide), w9_clr hl16, w9_or hl16, if_neg (nI_in (by omega) (by omega)), nI_clamp (by omega), if_neg (gin (by omega) (by omega)), m3, bit_set _ hd w2, bit_clear _ hd w2]
      unfold f_X11_door_93
      have fin : ∀ b : Bool, (b = true → 1 ≤ v) → ∃ (z : Int32 × Int32 × Int64 × Int64) (y : Int32 × Int32 × (Nat → Int32)), some (nI (wt d), sI 0 + 1, w9 a.1 (thset a.2.2 d b), v9 (fset wt d v)) = some z ∧ some (sA 46 d, nI (sbit n (thset a.2.2 d b)), upd (sA 46) d (nI v)) = some y ∧ z.1 = y.1 ∧ Inv (j + 6) (va_up (va_up sI 0 z.2.1) 43 y.2.1) (va_up (va_up sJ 0 z.2.2.1) 2 z.2.2.2) (va_up sA 46 y.2.2) sB := by
        intro b hb
        refine ⟨_, _, rfl, rfl, (mw d hd).symm, ch + 1, pc, n, t, dp, w, c, fset wt d v, (a.1, a.2.1, thset a.2.2 d b), W, bh, dr, sv, by omega, ?_, h3, ⟨⟨⟨w1, w2, w3, w4, ?_, ?_⟩, ⟨ha.1, ha.2.1, ha.2.2.1, ha.2.2.2.1, ?_⟩, ht, ?_⟩, ⟨r1, r2, r3, rfl, r5, rfl⟩, ⟨m1, m2, rfl, ⟨mp, mr, ml⟩, ?_⟩⟩, h5, h6, i0, i1, k1.next (by omega) _, k2.next (by omega) _, k3.next (by omega) _⟩
        · show sI 0 + 1 = nI (ch + 1)
          rw [h2, nI_1]
        · intro k
          unfold fset
          by_cases hk : k = d
          · rw [if_pos hk]; omega
          · rw [if_neg hk]; exact w5 k
        · intro k hk
          unfold fset
          rw [if_neg (by omega)]; exact w6 k hk
        · intro k hk
          show thset a.2.2 d b k = false
          unfold thset
          rw [if_neg (by omega)]; exact ha.2.2.2.2 k hk
        · intro k hk
          have hk : thset a.2.2 d b k = true := hk
          unfold thset at hk
          unfold fset
          by_cases hkd : k = d
          · rw [if_pos hkd] at hk ⊢; exact hb hk
          · rw [if_neg hkd] at hk ⊢; exact hth k hk
        · intro k hk
          show upd (sA 46) d (nI v) k = nI (fset wt d v k)
          unfold fset
          by_cases hkd : k = d
          · subst hkd; rw [up_s, if_pos rfl]
          · rw [up_n hkd, if_neg hkd]; exact mw k hk
      by_cases hv : v = 0
      · subst hv
        rw [if_pos (show nI 0 = 0 from rfl), if_pos (show nI 0 = 0 from rfl)]
        exact fin false (fun q => by cases q)
      · rw [if_neg (nI_ne0 (by omega) (by omega)), if_neg (nI_ne0 (by omega) (by omega))]
        exact fin true (fun _ => by omega)
theorem st_pail {j : Nat} (hj : j + 6 ≤ 3072) (sI : Nat → Int32) (sJ : Nat → Int64) (sA : Nat → Nat → Int32) (sB : Nat → Nat → Int64) (h : Inv j sI sJ sA sB) (a1 : Int32) (a2 : Int32) (a3 : Int32) : ∃ (z : Int32 × Int32 × Int64 × Int64) (y : Int32 × (Nat → Int32) × (Nat → Int32)), f_X11_pail (sI 0) (sI 7) (sI 8) (sI 9) (sJ 0) (sJ 1) a1 a2 a3 = some z ∧ f_X12_pail (sI 41) (sI 42) (sA 44) (sA 45) a1 a2 a3 = some y ∧ z.1 = y.1 ∧ Inv (j + 6) (va_up sI 0 z.2.1) (va_up (va_up sJ 0 z.2.2.1) 1 z.2.2.2) (va_up (va_up sA 44 y.2.1) 45 y.2.2) sB := by
  obtain ⟨ch, pc, n, t, dp, w, c, wt, a, W, bh, dr, sv, h1, h2, h3, h4, h5, h6, i0, i1, k1, k2, k3⟩ := id h
  obtain ⟨⟨hw, ha, ht, hth⟩, ⟨r1, r2, r3, r4, r5, r6⟩, ⟨m1, m2, m3, ⟨mp, mr, ml⟩, mw⟩⟩ := id h4
  obtain ⟨w1, w2, w3, w4, w5, w6⟩ := id hw
  have hl16 := lt16 w4 ha.1
  have hk16 := lt16 (show 9 ≤ 9 by omega) ha.2.2.1
  unfold f_X11_pail f_X12_pail
  rw [r1, m1]
  rcases place3 a1 w1 w2 with ⟨p1, p2⟩ | ⟨i, hi, rfl, p1, p2⟩
  · rw [p1, p2]
    refine ⟨_, _, rfl, rfl, rfl, ?_⟩
    exact Inv_grow h
  · rw [p1, p2]
    simp only [Option.bind_some]
    rw [if_neg (show ¬ (1 : Int32) = 0 by decide), show (0 : Int64) = lN 0 from rfl, show (1 : Int64) = lN 1 from rfl, show (9 : Int64) = lN 9 from rfl]
    rcases in3 a2 0 1 (by omega) (by omega) with ⟨q, e⟩ | ⟨q1, q2, e⟩ | ⟨v, -, q2, rfl, e⟩
    · rw [if_pos (show a2 < 0 from q), e]
      exact ⟨_, _, rfl, rfl, rfl, Inv_grow h⟩
    · rw [if_neg (show ¬ a2 < 0 from q1), if_pos (show (1 : Int32) < a2 from q2), e]
      exact ⟨_, _, rfl, rfl, rfl, Inv_grow h⟩
    · rw [if_neg (nI_pos (by omega)), if_neg (show ¬ (1 : Int32) < nI v from nI_nlt (a := 1) q2 (by omega)), e]
      simp only [Option.bind_some]
      rw [if_neg (show ¬ (1 : Int32) = 0 by decide), r2, m2, nI_l (n := dp) (by omega)]
      obtain ⟨hpl, hpe⟩ := tpi_at ht hi
      have hho : sA 44 i = nI (a.1 ((i + t) % n)) := by have := mr.2 _ hpl; rwa [hpe] at this
      have hle : sA 45 i = nI (a.2.1 ((i + t) % n)) := by have := ml _ hpl; rwa [hpe] at this
      have hinj : ∀ p, p < n → tpi n t p = i → p = (i + t) % n := fun p hp q => mp.2 _ _ hp hpl (by rw [q, hpe])
      have v01 : v = 0 ∨ v = 1 := by omega
      rcases v01 with rfl | rfl
      · rw [if_pos (show nI 0 = 0 from rfl), if_pos (show nI 0 = 0 from rfl)]
        unfold f_X11_pail_40 f_X12_pail_38 f_X12_pail_66 f_X12_pail_87
        rcases in3 a3 0 dp (by omega) (by omega) with ⟨q, e3⟩ | ⟨q1, q2, e3⟩ | ⟨x, -, q3, rfl, e3⟩
        · rw [if_pos (show a3 < 0 from q), e3]
          exact ⟨_, _, rfl, rfl, rfl, Inv_grow h⟩
        · rw [if_neg (show ¬ a3 < 0 from q1), if_neg (fa_of_lt q2).2.1, e3]
          exact ⟨_, _, rfl, rfl, rfl, Inv_grow h⟩
        · rw [if_neg (nI_pos (by omega)), if_pos (nI_le q3 (by omega)), e3, r3, cl_place w2 ht hi, r4]
          simp only [Option.bind_some]
          rw [if_neg (show ¬ (1 : Int32) = 0 by decide), if_pos (show nI 0 = 0 from rfl), c_lane _ hl16 (by omega), c_with _ hl16 (by omega) (by omega), if_pos (show nI 0 = 0 from rfl), if_neg (nI_in (by omega) (by omega)), if_pos (show nI 0 = 0 from rfl), if_neg (nI_in (by omega) (by omega)), if_neg (show ¬ nI 0 = 1 by decide), if_neg (nI_in (by omega) (by omega)), if_neg (nI_in (by omega) (by omega)), nI_clamp (by omega)]
          simp only [Option.bind_some]
          unfold f_X11_pail_138
          refine ⟨_, _, rfl, rfl, hho.symm, ch + 1, pc, n, t, dp, w, c, wt, (fset a.1 ((i + t) % n) x, a.2.1, a.2.2), W, bh, dr, sv, by omega, ?_, h3, ⟨⟨hw, ⟨?_, ?_, ha.2.2.1, ha.2.2.2.1, ha.2.2.2.2⟩, ht, hth⟩, ⟨r1, r2, r3, rfl, r5, r6⟩, ⟨m1, m2, m3, ⟨mp, ⟨mr.1, ?_⟩, ?_⟩, mw⟩⟩, h5, h6, i0, i1, k1.next (by omega) _, k2.next (by omega) _, k3.next (by omega) _⟩
          · show sI 0 + 1 = nI (ch + 1)
            rw [h2, nI_1]
          · intro k
            show fset a.1 _ x k ≤ dp
            unfold fset
            by_cases hk : k = (i + t) % n
            · rw [if_pos hk]; exact q3
            · rw [if_neg hk]; exact ha.1 k
          · intro k hk
            show fset a.1 _ x k = 0
            unfold fset
            rw [if_neg (by omega)]; exact ha.2.1 k hk
          · intro p hp
            show upd (sA 44) i (nI x) (tpi n t p) = nI (fset a.1 _ x p)
            unfold fset
            by_cases hk : p = (i + t) % n
            · rw [if_pos hk, hk, hpe, up_s]
            · rw [if_neg hk, up_n (fun q => hk (hinj p hp q))]; exact mr.2 p hp
          · intro p hp
            show upd (sA 45) i (sA 45 i) (tpi n t p) = nI (a.2.1 p)
            rw [fa_upd_same rfl]
            exact ml p hp
      · rw [if_neg (show ¬ nI 1 = 0 by decide), if_neg (show ¬ nI 1 = 0 by decide)]
        unfold f_X11_pail_40 f_X12_pail_38 f_X12_pail_66 f_X12_pail_87
        rw [show (9 : Int32) = nI 9 from rfl]
        rcases in3 a3 0 9 (by omega) (by omega) with ⟨q, e3⟩ | ⟨q1, q2, e3⟩ | ⟨x, -, q3, rfl, e3⟩
        · rw [if_pos (show a3 < 0 from q), e3]
          exact ⟨_, _, rfl, rfl, rfl, Inv_grow h⟩
        · rw [if_neg (show ¬ a3 < 0 from q1), if_neg (fa_of_lt q2).2.1, e3]
          exact ⟨_, _, rfl, rfl, rfl, Inv_grow h⟩
        · rw [if_neg (nI_pos (by omega)), if_pos (nI_le q3 (by omega)), e3, r3, cl_place w2 ht hi, r5]
          simp only [Option.bind_some]
          rw [if_neg (show ¬ (1 : Int32) = 0 by decide), if_neg (show ¬ nI 1 = 0 by decide), c_laneV hk16 (by omega), c_withV hk16 (by omega) (by omega), if_neg (show ¬ nI 1 = 0 by decide), if_neg (nI_in (by omega) (by omega)), if_neg (show ¬ nI 1 = 0 by decide), if_neg (nI_in (by omega) (by omega)), if_neg (nI_in (by omega) (by omega)), if_pos (show nI 1 = 1 from rfl), if_neg (nI_in (by omega) (by omega)), nI_clamp (by omega)]
          simp only [Option.bind_some]
          unfold f_X11_pail_138
          refine ⟨_, _, rfl, rfl, hle.symm, ch + 1, pc, n, t, dp, w, c, wt, (a.1, fset a.2.1 ((i + t) % n) x, a.2.2), W, bh, dr, sv, by omega, ?_, h3, ⟨⟨hw, ⟨ha.1, ha.2.1, ?_, ?_, ha.2.2.2.2⟩, ht, hth⟩, ⟨r1, r2, r3, r4, rfl, r6⟩, ⟨m1, m2, m3, ⟨mp, ⟨mr.1, ?_⟩, ?_⟩, mw⟩⟩, h5, h6, i0, i1, k1.next (by omega) _, k2.next (by omega) _, k3.next (by omega) _⟩
          · show sI 0 + 1 = nI (ch + 1)
            rw [h2, nI_1]
          · intro k
            show fset a.2.1 _ x k ≤ 9
            unfold fset
            by_cases hk : k = (i + t) % n
            · rw [if_pos hk]; exact q3
            · rw [if_neg hk]; exact ha.2.2.1 k
          · intro k hk
            show fset a.2.1 _ x k = 0
            unfold fset
            rw [if_neg (by omega)]; exact ha.2.2.2.1 k hk
          · intro p hp
            show upd (sA 44) i (sA 44 i) (tpi n t p) = nI (a.1 p)
            rw [fa_upd_same rfl]
            exact mr.2 p hp
          · intro p hp
            show upd (sA 45) i (nI x) (tpi n t p) = nI (fset a.2.1 _ x p)
            unfold fset
            by_cases hk : p = (i + t) % n
            · rw [if_pos hk, hk, hpe, up_s]
            · rw [if_neg hk, up_n (fun q => hk (hinj p hp q))]; exact ml p hp
