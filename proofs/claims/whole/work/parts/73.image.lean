theorem IM.cong {o : Nat} {kp mk mk' pl de tu : Int32} {wh le wa : Int64} {wc : Int32} {wsg wln : Nat → Int32} {sc : Int32} {sb sd ss K K' : Nat → Int32} (h : IM o kp mk pl de tu wh le wa wc wsg wln sc sb sd ss K) (e : mk' = mk) (hK : ∀ i, o ≤ i → i < o + 67 → K' i = K i) : IM o kp mk' pl de tu wh le wa wc wsg wln sc sb sd ss K' := by
  obtain ⟨b, h1, h2, h3⟩ := h
  refine ⟨b, h1, e.trans h2, fun q => ?_⟩
  obtain ⟨n, t, dp, w, c, wt, a, W, bh, dr, sv, g1, g2, g3⟩ := h3 q
  refine ⟨n, t, dp, w, c, wt, a, W, bh, dr, sv, g1.cong (hK _ (by omega) (by omega)) (hK _ (by omega) (by omega)) (hK _ (by omega) (by omega)) (fun q hq => ⟨hK _ (by omega) (by omega), hK _ (by omega) (by omega), hK _ (by omega) (by omega), hK _ (by omega) (by omega)⟩), g2.cong rfl (fun _ _ => rfl) (fun _ _ => rfl) (hK _ (by omega) (by omega)) (fun i hi => hK _ (by omega) (by omega)), g3.cong rfl (fun i hi => ⟨rfl, rfl, Or.inl rfl⟩) (hK _ (by omega) (by omega)) (fun i hi => ⟨hK _ (by omega) (by omega), hK _ (by omega) (by omega), hK _ (by omega) (by omega)⟩)⟩
theorem st_image0 {j : Nat} (hj : j + 6 ≤ 3072) (sI : Nat → Int32) (sJ : Nat → Int64) (sA : Nat → Nat → Int32) (sB : Nat → Nat → Int64) (h : Inv j sI sJ sA sB) (a1 : Int32) (ha : ¬ a1 = 1) : ∃ (z : Int32 × Int32 × Int32 × Int32 × Int32 × Int64 × Int64 × Int64 × Int32 × (Nat → Int32) × (Nat → Int32) × Int32 × (Nat → Int32) × (Nat → Int32) × (Nat → Int32)) (y : Int32 × Int32 × Int32 × Int32 × Int32 × Int32 × Int32 × Int32 × (Nat → Int32) × (Nat → Int32) × (Nat → Int32) × (Nat → Int32) × (Nat → Int32) × (Nat → Int32) × (Nat → Int32) × (Nat → Int32) × (Nat → Int32) × (Nat → Int32)), f_X11_image0 (sI 12) (sI 13) (sI 14) (sI 15) (sJ 3) (sJ 4) (sJ 5) (sI 7) (sI 8) (sI 9) (sJ 0) (sJ 1) (sJ 2) (sI 16) (sI 10) (sA 1) (sA 8) (sA 2) (sA 9) (sI 17) (sI 11) (sA 12) (sA 5) (sA 13) (sA 6) (sA 14) (sA 7) a1 = some z ∧ f_X12_image (sI 41) (sI 42) (sI 43) (sI 44) (sI 45) (sI 53) (sI 54) (sA 41) (sA 43) (sA 44) (sA 45) (sA 46) (sA 28) (sA 29) (sA 30) (sA 31) (sA 42) a1 = some y ∧ z.1 = y.1 ∧ Inv (j + 6) (va_up (va_up (va_up (va_up (va_up (va_up (va_up (va_up (va_up (va_up (va_up (va_up (va_up sI 12 z.2.1) 13 z.2.2.1) 14 z.2.2.2.1) 15 z.2.2.2.2.1) 16 z.2.2.2.2.2.2.2.2.1) 17 z.2.2.2.2.2.2.2.2.2.2.2.1) 41 y.2.1) 42 y.2.2.1) 43 y.2.2.2.1) 44 y.2.2.2.2.1) 45 y.2.2.2.2.2.1) 53 y.2.2.2.2.2.2.1) 54 y.2.2.2.2.2.2.2.1) (va_up (va_up (va_up sJ 3 z.2.2.2.2.2.1) 4 z.2.2.2.2.2.2.1) 5 z.2.2.2.2.2.2.2.1) (va_up (va_up (va_up (va_up (va_up (va_up (va_up (va_up (va_up (va_up (va_up (va_up (va_up (va_up (va_up sA 8 z.2.2.2.2.2.2.2.2.2.1) 9 z.2.2.2.2.2.2.2.2.2.2.1) 12 z.2.2.2.2.2.2.2.2.2.2.2.2.1) 13 z.2.2.2.2.2.2.2.2.2.2.2.2.2.1) 14 z.2.2.2.2.2.2.2.2.2.2.2.2.2.2) 41 y.2.2.2.2.2.2.2.2.1) 43 y.2.2.2.2.2.2.2.2.2.1) 44 y.2.2.2.2.2.2.2.2.2.2.1) 45 y.2.2.2.2.2.2.2.2.2.2.2.1) 46 y.2.2.2.2.2.2.2.2.2.2.2.2.1) 28 y.2.2.2.2.2.2.2.2.2.2.2.2.2.1) 29 y.2.2.2.2.2.2.2.2.2.2.2.2.2.2.1) 30 y.2.2.2.2.2.2.2.2.2.2.2.2.2.2.2.1) 31 y.2.2.2.2.2.2.2.2.2.2.2.2.2.2.2.2.1) 42 y.2.2.2.2.2.2.2.2.2.2.2.2.2.2.2.2.2) sB := by
  obtain ⟨ch, pc, n, t, dp, w, c, wt, a, W, bh, dr, sv, h1, h2, h3, h4, h5, h6, i0, i1, k1, k2, k3⟩ := id h
  unfold f_X11_image0 f_X12_image
  rw [show (0 : Int64) = lN 0 from rfl, show (1 : Int64) = lN 1 from rfl]
  rcases in3 a1 0 1 (by omega) (by omega) with ⟨q, e⟩ | ⟨q1, q2, e⟩ | ⟨x, -, qx, rfl, e⟩
  · rw [if_pos (show a1 < 0 from q), e]
    exact ⟨_, _, rfl, rfl, rfl, Inv_grow h⟩
  · rw [if_neg (show ¬ a1 < 0 from q1), if_neg (show ¬ a1 < 2 from fun q3 => by rw [fa_lt] at q2 q3; rw [show (2 : Int32).toInt = 2 from rfl] at q3; rw [show (nI 1).toInt = 1 from rfl] at q2; omega), e]
    exact ⟨_, _, rfl, rfl, rfl, Inv_grow h⟩
  · obtain rfl : x = 0 := by
      rcases (show x = 0 ∨ x = 1 by omega) with rfl | rfl
      · first | rfl | exact absurd rfl ha | exact absurd ha (by decide)
      · first | rfl | exact absurd rfl ha | exact absurd ha (by decide)
    obtain ⟨tsg, tln, e1, c1, c2⟩ := cl_copyW (c := sI 10) (sA 1) (sA 8) (sA 2) (sA 9)
    obtain ⟨tb, td, ts, e2, c3⟩ := cl_copyS (c := sI 11) (sA 12) (sA 5) (sA 13) (sA 6) (sA 14) (sA 7)
    obtain ⟨pl', de', se', wm', sg', ka, K', pa', ho', le', wa', wo', sb', sd', ss', e3, ⟨⟨p1, p2, p3, p4, p5⟩, p6, p7, p8⟩, p9, -, p11⟩ := ml_passAll (o := 0) (by omega) true (sI 41) (sI 42) (sI 43) (sI 44) (sI 45) (sA 41) (sA 43) (sA 44) (sA 45) (sA 46) (sA 28) (sA 29) (sA 30) (sA 31)
    obtain ⟨⟨v1, v2, v3, v4, v5⟩, v6, v7, v8⟩ := p9 rfl
    have e3' : f_X12_passAll (sI 41) (sI 42) (sI 43) (sI 44) (sI 45) ((100 : Int32) * nI 0) 1 (sA 41) (sA 43) (sA 44) (sA 45) (sA 46) (sA 28) (sA 29) (sA 30) (sA 31) = some (pl', de', se', wm', sg', ka, K', pa', ho', le', wa', wo', sb', sd', ss') := e3
    rw [if_neg (show ¬ nI 0 < 0 by decide), if_pos (show nI 0 < 2 by decide), if_neg (show ¬ ¬ nI 0 = 0 from fun q => q rfl), e]
    unfold f_X1_copyFrom
    rw [Option.bind_some, e1, Option.bind_some, e2, Option.bind_some, Option.bind_some, if_neg (show ¬ (1 : Int32) = 0 by decide), e3', Option.bind_some, if_neg (nI_in (c := 0) (by omega) (by omega)), nI_clamp (n := 0) (by omega)]
    have hCH := h4.cong (mpl' := pl') (mde' := de') (mse' := se') (mpa' := pa') (mho' := ho') (mle' := le') (mwa' := wa') v1 v2 v3 (fun q _ => v6 q)
    have hCK : CH n t dp wt a (sI 7) (sI 8) (sI 9) (sJ 0) (sJ 1) (sJ 2) (K' 0) (K' (0 + 1)) (K' (0 + 2)) (fun p => K' (0 + 5 + 4 * p)) (fun p => K' (0 + 6 + 4 * p)) (fun p => K' (0 + 7 + 4 * p)) (fun p => K' (0 + 8 + 4 * p)) := h4.cong (p1.symm.trans v1) (p2.symm.trans v2) (p3.symm.trans v3) (fun q hq => ⟨(p6 q hq).1.symm.trans (v6 q).1, (p6 q hq).2.1.symm.trans (v6 q).2.1, (p6 q hq).2.2.1.symm.trans (v6 q).2.2.1, (p6 q hq).2.2.2.symm.trans (v6 q).2.2.2⟩)
    have hWR := h5.cong (cc' := sI 10) (sg' := sA 1) (ln' := sA 2) (mc' := wm') (mw' := wo') rfl (fun _ _ => rfl) (fun _ _ => rfl) v4 (fun i _ => v7 i)
    have hWK : WRd w W (sI 10) tsg tln (K' (0 + 3)) (fun k => K' (0 + 41 + k)) := h5.cong rfl c1 c2 (p4.symm.trans v4) (fun i hi => (p7 i hi).symm.trans (v7 i))
    have hSI := h6.cong (cc' := sI 11) (b' := sA 5) (d' := sA 6) (s' := sA 7) (mc' := sg') (mb' := sb') (md' := sd') (ms' := ss') rfl (fun _ _ => ⟨rfl, rfl, Or.inl rfl⟩) v5 (fun i _ => v8 i)
    have hSK : SI n c bh dr sv (sI 11) tb td ts (K' (0 + 4)) (fun k => K' (0 + 49 + 3 * k)) (fun k => K' (0 + 50 + 3 * k)) (fun k => K' (0 + 51 + 3 * k)) := h6.cong rfl (fun i hi => ⟨(c3 i hi).1, (c3 i hi).2.1, Or.inr (c3 i hi).2.2⟩) (p5.symm.trans v5) (fun i hi => ⟨(p8 i hi).1.symm.trans (v8 i).1, (p8 i hi).2.1.symm.trans (v8 i).2.1, (p8 i hi).2.2.symm.trans (v8 i).2.2⟩)
    have hnew : IM 0 1 (upd (sA 42) 0 (vp_nar .boolean 1) 0) (sI 7) (sI 8) (sI 9) (sJ 0) (sJ 1) (sJ 2) (sI 10) tsg tln (sI 11) tb td ts K' := ⟨true, rfl, by rw [up_s]; decide, fun _ => ⟨n, t, dp, w, c, wt, a, W, bh, dr, sv, hCK, hWK, hSK⟩⟩
    have hold := i1.cong (mk' := upd (sA 42) 0 (vp_nar .boolean 1) 1) (K' := K') (up_n (by omega)) (fun i hi1 hi2 => p11 i (by omega))
    exact ⟨_, _, rfl, rfl, rfl, ch, pc, n, t, dp, w, c, wt, a, W, bh, dr, sv, by omega, h2, h3, hCH, hWR, hSI, hnew, hold, k1, k2, k3⟩
theorem st_image1 {j : Nat} (hj : j + 6 ≤ 3072) (sI : Nat → Int32) (sJ : Nat → Int64) (sA : Nat → Nat → Int32) (sB : Nat → Nat → Int64) (h : Inv j sI sJ sA sB) (a1 : Int32) (ha : a1 = 1) : ∃ (z : Int32 × Int32 × Int32 × Int32 × Int32 × Int64 × Int64 × Int64 × Int32 × (Nat → Int32) × (Nat → Int32) × Int32 × (Nat → Int32) × (Nat → Int32) × (Nat → Int32)) (y : Int32 × Int32 × Int32 × Int32 × Int32 × Int32 × Int32 × Int32 × (Nat → Int32) × (Nat → Int32) × (Nat → Int32) × (Nat → Int32) × (Nat → Int32) × (Nat → Int32) × (Nat → Int32) × (Nat → Int32) × (Nat → Int32) × (Nat → Int32)), f_X11_image1 (sI 18) (sI 19) (sI 20) (sI 21) (sJ 6) (sJ 7) (sJ 8) (sI 7) (sI 8) (sI 9) (sJ 0) (sJ 1) (sJ 2) (sI 22) (sI 10) (sA 1) (sA 15) (sA 2) (sA 16) (sI 23) (sI 11) (sA 19) (sA 5) (sA 20) (sA 6) (sA 21) (sA 7) a1 = some z ∧ f_X12_image (sI 41) (sI 42) (sI 43) (sI 44) (sI 45) (sI 53) (sI 54) (sA 41) (sA 43) (sA 44) (sA 45) (sA 46) (sA 28) (sA 29) (sA 30) (sA 31) (sA 42) a1 = some y ∧ z.1 = y.1 ∧ Inv (j + 6) (va_up (va_up (va_up (va_up (va_up (va_up (va_up (va_up (va_up (va_up (va_up (va_up (va_up sI 18 z.2.1) 19 z.2.2.1) 20 z.2.2.2.1) 21 z.2.2.2.2.1) 22 z.2.2.2.2.2.2.2.2.1) 23 z.2.2.2.2.2.2.2.2.2.2.2.1) 41 y.2.1) 42 y.2.2.1) 43 y.2.2.2.1) 44 y.2.2.2.2.1) 45 y.2.2.2.2.2.1) 53 y.2.2.2.2.2.2.1) 54 y.2.2.2.2.2.2.2.1) (va_up (va_up (va_up sJ 6 z.2.2.2.2.2.1) 7 z.2.2.2.2.2.2.1) 8 z.2.2.2.2.2.2.2.1) (va_up (va_up (va_up (va_up (va_up (va_up (va_up (va_up (va_up (va_up (va_up (va_up (va_up (va_up (va_up sA 15 z.2.2.2.2.2.2.2.2.2.1) 16 z.2.2.2.2.2.2.2.2.2.2.1) 19 z.2.2.2.2.2.2.2.2.2.2.2.2.1) 20 z.2.2.2.2.2.2.2.2.2.2.2.2.2.1) 21 z.2.2.2.2.2.2.2.2.2.2.2.2.2.2) 41 y.2.2.2.2.2.2.2.2.1) 43 y.2.2.2.2.2.2.2.2.2.1) 44 y.2.2.2.2.2.2.2.2.2.2.1) 45 y.2.2.2.2.2.2.2.2.2.2.2.1) 46 y.2.2.2.2.2.2.2.2.2.2.2.2.1) 28 y.2.2.2.2.2.2.2.2.2.2.2.2.2.1) 29 y.2.2.2.2.2.2.2.2.2.2.2.2.2.2.1) 30 y.2.2.2.2.2.2.2.2.2.2.2.2.2.2.2.1) 31 y.2.2.2.2.2.2.2.2.2.2.2.2.2.2.2.2.1) 42 y.2.2.2.2.2.2.2.2.2.2.2.2.2.2.2.2.2) sB := by
  obtain ⟨ch, pc, n, t, dp, w, c, wt, a, W, bh, dr, sv, h1, h2, h3, h4, h5, h6, i0, i1, k1, k2, k3⟩ := id h
  unfold f_X11_image1 f_X12_image
  rw [show (0 : Int64) = lN 0 from rfl, show (1 : Int64) = lN 1 from rfl]
  rcases in3 a1 0 1 (by omega) (by omega) with ⟨q, e⟩ | ⟨q1, q2, e⟩ | ⟨x, -, qx, rfl, e⟩
  · rw [if_pos (show a1 < 0 from q), e]
    exact ⟨_, _, rfl, rfl, rfl, Inv_grow h⟩
  · rw [if_neg (show ¬ a1 < 0 from q1), if_neg (show ¬ a1 < 2 from fun q3 => by rw [fa_lt] at q2 q3; rw [show (2 : Int32).toInt = 2 from rfl] at q3; rw [show (nI 1).toInt = 1 from rfl] at q2; omega), e]
    exact ⟨_, _, rfl, rfl, rfl, Inv_grow h⟩
  · obtain rfl : x = 1 := by
      rcases (show x = 0 ∨ x = 1 by omega) with rfl | rfl
      · first | rfl | exact absurd rfl ha | exact absurd ha (by decide)
      · first | rfl | exact absurd rfl ha | exact absurd ha (by decide)
    obtain ⟨tsg, tln, e1, c1, c2⟩ := cl_copyW (c := sI 10) (sA 1) (sA 15) (sA 2) (sA 16)
    obtain ⟨tb, td, ts, e2, c3⟩ := cl_copyS (c := sI 11) (sA 19) (sA 5) (sA 20) (sA 6) (sA 21) (sA 7)
    obtain ⟨pl', de', se', wm', sg', ka, K', pa', ho', le', wa', wo', sb', sd', ss', e3, ⟨⟨p1, p2, p3, p4, p5⟩, p6, p7, p8⟩, p9, -, p11⟩ := ml_passAll (o := 100) (by omega) true (sI 41) (sI 42) (sI 43) (sI 44) (sI 45) (sA 41) (sA 43) (sA 44) (sA 45) (sA 46) (sA 28) (sA 29) (sA 30) (sA 31)
    obtain ⟨⟨v1, v2, v3, v4, v5⟩, v6, v7, v8⟩ := p9 rfl
    have e3' : f_X12_passAll (sI 41) (sI 42) (sI 43) (sI 44) (sI 45) ((100 : Int32) * nI 1) 1 (sA 41) (sA 43) (sA 44) (sA 45) (sA 46) (sA 28) (sA 29) (sA 30) (sA 31) = some (pl', de', se', wm', sg', ka, K', pa', ho', le', wa', wo', sb', sd', ss') := e3
    rw [if_neg (show ¬ nI 1 < 0 by decide), if_pos (show nI 1 < 2 by decide), if_neg (show ¬ ¬ nI 1 = 1 from fun q => q rfl), e]
    unfold f_X1_copyFrom
    rw [Option.bind_some, e1, Option.bind_some, e2, Option.bind_some, Option.bind_some, if_neg (show ¬ (1 : Int32) = 0 by decide), e3', Option.bind_some, if_neg (nI_in (c := 1) (by omega) (by omega)), nI_clamp (n := 1) (by omega)]
    have hCH := h4.cong (mpl' := pl') (mde' := de') (mse' := se') (mpa' := pa') (mho' := ho') (mle' := le') (mwa' := wa') v1 v2 v3 (fun q _ => v6 q)
    have hCK : CH n t dp wt a (sI 7) (sI 8) (sI 9) (sJ 0) (sJ 1) (sJ 2) (K' 100) (K' (100 + 1)) (K' (100 + 2)) (fun p => K' (100 + 5 + 4 * p)) (fun p => K' (100 + 6 + 4 * p)) (fun p => K' (100 + 7 + 4 * p)) (fun p => K' (100 + 8 + 4 * p)) := h4.cong (p1.symm.trans v1) (p2.symm.trans v2) (p3.symm.trans v3) (fun q hq => ⟨(p6 q hq).1.symm.trans (v6 q).1, (p6 q hq).2.1.symm.trans (v6 q).2.1, (p6 q hq).2.2.1.symm.trans (v6 q).2.2.1, (p6 q hq).2.2.2.symm.trans (v6 q).2.2.2⟩)
    have hWR := h5.cong (cc' := sI 10) (sg' := sA 1) (ln' := sA 2) (mc' := wm') (mw' := wo') rfl (fun _ _ => rfl) (fun _ _ => rfl) v4 (fun i _ => v7 i)
    have hWK : WRd w W (sI 10) tsg tln (K' (100 + 3)) (fun k => K' (100 + 41 + k)) := h5.cong rfl c1 c2 (p4.symm.trans v4) (fun i hi => (p7 i hi).symm.trans (v7 i))
    have hSI := h6.cong (cc' := sI 11) (b' := sA 5) (d' := sA 6) (s' := sA 7) (mc' := sg') (mb' := sb') (md' := sd') (ms' := ss') rfl (fun _ _ => ⟨rfl, rfl, Or.inl rfl⟩) v5 (fun i _ => v8 i)
    have hSK : SI n c bh dr sv (sI 11) tb td ts (K' (100 + 4)) (fun k => K' (100 + 49 + 3 * k)) (fun k => K' (100 + 50 + 3 * k)) (fun k => K' (100 + 51 + 3 * k)) := h6.cong rfl (fun i hi => ⟨(c3 i hi).1, (c3 i hi).2.1, Or.inr (c3 i hi).2.2⟩) (p5.symm.trans v5) (fun i hi => ⟨(p8 i hi).1.symm.trans (v8 i).1, (p8 i hi).2.1.symm.trans (v8 i).2.1, (p8 i hi).2.2.symm.trans (v8 i).2.2⟩)
    have hnew : IM 100 1 (upd (sA 42) 1 (vp_nar .boolean 1) 1) (sI 7) (sI 8) (sI 9) (sJ 0) (sJ 1) (sJ 2) (sI 10) tsg tln (sI 11) tb td ts K' := ⟨true, rfl, by rw [up_s]; decide, fun _ => ⟨n, t, dp, w, c, wt, a, W, bh, dr, sv, hCK, hWK, hSK⟩⟩
    have hold := i0.cong (mk' := upd (sA 42) 1 (vp_nar .boolean 1) 0) (K' := K') (up_n (by omega)) (fun i hi1 hi2 => p11 i (by omega))
    exact ⟨_, _, rfl, rfl, rfl, ch, pc, n, t, dp, w, c, wt, a, W, bh, dr, sv, by omega, h2, h3, hCH, hWR, hSI, hold, hnew, k1, k2, k3⟩
theorem st_restore0 {j : Nat} (hj : j + 6 ≤ 3072) (sI : Nat → Int32) (sJ : Nat → Int64) (sA : Nat → Nat → Int32) (sB : Nat → Nat → Int64) (h : Inv j sI sJ sA sB) (a1 : Int32) (ha : ¬ a1 = 1) : ∃ (z : Int32 × Int32 × Int32 × Int32 × Int32 × Int64 × Int64 × Int64 × Int32 × (Nat → Int32) × (Nat → Int32) × Int32 × (Nat → Int32) × (Nat → Int32) × (Nat → Int32)) (y : Int32 × Int32 × Int32 × Int32 × Int32 × Int32 × Int32 × Int32 × (Nat → Int32) × (Nat → Int32) × (Nat → Int32) × (Nat → Int32) × (Nat → Int32) × (Nat → Int32) × (Nat → Int32) × (Nat → Int32) × (Nat → Int32)), f_X11_restore0 (sI 0) (sI 12) (sI 7) (sI 8) (sI 9) (sJ 0) (sJ 1) (sJ 2) (sI 13) (sI 14) (sI 15) (sJ 3) (sJ 4) (sJ 5) (sI 10) (sI 16) (sA 8) (sA 1) (sA 9) (sA 2) (sI 11) (sI 17) (sA 5) (sA 12) (sA 6) (sA 13) (sA 7) (sA 14) a1 = some z ∧ f_X12_restore (sI 41) (sI 42) (sI 43) (sI 44) (sI 45) (sI 53) (sI 54) (sA 42) (sA 41) (sA 43) (sA 44) (sA 45) (sA 46) (sA 28) (sA 29) (sA 30) (sA 31) a1 = some y ∧ z.1 = y.1 ∧ Inv (j + 6) (va_up (va_up (va_up (va_up (va_up (va_up (va_up (va_up (va_up (va_up (va_up (va_up (va_up sI 0 z.2.1) 7 z.2.2.1) 8 z.2.2.2.1) 9 z.2.2.2.2.1) 10 z.2.2.2.2.2.2.2.2.1) 11 z.2.2.2.2.2.2.2.2.2.2.2.1) 41 y.2.1) 42 y.2.2.1) 43 y.2.2.2.1) 44 y.2.2.2.2.1) 45 y.2.2.2.2.2.1) 53 y.2.2.2.2.2.2.1) 54 y.2.2.2.2.2.2.2.1) (va_up (va_up (va_up sJ 0 z.2.2.2.2.2.1) 1 z.2.2.2.2.2.2.1) 2 z.2.2.2.2.2.2.2.1) (va_up (va_up (va_up (va_up (va_up (va_up (va_up (va_up (va_up (va_up (va_up (va_up (va_up (va_up sA 1 z.2.2.2.2.2.2.2.2.2.1) 2 z.2.2.2.2.2.2.2.2.2.2.1) 5 z.2.2.2.2.2.2.2.2.2.2.2.2.1) 6 z.2.2.2.2.2.2.2.2.2.2.2.2.2.1) 7 z.2.2.2.2.2.2.2.2.2.2.2.2.2.2) 41 y.2.2.2.2.2.2.2.2.1) 43 y.2.2.2.2.2.2.2.2.2.1) 44 y.2.2.2.2.2.2.2.2.2.2.1) 45 y.2.2.2.2.2.2.2.2.2.2.2.1) 46 y.2.2.2.2.2.2.2.2.2.2.2.2.1) 28 y.2.2.2.2.2.2.2.2.2.2.2.2.2.1) 29 y.2.2.2.2.2.2.2.2.2.2.2.2.2.2.1) 30 y.2.2.2.2.2.2.2.2.2.2.2.2.2.2.2.1) 31 y.2.2.2.2.2.2.2.2.2.2.2.2.2.2.2.2) sB := by
  obtain ⟨ch, pc, n, t, dp, w, c, wt, a, W, bh, dr, sv, h1, h2, h3, h4, h5, h6, i0, i1, k1, k2, k3⟩ := id h
  unfold f_X11_restore0 f_X12_restore
  rw [show (0 : Int64) = lN 0 from rfl, show (1 : Int64) = lN 1 from rfl]
  rcases in3 a1 0 1 (by omega) (by omega) with ⟨q, e⟩ | ⟨q1, q2, e⟩ | ⟨x, -, qx, rfl, e⟩
  · rw [if_pos (show a1 < 0 from q), e]
    exact ⟨_, _, rfl, rfl, rfl, Inv_grow h⟩
  · rw [if_neg (show ¬ a1 < 0 from q1), if_neg (show ¬ a1 < 2 from fun q3 => by rw [fa_lt] at q2 q3; rw [show (2 : Int32).toInt = 2 from rfl] at q3; rw [show (nI 1).toInt = 1 from rfl] at q2; omega), e]
    exact ⟨_, _, rfl, rfl, rfl, Inv_grow h⟩
  · obtain rfl : x = 0 := by
      rcases (show x = 0 ∨ x = 1 by omega) with rfl | rfl
      · first | rfl | exact absurd rfl ha | exact absurd ha (by decide)
      · first | rfl | exact absurd rfl ha | exact absurd ha (by decide)
    obtain ⟨b, b1, b2, b3⟩ := id i0
    rw [if_neg (show ¬ nI 0 < 0 by decide), if_pos (show nI 0 < 2 by decide), if_neg (show ¬ ¬ nI 0 = 0 from fun q => q rfl), e, Option.bind_some, if_neg (show ¬ (1 : Int32) = 0 by decide), if_neg (nI_in (c := 0) (by omega) (by omega)), nI_clamp (n := 0) (by omega), b1, b2]
    cases b with
    | false =>
      rw [if_pos (show b01 false = 0 from rfl), if_pos (show b01 false = 0 from rfl)]
      exact ⟨_, _, rfl, rfl, rfl, Inv_grow h⟩
    | true =>
      obtain ⟨n', t', dp', w', c', wt', a', W', bh', dr', sv', g1, g2, g3⟩ := b3 rfl
      obtain ⟨tsg, tln, e1, c1, c2⟩ := cl_copyW (c := sI 16) (sA 8) (sA 1) (sA 9) (sA 2)
      obtain ⟨tb, td, ts, e2, c3⟩ := cl_copyS (c := sI 17) (sA 5) (sA 12) (sA 6) (sA 13) (sA 7) (sA 14)
      obtain ⟨pl', de', se', wm', sg', ka, K', pa', ho', le', wa', wo', sb', sd', ss', e3, ⟨⟨p1, p2, p3, p4, p5⟩, p6, p7, p8⟩, -, p10, -⟩ := ml_passAll (o := 0) (by omega) false (sI 41) (sI 42) (sI 43) (sI 44) (sI 45) (sA 41) (sA 43) (sA 44) (sA 45) (sA 46) (sA 28) (sA 29) (sA 30) (sA 31)
      have hK := p10 rfl
      have e3' : f_X12_passAll (sI 41) (sI 42) (sI 43) (sI 44) (sI 45) ((100 : Int32) * nI 0) 0 (sA 41) (sA 43) (sA 44) (sA 45) (sA 46) (sA 28) (sA 29) (sA 30) (sA 31) = some (pl', de', se', wm', sg', ka, K', pa', ho', le', wa', wo', sb', sd', ss') := e3
      rw [if_neg (show ¬ b01 true = 0 by decide), if_neg (show ¬ b01 true = 0 by decide)]
      unfold f_X1_copyFrom
      rw [Option.bind_some, e1, Option.bind_some, e2, Option.bind_some, e3', Option.bind_some]
      have hCH := g1.cong (mpl' := pl') (mde' := de') (mse' := se') (mpa' := pa') (mho' := ho') (mle' := le') (mwa' := wa') (p1.trans (hK _)) (p2.trans (hK _)) (p3.trans (hK _)) (fun q hq => ⟨(p6 q hq).1.trans (hK _), (p6 q hq).2.1.trans (hK _), (p6 q hq).2.2.1.trans (hK _), (p6 q hq).2.2.2.trans (hK _)⟩)
      have hWR := g2.cong (cc' := sI 16) (sg' := tsg) (ln' := tln) (mc' := wm') (mw' := wo') rfl c1 c2 (p4.trans (hK _)) (fun i hi => (p7 i hi).trans (hK _))
      have hSI := g3.cong (cc' := sI 17) (b' := tb) (d' := td) (s' := ts) (mc' := sg') (mb' := sb') (md' := sd') (ms' := ss') rfl (fun i hi => ⟨(c3 i hi).1, (c3 i hi).2.1, Or.inr (c3 i hi).2.2⟩) (p5.trans (hK _)) (fun i hi => ⟨(p8 i hi).1.trans (hK _), (p8 i hi).2.1.trans (hK _), (p8 i hi).2.2.trans (hK _)⟩)
      have j0 := i0.cong (K' := K') rfl (fun i _ _ => hK i)
      have j1 := i1.cong (K' := K') rfl (fun i _ _ => hK i)
      have hch : sI 0 + 1 = nI (ch + 1) := by rw [h2, nI_1]
      exact ⟨_, _, rfl, rfl, rfl, ch + 1, pc, n', t', dp', w', c', wt', a', W', bh', dr', sv', by omega, hch, h3, hCH, hWR, hSI, j0, j1, k1.next (by omega) _, k2.next (by omega) _, k3.next (by omega) _⟩
theorem st_restore1 {j : Nat} (hj : j + 6 ≤ 3072) (sI : Nat → Int32) (sJ : Nat → Int64) (sA : Nat → Nat → Int32) (sB : Nat → Nat → Int64) (h : Inv j sI sJ sA sB) (a1 : Int32) (ha : a1 = 1) : ∃ (z : Int32 × Int32 × Int32 × Int32 × Int32 × Int64 × Int64 × Int64 × Int32 × (Nat → Int32) × (Nat → Int32) × Int32 × (Nat → Int32) × (Nat → Int32) × (Nat → Int32)) (y : Int32 × Int32 × Int32 × Int32 × Int32 × Int32 × Int32 × Int32 × (Nat → Int32) × (Nat → Int32) × (Nat → Int32) × (Nat → Int32) × (Nat → Int32) × (Nat → Int32) × (Nat → Int32) × (Nat → Int32) × (Nat → Int32)), f_X11_restore1 (sI 0) (sI 18) (sI 7) (sI 8) (sI 9) (sJ 0) (sJ 1) (sJ 2) (sI 19) (sI 20) (sI 21) (sJ 6) (sJ 7) (sJ 8) (sI 10) (sI 22) (sA 15) (sA 1) (sA 16) (sA 2) (sI 11) (sI 23) (sA 5) (sA 19) (sA 6) (sA 20) (sA 7) (sA 21) a1 = some z ∧ f_X12_restore (sI 41) (sI 42) (sI 43) (sI 44) (sI 45) (sI 53) (sI 54) (sA 42) (sA 41) (sA 43) (sA 44) (sA 45) (sA 46) (sA 28) (sA 29) (sA 30) (sA 31) a1 = some y ∧ z.1 = y.1 ∧ Inv (j + 6) (va_up (va_up (va_up (va_up (va_up (va_up (va_up (va_up (va_up (va_up (va_up (va_up (va_up sI 0 z.2.1) 7 z.2.2.1) 8 z.2.2.2.1) 9 z.2.2.2.2.1) 10 z.2.2.2.2.2.2.2.2.1) 11 z.2.2.2.2.2.2.2.2.2.2.2.1) 41 y.2.1) 42 y.2.2.1) 43 y.2.2.2.1) 44 y.2.2.2.2.1) 45 y.2.2.2.2.2.1) 53 y.2.2.2.2.2.2.1) 54 y.2.2.2.2.2.2.2.1) (va_up (va_up (va_up sJ 0 z.2.2.2.2.2.1) 1 z.2.2.2.2.2.2.1) 2 z.2.2.2.2.2.2.2.1) (va_up (va_up (va_up (va_up (va_up (va_up (va_up (va_up (va_up (va_up (va_up (va_up (va_up (va_up sA 1 z.2.2.2.2.2.2.2.2.2.1) 2 z.2.2.2.2.2.2.2.2.2.2.1) 5 z.2.2.2.2.2.2.2.2.2.2.2.2.1) 6 z.2.2.2.2.2.2.2.2.2.2.2.2.2.1) 7 z.2.2.2.2.2.2.2.2.2.2.2.2.2.2) 41 y.2.2.2.2.2.2.2.2.1) 43 y.2.2.2.2.2.2.2.2.2.1) 44 y.2.2.2.2.2.2.2.2.2.2.1) 45 y.2.2.2.2.2.2.2.2.2.2.2.1) 46 y.2.2.2.2.2.2.2.2.2.2.2.2.1) 28 y.2.2.2.2.2.2.2.2.2.2.2.2.2.1) 29 y.2.2.2.2.2.2.2.2.2.2.2.2.2.2.1) 30 y.2.2.2.2.2.2.2.2.2.2.2.2.2.2.2.1) 31 y.2.2.2.2.2.2.2.2.2.2.2.2.2.2.2.2) sB := by
  obtain ⟨ch, pc, n, t, dp, w, c, wt, a, W, bh, dr, sv, h1, h2, h3, h4, h5, h6, i0, i1, k1, k2, k3⟩ := id h
  unfold f_X11_restore1 f_X12_restore
  rw [show (0 : Int64) = lN 0 from rfl, show (1 : Int64) = lN 1 from rfl]
  rcases in3 a1 0 1 (by omega) (by omega) with ⟨q, e⟩ | ⟨q1, q2, e⟩ | ⟨x, -, qx, rfl, e⟩
  · rw [if_pos (show a1 < 0 from q), e]
    exact ⟨_, _, rfl, rfl, rfl, Inv_grow h⟩
  · rw [if_neg (show ¬ a1 < 0 from q1), if_neg (show ¬ a1 < 2 from fun q3 => by rw [fa_lt] at q2 q3; rw [show (2 : Int32).toInt = 2 from rfl] at q3; rw [show (nI 1).toInt = 1 from rfl] at q2; omega), e]
    exact ⟨_, _, rfl, rfl, rfl, Inv_grow h⟩
  · obtain rfl : x = 1 := by
      rcases (show x = 0 ∨ x = 1 by omega) with rfl | rfl
      · first | rfl | exact absurd rfl ha | exact absurd ha (by decide)
      · first | rfl | exact absurd rfl ha | exact absurd ha (by decide)
    obtain ⟨b, b1, b2, b3⟩ := id i1
    rw [if_neg (show ¬ nI 1 < 0 by decide), if_pos (show nI 1 < 2 by decide), if_neg (show ¬ ¬ nI 1 = 1 from fun q => q rfl), e, Option.bind_some, if_neg (show ¬ (1 : Int32) = 0 by decide), if_neg (nI_in (c := 1) (by omega) (by omega)), nI_clamp (n := 1) (by omega), b1, b2]
    cases b with
    | false =>
      rw [if_pos (show b01 false = 0 from rfl), if_pos (show b01 false = 0 from rfl)]
      exact ⟨_, _, rfl, rfl, rfl, Inv_grow h⟩
    | true =>
      obtain ⟨n', t', dp', w', c', wt', a', W', bh', dr', sv', g1, g2, g3⟩ := b3 rfl
      obtain ⟨tsg, tln, e1, c1, c2⟩ := cl_copyW (c := sI 22) (sA 15) (sA 1) (sA 16) (sA 2)
      obtain ⟨tb, td, ts, e2, c3⟩ := cl_copyS (c := sI 23) (sA 5) (sA 19) (sA 6) (sA 20) (sA 7) (sA 21)
      obtain ⟨pl', de', se', wm', sg', ka, K', pa', ho', le', wa', wo', sb', sd', ss', e3, ⟨⟨p1, p2, p3, p4, p5⟩, p6, p7, p8⟩, -, p10, -⟩ := ml_passAll (o := 100) (by omega) false (sI 41) (sI 42) (sI 43) (sI 44) (sI 45) (sA 41) (sA 43) (sA 44) (sA 45) (sA 46) (sA 28) (sA 29) (sA 30) (sA 31)
      have hK := p10 rfl
      have e3' : f_X12_passAll (sI 41) (sI 42) (sI 43) (sI 44) (sI 45) ((100 : Int32) * nI 1) 0 (sA 41) (sA 43) (sA 44) (sA 45) (sA 46) (sA 28) (sA 29) (sA 30) (sA 31) = some (pl', de', se', wm', sg', ka, K', pa', ho', le', wa', wo', sb', sd', ss') := e3
      rw [if_neg (show ¬ b01 true = 0 by decide), if_neg (show ¬ b01 true = 0 by decide)]
      unfold f_X1_copyFrom
      rw [Option.bind_some, e1, Option.bind_some, e2, Option.bind_some, e3', Option.bind_some]
      have hCH := g1.cong (mpl' := pl') (mde' := de') (mse' := se') (mpa' := pa') (mho' := ho') (mle' := le') (mwa' := wa') (p1.trans (hK _)) (p2.trans (hK _)) (p3.trans (hK _)) (fun q hq => ⟨(p6 q hq).1.trans (hK _), (p6 q hq).2.1.trans (hK _), (p6 q hq).2.2.1.trans (hK _), (p6 q hq).2.2.2.trans (hK _)⟩)
      have hWR := g2.cong (cc' := sI 22) (sg' := tsg) (ln' := tln) (mc' := wm') (mw' := wo') rfl c1 c2 (p4.trans (hK _)) (fun i hi => (p7 i hi).trans (hK _))
      have hSI := g3.cong (cc' := sI 23) (b' := tb) (d' := td) (s' := ts) (mc' := sg') (mb' := sb') (md' := sd') (ms' := ss') rfl (fun i hi => ⟨(c3 i hi).1, (c3 i hi).2.1, Or.inr (c3 i hi).2.2⟩) (p5.trans (hK _)) (fun i hi => ⟨(p8 i hi).1.trans (hK _), (p8 i hi).2.1.trans (hK _), (p8 i hi).2.2.trans (hK _)⟩)
      have j0 := i0.cong (K' := K') rfl (fun i _ _ => hK i)
      have j1 := i1.cong (K' := K') rfl (fun i _ _ => hK i)
      have hch : sI 0 + 1 = nI (ch + 1) := by rw [h2, nI_1]
      exact ⟨_, _, rfl, rfl, rfl, ch + 1, pc, n', t', dp', w', c', wt', a', W', bh', dr', sv', by omega, hch, h3, hCH, hWR, hSI, j0, j1, k1.next (by omega) _, k2.next (by omega) _, k3.next (by omega) _⟩
