section LAWX
variable {p : Program} {l : Launch} {e : Env} {s : State} {m : MethodId} {below : List Frame} {meth : Method} {c : Code} {dd : va_G} {g : Nat → ClassId} {mv : Nat} {b L j : Nat} {xs : Nat → Int32} {q : Nat → Nat} {sI : Nat → Int32} {sJ : Nat → Int64} {sA : Nat → Nat → Int32} {sB : Nat → Nat → Int64} {o : Nat → Value} {H : Heap} {locs : List Loc} {ls : Array Slot}
theorem exit_no {L j : Nat} (hL : L ≤ 3072) (hj : j ≤ L) (h : ¬ nI L - 6 < nI j) : j + 6 ≤ L := by
  rw [Int32.lt_iff_toInt_lt] at h
  have e1 : (nI L - nI 6).toInt = (L : Int) - (6 : Nat) := pk_sub_toInt (by omega) (by omega)
  have e2 : (nI j).toInt = (j : Int) := nI_toInt (by omega)
  rw [show (nI L - 6 : Int32) = nI L - nI 6 from rfl, e1, e2] at h
  omega
set_option maxHeartbeats 4000000 in
set_option maxRecDepth 100000 in
theorem law_loop (hL : L ≤ 3072) (F : Fx p m c cL_law 4 s #[Value.ref b] RL) (hret : meth.sig.returnType = ret) (hlk : meth.locks = false) (hX : va_X b L xs s s.heap) (hbl : b < s.heap.size) : ∀ (n j : Nat) (sI : Nat → Int32) (sJ : Nat → Int64) (sA : Nat → Nat → Int32) (sB : Nat → Nat → Int64) (o : Nat → Value) (H : Heap) (locs : List Loc) (ls : Array Slot), j ≤ L → L + 1 ≤ j + n → Inv j sI sJ sA sB → Wd dd g mv (fun q : Nat => s.heap.size ≤ q) s H locs (wL g q sI sJ sA sB o) → lv_has ls 4 [(3, .int (nI j)), (2, .ref (q 52)), (1, .ref (q 0)), (0, .ref b)] → W p l e room_1 s m #[Value.ref b] below meth c H locs 600000 7302250 (lw_Z below #[Value.ref b] s) (F0 m 18 ls []) := by
  intro n
  induction n with
  | zero =>
    intro j sI sJ sA sB o H locs ls h1 h2
    exact absurd h2 (by omega)
  | succ n ih =>
    intro j sI sJ sA sB o H locs ls hjl hn hI hw hl
    refine lv_iload_n F.1 F.2.1 dL_law_18 rfl (lv_at hl 0 rfl) ?_
    refine lv_aload_n F.1 F.2.1 dL_law_19 rfl (lv_at hl 3 rfl) ?_
    refine va_slen F.1 F.2.1 hX hbl (Nat.not_le.mpr hbl) hw.2.2.2.1 dL_law_20 ?_
    refine lv_bipush (v := 6) F.1 F.2.1 dL_law_21 (by decide) ?_
    refine lv_isub F.1 F.2.1 dL_law_23 ?_
    refine lv_icmp_gt (tgt := 873) F.1 F.2.1 dL_law_24 (by decide) (fun hc => ?_) (fun hc => ?_)
    · refine lv_iconst (v := 1) F.1 F.2.1 dL_law_873 (by decide) ?_
      refine va_forget (fun q hq => hw.2.2.2.1.2.2 q hq) ?_
      exact lw_ret F.1 F.2.1 hret hlk dL_law_874
    · have hj : j + 6 ≤ L := exit_no hL hjl hc
      refine lv_aload_n F.1 F.2.1 dL_law_27 rfl (lv_at hl 3 rfl) ?_
      refine lv_iload_n F.1 F.2.1 dL_law_28 rfl (lv_at hl 0 rfl) ?_
      refine sr F hX hbl hw (t := j) rfl (by omega) hL dL_law_29 ?_
      refine lv_bipush (v := 31) F.1 F.2.1 dL_law_30 (by decide) ?_
      refine lv_iand F.1 F.2.1 dL_law_32 ?_
      have kk : ∀ (sI : Nat → Int32) (sJ : Nat → Int64) (sA : Nat → Nat → Int32) (sB : Nat → Nat → Int64) (o : Nat → Value) (H : Heap) (locs : List Loc) (ls : Array Slot), Inv (j + 6) sI sJ sA sB → Wd dd g mv (fun q : Nat => s.heap.size ≤ q) s H locs (wL g q sI sJ sA sB o) → lv_has ls 4 [(3, .int (nI j)), (2, .ref (q 52)), (1, .ref (q 0)), (0, .ref b)] → W p l e room_1 s m #[Value.ref b] below meth c H locs 600000 7302250 (lw_Z below #[Value.ref b] s) (F0 m 867 ls []) := by
        intro sI sJ sA sB o H locs ls hI hw hl
        refine lv_iinc (v := nI (j + 6)) (lv' := [(3, .int (nI (j + 6))), (2, .ref (q 52)), (1, .ref (q 0)), (0, .ref b)]) F.1 F.2.1 dL_law_867 hl (k := 0) rfl (nI_add j 6) (by decide) rfl (fun ls hl => ?_)
        refine lv_goto (tgt := 18) F.1 F.2.1 dL_law_870 (by decide) ?_
        exact ih (j + 6) sI sJ sA sB o H locs ls hj (by omega) hI hw hl
      by_cases hs0 : (xs j &&& 31) = 0
      · refine lv_tableIn (tgt := 152) F.1 F.2.1 dL_law_33 (by rw [hs0]; decide) (by rw [hs0]; decide) (by rw [hs0]; rfl) (by decide) ?_
        exact law_places hL F hX hbl hj hI hw hl (fun sI sJ sA sB o H locs hI hw => kk sI sJ sA sB o H locs ls hI hw hl)
      · by_cases hs1 : (xs j &&& 31) = 1
        · refine lv_tableIn (tgt := 175) F.1 F.2.1 dL_law_33 (by rw [hs1]; decide) (by rw [hs1]; decide) (by rw [hs1]; rfl) (by decide) ?_
          exact law_pail hL F hX hbl hj hI hw hl (fun sI sJ sA sB o H locs hI hw => kk sI sJ sA sB o H locs ls hI hw hl)
        · by_cases hs2 : (xs j &&& 31) = 2
          · refine lv_tableIn (tgt := 218) F.1 F.2.1 dL_law_33 (by rw [hs2]; decide) (by rw [hs2]; decide) (by rw [hs2]; rfl) (by decide) ?_
            exact law_door hL F hX hbl hj hI hw hl (fun sI sJ sA sB o H locs hI hw => kk sI sJ sA sB o H locs ls hI hw hl)
          · by_cases hs3 : (xs j &&& 31) = 3
            · refine lv_tableIn (tgt := 251) F.1 F.2.1 dL_law_33 (by rw [hs3]; decide) (by rw [hs3]; decide) (by rw [hs3]; rfl) (by decide) ?_
              exact law_deep hL F hX hbl hj hI hw hl (fun sI sJ sA sB o H locs hI hw => kk sI sJ sA sB o H locs ls hI hw hl)
            · by_cases hs4 : (xs j &&& 31) = 4
              · refine lv_tableIn (tgt := 274) F.1 F.2.1 dL_law_33 (by rw [hs4]; decide) (by rw [hs4]; decide) (by rw [hs4]; rfl) (by decide) ?_
                exact law_say hL F hX hbl hj hI hw hl (fun sI sJ sA sB o H locs hI hw => kk sI sJ sA sB o H locs ls hI hw hl)
              · by_cases hs5 : (xs j &&& 31) = 5
                · refine lv_tableIn (tgt := 297) F.1 F.2.1 dL_law_33 (by rw [hs5]; decide) (by rw [hs5]; decide) (by rw [hs5]; rfl) (by decide) ?_
                  exact law_wipe hL F hX hbl hj hI hw hl (fun sI sJ sA sB o H locs hI hw => kk sI sJ sA sB o H locs ls hI hw hl)
                · by_cases hs6 : (xs j &&& 31) = 6
                  · refine lv_tableIn (tgt := 310) F.1 F.2.1 dL_law_33 (by rw [hs6]; decide) (by rw [hs6]; decide) (by rw [hs6]; rfl) (by decide) ?_
                    exact law_fault hL F hX hbl hj hI hw hl (fun sI sJ sA sB o H locs hI hw => kk sI sJ sA sB o H locs ls hI hw hl)
                  · by_cases hs7 : (xs j &&& 31) = 7
                    · refine lv_tableIn (tgt := 323) F.1 F.2.1 dL_law_33 (by rw [hs7]; decide) (by rw [hs7]; decide) (by rw [hs7]; rfl) (by decide) ?_
                      exact law_pull hL F hX hbl hj hI hw hl (fun sI sJ sA sB o H locs hI hw => kk sI sJ sA sB o H locs ls hI hw hl)
                    · by_cases hs8 : (xs j &&& 31) = 8
                      · refine lv_tableIn (tgt := 336) F.1 F.2.1 dL_law_33 (by rw [hs8]; decide) (by rw [hs8]; decide) (by rw [hs8]; rfl) (by decide) ?_
                        exact law_behind hL F hX hbl hj hI hw hl (fun sI sJ sA sB o H locs hI hw => kk sI sJ sA sB o H locs ls hI hw hl)
                      · by_cases hs9 : (xs j &&& 31) = 9
                        · refine lv_tableIn (tgt := 369) F.1 F.2.1 dL_law_33 (by rw [hs9]; decide) (by rw [hs9]; decide) (by rw [hs9]; rfl) (by decide) ?_
                          exact law_after hL F hX hbl hj hI hw hl (fun sI sJ sA sB o H locs hI hw => kk sI sJ sA sB o H locs ls hI hw hl)
                        · by_cases hs10 : (xs j &&& 31) = 10
                          · refine lv_tableIn (tgt := 392) F.1 F.2.1 dL_law_33 (by rw [hs10]; decide) (by rw [hs10]; decide) (by rw [hs10]; rfl) (by decide) ?_
                            exact law_fewest hL F hX hbl hj hI hw hl (fun sI sJ sA sB o H locs hI hw => kk sI sJ sA sB o H locs ls hI hw hl)
                          · by_cases hs11 : (xs j &&& 31) = 11
                            · refine lv_tableIn (tgt := 415) F.1 F.2.1 dL_law_33 (by rw [hs11]; decide) (by rw [hs11]; decide) (by rw [hs11]; rfl) (by decide) ?_
                              exact law_soon hL F hX hbl hj hI hw hl (fun sI sJ sA sB o H locs hI hw => kk sI sJ sA sB o H locs ls hI hw hl)
                            · by_cases hs12 : (xs j &&& 31) = 12
                              · refine lv_tableIn (tgt := 438) F.1 F.2.1 dL_law_33 (by rw [hs12]; decide) (by rw [hs12]; decide) (by rw [hs12]; rfl) (by decide) ?_
                                exact law_hung hL F hX hbl hj hI hw hl (fun sI sJ sA sB o H locs hI hw => kk sI sJ sA sB o H locs ls hI hw hl)
                              · by_cases hs13 : (xs j &&& 31) = 13
                                · refine lv_tableIn (tgt := 461) F.1 F.2.1 dL_law_33 (by rw [hs13]; decide) (by rw [hs13]; decide) (by rw [hs13]; rfl) (by decide) ?_
                                  exact law_race hL F hX hbl hj hI hw hl (fun sI sJ sA sB o H locs hI hw => kk sI sJ sA sB o H locs ls hI hw hl)
                                · by_cases hs14 : (xs j &&& 31) = 14
                                  · refine lv_tableIn (tgt := 504) F.1 F.2.1 dL_law_33 (by rw [hs14]; decide) (by rw [hs14]; decide) (by rw [hs14]; rfl) (by decide) ?_
                                    exact law_widow hL F hX hbl hj hI hw hl (fun sI sJ sA sB o H locs hI hw => kk sI sJ sA sB o H locs ls hI hw hl)
                                  · by_cases hs15 : (xs j &&& 31) = 15
                                    · refine lv_tableIn (tgt := 568) F.1 F.2.1 dL_law_33 (by rw [hs15]; decide) (by rw [hs15]; decide) (by rw [hs15]; rfl) (by decide) ?_
                                      exact law_word hL F hX hbl hj hI hw hl (fun sI sJ sA sB o H locs hI hw => kk sI sJ sA sB o H locs ls hI hw hl)
                                    · by_cases hs16 : (xs j &&& 31) = 16
                                      · refine lv_tableIn (tgt := 581) F.1 F.2.1 dL_law_33 (by rw [hs16]; decide) (by rw [hs16]; decide) (by rw [hs16]; rfl) (by decide) ?_
                                        exact law_drop hL F hX hbl hj hI hw hl (fun sI sJ sA sB o H locs hI hw => kk sI sJ sA sB o H locs ls hI hw hl)
                                      · by_cases hs17 : (xs j &&& 31) = 17
                                        · refine lv_tableIn (tgt := 594) F.1 F.2.1 dL_law_33 (by rw [hs17]; decide) (by rw [hs17]; decide) (by rw [hs17]; rfl) (by decide) ?_
                                          exact law_apart hL F hX hbl hj hI hw hl (fun sI sJ sA sB o H locs hI hw => kk sI sJ sA sB o H locs ls hI hw hl)
                                        · by_cases hs18 : (xs j &&& 31) = 18
                                          · refine lv_tableIn (tgt := 617) F.1 F.2.1 dL_law_33 (by rw [hs18]; decide) (by rw [hs18]; decide) (by rw [hs18]; rfl) (by decide) ?_
                                            exact law_seen hL F hX hbl hj hI hw hl (fun sI sJ sA sB o H locs hI hw => kk sI sJ sA sB o H locs ls hI hw hl)
                                          · by_cases hs19 : (xs j &&& 31) = 19
                                            · refine lv_tableIn (tgt := 676) F.1 F.2.1 dL_law_33 (by rw [hs19]; decide) (by rw [hs19]; decide) (by rw [hs19]; rfl) (by decide) ?_
                                              exact law_forget hL F hX hbl hj hI hw hl (fun sI sJ sA sB o H locs hI hw => kk sI sJ sA sB o H locs ls hI hw hl)
                                            · by_cases hs20 : (xs j &&& 31) = 20
                                              · refine lv_tableIn (tgt := 689) F.1 F.2.1 dL_law_33 (by rw [hs20]; decide) (by rw [hs20]; decide) (by rw [hs20]; rfl) (by decide) ?_
                                                exact law_came hL F hX hbl hj hI hw hl (fun sI sJ sA sB o H locs hI hw => kk sI sJ sA sB o H locs ls hI hw hl)
                                              · by_cases hs21 : (xs j &&& 31) = 21
                                                · refine lv_tableIn (tgt := 722) F.1 F.2.1 dL_law_33 (by rw [hs21]; decide) (by rw [hs21]; decide) (by rw [hs21]; rfl) (by decide) ?_
                                                  exact law_could hL F hX hbl hj hI hw hl (fun sI sJ sA sB o H locs hI hw => kk sI sJ sA sB o H locs ls hI hw hl)
                                                · by_cases hs22 : (xs j &&& 31) = 22
                                                  · refine lv_tableIn (tgt := 755) F.1 F.2.1 dL_law_33 (by rw [hs22]; decide) (by rw [hs22]; decide) (by rw [hs22]; rfl) (by decide) ?_
                                                    exact law_day hL F hX hbl hj hI hw hl (fun sI sJ sA sB o H locs hI hw => kk sI sJ sA sB o H locs ls hI hw hl)
                                                  · by_cases hs23 : (xs j &&& 31) = 23
                                                    · refine lv_tableIn (tgt := 798) F.1 F.2.1 dL_law_33 (by rw [hs23]; decide) (by rw [hs23]; decide) (by rw [hs23]; rfl) (by decide) ?_
                                                      by_cases ha : xs (j + 1) = 1
                                                      · exact law_image1 hL F hX hbl hj ha hI hw hl (fun sI sJ sA sB o H locs hI hw => kk sI sJ sA sB o H locs ls hI hw hl)
                                                      · exact law_image0 hL F hX hbl hj ha hI hw hl (fun sI sJ sA sB o H locs hI hw => kk sI sJ sA sB o H locs ls hI hw hl)
                                                    · by_cases hs24 : (xs j &&& 31) = 24
                                                      · refine lv_tableIn (tgt := 821) F.1 F.2.1 dL_law_33 (by rw [hs24]; decide) (by rw [hs24]; decide) (by rw [hs24]; rfl) (by decide) ?_
                                                        by_cases ha : xs (j + 1) = 1
                                                        · exact law_restore1 hL F hX hbl hj ha hI hw hl (fun sI sJ sA sB o H locs hI hw => kk sI sJ sA sB o H locs ls hI hw hl)
                                                        · exact law_restore0 hL F hX hbl hj ha hI hw hl (fun sI sJ sA sB o H locs hI hw => kk sI sJ sA sB o H locs ls hI hw hl)
                                                      · by_cases hs25 : (xs j &&& 31) = 25
                                                        · refine lv_tableIn (tgt := 844) F.1 F.2.1 dL_law_33 (by rw [hs25]; decide) (by rw [hs25]; decide) (by rw [hs25]; rfl) (by decide) ?_
                                                          exact law_told hL F hX hbl hj hI hw hl (fun sI sJ sA sB o H locs hI hw => kk sI sJ sA sB o H locs ls hI hw hl)
                                                        · have e0 : (xs j &&& 31).toInt ≠ 0 := fun h => hs0 (Int32.toInt_inj.mp h)
                                                          have e1 : (xs j &&& 31).toInt ≠ 1 := fun h => hs1 (Int32.toInt_inj.mp h)
                                                          have e2 : (xs j &&& 31).toInt ≠ 2 := fun h => hs2 (Int32.toInt_inj.mp h)
                                                          have e3 : (xs j &&& 31).toInt ≠ 3 := fun h => hs3 (Int32.toInt_inj.mp h)
                                                          have e4 : (xs j &&& 31).toInt ≠ 4 := fun h => hs4 (Int32.toInt_inj.mp h)
                                                          have e5 : (xs j &&& 31).toInt ≠ 5 := fun h => hs5 (Int32.toInt_inj.mp h)
                                                          have e6 : (xs j &&& 31).toInt ≠ 6 := fun h => hs6 (Int32.toInt_inj.mp h)
                                                          have e7 : (xs j &&& 31).toInt ≠ 7 := fun h => hs7 (Int32.toInt_inj.mp h)
                                                          have e8 : (xs j &&& 31).toInt ≠ 8 := fun h => hs8 (Int32.toInt_inj.mp h)
                                                          have e9 : (xs j &&& 31).toInt ≠ 9 := fun h => hs9 (Int32.toInt_inj.mp h)
                                                          have e10 : (xs j &&& 31).toInt ≠ 10 := fun h => hs10 (Int32.toInt_inj.mp h)
                                                          have e11 : (xs j &&& 31).toInt ≠ 11 := fun h => hs11 (Int32.toInt_inj.mp h)
                                                          have e12 : (xs j &&& 31).toInt ≠ 12 := fun h => hs12 (Int32.toInt_inj.mp h)
                                                          have e13 : (xs j &&& 31).toInt ≠ 13 := fun h => hs13 (Int32.toInt_inj.mp h)
                                                          have e14 : (xs j &&& 31).toInt ≠ 14 := fun h => hs14 (Int32.toInt_inj.mp h)
                                                          have e15 : (xs j &&& 31).toInt ≠ 15 := fun h => hs15 (Int32.toInt_inj.mp h)
                                                          have e16 : (xs j &&& 31).toInt ≠ 16 := fun h => hs16 (Int32.toInt_inj.mp h)
                                                          have e17 : (xs j &&& 31).toInt ≠ 17 := fun h => hs17 (Int32.toInt_inj.mp h)
                                                          have e18 : (xs j &&& 31).toInt ≠ 18 := fun h => hs18 (Int32.toInt_inj.mp h)
                                                          have e19 : (xs j &&& 31).toInt ≠ 19 := fun h => hs19 (Int32.toInt_inj.mp h)
                                                          have e20 : (xs j &&& 31).toInt ≠ 20 := fun h => hs20 (Int32.toInt_inj.mp h)
                                                          have e21 : (xs j &&& 31).toInt ≠ 21 := fun h => hs21 (Int32.toInt_inj.mp h)
                                                          have e22 : (xs j &&& 31).toInt ≠ 22 := fun h => hs22 (Int32.toInt_inj.mp h)
                                                          have e23 : (xs j &&& 31).toInt ≠ 23 := fun h => hs23 (Int32.toInt_inj.mp h)
                                                          have e24 : (xs j &&& 31).toInt ≠ 24 := fun h => hs24 (Int32.toInt_inj.mp h)
                                                          have e25 : (xs j &&& 31).toInt ≠ 25 := fun h => hs25 (Int32.toInt_inj.mp h)
                                                          refine lv_tableOut (tgt := 867) F.1 F.2.1 dL_law_33 (by omega) (by decide) ?_
                                                          exact kk sI sJ sA sB o H locs ls (Inv_grow hI) hw hl
end LAWX
