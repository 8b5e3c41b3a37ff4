def b_Law_law_18 (k18 : Nat → Nat → Nat → Int32 → AS → Option (Int32 × AS)) (v0 : Nat) (v1 : Nat) (v2 : Nat) (v3 : Int32) (s : AS) : Option (Int32 × AS) :=
  if 20 ≤ sT s v0 then
  if ((nI (sN s v0)) - (nI 6)) < v3 then
    some (nI 1, s)
  else
    if sT s v0 = 30 ∧ inA v3 (sN s v0) then
    if ((sI s v0 v3.toNatClampNeg) &&& (nI 63)) = nI 0 then
      if sT s v0 = 30 ∧ inA (v3 + (nI 1)) (sN s v0) then
      if sT s v0 = 30 ∧ inA (v3 + (nI 2)) (sN s v0) then
      if sT s v1 = 1 then
      (f_C_terms s v1 (sI s v0 (v3 + (nI 1)).toNatClampNeg) (sI s v0 (v3 + (nI 2)).toNatClampNeg)).bind fun r1 =>
      if sT r1.2 v0 = 30 ∧ inA (v3 + (nI 1)) (sN r1.2 v0) then
      if sT r1.2 v0 = 30 ∧ inA (v3 + (nI 2)) (sN r1.2 v0) then
      if sT r1.2 v2 = 13 then
      (f_M_terms r1.2 v2 (sI r1.2 v0 (v3 + (nI 1)).toNatClampNeg) (sI r1.2 v0 (v3 + (nI 2)).toNatClampNeg)).bind fun r2 =>
      if r1.1 = r2.1 then
        k18 v0 v1 v2 (v3 + nI 6) r2.2
      else
        some (nI 0, r2.2)
      else none
      else none
      else none
      else none
      else none
      else none
    else
    if ((sI s v0 v3.toNatClampNeg) &&& (nI 63)) = nI 1 then
      if sT s v0 = 30 ∧ inA (v3 + (nI 1)) (sN s v0) then
      if sT s v0 = 30 ∧ inA (v3 + (nI 2)) (sN s v0) then
      if sT s v0 = 30 ∧ inA (v3 + (nI 3)) (sN s v0) then
      if sT s v0 = 30 ∧ inA (v3 + (nI 4)) (sN s v0) then
      if sT s v0 = 30 ∧ inA (v3 + (nI 5)) (sN s v0) then
      if sT s v1 = 1 then
      (f_C_feed s v1 (sI s v0 (v3 + (nI 1)).toNatClampNeg) (sI s v0 (v3 + (nI 2)).toNatClampNeg) (sI s v0 (v3 + (nI 3)).toNatClampNeg) (sI s v0 (v3 + (nI 4)).toNatClampNeg) (sI s v0 (v3 + (nI 5)).toNatClampNeg)).bind fun r3 =>
      if sT r3.2 v0 = 30 ∧ inA (v3 + (nI 1)) (sN r3.2 v0) then
      if sT r3.2 v0 = 30 ∧ inA (v3 + (nI 2)) (sN r3.2 v0) then
      if sT r3.2 v0 = 30 ∧ inA (v3 + (nI 3)) (sN r3.2 v0) then
      if sT r3.2 v0 = 30 ∧ inA (v3 + (nI 4)) (sN r3.2 v0) then
      if sT r3.2 v0 = 30 ∧ inA (v3 + (nI 5)) (sN r3.2 v0) then
      if sT r3.2 v2 = 13 then
      (f_M_feed r3.2 v2 (sI r3.2 v0 (v3 + (nI 1)).toNatClampNeg) (sI r3.2 v0 (v3 + (nI 2)).toNatClampNeg) (sI r3.2 v0 (v3 + (nI 3)).toNatClampNeg) (sI r3.2 v0 (v3 + (nI 4)).toNatClampNeg) (sI r3.2 v0 (v3 + (nI 5)).toNatClampNeg)).bind fun r4 =>
      if r3.1 = r4.1 then
        k18 v0 v1 v2 (v3 + nI 6) r4.2
      else
        some (nI 0, r4.2)
      else none
      else none
      else none
      else none
      else none
      else none
      else none
      else none
      else none
      else none
      else none
      else none
    else
    if ((sI s v0 v3.toNatClampNeg) &&& (nI 63)) = nI 2 then
      if sT s v0 = 30 ∧ inA (v3 + (nI 1)) (sN s v0) then
      if sT s v1 = 1 then
      (f_C_end s v1 (sI s v0 (v3 + (nI 1)).toNatClampNeg)).bind fun r5 =>
      if sT r5.2 v0 = 30 ∧ inA (v3 + (nI 1)) (sN r5.2 v0) then
      if sT r5.2 v2 = 13 then
      (f_M_end r5.2 v2 (sI r5.2 v0 (v3 + (nI 1)).toNatClampNeg)).bind fun r6 =>
      if r5.1 = r6.1 then
        k18 v0 v1 v2 (v3 + nI 6) r6.2
      else
        some (nI 0, r6.2)
      else none
      else none
      else none
      else none
    else
    if ((sI s v0 v3.toNatClampNeg) &&& (nI 63)) = nI 3 then
      if sT s v1 = 1 then
      (f_C_law s v1).bind fun r7 =>
      if sT r7.2 v2 = 13 then
      (f_M_law r7.2 v2).bind fun r8 =>
      if r7.1 = r8.1 then
        k18 v0 v1 v2 (v3 + nI 6) r8.2
      else
        some (nI 0, r8.2)
      else none
      else none
    else
    if ((sI s v0 v3.toNatClampNeg) &&& (nI 63)) = nI 4 then
      if sT s v1 = 1 then
      (f_C_orders s v1).bind fun r9 =>
      if sT r9.2 v2 = 13 then
      (f_M_orders r9.2 v2).bind fun r10 =>
      if r9.1 = r10.1 then
        k18 v0 v1 v2 (v3 + nI 6) r10.2
      else
        some (nI 0, r10.2)
      else none
      else none
    else
    if ((sI s v0 v3.toNatClampNeg) &&& (nI 63)) = nI 5 then
      if sT s v1 = 1 then
      (f_C_fault s v1).bind fun r11 =>
      if sT s v2 = 13 then
      (f_M_fault s v2).bind fun r12 =>
      if r11 = r12.1 then
        k18 v0 v1 v2 (v3 + nI 6) r12.2
      else
        some (nI 0, r12.2)
      else none
      else none
    else
    if ((sI s v0 v3.toNatClampNeg) &&& (nI 63)) = nI 6 then
      if sT s v1 = 1 then
      (f_C_stopped s v1).bind fun r13 =>
      if sT s v2 = 13 then
      (f_M_stopped s v2).bind fun r14 =>
      if r13 = r14.1 then
        k18 v0 v1 v2 (v3 + nI 6) r14.2
      else
        some (nI 0, r14.2)
      else none
      else none
    else
    if ((sI s v0 v3.toNatClampNeg) &&& (nI 63)) = nI 7 then
      if sT s v0 = 30 ∧ inA (v3 + (nI 1)) (sN s v0) then
      if sT s v1 = 1 then
      (f_C_force s v1 (sI s v0 (v3 + (nI 1)).toNatClampNeg)).bind fun r15 =>
      if sT r15.2 v0 = 30 ∧ inA (v3 + (nI 1)) (sN r15.2 v0) then
      if sT r15.2 v2 = 13 then
      (f_M_force r15.2 v2 (sI r15.2 v0 (v3 + (nI 1)).toNatClampNeg)).bind fun r16 =>
      if r15.1 = r16.1 then
        k18 v0 v1 v2 (v3 + nI 6) r16.2
      else
        some (nI 0, r16.2)
      else none
      else none
      else none
      else none
    else
    if ((sI s v0 v3.toNatClampNeg) &&& (nI 63)) = nI 8 then
      if sT s v1 = 1 then
      (f_C_put s v1).bind fun r17 =>
      if sT r17.2 v2 = 13 then
      (f_M_put r17.2 v2).bind fun r18 =>
      if r17.1 = r18.1 then
        k18 v0 v1 v2 (v3 + nI 6) r18.2
      else
        some (nI 0, r18.2)
      else none
      else none
    else
    if ((sI s v0 v3.toNatClampNeg) &&& (nI 63)) = nI 9 then
      if sT s v0 = 30 ∧ inA (v3 + (nI 1)) (sN s v0) then
      if sT s v1 = 1 then
      (f_C_rewrite s v1 (sI s v0 (v3 + (nI 1)).toNatClampNeg)).bind fun r19 =>
      if sT r19.2 v0 = 30 ∧ inA (v3 + (nI 1)) (sN r19.2 v0) then
      if sT r19.2 v2 = 13 then
      (f_M_rewrite r19.2 v2 (sI r19.2 v0 (v3 + (nI 1)).toNatClampNeg)).bind fun r20 =>
      if r19.1 = r20.1 then
        k18 v0 v1 v2 (v3 + nI 6) r20.2
      else
        some (nI 0, r20.2)
      else none
      else none
      else none
      else none
    else
    if ((sI s v0 v3.toNatClampNeg) &&& (nI 63)) = nI 10 then
      if sT s v0 = 30 ∧ inA (v3 + (nI 1)) (sN s v0) then
      if sT s v1 = 1 then
      (f_C_drop s v1 (sI s v0 (v3 + (nI 1)).toNatClampNeg)).bind fun r21 =>
      if sT r21.2 v0 = 30 ∧ inA (v3 + (nI 1)) (sN r21.2 v0) then
      if sT r21.2 v2 = 13 then
      (f_M_drop r21.2 v2 (sI r21.2 v0 (v3 + (nI 1)).toNatClampNeg)).bind fun r22 =>
      if r21.1 = r22.1 then
        k18 v0 v1 v2 (v3 + nI 6) r22.2
      else
        some (nI 0, r22.2)
      else none
      else none
      else none
      else none
    else
    if ((sI s v0 v3.toNatClampNeg) &&& (nI 63)) = nI 11 then
      if sT s v0 = 30 ∧ inA (v3 + (nI 1)) (sN s v0) then
      if sT s v1 = 1 then
      (f_C_pack s v1 (sI s v0 (v3 + (nI 1)).toNatClampNeg)).bind fun r23 =>
      if sT r23.2 v0 = 30 ∧ inA (v3 + (nI 1)) (sN r23.2 v0) then
      if sT r23.2 v2 = 13 then
      (f_M_pack r23.2 v2 (sI r23.2 v0 (v3 + (nI 1)).toNatClampNeg)).bind fun r24 =>
      if r23.1 = r24.1 then
        k18 v0 v1 v2 (v3 + nI 6) r24.2
      else
        some (nI 0, r24.2)
      else none
      else none
      else none
      else none
    else
    if ((sI s v0 v3.toNatClampNeg) &&& (nI 63)) = nI 12 then
      if sT s v1 = 1 then
      (f_C_mend s v1).bind fun r25 =>
      if sT r25.2 v2 = 13 then
      (f_M_mend r25.2 v2).bind fun r26 =>
      if r25.1 = r26.1 then
        k18 v0 v1 v2 (v3 + nI 6) r26.2
      else
        some (nI 0, r26.2)
      else none
      else none
    else
    if ((sI s v0 v3.toNatClampNeg) &&& (nI 63)) = nI 13 then
      if sT s v1 = 1 then
      (f_C_undo s v1).bind fun r27 =>
      if sT r27.2 v2 = 13 then
      (f_M_undo r27.2 v2).bind fun r28 =>
      if r27.1 = r28.1 then
        k18 v0 v1 v2 (v3 + nI 6) r28.2
      else
        some (nI 0, r28.2)
      else none
      else none
    else
    if ((sI s v0 v3.toNatClampNeg) &&& (nI 63)) = nI 14 then
      if sT s v0 = 30 ∧ inA (v3 + (nI 1)) (sN s v0) then
      if sT s v1 = 1 then
      (f_C_view s v1 (sI s v0 (v3 + (nI 1)).toNatClampNeg)).bind fun r29 =>
      if sT r29.2 v0 = 30 ∧ inA (v3 + (nI 1)) (sN r29.2 v0) then
      if sT r29.2 v2 = 13 then
      (f_M_view r29.2 v2 (sI r29.2 v0 (v3 + (nI 1)).toNatClampNeg)).bind fun r30 =>
      if r29.1 = r30.1 then
        k18 v0 v1 v2 (v3 + nI 6) r30.2
      else
        some (nI 0, r30.2)
      else none
      else none
      else none
      else none
    else
    if ((sI s v0 v3.toNatClampNeg) &&& (nI 63)) = nI 15 then
      if sT s v0 = 30 ∧ inA (v3 + (nI 1)) (sN s v0) then
      if sT s v1 = 1 then
      (f_C_sign s v1 (sI s v0 (v3 + (nI 1)).toNatClampNeg)).bind fun r31 =>
      if sT s v2 = 13 then
      (f_M_sign s v2 (sI s v0 (v3 + (nI 1)).toNatClampNeg)).bind fun r32 =>
      if r31 = r32.1 then
        k18 v0 v1 v2 (v3 + nI 6) r32.2
      else
        some (nI 0, r32.2)
      else none
      else none
      else none
    else
    if ((sI s v0 v3.toNatClampNeg) &&& (nI 63)) = nI 16 then
      if sT s v0 = 30 ∧ inA (v3 + (nI 1)) (sN s v0) then
      if sT s v0 = 30 ∧ inA (v3 + (nI 2)) (sN s v0) then
      if sT s v1 = 1 then
      (f_C_page s v1 (sI s v0 (v3 + (nI 1)).toNatClampNeg) (sI s v0 (v3 + (nI 2)).toNatClampNeg)).bind fun r33 =>
      if sT s v2 = 13 then
      (f_M_page s v2 (sI s v0 (v3 + (nI 1)).toNatClampNeg) (sI s v0 (v3 + (nI 2)).toNatClampNeg)).bind fun r34 =>
      if r33 = r34.1 then
        k18 v0 v1 v2 (v3 + nI 6) r34.2
      else
        some (nI 0, r34.2)
      else none
      else none
      else none
      else none
    else
    if ((sI s v0 v3.toNatClampNeg) &&& (nI 63)) = nI 17 then
      if sT s v0 = 30 ∧ inA (v3 + (nI 1)) (sN s v0) then
      if sT s v0 = 30 ∧ inA (v3 + (nI 2)) (sN s v0) then
      if sT s v0 = 30 ∧ inA (v3 + (nI 3)) (sN s v0) then
      if sT s v1 = 1 then
      (f_C_slot s v1 (sI s v0 (v3 + (nI 1)).toNatClampNeg) (sI s v0 (v3 + (nI 2)).toNatClampNeg) (sI s v0 (v3 + (nI 3)).toNatClampNeg)).bind fun r35 =>
      if sT s v2 = 13 then
      (f_M_slot s v2 (sI s v0 (v3 + (nI 1)).toNatClampNeg) (sI s v0 (v3 + (nI 2)).toNatClampNeg) (sI s v0 (v3 + (nI 3)).toNatClampNeg)).bind fun r36 =>
      if r35 = r36.1 then
        k18 v0 v1 v2 (v3 + nI 6) r36.2
      else
        some (nI 0, r36.2)
      else none
      else none
      else none
      else none
      else none
    else
    if ((sI s v0 v3.toNatClampNeg) &&& (nI 63)) = nI 18 then
      if sT s v0 = 30 ∧ inA (v3 + (nI 1)) (sN s v0) then
      if sT s v1 = 1 then
      (f_C_map s v1 (sI s v0 (v3 + (nI 1)).toNatClampNeg)).bind fun r37 =>
      if sT s v2 = 13 then
      (f_M_map s v2 (sI s v0 (v3 + (nI 1)).toNatClampNeg)).bind fun r38 =>
      if r37 = r38.1 then
        k18 v0 v1 v2 (v3 + nI 6) r38.2
      else
        some (nI 0, r38.2)
      else none
      else none
      else none
    else
    if ((sI s v0 v3.toNatClampNeg) &&& (nI 63)) = nI 19 then
      if sT s v0 = 30 ∧ inA (v3 + (nI 1)) (sN s v0) then
      if sT s v1 = 1 then
      (f_C_search s v1 (sI s v0 (v3 + (nI 1)).toNatClampNeg)).bind fun r39 =>
      if sT r39.2 v0 = 30 ∧ inA (v3 + (nI 1)) (sN r39.2 v0) then
      if sT r39.2 v2 = 13 then
      (f_M_search r39.2 v2 (sI r39.2 v0 (v3 + (nI 1)).toNatClampNeg)).bind fun r40 =>
      if r39.1 = r40.1 then
        k18 v0 v1 v2 (v3 + nI 6) r40.2
      else
        some (nI 0, r40.2)
      else none
      else none
      else none
      else none
    else
    if ((sI s v0 v3.toNatClampNeg) &&& (nI 63)) = nI 20 then
      if sT s v0 = 30 ∧ inA (v3 + (nI 1)) (sN s v0) then
      if sT s v1 = 1 then
      (f_C_scan s v1 (sI s v0 (v3 + (nI 1)).toNatClampNeg)).bind fun r41 =>
      if sT s v2 = 13 then
      (f_M_scan s v2 (sI s v0 (v3 + (nI 1)).toNatClampNeg)).bind fun r42 =>
      if r41 = r42.1 then
        k18 v0 v1 v2 (v3 + nI 6) r42.2
      else
        some (nI 0, r42.2)
      else none
      else none
      else none
    else
    if ((sI s v0 v3.toNatClampNeg) &&& (nI 63)) = nI 21 then
      if sT s v0 = 30 ∧ inA (v3 + (nI 1)) (sN s v0) then
      if sT s v1 = 1 then
      (f_C_above s v1 (sI s v0 (v3 + (nI 1)).toNatClampNeg)).bind fun r43 =>
      if sT s v2 = 13 then
      (f_M_above s v2 (sI s v0 (v3 + (nI 1)).toNatClampNeg)).bind fun r44 =>
      if r43 = r44.1 then
        k18 v0 v1 v2 (v3 + nI 6) r44.2
      else
        some (nI 0, r44.2)
      else none
      else none
      else none
    else
    if ((sI s v0 v3.toNatClampNeg) &&& (nI 63)) = nI 22 then
      if sT s v0 = 30 ∧ inA (v3 + (nI 1)) (sN s v0) then
      if sT s v0 = 30 ∧ inA (v3 + (nI 2)) (sN s v0) then
      if sT s v1 = 1 then
      (f_C_pieces s v1 (sI s v0 (v3 + (nI 1)).toNatClampNeg) (sI s v0 (v3 + (nI 2)).toNatClampNeg)).bind fun r45 =>
      if sT s v2 = 13 then
      (f_M_pieces s v2 (sI s v0 (v3 + (nI 1)).toNatClampNeg) (sI s v0 (v3 + (nI 2)).toNatClampNeg)).bind fun r46 =>
      if r45 = r46.1 then
        k18 v0 v1 v2 (v3 + nI 6) r46.2
      else
        some (nI 0, r46.2)
      else none
      else none
      else none
      else none
    else
    if ((sI s v0 v3.toNatClampNeg) &&& (nI 63)) = nI 23 then
      if sT s v0 = 30 ∧ inA (v3 + (nI 1)) (sN s v0) then
      if sT s v1 = 1 then
      (f_C_sorted s v1 (sI s v0 (v3 + (nI 1)).toNatClampNeg)).bind fun r47 =>
      if sT s v2 = 13 then
      (f_M_sorted s v2 (sI s v0 (v3 + (nI 1)).toNatClampNeg)).bind fun r48 =>
      if r47 = r48.1 then
        k18 v0 v1 v2 (v3 + nI 6) r48.2
      else
        some (nI 0, r48.2)
      else none
      else none
      else none
    else
    if ((sI s v0 v3.toNatClampNeg) &&& (nI 63)) = nI 24 then
      if sT s v1 = 1 then
      (f_C_find s v1).bind fun r49 =>
      if sT r49.2 v2 = 13 then
      (f_M_find r49.2 v2).bind fun r50 =>
      if r49.1 = r50.1 then
        k18 v0 v1 v2 (v3 + nI 6) r50.2
      else
        some (nI 0, r50.2)
      else none
      else none
    else
    if ((sI s v0 v3.toNatClampNeg) &&& (nI 63)) = nI 25 then
      if sT s v0 = 30 ∧ inA (v3 + (nI 1)) (sN s v0) then
      if sT s v1 = 1 then
      (f_C_fit s v1 (sI s v0 (v3 + (nI 1)).toNatClampNeg)).bind fun r51 =>
      if sT r51.2 v0 = 30 ∧ inA (v3 + (nI 1)) (sN r51.2 v0) then
      if sT r51.2 v2 = 13 then
      (f_M_fit r51.2 v2 (sI r51.2 v0 (v3 + (nI 1)).toNatClampNeg)).bind fun r52 =>
      if r51.1 = r52.1 then
        k18 v0 v1 v2 (v3 + nI 6) r52.2
      else
        some (nI 0, r52.2)
      else none
      else none
      else none
      else none
    else
    if ((sI s v0 v3.toNatClampNeg) &&& (nI 63)) = nI 26 then
      if sT s v0 = 30 ∧ inA (v3 + (nI 1)) (sN s v0) then
      if sT s v1 = 1 then
      (f_C_worst s v1 (sI s v0 (v3 + (nI 1)).toNatClampNeg)).bind fun r53 =>
      if sT s v2 = 13 then
      (f_M_worst s v2 (sI s v0 (v3 + (nI 1)).toNatClampNeg)).bind fun r54 =>
      if r53 = r54.1 then
        k18 v0 v1 v2 (v3 + nI 6) r54.2
      else
        some (nI 0, r54.2)
      else none
      else none
      else none
    else
    if ((sI s v0 v3.toNatClampNeg) &&& (nI 63)) = nI 27 then
      if sT s v0 = 30 ∧ inA (v3 + (nI 1)) (sN s v0) then
      if sT s v0 = 30 ∧ inA (v3 + (nI 2)) (sN s v0) then
      if sT s v1 = 1 then
      (f_C_few s v1 (sI s v0 (v3 + (nI 1)).toNatClampNeg) (sI s v0 (v3 + (nI 2)).toNatClampNeg)).bind fun r55 =>
      if sT r55.2 v0 = 30 ∧ inA (v3 + (nI 1)) (sN r55.2 v0) then
      if sT r55.2 v0 = 30 ∧ inA (v3 + (nI 2)) (sN r55.2 v0) then
      if sT r55.2 v2 = 13 then
      (f_M_few r55.2 v2 (sI r55.2 v0 (v3 + (nI 1)).toNatClampNeg) (sI r55.2 v0 (v3 + (nI 2)).toNatClampNeg)).bind fun r56 =>
      if (lg_cmp r55.1 r56.1) = (nI 0) then
        k18 v0 v1 v2 (v3 + nI 6) r56.2
      else
        some (nI 0, r56.2)
      else none
      else none
      else none
      else none
      else none
      else none
    else
    if ((sI s v0 v3.toNatClampNeg) &&& (nI 63)) = nI 28 then
      if sT s v0 = 30 ∧ inA (v3 + (nI 1)) (sN s v0) then
      if sT s v0 = 30 ∧ inA (v3 + (nI 2)) (sN s v0) then
      if sT s v1 = 1 then
      (f_C_compare s v1 (sI s v0 (v3 + (nI 1)).toNatClampNeg) (sI s v0 (v3 + (nI 2)).toNatClampNeg)).bind fun r57 =>
      if sT r57.2 v0 = 30 ∧ inA (v3 + (nI 1)) (sN r57.2 v0) then
      if sT r57.2 v0 = 30 ∧ inA (v3 + (nI 2)) (sN r57.2 v0) then
      if sT r57.2 v2 = 13 then
      (f_M_compare r57.2 v2 (sI r57.2 v0 (v3 + (nI 1)).toNatClampNeg) (sI r57.2 v0 (v3 + (nI 2)).toNatClampNeg)).bind fun r58 =>
      if r57.1 = r58.1 then
        k18 v0 v1 v2 (v3 + nI 6) r58.2
      else
        some (nI 0, r58.2)
      else none
      else none
      else none
      else none
      else none
      else none
    else
    if ((sI s v0 v3.toNatClampNeg) &&& (nI 63)) = nI 29 then
      if sT s v0 = 30 ∧ inA (v3 + (nI 1)) (sN s v0) then
      if sT s v0 = 30 ∧ inA (v3 + (nI 2)) (sN s v0) then
      if sT s v1 = 1 then
      (f_C_days s v1 (sI s v0 (v3 + (nI 1)).toNatClampNeg) (sI s v0 (v3 + (nI 2)).toNatClampNeg)).bind fun r59 =>
      if sT r59.2 v0 = 30 ∧ inA (v3 + (nI 1)) (sN r59.2 v0) then
      if sT r59.2 v0 = 30 ∧ inA (v3 + (nI 2)) (sN r59.2 v0) then
      if sT r59.2 v2 = 13 then
      (f_M_days r59.2 v2 (sI r59.2 v0 (v3 + (nI 1)).toNatClampNeg) (sI r59.2 v0 (v3 + (nI 2)).toNatClampNeg)).bind fun r60 =>
      if r59.1 = r60.1 then
        k18 v0 v1 v2 (v3 + nI 6) r60.2
      else
        some (nI 0, r60.2)
      else none
      else none
      else none
      else none
      else none
      else none
    else
    if ((sI s v0 v3.toNatClampNeg) &&& (nI 63)) = nI 30 then
      if sT s v0 = 30 ∧ inA (v3 + (nI 1)) (sN s v0) then
      if sT s v0 = 30 ∧ inA (v3 + (nI 2)) (sN s v0) then
      if sT s v1 = 1 then
      (f_C_drawn s v1 (sI s v0 (v3 + (nI 1)).toNatClampNeg) (sI s v0 (v3 + (nI 2)).toNatClampNeg)).bind fun r61 =>
      if sT s v2 = 13 then
      (f_M_drawn s v2 (sI s v0 (v3 + (nI 1)).toNatClampNeg) (sI s v0 (v3 + (nI 2)).toNatClampNeg)).bind fun r62 =>
      if r61 = r62.1 then
        k18 v0 v1 v2 (v3 + nI 6) r62.2
      else
        some (nI 0, r62.2)
      else none
      else none
      else none
      else none
    else
    if ((sI s v0 v3.toNatClampNeg) &&& (nI 63)) = nI 31 then
      if sT s v0 = 30 ∧ inA (v3 + (nI 1)) (sN s v0) then
      if sT s v1 = 1 then
      (f_C_image s v1 (sI s v0 (v3 + (nI 1)).toNatClampNeg)).bind fun r63 =>
      if sT r63.2 v0 = 30 ∧ inA (v3 + (nI 1)) (sN r63.2 v0) then
      if sT r63.2 v2 = 13 then
      (f_M_image r63.2 v2 (sI r63.2 v0 (v3 + (nI 1)).toNatClampNeg)).bind fun r64 =>
      if r63.1 = r64.1 then
        k18 v0 v1 v2 (v3 + nI 6) r64.2
      else
        some (nI 0, r64.2)
      else none
      else none
      else none
      else none
    else
    if ((sI s v0 v3.toNatClampNeg) &&& (nI 63)) = nI 32 then
      if sT s v0 = 30 ∧ inA (v3 + (nI 1)) (sN s v0) then
      if sT s v1 = 1 then
      (f_C_back s v1 (sI s v0 (v3 + (nI 1)).toNatClampNeg)).bind fun r65 =>
      if sT r65.2 v0 = 30 ∧ inA (v3 + (nI 1)) (sN r65.2 v0) then
      if sT r65.2 v2 = 13 then
      (f_M_back r65.2 v2 (sI r65.2 v0 (v3 + (nI 1)).toNatClampNeg)).bind fun r66 =>
      if r65.1 = r66.1 then
        k18 v0 v1 v2 (v3 + nI 6) r66.2
      else
        some (nI 0, r66.2)
      else none
      else none
      else none
      else none
    else
    if ((sI s v0 v3.toNatClampNeg) &&& (nI 63)) = nI 33 then
      if sT s v0 = 30 ∧ inA (v3 + (nI 1)) (sN s v0) then
      if sT s v1 = 1 then
      (f_C_count s v1 (sI s v0 (v3 + (nI 1)).toNatClampNeg)).bind fun r67 =>
      if sT s v2 = 13 then
      (f_M_count s v2 (sI s v0 (v3 + (nI 1)).toNatClampNeg)).bind fun r68 =>
      if r67 = r68.1 then
        k18 v0 v1 v2 (v3 + nI 6) r68.2
      else
        some (nI 0, r68.2)
      else none
      else none
      else none
    else
    if ((sI s v0 v3.toNatClampNeg) &&& (nI 63)) = nI 34 then
      if sT s v1 = 1 then
      (f_C_status s v1).bind fun r69 =>
      if sT s v2 = 13 then
      (f_M_status s v2).bind fun r70 =>
      if r69 = r70.1 then
        k18 v0 v1 v2 (v3 + nI 6) r70.2
      else
        some (nI 0, r70.2)
      else none
      else none
    else
    k18 v0 v1 v2 (v3 + nI 6) s
    else none
  else none
theorem t_Law_law_18 {k18 : Nat → Nat → Nat → Int32 → AS → Option (Int32 × AS)} (H18 : ∀ {v0 : Nat} {v1 : Nat} {v2 : Nat} {v3 : Int32} {s : AS} {o : Int32 × AS}, k18 v0 v1 v2 v3 s = some o → Ev 124 mZ271 18 [.ref v0, .ref v1, .ref v2, .int v3] [] s (some (.int o.1), o.2))  {v0 : Nat} {v1 : Nat} {v2 : Nat} {v3 : Int32} {s : AS} {o : Int32 × AS} (h : b_Law_law_18 k18 v0 v1 v2 v3 s = some o) : Ev 124 mZ271 18 [.ref v0, .ref v1, .ref v2, .int v3] [] s (some (.int o.1), o.2) := by
  unfold b_Law_law_18 at h
  refine gd h (fun g1 h => ?_)
  refine Ev_blk 6 (pc' := if ((nI (sN s v0)) - (nI 6)) < v3 then 1040 else 27) (ls' := [.ref v0, .ref v1, .ref v2, .int v3]) (st' := []) (s' := s) rfl ⟨trivial, g1⟩ ?_
  refine ib h (fun c2 h => ?_) (fun c2 h => ?_)
  · refine Ev_blk 1 (pc' := 1041) (ls' := [.ref v0, .ref v1, .ref v2, .int v3]) (st' := [.int (nI 1)]) (s' := s) rfl trivial ?_
    cases h
    exact Ev_ret rfl (Or.inr rfl)
  · refine gd h (fun g3 h => ?_)
    refine Ev_blk 6 (pc' := if ((sI s v0 v3.toNatClampNeg) &&& (nI 63)) = nI 0 then 188 else if ((sI s v0 v3.toNatClampNeg) &&& (nI 63)) = nI 1 then 221 else if ((sI s v0 v3.toNatClampNeg) &&& (nI 63)) = nI 2 then 284 else if ((sI s v0 v3.toNatClampNeg) &&& (nI 63)) = nI 3 then 307 else if ((sI s v0 v3.toNatClampNeg) &&& (nI 63)) = nI 4 then 320 else if ((sI s v0 v3.toNatClampNeg) &&& (nI 63)) = nI 5 then 333 else if ((sI s v0 v3.toNatClampNeg) &&& (nI 63)) = nI 6 then 346 else if ((sI s v0 v3.toNatClampNeg) &&& (nI 63)) = nI 7 then 359 else if ((sI s v0 v3.toNatClampNeg) &&& (nI 63)) = nI 8 then 382 else if ((sI s v0 v3.toNatClampNeg) &&& (nI 63)) = nI 9 then 395 else if ((sI s v0 v3.toNatClampNeg) &&& (nI 63)) = nI 10 then 418 else if ((sI s v0 v3.toNatClampNeg) &&& (nI 63)) = nI 11 then 441 else if ((sI s v0 v3.toNatClampNeg) &&& (nI 63)) = nI 12 then 464 else if ((sI s v0 v3.toNatClampNeg) &&& (nI 63)) = nI 13 then 477 else if ((sI s v0 v3.toNatClampNeg) &&& (nI 63)) = nI 14 then 490 else if ((sI s v0 v3.toNatClampNeg) &&& (nI 63)) = nI 15 then 513 else if ((sI s v0 v3.toNatClampNeg) &&& (nI 63)) = nI 16 then 536 else if ((sI s v0 v3.toNatClampNeg) &&& (nI 63)) = nI 17 then 569 else if ((sI s v0 v3.toNatClampNeg) &&& (nI 63)) = nI 18 then 612 else if ((sI s v0 v3.toNatClampNeg) &&& (nI 63)) = nI 19 then 635 else if ((sI s v0 v3.toNatClampNeg) &&& (nI 63)) = nI 20 then 658 else if ((sI s v0 v3.toNatClampNeg) &&& (nI 63)) = nI 21 then 681 else if ((sI s v0 v3.toNatClampNeg) &&& (nI 63)) = nI 22 then 704 else if ((sI s v0 v3.toNatClampNeg) &&& (nI 63)) = nI 23 then 737 else if ((sI s v0 v3.toNatClampNeg) &&& (nI 63)) = nI 24 then 760 else if ((sI s v0 v3.toNatClampNeg) &&& (nI 63)) = nI 25 then 773 else if ((sI s v0 v3.toNatClampNeg) &&& (nI 63)) = nI 26 then 796 else if ((sI s v0 v3.toNatClampNeg) &&& (nI 63)) = nI 27 then 819 else if ((sI s v0 v3.toNatClampNeg) &&& (nI 63)) = nI 28 then 853 else if ((sI s v0 v3.toNatClampNeg) &&& (nI 63)) = nI 29 then 886 else if ((sI s v0 v3.toNatClampNeg) &&& (nI 63)) = nI 30 then 919 else if ((sI s v0 v3.toNatClampNeg) &&& (nI 63)) = nI 31 then 952 else if ((sI s v0 v3.toNatClampNeg) &&& (nI 63)) = nI 32 then 975 else if ((sI s v0 v3.toNatClampNeg) &&& (nI 63)) = nI 33 then 998 else if ((sI s v0 v3.toNatClampNeg) &&& (nI 63)) = nI 34 then 1021 else 1034) (ls' := [.ref v0, .ref v1, .ref v2, .int v3]) (st' := []) (s' := s) rfl ⟨trivial, ⟨Or.inr g3.1, g3.2⟩⟩ ?_
    refine ib h (fun c4 h => ?_) (fun c4 h => ?_)
    · refine gd h (fun g5 h => ?_)
      refine gd h (fun g6 h => ?_)
      refine gd h (fun g7 h => ?_)
      refine Ev_blk 11 (pc' := 199) (ls' := [.ref v0, .ref v1, .ref v2, .int v3]) (st' := [.int (sI s v0 (v3 + (nI 2)).toNatClampNeg), .int (sI s v0 (v3 + (nI 1)).toNatClampNeg), .ref v1]) (s' := s) rfl ⟨⟨trivial, ⟨Or.inr g5.1, g5.2⟩⟩, ⟨Or.inr g6.1, g6.2⟩⟩ ?_
      refine bd h (fun r1 hr1 h => ?_)
      refine Ev_call 2 12 2 [.ref v1, .int (sI s v0 (v3 + (nI 1)).toNatClampNeg), .int (sI s v0 (v3 + (nI 2)).toNatClampNeg)] [] rfl rfl rfl rfl g7 rfl rfl (Nat.le_of_ble_eq_true rfl) (t_C_terms hr1) ?_
      refine gd h (fun g8 h => ?_)
      refine gd h (fun g9 h => ?_)
      refine gd h (fun g10 h => ?_)
      refine Ev_blk 11 (pc' := 213) (ls' := [.ref v0, .ref v1, .ref v2, .int v3]) (st' := [.int (sI r1.2 v0 (v3 + (nI 2)).toNatClampNeg), .int (sI r1.2 v0 (v3 + (nI 1)).toNatClampNeg), .ref v2, .int r1.1]) (s' := r1.2) rfl ⟨⟨trivial, ⟨Or.inr g8.1, g8.2⟩⟩, ⟨Or.inr g9.1, g9.2⟩⟩ ?_
      refine bd h (fun r2 hr2 h => ?_)
      refine Ev_call 2 147 2 [.ref v2, .int (sI r1.2 v0 (v3 + (nI 1)).toNatClampNeg), .int (sI r1.2 v0 (v3 + (nI 2)).toNatClampNeg)] [.int r1.1] rfl rfl rfl rfl g10 rfl rfl (Nat.le_of_ble_eq_true rfl) (t_M_terms hr2) ?_
      refine Ev_blk 1 (pc' := if r1.1 = r2.1 then 1034 else 219) (ls' := [.ref v0, .ref v1, .ref v2, .int v3]) (st' := []) (s' := r2.2) rfl trivial ?_
      refine ib h (fun c11 h => ?_) (fun c11 h => ?_)
      · refine Ev_blk 2 (pc' := 18) (ls' := [.ref v0, .ref v1, .ref v2, .int (v3 + nI 6)]) (st' := []) (s' := r2.2) rfl trivial ?_
        exact H18 h
      · refine Ev_blk 1 (pc' := 220) (ls' := [.ref v0, .ref v1, .ref v2, .int v3]) (st' := [.int (nI 0)]) (s' := r2.2) rfl trivial ?_
        cases h
        exact Ev_ret rfl (Or.inl rfl)
    refine ib h (fun c12 h => ?_) (fun c12 h => ?_)
    · refine gd h (fun g13 h => ?_)
      refine gd h (fun g14 h => ?_)
      refine gd h (fun g15 h => ?_)
      refine gd h (fun g16 h => ?_)
      refine gd h (fun g17 h => ?_)
      refine gd h (fun g18 h => ?_)
      refine Ev_blk 26 (pc' := 247) (ls' := [.ref v0, .ref v1, .ref v2, .int v3]) (st' := [.int (sI s v0 (v3 + (nI 5)).toNatClampNeg), .int (sI s v0 (v3 + (nI 4)).toNatClampNeg), .int (sI s v0 (v3 + (nI 3)).toNatClampNeg), .int (sI s v0 (v3 + (nI 2)).toNatClampNeg), .int (sI s v0 (v3 + (nI 1)).toNatClampNeg), .ref v1]) (s' := s) rfl ⟨⟨⟨⟨⟨trivial, ⟨Or.inr g13.1, g13.2⟩⟩, ⟨Or.inr g14.1, g14.2⟩⟩, ⟨Or.inr g15.1, g15.2⟩⟩, ⟨Or.inr g16.1, g16.2⟩⟩, ⟨Or.inr g17.1, g17.2⟩⟩ ?_
      refine bd h (fun r3 hr3 h => ?_)
      refine Ev_call 2 15 5 [.ref v1, .int (sI s v0 (v3 + (nI 1)).toNatClampNeg), .int (sI s v0 (v3 + (nI 2)).toNatClampNeg), .int (sI s v0 (v3 + (nI 3)).toNatClampNeg), .int (sI s v0 (v3 + (nI 4)).toNatClampNeg), .int (sI s v0 (v3 + (nI 5)).toNatClampNeg)] [] rfl rfl rfl rfl g18 rfl rfl (Nat.le_of_ble_eq_true rfl) (t_C_feed hr3) ?_
      refine gd h (fun g19 h => ?_)
      refine gd h (fun g20 h => ?_)
      refine gd h (fun g21 h => ?_)
      refine gd h (fun g22 h => ?_)
      refine gd h (fun g23 h => ?_)
      refine gd h (fun g24 h => ?_)
      refine Ev_blk 26 (pc' := 276) (ls' := [.ref v0, .ref v1, .ref v2, .int v3]) (st' := [.int (sI r3.2 v0 (v3 + (nI 5)).toNatClampNeg), .int (sI r3.2 v0 (v3 + (nI 4)).toNatClampNeg), .int (sI r3.2 v0 (v3 + (nI 3)).toNatClampNeg), .int (sI r3.2 v0 (v3 + (nI 2)).toNatClampNeg), .int (sI r3.2 v0 (v3 + (nI 1)).toNatClampNeg), .ref v2, .int r3.1]) (s' := r3.2) rfl ⟨⟨⟨⟨⟨trivial, ⟨Or.inr g19.1, g19.2⟩⟩, ⟨Or.inr g20.1, g20.2⟩⟩, ⟨Or.inr g21.1, g21.2⟩⟩, ⟨Or.inr g22.1, g22.2⟩⟩, ⟨Or.inr g23.1, g23.2⟩⟩ ?_
      refine bd h (fun r4 hr4 h => ?_)
      refine Ev_call 2 149 5 [.ref v2, .int (sI r3.2 v0 (v3 + (nI 1)).toNatClampNeg), .int (sI r3.2 v0 (v3 + (nI 2)).toNatClampNeg), .int (sI r3.2 v0 (v3 + (nI 3)).toNatClampNeg), .int (sI r3.2 v0 (v3 + (nI 4)).toNatClampNeg), .int (sI r3.2 v0 (v3 + (nI 5)).toNatClampNeg)] [.int r3.1] rfl rfl rfl rfl g24 rfl rfl (Nat.le_of_ble_eq_true rfl) (t_M_feed hr4) ?_
      refine Ev_blk 1 (pc' := if r3.1 = r4.1 then 1034 else 282) (ls' := [.ref v0, .ref v1, .ref v2, .int v3]) (st' := []) (s' := r4.2) rfl trivial ?_
      refine ib h (fun c25 h => ?_) (fun c25 h => ?_)
      · refine Ev_blk 2 (pc' := 18) (ls' := [.ref v0, .ref v1, .ref v2, .int (v3 + nI 6)]) (st' := []) (s' := r4.2) rfl trivial ?_
        exact H18 h
      · refine Ev_blk 1 (pc' := 283) (ls' := [.ref v0, .ref v1, .ref v2, .int v3]) (st' := [.int (nI 0)]) (s' := r4.2) rfl trivial ?_
        cases h
        exact Ev_ret rfl (Or.inl rfl)
    refine ib h (fun c26 h => ?_) (fun c26 h => ?_)
    · refine gd h (fun g27 h => ?_)
      refine gd h (fun g28 h => ?_)
      refine Ev_blk 6 (pc' := 290) (ls' := [.ref v0, .ref v1, .ref v2, .int v3]) (st' := [.int (sI s v0 (v3 + (nI 1)).toNatClampNeg), .ref v1]) (s' := s) rfl ⟨trivial, ⟨Or.inr g27.1, g27.2⟩⟩ ?_
      refine bd h (fun r5 hr5 h => ?_)
      refine Ev_call 2 18 1 [.ref v1, .int (sI s v0 (v3 + (nI 1)).toNatClampNeg)] [] rfl rfl rfl rfl g28 rfl rfl (Nat.le_of_ble_eq_true rfl) (t_C_end hr5) ?_
      refine gd h (fun g29 h => ?_)
      refine gd h (fun g30 h => ?_)
      refine Ev_blk 6 (pc' := 299) (ls' := [.ref v0, .ref v1, .ref v2, .int v3]) (st' := [.int (sI r5.2 v0 (v3 + (nI 1)).toNatClampNeg), .ref v2, .int r5.1]) (s' := r5.2) rfl ⟨trivial, ⟨Or.inr g29.1, g29.2⟩⟩ ?_
      refine bd h (fun r6 hr6 h => ?_)
      refine Ev_call 2 151 1 [.ref v2, .int (sI r5.2 v0 (v3 + (nI 1)).toNatClampNeg)] [.int r5.1] rfl rfl rfl rfl g30 rfl rfl (Nat.le_of_ble_eq_true rfl) (t_M_end hr6) ?_
      refine Ev_blk 1 (pc' := if r5.1 = r6.1 then 1034 else 305) (ls' := [.ref v0, .ref v1, .ref v2, .int v3]) (st' := []) (s' := r6.2) rfl trivial ?_
      refine ib h (fun c31 h => ?_) (fun c31 h => ?_)
      · refine Ev_blk 2 (pc' := 18) (ls' := [.ref v0, .ref v1, .ref v2, .int (v3 + nI 6)]) (st' := []) (s' := r6.2) rfl trivial ?_
        exact H18 h
      · refine Ev_blk 1 (pc' := 306) (ls' := [.ref v0, .ref v1, .ref v2, .int v3]) (st' := [.int (nI 0)]) (s' := r6.2) rfl trivial ?_
        cases h
        exact Ev_ret rfl (Or.inl rfl)
    refine ib h (fun c32 h => ?_) (fun c32 h => ?_)
    · refine gd h (fun g33 h => ?_)
      refine Ev_blk 1 (pc' := 308) (ls' := [.ref v0, .ref v1, .ref v2, .int v3]) (st' := [.ref v1]) (s' := s) rfl trivial ?_
      refine bd h (fun r7 hr7 h => ?_)
      refine Ev_call 2 19 0 [.ref v1] [] rfl rfl rfl rfl g33 rfl rfl (Nat.le_of_ble_eq_true rfl) (t_C_law hr7) ?_
      refine gd h (fun g34 h => ?_)
      refine Ev_blk 1 (pc' := 312) (ls' := [.ref v0, .ref v1, .ref v2, .int v3]) (st' := [.ref v2, .int r7.1]) (s' := r7.2) rfl trivial ?_
      refine bd h (fun r8 hr8 h => ?_)
      refine Ev_call 2 153 0 [.ref v2] [.int r7.1] rfl rfl rfl rfl g34 rfl rfl (Nat.le_of_ble_eq_true rfl) (t_M_law hr8) ?_
      refine Ev_blk 1 (pc' := if r7.1 = r8.1 then 1034 else 318) (ls' := [.ref v0, .ref v1, .ref v2, .int v3]) (st' := []) (s' := r8.2) rfl trivial ?_
      refine ib h (fun c35 h => ?_) (fun c35 h => ?_)
      · refine Ev_blk 2 (pc' := 18) (ls' := [.ref v0, .ref v1, .ref v2, .int (v3 + nI 6)]) (st' := []) (s' := r8.2) rfl trivial ?_
        exact H18 h
      · refine Ev_blk 1 (pc' := 319) (ls' := [.ref v0, .ref v1, .ref v2, .int v3]) (st' := [.int (nI 0)]) (s' := r8.2) rfl trivial ?_
        cases h
        exact Ev_ret rfl (Or.inl rfl)
    refine ib h (fun c36 h => ?_) (fun c36 h => ?_)
    · refine gd h (fun g37 h => ?_)
      refine Ev_blk 1 (pc' := 321) (ls' := [.ref v0, .ref v1, .ref v2, .int v3]) (st' := [.ref v1]) (s' := s) rfl trivial ?_
      refine bd h (fun r9 hr9 h => ?_)
      refine Ev_call 2 40 0 [.ref v1] [] rfl rfl rfl rfl g37 rfl rfl (Nat.le_of_ble_eq_true rfl) (t_C_orders hr9) ?_
      refine gd h (fun g38 h => ?_)
      refine Ev_blk 1 (pc' := 325) (ls' := [.ref v0, .ref v1, .ref v2, .int v3]) (st' := [.ref v2, .int r9.1]) (s' := r9.2) rfl trivial ?_
      refine bd h (fun r10 hr10 h => ?_)
      refine Ev_call 2 251 0 [.ref v2] [.int r9.1] rfl rfl rfl rfl g38 rfl rfl (Nat.le_of_ble_eq_true rfl) (t_M_orders hr10) ?_
      refine Ev_blk 1 (pc' := if r9.1 = r10.1 then 1034 else 331) (ls' := [.ref v0, .ref v1, .ref v2, .int v3]) (st' := []) (s' := r10.2) rfl trivial ?_
      refine ib h (fun c39 h => ?_) (fun c39 h => ?_)
      · refine Ev_blk 2 (pc' := 18) (ls' := [.ref v0, .ref v1, .ref v2, .int (v3 + nI 6)]) (st' := []) (s' := r10.2) rfl trivial ?_
        exact H18 h
      · refine Ev_blk 1 (pc' := 332) (ls' := [.ref v0, .ref v1, .ref v2, .int v3]) (st' := [.int (nI 0)]) (s' := r10.2) rfl trivial ?_
        cases h
        exact Ev_ret rfl (Or.inl rfl)
    refine ib h (fun c40 h => ?_) (fun c40 h => ?_)
    · refine gd h (fun g41 h => ?_)
      refine Ev_blk 1 (pc' := 334) (ls' := [.ref v0, .ref v1, .ref v2, .int v3]) (st' := [.ref v1]) (s' := s) rfl trivial ?_
      refine bd h (fun r11 hr11 h => ?_)
      refine Ev_call 2 87 0 [.ref v1] [] rfl rfl rfl rfl g41 rfl rfl (Nat.le_of_ble_eq_true rfl) (t_C_fault hr11) ?_
      refine gd h (fun g42 h => ?_)
      refine Ev_blk 1 (pc' := 338) (ls' := [.ref v0, .ref v1, .ref v2, .int v3]) (st' := [.ref v2, .int r11]) (s' := s) rfl trivial ?_
      refine bd h (fun r12 hr12 h => ?_)
      refine Ev_call 2 152 0 [.ref v2] [.int r11] rfl rfl rfl rfl g42 rfl rfl (Nat.le_of_ble_eq_true rfl) (t_M_fault hr12) ?_
      refine Ev_blk 1 (pc' := if r11 = r12.1 then 1034 else 344) (ls' := [.ref v0, .ref v1, .ref v2, .int v3]) (st' := []) (s' := r12.2) rfl trivial ?_
      refine ib h (fun c43 h => ?_) (fun c43 h => ?_)
      · refine Ev_blk 2 (pc' := 18) (ls' := [.ref v0, .ref v1, .ref v2, .int (v3 + nI 6)]) (st' := []) (s' := r12.2) rfl trivial ?_
        exact H18 h
      · refine Ev_blk 1 (pc' := 345) (ls' := [.ref v0, .ref v1, .ref v2, .int v3]) (st' := [.int (nI 0)]) (s' := r12.2) rfl trivial ?_
        cases h
        exact Ev_ret rfl (Or.inl rfl)
    refine ib h (fun c44 h => ?_) (fun c44 h => ?_)
    · refine gd h (fun g45 h => ?_)
      refine Ev_blk 1 (pc' := 347) (ls' := [.ref v0, .ref v1, .ref v2, .int v3]) (st' := [.ref v1]) (s' := s) rfl trivial ?_
      refine bd h (fun r13 hr13 h => ?_)
      refine Ev_call 2 88 0 [.ref v1] [] rfl rfl rfl rfl g45 rfl rfl (Nat.le_of_ble_eq_true rfl) (t_C_stopped hr13) ?_
      refine gd h (fun g46 h => ?_)
      refine Ev_blk 1 (pc' := 351) (ls' := [.ref v0, .ref v1, .ref v2, .int v3]) (st' := [.ref v2, .int r13]) (s' := s) rfl trivial ?_
      refine bd h (fun r14 hr14 h => ?_)
      refine Ev_call 2 262 0 [.ref v2] [.int r13] rfl rfl rfl rfl g46 rfl rfl (Nat.le_of_ble_eq_true rfl) (t_M_stopped hr14) ?_
      refine Ev_blk 1 (pc' := if r13 = r14.1 then 1034 else 357) (ls' := [.ref v0, .ref v1, .ref v2, .int v3]) (st' := []) (s' := r14.2) rfl trivial ?_
      refine ib h (fun c47 h => ?_) (fun c47 h => ?_)
      · refine Ev_blk 2 (pc' := 18) (ls' := [.ref v0, .ref v1, .ref v2, .int (v3 + nI 6)]) (st' := []) (s' := r14.2) rfl trivial ?_
        exact H18 h
      · refine Ev_blk 1 (pc' := 358) (ls' := [.ref v0, .ref v1, .ref v2, .int v3]) (st' := [.int (nI 0)]) (s' := r14.2) rfl trivial ?_
        cases h
        exact Ev_ret rfl (Or.inl rfl)
    refine ib h (fun c48 h => ?_) (fun c48 h => ?_)
    · refine gd h (fun g49 h => ?_)
      refine gd h (fun g50 h => ?_)
      refine Ev_blk 6 (pc' := 365) (ls' := [.ref v0, .ref v1, .ref v2, .int v3]) (st' := [.int (sI s v0 (v3 + (nI 1)).toNatClampNeg), .ref v1]) (s' := s) rfl ⟨trivial, ⟨Or.inr g49.1, g49.2⟩⟩ ?_
      refine bd h (fun r15 hr15 h => ?_)
      refine Ev_call 2 89 1 [.ref v1, .int (sI s v0 (v3 + (nI 1)).toNatClampNeg)] [] rfl rfl rfl rfl g50 rfl rfl (Nat.le_of_ble_eq_true rfl) (t_C_force hr15) ?_
      refine gd h (fun g51 h => ?_)
      refine gd h (fun g52 h => ?_)
      refine Ev_blk 6 (pc' := 374) (ls' := [.ref v0, .ref v1, .ref v2, .int v3]) (st' := [.int (sI r15.2 v0 (v3 + (nI 1)).toNatClampNeg), .ref v2, .int r15.1]) (s' := r15.2) rfl ⟨trivial, ⟨Or.inr g51.1, g51.2⟩⟩ ?_
      refine bd h (fun r16 hr16 h => ?_)
      refine Ev_call 2 180 1 [.ref v2, .int (sI r15.2 v0 (v3 + (nI 1)).toNatClampNeg)] [.int r15.1] rfl rfl rfl rfl g52 rfl rfl (Nat.le_of_ble_eq_true rfl) (t_M_force hr16) ?_
      refine Ev_blk 1 (pc' := if r15.1 = r16.1 then 1034 else 380) (ls' := [.ref v0, .ref v1, .ref v2, .int v3]) (st' := []) (s' := r16.2) rfl trivial ?_
      refine ib h (fun c53 h => ?_) (fun c53 h => ?_)
      · refine Ev_blk 2 (pc' := 18) (ls' := [.ref v0, .ref v1, .ref v2, .int (v3 + nI 6)]) (st' := []) (s' := r16.2) rfl trivial ?_
        exact H18 h
      · refine Ev_blk 1 (pc' := 381) (ls' := [.ref v0, .ref v1, .ref v2, .int v3]) (st' := [.int (nI 0)]) (s' := r16.2) rfl trivial ?_
        cases h
        exact Ev_ret rfl (Or.inl rfl)
    refine ib h (fun c54 h => ?_) (fun c54 h => ?_)
    · refine gd h (fun g55 h => ?_)
      refine Ev_blk 1 (pc' := 383) (ls' := [.ref v0, .ref v1, .ref v2, .int v3]) (st' := [.ref v1]) (s' := s) rfl trivial ?_
      refine bd h (fun r17 hr17 h => ?_)
      refine Ev_call 2 90 0 [.ref v1] [] rfl rfl rfl rfl g55 rfl rfl (Nat.le_of_ble_eq_true rfl) (t_C_put hr17) ?_
      refine gd h (fun g56 h => ?_)
      refine Ev_blk 1 (pc' := 387) (ls' := [.ref v0, .ref v1, .ref v2, .int v3]) (st' := [.ref v2, .int r17.1]) (s' := r17.2) rfl trivial ?_
      refine bd h (fun r18 hr18 h => ?_)
      refine Ev_call 2 182 0 [.ref v2] [.int r17.1] rfl rfl rfl rfl g56 rfl rfl (Nat.le_of_ble_eq_true rfl) (t_M_put hr18) ?_
      refine Ev_blk 1 (pc' := if r17.1 = r18.1 then 1034 else 393) (ls' := [.ref v0, .ref v1, .ref v2, .int v3]) (st' := []) (s' := r18.2) rfl trivial ?_
      refine ib h (fun c57 h => ?_) (fun c57 h => ?_)
      · refine Ev_blk 2 (pc' := 18) (ls' := [.ref v0, .ref v1, .ref v2, .int (v3 + nI 6)]) (st' := []) (s' := r18.2) rfl trivial ?_
        exact H18 h
      · refine Ev_blk 1 (pc' := 394) (ls' := [.ref v0, .ref v1, .ref v2, .int v3]) (st' := [.int (nI 0)]) (s' := r18.2) rfl trivial ?_
        cases h
        exact Ev_ret rfl (Or.inl rfl)
    refine ib h (fun c58 h => ?_) (fun c58 h => ?_)
    · refine gd h (fun g59 h => ?_)
      refine gd h (fun g60 h => ?_)
      refine Ev_blk 6 (pc' := 401) (ls' := [.ref v0, .ref v1, .ref v2, .int v3]) (st' := [.int (sI s v0 (v3 + (nI 1)).toNatClampNeg), .ref v1]) (s' := s) rfl ⟨trivial, ⟨Or.inr g59.1, g59.2⟩⟩ ?_
      refine bd h (fun r19 hr19 h => ?_)
      refine Ev_call 2 91 1 [.ref v1, .int (sI s v0 (v3 + (nI 1)).toNatClampNeg)] [] rfl rfl rfl rfl g60 rfl rfl (Nat.le_of_ble_eq_true rfl) (t_C_rewrite hr19) ?_
      refine gd h (fun g61 h => ?_)
      refine gd h (fun g62 h => ?_)
      refine Ev_blk 6 (pc' := 410) (ls' := [.ref v0, .ref v1, .ref v2, .int v3]) (st' := [.int (sI r19.2 v0 (v3 + (nI 1)).toNatClampNeg), .ref v2, .int r19.1]) (s' := r19.2) rfl ⟨trivial, ⟨Or.inr g61.1, g61.2⟩⟩ ?_
      refine bd h (fun r20 hr20 h => ?_)
      refine Ev_call 2 209 1 [.ref v2, .int (sI r19.2 v0 (v3 + (nI 1)).toNatClampNeg)] [.int r19.1] rfl rfl rfl rfl g62 rfl rfl (Nat.le_of_ble_eq_true rfl) (t_M_rewrite hr20) ?_
      refine Ev_blk 1 (pc' := if r19.1 = r20.1 then 1034 else 416) (ls' := [.ref v0, .ref v1, .ref v2, .int v3]) (st' := []) (s' := r20.2) rfl trivial ?_
      refine ib h (fun c63 h => ?_) (fun c63 h => ?_)
      · refine Ev_blk 2 (pc' := 18) (ls' := [.ref v0, .ref v1, .ref v2, .int (v3 + nI 6)]) (st' := []) (s' := r20.2) rfl trivial ?_
        exact H18 h
      · refine Ev_blk 1 (pc' := 417) (ls' := [.ref v0, .ref v1, .ref v2, .int v3]) (st' := [.int (nI 0)]) (s' := r20.2) rfl trivial ?_
        cases h
        exact Ev_ret rfl (Or.inl rfl)
    refine ib h (fun c64 h => ?_) (fun c64 h => ?_)
    · refine gd h (fun g65 h => ?_)
      refine gd h (fun g66 h => ?_)
      refine Ev_blk 6 (pc' := 424) (ls' := [.ref v0, .ref v1, .ref v2, .int v3]) (st' := [.int (sI s v0 (v3 + (nI 1)).toNatClampNeg), .ref v1]) (s' := s) rfl ⟨trivial, ⟨Or.inr g65.1, g65.2⟩⟩ ?_
      refine bd h (fun r21 hr21 h => ?_)
      refine Ev_call 2 92 1 [.ref v1, .int (sI s v0 (v3 + (nI 1)).toNatClampNeg)] [] rfl rfl rfl rfl g66 rfl rfl (Nat.le_of_ble_eq_true rfl) (t_C_drop hr21) ?_
      refine gd h (fun g67 h => ?_)
      refine gd h (fun g68 h => ?_)
      refine Ev_blk 6 (pc' := 433) (ls' := [.ref v0, .ref v1, .ref v2, .int v3]) (st' := [.int (sI r21.2 v0 (v3 + (nI 1)).toNatClampNeg), .ref v2, .int r21.1]) (s' := r21.2) rfl ⟨trivial, ⟨Or.inr g67.1, g67.2⟩⟩ ?_
      refine bd h (fun r22 hr22 h => ?_)
      refine Ev_call 2 220 1 [.ref v2, .int (sI r21.2 v0 (v3 + (nI 1)).toNatClampNeg)] [.int r21.1] rfl rfl rfl rfl g68 rfl rfl (Nat.le_of_ble_eq_true rfl) (t_M_drop hr22) ?_
      refine Ev_blk 1 (pc' := if r21.1 = r22.1 then 1034 else 439) (ls' := [.ref v0, .ref v1, .ref v2, .int v3]) (st' := []) (s' := r22.2) rfl trivial ?_
      refine ib h (fun c69 h => ?_) (fun c69 h => ?_)
      · refine Ev_blk 2 (pc' := 18) (ls' := [.ref v0, .ref v1, .ref v2, .int (v3 + nI 6)]) (st' := []) (s' := r22.2) rfl trivial ?_
        exact H18 h
      · refine Ev_blk 1 (pc' := 440) (ls' := [.ref v0, .ref v1, .ref v2, .int v3]) (st' := [.int (nI 0)]) (s' := r22.2) rfl trivial ?_
        cases h
        exact Ev_ret rfl (Or.inl rfl)
    refine ib h (fun c70 h => ?_) (fun c70 h => ?_)
    · refine gd h (fun g71 h => ?_)
      refine gd h (fun g72 h => ?_)
      refine Ev_blk 6 (pc' := 447) (ls' := [.ref v0, .ref v1, .ref v2, .int v3]) (st' := [.int (sI s v0 (v3 + (nI 1)).toNatClampNeg), .ref v1]) (s' := s) rfl ⟨trivial, ⟨Or.inr g71.1, g71.2⟩⟩ ?_
      refine bd h (fun r23 hr23 h => ?_)
      refine Ev_call 2 94 1 [.ref v1, .int (sI s v0 (v3 + (nI 1)).toNatClampNeg)] [] rfl rfl rfl rfl g72 rfl rfl (Nat.le_of_ble_eq_true rfl) (t_C_pack hr23) ?_
      refine gd h (fun g73 h => ?_)
      refine gd h (fun g74 h => ?_)
      refine Ev_blk 6 (pc' := 456) (ls' := [.ref v0, .ref v1, .ref v2, .int v3]) (st' := [.int (sI r23.2 v0 (v3 + (nI 1)).toNatClampNeg), .ref v2, .int r23.1]) (s' := r23.2) rfl ⟨trivial, ⟨Or.inr g73.1, g73.2⟩⟩ ?_
      refine bd h (fun r24 hr24 h => ?_)
      refine Ev_call 2 224 1 [.ref v2, .int (sI r23.2 v0 (v3 + (nI 1)).toNatClampNeg)] [.int r23.1] rfl rfl rfl rfl g74 rfl rfl (Nat.le_of_ble_eq_true rfl) (t_M_pack hr24) ?_
      refine Ev_blk 1 (pc' := if r23.1 = r24.1 then 1034 else 462) (ls' := [.ref v0, .ref v1, .ref v2, .int v3]) (st' := []) (s' := r24.2) rfl trivial ?_
      refine ib h (fun c75 h => ?_) (fun c75 h => ?_)
      · refine Ev_blk 2 (pc' := 18) (ls' := [.ref v0, .ref v1, .ref v2, .int (v3 + nI 6)]) (st' := []) (s' := r24.2) rfl trivial ?_
        exact H18 h
      · refine Ev_blk 1 (pc' := 463) (ls' := [.ref v0, .ref v1, .ref v2, .int v3]) (st' := [.int (nI 0)]) (s' := r24.2) rfl trivial ?_
        cases h
        exact Ev_ret rfl (Or.inl rfl)
    refine ib h (fun c76 h => ?_) (fun c76 h => ?_)
    · refine gd h (fun g77 h => ?_)
      refine Ev_blk 1 (pc' := 465) (ls' := [.ref v0, .ref v1, .ref v2, .int v3]) (st' := [.ref v1]) (s' := s) rfl trivial ?_
      refine bd h (fun r25 hr25 h => ?_)
      refine Ev_call 2 96 0 [.ref v1] [] rfl rfl rfl rfl g77 rfl rfl (Nat.le_of_ble_eq_true rfl) (t_C_mend hr25) ?_
      refine gd h (fun g78 h => ?_)
      refine Ev_blk 1 (pc' := 469) (ls' := [.ref v0, .ref v1, .ref v2, .int v3]) (st' := [.ref v2, .int r25.1]) (s' := r25.2) rfl trivial ?_
      refine bd h (fun r26 hr26 h => ?_)
      refine Ev_call 2 228 0 [.ref v2] [.int r25.1] rfl rfl rfl rfl g78 rfl rfl (Nat.le_of_ble_eq_true rfl) (t_M_mend hr26) ?_
      refine Ev_blk 1 (pc' := if r25.1 = r26.1 then 1034 else 475) (ls' := [.ref v0, .ref v1, .ref v2, .int v3]) (st' := []) (s' := r26.2) rfl trivial ?_
      refine ib h (fun c79 h => ?_) (fun c79 h => ?_)
      · refine Ev_blk 2 (pc' := 18) (ls' := [.ref v0, .ref v1, .ref v2, .int (v3 + nI 6)]) (st' := []) (s' := r26.2) rfl trivial ?_
        exact H18 h
      · refine Ev_blk 1 (pc' := 476) (ls' := [.ref v0, .ref v1, .ref v2, .int v3]) (st' := [.int (nI 0)]) (s' := r26.2) rfl trivial ?_
        cases h
        exact Ev_ret rfl (Or.inl rfl)
    refine ib h (fun c80 h => ?_) (fun c80 h => ?_)
    · refine gd h (fun g81 h => ?_)
      refine Ev_blk 1 (pc' := 478) (ls' := [.ref v0, .ref v1, .ref v2, .int v3]) (st' := [.ref v1]) (s' := s) rfl trivial ?_
      refine bd h (fun r27 hr27 h => ?_)
      refine Ev_call 2 97 0 [.ref v1] [] rfl rfl rfl rfl g81 rfl rfl (Nat.le_of_ble_eq_true rfl) (t_C_undo hr27) ?_
      refine gd h (fun g82 h => ?_)
      refine Ev_blk 1 (pc' := 482) (ls' := [.ref v0, .ref v1, .ref v2, .int v3]) (st' := [.ref v2, .int r27.1]) (s' := r27.2) rfl trivial ?_
      refine bd h (fun r28 hr28 h => ?_)
      refine Ev_call 2 141 0 [.ref v2] [.int r27.1] rfl rfl rfl rfl g82 rfl rfl (Nat.le_of_ble_eq_true rfl) (t_M_undo hr28) ?_
      refine Ev_blk 1 (pc' := if r27.1 = r28.1 then 1034 else 488) (ls' := [.ref v0, .ref v1, .ref v2, .int v3]) (st' := []) (s' := r28.2) rfl trivial ?_
      refine ib h (fun c83 h => ?_) (fun c83 h => ?_)
      · refine Ev_blk 2 (pc' := 18) (ls' := [.ref v0, .ref v1, .ref v2, .int (v3 + nI 6)]) (st' := []) (s' := r28.2) rfl trivial ?_
        exact H18 h
      · refine Ev_blk 1 (pc' := 489) (ls' := [.ref v0, .ref v1, .ref v2, .int v3]) (st' := [.int (nI 0)]) (s' := r28.2) rfl trivial ?_
        cases h
        exact Ev_ret rfl (Or.inl rfl)
    refine ib h (fun c84 h => ?_) (fun c84 h => ?_)
    · refine gd h (fun g85 h => ?_)
      refine gd h (fun g86 h => ?_)
      refine Ev_blk 6 (pc' := 496) (ls' := [.ref v0, .ref v1, .ref v2, .int v3]) (st' := [.int (sI s v0 (v3 + (nI 1)).toNatClampNeg), .ref v1]) (s' := s) rfl ⟨trivial, ⟨Or.inr g85.1, g85.2⟩⟩ ?_
      refine bd h (fun r29 hr29 h => ?_)
      refine Ev_call 2 99 1 [.ref v1, .int (sI s v0 (v3 + (nI 1)).toNatClampNeg)] [] rfl rfl rfl rfl g86 rfl rfl (Nat.le_of_ble_eq_true rfl) (t_C_view hr29) ?_
      refine gd h (fun g87 h => ?_)
      refine gd h (fun g88 h => ?_)
      refine Ev_blk 6 (pc' := 505) (ls' := [.ref v0, .ref v1, .ref v2, .int v3]) (st' := [.int (sI r29.2 v0 (v3 + (nI 1)).toNatClampNeg), .ref v2, .int r29.1]) (s' := r29.2) rfl ⟨trivial, ⟨Or.inr g87.1, g87.2⟩⟩ ?_
      refine bd h (fun r30 hr30 h => ?_)
      refine Ev_call 2 230 1 [.ref v2, .int (sI r29.2 v0 (v3 + (nI 1)).toNatClampNeg)] [.int r29.1] rfl rfl rfl rfl g88 rfl rfl (Nat.le_of_ble_eq_true rfl) (t_M_view hr30) ?_
      refine Ev_blk 1 (pc' := if r29.1 = r30.1 then 1034 else 511) (ls' := [.ref v0, .ref v1, .ref v2, .int v3]) (st' := []) (s' := r30.2) rfl trivial ?_
      refine ib h (fun c89 h => ?_) (fun c89 h => ?_)
      · refine Ev_blk 2 (pc' := 18) (ls' := [.ref v0, .ref v1, .ref v2, .int (v3 + nI 6)]) (st' := []) (s' := r30.2) rfl trivial ?_
        exact H18 h
      · refine Ev_blk 1 (pc' := 512) (ls' := [.ref v0, .ref v1, .ref v2, .int v3]) (st' := [.int (nI 0)]) (s' := r30.2) rfl trivial ?_
        cases h
        exact Ev_ret rfl (Or.inl rfl)
    refine ib h (fun c90 h => ?_) (fun c90 h => ?_)
    · refine gd h (fun g91 h => ?_)
      refine gd h (fun g92 h => ?_)
      refine Ev_blk 6 (pc' := 519) (ls' := [.ref v0, .ref v1, .ref v2, .int v3]) (st' := [.int (sI s v0 (v3 + (nI 1)).toNatClampNeg), .ref v1]) (s' := s) rfl ⟨trivial, ⟨Or.inr g91.1, g91.2⟩⟩ ?_
      refine bd h (fun r31 hr31 h => ?_)
      refine Ev_call 2 101 1 [.ref v1, .int (sI s v0 (v3 + (nI 1)).toNatClampNeg)] [] rfl rfl rfl rfl g92 rfl rfl (Nat.le_of_ble_eq_true rfl) (t_C_sign hr31) ?_
      refine gd h (fun g93 h => ?_)
      refine Ev_blk 6 (pc' := 528) (ls' := [.ref v0, .ref v1, .ref v2, .int v3]) (st' := [.int (sI s v0 (v3 + (nI 1)).toNatClampNeg), .ref v2, .int r31]) (s' := s) rfl ⟨trivial, ⟨Or.inr g91.1, g91.2⟩⟩ ?_
      refine bd h (fun r32 hr32 h => ?_)
      refine Ev_call 2 232 1 [.ref v2, .int (sI s v0 (v3 + (nI 1)).toNatClampNeg)] [.int r31] rfl rfl rfl rfl g93 rfl rfl (Nat.le_of_ble_eq_true rfl) (t_M_sign hr32) ?_
      refine Ev_blk 1 (pc' := if r31 = r32.1 then 1034 else 534) (ls' := [.ref v0, .ref v1, .ref v2, .int v3]) (st' := []) (s' := r32.2) rfl trivial ?_
      refine ib h (fun c94 h => ?_) (fun c94 h => ?_)
      · refine Ev_blk 2 (pc' := 18) (ls' := [.ref v0, .ref v1, .ref v2, .int (v3 + nI 6)]) (st' := []) (s' := r32.2) rfl trivial ?_
        exact H18 h
      · refine Ev_blk 1 (pc' := 535) (ls' := [.ref v0, .ref v1, .ref v2, .int v3]) (st' := [.int (nI 0)]) (s' := r32.2) rfl trivial ?_
        cases h
        exact Ev_ret rfl (Or.inl rfl)
    refine ib h (fun c95 h => ?_) (fun c95 h => ?_)
    · refine gd h (fun g96 h => ?_)
      refine gd h (fun g97 h => ?_)
      refine gd h (fun g98 h => ?_)
      refine Ev_blk 11 (pc' := 547) (ls' := [.ref v0, .ref v1, .ref v2, .int v3]) (st' := [.int (sI s v0 (v3 + (nI 2)).toNatClampNeg), .int (sI s v0 (v3 + (nI 1)).toNatClampNeg), .ref v1]) (s' := s) rfl ⟨⟨trivial, ⟨Or.inr g96.1, g96.2⟩⟩, ⟨Or.inr g97.1, g97.2⟩⟩ ?_
      refine bd h (fun r33 hr33 h => ?_)
      refine Ev_call 2 102 2 [.ref v1, .int (sI s v0 (v3 + (nI 1)).toNatClampNeg), .int (sI s v0 (v3 + (nI 2)).toNatClampNeg)] [] rfl rfl rfl rfl g98 rfl rfl (Nat.le_of_ble_eq_true rfl) (t_C_page hr33) ?_
      refine gd h (fun g99 h => ?_)
      refine Ev_blk 11 (pc' := 561) (ls' := [.ref v0, .ref v1, .ref v2, .int v3]) (st' := [.int (sI s v0 (v3 + (nI 2)).toNatClampNeg), .int (sI s v0 (v3 + (nI 1)).toNatClampNeg), .ref v2, .int r33]) (s' := s) rfl ⟨⟨trivial, ⟨Or.inr g96.1, g96.2⟩⟩, ⟨Or.inr g97.1, g97.2⟩⟩ ?_
      refine bd h (fun r34 hr34 h => ?_)
      refine Ev_call 2 233 2 [.ref v2, .int (sI s v0 (v3 + (nI 1)).toNatClampNeg), .int (sI s v0 (v3 + (nI 2)).toNatClampNeg)] [.int r33] rfl rfl rfl rfl g99 rfl rfl (Nat.le_of_ble_eq_true rfl) (t_M_page hr34) ?_
      refine Ev_blk 1 (pc' := if r33 = r34.1 then 1034 else 567) (ls' := [.ref v0, .ref v1, .ref v2, .int v3]) (st' := []) (s' := r34.2) rfl trivial ?_
      refine ib h (fun c100 h => ?_) (fun c100 h => ?_)
      · refine Ev_blk 2 (pc' := 18) (ls' := [.ref v0, .ref v1, .ref v2, .int (v3 + nI 6)]) (st' := []) (s' := r34.2) rfl trivial ?_
        exact H18 h
      · refine Ev_blk 1 (pc' := 568) (ls' := [.ref v0, .ref v1, .ref v2, .int v3]) (st' := [.int (nI 0)]) (s' := r34.2) rfl trivial ?_
        cases h
        exact Ev_ret rfl (Or.inl rfl)
    refine ib h (fun c101 h => ?_) (fun c101 h => ?_)
    · refine gd h (fun g102 h => ?_)
      refine gd h (fun g103 h => ?_)
      refine gd h (fun g104 h => ?_)
      refine gd h (fun g105 h => ?_)
      refine Ev_blk 16 (pc' := 585) (ls' := [.ref v0, .ref v1, .ref v2, .int v3]) (st' := [.int (sI s v0 (v3 + (nI 3)).toNatClampNeg), .int (sI s v0 (v3 + (nI 2)).toNatClampNeg), .int (sI s v0 (v3 + (nI 1)).toNatClampNeg), .ref v1]) (s' := s) rfl ⟨⟨⟨trivial, ⟨Or.inr g102.1, g102.2⟩⟩, ⟨Or.inr g103.1, g103.2⟩⟩, ⟨Or.inr g104.1, g104.2⟩⟩ ?_
      refine bd h (fun r35 hr35 h => ?_)
      refine Ev_call 2 104 3 [.ref v1, .int (sI s v0 (v3 + (nI 1)).toNatClampNeg), .int (sI s v0 (v3 + (nI 2)).toNatClampNeg), .int (sI s v0 (v3 + (nI 3)).toNatClampNeg)] [] rfl rfl rfl rfl g105 rfl rfl (Nat.le_of_ble_eq_true rfl) (t_C_slot hr35) ?_
      refine gd h (fun g106 h => ?_)
      refine Ev_blk 16 (pc' := 604) (ls' := [.ref v0, .ref v1, .ref v2, .int v3]) (st' := [.int (sI s v0 (v3 + (nI 3)).toNatClampNeg), .int (sI s v0 (v3 + (nI 2)).toNatClampNeg), .int (sI s v0 (v3 + (nI 1)).toNatClampNeg), .ref v2, .int r35]) (s' := s) rfl ⟨⟨⟨trivial, ⟨Or.inr g102.1, g102.2⟩⟩, ⟨Or.inr g103.1, g103.2⟩⟩, ⟨Or.inr g104.1, g104.2⟩⟩ ?_
      refine bd h (fun r36 hr36 h => ?_)
      refine Ev_call 2 235 3 [.ref v2, .int (sI s v0 (v3 + (nI 1)).toNatClampNeg), .int (sI s v0 (v3 + (nI 2)).toNatClampNeg), .int (sI s v0 (v3 + (nI 3)).toNatClampNeg)] [.int r35] rfl rfl rfl rfl g106 rfl rfl (Nat.le_of_ble_eq_true rfl) (t_M_slot hr36) ?_
      refine Ev_blk 1 (pc' := if r35 = r36.1 then 1034 else 610) (ls' := [.ref v0, .ref v1, .ref v2, .int v3]) (st' := []) (s' := r36.2) rfl trivial ?_
      refine ib h (fun c107 h => ?_) (fun c107 h => ?_)
      · refine Ev_blk 2 (pc' := 18) (ls' := [.ref v0, .ref v1, .ref v2, .int (v3 + nI 6)]) (st' := []) (s' := r36.2) rfl trivial ?_
        exact H18 h
      · refine Ev_blk 1 (pc' := 611) (ls' := [.ref v0, .ref v1, .ref v2, .int v3]) (st' := [.int (nI 0)]) (s' := r36.2) rfl trivial ?_
        cases h
        exact Ev_ret rfl (Or.inl rfl)
    refine ib h (fun c108 h => ?_) (fun c108 h => ?_)
    · refine gd h (fun g109 h => ?_)
      refine gd h (fun g110 h => ?_)
      refine Ev_blk 6 (pc' := 618) (ls' := [.ref v0, .ref v1, .ref v2, .int v3]) (st' := [.int (sI s v0 (v3 + (nI 1)).toNatClampNeg), .ref v1]) (s' := s) rfl ⟨trivial, ⟨Or.inr g109.1, g109.2⟩⟩ ?_
      refine bd h (fun r37 hr37 h => ?_)
      refine Ev_call 2 105 1 [.ref v1, .int (sI s v0 (v3 + (nI 1)).toNatClampNeg)] [] rfl rfl rfl rfl g110 rfl rfl (Nat.le_of_ble_eq_true rfl) (t_C_map hr37) ?_
      refine gd h (fun g111 h => ?_)
      refine Ev_blk 6 (pc' := 627) (ls' := [.ref v0, .ref v1, .ref v2, .int v3]) (st' := [.int (sI s v0 (v3 + (nI 1)).toNatClampNeg), .ref v2, .int r37]) (s' := s) rfl ⟨trivial, ⟨Or.inr g109.1, g109.2⟩⟩ ?_
      refine bd h (fun r38 hr38 h => ?_)
      refine Ev_call 2 236 1 [.ref v2, .int (sI s v0 (v3 + (nI 1)).toNatClampNeg)] [.int r37] rfl rfl rfl rfl g111 rfl rfl (Nat.le_of_ble_eq_true rfl) (t_M_map hr38) ?_
      refine Ev_blk 1 (pc' := if r37 = r38.1 then 1034 else 633) (ls' := [.ref v0, .ref v1, .ref v2, .int v3]) (st' := []) (s' := r38.2) rfl trivial ?_
      refine ib h (fun c112 h => ?_) (fun c112 h => ?_)
      · refine Ev_blk 2 (pc' := 18) (ls' := [.ref v0, .ref v1, .ref v2, .int (v3 + nI 6)]) (st' := []) (s' := r38.2) rfl trivial ?_
        exact H18 h
      · refine Ev_blk 1 (pc' := 634) (ls' := [.ref v0, .ref v1, .ref v2, .int v3]) (st' := [.int (nI 0)]) (s' := r38.2) rfl trivial ?_
        cases h
        exact Ev_ret rfl (Or.inl rfl)
    refine ib h (fun c113 h => ?_) (fun c113 h => ?_)
    · refine gd h (fun g114 h => ?_)
      refine gd h (fun g115 h => ?_)
      refine Ev_blk 6 (pc' := 641) (ls' := [.ref v0, .ref v1, .ref v2, .int v3]) (st' := [.int (sI s v0 (v3 + (nI 1)).toNatClampNeg), .ref v1]) (s' := s) rfl ⟨trivial, ⟨Or.inr g114.1, g114.2⟩⟩ ?_
      refine bd h (fun r39 hr39 h => ?_)
      refine Ev_call 2 106 1 [.ref v1, .int (sI s v0 (v3 + (nI 1)).toNatClampNeg)] [] rfl rfl rfl rfl g115 rfl rfl (Nat.le_of_ble_eq_true rfl) (t_C_search hr39) ?_
      refine gd h (fun g116 h => ?_)
      refine gd h (fun g117 h => ?_)
      refine Ev_blk 6 (pc' := 650) (ls' := [.ref v0, .ref v1, .ref v2, .int v3]) (st' := [.int (sI r39.2 v0 (v3 + (nI 1)).toNatClampNeg), .ref v2, .int r39.1]) (s' := r39.2) rfl ⟨trivial, ⟨Or.inr g116.1, g116.2⟩⟩ ?_
      refine bd h (fun r40 hr40 h => ?_)
      refine Ev_call 2 237 1 [.ref v2, .int (sI r39.2 v0 (v3 + (nI 1)).toNatClampNeg)] [.int r39.1] rfl rfl rfl rfl g117 rfl rfl (Nat.le_of_ble_eq_true rfl) (t_M_search hr40) ?_
      refine Ev_blk 1 (pc' := if r39.1 = r40.1 then 1034 else 656) (ls' := [.ref v0, .ref v1, .ref v2, .int v3]) (st' := []) (s' := r40.2) rfl trivial ?_
      refine ib h (fun c118 h => ?_) (fun c118 h => ?_)
      · refine Ev_blk 2 (pc' := 18) (ls' := [.ref v0, .ref v1, .ref v2, .int (v3 + nI 6)]) (st' := []) (s' := r40.2) rfl trivial ?_
        exact H18 h
      · refine Ev_blk 1 (pc' := 657) (ls' := [.ref v0, .ref v1, .ref v2, .int v3]) (st' := [.int (nI 0)]) (s' := r40.2) rfl trivial ?_
        cases h
        exact Ev_ret rfl (Or.inl rfl)
    refine ib h (fun c119 h => ?_) (fun c119 h => ?_)
    · refine gd h (fun g120 h => ?_)
      refine gd h (fun g121 h => ?_)
      refine Ev_blk 6 (pc' := 664) (ls' := [.ref v0, .ref v1, .ref v2, .int v3]) (st' := [.int (sI s v0 (v3 + (nI 1)).toNatClampNeg), .ref v1]) (s' := s) rfl ⟨trivial, ⟨Or.inr g120.1, g120.2⟩⟩ ?_
      refine bd h (fun r41 hr41 h => ?_)
      refine Ev_call 2 108 1 [.ref v1, .int (sI s v0 (v3 + (nI 1)).toNatClampNeg)] [] rfl rfl rfl rfl g121 rfl rfl (Nat.le_of_ble_eq_true rfl) (t_C_scan hr41) ?_
      refine gd h (fun g122 h => ?_)
      refine Ev_blk 6 (pc' := 673) (ls' := [.ref v0, .ref v1, .ref v2, .int v3]) (st' := [.int (sI s v0 (v3 + (nI 1)).toNatClampNeg), .ref v2, .int r41]) (s' := s) rfl ⟨trivial, ⟨Or.inr g120.1, g120.2⟩⟩ ?_
      refine bd h (fun r42 hr42 h => ?_)
      refine Ev_call 2 239 1 [.ref v2, .int (sI s v0 (v3 + (nI 1)).toNatClampNeg)] [.int r41] rfl rfl rfl rfl g122 rfl rfl (Nat.le_of_ble_eq_true rfl) (t_M_scan hr42) ?_
      refine Ev_blk 1 (pc' := if r41 = r42.1 then 1034 else 679) (ls' := [.ref v0, .ref v1, .ref v2, .int v3]) (st' := []) (s' := r42.2) rfl trivial ?_
      refine ib h (fun c123 h => ?_) (fun c123 h => ?_)
      · refine Ev_blk 2 (pc' := 18) (ls' := [.ref v0, .ref v1, .ref v2, .int (v3 + nI 6)]) (st' := []) (s' := r42.2) rfl trivial ?_
        exact H18 h
      · refine Ev_blk 1 (pc' := 680) (ls' := [.ref v0, .ref v1, .ref v2, .int v3]) (st' := [.int (nI 0)]) (s' := r42.2) rfl trivial ?_
        cases h
        exact Ev_ret rfl (Or.inl rfl)
    refine ib h (fun c124 h => ?_) (fun c124 h => ?_)
    · refine gd h (fun g125 h => ?_)
      refine gd h (fun g126 h => ?_)
      refine Ev_blk 6 (pc' := 687) (ls' := [.ref v0, .ref v1, .ref v2, .int v3]) (st' := [.int (sI s v0 (v3 + (nI 1)).toNatClampNeg), .ref v1]) (s' := s) rfl ⟨trivial, ⟨Or.inr g125.1, g125.2⟩⟩ ?_
      refine bd h (fun r43 hr43 h => ?_)
      refine Ev_call 2 109 1 [.ref v1, .int (sI s v0 (v3 + (nI 1)).toNatClampNeg)] [] rfl rfl rfl rfl g126 rfl rfl (Nat.le_of_ble_eq_true rfl) (t_C_above hr43) ?_
      refine gd h (fun g127 h => ?_)
      refine Ev_blk 6 (pc' := 696) (ls' := [.ref v0, .ref v1, .ref v2, .int v3]) (st' := [.int (sI s v0 (v3 + (nI 1)).toNatClampNeg), .ref v2, .int r43]) (s' := s) rfl ⟨trivial, ⟨Or.inr g125.1, g125.2⟩⟩ ?_
      refine bd h (fun r44 hr44 h => ?_)
      refine Ev_call 2 240 1 [.ref v2, .int (sI s v0 (v3 + (nI 1)).toNatClampNeg)] [.int r43] rfl rfl rfl rfl g127 rfl rfl (Nat.le_of_ble_eq_true rfl) (t_M_above hr44) ?_
      refine Ev_blk 1 (pc' := if r43 = r44.1 then 1034 else 702) (ls' := [.ref v0, .ref v1, .ref v2, .int v3]) (st' := []) (s' := r44.2) rfl trivial ?_
      refine ib h (fun c128 h => ?_) (fun c128 h => ?_)
      · refine Ev_blk 2 (pc' := 18) (ls' := [.ref v0, .ref v1, .ref v2, .int (v3 + nI 6)]) (st' := []) (s' := r44.2) rfl trivial ?_
        exact H18 h
      · refine Ev_blk 1 (pc' := 703) (ls' := [.ref v0, .ref v1, .ref v2, .int v3]) (st' := [.int (nI 0)]) (s' := r44.2) rfl trivial ?_
        cases h
        exact Ev_ret rfl (Or.inl rfl)
    refine ib h (fun c129 h => ?_) (fun c129 h => ?_)
    · refine gd h (fun g130 h => ?_)
      refine gd h (fun g131 h => ?_)
      refine gd h (fun g132 h => ?_)
      refine Ev_blk 11 (pc' := 715) (ls' := [.ref v0, .ref v1, .ref v2, .int v3]) (st' := [.int (sI s v0 (v3 + (nI 2)).toNatClampNeg), .int (sI s v0 (v3 + (nI 1)).toNatClampNeg), .ref v1]) (s' := s) rfl ⟨⟨trivial, ⟨Or.inr g130.1, g130.2⟩⟩, ⟨Or.inr g131.1, g131.2⟩⟩ ?_
      refine bd h (fun r45 hr45 h => ?_)
      refine Ev_call 2 111 2 [.ref v1, .int (sI s v0 (v3 + (nI 1)).toNatClampNeg), .int (sI s v0 (v3 + (nI 2)).toNatClampNeg)] [] rfl rfl rfl rfl g132 rfl rfl (Nat.le_of_ble_eq_true rfl) (t_C_pieces hr45) ?_
      refine gd h (fun g133 h => ?_)
      refine Ev_blk 11 (pc' := 729) (ls' := [.ref v0, .ref v1, .ref v2, .int v3]) (st' := [.int (sI s v0 (v3 + (nI 2)).toNatClampNeg), .int (sI s v0 (v3 + (nI 1)).toNatClampNeg), .ref v2, .int r45]) (s' := s) rfl ⟨⟨trivial, ⟨Or.inr g130.1, g130.2⟩⟩, ⟨Or.inr g131.1, g131.2⟩⟩ ?_
      refine bd h (fun r46 hr46 h => ?_)
      refine Ev_call 2 242 2 [.ref v2, .int (sI s v0 (v3 + (nI 1)).toNatClampNeg), .int (sI s v0 (v3 + (nI 2)).toNatClampNeg)] [.int r45] rfl rfl rfl rfl g133 rfl rfl (Nat.le_of_ble_eq_true rfl) (t_M_pieces hr46) ?_
      refine Ev_blk 1 (pc' := if r45 = r46.1 then 1034 else 735) (ls' := [.ref v0, .ref v1, .ref v2, .int v3]) (st' := []) (s' := r46.2) rfl trivial ?_
      refine ib h (fun c134 h => ?_) (fun c134 h => ?_)
      · refine Ev_blk 2 (pc' := 18) (ls' := [.ref v0, .ref v1, .ref v2, .int (v3 + nI 6)]) (st' := []) (s' := r46.2) rfl trivial ?_
        exact H18 h
      · refine Ev_blk 1 (pc' := 736) (ls' := [.ref v0, .ref v1, .ref v2, .int v3]) (st' := [.int (nI 0)]) (s' := r46.2) rfl trivial ?_
        cases h
        exact Ev_ret rfl (Or.inl rfl)
    refine ib h (fun c135 h => ?_) (fun c135 h => ?_)
    · refine gd h (fun g136 h => ?_)
      refine gd h (fun g137 h => ?_)
      refine Ev_blk 6 (pc' := 743) (ls' := [.ref v0, .ref v1, .ref v2, .int v3]) (st' := [.int (sI s v0 (v3 + (nI 1)).toNatClampNeg), .ref v1]) (s' := s) rfl ⟨trivial, ⟨Or.inr g136.1, g136.2⟩⟩ ?_
      refine bd h (fun r47 hr47 h => ?_)
      refine Ev_call 2 113 1 [.ref v1, .int (sI s v0 (v3 + (nI 1)).toNatClampNeg)] [] rfl rfl rfl rfl g137 rfl rfl (Nat.le_of_ble_eq_true rfl) (t_C_sorted hr47) ?_
      refine gd h (fun g138 h => ?_)
      refine Ev_blk 6 (pc' := 752) (ls' := [.ref v0, .ref v1, .ref v2, .int v3]) (st' := [.int (sI s v0 (v3 + (nI 1)).toNatClampNeg), .ref v2, .int r47]) (s' := s) rfl ⟨trivial, ⟨Or.inr g136.1, g136.2⟩⟩ ?_
      refine bd h (fun r48 hr48 h => ?_)
      refine Ev_call 2 243 1 [.ref v2, .int (sI s v0 (v3 + (nI 1)).toNatClampNeg)] [.int r47] rfl rfl rfl rfl g138 rfl rfl (Nat.le_of_ble_eq_true rfl) (t_M_sorted hr48) ?_
      refine Ev_blk 1 (pc' := if r47 = r48.1 then 1034 else 758) (ls' := [.ref v0, .ref v1, .ref v2, .int v3]) (st' := []) (s' := r48.2) rfl trivial ?_
      refine ib h (fun c139 h => ?_) (fun c139 h => ?_)
      · refine Ev_blk 2 (pc' := 18) (ls' := [.ref v0, .ref v1, .ref v2, .int (v3 + nI 6)]) (st' := []) (s' := r48.2) rfl trivial ?_
        exact H18 h
      · refine Ev_blk 1 (pc' := 759) (ls' := [.ref v0, .ref v1, .ref v2, .int v3]) (st' := [.int (nI 0)]) (s' := r48.2) rfl trivial ?_
        cases h
        exact Ev_ret rfl (Or.inl rfl)
    refine ib h (fun c140 h => ?_) (fun c140 h => ?_)
    · refine gd h (fun g141 h => ?_)
      refine Ev_blk 1 (pc' := 761) (ls' := [.ref v0, .ref v1, .ref v2, .int v3]) (st' := [.ref v1]) (s' := s) rfl trivial ?_
      refine bd h (fun r49 hr49 h => ?_)
      refine Ev_call 2 116 0 [.ref v1] [] rfl rfl rfl rfl g141 rfl rfl (Nat.le_of_ble_eq_true rfl) (t_C_find hr49) ?_
      refine gd h (fun g142 h => ?_)
      refine Ev_blk 1 (pc' := 765) (ls' := [.ref v0, .ref v1, .ref v2, .int v3]) (st' := [.ref v2, .int r49.1]) (s' := r49.2) rfl trivial ?_
      refine bd h (fun r50 hr50 h => ?_)
      refine Ev_call 2 245 0 [.ref v2] [.int r49.1] rfl rfl rfl rfl g142 rfl rfl (Nat.le_of_ble_eq_true rfl) (t_M_find hr50) ?_
      refine Ev_blk 1 (pc' := if r49.1 = r50.1 then 1034 else 771) (ls' := [.ref v0, .ref v1, .ref v2, .int v3]) (st' := []) (s' := r50.2) rfl trivial ?_
      refine ib h (fun c143 h => ?_) (fun c143 h => ?_)
      · refine Ev_blk 2 (pc' := 18) (ls' := [.ref v0, .ref v1, .ref v2, .int (v3 + nI 6)]) (st' := []) (s' := r50.2) rfl trivial ?_
        exact H18 h
      · refine Ev_blk 1 (pc' := 772) (ls' := [.ref v0, .ref v1, .ref v2, .int v3]) (st' := [.int (nI 0)]) (s' := r50.2) rfl trivial ?_
        cases h
        exact Ev_ret rfl (Or.inl rfl)
    refine ib h (fun c144 h => ?_) (fun c144 h => ?_)
    · refine gd h (fun g145 h => ?_)
      refine gd h (fun g146 h => ?_)
      refine Ev_blk 6 (pc' := 779) (ls' := [.ref v0, .ref v1, .ref v2, .int v3]) (st' := [.int (sI s v0 (v3 + (nI 1)).toNatClampNeg), .ref v1]) (s' := s) rfl ⟨trivial, ⟨Or.inr g145.1, g145.2⟩⟩ ?_
      refine bd h (fun r51 hr51 h => ?_)
      refine Ev_call 2 118 1 [.ref v1, .int (sI s v0 (v3 + (nI 1)).toNatClampNeg)] [] rfl rfl rfl rfl g146 rfl rfl (Nat.le_of_ble_eq_true rfl) (t_C_fit hr51) ?_
      refine gd h (fun g147 h => ?_)
      refine gd h (fun g148 h => ?_)
      refine Ev_blk 6 (pc' := 788) (ls' := [.ref v0, .ref v1, .ref v2, .int v3]) (st' := [.int (sI r51.2 v0 (v3 + (nI 1)).toNatClampNeg), .ref v2, .int r51.1]) (s' := r51.2) rfl ⟨trivial, ⟨Or.inr g147.1, g147.2⟩⟩ ?_
      refine bd h (fun r52 hr52 h => ?_)
      refine Ev_call 2 247 1 [.ref v2, .int (sI r51.2 v0 (v3 + (nI 1)).toNatClampNeg)] [.int r51.1] rfl rfl rfl rfl g148 rfl rfl (Nat.le_of_ble_eq_true rfl) (t_M_fit hr52) ?_
      refine Ev_blk 1 (pc' := if r51.1 = r52.1 then 1034 else 794) (ls' := [.ref v0, .ref v1, .ref v2, .int v3]) (st' := []) (s' := r52.2) rfl trivial ?_
      refine ib h (fun c149 h => ?_) (fun c149 h => ?_)
      · refine Ev_blk 2 (pc' := 18) (ls' := [.ref v0, .ref v1, .ref v2, .int (v3 + nI 6)]) (st' := []) (s' := r52.2) rfl trivial ?_
        exact H18 h
      · refine Ev_blk 1 (pc' := 795) (ls' := [.ref v0, .ref v1, .ref v2, .int v3]) (st' := [.int (nI 0)]) (s' := r52.2) rfl trivial ?_
        cases h
        exact Ev_ret rfl (Or.inl rfl)
    refine ib h (fun c150 h => ?_) (fun c150 h => ?_)
    · refine gd h (fun g151 h => ?_)
      refine gd h (fun g152 h => ?_)
      refine Ev_blk 6 (pc' := 802) (ls' := [.ref v0, .ref v1, .ref v2, .int v3]) (st' := [.int (sI s v0 (v3 + (nI 1)).toNatClampNeg), .ref v1]) (s' := s) rfl ⟨trivial, ⟨Or.inr g151.1, g151.2⟩⟩ ?_
      refine bd h (fun r53 hr53 h => ?_)
      refine Ev_call 2 119 1 [.ref v1, .int (sI s v0 (v3 + (nI 1)).toNatClampNeg)] [] rfl rfl rfl rfl g152 rfl rfl (Nat.le_of_ble_eq_true rfl) (t_C_worst hr53) ?_
      refine gd h (fun g153 h => ?_)
      refine Ev_blk 6 (pc' := 811) (ls' := [.ref v0, .ref v1, .ref v2, .int v3]) (st' := [.int (sI s v0 (v3 + (nI 1)).toNatClampNeg), .ref v2, .int r53]) (s' := s) rfl ⟨trivial, ⟨Or.inr g151.1, g151.2⟩⟩ ?_
      refine bd h (fun r54 hr54 h => ?_)
      refine Ev_call 2 249 1 [.ref v2, .int (sI s v0 (v3 + (nI 1)).toNatClampNeg)] [.int r53] rfl rfl rfl rfl g153 rfl rfl (Nat.le_of_ble_eq_true rfl) (t_M_worst hr54) ?_
      refine Ev_blk 1 (pc' := if r53 = r54.1 then 1034 else 817) (ls' := [.ref v0, .ref v1, .ref v2, .int v3]) (st' := []) (s' := r54.2) rfl trivial ?_
      refine ib h (fun c154 h => ?_) (fun c154 h => ?_)
      · refine Ev_blk 2 (pc' := 18) (ls' := [.ref v0, .ref v1, .ref v2, .int (v3 + nI 6)]) (st' := []) (s' := r54.2) rfl trivial ?_
        exact H18 h
      · refine Ev_blk 1 (pc' := 818) (ls' := [.ref v0, .ref v1, .ref v2, .int v3]) (st' := [.int (nI 0)]) (s' := r54.2) rfl trivial ?_
        cases h
        exact Ev_ret rfl (Or.inl rfl)
    refine ib h (fun c155 h => ?_) (fun c155 h => ?_)
    · refine gd h (fun g156 h => ?_)
      refine gd h (fun g157 h => ?_)
      refine gd h (fun g158 h => ?_)
      refine Ev_blk 11 (pc' := 830) (ls' := [.ref v0, .ref v1, .ref v2, .int v3]) (st' := [.int (sI s v0 (v3 + (nI 2)).toNatClampNeg), .int (sI s v0 (v3 + (nI 1)).toNatClampNeg), .ref v1]) (s' := s) rfl ⟨⟨trivial, ⟨Or.inr g156.1, g156.2⟩⟩, ⟨Or.inr g157.1, g157.2⟩⟩ ?_
      refine bd h (fun r55 hr55 h => ?_)
      refine Ev_call 2 121 2 [.ref v1, .int (sI s v0 (v3 + (nI 1)).toNatClampNeg), .int (sI s v0 (v3 + (nI 2)).toNatClampNeg)] [] rfl rfl rfl rfl g158 rfl rfl (Nat.le_of_ble_eq_true rfl) (t_C_few hr55) ?_
      refine gd h (fun g159 h => ?_)
      refine gd h (fun g160 h => ?_)
      refine gd h (fun g161 h => ?_)
      refine Ev_blk 11 (pc' := 844) (ls' := [.ref v0, .ref v1, .ref v2, .int v3]) (st' := [.int (sI r55.2 v0 (v3 + (nI 2)).toNatClampNeg), .int (sI r55.2 v0 (v3 + (nI 1)).toNatClampNeg), .ref v2, .long r55.1]) (s' := r55.2) rfl ⟨⟨trivial, ⟨Or.inr g159.1, g159.2⟩⟩, ⟨Or.inr g160.1, g160.2⟩⟩ ?_
      refine bd h (fun r56 hr56 h => ?_)
      refine Ev_call 2 250 2 [.ref v2, .int (sI r55.2 v0 (v3 + (nI 1)).toNatClampNeg), .int (sI r55.2 v0 (v3 + (nI 2)).toNatClampNeg)] [.long r55.1] rfl rfl rfl rfl g161 rfl rfl (Nat.le_of_ble_eq_true rfl) (t_M_few hr56) ?_
      refine Ev_blk 2 (pc' := if (lg_cmp r55.1 r56.1) = (nI 0) then 1034 else 851) (ls' := [.ref v0, .ref v1, .ref v2, .int v3]) (st' := []) (s' := r56.2) rfl trivial ?_
      refine ib h (fun c162 h => ?_) (fun c162 h => ?_)
      · refine Ev_blk 2 (pc' := 18) (ls' := [.ref v0, .ref v1, .ref v2, .int (v3 + nI 6)]) (st' := []) (s' := r56.2) rfl trivial ?_
        exact H18 h
      · refine Ev_blk 1 (pc' := 852) (ls' := [.ref v0, .ref v1, .ref v2, .int v3]) (st' := [.int (nI 0)]) (s' := r56.2) rfl trivial ?_
        cases h
        exact Ev_ret rfl (Or.inl rfl)
    refine ib h (fun c163 h => ?_) (fun c163 h => ?_)
    · refine gd h (fun g164 h => ?_)
      refine gd h (fun g165 h => ?_)
      refine gd h (fun g166 h => ?_)
      refine Ev_blk 11 (pc' := 864) (ls' := [.ref v0, .ref v1, .ref v2, .int v3]) (st' := [.int (sI s v0 (v3 + (nI 2)).toNatClampNeg), .int (sI s v0 (v3 + (nI 1)).toNatClampNeg), .ref v1]) (s' := s) rfl ⟨⟨trivial, ⟨Or.inr g164.1, g164.2⟩⟩, ⟨Or.inr g165.1, g165.2⟩⟩ ?_
      refine bd h (fun r57 hr57 h => ?_)
      refine Ev_call 2 123 2 [.ref v1, .int (sI s v0 (v3 + (nI 1)).toNatClampNeg), .int (sI s v0 (v3 + (nI 2)).toNatClampNeg)] [] rfl rfl rfl rfl g166 rfl rfl (Nat.le_of_ble_eq_true rfl) (t_C_compare hr57) ?_
      refine gd h (fun g167 h => ?_)
      refine gd h (fun g168 h => ?_)
      refine gd h (fun g169 h => ?_)
      refine Ev_blk 11 (pc' := 878) (ls' := [.ref v0, .ref v1, .ref v2, .int v3]) (st' := [.int (sI r57.2 v0 (v3 + (nI 2)).toNatClampNeg), .int (sI r57.2 v0 (v3 + (nI 1)).toNatClampNeg), .ref v2, .int r57.1]) (s' := r57.2) rfl ⟨⟨trivial, ⟨Or.inr g167.1, g167.2⟩⟩, ⟨Or.inr g168.1, g168.2⟩⟩ ?_
      refine bd h (fun r58 hr58 h => ?_)
      refine Ev_call 2 238 2 [.ref v2, .int (sI r57.2 v0 (v3 + (nI 1)).toNatClampNeg), .int (sI r57.2 v0 (v3 + (nI 2)).toNatClampNeg)] [.int r57.1] rfl rfl rfl rfl g169 rfl rfl (Nat.le_of_ble_eq_true rfl) (t_M_compare hr58) ?_
      refine Ev_blk 1 (pc' := if r57.1 = r58.1 then 1034 else 884) (ls' := [.ref v0, .ref v1, .ref v2, .int v3]) (st' := []) (s' := r58.2) rfl trivial ?_
      refine ib h (fun c170 h => ?_) (fun c170 h => ?_)
      · refine Ev_blk 2 (pc' := 18) (ls' := [.ref v0, .ref v1, .ref v2, .int (v3 + nI 6)]) (st' := []) (s' := r58.2) rfl trivial ?_
        exact H18 h
      · refine Ev_blk 1 (pc' := 885) (ls' := [.ref v0, .ref v1, .ref v2, .int v3]) (st' := [.int (nI 0)]) (s' := r58.2) rfl trivial ?_
        cases h
        exact Ev_ret rfl (Or.inl rfl)
    refine ib h (fun c171 h => ?_) (fun c171 h => ?_)
    · refine gd h (fun g172 h => ?_)
      refine gd h (fun g173 h => ?_)
      refine gd h (fun g174 h => ?_)
      refine Ev_blk 11 (pc' := 897) (ls' := [.ref v0, .ref v1, .ref v2, .int v3]) (st' := [.int (sI s v0 (v3 + (nI 2)).toNatClampNeg), .int (sI s v0 (v3 + (nI 1)).toNatClampNeg), .ref v1]) (s' := s) rfl ⟨⟨trivial, ⟨Or.inr g172.1, g172.2⟩⟩, ⟨Or.inr g173.1, g173.2⟩⟩ ?_
      refine bd h (fun r59 hr59 h => ?_)
      refine Ev_call 2 124 2 [.ref v1, .int (sI s v0 (v3 + (nI 1)).toNatClampNeg), .int (sI s v0 (v3 + (nI 2)).toNatClampNeg)] [] rfl rfl rfl rfl g174 rfl rfl (Nat.le_of_ble_eq_true rfl) (t_C_days hr59) ?_
      refine gd h (fun g175 h => ?_)
      refine gd h (fun g176 h => ?_)
      refine gd h (fun g177 h => ?_)
      refine Ev_blk 11 (pc' := 911) (ls' := [.ref v0, .ref v1, .ref v2, .int v3]) (st' := [.int (sI r59.2 v0 (v3 + (nI 2)).toNatClampNeg), .int (sI r59.2 v0 (v3 + (nI 1)).toNatClampNeg), .ref v2, .int r59.1]) (s' := r59.2) rfl ⟨⟨trivial, ⟨Or.inr g175.1, g175.2⟩⟩, ⟨Or.inr g176.1, g176.2⟩⟩ ?_
      refine bd h (fun r60 hr60 h => ?_)
      refine Ev_call 2 263 2 [.ref v2, .int (sI r59.2 v0 (v3 + (nI 1)).toNatClampNeg), .int (sI r59.2 v0 (v3 + (nI 2)).toNatClampNeg)] [.int r59.1] rfl rfl rfl rfl g177 rfl rfl (Nat.le_of_ble_eq_true rfl) (t_M_days hr60) ?_
      refine Ev_blk 1 (pc' := if r59.1 = r60.1 then 1034 else 917) (ls' := [.ref v0, .ref v1, .ref v2, .int v3]) (st' := []) (s' := r60.2) rfl trivial ?_
      refine ib h (fun c178 h => ?_) (fun c178 h => ?_)
      · refine Ev_blk 2 (pc' := 18) (ls' := [.ref v0, .ref v1, .ref v2, .int (v3 + nI 6)]) (st' := []) (s' := r60.2) rfl trivial ?_
        exact H18 h
      · refine Ev_blk 1 (pc' := 918) (ls' := [.ref v0, .ref v1, .ref v2, .int v3]) (st' := [.int (nI 0)]) (s' := r60.2) rfl trivial ?_
        cases h
        exact Ev_ret rfl (Or.inl rfl)
    refine ib h (fun c179 h => ?_) (fun c179 h => ?_)
    · refine gd h (fun g180 h => ?_)
      refine gd h (fun g181 h => ?_)
      refine gd h (fun g182 h => ?_)
      refine Ev_blk 11 (pc' := 930) (ls' := [.ref v0, .ref v1, .ref v2, .int v3]) (st' := [.int (sI s v0 (v3 + (nI 2)).toNatClampNeg), .int (sI s v0 (v3 + (nI 1)).toNatClampNeg), .ref v1]) (s' := s) rfl ⟨⟨trivial, ⟨Or.inr g180.1, g180.2⟩⟩, ⟨Or.inr g181.1, g181.2⟩⟩ ?_
      refine bd h (fun r61 hr61 h => ?_)
      refine Ev_call 2 129 2 [.ref v1, .int (sI s v0 (v3 + (nI 1)).toNatClampNeg), .int (sI s v0 (v3 + (nI 2)).toNatClampNeg)] [] rfl rfl rfl rfl g182 rfl rfl (Nat.le_of_ble_eq_true rfl) (t_C_drawn hr61) ?_
      refine gd h (fun g183 h => ?_)
      refine Ev_blk 11 (pc' := 944) (ls' := [.ref v0, .ref v1, .ref v2, .int v3]) (st' := [.int (sI s v0 (v3 + (nI 2)).toNatClampNeg), .int (sI s v0 (v3 + (nI 1)).toNatClampNeg), .ref v2, .int r61]) (s' := s) rfl ⟨⟨trivial, ⟨Or.inr g180.1, g180.2⟩⟩, ⟨Or.inr g181.1, g181.2⟩⟩ ?_
      refine bd h (fun r62 hr62 h => ?_)
      refine Ev_call 2 266 2 [.ref v2, .int (sI s v0 (v3 + (nI 1)).toNatClampNeg), .int (sI s v0 (v3 + (nI 2)).toNatClampNeg)] [.int r61] rfl rfl rfl rfl g183 rfl rfl (Nat.le_of_ble_eq_true rfl) (t_M_drawn hr62) ?_
      refine Ev_blk 1 (pc' := if r61 = r62.1 then 1034 else 950) (ls' := [.ref v0, .ref v1, .ref v2, .int v3]) (st' := []) (s' := r62.2) rfl trivial ?_
      refine ib h (fun c184 h => ?_) (fun c184 h => ?_)
      · refine Ev_blk 2 (pc' := 18) (ls' := [.ref v0, .ref v1, .ref v2, .int (v3 + nI 6)]) (st' := []) (s' := r62.2) rfl trivial ?_
        exact H18 h
      · refine Ev_blk 1 (pc' := 951) (ls' := [.ref v0, .ref v1, .ref v2, .int v3]) (st' := [.int (nI 0)]) (s' := r62.2) rfl trivial ?_
        cases h
        exact Ev_ret rfl (Or.inl rfl)
    refine ib h (fun c185 h => ?_) (fun c185 h => ?_)
    · refine gd h (fun g186 h => ?_)
      refine gd h (fun g187 h => ?_)
      refine Ev_blk 6 (pc' := 958) (ls' := [.ref v0, .ref v1, .ref v2, .int v3]) (st' := [.int (sI s v0 (v3 + (nI 1)).toNatClampNeg), .ref v1]) (s' := s) rfl ⟨trivial, ⟨Or.inr g186.1, g186.2⟩⟩ ?_
      refine bd h (fun r63 hr63 h => ?_)
      refine Ev_call 2 131 1 [.ref v1, .int (sI s v0 (v3 + (nI 1)).toNatClampNeg)] [] rfl rfl rfl rfl g187 rfl rfl (Nat.le_of_ble_eq_true rfl) (t_C_image hr63) ?_
      refine gd h (fun g188 h => ?_)
      refine gd h (fun g189 h => ?_)
      refine Ev_blk 6 (pc' := 967) (ls' := [.ref v0, .ref v1, .ref v2, .int v3]) (st' := [.int (sI r63.2 v0 (v3 + (nI 1)).toNatClampNeg), .ref v2, .int r63.1]) (s' := r63.2) rfl ⟨trivial, ⟨Or.inr g188.1, g188.2⟩⟩ ?_
      refine bd h (fun r64 hr64 h => ?_)
      refine Ev_call 2 144 1 [.ref v2, .int (sI r63.2 v0 (v3 + (nI 1)).toNatClampNeg)] [.int r63.1] rfl rfl rfl rfl g189 rfl rfl (Nat.le_of_ble_eq_true rfl) (t_M_image hr64) ?_
      refine Ev_blk 1 (pc' := if r63.1 = r64.1 then 1034 else 973) (ls' := [.ref v0, .ref v1, .ref v2, .int v3]) (st' := []) (s' := r64.2) rfl trivial ?_
      refine ib h (fun c190 h => ?_) (fun c190 h => ?_)
      · refine Ev_blk 2 (pc' := 18) (ls' := [.ref v0, .ref v1, .ref v2, .int (v3 + nI 6)]) (st' := []) (s' := r64.2) rfl trivial ?_
        exact H18 h
      · refine Ev_blk 1 (pc' := 974) (ls' := [.ref v0, .ref v1, .ref v2, .int v3]) (st' := [.int (nI 0)]) (s' := r64.2) rfl trivial ?_
        cases h
        exact Ev_ret rfl (Or.inl rfl)
    refine ib h (fun c191 h => ?_) (fun c191 h => ?_)
    · refine gd h (fun g192 h => ?_)
      refine gd h (fun g193 h => ?_)
      refine Ev_blk 6 (pc' := 981) (ls' := [.ref v0, .ref v1, .ref v2, .int v3]) (st' := [.int (sI s v0 (v3 + (nI 1)).toNatClampNeg), .ref v1]) (s' := s) rfl ⟨trivial, ⟨Or.inr g192.1, g192.2⟩⟩ ?_
      refine bd h (fun r65 hr65 h => ?_)
      refine Ev_call 2 134 1 [.ref v1, .int (sI s v0 (v3 + (nI 1)).toNatClampNeg)] [] rfl rfl rfl rfl g193 rfl rfl (Nat.le_of_ble_eq_true rfl) (t_C_back hr65) ?_
      refine gd h (fun g194 h => ?_)
      refine gd h (fun g195 h => ?_)
      refine Ev_blk 6 (pc' := 990) (ls' := [.ref v0, .ref v1, .ref v2, .int v3]) (st' := [.int (sI r65.2 v0 (v3 + (nI 1)).toNatClampNeg), .ref v2, .int r65.1]) (s' := r65.2) rfl ⟨trivial, ⟨Or.inr g194.1, g194.2⟩⟩ ?_
      refine bd h (fun r66 hr66 h => ?_)
      refine Ev_call 2 146 1 [.ref v2, .int (sI r65.2 v0 (v3 + (nI 1)).toNatClampNeg)] [.int r65.1] rfl rfl rfl rfl g195 rfl rfl (Nat.le_of_ble_eq_true rfl) (t_M_back hr66) ?_
      refine Ev_blk 1 (pc' := if r65.1 = r66.1 then 1034 else 996) (ls' := [.ref v0, .ref v1, .ref v2, .int v3]) (st' := []) (s' := r66.2) rfl trivial ?_
      refine ib h (fun c196 h => ?_) (fun c196 h => ?_)
      · refine Ev_blk 2 (pc' := 18) (ls' := [.ref v0, .ref v1, .ref v2, .int (v3 + nI 6)]) (st' := []) (s' := r66.2) rfl trivial ?_
        exact H18 h
      · refine Ev_blk 1 (pc' := 997) (ls' := [.ref v0, .ref v1, .ref v2, .int v3]) (st' := [.int (nI 0)]) (s' := r66.2) rfl trivial ?_
        cases h
        exact Ev_ret rfl (Or.inl rfl)
    refine ib h (fun c197 h => ?_) (fun c197 h => ?_)
    · refine gd h (fun g198 h => ?_)
      refine gd h (fun g199 h => ?_)
      refine Ev_blk 6 (pc' := 1004) (ls' := [.ref v0, .ref v1, .ref v2, .int v3]) (st' := [.int (sI s v0 (v3 + (nI 1)).toNatClampNeg), .ref v1]) (s' := s) rfl ⟨trivial, ⟨Or.inr g198.1, g198.2⟩⟩ ?_
      refine bd h (fun r67 hr67 h => ?_)
      refine Ev_call 2 135 1 [.ref v1, .int (sI s v0 (v3 + (nI 1)).toNatClampNeg)] [] rfl rfl rfl rfl g199 rfl rfl (Nat.le_of_ble_eq_true rfl) (t_C_count hr67) ?_
      refine gd h (fun g200 h => ?_)
      refine Ev_blk 6 (pc' := 1013) (ls' := [.ref v0, .ref v1, .ref v2, .int v3]) (st' := [.int (sI s v0 (v3 + (nI 1)).toNatClampNeg), .ref v2, .int r67]) (s' := s) rfl ⟨trivial, ⟨Or.inr g198.1, g198.2⟩⟩ ?_
      refine bd h (fun r68 hr68 h => ?_)
      refine Ev_call 2 267 1 [.ref v2, .int (sI s v0 (v3 + (nI 1)).toNatClampNeg)] [.int r67] rfl rfl rfl rfl g200 rfl rfl (Nat.le_of_ble_eq_true rfl) (t_M_count hr68) ?_
      refine Ev_blk 1 (pc' := if r67 = r68.1 then 1034 else 1019) (ls' := [.ref v0, .ref v1, .ref v2, .int v3]) (st' := []) (s' := r68.2) rfl trivial ?_
      refine ib h (fun c201 h => ?_) (fun c201 h => ?_)
      · refine Ev_blk 2 (pc' := 18) (ls' := [.ref v0, .ref v1, .ref v2, .int (v3 + nI 6)]) (st' := []) (s' := r68.2) rfl trivial ?_
        exact H18 h
      · refine Ev_blk 1 (pc' := 1020) (ls' := [.ref v0, .ref v1, .ref v2, .int v3]) (st' := [.int (nI 0)]) (s' := r68.2) rfl trivial ?_
        cases h
        exact Ev_ret rfl (Or.inl rfl)
    refine ib h (fun c202 h => ?_) (fun c202 h => ?_)
    · refine gd h (fun g203 h => ?_)
      refine Ev_blk 1 (pc' := 1022) (ls' := [.ref v0, .ref v1, .ref v2, .int v3]) (st' := [.ref v1]) (s' := s) rfl trivial ?_
      refine bd h (fun r69 hr69 h => ?_)
      refine Ev_call 2 138 0 [.ref v1] [] rfl rfl rfl rfl g203 rfl rfl (Nat.le_of_ble_eq_true rfl) (t_C_status hr69) ?_
      refine gd h (fun g204 h => ?_)
      refine Ev_blk 1 (pc' := 1026) (ls' := [.ref v0, .ref v1, .ref v2, .int v3]) (st' := [.ref v2, .int r69]) (s' := s) rfl trivial ?_
      refine bd h (fun r70 hr70 h => ?_)
      refine Ev_call 2 270 0 [.ref v2] [.int r69] rfl rfl rfl rfl g204 rfl rfl (Nat.le_of_ble_eq_true rfl) (t_M_status hr70) ?_
      refine Ev_blk 1 (pc' := if r69 = r70.1 then 1034 else 1032) (ls' := [.ref v0, .ref v1, .ref v2, .int v3]) (st' := []) (s' := r70.2) rfl trivial ?_
      refine ib h (fun c205 h => ?_) (fun c205 h => ?_)
      · refine Ev_blk 2 (pc' := 18) (ls' := [.ref v0, .ref v1, .ref v2, .int (v3 + nI 6)]) (st' := []) (s' := r70.2) rfl trivial ?_
        exact H18 h
      · refine Ev_blk 1 (pc' := 1033) (ls' := [.ref v0, .ref v1, .ref v2, .int v3]) (st' := [.int (nI 0)]) (s' := r70.2) rfl trivial ?_
        cases h
        exact Ev_ret rfl (Or.inl rfl)
    refine Ev_blk 2 (pc' := 18) (ls' := [.ref v0, .ref v1, .ref v2, .int (v3 + nI 6)]) (st' := []) (s' := s) rfl trivial ?_
    exact H18 h
def l_Law_law_18  : Nat → Nat → Nat → Nat → Int32 → AS → Option (Int32 × AS)
  | 0 => fun _ _ _ _ _ => none
  | n + 1 => b_Law_law_18  (l_Law_law_18  n)
theorem u_Law_law_18   {n : Nat} : ∀  {v0 : Nat} {v1 : Nat} {v2 : Nat} {v3 : Int32} {s : AS} {o : Int32 × AS}, l_Law_law_18  n v0 v1 v2 v3 s = some o → Ev 124 mZ271 18 [.ref v0, .ref v1, .ref v2, .int v3] [] s (some (.int o.1), o.2) := by
  induction n with
  | zero => intros; rename_i h; cases h
  | succ n ih => intros; rename_i h; exact t_Law_law_18  (fun h => ih h) h
/-- RecordHeapLaw.law([I)Z -/
def f_Law_law (s : AS) (a0 : Nat) : Option (Int32 × AS) :=
  (nwO s 1 16).bind fun r1 =>
  if ¬ r1.1 = 0 then
  (f_C_init r1.2 r1.1).bind fun r2 =>
  (nwO r2 13 57).bind fun r3 =>
  if ¬ r3.1 = 0 then
  (f_M_init r3.2 r3.1).bind fun r4 =>
  l_Law_law_18 fuel a0 r1.1 r3.1 (nI 0) r4
  else none
  else none
theorem t_Law_law {s : AS} {a0 : Nat} {o : Int32 × AS} (h : f_Law_law s a0 = some o) : Ev 124 mZ271 0 [.ref a0, .retAddr 0, .retAddr 0, .retAddr 0] [] s (some (.int o.1), o.2) := by
  unfold f_Law_law at h
  refine bd h (fun r1 hr1 h => ?_)
  obtain ⟨gr1, er1, fr1⟩ := nwO_inv hr1
  refine Ev_blk 1 (pc' := 3) (ls' := [.ref a0, .retAddr 0, .retAddr 0, .retAddr 0]) (st' := [.ref (sX s)]) (s' := newA s 1 16) rfl ⟨trivial, gr1⟩ ?_
  rw [← fr1, ← er1]
  refine gd h (fun g1 h => ?_)
  refine Ev_blk 1 (pc' := 4) (ls' := [.ref a0, .retAddr 0, .retAddr 0, .retAddr 0]) (st' := [.ref r1.1, .ref r1.1]) (s' := r1.2) rfl trivial ?_
  refine bd h (fun r2 hr2 h => ?_)
  refine Ev_call 3 0 0 [.ref r1.1] [.ref r1.1] rfl rfl rfl rfl g1 rfl rfl (Nat.le_of_ble_eq_true rfl) (t_C_init hr2) ?_
  refine bd h (fun r3 hr3 h => ?_)
  obtain ⟨gr3, er3, fr3⟩ := nwO_inv hr3
  refine Ev_blk 2 (pc' := 11) (ls' := [.ref a0, .ref r1.1, .retAddr 0, .retAddr 0]) (st' := [.ref (sX r2)]) (s' := newA r2 13 57) rfl ⟨trivial, gr3⟩ ?_
  rw [← fr3, ← er3]
  refine gd h (fun g2 h => ?_)
  refine Ev_blk 1 (pc' := 12) (ls' := [.ref a0, .ref r1.1, .retAddr 0, .retAddr 0]) (st' := [.ref r3.1, .ref r3.1]) (s' := r3.2) rfl trivial ?_
  refine bd h (fun r4 hr4 h => ?_)
  refine Ev_call 3 139 0 [.ref r3.1] [.ref r3.1] rfl rfl rfl rfl g2 rfl rfl (Nat.le_of_ble_eq_true rfl) (t_M_init hr4) ?_
  refine Ev_blk 3 (pc' := 18) (ls' := [.ref a0, .ref r1.1, .ref r3.1, .int (nI 0)]) (st' := []) (s' := r4) rfl trivial ?_
  exact u_Law_law_18 h

