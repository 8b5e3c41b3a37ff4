def b_Log_push_41  (v0 : Nat) (v1 : Int32) (v2 : Nat) (s : AS) : Option AS :=
  if sT s v0 = 5 then
  if 40 ≤ sT s (sR s v0 1) ∧ inA (sI s v0 2) (sN s (sR s v0 1)) then
  if sT s (sR s (sR s v0 1) (sI s v0 2).toNatClampNeg) = 7 then
  (f_Pages_takeFrom s (sR s (sR s v0 1) (sI s v0 2).toNatClampNeg) v2).bind fun r1 =>
  if sT r1 v0 = 5 then
  if sT r1 (sR r1 v0 0) = 20 ∧ inA (sI r1 v0 2) (sN r1 (sR r1 v0 0)) then
  some (setI (setI r1 (sR r1 v0 0) (sI r1 v0 2).toNatClampNeg v1) v0 2 ((sI (setI r1 (sR r1 v0 0) (sI r1 v0 2).toNatClampNeg v1) v0 2) + (nI 1)))
  else none
  else none
  else none
  else none
  else none
theorem t_Log_push_41    {v0 : Nat} {v1 : Int32} {v2 : Nat} {s : AS} {o : AS} (h : b_Log_push_41  v0 v1 v2 s = some o) : Ev 2 mZ83 41 [.ref v0, .int v1, .ref v2] [] s (none, o) := by
  unfold b_Log_push_41 at h
  refine gd h (fun g1 h => ?_)
  refine gd h (fun g2 h => ?_)
  refine gd h (fun g3 h => ?_)
  refine Ev_blk 6 (pc' := 51) (ls' := [.ref v0, .int v1, .ref v2]) (st' := [.ref v2, .ref (sR s (sR s v0 1) (sI s v0 2).toNatClampNeg)]) (s' := s) rfl ⟨⟨⟨trivial, g1⟩, g1⟩, g2⟩ ?_
  refine bd h (fun r1 hr1 h => ?_)
  refine Ev_call 2 42 1 [.ref (sR s (sR s v0 1) (sI s v0 2).toNatClampNeg), .ref v2] [] rfl rfl rfl rfl g3 rfl rfl (Nat.le_of_ble_eq_true rfl) (t_Pages_takeFrom hr1) ?_
  refine gd h (fun g4 h => ?_)
  refine gd h (fun g5 h => ?_)
  refine Ev_blk 12 (pc' := 74) (ls' := [.ref v0, .int v1, .ref v2]) (st' := []) (s' := setI (setI r1 (sR r1 v0 0) (sI r1 v0 2).toNatClampNeg v1) v0 2 ((sI (setI r1 (sR r1 v0 0) (sI r1 v0 2).toNatClampNeg v1) v0 2) + (nI 1))) rfl ⟨⟨⟨⟨⟨trivial, g4⟩, g4⟩, g5⟩, g4⟩, g4⟩ ?_
  cases h
  exact Ev_ret rfl trivial
def b_Log_push_13  (v0 : Nat) (v1 : Int32) (v2 : Nat) (s : AS) : Option AS :=
  if sT s v0 = 5 then
  if 40 ≤ sT s (sR s v0 1) ∧ inA (sI s v0 2) (sN s (sR s v0 1)) then
  if (sR s (sR s v0 1) (sI s v0 2).toNatClampNeg) = 0 then
    (nwO s 7 6).bind fun r1 =>
    if ¬ r1.1 = 0 then
    (f_Pages_init r1.2 r1.1).bind fun r2 =>
    if (40 ≤ sT r2 (sR s v0 1) ∧ inA (sI s v0 2) (sN r2 (sR s v0 1))) ∧ (r1.1 = 0 ∨ sT r2 r1.1 + 39 = sT r2 (sR s v0 1)) then
    b_Log_push_41 v0 v1 v2 (setR r2 (sR s v0 1) (sI s v0 2).toNatClampNeg r1.1)
    else none
    else none
  else
    b_Log_push_41 v0 v1 v2 s
  else none
  else none
theorem t_Log_push_13    {v0 : Nat} {v1 : Int32} {v2 : Nat} {s : AS} {o : AS} (h : b_Log_push_13  v0 v1 v2 s = some o) : Ev 2 mZ83 13 [.ref v0, .int v1, .ref v2] [] s (none, o) := by
  unfold b_Log_push_13 at h
  refine gd h (fun g1 h => ?_)
  refine gd h (fun g2 h => ?_)
  refine Ev_blk 6 (pc' := if (sR s (sR s v0 1) (sI s v0 2).toNatClampNeg) = 0 then 25 else 41) (ls' := [.ref v0, .int v1, .ref v2]) (st' := []) (s' := s) rfl ⟨⟨⟨trivial, g1⟩, g1⟩, g2⟩ ?_
  refine ib h (fun c3 h => ?_) (fun c3 h => ?_)
  · refine bd h (fun r1 hr1 h => ?_)
    obtain ⟨gr1, er1, fr1⟩ := nwO_inv hr1
    refine Ev_blk 5 (pc' := 36) (ls' := [.ref v0, .int v1, .ref v2]) (st' := [.ref (sX s), .int (sI s v0 2), .ref (sR s v0 1)]) (s' := newA s 7 6) rfl ⟨⟨⟨trivial, g1⟩, g1⟩, gr1⟩ ?_
    rw [← fr1, ← er1]
    refine gd h (fun g4 h => ?_)
    refine Ev_blk 1 (pc' := 37) (ls' := [.ref v0, .int v1, .ref v2]) (st' := [.ref r1.1, .ref r1.1, .int (sI s v0 2), .ref (sR s v0 1)]) (s' := r1.2) rfl trivial ?_
    refine bd h (fun r2 hr2 h => ?_)
    refine Ev_call 3 7 0 [.ref r1.1] [.ref r1.1, .int (sI s v0 2), .ref (sR s v0 1)] rfl rfl rfl rfl g4 rfl rfl (Nat.le_of_ble_eq_true rfl) (t_Pages_init hr2) ?_
    refine gd h (fun g5 h => ?_)
    refine Ev_blk 1 (pc' := 41) (ls' := [.ref v0, .int v1, .ref v2]) (st' := []) (s' := setR r2 (sR s v0 1) (sI s v0 2).toNatClampNeg r1.1) rfl ⟨trivial, g5⟩ ?_
    exact t_Log_push_41 h
  · exact t_Log_push_41 h
/-- RecordHeap$Log.push(ILRecordHeap$Pages;)V -/
def f_Log_push (s : AS) (a0 : Nat) (a1 : Int32) (a2 : Nat) : Option AS :=
  if sT s a0 = 5 then
  if (sI s a0 2) < (nI 16) then
    b_Log_push_13 a0 a1 a2 s
  else
    (f_Log_forgetOldest s a0).bind fun r1 =>
    b_Log_push_13 a0 a1 a2 r1
  else none
theorem t_Log_push {s : AS} {a0 : Nat} {a1 : Int32} {a2 : Nat} {o : AS} (h : f_Log_push s a0 a1 a2 = some o) : Ev 2 mZ83 0 [.ref a0, .int a1, .ref a2] [] s (none, o) := by
  unfold f_Log_push at h
  refine gd h (fun g1 h => ?_)
  refine Ev_blk 4 (pc' := if (sI s a0 2) < (nI 16) then 13 else 9) (ls' := [.ref a0, .int a1, .ref a2]) (st' := []) (s' := s) rfl ⟨trivial, g1⟩ ?_
  refine ib h (fun c2 h => ?_) (fun c2 h => ?_)
  · exact t_Log_push_13 h
  · refine Ev_blk 1 (pc' := 10) (ls' := [.ref a0, .int a1, .ref a2]) (st' := [.ref a0]) (s' := s) rfl trivial ?_
    refine bd h (fun r1 hr1 h => ?_)
    refine Ev_call 2 84 0 [.ref a0] [] rfl rfl rfl rfl g1 rfl rfl (Nat.le_of_ble_eq_true rfl) (t_Log_forgetOldest hr1) ?_
    exact t_Log_push_13 h

def b_Runner_carryOut_259  (v0 : Nat) (v3 : Int32) (v8 : Int32) (s : AS) : Option (Int32 × AS) :=
  if v8 = (nI 0) then
    if v8 = nI 0 ∨ v8 = nI 1 then
    some (v8, s)
    else none
  else
    if sT s v0 = 10 then
    if sT s (sR s v0 0) = 3 then
    if sT s (sR s v0 3) = 5 then
    (f_Log_push s (sR s v0 3) v3 (sR s (sR s v0 0) 3)).bind fun r1 =>
    if sT r1 v0 = 10 then
    if v8 = nI 0 ∨ v8 = nI 1 then
    some (v8, setI r1 v0 5 ((sI r1 v0 5) + (nI 1)))
    else none
    else none
    else none
    else none
    else none
theorem t_Runner_carryOut_259   {d1 d2 d4 d5 d6 d7 d9 : Value} {v0 : Nat} {v3 : Int32} {v8 : Int32} {s : AS} {o : Int32 × AS} (h : b_Runner_carryOut_259  v0 v3 v8 s = some o) : Ev 6 mZ43 259 [.ref v0, d1, d2, .int v3, d4, d5, d6, d7, .int v8, d9] [] s (some (.int o.1), o.2) := by
  unfold b_Runner_carryOut_259 at h
  refine Ev_blk 2 (pc' := if v8 = (nI 0) then 289 else 264) (ls' := [.ref v0, d1, d2, .int v3, d4, d5, d6, d7, .int v8, d9]) (st' := []) (s' := s) rfl trivial ?_
  refine ib h (fun c1 h => ?_) (fun c1 h => ?_)
  · refine gd h (fun g2 h => ?_)
    refine Ev_blk 1 (pc' := 291) (ls' := [.ref v0, d1, d2, .int v3, d4, d5, d6, d7, .int v8, d9]) (st' := [.int v8]) (s' := s) rfl trivial ?_
    cases h
    exact Ev_ret rfl g2
  · refine gd h (fun g3 h => ?_)
    refine gd h (fun g4 h => ?_)
    refine gd h (fun g5 h => ?_)
    refine Ev_blk 6 (pc' := 276) (ls' := [.ref v0, d1, d2, .int v3, d4, d5, d6, d7, .int v8, d9]) (st' := [.ref (sR s (sR s v0 0) 3), .int v3, .ref (sR s v0 3)]) (s' := s) rfl ⟨⟨⟨trivial, g3⟩, g3⟩, g4⟩ ?_
    refine bd h (fun r1 hr1 h => ?_)
    refine Ev_call 2 83 2 [.ref (sR s v0 3), .int v3, .ref (sR s (sR s v0 0) 3)] [] rfl rfl rfl rfl g5 rfl rfl (Nat.le_of_ble_eq_true rfl) (t_Log_push hr1) ?_
    refine gd h (fun g6 h => ?_)
    refine gd h (fun g7 h => ?_)
    refine Ev_blk 7 (pc' := 291) (ls' := [.ref v0, d1, d2, .int v3, d4, d5, d6, d7, .int v8, d9]) (st' := [.int v8]) (s' := setI r1 v0 5 ((sI r1 v0 5) + (nI 1))) rfl ⟨⟨trivial, g6⟩, g6⟩ ?_
    cases h
    exact Ev_ret rfl g7
def b_Runner_carryOut_220  (v0 : Nat) (v3 : Int32) (w0 : Int32) (s : AS) : Option (Int32 × AS) :=
  b_Runner_carryOut_259 v0 v3 w0 s
theorem t_Runner_carryOut_220   {d1 d2 d4 d5 d6 d7 d8 d9 : Value} {v0 : Nat} {v3 : Int32} {w0 : Int32} {s : AS} {o : Int32 × AS} (h : b_Runner_carryOut_220  v0 v3 w0 s = some o) : Ev 6 mZ43 220 [.ref v0, d1, d2, .int v3, d4, d5, d6, d7, d8, d9] [.int w0] s (some (.int o.1), o.2) := by
  unfold b_Runner_carryOut_220 at h
  refine Ev_blk 2 (pc' := 259) (ls' := [.ref v0, d1, d2, .int v3, d4, d5, d6, (clrV d7), .int w0, d9]) (st' := []) (s' := s) rfl trivial ?_
  exact t_Runner_carryOut_259 h
def b_Runner_carryOut_180  (v0 : Nat) (v3 : Int32) (w0 : Int32) (s : AS) : Option (Int32 × AS) :=
  b_Runner_carryOut_259 v0 v3 w0 s
theorem t_Runner_carryOut_180   {d1 d2 d4 d5 d6 d7 d8 d9 : Value} {v0 : Nat} {v3 : Int32} {w0 : Int32} {s : AS} {o : Int32 × AS} (h : b_Runner_carryOut_180  v0 v3 w0 s = some o) : Ev 6 mZ43 180 [.ref v0, d1, d2, .int v3, d4, d5, d6, d7, d8, d9] [.int w0] s (some (.int o.1), o.2) := by
  unfold b_Runner_carryOut_180 at h
  refine Ev_blk 2 (pc' := 259) (ls' := [.ref v0, d1, d2, .int v3, d4, d5, d6, (clrV d7), .int w0, d9]) (st' := []) (s' := s) rfl trivial ?_
  exact t_Runner_carryOut_259 h
def b_Runner_carryOut_166  (v0 : Nat) (v3 : Int32) (v9 : Int32) (w0 : Int32) (w1 : Nat) (s : AS) : Option (Int32 × AS) :=
  if sT s w1 = 10 then
    b_Runner_carryOut_180 v0 v3 (if v9 = (-(nI 1)) then nI 0 else nI 1) (setI s w1 6 w0)
  else none
theorem t_Runner_carryOut_166   {d1 d2 d4 d5 d6 d7 d8 : Value} {v0 : Nat} {v3 : Int32} {v9 : Int32} {w0 : Int32} {w1 : Nat} {s : AS} {o : Int32 × AS} (h : b_Runner_carryOut_166  v0 v3 v9 w0 w1 s = some o) : Ev 6 mZ43 166 [.ref v0, d1, d2, .int v3, d4, d5, d6, d7, d8, .int v9] [.int w0, .ref w1] s (some (.int o.1), o.2) := by
  unfold b_Runner_carryOut_166 at h
  refine gd h (fun g1 h => ?_)
  refine Ev_blk 4 (pc' := if v9 = (-(nI 1)) then 179 else 175) (ls' := [.ref v0, d1, d2, .int v3, d4, d5, d6, d7, d8, .int v9]) (st' := []) (s' := setI s w1 6 w0) rfl ⟨trivial, g1⟩ ?_
  have k2_ : Ev 6 mZ43 180 [.ref v0, d1, d2, .int v3, d4, d5, d6, d7, d8, .int v9] [.int (if v9 = (-(nI 1)) then nI 0 else nI 1)] (setI s w1 6 w0) (some (.int o.1), o.2) := by
    exact t_Runner_carryOut_180 h
  refine icases (fun c3 => ?_) (fun c3 => ?_)
  · exact Ev_blk 1 (pc' := 180) (ls' := [.ref v0, d1, d2, .int v3, d4, d5, d6, d7, d8, .int v9]) (st' := [.int (nI 0)]) (s' := setI s w1 6 w0) rfl trivial (by simpa only [if_pos c3] using k2_)
  · exact Ev_blk 2 (pc' := 180) (ls' := [.ref v0, d1, d2, .int v3, d4, d5, d6, d7, d8, .int v9]) (st' := [.int (nI 1)]) (s' := setI s w1 6 w0) rfl trivial (by simpa only [if_neg c3] using k2_)
/-- RecordHeap$Runner.carryOut(LRecordHeap$Text;I)Z -/
def f_Runner_carryOut (s : AS) (a0 : Nat) (a1 : Nat) (a2 : Int32) : Option (Int32 × AS) :=
  if sT s a0 = 10 then
  (f_Runner_fillWords s a0).bind fun r1 =>
  if sT r1 a0 = 10 then
  if sT r1 (sR r1 a0 1) = 6 then
  (f_Machine_answer r1 (sR r1 a0 1) a1 a2 (nI 4)).bind fun r2 =>
  if (lg_cmp r2.1 (lN 1)) = (nI 0) then
    if sT r2.2 a1 = 12 then
    if sT r2.2 (sR r2.2 a1 1) = 20 ∧ inA ((a2 * (nI 6)) + (nI 0)) (sN r2.2 (sR r2.2 a1 1)) then
    if sT r2.2 a0 = 10 then
    if sT r2.2 (sR r2.2 a0 1) = 6 then
    (f_Machine_answer r2.2 (sR r2.2 a0 1) a1 a2 (nI 2)).bind fun r3 =>
    if sT r3.2 a0 = 10 then
    if sT r3.2 (sR r3.2 a0 1) = 6 then
    (f_Machine_answer r3.2 (sR r3.2 a0 1) a1 a2 (nI 3)).bind fun r4 =>
    if (lg_cmp r3.1 (-9000000000000000000 : Int64)) = (nI 0) then
      some (nI 0, r4.2)
    else
      if (lg_cmp r4.1 (-9000000000000000000 : Int64)) = (nI 0) then
        some (nI 0, r4.2)
      else
        if sT r4.2 a0 = 10 then
        (f_Runner_canBe r4.2 a0 (sI r2.2 (sR r2.2 a1 1) ((a2 * (nI 6)) + (nI 0)).toNatClampNeg) r3.1.toInt32 r4.1.toInt32).bind fun r5 =>
        if r5 = (nI 0) then
          some (nI 0, r4.2)
        else
          if (sI r2.2 (sR r2.2 a1 1) ((a2 * (nI 6)) + (nI 0)).toNatClampNeg) = nI 0 then
            if sT r4.2 (sR r4.2 a0 2) = 9 then
            (f_Row_repeat r4.2 (sR r4.2 a0 2) r3.1.toInt32 r4.1.toInt32).bind fun r6 =>
            if sT r6 a0 = 10 then
            if sT r6 (sR r6 a0 0) = 3 then
            (f_Desk_bring r6 (sR r6 a0 0) (sR r6 a0 2)).bind fun r7 =>
            if r7.1 = (-(nI 1)) then
              if sT r7.2 a0 = 10 then
              b_Runner_carryOut_166 a0 (sI r2.2 (sR r2.2 a1 1) ((a2 * (nI 6)) + (nI 0)).toNatClampNeg) r7.1 (sI r7.2 a0 6) a0 r7.2
              else none
            else
              b_Runner_carryOut_166 a0 (sI r2.2 (sR r2.2 a1 1) ((a2 * (nI 6)) + (nI 0)).toNatClampNeg) r7.1 r7.1 a0 r7.2
            else none
            else none
            else none
          else
          if (sI r2.2 (sR r2.2 a1 1) ((a2 * (nI 6)) + (nI 0)).toNatClampNeg) = nI 1 then
            if sT r4.2 (sR r4.2 a0 2) = 9 then
            (f_Row_repeat r4.2 (sR r4.2 a0 2) r4.1.toInt32 (nI 7)).bind fun r8 =>
            if sT r8 a0 = 10 then
            if sT r8 (sR r8 a0 0) = 3 then
            (f_Desk_writeAnew r8 (sR r8 a0 0) r3.1.toInt32 (sR r8 a0 2)).bind fun r9 =>
              b_Runner_carryOut_220 a0 (sI r2.2 (sR r2.2 a1 1) ((a2 * (nI 6)) + (nI 0)).toNatClampNeg) (if r9.1 = (-(nI 1)) then nI 0 else nI 1) r9.2
            else none
            else none
            else none
          else
          if (sI r2.2 (sR r2.2 a1 1) ((a2 * (nI 6)) + (nI 0)).toNatClampNeg) = nI 2 then
            if sT r4.2 (sR r4.2 a0 0) = 3 then
            (f_Desk_takeAway r4.2 (sR r4.2 a0 0) r3.1.toInt32).bind fun r10 =>
            b_Runner_carryOut_259 a0 (sI r2.2 (sR r2.2 a1 1) ((a2 * (nI 6)) + (nI 0)).toNatClampNeg) (nI 1) r10
            else none
          else
          if (sI r2.2 (sR r2.2 a1 1) ((a2 * (nI 6)) + (nI 0)).toNatClampNeg) = nI 3 then
            if sT r4.2 (sR r4.2 a0 0) = 3 then
            (f_Desk_packPage r4.2 (sR r4.2 a0 0) r3.1.toInt32).bind fun r11 =>
            b_Runner_carryOut_259 a0 (sI r2.2 (sR r2.2 a1 1) ((a2 * (nI 6)) + (nI 0)).toNatClampNeg) (nI 1) r11
            else none
          else
          if sT r4.2 (sR r4.2 a0 0) = 3 then
          (f_Desk_mendAll r4.2 (sR r4.2 a0 0)).bind fun r12 =>
          b_Runner_carryOut_259 a0 (sI r2.2 (sR r2.2 a1 1) ((a2 * (nI 6)) + (nI 0)).toNatClampNeg) (nI 1) r12.2
          else none
        else none
    else none
    else none
    else none
    else none
    else none
    else none
  else
    some (nI 1, r2.2)
  else none
  else none
  else none
theorem t_Runner_carryOut {s : AS} {a0 : Nat} {a1 : Nat} {a2 : Int32} {o : Int32 × AS} (h : f_Runner_carryOut s a0 a1 a2 = some o) : Ev 6 mZ43 0 [.ref a0, .ref a1, .int a2, .retAddr 0, .retAddr 0, .retAddr 0, .retAddr 0, .retAddr 0, .retAddr 0, .retAddr 0] [] s (some (.int o.1), o.2) := by
  unfold f_Runner_carryOut at h
  refine gd h (fun g1 h => ?_)
  refine Ev_blk 1 (pc' := 1) (ls' := [.ref a0, .ref a1, .int a2, .retAddr 0, .retAddr 0, .retAddr 0, .retAddr 0, .retAddr 0, .retAddr 0, .retAddr 0]) (st' := [.ref a0]) (s' := s) rfl trivial ?_
  refine bd h (fun r1 hr1 h => ?_)
  refine Ev_call 2 44 0 [.ref a0] [] rfl rfl rfl rfl g1 rfl rfl (Nat.le_of_ble_eq_true rfl) (t_Runner_fillWords hr1) ?_
  refine gd h (fun g2 h => ?_)
  refine gd h (fun g3 h => ?_)
  refine Ev_blk 5 (pc' := 11) (ls' := [.ref a0, .ref a1, .int a2, .retAddr 0, .retAddr 0, .retAddr 0, .retAddr 0, .retAddr 0, .retAddr 0, .retAddr 0]) (st' := [.int (nI 4), .int a2, .ref a1, .ref (sR r1 a0 1)]) (s' := r1) rfl ⟨trivial, g2⟩ ?_
  refine bd h (fun r2 hr2 h => ?_)
  refine Ev_call 2 48 3 [.ref (sR r1 a0 1), .ref a1, .int a2, .int (nI 4)] [] rfl rfl rfl rfl g3 rfl rfl (Nat.le_of_ble_eq_true rfl) (t_Machine_answer hr2) ?_
  refine Ev_blk 3 (pc' := if (lg_cmp r2.1 (lN 1)) = (nI 0) then 21 else 19) (ls' := [.ref a0, .ref a1, .int a2, .retAddr 0, .retAddr 0, .retAddr 0, .retAddr 0, .retAddr 0, .retAddr 0, .retAddr 0]) (st' := []) (s' := r2.2) rfl trivial ?_
  refine ib h (fun c4 h => ?_) (fun c4 h => ?_)
  · refine gd h (fun g5 h => ?_)
    refine gd h (fun g6 h => ?_)
    refine gd h (fun g7 h => ?_)
    refine gd h (fun g8 h => ?_)
    refine Ev_blk 14 (pc' := 40) (ls' := [.ref a0, .ref a1, .int a2, .int (sI r2.2 (sR r2.2 a1 1) ((a2 * (nI 6)) + (nI 0)).toNatClampNeg), .retAddr 0, .retAddr 0, .retAddr 0, .retAddr 0, .retAddr 0, .retAddr 0]) (st' := [.int (nI 2), .int a2, .ref a1, .ref (sR r2.2 a0 1)]) (s' := r2.2) rfl ⟨⟨⟨trivial, g5⟩, ⟨Or.inl g6.1, g6.2⟩⟩, g7⟩ ?_
    refine bd h (fun r3 hr3 h => ?_)
    refine Ev_call 2 48 3 [.ref (sR r2.2 a0 1), .ref a1, .int a2, .int (nI 2)] [] rfl rfl rfl rfl g8 rfl rfl (Nat.le_of_ble_eq_true rfl) (t_Machine_answer hr3) ?_
    refine gd h (fun g9 h => ?_)
    refine gd h (fun g10 h => ?_)
    refine Ev_blk 6 (pc' := 52) (ls' := [.ref a0, .ref a1, .int a2, .int (sI r2.2 (sR r2.2 a1 1) ((a2 * (nI 6)) + (nI 0)).toNatClampNeg), .long r3.1, .retAddr 0, .retAddr 0, .retAddr 0, .retAddr 0, .retAddr 0]) (st' := [.int (nI 3), .int a2, .ref a1, .ref (sR r3.2 a0 1)]) (s' := r3.2) rfl ⟨trivial, g9⟩ ?_
    refine bd h (fun r4 hr4 h => ?_)
    refine Ev_call 2 48 3 [.ref (sR r3.2 a0 1), .ref a1, .int a2, .int (nI 3)] [] rfl rfl rfl rfl g10 rfl rfl (Nat.le_of_ble_eq_true rfl) (t_Machine_answer hr4) ?_
    refine Ev_blk 5 (pc' := if (lg_cmp r3.1 (-9000000000000000000 : Int64)) = (nI 0) then 89 else 66) (ls' := [.ref a0, .ref a1, .int a2, .int (sI r2.2 (sR r2.2 a1 1) ((a2 * (nI 6)) + (nI 0)).toNatClampNeg), .long r3.1, .retAddr 0, .long r4.1, .retAddr 0, .retAddr 0, .retAddr 0]) (st' := []) (s' := r4.2) rfl trivial ?_
    refine ib h (fun c11 h => ?_) (fun c11 h => ?_)
    · refine Ev_blk 1 (pc' := 90) (ls' := [.ref a0, .ref a1, .int a2, .int (sI r2.2 (sR r2.2 a1 1) ((a2 * (nI 6)) + (nI 0)).toNatClampNeg), .long r3.1, .retAddr 0, .long r4.1, .retAddr 0, .retAddr 0, .retAddr 0]) (st' := [.int (nI 0)]) (s' := r4.2) rfl trivial ?_
      cases h
      exact Ev_ret rfl (Or.inl rfl)
    · refine Ev_blk 4 (pc' := if (lg_cmp r4.1 (-9000000000000000000 : Int64)) = (nI 0) then 89 else 75) (ls' := [.ref a0, .ref a1, .int a2, .int (sI r2.2 (sR r2.2 a1 1) ((a2 * (nI 6)) + (nI 0)).toNatClampNeg), .long r3.1, .retAddr 0, .long r4.1, .retAddr 0, .retAddr 0, .retAddr 0]) (st' := []) (s' := r4.2) rfl trivial ?_
      refine ib h (fun c12 h => ?_) (fun c12 h => ?_)
      · refine Ev_blk 1 (pc' := 90) (ls' := [.ref a0, .ref a1, .int a2, .int (sI r2.2 (sR r2.2 a1 1) ((a2 * (nI 6)) + (nI 0)).toNatClampNeg), .long r3.1, .retAddr 0, .long r4.1, .retAddr 0, .retAddr 0, .retAddr 0]) (st' := [.int (nI 0)]) (s' := r4.2) rfl trivial ?_
        cases h
        exact Ev_ret rfl (Or.inl rfl)
      · refine gd h (fun g13 h => ?_)
        refine Ev_blk 6 (pc' := 83) (ls' := [.ref a0, .ref a1, .int a2, .int (sI r2.2 (sR r2.2 a1 1) ((a2 * (nI 6)) + (nI 0)).toNatClampNeg), .long r3.1, .retAddr 0, .long r4.1, .retAddr 0, .retAddr 0, .retAddr 0]) (st' := [.int r4.1.toInt32, .int r3.1.toInt32, .int (sI r2.2 (sR r2.2 a1 1) ((a2 * (nI 6)) + (nI 0)).toNatClampNeg), .ref a0]) (s' := r4.2) rfl trivial ?_
        refine bd h (fun r5 hr5 h => ?_)
        refine Ev_call 2 50 3 [.ref a0, .int (sI r2.2 (sR r2.2 a1 1) ((a2 * (nI 6)) + (nI 0)).toNatClampNeg), .int r3.1.toInt32, .int r4.1.toInt32] [] rfl rfl rfl rfl g13 rfl rfl (Nat.le_of_ble_eq_true rfl) (t_Runner_canBe hr5) ?_
        refine Ev_blk 1 (pc' := if r5 = (nI 0) then 89 else 91) (ls' := [.ref a0, .ref a1, .int a2, .int (sI r2.2 (sR r2.2 a1 1) ((a2 * (nI 6)) + (nI 0)).toNatClampNeg), .long r3.1, .retAddr 0, .long r4.1, .retAddr 0, .retAddr 0, .retAddr 0]) (st' := []) (s' := r4.2) rfl trivial ?_
        refine ib h (fun c14 h => ?_) (fun c14 h => ?_)
        · refine Ev_blk 1 (pc' := 90) (ls' := [.ref a0, .ref a1, .int a2, .int (sI r2.2 (sR r2.2 a1 1) ((a2 * (nI 6)) + (nI 0)).toNatClampNeg), .long r3.1, .retAddr 0, .long r4.1, .retAddr 0, .retAddr 0, .retAddr 0]) (st' := [.int (nI 0)]) (s' := r4.2) rfl trivial ?_
          cases h
          exact Ev_ret rfl (Or.inl rfl)
        · refine Ev_blk 4 (pc' := if (sI r2.2 (sR r2.2 a1 1) ((a2 * (nI 6)) + (nI 0)).toNatClampNeg) = nI 0 then 124 else if (sI r2.2 (sR r2.2 a1 1) ((a2 * (nI 6)) + (nI 0)).toNatClampNeg) = nI 1 then 185 else if (sI r2.2 (sR r2.2 a1 1) ((a2 * (nI 6)) + (nI 0)).toNatClampNeg) = nI 2 then 225 else if (sI r2.2 (sR r2.2 a1 1) ((a2 * (nI 6)) + (nI 0)).toNatClampNeg) = nI 3 then 238 else 251) (ls' := [.ref a0, .ref a1, .int a2, .int (sI r2.2 (sR r2.2 a1 1) ((a2 * (nI 6)) + (nI 0)).toNatClampNeg), .long r3.1, .retAddr 0, .long r4.1, .retAddr 0, .int (nI 1), .retAddr 0]) (st' := []) (s' := r4.2) rfl trivial ?_
          refine ib h (fun c15 h => ?_) (fun c15 h => ?_)
          · refine gd h (fun g16 h => ?_)
            refine Ev_blk 6 (pc' := 134) (ls' := [.ref a0, .ref a1, .int a2, .int (sI r2.2 (sR r2.2 a1 1) ((a2 * (nI 6)) + (nI 0)).toNatClampNeg), .long r3.1, .retAddr 0, .long r4.1, .retAddr 0, .int (nI 1), .retAddr 0]) (st' := [.int r4.1.toInt32, .int r3.1.toInt32, .ref (sR r4.2 a0 2)]) (s' := r4.2) rfl ⟨trivial, g13⟩ ?_
            refine bd h (fun r6 hr6 h => ?_)
            refine Ev_call 2 54 2 [.ref (sR r4.2 a0 2), .int r3.1.toInt32, .int r4.1.toInt32] [] rfl rfl rfl rfl g16 rfl rfl (Nat.le_of_ble_eq_true rfl) (t_Row_repeat hr6) ?_
            refine gd h (fun g17 h => ?_)
            refine gd h (fun g18 h => ?_)
            refine Ev_blk 4 (pc' := 145) (ls' := [.ref a0, .ref a1, .int a2, .int (sI r2.2 (sR r2.2 a1 1) ((a2 * (nI 6)) + (nI 0)).toNatClampNeg), .long r3.1, .retAddr 0, .long r4.1, .retAddr 0, .int (nI 1), .retAddr 0]) (st' := [.ref (sR r6 a0 2), .ref (sR r6 a0 0)]) (s' := r6) rfl ⟨⟨trivial, g17⟩, g17⟩ ?_
            refine bd h (fun r7 hr7 h => ?_)
            refine Ev_call 2 55 1 [.ref (sR r6 a0 0), .ref (sR r6 a0 2)] [] rfl rfl rfl rfl g18 rfl rfl (Nat.le_of_ble_eq_true rfl) (t_Desk_bring hr7) ?_
            refine Ev_blk 5 (pc' := if r7.1 = (-(nI 1)) then 157 else 164) (ls' := [.ref a0, .ref a1, .int a2, .int (sI r2.2 (sR r2.2 a1 1) ((a2 * (nI 6)) + (nI 0)).toNatClampNeg), .long r3.1, .retAddr 0, .long r4.1, .retAddr 0, .int (nI 1), .int r7.1]) (st' := [.ref a0]) (s' := r7.2) rfl trivial ?_
            refine ib h (fun c19 h => ?_) (fun c19 h => ?_)
            · refine gd h (fun g20 h => ?_)
              refine Ev_blk 3 (pc' := 166) (ls' := [.ref a0, .ref a1, .int a2, .int (sI r2.2 (sR r2.2 a1 1) ((a2 * (nI 6)) + (nI 0)).toNatClampNeg), .long r3.1, .retAddr 0, .long r4.1, .retAddr 0, .int (nI 1), .int r7.1]) (st' := [.int (sI r7.2 a0 6), .ref a0]) (s' := r7.2) rfl ⟨trivial, g20⟩ ?_
              exact t_Runner_carryOut_166 h
            · refine Ev_blk 1 (pc' := 166) (ls' := [.ref a0, .ref a1, .int a2, .int (sI r2.2 (sR r2.2 a1 1) ((a2 * (nI 6)) + (nI 0)).toNatClampNeg), .long r3.1, .retAddr 0, .long r4.1, .retAddr 0, .int (nI 1), .int r7.1]) (st' := [.int r7.1, .ref a0]) (s' := r7.2) rfl trivial ?_
              exact t_Runner_carryOut_166 h
          refine ib h (fun c21 h => ?_) (fun c21 h => ?_)
          · refine gd h (fun g22 h => ?_)
            refine Ev_blk 5 (pc' := 194) (ls' := [.ref a0, .ref a1, .int a2, .int (sI r2.2 (sR r2.2 a1 1) ((a2 * (nI 6)) + (nI 0)).toNatClampNeg), .long r3.1, .retAddr 0, .long r4.1, .retAddr 0, .int (nI 1), .retAddr 0]) (st' := [.int (nI 7), .int r4.1.toInt32, .ref (sR r4.2 a0 2)]) (s' := r4.2) rfl ⟨trivial, g13⟩ ?_
            refine bd h (fun r8 hr8 h => ?_)
            refine Ev_call 2 54 2 [.ref (sR r4.2 a0 2), .int r4.1.toInt32, .int (nI 7)] [] rfl rfl rfl rfl g22 rfl rfl (Nat.le_of_ble_eq_true rfl) (t_Row_repeat hr8) ?_
            refine gd h (fun g23 h => ?_)
            refine gd h (fun g24 h => ?_)
            refine Ev_blk 6 (pc' := 208) (ls' := [.ref a0, .ref a1, .int a2, .int (sI r2.2 (sR r2.2 a1 1) ((a2 * (nI 6)) + (nI 0)).toNatClampNeg), .long r3.1, .retAddr 0, .long r4.1, .retAddr 0, .int (nI 1), .retAddr 0]) (st' := [.ref (sR r8 a0 2), .int r3.1.toInt32, .ref (sR r8 a0 0)]) (s' := r8) rfl ⟨⟨trivial, g23⟩, g23⟩ ?_
            refine bd h (fun r9 hr9 h => ?_)
            refine Ev_call 2 72 2 [.ref (sR r8 a0 0), .int r3.1.toInt32, .ref (sR r8 a0 2)] [] rfl rfl rfl rfl g24 rfl rfl (Nat.le_of_ble_eq_true rfl) (t_Desk_writeAnew hr9) ?_
            refine Ev_blk 2 (pc' := if r9.1 = (-(nI 1)) then 219 else 215) (ls' := [.ref a0, .ref a1, .int a2, .int (sI r2.2 (sR r2.2 a1 1) ((a2 * (nI 6)) + (nI 0)).toNatClampNeg), .long r3.1, .retAddr 0, .long r4.1, .retAddr 0, .int (nI 1), .retAddr 0]) (st' := []) (s' := r9.2) rfl trivial ?_
            have k25_ : Ev 6 mZ43 220 [.ref a0, .ref a1, .int a2, .int (sI r2.2 (sR r2.2 a1 1) ((a2 * (nI 6)) + (nI 0)).toNatClampNeg), .long r3.1, .retAddr 0, .long r4.1, .retAddr 0, .int (nI 1), .retAddr 0] [.int (if r9.1 = (-(nI 1)) then nI 0 else nI 1)] r9.2 (some (.int o.1), o.2) := by
              exact t_Runner_carryOut_220 h
            refine icases (fun c26 => ?_) (fun c26 => ?_)
            · exact Ev_blk 1 (pc' := 220) (ls' := [.ref a0, .ref a1, .int a2, .int (sI r2.2 (sR r2.2 a1 1) ((a2 * (nI 6)) + (nI 0)).toNatClampNeg), .long r3.1, .retAddr 0, .long r4.1, .retAddr 0, .int (nI 1), .retAddr 0]) (st' := [.int (nI 0)]) (s' := r9.2) rfl trivial (by simpa only [if_pos c26] using k25_)
            · exact Ev_blk 2 (pc' := 220) (ls' := [.ref a0, .ref a1, .int a2, .int (sI r2.2 (sR r2.2 a1 1) ((a2 * (nI 6)) + (nI 0)).toNatClampNeg), .long r3.1, .retAddr 0, .long r4.1, .retAddr 0, .int (nI 1), .retAddr 0]) (st' := [.int (nI 1)]) (s' := r9.2) rfl trivial (by simpa only [if_neg c26] using k25_)
          refine ib h (fun c27 h => ?_) (fun c27 h => ?_)
          · refine gd h (fun g28 h => ?_)
            refine Ev_blk 4 (pc' := 232) (ls' := [.ref a0, .ref a1, .int a2, .int (sI r2.2 (sR r2.2 a1 1) ((a2 * (nI 6)) + (nI 0)).toNatClampNeg), .long r3.1, .retAddr 0, .long r4.1, .retAddr 0, .int (nI 1), .retAddr 0]) (st' := [.int r3.1.toInt32, .ref (sR r4.2 a0 0)]) (s' := r4.2) rfl ⟨trivial, g13⟩ ?_
            refine bd h (fun r10 hr10 h => ?_)
            refine Ev_call 2 80 1 [.ref (sR r4.2 a0 0), .int r3.1.toInt32] [] rfl rfl rfl rfl g28 rfl rfl (Nat.le_of_ble_eq_true rfl) (t_Desk_takeAway hr10) ?_
            refine Ev_blk 1 (pc' := 259) (ls' := [.ref a0, .ref a1, .int a2, .int (sI r2.2 (sR r2.2 a1 1) ((a2 * (nI 6)) + (nI 0)).toNatClampNeg), .long r3.1, .retAddr 0, .long r4.1, .retAddr 0, .int (nI 1), .retAddr 0]) (st' := []) (s' := r10) rfl trivial ?_
            exact t_Runner_carryOut_259 h
          refine ib h (fun c29 h => ?_) (fun c29 h => ?_)
          · refine gd h (fun g30 h => ?_)
            refine Ev_blk 4 (pc' := 245) (ls' := [.ref a0, .ref a1, .int a2, .int (sI r2.2 (sR r2.2 a1 1) ((a2 * (nI 6)) + (nI 0)).toNatClampNeg), .long r3.1, .retAddr 0, .long r4.1, .retAddr 0, .int (nI 1), .retAddr 0]) (st' := [.int r3.1.toInt32, .ref (sR r4.2 a0 0)]) (s' := r4.2) rfl ⟨trivial, g13⟩ ?_
            refine bd h (fun r11 hr11 h => ?_)
            refine Ev_call 2 81 1 [.ref (sR r4.2 a0 0), .int r3.1.toInt32] [] rfl rfl rfl rfl g30 rfl rfl (Nat.le_of_ble_eq_true rfl) (t_Desk_packPage hr11) ?_
            refine Ev_blk 1 (pc' := 259) (ls' := [.ref a0, .ref a1, .int a2, .int (sI r2.2 (sR r2.2 a1 1) ((a2 * (nI 6)) + (nI 0)).toNatClampNeg), .long r3.1, .retAddr 0, .long r4.1, .retAddr 0, .int (nI 1), .retAddr 0]) (st' := []) (s' := r11) rfl trivial ?_
            exact t_Runner_carryOut_259 h
          refine gd h (fun g31 h => ?_)
          refine Ev_blk 2 (pc' := 255) (ls' := [.ref a0, .ref a1, .int a2, .int (sI r2.2 (sR r2.2 a1 1) ((a2 * (nI 6)) + (nI 0)).toNatClampNeg), .long r3.1, .retAddr 0, .long r4.1, .retAddr 0, .int (nI 1), .retAddr 0]) (st' := [.ref (sR r4.2 a0 0)]) (s' := r4.2) rfl ⟨trivial, g13⟩ ?_
          refine bd h (fun r12 hr12 h => ?_)
          refine Ev_call 2 82 0 [.ref (sR r4.2 a0 0)] [] rfl rfl rfl rfl g31 rfl rfl (Nat.le_of_ble_eq_true rfl) (t_Desk_mendAll hr12) ?_
          refine Ev_blk 1 (pc' := 259) (ls' := [.ref a0, .ref a1, .int a2, .int (sI r2.2 (sR r2.2 a1 1) ((a2 * (nI 6)) + (nI 0)).toNatClampNeg), .long r3.1, .retAddr 0, .long r4.1, .retAddr 0, .int (nI 1), .retAddr 0]) (st' := []) (s' := r12.2) rfl trivial ?_
          exact t_Runner_carryOut_259 h
  · refine Ev_blk 1 (pc' := 20) (ls' := [.ref a0, .ref a1, .int a2, .retAddr 0, .retAddr 0, .retAddr 0, .retAddr 0, .retAddr 0, .retAddr 0, .retAddr 0]) (st' := [.int (nI 1)]) (s' := r2.2) rfl trivial ?_
    cases h
    exact Ev_ret rfl (Or.inr rfl)

/-- RecordHeap$Runner.takeBack()V -/
def f_Runner_takeBack (s : AS) (a0 : Nat) : Option AS :=
  if sT s a0 = 10 then
  if sT s (sR s a0 0) = 3 then
  if sT s (sR s (sR s a0 0) 2) = 7 then
  (f_Pages_takeFrom s (sR s (sR s a0 0) 2) (sR s a0 4)).bind fun r1 =>
  some r1
  else none
  else none
  else none
theorem t_Runner_takeBack {s : AS} {a0 : Nat} {o : AS} (h : f_Runner_takeBack s a0 = some o) : Ev 1 mZ85 0 [.ref a0] [] s (none, o) := by
  unfold f_Runner_takeBack at h
  refine gd h (fun g1 h => ?_)
  refine gd h (fun g2 h => ?_)
  refine gd h (fun g3 h => ?_)
  refine Ev_blk 5 (pc' := 11) (ls' := [.ref a0]) (st' := [.ref (sR s a0 4), .ref (sR s (sR s a0 0) 2)]) (s' := s) rfl ⟨⟨⟨trivial, g1⟩, g2⟩, g1⟩ ?_
  refine bd h (fun r1 hr1 h => ?_)
  refine Ev_call 2 42 1 [.ref (sR s (sR s a0 0) 2), .ref (sR s a0 4)] [] rfl rfl rfl rfl g3 rfl rfl (Nat.le_of_ble_eq_true rfl) (t_Pages_takeFrom hr1) ?_
  cases h
  exact Ev_ret rfl trivial

def b_Log_addAll_2 (k2 : Nat → Nat → Int32 → AS → Option AS) (v0 : Nat) (v1 : Nat) (v2 : Int32) (s : AS) : Option AS :=
  if sT s v1 = 5 then
  if v2 < (sI s v1 2) then
    if sT s (sR s v1 0) = 20 ∧ inA v2 (sN s (sR s v1 0)) then
    if 40 ≤ sT s (sR s v1 1) ∧ inA v2 (sN s (sR s v1 1)) then
    if sT s v0 = 5 then
    (f_Log_push s v0 (sI s (sR s v1 0) v2.toNatClampNeg) (sR s (sR s v1 1) v2.toNatClampNeg)).bind fun r1 =>
    k2 v0 v1 (v2 + nI 1) r1
    else none
    else none
    else none
  else
    some s
  else none
theorem t_Log_addAll_2 {k2 : Nat → Nat → Int32 → AS → Option AS} (H2 : ∀ {v0 : Nat} {v1 : Nat} {v2 : Int32} {s : AS} {o : AS}, k2 v0 v1 v2 s = some o → Ev 3 mZ86 2 [.ref v0, .ref v1, .int v2] [] s (none, o))  {v0 : Nat} {v1 : Nat} {v2 : Int32} {s : AS} {o : AS} (h : b_Log_addAll_2 k2 v0 v1 v2 s = some o) : Ev 3 mZ86 2 [.ref v0, .ref v1, .int v2] [] s (none, o) := by
  unfold b_Log_addAll_2 at h
  refine gd h (fun g1 h => ?_)
  refine Ev_blk 4 (pc' := if v2 < (sI s v1 2) then 10 else 32) (ls' := [.ref v0, .ref v1, .int v2]) (st' := []) (s' := s) rfl ⟨trivial, g1⟩ ?_
  refine ib h (fun c2 h => ?_) (fun c2 h => ?_)
  · refine gd h (fun g3 h => ?_)
    refine gd h (fun g4 h => ?_)
    refine gd h (fun g5 h => ?_)
    refine Ev_blk 9 (pc' := 23) (ls' := [.ref v0, .ref v1, .int v2]) (st' := [.ref (sR s (sR s v1 1) v2.toNatClampNeg), .int (sI s (sR s v1 0) v2.toNatClampNeg), .ref v0]) (s' := s) rfl ⟨⟨⟨⟨trivial, g1⟩, ⟨Or.inl g3.1, g3.2⟩⟩, g1⟩, g4⟩ ?_
    refine bd h (fun r1 hr1 h => ?_)
    refine Ev_call 2 83 2 [.ref v0, .int (sI s (sR s v1 0) v2.toNatClampNeg), .ref (sR s (sR s v1 1) v2.toNatClampNeg)] [] rfl rfl rfl rfl g5 rfl rfl (Nat.le_of_ble_eq_true rfl) (t_Log_push hr1) ?_
    refine Ev_blk 2 (pc' := 2) (ls' := [.ref v0, .ref v1, .int (v2 + nI 1)]) (st' := []) (s' := r1) rfl trivial ?_
    exact H2 h
  · cases h
    exact Ev_ret rfl trivial
def l_Log_addAll_2  : Nat → Nat → Nat → Int32 → AS → Option AS
  | 0 => fun _ _ _ _ => none
  | n + 1 => b_Log_addAll_2  (l_Log_addAll_2  n)
theorem u_Log_addAll_2   {n : Nat} : ∀  {v0 : Nat} {v1 : Nat} {v2 : Int32} {s : AS} {o : AS}, l_Log_addAll_2  n v0 v1 v2 s = some o → Ev 3 mZ86 2 [.ref v0, .ref v1, .int v2] [] s (none, o) := by
  induction n with
  | zero => intros; rename_i h; cases h
  | succ n ih => intros; rename_i h; exact t_Log_addAll_2  (fun h => ih h) h
/-- RecordHeap$Log.addAll(LRecordHeap$Log;)V -/
def f_Log_addAll (s : AS) (a0 : Nat) (a1 : Nat) : Option AS :=
  l_Log_addAll_2 fuel a0 a1 (nI 0) s
theorem t_Log_addAll {s : AS} {a0 : Nat} {a1 : Nat} {o : AS} (h : f_Log_addAll s a0 a1 = some o) : Ev 3 mZ86 0 [.ref a0, .ref a1, .retAddr 0] [] s (none, o) := by
  unfold f_Log_addAll at h
  refine Ev_blk 2 (pc' := 2) (ls' := [.ref a0, .ref a1, .int (nI 0)]) (st' := []) (s' := s) rfl trivial ?_
  exact u_Log_addAll_2 h

def b_C_orders_86 (k54 : Nat → Nat → Int32 → AS → Option (Int32 × AS)) (k86 : Nat → Nat → Int32 → Int32 → Int32 → AS → Option (Int32 × AS)) (v0 : Nat) (v2 : Nat) (v3 : Int32) (v4 : Int32) (v5 : Int32) (s : AS) : Option (Int32 × AS) :=
  if v5 < v4 then
    if sT s v0 = 1 then
    if (sI s v0 14) = (-(nI 1)) then
      if sT s (sR s v0 9) = 10 then
      (f_Runner_carryOut s (sR s v0 9) v2 v3).bind fun r1 =>
      if r1.1 = (nI 0) then
        if sT r1.2 v0 = 1 then
        k86 v0 v2 v3 v4 (v5 + nI 1) (setI r1.2 v0 14 v3)
        else none
      else
        k86 v0 v2 v3 v4 (v5 + nI 1) r1.2
      else none
    else
      k54 v0 v2 (v3 + nI 1) s
    else none
  else
    k54 v0 v2 (v3 + nI 1) s
theorem t_C_orders_86 {k54 : Nat → Nat → Int32 → AS → Option (Int32 × AS)} {k86 : Nat → Nat → Int32 → Int32 → Int32 → AS → Option (Int32 × AS)} (H54 : ∀ {d1 d4 d5 : Value} {v0 : Nat} {v2 : Nat} {v3 : Int32} {s : AS} {o : Int32 × AS}, k54 v0 v2 v3 s = some o → Ev 123 mZ40 54 [.ref v0, d1, .ref v2, .int v3, d4, d5] [] s (some (.int o.1), o.2)) (H86 : ∀ {d1 : Value} {v0 : Nat} {v2 : Nat} {v3 : Int32} {v4 : Int32} {v5 : Int32} {s : AS} {o : Int32 × AS}, k86 v0 v2 v3 v4 v5 s = some o → Ev 123 mZ40 86 [.ref v0, d1, .ref v2, .int v3, .int v4, .int v5] [] s (some (.int o.1), o.2)) {d1 : Value} {v0 : Nat} {v2 : Nat} {v3 : Int32} {v4 : Int32} {v5 : Int32} {s : AS} {o : Int32 × AS} (h : b_C_orders_86 k54 k86 v0 v2 v3 v4 v5 s = some o) : Ev 123 mZ40 86 [.ref v0, d1, .ref v2, .int v3, .int v4, .int v5] [] s (some (.int o.1), o.2) := by
  unfold b_C_orders_86 at h
  refine Ev_blk 3 (pc' := if v5 < v4 then 93 else 124) (ls' := [.ref v0, d1, .ref v2, .int v3, .int v4, .int v5]) (st' := []) (s' := s) rfl trivial ?_
  refine ib h (fun c1 h => ?_) (fun c1 h => ?_)
  · refine gd h (fun g2 h => ?_)
    refine Ev_blk 4 (pc' := if (sI s v0 14) = (-(nI 1)) then 101 else 124) (ls' := [.ref v0, d1, .ref v2, .int v3, .int v4, .int v5]) (st' := []) (s' := s) rfl ⟨trivial, g2⟩ ?_
    refine ib h (fun c3 h => ?_) (fun c3 h => ?_)
    · refine gd h (fun g4 h => ?_)
      refine Ev_blk 4 (pc' := 107) (ls' := [.ref v0, d1, .ref v2, .int v3, .int v4, .int v5]) (st' := [.int v3, .ref v2, .ref (sR s v0 9)]) (s' := s) rfl ⟨trivial, g2⟩ ?_
      refine bd h (fun r1 hr1 h => ?_)
      refine Ev_call 2 43 2 [.ref (sR s v0 9), .ref v2, .int v3] [] rfl rfl rfl rfl g4 rfl rfl (Nat.le_of_ble_eq_true rfl) (t_Runner_carryOut hr1) ?_
      refine Ev_blk 1 (pc' := if r1.1 = (nI 0) then 113 else 118) (ls' := [.ref v0, d1, .ref v2, .int v3, .int v4, .int v5]) (st' := []) (s' := r1.2) rfl trivial ?_
      refine ib h (fun c5 h => ?_) (fun c5 h => ?_)
      · refine gd h (fun g6 h => ?_)
        refine Ev_blk 5 (pc' := 86) (ls' := [.ref v0, d1, .ref v2, .int v3, .int v4, .int (v5 + nI 1)]) (st' := []) (s' := setI r1.2 v0 14 v3) rfl ⟨trivial, g6⟩ ?_
        exact H86 h
      · refine Ev_blk 2 (pc' := 86) (ls' := [.ref v0, d1, .ref v2, .int v3, .int v4, .int (v5 + nI 1)]) (st' := []) (s' := r1.2) rfl trivial ?_
        exact H86 h
    · refine Ev_blk 2 (pc' := 54) (ls' := [.ref v0, d1, .ref v2, .int (v3 + nI 1), .int v4, .int v5]) (st' := []) (s' := s) rfl trivial ?_
      exact H54 h
  · refine Ev_blk 2 (pc' := 54) (ls' := [.ref v0, d1, .ref v2, .int (v3 + nI 1), .int v4, .int v5]) (st' := []) (s' := s) rfl trivial ?_
    exact H54 h
def l_C_orders_86 (k54 : Nat → Nat → Int32 → AS → Option (Int32 × AS)) : Nat → Nat → Nat → Int32 → Int32 → Int32 → AS → Option (Int32 × AS)
  | 0 => fun _ _ _ _ _ _ => none
  | n + 1 => b_C_orders_86 k54 (l_C_orders_86 k54 n)
theorem u_C_orders_86 {k54 : Nat → Nat → Int32 → AS → Option (Int32 × AS)} (H54 : ∀ {d1 d4 d5 : Value} {v0 : Nat} {v2 : Nat} {v3 : Int32} {s : AS} {o : Int32 × AS}, k54 v0 v2 v3 s = some o → Ev 123 mZ40 54 [.ref v0, d1, .ref v2, .int v3, d4, d5] [] s (some (.int o.1), o.2)) {n : Nat} : ∀ {d1 : Value} {v0 : Nat} {v2 : Nat} {v3 : Int32} {v4 : Int32} {v5 : Int32} {s : AS} {o : Int32 × AS}, l_C_orders_86 k54 n v0 v2 v3 v4 v5 s = some o → Ev 123 mZ40 86 [.ref v0, d1, .ref v2, .int v3, .int v4, .int v5] [] s (some (.int o.1), o.2) := by
  induction n with
  | zero => intros; rename_i h; cases h
  | succ n ih => intros; rename_i h; exact t_C_orders_86 H54 (fun h => ih h) h
def b_C_orders_130  (v0 : Nat) (s : AS) : Option (Int32 × AS) :=
  if sT s v0 = 1 then
  if (sI s v0 14) = (-(nI 1)) then
    if sT s (sR s v0 9) = 10 then
    if sT s (sR s v0 8) = 5 then
    (f_Log_addAll s (sR s v0 8) (sR s (sR s v0 9) 3)).bind fun r1 =>
    if sT r1 v0 = 1 then
    if sT r1 (sR r1 v0 9) = 10 then
    (f_C_told r1 v0 (sI r1 (sR r1 v0 9) 5)).bind fun r2 =>
    some (r2.1, r2.2)
    else none
    else none
    else none
    else none
  else
    if sT s (sR s v0 9) = 10 then
    (f_Runner_takeBack s (sR s v0 9)).bind fun r3 =>
    if sT r3 v0 = 1 then
    (f_C_refuse r3 v0 (-(nI 3))).bind fun r4 =>
    some (r4.1, r4.2)
    else none
    else none
  else none
theorem t_C_orders_130   {d1 d2 d3 d4 d5 : Value} {v0 : Nat} {s : AS} {o : Int32 × AS} (h : b_C_orders_130  v0 s = some o) : Ev 123 mZ40 130 [.ref v0, d1, d2, d3, d4, d5] [] s (some (.int o.1), o.2) := by
  unfold b_C_orders_130 at h
  refine gd h (fun g1 h => ?_)
  refine Ev_blk 4 (pc' := if (sI s v0 14) = (-(nI 1)) then 152 else 138) (ls' := [.ref v0, d1, d2, d3, d4, d5]) (st' := []) (s' := s) rfl ⟨trivial, g1⟩ ?_
  refine ib h (fun c2 h => ?_) (fun c2 h => ?_)
  · refine gd h (fun g3 h => ?_)
    refine gd h (fun g4 h => ?_)
    refine Ev_blk 5 (pc' := 163) (ls' := [.ref v0, d1, d2, d3, d4, d5]) (st' := [.ref (sR s (sR s v0 9) 3), .ref (sR s v0 8)]) (s' := s) rfl ⟨⟨⟨trivial, g1⟩, g1⟩, g3⟩ ?_
    refine bd h (fun r1 hr1 h => ?_)
    refine Ev_call 2 86 1 [.ref (sR s v0 8), .ref (sR s (sR s v0 9) 3)] [] rfl rfl rfl rfl g4 rfl rfl (Nat.le_of_ble_eq_true rfl) (t_Log_addAll hr1) ?_
    refine gd h (fun g5 h => ?_)
    refine gd h (fun g6 h => ?_)
    refine Ev_blk 4 (pc' := 174) (ls' := [.ref v0, d1, d2, d3, d4, d5]) (st' := [.int (sI r1 (sR r1 v0 9) 5), .ref v0]) (s' := r1) rfl ⟨⟨trivial, g5⟩, g6⟩ ?_
    refine bd h (fun r2 hr2 h => ?_)
    refine Ev_call 2 14 1 [.ref v0, .int (sI r1 (sR r1 v0 9) 5)] [] rfl rfl rfl rfl g5 rfl rfl (Nat.le_of_ble_eq_true rfl) (t_C_told hr2) ?_
    cases h
    exact Ev_ret rfl trivial
  · refine gd h (fun g7 h => ?_)
    refine Ev_blk 2 (pc' := 142) (ls' := [.ref v0, d1, d2, d3, d4, d5]) (st' := [.ref (sR s v0 9)]) (s' := s) rfl ⟨trivial, g1⟩ ?_
    refine bd h (fun r3 hr3 h => ?_)
    refine Ev_call 2 85 0 [.ref (sR s v0 9)] [] rfl rfl rfl rfl g7 rfl rfl (Nat.le_of_ble_eq_true rfl) (t_Runner_takeBack hr3) ?_
    refine gd h (fun g8 h => ?_)
    refine Ev_blk 2 (pc' := 148) (ls' := [.ref v0, d1, d2, d3, d4, d5]) (st' := [.int (-(nI 3)), .ref v0]) (s' := r3) rfl trivial ?_
    refine bd h (fun r4 hr4 h => ?_)
    refine Ev_call 2 13 1 [.ref v0, .int (-(nI 3))] [] rfl rfl rfl rfl g8 rfl rfl (Nat.le_of_ble_eq_true rfl) (t_C_refuse hr4) ?_
    cases h
    exact Ev_ret rfl trivial
def b_C_orders_54 (k54 : Nat → Nat → Int32 → AS → Option (Int32 × AS)) (v0 : Nat) (v2 : Nat) (v3 : Int32) (s : AS) : Option (Int32 × AS) :=
  if sT s v2 = 12 then
  if v3 < (sI s v2 3) then
    if sT s v0 = 1 then
    if (sI s v0 14) = (-(nI 1)) then
      if sT s (sR s v2 1) = 20 ∧ inA ((v3 * (nI 6)) + (nI 1)) (sN s (sR s v2 1)) then
      l_C_orders_86 k54 fuel v0 v2 v3 (sI s (sR s v2 1) ((v3 * (nI 6)) + (nI 1)).toNatClampNeg) (nI 0) s
      else none
    else
      b_C_orders_130 v0 s
    else none
  else
    b_C_orders_130 v0 s
  else none
theorem t_C_orders_54 {k54 : Nat → Nat → Int32 → AS → Option (Int32 × AS)} (H54 : ∀ {d1 d4 d5 : Value} {v0 : Nat} {v2 : Nat} {v3 : Int32} {s : AS} {o : Int32 × AS}, k54 v0 v2 v3 s = some o → Ev 123 mZ40 54 [.ref v0, d1, .ref v2, .int v3, d4, d5] [] s (some (.int o.1), o.2)) {d1 d4 d5 : Value} {v0 : Nat} {v2 : Nat} {v3 : Int32} {s : AS} {o : Int32 × AS} (h : b_C_orders_54 k54 v0 v2 v3 s = some o) : Ev 123 mZ40 54 [.ref v0, d1, .ref v2, .int v3, d4, d5] [] s (some (.int o.1), o.2) := by
  unfold b_C_orders_54 at h
  refine gd h (fun g1 h => ?_)
  refine Ev_blk 4 (pc' := if v3 < (sI s v2 3) then 62 else 130) (ls' := [.ref v0, d1, .ref v2, .int v3, d4, d5]) (st' := []) (s' := s) rfl ⟨trivial, g1⟩ ?_
  refine ib h (fun c2 h => ?_) (fun c2 h => ?_)
  · refine gd h (fun g3 h => ?_)
    refine Ev_blk 4 (pc' := if (sI s v0 14) = (-(nI 1)) then 70 else 130) (ls' := [.ref v0, d1, .ref v2, .int v3, d4, d5]) (st' := []) (s' := s) rfl ⟨trivial, g3⟩ ?_
    refine ib h (fun c4 h => ?_) (fun c4 h => ?_)
    · refine gd h (fun g5 h => ?_)
      refine Ev_blk 11 (pc' := 86) (ls' := [.ref v0, d1, .ref v2, .int v3, .int (sI s (sR s v2 1) ((v3 * (nI 6)) + (nI 1)).toNatClampNeg), .int (nI 0)]) (st' := []) (s' := s) rfl ⟨⟨trivial, g1⟩, ⟨Or.inl g5.1, g5.2⟩⟩ ?_
      exact u_C_orders_86 H54 h
    · exact t_C_orders_130 h
  · exact t_C_orders_130 h
def l_C_orders_54  : Nat → Nat → Nat → Int32 → AS → Option (Int32 × AS)
  | 0 => fun _ _ _ _ => none
  | n + 1 => b_C_orders_54  (l_C_orders_54  n)
theorem u_C_orders_54   {n : Nat} : ∀ {d1 d4 d5 : Value} {v0 : Nat} {v2 : Nat} {v3 : Int32} {s : AS} {o : Int32 × AS}, l_C_orders_54  n v0 v2 v3 s = some o → Ev 123 mZ40 54 [.ref v0, d1, .ref v2, .int v3, d4, d5] [] s (some (.int o.1), o.2) := by
  induction n with
  | zero => intros; rename_i h; cases h
  | succ n ih => intros; rename_i h; exact t_C_orders_54  (fun h => ih h) h
/-- RecordHeap.orders()I -/
def f_C_orders (s : AS) (a0 : Nat) : Option (Int32 × AS) :=
  if sT s a0 = 1 then
  if sT s (sR s a0 3) = 8 then
  (f_Reader_readAll s (sR s a0 3) (sR s a0 0) (nI 1)).bind fun r1 =>
  if sT r1.2 a0 = 1 then
  if sT r1.2 (sR r1.2 a0 0) = 9 then
  if r1.1 = (nI 0) then
    (f_C_refuse (setI (setI r1.2 (sR r1.2 a0 0) 1 (nI 0)) a0 14 (-(nI 1))) a0 (-(nI 6))).bind fun r2 =>
    some (r2.1, r2.2)
  else
    if sT r1.2 (sR r1.2 a0 9) = 10 then
    (f_Runner_begin (setI (setI r1.2 (sR r1.2 a0 0) 1 (nI 0)) a0 14 (-(nI 1))) (sR r1.2 a0 9)).bind fun r3 =>
    if sT r3 a0 = 1 then
    if sT r3 (sR r3 a0 3) = 8 then
    l_C_orders_54 fuel a0 (sR r3 (sR r3 a0 3) 0) (nI 0) r3
    else none
    else none
    else none
  else none
  else none
  else none
  else none
theorem t_C_orders {s : AS} {a0 : Nat} {o : Int32 × AS} (h : f_C_orders s a0 = some o) : Ev 123 mZ40 0 [.ref a0, .retAddr 0, .retAddr 0, .retAddr 0, .retAddr 0, .retAddr 0] [] s (some (.int o.1), o.2) := by
  unfold f_C_orders at h
  refine gd h (fun g1 h => ?_)
  refine gd h (fun g2 h => ?_)
  refine Ev_blk 5 (pc' := 9) (ls' := [.ref a0, .retAddr 0, .retAddr 0, .retAddr 0, .retAddr 0, .retAddr 0]) (st' := [.int (nI 1), .ref (sR s a0 0), .ref (sR s a0 3)]) (s' := s) rfl ⟨⟨trivial, g1⟩, g1⟩ ?_
  refine bd h (fun r1 hr1 h => ?_)
  refine Ev_call 2 20 2 [.ref (sR s a0 3), .ref (sR s a0 0), .int (nI 1)] [] rfl rfl rfl rfl g2 rfl rfl (Nat.le_of_ble_eq_true rfl) (t_Reader_readAll hr1) ?_
  refine gd h (fun g3 h => ?_)
  refine gd h (fun g4 h => ?_)
  refine Ev_blk 10 (pc' := if r1.1 = (nI 0) then 30 else 37) (ls' := [.ref a0, .int r1.1, .retAddr 0, .retAddr 0, .retAddr 0, .retAddr 0]) (st' := []) (s' := setI (setI r1.2 (sR r1.2 a0 0) 1 (nI 0)) a0 14 (-(nI 1))) rfl ⟨⟨⟨trivial, g3⟩, g4⟩, g3⟩ ?_
  refine ib h (fun c5 h => ?_) (fun c5 h => ?_)
  · refine Ev_blk 2 (pc' := 33) (ls' := [.ref a0, .int r1.1, .retAddr 0, .retAddr 0, .retAddr 0, .retAddr 0]) (st' := [.int (-(nI 6)), .ref a0]) (s' := setI (setI r1.2 (sR r1.2 a0 0) 1 (nI 0)) a0 14 (-(nI 1))) rfl trivial ?_
    refine bd h (fun r2 hr2 h => ?_)
    refine Ev_call 2 13 1 [.ref a0, .int (-(nI 6))] [] rfl rfl rfl rfl g3 rfl rfl (Nat.le_of_ble_eq_true rfl) (t_C_refuse hr2) ?_
    cases h
    exact Ev_ret rfl trivial
  · refine gd h (fun g6 h => ?_)
    refine Ev_blk 2 (pc' := 41) (ls' := [.ref a0, .int r1.1, .retAddr 0, .retAddr 0, .retAddr 0, .retAddr 0]) (st' := [.ref (sR r1.2 a0 9)]) (s' := setI (setI r1.2 (sR r1.2 a0 0) 1 (nI 0)) a0 14 (-(nI 1))) rfl ⟨trivial, g3⟩ ?_
    refine bd h (fun r3 hr3 h => ?_)
    refine Ev_call 2 41 0 [.ref (sR r1.2 a0 9)] [] rfl rfl rfl rfl g6 rfl rfl (Nat.le_of_ble_eq_true rfl) (t_Runner_begin hr3) ?_
    refine gd h (fun g7 h => ?_)
    refine gd h (fun g8 h => ?_)
    refine Ev_blk 6 (pc' := 54) (ls' := [.ref a0, .int r1.1, .ref (sR r3 (sR r3 a0 3) 0), .int (nI 0), .retAddr 0, .retAddr 0]) (st' := []) (s' := r3) rfl ⟨⟨trivial, g7⟩, g8⟩ ?_
    exact u_C_orders_54 h

/-- RecordHeap.fault()I -/
def f_C_fault (s : AS) (a0 : Nat) : Option Int32 :=
  if sT s a0 = 1 then
  if sT s (sR s a0 3) = 8 then
  some (sI s (sR s a0 3) 7)
  else none
  else none
theorem t_C_fault {s : AS} {a0 : Nat} {o : Int32} (h : f_C_fault s a0 = some o) : Ev 0 mZ87 0 [.ref a0] [] s (some (.int o), s) := by
  unfold f_C_fault at h
  refine gd h (fun g1 h => ?_)
  refine gd h (fun g2 h => ?_)
  refine Ev_blk 3 (pc' := 7) (ls' := [.ref a0]) (st' := [.int (sI s (sR s a0 3) 7)]) (s' := s) rfl ⟨⟨trivial, g1⟩, g2⟩ ?_
  cases h
  exact Ev_ret rfl trivial

/-- RecordHeap.stopped()I -/
def f_C_stopped (s : AS) (a0 : Nat) : Option Int32 :=
  if sT s a0 = 1 then
  some (sI s a0 14)
  else none
theorem t_C_stopped {s : AS} {a0 : Nat} {o : Int32} (h : f_C_stopped s a0 = some o) : Ev 0 mZ88 0 [.ref a0] [] s (some (.int o), s) := by
  unfold f_C_stopped at h
  refine gd h (fun g1 h => ?_)
  refine Ev_blk 2 (pc' := 4) (ls' := [.ref a0]) (st' := [.int (sI s a0 14)]) (s' := s) rfl ⟨trivial, g1⟩ ?_
  cases h
  exact Ev_ret rfl trivial

def b_C_force_23  (v0 : Nat) (v1 : Int32) (s : AS) : Option (Int32 × AS) :=
  if sT s v0 = 1 then
  if sT s (sR s v0 5) = 11 then
  (f_C_told (setI s (sR s v0 5) 3 v1) v0 (sI s (sR s v0 5) 3)).bind fun r1 =>
  some (r1.1, r1.2)
  else none
  else none
theorem t_C_force_23   {d2 : Value} {v0 : Nat} {v1 : Int32} {s : AS} {o : Int32 × AS} (h : b_C_force_23  v0 v1 s = some o) : Ev 1 mZ89 23 [.ref v0, .int v1, d2] [] s (some (.int o.1), o.2) := by
  unfold b_C_force_23 at h
  refine gd h (fun g1 h => ?_)
  refine gd h (fun g2 h => ?_)
  refine Ev_blk 10 (pc' := 41) (ls' := [.ref v0, .int v1, .int (sI s (sR s v0 5) 3)]) (st' := [.int (sI s (sR s v0 5) 3), .ref v0]) (s' := setI s (sR s v0 5) 3 v1) rfl ⟨⟨⟨⟨trivial, g1⟩, g2⟩, g1⟩, g2⟩ ?_
  refine bd h (fun r1 hr1 h => ?_)
  refine Ev_call 2 14 1 [.ref v0, .int (sI s (sR s v0 5) 3)] [] rfl rfl rfl rfl g1 rfl rfl (Nat.le_of_ble_eq_true rfl) (t_C_told hr1) ?_
  cases h
  exact Ev_ret rfl trivial
/-- RecordHeap.force(I)I -/
def f_C_force (s : AS) (a0 : Nat) (a1 : Int32) : Option (Int32 × AS) :=
  if a1 = (-(nI 1)) then
    b_C_force_23 a0 a1 s
  else
    if sT s a0 = 1 then
    if sT s (sR s a0 5) = 11 then
    (f_Setting_hasLaw s (sR s a0 5) a1).bind fun r1 =>
    if r1 = (nI 0) then
      (f_C_refuse s a0 (-(nI 2))).bind fun r2 =>
      some (r2.1, r2.2)
    else
      b_C_force_23 a0 a1 s
    else none
    else none
theorem t_C_force {s : AS} {a0 : Nat} {a1 : Int32} {o : Int32 × AS} (h : f_C_force s a0 a1 = some o) : Ev 1 mZ89 0 [.ref a0, .int a1, .retAddr 0] [] s (some (.int o.1), o.2) := by
  unfold f_C_force at h
  refine Ev_blk 3 (pc' := if a1 = (-(nI 1)) then 23 else 5) (ls' := [.ref a0, .int a1, .retAddr 0]) (st' := []) (s' := s) rfl trivial ?_
  refine ib h (fun c1 h => ?_) (fun c1 h => ?_)
  · exact t_C_force_23 h
  · refine gd h (fun g2 h => ?_)
    refine gd h (fun g3 h => ?_)
    refine Ev_blk 3 (pc' := 10) (ls' := [.ref a0, .int a1, .retAddr 0]) (st' := [.int a1, .ref (sR s a0 5)]) (s' := s) rfl ⟨trivial, g2⟩ ?_
    refine bd h (fun r1 hr1 h => ?_)
    refine Ev_call 2 60 1 [.ref (sR s a0 5), .int a1] [] rfl rfl rfl rfl g3 rfl rfl (Nat.le_of_ble_eq_true rfl) (t_Setting_hasLaw hr1) ?_
    refine Ev_blk 1 (pc' := if r1 = (nI 0) then 16 else 23) (ls' := [.ref a0, .int a1, .retAddr 0]) (st' := []) (s' := s) rfl trivial ?_
    refine ib h (fun c4 h => ?_) (fun c4 h => ?_)
    · refine Ev_blk 2 (pc' := 19) (ls' := [.ref a0, .int a1, .retAddr 0]) (st' := [.int (-(nI 2)), .ref a0]) (s' := s) rfl trivial ?_
      refine bd h (fun r2 hr2 h => ?_)
      refine Ev_call 2 13 1 [.ref a0, .int (-(nI 2))] [] rfl rfl rfl rfl g2 rfl rfl (Nat.le_of_ble_eq_true rfl) (t_C_refuse hr2) ?_
      cases h
      exact Ev_ret rfl trivial
    · exact t_C_force_23 h

def b_C_put_38  (v0 : Nat) (v1 : Int32) (w0 : Int32) (s : AS) : Option (Int32 × AS) :=
  if sT s v0 = 1 then
  if sT s (sR s v0 0) = 9 then
  if v1 = (nI 0) then
    (f_C_refuse (setI s (sR s v0 0) 1 (nI 0)) v0 (-(nI 6))).bind fun r1 =>
    some (r1.1, r1.2)
  else
    if w0 = (-(nI 1)) then
      (f_C_refuse (setI s (sR s v0 0) 1 (nI 0)) v0 (-(nI 5))).bind fun r2 =>
      some (r2.1, r2.2)
    else
      if sT s (sR s v0 6) = 3 then
      if sT s (sR s v0 8) = 5 then
      (f_Log_push (setI s (sR s v0 0) 1 (nI 0)) (sR s v0 8) (nI 0) (sR s (sR s v0 6) 3)).bind fun r3 =>
      if sT r3 v0 = 1 then
      (f_C_told r3 v0 w0).bind fun r4 =>
      some (r4.1, r4.2)
      else none
      else none
      else none
  else none
  else none
theorem t_C_put_38   {d2 : Value} {v0 : Nat} {v1 : Int32} {w0 : Int32} {s : AS} {o : Int32 × AS} (h : b_C_put_38  v0 v1 w0 s = some o) : Ev 6 mZ90 38 [.ref v0, .int v1, d2] [.int w0] s (some (.int o.1), o.2) := by
  unfold b_C_put_38 at h
  refine gd h (fun g1 h => ?_)
  refine gd h (fun g2 h => ?_)
  refine Ev_blk 7 (pc' := if v1 = (nI 0) then 51 else 58) (ls' := [.ref v0, .int v1, .int w0]) (st' := []) (s' := setI s (sR s v0 0) 1 (nI 0)) rfl ⟨⟨trivial, g1⟩, g2⟩ ?_
  refine ib h (fun c3 h => ?_) (fun c3 h => ?_)
  · refine Ev_blk 2 (pc' := 54) (ls' := [.ref v0, .int v1, .int w0]) (st' := [.int (-(nI 6)), .ref v0]) (s' := setI s (sR s v0 0) 1 (nI 0)) rfl trivial ?_
    refine bd h (fun r1 hr1 h => ?_)
    refine Ev_call 2 13 1 [.ref v0, .int (-(nI 6))] [] rfl rfl rfl rfl g1 rfl rfl (Nat.le_of_ble_eq_true rfl) (t_C_refuse hr1) ?_
    cases h
    exact Ev_ret rfl trivial
  · refine Ev_blk 3 (pc' := if w0 = (-(nI 1)) then 63 else 70) (ls' := [.ref v0, .int v1, .int w0]) (st' := []) (s' := setI s (sR s v0 0) 1 (nI 0)) rfl trivial ?_
    refine ib h (fun c4 h => ?_) (fun c4 h => ?_)
    · refine Ev_blk 2 (pc' := 66) (ls' := [.ref v0, .int v1, .int w0]) (st' := [.int (-(nI 5)), .ref v0]) (s' := setI s (sR s v0 0) 1 (nI 0)) rfl trivial ?_
      refine bd h (fun r2 hr2 h => ?_)
      refine Ev_call 2 13 1 [.ref v0, .int (-(nI 5))] [] rfl rfl rfl rfl g1 rfl rfl (Nat.le_of_ble_eq_true rfl) (t_C_refuse hr2) ?_
      cases h
      exact Ev_ret rfl trivial
    · refine gd h (fun g5 h => ?_)
      refine gd h (fun g6 h => ?_)
      refine Ev_blk 6 (pc' := 82) (ls' := [.ref v0, .int v1, .int w0]) (st' := [.ref (sR s (sR s v0 6) 3), .int (nI 0), .ref (sR s v0 8)]) (s' := setI s (sR s v0 0) 1 (nI 0)) rfl ⟨⟨⟨trivial, g1⟩, g1⟩, g5⟩ ?_
      refine bd h (fun r3 hr3 h => ?_)
      refine Ev_call 2 83 2 [.ref (sR s v0 8), .int (nI 0), .ref (sR s (sR s v0 6) 3)] [] rfl rfl rfl rfl g6 rfl rfl (Nat.le_of_ble_eq_true rfl) (t_Log_push hr3) ?_
      refine gd h (fun g7 h => ?_)
      refine Ev_blk 2 (pc' := 87) (ls' := [.ref v0, .int v1, .int w0]) (st' := [.int w0, .ref v0]) (s' := r3) rfl trivial ?_
      refine bd h (fun r4 hr4 h => ?_)
      refine Ev_call 2 14 1 [.ref v0, .int w0] [] rfl rfl rfl rfl g7 rfl rfl (Nat.le_of_ble_eq_true rfl) (t_C_told hr4) ?_
      cases h
      exact Ev_ret rfl trivial
def b_C_put_18  (v0 : Nat) (w0 : Int32) (s : AS) : Option (Int32 × AS) :=
  if w0 = (nI 0) then
    b_C_put_38 v0 w0 (-(nI 1)) s
  else
    if sT s v0 = 1 then
    if sT s (sR s v0 6) = 3 then
    (f_Desk_bring s (sR s v0 6) (sR s v0 0)).bind fun r1 =>
    b_C_put_38 v0 w0 r1.1 r1.2
    else none
    else none
theorem t_C_put_18   {d1 d2 : Value} {v0 : Nat} {w0 : Int32} {s : AS} {o : Int32 × AS} (h : b_C_put_18  v0 w0 s = some o) : Ev 6 mZ90 18 [.ref v0, d1, d2] [.int w0] s (some (.int o.1), o.2) := by
  unfold b_C_put_18 at h
  refine Ev_blk 3 (pc' := if w0 = (nI 0) then 37 else 23) (ls' := [.ref v0, .int w0, d2]) (st' := []) (s' := s) rfl trivial ?_
  refine ib h (fun c1 h => ?_) (fun c1 h => ?_)
  · refine Ev_blk 1 (pc' := 38) (ls' := [.ref v0, .int w0, d2]) (st' := [.int (-(nI 1))]) (s' := s) rfl trivial ?_
    exact t_C_put_38 h
  · refine gd h (fun g2 h => ?_)
    refine gd h (fun g3 h => ?_)
    refine Ev_blk 4 (pc' := 31) (ls' := [.ref v0, .int w0, d2]) (st' := [.ref (sR s v0 0), .ref (sR s v0 6)]) (s' := s) rfl ⟨⟨trivial, g2⟩, g2⟩ ?_
    refine bd h (fun r1 hr1 h => ?_)
    refine Ev_call 2 55 1 [.ref (sR s v0 6), .ref (sR s v0 0)] [] rfl rfl rfl rfl g3 rfl rfl (Nat.le_of_ble_eq_true rfl) (t_Desk_bring hr1) ?_
    refine Ev_blk 1 (pc' := 38) (ls' := [.ref v0, .int w0, d2]) (st' := [.int r1.1]) (s' := r1.2) rfl trivial ?_
    exact t_C_put_38 h
/-- RecordHeap.put()I -/
def f_C_put (s : AS) (a0 : Nat) : Option (Int32 × AS) :=
  if sT s a0 = 1 then
  if sT s (sR s a0 0) = 9 then
    b_C_put_18 a0 (if (nI 200) < (sI s (sR s a0 0) 1) then nI 0 else nI 1) s
  else none
  else none
theorem t_C_put {s : AS} {a0 : Nat} {o : Int32 × AS} (h : f_C_put s a0 = some o) : Ev 6 mZ90 0 [.ref a0, .retAddr 0, .retAddr 0] [] s (some (.int o.1), o.2) := by
  unfold f_C_put at h
  refine gd h (fun g1 h => ?_)
  refine gd h (fun g2 h => ?_)
  refine Ev_blk 5 (pc' := if (nI 200) < (sI s (sR s a0 0) 1) then 17 else 13) (ls' := [.ref a0, .retAddr 0, .retAddr 0]) (st' := []) (s' := s) rfl ⟨⟨trivial, g1⟩, g2⟩ ?_
  have k3_ : Ev 6 mZ90 18 [.ref a0, .retAddr 0, .retAddr 0] [.int (if (nI 200) < (sI s (sR s a0 0) 1) then nI 0 else nI 1)] s (some (.int o.1), o.2) := by
    exact t_C_put_18 h
  refine icases (fun c4 => ?_) (fun c4 => ?_)
  · exact Ev_blk 1 (pc' := 18) (ls' := [.ref a0, .retAddr 0, .retAddr 0]) (st' := [.int (nI 0)]) (s' := s) rfl trivial (by simpa only [if_pos c4] using k3_)
  · exact Ev_blk 2 (pc' := 18) (ls' := [.ref a0, .retAddr 0, .retAddr 0]) (st' := [.int (nI 1)]) (s' := s) rfl trivial (by simpa only [if_neg c4] using k3_)

def b_C_rewrite_55  (v0 : Nat) (v2 : Int32) (v3 : Int32) (w0 : Int32) (s : AS) : Option (Int32 × AS) :=
  if sT s v0 = 1 then
  if sT s (sR s v0 0) = 9 then
  if v2 = (nI 0) then
    (f_C_refuse (setI s (sR s v0 0) 1 (nI 0)) v0 (-(nI 2))).bind fun r1 =>
    some (r1.1, r1.2)
  else
    if v3 = (nI 0) then
      (f_C_refuse (setI s (sR s v0 0) 1 (nI 0)) v0 (-(nI 6))).bind fun r2 =>
      some (r2.1, r2.2)
    else
      if w0 = (-(nI 1)) then
        (f_C_refuse (setI s (sR s v0 0) 1 (nI 0)) v0 (-(nI 5))).bind fun r3 =>
        some (r3.1, r3.2)
      else
        if sT s (sR s v0 6) = 3 then
        if sT s (sR s v0 8) = 5 then
        (f_Log_push (setI s (sR s v0 0) 1 (nI 0)) (sR s v0 8) (nI 1) (sR s (sR s v0 6) 3)).bind fun r4 =>
        if sT r4 v0 = 1 then
        (f_C_told r4 v0 w0).bind fun r5 =>
        some (r5.1, r5.2)
        else none
        else none
        else none
  else none
  else none
theorem t_C_rewrite_55   {d1 d4 : Value} {v0 : Nat} {v2 : Int32} {v3 : Int32} {w0 : Int32} {s : AS} {o : Int32 × AS} (h : b_C_rewrite_55  v0 v2 v3 w0 s = some o) : Ev 6 mZ91 55 [.ref v0, d1, .int v2, .int v3, d4] [.int w0] s (some (.int o.1), o.2) := by
  unfold b_C_rewrite_55 at h
  refine gd h (fun g1 h => ?_)
  refine gd h (fun g2 h => ?_)
  refine Ev_blk 7 (pc' := if v2 = (nI 0) then 69 else 76) (ls' := [.ref v0, d1, .int v2, .int v3, .int w0]) (st' := []) (s' := setI s (sR s v0 0) 1 (nI 0)) rfl ⟨⟨trivial, g1⟩, g2⟩ ?_
  refine ib h (fun c3 h => ?_) (fun c3 h => ?_)
  · refine Ev_blk 2 (pc' := 72) (ls' := [.ref v0, d1, .int v2, .int v3, .int w0]) (st' := [.int (-(nI 2)), .ref v0]) (s' := setI s (sR s v0 0) 1 (nI 0)) rfl trivial ?_
    refine bd h (fun r1 hr1 h => ?_)
    refine Ev_call 2 13 1 [.ref v0, .int (-(nI 2))] [] rfl rfl rfl rfl g1 rfl rfl (Nat.le_of_ble_eq_true rfl) (t_C_refuse hr1) ?_
    cases h
    exact Ev_ret rfl trivial
  · refine Ev_blk 2 (pc' := if v3 = (nI 0) then 80 else 87) (ls' := [.ref v0, d1, .int v2, .int v3, .int w0]) (st' := []) (s' := setI s (sR s v0 0) 1 (nI 0)) rfl trivial ?_
    refine ib h (fun c4 h => ?_) (fun c4 h => ?_)
    · refine Ev_blk 2 (pc' := 83) (ls' := [.ref v0, d1, .int v2, .int v3, .int w0]) (st' := [.int (-(nI 6)), .ref v0]) (s' := setI s (sR s v0 0) 1 (nI 0)) rfl trivial ?_
      refine bd h (fun r2 hr2 h => ?_)
      refine Ev_call 2 13 1 [.ref v0, .int (-(nI 6))] [] rfl rfl rfl rfl g1 rfl rfl (Nat.le_of_ble_eq_true rfl) (t_C_refuse hr2) ?_
      cases h
      exact Ev_ret rfl trivial
    · refine Ev_blk 3 (pc' := if w0 = (-(nI 1)) then 93 else 100) (ls' := [.ref v0, d1, .int v2, .int v3, .int w0]) (st' := []) (s' := setI s (sR s v0 0) 1 (nI 0)) rfl trivial ?_
      refine ib h (fun c5 h => ?_) (fun c5 h => ?_)
      · refine Ev_blk 2 (pc' := 96) (ls' := [.ref v0, d1, .int v2, .int v3, .int w0]) (st' := [.int (-(nI 5)), .ref v0]) (s' := setI s (sR s v0 0) 1 (nI 0)) rfl trivial ?_
        refine bd h (fun r3 hr3 h => ?_)
        refine Ev_call 2 13 1 [.ref v0, .int (-(nI 5))] [] rfl rfl rfl rfl g1 rfl rfl (Nat.le_of_ble_eq_true rfl) (t_C_refuse hr3) ?_
        cases h
        exact Ev_ret rfl trivial
      · refine gd h (fun g6 h => ?_)
        refine gd h (fun g7 h => ?_)
        refine Ev_blk 6 (pc' := 112) (ls' := [.ref v0, d1, .int v2, .int v3, .int w0]) (st' := [.ref (sR s (sR s v0 6) 3), .int (nI 1), .ref (sR s v0 8)]) (s' := setI s (sR s v0 0) 1 (nI 0)) rfl ⟨⟨⟨trivial, g1⟩, g1⟩, g6⟩ ?_
        refine bd h (fun r4 hr4 h => ?_)
        refine Ev_call 2 83 2 [.ref (sR s v0 8), .int (nI 1), .ref (sR s (sR s v0 6) 3)] [] rfl rfl rfl rfl g7 rfl rfl (Nat.le_of_ble_eq_true rfl) (t_Log_push hr4) ?_
        refine gd h (fun g8 h => ?_)
        refine Ev_blk 2 (pc' := 118) (ls' := [.ref v0, d1, .int v2, .int v3, .int w0]) (st' := [.int w0, .ref v0]) (s' := r4) rfl trivial ?_
        refine bd h (fun r5 hr5 h => ?_)
        refine Ev_call 2 14 1 [.ref v0, .int w0] [] rfl rfl rfl rfl g8 rfl rfl (Nat.le_of_ble_eq_true rfl) (t_C_told hr5) ?_
        cases h
        exact Ev_ret rfl trivial
def b_C_rewrite_54  (v0 : Nat) (v2 : Int32) (v3 : Int32) (s : AS) : Option (Int32 × AS) :=
  b_C_rewrite_55 v0 v2 v3 (-(nI 1)) s
theorem t_C_rewrite_54   {d1 d4 : Value} {v0 : Nat} {v2 : Int32} {v3 : Int32} {s : AS} {o : Int32 × AS} (h : b_C_rewrite_54  v0 v2 v3 s = some o) : Ev 6 mZ91 54 [.ref v0, d1, .int v2, .int v3, d4] [] s (some (.int o.1), o.2) := by
  unfold b_C_rewrite_54 at h
  refine Ev_blk 1 (pc' := 55) (ls' := [.ref v0, d1, .int v2, .int v3, d4]) (st' := [.int (-(nI 1))]) (s' := s) rfl trivial ?_
  exact t_C_rewrite_55 h
def b_C_rewrite_30  (v0 : Nat) (v1 : Int32) (v2 : Int32) (w0 : Int32) (s : AS) : Option (Int32 × AS) :=
  if v2 = (nI 0) then
    b_C_rewrite_54 v0 v2 w0 s
  else
    if w0 = (nI 0) then
      b_C_rewrite_54 v0 v2 w0 s
    else
      if sT s v0 = 1 then
      if sT s (sR s v0 6) = 3 then
      (f_Desk_writeAnew s (sR s v0 6) v1 (sR s v0 0)).bind fun r1 =>
      b_C_rewrite_55 v0 v2 w0 r1.1 r1.2
      else none
      else none
theorem t_C_rewrite_30   {d3 d4 : Value} {v0 : Nat} {v1 : Int32} {v2 : Int32} {w0 : Int32} {s : AS} {o : Int32 × AS} (h : b_C_rewrite_30  v0 v1 v2 w0 s = some o) : Ev 6 mZ91 30 [.ref v0, .int v1, .int v2, d3, d4] [.int w0] s (some (.int o.1), o.2) := by
  unfold b_C_rewrite_30 at h
  refine Ev_blk 3 (pc' := if v2 = (nI 0) then 54 else 35) (ls' := [.ref v0, .int v1, .int v2, .int w0, d4]) (st' := []) (s' := s) rfl trivial ?_
  refine ib h (fun c1 h => ?_) (fun c1 h => ?_)
  · exact t_C_rewrite_54 h
  · refine Ev_blk 2 (pc' := if w0 = (nI 0) then 54 else 39) (ls' := [.ref v0, .int v1, .int v2, .int w0, d4]) (st' := []) (s' := s) rfl trivial ?_
    refine ib h (fun c2 h => ?_) (fun c2 h => ?_)
    · exact t_C_rewrite_54 h
    · refine gd h (fun g3 h => ?_)
      refine gd h (fun g4 h => ?_)
      refine Ev_blk 5 (pc' := 48) (ls' := [.ref v0, .int v1, .int v2, .int w0, d4]) (st' := [.ref (sR s v0 0), .int v1, .ref (sR s v0 6)]) (s' := s) rfl ⟨⟨trivial, g3⟩, g3⟩ ?_
      refine bd h (fun r1 hr1 h => ?_)
      refine Ev_call 2 72 2 [.ref (sR s v0 6), .int v1, .ref (sR s v0 0)] [] rfl rfl rfl rfl g4 rfl rfl (Nat.le_of_ble_eq_true rfl) (t_Desk_writeAnew hr1) ?_
      refine Ev_blk 1 (pc' := 55) (ls' := [.ref v0, .int v1, .int v2, .int w0, d4]) (st' := [.int r1.1]) (s' := r1.2) rfl trivial ?_
      exact t_C_rewrite_55 h
/-- RecordHeap.rewrite(I)I -/
def f_C_rewrite (s : AS) (a0 : Nat) (a1 : Int32) : Option (Int32 × AS) :=
  if sT s a0 = 1 then
  if sT s (sR s a0 6) = 3 then
  if sT s (sR s (sR s a0 6) 2) = 7 then
  (f_Pages_isRecord s (sR s (sR s a0 6) 2) a1).bind fun r1 =>
  if sT s (sR s a0 0) = 9 then
    b_C_rewrite_30 a0 a1 r1 (if (nI 200) < (sI s (sR s a0 0) 1) then nI 0 else nI 1) s
  else none
  else none
  else none
  else none
theorem t_C_rewrite {s : AS} {a0 : Nat} {a1 : Int32} {o : Int32 × AS} (h : f_C_rewrite s a0 a1 = some o) : Ev 6 mZ91 0 [.ref a0, .int a1, .retAddr 0, .retAddr 0, .retAddr 0] [] s (some (.int o.1), o.2) := by
  unfold f_C_rewrite at h
  refine gd h (fun g1 h => ?_)
  refine gd h (fun g2 h => ?_)
  refine gd h (fun g3 h => ?_)
  refine Ev_blk 4 (pc' := 8) (ls' := [.ref a0, .int a1, .retAddr 0, .retAddr 0, .retAddr 0]) (st' := [.int a1, .ref (sR s (sR s a0 6) 2)]) (s' := s) rfl ⟨⟨trivial, g1⟩, g2⟩ ?_
  refine bd h (fun r1 hr1 h => ?_)
  refine Ev_call 2 51 1 [.ref (sR s (sR s a0 6) 2), .int a1] [] rfl rfl rfl rfl g3 rfl rfl (Nat.le_of_ble_eq_true rfl) (t_Pages_isRecord hr1) ?_
  refine gd h (fun g4 h => ?_)
  refine Ev_blk 6 (pc' := if (nI 200) < (sI s (sR s a0 0) 1) then 29 else 25) (ls' := [.ref a0, .int a1, .int r1, .retAddr 0, .retAddr 0]) (st' := []) (s' := s) rfl ⟨⟨trivial, g1⟩, g4⟩ ?_
  have k5_ : Ev 6 mZ91 30 [.ref a0, .int a1, .int r1, .retAddr 0, .retAddr 0] [.int (if (nI 200) < (sI s (sR s a0 0) 1) then nI 0 else nI 1)] s (some (.int o.1), o.2) := by
    exact t_C_rewrite_30 h
  refine icases (fun c6 => ?_) (fun c6 => ?_)
  · exact Ev_blk 1 (pc' := 30) (ls' := [.ref a0, .int a1, .int r1, .retAddr 0, .retAddr 0]) (st' := [.int (nI 0)]) (s' := s) rfl trivial (by simpa only [if_pos c6] using k5_)
  · exact Ev_blk 2 (pc' := 30) (ls' := [.ref a0, .int a1, .int r1, .retAddr 0, .retAddr 0]) (st' := [.int (nI 1)]) (s' := s) rfl trivial (by simpa only [if_neg c6] using k5_)

def b_Pages_sizeOf_7 (s : AS) (k7 : Nat → Int32 → Int32 → Int32 → Option Int32) (v0 : Nat) (v2 : Int32) (v3 : Int32) (v4 : Int32) : Option Int32 :=
  if v4 < (nI 128) then
    if v3 = (-(nI 1)) then
      some v2
    else
      if sT s v0 = 7 then
      if sT s (sR s v0 2) = 20 ∧ inA v3 (sN s (sR s v0 2)) then
      (f_Pages_linkOf s v0 v3).bind fun r1 =>
      (f_Pages_followerOf s v0 v3).bind fun r2 =>
      k7 v0 (v2 + ((sI s (sR s v0 2) v3.toNatClampNeg) - r1)) r2 (v4 + nI 1)
      else none
      else none
  else
    some v2
theorem t_Pages_sizeOf_7 {s : AS} {k7 : Nat → Int32 → Int32 → Int32 → Option Int32} (H7 : ∀ {d1 : Value} {v0 : Nat} {v2 : Int32} {v3 : Int32} {v4 : Int32} {o : Int32}, k7 v0 v2 v3 v4 = some o → Ev 2 mZ93 7 [.ref v0, d1, .int v2, .int v3, .int v4] [] s (some (.int o), s)) {d1 : Value} {v0 : Nat} {v2 : Int32} {v3 : Int32} {v4 : Int32} {o : Int32} (h : b_Pages_sizeOf_7 s k7 v0 v2 v3 v4 = some o) : Ev 2 mZ93 7 [.ref v0, d1, .int v2, .int v3, .int v4] [] s (some (.int o), s) := by
  unfold b_Pages_sizeOf_7 at h
  refine Ev_blk 3 (pc' := if v4 < (nI 128) then 15 else 47) (ls' := [.ref v0, d1, .int v2, .int v3, .int v4]) (st' := []) (s' := s) rfl trivial ?_
  refine ib h (fun c1 h => ?_) (fun c1 h => ?_)
  · refine Ev_blk 3 (pc' := if v3 = (-(nI 1)) then 47 else 20) (ls' := [.ref v0, d1, .int v2, .int v3, .int v4]) (st' := []) (s' := s) rfl trivial ?_
    refine ib h (fun c2 h => ?_) (fun c2 h => ?_)
    · refine Ev_blk 1 (pc' := 48) (ls' := [.ref v0, d1, .int v2, .int v3, .int v4]) (st' := [.int v2]) (s' := s) rfl trivial ?_
      cases h
      exact Ev_ret rfl trivial
    · refine gd h (fun g3 h => ?_)
      refine gd h (fun g4 h => ?_)
      refine Ev_blk 7 (pc' := 29) (ls' := [.ref v0, d1, .int v2, .int v3, .int v4]) (st' := [.int v3, .ref v0, .int (sI s (sR s v0 2) v3.toNatClampNeg), .int v2]) (s' := s) rfl ⟨⟨trivial, g3⟩, ⟨Or.inl g4.1, g4.2⟩⟩ ?_
      refine bd h (fun r1 hr1 h => ?_)
      refine Ev_call 2 75 1 [.ref v0, .int v3] [.int (sI s (sR s v0 2) v3.toNatClampNeg), .int v2] rfl rfl rfl rfl g3 rfl rfl (Nat.le_of_ble_eq_true rfl) (t_Pages_linkOf hr1) ?_
      refine Ev_blk 5 (pc' := 37) (ls' := [.ref v0, (clrV d1), .int (v2 + ((sI s (sR s v0 2) v3.toNatClampNeg) - r1)), .int v3, .int v4]) (st' := [.int v3, .ref v0]) (s' := s) rfl trivial ?_
      refine bd h (fun r2 hr2 h => ?_)
      refine Ev_call 2 74 1 [.ref v0, .int v3] [] rfl rfl rfl rfl g3 rfl rfl (Nat.le_of_ble_eq_true rfl) (t_Pages_followerOf hr2) ?_
      refine Ev_blk 3 (pc' := 7) (ls' := [.ref v0, (clrV d1), .int (v2 + ((sI s (sR s v0 2) v3.toNatClampNeg) - r1)), .int r2, .int (v4 + nI 1)]) (st' := []) (s' := s) rfl trivial ?_
      exact H7 h
  · refine Ev_blk 1 (pc' := 48) (ls' := [.ref v0, d1, .int v2, .int v3, .int v4]) (st' := [.int v2]) (s' := s) rfl trivial ?_
    cases h
    exact Ev_ret rfl trivial
def l_Pages_sizeOf_7 (s : AS)  : Nat → Nat → Int32 → Int32 → Int32 → Option Int32
  | 0 => fun _ _ _ _ => none
  | n + 1 => b_Pages_sizeOf_7 s  (l_Pages_sizeOf_7 s  n)
theorem u_Pages_sizeOf_7 {s : AS}   {n : Nat} : ∀ {d1 : Value} {v0 : Nat} {v2 : Int32} {v3 : Int32} {v4 : Int32} {o : Int32}, l_Pages_sizeOf_7 s  n v0 v2 v3 v4 = some o → Ev 2 mZ93 7 [.ref v0, d1, .int v2, .int v3, .int v4] [] s (some (.int o), s) := by
  induction n with
  | zero => intros; rename_i h; cases h
  | succ n ih => intros; rename_i h; exact t_Pages_sizeOf_7  (fun h => ih h) h
/-- RecordHeap$Pages.sizeOf(I)I -/
def f_Pages_sizeOf (s : AS) (a0 : Nat) (a1 : Int32) : Option Int32 :=
  l_Pages_sizeOf_7 s fuel a0 (nI 0) a1 (nI 0)
theorem t_Pages_sizeOf {s : AS} {a0 : Nat} {a1 : Int32} {o : Int32} (h : f_Pages_sizeOf s a0 a1 = some o) : Ev 2 mZ93 0 [.ref a0, .int a1, .retAddr 0, .retAddr 0, .retAddr 0] [] s (some (.int o), s) := by
  unfold f_Pages_sizeOf at h
  refine Ev_blk 6 (pc' := 7) (ls' := [.ref a0, .int a1, .int (nI 0), .int a1, .int (nI 0)]) (st' := []) (s' := s) rfl trivial ?_
  exact u_Pages_sizeOf_7 h

/-- RecordHeap.drop(I)I -/
def f_C_drop (s : AS) (a0 : Nat) (a1 : Int32) : Option (Int32 × AS) :=
  if sT s a0 = 1 then
  if sT s (sR s a0 6) = 3 then
  if sT s (sR s (sR s a0 6) 2) = 7 then
  (f_Pages_isRecord s (sR s (sR s a0 6) 2) a1).bind fun r1 =>
  if r1 = (nI 0) then
    (f_C_refuse s a0 (-(nI 2))).bind fun r2 =>
    some (r2.1, r2.2)
  else
    (f_Pages_sizeOf s (sR s (sR s a0 6) 2) a1).bind fun r3 =>
    (f_Desk_takeAway s (sR s a0 6) a1).bind fun r4 =>
    if sT r4 a0 = 1 then
    if sT r4 (sR r4 a0 6) = 3 then
    if sT r4 (sR r4 a0 8) = 5 then
    (f_Log_push r4 (sR r4 a0 8) (nI 2) (sR r4 (sR r4 a0 6) 3)).bind fun r5 =>
    if sT r5 a0 = 1 then
    (f_C_told r5 a0 r3).bind fun r6 =>
    some (r6.1, r6.2)
    else none
    else none
    else none
    else none
  else none
  else none
  else none
theorem t_C_drop {s : AS} {a0 : Nat} {a1 : Int32} {o : Int32 × AS} (h : f_C_drop s a0 a1 = some o) : Ev 4 mZ92 0 [.ref a0, .int a1, .retAddr 0] [] s (some (.int o.1), o.2) := by
  unfold f_C_drop at h
  refine gd h (fun g1 h => ?_)
  refine gd h (fun g2 h => ?_)
  refine gd h (fun g3 h => ?_)
  refine Ev_blk 4 (pc' := 8) (ls' := [.ref a0, .int a1, .retAddr 0]) (st' := [.int a1, .ref (sR s (sR s a0 6) 2)]) (s' := s) rfl ⟨⟨trivial, g1⟩, g2⟩ ?_
  refine bd h (fun r1 hr1 h => ?_)
  refine Ev_call 2 51 1 [.ref (sR s (sR s a0 6) 2), .int a1] [] rfl rfl rfl rfl g3 rfl rfl (Nat.le_of_ble_eq_true rfl) (t_Pages_isRecord hr1) ?_
  refine Ev_blk 1 (pc' := if r1 = (nI 0) then 14 else 21) (ls' := [.ref a0, .int a1, .retAddr 0]) (st' := []) (s' := s) rfl trivial ?_
  refine ib h (fun c4 h => ?_) (fun c4 h => ?_)
  · refine Ev_blk 2 (pc' := 17) (ls' := [.ref a0, .int a1, .retAddr 0]) (st' := [.int (-(nI 2)), .ref a0]) (s' := s) rfl trivial ?_
    refine bd h (fun r2 hr2 h => ?_)
    refine Ev_call 2 13 1 [.ref a0, .int (-(nI 2))] [] rfl rfl rfl rfl g1 rfl rfl (Nat.le_of_ble_eq_true rfl) (t_C_refuse hr2) ?_
    cases h
    exact Ev_ret rfl trivial
  · refine Ev_blk 4 (pc' := 29) (ls' := [.ref a0, .int a1, .retAddr 0]) (st' := [.int a1, .ref (sR s (sR s a0 6) 2)]) (s' := s) rfl ⟨⟨trivial, g1⟩, g2⟩ ?_
    refine bd h (fun r3 hr3 h => ?_)
    refine Ev_call 2 93 1 [.ref (sR s (sR s a0 6) 2), .int a1] [] rfl rfl rfl rfl g3 rfl rfl (Nat.le_of_ble_eq_true rfl) (t_Pages_sizeOf hr3) ?_
    refine Ev_blk 4 (pc' := 38) (ls' := [.ref a0, .int a1, .int r3]) (st' := [.int a1, .ref (sR s a0 6)]) (s' := s) rfl ⟨trivial, g1⟩ ?_
    refine bd h (fun r4 hr4 h => ?_)
    refine Ev_call 2 80 1 [.ref (sR s a0 6), .int a1] [] rfl rfl rfl rfl g2 rfl rfl (Nat.le_of_ble_eq_true rfl) (t_Desk_takeAway hr4) ?_
    refine gd h (fun g5 h => ?_)
    refine gd h (fun g6 h => ?_)
    refine gd h (fun g7 h => ?_)
    refine Ev_blk 6 (pc' := 53) (ls' := [.ref a0, .int a1, .int r3]) (st' := [.ref (sR r4 (sR r4 a0 6) 3), .int (nI 2), .ref (sR r4 a0 8)]) (s' := r4) rfl ⟨⟨⟨trivial, g5⟩, g5⟩, g6⟩ ?_
    refine bd h (fun r5 hr5 h => ?_)
    refine Ev_call 2 83 2 [.ref (sR r4 a0 8), .int (nI 2), .ref (sR r4 (sR r4 a0 6) 3)] [] rfl rfl rfl rfl g7 rfl rfl (Nat.le_of_ble_eq_true rfl) (t_Log_push hr5) ?_
    refine gd h (fun g8 h => ?_)
    refine Ev_blk 2 (pc' := 58) (ls' := [.ref a0, .int a1, .int r3]) (st' := [.int r3, .ref a0]) (s' := r5) rfl trivial ?_
    refine bd h (fun r6 hr6 h => ?_)
    refine Ev_call 2 14 1 [.ref a0, .int r3] [] rfl rfl rfl rfl g8 rfl rfl (Nat.le_of_ble_eq_true rfl) (t_C_told hr6) ?_
    cases h
    exact Ev_ret rfl trivial

/-- RecordHeap$Pages.wasteOf(I)I -/
def f_Pages_wasteOf (s : AS) (a0 : Nat) (a1 : Int32) : Option Int32 :=
  if sT s a0 = 7 then
  (f_Pages_freeOf s a0 a1).bind fun r1 =>
  (f_Pages_gapOf s a0 a1).bind fun r2 =>
  some (r1 - r2)
  else none
theorem t_Pages_wasteOf {s : AS} {a0 : Nat} {a1 : Int32} {o : Int32} (h : f_Pages_wasteOf s a0 a1 = some o) : Ev 2 mZ95 0 [.ref a0, .int a1] [] s (some (.int o), s) := by
  unfold f_Pages_wasteOf at h
  refine gd h (fun g1 h => ?_)
  refine Ev_blk 2 (pc' := 2) (ls' := [.ref a0, .int a1]) (st' := [.int a1, .ref a0]) (s' := s) rfl trivial ?_
  refine bd h (fun r1 hr1 h => ?_)
  refine Ev_call 2 47 1 [.ref a0, .int a1] [] rfl rfl rfl rfl g1 rfl rfl (Nat.le_of_ble_eq_true rfl) (t_Pages_freeOf hr1) ?_
  refine Ev_blk 2 (pc' := 7) (ls' := [.ref a0, .int a1]) (st' := [.int a1, .ref a0, .int r1]) (s' := s) rfl trivial ?_
  refine bd h (fun r2 hr2 h => ?_)
  refine Ev_call 2 66 1 [.ref a0, .int a1] [.int r1] rfl rfl rfl rfl g1 rfl rfl (Nat.le_of_ble_eq_true rfl) (t_Pages_gapOf hr2) ?_
  refine Ev_blk 1 (pc' := 11) (ls' := [.ref a0, .int a1]) (st' := [.int (r1 - r2)]) (s' := s) rfl trivial ?_
  cases h
  exact Ev_ret rfl trivial

/-- RecordHeap.pack(I)I -/
def f_C_pack (s : AS) (a0 : Nat) (a1 : Int32) : Option (Int32 × AS) :=
  (f_C_isPage s a1).bind fun r1 =>
  if r1 = (nI 0) then
    if sT s a0 = 1 then
    (f_C_refuse s a0 (-(nI 1))).bind fun r2 =>
    some (r2.1, r2.2)
    else none
  else
    if sT s a0 = 1 then
    if sT s (sR s a0 6) = 3 then
    if sT s (sR s (sR s a0 6) 2) = 7 then
    (f_Pages_wasteOf s (sR s (sR s a0 6) 2) a1).bind fun r3 =>
    (f_Desk_packPage s (sR s a0 6) a1).bind fun r4 =>
    if sT r4 a0 = 1 then
    if sT r4 (sR r4 a0 6) = 3 then
    if sT r4 (sR r4 a0 8) = 5 then
    (f_Log_push r4 (sR r4 a0 8) (nI 3) (sR r4 (sR r4 a0 6) 3)).bind fun r5 =>
    if sT r5 a0 = 1 then
    (f_C_told r5 a0 r3).bind fun r6 =>
    some (r6.1, r6.2)
    else none
    else none
    else none
    else none
    else none
    else none
    else none
theorem t_C_pack {s : AS} {a0 : Nat} {a1 : Int32} {o : Int32 × AS} (h : f_C_pack s a0 a1 = some o) : Ev 3 mZ94 0 [.ref a0, .int a1, .retAddr 0] [] s (some (.int o.1), o.2) := by
  unfold f_C_pack at h
  refine Ev_blk 1 (pc' := 1) (ls' := [.ref a0, .int a1, .retAddr 0]) (st' := [.int a1]) (s' := s) rfl trivial ?_
  refine bd h (fun r1 hr1 h => ?_)
  refine Ev_call 1 53 1 [.int a1] [] rfl rfl rfl rfl trivial rfl rfl (Nat.le_of_ble_eq_true rfl) (t_C_isPage hr1) ?_
  refine Ev_blk 1 (pc' := if r1 = (nI 0) then 7 else 13) (ls' := [.ref a0, .int a1, .retAddr 0]) (st' := []) (s' := s) rfl trivial ?_
  refine ib h (fun c1 h => ?_) (fun c1 h => ?_)
  · refine gd h (fun g2 h => ?_)
    refine Ev_blk 2 (pc' := 9) (ls' := [.ref a0, .int a1, .retAddr 0]) (st' := [.int (-(nI 1)), .ref a0]) (s' := s) rfl trivial ?_
    refine bd h (fun r2 hr2 h => ?_)
    refine Ev_call 2 13 1 [.ref a0, .int (-(nI 1))] [] rfl rfl rfl rfl g2 rfl rfl (Nat.le_of_ble_eq_true rfl) (t_C_refuse hr2) ?_
    cases h
    exact Ev_ret rfl trivial
  · refine gd h (fun g3 h => ?_)
    refine gd h (fun g4 h => ?_)
    refine gd h (fun g5 h => ?_)
    refine Ev_blk 4 (pc' := 21) (ls' := [.ref a0, .int a1, .retAddr 0]) (st' := [.int a1, .ref (sR s (sR s a0 6) 2)]) (s' := s) rfl ⟨⟨trivial, g3⟩, g4⟩ ?_
    refine bd h (fun r3 hr3 h => ?_)
    refine Ev_call 2 95 1 [.ref (sR s (sR s a0 6) 2), .int a1] [] rfl rfl rfl rfl g5 rfl rfl (Nat.le_of_ble_eq_true rfl) (t_Pages_wasteOf hr3) ?_
    refine Ev_blk 4 (pc' := 30) (ls' := [.ref a0, .int a1, .int r3]) (st' := [.int a1, .ref (sR s a0 6)]) (s' := s) rfl ⟨trivial, g3⟩ ?_
    refine bd h (fun r4 hr4 h => ?_)
    refine Ev_call 2 81 1 [.ref (sR s a0 6), .int a1] [] rfl rfl rfl rfl g4 rfl rfl (Nat.le_of_ble_eq_true rfl) (t_Desk_packPage hr4) ?_
    refine gd h (fun g6 h => ?_)
    refine gd h (fun g7 h => ?_)
    refine gd h (fun g8 h => ?_)
    refine Ev_blk 6 (pc' := 45) (ls' := [.ref a0, .int a1, .int r3]) (st' := [.ref (sR r4 (sR r4 a0 6) 3), .int (nI 3), .ref (sR r4 a0 8)]) (s' := r4) rfl ⟨⟨⟨trivial, g6⟩, g6⟩, g7⟩ ?_
    refine bd h (fun r5 hr5 h => ?_)
    refine Ev_call 2 83 2 [.ref (sR r4 a0 8), .int (nI 3), .ref (sR r4 (sR r4 a0 6) 3)] [] rfl rfl rfl rfl g8 rfl rfl (Nat.le_of_ble_eq_true rfl) (t_Log_push hr5) ?_
    refine gd h (fun g9 h => ?_)
    refine Ev_blk 2 (pc' := 50) (ls' := [.ref a0, .int a1, .int r3]) (st' := [.int r3, .ref a0]) (s' := r5) rfl trivial ?_
    refine bd h (fun r6 hr6 h => ?_)
    refine Ev_call 2 14 1 [.ref a0, .int r3] [] rfl rfl rfl rfl g9 rfl rfl (Nat.le_of_ble_eq_true rfl) (t_C_told hr6) ?_
    cases h
    exact Ev_ret rfl trivial

/-- RecordHeap.mend()I -/
def f_C_mend (s : AS) (a0 : Nat) : Option (Int32 × AS) :=
  if sT s a0 = 1 then
  if sT s (sR s a0 6) = 3 then
  (f_Desk_mendAll s (sR s a0 6)).bind fun r1 =>
  if sT r1.2 a0 = 1 then
  if sT r1.2 (sR r1.2 a0 6) = 3 then
  if sT r1.2 (sR r1.2 a0 8) = 5 then
  (f_Log_push r1.2 (sR r1.2 a0 8) (nI 4) (sR r1.2 (sR r1.2 a0 6) 3)).bind fun r2 =>
  if sT r2 a0 = 1 then
  (f_C_told r2 a0 r1.1).bind fun r3 =>
  some (r3.1, r3.2)
  else none
  else none
  else none
  else none
  else none
  else none
theorem t_C_mend {s : AS} {a0 : Nat} {o : Int32 × AS} (h : f_C_mend s a0 = some o) : Ev 3 mZ96 0 [.ref a0, .retAddr 0] [] s (some (.int o.1), o.2) := by
  unfold f_C_mend at h
  refine gd h (fun g1 h => ?_)
  refine gd h (fun g2 h => ?_)
  refine Ev_blk 2 (pc' := 4) (ls' := [.ref a0, .retAddr 0]) (st' := [.ref (sR s a0 6)]) (s' := s) rfl ⟨trivial, g1⟩ ?_
  refine bd h (fun r1 hr1 h => ?_)
  refine Ev_call 2 82 0 [.ref (sR s a0 6)] [] rfl rfl rfl rfl g2 rfl rfl (Nat.le_of_ble_eq_true rfl) (t_Desk_mendAll hr1) ?_
  refine gd h (fun g3 h => ?_)
  refine gd h (fun g4 h => ?_)
  refine gd h (fun g5 h => ?_)
  refine Ev_blk 7 (pc' := 20) (ls' := [.ref a0, .int r1.1]) (st' := [.ref (sR r1.2 (sR r1.2 a0 6) 3), .int (nI 4), .ref (sR r1.2 a0 8)]) (s' := r1.2) rfl ⟨⟨⟨trivial, g3⟩, g3⟩, g4⟩ ?_
  refine bd h (fun r2 hr2 h => ?_)
  refine Ev_call 2 83 2 [.ref (sR r1.2 a0 8), .int (nI 4), .ref (sR r1.2 (sR r1.2 a0 6) 3)] [] rfl rfl rfl rfl g5 rfl rfl (Nat.le_of_ble_eq_true rfl) (t_Log_push hr2) ?_
  refine gd h (fun g6 h => ?_)
  refine Ev_blk 2 (pc' := 25) (ls' := [.ref a0, .int r1.1]) (st' := [.int r1.1, .ref a0]) (s' := r2) rfl trivial ?_
  refine bd h (fun r3 hr3 h => ?_)
  refine Ev_call 2 14 1 [.ref a0, .int r1.1] [] rfl rfl rfl rfl g6 rfl rfl (Nat.le_of_ble_eq_true rfl) (t_C_told hr3) ?_
  cases h
  exact Ev_ret rfl trivial

/-- RecordHeap$Log.pull(LRecordHeap$Pages;)I -/
def f_Log_pull (s : AS) (a0 : Nat) (a1 : Nat) : Option (Int32 × AS) :=
  if sT s a0 = 5 then
  if (nI 0) < (sI s a0 2) then
    if 40 ≤ sT s (sR s a0 1) ∧ inA ((sI s a0 2) - (nI 1)) (sN s (sR s a0 1)) then
    if (sR s (sR s a0 1) ((sI s a0 2) - (nI 1)).toNatClampNeg) = 0 then
      some (-(nI 1), s)
    else
      if 40 ≤ sT s (sR s a0 1) ∧ inA (sI (setI s a0 2 ((sI s a0 2) - (nI 1))) a0 2) (sN s (sR s a0 1)) then
      if sT s a1 = 7 then
      (f_Pages_takeFrom (setI s a0 2 ((sI s a0 2) - (nI 1))) a1 (sR s (sR s a0 1) (sI (setI s a0 2 ((sI s a0 2) - (nI 1))) a0 2).toNatClampNeg)).bind fun r1 =>
      if sT r1 a0 = 5 then
      if sT r1 (sR r1 a0 0) = 20 ∧ inA (sI r1 a0 2) (sN r1 (sR r1 a0 0)) then
      some (sI r1 (sR r1 a0 0) (sI r1 a0 2).toNatClampNeg, r1)
      else none
      else none
      else none
      else none
    else none
  else
    some (-(nI 1), s)
  else none
theorem t_Log_pull {s : AS} {a0 : Nat} {a1 : Nat} {o : Int32 × AS} (h : f_Log_pull s a0 a1 = some o) : Ev 1 mZ98 0 [.ref a0, .ref a1] [] s (some (.int o.1), o.2) := by
  unfold f_Log_pull at h
  refine gd h (fun g1 h => ?_)
  refine Ev_blk 3 (pc' := if (nI 0) < (sI s a0 2) then 7 else 21) (ls' := [.ref a0, .ref a1]) (st' := []) (s' := s) rfl ⟨trivial, g1⟩ ?_
  refine ib h (fun c2 h => ?_) (fun c2 h => ?_)
  · refine gd h (fun g3 h => ?_)
    refine Ev_blk 8 (pc' := if (sR s (sR s a0 1) ((sI s a0 2) - (nI 1)).toNatClampNeg) = 0 then 21 else 23) (ls' := [.ref a0, .ref a1]) (st' := []) (s' := s) rfl ⟨⟨⟨trivial, g1⟩, g1⟩, g3⟩ ?_
    refine ib h (fun c4 h => ?_) (fun c4 h => ?_)
    · refine Ev_blk 1 (pc' := 22) (ls' := [.ref a0, .ref a1]) (st' := [.int (-(nI 1))]) (s' := s) rfl trivial ?_
      cases h
      exact Ev_ret rfl trivial
    · refine gd h (fun g5 h => ?_)
      refine gd h (fun g6 h => ?_)
      refine Ev_blk 12 (pc' := 43) (ls' := [.ref a0, .ref a1]) (st' := [.ref (sR s (sR s a0 1) (sI (setI s a0 2 ((sI s a0 2) - (nI 1))) a0 2).toNatClampNeg), .ref a1]) (s' := setI s a0 2 ((sI s a0 2) - (nI 1))) rfl ⟨⟨⟨⟨⟨trivial, g1⟩, g1⟩, g1⟩, g1⟩, g5⟩ ?_
      refine bd h (fun r1 hr1 h => ?_)
      refine Ev_call 2 42 1 [.ref a1, .ref (sR s (sR s a0 1) (sI (setI s a0 2 ((sI s a0 2) - (nI 1))) a0 2).toNatClampNeg)] [] rfl rfl rfl rfl g6 rfl rfl (Nat.le_of_ble_eq_true rfl) (t_Pages_takeFrom hr1) ?_
      refine gd h (fun g7 h => ?_)
      refine gd h (fun g8 h => ?_)
      refine Ev_blk 5 (pc' := 55) (ls' := [.ref a0, .ref a1]) (st' := [.int (sI r1 (sR r1 a0 0) (sI r1 a0 2).toNatClampNeg)]) (s' := r1) rfl ⟨⟨⟨trivial, g7⟩, g7⟩, ⟨Or.inl g8.1, g8.2⟩⟩ ?_
      cases h
      exact Ev_ret rfl trivial
  · refine Ev_blk 1 (pc' := 22) (ls' := [.ref a0, .ref a1]) (st' := [.int (-(nI 1))]) (s' := s) rfl trivial ?_
    cases h
    exact Ev_ret rfl trivial

/-- RecordHeap.undo()I -/
def f_C_undo (s : AS) (a0 : Nat) : Option (Int32 × AS) :=
  if sT s a0 = 1 then
  if sT s (sR s a0 8) = 5 then
  if (sI s (sR s a0 8) 2) = (nI 0) then
    (f_C_refuse s a0 (-(nI 3))).bind fun r1 =>
    some (r1.1, r1.2)
  else
    if sT s (sR s a0 6) = 3 then
    (f_Log_pull s (sR s a0 8) (sR s (sR s a0 6) 2)).bind fun r2 =>
    if sT r2.2 a0 = 1 then
    (f_C_told r2.2 a0 r2.1).bind fun r3 =>
    some (r3.1, r3.2)
    else none
    else none
  else none
  else none
theorem t_C_undo {s : AS} {a0 : Nat} {o : Int32 × AS} (h : f_C_undo s a0 = some o) : Ev 2 mZ97 0 [.ref a0] [] s (some (.int o.1), o.2) := by
  unfold f_C_undo at h
  refine gd h (fun g1 h => ?_)
  refine gd h (fun g2 h => ?_)
  refine Ev_blk 4 (pc' := if (sI s (sR s a0 8) 2) = (nI 0) then 10 else 17) (ls' := [.ref a0]) (st' := []) (s' := s) rfl ⟨⟨trivial, g1⟩, g2⟩ ?_
  refine ib h (fun c3 h => ?_) (fun c3 h => ?_)
  · refine Ev_blk 2 (pc' := 13) (ls' := [.ref a0]) (st' := [.int (-(nI 3)), .ref a0]) (s' := s) rfl trivial ?_
    refine bd h (fun r1 hr1 h => ?_)
    refine Ev_call 2 13 1 [.ref a0, .int (-(nI 3))] [] rfl rfl rfl rfl g1 rfl rfl (Nat.le_of_ble_eq_true rfl) (t_C_refuse hr1) ?_
    cases h
    exact Ev_ret rfl trivial
  · refine gd h (fun g4 h => ?_)
    refine Ev_blk 6 (pc' := 29) (ls' := [.ref a0]) (st' := [.ref (sR s (sR s a0 6) 2), .ref (sR s a0 8), .ref a0]) (s' := s) rfl ⟨⟨⟨trivial, g1⟩, g1⟩, g4⟩ ?_
    refine bd h (fun r2 hr2 h => ?_)
    refine Ev_call 2 98 1 [.ref (sR s a0 8), .ref (sR s (sR s a0 6) 2)] [.ref a0] rfl rfl rfl rfl g2 rfl rfl (Nat.le_of_ble_eq_true rfl) (t_Log_pull hr2) ?_
    refine gd h (fun g5 h => ?_)
    refine bd h (fun r3 hr3 h => ?_)
    refine Ev_call 2 14 1 [.ref a0, .int r2.1] [] rfl rfl rfl rfl g5 rfl rfl (Nat.le_of_ble_eq_true rfl) (t_C_told hr3) ?_
    cases h
    exact Ev_ret rfl trivial

def b_Pages_byteAt_8 (s : AS) (k8 : Nat → Int32 → Int32 → Int32 → Option Int32) (v0 : Nat) (v3 : Int32) (v4 : Int32) (v5 : Int32) : Option Int32 :=
  if v5 < (nI 128) then
    if v3 = (-(nI 1)) then
      some (-(nI 1))
    else
      if sT s v0 = 7 then
      (f_Pages_linkOf s v0 v3).bind fun r1 =>
      if sT s (sR s v0 2) = 20 ∧ inA v3 (sN s (sR s v0 2)) then
      if v4 < ((sI s (sR s v0 2) v3.toNatClampNeg) - r1) then
        (f_Pages_cellByte s v0 v3 (r1 + v4)).bind fun r2 =>
        some r2
      else
        (f_Pages_followerOf s v0 v3).bind fun r3 =>
        k8 v0 r3 (v4 - ((sI s (sR s v0 2) v3.toNatClampNeg) - r1)) (v5 + nI 1)
      else none
      else none
  else
    some (-(nI 1))
theorem t_Pages_byteAt_8 {s : AS} {k8 : Nat → Int32 → Int32 → Int32 → Option Int32} (H8 : ∀ {d1 d2 d6 : Value} {v0 : Nat} {v3 : Int32} {v4 : Int32} {v5 : Int32} {o : Int32}, k8 v0 v3 v4 v5 = some o → Ev 2 mZ100 8 [.ref v0, d1, d2, .int v3, .int v4, .int v5, d6] [] s (some (.int o), s)) {d1 d2 d6 : Value} {v0 : Nat} {v3 : Int32} {v4 : Int32} {v5 : Int32} {o : Int32} (h : b_Pages_byteAt_8 s k8 v0 v3 v4 v5 = some o) : Ev 2 mZ100 8 [.ref v0, d1, d2, .int v3, .int v4, .int v5, d6] [] s (some (.int o), s) := by
  unfold b_Pages_byteAt_8 at h
  refine Ev_blk 3 (pc' := if v5 < (nI 128) then 16 else 79) (ls' := [.ref v0, d1, d2, .int v3, .int v4, .int v5, d6]) (st' := []) (s' := s) rfl trivial ?_
  refine ib h (fun c1 h => ?_) (fun c1 h => ?_)
  · refine Ev_blk 3 (pc' := if v3 = (-(nI 1)) then 79 else 21) (ls' := [.ref v0, d1, d2, .int v3, .int v4, .int v5, d6]) (st' := []) (s' := s) rfl trivial ?_
    refine ib h (fun c2 h => ?_) (fun c2 h => ?_)
    · refine Ev_blk 1 (pc' := 80) (ls' := [.ref v0, d1, d2, .int v3, .int v4, .int v5, d6]) (st' := [.int (-(nI 1))]) (s' := s) rfl trivial ?_
      cases h
      exact Ev_ret rfl trivial
    · refine gd h (fun g3 h => ?_)
      refine Ev_blk 2 (pc' := 23) (ls' := [.ref v0, d1, d2, .int v3, .int v4, .int v5, d6]) (st' := [.int v3, .ref v0]) (s' := s) rfl trivial ?_
      refine bd h (fun r1 hr1 h => ?_)
      refine Ev_call 2 75 1 [.ref v0, .int v3] [] rfl rfl rfl rfl g3 rfl rfl (Nat.le_of_ble_eq_true rfl) (t_Pages_linkOf hr1) ?_
      refine gd h (fun g4 h => ?_)
      refine Ev_blk 9 (pc' := if v4 < ((sI s (sR s v0 2) v3.toNatClampNeg) - r1) then 42 else 53) (ls' := [.ref v0, d1, d2, .int v3, .int v4, .int v5, .int r1]) (st' := []) (s' := s) rfl ⟨⟨trivial, g3⟩, ⟨Or.inl g4.1, g4.2⟩⟩ ?_
      refine ib h (fun c5 h => ?_) (fun c5 h => ?_)
      · refine Ev_blk 5 (pc' := 49) (ls' := [.ref v0, d1, d2, .int v3, .int v4, .int v5, .int r1]) (st' := [.int (r1 + v4), .int v3, .ref v0]) (s' := s) rfl trivial ?_
        refine bd h (fun r2 hr2 h => ?_)
        refine Ev_call 2 76 2 [.ref v0, .int v3, .int (r1 + v4)] [] rfl rfl rfl rfl g3 rfl rfl (Nat.le_of_ble_eq_true rfl) (t_Pages_cellByte hr2) ?_
        cases h
        exact Ev_ret rfl trivial
      · refine Ev_blk 11 (pc' := 69) (ls' := [.ref v0, d1, d2, .int v3, .int (v4 - ((sI s (sR s v0 2) v3.toNatClampNeg) - r1)), .int v5, .int r1]) (st' := [.int v3, .ref v0]) (s' := s) rfl ⟨⟨trivial, g3⟩, ⟨Or.inl g4.1, g4.2⟩⟩ ?_
        refine bd h (fun r3 hr3 h => ?_)
        refine Ev_call 2 74 1 [.ref v0, .int v3] [] rfl rfl rfl rfl g3 rfl rfl (Nat.le_of_ble_eq_true rfl) (t_Pages_followerOf hr3) ?_
        refine Ev_blk 3 (pc' := 8) (ls' := [.ref v0, d1, (clrV d2), .int r3, .int (v4 - ((sI s (sR s v0 2) v3.toNatClampNeg) - r1)), .int (v5 + nI 1), .int r1]) (st' := []) (s' := s) rfl trivial ?_
        exact H8 h
  · refine Ev_blk 1 (pc' := 80) (ls' := [.ref v0, d1, d2, .int v3, .int v4, .int v5, d6]) (st' := [.int (-(nI 1))]) (s' := s) rfl trivial ?_
    cases h
    exact Ev_ret rfl trivial
def l_Pages_byteAt_8 (s : AS)  : Nat → Nat → Int32 → Int32 → Int32 → Option Int32
  | 0 => fun _ _ _ _ => none
  | n + 1 => b_Pages_byteAt_8 s  (l_Pages_byteAt_8 s  n)
theorem u_Pages_byteAt_8 {s : AS}   {n : Nat} : ∀ {d1 d2 d6 : Value} {v0 : Nat} {v3 : Int32} {v4 : Int32} {v5 : Int32} {o : Int32}, l_Pages_byteAt_8 s  n v0 v3 v4 v5 = some o → Ev 2 mZ100 8 [.ref v0, d1, d2, .int v3, .int v4, .int v5, d6] [] s (some (.int o), s) := by
  induction n with
  | zero => intros; rename_i h; cases h
  | succ n ih => intros; rename_i h; exact t_Pages_byteAt_8  (fun h => ih h) h
/-- RecordHeap$Pages.byteAt(II)I -/
def f_Pages_byteAt (s : AS) (a0 : Nat) (a1 : Int32) (a2 : Int32) : Option Int32 :=
  l_Pages_byteAt_8 s fuel a0 a1 a2 (nI 0)
theorem t_Pages_byteAt {s : AS} {a0 : Nat} {a1 : Int32} {a2 : Int32} {o : Int32} (h : f_Pages_byteAt s a0 a1 a2 = some o) : Ev 2 mZ100 0 [.ref a0, .int a1, .int a2, .retAddr 0, .retAddr 0, .retAddr 0, .retAddr 0] [] s (some (.int o), s) := by
  unfold f_Pages_byteAt at h
  refine Ev_blk 6 (pc' := 8) (ls' := [.ref a0, .int a1, .int a2, .int a1, .int a2, .int (nI 0), .retAddr 0]) (st' := []) (s' := s) rfl trivial ?_
  exact u_Pages_byteAt_8 h

def b_C_view_38 (k38 : Nat → Int32 → Int32 → Int32 → AS → Option (Int32 × AS)) (v0 : Nat) (v1 : Int32) (v2 : Int32) (v3 : Int32) (s : AS) : Option (Int32 × AS) :=
  if v3 < v2 then
    if sT s v0 = 1 then
    if sT s (sR s v0 6) = 3 then
    if sT s (sR s (sR s v0 6) 2) = 7 then
    (f_Pages_byteAt s (sR s (sR s v0 6) 2) v1 v3).bind fun r1 =>
    if sT s (sR s v0 1) = 9 then
    (f_Row_add s (sR s v0 1) r1).bind fun r2 =>
    k38 v0 v1 v2 (v3 + nI 1) r2
    else none
    else none
    else none
    else none
  else
    if sT s v0 = 1 then
    if sT s (sR s v0 1) = 9 then
    some (sI s (sR s v0 1) 1, s)
    else none
    else none
theorem t_C_view_38 {k38 : Nat → Int32 → Int32 → Int32 → AS → Option (Int32 × AS)} (H38 : ∀ {v0 : Nat} {v1 : Int32} {v2 : Int32} {v3 : Int32} {s : AS} {o : Int32 × AS}, k38 v0 v1 v2 v3 s = some o → Ev 3 mZ99 38 [.ref v0, .int v1, .int v2, .int v3] [] s (some (.int o.1), o.2))  {v0 : Nat} {v1 : Int32} {v2 : Int32} {v3 : Int32} {s : AS} {o : Int32 × AS} (h : b_C_view_38 k38 v0 v1 v2 v3 s = some o) : Ev 3 mZ99 38 [.ref v0, .int v1, .int v2, .int v3] [] s (some (.int o.1), o.2) := by
  unfold b_C_view_38 at h
  refine Ev_blk 3 (pc' := if v3 < v2 then 43 else 68) (ls' := [.ref v0, .int v1, .int v2, .int v3]) (st' := []) (s' := s) rfl trivial ?_
  refine ib h (fun c1 h => ?_) (fun c1 h => ?_)
  · refine gd h (fun g2 h => ?_)
    refine gd h (fun g3 h => ?_)
    refine gd h (fun g4 h => ?_)
    refine Ev_blk 7 (pc' := 56) (ls' := [.ref v0, .int v1, .int v2, .int v3]) (st' := [.int v3, .int v1, .ref (sR s (sR s v0 6) 2), .ref (sR s v0 1)]) (s' := s) rfl ⟨⟨⟨trivial, g2⟩, g2⟩, g3⟩ ?_
    refine bd h (fun r1 hr1 h => ?_)
    refine Ev_call 2 100 2 [.ref (sR s (sR s v0 6) 2), .int v1, .int v3] [.ref (sR s v0 1)] rfl rfl rfl rfl g4 rfl rfl (Nat.le_of_ble_eq_true rfl) (t_Pages_byteAt hr1) ?_
    refine gd h (fun g5 h => ?_)
    refine bd h (fun r2 hr2 h => ?_)
    refine Ev_call 2 17 1 [.ref (sR s v0 1), .int r1] [] rfl rfl rfl rfl g5 rfl rfl (Nat.le_of_ble_eq_true rfl) (t_Row_add hr2) ?_
    refine Ev_blk 2 (pc' := 38) (ls' := [.ref v0, .int v1, .int v2, .int (v3 + nI 1)]) (st' := []) (s' := r2) rfl trivial ?_
    exact H38 h
  · refine gd h (fun g6 h => ?_)
    refine gd h (fun g7 h => ?_)
    refine Ev_blk 3 (pc' := 75) (ls' := [.ref v0, .int v1, .int v2, .int v3]) (st' := [.int (sI s (sR s v0 1) 1)]) (s' := s) rfl ⟨⟨trivial, g6⟩, g7⟩ ?_
    cases h
    exact Ev_ret rfl trivial
def l_C_view_38  : Nat → Nat → Int32 → Int32 → Int32 → AS → Option (Int32 × AS)
  | 0 => fun _ _ _ _ _ => none
  | n + 1 => b_C_view_38  (l_C_view_38  n)
theorem u_C_view_38   {n : Nat} : ∀  {v0 : Nat} {v1 : Int32} {v2 : Int32} {v3 : Int32} {s : AS} {o : Int32 × AS}, l_C_view_38  n v0 v1 v2 v3 s = some o → Ev 3 mZ99 38 [.ref v0, .int v1, .int v2, .int v3] [] s (some (.int o.1), o.2) := by
  induction n with
  | zero => intros; rename_i h; cases h
  | succ n ih => intros; rename_i h; exact t_C_view_38  (fun h => ih h) h
/-- RecordHeap.view(I)I -/
def f_C_view (s : AS) (a0 : Nat) (a1 : Int32) : Option (Int32 × AS) :=
  if sT s a0 = 1 then
  if sT s (sR s a0 6) = 3 then
  if sT s (sR s (sR s a0 6) 2) = 7 then
  (f_Pages_isRecord s (sR s (sR s a0 6) 2) a1).bind fun r1 =>
  if r1 = (nI 0) then
    some (-(nI 1), s)
  else
    (f_Pages_sizeOf s (sR s (sR s a0 6) 2) a1).bind fun r2 =>
    if sT s (sR s a0 1) = 9 then
    l_C_view_38 fuel a0 a1 r2 (nI 0) (setI s (sR s a0 1) 1 (nI 0))
    else none
  else none
  else none
  else none
theorem t_C_view {s : AS} {a0 : Nat} {a1 : Int32} {o : Int32 × AS} (h : f_C_view s a0 a1 = some o) : Ev 3 mZ99 0 [.ref a0, .int a1, .retAddr 0, .retAddr 0] [] s (some (.int o.1), o.2) := by
  unfold f_C_view at h
  refine gd h (fun g1 h => ?_)
  refine gd h (fun g2 h => ?_)
  refine gd h (fun g3 h => ?_)
  refine Ev_blk 4 (pc' := 8) (ls' := [.ref a0, .int a1, .retAddr 0, .retAddr 0]) (st' := [.int a1, .ref (sR s (sR s a0 6) 2)]) (s' := s) rfl ⟨⟨trivial, g1⟩, g2⟩ ?_
  refine bd h (fun r1 hr1 h => ?_)
  refine Ev_call 2 51 1 [.ref (sR s (sR s a0 6) 2), .int a1] [] rfl rfl rfl rfl g3 rfl rfl (Nat.le_of_ble_eq_true rfl) (t_Pages_isRecord hr1) ?_
  refine Ev_blk 1 (pc' := if r1 = (nI 0) then 14 else 16) (ls' := [.ref a0, .int a1, .retAddr 0, .retAddr 0]) (st' := []) (s' := s) rfl trivial ?_
  refine ib h (fun c4 h => ?_) (fun c4 h => ?_)
  · refine Ev_blk 1 (pc' := 15) (ls' := [.ref a0, .int a1, .retAddr 0, .retAddr 0]) (st' := [.int (-(nI 1))]) (s' := s) rfl trivial ?_
    cases h
    exact Ev_ret rfl trivial
  · refine Ev_blk 4 (pc' := 24) (ls' := [.ref a0, .int a1, .retAddr 0, .retAddr 0]) (st' := [.int a1, .ref (sR s (sR s a0 6) 2)]) (s' := s) rfl ⟨⟨trivial, g1⟩, g2⟩ ?_
    refine bd h (fun r2 hr2 h => ?_)
    refine Ev_call 2 93 1 [.ref (sR s (sR s a0 6) 2), .int a1] [] rfl rfl rfl rfl g3 rfl rfl (Nat.le_of_ble_eq_true rfl) (t_Pages_sizeOf hr2) ?_
    refine gd h (fun g5 h => ?_)
    refine Ev_blk 7 (pc' := 38) (ls' := [.ref a0, .int a1, .int r2, .int (nI 0)]) (st' := []) (s' := setI s (sR s a0 1) 1 (nI 0)) rfl ⟨⟨trivial, g1⟩, g5⟩ ?_
    exact u_C_view_38 h

/-- RecordHeap.sign(I)I -/
def f_C_sign (s : AS) (a0 : Nat) (a1 : Int32) : Option Int32 :=
  if a1 < (nI 0) then
    some (-(nI 1))
  else
    if sT s a0 = 1 then
    if sT s (sR s a0 1) = 9 then
    if a1 < (sI s (sR s a0 1) 1) then
      if sT s (sR s (sR s a0 1) 0) = 20 ∧ inA a1 (sN s (sR s (sR s a0 1) 0)) then
      some (sI s (sR s (sR s a0 1) 0) a1.toNatClampNeg)
      else none
    else
      some (-(nI 1))
    else none
    else none
theorem t_C_sign {s : AS} {a0 : Nat} {a1 : Int32} {o : Int32} (h : f_C_sign s a0 a1 = some o) : Ev 0 mZ101 0 [.ref a0, .int a1] [] s (some (.int o), s) := by
  unfold f_C_sign at h
  refine Ev_blk 2 (pc' := if a1 < (nI 0) then 15 else 4) (ls' := [.ref a0, .int a1]) (st' := []) (s' := s) rfl trivial ?_
  refine ib h (fun c1 h => ?_) (fun c1 h => ?_)
  · refine Ev_blk 2 (pc' := 28) (ls' := [.ref a0, .int a1]) (st' := [.int (-(nI 1))]) (s' := s) rfl trivial ?_
    cases h
    exact Ev_ret rfl trivial
  · refine gd h (fun g2 h => ?_)
    refine gd h (fun g3 h => ?_)
    refine Ev_blk 5 (pc' := if a1 < (sI s (sR s a0 1) 1) then 19 else 15) (ls' := [.ref a0, .int a1]) (st' := []) (s' := s) rfl ⟨⟨trivial, g2⟩, g3⟩ ?_
    refine ib h (fun c4 h => ?_) (fun c4 h => ?_)
    · refine gd h (fun g5 h => ?_)
      refine Ev_blk 5 (pc' := 28) (ls' := [.ref a0, .int a1]) (st' := [.int (sI s (sR s (sR s a0 1) 0) a1.toNatClampNeg)]) (s' := s) rfl ⟨⟨⟨trivial, g2⟩, g3⟩, ⟨Or.inl g5.1, g5.2⟩⟩ ?_
      cases h
      exact Ev_ret rfl trivial
    · refine Ev_blk 2 (pc' := 28) (ls' := [.ref a0, .int a1]) (st' := [.int (-(nI 1))]) (s' := s) rfl trivial ?_
      cases h
      exact Ev_ret rfl trivial

def b_Pages_cellsOf_4 (s : AS) (k4 : Nat → Int32 → Int32 → Int32 → Option Int32) (v0 : Nat) (v1 : Int32) (v2 : Int32) (v3 : Int32) : Option Int32 :=
  if sT s v0 = 7 then
  if sT s (sR s v0 3) = 20 ∧ inA v1 (sN s (sR s v0 3)) then
  if v3 < (sI s (sR s v0 3) v1.toNatClampNeg) then
    if sT s (sR s v0 0) = 20 ∧ inA ((v1 * (nI 16)) + v3) (sN s (sR s v0 0)) then
    if (sI s (sR s v0 0) ((v1 * (nI 16)) + v3).toNatClampNeg) = (nI 0) then
      k4 v0 v1 v2 (v3 + nI 1)
    else
      k4 v0 v1 (v2 + nI 1) (v3 + nI 1)
    else none
  else
    some v2
  else none
  else none
theorem t_Pages_cellsOf_4 {s : AS} {k4 : Nat → Int32 → Int32 → Int32 → Option Int32} (H4 : ∀ {v0 : Nat} {v1 : Int32} {v2 : Int32} {v3 : Int32} {o : Int32}, k4 v0 v1 v2 v3 = some o → Ev 0 mZ103 4 [.ref v0, .int v1, .int v2, .int v3] [] s (some (.int o), s))  {v0 : Nat} {v1 : Int32} {v2 : Int32} {v3 : Int32} {o : Int32} (h : b_Pages_cellsOf_4 s k4 v0 v1 v2 v3 = some o) : Ev 0 mZ103 4 [.ref v0, .int v1, .int v2, .int v3] [] s (some (.int o), s) := by
  unfold b_Pages_cellsOf_4 at h
  refine gd h (fun g1 h => ?_)
  refine gd h (fun g2 h => ?_)
  refine Ev_blk 6 (pc' := if v3 < (sI s (sR s v0 3) v1.toNatClampNeg) then 14 else 37) (ls' := [.ref v0, .int v1, .int v2, .int v3]) (st' := []) (s' := s) rfl ⟨⟨trivial, g1⟩, ⟨Or.inl g2.1, g2.2⟩⟩ ?_
  refine ib h (fun c3 h => ?_) (fun c3 h => ?_)
  · refine gd h (fun g4 h => ?_)
    refine Ev_blk 9 (pc' := if (sI s (sR s v0 0) ((v1 * (nI 16)) + v3).toNatClampNeg) = (nI 0) then 31 else 28) (ls' := [.ref v0, .int v1, .int v2, .int v3]) (st' := []) (s' := s) rfl ⟨⟨trivial, g1⟩, ⟨Or.inl g4.1, g4.2⟩⟩ ?_
    refine ib h (fun c5 h => ?_) (fun c5 h => ?_)
    · refine Ev_blk 2 (pc' := 4) (ls' := [.ref v0, .int v1, .int v2, .int (v3 + nI 1)]) (st' := []) (s' := s) rfl trivial ?_
      exact H4 h
    · refine Ev_blk 3 (pc' := 4) (ls' := [.ref v0, .int v1, .int (v2 + nI 1), .int (v3 + nI 1)]) (st' := []) (s' := s) rfl trivial ?_
      exact H4 h
  · refine Ev_blk 1 (pc' := 38) (ls' := [.ref v0, .int v1, .int v2, .int v3]) (st' := [.int v2]) (s' := s) rfl trivial ?_
    cases h
    exact Ev_ret rfl trivial
def l_Pages_cellsOf_4 (s : AS)  : Nat → Nat → Int32 → Int32 → Int32 → Option Int32
  | 0 => fun _ _ _ _ => none
  | n + 1 => b_Pages_cellsOf_4 s  (l_Pages_cellsOf_4 s  n)
theorem u_Pages_cellsOf_4 {s : AS}   {n : Nat} : ∀  {v0 : Nat} {v1 : Int32} {v2 : Int32} {v3 : Int32} {o : Int32}, l_Pages_cellsOf_4 s  n v0 v1 v2 v3 = some o → Ev 0 mZ103 4 [.ref v0, .int v1, .int v2, .int v3] [] s (some (.int o), s) := by
  induction n with
  | zero => intros; rename_i h; cases h
  | succ n ih => intros; rename_i h; exact t_Pages_cellsOf_4  (fun h => ih h) h
/-- RecordHeap$Pages.cellsOf(I)I -/
def f_Pages_cellsOf (s : AS) (a0 : Nat) (a1 : Int32) : Option Int32 :=
  l_Pages_cellsOf_4 s fuel a0 a1 (nI 0) (nI 0)
theorem t_Pages_cellsOf {s : AS} {a0 : Nat} {a1 : Int32} {o : Int32} (h : f_Pages_cellsOf s a0 a1 = some o) : Ev 0 mZ103 0 [.ref a0, .int a1, .retAddr 0, .retAddr 0] [] s (some (.int o), s) := by
  unfold f_Pages_cellsOf at h
  refine Ev_blk 4 (pc' := 4) (ls' := [.ref a0, .int a1, .int (nI 0), .int (nI 0)]) (st' := []) (s' := s) rfl trivial ?_
  exact u_Pages_cellsOf_4 h

/-- RecordHeap.page(II)I -/
def f_C_page (s : AS) (a0 : Nat) (a1 : Int32) (a2 : Int32) : Option Int32 :=
  (f_C_isPage s a1).bind fun r1 =>
  if r1 = (nI 0) then
    some (-(nI 1))
  else
    if a2 = nI 0 then
      if sT s a0 = 1 then
      if sT s (sR s a0 6) = 3 then
      if sT s (sR s (sR s a0 6) 2) = 7 then
      if sT s (sR s (sR s (sR s a0 6) 2) 3) = 20 ∧ inA a1 (sN s (sR s (sR s (sR s a0 6) 2) 3)) then
      some (sI s (sR s (sR s (sR s a0 6) 2) 3) a1.toNatClampNeg)
      else none
      else none
      else none
      else none
    else
    if a2 = nI 1 then
      if sT s a0 = 1 then
      if sT s (sR s a0 6) = 3 then
      if sT s (sR s (sR s a0 6) 2) = 7 then
      (f_Pages_cellsOf s (sR s (sR s a0 6) 2) a1).bind fun r2 =>
      some r2
      else none
      else none
      else none
    else
    if a2 = nI 2 then
      if sT s a0 = 1 then
      if sT s (sR s a0 6) = 3 then
      if sT s (sR s (sR s a0 6) 2) = 7 then
      (f_Pages_freeOf s (sR s (sR s a0 6) 2) a1).bind fun r3 =>
      some r3
      else none
      else none
      else none
    else
    if a2 = nI 3 then
      if sT s a0 = 1 then
      if sT s (sR s a0 6) = 3 then
      if sT s (sR s (sR s a0 6) 2) = 7 then
      (f_Pages_gapOf s (sR s (sR s a0 6) 2) a1).bind fun r4 =>
      some r4
      else none
      else none
      else none
    else
    if a2 = nI 4 then
      if sT s a0 = 1 then
      if sT s (sR s a0 6) = 3 then
      if sT s (sR s (sR s a0 6) 2) = 7 then
      (f_Pages_wasteOf s (sR s (sR s a0 6) 2) a1).bind fun r5 =>
      some r5
      else none
      else none
      else none
    else
    if a2 = nI 5 then
      if sT s a0 = 1 then
      if sT s (sR s a0 6) = 3 then
      if sT s (sR s (sR s a0 6) 2) = 7 then
      if sT s (sR s (sR s (sR s a0 6) 2) 4) = 20 ∧ inA a1 (sN s (sR s (sR s (sR s a0 6) 2) 4)) then
      some (sI s (sR s (sR s (sR s a0 6) 2) 4) a1.toNatClampNeg)
      else none
      else none
      else none
      else none
    else
    some (-(nI 1))
theorem t_C_page {s : AS} {a0 : Nat} {a1 : Int32} {a2 : Int32} {o : Int32} (h : f_C_page s a0 a1 a2 = some o) : Ev 3 mZ102 0 [.ref a0, .int a1, .int a2] [] s (some (.int o), s) := by
  unfold f_C_page at h
  refine Ev_blk 1 (pc' := 1) (ls' := [.ref a0, .int a1, .int a2]) (st' := [.int a1]) (s' := s) rfl trivial ?_
  refine bd h (fun r1 hr1 h => ?_)
  refine Ev_call 1 53 1 [.int a1] [] rfl rfl rfl rfl trivial rfl rfl (Nat.le_of_ble_eq_true rfl) (t_C_isPage hr1) ?_
  refine Ev_blk 1 (pc' := if r1 = (nI 0) then 7 else 9) (ls' := [.ref a0, .int a1, .int a2]) (st' := []) (s' := s) rfl trivial ?_
  refine ib h (fun c1 h => ?_) (fun c1 h => ?_)
  · refine Ev_blk 1 (pc' := 8) (ls' := [.ref a0, .int a1, .int a2]) (st' := [.int (-(nI 1))]) (s' := s) rfl trivial ?_
    cases h
    exact Ev_ret rfl trivial
  · refine Ev_blk 2 (pc' := if a2 = nI 0 then 48 else if a2 = nI 1 then 61 else if a2 = nI 2 then 73 else if a2 = nI 3 then 85 else if a2 = nI 4 then 97 else if a2 = nI 5 then 109 else 122) (ls' := [.ref a0, .int a1, .int a2]) (st' := []) (s' := s) rfl trivial ?_
    refine ib h (fun c2 h => ?_) (fun c2 h => ?_)
    · refine gd h (fun g3 h => ?_)
      refine gd h (fun g4 h => ?_)
      refine gd h (fun g5 h => ?_)
      refine gd h (fun g6 h => ?_)
      refine Ev_blk 6 (pc' := 60) (ls' := [.ref a0, .int a1, .int a2]) (st' := [.int (sI s (sR s (sR s (sR s a0 6) 2) 3) a1.toNatClampNeg)]) (s' := s) rfl ⟨⟨⟨⟨trivial, g3⟩, g4⟩, g5⟩, ⟨Or.inl g6.1, g6.2⟩⟩ ?_
      cases h
      exact Ev_ret rfl trivial
    refine ib h (fun c7 h => ?_) (fun c7 h => ?_)
    · refine gd h (fun g8 h => ?_)
      refine gd h (fun g9 h => ?_)
      refine gd h (fun g10 h => ?_)
      refine Ev_blk 4 (pc' := 69) (ls' := [.ref a0, .int a1, .int a2]) (st' := [.int a1, .ref (sR s (sR s a0 6) 2)]) (s' := s) rfl ⟨⟨trivial, g8⟩, g9⟩ ?_
      refine bd h (fun r2 hr2 h => ?_)
      refine Ev_call 2 103 1 [.ref (sR s (sR s a0 6) 2), .int a1] [] rfl rfl rfl rfl g10 rfl rfl (Nat.le_of_ble_eq_true rfl) (t_Pages_cellsOf hr2) ?_
      cases h
      exact Ev_ret rfl trivial
    refine ib h (fun c11 h => ?_) (fun c11 h => ?_)
    · refine gd h (fun g12 h => ?_)
      refine gd h (fun g13 h => ?_)
      refine gd h (fun g14 h => ?_)
      refine Ev_blk 4 (pc' := 81) (ls' := [.ref a0, .int a1, .int a2]) (st' := [.int a1, .ref (sR s (sR s a0 6) 2)]) (s' := s) rfl ⟨⟨trivial, g12⟩, g13⟩ ?_
      refine bd h (fun r3 hr3 h => ?_)
      refine Ev_call 2 47 1 [.ref (sR s (sR s a0 6) 2), .int a1] [] rfl rfl rfl rfl g14 rfl rfl (Nat.le_of_ble_eq_true rfl) (t_Pages_freeOf hr3) ?_
      cases h
      exact Ev_ret rfl trivial
    refine ib h (fun c15 h => ?_) (fun c15 h => ?_)
    · refine gd h (fun g16 h => ?_)
      refine gd h (fun g17 h => ?_)
      refine gd h (fun g18 h => ?_)
      refine Ev_blk 4 (pc' := 93) (ls' := [.ref a0, .int a1, .int a2]) (st' := [.int a1, .ref (sR s (sR s a0 6) 2)]) (s' := s) rfl ⟨⟨trivial, g16⟩, g17⟩ ?_
      refine bd h (fun r4 hr4 h => ?_)
      refine Ev_call 2 66 1 [.ref (sR s (sR s a0 6) 2), .int a1] [] rfl rfl rfl rfl g18 rfl rfl (Nat.le_of_ble_eq_true rfl) (t_Pages_gapOf hr4) ?_
      cases h
      exact Ev_ret rfl trivial
    refine ib h (fun c19 h => ?_) (fun c19 h => ?_)
    · refine gd h (fun g20 h => ?_)
      refine gd h (fun g21 h => ?_)
      refine gd h (fun g22 h => ?_)
      refine Ev_blk 4 (pc' := 105) (ls' := [.ref a0, .int a1, .int a2]) (st' := [.int a1, .ref (sR s (sR s a0 6) 2)]) (s' := s) rfl ⟨⟨trivial, g20⟩, g21⟩ ?_
      refine bd h (fun r5 hr5 h => ?_)
      refine Ev_call 2 95 1 [.ref (sR s (sR s a0 6) 2), .int a1] [] rfl rfl rfl rfl g22 rfl rfl (Nat.le_of_ble_eq_true rfl) (t_Pages_wasteOf hr5) ?_
      cases h
      exact Ev_ret rfl trivial
    refine ib h (fun c23 h => ?_) (fun c23 h => ?_)
    · refine gd h (fun g24 h => ?_)
      refine gd h (fun g25 h => ?_)
      refine gd h (fun g26 h => ?_)
      refine gd h (fun g27 h => ?_)
      refine Ev_blk 6 (pc' := 121) (ls' := [.ref a0, .int a1, .int a2]) (st' := [.int (sI s (sR s (sR s (sR s a0 6) 2) 4) a1.toNatClampNeg)]) (s' := s) rfl ⟨⟨⟨⟨trivial, g24⟩, g25⟩, g26⟩, ⟨Or.inl g27.1, g27.2⟩⟩ ?_
      cases h
      exact Ev_ret rfl trivial
    refine Ev_blk 1 (pc' := 123) (ls' := [.ref a0, .int a1, .int a2]) (st' := [.int (-(nI 1))]) (s' := s) rfl trivial ?_
    cases h
    exact Ev_ret rfl trivial

/-- RecordHeap.slot(III)I -/
def f_C_slot (s : AS) (a0 : Nat) (a1 : Int32) (a2 : Int32) (a3 : Int32) : Option Int32 :=
  (f_C_isPage s a1).bind fun r1 =>
  if r1 = (nI 0) then
    some (-(nI 1))
  else
    if a2 < (nI 0) then
      some (-(nI 1))
    else
      if sT s a0 = 1 then
      if sT s (sR s a0 6) = 3 then
      if sT s (sR s (sR s a0 6) 2) = 7 then
      if sT s (sR s (sR s (sR s a0 6) 2) 3) = 20 ∧ inA a1 (sN s (sR s (sR s (sR s a0 6) 2) 3)) then
      if a2 < (sI s (sR s (sR s (sR s a0 6) 2) 3) a1.toNatClampNeg) then
        if a3 < (nI 0) then
          some (-(nI 1))
        else
          if sT s (sR s (sR s (sR s a0 6) 2) 0) = 20 ∧ inA ((a1 * (nI 16)) + a2) (sN s (sR s (sR s (sR s a0 6) 2) 0)) then
          if a3 = (nI 0) then
            some (sI s (sR s (sR s (sR s a0 6) 2) 0) ((a1 * (nI 16)) + a2).toNatClampNeg)
          else
            if (sI s (sR s (sR s (sR s a0 6) 2) 0) ((a1 * (nI 16)) + a2).toNatClampNeg) = (nI 0) then
              some (-(nI 1))
            else
              if a3 = (nI 1) then
                if sT s (sR s (sR s (sR s a0 6) 2) 1) = 20 ∧ inA ((a1 * (nI 16)) + a2) (sN s (sR s (sR s (sR s a0 6) 2) 1)) then
                some (sI s (sR s (sR s (sR s a0 6) 2) 1) ((a1 * (nI 16)) + a2).toNatClampNeg)
                else none
              else
                if a3 = (nI 2) then
                  if sT s (sR s (sR s (sR s a0 6) 2) 2) = 20 ∧ inA ((a1 * (nI 16)) + a2) (sN s (sR s (sR s (sR s a0 6) 2) 2)) then
                  some (sI s (sR s (sR s (sR s a0 6) 2) 2) ((a1 * (nI 16)) + a2).toNatClampNeg)
                  else none
                else
                  (f_Pages_cellByte s (sR s (sR s a0 6) 2) ((a1 * (nI 16)) + a2) (a3 - (nI 3))).bind fun r2 =>
                  some r2
          else none
      else
        some (-(nI 1))
      else none
      else none
      else none
      else none
theorem t_C_slot {s : AS} {a0 : Nat} {a1 : Int32} {a2 : Int32} {a3 : Int32} {o : Int32} (h : f_C_slot s a0 a1 a2 a3 = some o) : Ev 1 mZ104 0 [.ref a0, .int a1, .int a2, .int a3, .retAddr 0, .retAddr 0] [] s (some (.int o), s) := by
  unfold f_C_slot at h
  refine Ev_blk 1 (pc' := 1) (ls' := [.ref a0, .int a1, .int a2, .int a3, .retAddr 0, .retAddr 0]) (st' := [.int a1]) (s' := s) rfl trivial ?_
  refine bd h (fun r1 hr1 h => ?_)
  refine Ev_call 1 53 1 [.int a1] [] rfl rfl rfl rfl trivial rfl rfl (Nat.le_of_ble_eq_true rfl) (t_C_isPage hr1) ?_
  refine Ev_blk 1 (pc' := if r1 = (nI 0) then 31 else 7) (ls' := [.ref a0, .int a1, .int a2, .int a3, .retAddr 0, .retAddr 0]) (st' := []) (s' := s) rfl trivial ?_
  refine ib h (fun c1 h => ?_) (fun c1 h => ?_)
  · refine Ev_blk 1 (pc' := 32) (ls' := [.ref a0, .int a1, .int a2, .int a3, .retAddr 0, .retAddr 0]) (st' := [.int (-(nI 1))]) (s' := s) rfl trivial ?_
    cases h
    exact Ev_ret rfl trivial
  · refine Ev_blk 2 (pc' := if a2 < (nI 0) then 31 else 11) (ls' := [.ref a0, .int a1, .int a2, .int a3, .retAddr 0, .retAddr 0]) (st' := []) (s' := s) rfl trivial ?_
    refine ib h (fun c2 h => ?_) (fun c2 h => ?_)
    · refine Ev_blk 1 (pc' := 32) (ls' := [.ref a0, .int a1, .int a2, .int a3, .retAddr 0, .retAddr 0]) (st' := [.int (-(nI 1))]) (s' := s) rfl trivial ?_
      cases h
      exact Ev_ret rfl trivial
    · refine gd h (fun g3 h => ?_)
      refine gd h (fun g4 h => ?_)
      refine gd h (fun g5 h => ?_)
      refine gd h (fun g6 h => ?_)
      refine Ev_blk 8 (pc' := if a2 < (sI s (sR s (sR s (sR s a0 6) 2) 3) a1.toNatClampNeg) then 27 else 31) (ls' := [.ref a0, .int a1, .int a2, .int a3, .retAddr 0, .retAddr 0]) (st' := []) (s' := s) rfl ⟨⟨⟨⟨trivial, g3⟩, g4⟩, g5⟩, ⟨Or.inl g6.1, g6.2⟩⟩ ?_
      refine ib h (fun c7 h => ?_) (fun c7 h => ?_)
      · refine Ev_blk 2 (pc' := if a3 < (nI 0) then 31 else 33) (ls' := [.ref a0, .int a1, .int a2, .int a3, .retAddr 0, .retAddr 0]) (st' := []) (s' := s) rfl trivial ?_
        refine ib h (fun c8 h => ?_) (fun c8 h => ?_)
        · refine Ev_blk 1 (pc' := 32) (ls' := [.ref a0, .int a1, .int a2, .int a3, .retAddr 0, .retAddr 0]) (st' := [.int (-(nI 1))]) (s' := s) rfl trivial ?_
          cases h
          exact Ev_ret rfl trivial
        · refine gd h (fun g9 h => ?_)
          refine Ev_blk 15 (pc' := if a3 = (nI 0) then 60 else 63) (ls' := [.ref a0, .int a1, .int a2, .int a3, .int ((a1 * (nI 16)) + a2), .int (sI s (sR s (sR s (sR s a0 6) 2) 0) ((a1 * (nI 16)) + a2).toNatClampNeg)]) (st' := []) (s' := s) rfl ⟨⟨⟨⟨trivial, g3⟩, g4⟩, g5⟩, ⟨Or.inl g9.1, g9.2⟩⟩ ?_
          refine ib h (fun c10 h => ?_) (fun c10 h => ?_)
          · refine Ev_blk 1 (pc' := 62) (ls' := [.ref a0, .int a1, .int a2, .int a3, .int ((a1 * (nI 16)) + a2), .int (sI s (sR s (sR s (sR s a0 6) 2) 0) ((a1 * (nI 16)) + a2).toNatClampNeg)]) (st' := [.int (sI s (sR s (sR s (sR s a0 6) 2) 0) ((a1 * (nI 16)) + a2).toNatClampNeg)]) (s' := s) rfl trivial ?_
            cases h
            exact Ev_ret rfl trivial
          · refine Ev_blk 2 (pc' := if (sI s (sR s (sR s (sR s a0 6) 2) 0) ((a1 * (nI 16)) + a2).toNatClampNeg) = (nI 0) then 68 else 70) (ls' := [.ref a0, .int a1, .int a2, .int a3, .int ((a1 * (nI 16)) + a2), .int (sI s (sR s (sR s (sR s a0 6) 2) 0) ((a1 * (nI 16)) + a2).toNatClampNeg)]) (st' := []) (s' := s) rfl trivial ?_
            refine ib h (fun c11 h => ?_) (fun c11 h => ?_)
            · refine Ev_blk 1 (pc' := 69) (ls' := [.ref a0, .int a1, .int a2, .int a3, .int ((a1 * (nI 16)) + a2), .int (sI s (sR s (sR s (sR s a0 6) 2) 0) ((a1 * (nI 16)) + a2).toNatClampNeg)]) (st' := [.int (-(nI 1))]) (s' := s) rfl trivial ?_
              cases h
              exact Ev_ret rfl trivial
            · refine Ev_blk 3 (pc' := if a3 = (nI 1) then 75 else 89) (ls' := [.ref a0, .int a1, .int a2, .int a3, .int ((a1 * (nI 16)) + a2), .int (sI s (sR s (sR s (sR s a0 6) 2) 0) ((a1 * (nI 16)) + a2).toNatClampNeg)]) (st' := []) (s' := s) rfl trivial ?_
              refine ib h (fun c12 h => ?_) (fun c12 h => ?_)
              · refine gd h (fun g13 h => ?_)
                refine Ev_blk 6 (pc' := 88) (ls' := [.ref a0, .int a1, .int a2, .int a3, .int ((a1 * (nI 16)) + a2), .int (sI s (sR s (sR s (sR s a0 6) 2) 0) ((a1 * (nI 16)) + a2).toNatClampNeg)]) (st' := [.int (sI s (sR s (sR s (sR s a0 6) 2) 1) ((a1 * (nI 16)) + a2).toNatClampNeg)]) (s' := s) rfl ⟨⟨⟨⟨trivial, g3⟩, g4⟩, g5⟩, ⟨Or.inl g13.1, g13.2⟩⟩ ?_
                cases h
                exact Ev_ret rfl trivial
              · refine Ev_blk 3 (pc' := if a3 = (nI 2) then 94 else 110) (ls' := [.ref a0, .int a1, .int a2, .int a3, .int ((a1 * (nI 16)) + a2), .int (sI s (sR s (sR s (sR s a0 6) 2) 0) ((a1 * (nI 16)) + a2).toNatClampNeg)]) (st' := []) (s' := s) rfl trivial ?_
                refine ib h (fun c14 h => ?_) (fun c14 h => ?_)
                · refine gd h (fun g15 h => ?_)
                  refine Ev_blk 7 (pc' := 125) (ls' := [.ref a0, .int a1, .int a2, .int a3, .int ((a1 * (nI 16)) + a2), .int (sI s (sR s (sR s (sR s a0 6) 2) 0) ((a1 * (nI 16)) + a2).toNatClampNeg)]) (st' := [.int (sI s (sR s (sR s (sR s a0 6) 2) 2) ((a1 * (nI 16)) + a2).toNatClampNeg)]) (s' := s) rfl ⟨⟨⟨⟨trivial, g3⟩, g4⟩, g5⟩, ⟨Or.inl g15.1, g15.2⟩⟩ ?_
                  cases h
                  exact Ev_ret rfl trivial
                · refine Ev_blk 7 (pc' := 122) (ls' := [.ref a0, .int a1, .int a2, .int a3, .int ((a1 * (nI 16)) + a2), .int (sI s (sR s (sR s (sR s a0 6) 2) 0) ((a1 * (nI 16)) + a2).toNatClampNeg)]) (st' := [.int (a3 - (nI 3)), .int ((a1 * (nI 16)) + a2), .ref (sR s (sR s a0 6) 2)]) (s' := s) rfl ⟨⟨trivial, g3⟩, g4⟩ ?_
                  refine bd h (fun r2 hr2 h => ?_)
                  refine Ev_call 2 76 2 [.ref (sR s (sR s a0 6) 2), .int ((a1 * (nI 16)) + a2), .int (a3 - (nI 3))] [] rfl rfl rfl rfl g5 rfl rfl (Nat.le_of_ble_eq_true rfl) (t_Pages_cellByte hr2) ?_
                  cases h
                  exact Ev_ret rfl trivial
      · refine Ev_blk 1 (pc' := 32) (ls' := [.ref a0, .int a1, .int a2, .int a3, .retAddr 0, .retAddr 0]) (st' := [.int (-(nI 1))]) (s' := s) rfl trivial ?_
        cases h
        exact Ev_ret rfl trivial

def b_C_map_58 (s : AS) (k58 : Nat → Int32 → Int32 → Int32 → Option Int32) (v0 : Nat) (v3 : Int32) (v4 : Int32) (v5 : Int32) : Option Int32 :=
  if (v3 - (nI 8)) < v5 then
    some v4
  else
    if sT s v0 = 1 then
    if sT s (sR s v0 6) = 3 then
    if sT s (sR s (sR s v0 6) 2) = 7 then
    if sT s (sR s (sR s (sR s v0 6) 2) 4) = 20 ∧ inA v5 (sN s (sR s (sR s (sR s v0 6) 2) 4)) then
    k58 v0 v3 (if v4 < (sI s (sR s (sR s (sR s v0 6) 2) 4) v5.toNatClampNeg) then (sI s (sR s (sR s (sR s v0 6) 2) 4) v5.toNatClampNeg) else v4) (v5 + nI 1)
    else none
    else none
    else none
    else none
theorem t_C_map_58 {s : AS} {k58 : Nat → Int32 → Int32 → Int32 → Option Int32} (H58 : ∀ {d1 d2 : Value} {v0 : Nat} {v3 : Int32} {v4 : Int32} {v5 : Int32} {o : Int32}, k58 v0 v3 v4 v5 = some o → Ev 0 mZ105 58 [.ref v0, d1, d2, .int v3, .int v4, .int v5] [] s (some (.int o), s)) {d1 d2 : Value} {v0 : Nat} {v3 : Int32} {v4 : Int32} {v5 : Int32} {o : Int32} (h : b_C_map_58 s k58 v0 v3 v4 v5 = some o) : Ev 0 mZ105 58 [.ref v0, d1, d2, .int v3, .int v4, .int v5] [] s (some (.int o), s) := by
  unfold b_C_map_58 at h
  refine Ev_blk 5 (pc' := if (v3 - (nI 8)) < v5 then 93 else 67) (ls' := [.ref v0, d1, d2, .int v3, .int v4, .int v5]) (st' := []) (s' := s) rfl trivial ?_
  refine ib h (fun c1 h => ?_) (fun c1 h => ?_)
  · refine Ev_blk 1 (pc' := 95) (ls' := [.ref v0, d1, d2, .int v3, .int v4, .int v5]) (st' := [.int v4]) (s' := s) rfl trivial ?_
    cases h
    exact Ev_ret rfl trivial
  · refine gd h (fun g2 h => ?_)
    refine gd h (fun g3 h => ?_)
    refine gd h (fun g4 h => ?_)
    refine gd h (fun g5 h => ?_)
    refine Ev_blk 11 (pc' := 58) (ls' := [.ref v0, d1, d2, .int v3, .int (if v4 < (sI s (sR s (sR s (sR s v0 6) 2) 4) v5.toNatClampNeg) then (sI s (sR s (sR s (sR s v0 6) 2) 4) v5.toNatClampNeg) else v4), .int (v5 + nI 1)]) (st' := []) (s' := s) rfl ⟨⟨⟨⟨trivial, g2⟩, g3⟩, g4⟩, ⟨Or.inl g5.1, g5.2⟩⟩ ?_
    exact H58 h
def l_C_map_58 (s : AS)  : Nat → Nat → Int32 → Int32 → Int32 → Option Int32
  | 0 => fun _ _ _ _ => none
  | n + 1 => b_C_map_58 s  (l_C_map_58 s  n)
theorem u_C_map_58 {s : AS}   {n : Nat} : ∀ {d1 d2 : Value} {v0 : Nat} {v3 : Int32} {v4 : Int32} {v5 : Int32} {o : Int32}, l_C_map_58 s  n v0 v3 v4 v5 = some o → Ev 0 mZ105 58 [.ref v0, d1, d2, .int v3, .int v4, .int v5] [] s (some (.int o), s) := by
  induction n with
  | zero => intros; rename_i h; cases h
  | succ n ih => intros; rename_i h; exact t_C_map_58  (fun h => ih h) h
def b_C_map_49 (s : AS)  (v0 : Nat) (v2 : Int32) (v3 : Int32) : Option Int32 :=
  l_C_map_58 s fuel v0 v3 (nI 0) (v2 - (nI 8))
theorem t_C_map_49 {s : AS}   {d1 d4 d5 : Value} {v0 : Nat} {v2 : Int32} {v3 : Int32} {o : Int32} (h : b_C_map_49 s  v0 v2 v3 = some o) : Ev 0 mZ105 49 [.ref v0, d1, .int v2, .int v3, d4, d5] [] s (some (.int o), s) := by
  unfold b_C_map_49 at h
  refine Ev_blk 6 (pc' := 58) (ls' := [.ref v0, d1, .int v2, .int v3, .int (nI 0), .int (v2 - (nI 8))]) (st' := []) (s' := s) rfl trivial ?_
  exact u_C_map_58 h
def b_C_map_20 (s : AS) (k20 : Nat → Int32 → Int32 → Int32 → Option Int32) (v0 : Nat) (v2 : Int32) (v3 : Int32) (v4 : Int32) : Option Int32 :=
  if v4 < (nI 8) then
    if v2 < (nI 8) then
      k20 v0 ((nI 2) * v2) (((nI 2) * v3) + (nI 1)) (v4 + nI 1)
    else
      b_C_map_49 s v0 v2 v3
  else
    b_C_map_49 s v0 v2 v3
theorem t_C_map_20 {s : AS} {k20 : Nat → Int32 → Int32 → Int32 → Option Int32} (H20 : ∀ {d1 d5 : Value} {v0 : Nat} {v2 : Int32} {v3 : Int32} {v4 : Int32} {o : Int32}, k20 v0 v2 v3 v4 = some o → Ev 0 mZ105 20 [.ref v0, d1, .int v2, .int v3, .int v4, d5] [] s (some (.int o), s)) {d1 d5 : Value} {v0 : Nat} {v2 : Int32} {v3 : Int32} {v4 : Int32} {o : Int32} (h : b_C_map_20 s k20 v0 v2 v3 v4 = some o) : Ev 0 mZ105 20 [.ref v0, d1, .int v2, .int v3, .int v4, d5] [] s (some (.int o), s) := by
  unfold b_C_map_20 at h
  refine Ev_blk 3 (pc' := if v4 < (nI 8) then 27 else 49) (ls' := [.ref v0, d1, .int v2, .int v3, .int v4, d5]) (st' := []) (s' := s) rfl trivial ?_
  refine ib h (fun c1 h => ?_) (fun c1 h => ?_)
  · refine Ev_blk 3 (pc' := if v2 < (nI 8) then 33 else 49) (ls' := [.ref v0, d1, .int v2, .int v3, .int v4, d5]) (st' := []) (s' := s) rfl trivial ?_
    refine ib h (fun c2 h => ?_) (fun c2 h => ?_)
    · refine Ev_blk 12 (pc' := 20) (ls' := [.ref v0, (clrV d1), .int ((nI 2) * v2), .int (((nI 2) * v3) + (nI 1)), .int (v4 + nI 1), d5]) (st' := []) (s' := s) rfl trivial ?_
      exact H20 h
    · exact t_C_map_49 h
  · exact t_C_map_49 h
def l_C_map_20 (s : AS)  : Nat → Nat → Int32 → Int32 → Int32 → Option Int32
  | 0 => fun _ _ _ _ => none
  | n + 1 => b_C_map_20 s  (l_C_map_20 s  n)
theorem u_C_map_20 {s : AS}   {n : Nat} : ∀ {d1 d5 : Value} {v0 : Nat} {v2 : Int32} {v3 : Int32} {v4 : Int32} {o : Int32}, l_C_map_20 s  n v0 v2 v3 v4 = some o → Ev 0 mZ105 20 [.ref v0, d1, .int v2, .int v3, .int v4, d5] [] s (some (.int o), s) := by
  induction n with
  | zero => intros; rename_i h; cases h
  | succ n ih => intros; rename_i h; exact t_C_map_20  (fun h => ih h) h
/-- RecordHeap.map(I)I -/
def f_C_map (s : AS) (a0 : Nat) (a1 : Int32) : Option Int32 :=
  if a1 < (nI 1) then
    some (-(nI 1))
  else
    if a1 < (nI 16) then
      l_C_map_20 s fuel a0 a1 a1 (nI 0)
    else
      some (-(nI 1))
theorem t_C_map {s : AS} {a0 : Nat} {a1 : Int32} {o : Int32} (h : f_C_map s a0 a1 = some o) : Ev 0 mZ105 0 [.ref a0, .int a1, .retAddr 0, .retAddr 0, .retAddr 0, .retAddr 0] [] s (some (.int o), s) := by
  unfold f_C_map at h
  refine Ev_blk 3 (pc' := if a1 < (nI 1) then 11 else 5) (ls' := [.ref a0, .int a1, .retAddr 0, .retAddr 0, .retAddr 0, .retAddr 0]) (st' := []) (s' := s) rfl trivial ?_
  refine ib h (fun c1 h => ?_) (fun c1 h => ?_)
  · refine Ev_blk 1 (pc' := 12) (ls' := [.ref a0, .int a1, .retAddr 0, .retAddr 0, .retAddr 0, .retAddr 0]) (st' := [.int (-(nI 1))]) (s' := s) rfl trivial ?_
    cases h
    exact Ev_ret rfl trivial
  · refine Ev_blk 3 (pc' := if a1 < (nI 16) then 13 else 11) (ls' := [.ref a0, .int a1, .retAddr 0, .retAddr 0, .retAddr 0, .retAddr 0]) (st' := []) (s' := s) rfl trivial ?_
    refine ib h (fun c2 h => ?_) (fun c2 h => ?_)
    · refine Ev_blk 6 (pc' := 20) (ls' := [.ref a0, .int a1, .int a1, .int a1, .int (nI 0), .retAddr 0]) (st' := []) (s' := s) rfl trivial ?_
      exact u_C_map_20 h
    · refine Ev_blk 1 (pc' := 12) (ls' := [.ref a0, .int a1, .retAddr 0, .retAddr 0, .retAddr 0, .retAddr 0]) (st' := [.int (-(nI 1))]) (s' := s) rfl trivial ?_
      cases h
      exact Ev_ret rfl trivial

/-- RecordHeap.isCellSize(I)Z -/
def f_C_isCellSize (s : AS) (a0 : Int32) : Option Int32 :=
    some (if a0 < (nI 0) then nI 0 else (if (nI 40) < a0 then nI 0 else nI 1))
theorem t_C_isCellSize {s : AS} {a0 : Int32} {o : Int32} (h : f_C_isCellSize s a0 = some o) : Ev 0 mZ107 0 [.int a0] [] s (some (.int o), s) := by
  unfold f_C_isCellSize at h
  refine Ev_blk 2 (pc' := if a0 < (nI 0) then 14 else 4) (ls' := [.int a0]) (st' := []) (s' := s) rfl trivial ?_
  have k1_ : Ev 0 mZ107 15 [.int a0] [.int (if a0 < (nI 0) then nI 0 else (if (nI 40) < a0 then nI 0 else nI 1))] s (some (.int o), s) := by
    cases h
    exact Ev_ret rfl (by (repeat' split) <;> first | exact Or.inl rfl | exact Or.inr rfl)
  refine icases (fun c2 => ?_) (fun c2 => ?_)
  · exact Ev_blk 1 (pc' := 15) (ls' := [.int a0]) (st' := [.int (nI 0)]) (s' := s) rfl trivial (by simpa only [if_pos c2] using k1_)
  · refine Ev_blk 3 (pc' := if (nI 40) < a0 then 14 else 10) (ls' := [.int a0]) (st' := []) (s' := s) rfl trivial ?_
    refine icases (fun c3 => ?_) (fun c3 => ?_)
    · exact Ev_blk 1 (pc' := 15) (ls' := [.int a0]) (st' := [.int (nI 0)]) (s' := s) rfl trivial (by simpa only [if_neg c2, if_pos c3] using k1_)
    · exact Ev_blk 2 (pc' := 15) (ls' := [.int a0]) (st' := [.int (nI 1)]) (s' := s) rfl trivial (by simpa only [if_neg c2, if_neg c3] using k1_)

/-- RecordHeap.search(I)I -/
def f_C_search (s : AS) (a0 : Nat) (a1 : Int32) : Option (Int32 × AS) :=
  (f_C_isCellSize s a1).bind fun r1 =>
  if r1 = (nI 0) then
    some (-(nI 1), s)
  else
    if sT s a0 = 1 then
    if sT s (sR s a0 5) = 11 then
    (f_Setting_lawInForce s (sR s a0 5)).bind fun r2 =>
    if sT s (sR s a0 6) = 3 then
    (f_Desk_pageFor s (sR s a0 6) a1 r2).bind fun r3 =>
    some (r3.1, r3.2)
    else none
    else none
    else none
theorem t_C_search {s : AS} {a0 : Nat} {a1 : Int32} {o : Int32 × AS} (h : f_C_search s a0 a1 = some o) : Ev 4 mZ106 0 [.ref a0, .int a1] [] s (some (.int o.1), o.2) := by
  unfold f_C_search at h
  refine Ev_blk 1 (pc' := 1) (ls' := [.ref a0, .int a1]) (st' := [.int a1]) (s' := s) rfl trivial ?_
  refine bd h (fun r1 hr1 h => ?_)
  refine Ev_call 1 107 1 [.int a1] [] rfl rfl rfl rfl trivial rfl rfl (Nat.le_of_ble_eq_true rfl) (t_C_isCellSize hr1) ?_
  refine Ev_blk 1 (pc' := if r1 = (nI 0) then 25 else 7) (ls' := [.ref a0, .int a1]) (st' := []) (s' := s) rfl trivial ?_
  refine ib h (fun c1 h => ?_) (fun c1 h => ?_)
  · refine Ev_blk 1 (pc' := 26) (ls' := [.ref a0, .int a1]) (st' := [.int (-(nI 1))]) (s' := s) rfl trivial ?_
    cases h
    exact Ev_ret rfl trivial
  · refine gd h (fun g2 h => ?_)
    refine gd h (fun g3 h => ?_)
    refine Ev_blk 5 (pc' := 16) (ls' := [.ref a0, .int a1]) (st' := [.ref (sR s a0 5), .int a1, .ref (sR s a0 6)]) (s' := s) rfl ⟨⟨trivial, g2⟩, g2⟩ ?_
    refine bd h (fun r2 hr2 h => ?_)
    refine Ev_call 2 58 0 [.ref (sR s a0 5)] [.int a1, .ref (sR s a0 6)] rfl rfl rfl rfl g3 rfl rfl (Nat.le_of_ble_eq_true rfl) (t_Setting_lawInForce hr2) ?_
    refine gd h (fun g4 h => ?_)
    refine bd h (fun r3 hr3 h => ?_)
    refine Ev_call 2 61 2 [.ref (sR s a0 6), .int a1, .ref r2] [] rfl rfl rfl rfl g4 rfl rfl (Nat.le_of_ble_eq_true rfl) (t_Desk_pageFor hr3) ?_
    refine Ev_blk 1 (pc' := 26) (ls' := [.ref a0, .int a1]) (st' := [.int r3.1]) (s' := r3.2) rfl trivial ?_
    cases h
    exact Ev_ret rfl trivial

def b_C_scan_10 (s : AS) (k10 : Nat → Int32 → Int32 → Int32 → Option Int32) (v0 : Nat) (v1 : Int32) (v2 : Int32) (v3 : Int32) : Option Int32 :=
  if v3 < (nI 128) then
    if sT s v0 = 1 then
    if sT s (sR s v0 6) = 3 then
    if sT s (sR s (sR s v0 6) 2) = 7 then
    (f_Pages_isRecord s (sR s (sR s v0 6) 2) v3).bind fun r1 =>
    if r1 = (nI 0) then
      k10 v0 v1 v2 (v3 + nI 1)
    else
      if v2 = v1 then
        some v3
      else
        k10 v0 v1 (v2 + nI 1) (v3 + nI 1)
    else none
    else none
    else none
  else
    some (-(nI 1))
theorem t_C_scan_10 {s : AS} {k10 : Nat → Int32 → Int32 → Int32 → Option Int32} (H10 : ∀ {v0 : Nat} {v1 : Int32} {v2 : Int32} {v3 : Int32} {o : Int32}, k10 v0 v1 v2 v3 = some o → Ev 2 mZ108 10 [.ref v0, .int v1, .int v2, .int v3] [] s (some (.int o), s))  {v0 : Nat} {v1 : Int32} {v2 : Int32} {v3 : Int32} {o : Int32} (h : b_C_scan_10 s k10 v0 v1 v2 v3 = some o) : Ev 2 mZ108 10 [.ref v0, .int v1, .int v2, .int v3] [] s (some (.int o), s) := by
  unfold b_C_scan_10 at h
  refine Ev_blk 3 (pc' := if v3 < (nI 128) then 17 else 47) (ls' := [.ref v0, .int v1, .int v2, .int v3]) (st' := []) (s' := s) rfl trivial ?_
  refine ib h (fun c1 h => ?_) (fun c1 h => ?_)
  · refine gd h (fun g2 h => ?_)
    refine gd h (fun g3 h => ?_)
    refine gd h (fun g4 h => ?_)
    refine Ev_blk 4 (pc' := 25) (ls' := [.ref v0, .int v1, .int v2, .int v3]) (st' := [.int v3, .ref (sR s (sR s v0 6) 2)]) (s' := s) rfl ⟨⟨trivial, g2⟩, g3⟩ ?_
    refine bd h (fun r1 hr1 h => ?_)
    refine Ev_call 2 51 1 [.ref (sR s (sR s v0 6) 2), .int v3] [] rfl rfl rfl rfl g4 rfl rfl (Nat.le_of_ble_eq_true rfl) (t_Pages_isRecord hr1) ?_
    refine Ev_blk 1 (pc' := if r1 = (nI 0) then 41 else 31) (ls' := [.ref v0, .int v1, .int v2, .int v3]) (st' := []) (s' := s) rfl trivial ?_
    refine ib h (fun c5 h => ?_) (fun c5 h => ?_)
    · refine Ev_blk 2 (pc' := 10) (ls' := [.ref v0, .int v1, .int v2, .int (v3 + nI 1)]) (st' := []) (s' := s) rfl trivial ?_
      exact H10 h
    · refine Ev_blk 3 (pc' := if v2 = v1 then 36 else 38) (ls' := [.ref v0, .int v1, .int v2, .int v3]) (st' := []) (s' := s) rfl trivial ?_
      refine ib h (fun c6 h => ?_) (fun c6 h => ?_)
      · refine Ev_blk 1 (pc' := 37) (ls' := [.ref v0, .int v1, .int v2, .int v3]) (st' := [.int v3]) (s' := s) rfl trivial ?_
        cases h
        exact Ev_ret rfl trivial
      · refine Ev_blk 3 (pc' := 10) (ls' := [.ref v0, .int v1, .int (v2 + nI 1), .int (v3 + nI 1)]) (st' := []) (s' := s) rfl trivial ?_
        exact H10 h
  · refine Ev_blk 1 (pc' := 48) (ls' := [.ref v0, .int v1, .int v2, .int v3]) (st' := [.int (-(nI 1))]) (s' := s) rfl trivial ?_
    cases h
    exact Ev_ret rfl trivial
def l_C_scan_10 (s : AS)  : Nat → Nat → Int32 → Int32 → Int32 → Option Int32
  | 0 => fun _ _ _ _ => none
  | n + 1 => b_C_scan_10 s  (l_C_scan_10 s  n)
theorem u_C_scan_10 {s : AS}   {n : Nat} : ∀  {v0 : Nat} {v1 : Int32} {v2 : Int32} {v3 : Int32} {o : Int32}, l_C_scan_10 s  n v0 v1 v2 v3 = some o → Ev 2 mZ108 10 [.ref v0, .int v1, .int v2, .int v3] [] s (some (.int o), s) := by
  induction n with
  | zero => intros; rename_i h; cases h
  | succ n ih => intros; rename_i h; exact t_C_scan_10  (fun h => ih h) h
/-- RecordHeap.scan(I)I -/
def f_C_scan (s : AS) (a0 : Nat) (a1 : Int32) : Option Int32 :=
  if a1 < (nI 0) then
    some (-(nI 1))
  else
    l_C_scan_10 s fuel a0 a1 (nI 0) (nI 0)
theorem t_C_scan {s : AS} {a0 : Nat} {a1 : Int32} {o : Int32} (h : f_C_scan s a0 a1 = some o) : Ev 2 mZ108 0 [.ref a0, .int a1, .retAddr 0, .retAddr 0] [] s (some (.int o), s) := by
  unfold f_C_scan at h
  refine Ev_blk 2 (pc' := if a1 < (nI 0) then 4 else 6) (ls' := [.ref a0, .int a1, .retAddr 0, .retAddr 0]) (st' := []) (s' := s) rfl trivial ?_
  refine ib h (fun c1 h => ?_) (fun c1 h => ?_)
  · refine Ev_blk 1 (pc' := 5) (ls' := [.ref a0, .int a1, .retAddr 0, .retAddr 0]) (st' := [.int (-(nI 1))]) (s' := s) rfl trivial ?_
    cases h
    exact Ev_ret rfl trivial
  · refine Ev_blk 4 (pc' := 10) (ls' := [.ref a0, .int a1, .int (nI 0), .int (nI 0)]) (st' := []) (s' := s) rfl trivial ?_
    exact u_C_scan_10 h

def b_Pages_recordFrom_6 (s : AS) (k6 : Nat → Int32 → Option Int32) (v0 : Nat) (v2 : Int32) : Option Int32 :=
  if v2 < (nI 128) then
    if sT s v0 = 7 then
    (f_Pages_isRecord s v0 v2).bind fun r1 =>
    if r1 = (nI 0) then
      k6 v0 (v2 + nI 1)
    else
      some v2
    else none
  else
    some (-(nI 1))
theorem t_Pages_recordFrom_6 {s : AS} {k6 : Nat → Int32 → Option Int32} (H6 : ∀ {d1 : Value} {v0 : Nat} {v2 : Int32} {o : Int32}, k6 v0 v2 = some o → Ev 2 mZ110 6 [.ref v0, d1, .int v2] [] s (some (.int o), s)) {d1 : Value} {v0 : Nat} {v2 : Int32} {o : Int32} (h : b_Pages_recordFrom_6 s k6 v0 v2 = some o) : Ev 2 mZ110 6 [.ref v0, d1, .int v2] [] s (some (.int o), s) := by
  unfold b_Pages_recordFrom_6 at h
  refine Ev_blk 3 (pc' := if v2 < (nI 128) then 13 else 29) (ls' := [.ref v0, d1, .int v2]) (st' := []) (s' := s) rfl trivial ?_
  refine ib h (fun c1 h => ?_) (fun c1 h => ?_)
  · refine gd h (fun g2 h => ?_)
    refine Ev_blk 2 (pc' := 15) (ls' := [.ref v0, d1, .int v2]) (st' := [.int v2, .ref v0]) (s' := s) rfl trivial ?_
    refine bd h (fun r1 hr1 h => ?_)
    refine Ev_call 2 51 1 [.ref v0, .int v2] [] rfl rfl rfl rfl g2 rfl rfl (Nat.le_of_ble_eq_true rfl) (t_Pages_isRecord hr1) ?_
    refine Ev_blk 1 (pc' := if r1 = (nI 0) then 23 else 21) (ls' := [.ref v0, d1, .int v2]) (st' := []) (s' := s) rfl trivial ?_
    refine ib h (fun c3 h => ?_) (fun c3 h => ?_)
    · refine Ev_blk 2 (pc' := 6) (ls' := [.ref v0, (clrV d1), .int (v2 + nI 1)]) (st' := []) (s' := s) rfl trivial ?_
      exact H6 h
    · refine Ev_blk 1 (pc' := 22) (ls' := [.ref v0, d1, .int v2]) (st' := [.int v2]) (s' := s) rfl trivial ?_
      cases h
      exact Ev_ret rfl trivial
  · refine Ev_blk 1 (pc' := 30) (ls' := [.ref v0, d1, .int v2]) (st' := [.int (-(nI 1))]) (s' := s) rfl trivial ?_
    cases h
    exact Ev_ret rfl trivial
def l_Pages_recordFrom_6 (s : AS)  : Nat → Nat → Int32 → Option Int32
  | 0 => fun _ _ => none
  | n + 1 => b_Pages_recordFrom_6 s  (l_Pages_recordFrom_6 s  n)
theorem u_Pages_recordFrom_6 {s : AS}   {n : Nat} : ∀ {d1 : Value} {v0 : Nat} {v2 : Int32} {o : Int32}, l_Pages_recordFrom_6 s  n v0 v2 = some o → Ev 2 mZ110 6 [.ref v0, d1, .int v2] [] s (some (.int o), s) := by
  induction n with
  | zero => intros; rename_i h; cases h
  | succ n ih => intros; rename_i h; exact t_Pages_recordFrom_6  (fun h => ih h) h
/-- RecordHeap$Pages.recordFrom(I)I -/
def f_Pages_recordFrom (s : AS) (a0 : Nat) (a1 : Int32) : Option Int32 :=
  l_Pages_recordFrom_6 s fuel a0 (if (nI 0) < a1 then a1 else (nI 0))
theorem t_Pages_recordFrom {s : AS} {a0 : Nat} {a1 : Int32} {o : Int32} (h : f_Pages_recordFrom s a0 a1 = some o) : Ev 2 mZ110 0 [.ref a0, .int a1, .retAddr 0] [] s (some (.int o), s) := by
  unfold f_Pages_recordFrom at h
  refine Ev_blk 4 (pc' := 6) (ls' := [.ref a0, .int a1, .int (if (nI 0) < a1 then a1 else (nI 0))]) (st' := []) (s' := s) rfl trivial ?_
  exact u_Pages_recordFrom_6 h

/-- RecordHeap.above(I)I -/
def f_C_above (s : AS) (a0 : Nat) (a1 : Int32) : Option Int32 :=
  if a1 < (nI 128) then
    if sT s a0 = 1 then
    if sT s (sR s a0 6) = 3 then
    if sT s (sR s (sR s a0 6) 2) = 7 then
    (f_Pages_recordFrom s (sR s (sR s a0 6) 2) (a1 + (nI 1))).bind fun r1 =>
    some r1
    else none
    else none
    else none
  else
    some (-(nI 1))
theorem t_C_above {s : AS} {a0 : Nat} {a1 : Int32} {o : Int32} (h : f_C_above s a0 a1 = some o) : Ev 3 mZ109 0 [.ref a0, .int a1] [] s (some (.int o), s) := by
  unfold f_C_above at h
  refine Ev_blk 3 (pc' := if a1 < (nI 128) then 11 else 7) (ls' := [.ref a0, .int a1]) (st' := []) (s' := s) rfl trivial ?_
  refine ib h (fun c1 h => ?_) (fun c1 h => ?_)
  · refine gd h (fun g2 h => ?_)
    refine gd h (fun g3 h => ?_)
    refine gd h (fun g4 h => ?_)
    refine Ev_blk 6 (pc' := 21) (ls' := [.ref a0, .int a1]) (st' := [.int (a1 + (nI 1)), .ref (sR s (sR s a0 6) 2)]) (s' := s) rfl ⟨⟨trivial, g2⟩, g3⟩ ?_
    refine bd h (fun r1 hr1 h => ?_)
    refine Ev_call 2 110 1 [.ref (sR s (sR s a0 6) 2), .int (a1 + (nI 1))] [] rfl rfl rfl rfl g4 rfl rfl (Nat.le_of_ble_eq_true rfl) (t_Pages_recordFrom hr1) ?_
    cases h
    exact Ev_ret rfl trivial
  · refine Ev_blk 2 (pc' := 24) (ls' := [.ref a0, .int a1]) (st' := [.int (-(nI 1))]) (s' := s) rfl trivial ?_
    cases h
    exact Ev_ret rfl trivial

/-- java/lang/Integer.bitCount(I)I -/
def f_Integer_bitCount (s : AS) (a0 : Int32) : Option Int32 :=
  some ((((((((a0 - (((a0.toUInt32 >>> ((nI 1).toUInt32 &&& Int32.toUInt32 31)).toInt32) &&& (nI 1431655765))) &&& (nI 858993459)) + ((((a0 - (((a0.toUInt32 >>> ((nI 1).toUInt32 &&& Int32.toUInt32 31)).toInt32) &&& (nI 1431655765))).toUInt32 >>> ((nI 2).toUInt32 &&& Int32.toUInt32 31)).toInt32) &&& (nI 858993459))) + (((((a0 - (((a0.toUInt32 >>> ((nI 1).toUInt32 &&& Int32.toUInt32 31)).toInt32) &&& (nI 1431655765))) &&& (nI 858993459)) + ((((a0 - (((a0.toUInt32 >>> ((nI 1).toUInt32 &&& Int32.toUInt32 31)).toInt32) &&& (nI 1431655765))).toUInt32 >>> ((nI 2).toUInt32 &&& Int32.toUInt32 31)).toInt32) &&& (nI 858993459))).toUInt32 >>> ((nI 4).toUInt32 &&& Int32.toUInt32 31)).toInt32)) &&& (nI 252645135)) + (((((((a0 - (((a0.toUInt32 >>> ((nI 1).toUInt32 &&& Int32.toUInt32 31)).toInt32) &&& (nI 1431655765))) &&& (nI 858993459)) + ((((a0 - (((a0.toUInt32 >>> ((nI 1).toUInt32 &&& Int32.toUInt32 31)).toInt32) &&& (nI 1431655765))).toUInt32 >>> ((nI 2).toUInt32 &&& Int32.toUInt32 31)).toInt32) &&& (nI 858993459))) + (((((a0 - (((a0.toUInt32 >>> ((nI 1).toUInt32 &&& Int32.toUInt32 31)).toInt32) &&& (nI 1431655765))) &&& (nI 858993459)) + ((((a0 - (((a0.toUInt32 >>> ((nI 1).toUInt32 &&& Int32.toUInt32 31)).toInt32) &&& (nI 1431655765))).toUInt32 >>> ((nI 2).toUInt32 &&& Int32.toUInt32 31)).toInt32) &&& (nI 858993459))).toUInt32 >>> ((nI 4).toUInt32 &&& Int32.toUInt32 31)).toInt32)) &&& (nI 252645135)).toUInt32 >>> ((nI 8).toUInt32 &&& Int32.toUInt32 31)).toInt32)) + ((((((((a0 - (((a0.toUInt32 >>> ((nI 1).toUInt32 &&& Int32.toUInt32 31)).toInt32) &&& (nI 1431655765))) &&& (nI 858993459)) + ((((a0 - (((a0.toUInt32 >>> ((nI 1).toUInt32 &&& Int32.toUInt32 31)).toInt32) &&& (nI 1431655765))).toUInt32 >>> ((nI 2).toUInt32 &&& Int32.toUInt32 31)).toInt32) &&& (nI 858993459))) + (((((a0 - (((a0.toUInt32 >>> ((nI 1).toUInt32 &&& Int32.toUInt32 31)).toInt32) &&& (nI 1431655765))) &&& (nI 858993459)) + ((((a0 - (((a0.toUInt32 >>> ((nI 1).toUInt32 &&& Int32.toUInt32 31)).toInt32) &&& (nI 1431655765))).toUInt32 >>> ((nI 2).toUInt32 &&& Int32.toUInt32 31)).toInt32) &&& (nI 858993459))).toUInt32 >>> ((nI 4).toUInt32 &&& Int32.toUInt32 31)).toInt32)) &&& (nI 252645135)) + (((((((a0 - (((a0.toUInt32 >>> ((nI 1).toUInt32 &&& Int32.toUInt32 31)).toInt32) &&& (nI 1431655765))) &&& (nI 858993459)) + ((((a0 - (((a0.toUInt32 >>> ((nI 1).toUInt32 &&& Int32.toUInt32 31)).toInt32) &&& (nI 1431655765))).toUInt32 >>> ((nI 2).toUInt32 &&& Int32.toUInt32 31)).toInt32) &&& (nI 858993459))) + (((((a0 - (((a0.toUInt32 >>> ((nI 1).toUInt32 &&& Int32.toUInt32 31)).toInt32) &&& (nI 1431655765))) &&& (nI 858993459)) + ((((a0 - (((a0.toUInt32 >>> ((nI 1).toUInt32 &&& Int32.toUInt32 31)).toInt32) &&& (nI 1431655765))).toUInt32 >>> ((nI 2).toUInt32 &&& Int32.toUInt32 31)).toInt32) &&& (nI 858993459))).toUInt32 >>> ((nI 4).toUInt32 &&& Int32.toUInt32 31)).toInt32)) &&& (nI 252645135)).toUInt32 >>> ((nI 8).toUInt32 &&& Int32.toUInt32 31)).toInt32)).toUInt32 >>> ((nI 16).toUInt32 &&& Int32.toUInt32 31)).toInt32)) &&& (nI 63))
theorem t_Integer_bitCount {s : AS} {a0 : Int32} {o : Int32} (h : f_Integer_bitCount s a0 = some o) : Ev 0 mZ112 0 [.int a0] [] s (some (.int o), s) := by
  unfold f_Integer_bitCount at h
  refine Ev_blk 41 (pc' := 52) (ls' := [.int (((((((a0 - (((a0.toUInt32 >>> ((nI 1).toUInt32 &&& Int32.toUInt32 31)).toInt32) &&& (nI 1431655765))) &&& (nI 858993459)) + ((((a0 - (((a0.toUInt32 >>> ((nI 1).toUInt32 &&& Int32.toUInt32 31)).toInt32) &&& (nI 1431655765))).toUInt32 >>> ((nI 2).toUInt32 &&& Int32.toUInt32 31)).toInt32) &&& (nI 858993459))) + (((((a0 - (((a0.toUInt32 >>> ((nI 1).toUInt32 &&& Int32.toUInt32 31)).toInt32) &&& (nI 1431655765))) &&& (nI 858993459)) + ((((a0 - (((a0.toUInt32 >>> ((nI 1).toUInt32 &&& Int32.toUInt32 31)).toInt32) &&& (nI 1431655765))).toUInt32 >>> ((nI 2).toUInt32 &&& Int32.toUInt32 31)).toInt32) &&& (nI 858993459))).toUInt32 >>> ((nI 4).toUInt32 &&& Int32.toUInt32 31)).toInt32)) &&& (nI 252645135)) + (((((((a0 - (((a0.toUInt32 >>> ((nI 1).toUInt32 &&& Int32.toUInt32 31)).toInt32) &&& (nI 1431655765))) &&& (nI 858993459)) + ((((a0 - (((a0.toUInt32 >>> ((nI 1).toUInt32 &&& Int32.toUInt32 31)).toInt32) &&& (nI 1431655765))).toUInt32 >>> ((nI 2).toUInt32 &&& Int32.toUInt32 31)).toInt32) &&& (nI 858993459))) + (((((a0 - (((a0.toUInt32 >>> ((nI 1).toUInt32 &&& Int32.toUInt32 31)).toInt32) &&& (nI 1431655765))) &&& (nI 858993459)) + ((((a0 - (((a0.toUInt32 >>> ((nI 1).toUInt32 &&& Int32.toUInt32 31)).toInt32) &&& (nI 1431655765))).toUInt32 >>> ((nI 2).toUInt32 &&& Int32.toUInt32 31)).toInt32) &&& (nI 858993459))).toUInt32 >>> ((nI 4).toUInt32 &&& Int32.toUInt32 31)).toInt32)) &&& (nI 252645135)).toUInt32 >>> ((nI 8).toUInt32 &&& Int32.toUInt32 31)).toInt32)) + ((((((((a0 - (((a0.toUInt32 >>> ((nI 1).toUInt32 &&& Int32.toUInt32 31)).toInt32) &&& (nI 1431655765))) &&& (nI 858993459)) + ((((a0 - (((a0.toUInt32 >>> ((nI 1).toUInt32 &&& Int32.toUInt32 31)).toInt32) &&& (nI 1431655765))).toUInt32 >>> ((nI 2).toUInt32 &&& Int32.toUInt32 31)).toInt32) &&& (nI 858993459))) + (((((a0 - (((a0.toUInt32 >>> ((nI 1).toUInt32 &&& Int32.toUInt32 31)).toInt32) &&& (nI 1431655765))) &&& (nI 858993459)) + ((((a0 - (((a0.toUInt32 >>> ((nI 1).toUInt32 &&& Int32.toUInt32 31)).toInt32) &&& (nI 1431655765))).toUInt32 >>> ((nI 2).toUInt32 &&& Int32.toUInt32 31)).toInt32) &&& (nI 858993459))).toUInt32 >>> ((nI 4).toUInt32 &&& Int32.toUInt32 31)).toInt32)) &&& (nI 252645135)) + (((((((a0 - (((a0.toUInt32 >>> ((nI 1).toUInt32 &&& Int32.toUInt32 31)).toInt32) &&& (nI 1431655765))) &&& (nI 858993459)) + ((((a0 - (((a0.toUInt32 >>> ((nI 1).toUInt32 &&& Int32.toUInt32 31)).toInt32) &&& (nI 1431655765))).toUInt32 >>> ((nI 2).toUInt32 &&& Int32.toUInt32 31)).toInt32) &&& (nI 858993459))) + (((((a0 - (((a0.toUInt32 >>> ((nI 1).toUInt32 &&& Int32.toUInt32 31)).toInt32) &&& (nI 1431655765))) &&& (nI 858993459)) + ((((a0 - (((a0.toUInt32 >>> ((nI 1).toUInt32 &&& Int32.toUInt32 31)).toInt32) &&& (nI 1431655765))).toUInt32 >>> ((nI 2).toUInt32 &&& Int32.toUInt32 31)).toInt32) &&& (nI 858993459))).toUInt32 >>> ((nI 4).toUInt32 &&& Int32.toUInt32 31)).toInt32)) &&& (nI 252645135)).toUInt32 >>> ((nI 8).toUInt32 &&& Int32.toUInt32 31)).toInt32)).toUInt32 >>> ((nI 16).toUInt32 &&& Int32.toUInt32 31)).toInt32))]) (st' := [.int ((((((((a0 - (((a0.toUInt32 >>> ((nI 1).toUInt32 &&& Int32.toUInt32 31)).toInt32) &&& (nI 1431655765))) &&& (nI 858993459)) + ((((a0 - (((a0.toUInt32 >>> ((nI 1).toUInt32 &&& Int32.toUInt32 31)).toInt32) &&& (nI 1431655765))).toUInt32 >>> ((nI 2).toUInt32 &&& Int32.toUInt32 31)).toInt32) &&& (nI 858993459))) + (((((a0 - (((a0.toUInt32 >>> ((nI 1).toUInt32 &&& Int32.toUInt32 31)).toInt32) &&& (nI 1431655765))) &&& (nI 858993459)) + ((((a0 - (((a0.toUInt32 >>> ((nI 1).toUInt32 &&& Int32.toUInt32 31)).toInt32) &&& (nI 1431655765))).toUInt32 >>> ((nI 2).toUInt32 &&& Int32.toUInt32 31)).toInt32) &&& (nI 858993459))).toUInt32 >>> ((nI 4).toUInt32 &&& Int32.toUInt32 31)).toInt32)) &&& (nI 252645135)) + (((((((a0 - (((a0.toUInt32 >>> ((nI 1).toUInt32 &&& Int32.toUInt32 31)).toInt32) &&& (nI 1431655765))) &&& (nI 858993459)) + ((((a0 - (((a0.toUInt32 >>> ((nI 1).toUInt32 &&& Int32.toUInt32 31)).toInt32) &&& (nI 1431655765))).toUInt32 >>> ((nI 2).toUInt32 &&& Int32.toUInt32 31)).toInt32) &&& (nI 858993459))) + (((((a0 - (((a0.toUInt32 >>> ((nI 1).toUInt32 &&& Int32.toUInt32 31)).toInt32) &&& (nI 1431655765))) &&& (nI 858993459)) + ((((a0 - (((a0.toUInt32 >>> ((nI 1).toUInt32 &&& Int32.toUInt32 31)).toInt32) &&& (nI 1431655765))).toUInt32 >>> ((nI 2).toUInt32 &&& Int32.toUInt32 31)).toInt32) &&& (nI 858993459))).toUInt32 >>> ((nI 4).toUInt32 &&& Int32.toUInt32 31)).toInt32)) &&& (nI 252645135)).toUInt32 >>> ((nI 8).toUInt32 &&& Int32.toUInt32 31)).toInt32)) + ((((((((a0 - (((a0.toUInt32 >>> ((nI 1).toUInt32 &&& Int32.toUInt32 31)).toInt32) &&& (nI 1431655765))) &&& (nI 858993459)) + ((((a0 - (((a0.toUInt32 >>> ((nI 1).toUInt32 &&& Int32.toUInt32 31)).toInt32) &&& (nI 1431655765))).toUInt32 >>> ((nI 2).toUInt32 &&& Int32.toUInt32 31)).toInt32) &&& (nI 858993459))) + (((((a0 - (((a0.toUInt32 >>> ((nI 1).toUInt32 &&& Int32.toUInt32 31)).toInt32) &&& (nI 1431655765))) &&& (nI 858993459)) + ((((a0 - (((a0.toUInt32 >>> ((nI 1).toUInt32 &&& Int32.toUInt32 31)).toInt32) &&& (nI 1431655765))).toUInt32 >>> ((nI 2).toUInt32 &&& Int32.toUInt32 31)).toInt32) &&& (nI 858993459))).toUInt32 >>> ((nI 4).toUInt32 &&& Int32.toUInt32 31)).toInt32)) &&& (nI 252645135)) + (((((((a0 - (((a0.toUInt32 >>> ((nI 1).toUInt32 &&& Int32.toUInt32 31)).toInt32) &&& (nI 1431655765))) &&& (nI 858993459)) + ((((a0 - (((a0.toUInt32 >>> ((nI 1).toUInt32 &&& Int32.toUInt32 31)).toInt32) &&& (nI 1431655765))).toUInt32 >>> ((nI 2).toUInt32 &&& Int32.toUInt32 31)).toInt32) &&& (nI 858993459))) + (((((a0 - (((a0.toUInt32 >>> ((nI 1).toUInt32 &&& Int32.toUInt32 31)).toInt32) &&& (nI 1431655765))) &&& (nI 858993459)) + ((((a0 - (((a0.toUInt32 >>> ((nI 1).toUInt32 &&& Int32.toUInt32 31)).toInt32) &&& (nI 1431655765))).toUInt32 >>> ((nI 2).toUInt32 &&& Int32.toUInt32 31)).toInt32) &&& (nI 858993459))).toUInt32 >>> ((nI 4).toUInt32 &&& Int32.toUInt32 31)).toInt32)) &&& (nI 252645135)).toUInt32 >>> ((nI 8).toUInt32 &&& Int32.toUInt32 31)).toInt32)).toUInt32 >>> ((nI 16).toUInt32 &&& Int32.toUInt32 31)).toInt32)) &&& (nI 63))]) (s' := s) rfl trivial ?_
  cases h
  exact Ev_ret rfl trivial

def b_C_pieces_85 (s : AS)  (v2 : Int32) (v3 : Int32) (v4 : Int32) : Option Int32 :=
  if v2 = (nI 0) then
    some v3
  else
    (f_Integer_bitCount s v4).bind fun r1 =>
    some r1
theorem t_C_pieces_85 {s : AS}   {d0 d1 d5 d6 : Value} {v2 : Int32} {v3 : Int32} {v4 : Int32} {o : Int32} (h : b_C_pieces_85 s  v2 v3 v4 = some o) : Ev 2 mZ111 85 [d0, d1, .int v2, .int v3, .int v4, d5, d6] [] s (some (.int o), s) := by
  unfold b_C_pieces_85 at h
  refine Ev_blk 2 (pc' := if v2 = (nI 0) then 89 else 93) (ls' := [d0, d1, .int v2, .int v3, .int v4, d5, d6]) (st' := []) (s' := s) rfl trivial ?_
  refine ib h (fun c1 h => ?_) (fun c1 h => ?_)
  · refine Ev_blk 2 (pc' := 98) (ls' := [d0, d1, .int v2, .int v3, .int v4, d5, d6]) (st' := [.int v3]) (s' := s) rfl trivial ?_
    cases h
    exact Ev_ret rfl trivial
  · refine Ev_blk 1 (pc' := 95) (ls' := [d0, d1, .int v2, .int v3, .int v4, d5, d6]) (st' := [.int v4]) (s' := s) rfl trivial ?_
    refine bd h (fun r1 hr1 h => ?_)
    refine Ev_call 1 112 1 [.int v4] [] rfl rfl rfl rfl trivial rfl rfl (Nat.le_of_ble_eq_true rfl) (t_Integer_bitCount hr1) ?_
    cases h
    exact Ev_ret rfl trivial
def b_C_pieces_36 (s : AS) (k36 : Nat → Int32 → Int32 → Int32 → Int32 → Int32 → Option Int32) (v0 : Nat) (v2 : Int32) (v3 : Int32) (v4 : Int32) (v5 : Int32) (v6 : Int32) : Option Int32 :=
  if v6 < (nI 128) then
    if v5 = (-(nI 1)) then
      b_C_pieces_85 s v2 v3 v4
    else
      if ¬ (nI 16) = nI 0 then
      if sT s v0 = 1 then
      if sT s (sR s v0 6) = 3 then
      if sT s (sR s (sR s v0 6) 2) = 7 then
      (f_Pages_followerOf s (sR s (sR s v0 6) 2) v5).bind fun r1 =>
      k36 v0 v2 (v3 + nI 1) (v4 ||| ((nI 1) <<< ((v5 / (nI 16)) &&& 31))) r1 (v6 + nI 1)
      else none
      else none
      else none
      else none
  else
    b_C_pieces_85 s v2 v3 v4
theorem t_C_pieces_36 {s : AS} {k36 : Nat → Int32 → Int32 → Int32 → Int32 → Int32 → Option Int32} (H36 : ∀ {d1 : Value} {v0 : Nat} {v2 : Int32} {v3 : Int32} {v4 : Int32} {v5 : Int32} {v6 : Int32} {o : Int32}, k36 v0 v2 v3 v4 v5 v6 = some o → Ev 2 mZ111 36 [.ref v0, d1, .int v2, .int v3, .int v4, .int v5, .int v6] [] s (some (.int o), s)) {d1 : Value} {v0 : Nat} {v2 : Int32} {v3 : Int32} {v4 : Int32} {v5 : Int32} {v6 : Int32} {o : Int32} (h : b_C_pieces_36 s k36 v0 v2 v3 v4 v5 v6 = some o) : Ev 2 mZ111 36 [.ref v0, d1, .int v2, .int v3, .int v4, .int v5, .int v6] [] s (some (.int o), s) := by
  unfold b_C_pieces_36 at h
  refine Ev_blk 3 (pc' := if v6 < (nI 128) then 44 else 85) (ls' := [.ref v0, d1, .int v2, .int v3, .int v4, .int v5, .int v6]) (st' := []) (s' := s) rfl trivial ?_
  refine ib h (fun c1 h => ?_) (fun c1 h => ?_)
  · refine Ev_blk 3 (pc' := if v5 = (-(nI 1)) then 85 else 50) (ls' := [.ref v0, d1, .int v2, .int v3, .int v4, .int v5, .int v6]) (st' := []) (s' := s) rfl trivial ?_
    refine ib h (fun c2 h => ?_) (fun c2 h => ?_)
    · exact t_C_pieces_85 h
    · refine gd h (fun g3 h => ?_)
      refine gd h (fun g4 h => ?_)
      refine gd h (fun g5 h => ?_)
      refine gd h (fun g6 h => ?_)
      refine Ev_blk 13 (pc' := 74) (ls' := [.ref v0, d1, .int v2, .int (v3 + nI 1), .int (v4 ||| ((nI 1) <<< ((v5 / (nI 16)) &&& 31))), .int v5, .int v6]) (st' := [.int v5, .ref (sR s (sR s v0 6) 2)]) (s' := s) rfl ⟨⟨⟨trivial, g3⟩, g4⟩, g5⟩ ?_
      refine bd h (fun r1 hr1 h => ?_)
      refine Ev_call 2 74 1 [.ref (sR s (sR s v0 6) 2), .int v5] [] rfl rfl rfl rfl g6 rfl rfl (Nat.le_of_ble_eq_true rfl) (t_Pages_followerOf hr1) ?_
      refine Ev_blk 3 (pc' := 36) (ls' := [.ref v0, d1, .int v2, .int (v3 + nI 1), .int (v4 ||| ((nI 1) <<< ((v5 / (nI 16)) &&& 31))), .int r1, .int (v6 + nI 1)]) (st' := []) (s' := s) rfl trivial ?_
      exact H36 h
  · exact t_C_pieces_85 h
def l_C_pieces_36 (s : AS)  : Nat → Nat → Int32 → Int32 → Int32 → Int32 → Int32 → Option Int32
  | 0 => fun _ _ _ _ _ _ => none
  | n + 1 => b_C_pieces_36 s  (l_C_pieces_36 s  n)
theorem u_C_pieces_36 {s : AS}   {n : Nat} : ∀ {d1 : Value} {v0 : Nat} {v2 : Int32} {v3 : Int32} {v4 : Int32} {v5 : Int32} {v6 : Int32} {o : Int32}, l_C_pieces_36 s  n v0 v2 v3 v4 v5 v6 = some o → Ev 2 mZ111 36 [.ref v0, d1, .int v2, .int v3, .int v4, .int v5, .int v6] [] s (some (.int o), s) := by
  induction n with
  | zero => intros; rename_i h; cases h
  | succ n ih => intros; rename_i h; exact t_C_pieces_36  (fun h => ih h) h
/-- RecordHeap.pieces(II)I -/
def f_C_pieces (s : AS) (a0 : Nat) (a1 : Int32) (a2 : Int32) : Option Int32 :=
  if sT s a0 = 1 then
  if sT s (sR s a0 6) = 3 then
  if sT s (sR s (sR s a0 6) 2) = 7 then
  (f_Pages_isRecord s (sR s (sR s a0 6) 2) a1).bind fun r1 =>
  if r1 = (nI 0) then
    some (-(nI 1))
  else
    if a2 < (nI 0) then
      some (-(nI 1))
    else
      if (nI 1) < a2 then
        some (-(nI 1))
      else
        l_C_pieces_36 s fuel a0 a2 (nI 0) (nI 0) a1 (nI 0)
  else none
  else none
  else none
theorem t_C_pieces {s : AS} {a0 : Nat} {a1 : Int32} {a2 : Int32} {o : Int32} (h : f_C_pieces s a0 a1 a2 = some o) : Ev 2 mZ111 0 [.ref a0, .int a1, .int a2, .retAddr 0, .retAddr 0, .retAddr 0, .retAddr 0] [] s (some (.int o), s) := by
  unfold f_C_pieces at h
  refine gd h (fun g1 h => ?_)
  refine gd h (fun g2 h => ?_)
  refine gd h (fun g3 h => ?_)
  refine Ev_blk 4 (pc' := 8) (ls' := [.ref a0, .int a1, .int a2, .retAddr 0, .retAddr 0, .retAddr 0, .retAddr 0]) (st' := [.int a1, .ref (sR s (sR s a0 6) 2)]) (s' := s) rfl ⟨⟨trivial, g1⟩, g2⟩ ?_
  refine bd h (fun r1 hr1 h => ?_)
  refine Ev_call 2 51 1 [.ref (sR s (sR s a0 6) 2), .int a1] [] rfl rfl rfl rfl g3 rfl rfl (Nat.le_of_ble_eq_true rfl) (t_Pages_isRecord hr1) ?_
  refine Ev_blk 1 (pc' := if r1 = (nI 0) then 23 else 14) (ls' := [.ref a0, .int a1, .int a2, .retAddr 0, .retAddr 0, .retAddr 0, .retAddr 0]) (st' := []) (s' := s) rfl trivial ?_
  refine ib h (fun c4 h => ?_) (fun c4 h => ?_)
  · refine Ev_blk 1 (pc' := 24) (ls' := [.ref a0, .int a1, .int a2, .retAddr 0, .retAddr 0, .retAddr 0, .retAddr 0]) (st' := [.int (-(nI 1))]) (s' := s) rfl trivial ?_
    cases h
    exact Ev_ret rfl trivial
  · refine Ev_blk 2 (pc' := if a2 < (nI 0) then 23 else 18) (ls' := [.ref a0, .int a1, .int a2, .retAddr 0, .retAddr 0, .retAddr 0, .retAddr 0]) (st' := []) (s' := s) rfl trivial ?_
    refine ib h (fun c5 h => ?_) (fun c5 h => ?_)
    · refine Ev_blk 1 (pc' := 24) (ls' := [.ref a0, .int a1, .int a2, .retAddr 0, .retAddr 0, .retAddr 0, .retAddr 0]) (st' := [.int (-(nI 1))]) (s' := s) rfl trivial ?_
      cases h
      exact Ev_ret rfl trivial
    · refine Ev_blk 3 (pc' := if (nI 1) < a2 then 23 else 25) (ls' := [.ref a0, .int a1, .int a2, .retAddr 0, .retAddr 0, .retAddr 0, .retAddr 0]) (st' := []) (s' := s) rfl trivial ?_
      refine ib h (fun c6 h => ?_) (fun c6 h => ?_)
      · refine Ev_blk 1 (pc' := 24) (ls' := [.ref a0, .int a1, .int a2, .retAddr 0, .retAddr 0, .retAddr 0, .retAddr 0]) (st' := [.int (-(nI 1))]) (s' := s) rfl trivial ?_
        cases h
        exact Ev_ret rfl trivial
      · refine Ev_blk 8 (pc' := 36) (ls' := [.ref a0, .int a1, .int a2, .int (nI 0), .int (nI 0), .int a1, .int (nI 0)]) (st' := []) (s' := s) rfl trivial ?_
        exact u_C_pieces_36 h

def b_Pages_isAhead_2 (s : AS) (k2 : Nat → Int32 → Int32 → Int32 → Option Int32) (v0 : Nat) (v1 : Int32) (v2 : Int32) (v3 : Int32) : Option Int32 :=
  if (nI 200) < v3 then
    some (nI 0)
  else
    if sT s v0 = 7 then
    (f_Pages_byteAt s v0 v1 v3).bind fun r1 =>
    (f_Pages_byteAt s v0 v2 v3).bind fun r2 =>
    if r1 = r2 then
      if r1 = (-(nI 1)) then
          some (if v1 < v2 then nI 1 else nI 0)
      else
        k2 v0 v1 v2 (v3 + nI 1)
    else
        some (if r1 < r2 then nI 1 else nI 0)
    else none
theorem t_Pages_isAhead_2 {s : AS} {k2 : Nat → Int32 → Int32 → Int32 → Option Int32} (H2 : ∀ {d4 d5 : Value} {v0 : Nat} {v1 : Int32} {v2 : Int32} {v3 : Int32} {o : Int32}, k2 v0 v1 v2 v3 = some o → Ev 3 mZ115 2 [.ref v0, .int v1, .int v2, .int v3, d4, d5] [] s (some (.int o), s)) {d4 d5 : Value} {v0 : Nat} {v1 : Int32} {v2 : Int32} {v3 : Int32} {o : Int32} (h : b_Pages_isAhead_2 s k2 v0 v1 v2 v3 = some o) : Ev 3 mZ115 2 [.ref v0, .int v1, .int v2, .int v3, d4, d5] [] s (some (.int o), s) := by
  unfold b_Pages_isAhead_2 at h
  refine Ev_blk 3 (pc' := if (nI 200) < v3 then 68 else 9) (ls' := [.ref v0, .int v1, .int v2, .int v3, d4, d5]) (st' := []) (s' := s) rfl trivial ?_
  refine ib h (fun c1 h => ?_) (fun c1 h => ?_)
  · refine Ev_blk 1 (pc' := 69) (ls' := [.ref v0, .int v1, .int v2, .int v3, d4, d5]) (st' := [.int (nI 0)]) (s' := s) rfl trivial ?_
    cases h
    exact Ev_ret rfl (Or.inl rfl)
  · refine gd h (fun g2 h => ?_)
    refine Ev_blk 3 (pc' := 12) (ls' := [.ref v0, .int v1, .int v2, .int v3, d4, d5]) (st' := [.int v3, .int v1, .ref v0]) (s' := s) rfl trivial ?_
    refine bd h (fun r1 hr1 h => ?_)
    refine Ev_call 2 100 2 [.ref v0, .int v1, .int v3] [] rfl rfl rfl rfl g2 rfl rfl (Nat.le_of_ble_eq_true rfl) (t_Pages_byteAt hr1) ?_
    refine Ev_blk 4 (pc' := 20) (ls' := [.ref v0, .int v1, .int v2, .int v3, .int r1, d5]) (st' := [.int v3, .int v2, .ref v0]) (s' := s) rfl trivial ?_
    refine bd h (fun r2 hr2 h => ?_)
    refine Ev_call 2 100 2 [.ref v0, .int v2, .int v3] [] rfl rfl rfl rfl g2 rfl rfl (Nat.le_of_ble_eq_true rfl) (t_Pages_byteAt hr2) ?_
    refine Ev_blk 4 (pc' := if r1 = r2 then 45 else 32) (ls' := [.ref v0, .int v1, .int v2, .int v3, .int r1, .int r2]) (st' := []) (s' := s) rfl trivial ?_
    refine ib h (fun c3 h => ?_) (fun c3 h => ?_)
    · refine Ev_blk 3 (pc' := if r1 = (-(nI 1)) then 51 else 62) (ls' := [.ref v0, .int v1, .int v2, .int v3, .int r1, .int r2]) (st' := []) (s' := s) rfl trivial ?_
      refine ib h (fun c4 h => ?_) (fun c4 h => ?_)
      · refine Ev_blk 3 (pc' := if v1 < v2 then 56 else 60) (ls' := [.ref v0, .int v1, .int v2, .int v3, .int r1, .int r2]) (st' := []) (s' := s) rfl trivial ?_
        have k5_ : Ev 3 mZ115 61 [.ref v0, .int v1, .int v2, .int v3, .int r1, .int r2] [.int (if v1 < v2 then nI 1 else nI 0)] s (some (.int o), s) := by
          cases h
          exact Ev_ret rfl (by (repeat' split) <;> first | exact Or.inl rfl | exact Or.inr rfl)
        refine icases (fun c6 => ?_) (fun c6 => ?_)
        · exact Ev_blk 2 (pc' := 61) (ls' := [.ref v0, .int v1, .int v2, .int v3, .int r1, .int r2]) (st' := [.int (nI 1)]) (s' := s) rfl trivial (by simpa only [if_pos c6] using k5_)
        · exact Ev_blk 1 (pc' := 61) (ls' := [.ref v0, .int v1, .int v2, .int v3, .int r1, .int r2]) (st' := [.int (nI 0)]) (s' := s) rfl trivial (by simpa only [if_neg c6] using k5_)
      · refine Ev_blk 2 (pc' := 2) (ls' := [.ref v0, .int v1, .int v2, .int (v3 + nI 1), .int r1, .int r2]) (st' := []) (s' := s) rfl trivial ?_
        exact H2 h
    · refine Ev_blk 3 (pc' := if r1 < r2 then 39 else 43) (ls' := [.ref v0, .int v1, .int v2, .int v3, .int r1, .int r2]) (st' := []) (s' := s) rfl trivial ?_
      have k7_ : Ev 3 mZ115 44 [.ref v0, .int v1, .int v2, .int v3, .int r1, .int r2] [.int (if r1 < r2 then nI 1 else nI 0)] s (some (.int o), s) := by
        cases h
        exact Ev_ret rfl (by (repeat' split) <;> first | exact Or.inl rfl | exact Or.inr rfl)
      refine icases (fun c8 => ?_) (fun c8 => ?_)
      · exact Ev_blk 2 (pc' := 44) (ls' := [.ref v0, .int v1, .int v2, .int v3, .int r1, .int r2]) (st' := [.int (nI 1)]) (s' := s) rfl trivial (by simpa only [if_pos c8] using k7_)
      · exact Ev_blk 1 (pc' := 44) (ls' := [.ref v0, .int v1, .int v2, .int v3, .int r1, .int r2]) (st' := [.int (nI 0)]) (s' := s) rfl trivial (by simpa only [if_neg c8] using k7_)
def l_Pages_isAhead_2 (s : AS)  : Nat → Nat → Int32 → Int32 → Int32 → Option Int32
  | 0 => fun _ _ _ _ => none
  | n + 1 => b_Pages_isAhead_2 s  (l_Pages_isAhead_2 s  n)
theorem u_Pages_isAhead_2 {s : AS}   {n : Nat} : ∀ {d4 d5 : Value} {v0 : Nat} {v1 : Int32} {v2 : Int32} {v3 : Int32} {o : Int32}, l_Pages_isAhead_2 s  n v0 v1 v2 v3 = some o → Ev 3 mZ115 2 [.ref v0, .int v1, .int v2, .int v3, d4, d5] [] s (some (.int o), s) := by
  induction n with
  | zero => intros; rename_i h; cases h
  | succ n ih => intros; rename_i h; exact t_Pages_isAhead_2  (fun h => ih h) h
/-- RecordHeap$Pages.isAhead(II)Z -/
def f_Pages_isAhead (s : AS) (a0 : Nat) (a1 : Int32) (a2 : Int32) : Option Int32 :=
  l_Pages_isAhead_2 s fuel a0 a1 a2 (nI 0)
theorem t_Pages_isAhead {s : AS} {a0 : Nat} {a1 : Int32} {a2 : Int32} {o : Int32} (h : f_Pages_isAhead s a0 a1 a2 = some o) : Ev 3 mZ115 0 [.ref a0, .int a1, .int a2, .retAddr 0, .retAddr 0, .retAddr 0] [] s (some (.int o), s) := by
  unfold f_Pages_isAhead at h
  refine Ev_blk 2 (pc' := 2) (ls' := [.ref a0, .int a1, .int a2, .int (nI 0), .retAddr 0, .retAddr 0]) (st' := []) (s' := s) rfl trivial ?_
  exact u_Pages_isAhead_2 h

def b_Pages_rankOf_4 (s : AS) (k4 : Nat → Int32 → Int32 → Int32 → Option Int32) (v0 : Nat) (v1 : Int32) (v2 : Int32) (v3 : Int32) : Option Int32 :=
  if v3 < (nI 128) then
    if sT s v0 = 7 then
    (f_Pages_isRecord s v0 v3).bind fun r1 =>
    if r1 = (nI 0) then
      k4 v0 v1 v2 (v3 + nI 1)
    else
      (f_Pages_isAhead s v0 v3 v1).bind fun r2 =>
      if r2 = (nI 0) then
        k4 v0 v1 v2 (v3 + nI 1)
      else
        k4 v0 v1 (v2 + nI 1) (v3 + nI 1)
    else none
  else
    some v2
theorem t_Pages_rankOf_4 {s : AS} {k4 : Nat → Int32 → Int32 → Int32 → Option Int32} (H4 : ∀ {v0 : Nat} {v1 : Int32} {v2 : Int32} {v3 : Int32} {o : Int32}, k4 v0 v1 v2 v3 = some o → Ev 4 mZ114 4 [.ref v0, .int v1, .int v2, .int v3] [] s (some (.int o), s))  {v0 : Nat} {v1 : Int32} {v2 : Int32} {v3 : Int32} {o : Int32} (h : b_Pages_rankOf_4 s k4 v0 v1 v2 v3 = some o) : Ev 4 mZ114 4 [.ref v0, .int v1, .int v2, .int v3] [] s (some (.int o), s) := by
  unfold b_Pages_rankOf_4 at h
  refine Ev_blk 3 (pc' := if v3 < (nI 128) then 11 else 37) (ls' := [.ref v0, .int v1, .int v2, .int v3]) (st' := []) (s' := s) rfl trivial ?_
  refine ib h (fun c1 h => ?_) (fun c1 h => ?_)
  · refine gd h (fun g2 h => ?_)
    refine Ev_blk 2 (pc' := 13) (ls' := [.ref v0, .int v1, .int v2, .int v3]) (st' := [.int v3, .ref v0]) (s' := s) rfl trivial ?_
    refine bd h (fun r1 hr1 h => ?_)
    refine Ev_call 2 51 1 [.ref v0, .int v3] [] rfl rfl rfl rfl g2 rfl rfl (Nat.le_of_ble_eq_true rfl) (t_Pages_isRecord hr1) ?_
    refine Ev_blk 1 (pc' := if r1 = (nI 0) then 31 else 19) (ls' := [.ref v0, .int v1, .int v2, .int v3]) (st' := []) (s' := s) rfl trivial ?_
    refine ib h (fun c3 h => ?_) (fun c3 h => ?_)
    · refine Ev_blk 2 (pc' := 4) (ls' := [.ref v0, .int v1, .int v2, .int (v3 + nI 1)]) (st' := []) (s' := s) rfl trivial ?_
      exact H4 h
    · refine Ev_blk 3 (pc' := 22) (ls' := [.ref v0, .int v1, .int v2, .int v3]) (st' := [.int v1, .int v3, .ref v0]) (s' := s) rfl trivial ?_
      refine bd h (fun r2 hr2 h => ?_)
      refine Ev_call 2 115 2 [.ref v0, .int v3, .int v1] [] rfl rfl rfl rfl g2 rfl rfl (Nat.le_of_ble_eq_true rfl) (t_Pages_isAhead hr2) ?_
      refine Ev_blk 1 (pc' := if r2 = (nI 0) then 31 else 28) (ls' := [.ref v0, .int v1, .int v2, .int v3]) (st' := []) (s' := s) rfl trivial ?_
      refine ib h (fun c4 h => ?_) (fun c4 h => ?_)
      · refine Ev_blk 2 (pc' := 4) (ls' := [.ref v0, .int v1, .int v2, .int (v3 + nI 1)]) (st' := []) (s' := s) rfl trivial ?_
        exact H4 h
      · refine Ev_blk 3 (pc' := 4) (ls' := [.ref v0, .int v1, .int (v2 + nI 1), .int (v3 + nI 1)]) (st' := []) (s' := s) rfl trivial ?_
        exact H4 h
  · refine Ev_blk 1 (pc' := 38) (ls' := [.ref v0, .int v1, .int v2, .int v3]) (st' := [.int v2]) (s' := s) rfl trivial ?_
    cases h
    exact Ev_ret rfl trivial
def l_Pages_rankOf_4 (s : AS)  : Nat → Nat → Int32 → Int32 → Int32 → Option Int32
  | 0 => fun _ _ _ _ => none
  | n + 1 => b_Pages_rankOf_4 s  (l_Pages_rankOf_4 s  n)
theorem u_Pages_rankOf_4 {s : AS}   {n : Nat} : ∀  {v0 : Nat} {v1 : Int32} {v2 : Int32} {v3 : Int32} {o : Int32}, l_Pages_rankOf_4 s  n v0 v1 v2 v3 = some o → Ev 4 mZ114 4 [.ref v0, .int v1, .int v2, .int v3] [] s (some (.int o), s) := by
  induction n with
  | zero => intros; rename_i h; cases h
  | succ n ih => intros; rename_i h; exact t_Pages_rankOf_4  (fun h => ih h) h
/-- RecordHeap$Pages.rankOf(I)I -/
def f_Pages_rankOf (s : AS) (a0 : Nat) (a1 : Int32) : Option Int32 :=
  l_Pages_rankOf_4 s fuel a0 a1 (nI 0) (nI 0)
theorem t_Pages_rankOf {s : AS} {a0 : Nat} {a1 : Int32} {o : Int32} (h : f_Pages_rankOf s a0 a1 = some o) : Ev 4 mZ114 0 [.ref a0, .int a1, .retAddr 0, .retAddr 0] [] s (some (.int o), s) := by
  unfold f_Pages_rankOf at h
  refine Ev_blk 4 (pc' := 4) (ls' := [.ref a0, .int a1, .int (nI 0), .int (nI 0)]) (st' := []) (s' := s) rfl trivial ?_
  exact u_Pages_rankOf_4 h

def b_C_sorted_8 (s : AS) (k8 : Nat → Int32 → Int32 → Option Int32) (v0 : Nat) (v1 : Int32) (v2 : Int32) : Option Int32 :=
  if v2 < (nI 128) then
    if sT s v0 = 1 then
    if sT s (sR s v0 6) = 3 then
    if sT s (sR s (sR s v0 6) 2) = 7 then
    (f_Pages_isRecord s (sR s (sR s v0 6) 2) v2).bind fun r1 =>
    if r1 = (nI 0) then
      k8 v0 v1 (v2 + nI 1)
    else
      (f_Pages_rankOf s (sR s (sR s v0 6) 2) v2).bind fun r2 =>
      if r2 = v1 then
        some v2
      else
        k8 v0 v1 (v2 + nI 1)
    else none
    else none
    else none
  else
    some (-(nI 1))
theorem t_C_sorted_8 {s : AS} {k8 : Nat → Int32 → Int32 → Option Int32} (H8 : ∀ {v0 : Nat} {v1 : Int32} {v2 : Int32} {o : Int32}, k8 v0 v1 v2 = some o → Ev 5 mZ113 8 [.ref v0, .int v1, .int v2] [] s (some (.int o), s))  {v0 : Nat} {v1 : Int32} {v2 : Int32} {o : Int32} (h : b_C_sorted_8 s k8 v0 v1 v2 = some o) : Ev 5 mZ113 8 [.ref v0, .int v1, .int v2] [] s (some (.int o), s) := by
  unfold b_C_sorted_8 at h
  refine Ev_blk 3 (pc' := if v2 < (nI 128) then 15 else 52) (ls' := [.ref v0, .int v1, .int v2]) (st' := []) (s' := s) rfl trivial ?_
  refine ib h (fun c1 h => ?_) (fun c1 h => ?_)
  · refine gd h (fun g2 h => ?_)
    refine gd h (fun g3 h => ?_)
    refine gd h (fun g4 h => ?_)
    refine Ev_blk 4 (pc' := 23) (ls' := [.ref v0, .int v1, .int v2]) (st' := [.int v2, .ref (sR s (sR s v0 6) 2)]) (s' := s) rfl ⟨⟨trivial, g2⟩, g3⟩ ?_
    refine bd h (fun r1 hr1 h => ?_)
    refine Ev_call 2 51 1 [.ref (sR s (sR s v0 6) 2), .int v2] [] rfl rfl rfl rfl g4 rfl rfl (Nat.le_of_ble_eq_true rfl) (t_Pages_isRecord hr1) ?_
    refine Ev_blk 1 (pc' := if r1 = (nI 0) then 46 else 29) (ls' := [.ref v0, .int v1, .int v2]) (st' := []) (s' := s) rfl trivial ?_
    refine ib h (fun c5 h => ?_) (fun c5 h => ?_)
    · refine Ev_blk 2 (pc' := 8) (ls' := [.ref v0, .int v1, .int (v2 + nI 1)]) (st' := []) (s' := s) rfl trivial ?_
      exact H8 h
    · refine Ev_blk 4 (pc' := 37) (ls' := [.ref v0, .int v1, .int v2]) (st' := [.int v2, .ref (sR s (sR s v0 6) 2)]) (s' := s) rfl ⟨⟨trivial, g2⟩, g3⟩ ?_
      refine bd h (fun r2 hr2 h => ?_)
      refine Ev_call 2 114 1 [.ref (sR s (sR s v0 6) 2), .int v2] [] rfl rfl rfl rfl g4 rfl rfl (Nat.le_of_ble_eq_true rfl) (t_Pages_rankOf hr2) ?_
      refine Ev_blk 2 (pc' := if r2 = v1 then 44 else 46) (ls' := [.ref v0, .int v1, .int v2]) (st' := []) (s' := s) rfl trivial ?_
      refine ib h (fun c6 h => ?_) (fun c6 h => ?_)
      · refine Ev_blk 1 (pc' := 45) (ls' := [.ref v0, .int v1, .int v2]) (st' := [.int v2]) (s' := s) rfl trivial ?_
        cases h
        exact Ev_ret rfl trivial
      · refine Ev_blk 2 (pc' := 8) (ls' := [.ref v0, .int v1, .int (v2 + nI 1)]) (st' := []) (s' := s) rfl trivial ?_
        exact H8 h
  · refine Ev_blk 1 (pc' := 53) (ls' := [.ref v0, .int v1, .int v2]) (st' := [.int (-(nI 1))]) (s' := s) rfl trivial ?_
    cases h
    exact Ev_ret rfl trivial
def l_C_sorted_8 (s : AS)  : Nat → Nat → Int32 → Int32 → Option Int32
  | 0 => fun _ _ _ => none
  | n + 1 => b_C_sorted_8 s  (l_C_sorted_8 s  n)
theorem u_C_sorted_8 {s : AS}   {n : Nat} : ∀  {v0 : Nat} {v1 : Int32} {v2 : Int32} {o : Int32}, l_C_sorted_8 s  n v0 v1 v2 = some o → Ev 5 mZ113 8 [.ref v0, .int v1, .int v2] [] s (some (.int o), s) := by
  induction n with
  | zero => intros; rename_i h; cases h
  | succ n ih => intros; rename_i h; exact t_C_sorted_8  (fun h => ih h) h
/-- RecordHeap.sorted(I)I -/
def f_C_sorted (s : AS) (a0 : Nat) (a1 : Int32) : Option Int32 :=
  if a1 < (nI 0) then
    some (-(nI 1))
  else
    l_C_sorted_8 s fuel a0 a1 (nI 0)
theorem t_C_sorted {s : AS} {a0 : Nat} {a1 : Int32} {o : Int32} (h : f_C_sorted s a0 a1 = some o) : Ev 5 mZ113 0 [.ref a0, .int a1, .retAddr 0] [] s (some (.int o), s) := by
  unfold f_C_sorted at h
  refine Ev_blk 2 (pc' := if a1 < (nI 0) then 4 else 6) (ls' := [.ref a0, .int a1, .retAddr 0]) (st' := []) (s' := s) rfl trivial ?_
  refine ib h (fun c1 h => ?_) (fun c1 h => ?_)
  · refine Ev_blk 1 (pc' := 5) (ls' := [.ref a0, .int a1, .retAddr 0]) (st' := [.int (-(nI 1))]) (s' := s) rfl trivial ?_
    cases h
    exact Ev_ret rfl trivial
  · refine Ev_blk 2 (pc' := 8) (ls' := [.ref a0, .int a1, .int (nI 0)]) (st' := []) (s' := s) rfl trivial ?_
    exact u_C_sorted_8 h

def b_Pages_holdsJust_16 (s : AS) (k16 : Nat → Int32 → Nat → Int32 → Option Int32) (v0 : Nat) (v1 : Int32) (v2 : Nat) (v3 : Int32) : Option Int32 :=
  if sT s v2 = 9 then
  if v3 < (sI s v2 1) then
    if sT s v0 = 7 then
    (f_Pages_byteAt s v0 v1 v3).bind fun r1 =>
    if sT s (sR s v2 0) = 20 ∧ inA v3 (sN s (sR s v2 0)) then
    if r1 = (sI s (sR s v2 0) v3.toNatClampNeg) then
      k16 v0 v1 v2 (v3 + nI 1)
    else
      some (nI 0)
    else none
    else none
  else
    some (nI 1)
  else none
theorem t_Pages_holdsJust_16 {s : AS} {k16 : Nat → Int32 → Nat → Int32 → Option Int32} (H16 : ∀ {v0 : Nat} {v1 : Int32} {v2 : Nat} {v3 : Int32} {o : Int32}, k16 v0 v1 v2 v3 = some o → Ev 3 mZ117 16 [.ref v0, .int v1, .ref v2, .int v3] [] s (some (.int o), s))  {v0 : Nat} {v1 : Int32} {v2 : Nat} {v3 : Int32} {o : Int32} (h : b_Pages_holdsJust_16 s k16 v0 v1 v2 v3 = some o) : Ev 3 mZ117 16 [.ref v0, .int v1, .ref v2, .int v3] [] s (some (.int o), s) := by
  unfold b_Pages_holdsJust_16 at h
  refine gd h (fun g1 h => ?_)
  refine Ev_blk 4 (pc' := if v3 < (sI s v2 1) then 24 else 47) (ls' := [.ref v0, .int v1, .ref v2, .int v3]) (st' := []) (s' := s) rfl ⟨trivial, g1⟩ ?_
  refine ib h (fun c2 h => ?_) (fun c2 h => ?_)
  · refine gd h (fun g3 h => ?_)
    refine Ev_blk 3 (pc' := 27) (ls' := [.ref v0, .int v1, .ref v2, .int v3]) (st' := [.int v3, .int v1, .ref v0]) (s' := s) rfl trivial ?_
    refine bd h (fun r1 hr1 h => ?_)
    refine Ev_call 2 100 2 [.ref v0, .int v1, .int v3] [] rfl rfl rfl rfl g3 rfl rfl (Nat.le_of_ble_eq_true rfl) (t_Pages_byteAt hr1) ?_
    refine gd h (fun g4 h => ?_)
    refine Ev_blk 5 (pc' := if r1 = (sI s (sR s v2 0) v3.toNatClampNeg) then 41 else 39) (ls' := [.ref v0, .int v1, .ref v2, .int v3]) (st' := []) (s' := s) rfl ⟨⟨trivial, g1⟩, ⟨Or.inl g4.1, g4.2⟩⟩ ?_
    refine ib h (fun c5 h => ?_) (fun c5 h => ?_)
    · refine Ev_blk 2 (pc' := 16) (ls' := [.ref v0, .int v1, .ref v2, .int (v3 + nI 1)]) (st' := []) (s' := s) rfl trivial ?_
      exact H16 h
    · refine Ev_blk 1 (pc' := 40) (ls' := [.ref v0, .int v1, .ref v2, .int v3]) (st' := [.int (nI 0)]) (s' := s) rfl trivial ?_
      cases h
      exact Ev_ret rfl (Or.inl rfl)
  · refine Ev_blk 1 (pc' := 48) (ls' := [.ref v0, .int v1, .ref v2, .int v3]) (st' := [.int (nI 1)]) (s' := s) rfl trivial ?_
    cases h
    exact Ev_ret rfl (Or.inr rfl)
def l_Pages_holdsJust_16 (s : AS)  : Nat → Nat → Int32 → Nat → Int32 → Option Int32
  | 0 => fun _ _ _ _ => none
  | n + 1 => b_Pages_holdsJust_16 s  (l_Pages_holdsJust_16 s  n)
theorem u_Pages_holdsJust_16 {s : AS}   {n : Nat} : ∀  {v0 : Nat} {v1 : Int32} {v2 : Nat} {v3 : Int32} {o : Int32}, l_Pages_holdsJust_16 s  n v0 v1 v2 v3 = some o → Ev 3 mZ117 16 [.ref v0, .int v1, .ref v2, .int v3] [] s (some (.int o), s) := by
  induction n with
  | zero => intros; rename_i h; cases h
  | succ n ih => intros; rename_i h; exact t_Pages_holdsJust_16  (fun h => ih h) h
/-- RecordHeap$Pages.holdsJust(ILRecordHeap$Row;)Z -/
def f_Pages_holdsJust (s : AS) (a0 : Nat) (a1 : Int32) (a2 : Nat) : Option Int32 :=
  if sT s a0 = 7 then
  (f_Pages_sizeOf s a0 a1).bind fun r1 =>
  if sT s a2 = 9 then
  if r1 = (sI s a2 1) then
    l_Pages_holdsJust_16 s fuel a0 a1 a2 (nI 0)
  else
    some (nI 0)
  else none
  else none
theorem t_Pages_holdsJust {s : AS} {a0 : Nat} {a1 : Int32} {a2 : Nat} {o : Int32} (h : f_Pages_holdsJust s a0 a1 a2 = some o) : Ev 3 mZ117 0 [.ref a0, .int a1, .ref a2, .retAddr 0] [] s (some (.int o), s) := by
  unfold f_Pages_holdsJust at h
  refine gd h (fun g1 h => ?_)
  refine Ev_blk 2 (pc' := 2) (ls' := [.ref a0, .int a1, .ref a2, .retAddr 0]) (st' := [.int a1, .ref a0]) (s' := s) rfl trivial ?_
  refine bd h (fun r1 hr1 h => ?_)
  refine Ev_call 2 93 1 [.ref a0, .int a1] [] rfl rfl rfl rfl g1 rfl rfl (Nat.le_of_ble_eq_true rfl) (t_Pages_sizeOf hr1) ?_
  refine gd h (fun g2 h => ?_)
  refine Ev_blk 3 (pc' := if r1 = (sI s a2 1) then 14 else 12) (ls' := [.ref a0, .int a1, .ref a2, .retAddr 0]) (st' := []) (s' := s) rfl ⟨trivial, g2⟩ ?_
  refine ib h (fun c3 h => ?_) (fun c3 h => ?_)
  · refine Ev_blk 2 (pc' := 16) (ls' := [.ref a0, .int a1, .ref a2, .int (nI 0)]) (st' := []) (s' := s) rfl trivial ?_
    exact u_Pages_holdsJust_16 h
  · refine Ev_blk 1 (pc' := 13) (ls' := [.ref a0, .int a1, .ref a2, .retAddr 0]) (st' := [.int (nI 0)]) (s' := s) rfl trivial ?_
    cases h
    exact Ev_ret rfl (Or.inl rfl)

def b_C_find_4 (k4 : Nat → Int32 → Int32 → AS → Option (Int32 × AS)) (v0 : Nat) (v1 : Int32) (v2 : Int32) (s : AS) : Option (Int32 × AS) :=
  if v2 < (nI 128) then
    if v1 = (-(nI 1)) then
      if sT s v0 = 1 then
      if sT s (sR s v0 6) = 3 then
      if sT s (sR s (sR s v0 6) 2) = 7 then
      (f_Pages_isRecord s (sR s (sR s v0 6) 2) v2).bind fun r1 =>
      if r1 = (nI 0) then
        k4 v0 v1 (v2 + nI 1) s
      else
        (f_Pages_holdsJust s (sR s (sR s v0 6) 2) v2 (sR s v0 0)).bind fun r2 =>
        if r2 = (nI 0) then
          k4 v0 v1 (v2 + nI 1) s
        else
          k4 v0 v2 (v2 + nI 1) s
      else none
      else none
      else none
    else
      if sT s v0 = 1 then
      if sT s (sR s v0 0) = 9 then
      some (v1, setI s (sR s v0 0) 1 (nI 0))
      else none
      else none
  else
    if sT s v0 = 1 then
    if sT s (sR s v0 0) = 9 then
    some (v1, setI s (sR s v0 0) 1 (nI 0))
    else none
    else none
theorem t_C_find_4 {k4 : Nat → Int32 → Int32 → AS → Option (Int32 × AS)} (H4 : ∀ {v0 : Nat} {v1 : Int32} {v2 : Int32} {s : AS} {o : Int32 × AS}, k4 v0 v1 v2 s = some o → Ev 4 mZ116 4 [.ref v0, .int v1, .int v2] [] s (some (.int o.1), o.2))  {v0 : Nat} {v1 : Int32} {v2 : Int32} {s : AS} {o : Int32 × AS} (h : b_C_find_4 k4 v0 v1 v2 s = some o) : Ev 4 mZ116 4 [.ref v0, .int v1, .int v2] [] s (some (.int o.1), o.2) := by
  unfold b_C_find_4 at h
  refine Ev_blk 3 (pc' := if v2 < (nI 128) then 11 else 56) (ls' := [.ref v0, .int v1, .int v2]) (st' := []) (s' := s) rfl trivial ?_
  refine ib h (fun c1 h => ?_) (fun c1 h => ?_)
  · refine Ev_blk 3 (pc' := if v1 = (-(nI 1)) then 16 else 56) (ls' := [.ref v0, .int v1, .int v2]) (st' := []) (s' := s) rfl trivial ?_
    refine ib h (fun c2 h => ?_) (fun c2 h => ?_)
    · refine gd h (fun g3 h => ?_)
      refine gd h (fun g4 h => ?_)
      refine gd h (fun g5 h => ?_)
      refine Ev_blk 4 (pc' := 24) (ls' := [.ref v0, .int v1, .int v2]) (st' := [.int v2, .ref (sR s (sR s v0 6) 2)]) (s' := s) rfl ⟨⟨trivial, g3⟩, g4⟩ ?_
      refine bd h (fun r1 hr1 h => ?_)
      refine Ev_call 2 51 1 [.ref (sR s (sR s v0 6) 2), .int v2] [] rfl rfl rfl rfl g5 rfl rfl (Nat.le_of_ble_eq_true rfl) (t_Pages_isRecord hr1) ?_
      refine Ev_blk 1 (pc' := if r1 = (nI 0) then 50 else 30) (ls' := [.ref v0, .int v1, .int v2]) (st' := []) (s' := s) rfl trivial ?_
      refine ib h (fun c6 h => ?_) (fun c6 h => ?_)
      · refine Ev_blk 2 (pc' := 4) (ls' := [.ref v0, .int v1, .int (v2 + nI 1)]) (st' := []) (s' := s) rfl trivial ?_
        exact H4 h
      · refine Ev_blk 6 (pc' := 42) (ls' := [.ref v0, .int v1, .int v2]) (st' := [.ref (sR s v0 0), .int v2, .ref (sR s (sR s v0 6) 2)]) (s' := s) rfl ⟨⟨⟨trivial, g3⟩, g4⟩, g3⟩ ?_
        refine bd h (fun r2 hr2 h => ?_)
        refine Ev_call 2 117 2 [.ref (sR s (sR s v0 6) 2), .int v2, .ref (sR s v0 0)] [] rfl rfl rfl rfl g5 rfl rfl (Nat.le_of_ble_eq_true rfl) (t_Pages_holdsJust hr2) ?_
        refine Ev_blk 1 (pc' := if r2 = (nI 0) then 50 else 48) (ls' := [.ref v0, .int v1, .int v2]) (st' := []) (s' := s) rfl trivial ?_
        refine ib h (fun c7 h => ?_) (fun c7 h => ?_)
        · refine Ev_blk 2 (pc' := 4) (ls' := [.ref v0, .int v1, .int (v2 + nI 1)]) (st' := []) (s' := s) rfl trivial ?_
          exact H4 h
        · refine Ev_blk 4 (pc' := 4) (ls' := [.ref v0, .int v2, .int (v2 + nI 1)]) (st' := []) (s' := s) rfl trivial ?_
          exact H4 h
    · refine gd h (fun g8 h => ?_)
      refine gd h (fun g9 h => ?_)
      refine Ev_blk 5 (pc' := 65) (ls' := [.ref v0, .int v1, .int v2]) (st' := [.int v1]) (s' := setI s (sR s v0 0) 1 (nI 0)) rfl ⟨⟨trivial, g8⟩, g9⟩ ?_
      cases h
      exact Ev_ret rfl trivial
  · refine gd h (fun g10 h => ?_)
    refine gd h (fun g11 h => ?_)
    refine Ev_blk 5 (pc' := 65) (ls' := [.ref v0, .int v1, .int v2]) (st' := [.int v1]) (s' := setI s (sR s v0 0) 1 (nI 0)) rfl ⟨⟨trivial, g10⟩, g11⟩ ?_
    cases h
    exact Ev_ret rfl trivial
def l_C_find_4  : Nat → Nat → Int32 → Int32 → AS → Option (Int32 × AS)
  | 0 => fun _ _ _ _ => none
  | n + 1 => b_C_find_4  (l_C_find_4  n)
theorem u_C_find_4   {n : Nat} : ∀  {v0 : Nat} {v1 : Int32} {v2 : Int32} {s : AS} {o : Int32 × AS}, l_C_find_4  n v0 v1 v2 s = some o → Ev 4 mZ116 4 [.ref v0, .int v1, .int v2] [] s (some (.int o.1), o.2) := by
  induction n with
  | zero => intros; rename_i h; cases h
  | succ n ih => intros; rename_i h; exact t_C_find_4  (fun h => ih h) h
/-- RecordHeap.find()I -/
def f_C_find (s : AS) (a0 : Nat) : Option (Int32 × AS) :=
  l_C_find_4 fuel a0 (-(nI 1)) (nI 0) s
theorem t_C_find {s : AS} {a0 : Nat} {o : Int32 × AS} (h : f_C_find s a0 = some o) : Ev 4 mZ116 0 [.ref a0, .retAddr 0, .retAddr 0] [] s (some (.int o.1), o.2) := by
  unfold f_C_find at h
  refine Ev_blk 4 (pc' := 4) (ls' := [.ref a0, .int (-(nI 1)), .int (nI 0)]) (st' := []) (s' := s) rfl trivial ?_
  exact u_C_find_4 h

def b_C_fit_43 (k43 : Nat → Int32 → Int32 → AS → Option (Int32 × AS)) (v0 : Nat) (v2 : Int32) (v3 : Int32) (s : AS) : Option (Int32 × AS) :=
  if v3 < (nI 128) then
    if sT s v0 = 1 then
    if sT s (sR s v0 7) = 3 then
    (f_Desk_bring s (sR s v0 7) (sR s v0 2)).bind fun r1 =>
    if r1.1 = (-(nI 1)) then
      some (v2, r1.2)
    else
      k43 v0 (v2 + nI 1) (v3 + nI 1) r1.2
    else none
    else none
  else
    some (v2, s)
theorem t_C_fit_43 {k43 : Nat → Int32 → Int32 → AS → Option (Int32 × AS)} (H43 : ∀ {d1 : Value} {v0 : Nat} {v2 : Int32} {v3 : Int32} {s : AS} {o : Int32 × AS}, k43 v0 v2 v3 s = some o → Ev 6 mZ118 43 [.ref v0, d1, .int v2, .int v3] [] s (some (.int o.1), o.2)) {d1 : Value} {v0 : Nat} {v2 : Int32} {v3 : Int32} {s : AS} {o : Int32 × AS} (h : b_C_fit_43 k43 v0 v2 v3 s = some o) : Ev 6 mZ118 43 [.ref v0, d1, .int v2, .int v3] [] s (some (.int o.1), o.2) := by
  unfold b_C_fit_43 at h
  refine Ev_blk 3 (pc' := if v3 < (nI 128) then 50 else 74) (ls' := [.ref v0, d1, .int v2, .int v3]) (st' := []) (s' := s) rfl trivial ?_
  refine ib h (fun c1 h => ?_) (fun c1 h => ?_)
  · refine gd h (fun g2 h => ?_)
    refine gd h (fun g3 h => ?_)
    refine Ev_blk 4 (pc' := 58) (ls' := [.ref v0, d1, .int v2, .int v3]) (st' := [.ref (sR s v0 2), .ref (sR s v0 7)]) (s' := s) rfl ⟨⟨trivial, g2⟩, g2⟩ ?_
    refine bd h (fun r1 hr1 h => ?_)
    refine Ev_call 2 55 1 [.ref (sR s v0 7), .ref (sR s v0 2)] [] rfl rfl rfl rfl g3 rfl rfl (Nat.le_of_ble_eq_true rfl) (t_Desk_bring hr1) ?_
    refine Ev_blk 2 (pc' := if r1.1 = (-(nI 1)) then 74 else 65) (ls' := [.ref v0, d1, .int v2, .int v3]) (st' := []) (s' := r1.2) rfl trivial ?_
    refine ib h (fun c4 h => ?_) (fun c4 h => ?_)
    · refine Ev_blk 1 (pc' := 75) (ls' := [.ref v0, d1, .int v2, .int v3]) (st' := [.int v2]) (s' := r1.2) rfl trivial ?_
      cases h
      exact Ev_ret rfl trivial
    · refine Ev_blk 3 (pc' := 43) (ls' := [.ref v0, (clrV d1), .int (v2 + nI 1), .int (v3 + nI 1)]) (st' := []) (s' := r1.2) rfl trivial ?_
      exact H43 h
  · refine Ev_blk 1 (pc' := 75) (ls' := [.ref v0, d1, .int v2, .int v3]) (st' := [.int v2]) (s' := s) rfl trivial ?_
    cases h
    exact Ev_ret rfl trivial
def l_C_fit_43  : Nat → Nat → Int32 → Int32 → AS → Option (Int32 × AS)
  | 0 => fun _ _ _ _ => none
  | n + 1 => b_C_fit_43  (l_C_fit_43  n)
theorem u_C_fit_43   {n : Nat} : ∀ {d1 : Value} {v0 : Nat} {v2 : Int32} {v3 : Int32} {s : AS} {o : Int32 × AS}, l_C_fit_43  n v0 v2 v3 s = some o → Ev 6 mZ118 43 [.ref v0, d1, .int v2, .int v3] [] s (some (.int o.1), o.2) := by
  induction n with
  | zero => intros; rename_i h; cases h
  | succ n ih => intros; rename_i h; exact t_C_fit_43  (fun h => ih h) h
/-- RecordHeap.fit(I)I -/
def f_C_fit (s : AS) (a0 : Nat) (a1 : Int32) : Option (Int32 × AS) :=
  if a1 < (nI 0) then
    some (-(nI 1), s)
  else
    if (nI 200) < a1 then
      some (-(nI 1), s)
    else
      if sT s a0 = 1 then
      if sT s (sR s a0 7) = 3 then
      if sT s (sR s a0 6) = 3 then
      if sT s (sR s (sR s a0 7) 2) = 7 then
      (f_Pages_takeFrom s (sR s (sR s a0 7) 2) (sR s (sR s a0 6) 2)).bind fun r1 =>
      if sT r1 a0 = 1 then
      if sT r1 (sR r1 a0 2) = 9 then
      (f_Row_repeat r1 (sR r1 a0 2) a1 (nI 0)).bind fun r2 =>
      l_C_fit_43 fuel a0 (nI 0) (nI 0) r2
      else none
      else none
      else none
      else none
      else none
      else none
theorem t_C_fit {s : AS} {a0 : Nat} {a1 : Int32} {o : Int32 × AS} (h : f_C_fit s a0 a1 = some o) : Ev 6 mZ118 0 [.ref a0, .int a1, .retAddr 0, .retAddr 0] [] s (some (.int o.1), o.2) := by
  unfold f_C_fit at h
  refine Ev_blk 2 (pc' := if a1 < (nI 0) then 11 else 4) (ls' := [.ref a0, .int a1, .retAddr 0, .retAddr 0]) (st' := []) (s' := s) rfl trivial ?_
  refine ib h (fun c1 h => ?_) (fun c1 h => ?_)
  · refine Ev_blk 1 (pc' := 12) (ls' := [.ref a0, .int a1, .retAddr 0, .retAddr 0]) (st' := [.int (-(nI 1))]) (s' := s) rfl trivial ?_
    cases h
    exact Ev_ret rfl trivial
  · refine Ev_blk 3 (pc' := if (nI 200) < a1 then 11 else 13) (ls' := [.ref a0, .int a1, .retAddr 0, .retAddr 0]) (st' := []) (s' := s) rfl trivial ?_
    refine ib h (fun c2 h => ?_) (fun c2 h => ?_)
    · refine Ev_blk 1 (pc' := 12) (ls' := [.ref a0, .int a1, .retAddr 0, .retAddr 0]) (st' := [.int (-(nI 1))]) (s' := s) rfl trivial ?_
      cases h
      exact Ev_ret rfl trivial
    · refine gd h (fun g3 h => ?_)
      refine gd h (fun g4 h => ?_)
      refine gd h (fun g5 h => ?_)
      refine gd h (fun g6 h => ?_)
      refine Ev_blk 6 (pc' := 27) (ls' := [.ref a0, .int a1, .retAddr 0, .retAddr 0]) (st' := [.ref (sR s (sR s a0 6) 2), .ref (sR s (sR s a0 7) 2)]) (s' := s) rfl ⟨⟨⟨⟨trivial, g3⟩, g4⟩, g3⟩, g5⟩ ?_
      refine bd h (fun r1 hr1 h => ?_)
      refine Ev_call 2 42 1 [.ref (sR s (sR s a0 7) 2), .ref (sR s (sR s a0 6) 2)] [] rfl rfl rfl rfl g6 rfl rfl (Nat.le_of_ble_eq_true rfl) (t_Pages_takeFrom hr1) ?_
      refine gd h (fun g7 h => ?_)
      refine gd h (fun g8 h => ?_)
      refine Ev_blk 4 (pc' := 36) (ls' := [.ref a0, .int a1, .retAddr 0, .retAddr 0]) (st' := [.int (nI 0), .int a1, .ref (sR r1 a0 2)]) (s' := r1) rfl ⟨trivial, g7⟩ ?_
      refine bd h (fun r2 hr2 h => ?_)
      refine Ev_call 2 54 2 [.ref (sR r1 a0 2), .int a1, .int (nI 0)] [] rfl rfl rfl rfl g8 rfl rfl (Nat.le_of_ble_eq_true rfl) (t_Row_repeat hr2) ?_
      refine Ev_blk 4 (pc' := 43) (ls' := [.ref a0, .int a1, .int (nI 0), .int (nI 0)]) (st' := []) (s' := r2) rfl trivial ?_
      exact u_C_fit_43 h

def b_Pages_wasteRankOf_11 (s : AS) (k11 : Nat → Int32 → Int32 → Int32 → Int32 → Option Int32) (v0 : Nat) (v1 : Int32) (v2 : Int32) (v3 : Int32) (v4 : Int32) : Option Int32 :=
  if v4 < (nI 8) then
    if sT s v0 = 7 then
    (f_Pages_wasteOf s v0 v4).bind fun r1 =>
    if v2 < r1 then
      k11 v0 v1 v2 (v3 + nI 1) (v4 + nI 1)
    else
      if r1 = v2 then
        if v4 < v1 then
          k11 v0 v1 v2 (v3 + nI 1) (v4 + nI 1)
        else
          k11 v0 v1 v2 v3 (v4 + nI 1)
      else
        k11 v0 v1 v2 v3 (v4 + nI 1)
    else none
  else
    some v3
theorem t_Pages_wasteRankOf_11 {s : AS} {k11 : Nat → Int32 → Int32 → Int32 → Int32 → Option Int32} (H11 : ∀ {d5 : Value} {v0 : Nat} {v1 : Int32} {v2 : Int32} {v3 : Int32} {v4 : Int32} {o : Int32}, k11 v0 v1 v2 v3 v4 = some o → Ev 3 mZ120 11 [.ref v0, .int v1, .int v2, .int v3, .int v4, d5] [] s (some (.int o), s)) {d5 : Value} {v0 : Nat} {v1 : Int32} {v2 : Int32} {v3 : Int32} {v4 : Int32} {o : Int32} (h : b_Pages_wasteRankOf_11 s k11 v0 v1 v2 v3 v4 = some o) : Ev 3 mZ120 11 [.ref v0, .int v1, .int v2, .int v3, .int v4, d5] [] s (some (.int o), s) := by
  unfold b_Pages_wasteRankOf_11 at h
  refine Ev_blk 3 (pc' := if v4 < (nI 8) then 18 else 53) (ls' := [.ref v0, .int v1, .int v2, .int v3, .int v4, d5]) (st' := []) (s' := s) rfl trivial ?_
  refine ib h (fun c1 h => ?_) (fun c1 h => ?_)
  · refine gd h (fun g2 h => ?_)
    refine Ev_blk 2 (pc' := 21) (ls' := [.ref v0, .int v1, .int v2, .int v3, .int v4, d5]) (st' := [.int v4, .ref v0]) (s' := s) rfl trivial ?_
    refine bd h (fun r1 hr1 h => ?_)
    refine Ev_call 2 95 1 [.ref v0, .int v4] [] rfl rfl rfl rfl g2 rfl rfl (Nat.le_of_ble_eq_true rfl) (t_Pages_wasteOf hr1) ?_
    refine Ev_blk 4 (pc' := if v2 < r1 then 44 else 32) (ls' := [.ref v0, .int v1, .int v2, .int v3, .int v4, .int r1]) (st' := []) (s' := s) rfl trivial ?_
    refine ib h (fun c3 h => ?_) (fun c3 h => ?_)
    · refine Ev_blk 3 (pc' := 11) (ls' := [.ref v0, .int v1, .int v2, .int (v3 + nI 1), .int (v4 + nI 1), .int r1]) (st' := []) (s' := s) rfl trivial ?_
      exact H11 h
    · refine Ev_blk 3 (pc' := if r1 = v2 then 38 else 47) (ls' := [.ref v0, .int v1, .int v2, .int v3, .int v4, .int r1]) (st' := []) (s' := s) rfl trivial ?_
      refine ib h (fun c4 h => ?_) (fun c4 h => ?_)
      · refine Ev_blk 3 (pc' := if v4 < v1 then 44 else 47) (ls' := [.ref v0, .int v1, .int v2, .int v3, .int v4, .int r1]) (st' := []) (s' := s) rfl trivial ?_
        refine ib h (fun c5 h => ?_) (fun c5 h => ?_)
        · refine Ev_blk 3 (pc' := 11) (ls' := [.ref v0, .int v1, .int v2, .int (v3 + nI 1), .int (v4 + nI 1), .int r1]) (st' := []) (s' := s) rfl trivial ?_
          exact H11 h
        · refine Ev_blk 2 (pc' := 11) (ls' := [.ref v0, .int v1, .int v2, .int v3, .int (v4 + nI 1), .int r1]) (st' := []) (s' := s) rfl trivial ?_
          exact H11 h
      · refine Ev_blk 2 (pc' := 11) (ls' := [.ref v0, .int v1, .int v2, .int v3, .int (v4 + nI 1), .int r1]) (st' := []) (s' := s) rfl trivial ?_
        exact H11 h
  · refine Ev_blk 1 (pc' := 54) (ls' := [.ref v0, .int v1, .int v2, .int v3, .int v4, d5]) (st' := [.int v3]) (s' := s) rfl trivial ?_
    cases h
    exact Ev_ret rfl trivial
def l_Pages_wasteRankOf_11 (s : AS)  : Nat → Nat → Int32 → Int32 → Int32 → Int32 → Option Int32
  | 0 => fun _ _ _ _ _ => none
  | n + 1 => b_Pages_wasteRankOf_11 s  (l_Pages_wasteRankOf_11 s  n)
theorem u_Pages_wasteRankOf_11 {s : AS}   {n : Nat} : ∀ {d5 : Value} {v0 : Nat} {v1 : Int32} {v2 : Int32} {v3 : Int32} {v4 : Int32} {o : Int32}, l_Pages_wasteRankOf_11 s  n v0 v1 v2 v3 v4 = some o → Ev 3 mZ120 11 [.ref v0, .int v1, .int v2, .int v3, .int v4, d5] [] s (some (.int o), s) := by
  induction n with
  | zero => intros; rename_i h; cases h
  | succ n ih => intros; rename_i h; exact t_Pages_wasteRankOf_11  (fun h => ih h) h
/-- RecordHeap$Pages.wasteRankOf(I)I -/
def f_Pages_wasteRankOf (s : AS) (a0 : Nat) (a1 : Int32) : Option Int32 :=
  if sT s a0 = 7 then
  (f_Pages_wasteOf s a0 a1).bind fun r1 =>
  l_Pages_wasteRankOf_11 s fuel a0 a1 r1 (nI 0) (nI 0)
  else none
theorem t_Pages_wasteRankOf {s : AS} {a0 : Nat} {a1 : Int32} {o : Int32} (h : f_Pages_wasteRankOf s a0 a1 = some o) : Ev 3 mZ120 0 [.ref a0, .int a1, .retAddr 0, .retAddr 0, .retAddr 0, .retAddr 0] [] s (some (.int o), s) := by
  unfold f_Pages_wasteRankOf at h
  refine gd h (fun g1 h => ?_)
  refine Ev_blk 2 (pc' := 2) (ls' := [.ref a0, .int a1, .retAddr 0, .retAddr 0, .retAddr 0, .retAddr 0]) (st' := [.int a1, .ref a0]) (s' := s) rfl trivial ?_
  refine bd h (fun r1 hr1 h => ?_)
  refine Ev_call 2 95 1 [.ref a0, .int a1] [] rfl rfl rfl rfl g1 rfl rfl (Nat.le_of_ble_eq_true rfl) (t_Pages_wasteOf hr1) ?_
  refine Ev_blk 5 (pc' := 11) (ls' := [.ref a0, .int a1, .int r1, .int (nI 0), .int (nI 0), .retAddr 0]) (st' := []) (s' := s) rfl trivial ?_
  exact u_Pages_wasteRankOf_11 h

def b_C_worst_8 (s : AS) (k8 : Nat → Int32 → Int32 → Option Int32) (v0 : Nat) (v1 : Int32) (v2 : Int32) : Option Int32 :=
  if v2 < (nI 8) then
    if sT s v0 = 1 then
    if sT s (sR s v0 6) = 3 then
    if sT s (sR s (sR s v0 6) 2) = 7 then
    (f_Pages_wasteRankOf s (sR s (sR s v0 6) 2) v2).bind fun r1 =>
    if r1 = v1 then
      some v2
    else
      k8 v0 v1 (v2 + nI 1)
    else none
    else none
    else none
  else
    some (-(nI 1))
theorem t_C_worst_8 {s : AS} {k8 : Nat → Int32 → Int32 → Option Int32} (H8 : ∀ {v0 : Nat} {v1 : Int32} {v2 : Int32} {o : Int32}, k8 v0 v1 v2 = some o → Ev 4 mZ119 8 [.ref v0, .int v1, .int v2] [] s (some (.int o), s))  {v0 : Nat} {v1 : Int32} {v2 : Int32} {o : Int32} (h : b_C_worst_8 s k8 v0 v1 v2 = some o) : Ev 4 mZ119 8 [.ref v0, .int v1, .int v2] [] s (some (.int o), s) := by
  unfold b_C_worst_8 at h
  refine Ev_blk 3 (pc' := if v2 < (nI 8) then 14 else 37) (ls' := [.ref v0, .int v1, .int v2]) (st' := []) (s' := s) rfl trivial ?_
  refine ib h (fun c1 h => ?_) (fun c1 h => ?_)
  · refine gd h (fun g2 h => ?_)
    refine gd h (fun g3 h => ?_)
    refine gd h (fun g4 h => ?_)
    refine Ev_blk 4 (pc' := 22) (ls' := [.ref v0, .int v1, .int v2]) (st' := [.int v2, .ref (sR s (sR s v0 6) 2)]) (s' := s) rfl ⟨⟨trivial, g2⟩, g3⟩ ?_
    refine bd h (fun r1 hr1 h => ?_)
    refine Ev_call 2 120 1 [.ref (sR s (sR s v0 6) 2), .int v2] [] rfl rfl rfl rfl g4 rfl rfl (Nat.le_of_ble_eq_true rfl) (t_Pages_wasteRankOf hr1) ?_
    refine Ev_blk 2 (pc' := if r1 = v1 then 29 else 31) (ls' := [.ref v0, .int v1, .int v2]) (st' := []) (s' := s) rfl trivial ?_
    refine ib h (fun c5 h => ?_) (fun c5 h => ?_)
    · refine Ev_blk 1 (pc' := 30) (ls' := [.ref v0, .int v1, .int v2]) (st' := [.int v2]) (s' := s) rfl trivial ?_
      cases h
      exact Ev_ret rfl trivial
    · refine Ev_blk 2 (pc' := 8) (ls' := [.ref v0, .int v1, .int (v2 + nI 1)]) (st' := []) (s' := s) rfl trivial ?_
      exact H8 h
  · refine Ev_blk 1 (pc' := 38) (ls' := [.ref v0, .int v1, .int v2]) (st' := [.int (-(nI 1))]) (s' := s) rfl trivial ?_
    cases h
    exact Ev_ret rfl trivial
def l_C_worst_8 (s : AS)  : Nat → Nat → Int32 → Int32 → Option Int32
  | 0 => fun _ _ _ => none
  | n + 1 => b_C_worst_8 s  (l_C_worst_8 s  n)
theorem u_C_worst_8 {s : AS}   {n : Nat} : ∀  {v0 : Nat} {v1 : Int32} {v2 : Int32} {o : Int32}, l_C_worst_8 s  n v0 v1 v2 = some o → Ev 4 mZ119 8 [.ref v0, .int v1, .int v2] [] s (some (.int o), s) := by
  induction n with
  | zero => intros; rename_i h; cases h
  | succ n ih => intros; rename_i h; exact t_C_worst_8  (fun h => ih h) h
/-- RecordHeap.worst(I)I -/
def f_C_worst (s : AS) (a0 : Nat) (a1 : Int32) : Option Int32 :=
  if a1 < (nI 0) then
    some (-(nI 1))
  else
    l_C_worst_8 s fuel a0 a1 (nI 0)
theorem t_C_worst {s : AS} {a0 : Nat} {a1 : Int32} {o : Int32} (h : f_C_worst s a0 a1 = some o) : Ev 4 mZ119 0 [.ref a0, .int a1, .retAddr 0] [] s (some (.int o), s) := by
  unfold f_C_worst at h
  refine Ev_blk 2 (pc' := if a1 < (nI 0) then 4 else 6) (ls' := [.ref a0, .int a1, .retAddr 0]) (st' := []) (s' := s) rfl trivial ?_
  refine ib h (fun c1 h => ?_) (fun c1 h => ?_)
  · refine Ev_blk 1 (pc' := 5) (ls' := [.ref a0, .int a1, .retAddr 0]) (st' := [.int (-(nI 1))]) (s' := s) rfl trivial ?_
    cases h
    exact Ev_ret rfl trivial
  · refine Ev_blk 2 (pc' := 8) (ls' := [.ref a0, .int a1, .int (nI 0)]) (st' := []) (s' := s) rfl trivial ?_
    exact u_C_worst_8 h

def b_Arrays_fill2_6 (k6 : Nat → Int64 → Int32 → Int32 → AS → Option AS) (v0 : Nat) (v1 : Int64) (v3 : Int32) (v4 : Int32) (s : AS) : Option AS :=
  if v3 < v4 then
    if sT s v0 = 21 ∧ inA v3 (sN s v0) then
    k6 v0 v1 (v3 + nI 1) v4 (setJ s v0 v3.toNatClampNeg v1)
    else none
  else
    some s
theorem t_Arrays_fill2_6 {k6 : Nat → Int64 → Int32 → Int32 → AS → Option AS} (H6 : ∀ {d2 : Value} {v0 : Nat} {v1 : Int64} {v3 : Int32} {v4 : Int32} {s : AS} {o : AS}, k6 v0 v1 v3 v4 s = some o → Ev 0 mZ122 6 [.ref v0, .long v1, d2, .int v3, .int v4] [] s (none, o)) {d2 : Value} {v0 : Nat} {v1 : Int64} {v3 : Int32} {v4 : Int32} {s : AS} {o : AS} (h : b_Arrays_fill2_6 k6 v0 v1 v3 v4 s = some o) : Ev 0 mZ122 6 [.ref v0, .long v1, d2, .int v3, .int v4] [] s (none, o) := by
  unfold b_Arrays_fill2_6 at h
  refine Ev_blk 3 (pc' := if v3 < v4 then 12 else 22) (ls' := [.ref v0, .long v1, d2, .int v3, .int v4]) (st' := []) (s' := s) rfl trivial ?_
  refine ib h (fun c1 h => ?_) (fun c1 h => ?_)
  · refine gd h (fun g2 h => ?_)
    refine Ev_blk 6 (pc' := 6) (ls' := [.ref v0, .long v1, (clrV d2), .int (v3 + nI 1), .int v4]) (st' := []) (s' := setJ s v0 v3.toNatClampNeg v1) rfl ⟨trivial, g2⟩ ?_
    exact H6 h
  · cases h
    exact Ev_ret rfl trivial
def l_Arrays_fill2_6  : Nat → Nat → Int64 → Int32 → Int32 → AS → Option AS
  | 0 => fun _ _ _ _ _ => none
  | n + 1 => b_Arrays_fill2_6  (l_Arrays_fill2_6  n)
theorem u_Arrays_fill2_6   {n : Nat} : ∀ {d2 : Value} {v0 : Nat} {v1 : Int64} {v3 : Int32} {v4 : Int32} {s : AS} {o : AS}, l_Arrays_fill2_6  n v0 v1 v3 v4 s = some o → Ev 0 mZ122 6 [.ref v0, .long v1, d2, .int v3, .int v4] [] s (none, o) := by
  induction n with
  | zero => intros; rename_i h; cases h
  | succ n ih => intros; rename_i h; exact t_Arrays_fill2_6  (fun h => ih h) h
/-- java/util/Arrays.fill([JJ)V -/
def f_Arrays_fill2 (s : AS) (a0 : Nat) (a1 : Int64) : Option AS :=
  if 20 ≤ sT s a0 then
  l_Arrays_fill2_6 fuel a0 a1 (nI 0) (nI (sN s a0)) s
  else none
theorem t_Arrays_fill2 {s : AS} {a0 : Nat} {a1 : Int64} {o : AS} (h : f_Arrays_fill2 s a0 a1 = some o) : Ev 0 mZ122 0 [.ref a0, .long a1, .retAddr 0, .retAddr 0, .retAddr 0] [] s (none, o) := by
  unfold f_Arrays_fill2 at h
  refine gd h (fun g1 h => ?_)
  refine Ev_blk 5 (pc' := 6) (ls' := [.ref a0, .long a1, .retAddr 0, .int (nI 0), .int (nI (sN s a0))]) (st' := []) (s' := s) rfl ⟨trivial, g1⟩ ?_
  exact u_Arrays_fill2_6 h

def b_C_few_96 (k56 : Nat → Int32 → Int32 → Int64 → Int32 → AS → Option (Int64 × AS)) (k67 : Nat → Int32 → Int32 → Int64 → Int32 → Int32 → AS → Option (Int64 × AS)) (v0 : Nat) (v1 : Int32) (v2 : Int32) (v3 : Int64) (v5 : Int32) (v6 : Int32) (w0 : Int64) (s : AS) : Option (Int64 × AS) :=
  if sT s v0 = 1 then
  if sT s (sR s v0 12) = 21 ∧ inA v6 (sN s (sR s v0 12)) then
  if ¬ (lN 10) = lN 0 then
  k67 v0 v1 v2 v3 v5 (v6 + (-(nI 1))) (setJ s (sR s v0 12) v6.toNatClampNeg ((((sL s (sR s v0 12) v6.toNatClampNeg) * ((lN 10) - v3)) / (lN 10)) + w0))
  else none
  else none
  else none
theorem t_C_few_96 {k56 : Nat → Int32 → Int32 → Int64 → Int32 → AS → Option (Int64 × AS)} {k67 : Nat → Int32 → Int32 → Int64 → Int32 → Int32 → AS → Option (Int64 × AS)} (H56 : ∀ {d4 d6 d7 d8 : Value} {v0 : Nat} {v1 : Int32} {v2 : Int32} {v3 : Int64} {v5 : Int32} {s : AS} {o : Int64 × AS}, k56 v0 v1 v2 v3 v5 s = some o → Ev 1 mZ121 56 [.ref v0, .int v1, .int v2, .long v3, d4, .int v5, d6, d7, d8] [] s (some (.long o.1), o.2)) (H67 : ∀ {d4 d7 d8 : Value} {v0 : Nat} {v1 : Int32} {v2 : Int32} {v3 : Int64} {v5 : Int32} {v6 : Int32} {s : AS} {o : Int64 × AS}, k67 v0 v1 v2 v3 v5 v6 s = some o → Ev 1 mZ121 67 [.ref v0, .int v1, .int v2, .long v3, d4, .int v5, .int v6, d7, d8] [] s (some (.long o.1), o.2)) {d4 d7 d8 : Value} {v0 : Nat} {v1 : Int32} {v2 : Int32} {v3 : Int64} {v5 : Int32} {v6 : Int32} {w0 : Int64} {s : AS} {o : Int64 × AS} (h : b_C_few_96 k56 k67 v0 v1 v2 v3 v5 v6 w0 s = some o) : Ev 1 mZ121 96 [.ref v0, .int v1, .int v2, .long v3, d4, .int v5, .int v6, d7, d8] [.long w0] s (some (.long o.1), o.2) := by
  unfold b_C_few_96 at h
  refine gd h (fun g1 h => ?_)
  refine gd h (fun g2 h => ?_)
  refine gd h (fun g3 h => ?_)
  refine Ev_blk 19 (pc' := 67) (ls' := [.ref v0, .int v1, .int v2, .long v3, d4, .int v5, .int (v6 + (-(nI 1))), .long w0, .retAddr 0]) (st' := []) (s' := setJ s (sR s v0 12) v6.toNatClampNeg ((((sL s (sR s v0 12) v6.toNatClampNeg) * ((lN 10) - v3)) / (lN 10)) + w0)) rfl ⟨⟨⟨⟨⟨trivial, g1⟩, g1⟩, g2⟩, g3⟩, g2⟩ ?_
  exact H67 h
def b_C_few_67 (k56 : Nat → Int32 → Int32 → Int64 → Int32 → AS → Option (Int64 × AS)) (k67 : Nat → Int32 → Int32 → Int64 → Int32 → Int32 → AS → Option (Int64 × AS)) (v0 : Nat) (v1 : Int32) (v2 : Int32) (v3 : Int64) (v5 : Int32) (v6 : Int32) (s : AS) : Option (Int64 × AS) :=
  if v6 < (nI 0) then
    k56 v0 v1 v2 v3 (v5 + nI 1) s
  else
    if (nI 0) < v6 then
      if sT s v0 = 1 then
      if sT s (sR s v0 12) = 21 ∧ inA (v6 - (nI 1)) (sN s (sR s v0 12)) then
      if ¬ (lN 10) = lN 0 then
      b_C_few_96 k56 k67 v0 v1 v2 v3 v5 v6 (((sL s (sR s v0 12) (v6 - (nI 1)).toNatClampNeg) * v3) / (lN 10)) s
      else none
      else none
      else none
    else
      b_C_few_96 k56 k67 v0 v1 v2 v3 v5 v6 (lN 0) s
theorem t_C_few_67 {k56 : Nat → Int32 → Int32 → Int64 → Int32 → AS → Option (Int64 × AS)} {k67 : Nat → Int32 → Int32 → Int64 → Int32 → Int32 → AS → Option (Int64 × AS)} (H56 : ∀ {d4 d6 d7 d8 : Value} {v0 : Nat} {v1 : Int32} {v2 : Int32} {v3 : Int64} {v5 : Int32} {s : AS} {o : Int64 × AS}, k56 v0 v1 v2 v3 v5 s = some o → Ev 1 mZ121 56 [.ref v0, .int v1, .int v2, .long v3, d4, .int v5, d6, d7, d8] [] s (some (.long o.1), o.2)) (H67 : ∀ {d4 d7 d8 : Value} {v0 : Nat} {v1 : Int32} {v2 : Int32} {v3 : Int64} {v5 : Int32} {v6 : Int32} {s : AS} {o : Int64 × AS}, k67 v0 v1 v2 v3 v5 v6 s = some o → Ev 1 mZ121 67 [.ref v0, .int v1, .int v2, .long v3, d4, .int v5, .int v6, d7, d8] [] s (some (.long o.1), o.2)) {d4 d7 d8 : Value} {v0 : Nat} {v1 : Int32} {v2 : Int32} {v3 : Int64} {v5 : Int32} {v6 : Int32} {s : AS} {o : Int64 × AS} (h : b_C_few_67 k56 k67 v0 v1 v2 v3 v5 v6 s = some o) : Ev 1 mZ121 67 [.ref v0, .int v1, .int v2, .long v3, d4, .int v5, .int v6, d7, d8] [] s (some (.long o.1), o.2) := by
  unfold b_C_few_67 at h
  refine Ev_blk 2 (pc' := if v6 < (nI 0) then 131 else 72) (ls' := [.ref v0, .int v1, .int v2, .long v3, d4, .int v5, .int v6, d7, d8]) (st' := []) (s' := s) rfl trivial ?_
  refine ib h (fun c1 h => ?_) (fun c1 h => ?_)
  · refine Ev_blk 2 (pc' := 56) (ls' := [.ref v0, .int v1, .int v2, .long v3, (clrV d4), .int (v5 + nI 1), .int v6, d7, d8]) (st' := []) (s' := s) rfl trivial ?_
    exact H56 h
  · refine Ev_blk 2 (pc' := if (nI 0) < v6 then 77 else 95) (ls' := [.ref v0, .int v1, .int v2, .long v3, d4, .int v5, .int v6, d7, d8]) (st' := []) (s' := s) rfl trivial ?_
    refine ib h (fun c2 h => ?_) (fun c2 h => ?_)
    · refine gd h (fun g3 h => ?_)
      refine gd h (fun g4 h => ?_)
      refine gd h (fun g5 h => ?_)
      refine Ev_blk 11 (pc' := 96) (ls' := [.ref v0, .int v1, .int v2, .long v3, d4, .int v5, .int v6, d7, d8]) (st' := [.long (((sL s (sR s v0 12) (v6 - (nI 1)).toNatClampNeg) * v3) / (lN 10))]) (s' := s) rfl ⟨⟨⟨trivial, g3⟩, g4⟩, g5⟩ ?_
      exact t_C_few_96 H56 H67 h
    · refine Ev_blk 1 (pc' := 96) (ls' := [.ref v0, .int v1, .int v2, .long v3, d4, .int v5, .int v6, d7, d8]) (st' := [.long (lN 0)]) (s' := s) rfl trivial ?_
      exact t_C_few_96 H56 H67 h
def l_C_few_67 (k56 : Nat → Int32 → Int32 → Int64 → Int32 → AS → Option (Int64 × AS)) : Nat → Nat → Int32 → Int32 → Int64 → Int32 → Int32 → AS → Option (Int64 × AS)
  | 0 => fun _ _ _ _ _ _ _ => none
  | n + 1 => b_C_few_67 k56 (l_C_few_67 k56 n)
theorem u_C_few_67 {k56 : Nat → Int32 → Int32 → Int64 → Int32 → AS → Option (Int64 × AS)} (H56 : ∀ {d4 d6 d7 d8 : Value} {v0 : Nat} {v1 : Int32} {v2 : Int32} {v3 : Int64} {v5 : Int32} {s : AS} {o : Int64 × AS}, k56 v0 v1 v2 v3 v5 s = some o → Ev 1 mZ121 56 [.ref v0, .int v1, .int v2, .long v3, d4, .int v5, d6, d7, d8] [] s (some (.long o.1), o.2)) {n : Nat} : ∀ {d4 d7 d8 : Value} {v0 : Nat} {v1 : Int32} {v2 : Int32} {v3 : Int64} {v5 : Int32} {v6 : Int32} {s : AS} {o : Int64 × AS}, l_C_few_67 k56 n v0 v1 v2 v3 v5 v6 s = some o → Ev 1 mZ121 67 [.ref v0, .int v1, .int v2, .long v3, d4, .int v5, .int v6, d7, d8] [] s (some (.long o.1), o.2) := by
  induction n with
  | zero => intros; rename_i h; cases h
  | succ n ih => intros; rename_i h; exact t_C_few_67 H56 (fun h => ih h) h
def b_C_few_143 (k143 : Nat → Int32 → Int64 → Int32 → AS → Option (Int64 × AS)) (v0 : Nat) (v1 : Int32) (v5 : Int64) (v7 : Int32) (s : AS) : Option (Int64 × AS) :=
  if v7 < v1 then
    if sT s v0 = 1 then
    if sT s (sR s v0 12) = 21 ∧ inA v7 (sN s (sR s v0 12)) then
    k143 v0 v1 (v5 + (sL s (sR s v0 12) v7.toNatClampNeg)) (v7 + nI 1) s
    else none
    else none
  else
    some (v5, s)
theorem t_C_few_143 {k143 : Nat → Int32 → Int64 → Int32 → AS → Option (Int64 × AS)} (H143 : ∀ {d2 d3 d4 d6 d8 : Value} {v0 : Nat} {v1 : Int32} {v5 : Int64} {v7 : Int32} {s : AS} {o : Int64 × AS}, k143 v0 v1 v5 v7 s = some o → Ev 1 mZ121 143 [.ref v0, .int v1, d2, d3, d4, .long v5, d6, .int v7, d8] [] s (some (.long o.1), o.2)) {d2 d3 d4 d6 d8 : Value} {v0 : Nat} {v1 : Int32} {v5 : Int64} {v7 : Int32} {s : AS} {o : Int64 × AS} (h : b_C_few_143 k143 v0 v1 v5 v7 s = some o) : Ev 1 mZ121 143 [.ref v0, .int v1, d2, d3, d4, .long v5, d6, .int v7, d8] [] s (some (.long o.1), o.2) := by
  unfold b_C_few_143 at h
  refine Ev_blk 3 (pc' := if v7 < v1 then 149 else 167) (ls' := [.ref v0, .int v1, d2, d3, d4, .long v5, d6, .int v7, d8]) (st' := []) (s' := s) rfl trivial ?_
  refine ib h (fun c1 h => ?_) (fun c1 h => ?_)
  · refine gd h (fun g2 h => ?_)
    refine gd h (fun g3 h => ?_)
    refine Ev_blk 9 (pc' := 143) (ls' := [.ref v0, .int v1, d2, d3, (clrV d4), .long (v5 + (sL s (sR s v0 12) v7.toNatClampNeg)), .retAddr 0, .int (v7 + nI 1), d8]) (st' := []) (s' := s) rfl ⟨⟨trivial, g2⟩, g3⟩ ?_
    exact H143 h
  · refine Ev_blk 1 (pc' := 169) (ls' := [.ref v0, .int v1, d2, d3, d4, .long v5, d6, .int v7, d8]) (st' := [.long v5]) (s' := s) rfl trivial ?_
    cases h
    exact Ev_ret rfl trivial
def l_C_few_143  : Nat → Nat → Int32 → Int64 → Int32 → AS → Option (Int64 × AS)
  | 0 => fun _ _ _ _ _ => none
  | n + 1 => b_C_few_143  (l_C_few_143  n)
theorem u_C_few_143   {n : Nat} : ∀ {d2 d3 d4 d6 d8 : Value} {v0 : Nat} {v1 : Int32} {v5 : Int64} {v7 : Int32} {s : AS} {o : Int64 × AS}, l_C_few_143  n v0 v1 v5 v7 s = some o → Ev 1 mZ121 143 [.ref v0, .int v1, d2, d3, d4, .long v5, d6, .int v7, d8] [] s (some (.long o.1), o.2) := by
  induction n with
  | zero => intros; rename_i h; cases h
  | succ n ih => intros; rename_i h; exact t_C_few_143  (fun h => ih h) h
def b_C_few_56 (k56 : Nat → Int32 → Int32 → Int64 → Int32 → AS → Option (Int64 × AS)) (v0 : Nat) (v1 : Int32) (v2 : Int32) (v3 : Int64) (v5 : Int32) (s : AS) : Option (Int64 × AS) :=
  if v5 < v2 then
    l_C_few_67 k56 fuel v0 v1 v2 v3 v5 (v1 - (nI 1)) s
  else
    l_C_few_143 fuel v0 v1 (lN 0) (nI 0) s
theorem t_C_few_56 {k56 : Nat → Int32 → Int32 → Int64 → Int32 → AS → Option (Int64 × AS)} (H56 : ∀ {d4 d6 d7 d8 : Value} {v0 : Nat} {v1 : Int32} {v2 : Int32} {v3 : Int64} {v5 : Int32} {s : AS} {o : Int64 × AS}, k56 v0 v1 v2 v3 v5 s = some o → Ev 1 mZ121 56 [.ref v0, .int v1, .int v2, .long v3, d4, .int v5, d6, d7, d8] [] s (some (.long o.1), o.2)) {d4 d6 d7 d8 : Value} {v0 : Nat} {v1 : Int32} {v2 : Int32} {v3 : Int64} {v5 : Int32} {s : AS} {o : Int64 × AS} (h : b_C_few_56 k56 v0 v1 v2 v3 v5 s = some o) : Ev 1 mZ121 56 [.ref v0, .int v1, .int v2, .long v3, d4, .int v5, d6, d7, d8] [] s (some (.long o.1), o.2) := by
  unfold b_C_few_56 at h
  refine Ev_blk 3 (pc' := if v5 < v2 then 62 else 137) (ls' := [.ref v0, .int v1, .int v2, .long v3, d4, .int v5, d6, d7, d8]) (st' := []) (s' := s) rfl trivial ?_
  refine ib h (fun c1 h => ?_) (fun c1 h => ?_)
  · refine Ev_blk 4 (pc' := 67) (ls' := [.ref v0, .int v1, .int v2, .long v3, d4, .int v5, .int (v1 - (nI 1)), d7, d8]) (st' := []) (s' := s) rfl trivial ?_
    exact u_C_few_67 H56 h
  · refine Ev_blk 4 (pc' := 143) (ls' := [.ref v0, .int v1, .int v2, .long v3, (clrV d4), .long (lN 0), .retAddr 0, .int (nI 0), d8]) (st' := []) (s' := s) rfl trivial ?_
    exact u_C_few_143 h
def l_C_few_56  : Nat → Nat → Int32 → Int32 → Int64 → Int32 → AS → Option (Int64 × AS)
  | 0 => fun _ _ _ _ _ _ => none
  | n + 1 => b_C_few_56  (l_C_few_56  n)
theorem u_C_few_56   {n : Nat} : ∀ {d4 d6 d7 d8 : Value} {v0 : Nat} {v1 : Int32} {v2 : Int32} {v3 : Int64} {v5 : Int32} {s : AS} {o : Int64 × AS}, l_C_few_56  n v0 v1 v2 v3 v5 s = some o → Ev 1 mZ121 56 [.ref v0, .int v1, .int v2, .long v3, d4, .int v5, d6, d7, d8] [] s (some (.long o.1), o.2) := by
  induction n with
  | zero => intros; rename_i h; cases h
  | succ n ih => intros; rename_i h; exact t_C_few_56  (fun h => ih h) h
/-- RecordHeap.few(II)J -/
def f_C_few (s : AS) (a0 : Nat) (a1 : Int32) (a2 : Int32) : Option (Int64 × AS) :=
  if a1 < (nI 1) then
    some ((-1 : Int64), s)
  else
    if (nI 20) < a1 then
      some ((-1 : Int64), s)
    else
      if a2 < (nI 0) then
        some ((-1 : Int64), s)
      else
        if (nI 99) < a2 then
          some ((-1 : Int64), s)
        else
          if sT s a0 = 1 then
          if sT s (sR s a0 5) = 11 then
          if sT s (sR s (sR s a0 5) 0) = 20 ∧ inA (nI 1) (sN s (sR s (sR s a0 5) 0)) then
          (f_Arrays_fill2 s (sR s a0 12) (lN 0)).bind fun r1 =>
          if sT r1 a0 = 1 then
          if sT r1 (sR r1 a0 12) = 21 ∧ inA (nI 0) (sN r1 (sR r1 a0 12)) then
          l_C_few_56 fuel a0 a1 a2 ((sI s (sR s (sR s a0 5) 0) (nI 1).toNatClampNeg).toInt64) (nI 0) (setJ r1 (sR r1 a0 12) (nI 0).toNatClampNeg (lN 1000000000000))
          else none
          else none
          else none
          else none
          else none
theorem t_C_few {s : AS} {a0 : Nat} {a1 : Int32} {a2 : Int32} {o : Int64 × AS} (h : f_C_few s a0 a1 a2 = some o) : Ev 1 mZ121 0 [.ref a0, .int a1, .int a2, .retAddr 0, .retAddr 0, .retAddr 0, .retAddr 0, .retAddr 0, .retAddr 0] [] s (some (.long o.1), o.2) := by
  unfold f_C_few at h
  refine Ev_blk 3 (pc' := if a1 < (nI 1) then 21 else 5) (ls' := [.ref a0, .int a1, .int a2, .retAddr 0, .retAddr 0, .retAddr 0, .retAddr 0, .retAddr 0, .retAddr 0]) (st' := []) (s' := s) rfl trivial ?_
  refine ib h (fun c1 h => ?_) (fun c1 h => ?_)
  · refine Ev_blk 1 (pc' := 24) (ls' := [.ref a0, .int a1, .int a2, .retAddr 0, .retAddr 0, .retAddr 0, .retAddr 0, .retAddr 0, .retAddr 0]) (st' := [.long (-1 : Int64)]) (s' := s) rfl trivial ?_
    cases h
    exact Ev_ret rfl trivial
  · refine Ev_blk 3 (pc' := if (nI 20) < a1 then 21 else 11) (ls' := [.ref a0, .int a1, .int a2, .retAddr 0, .retAddr 0, .retAddr 0, .retAddr 0, .retAddr 0, .retAddr 0]) (st' := []) (s' := s) rfl trivial ?_
    refine ib h (fun c2 h => ?_) (fun c2 h => ?_)
    · refine Ev_blk 1 (pc' := 24) (ls' := [.ref a0, .int a1, .int a2, .retAddr 0, .retAddr 0, .retAddr 0, .retAddr 0, .retAddr 0, .retAddr 0]) (st' := [.long (-1 : Int64)]) (s' := s) rfl trivial ?_
      cases h
      exact Ev_ret rfl trivial
    · refine Ev_blk 2 (pc' := if a2 < (nI 0) then 21 else 15) (ls' := [.ref a0, .int a1, .int a2, .retAddr 0, .retAddr 0, .retAddr 0, .retAddr 0, .retAddr 0, .retAddr 0]) (st' := []) (s' := s) rfl trivial ?_
      refine ib h (fun c3 h => ?_) (fun c3 h => ?_)
      · refine Ev_blk 1 (pc' := 24) (ls' := [.ref a0, .int a1, .int a2, .retAddr 0, .retAddr 0, .retAddr 0, .retAddr 0, .retAddr 0, .retAddr 0]) (st' := [.long (-1 : Int64)]) (s' := s) rfl trivial ?_
        cases h
        exact Ev_ret rfl trivial
      · refine Ev_blk 3 (pc' := if (nI 99) < a2 then 21 else 25) (ls' := [.ref a0, .int a1, .int a2, .retAddr 0, .retAddr 0, .retAddr 0, .retAddr 0, .retAddr 0, .retAddr 0]) (st' := []) (s' := s) rfl trivial ?_
        refine ib h (fun c4 h => ?_) (fun c4 h => ?_)
        · refine Ev_blk 1 (pc' := 24) (ls' := [.ref a0, .int a1, .int a2, .retAddr 0, .retAddr 0, .retAddr 0, .retAddr 0, .retAddr 0, .retAddr 0]) (st' := [.long (-1 : Int64)]) (s' := s) rfl trivial ?_
          cases h
          exact Ev_ret rfl trivial
        · refine gd h (fun g5 h => ?_)
          refine gd h (fun g6 h => ?_)
          refine gd h (fun g7 h => ?_)
          refine Ev_blk 10 (pc' := 41) (ls' := [.ref a0, .int a1, .int a2, .long ((sI s (sR s (sR s a0 5) 0) (nI 1).toNatClampNeg).toInt64), .retAddr 0, .retAddr 0, .retAddr 0, .retAddr 0, .retAddr 0]) (st' := [.long (lN 0), .ref (sR s a0 12)]) (s' := s) rfl ⟨⟨⟨⟨trivial, g5⟩, g6⟩, ⟨Or.inl g7.1, g7.2⟩⟩, g5⟩ ?_
          refine bd h (fun r1 hr1 h => ?_)
          refine Ev_call 1 122 2 [.ref (sR s a0 12), .long (lN 0)] [] rfl rfl rfl rfl trivial rfl rfl (Nat.le_of_ble_eq_true rfl) (t_Arrays_fill2 hr1) ?_
          refine gd h (fun g8 h => ?_)
          refine gd h (fun g9 h => ?_)
          refine Ev_blk 7 (pc' := 56) (ls' := [.ref a0, .int a1, .int a2, .long ((sI s (sR s (sR s a0 5) 0) (nI 1).toNatClampNeg).toInt64), .retAddr 0, .int (nI 0), .retAddr 0, .retAddr 0, .retAddr 0]) (st' := []) (s' := setJ r1 (sR r1 a0 12) (nI 0).toNatClampNeg (lN 1000000000000)) rfl ⟨⟨trivial, g8⟩, g9⟩ ?_
          exact u_C_few_56 h

def b_C_compare_25  (v0 : Nat) (v1 : Int32) (v2 : Int32) (s : AS) : Option (Int32 × AS) :=
  if sT s v0 = 1 then
  if sT s (sR s v0 5) = 11 then
  (f_Setting_lawOf s (sR s v0 5) v1).bind fun r1 =>
  if sT s (sR s v0 6) = 3 then
  (f_Desk_pageFor s (sR s v0 6) v2 r1).bind fun r2 =>
  some (r2.1, r2.2)
  else none
  else none
  else none
theorem t_C_compare_25    {v0 : Nat} {v1 : Int32} {v2 : Int32} {s : AS} {o : Int32 × AS} (h : b_C_compare_25  v0 v1 v2 s = some o) : Ev 4 mZ123 25 [.ref v0, .int v1, .int v2] [] s (some (.int o.1), o.2) := by
  unfold b_C_compare_25 at h
  refine gd h (fun g1 h => ?_)
  refine gd h (fun g2 h => ?_)
  refine Ev_blk 6 (pc' := 35) (ls' := [.ref v0, .int v1, .int v2]) (st' := [.int v1, .ref (sR s v0 5), .int v2, .ref (sR s v0 6)]) (s' := s) rfl ⟨⟨trivial, g1⟩, g1⟩ ?_
  refine bd h (fun r1 hr1 h => ?_)
  refine Ev_call 2 59 1 [.ref (sR s v0 5), .int v1] [.int v2, .ref (sR s v0 6)] rfl rfl rfl rfl g2 rfl rfl (Nat.le_of_ble_eq_true rfl) (t_Setting_lawOf hr1) ?_
  refine gd h (fun g3 h => ?_)
  refine bd h (fun r2 hr2 h => ?_)
  refine Ev_call 2 61 2 [.ref (sR s v0 6), .int v2, .ref r1] [] rfl rfl rfl rfl g3 rfl rfl (Nat.le_of_ble_eq_true rfl) (t_Desk_pageFor hr2) ?_
  cases h
  exact Ev_ret rfl trivial
/-- RecordHeap.compare(II)I -/
def f_C_compare (s : AS) (a0 : Nat) (a1 : Int32) (a2 : Int32) : Option (Int32 × AS) :=
  (f_C_isCellSize s a2).bind fun r1 =>
  if r1 = (nI 0) then
    some (-(nI 1), s)
  else
    if a1 = (-(nI 1)) then
      b_C_compare_25 a0 a1 a2 s
    else
      if sT s a0 = 1 then
      if sT s (sR s a0 5) = 11 then
      (f_Setting_hasLaw s (sR s a0 5) a1).bind fun r2 =>
      if r2 = (nI 0) then
        some (-(nI 1), s)
      else
        b_C_compare_25 a0 a1 a2 s
      else none
      else none
theorem t_C_compare {s : AS} {a0 : Nat} {a1 : Int32} {a2 : Int32} {o : Int32 × AS} (h : f_C_compare s a0 a1 a2 = some o) : Ev 4 mZ123 0 [.ref a0, .int a1, .int a2] [] s (some (.int o.1), o.2) := by
  unfold f_C_compare at h
  refine Ev_blk 1 (pc' := 1) (ls' := [.ref a0, .int a1, .int a2]) (st' := [.int a2]) (s' := s) rfl trivial ?_
  refine bd h (fun r1 hr1 h => ?_)
  refine Ev_call 1 107 1 [.int a2] [] rfl rfl rfl rfl trivial rfl rfl (Nat.le_of_ble_eq_true rfl) (t_C_isCellSize hr1) ?_
  refine Ev_blk 1 (pc' := if r1 = (nI 0) then 23 else 7) (ls' := [.ref a0, .int a1, .int a2]) (st' := []) (s' := s) rfl trivial ?_
  refine ib h (fun c1 h => ?_) (fun c1 h => ?_)
  · refine Ev_blk 1 (pc' := 24) (ls' := [.ref a0, .int a1, .int a2]) (st' := [.int (-(nI 1))]) (s' := s) rfl trivial ?_
    cases h
    exact Ev_ret rfl trivial
  · refine Ev_blk 3 (pc' := if a1 = (-(nI 1)) then 25 else 12) (ls' := [.ref a0, .int a1, .int a2]) (st' := []) (s' := s) rfl trivial ?_
    refine ib h (fun c2 h => ?_) (fun c2 h => ?_)
    · exact t_C_compare_25 h
    · refine gd h (fun g3 h => ?_)
      refine gd h (fun g4 h => ?_)
      refine Ev_blk 3 (pc' := 17) (ls' := [.ref a0, .int a1, .int a2]) (st' := [.int a1, .ref (sR s a0 5)]) (s' := s) rfl ⟨trivial, g3⟩ ?_
      refine bd h (fun r2 hr2 h => ?_)
      refine Ev_call 2 60 1 [.ref (sR s a0 5), .int a1] [] rfl rfl rfl rfl g4 rfl rfl (Nat.le_of_ble_eq_true rfl) (t_Setting_hasLaw hr2) ?_
      refine Ev_blk 1 (pc' := if r2 = (nI 0) then 23 else 25) (ls' := [.ref a0, .int a1, .int a2]) (st' := []) (s' := s) rfl trivial ?_
      refine ib h (fun c5 h => ?_) (fun c5 h => ?_)
      · refine Ev_blk 1 (pc' := 24) (ls' := [.ref a0, .int a1, .int a2]) (st' := [.int (-(nI 1))]) (s' := s) rfl trivial ?_
        cases h
        exact Ev_ret rfl trivial
      · exact t_C_compare_25 h

/-- RecordHeap$Calendar.begin(I)V -/
def f_Calendar_begin (s : AS) (a0 : Nat) (a1 : Int32) : Option AS :=
  if sT s a0 = 2 then
  some (setI s a0 6 a1)
  else none
theorem t_Calendar_begin {s : AS} {a0 : Nat} {a1 : Int32} {o : AS} (h : f_Calendar_begin s a0 a1 = some o) : Ev 0 mZ125 0 [.ref a0, .int a1] [] s (none, o) := by
  unfold f_Calendar_begin at h
  refine gd h (fun g1 h => ?_)
  refine Ev_blk 3 (pc' := 5) (ls' := [.ref a0, .int a1]) (st' := []) (s' := setI s a0 6 a1) rfl ⟨trivial, g1⟩ ?_
  cases h
  exact Ev_ret rfl trivial

/-- RecordHeap$Calendar.draw(I)I -/
def f_Calendar_draw (s : AS) (a0 : Nat) (a1 : Int32) : Option (Int32 × AS) :=
  if sT s a0 = 2 then
  if ¬ (nI 1000003) = nI 0 then
  if (nI 0) < a1 then
    if ¬ a1 = nI 0 then
    some ((sI (setI s a0 6 ((((sI s a0 6) * (nI 1103)) + (nI 12345)) - (((sI s a0 6) * (nI 1103)) + (nI 12345)) / (nI 1000003) * (nI 1000003))) a0 6) - (sI (setI s a0 6 ((((sI s a0 6) * (nI 1103)) + (nI 12345)) - (((sI s a0 6) * (nI 1103)) + (nI 12345)) / (nI 1000003) * (nI 1000003))) a0 6) / a1 * a1, setI s a0 6 ((((sI s a0 6) * (nI 1103)) + (nI 12345)) - (((sI s a0 6) * (nI 1103)) + (nI 12345)) / (nI 1000003) * (nI 1000003)))
    else none
  else
    some (nI 0, setI s a0 6 ((((sI s a0 6) * (nI 1103)) + (nI 12345)) - (((sI s a0 6) * (nI 1103)) + (nI 12345)) / (nI 1000003) * (nI 1000003)))
  else none
  else none
theorem t_Calendar_draw {s : AS} {a0 : Nat} {a1 : Int32} {o : Int32 × AS} (h : f_Calendar_draw s a0 a1 = some o) : Ev 0 mZ127 0 [.ref a0, .int a1] [] s (some (.int o.1), o.2) := by
  unfold f_Calendar_draw at h
  refine gd h (fun g1 h => ?_)
  refine gd h (fun g2 h => ?_)
  refine Ev_blk 12 (pc' := if (nI 0) < a1 then 23 else 32) (ls' := [.ref a0, .int a1]) (st' := []) (s' := setI s a0 6 ((((sI s a0 6) * (nI 1103)) + (nI 12345)) - (((sI s a0 6) * (nI 1103)) + (nI 12345)) / (nI 1000003) * (nI 1000003))) rfl ⟨⟨⟨trivial, g1⟩, g2⟩, g1⟩ ?_
  refine ib h (fun c3 h => ?_) (fun c3 h => ?_)
  · refine gd h (fun g4 h => ?_)
    refine Ev_blk 5 (pc' := 33) (ls' := [.ref a0, .int a1]) (st' := [.int ((sI (setI s a0 6 ((((sI s a0 6) * (nI 1103)) + (nI 12345)) - (((sI s a0 6) * (nI 1103)) + (nI 12345)) / (nI 1000003) * (nI 1000003))) a0 6) - (sI (setI s a0 6 ((((sI s a0 6) * (nI 1103)) + (nI 12345)) - (((sI s a0 6) * (nI 1103)) + (nI 12345)) / (nI 1000003) * (nI 1000003))) a0 6) / a1 * a1)]) (s' := setI s a0 6 ((((sI s a0 6) * (nI 1103)) + (nI 12345)) - (((sI s a0 6) * (nI 1103)) + (nI 12345)) / (nI 1000003) * (nI 1000003))) rfl ⟨⟨trivial, g1⟩, g4⟩ ?_
    cases h
    exact Ev_ret rfl trivial
  · refine Ev_blk 1 (pc' := 33) (ls' := [.ref a0, .int a1]) (st' := [.int (nI 0)]) (s' := setI s a0 6 ((((sI s a0 6) * (nI 1103)) + (nI 12345)) - (((sI s a0 6) * (nI 1103)) + (nI 12345)) / (nI 1000003) * (nI 1000003))) rfl trivial ?_
    cases h
    exact Ev_ret rfl trivial

def b_Calendar_passDay_120  (v0 : Nat) (v5 : Int32) (s : AS) : Option AS :=
  if v5 = (-(nI 1)) then
    some s
  else
    if sT s v0 = 2 then
    if sT s (sR s v0 0) = 3 then
    (f_Desk_writeAnew s (sR s v0 0) v5 (sR s v0 1)).bind fun r1 =>
    some r1.2
    else none
    else none
theorem t_Calendar_passDay_120   {d1 d2 d3 d4 : Value} {v0 : Nat} {v5 : Int32} {s : AS} {o : AS} (h : b_Calendar_passDay_120  v0 v5 s = some o) : Ev 6 mZ126 120 [.ref v0, d1, d2, d3, d4, .int v5] [] s (none, o) := by
  unfold b_Calendar_passDay_120 at h
  refine Ev_blk 3 (pc' := if v5 = (-(nI 1)) then 140 else 126) (ls' := [.ref v0, d1, d2, d3, d4, .int v5]) (st' := []) (s' := s) rfl trivial ?_
  refine ib h (fun c1 h => ?_) (fun c1 h => ?_)
  · cases h
    exact Ev_ret rfl trivial
  · refine gd h (fun g2 h => ?_)
    refine gd h (fun g3 h => ?_)
    refine Ev_blk 5 (pc' := 136) (ls' := [.ref v0, d1, d2, d3, d4, .int v5]) (st' := [.ref (sR s v0 1), .int v5, .ref (sR s v0 0)]) (s' := s) rfl ⟨⟨trivial, g2⟩, g2⟩ ?_
    refine bd h (fun r1 hr1 h => ?_)
    refine Ev_call 2 72 2 [.ref (sR s v0 0), .int v5, .ref (sR s v0 1)] [] rfl rfl rfl rfl g3 rfl rfl (Nat.le_of_ble_eq_true rfl) (t_Desk_writeAnew hr1) ?_
    refine Ev_blk 1 (pc' := 140) (ls' := [.ref v0, d1, d2, d3, d4, .int v5]) (st' := []) (s' := r1.2) rfl trivial ?_
    cases h
    exact Ev_ret rfl trivial
/-- RecordHeap$Calendar.passDay()V -/
def f_Calendar_passDay (s : AS) (a0 : Nat) : Option AS :=
  if sT s a0 = 2 then
  (f_Calendar_draw s a0 (nI 70)).bind fun r1 =>
  if sT r1.2 a0 = 2 then
  (f_Calendar_draw r1.2 a0 (nI 256)).bind fun r2 =>
  if sT r2.2 a0 = 2 then
  (f_Calendar_draw r2.2 a0 (nI 128)).bind fun r3 =>
  if sT r3.2 a0 = 2 then
  (f_Calendar_draw r3.2 a0 (nI 8)).bind fun r4 =>
  if sT r4.2 a0 = 2 then
  if sT r4.2 (sR r4.2 a0 0) = 3 then
  if sT r4.2 (sR r4.2 (sR r4.2 a0 0) 2) = 7 then
  (f_Pages_recordFrom r4.2 (sR r4.2 (sR r4.2 a0 0) 2) r3.1).bind fun r5 =>
  if sT r4.2 (sR r4.2 a0 1) = 9 then
  (f_Row_repeat r4.2 (sR r4.2 a0 1) r1.1 r2.1).bind fun r6 =>
  if (nI 3) < r4.1 then
    if r4.1 = (nI 7) then
      if sT r6 a0 = 2 then
      if ¬ (nI 16) = nI 0 then
      if sT r6 (sR r6 a0 0) = 3 then
      (f_Desk_packPage r6 (sR r6 a0 0) (r3.1 / (nI 16))).bind fun r7 =>
      some r7
      else none
      else none
      else none
    else
      if r5 = (-(nI 1)) then
        b_Calendar_passDay_120 a0 r5 r6
      else
        if r4.1 = (nI 6) then
          if sT r6 a0 = 2 then
          if sT r6 (sR r6 a0 0) = 3 then
          (f_Desk_takeAway r6 (sR r6 a0 0) r5).bind fun r8 =>
          some r8
          else none
          else none
        else
          b_Calendar_passDay_120 a0 r5 r6
  else
    if sT r6 a0 = 2 then
    if sT r6 (sR r6 a0 0) = 3 then
    (f_Desk_bring r6 (sR r6 a0 0) (sR r6 a0 1)).bind fun r9 =>
    some r9.2
    else none
    else none
  else none
  else none
  else none
  else none
  else none
  else none
  else none
  else none
theorem t_Calendar_passDay {s : AS} {a0 : Nat} {o : AS} (h : f_Calendar_passDay s a0 = some o) : Ev 6 mZ126 0 [.ref a0, .retAddr 0, .retAddr 0, .retAddr 0, .retAddr 0, .retAddr 0] [] s (none, o) := by
  unfold f_Calendar_passDay at h
  refine gd h (fun g1 h => ?_)
  refine Ev_blk 2 (pc' := 3) (ls' := [.ref a0, .retAddr 0, .retAddr 0, .retAddr 0, .retAddr 0, .retAddr 0]) (st' := [.int (nI 70), .ref a0]) (s' := s) rfl trivial ?_
  refine bd h (fun r1 hr1 h => ?_)
  refine Ev_call 2 127 1 [.ref a0, .int (nI 70)] [] rfl rfl rfl rfl g1 rfl rfl (Nat.le_of_ble_eq_true rfl) (t_Calendar_draw hr1) ?_
  refine gd h (fun g2 h => ?_)
  refine Ev_blk 3 (pc' := 11) (ls' := [.ref a0, .int r1.1, .retAddr 0, .retAddr 0, .retAddr 0, .retAddr 0]) (st' := [.int (nI 256), .ref a0]) (s' := r1.2) rfl trivial ?_
  refine bd h (fun r2 hr2 h => ?_)
  refine Ev_call 2 127 1 [.ref a0, .int (nI 256)] [] rfl rfl rfl rfl g2 rfl rfl (Nat.le_of_ble_eq_true rfl) (t_Calendar_draw hr2) ?_
  refine gd h (fun g3 h => ?_)
  refine Ev_blk 3 (pc' := 19) (ls' := [.ref a0, .int r1.1, .int r2.1, .retAddr 0, .retAddr 0, .retAddr 0]) (st' := [.int (nI 128), .ref a0]) (s' := r2.2) rfl trivial ?_
  refine bd h (fun r3 hr3 h => ?_)
  refine Ev_call 2 127 1 [.ref a0, .int (nI 128)] [] rfl rfl rfl rfl g3 rfl rfl (Nat.le_of_ble_eq_true rfl) (t_Calendar_draw hr3) ?_
  refine gd h (fun g4 h => ?_)
  refine Ev_blk 3 (pc' := 26) (ls' := [.ref a0, .int r1.1, .int r2.1, .int r3.1, .retAddr 0, .retAddr 0]) (st' := [.int (nI 8), .ref a0]) (s' := r3.2) rfl trivial ?_
  refine bd h (fun r4 hr4 h => ?_)
  refine Ev_call 2 127 1 [.ref a0, .int (nI 8)] [] rfl rfl rfl rfl g4 rfl rfl (Nat.le_of_ble_eq_true rfl) (t_Calendar_draw hr4) ?_
  refine gd h (fun g5 h => ?_)
  refine gd h (fun g6 h => ?_)
  refine gd h (fun g7 h => ?_)
  refine Ev_blk 5 (pc' := 39) (ls' := [.ref a0, .int r1.1, .int r2.1, .int r3.1, .int r4.1, .retAddr 0]) (st' := [.int r3.1, .ref (sR r4.2 (sR r4.2 a0 0) 2)]) (s' := r4.2) rfl ⟨⟨trivial, g5⟩, g6⟩ ?_
  refine bd h (fun r5 hr5 h => ?_)
  refine Ev_call 2 110 1 [.ref (sR r4.2 (sR r4.2 a0 0) 2), .int r3.1] [] rfl rfl rfl rfl g7 rfl rfl (Nat.le_of_ble_eq_true rfl) (t_Pages_recordFrom hr5) ?_
  refine gd h (fun g8 h => ?_)
  refine Ev_blk 5 (pc' := 50) (ls' := [.ref a0, .int r1.1, .int r2.1, .int r3.1, .int r4.1, .int r5]) (st' := [.int r2.1, .int r1.1, .ref (sR r4.2 a0 1)]) (s' := r4.2) rfl ⟨trivial, g5⟩ ?_
  refine bd h (fun r6 hr6 h => ?_)
  refine Ev_call 2 54 2 [.ref (sR r4.2 a0 1), .int r1.1, .int r2.1] [] rfl rfl rfl rfl g8 rfl rfl (Nat.le_of_ble_eq_true rfl) (t_Row_repeat hr6) ?_
  refine Ev_blk 3 (pc' := if (nI 3) < r4.1 then 74 else 59) (ls' := [.ref a0, .int r1.1, .int r2.1, .int r3.1, .int r4.1, .int r5]) (st' := []) (s' := r6) rfl trivial ?_
  refine ib h (fun c9 h => ?_) (fun c9 h => ?_)
  · refine Ev_blk 3 (pc' := if r4.1 = (nI 7) then 81 else 95) (ls' := [.ref a0, .int r1.1, .int r2.1, .int r3.1, .int r4.1, .int r5]) (st' := []) (s' := r6) rfl trivial ?_
    refine ib h (fun c10 h => ?_) (fun c10 h => ?_)
    · refine gd h (fun g11 h => ?_)
      refine gd h (fun g12 h => ?_)
      refine gd h (fun g13 h => ?_)
      refine Ev_blk 5 (pc' := 89) (ls' := [.ref a0, .int r1.1, .int r2.1, .int r3.1, .int r4.1, .int r5]) (st' := [.int (r3.1 / (nI 16)), .ref (sR r6 a0 0)]) (s' := r6) rfl ⟨⟨trivial, g11⟩, g12⟩ ?_
      refine bd h (fun r7 hr7 h => ?_)
      refine Ev_call 2 81 1 [.ref (sR r6 a0 0), .int (r3.1 / (nI 16))] [] rfl rfl rfl rfl g13 rfl rfl (Nat.le_of_ble_eq_true rfl) (t_Desk_packPage hr7) ?_
      refine Ev_blk 1 (pc' := 140) (ls' := [.ref a0, .int r1.1, .int r2.1, .int r3.1, .int r4.1, .int r5]) (st' := []) (s' := r7) rfl trivial ?_
      cases h
      exact Ev_ret rfl trivial
    · refine Ev_blk 3 (pc' := if r5 = (-(nI 1)) then 120 else 101) (ls' := [.ref a0, .int r1.1, .int r2.1, .int r3.1, .int r4.1, .int r5]) (st' := []) (s' := r6) rfl trivial ?_
      refine ib h (fun c14 h => ?_) (fun c14 h => ?_)
      · exact t_Calendar_passDay_120 h
      · refine Ev_blk 3 (pc' := if r4.1 = (nI 6) then 108 else 120) (ls' := [.ref a0, .int r1.1, .int r2.1, .int r3.1, .int r4.1, .int r5]) (st' := []) (s' := r6) rfl trivial ?_
        refine ib h (fun c15 h => ?_) (fun c15 h => ?_)
        · refine gd h (fun g16 h => ?_)
          refine gd h (fun g17 h => ?_)
          refine Ev_blk 3 (pc' := 114) (ls' := [.ref a0, .int r1.1, .int r2.1, .int r3.1, .int r4.1, .int r5]) (st' := [.int r5, .ref (sR r6 a0 0)]) (s' := r6) rfl ⟨trivial, g16⟩ ?_
          refine bd h (fun r8 hr8 h => ?_)
          refine Ev_call 2 80 1 [.ref (sR r6 a0 0), .int r5] [] rfl rfl rfl rfl g17 rfl rfl (Nat.le_of_ble_eq_true rfl) (t_Desk_takeAway hr8) ?_
          refine Ev_blk 1 (pc' := 140) (ls' := [.ref a0, .int r1.1, .int r2.1, .int r3.1, .int r4.1, .int r5]) (st' := []) (s' := r8) rfl trivial ?_
          cases h
          exact Ev_ret rfl trivial
        · exact t_Calendar_passDay_120 h
  · refine gd h (fun g18 h => ?_)
    refine gd h (fun g19 h => ?_)
    refine Ev_blk 4 (pc' := 67) (ls' := [.ref a0, .int r1.1, .int r2.1, .int r3.1, .int r4.1, .int r5]) (st' := [.ref (sR r6 a0 1), .ref (sR r6 a0 0)]) (s' := r6) rfl ⟨⟨trivial, g18⟩, g18⟩ ?_
    refine bd h (fun r9 hr9 h => ?_)
    refine Ev_call 2 55 1 [.ref (sR r6 a0 0), .ref (sR r6 a0 1)] [] rfl rfl rfl rfl g19 rfl rfl (Nat.le_of_ble_eq_true rfl) (t_Desk_bring hr9) ?_
    refine Ev_blk 2 (pc' := 140) (ls' := [.ref a0, .int r1.1, .int r2.1, .int r3.1, .int r4.1, .int r5]) (st' := []) (s' := r9.2) rfl trivial ?_
    cases h
    exact Ev_ret rfl trivial

