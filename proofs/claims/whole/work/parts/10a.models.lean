/-- RecordHeap$Row.<init>(I)V -/
def f_Row_init (s : AS) (a0 : Nat) (a1 : Int32) : Option AS :=
  if ¬ a0 = 0 then
  (nwA s 20 (if (nI 0) < a1 then a1 else (nI 0))).bind fun r1 =>
  if sT r1.2 a0 = 9 then
  some (setR r1.2 a0 0 r1.1)
  else none
  else none
theorem t_Row_init {s : AS} {a0 : Nat} {a1 : Int32} {o : AS} (h : f_Row_init s a0 a1 = some o) : Ev 0 mZ1 0 [.ref a0, .int a1] [] s (none, o) := by
  unfold f_Row_init at h
  refine gd h (fun g1 h => ?_)
  refine bd h (fun r1 hr1 h => ?_)
  obtain ⟨gr1, er1, fr1⟩ := nwA_inv hr1
  refine Ev_blk 7 (pc' := 12) (ls' := [.ref a0, .int a1]) (st' := [.ref (sX s), .ref a0]) (s' := newA s 20 (if (nI 0) < a1 then a1 else (nI 0)).toNatClampNeg) rfl ⟨⟨trivial, g1⟩, gr1⟩ ?_
  rw [← fr1, ← er1]
  refine gd h (fun g2 h => ?_)
  refine Ev_blk 1 (pc' := 15) (ls' := [.ref a0, .int a1]) (st' := []) (s' := setR r1.2 a0 0 r1.1) rfl ⟨trivial, g2⟩ ?_
  cases h
  exact Ev_ret rfl trivial

/-- RecordHeap$Text.<init>([I[I)V -/
def f_Text_init (s : AS) (a0 : Nat) (a1 : Nat) (a2 : Nat) : Option AS :=
  if ¬ a0 = 0 then
  if sT s a0 = 12 then
  some (setR (setR s a0 0 a1) a0 1 a2)
  else none
  else none
theorem t_Text_init {s : AS} {a0 : Nat} {a1 : Nat} {a2 : Nat} {o : AS} (h : f_Text_init s a0 a1 a2 = some o) : Ev 0 mZ3 0 [.ref a0, .ref a1, .ref a2] [] s (none, o) := by
  unfold f_Text_init at h
  refine gd h (fun g1 h => ?_)
  refine gd h (fun g2 h => ?_)
  refine Ev_blk 8 (pc' := 14) (ls' := [.ref a0, .ref a1, .ref a2]) (st' := []) (s' := setR (setR s a0 0 a1) a0 1 a2) rfl ⟨⟨⟨trivial, g1⟩, g2⟩, g2⟩ ?_
  cases h
  exact Ev_ret rfl trivial

/-- RecordHeap$Reader.<init>()V -/
def f_Reader_init (s : AS) (a0 : Nat) : Option AS :=
  if ¬ a0 = 0 then
  (nwO s 12 4).bind fun r1 =>
  (nwA r1.2 20 (nI 400)).bind fun r2 =>
  (nwA r2.2 20 (nI 72)).bind fun r3 =>
  if ¬ r1.1 = 0 then
  (f_Text_init r3.2 r1.1 r2.1 r3.1).bind fun r4 =>
  if sT r4 a0 = 8 then
  (nwA (setR r4 a0 0 r1.1) 20 (nI 401)).bind fun r5 =>
  if sT r5.2 a0 = 8 then
  (nwO (setR r5.2 a0 1 r5.1) 9 2).bind fun r6 =>
  if ¬ r6.1 = 0 then
  (f_Row_init r6.2 r6.1 (nI 0)).bind fun r7 =>
  if sT r7 a0 = 8 then
  if sT r7 a0 = 8 ∧ ((nI 0) = nI 0 ∨ (nI 0) = nI 1) then
  some (setI (setI (setI (setI (setI (setR r7 a0 2 r6.1) a0 3 (nI 0)) a0 4 (nI 0)) a0 5 (nI 0)) a0 6 (nI 0)) a0 7 (-(nI 1)))
  else none
  else none
  else none
  else none
  else none
  else none
  else none
theorem t_Reader_init {s : AS} {a0 : Nat} {o : AS} (h : f_Reader_init s a0 = some o) : Ev 1 mZ2 0 [.ref a0] [] s (none, o) := by
  unfold f_Reader_init at h
  refine gd h (fun g1 h => ?_)
  refine bd h (fun r1 hr1 h => ?_)
  obtain ⟨gr1, er1, fr1⟩ := nwO_inv hr1
  refine Ev_blk 4 (pc' := 8) (ls' := [.ref a0]) (st' := [.ref (sX s), .ref a0]) (s' := newA s 12 4) rfl ⟨⟨trivial, g1⟩, gr1⟩ ?_
  rw [← fr1, ← er1]
  refine bd h (fun r2 hr2 h => ?_)
  obtain ⟨gr2, er2, fr2⟩ := nwA_inv hr2
  refine Ev_blk 3 (pc' := 14) (ls' := [.ref a0]) (st' := [.ref (sX r1.2), .ref r1.1, .ref r1.1, .ref a0]) (s' := newA r1.2 20 (nI 400).toNatClampNeg) rfl ⟨trivial, gr2⟩ ?_
  rw [← fr2, ← er2]
  refine bd h (fun r3 hr3 h => ?_)
  obtain ⟨gr3, er3, fr3⟩ := nwA_inv hr3
  refine Ev_blk 2 (pc' := 18) (ls' := [.ref a0]) (st' := [.ref (sX r2.2), .ref r2.1, .ref r1.1, .ref r1.1, .ref a0]) (s' := newA r2.2 20 (nI 72).toNatClampNeg) rfl ⟨trivial, gr3⟩ ?_
  rw [← fr3, ← er3]
  refine gd h (fun g2 h => ?_)
  refine bd h (fun r4 hr4 h => ?_)
  refine Ev_call 3 3 2 [.ref r1.1, .ref r2.1, .ref r3.1] [.ref r1.1, .ref a0] rfl rfl rfl rfl g2 rfl rfl (Nat.le_of_ble_eq_true rfl) (t_Text_init hr4) ?_
  refine gd h (fun g3 h => ?_)
  refine bd h (fun r5 hr5 h => ?_)
  obtain ⟨gr5, er5, fr5⟩ := nwA_inv hr5
  refine Ev_blk 4 (pc' := 30) (ls' := [.ref a0]) (st' := [.ref (sX (setR r4 a0 0 r1.1)), .ref a0]) (s' := newA (setR r4 a0 0 r1.1) 20 (nI 401).toNatClampNeg) rfl ⟨⟨trivial, g3⟩, gr5⟩ ?_
  rw [← fr5, ← er5]
  refine gd h (fun g4 h => ?_)
  refine bd h (fun r6 hr6 h => ?_)
  obtain ⟨gr6, er6, fr6⟩ := nwO_inv hr6
  refine Ev_blk 3 (pc' := 37) (ls' := [.ref a0]) (st' := [.ref (sX (setR r5.2 a0 1 r5.1)), .ref a0]) (s' := newA (setR r5.2 a0 1 r5.1) 9 2) rfl ⟨⟨trivial, g4⟩, gr6⟩ ?_
  rw [← fr6, ← er6]
  refine gd h (fun g5 h => ?_)
  refine Ev_blk 2 (pc' := 39) (ls' := [.ref a0]) (st' := [.int (nI 0), .ref r6.1, .ref r6.1, .ref a0]) (s' := r6.2) rfl trivial ?_
  refine bd h (fun r7 hr7 h => ?_)
  refine Ev_call 3 1 1 [.ref r6.1, .int (nI 0)] [.ref r6.1, .ref a0] rfl rfl rfl rfl g5 rfl rfl (Nat.le_of_ble_eq_true rfl) (t_Row_init hr7) ?_
  refine gd h (fun g6 h => ?_)
  refine gd h (fun g7 h => ?_)
  refine Ev_blk 16 (pc' := 70) (ls' := [.ref a0]) (st' := []) (s' := setI (setI (setI (setI (setI (setR r7 a0 2 r6.1) a0 3 (nI 0)) a0 4 (nI 0)) a0 5 (nI 0)) a0 6 (nI 0)) a0 7 (-(nI 1))) rfl ⟨⟨⟨⟨⟨⟨trivial, g6⟩, g7⟩, g6⟩, g6⟩, g6⟩, g6⟩ ?_
  cases h
  exact Ev_ret rfl trivial

/-- RecordHeap$Machine.<init>()V -/
def f_Machine_init (s : AS) (a0 : Nat) : Option AS :=
  if ¬ a0 = 0 then
  (nwA s 21 (nI 20)).bind fun r1 =>
  if sT r1.2 a0 = 6 then
  (nwA (setR r1.2 a0 0 r1.1) 21 (nI 64)).bind fun r2 =>
  if sT r2.2 a0 = 6 then
  some (setR r2.2 a0 1 r2.1)
  else none
  else none
  else none
theorem t_Machine_init {s : AS} {a0 : Nat} {o : AS} (h : f_Machine_init s a0 = some o) : Ev 0 mZ4 0 [.ref a0] [] s (none, o) := by
  unfold f_Machine_init at h
  refine gd h (fun g1 h => ?_)
  refine bd h (fun r1 hr1 h => ?_)
  obtain ⟨gr1, er1, fr1⟩ := nwA_inv hr1
  refine Ev_blk 5 (pc' := 9) (ls' := [.ref a0]) (st' := [.ref (sX s), .ref a0]) (s' := newA s 21 (nI 20).toNatClampNeg) rfl ⟨⟨trivial, g1⟩, gr1⟩ ?_
  rw [← fr1, ← er1]
  refine gd h (fun g2 h => ?_)
  refine bd h (fun r2 hr2 h => ?_)
  obtain ⟨gr2, er2, fr2⟩ := nwA_inv hr2
  refine Ev_blk 4 (pc' := 17) (ls' := [.ref a0]) (st' := [.ref (sX (setR r1.2 a0 0 r1.1)), .ref a0]) (s' := newA (setR r1.2 a0 0 r1.1) 21 (nI 64).toNatClampNeg) rfl ⟨⟨trivial, g2⟩, gr2⟩ ?_
  rw [← fr2, ← er2]
  refine gd h (fun g3 h => ?_)
  refine Ev_blk 1 (pc' := 20) (ls' := [.ref a0]) (st' := []) (s' := setR r2.2 a0 1 r2.1) rfl ⟨trivial, g3⟩ ?_
  cases h
  exact Ev_ret rfl trivial

/-- RecordHeap$Setting.<init>()V -/
def f_Setting_init (s : AS) (a0 : Nat) : Option AS :=
  if ¬ a0 = 0 then
  (nwA s 20 (nI 3)).bind fun r1 =>
  if sT r1.2 a0 = 11 then
  (nwA (setR r1.2 a0 0 r1.1) 51 (nI 6)).bind fun r2 =>
  if sT r2.2 a0 = 11 then
  if sT r2.2 (sR (setR r2.2 a0 1 r2.1) a0 0) = 20 ∧ inA (nI 1) (sN r2.2 (sR (setR r2.2 a0 1 r2.1) a0 0)) then
  some (setI (setI (setI (setR r2.2 a0 1 r2.1) a0 2 (nI 0)) a0 3 (-(nI 1))) (sR (setR r2.2 a0 1 r2.1) a0 0) (nI 1).toNatClampNeg (nI 1))
  else none
  else none
  else none
  else none
theorem t_Setting_init {s : AS} {a0 : Nat} {o : AS} (h : f_Setting_init s a0 = some o) : Ev 0 mZ5 0 [.ref a0] [] s (none, o) := by
  unfold f_Setting_init at h
  refine gd h (fun g1 h => ?_)
  refine bd h (fun r1 hr1 h => ?_)
  obtain ⟨gr1, er1, fr1⟩ := nwA_inv hr1
  refine Ev_blk 5 (pc' := 8) (ls' := [.ref a0]) (st' := [.ref (sX s), .ref a0]) (s' := newA s 20 (nI 3).toNatClampNeg) rfl ⟨⟨trivial, g1⟩, gr1⟩ ?_
  rw [← fr1, ← er1]
  refine gd h (fun g2 h => ?_)
  refine bd h (fun r2 hr2 h => ?_)
  obtain ⟨gr2, er2, fr2⟩ := nwA_inv hr2
  refine Ev_blk 4 (pc' := 17) (ls' := [.ref a0]) (st' := [.ref (sX (setR r1.2 a0 0 r1.1)), .ref a0]) (s' := newA (setR r1.2 a0 0 r1.1) 51 (nI 6).toNatClampNeg) rfl ⟨⟨trivial, g2⟩, gr2⟩ ?_
  rw [← fr2, ← er2]
  refine gd h (fun g3 h => ?_)
  refine gd h (fun g4 h => ?_)
  refine Ev_blk 12 (pc' := 37) (ls' := [.ref a0]) (st' := []) (s' := setI (setI (setI (setR r2.2 a0 1 r2.1) a0 2 (nI 0)) a0 3 (-(nI 1))) (sR (setR r2.2 a0 1 r2.1) a0 0) (nI 1).toNatClampNeg (nI 1)) rfl ⟨⟨⟨⟨⟨trivial, g3⟩, g3⟩, g3⟩, g3⟩, g4⟩ ?_
  cases h
  exact Ev_ret rfl trivial

def b_Arrays_fill1_5 (k5 : Nat → Int32 → Int32 → Int32 → AS → Option AS) (v0 : Nat) (v1 : Int32) (v2 : Int32) (v3 : Int32) (s : AS) : Option AS :=
  if v2 < v3 then
    if sT s v0 = 20 ∧ inA v2 (sN s v0) then
    k5 v0 v1 (v2 + nI 1) v3 (setI s v0 v2.toNatClampNeg v1)
    else none
  else
    some s
theorem t_Arrays_fill1_5 {k5 : Nat → Int32 → Int32 → Int32 → AS → Option AS} (H5 : ∀ {v0 : Nat} {v1 : Int32} {v2 : Int32} {v3 : Int32} {s : AS} {o : AS}, k5 v0 v1 v2 v3 s = some o → Ev 0 mZ8 5 [.ref v0, .int v1, .int v2, .int v3] [] s (none, o))  {v0 : Nat} {v1 : Int32} {v2 : Int32} {v3 : Int32} {s : AS} {o : AS} (h : b_Arrays_fill1_5 k5 v0 v1 v2 v3 s = some o) : Ev 0 mZ8 5 [.ref v0, .int v1, .int v2, .int v3] [] s (none, o) := by
  unfold b_Arrays_fill1_5 at h
  refine Ev_blk 3 (pc' := if v2 < v3 then 10 else 20) (ls' := [.ref v0, .int v1, .int v2, .int v3]) (st' := []) (s' := s) rfl trivial ?_
  refine ib h (fun c1 h => ?_) (fun c1 h => ?_)
  · refine gd h (fun g2 h => ?_)
    refine Ev_blk 6 (pc' := 5) (ls' := [.ref v0, .int v1, .int (v2 + nI 1), .int v3]) (st' := []) (s' := setI s v0 v2.toNatClampNeg v1) rfl ⟨trivial, g2⟩ ?_
    exact H5 h
  · cases h
    exact Ev_ret rfl trivial
def l_Arrays_fill1_5  : Nat → Nat → Int32 → Int32 → Int32 → AS → Option AS
  | 0 => fun _ _ _ _ _ => none
  | n + 1 => b_Arrays_fill1_5  (l_Arrays_fill1_5  n)
theorem u_Arrays_fill1_5   {n : Nat} : ∀  {v0 : Nat} {v1 : Int32} {v2 : Int32} {v3 : Int32} {s : AS} {o : AS}, l_Arrays_fill1_5  n v0 v1 v2 v3 s = some o → Ev 0 mZ8 5 [.ref v0, .int v1, .int v2, .int v3] [] s (none, o) := by
  induction n with
  | zero => intros; rename_i h; cases h
  | succ n ih => intros; rename_i h; exact t_Arrays_fill1_5  (fun h => ih h) h
/-- java/util/Arrays.fill([II)V -/
def f_Arrays_fill1 (s : AS) (a0 : Nat) (a1 : Int32) : Option AS :=
  if 20 ≤ sT s a0 then
  l_Arrays_fill1_5 fuel a0 a1 (nI 0) (nI (sN s a0)) s
  else none
theorem t_Arrays_fill1 {s : AS} {a0 : Nat} {a1 : Int32} {o : AS} (h : f_Arrays_fill1 s a0 a1 = some o) : Ev 0 mZ8 0 [.ref a0, .int a1, .retAddr 0, .retAddr 0] [] s (none, o) := by
  unfold f_Arrays_fill1 at h
  refine gd h (fun g1 h => ?_)
  refine Ev_blk 5 (pc' := 5) (ls' := [.ref a0, .int a1, .int (nI 0), .int (nI (sN s a0))]) (st' := []) (s' := s) rfl ⟨trivial, g1⟩ ?_
  exact u_Arrays_fill1_5 h

/-- RecordHeap$Pages.<init>()V -/
def f_Pages_init (s : AS) (a0 : Nat) : Option AS :=
  if ¬ a0 = 0 then
  (nwA s 20 (nI 128)).bind fun r1 =>
  if sT r1.2 a0 = 7 then
  (nwA (setR r1.2 a0 0 r1.1) 20 (nI 128)).bind fun r2 =>
  if sT r2.2 a0 = 7 then
  (nwA (setR r2.2 a0 1 r2.1) 20 (nI 128)).bind fun r3 =>
  if sT r3.2 a0 = 7 then
  (nwA (setR r3.2 a0 2 r3.1) 20 (nI 8)).bind fun r4 =>
  if sT r4.2 a0 = 7 then
  (nwA (setR r4.2 a0 3 r4.1) 20 (nI 8)).bind fun r5 =>
  if sT r5.2 a0 = 7 then
  (nwA (setR r5.2 a0 4 r5.1) 20 (nI 512)).bind fun r6 =>
  if sT r6.2 a0 = 7 then
  (f_Arrays_fill1 (setR r6.2 a0 5 r6.1) (sR (setR r6.2 a0 5 r6.1) a0 4) (nI 8)).bind fun r7 =>
  some r7
  else none
  else none
  else none
  else none
  else none
  else none
  else none
theorem t_Pages_init {s : AS} {a0 : Nat} {o : AS} (h : f_Pages_init s a0 = some o) : Ev 1 mZ7 0 [.ref a0] [] s (none, o) := by
  unfold f_Pages_init at h
  refine gd h (fun g1 h => ?_)
  refine bd h (fun r1 hr1 h => ?_)
  obtain ⟨gr1, er1, fr1⟩ := nwA_inv hr1
  refine Ev_blk 5 (pc' := 10) (ls' := [.ref a0]) (st' := [.ref (sX s), .ref a0]) (s' := newA s 20 (nI 128).toNatClampNeg) rfl ⟨⟨trivial, g1⟩, gr1⟩ ?_
  rw [← fr1, ← er1]
  refine gd h (fun g2 h => ?_)
  refine bd h (fun r2 hr2 h => ?_)
  obtain ⟨gr2, er2, fr2⟩ := nwA_inv hr2
  refine Ev_blk 4 (pc' := 19) (ls' := [.ref a0]) (st' := [.ref (sX (setR r1.2 a0 0 r1.1)), .ref a0]) (s' := newA (setR r1.2 a0 0 r1.1) 20 (nI 128).toNatClampNeg) rfl ⟨⟨trivial, g2⟩, gr2⟩ ?_
  rw [← fr2, ← er2]
  refine gd h (fun g3 h => ?_)
  refine bd h (fun r3 hr3 h => ?_)
  obtain ⟨gr3, er3, fr3⟩ := nwA_inv hr3
  refine Ev_blk 4 (pc' := 28) (ls' := [.ref a0]) (st' := [.ref (sX (setR r2.2 a0 1 r2.1)), .ref a0]) (s' := newA (setR r2.2 a0 1 r2.1) 20 (nI 128).toNatClampNeg) rfl ⟨⟨trivial, g3⟩, gr3⟩ ?_
  rw [← fr3, ← er3]
  refine gd h (fun g4 h => ?_)
  refine bd h (fun r4 hr4 h => ?_)
  obtain ⟨gr4, er4, fr4⟩ := nwA_inv hr4
  refine Ev_blk 4 (pc' := 36) (ls' := [.ref a0]) (st' := [.ref (sX (setR r3.2 a0 2 r3.1)), .ref a0]) (s' := newA (setR r3.2 a0 2 r3.1) 20 (nI 8).toNatClampNeg) rfl ⟨⟨trivial, g4⟩, gr4⟩ ?_
  rw [← fr4, ← er4]
  refine gd h (fun g5 h => ?_)
  refine bd h (fun r5 hr5 h => ?_)
  obtain ⟨gr5, er5, fr5⟩ := nwA_inv hr5
  refine Ev_blk 4 (pc' := 44) (ls' := [.ref a0]) (st' := [.ref (sX (setR r4.2 a0 3 r4.1)), .ref a0]) (s' := newA (setR r4.2 a0 3 r4.1) 20 (nI 8).toNatClampNeg) rfl ⟨⟨trivial, g5⟩, gr5⟩ ?_
  rw [← fr5, ← er5]
  refine gd h (fun g6 h => ?_)
  refine bd h (fun r6 hr6 h => ?_)
  obtain ⟨gr6, er6, fr6⟩ := nwA_inv hr6
  refine Ev_blk 4 (pc' := 53) (ls' := [.ref a0]) (st' := [.ref (sX (setR r5.2 a0 4 r5.1)), .ref a0]) (s' := newA (setR r5.2 a0 4 r5.1) 20 (nI 512).toNatClampNeg) rfl ⟨⟨trivial, g6⟩, gr6⟩ ?_
  rw [← fr6, ← er6]
  refine gd h (fun g7 h => ?_)
  refine Ev_blk 4 (pc' := 62) (ls' := [.ref a0]) (st' := [.int (nI 8), .ref (sR (setR r6.2 a0 5 r6.1) a0 4)]) (s' := setR r6.2 a0 5 r6.1) rfl ⟨⟨trivial, g7⟩, g7⟩ ?_
  refine bd h (fun r7 hr7 h => ?_)
  refine Ev_call 1 8 2 [.ref (sR (setR r6.2 a0 5 r6.1) a0 4), .int (nI 8)] [] rfl rfl rfl rfl trivial rfl rfl (Nat.le_of_ble_eq_true rfl) (t_Arrays_fill1 hr7) ?_
  cases h
  exact Ev_ret rfl trivial

/-- RecordHeap$Desk.<init>(LRecordHeap$Setting;LRecordHeap$Machine;)V -/
def f_Desk_init (s : AS) (a0 : Nat) (a1 : Nat) (a2 : Nat) : Option AS :=
  if ¬ a0 = 0 then
  (nwO s 7 6).bind fun r1 =>
  if ¬ r1.1 = 0 then
  (f_Pages_init r1.2 r1.1).bind fun r2 =>
  if sT r2 a0 = 3 then
  (nwO (setR r2 a0 2 r1.1) 7 6).bind fun r3 =>
  if ¬ r3.1 = 0 then
  (f_Pages_init r3.2 r3.1).bind fun r4 =>
  if sT r4 a0 = 3 then
  (nwO (setR r4 a0 3 r3.1) 9 2).bind fun r5 =>
  if ¬ r5.1 = 0 then
  (f_Row_init r5.2 r5.1 (nI 40)).bind fun r6 =>
  if sT r6 a0 = 3 then
  (nwA (setR r6 a0 4 r5.1) 20 (nI 64)).bind fun r7 =>
  if sT r7.2 a0 = 3 then
  some (setR (setR (setI (setR r7.2 a0 5 r7.1) a0 6 (-(nI 1))) a0 0 a1) a0 1 a2)
  else none
  else none
  else none
  else none
  else none
  else none
  else none
  else none
theorem t_Desk_init {s : AS} {a0 : Nat} {a1 : Nat} {a2 : Nat} {o : AS} (h : f_Desk_init s a0 a1 a2 = some o) : Ev 2 mZ6 0 [.ref a0, .ref a1, .ref a2] [] s (none, o) := by
  unfold f_Desk_init at h
  refine gd h (fun g1 h => ?_)
  refine bd h (fun r1 hr1 h => ?_)
  obtain ⟨gr1, er1, fr1⟩ := nwO_inv hr1
  refine Ev_blk 4 (pc' := 8) (ls' := [.ref a0, .ref a1, .ref a2]) (st' := [.ref (sX s), .ref a0]) (s' := newA s 7 6) rfl ⟨⟨trivial, g1⟩, gr1⟩ ?_
  rw [← fr1, ← er1]
  refine gd h (fun g2 h => ?_)
  refine Ev_blk 1 (pc' := 9) (ls' := [.ref a0, .ref a1, .ref a2]) (st' := [.ref r1.1, .ref r1.1, .ref a0]) (s' := r1.2) rfl trivial ?_
  refine bd h (fun r2 hr2 h => ?_)
  refine Ev_call 3 7 0 [.ref r1.1] [.ref r1.1, .ref a0] rfl rfl rfl rfl g2 rfl rfl (Nat.le_of_ble_eq_true rfl) (t_Pages_init hr2) ?_
  refine gd h (fun g3 h => ?_)
  refine bd h (fun r3 hr3 h => ?_)
  obtain ⟨gr3, er3, fr3⟩ := nwO_inv hr3
  refine Ev_blk 3 (pc' := 19) (ls' := [.ref a0, .ref a1, .ref a2]) (st' := [.ref (sX (setR r2 a0 2 r1.1)), .ref a0]) (s' := newA (setR r2 a0 2 r1.1) 7 6) rfl ⟨⟨trivial, g3⟩, gr3⟩ ?_
  rw [← fr3, ← er3]
  refine gd h (fun g4 h => ?_)
  refine Ev_blk 1 (pc' := 20) (ls' := [.ref a0, .ref a1, .ref a2]) (st' := [.ref r3.1, .ref r3.1, .ref a0]) (s' := r3.2) rfl trivial ?_
  refine bd h (fun r4 hr4 h => ?_)
  refine Ev_call 3 7 0 [.ref r3.1] [.ref r3.1, .ref a0] rfl rfl rfl rfl g4 rfl rfl (Nat.le_of_ble_eq_true rfl) (t_Pages_init hr4) ?_
  refine gd h (fun g5 h => ?_)
  refine bd h (fun r5 hr5 h => ?_)
  obtain ⟨gr5, er5, fr5⟩ := nwO_inv hr5
  refine Ev_blk 3 (pc' := 30) (ls' := [.ref a0, .ref a1, .ref a2]) (st' := [.ref (sX (setR r4 a0 3 r3.1)), .ref a0]) (s' := newA (setR r4 a0 3 r3.1) 9 2) rfl ⟨⟨trivial, g5⟩, gr5⟩ ?_
  rw [← fr5, ← er5]
  refine gd h (fun g6 h => ?_)
  refine Ev_blk 2 (pc' := 33) (ls' := [.ref a0, .ref a1, .ref a2]) (st' := [.int (nI 40), .ref r5.1, .ref r5.1, .ref a0]) (s' := r5.2) rfl trivial ?_
  refine bd h (fun r6 hr6 h => ?_)
  refine Ev_call 3 1 1 [.ref r5.1, .int (nI 40)] [.ref r5.1, .ref a0] rfl rfl rfl rfl g6 rfl rfl (Nat.le_of_ble_eq_true rfl) (t_Row_init hr6) ?_
  refine gd h (fun g7 h => ?_)
  refine bd h (fun r7 hr7 h => ?_)
  obtain ⟨gr7, er7, fr7⟩ := nwA_inv hr7
  refine Ev_blk 4 (pc' := 44) (ls' := [.ref a0, .ref a1, .ref a2]) (st' := [.ref (sX (setR r6 a0 4 r5.1)), .ref a0]) (s' := newA (setR r6 a0 4 r5.1) 20 (nI 64).toNatClampNeg) rfl ⟨⟨trivial, g7⟩, gr7⟩ ?_
  rw [← fr7, ← er7]
  refine gd h (fun g8 h => ?_)
  refine Ev_blk 10 (pc' := 62) (ls' := [.ref a0, .ref a1, .ref a2]) (st' := []) (s' := setR (setR (setI (setR r7.2 a0 5 r7.1) a0 6 (-(nI 1))) a0 0 a1) a0 1 a2) rfl ⟨⟨⟨⟨trivial, g8⟩, g8⟩, g8⟩, g8⟩ ?_
  cases h
  exact Ev_ret rfl trivial

/-- RecordHeap$Log.<init>()V -/
def f_Log_init (s : AS) (a0 : Nat) : Option AS :=
  if ¬ a0 = 0 then
  (nwA s 20 (nI 16)).bind fun r1 =>
  if sT r1.2 a0 = 5 then
  (nwA (setR r1.2 a0 0 r1.1) 46 (nI 16)).bind fun r2 =>
  if sT r2.2 a0 = 5 then
  some (setI (setR r2.2 a0 1 r2.1) a0 2 (nI 0))
  else none
  else none
  else none
theorem t_Log_init {s : AS} {a0 : Nat} {o : AS} (h : f_Log_init s a0 = some o) : Ev 0 mZ9 0 [.ref a0] [] s (none, o) := by
  unfold f_Log_init at h
  refine gd h (fun g1 h => ?_)
  refine bd h (fun r1 hr1 h => ?_)
  obtain ⟨gr1, er1, fr1⟩ := nwA_inv hr1
  refine Ev_blk 5 (pc' := 9) (ls' := [.ref a0]) (st' := [.ref (sX s), .ref a0]) (s' := newA s 20 (nI 16).toNatClampNeg) rfl ⟨⟨trivial, g1⟩, gr1⟩ ?_
  rw [← fr1, ← er1]
  refine gd h (fun g2 h => ?_)
  refine bd h (fun r2 hr2 h => ?_)
  obtain ⟨gr2, er2, fr2⟩ := nwA_inv hr2
  refine Ev_blk 4 (pc' := 18) (ls' := [.ref a0]) (st' := [.ref (sX (setR r1.2 a0 0 r1.1)), .ref a0]) (s' := newA (setR r1.2 a0 0 r1.1) 46 (nI 16).toNatClampNeg) rfl ⟨⟨trivial, g2⟩, gr2⟩ ?_
  rw [← fr2, ← er2]
  refine gd h (fun g3 h => ?_)
  refine Ev_blk 4 (pc' := 26) (ls' := [.ref a0]) (st' := []) (s' := setI (setR r2.2 a0 1 r2.1) a0 2 (nI 0)) rfl ⟨⟨trivial, g3⟩, g3⟩ ?_
  cases h
  exact Ev_ret rfl trivial

/-- RecordHeap$Runner.<init>(LRecordHeap$Desk;LRecordHeap$Machine;LRecordHeap$Row;)V -/
def f_Runner_init (s : AS) (a0 : Nat) (a1 : Nat) (a2 : Nat) (a3 : Nat) : Option AS :=
  if ¬ a0 = 0 then
  (nwO s 5 3).bind fun r1 =>
  if ¬ r1.1 = 0 then
  (f_Log_init r1.2 r1.1).bind fun r2 =>
  if sT r2 a0 = 10 then
  (nwO (setR r2 a0 3 r1.1) 7 6).bind fun r3 =>
  if ¬ r3.1 = 0 then
  (f_Pages_init r3.2 r3.1).bind fun r4 =>
  if sT r4 a0 = 10 then
  some (setR (setR (setR (setI (setI (setR r4 a0 4 r3.1) a0 5 (nI 0)) a0 6 (-(nI 1))) a0 0 a1) a0 1 a2) a0 2 a3)
  else none
  else none
  else none
  else none
  else none
theorem t_Runner_init {s : AS} {a0 : Nat} {a1 : Nat} {a2 : Nat} {a3 : Nat} {o : AS} (h : f_Runner_init s a0 a1 a2 a3 = some o) : Ev 2 mZ10 0 [.ref a0, .ref a1, .ref a2, .ref a3] [] s (none, o) := by
  unfold f_Runner_init at h
  refine gd h (fun g1 h => ?_)
  refine bd h (fun r1 hr1 h => ?_)
  obtain ⟨gr1, er1, fr1⟩ := nwO_inv hr1
  refine Ev_blk 4 (pc' := 8) (ls' := [.ref a0, .ref a1, .ref a2, .ref a3]) (st' := [.ref (sX s), .ref a0]) (s' := newA s 5 3) rfl ⟨⟨trivial, g1⟩, gr1⟩ ?_
  rw [← fr1, ← er1]
  refine gd h (fun g2 h => ?_)
  refine Ev_blk 1 (pc' := 9) (ls' := [.ref a0, .ref a1, .ref a2, .ref a3]) (st' := [.ref r1.1, .ref r1.1, .ref a0]) (s' := r1.2) rfl trivial ?_
  refine bd h (fun r2 hr2 h => ?_)
  refine Ev_call 3 9 0 [.ref r1.1] [.ref r1.1, .ref a0] rfl rfl rfl rfl g2 rfl rfl (Nat.le_of_ble_eq_true rfl) (t_Log_init hr2) ?_
  refine gd h (fun g3 h => ?_)
  refine bd h (fun r3 hr3 h => ?_)
  obtain ⟨gr3, er3, fr3⟩ := nwO_inv hr3
  refine Ev_blk 3 (pc' := 19) (ls' := [.ref a0, .ref a1, .ref a2, .ref a3]) (st' := [.ref (sX (setR r2 a0 3 r1.1)), .ref a0]) (s' := newA (setR r2 a0 3 r1.1) 7 6) rfl ⟨⟨trivial, g3⟩, gr3⟩ ?_
  rw [← fr3, ← er3]
  refine gd h (fun g4 h => ?_)
  refine Ev_blk 1 (pc' := 20) (ls' := [.ref a0, .ref a1, .ref a2, .ref a3]) (st' := [.ref r3.1, .ref r3.1, .ref a0]) (s' := r3.2) rfl trivial ?_
  refine bd h (fun r4 hr4 h => ?_)
  refine Ev_call 3 7 0 [.ref r3.1] [.ref r3.1, .ref a0] rfl rfl rfl rfl g4 rfl rfl (Nat.le_of_ble_eq_true rfl) (t_Pages_init hr4) ?_
  refine gd h (fun g5 h => ?_)
  refine Ev_blk 16 (pc' := 51) (ls' := [.ref a0, .ref a1, .ref a2, .ref a3]) (st' := []) (s' := setR (setR (setR (setI (setI (setR r4 a0 4 r3.1) a0 5 (nI 0)) a0 6 (-(nI 1))) a0 0 a1) a0 1 a2) a0 2 a3) rfl ⟨⟨⟨⟨⟨⟨trivial, g5⟩, g5⟩, g5⟩, g5⟩, g5⟩, g5⟩ ?_
  cases h
  exact Ev_ret rfl trivial

/-- RecordHeap$Calendar.<init>(LRecordHeap$Desk;LRecordHeap$Row;)V -/
def f_Calendar_init (s : AS) (a0 : Nat) (a1 : Nat) (a2 : Nat) : Option AS :=
  if ¬ a0 = 0 then
  (nwA s 20 (nI 8)).bind fun r1 =>
  if sT r1.2 a0 = 2 then
  (nwA (setR r1.2 a0 2 r1.1) 20 (nI 8)).bind fun r2 =>
  if sT r2.2 a0 = 2 then
  (nwA (setR r2.2 a0 3 r2.1) 20 (nI 8)).bind fun r3 =>
  if sT r3.2 a0 = 2 then
  if sT r3.2 a0 = 2 ∧ ((nI 0) = nI 0 ∨ (nI 0) = nI 1) then
  some (setR (setR (setI (setI (setR r3.2 a0 4 r3.1) a0 5 (nI 0)) a0 6 (nI 0)) a0 0 a1) a0 1 a2)
  else none
  else none
  else none
  else none
  else none
theorem t_Calendar_init {s : AS} {a0 : Nat} {a1 : Nat} {a2 : Nat} {o : AS} (h : f_Calendar_init s a0 a1 a2 = some o) : Ev 0 mZ11 0 [.ref a0, .ref a1, .ref a2] [] s (none, o) := by
  unfold f_Calendar_init at h
  refine gd h (fun g1 h => ?_)
  refine bd h (fun r1 hr1 h => ?_)
  obtain ⟨gr1, er1, fr1⟩ := nwA_inv hr1
  refine Ev_blk 5 (pc' := 9) (ls' := [.ref a0, .ref a1, .ref a2]) (st' := [.ref (sX s), .ref a0]) (s' := newA s 20 (nI 8).toNatClampNeg) rfl ⟨⟨trivial, g1⟩, gr1⟩ ?_
  rw [← fr1, ← er1]
  refine gd h (fun g2 h => ?_)
  refine bd h (fun r2 hr2 h => ?_)
  obtain ⟨gr2, er2, fr2⟩ := nwA_inv hr2
  refine Ev_blk 4 (pc' := 17) (ls' := [.ref a0, .ref a1, .ref a2]) (st' := [.ref (sX (setR r1.2 a0 2 r1.1)), .ref a0]) (s' := newA (setR r1.2 a0 2 r1.1) 20 (nI 8).toNatClampNeg) rfl ⟨⟨trivial, g2⟩, gr2⟩ ?_
  rw [← fr2, ← er2]
  refine gd h (fun g3 h => ?_)
  refine bd h (fun r3 hr3 h => ?_)
  obtain ⟨gr3, er3, fr3⟩ := nwA_inv hr3
  refine Ev_blk 4 (pc' := 25) (ls' := [.ref a0, .ref a1, .ref a2]) (st' := [.ref (sX (setR r2.2 a0 3 r2.1)), .ref a0]) (s' := newA (setR r2.2 a0 3 r2.1) 20 (nI 8).toNatClampNeg) rfl ⟨⟨trivial, g3⟩, gr3⟩ ?_
  rw [← fr3, ← er3]
  refine gd h (fun g4 h => ?_)
  refine gd h (fun g5 h => ?_)
  refine Ev_blk 13 (pc' := 48) (ls' := [.ref a0, .ref a1, .ref a2]) (st' := []) (s' := setR (setR (setI (setI (setR r3.2 a0 4 r3.1) a0 5 (nI 0)) a0 6 (nI 0)) a0 0 a1) a0 1 a2) rfl ⟨⟨⟨⟨⟨trivial, g4⟩, g5⟩, g4⟩, g4⟩, g4⟩ ?_
  cases h
  exact Ev_ret rfl trivial

/-- RecordHeap.<init>()V -/
def f_C_init (s : AS) (a0 : Nat) : Option AS :=
  if ¬ a0 = 0 then
  (nwO s 9 2).bind fun r1 =>
  if ¬ r1.1 = 0 then
  (f_Row_init r1.2 r1.1 (nI 400)).bind fun r2 =>
  if sT r2 a0 = 1 then
  (nwO (setR r2 a0 0 r1.1) 9 2).bind fun r3 =>
  if ¬ r3.1 = 0 then
  (f_Row_init r3.2 r3.1 (nI 200)).bind fun r4 =>
  if sT r4 a0 = 1 then
  (nwO (setR r4 a0 1 r3.1) 9 2).bind fun r5 =>
  if ¬ r5.1 = 0 then
  (f_Row_init r5.2 r5.1 (nI 200)).bind fun r6 =>
  if sT r6 a0 = 1 then
  (nwO (setR r6 a0 2 r5.1) 8 8).bind fun r7 =>
  if ¬ r7.1 = 0 then
  (f_Reader_init r7.2 r7.1).bind fun r8 =>
  if sT r8 a0 = 1 then
  (nwO (setR r8 a0 3 r7.1) 6 2).bind fun r9 =>
  if ¬ r9.1 = 0 then
  (f_Machine_init r9.2 r9.1).bind fun r10 =>
  if sT r10 a0 = 1 then
  (nwO (setR r10 a0 4 r9.1) 11 4).bind fun r11 =>
  if ¬ r11.1 = 0 then
  (f_Setting_init r11.2 r11.1).bind fun r12 =>
  if sT r12 a0 = 1 then
  (nwO (setR r12 a0 5 r11.1) 3 7).bind fun r13 =>
  if sT r13.2 a0 = 1 then
  if ¬ r13.1 = 0 then
  (f_Desk_init r13.2 r13.1 (sR r13.2 a0 5) (sR r13.2 a0 4)).bind fun r14 =>
  if sT r14 a0 = 1 then
  (nwO (setR r14 a0 6 r13.1) 3 7).bind fun r15 =>
  if sT r15.2 a0 = 1 then
  if ¬ r15.1 = 0 then
  (f_Desk_init r15.2 r15.1 (sR r15.2 a0 5) (sR r15.2 a0 4)).bind fun r16 =>
  if sT r16 a0 = 1 then
  (nwO (setR r16 a0 7 r15.1) 5 3).bind fun r17 =>
  if ¬ r17.1 = 0 then
  (f_Log_init r17.2 r17.1).bind fun r18 =>
  if sT r18 a0 = 1 then
  (nwO (setR r18 a0 8 r17.1) 10 7).bind fun r19 =>
  if sT r19.2 a0 = 1 then
  if ¬ r19.1 = 0 then
  (f_Runner_init r19.2 r19.1 (sR r19.2 a0 6) (sR r19.2 a0 4) (sR r19.2 a0 2)).bind fun r20 =>
  if sT r20 a0 = 1 then
  (nwO (setR r20 a0 9 r19.1) 2 7).bind fun r21 =>
  if sT r21.2 a0 = 1 then
  if ¬ r21.1 = 0 then
  (f_Calendar_init r21.2 r21.1 (sR r21.2 a0 7) (sR r21.2 a0 2)).bind fun r22 =>
  if sT r22 a0 = 1 then
  (nwA (setR r22 a0 10 r21.1) 43 (nI 2)).bind fun r23 =>
  if sT r23.2 a0 = 1 then
  (nwA (setR r23.2 a0 11 r23.1) 21 (nI 20)).bind fun r24 =>
  if sT r24.2 a0 = 1 then
  (nwA (setR r24.2 a0 12 r24.1) 20 (nI 5)).bind fun r25 =>
  if sT r25.2 a0 = 1 then
  some (setI (setI (setR r25.2 a0 13 r25.1) a0 14 (-(nI 1))) a0 15 (nI 0))
  else none
  else none
  else none
  else none
  else none
  else none
  else none
  else none
  else none
  else none
  else none
  else none
  else none
  else none
  else none
  else none
  else none
  else none
  else none
  else none
  else none
  else none
  else none
  else none
  else none
  else none
  else none
  else none
  else none
  else none
theorem t_C_init {s : AS} {a0 : Nat} {o : AS} (h : f_C_init s a0 = some o) : Ev 3 mZ0 0 [.ref a0] [] s (none, o) := by
  unfold f_C_init at h
  refine gd h (fun g1 h => ?_)
  refine bd h (fun r1 hr1 h => ?_)
  obtain ⟨gr1, er1, fr1⟩ := nwO_inv hr1
  refine Ev_blk 4 (pc' := 8) (ls' := [.ref a0]) (st' := [.ref (sX s), .ref a0]) (s' := newA s 9 2) rfl ⟨⟨trivial, g1⟩, gr1⟩ ?_
  rw [← fr1, ← er1]
  refine gd h (fun g2 h => ?_)
  refine Ev_blk 2 (pc' := 12) (ls' := [.ref a0]) (st' := [.int (nI 400), .ref r1.1, .ref r1.1, .ref a0]) (s' := r1.2) rfl trivial ?_
  refine bd h (fun r2 hr2 h => ?_)
  refine Ev_call 3 1 1 [.ref r1.1, .int (nI 400)] [.ref r1.1, .ref a0] rfl rfl rfl rfl g2 rfl rfl (Nat.le_of_ble_eq_true rfl) (t_Row_init hr2) ?_
  refine gd h (fun g3 h => ?_)
  refine bd h (fun r3 hr3 h => ?_)
  obtain ⟨gr3, er3, fr3⟩ := nwO_inv hr3
  refine Ev_blk 3 (pc' := 22) (ls' := [.ref a0]) (st' := [.ref (sX (setR r2 a0 0 r1.1)), .ref a0]) (s' := newA (setR r2 a0 0 r1.1) 9 2) rfl ⟨⟨trivial, g3⟩, gr3⟩ ?_
  rw [← fr3, ← er3]
  refine gd h (fun g4 h => ?_)
  refine Ev_blk 2 (pc' := 26) (ls' := [.ref a0]) (st' := [.int (nI 200), .ref r3.1, .ref r3.1, .ref a0]) (s' := r3.2) rfl trivial ?_
  refine bd h (fun r4 hr4 h => ?_)
  refine Ev_call 3 1 1 [.ref r3.1, .int (nI 200)] [.ref r3.1, .ref a0] rfl rfl rfl rfl g4 rfl rfl (Nat.le_of_ble_eq_true rfl) (t_Row_init hr4) ?_
  refine gd h (fun g5 h => ?_)
  refine bd h (fun r5 hr5 h => ?_)
  obtain ⟨gr5, er5, fr5⟩ := nwO_inv hr5
  refine Ev_blk 3 (pc' := 36) (ls' := [.ref a0]) (st' := [.ref (sX (setR r4 a0 1 r3.1)), .ref a0]) (s' := newA (setR r4 a0 1 r3.1) 9 2) rfl ⟨⟨trivial, g5⟩, gr5⟩ ?_
  rw [← fr5, ← er5]
  refine gd h (fun g6 h => ?_)
  refine Ev_blk 2 (pc' := 40) (ls' := [.ref a0]) (st' := [.int (nI 200), .ref r5.1, .ref r5.1, .ref a0]) (s' := r5.2) rfl trivial ?_
  refine bd h (fun r6 hr6 h => ?_)
  refine Ev_call 3 1 1 [.ref r5.1, .int (nI 200)] [.ref r5.1, .ref a0] rfl rfl rfl rfl g6 rfl rfl (Nat.le_of_ble_eq_true rfl) (t_Row_init hr6) ?_
  refine gd h (fun g7 h => ?_)
  refine bd h (fun r7 hr7 h => ?_)
  obtain ⟨gr7, er7, fr7⟩ := nwO_inv hr7
  refine Ev_blk 3 (pc' := 50) (ls' := [.ref a0]) (st' := [.ref (sX (setR r6 a0 2 r5.1)), .ref a0]) (s' := newA (setR r6 a0 2 r5.1) 8 8) rfl ⟨⟨trivial, g7⟩, gr7⟩ ?_
  rw [← fr7, ← er7]
  refine gd h (fun g8 h => ?_)
  refine Ev_blk 1 (pc' := 51) (ls' := [.ref a0]) (st' := [.ref r7.1, .ref r7.1, .ref a0]) (s' := r7.2) rfl trivial ?_
  refine bd h (fun r8 hr8 h => ?_)
  refine Ev_call 3 2 0 [.ref r7.1] [.ref r7.1, .ref a0] rfl rfl rfl rfl g8 rfl rfl (Nat.le_of_ble_eq_true rfl) (t_Reader_init hr8) ?_
  refine gd h (fun g9 h => ?_)
  refine bd h (fun r9 hr9 h => ?_)
  obtain ⟨gr9, er9, fr9⟩ := nwO_inv hr9
  refine Ev_blk 3 (pc' := 61) (ls' := [.ref a0]) (st' := [.ref (sX (setR r8 a0 3 r7.1)), .ref a0]) (s' := newA (setR r8 a0 3 r7.1) 6 2) rfl ⟨⟨trivial, g9⟩, gr9⟩ ?_
  rw [← fr9, ← er9]
  refine gd h (fun g10 h => ?_)
  refine Ev_blk 1 (pc' := 62) (ls' := [.ref a0]) (st' := [.ref r9.1, .ref r9.1, .ref a0]) (s' := r9.2) rfl trivial ?_
  refine bd h (fun r10 hr10 h => ?_)
  refine Ev_call 3 4 0 [.ref r9.1] [.ref r9.1, .ref a0] rfl rfl rfl rfl g10 rfl rfl (Nat.le_of_ble_eq_true rfl) (t_Machine_init hr10) ?_
  refine gd h (fun g11 h => ?_)
  refine bd h (fun r11 hr11 h => ?_)
  obtain ⟨gr11, er11, fr11⟩ := nwO_inv hr11
  refine Ev_blk 3 (pc' := 72) (ls' := [.ref a0]) (st' := [.ref (sX (setR r10 a0 4 r9.1)), .ref a0]) (s' := newA (setR r10 a0 4 r9.1) 11 4) rfl ⟨⟨trivial, g11⟩, gr11⟩ ?_
  rw [← fr11, ← er11]
  refine gd h (fun g12 h => ?_)
  refine Ev_blk 1 (pc' := 73) (ls' := [.ref a0]) (st' := [.ref r11.1, .ref r11.1, .ref a0]) (s' := r11.2) rfl trivial ?_
  refine bd h (fun r12 hr12 h => ?_)
  refine Ev_call 3 5 0 [.ref r11.1] [.ref r11.1, .ref a0] rfl rfl rfl rfl g12 rfl rfl (Nat.le_of_ble_eq_true rfl) (t_Setting_init hr12) ?_
  refine gd h (fun g13 h => ?_)
  refine bd h (fun r13 hr13 h => ?_)
  obtain ⟨gr13, er13, fr13⟩ := nwO_inv hr13
  refine Ev_blk 3 (pc' := 83) (ls' := [.ref a0]) (st' := [.ref (sX (setR r12 a0 5 r11.1)), .ref a0]) (s' := newA (setR r12 a0 5 r11.1) 3 7) rfl ⟨⟨trivial, g13⟩, gr13⟩ ?_
  rw [← fr13, ← er13]
  refine gd h (fun g14 h => ?_)
  refine gd h (fun g15 h => ?_)
  refine Ev_blk 5 (pc' := 92) (ls' := [.ref a0]) (st' := [.ref (sR r13.2 a0 4), .ref (sR r13.2 a0 5), .ref r13.1, .ref r13.1, .ref a0]) (s' := r13.2) rfl ⟨⟨trivial, g14⟩, g14⟩ ?_
  refine bd h (fun r14 hr14 h => ?_)
  refine Ev_call 3 6 2 [.ref r13.1, .ref (sR r13.2 a0 5), .ref (sR r13.2 a0 4)] [.ref r13.1, .ref a0] rfl rfl rfl rfl g15 rfl rfl (Nat.le_of_ble_eq_true rfl) (t_Desk_init hr14) ?_
  refine gd h (fun g16 h => ?_)
  refine bd h (fun r15 hr15 h => ?_)
  obtain ⟨gr15, er15, fr15⟩ := nwO_inv hr15
  refine Ev_blk 3 (pc' := 102) (ls' := [.ref a0]) (st' := [.ref (sX (setR r14 a0 6 r13.1)), .ref a0]) (s' := newA (setR r14 a0 6 r13.1) 3 7) rfl ⟨⟨trivial, g16⟩, gr15⟩ ?_
  rw [← fr15, ← er15]
  refine gd h (fun g17 h => ?_)
  refine gd h (fun g18 h => ?_)
  refine Ev_blk 5 (pc' := 111) (ls' := [.ref a0]) (st' := [.ref (sR r15.2 a0 4), .ref (sR r15.2 a0 5), .ref r15.1, .ref r15.1, .ref a0]) (s' := r15.2) rfl ⟨⟨trivial, g17⟩, g17⟩ ?_
  refine bd h (fun r16 hr16 h => ?_)
  refine Ev_call 3 6 2 [.ref r15.1, .ref (sR r15.2 a0 5), .ref (sR r15.2 a0 4)] [.ref r15.1, .ref a0] rfl rfl rfl rfl g18 rfl rfl (Nat.le_of_ble_eq_true rfl) (t_Desk_init hr16) ?_
  refine gd h (fun g19 h => ?_)
  refine bd h (fun r17 hr17 h => ?_)
  obtain ⟨gr17, er17, fr17⟩ := nwO_inv hr17
  refine Ev_blk 3 (pc' := 121) (ls' := [.ref a0]) (st' := [.ref (sX (setR r16 a0 7 r15.1)), .ref a0]) (s' := newA (setR r16 a0 7 r15.1) 5 3) rfl ⟨⟨trivial, g19⟩, gr17⟩ ?_
  rw [← fr17, ← er17]
  refine gd h (fun g20 h => ?_)
  refine Ev_blk 1 (pc' := 122) (ls' := [.ref a0]) (st' := [.ref r17.1, .ref r17.1, .ref a0]) (s' := r17.2) rfl trivial ?_
  refine bd h (fun r18 hr18 h => ?_)
  refine Ev_call 3 9 0 [.ref r17.1] [.ref r17.1, .ref a0] rfl rfl rfl rfl g20 rfl rfl (Nat.le_of_ble_eq_true rfl) (t_Log_init hr18) ?_
  refine gd h (fun g21 h => ?_)
  refine bd h (fun r19 hr19 h => ?_)
  obtain ⟨gr19, er19, fr19⟩ := nwO_inv hr19
  refine Ev_blk 3 (pc' := 132) (ls' := [.ref a0]) (st' := [.ref (sX (setR r18 a0 8 r17.1)), .ref a0]) (s' := newA (setR r18 a0 8 r17.1) 10 7) rfl ⟨⟨trivial, g21⟩, gr19⟩ ?_
  rw [← fr19, ← er19]
  refine gd h (fun g22 h => ?_)
  refine gd h (fun g23 h => ?_)
  refine Ev_blk 7 (pc' := 145) (ls' := [.ref a0]) (st' := [.ref (sR r19.2 a0 2), .ref (sR r19.2 a0 4), .ref (sR r19.2 a0 6), .ref r19.1, .ref r19.1, .ref a0]) (s' := r19.2) rfl ⟨⟨⟨trivial, g22⟩, g22⟩, g22⟩ ?_
  refine bd h (fun r20 hr20 h => ?_)
  refine Ev_call 3 10 3 [.ref r19.1, .ref (sR r19.2 a0 6), .ref (sR r19.2 a0 4), .ref (sR r19.2 a0 2)] [.ref r19.1, .ref a0] rfl rfl rfl rfl g23 rfl rfl (Nat.le_of_ble_eq_true rfl) (t_Runner_init hr20) ?_
  refine gd h (fun g24 h => ?_)
  refine bd h (fun r21 hr21 h => ?_)
  obtain ⟨gr21, er21, fr21⟩ := nwO_inv hr21
  refine Ev_blk 3 (pc' := 155) (ls' := [.ref a0]) (st' := [.ref (sX (setR r20 a0 9 r19.1)), .ref a0]) (s' := newA (setR r20 a0 9 r19.1) 2 7) rfl ⟨⟨trivial, g24⟩, gr21⟩ ?_
  rw [← fr21, ← er21]
  refine gd h (fun g25 h => ?_)
  refine gd h (fun g26 h => ?_)
  refine Ev_blk 5 (pc' := 164) (ls' := [.ref a0]) (st' := [.ref (sR r21.2 a0 2), .ref (sR r21.2 a0 7), .ref r21.1, .ref r21.1, .ref a0]) (s' := r21.2) rfl ⟨⟨trivial, g25⟩, g25⟩ ?_
  refine bd h (fun r22 hr22 h => ?_)
  refine Ev_call 3 11 2 [.ref r21.1, .ref (sR r21.2 a0 7), .ref (sR r21.2 a0 2)] [.ref r21.1, .ref a0] rfl rfl rfl rfl g26 rfl rfl (Nat.le_of_ble_eq_true rfl) (t_Calendar_init hr22) ?_
  refine gd h (fun g27 h => ?_)
  refine bd h (fun r23 hr23 h => ?_)
  obtain ⟨gr23, er23, fr23⟩ := nwA_inv hr23
  refine Ev_blk 4 (pc' := 175) (ls' := [.ref a0]) (st' := [.ref (sX (setR r22 a0 10 r21.1)), .ref a0]) (s' := newA (setR r22 a0 10 r21.1) 43 (nI 2).toNatClampNeg) rfl ⟨⟨trivial, g27⟩, gr23⟩ ?_
  rw [← fr23, ← er23]
  refine gd h (fun g28 h => ?_)
  refine bd h (fun r24 hr24 h => ?_)
  obtain ⟨gr24, er24, fr24⟩ := nwA_inv hr24
  refine Ev_blk 4 (pc' := 183) (ls' := [.ref a0]) (st' := [.ref (sX (setR r23.2 a0 11 r23.1)), .ref a0]) (s' := newA (setR r23.2 a0 11 r23.1) 21 (nI 20).toNatClampNeg) rfl ⟨⟨trivial, g28⟩, gr24⟩ ?_
  rw [← fr24, ← er24]
  refine gd h (fun g29 h => ?_)
  refine bd h (fun r25 hr25 h => ?_)
  obtain ⟨gr25, er25, fr25⟩ := nwA_inv hr25
  refine Ev_blk 4 (pc' := 190) (ls' := [.ref a0]) (st' := [.ref (sX (setR r24.2 a0 12 r24.1)), .ref a0]) (s' := newA (setR r24.2 a0 12 r24.1) 20 (nI 5).toNatClampNeg) rfl ⟨⟨trivial, g29⟩, gr25⟩ ?_
  rw [← fr25, ← er25]
  refine gd h (fun g30 h => ?_)
  refine Ev_blk 7 (pc' := 203) (ls' := [.ref a0]) (st' := []) (s' := setI (setI (setR r25.2 a0 13 r25.1) a0 14 (-(nI 1))) a0 15 (nI 0)) rfl ⟨⟨⟨trivial, g30⟩, g30⟩, g30⟩ ?_
  cases h
  exact Ev_ret rfl trivial

def b_C_refuse_21  (v0 : Nat) (v1 : Int32) (w0 : Int32) (s : AS) : Option (Int32 × AS) :=
  if w0 < (nI 0) then
    some (v1, s)
  else
    if w0 < (nI 5) then
      if sT s v0 = 1 then
      if sT s (sR s v0 13) = 20 ∧ inA w0 (sN s (sR s v0 13)) then
      some (v1, setI s (sR s v0 13) w0.toNatClampNeg ((sI s (sR s v0 13) w0.toNatClampNeg) + (nI 1)))
      else none
      else none
    else
      some (v1, s)
theorem t_C_refuse_21   {d2 : Value} {v0 : Nat} {v1 : Int32} {w0 : Int32} {s : AS} {o : Int32 × AS} (h : b_C_refuse_21  v0 v1 w0 s = some o) : Ev 0 mZ13 21 [.ref v0, .int v1, d2] [.int w0] s (some (.int o.1), o.2) := by
  unfold b_C_refuse_21 at h
  refine Ev_blk 3 (pc' := if w0 < (nI 0) then 41 else 26) (ls' := [.ref v0, .int v1, .int w0]) (st' := []) (s' := s) rfl trivial ?_
  refine ib h (fun c1 h => ?_) (fun c1 h => ?_)
  · refine Ev_blk 1 (pc' := 42) (ls' := [.ref v0, .int v1, .int w0]) (st' := [.int v1]) (s' := s) rfl trivial ?_
    cases h
    exact Ev_ret rfl trivial
  · refine Ev_blk 3 (pc' := if w0 < (nI 5) then 31 else 41) (ls' := [.ref v0, .int v1, .int w0]) (st' := []) (s' := s) rfl trivial ?_
    refine ib h (fun c2 h => ?_) (fun c2 h => ?_)
    · refine gd h (fun g3 h => ?_)
      refine gd h (fun g4 h => ?_)
      refine Ev_blk 9 (pc' := 42) (ls' := [.ref v0, .int v1, .int w0]) (st' := [.int v1]) (s' := setI s (sR s v0 13) w0.toNatClampNeg ((sI s (sR s v0 13) w0.toNatClampNeg) + (nI 1))) rfl ⟨⟨⟨trivial, g3⟩, ⟨Or.inl g4.1, g4.2⟩⟩, g4⟩ ?_
      cases h
      exact Ev_ret rfl trivial
    · refine Ev_blk 1 (pc' := 42) (ls' := [.ref v0, .int v1, .int w0]) (st' := [.int v1]) (s' := s) rfl trivial ?_
      cases h
      exact Ev_ret rfl trivial
/-- RecordHeap.refuse(I)I -/
def f_C_refuse (s : AS) (a0 : Nat) (a1 : Int32) : Option (Int32 × AS) :=
  if sT s a0 = 1 then
    b_C_refuse_21 a0 a1 (if a1 < (-(nI 3)) then (-(nI 2)) - a1 else (-(nI 1)) - a1) (setI s a0 15 a1)
  else none
theorem t_C_refuse {s : AS} {a0 : Nat} {a1 : Int32} {o : Int32 × AS} (h : f_C_refuse s a0 a1 = some o) : Ev 0 mZ13 0 [.ref a0, .int a1, .retAddr 0] [] s (some (.int o.1), o.2) := by
  unfold f_C_refuse at h
  refine gd h (fun g1 h => ?_)
  refine Ev_blk 6 (pc' := if a1 < (-(nI 3)) then 17 else 11) (ls' := [.ref a0, .int a1, .retAddr 0]) (st' := []) (s' := setI s a0 15 a1) rfl ⟨trivial, g1⟩ ?_
  have k2_ : Ev 0 mZ13 21 [.ref a0, .int a1, .retAddr 0] [.int (if a1 < (-(nI 3)) then (-(nI 2)) - a1 else (-(nI 1)) - a1)] (setI s a0 15 a1) (some (.int o.1), o.2) := by
    exact t_C_refuse_21 h
  refine icases (fun c3 => ?_) (fun c3 => ?_)
  · exact Ev_blk 3 (pc' := 21) (ls' := [.ref a0, .int a1, .retAddr 0]) (st' := [.int ((-(nI 2)) - a1)]) (s' := setI s a0 15 a1) rfl trivial (by simpa only [if_pos c3] using k2_)
  · exact Ev_blk 4 (pc' := 21) (ls' := [.ref a0, .int a1, .retAddr 0]) (st' := [.int ((-(nI 1)) - a1)]) (s' := setI s a0 15 a1) rfl trivial (by simpa only [if_neg c3] using k2_)

/-- RecordHeap.told(I)I -/
def f_C_told (s : AS) (a0 : Nat) (a1 : Int32) : Option (Int32 × AS) :=
  if sT s a0 = 1 then
  some (a1, setI s a0 15 (nI 0))
  else none
theorem t_C_told {s : AS} {a0 : Nat} {a1 : Int32} {o : Int32 × AS} (h : f_C_told s a0 a1 = some o) : Ev 0 mZ14 0 [.ref a0, .int a1] [] s (some (.int o.1), o.2) := by
  unfold f_C_told at h
  refine gd h (fun g1 h => ?_)
  refine Ev_blk 4 (pc' := 6) (ls' := [.ref a0, .int a1]) (st' := [.int a1]) (s' := setI s a0 15 (nI 0)) rfl ⟨trivial, g1⟩ ?_
  cases h
  exact Ev_ret rfl trivial

def b_C_terms_22  (v0 : Nat) (s : AS) : Option (Int32 × AS) :=
  if sT s v0 = 1 then
  (f_C_refuse s v0 (-(nI 1))).bind fun r1 =>
  some (r1.1, r1.2)
  else none
theorem t_C_terms_22   {d1 d2 d3 : Value} {v0 : Nat} {s : AS} {o : Int32 × AS} (h : b_C_terms_22  v0 s = some o) : Ev 1 mZ12 22 [.ref v0, d1, d2, d3] [] s (some (.int o.1), o.2) := by
  unfold b_C_terms_22 at h
  refine gd h (fun g1 h => ?_)
  refine Ev_blk 2 (pc' := 24) (ls' := [.ref v0, d1, d2, d3]) (st' := [.int (-(nI 1)), .ref v0]) (s' := s) rfl trivial ?_
  refine bd h (fun r1 hr1 h => ?_)
  refine Ev_call 2 13 1 [.ref v0, .int (-(nI 1))] [] rfl rfl rfl rfl g1 rfl rfl (Nat.le_of_ble_eq_true rfl) (t_C_refuse hr1) ?_
  cases h
  exact Ev_ret rfl trivial
/-- RecordHeap.terms(II)I -/
def f_C_terms (s : AS) (a0 : Nat) (a1 : Int32) (a2 : Int32) : Option (Int32 × AS) :=
  if a1 < (nI 0) then
    b_C_terms_22 a0 s
  else
    if a1 < (nI 3) then
      if a2 < (nI 0) then
        b_C_terms_22 a0 s
      else
        if sT s 1000000 = 30 ∧ inA a1 (sN s 1000000) then
        if (sI s 1000000 a1.toNatClampNeg) < a2 then
          b_C_terms_22 a0 s
        else
          if sT s a0 = 1 then
          if sT s (sR s a0 5) = 11 then
          if sT s (sR s (sR s a0 5) 0) = 20 ∧ inA a1 (sN s (sR s (sR s a0 5) 0)) then
          (f_C_told (setI s (sR s (sR s a0 5) 0) a1.toNatClampNeg a2) a0 (sI s (sR s (sR s a0 5) 0) a1.toNatClampNeg)).bind fun r1 =>
          some (r1.1, r1.2)
          else none
          else none
          else none
        else none
    else
      b_C_terms_22 a0 s
theorem t_C_terms {s : AS} {a0 : Nat} {a1 : Int32} {a2 : Int32} {o : Int32 × AS} (h : f_C_terms s a0 a1 a2 = some o) : Ev 1 mZ12 0 [.ref a0, .int a1, .int a2, .retAddr 0] [] s (some (.int o.1), o.2) := by
  unfold f_C_terms at h
  refine Ev_blk 2 (pc' := if a1 < (nI 0) then 22 else 4) (ls' := [.ref a0, .int a1, .int a2, .retAddr 0]) (st' := []) (s' := s) rfl trivial ?_
  refine ib h (fun c1 h => ?_) (fun c1 h => ?_)
  · exact t_C_terms_22 h
  · refine Ev_blk 3 (pc' := if a1 < (nI 3) then 9 else 22) (ls' := [.ref a0, .int a1, .int a2, .retAddr 0]) (st' := []) (s' := s) rfl trivial ?_
    refine ib h (fun c2 h => ?_) (fun c2 h => ?_)
    · refine Ev_blk 2 (pc' := if a2 < (nI 0) then 22 else 13) (ls' := [.ref a0, .int a1, .int a2, .retAddr 0]) (st' := []) (s' := s) rfl trivial ?_
      refine ib h (fun c3 h => ?_) (fun c3 h => ?_)
      · exact t_C_terms_22 h
      · refine gd h (fun g4 h => ?_)
        refine Ev_blk 5 (pc' := if (sI s 1000000 a1.toNatClampNeg) < a2 then 22 else 28) (ls' := [.ref a0, .int a1, .int a2, .retAddr 0]) (st' := []) (s' := s) rfl ⟨trivial, ⟨Or.inr g4.1, g4.2⟩⟩ ?_
        refine ib h (fun c5 h => ?_) (fun c5 h => ?_)
        · exact t_C_terms_22 h
        · refine gd h (fun g6 h => ?_)
          refine gd h (fun g7 h => ?_)
          refine gd h (fun g8 h => ?_)
          refine Ev_blk 14 (pc' := 50) (ls' := [.ref a0, .int a1, .int a2, .int (sI s (sR s (sR s a0 5) 0) a1.toNatClampNeg)]) (st' := [.int (sI s (sR s (sR s a0 5) 0) a1.toNatClampNeg), .ref a0]) (s' := setI s (sR s (sR s a0 5) 0) a1.toNatClampNeg a2) rfl ⟨⟨⟨⟨⟨⟨trivial, g6⟩, g7⟩, ⟨Or.inl g8.1, g8.2⟩⟩, g6⟩, g7⟩, g8⟩ ?_
          refine bd h (fun r1 hr1 h => ?_)
          refine Ev_call 2 14 1 [.ref a0, .int (sI s (sR s (sR s a0 5) 0) a1.toNatClampNeg)] [] rfl rfl rfl rfl g6 rfl rfl (Nat.le_of_ble_eq_true rfl) (t_C_told hr1) ?_
          cases h
          exact Ev_ret rfl trivial
    · exact t_C_terms_22 h

/-- RecordHeap$Row.add(I)V -/
def f_Row_add (s : AS) (a0 : Nat) (a1 : Int32) : Option AS :=
  if sT s a0 = 9 then
  if 20 ≤ sT s (sR s a0 0) then
  if (sI s a0 1) < (nI (sN s (sR s a0 0))) then
    if sT s (sR s a0 0) = 20 ∧ inA (sI s a0 1) (sN s (sR s a0 0)) then
    some (setI (setI s (sR s a0 0) (sI s a0 1).toNatClampNeg a1) a0 1 ((sI (setI s (sR s a0 0) (sI s a0 1).toNatClampNeg a1) a0 1) + (nI 1)))
    else none
  else
    some s
  else none
  else none
theorem t_Row_add {s : AS} {a0 : Nat} {a1 : Int32} {o : AS} (h : f_Row_add s a0 a1 = some o) : Ev 0 mZ17 0 [.ref a0, .int a1] [] s (none, o) := by
  unfold f_Row_add at h
  refine gd h (fun g1 h => ?_)
  refine gd h (fun g2 h => ?_)
  refine Ev_blk 6 (pc' := if (sI s a0 1) < (nI (sN s (sR s a0 0))) then 12 else 32) (ls' := [.ref a0, .int a1]) (st' := []) (s' := s) rfl ⟨⟨⟨trivial, g1⟩, g1⟩, g2⟩ ?_
  refine ib h (fun c3 h => ?_) (fun c3 h => ?_)
  · refine gd h (fun g4 h => ?_)
    refine Ev_blk 12 (pc' := 32) (ls' := [.ref a0, .int a1]) (st' := []) (s' := setI (setI s (sR s a0 0) (sI s a0 1).toNatClampNeg a1) a0 1 ((sI (setI s (sR s a0 0) (sI s a0 1).toNatClampNeg a1) a0 1) + (nI 1))) rfl ⟨⟨⟨⟨⟨trivial, g1⟩, g1⟩, g4⟩, g1⟩, g1⟩ ?_
    cases h
    exact Ev_ret rfl trivial
  · cases h
    exact Ev_ret rfl trivial

def b_Row_addNumber_3 (k3 : Nat → Int32 → Int32 → AS → Option AS) (v0 : Nat) (v1 : Int32) (v2 : Int32) (s : AS) : Option AS :=
  if v2 < (nI 0) then
    some s
  else
    if sT s v0 = 9 then
    (f_Row_add s v0 ((v1 >>> (v2 &&& 31)) &&& (nI 255))).bind fun r1 =>
    k3 v0 v1 (v2 + (-(nI 8))) r1
    else none
theorem t_Row_addNumber_3 {k3 : Nat → Int32 → Int32 → AS → Option AS} (H3 : ∀ {v0 : Nat} {v1 : Int32} {v2 : Int32} {s : AS} {o : AS}, k3 v0 v1 v2 s = some o → Ev 1 mZ16 3 [.ref v0, .int v1, .int v2] [] s (none, o))  {v0 : Nat} {v1 : Int32} {v2 : Int32} {s : AS} {o : AS} (h : b_Row_addNumber_3 k3 v0 v1 v2 s = some o) : Ev 1 mZ16 3 [.ref v0, .int v1, .int v2] [] s (none, o) := by
  unfold b_Row_addNumber_3 at h
  refine Ev_blk 2 (pc' := if v2 < (nI 0) then 24 else 7) (ls' := [.ref v0, .int v1, .int v2]) (st' := []) (s' := s) rfl trivial ?_
  refine ib h (fun c1 h => ?_) (fun c1 h => ?_)
  · cases h
    exact Ev_ret rfl trivial
  · refine gd h (fun g2 h => ?_)
    refine Ev_blk 6 (pc' := 15) (ls' := [.ref v0, .int v1, .int v2]) (st' := [.int ((v1 >>> (v2 &&& 31)) &&& (nI 255)), .ref v0]) (s' := s) rfl trivial ?_
    refine bd h (fun r1 hr1 h => ?_)
    refine Ev_call 2 17 1 [.ref v0, .int ((v1 >>> (v2 &&& 31)) &&& (nI 255))] [] rfl rfl rfl rfl g2 rfl rfl (Nat.le_of_ble_eq_true rfl) (t_Row_add hr1) ?_
    refine Ev_blk 2 (pc' := 3) (ls' := [.ref v0, .int v1, .int (v2 + (-(nI 8)))]) (st' := []) (s' := r1) rfl trivial ?_
    exact H3 h
def l_Row_addNumber_3  : Nat → Nat → Int32 → Int32 → AS → Option AS
  | 0 => fun _ _ _ _ => none
  | n + 1 => b_Row_addNumber_3  (l_Row_addNumber_3  n)
theorem u_Row_addNumber_3   {n : Nat} : ∀  {v0 : Nat} {v1 : Int32} {v2 : Int32} {s : AS} {o : AS}, l_Row_addNumber_3  n v0 v1 v2 s = some o → Ev 1 mZ16 3 [.ref v0, .int v1, .int v2] [] s (none, o) := by
  induction n with
  | zero => intros; rename_i h; cases h
  | succ n ih => intros; rename_i h; exact t_Row_addNumber_3  (fun h => ih h) h
/-- RecordHeap$Row.addNumber(I)V -/
def f_Row_addNumber (s : AS) (a0 : Nat) (a1 : Int32) : Option AS :=
  l_Row_addNumber_3 fuel a0 a1 (nI 24) s
theorem t_Row_addNumber {s : AS} {a0 : Nat} {a1 : Int32} {o : AS} (h : f_Row_addNumber s a0 a1 = some o) : Ev 1 mZ16 0 [.ref a0, .int a1, .retAddr 0] [] s (none, o) := by
  unfold f_Row_addNumber at h
  refine Ev_blk 2 (pc' := 3) (ls' := [.ref a0, .int a1, .int (nI 24)]) (st' := []) (s' := s) rfl trivial ?_
  exact u_Row_addNumber_3 h

/-- RecordHeap.feed(IIIII)I -/
def f_C_feed (s : AS) (a0 : Nat) (a1 : Int32) (a2 : Int32) (a3 : Int32) (a4 : Int32) (a5 : Int32) : Option (Int32 × AS) :=
  if sT s a0 = 1 then
  if sT s (sR s a0 0) = 9 then
  if (nI 400) < ((sI s (sR s a0 0) 1) + (nI 20)) then
    some (-(nI 1), s)
  else
    (f_Row_addNumber s (sR s a0 0) a1).bind fun r1 =>
    if sT r1 a0 = 1 then
    if sT r1 (sR r1 a0 0) = 9 then
    (f_Row_addNumber r1 (sR r1 a0 0) a2).bind fun r2 =>
    if sT r2 a0 = 1 then
    if sT r2 (sR r2 a0 0) = 9 then
    (f_Row_addNumber r2 (sR r2 a0 0) a3).bind fun r3 =>
    if sT r3 a0 = 1 then
    if sT r3 (sR r3 a0 0) = 9 then
    (f_Row_addNumber r3 (sR r3 a0 0) a4).bind fun r4 =>
    if sT r4 a0 = 1 then
    if sT r4 (sR r4 a0 0) = 9 then
    (f_Row_addNumber r4 (sR r4 a0 0) a5).bind fun r5 =>
    if sT r5 a0 = 1 then
    if sT r5 (sR r5 a0 0) = 9 then
    some (sI r5 (sR r5 a0 0) 1, r5)
    else none
    else none
    else none
    else none
    else none
    else none
    else none
    else none
    else none
    else none
  else none
  else none
theorem t_C_feed {s : AS} {a0 : Nat} {a1 : Int32} {a2 : Int32} {a3 : Int32} {a4 : Int32} {a5 : Int32} {o : Int32 × AS} (h : f_C_feed s a0 a1 a2 a3 a4 a5 = some o) : Ev 2 mZ15 0 [.ref a0, .int a1, .int a2, .int a3, .int a4, .int a5] [] s (some (.int o.1), o.2) := by
  unfold f_C_feed at h
  refine gd h (fun g1 h => ?_)
  refine gd h (fun g2 h => ?_)
  refine Ev_blk 7 (pc' := if (nI 400) < ((sI s (sR s a0 0) 1) + (nI 20)) then 16 else 18) (ls' := [.ref a0, .int a1, .int a2, .int a3, .int a4, .int a5]) (st' := []) (s' := s) rfl ⟨⟨trivial, g1⟩, g2⟩ ?_
  refine ib h (fun c3 h => ?_) (fun c3 h => ?_)
  · refine Ev_blk 1 (pc' := 17) (ls' := [.ref a0, .int a1, .int a2, .int a3, .int a4, .int a5]) (st' := [.int (-(nI 1))]) (s' := s) rfl trivial ?_
    cases h
    exact Ev_ret rfl trivial
  · refine Ev_blk 3 (pc' := 23) (ls' := [.ref a0, .int a1, .int a2, .int a3, .int a4, .int a5]) (st' := [.int a1, .ref (sR s a0 0)]) (s' := s) rfl ⟨trivial, g1⟩ ?_
    refine bd h (fun r1 hr1 h => ?_)
    refine Ev_call 2 16 1 [.ref (sR s a0 0), .int a1] [] rfl rfl rfl rfl g2 rfl rfl (Nat.le_of_ble_eq_true rfl) (t_Row_addNumber hr1) ?_
    refine gd h (fun g4 h => ?_)
    refine gd h (fun g5 h => ?_)
    refine Ev_blk 3 (pc' := 31) (ls' := [.ref a0, .int a1, .int a2, .int a3, .int a4, .int a5]) (st' := [.int a2, .ref (sR r1 a0 0)]) (s' := r1) rfl ⟨trivial, g4⟩ ?_
    refine bd h (fun r2 hr2 h => ?_)
    refine Ev_call 2 16 1 [.ref (sR r1 a0 0), .int a2] [] rfl rfl rfl rfl g5 rfl rfl (Nat.le_of_ble_eq_true rfl) (t_Row_addNumber hr2) ?_
    refine gd h (fun g6 h => ?_)
    refine gd h (fun g7 h => ?_)
    refine Ev_blk 3 (pc' := 39) (ls' := [.ref a0, .int a1, .int a2, .int a3, .int a4, .int a5]) (st' := [.int a3, .ref (sR r2 a0 0)]) (s' := r2) rfl ⟨trivial, g6⟩ ?_
    refine bd h (fun r3 hr3 h => ?_)
    refine Ev_call 2 16 1 [.ref (sR r2 a0 0), .int a3] [] rfl rfl rfl rfl g7 rfl rfl (Nat.le_of_ble_eq_true rfl) (t_Row_addNumber hr3) ?_
    refine gd h (fun g8 h => ?_)
    refine gd h (fun g9 h => ?_)
    refine Ev_blk 3 (pc' := 48) (ls' := [.ref a0, .int a1, .int a2, .int a3, .int a4, .int a5]) (st' := [.int a4, .ref (sR r3 a0 0)]) (s' := r3) rfl ⟨trivial, g8⟩ ?_
    refine bd h (fun r4 hr4 h => ?_)
    refine Ev_call 2 16 1 [.ref (sR r3 a0 0), .int a4] [] rfl rfl rfl rfl g9 rfl rfl (Nat.le_of_ble_eq_true rfl) (t_Row_addNumber hr4) ?_
    refine gd h (fun g10 h => ?_)
    refine gd h (fun g11 h => ?_)
    refine Ev_blk 3 (pc' := 57) (ls' := [.ref a0, .int a1, .int a2, .int a3, .int a4, .int a5]) (st' := [.int a5, .ref (sR r4 a0 0)]) (s' := r4) rfl ⟨trivial, g10⟩ ?_
    refine bd h (fun r5 hr5 h => ?_)
    refine Ev_call 2 16 1 [.ref (sR r4 a0 0), .int a5] [] rfl rfl rfl rfl g11 rfl rfl (Nat.le_of_ble_eq_true rfl) (t_Row_addNumber hr5) ?_
    refine gd h (fun g12 h => ?_)
    refine gd h (fun g13 h => ?_)
    refine Ev_blk 3 (pc' := 67) (ls' := [.ref a0, .int a1, .int a2, .int a3, .int a4, .int a5]) (st' := [.int (sI r5 (sR r5 a0 0) 1)]) (s' := r5) rfl ⟨⟨trivial, g12⟩, g13⟩ ?_
    cases h
    exact Ev_ret rfl trivial

/-- RecordHeap.end(I)I -/
def f_C_end (s : AS) (a0 : Nat) (a1 : Int32) : Option (Int32 × AS) :=
  if a1 < (nI 0) then
    some (-(nI 1), s)
  else
    if sT s a0 = 1 then
    if sT s (sR s a0 0) = 9 then
    if (sI s (sR s a0 0) 1) < a1 then
      some (-(nI 1), s)
    else
      some (a1, setI s (sR s a0 0) 1 a1)
    else none
    else none
theorem t_C_end {s : AS} {a0 : Nat} {a1 : Int32} {o : Int32 × AS} (h : f_C_end s a0 a1 = some o) : Ev 0 mZ18 0 [.ref a0, .int a1] [] s (some (.int o.1), o.2) := by
  unfold f_C_end at h
  refine Ev_blk 2 (pc' := if a1 < (nI 0) then 15 else 4) (ls' := [.ref a0, .int a1]) (st' := []) (s' := s) rfl trivial ?_
  refine ib h (fun c1 h => ?_) (fun c1 h => ?_)
  · refine Ev_blk 1 (pc' := 16) (ls' := [.ref a0, .int a1]) (st' := [.int (-(nI 1))]) (s' := s) rfl trivial ?_
    cases h
    exact Ev_ret rfl trivial
  · refine gd h (fun g2 h => ?_)
    refine gd h (fun g3 h => ?_)
    refine Ev_blk 5 (pc' := if (sI s (sR s a0 0) 1) < a1 then 15 else 17) (ls' := [.ref a0, .int a1]) (st' := []) (s' := s) rfl ⟨⟨trivial, g2⟩, g3⟩ ?_
    refine ib h (fun c4 h => ?_) (fun c4 h => ?_)
    · refine Ev_blk 1 (pc' := 16) (ls' := [.ref a0, .int a1]) (st' := [.int (-(nI 1))]) (s' := s) rfl trivial ?_
      cases h
      exact Ev_ret rfl trivial
    · refine Ev_blk 5 (pc' := 26) (ls' := [.ref a0, .int a1]) (st' := [.int a1]) (s' := setI s (sR s a0 0) 1 a1) rfl ⟨⟨trivial, g2⟩, g3⟩ ?_
      cases h
      exact Ev_ret rfl trivial

def b_Reader_kindOf_22 (s : AS)  (v0 : Int32) : Option Int32 :=
    some (if v0 < (nI 48) then nI 1 else (if (nI 57) < v0 then nI 1 else nI 3))
theorem t_Reader_kindOf_22 {s : AS}    {v0 : Int32} {o : Int32} (h : b_Reader_kindOf_22 s  v0 = some o) : Ev 0 mZ21 22 [.int v0] [] s (some (.int o), s) := by
  unfold b_Reader_kindOf_22 at h
  refine Ev_blk 3 (pc' := if v0 < (nI 48) then 38 else 28) (ls' := [.int v0]) (st' := []) (s' := s) rfl trivial ?_
  have k1_ : Ev 0 mZ21 39 [.int v0] [.int (if v0 < (nI 48) then nI 1 else (if (nI 57) < v0 then nI 1 else nI 3))] s (some (.int o), s) := by
    cases h
    exact Ev_ret rfl trivial
  refine icases (fun c2 => ?_) (fun c2 => ?_)
  · exact Ev_blk 1 (pc' := 39) (ls' := [.int v0]) (st' := [.int (nI 1)]) (s' := s) rfl trivial (by simpa only [if_pos c2] using k1_)
  · refine Ev_blk 3 (pc' := if (nI 57) < v0 then 38 else 34) (ls' := [.int v0]) (st' := []) (s' := s) rfl trivial ?_
    refine icases (fun c3 => ?_) (fun c3 => ?_)
    · exact Ev_blk 1 (pc' := 39) (ls' := [.int v0]) (st' := [.int (nI 1)]) (s' := s) rfl trivial (by simpa only [if_neg c2, if_pos c3] using k1_)
    · exact Ev_blk 2 (pc' := 39) (ls' := [.int v0]) (st' := [.int (nI 3)]) (s' := s) rfl trivial (by simpa only [if_neg c2, if_neg c3] using k1_)
/-- RecordHeap$Reader.kindOf(I)I -/
def f_Reader_kindOf (s : AS) (a0 : Int32) : Option Int32 :=
  if a0 = (nI 32) then
    some (nI 0)
  else
    if a0 < (nI 97) then
      b_Reader_kindOf_22 s a0
    else
      if (nI 122) < a0 then
        b_Reader_kindOf_22 s a0
      else
        some (nI 2)
theorem t_Reader_kindOf {s : AS} {a0 : Int32} {o : Int32} (h : f_Reader_kindOf s a0 = some o) : Ev 0 mZ21 0 [.int a0] [] s (some (.int o), s) := by
  unfold f_Reader_kindOf at h
  refine Ev_blk 3 (pc' := if a0 = (nI 32) then 6 else 8) (ls' := [.int a0]) (st' := []) (s' := s) rfl trivial ?_
  refine ib h (fun c1 h => ?_) (fun c1 h => ?_)
  · refine Ev_blk 1 (pc' := 7) (ls' := [.int a0]) (st' := [.int (nI 0)]) (s' := s) rfl trivial ?_
    cases h
    exact Ev_ret rfl trivial
  · refine Ev_blk 3 (pc' := if a0 < (nI 97) then 22 else 14) (ls' := [.int a0]) (st' := []) (s' := s) rfl trivial ?_
    refine ib h (fun c2 h => ?_) (fun c2 h => ?_)
    · exact t_Reader_kindOf_22 h
    · refine Ev_blk 3 (pc' := if (nI 122) < a0 then 22 else 20) (ls' := [.int a0]) (st' := []) (s' := s) rfl trivial ?_
      refine ib h (fun c3 h => ?_) (fun c3 h => ?_)
      · exact t_Reader_kindOf_22 h
      · refine Ev_blk 1 (pc' := 21) (ls' := [.int a0]) (st' := [.int (nI 2)]) (s' := s) rfl trivial ?_
        cases h
        exact Ev_ret rfl trivial

def b_Reader_next_108 (k75 : Nat → Int32 → AS → Option AS) (v0 : Nat) (v1 : Int32) (s : AS) : Option AS :=
  if sT s v0 = 8 then
  k75 v0 v1 (setI s v0 5 ((sI s v0 5) + (nI 1)))
  else none
theorem t_Reader_next_108 {k75 : Nat → Int32 → AS → Option AS} (H75 : ∀ {v0 : Nat} {v1 : Int32} {s : AS} {o : AS}, k75 v0 v1 s = some o → Ev 0 mZ22 75 [.ref v0, .int v1] [] s (none, o))  {v0 : Nat} {v1 : Int32} {s : AS} {o : AS} (h : b_Reader_next_108 k75 v0 v1 s = some o) : Ev 0 mZ22 108 [.ref v0, .int v1] [] s (none, o) := by
  unfold b_Reader_next_108 at h
  refine gd h (fun g1 h => ?_)
  refine Ev_blk 7 (pc' := 75) (ls' := [.ref v0, .int v1]) (st' := []) (s' := setI s v0 5 ((sI s v0 5) + (nI 1))) rfl ⟨⟨trivial, g1⟩, g1⟩ ?_
  exact H75 h
def b_Reader_next_75 (k75 : Nat → Int32 → AS → Option AS) (v0 : Nat) (v1 : Int32) (s : AS) : Option AS :=
  if sT s v0 = 8 then
  if (sI s v0 5) < (nI 400) then
    if sT s (sR s v0 1) = 20 ∧ inA (sI s v0 5) (sN s (sR s v0 1)) then
    if (sI s (sR s v0 1) (sI s v0 5).toNatClampNeg) = v1 then
      if v1 = (nI 2) then
        b_Reader_next_108 k75 v0 v1 s
      else
        if v1 = (nI 3) then
          b_Reader_next_108 k75 v0 v1 s
        else
          some s
    else
      some s
    else none
  else
    some s
  else none
theorem t_Reader_next_75 {k75 : Nat → Int32 → AS → Option AS} (H75 : ∀ {v0 : Nat} {v1 : Int32} {s : AS} {o : AS}, k75 v0 v1 s = some o → Ev 0 mZ22 75 [.ref v0, .int v1] [] s (none, o))  {v0 : Nat} {v1 : Int32} {s : AS} {o : AS} (h : b_Reader_next_75 k75 v0 v1 s = some o) : Ev 0 mZ22 75 [.ref v0, .int v1] [] s (none, o) := by
  unfold b_Reader_next_75 at h
  refine gd h (fun g1 h => ?_)
  refine Ev_blk 4 (pc' := if (sI s v0 5) < (nI 400) then 85 else 121) (ls' := [.ref v0, .int v1]) (st' := []) (s' := s) rfl ⟨trivial, g1⟩ ?_
  refine ib h (fun c2 h => ?_) (fun c2 h => ?_)
  · refine gd h (fun g3 h => ?_)
    refine Ev_blk 7 (pc' := if (sI s (sR s v0 1) (sI s v0 5).toNatClampNeg) = v1 then 98 else 121) (ls' := [.ref v0, .int v1]) (st' := []) (s' := s) rfl ⟨⟨⟨trivial, g1⟩, g1⟩, ⟨Or.inl g3.1, g3.2⟩⟩ ?_
    refine ib h (fun c4 h => ?_) (fun c4 h => ?_)
    · refine Ev_blk 3 (pc' := if v1 = (nI 2) then 108 else 103) (ls' := [.ref v0, .int v1]) (st' := []) (s' := s) rfl trivial ?_
      refine ib h (fun c5 h => ?_) (fun c5 h => ?_)
      · exact t_Reader_next_108 H75 h
      · refine Ev_blk 3 (pc' := if v1 = (nI 3) then 108 else 121) (ls' := [.ref v0, .int v1]) (st' := []) (s' := s) rfl trivial ?_
        refine ib h (fun c6 h => ?_) (fun c6 h => ?_)
        · exact t_Reader_next_108 H75 h
        · cases h
          exact Ev_ret rfl trivial
    · cases h
      exact Ev_ret rfl trivial
  · cases h
    exact Ev_ret rfl trivial
def l_Reader_next_75  : Nat → Nat → Int32 → AS → Option AS
  | 0 => fun _ _ _ => none
  | n + 1 => b_Reader_next_75  (l_Reader_next_75  n)
theorem u_Reader_next_75   {n : Nat} : ∀  {v0 : Nat} {v1 : Int32} {s : AS} {o : AS}, l_Reader_next_75  n v0 v1 s = some o → Ev 0 mZ22 75 [.ref v0, .int v1] [] s (none, o) := by
  induction n with
  | zero => intros; rename_i h; cases h
  | succ n ih => intros; rename_i h; exact t_Reader_next_75  (fun h => ih h) h
def b_Reader_next_72  (v0 : Nat) (v1 : Int32) (w0 : Int32) (w1 : Nat) (s : AS) : Option AS :=
  if sT s w1 = 8 then
  l_Reader_next_75 fuel v0 v1 (setI s w1 5 w0)
  else none
theorem t_Reader_next_72    {v0 : Nat} {v1 : Int32} {w0 : Int32} {w1 : Nat} {s : AS} {o : AS} (h : b_Reader_next_72  v0 v1 w0 w1 s = some o) : Ev 0 mZ22 72 [.ref v0, .int v1] [.int w0, .ref w1] s (none, o) := by
  unfold b_Reader_next_72 at h
  refine gd h (fun g1 h => ?_)
  refine Ev_blk 1 (pc' := 75) (ls' := [.ref v0, .int v1]) (st' := []) (s' := setI s w1 5 w0) rfl ⟨trivial, g1⟩ ?_
  exact u_Reader_next_75 h
def b_Reader_next_43  (v0 : Nat) (s : AS) : Option AS :=
  if sT s v0 = 8 then
  if sT s (sR s v0 1) = 20 ∧ inA (sI s v0 4) (sN s (sR s v0 1)) then
  if (sI s (sR s v0 1) (sI s v0 4).toNatClampNeg) = (-(nI 1)) then
    b_Reader_next_72 v0 (sI s (sR s v0 1) (sI s v0 4).toNatClampNeg) (sI s v0 4) v0 s
  else
    b_Reader_next_72 v0 (sI s (sR s v0 1) (sI s v0 4).toNatClampNeg) ((sI s v0 4) + (nI 1)) v0 s
  else none
  else none
theorem t_Reader_next_43   {d1 : Value} {v0 : Nat} {s : AS} {o : AS} (h : b_Reader_next_43  v0 s = some o) : Ev 0 mZ22 43 [.ref v0, d1] [] s (none, o) := by
  unfold b_Reader_next_43 at h
  refine gd h (fun g1 h => ?_)
  refine gd h (fun g2 h => ?_)
  refine Ev_blk 10 (pc' := if (sI s (sR s v0 1) (sI s v0 4).toNatClampNeg) = (-(nI 1)) then 59 else 66) (ls' := [.ref v0, .int (sI s (sR s v0 1) (sI s v0 4).toNatClampNeg)]) (st' := [.ref v0]) (s' := s) rfl ⟨⟨⟨trivial, g1⟩, g1⟩, ⟨Or.inl g2.1, g2.2⟩⟩ ?_
  refine ib h (fun c3 h => ?_) (fun c3 h => ?_)
  · refine Ev_blk 3 (pc' := 72) (ls' := [.ref v0, .int (sI s (sR s v0 1) (sI s v0 4).toNatClampNeg)]) (st' := [.int (sI s v0 4), .ref v0]) (s' := s) rfl ⟨trivial, g1⟩ ?_
    exact t_Reader_next_72 h
  · refine Ev_blk 4 (pc' := 72) (ls' := [.ref v0, .int (sI s (sR s v0 1) (sI s v0 4).toNatClampNeg)]) (st' := [.int ((sI s v0 4) + (nI 1)), .ref v0]) (s' := s) rfl ⟨trivial, g1⟩ ?_
    exact t_Reader_next_72 h
def b_Reader_next_8 (k8 : Nat → AS → Option AS) (v0 : Nat) (s : AS) : Option AS :=
  if sT s v0 = 8 then
  if (sI s v0 4) < (nI 400) then
    if sT s (sR s v0 1) = 20 ∧ inA (sI s v0 4) (sN s (sR s v0 1)) then
    if (sI s (sR s v0 1) (sI s v0 4).toNatClampNeg) = (nI 0) then
      k8 v0 (setI s v0 4 ((sI s v0 4) + (nI 1)))
    else
      b_Reader_next_43 v0 s
    else none
  else
    b_Reader_next_43 v0 s
  else none
theorem t_Reader_next_8 {k8 : Nat → AS → Option AS} (H8 : ∀ {d1 : Value} {v0 : Nat} {s : AS} {o : AS}, k8 v0 s = some o → Ev 0 mZ22 8 [.ref v0, d1] [] s (none, o)) {d1 : Value} {v0 : Nat} {s : AS} {o : AS} (h : b_Reader_next_8 k8 v0 s = some o) : Ev 0 mZ22 8 [.ref v0, d1] [] s (none, o) := by
  unfold b_Reader_next_8 at h
  refine gd h (fun g1 h => ?_)
  refine Ev_blk 4 (pc' := if (sI s v0 4) < (nI 400) then 18 else 43) (ls' := [.ref v0, d1]) (st' := []) (s' := s) rfl ⟨trivial, g1⟩ ?_
  refine ib h (fun c2 h => ?_) (fun c2 h => ?_)
  · refine gd h (fun g3 h => ?_)
    refine Ev_blk 6 (pc' := if (sI s (sR s v0 1) (sI s v0 4).toNatClampNeg) = (nI 0) then 30 else 43) (ls' := [.ref v0, d1]) (st' := []) (s' := s) rfl ⟨⟨⟨trivial, g1⟩, g1⟩, ⟨Or.inl g3.1, g3.2⟩⟩ ?_
    refine ib h (fun c4 h => ?_) (fun c4 h => ?_)
    · refine Ev_blk 7 (pc' := 8) (ls' := [.ref v0, d1]) (st' := []) (s' := setI s v0 4 ((sI s v0 4) + (nI 1))) rfl ⟨⟨trivial, g1⟩, g1⟩ ?_
      exact H8 h
    · exact t_Reader_next_43 h
  · exact t_Reader_next_43 h
def l_Reader_next_8  : Nat → Nat → AS → Option AS
  | 0 => fun _ _ => none
  | n + 1 => b_Reader_next_8  (l_Reader_next_8  n)
theorem u_Reader_next_8   {n : Nat} : ∀ {d1 : Value} {v0 : Nat} {s : AS} {o : AS}, l_Reader_next_8  n v0 s = some o → Ev 0 mZ22 8 [.ref v0, d1] [] s (none, o) := by
  induction n with
  | zero => intros; rename_i h; cases h
  | succ n ih => intros; rename_i h; exact t_Reader_next_8  (fun h => ih h) h
/-- RecordHeap$Reader.next()V -/
def f_Reader_next (s : AS) (a0 : Nat) : Option AS :=
  if sT s a0 = 8 then
  l_Reader_next_8 fuel a0 (setI s a0 4 (sI s a0 5))
  else none
theorem t_Reader_next {s : AS} {a0 : Nat} {o : AS} (h : f_Reader_next s a0 = some o) : Ev 0 mZ22 0 [.ref a0, .retAddr 0] [] s (none, o) := by
  unfold f_Reader_next at h
  refine gd h (fun g1 h => ?_)
  refine Ev_blk 4 (pc' := 8) (ls' := [.ref a0, .retAddr 0]) (st' := []) (s' := setI s a0 4 (sI s a0 5)) rfl ⟨⟨trivial, g1⟩, g1⟩ ?_
  exact u_Reader_next_8 h

def b_Reader_placeIn_92 (s : AS) (k28 : Nat → Nat → Int32 → Int32 → Int32 → Int32 → Option Int32) (v0 : Nat) (v1 : Nat) (v2 : Int32) (v3 : Int32) (v5 : Int32) : Option Int32 :=
  k28 v0 v1 v2 (v3 + nI 1) (nI 0) (v5 + nI 1)
theorem t_Reader_placeIn_92 {s : AS} {k28 : Nat → Nat → Int32 → Int32 → Int32 → Int32 → Option Int32} (H28 : ∀ {v0 : Nat} {v1 : Nat} {v2 : Int32} {v3 : Int32} {v4 : Int32} {v5 : Int32} {o : Int32}, k28 v0 v1 v2 v3 v4 v5 = some o → Ev 0 mZ24 28 [.ref v0, .ref v1, .int v2, .int v3, .int v4, .int v5] [] s (some (.int o), s)) {d4 : Value} {v0 : Nat} {v1 : Nat} {v2 : Int32} {v3 : Int32} {v5 : Int32} {o : Int32} (h : b_Reader_placeIn_92 s k28 v0 v1 v2 v3 v5 = some o) : Ev 0 mZ24 92 [.ref v0, .ref v1, .int v2, .int v3, d4, .int v5] [] s (some (.int o), s) := by
  unfold b_Reader_placeIn_92 at h
  refine Ev_blk 6 (pc' := 28) (ls' := [.ref v0, .ref v1, .int v2, .int (v3 + nI 1), .int (nI 0), .int (v5 + nI 1)]) (st' := []) (s' := s) rfl trivial ?_
  exact H28 h
def b_Reader_placeIn_116 (s : AS) (k28 : Nat → Nat → Int32 → Int32 → Int32 → Int32 → Option Int32) (v0 : Nat) (v1 : Nat) (v2 : Int32) (v5 : Int32) : Option Int32 :=
  if sT s v0 = 8 then
    k28 v0 v1 (v2 + nI 1) (sI s v0 4) (if (sI s v0 4) < (sI s v0 5) then nI 1 else nI 0) (v5 + nI 1)
  else none
theorem t_Reader_placeIn_116 {s : AS} {k28 : Nat → Nat → Int32 → Int32 → Int32 → Int32 → Option Int32} (H28 : ∀ {v0 : Nat} {v1 : Nat} {v2 : Int32} {v3 : Int32} {v4 : Int32} {v5 : Int32} {o : Int32}, k28 v0 v1 v2 v3 v4 v5 = some o → Ev 0 mZ24 28 [.ref v0, .ref v1, .int v2, .int v3, .int v4, .int v5] [] s (some (.int o), s)) {d3 d4 : Value} {v0 : Nat} {v1 : Nat} {v2 : Int32} {v5 : Int32} {o : Int32} (h : b_Reader_placeIn_116 s k28 v0 v1 v2 v5 = some o) : Ev 0 mZ24 116 [.ref v0, .ref v1, .int v2, d3, d4, .int v5] [] s (some (.int o), s) := by
  unfold b_Reader_placeIn_116 at h
  refine gd h (fun g1 h => ?_)
  refine Ev_blk 9 (pc' := if (sI s v0 4) < (sI s v0 5) then 135 else 139) (ls' := [.ref v0, .ref v1, .int (v2 + nI 1), .int (sI s v0 4), d4, .int v5]) (st' := []) (s' := s) rfl ⟨⟨⟨trivial, g1⟩, g1⟩, g1⟩ ?_
  have k2_ : Ev 0 mZ24 140 [.ref v0, .ref v1, .int (v2 + nI 1), .int (sI s v0 4), d4, .int v5] [.int (if (sI s v0 4) < (sI s v0 5) then nI 1 else nI 0)] s (some (.int o), s) := by
    refine Ev_blk 3 (pc' := 28) (ls' := [.ref v0, .ref v1, .int (v2 + nI 1), .int (sI s v0 4), .int (if (sI s v0 4) < (sI s v0 5) then nI 1 else nI 0), .int (v5 + nI 1)]) (st' := []) (s' := s) rfl trivial ?_
    exact H28 h
  refine icases (fun c3 => ?_) (fun c3 => ?_)
  · exact Ev_blk 2 (pc' := 140) (ls' := [.ref v0, .ref v1, .int (v2 + nI 1), .int (sI s v0 4), d4, .int v5]) (st' := [.int (nI 1)]) (s' := s) rfl trivial (by simpa only [if_pos c3] using k2_)
  · exact Ev_blk 1 (pc' := 140) (ls' := [.ref v0, .ref v1, .int (v2 + nI 1), .int (sI s v0 4), d4, .int v5]) (st' := [.int (nI 0)]) (s' := s) rfl trivial (by simpa only [if_neg c3] using k2_)
def b_Reader_placeIn_101 (s : AS) (k28 : Nat → Nat → Int32 → Int32 → Int32 → Int32 → Option Int32) (v0 : Nat) (v1 : Nat) (v2 : Int32) (v3 : Int32) (v4 : Int32) (v5 : Int32) : Option Int32 :=
  if v4 = (nI 0) then
    b_Reader_placeIn_116 s k28 v0 v1 v2 v5
  else
    if sT s v0 = 8 then
    if v3 = (sI s v0 5) then
      some v2
    else
      b_Reader_placeIn_116 s k28 v0 v1 v2 v5
    else none
theorem t_Reader_placeIn_101 {s : AS} {k28 : Nat → Nat → Int32 → Int32 → Int32 → Int32 → Option Int32} (H28 : ∀ {v0 : Nat} {v1 : Nat} {v2 : Int32} {v3 : Int32} {v4 : Int32} {v5 : Int32} {o : Int32}, k28 v0 v1 v2 v3 v4 v5 = some o → Ev 0 mZ24 28 [.ref v0, .ref v1, .int v2, .int v3, .int v4, .int v5] [] s (some (.int o), s))  {v0 : Nat} {v1 : Nat} {v2 : Int32} {v3 : Int32} {v4 : Int32} {v5 : Int32} {o : Int32} (h : b_Reader_placeIn_101 s k28 v0 v1 v2 v3 v4 v5 = some o) : Ev 0 mZ24 101 [.ref v0, .ref v1, .int v2, .int v3, .int v4, .int v5] [] s (some (.int o), s) := by
  unfold b_Reader_placeIn_101 at h
  refine Ev_blk 2 (pc' := if v4 = (nI 0) then 116 else 106) (ls' := [.ref v0, .ref v1, .int v2, .int v3, .int v4, .int v5]) (st' := []) (s' := s) rfl trivial ?_
  refine ib h (fun c1 h => ?_) (fun c1 h => ?_)
  · exact t_Reader_placeIn_116 H28 h
  · refine gd h (fun g2 h => ?_)
    refine Ev_blk 4 (pc' := if v3 = (sI s v0 5) then 114 else 116) (ls' := [.ref v0, .ref v1, .int v2, .int v3, .int v4, .int v5]) (st' := []) (s' := s) rfl ⟨trivial, g2⟩ ?_
    refine ib h (fun c3 h => ?_) (fun c3 h => ?_)
    · refine Ev_blk 1 (pc' := 115) (ls' := [.ref v0, .ref v1, .int v2, .int v3, .int v4, .int v5]) (st' := [.int v2]) (s' := s) rfl trivial ?_
      cases h
      exact Ev_ret rfl trivial
    · exact t_Reader_placeIn_116 H28 h
def b_Reader_placeIn_28 (s : AS) (k28 : Nat → Nat → Int32 → Int32 → Int32 → Int32 → Option Int32) (v0 : Nat) (v1 : Nat) (v2 : Int32) (v3 : Int32) (v4 : Int32) (v5 : Int32) : Option Int32 :=
  if isStr v1 then
  if (nI (strOf v1).length) < v5 then
    some (-(nI 1))
  else
    if v5 < (nI (strOf v1).length) then
      if isStr v1 ∧ inA v5 (strOf v1).length then
      if (nI ((strOf v1).getD v5.toNatClampNeg 0)) = (nI 32) then
        b_Reader_placeIn_101 s k28 v0 v1 v2 v3 v4 v5
      else
        if v4 = (nI 0) then
          b_Reader_placeIn_92 s k28 v0 v1 v2 v3 v5
        else
          if sT s v0 = 8 then
          if v3 < (sI s v0 5) then
            if sT s (sR s v0 2) = 9 then
            if sT s (sR s (sR s v0 2) 0) = 20 ∧ inA v3 (sN s (sR s (sR s v0 2) 0)) then
              k28 v0 v1 v2 (v3 + nI 1) (if (sI s (sR s (sR s v0 2) 0) v3.toNatClampNeg) = (nI ((strOf v1).getD v5.toNatClampNeg 0)) then nI 1 else nI 0) (v5 + nI 1)
            else none
            else none
          else
            b_Reader_placeIn_92 s k28 v0 v1 v2 v3 v5
          else none
      else none
    else
      b_Reader_placeIn_101 s k28 v0 v1 v2 v3 v4 v5
  else none
theorem t_Reader_placeIn_28 {s : AS} {k28 : Nat → Nat → Int32 → Int32 → Int32 → Int32 → Option Int32} (H28 : ∀ {v0 : Nat} {v1 : Nat} {v2 : Int32} {v3 : Int32} {v4 : Int32} {v5 : Int32} {o : Int32}, k28 v0 v1 v2 v3 v4 v5 = some o → Ev 0 mZ24 28 [.ref v0, .ref v1, .int v2, .int v3, .int v4, .int v5] [] s (some (.int o), s))  {v0 : Nat} {v1 : Nat} {v2 : Int32} {v3 : Int32} {v4 : Int32} {v5 : Int32} {o : Int32} (h : b_Reader_placeIn_28 s k28 v0 v1 v2 v3 v4 v5 = some o) : Ev 0 mZ24 28 [.ref v0, .ref v1, .int v2, .int v3, .int v4, .int v5] [] s (some (.int o), s) := by
  unfold b_Reader_placeIn_28 at h
  refine gd h (fun g1 h => ?_)
  refine Ev_blk 4 (pc' := if (nI (strOf v1).length) < v5 then 148 else 37) (ls' := [.ref v0, .ref v1, .int v2, .int v3, .int v4, .int v5]) (st' := []) (s' := s) rfl ⟨trivial, g1⟩ ?_
  refine ib h (fun c2 h => ?_) (fun c2 h => ?_)
  · refine Ev_blk 1 (pc' := 149) (ls' := [.ref v0, .ref v1, .int v2, .int v3, .int v4, .int v5]) (st' := [.int (-(nI 1))]) (s' := s) rfl trivial ?_
    cases h
    exact Ev_ret rfl trivial
  · refine Ev_blk 4 (pc' := if v5 < (nI (strOf v1).length) then 46 else 101) (ls' := [.ref v0, .ref v1, .int v2, .int v3, .int v4, .int v5]) (st' := []) (s' := s) rfl ⟨trivial, g1⟩ ?_
    refine ib h (fun c3 h => ?_) (fun c3 h => ?_)
    · refine gd h (fun g4 h => ?_)
      refine Ev_blk 5 (pc' := if (nI ((strOf v1).getD v5.toNatClampNeg 0)) = (nI 32) then 101 else 57) (ls' := [.ref v0, .ref v1, .int v2, .int v3, .int v4, .int v5]) (st' := []) (s' := s) rfl ⟨trivial, g4⟩ ?_
      refine ib h (fun c5 h => ?_) (fun c5 h => ?_)
      · exact t_Reader_placeIn_101 H28 h
      · refine Ev_blk 2 (pc' := if v4 = (nI 0) then 92 else 62) (ls' := [.ref v0, .ref v1, .int v2, .int v3, .int v4, .int v5]) (st' := []) (s' := s) rfl trivial ?_
        refine ib h (fun c6 h => ?_) (fun c6 h => ?_)
        · exact t_Reader_placeIn_92 H28 h
        · refine gd h (fun g7 h => ?_)
          refine Ev_blk 4 (pc' := if v3 < (sI s v0 5) then 70 else 92) (ls' := [.ref v0, .ref v1, .int v2, .int v3, .int v4, .int v5]) (st' := []) (s' := s) rfl ⟨trivial, g7⟩ ?_
          refine ib h (fun c8 h => ?_) (fun c8 h => ?_)
          · refine gd h (fun g9 h => ?_)
            refine gd h (fun g10 h => ?_)
            refine Ev_blk 9 (pc' := if (sI s (sR s (sR s v0 2) 0) v3.toNatClampNeg) = (nI ((strOf v1).getD v5.toNatClampNeg 0)) then 88 else 92) (ls' := [.ref v0, .ref v1, .int v2, .int v3, .int v4, .int v5]) (st' := []) (s' := s) rfl ⟨⟨⟨⟨trivial, g7⟩, g9⟩, ⟨Or.inl g10.1, g10.2⟩⟩, g4⟩ ?_
            have k11_ : Ev 0 mZ24 93 [.ref v0, .ref v1, .int v2, .int v3, .int v4, .int v5] [.int (if (sI s (sR s (sR s v0 2) 0) v3.toNatClampNeg) = (nI ((strOf v1).getD v5.toNatClampNeg 0)) then nI 1 else nI 0)] s (some (.int o), s) := by
              refine Ev_blk 5 (pc' := 28) (ls' := [.ref v0, .ref v1, .int v2, .int (v3 + nI 1), .int (if (sI s (sR s (sR s v0 2) 0) v3.toNatClampNeg) = (nI ((strOf v1).getD v5.toNatClampNeg 0)) then nI 1 else nI 0), .int (v5 + nI 1)]) (st' := []) (s' := s) rfl trivial ?_
              exact H28 h
            refine icases (fun c12 => ?_) (fun c12 => ?_)
            · exact Ev_blk 2 (pc' := 93) (ls' := [.ref v0, .ref v1, .int v2, .int v3, .int v4, .int v5]) (st' := [.int (nI 1)]) (s' := s) rfl trivial (by simpa only [if_pos c12] using k11_)
            · exact Ev_blk 1 (pc' := 93) (ls' := [.ref v0, .ref v1, .int v2, .int v3, .int v4, .int v5]) (st' := [.int (nI 0)]) (s' := s) rfl trivial (by simpa only [if_neg c12] using k11_)
          · exact t_Reader_placeIn_92 H28 h
    · exact t_Reader_placeIn_101 H28 h
def l_Reader_placeIn_28 (s : AS)  : Nat → Nat → Nat → Int32 → Int32 → Int32 → Int32 → Option Int32
  | 0 => fun _ _ _ _ _ _ => none
  | n + 1 => b_Reader_placeIn_28 s  (l_Reader_placeIn_28 s  n)
theorem u_Reader_placeIn_28 {s : AS}   {n : Nat} : ∀  {v0 : Nat} {v1 : Nat} {v2 : Int32} {v3 : Int32} {v4 : Int32} {v5 : Int32} {o : Int32}, l_Reader_placeIn_28 s  n v0 v1 v2 v3 v4 v5 = some o → Ev 0 mZ24 28 [.ref v0, .ref v1, .int v2, .int v3, .int v4, .int v5] [] s (some (.int o), s) := by
  induction n with
  | zero => intros; rename_i h; cases h
  | succ n ih => intros; rename_i h; exact t_Reader_placeIn_28  (fun h => ih h) h
def b_Reader_placeIn_23 (s : AS)  (v0 : Nat) (v1 : Nat) (v2 : Int32) (v3 : Int32) (w0 : Int32) : Option Int32 :=
  l_Reader_placeIn_28 s fuel v0 v1 v2 v3 w0 (nI 0)
theorem t_Reader_placeIn_23 {s : AS}   {d4 d5 : Value} {v0 : Nat} {v1 : Nat} {v2 : Int32} {v3 : Int32} {w0 : Int32} {o : Int32} (h : b_Reader_placeIn_23 s  v0 v1 v2 v3 w0 = some o) : Ev 0 mZ24 23 [.ref v0, .ref v1, .int v2, .int v3, d4, d5] [.int w0] s (some (.int o), s) := by
  unfold b_Reader_placeIn_23 at h
  refine Ev_blk 3 (pc' := 28) (ls' := [.ref v0, .ref v1, .int v2, .int v3, .int w0, .int (nI 0)]) (st' := []) (s' := s) rfl trivial ?_
  exact u_Reader_placeIn_28 h
/-- RecordHeap$Reader.placeIn(Ljava/lang/String;)I -/
def f_Reader_placeIn (s : AS) (a0 : Nat) (a1 : Nat) : Option Int32 :=
  if sT s a0 = 8 then
    b_Reader_placeIn_23 s a0 a1 (nI 0) (sI s a0 4) (if (sI s a0 4) < (sI s a0 5) then nI 1 else nI 0)
  else none
theorem t_Reader_placeIn {s : AS} {a0 : Nat} {a1 : Nat} {o : Int32} (h : f_Reader_placeIn s a0 a1 = some o) : Ev 0 mZ24 0 [.ref a0, .ref a1, .retAddr 0, .retAddr 0, .retAddr 0, .retAddr 0] [] s (some (.int o), s) := by
  unfold f_Reader_placeIn at h
  refine gd h (fun g1 h => ?_)
  refine Ev_blk 10 (pc' := if (sI s a0 4) < (sI s a0 5) then 18 else 22) (ls' := [.ref a0, .ref a1, .int (nI 0), .int (sI s a0 4), .retAddr 0, .retAddr 0]) (st' := []) (s' := s) rfl ⟨⟨⟨trivial, g1⟩, g1⟩, g1⟩ ?_
  have k2_ : Ev 0 mZ24 23 [.ref a0, .ref a1, .int (nI 0), .int (sI s a0 4), .retAddr 0, .retAddr 0] [.int (if (sI s a0 4) < (sI s a0 5) then nI 1 else nI 0)] s (some (.int o), s) := by
    exact t_Reader_placeIn_23 h
  refine icases (fun c3 => ?_) (fun c3 => ?_)
  · exact Ev_blk 2 (pc' := 23) (ls' := [.ref a0, .ref a1, .int (nI 0), .int (sI s a0 4), .retAddr 0, .retAddr 0]) (st' := [.int (nI 1)]) (s' := s) rfl trivial (by simpa only [if_pos c3] using k2_)
  · exact Ev_blk 1 (pc' := 23) (ls' := [.ref a0, .ref a1, .int (nI 0), .int (sI s a0 4), .retAddr 0, .retAddr 0]) (st' := [.int (nI 0)]) (s' := s) rfl trivial (by simpa only [if_neg c3] using k2_)

/-- RecordHeap$Reader.stop()Z -/
def f_Reader_stop (s : AS) (a0 : Nat) : Option (Int32 × AS) :=
  if sT s a0 = 8 then
  some (nI 0, setI s a0 7 (sI s a0 4))
  else none
theorem t_Reader_stop {s : AS} {a0 : Nat} {o : Int32 × AS} (h : f_Reader_stop s a0 = some o) : Ev 0 mZ25 0 [.ref a0] [] s (some (.int o.1), o.2) := by
  unfold f_Reader_stop at h
  refine gd h (fun g1 h => ?_)
  refine Ev_blk 5 (pc' := 9) (ls' := [.ref a0]) (st' := [.int (nI 0)]) (s' := setI s a0 7 (sI s a0 4)) rfl ⟨⟨trivial, g1⟩, g1⟩ ?_
  cases h
  exact Ev_ret rfl (Or.inl rfl)

/-- RecordHeap$Text.mark(II)V -/
def f_Text_mark (s : AS) (a0 : Nat) (a1 : Int32) (a2 : Int32) : Option AS :=
  if sT s a0 = 12 then
  if (((sI s a0 3) * (nI 6)) + a1) < (nI 0) then
    some s
  else
    if 20 ≤ sT s (sR s a0 1) then
    if (((sI s a0 3) * (nI 6)) + a1) < (nI (sN s (sR s a0 1))) then
      if sT s (sR s a0 1) = 20 ∧ inA (((sI s a0 3) * (nI 6)) + a1) (sN s (sR s a0 1)) then
      some (setI s (sR s a0 1) (((sI s a0 3) * (nI 6)) + a1).toNatClampNeg a2)
      else none
    else
      some s
    else none
  else none
theorem t_Text_mark {s : AS} {a0 : Nat} {a1 : Int32} {a2 : Int32} {o : AS} (h : f_Text_mark s a0 a1 a2 = some o) : Ev 0 mZ26 0 [.ref a0, .int a1, .int a2, .retAddr 0] [] s (none, o) := by
  unfold f_Text_mark at h
  refine gd h (fun g1 h => ?_)
  refine Ev_blk 9 (pc' := if (((sI s a0 3) * (nI 6)) + a1) < (nI 0) then 30 else 14) (ls' := [.ref a0, .int a1, .int a2, .int (((sI s a0 3) * (nI 6)) + a1)]) (st' := []) (s' := s) rfl ⟨trivial, g1⟩ ?_
  refine ib h (fun c2 h => ?_) (fun c2 h => ?_)
  · cases h
    exact Ev_ret rfl trivial
  · refine gd h (fun g3 h => ?_)
    refine Ev_blk 5 (pc' := if (((sI s a0 3) * (nI 6)) + a1) < (nI (sN s (sR s a0 1))) then 23 else 30) (ls' := [.ref a0, .int a1, .int a2, .int (((sI s a0 3) * (nI 6)) + a1)]) (st' := []) (s' := s) rfl ⟨⟨trivial, g1⟩, g3⟩ ?_
    refine ib h (fun c4 h => ?_) (fun c4 h => ?_)
    · refine gd h (fun g5 h => ?_)
      refine Ev_blk 5 (pc' := 30) (ls' := [.ref a0, .int a1, .int a2, .int (((sI s a0 3) * (nI 6)) + a1)]) (st' := []) (s' := setI s (sR s a0 1) (((sI s a0 3) * (nI 6)) + a1).toNatClampNeg a2) rfl ⟨⟨trivial, g1⟩, g5⟩ ?_
      cases h
      exact Ev_ret rfl trivial
    · cases h
      exact Ev_ret rfl trivial

/-- RecordHeap$Text.add(II)V -/
def f_Text_add (s : AS) (a0 : Nat) (a1 : Int32) (a2 : Int32) : Option AS :=
  if sT s a0 = 12 then
  if 20 ≤ sT s (sR s a0 0) then
  if (sI s a0 2) < (nI (sN s (sR s a0 0))) then
    if sT s (sR s a0 0) = 20 ∧ inA (sI s a0 2) (sN s (sR s a0 0)) then
    some (setI (setI s (sR s a0 0) (sI s a0 2).toNatClampNeg (a1 + ((nI 16) * a2))) a0 2 ((sI (setI s (sR s a0 0) (sI s a0 2).toNatClampNeg (a1 + ((nI 16) * a2))) a0 2) + (nI 1)))
    else none
  else
    some s
  else none
  else none
theorem t_Text_add {s : AS} {a0 : Nat} {a1 : Int32} {a2 : Int32} {o : AS} (h : f_Text_add s a0 a1 a2 = some o) : Ev 0 mZ31 0 [.ref a0, .int a1, .int a2] [] s (none, o) := by
  unfold f_Text_add at h
  refine gd h (fun g1 h => ?_)
  refine gd h (fun g2 h => ?_)
  refine Ev_blk 6 (pc' := if (sI s a0 2) < (nI (sN s (sR s a0 0))) then 12 else 37) (ls' := [.ref a0, .int a1, .int a2]) (st' := []) (s' := s) rfl ⟨⟨⟨trivial, g1⟩, g1⟩, g2⟩ ?_
  refine ib h (fun c3 h => ?_) (fun c3 h => ?_)
  · refine gd h (fun g4 h => ?_)
    refine Ev_blk 16 (pc' := 37) (ls' := [.ref a0, .int a1, .int a2]) (st' := []) (s' := setI (setI s (sR s a0 0) (sI s a0 2).toNatClampNeg (a1 + ((nI 16) * a2))) a0 2 ((sI (setI s (sR s a0 0) (sI s a0 2).toNatClampNeg (a1 + ((nI 16) * a2))) a0 2) + (nI 1))) rfl ⟨⟨⟨⟨⟨trivial, g1⟩, g1⟩, g4⟩, g1⟩, g1⟩ ?_
    cases h
    exact Ev_ret rfl trivial
  · cases h
    exact Ev_ret rfl trivial

def b_Reader_numberIn_23 (s : AS) (k23 : Nat → Int32 → Int32 → Int32 → Int32 → Option Int32) (v0 : Nat) (v1 : Int32) (v2 : Int32) (v3 : Int32) (v4 : Int32) : Option Int32 :=
  if sT s v0 = 8 then
  if v4 < (sI s v0 5) then
    if sT s (sR s v0 2) = 9 then
    if sT s (sR s (sR s v0 2) 0) = 20 ∧ inA v4 (sN s (sR s (sR s v0 2) 0)) then
    k23 v0 v1 v2 (if (nI 1001) < ((((nI 10) * v3) + (sI s (sR s (sR s v0 2) 0) v4.toNatClampNeg)) - (nI 48)) then (nI 1001) else ((((nI 10) * v3) + (sI s (sR s (sR s v0 2) 0) v4.toNatClampNeg)) - (nI 48))) (v4 + nI 1)
    else none
    else none
  else
      some (if v3 < v1 then -(nI 1) else (if v2 < v3 then -(nI 1) else v3))
  else none
theorem t_Reader_numberIn_23 {s : AS} {k23 : Nat → Int32 → Int32 → Int32 → Int32 → Option Int32} (H23 : ∀ {v0 : Nat} {v1 : Int32} {v2 : Int32} {v3 : Int32} {v4 : Int32} {o : Int32}, k23 v0 v1 v2 v3 v4 = some o → Ev 0 mZ30 23 [.ref v0, .int v1, .int v2, .int v3, .int v4] [] s (some (.int o), s))  {v0 : Nat} {v1 : Int32} {v2 : Int32} {v3 : Int32} {v4 : Int32} {o : Int32} (h : b_Reader_numberIn_23 s k23 v0 v1 v2 v3 v4 = some o) : Ev 0 mZ30 23 [.ref v0, .int v1, .int v2, .int v3, .int v4] [] s (some (.int o), s) := by
  unfold b_Reader_numberIn_23 at h
  refine gd h (fun g1 h => ?_)
  refine Ev_blk 4 (pc' := if v4 < (sI s v0 5) then 32 else 63) (ls' := [.ref v0, .int v1, .int v2, .int v3, .int v4]) (st' := []) (s' := s) rfl ⟨trivial, g1⟩ ?_
  refine ib h (fun c2 h => ?_) (fun c2 h => ?_)
  · refine gd h (fun g3 h => ?_)
    refine gd h (fun g4 h => ?_)
    refine Ev_blk 16 (pc' := 23) (ls' := [.ref v0, .int v1, .int v2, .int (if (nI 1001) < ((((nI 10) * v3) + (sI s (sR s (sR s v0 2) 0) v4.toNatClampNeg)) - (nI 48)) then (nI 1001) else ((((nI 10) * v3) + (sI s (sR s (sR s v0 2) 0) v4.toNatClampNeg)) - (nI 48))), .int (v4 + nI 1)]) (st' := []) (s' := s) rfl ⟨⟨⟨trivial, g1⟩, g3⟩, ⟨Or.inl g4.1, g4.2⟩⟩ ?_
    exact H23 h
  · refine Ev_blk 3 (pc' := if v3 < v1 then 77 else 68) (ls' := [.ref v0, .int v1, .int v2, .int v3, .int v4]) (st' := []) (s' := s) rfl trivial ?_
    have k5_ : Ev 0 mZ30 78 [.ref v0, .int v1, .int v2, .int v3, .int v4] [.int (if v3 < v1 then -(nI 1) else (if v2 < v3 then -(nI 1) else v3))] s (some (.int o), s) := by
      cases h
      exact Ev_ret rfl trivial
    refine icases (fun c6 => ?_) (fun c6 => ?_)
    · exact Ev_blk 1 (pc' := 78) (ls' := [.ref v0, .int v1, .int v2, .int v3, .int v4]) (st' := [.int (-(nI 1))]) (s' := s) rfl trivial (by simpa only [if_pos c6] using k5_)
    · refine Ev_blk 3 (pc' := if v2 < v3 then 77 else 73) (ls' := [.ref v0, .int v1, .int v2, .int v3, .int v4]) (st' := []) (s' := s) rfl trivial ?_
      refine icases (fun c7 => ?_) (fun c7 => ?_)
      · exact Ev_blk 1 (pc' := 78) (ls' := [.ref v0, .int v1, .int v2, .int v3, .int v4]) (st' := [.int (-(nI 1))]) (s' := s) rfl trivial (by simpa only [if_neg c6, if_pos c7] using k5_)
      · exact Ev_blk 2 (pc' := 78) (ls' := [.ref v0, .int v1, .int v2, .int v3, .int v4]) (st' := [.int v3]) (s' := s) rfl trivial (by simpa only [if_neg c6, if_neg c7] using k5_)
def l_Reader_numberIn_23 (s : AS)  : Nat → Nat → Int32 → Int32 → Int32 → Int32 → Option Int32
  | 0 => fun _ _ _ _ _ => none
  | n + 1 => b_Reader_numberIn_23 s  (l_Reader_numberIn_23 s  n)
theorem u_Reader_numberIn_23 {s : AS}   {n : Nat} : ∀  {v0 : Nat} {v1 : Int32} {v2 : Int32} {v3 : Int32} {v4 : Int32} {o : Int32}, l_Reader_numberIn_23 s  n v0 v1 v2 v3 v4 = some o → Ev 0 mZ30 23 [.ref v0, .int v1, .int v2, .int v3, .int v4] [] s (some (.int o), s) := by
  induction n with
  | zero => intros; rename_i h; cases h
  | succ n ih => intros; rename_i h; exact t_Reader_numberIn_23  (fun h => ih h) h
/-- RecordHeap$Reader.numberIn(II)I -/
def f_Reader_numberIn (s : AS) (a0 : Nat) (a1 : Int32) (a2 : Int32) : Option Int32 :=
  if sT s a0 = 8 then
  if sT s (sR s a0 1) = 20 ∧ inA (sI s a0 4) (sN s (sR s a0 1)) then
  if (sI s (sR s a0 1) (sI s a0 4).toNatClampNeg) = (nI 3) then
    l_Reader_numberIn_23 s fuel a0 a1 a2 (nI 0) (sI s a0 4)
  else
    some (-(nI 1))
  else none
  else none
theorem t_Reader_numberIn {s : AS} {a0 : Nat} {a1 : Int32} {a2 : Int32} {o : Int32} (h : f_Reader_numberIn s a0 a1 a2 = some o) : Ev 0 mZ30 0 [.ref a0, .int a1, .int a2, .retAddr 0, .retAddr 0] [] s (some (.int o), s) := by
  unfold f_Reader_numberIn at h
  refine gd h (fun g1 h => ?_)
  refine gd h (fun g2 h => ?_)
  refine Ev_blk 7 (pc' := if (sI s (sR s a0 1) (sI s a0 4).toNatClampNeg) = (nI 3) then 15 else 13) (ls' := [.ref a0, .int a1, .int a2, .retAddr 0, .retAddr 0]) (st' := []) (s' := s) rfl ⟨⟨⟨trivial, g1⟩, g1⟩, ⟨Or.inl g2.1, g2.2⟩⟩ ?_
  refine ib h (fun c3 h => ?_) (fun c3 h => ?_)
  · refine Ev_blk 5 (pc' := 23) (ls' := [.ref a0, .int a1, .int a2, .int (nI 0), .int (sI s a0 4)]) (st' := []) (s' := s) rfl ⟨trivial, g1⟩ ?_
    exact u_Reader_numberIn_23 h
  · refine Ev_blk 1 (pc' := 14) (ls' := [.ref a0, .int a1, .int a2, .retAddr 0, .retAddr 0]) (st' := [.int (-(nI 1))]) (s' := s) rfl trivial ?_
    cases h
    exact Ev_ret rfl trivial

/-! a group of methods that call one another -/
abbrev RgAT : Type := (AS → Nat → Int32 → Option (Int32 × AS)) × (AS → Nat → Int32 → Option (Int32 × AS))
abbrev rg_Reader_readSum (R : RgAT) : AS → Nat → Int32 → Option (Int32 × AS) := R.1
abbrev rg_Reader_readPart (R : RgAT) : AS → Nat → Int32 → Option (Int32 × AS) := R.2
def HRgA (d : Nat) (R : RgAT) : Prop := (∀ {s : AS} {a0 : Nat} {a1 : Int32} {o : Int32 × AS}, rg_Reader_readSum R s a0 a1 = some o → Ev d mZ28 0 [.ref a0, .int a1, .retAddr 0, .retAddr 0, .retAddr 0, .retAddr 0] [] s (some (.int o.1), o.2)) ∧ (∀ {s : AS} {a0 : Nat} {a1 : Int32} {o : Int32 × AS}, rg_Reader_readPart R s a0 a1 = some o → Ev d mZ29 0 [.ref a0, .int a1, .retAddr 0, .retAddr 0, .retAddr 0] [] s (some (.int o.1), o.2))
theorem HRgA.rg_Reader_readSum {d : Nat} {R : RgAT} (H : HRgA d R) : ∀ {s : AS} {a0 : Nat} {a1 : Int32} {o : Int32 × AS}, rg_Reader_readSum R s a0 a1 = some o → Ev d mZ28 0 [.ref a0, .int a1, .retAddr 0, .retAddr 0, .retAddr 0, .retAddr 0] [] s (some (.int o.1), o.2) := H.1
theorem HRgA.rg_Reader_readPart {d : Nat} {R : RgAT} (H : HRgA d R) : ∀ {s : AS} {a0 : Nat} {a1 : Int32} {o : Int32 × AS}, rg_Reader_readPart R s a0 a1 = some o → Ev d mZ29 0 [.ref a0, .int a1, .retAddr 0, .retAddr 0, .retAddr 0] [] s (some (.int o.1), o.2) := H.2
def b_Reader_readSum_101 (Rg : RgAT) (k7 : Nat → Int32 → Int32 → Int32 → Int32 → AS → Option (Int32 × AS)) (v0 : Nat) (v1 : Int32) (v2 : Int32) (v3 : Int32) (v4 : Int32) (s : AS) : Option (Int32 × AS) :=
  if sT s v0 = 8 then
  (f_Reader_next s v0).bind fun r1 =>
  k7 v0 v1 v2 v3 (v4 + nI 1) r1
  else none
theorem t_Reader_readSum_101 {d : Nat} {Rg : RgAT} (HR : HRgA d Rg) (hd : 0 ≤ d) {k7 : Nat → Int32 → Int32 → Int32 → Int32 → AS → Option (Int32 × AS)} (H7 : ∀ {d5 : Value} {v0 : Nat} {v1 : Int32} {v2 : Int32} {v3 : Int32} {v4 : Int32} {s : AS} {o : Int32 × AS}, k7 v0 v1 v2 v3 v4 s = some o → Ev (d + 1) mZ28 7 [.ref v0, .int v1, .int v2, .int v3, .int v4, d5] [] s (some (.int o.1), o.2)) {d5 : Value} {v0 : Nat} {v1 : Int32} {v2 : Int32} {v3 : Int32} {v4 : Int32} {s : AS} {o : Int32 × AS} (h : b_Reader_readSum_101 Rg k7 v0 v1 v2 v3 v4 s = some o) : Ev (d + 1) mZ28 101 [.ref v0, .int v1, .int v2, .int v3, .int v4, d5] [] s (some (.int o.1), o.2) := by
  unfold b_Reader_readSum_101 at h
  refine gd h (fun g1 h => ?_)
  refine Ev_blk 1 (pc' := 102) (ls' := [.ref v0, .int v1, .int v2, .int v3, .int v4, d5]) (st' := [.ref v0]) (s' := s) rfl trivial ?_
  refine bd h (fun r1 hr1 h => ?_)
  refine Ev_call 2 22 0 [.ref v0] [] rfl rfl rfl rfl g1 rfl rfl (by omega) (t_Reader_next hr1) ?_
  refine Ev_blk 2 (pc' := 7) (ls' := [.ref v0, .int v1, .int v2, .int v3, .int (v4 + nI 1), d5]) (st' := []) (s' := r1) rfl trivial ?_
  exact H7 h
def b_Reader_readSum_80 (Rg : RgAT) (k7 : Nat → Int32 → Int32 → Int32 → Int32 → AS → Option (Int32 × AS)) (v0 : Nat) (v1 : Int32) (v2 : Int32) (v4 : Int32) (s : AS) : Option (Int32 × AS) :=
  if sT s v0 = 8 then
  (f_Reader_placeIn s v0 (strB + 7)).bind fun r1 =>
  if r1 = (-(nI 1)) then
    some (nI 1, s)
  else
    b_Reader_readSum_101 Rg k7 v0 v1 v2 ((nI 2) + r1) v4 s
  else none
theorem t_Reader_readSum_80 {d : Nat} {Rg : RgAT} (HR : HRgA d Rg) (hd : 0 ≤ d) {k7 : Nat → Int32 → Int32 → Int32 → Int32 → AS → Option (Int32 × AS)} (H7 : ∀ {d5 : Value} {v0 : Nat} {v1 : Int32} {v2 : Int32} {v3 : Int32} {v4 : Int32} {s : AS} {o : Int32 × AS}, k7 v0 v1 v2 v3 v4 s = some o → Ev (d + 1) mZ28 7 [.ref v0, .int v1, .int v2, .int v3, .int v4, d5] [] s (some (.int o.1), o.2)) {d3 d5 : Value} {v0 : Nat} {v1 : Int32} {v2 : Int32} {v4 : Int32} {s : AS} {o : Int32 × AS} (h : b_Reader_readSum_80 Rg k7 v0 v1 v2 v4 s = some o) : Ev (d + 1) mZ28 80 [.ref v0, .int v1, .int v2, d3, .int v4, d5] [] s (some (.int o.1), o.2) := by
  unfold b_Reader_readSum_80 at h
  refine gd h (fun g1 h => ?_)
  refine Ev_blk 2 (pc' := 83) (ls' := [.ref v0, .int v1, .int v2, d3, .int v4, d5]) (st' := [.ref (strB + 7), .ref v0]) (s' := s) rfl trivial ?_
  refine bd h (fun r1 hr1 h => ?_)
  refine Ev_call 2 24 1 [.ref v0, .ref (strB + 7)] [] rfl rfl rfl rfl g1 rfl rfl (by omega) (t_Reader_placeIn hr1) ?_
  refine Ev_blk 4 (pc' := if r1 = (-(nI 1)) then 94 else 96) (ls' := [.ref v0, .int v1, .int v2, d3, .int v4, .int r1]) (st' := []) (s' := s) rfl trivial ?_
  refine ib h (fun c2 h => ?_) (fun c2 h => ?_)
  · refine Ev_blk 1 (pc' := 95) (ls' := [.ref v0, .int v1, .int v2, d3, .int v4, .int r1]) (st' := [.int (nI 1)]) (s' := s) rfl trivial ?_
    cases h
    exact Ev_ret rfl (Or.inr rfl)
  · refine Ev_blk 4 (pc' := 101) (ls' := [.ref v0, .int v1, .int v2, .int ((nI 2) + r1), .int v4, .int r1]) (st' := []) (s' := s) rfl trivial ?_
    exact t_Reader_readSum_101 HR hd H7 h
def b_Reader_readSum_59 (Rg : RgAT) (k7 : Nat → Int32 → Int32 → Int32 → Int32 → AS → Option (Int32 × AS)) (v0 : Nat) (v1 : Int32) (v3 : Int32) (v4 : Int32) (v5 : Int32) (w0 : Int32) (s : AS) : Option (Int32 × AS) :=
  if v5 = (-(nI 1)) then
    if v3 = (-(nI 1)) then
      b_Reader_readSum_80 Rg k7 v0 v1 w0 v4 s
    else
      if sT s v0 = 8 then
      if sT s (sR s v0 0) = 12 then
      (f_Text_add s (sR s v0 0) v3 (nI 0)).bind fun r1 =>
      b_Reader_readSum_80 Rg k7 v0 v1 w0 v4 r1
      else none
      else none
  else
    b_Reader_readSum_101 Rg k7 v0 v1 w0 v3 v4 s
theorem t_Reader_readSum_59 {d : Nat} {Rg : RgAT} (HR : HRgA d Rg) (hd : 0 ≤ d) {k7 : Nat → Int32 → Int32 → Int32 → Int32 → AS → Option (Int32 × AS)} (H7 : ∀ {d5 : Value} {v0 : Nat} {v1 : Int32} {v2 : Int32} {v3 : Int32} {v4 : Int32} {s : AS} {o : Int32 × AS}, k7 v0 v1 v2 v3 v4 s = some o → Ev (d + 1) mZ28 7 [.ref v0, .int v1, .int v2, .int v3, .int v4, d5] [] s (some (.int o.1), o.2)) {d2 : Value} {v0 : Nat} {v1 : Int32} {v3 : Int32} {v4 : Int32} {v5 : Int32} {w0 : Int32} {s : AS} {o : Int32 × AS} (h : b_Reader_readSum_59 Rg k7 v0 v1 v3 v4 v5 w0 s = some o) : Ev (d + 1) mZ28 59 [.ref v0, .int v1, d2, .int v3, .int v4, .int v5] [.int w0] s (some (.int o.1), o.2) := by
  unfold b_Reader_readSum_59 at h
  refine Ev_blk 4 (pc' := if v5 = (-(nI 1)) then 66 else 101) (ls' := [.ref v0, .int v1, .int w0, .int v3, .int v4, .int v5]) (st' := []) (s' := s) rfl trivial ?_
  refine ib h (fun c1 h => ?_) (fun c1 h => ?_)
  · refine Ev_blk 3 (pc' := if v3 = (-(nI 1)) then 80 else 71) (ls' := [.ref v0, .int v1, .int w0, .int v3, .int v4, .int v5]) (st' := []) (s' := s) rfl trivial ?_
    refine ib h (fun c2 h => ?_) (fun c2 h => ?_)
    · exact t_Reader_readSum_80 HR hd H7 h
    · refine gd h (fun g3 h => ?_)
      refine gd h (fun g4 h => ?_)
      refine Ev_blk 4 (pc' := 77) (ls' := [.ref v0, .int v1, .int w0, .int v3, .int v4, .int v5]) (st' := [.int (nI 0), .int v3, .ref (sR s v0 0)]) (s' := s) rfl ⟨trivial, g3⟩ ?_
      refine bd h (fun r1 hr1 h => ?_)
      refine Ev_call 2 31 2 [.ref (sR s v0 0), .int v3, .int (nI 0)] [] rfl rfl rfl rfl g4 rfl rfl (by omega) (t_Text_add hr1) ?_
      exact t_Reader_readSum_80 HR hd H7 h
  · exact t_Reader_readSum_101 HR hd H7 h
def b_Reader_readSum_37 (Rg : RgAT) (k7 : Nat → Int32 → Int32 → Int32 → Int32 → AS → Option (Int32 × AS)) (v0 : Nat) (v1 : Int32) (v3 : Int32) (v4 : Int32) (s : AS) : Option (Int32 × AS) :=
  if sT s v0 = 8 then
  (f_Reader_placeIn s v0 (strB + 6)).bind fun r1 =>
    b_Reader_readSum_59 Rg k7 v0 v1 v3 v4 r1 (if r1 = (-(nI 1)) then -(nI 1) else (nI 4) + r1) s
  else none
theorem t_Reader_readSum_37 {d : Nat} {Rg : RgAT} (HR : HRgA d Rg) (hd : 0 ≤ d) {k7 : Nat → Int32 → Int32 → Int32 → Int32 → AS → Option (Int32 × AS)} (H7 : ∀ {d5 : Value} {v0 : Nat} {v1 : Int32} {v2 : Int32} {v3 : Int32} {v4 : Int32} {s : AS} {o : Int32 × AS}, k7 v0 v1 v2 v3 v4 s = some o → Ev (d + 1) mZ28 7 [.ref v0, .int v1, .int v2, .int v3, .int v4, d5] [] s (some (.int o.1), o.2)) {d2 d5 : Value} {v0 : Nat} {v1 : Int32} {v3 : Int32} {v4 : Int32} {s : AS} {o : Int32 × AS} (h : b_Reader_readSum_37 Rg k7 v0 v1 v3 v4 s = some o) : Ev (d + 1) mZ28 37 [.ref v0, .int v1, d2, .int v3, .int v4, d5] [] s (some (.int o.1), o.2) := by
  unfold b_Reader_readSum_37 at h
  refine gd h (fun g1 h => ?_)
  refine Ev_blk 2 (pc' := 40) (ls' := [.ref v0, .int v1, d2, .int v3, .int v4, d5]) (st' := [.ref (strB + 6), .ref v0]) (s' := s) rfl trivial ?_
  refine bd h (fun r1 hr1 h => ?_)
  refine Ev_call 2 24 1 [.ref v0, .ref (strB + 6)] [] rfl rfl rfl rfl g1 rfl rfl (by omega) (t_Reader_placeIn hr1) ?_
  refine Ev_blk 4 (pc' := if r1 = (-(nI 1)) then 51 else 55) (ls' := [.ref v0, .int v1, d2, .int v3, .int v4, .int r1]) (st' := []) (s' := s) rfl trivial ?_
  have k2_ : Ev (d + 1) mZ28 59 [.ref v0, .int v1, d2, .int v3, .int v4, .int r1] [.int (if r1 = (-(nI 1)) then -(nI 1) else (nI 4) + r1)] s (some (.int o.1), o.2) := by
    exact t_Reader_readSum_59 HR hd H7 h
  refine icases (fun c3 => ?_) (fun c3 => ?_)
  · exact Ev_blk 2 (pc' := 59) (ls' := [.ref v0, .int v1, d2, .int v3, .int v4, .int r1]) (st' := [.int (-(nI 1))]) (s' := s) rfl trivial (by simpa only [if_pos c3] using k2_)
  · exact Ev_blk 3 (pc' := 59) (ls' := [.ref v0, .int v1, d2, .int v3, .int v4, .int r1]) (st' := [.int ((nI 4) + r1)]) (s' := s) rfl trivial (by simpa only [if_neg c3] using k2_)
def b_Reader_readSum_7 (Rg : RgAT) (k7 : Nat → Int32 → Int32 → Int32 → Int32 → AS → Option (Int32 × AS)) (v0 : Nat) (v1 : Int32) (v2 : Int32) (v3 : Int32) (v4 : Int32) (s : AS) : Option (Int32 × AS) :=
  if v4 < (nI 400) then
    if sT s v0 = 8 then
    ((rg_Reader_readPart Rg) s v0 v1).bind fun r1 =>
    if r1.1 = (nI 0) then
      some (nI 0, r1.2)
    else
      if v2 = (-(nI 1)) then
        b_Reader_readSum_37 Rg k7 v0 v1 v3 v4 r1.2
      else
        if sT r1.2 v0 = 8 then
        if sT r1.2 (sR r1.2 v0 0) = 12 then
        (f_Text_add r1.2 (sR r1.2 v0 0) v2 (nI 0)).bind fun r2 =>
        b_Reader_readSum_37 Rg k7 v0 v1 v3 v4 r2
        else none
        else none
    else none
  else
    some (nI 0, s)
theorem t_Reader_readSum_7 {d : Nat} {Rg : RgAT} (HR : HRgA d Rg) (hd : 0 ≤ d) {k7 : Nat → Int32 → Int32 → Int32 → Int32 → AS → Option (Int32 × AS)} (H7 : ∀ {d5 : Value} {v0 : Nat} {v1 : Int32} {v2 : Int32} {v3 : Int32} {v4 : Int32} {s : AS} {o : Int32 × AS}, k7 v0 v1 v2 v3 v4 s = some o → Ev (d + 1) mZ28 7 [.ref v0, .int v1, .int v2, .int v3, .int v4, d5] [] s (some (.int o.1), o.2)) {d5 : Value} {v0 : Nat} {v1 : Int32} {v2 : Int32} {v3 : Int32} {v4 : Int32} {s : AS} {o : Int32 × AS} (h : b_Reader_readSum_7 Rg k7 v0 v1 v2 v3 v4 s = some o) : Ev (d + 1) mZ28 7 [.ref v0, .int v1, .int v2, .int v3, .int v4, d5] [] s (some (.int o.1), o.2) := by
  unfold b_Reader_readSum_7 at h
  refine Ev_blk 3 (pc' := if v4 < (nI 400) then 15 else 111) (ls' := [.ref v0, .int v1, .int v2, .int v3, .int v4, d5]) (st' := []) (s' := s) rfl trivial ?_
  refine ib h (fun c1 h => ?_) (fun c1 h => ?_)
  · refine gd h (fun g2 h => ?_)
    refine Ev_blk 2 (pc' := 17) (ls' := [.ref v0, .int v1, .int v2, .int v3, .int v4, d5]) (st' := [.int v1, .ref v0]) (s' := s) rfl trivial ?_
    refine bd h (fun r1 hr1 h => ?_)
    refine Ev_call 2 29 1 [.ref v0, .int v1] [] rfl rfl rfl rfl g2 rfl rfl (by omega) (HR.rg_Reader_readPart hr1) ?_
    refine Ev_blk 1 (pc' := if r1.1 = (nI 0) then 111 else 23) (ls' := [.ref v0, .int v1, .int v2, .int v3, .int v4, d5]) (st' := []) (s' := r1.2) rfl trivial ?_
    refine ib h (fun c3 h => ?_) (fun c3 h => ?_)
    · refine Ev_blk 1 (pc' := 112) (ls' := [.ref v0, .int v1, .int v2, .int v3, .int v4, d5]) (st' := [.int (nI 0)]) (s' := r1.2) rfl trivial ?_
      cases h
      exact Ev_ret rfl (Or.inl rfl)
    · refine Ev_blk 3 (pc' := if v2 = (-(nI 1)) then 37 else 28) (ls' := [.ref v0, .int v1, .int v2, .int v3, .int v4, d5]) (st' := []) (s' := r1.2) rfl trivial ?_
      refine ib h (fun c4 h => ?_) (fun c4 h => ?_)
      · exact t_Reader_readSum_37 HR hd H7 h
      · refine gd h (fun g5 h => ?_)
        refine gd h (fun g6 h => ?_)
        refine Ev_blk 4 (pc' := 34) (ls' := [.ref v0, .int v1, .int v2, .int v3, .int v4, d5]) (st' := [.int (nI 0), .int v2, .ref (sR r1.2 v0 0)]) (s' := r1.2) rfl ⟨trivial, g5⟩ ?_
        refine bd h (fun r2 hr2 h => ?_)
        refine Ev_call 2 31 2 [.ref (sR r1.2 v0 0), .int v2, .int (nI 0)] [] rfl rfl rfl rfl g6 rfl rfl (by omega) (t_Text_add hr2) ?_
        exact t_Reader_readSum_37 HR hd H7 h
  · refine Ev_blk 1 (pc' := 112) (ls' := [.ref v0, .int v1, .int v2, .int v3, .int v4, d5]) (st' := [.int (nI 0)]) (s' := s) rfl trivial ?_
    cases h
    exact Ev_ret rfl (Or.inl rfl)
def l_Reader_readSum_7 (Rg : RgAT)  : Nat → Nat → Int32 → Int32 → Int32 → Int32 → AS → Option (Int32 × AS)
  | 0 => fun _ _ _ _ _ _ => none
  | n + 1 => b_Reader_readSum_7 Rg  (l_Reader_readSum_7 Rg  n)
theorem u_Reader_readSum_7 {d : Nat} {Rg : RgAT} (HR : HRgA d Rg) (hd : 0 ≤ d)   {n : Nat} : ∀ {d5 : Value} {v0 : Nat} {v1 : Int32} {v2 : Int32} {v3 : Int32} {v4 : Int32} {s : AS} {o : Int32 × AS}, l_Reader_readSum_7 Rg  n v0 v1 v2 v3 v4 s = some o → Ev (d + 1) mZ28 7 [.ref v0, .int v1, .int v2, .int v3, .int v4, d5] [] s (some (.int o.1), o.2) := by
  induction n with
  | zero => intros; rename_i h; cases h
  | succ n ih => intros; rename_i h; exact t_Reader_readSum_7 HR hd  (fun h => ih h) h
/-- RecordHeap$Reader.readSum(I)Z -/
def g_Reader_readSum (Rg : RgAT) (s : AS) (a0 : Nat) (a1 : Int32) : Option (Int32 × AS) :=
  l_Reader_readSum_7 Rg fuel a0 a1 (-(nI 1)) (-(nI 1)) (nI 0) s
theorem tg_Reader_readSum {d : Nat} {Rg : RgAT} (HR : HRgA d Rg) (hd : 0 ≤ d) {s : AS} {a0 : Nat} {a1 : Int32} {o : Int32 × AS} (h : g_Reader_readSum Rg s a0 a1 = some o) : Ev (d + 1) mZ28 0 [.ref a0, .int a1, .retAddr 0, .retAddr 0, .retAddr 0, .retAddr 0] [] s (some (.int o.1), o.2) := by
  unfold g_Reader_readSum at h
  refine Ev_blk 6 (pc' := 7) (ls' := [.ref a0, .int a1, .int (-(nI 1)), .int (-(nI 1)), .int (nI 0), .retAddr 0]) (st' := []) (s' := s) rfl trivial ?_
  exact u_Reader_readSum_7 HR hd h

def b_Reader_readPart_103 (Rg : RgAT)  (v0 : Nat) (s : AS) : Option (Int32 × AS) :=
  if sT s v0 = 8 then
  (f_Reader_stop s v0).bind fun r1 =>
  if r1.1 = nI 0 ∨ r1.1 = nI 1 then
  some (r1.1, r1.2)
  else none
  else none
theorem t_Reader_readPart_103 {d : Nat} {Rg : RgAT} (HR : HRgA d Rg) (hd : 0 ≤ d)   {d1 d2 d3 d4 : Value} {v0 : Nat} {s : AS} {o : Int32 × AS} (h : b_Reader_readPart_103 Rg  v0 s = some o) : Ev (d + 1) mZ29 103 [.ref v0, d1, d2, d3, d4] [] s (some (.int o.1), o.2) := by
  unfold b_Reader_readPart_103 at h
  refine gd h (fun g1 h => ?_)
  refine Ev_blk 1 (pc' := 104) (ls' := [.ref v0, d1, d2, d3, d4]) (st' := [.ref v0]) (s' := s) rfl trivial ?_
  refine bd h (fun r1 hr1 h => ?_)
  refine Ev_call 2 25 0 [.ref v0] [] rfl rfl rfl rfl g1 rfl rfl (by omega) (t_Reader_stop hr1) ?_
  refine gd h (fun g2 h => ?_)
  cases h
  exact Ev_ret rfl g2
def b_Reader_readPart_186 (Rg : RgAT)  (v0 : Nat) (v3 : Int32) (s : AS) : Option (Int32 × AS) :=
  if sT s v0 = 8 then
  if sT s (sR s v0 0) = 12 then
  (f_Text_add s (sR s v0 0) (nI 1) v3).bind fun r1 =>
  some (nI 1, r1)
  else none
  else none
theorem t_Reader_readPart_186 {d : Nat} {Rg : RgAT} (HR : HRgA d Rg) (hd : 0 ≤ d)   {d1 d2 d4 : Value} {v0 : Nat} {v3 : Int32} {s : AS} {o : Int32 × AS} (h : b_Reader_readPart_186 Rg  v0 v3 s = some o) : Ev (d + 1) mZ29 186 [.ref v0, d1, d2, .int v3, d4] [] s (some (.int o.1), o.2) := by
  unfold b_Reader_readPart_186 at h
  refine gd h (fun g1 h => ?_)
  refine gd h (fun g2 h => ?_)
  refine Ev_blk 4 (pc' := 192) (ls' := [.ref v0, d1, d2, .int v3, d4]) (st' := [.int v3, .int (nI 1), .ref (sR s v0 0)]) (s' := s) rfl ⟨trivial, g1⟩ ?_
  refine bd h (fun r1 hr1 h => ?_)
  refine Ev_call 2 31 2 [.ref (sR s v0 0), .int (nI 1), .int v3] [] rfl rfl rfl rfl g2 rfl rfl (by omega) (t_Text_add hr1) ?_
  refine Ev_blk 1 (pc' := 196) (ls' := [.ref v0, d1, d2, .int v3, d4]) (st' := [.int (nI 1)]) (s' := r1) rfl trivial ?_
  cases h
  exact Ev_ret rfl (Or.inr rfl)
def b_Reader_readPart_108 (Rg : RgAT)  (v0 : Nat) (v2 : Int32) (v3 : Int32) (s : AS) : Option (Int32 × AS) :=
  if sT s v0 = 8 then
  (f_Reader_next (setI s v0 6 ((sI s v0 6) + (nI 1))) v0).bind fun r1 =>
  if v2 = (-(nI 1)) then
    if sT r1 v0 = 8 then
    if (sI r1 v0 3) = (nI 0) then
      b_Reader_readPart_186 Rg v0 v3 r1
    else
      if v3 < (nI 4) then
        b_Reader_readPart_186 Rg v0 v3 r1
      else
        (f_Reader_numberIn r1 v0 (nI 0) (nI 7)).bind fun r2 =>
        if r2 = (-(nI 1)) then
          (f_Reader_stop r1 v0).bind fun r3 =>
          if r3.1 = nI 0 ∨ r3.1 = nI 1 then
          some (r3.1, r3.2)
          else none
        else
          (f_Reader_next r1 v0).bind fun r4 =>
          b_Reader_readPart_186 Rg v0 (((nI 4) + ((v3 - (nI 4)) * (nI 8))) + r2) r4
    else none
  else
    if sT r1 v0 = 8 then
    if sT r1 (sR r1 v0 0) = 12 then
    (f_Text_add r1 (sR r1 v0 0) (nI 0) v2).bind fun r5 =>
    some (nI 1, r5)
    else none
    else none
  else none
theorem t_Reader_readPart_108 {d : Nat} {Rg : RgAT} (HR : HRgA d Rg) (hd : 0 ≤ d)   {d1 d4 : Value} {v0 : Nat} {v2 : Int32} {v3 : Int32} {s : AS} {o : Int32 × AS} (h : b_Reader_readPart_108 Rg  v0 v2 v3 s = some o) : Ev (d + 1) mZ29 108 [.ref v0, d1, .int v2, .int v3, d4] [] s (some (.int o.1), o.2) := by
  unfold b_Reader_readPart_108 at h
  refine gd h (fun g1 h => ?_)
  refine Ev_blk 7 (pc' := 119) (ls' := [.ref v0, d1, .int v2, .int v3, d4]) (st' := [.ref v0]) (s' := setI s v0 6 ((sI s v0 6) + (nI 1))) rfl ⟨⟨trivial, g1⟩, g1⟩ ?_
  refine bd h (fun r1 hr1 h => ?_)
  refine Ev_call 2 22 0 [.ref v0] [] rfl rfl rfl rfl g1 rfl rfl (by omega) (t_Reader_next hr1) ?_
  refine Ev_blk 3 (pc' := if v2 = (-(nI 1)) then 138 else 127) (ls' := [.ref v0, d1, .int v2, .int v3, d4]) (st' := []) (s' := r1) rfl trivial ?_
  refine ib h (fun c2 h => ?_) (fun c2 h => ?_)
  · refine gd h (fun g3 h => ?_)
    refine Ev_blk 3 (pc' := if (sI r1 v0 3) = (nI 0) then 186 else 145) (ls' := [.ref v0, d1, .int v2, .int v3, d4]) (st' := []) (s' := r1) rfl ⟨trivial, g3⟩ ?_
    refine ib h (fun c4 h => ?_) (fun c4 h => ?_)
    · exact t_Reader_readPart_186 HR hd h
    · refine Ev_blk 3 (pc' := if v3 < (nI 4) then 186 else 150) (ls' := [.ref v0, d1, .int v2, .int v3, d4]) (st' := []) (s' := r1) rfl trivial ?_
      refine ib h (fun c5 h => ?_) (fun c5 h => ?_)
      · exact t_Reader_readPart_186 HR hd h
      · refine Ev_blk 3 (pc' := 154) (ls' := [.ref v0, d1, .int v2, .int v3, d4]) (st' := [.int (nI 7), .int (nI 0), .ref v0]) (s' := r1) rfl trivial ?_
        refine bd h (fun r2 hr2 h => ?_)
        refine Ev_call 2 30 2 [.ref v0, .int (nI 0), .int (nI 7)] [] rfl rfl rfl rfl g3 rfl rfl (by omega) (t_Reader_numberIn hr2) ?_
        refine Ev_blk 4 (pc' := if r2 = (-(nI 1)) then 165 else 170) (ls' := [.ref v0, d1, .int v2, .int v3, .int r2]) (st' := []) (s' := r1) rfl trivial ?_
        refine ib h (fun c6 h => ?_) (fun c6 h => ?_)
        · refine Ev_blk 1 (pc' := 166) (ls' := [.ref v0, d1, .int v2, .int v3, .int r2]) (st' := [.ref v0]) (s' := r1) rfl trivial ?_
          refine bd h (fun r3 hr3 h => ?_)
          refine Ev_call 2 25 0 [.ref v0] [] rfl rfl rfl rfl g3 rfl rfl (by omega) (t_Reader_stop hr3) ?_
          refine gd h (fun g7 h => ?_)
          cases h
          exact Ev_ret rfl g7
        · refine Ev_blk 11 (pc' := 183) (ls' := [.ref v0, d1, .int v2, .int (((nI 4) + ((v3 - (nI 4)) * (nI 8))) + r2), .int r2]) (st' := [.ref v0]) (s' := r1) rfl trivial ?_
          refine bd h (fun r4 hr4 h => ?_)
          refine Ev_call 2 22 0 [.ref v0] [] rfl rfl rfl rfl g3 rfl rfl (by omega) (t_Reader_next hr4) ?_
          exact t_Reader_readPart_186 HR hd h
  · refine gd h (fun g8 h => ?_)
    refine gd h (fun g9 h => ?_)
    refine Ev_blk 4 (pc' := 133) (ls' := [.ref v0, d1, .int v2, .int v3, d4]) (st' := [.int v2, .int (nI 0), .ref (sR r1 v0 0)]) (s' := r1) rfl ⟨trivial, g8⟩ ?_
    refine bd h (fun r5 hr5 h => ?_)
    refine Ev_call 2 31 2 [.ref (sR r1 v0 0), .int (nI 0), .int v2] [] rfl rfl rfl rfl g9 rfl rfl (by omega) (t_Text_add hr5) ?_
    refine Ev_blk 1 (pc' := 137) (ls' := [.ref v0, d1, .int v2, .int v3, d4]) (st' := [.int (nI 1)]) (s' := r5) rfl trivial ?_
    cases h
    exact Ev_ret rfl (Or.inr rfl)
def b_Reader_readPart_80 (Rg : RgAT)  (v0 : Nat) (v2 : Int32) (w0 : Nat) (w1 : Nat) (s : AS) : Option (Int32 × AS) :=
  if sT s w1 = 8 then
  (f_Reader_placeIn s w1 w0).bind fun r1 =>
  if sT s v0 = 8 then
  if (sI s v0 6) < (nI 50) then
    if v2 = (-(nI 1)) then
      if r1 = (-(nI 1)) then
        b_Reader_readPart_103 Rg v0 s
      else
        b_Reader_readPart_108 Rg v0 v2 r1 s
    else
      b_Reader_readPart_108 Rg v0 v2 r1 s
  else
    b_Reader_readPart_103 Rg v0 s
  else none
  else none
theorem t_Reader_readPart_80 {d : Nat} {Rg : RgAT} (HR : HRgA d Rg) (hd : 0 ≤ d)   {d1 d3 d4 : Value} {v0 : Nat} {v2 : Int32} {w0 : Nat} {w1 : Nat} {s : AS} {o : Int32 × AS} (h : b_Reader_readPart_80 Rg  v0 v2 w0 w1 s = some o) : Ev (d + 1) mZ29 80 [.ref v0, d1, .int v2, d3, d4] [.ref w0, .ref w1] s (some (.int o.1), o.2) := by
  unfold b_Reader_readPart_80 at h
  refine gd h (fun g1 h => ?_)
  refine bd h (fun r1 hr1 h => ?_)
  refine Ev_call 2 24 1 [.ref w1, .ref w0] [] rfl rfl rfl rfl g1 rfl rfl (by omega) (t_Reader_placeIn hr1) ?_
  refine gd h (fun g2 h => ?_)
  refine Ev_blk 5 (pc' := if (sI s v0 6) < (nI 50) then 93 else 103) (ls' := [.ref v0, d1, .int v2, .int r1, d4]) (st' := []) (s' := s) rfl ⟨trivial, g2⟩ ?_
  refine ib h (fun c3 h => ?_) (fun c3 h => ?_)
  · refine Ev_blk 3 (pc' := if v2 = (-(nI 1)) then 98 else 108) (ls' := [.ref v0, d1, .int v2, .int r1, d4]) (st' := []) (s' := s) rfl trivial ?_
    refine ib h (fun c4 h => ?_) (fun c4 h => ?_)
    · refine Ev_blk 3 (pc' := if r1 = (-(nI 1)) then 103 else 108) (ls' := [.ref v0, d1, .int v2, .int r1, d4]) (st' := []) (s' := s) rfl trivial ?_
      refine ib h (fun c5 h => ?_) (fun c5 h => ?_)
      · exact t_Reader_readPart_103 HR hd h
      · exact t_Reader_readPart_108 HR hd h
    · exact t_Reader_readPart_108 HR hd h
  · exact t_Reader_readPart_103 HR hd h
/-- RecordHeap$Reader.readPart(I)Z -/
def g_Reader_readPart (Rg : RgAT) (s : AS) (a0 : Nat) (a1 : Int32) : Option (Int32 × AS) :=
  if sT s a0 = 8 then
  (f_Reader_placeIn s a0 (strB + 2)).bind fun r1 =>
  if r1 = (nI 0) then
    if a1 < (nI 8) then
      (f_Reader_next s a0).bind fun r2 =>
      if sT r2 a0 = 8 then
      ((rg_Reader_readSum Rg) r2 a0 (a1 + (nI 1))).bind fun r3 =>
      if r3.1 = (nI 0) then
        some (nI 0, r3.2)
      else
        if sT r3.2 a0 = 8 then
        (f_Reader_placeIn r3.2 a0 (strB + 3)).bind fun r4 =>
        if r4 = (nI 0) then
          (f_Reader_next r3.2 a0).bind fun r5 =>
          some (nI 1, r5)
        else
          (f_Reader_stop r3.2 a0).bind fun r6 =>
          if r6.1 = nI 0 ∨ r6.1 = nI 1 then
          some (r6.1, r6.2)
          else none
        else none
      else none
    else
      (f_Reader_stop s a0).bind fun r7 =>
      if r7.1 = nI 0 ∨ r7.1 = nI 1 then
      some (r7.1, r7.2)
      else none
  else
    (f_Reader_numberIn s a0 (nI 0) (nI 1000)).bind fun r8 =>
    if (sI s a0 3) = (nI 0) then
      b_Reader_readPart_80 Rg a0 r8 (strB + 5) a0 s
    else
      b_Reader_readPart_80 Rg a0 r8 (strB + 4) a0 s
  else none
theorem tg_Reader_readPart {d : Nat} {Rg : RgAT} (HR : HRgA d Rg) (hd : 0 ≤ d) {s : AS} {a0 : Nat} {a1 : Int32} {o : Int32 × AS} (h : g_Reader_readPart Rg s a0 a1 = some o) : Ev (d + 1) mZ29 0 [.ref a0, .int a1, .retAddr 0, .retAddr 0, .retAddr 0] [] s (some (.int o.1), o.2) := by
  unfold g_Reader_readPart at h
  refine gd h (fun g1 h => ?_)
  refine Ev_blk 2 (pc' := 3) (ls' := [.ref a0, .int a1, .retAddr 0, .retAddr 0, .retAddr 0]) (st' := [.ref (strB + 2), .ref a0]) (s' := s) rfl trivial ?_
  refine bd h (fun r1 hr1 h => ?_)
  refine Ev_call 2 24 1 [.ref a0, .ref (strB + 2)] [] rfl rfl rfl rfl g1 rfl rfl (by omega) (t_Reader_placeIn hr1) ?_
  refine Ev_blk 1 (pc' := if r1 = (nI 0) then 9 else 56) (ls' := [.ref a0, .int a1, .retAddr 0, .retAddr 0, .retAddr 0]) (st' := []) (s' := s) rfl trivial ?_
  refine ib h (fun c2 h => ?_) (fun c2 h => ?_)
  · refine Ev_blk 3 (pc' := if a1 < (nI 8) then 20 else 15) (ls' := [.ref a0, .int a1, .retAddr 0, .retAddr 0, .retAddr 0]) (st' := []) (s' := s) rfl trivial ?_
    refine ib h (fun c3 h => ?_) (fun c3 h => ?_)
    · refine Ev_blk 1 (pc' := 21) (ls' := [.ref a0, .int a1, .retAddr 0, .retAddr 0, .retAddr 0]) (st' := [.ref a0]) (s' := s) rfl trivial ?_
      refine bd h (fun r2 hr2 h => ?_)
      refine Ev_call 2 22 0 [.ref a0] [] rfl rfl rfl rfl g1 rfl rfl (by omega) (t_Reader_next hr2) ?_
      refine gd h (fun g4 h => ?_)
      refine Ev_blk 4 (pc' := 28) (ls' := [.ref a0, .int a1, .retAddr 0, .retAddr 0, .retAddr 0]) (st' := [.int (a1 + (nI 1)), .ref a0]) (s' := r2) rfl trivial ?_
      refine bd h (fun r3 hr3 h => ?_)
      refine Ev_call 2 28 1 [.ref a0, .int (a1 + (nI 1))] [] rfl rfl rfl rfl g4 rfl rfl (by omega) (HR.rg_Reader_readSum hr3) ?_
      refine Ev_blk 1 (pc' := if r3.1 = (nI 0) then 34 else 36) (ls' := [.ref a0, .int a1, .retAddr 0, .retAddr 0, .retAddr 0]) (st' := []) (s' := r3.2) rfl trivial ?_
      refine ib h (fun c5 h => ?_) (fun c5 h => ?_)
      · refine Ev_blk 1 (pc' := 35) (ls' := [.ref a0, .int a1, .retAddr 0, .retAddr 0, .retAddr 0]) (st' := [.int (nI 0)]) (s' := r3.2) rfl trivial ?_
        cases h
        exact Ev_ret rfl (Or.inl rfl)
      · refine gd h (fun g6 h => ?_)
        refine Ev_blk 2 (pc' := 39) (ls' := [.ref a0, .int a1, .retAddr 0, .retAddr 0, .retAddr 0]) (st' := [.ref (strB + 3), .ref a0]) (s' := r3.2) rfl trivial ?_
        refine bd h (fun r4 hr4 h => ?_)
        refine Ev_call 2 24 1 [.ref a0, .ref (strB + 3)] [] rfl rfl rfl rfl g6 rfl rfl (by omega) (t_Reader_placeIn hr4) ?_
        refine Ev_blk 1 (pc' := if r4 = (nI 0) then 50 else 45) (ls' := [.ref a0, .int a1, .retAddr 0, .retAddr 0, .retAddr 0]) (st' := []) (s' := r3.2) rfl trivial ?_
        refine ib h (fun c7 h => ?_) (fun c7 h => ?_)
        · refine Ev_blk 1 (pc' := 51) (ls' := [.ref a0, .int a1, .retAddr 0, .retAddr 0, .retAddr 0]) (st' := [.ref a0]) (s' := r3.2) rfl trivial ?_
          refine bd h (fun r5 hr5 h => ?_)
          refine Ev_call 2 22 0 [.ref a0] [] rfl rfl rfl rfl g6 rfl rfl (by omega) (t_Reader_next hr5) ?_
          refine Ev_blk 1 (pc' := 55) (ls' := [.ref a0, .int a1, .retAddr 0, .retAddr 0, .retAddr 0]) (st' := [.int (nI 1)]) (s' := r5) rfl trivial ?_
          cases h
          exact Ev_ret rfl (Or.inr rfl)
        · refine Ev_blk 1 (pc' := 46) (ls' := [.ref a0, .int a1, .retAddr 0, .retAddr 0, .retAddr 0]) (st' := [.ref a0]) (s' := r3.2) rfl trivial ?_
          refine bd h (fun r6 hr6 h => ?_)
          refine Ev_call 2 25 0 [.ref a0] [] rfl rfl rfl rfl g6 rfl rfl (by omega) (t_Reader_stop hr6) ?_
          refine gd h (fun g8 h => ?_)
          cases h
          exact Ev_ret rfl g8
    · refine Ev_blk 1 (pc' := 16) (ls' := [.ref a0, .int a1, .retAddr 0, .retAddr 0, .retAddr 0]) (st' := [.ref a0]) (s' := s) rfl trivial ?_
      refine bd h (fun r7 hr7 h => ?_)
      refine Ev_call 2 25 0 [.ref a0] [] rfl rfl rfl rfl g1 rfl rfl (by omega) (t_Reader_stop hr7) ?_
      refine gd h (fun g9 h => ?_)
      cases h
      exact Ev_ret rfl g9
  · refine Ev_blk 3 (pc' := 61) (ls' := [.ref a0, .int a1, .retAddr 0, .retAddr 0, .retAddr 0]) (st' := [.int (nI 1000), .int (nI 0), .ref a0]) (s' := s) rfl trivial ?_
    refine bd h (fun r8 hr8 h => ?_)
    refine Ev_call 2 30 2 [.ref a0, .int (nI 0), .int (nI 1000)] [] rfl rfl rfl rfl g1 rfl rfl (by omega) (t_Reader_numberIn hr8) ?_
    refine Ev_blk 5 (pc' := if (sI s a0 3) = (nI 0) then 78 else 73) (ls' := [.ref a0, .int a1, .int r8, .retAddr 0, .retAddr 0]) (st' := [.ref a0]) (s' := s) rfl ⟨trivial, g1⟩ ?_
    refine ib h (fun c10 h => ?_) (fun c10 h => ?_)
    · refine Ev_blk 1 (pc' := 80) (ls' := [.ref a0, .int a1, .int r8, .retAddr 0, .retAddr 0]) (st' := [.ref (strB + 5), .ref a0]) (s' := s) rfl trivial ?_
      exact t_Reader_readPart_80 HR hd h
    · refine Ev_blk 2 (pc' := 80) (ls' := [.ref a0, .int a1, .int r8, .retAddr 0, .retAddr 0]) (st' := [.ref (strB + 4), .ref a0]) (s' := s) rfl trivial ?_
      exact t_Reader_readPart_80 HR hd h

def famA : Nat → RgAT
  | 0 => (fun _ _ _ => none, fun _ _ _ => none)
  | n + 1 => (g_Reader_readSum (famA n), g_Reader_readPart (famA n))
theorem famA_ok : ∀ n : Nat, HRgA (0 + n) (famA n) := by
  intro n
  induction n with
  | zero => refine ⟨?_, ?_⟩ <;> (intros; rename_i h; have h2 : none = some _ := h; cases h2)
  | succ n ih => exact ⟨fun h => tg_Reader_readSum ih (by omega) h, fun h => tg_Reader_readPart ih (by omega) h⟩
def f_Reader_readSum (s : AS) (a0 : Nat) (a1 : Int32) : Option (Int32 × AS) := rg_Reader_readSum (famA 60) s a0 a1
theorem t_Reader_readSum {s : AS} {a0 : Nat} {a1 : Int32} {o : Int32 × AS} (h : f_Reader_readSum s a0 a1 = some o) : Ev 60 mZ28 0 [.ref a0, .int a1, .retAddr 0, .retAddr 0, .retAddr 0, .retAddr 0] [] s (some (.int o.1), o.2) := HRgA.rg_Reader_readSum (famA_ok 60) h
def f_Reader_readPart (s : AS) (a0 : Nat) (a1 : Int32) : Option (Int32 × AS) := rg_Reader_readPart (famA 60) s a0 a1
theorem t_Reader_readPart {s : AS} {a0 : Nat} {a1 : Int32} {o : Int32 × AS} (h : f_Reader_readPart s a0 a1 = some o) : Ev 60 mZ29 0 [.ref a0, .int a1, .retAddr 0, .retAddr 0, .retAddr 0] [] s (some (.int o.1), o.2) := HRgA.rg_Reader_readPart (famA_ok 60) h
def b_Reader_readSums_101  (v0 : Nat) (w0 : Nat) (w1 : Nat) (s : AS) : Option (Int32 × AS) :=
  if sT s w1 = 8 then
  (f_Reader_placeIn s w1 w0).bind fun r1 =>
  if r1 = (nI 0) then
    if sT s v0 = 8 then
    (f_Reader_next s v0).bind fun r2 =>
    if sT r2 v0 = 8 then
    (f_Reader_readSum r2 v0 (nI 0)).bind fun r3 =>
    if r3.1 = nI 0 ∨ r3.1 = nI 1 then
    some (r3.1, r3.2)
    else none
    else none
    else none
  else
    if sT s v0 = 8 then
    (f_Reader_stop s v0).bind fun r4 =>
    if r4.1 = nI 0 ∨ r4.1 = nI 1 then
    some (r4.1, r4.2)
    else none
    else none
  else none
theorem t_Reader_readSums_101   {d1 d2 : Value} {v0 : Nat} {w0 : Nat} {w1 : Nat} {s : AS} {o : Int32 × AS} (h : b_Reader_readSums_101  v0 w0 w1 s = some o) : Ev 61 mZ27 101 [.ref v0, d1, d2] [.ref w0, .ref w1] s (some (.int o.1), o.2) := by
  unfold b_Reader_readSums_101 at h
  refine gd h (fun g1 h => ?_)
  refine bd h (fun r1 hr1 h => ?_)
  refine Ev_call 2 24 1 [.ref w1, .ref w0] [] rfl rfl rfl rfl g1 rfl rfl (Nat.le_of_ble_eq_true rfl) (t_Reader_placeIn hr1) ?_
  refine Ev_blk 1 (pc' := if r1 = (nI 0) then 112 else 107) (ls' := [.ref v0, d1, d2]) (st' := []) (s' := s) rfl trivial ?_
  refine ib h (fun c2 h => ?_) (fun c2 h => ?_)
  · refine gd h (fun g3 h => ?_)
    refine Ev_blk 1 (pc' := 113) (ls' := [.ref v0, d1, d2]) (st' := [.ref v0]) (s' := s) rfl trivial ?_
    refine bd h (fun r2 hr2 h => ?_)
    refine Ev_call 2 22 0 [.ref v0] [] rfl rfl rfl rfl g3 rfl rfl (Nat.le_of_ble_eq_true rfl) (t_Reader_next hr2) ?_
    refine gd h (fun g4 h => ?_)
    refine Ev_blk 2 (pc' := 118) (ls' := [.ref v0, d1, d2]) (st' := [.int (nI 0), .ref v0]) (s' := r2) rfl trivial ?_
    refine bd h (fun r3 hr3 h => ?_)
    refine Ev_call 2 28 1 [.ref v0, .int (nI 0)] [] rfl rfl rfl rfl g4 rfl rfl (Nat.le_of_ble_eq_true rfl) (t_Reader_readSum hr3) ?_
    refine gd h (fun g5 h => ?_)
    cases h
    exact Ev_ret rfl g5
  · refine gd h (fun g6 h => ?_)
    refine Ev_blk 1 (pc' := 108) (ls' := [.ref v0, d1, d2]) (st' := [.ref v0]) (s' := s) rfl trivial ?_
    refine bd h (fun r4 hr4 h => ?_)
    refine Ev_call 2 25 0 [.ref v0] [] rfl rfl rfl rfl g6 rfl rfl (Nat.le_of_ble_eq_true rfl) (t_Reader_stop hr4) ?_
    refine gd h (fun g7 h => ?_)
    cases h
    exact Ev_ret rfl g7
def b_Reader_readSums_60  (v0 : Nat) (v1 : Int32) (s : AS) : Option (Int32 × AS) :=
  if sT s v0 = 8 then
  if sT s (sR s v0 0) = 12 then
  (f_Text_mark s (sR s v0 0) (nI 3) (sI s (sR s v0 0) 2)).bind fun r1 =>
  if sT r1 v0 = 8 then
  if (sI r1 v0 3) = (nI 0) then
    some (nI 1, r1)
  else
    if (nI 1) < v1 then
      some (nI 1, r1)
    else
      if v1 = (nI 0) then
        b_Reader_readSums_101 v0 (strB + 8) v0 r1
      else
        b_Reader_readSums_101 v0 (strB + 9) v0 r1
  else none
  else none
  else none
theorem t_Reader_readSums_60   {d2 : Value} {v0 : Nat} {v1 : Int32} {s : AS} {o : Int32 × AS} (h : b_Reader_readSums_60  v0 v1 s = some o) : Ev 61 mZ27 60 [.ref v0, .int v1, d2] [] s (some (.int o.1), o.2) := by
  unfold b_Reader_readSums_60 at h
  refine gd h (fun g1 h => ?_)
  refine gd h (fun g2 h => ?_)
  refine Ev_blk 6 (pc' := 72) (ls' := [.ref v0, .int v1, d2]) (st' := [.int (sI s (sR s v0 0) 2), .int (nI 3), .ref (sR s v0 0)]) (s' := s) rfl ⟨⟨⟨trivial, g1⟩, g1⟩, g2⟩ ?_
  refine bd h (fun r1 hr1 h => ?_)
  refine Ev_call 2 26 2 [.ref (sR s v0 0), .int (nI 3), .int (sI s (sR s v0 0) 2)] [] rfl rfl rfl rfl g2 rfl rfl (Nat.le_of_ble_eq_true rfl) (t_Text_mark hr1) ?_
  refine gd h (fun g3 h => ?_)
  refine Ev_blk 3 (pc' := if (sI r1 v0 3) = (nI 0) then 87 else 82) (ls' := [.ref v0, .int v1, d2]) (st' := []) (s' := r1) rfl ⟨trivial, g3⟩ ?_
  refine ib h (fun c4 h => ?_) (fun c4 h => ?_)
  · refine Ev_blk 1 (pc' := 88) (ls' := [.ref v0, .int v1, d2]) (st' := [.int (nI 1)]) (s' := r1) rfl trivial ?_
    cases h
    exact Ev_ret rfl (Or.inr rfl)
  · refine Ev_blk 3 (pc' := if (nI 1) < v1 then 87 else 89) (ls' := [.ref v0, .int v1, d2]) (st' := []) (s' := r1) rfl trivial ?_
    refine ib h (fun c5 h => ?_) (fun c5 h => ?_)
    · refine Ev_blk 1 (pc' := 88) (ls' := [.ref v0, .int v1, d2]) (st' := [.int (nI 1)]) (s' := r1) rfl trivial ?_
      cases h
      exact Ev_ret rfl (Or.inr rfl)
    · refine Ev_blk 3 (pc' := if v1 = (nI 0) then 94 else 99) (ls' := [.ref v0, .int v1, d2]) (st' := [.ref v0]) (s' := r1) rfl trivial ?_
      refine ib h (fun c6 h => ?_) (fun c6 h => ?_)
      · refine Ev_blk 2 (pc' := 101) (ls' := [.ref v0, .int v1, d2]) (st' := [.ref (strB + 8), .ref v0]) (s' := r1) rfl trivial ?_
        exact t_Reader_readSums_101 h
      · refine Ev_blk 1 (pc' := 101) (ls' := [.ref v0, .int v1, d2]) (st' := [.ref (strB + 9), .ref v0]) (s' := r1) rfl trivial ?_
        exact t_Reader_readSums_101 h
def b_Reader_readSums_30  (v0 : Nat) (v1 : Int32) (w0 : Int32) (s : AS) : Option (Int32 × AS) :=
  if sT s v0 = 8 then
  if sT s (sR s v0 0) = 12 then
  (f_Text_mark s (sR s v0 0) (nI 2) (sI s (sR s v0 0) 2)).bind fun r1 =>
  if w0 = (nI 0) then
    if sT r1 v0 = 8 then
    (f_Reader_readSum r1 v0 (nI 0)).bind fun r2 =>
    if r2.1 = (nI 0) then
      some (nI 0, r2.2)
    else
      b_Reader_readSums_60 v0 v1 r2.2
    else none
  else
    b_Reader_readSums_60 v0 v1 r1
  else none
  else none
theorem t_Reader_readSums_30   {d2 : Value} {v0 : Nat} {v1 : Int32} {w0 : Int32} {s : AS} {o : Int32 × AS} (h : b_Reader_readSums_30  v0 v1 w0 s = some o) : Ev 61 mZ27 30 [.ref v0, .int v1, d2] [.int w0] s (some (.int o.1), o.2) := by
  unfold b_Reader_readSums_30 at h
  refine gd h (fun g1 h => ?_)
  refine gd h (fun g2 h => ?_)
  refine Ev_blk 7 (pc' := 43) (ls' := [.ref v0, .int v1, .int w0]) (st' := [.int (sI s (sR s v0 0) 2), .int (nI 2), .ref (sR s v0 0)]) (s' := s) rfl ⟨⟨⟨trivial, g1⟩, g1⟩, g2⟩ ?_
  refine bd h (fun r1 hr1 h => ?_)
  refine Ev_call 2 26 2 [.ref (sR s v0 0), .int (nI 2), .int (sI s (sR s v0 0) 2)] [] rfl rfl rfl rfl g2 rfl rfl (Nat.le_of_ble_eq_true rfl) (t_Text_mark hr1) ?_
  refine Ev_blk 2 (pc' := if w0 = (nI 0) then 50 else 60) (ls' := [.ref v0, .int v1, .int w0]) (st' := []) (s' := r1) rfl trivial ?_
  refine ib h (fun c3 h => ?_) (fun c3 h => ?_)
  · refine gd h (fun g4 h => ?_)
    refine Ev_blk 2 (pc' := 52) (ls' := [.ref v0, .int v1, .int w0]) (st' := [.int (nI 0), .ref v0]) (s' := r1) rfl trivial ?_
    refine bd h (fun r2 hr2 h => ?_)
    refine Ev_call 2 28 1 [.ref v0, .int (nI 0)] [] rfl rfl rfl rfl g4 rfl rfl (Nat.le_of_ble_eq_true rfl) (t_Reader_readSum hr2) ?_
    refine Ev_blk 1 (pc' := if r2.1 = (nI 0) then 58 else 60) (ls' := [.ref v0, .int v1, .int w0]) (st' := []) (s' := r2.2) rfl trivial ?_
    refine ib h (fun c5 h => ?_) (fun c5 h => ?_)
    · refine Ev_blk 1 (pc' := 59) (ls' := [.ref v0, .int v1, .int w0]) (st' := [.int (nI 0)]) (s' := r2.2) rfl trivial ?_
      cases h
      exact Ev_ret rfl (Or.inl rfl)
    · exact t_Reader_readSums_60 h
  · exact t_Reader_readSums_60 h
/-- RecordHeap$Reader.readSums(I)Z -/
def f_Reader_readSums (s : AS) (a0 : Nat) (a1 : Int32) : Option (Int32 × AS) :=
  if sT s a0 = 8 then
    b_Reader_readSums_30 a0 a1 (if (sI s a0 3) = (nI 0) then (if a1 = (nI 1) then nI 1 else nI 0) else (if a1 = (nI 4) then nI 1 else nI 0)) s
  else none
theorem t_Reader_readSums {s : AS} {a0 : Nat} {a1 : Int32} {o : Int32 × AS} (h : f_Reader_readSums s a0 a1 = some o) : Ev 61 mZ27 0 [.ref a0, .int a1, .retAddr 0] [] s (some (.int o.1), o.2) := by
  unfold f_Reader_readSums at h
  refine gd h (fun g1 h => ?_)
  refine Ev_blk 3 (pc' := if (sI s a0 3) = (nI 0) then 20 else 7) (ls' := [.ref a0, .int a1, .retAddr 0]) (st' := []) (s' := s) rfl ⟨trivial, g1⟩ ?_
  have k2_ : Ev 61 mZ27 30 [.ref a0, .int a1, .retAddr 0] [.int (if (sI s a0 3) = (nI 0) then (if a1 = (nI 1) then nI 1 else nI 0) else (if a1 = (nI 4) then nI 1 else nI 0))] s (some (.int o.1), o.2) := by
    exact t_Reader_readSums_30 h
  refine icases (fun c3 => ?_) (fun c3 => ?_)
  · refine Ev_blk 3 (pc' := if a1 = (nI 1) then 25 else 29) (ls' := [.ref a0, .int a1, .retAddr 0]) (st' := []) (s' := s) rfl trivial ?_
    refine icases (fun c4 => ?_) (fun c4 => ?_)
    · exact Ev_blk 2 (pc' := 30) (ls' := [.ref a0, .int a1, .retAddr 0]) (st' := [.int (nI 1)]) (s' := s) rfl trivial (by simpa only [if_pos c3, if_pos c4] using k2_)
    · exact Ev_blk 1 (pc' := 30) (ls' := [.ref a0, .int a1, .retAddr 0]) (st' := [.int (nI 0)]) (s' := s) rfl trivial (by simpa only [if_pos c3, if_neg c4] using k2_)
  · refine Ev_blk 3 (pc' := if a1 = (nI 4) then 12 else 16) (ls' := [.ref a0, .int a1, .retAddr 0]) (st' := []) (s' := s) rfl trivial ?_
    refine icases (fun c5 => ?_) (fun c5 => ?_)
    · exact Ev_blk 2 (pc' := 30) (ls' := [.ref a0, .int a1, .retAddr 0]) (st' := [.int (nI 1)]) (s' := s) rfl trivial (by simpa only [if_neg c3, if_pos c5] using k2_)
    · exact Ev_blk 2 (pc' := 30) (ls' := [.ref a0, .int a1, .retAddr 0]) (st' := [.int (nI 0)]) (s' := s) rfl trivial (by simpa only [if_neg c3, if_neg c5] using k2_)

def b_Reader_readTimes_44  (v0 : Nat) (v1 : Int32) (s : AS) : Option (Int32 × AS) :=
  if sT s v0 = 8 then
  if sT s (sR s v0 0) = 12 then
  (f_Text_mark s (sR s v0 0) (nI 1) v1).bind fun r1 =>
  some (nI 1, r1)
  else none
  else none
theorem t_Reader_readTimes_44    {v0 : Nat} {v1 : Int32} {s : AS} {o : Int32 × AS} (h : b_Reader_readTimes_44  v0 v1 s = some o) : Ev 1 mZ32 44 [.ref v0, .int v1] [] s (some (.int o.1), o.2) := by
  unfold b_Reader_readTimes_44 at h
  refine gd h (fun g1 h => ?_)
  refine gd h (fun g2 h => ?_)
  refine Ev_blk 4 (pc' := 50) (ls' := [.ref v0, .int v1]) (st' := [.int v1, .int (nI 1), .ref (sR s v0 0)]) (s' := s) rfl ⟨trivial, g1⟩ ?_
  refine bd h (fun r1 hr1 h => ?_)
  refine Ev_call 2 26 2 [.ref (sR s v0 0), .int (nI 1), .int v1] [] rfl rfl rfl rfl g2 rfl rfl (Nat.le_of_ble_eq_true rfl) (t_Text_mark hr1) ?_
  refine Ev_blk 1 (pc' := 54) (ls' := [.ref v0, .int v1]) (st' := [.int (nI 1)]) (s' := r1) rfl trivial ?_
  cases h
  exact Ev_ret rfl (Or.inr rfl)
/-- RecordHeap$Reader.readTimes()Z -/
def f_Reader_readTimes (s : AS) (a0 : Nat) : Option (Int32 × AS) :=
  if sT s a0 = 8 then
  if (sI s a0 3) = (nI 0) then
    b_Reader_readTimes_44 a0 (nI 1) s
  else
    (f_Reader_placeIn s a0 (strB + 10)).bind fun r1 =>
    if r1 = (nI 0) then
      (f_Reader_next s a0).bind fun r2 =>
      if sT r2 a0 = 8 then
      (f_Reader_numberIn r2 a0 (nI 1) (nI 20)).bind fun r3 =>
      if r3 = (-(nI 1)) then
        (f_Reader_stop r2 a0).bind fun r4 =>
        if r4.1 = nI 0 ∨ r4.1 = nI 1 then
        some (r4.1, r4.2)
        else none
      else
        (f_Reader_next r2 a0).bind fun r5 =>
        b_Reader_readTimes_44 a0 r3 r5
      else none
    else
      b_Reader_readTimes_44 a0 (nI 1) s
  else none
theorem t_Reader_readTimes {s : AS} {a0 : Nat} {o : Int32 × AS} (h : f_Reader_readTimes s a0 = some o) : Ev 1 mZ32 0 [.ref a0, .retAddr 0] [] s (some (.int o.1), o.2) := by
  unfold f_Reader_readTimes at h
  refine gd h (fun g1 h => ?_)
  refine Ev_blk 5 (pc' := if (sI s a0 3) = (nI 0) then 44 else 9) (ls' := [.ref a0, .int (nI 1)]) (st' := []) (s' := s) rfl ⟨trivial, g1⟩ ?_
  refine ib h (fun c2 h => ?_) (fun c2 h => ?_)
  · exact t_Reader_readTimes_44 h
  · refine Ev_blk 2 (pc' := 12) (ls' := [.ref a0, .int (nI 1)]) (st' := [.ref (strB + 10), .ref a0]) (s' := s) rfl trivial ?_
    refine bd h (fun r1 hr1 h => ?_)
    refine Ev_call 2 24 1 [.ref a0, .ref (strB + 10)] [] rfl rfl rfl rfl g1 rfl rfl (Nat.le_of_ble_eq_true rfl) (t_Reader_placeIn hr1) ?_
    refine Ev_blk 1 (pc' := if r1 = (nI 0) then 18 else 44) (ls' := [.ref a0, .int (nI 1)]) (st' := []) (s' := s) rfl trivial ?_
    refine ib h (fun c3 h => ?_) (fun c3 h => ?_)
    · refine Ev_blk 1 (pc' := 19) (ls' := [.ref a0, .int (nI 1)]) (st' := [.ref a0]) (s' := s) rfl trivial ?_
      refine bd h (fun r2 hr2 h => ?_)
      refine Ev_call 2 22 0 [.ref a0] [] rfl rfl rfl rfl g1 rfl rfl (Nat.le_of_ble_eq_true rfl) (t_Reader_next hr2) ?_
      refine gd h (fun g4 h => ?_)
      refine Ev_blk 3 (pc' := 26) (ls' := [.ref a0, .int (nI 1)]) (st' := [.int (nI 20), .int (nI 1), .ref a0]) (s' := r2) rfl trivial ?_
      refine bd h (fun r3 hr3 h => ?_)
      refine Ev_call 2 30 2 [.ref a0, .int (nI 1), .int (nI 20)] [] rfl rfl rfl rfl g4 rfl rfl (Nat.le_of_ble_eq_true rfl) (t_Reader_numberIn hr3) ?_
      refine Ev_blk 4 (pc' := if r3 = (-(nI 1)) then 35 else 40) (ls' := [.ref a0, .int r3]) (st' := []) (s' := r2) rfl trivial ?_
      refine ib h (fun c5 h => ?_) (fun c5 h => ?_)
      · refine Ev_blk 1 (pc' := 36) (ls' := [.ref a0, .int r3]) (st' := [.ref a0]) (s' := r2) rfl trivial ?_
        refine bd h (fun r4 hr4 h => ?_)
        refine Ev_call 2 25 0 [.ref a0] [] rfl rfl rfl rfl g4 rfl rfl (Nat.le_of_ble_eq_true rfl) (t_Reader_stop hr4) ?_
        refine gd h (fun g6 h => ?_)
        cases h
        exact Ev_ret rfl g6
      · refine Ev_blk 1 (pc' := 41) (ls' := [.ref a0, .int r3]) (st' := [.ref a0]) (s' := r2) rfl trivial ?_
        refine bd h (fun r5 hr5 h => ?_)
        refine Ev_call 2 22 0 [.ref a0] [] rfl rfl rfl rfl g4 rfl rfl (Nat.le_of_ble_eq_true rfl) (t_Reader_next hr5) ?_
        exact t_Reader_readTimes_44 h
    · exact t_Reader_readTimes_44 h

/-- RecordHeap$Text.aim(I)V -/
def f_Text_aim (s : AS) (a0 : Nat) (a1 : Int32) : Option AS :=
  if a1 < (nI 0) then
    some s
  else
    if sT s a0 = 12 then
    if a1 < (sI s a0 2) then
      if sT s (sR s a0 0) = 20 ∧ inA a1 (sN s (sR s a0 0)) then
      if ¬ (nI 16) = nI 0 then
      some (setI s (sR s a0 0) a1.toNatClampNeg (((sI s (sR s a0 0) a1.toNatClampNeg) - (sI s (sR s a0 0) a1.toNatClampNeg) / (nI 16) * (nI 16)) + ((nI 16) * (sI s a0 2))))
      else none
      else none
    else
      some s
    else none
theorem t_Text_aim {s : AS} {a0 : Nat} {a1 : Int32} {o : AS} (h : f_Text_aim s a0 a1 = some o) : Ev 0 mZ35 0 [.ref a0, .int a1] [] s (none, o) := by
  unfold f_Text_aim at h
  refine Ev_blk 2 (pc' := if a1 < (nI 0) then 35 else 4) (ls' := [.ref a0, .int a1]) (st' := []) (s' := s) rfl trivial ?_
  refine ib h (fun c1 h => ?_) (fun c1 h => ?_)
  · cases h
    exact Ev_ret rfl trivial
  · refine gd h (fun g2 h => ?_)
    refine Ev_blk 4 (pc' := if a1 < (sI s a0 2) then 12 else 35) (ls' := [.ref a0, .int a1]) (st' := []) (s' := s) rfl ⟨trivial, g2⟩ ?_
    refine ib h (fun c3 h => ?_) (fun c3 h => ?_)
    · refine gd h (fun g4 h => ?_)
      refine gd h (fun g5 h => ?_)
      refine Ev_blk 15 (pc' := 35) (ls' := [.ref a0, .int a1]) (st' := []) (s' := setI s (sR s a0 0) a1.toNatClampNeg (((sI s (sR s a0 0) a1.toNatClampNeg) - (sI s (sR s a0 0) a1.toNatClampNeg) / (nI 16) * (nI 16)) + ((nI 16) * (sI s a0 2)))) rfl ⟨⟨⟨⟨⟨⟨trivial, g2⟩, g2⟩, ⟨Or.inl g4.1, g4.2⟩⟩, g5⟩, g2⟩, g4⟩ ?_
      cases h
      exact Ev_ret rfl trivial
    · cases h
      exact Ev_ret rfl trivial

/-- RecordHeap$Text.addJump(I)I -/
def f_Text_addJump (s : AS) (a0 : Nat) (a1 : Int32) : Option (Int32 × AS) :=
  if sT s a0 = 12 then
  (f_Text_add s a0 a1 (nI 0)).bind fun r1 =>
  if sT r1 a0 = 12 then
  some ((sI r1 a0 2) - (nI 1), r1)
  else none
  else none
theorem t_Text_addJump {s : AS} {a0 : Nat} {a1 : Int32} {o : Int32 × AS} (h : f_Text_addJump s a0 a1 = some o) : Ev 1 mZ36 0 [.ref a0, .int a1] [] s (some (.int o.1), o.2) := by
  unfold f_Text_addJump at h
  refine gd h (fun g1 h => ?_)
  refine Ev_blk 3 (pc' := 3) (ls' := [.ref a0, .int a1]) (st' := [.int (nI 0), .int a1, .ref a0]) (s' := s) rfl trivial ?_
  refine bd h (fun r1 hr1 h => ?_)
  refine Ev_call 2 31 2 [.ref a0, .int a1, .int (nI 0)] [] rfl rfl rfl rfl g1 rfl rfl (Nat.le_of_ble_eq_true rfl) (t_Text_add hr1) ?_
  refine gd h (fun g2 h => ?_)
  refine Ev_blk 4 (pc' := 12) (ls' := [.ref a0, .int a1]) (st' := [.int ((sI r1 a0 2) - (nI 1))]) (s' := r1) rfl ⟨trivial, g2⟩ ?_
  cases h
  exact Ev_ret rfl trivial

/-! a group of methods that call one another -/
abbrev RgBT : Type := (AS → Nat → Int32 → Option (Int32 × AS)) × (AS → Nat → Int32 → Option (Int32 × AS))
abbrev rg_Reader_readTest (R : RgBT) : AS → Nat → Int32 → Option (Int32 × AS) := R.1
abbrev rg_Reader_readPlain (R : RgBT) : AS → Nat → Int32 → Option (Int32 × AS) := R.2
def HRgB (d : Nat) (R : RgBT) : Prop := (∀ {s : AS} {a0 : Nat} {a1 : Int32} {o : Int32 × AS}, rg_Reader_readTest R s a0 a1 = some o → Ev d mZ33 0 [.ref a0, .int a1, .retAddr 0, .retAddr 0, .retAddr 0, .retAddr 0, .retAddr 0] [] s (some (.int o.1), o.2)) ∧ (∀ {s : AS} {a0 : Nat} {a1 : Int32} {o : Int32 × AS}, rg_Reader_readPlain R s a0 a1 = some o → Ev d mZ34 0 [.ref a0, .int a1, .retAddr 0, .retAddr 0] [] s (some (.int o.1), o.2))
theorem HRgB.rg_Reader_readTest {d : Nat} {R : RgBT} (H : HRgB d R) : ∀ {s : AS} {a0 : Nat} {a1 : Int32} {o : Int32 × AS}, rg_Reader_readTest R s a0 a1 = some o → Ev d mZ33 0 [.ref a0, .int a1, .retAddr 0, .retAddr 0, .retAddr 0, .retAddr 0, .retAddr 0] [] s (some (.int o.1), o.2) := H.1
theorem HRgB.rg_Reader_readPlain {d : Nat} {R : RgBT} (H : HRgB d R) : ∀ {s : AS} {a0 : Nat} {a1 : Int32} {o : Int32 × AS}, rg_Reader_readPlain R s a0 a1 = some o → Ev d mZ34 0 [.ref a0, .int a1, .retAddr 0, .retAddr 0] [] s (some (.int o.1), o.2) := H.2
def b_Reader_readTest_101 (Rg : RgBT) (k14 : Nat → Int32 → Int32 → Int32 → Int32 → Int32 → AS → Option (Int32 × AS)) (v0 : Nat) (v1 : Int32) (v2 : Int32) (v5 : Int32) (w0 : Int32) (s : AS) : Option (Int32 × AS) :=
  if sT s v0 = 8 then
  (f_Reader_next s v0).bind fun r1 =>
  if sT r1 v0 = 8 then
  ((rg_Reader_readPlain Rg) r1 v0 v1).bind fun r2 =>
  k14 v0 v1 v2 w0 r2.1 (v5 + nI 1) r2.2
  else none
  else none
theorem t_Reader_readTest_101 {d : Nat} {Rg : RgBT} (HR : HRgB d Rg) (hd : 60 ≤ d) {k14 : Nat → Int32 → Int32 → Int32 → Int32 → Int32 → AS → Option (Int32 × AS)} (H14 : ∀ {d6 : Value} {v0 : Nat} {v1 : Int32} {v2 : Int32} {v3 : Int32} {v4 : Int32} {v5 : Int32} {s : AS} {o : Int32 × AS}, k14 v0 v1 v2 v3 v4 v5 s = some o → Ev (d + 1) mZ33 14 [.ref v0, .int v1, .int v2, .int v3, .int v4, .int v5, d6] [] s (some (.int o.1), o.2)) {d3 d4 d6 : Value} {v0 : Nat} {v1 : Int32} {v2 : Int32} {v5 : Int32} {w0 : Int32} {s : AS} {o : Int32 × AS} (h : b_Reader_readTest_101 Rg k14 v0 v1 v2 v5 w0 s = some o) : Ev (d + 1) mZ33 101 [.ref v0, .int v1, .int v2, d3, d4, .int v5, d6] [.int w0] s (some (.int o.1), o.2) := by
  unfold b_Reader_readTest_101 at h
  refine gd h (fun g1 h => ?_)
  refine Ev_blk 2 (pc' := 103) (ls' := [.ref v0, .int v1, .int v2, .int w0, d4, .int v5, d6]) (st' := [.ref v0]) (s' := s) rfl trivial ?_
  refine bd h (fun r1 hr1 h => ?_)
  refine Ev_call 2 22 0 [.ref v0] [] rfl rfl rfl rfl g1 rfl rfl (by omega) (t_Reader_next hr1) ?_
  refine gd h (fun g2 h => ?_)
  refine Ev_blk 2 (pc' := 108) (ls' := [.ref v0, .int v1, .int v2, .int w0, d4, .int v5, d6]) (st' := [.int v1, .ref v0]) (s' := r1) rfl trivial ?_
  refine bd h (fun r2 hr2 h => ?_)
  refine Ev_call 2 34 1 [.ref v0, .int v1] [] rfl rfl rfl rfl g2 rfl rfl (by omega) (HR.rg_Reader_readPlain hr2) ?_
  refine Ev_blk 3 (pc' := 14) (ls' := [.ref v0, .int v1, .int v2, .int w0, .int r2.1, .int (v5 + nI 1), d6]) (st' := []) (s' := r2.2) rfl trivial ?_
  exact H14 h
def b_Reader_readTest_82 (Rg : RgBT) (k14 : Nat → Int32 → Int32 → Int32 → Int32 → Int32 → AS → Option (Int32 × AS)) (v0 : Nat) (v1 : Int32) (v3 : Int32) (v5 : Int32) (v6 : Int32) (w0 : Int32) (s : AS) : Option (Int32 × AS) :=
  if v6 = (nI 0) then
    b_Reader_readTest_101 Rg k14 v0 v1 w0 v5 v3 s
  else
    if sT s v0 = 8 then
    if sT s (sR s v0 0) = 12 then
    (f_Text_addJump s (sR s v0 0) (nI 12)).bind fun r1 =>
    b_Reader_readTest_101 Rg k14 v0 v1 w0 v5 r1.1 r1.2
    else none
    else none
theorem t_Reader_readTest_82 {d : Nat} {Rg : RgBT} (HR : HRgB d Rg) (hd : 60 ≤ d) {k14 : Nat → Int32 → Int32 → Int32 → Int32 → Int32 → AS → Option (Int32 × AS)} (H14 : ∀ {d6 : Value} {v0 : Nat} {v1 : Int32} {v2 : Int32} {v3 : Int32} {v4 : Int32} {v5 : Int32} {s : AS} {o : Int32 × AS}, k14 v0 v1 v2 v3 v4 v5 s = some o → Ev (d + 1) mZ33 14 [.ref v0, .int v1, .int v2, .int v3, .int v4, .int v5, d6] [] s (some (.int o.1), o.2)) {d2 d4 : Value} {v0 : Nat} {v1 : Int32} {v3 : Int32} {v5 : Int32} {v6 : Int32} {w0 : Int32} {s : AS} {o : Int32 × AS} (h : b_Reader_readTest_82 Rg k14 v0 v1 v3 v5 v6 w0 s = some o) : Ev (d + 1) mZ33 82 [.ref v0, .int v1, d2, .int v3, d4, .int v5, .int v6] [.int w0] s (some (.int o.1), o.2) := by
  unfold b_Reader_readTest_82 at h
  refine Ev_blk 3 (pc' := if v6 = (nI 0) then 88 else 92) (ls' := [.ref v0, .int v1, .int w0, .int v3, d4, .int v5, .int v6]) (st' := []) (s' := s) rfl trivial ?_
  refine ib h (fun c1 h => ?_) (fun c1 h => ?_)
  · refine Ev_blk 2 (pc' := 101) (ls' := [.ref v0, .int v1, .int w0, .int v3, d4, .int v5, .int v6]) (st' := [.int v3]) (s' := s) rfl trivial ?_
    exact t_Reader_readTest_101 HR hd H14 h
  · refine gd h (fun g2 h => ?_)
    refine gd h (fun g3 h => ?_)
    refine Ev_blk 3 (pc' := 98) (ls' := [.ref v0, .int v1, .int w0, .int v3, d4, .int v5, .int v6]) (st' := [.int (nI 12), .ref (sR s v0 0)]) (s' := s) rfl ⟨trivial, g2⟩ ?_
    refine bd h (fun r1 hr1 h => ?_)
    refine Ev_call 2 36 1 [.ref (sR s v0 0), .int (nI 12)] [] rfl rfl rfl rfl g3 rfl rfl (by omega) (t_Text_addJump hr1) ?_
    exact t_Reader_readTest_101 HR hd H14 h
def b_Reader_readTest_56 (Rg : RgBT) (k14 : Nat → Int32 → Int32 → Int32 → Int32 → Int32 → AS → Option (Int32 × AS)) (v0 : Nat) (v1 : Int32) (v3 : Int32) (v5 : Int32) (v6 : Int32) (s : AS) : Option (Int32 × AS) :=
  if v6 = (-(nI 1)) then
    some (nI 1, s)
  else
    if v6 = (nI 0) then
      if sT s v0 = 8 then
      if sT s (sR s v0 0) = 12 then
      (f_Text_addJump s (sR s v0 0) (nI 11)).bind fun r1 =>
      b_Reader_readTest_82 Rg k14 v0 v1 v3 v5 v6 r1.1 r1.2
      else none
      else none
    else
      b_Reader_readTest_82 Rg k14 v0 v1 v3 v5 v6 (-(nI 1)) s
theorem t_Reader_readTest_56 {d : Nat} {Rg : RgBT} (HR : HRgB d Rg) (hd : 60 ≤ d) {k14 : Nat → Int32 → Int32 → Int32 → Int32 → Int32 → AS → Option (Int32 × AS)} (H14 : ∀ {d6 : Value} {v0 : Nat} {v1 : Int32} {v2 : Int32} {v3 : Int32} {v4 : Int32} {v5 : Int32} {s : AS} {o : Int32 × AS}, k14 v0 v1 v2 v3 v4 v5 s = some o → Ev (d + 1) mZ33 14 [.ref v0, .int v1, .int v2, .int v3, .int v4, .int v5, d6] [] s (some (.int o.1), o.2)) {d2 d4 : Value} {v0 : Nat} {v1 : Int32} {v3 : Int32} {v5 : Int32} {v6 : Int32} {s : AS} {o : Int32 × AS} (h : b_Reader_readTest_56 Rg k14 v0 v1 v3 v5 v6 s = some o) : Ev (d + 1) mZ33 56 [.ref v0, .int v1, d2, .int v3, d4, .int v5, .int v6] [] s (some (.int o.1), o.2) := by
  unfold b_Reader_readTest_56 at h
  refine Ev_blk 3 (pc' := if v6 = (-(nI 1)) then 62 else 64) (ls' := [.ref v0, .int v1, d2, .int v3, d4, .int v5, .int v6]) (st' := []) (s' := s) rfl trivial ?_
  refine ib h (fun c1 h => ?_) (fun c1 h => ?_)
  · refine Ev_blk 1 (pc' := 63) (ls' := [.ref v0, .int v1, d2, .int v3, d4, .int v5, .int v6]) (st' := [.int (nI 1)]) (s' := s) rfl trivial ?_
    cases h
    exact Ev_ret rfl (Or.inr rfl)
  · refine Ev_blk 2 (pc' := if v6 = (nI 0) then 69 else 81) (ls' := [.ref v0, .int v1, d2, .int v3, d4, .int v5, .int v6]) (st' := []) (s' := s) rfl trivial ?_
    refine ib h (fun c2 h => ?_) (fun c2 h => ?_)
    · refine gd h (fun g3 h => ?_)
      refine gd h (fun g4 h => ?_)
      refine Ev_blk 3 (pc' := 75) (ls' := [.ref v0, .int v1, d2, .int v3, d4, .int v5, .int v6]) (st' := [.int (nI 11), .ref (sR s v0 0)]) (s' := s) rfl ⟨trivial, g3⟩ ?_
      refine bd h (fun r1 hr1 h => ?_)
      refine Ev_call 2 36 1 [.ref (sR s v0 0), .int (nI 11)] [] rfl rfl rfl rfl g4 rfl rfl (by omega) (t_Text_addJump hr1) ?_
      refine Ev_blk 1 (pc' := 82) (ls' := [.ref v0, .int v1, d2, .int v3, d4, .int v5, .int v6]) (st' := [.int r1.1]) (s' := r1.2) rfl trivial ?_
      exact t_Reader_readTest_82 HR hd H14 h
    · refine Ev_blk 1 (pc' := 82) (ls' := [.ref v0, .int v1, d2, .int v3, d4, .int v5, .int v6]) (st' := [.int (-(nI 1))]) (s' := s) rfl trivial ?_
      exact t_Reader_readTest_82 HR hd H14 h
def b_Reader_readTest_14 (Rg : RgBT) (k14 : Nat → Int32 → Int32 → Int32 → Int32 → Int32 → AS → Option (Int32 × AS)) (v0 : Nat) (v1 : Int32) (v2 : Int32) (v3 : Int32) (v4 : Int32) (v5 : Int32) (s : AS) : Option (Int32 × AS) :=
  if v5 < (nI 400) then
    if v4 = (nI 0) then
      some (nI 0, s)
    else
      if sT s v0 = 8 then
      (f_Reader_placeIn s v0 (strB + 16)).bind fun r1 =>
      if sT s (sR s v0 0) = 12 then
      (f_Text_aim s (sR s v0 0) v2).bind fun r2 =>
      if r1 = (nI 0) then
        b_Reader_readTest_56 Rg k14 v0 v1 v3 v5 r1 r2
      else
        if sT r2 v0 = 8 then
        if sT r2 (sR r2 v0 0) = 12 then
        (f_Text_aim r2 (sR r2 v0 0) v3).bind fun r3 =>
        b_Reader_readTest_56 Rg k14 v0 v1 v3 v5 r1 r3
        else none
        else none
      else none
      else none
  else
    some (nI 0, s)
theorem t_Reader_readTest_14 {d : Nat} {Rg : RgBT} (HR : HRgB d Rg) (hd : 60 ≤ d) {k14 : Nat → Int32 → Int32 → Int32 → Int32 → Int32 → AS → Option (Int32 × AS)} (H14 : ∀ {d6 : Value} {v0 : Nat} {v1 : Int32} {v2 : Int32} {v3 : Int32} {v4 : Int32} {v5 : Int32} {s : AS} {o : Int32 × AS}, k14 v0 v1 v2 v3 v4 v5 s = some o → Ev (d + 1) mZ33 14 [.ref v0, .int v1, .int v2, .int v3, .int v4, .int v5, d6] [] s (some (.int o.1), o.2)) {d6 : Value} {v0 : Nat} {v1 : Int32} {v2 : Int32} {v3 : Int32} {v4 : Int32} {v5 : Int32} {s : AS} {o : Int32 × AS} (h : b_Reader_readTest_14 Rg k14 v0 v1 v2 v3 v4 v5 s = some o) : Ev (d + 1) mZ33 14 [.ref v0, .int v1, .int v2, .int v3, .int v4, .int v5, d6] [] s (some (.int o.1), o.2) := by
  unfold b_Reader_readTest_14 at h
  refine Ev_blk 3 (pc' := if v5 < (nI 400) then 22 else 119) (ls' := [.ref v0, .int v1, .int v2, .int v3, .int v4, .int v5, d6]) (st' := []) (s' := s) rfl trivial ?_
  refine ib h (fun c1 h => ?_) (fun c1 h => ?_)
  · refine Ev_blk 2 (pc' := if v4 = (nI 0) then 119 else 27) (ls' := [.ref v0, .int v1, .int v2, .int v3, .int v4, .int v5, d6]) (st' := []) (s' := s) rfl trivial ?_
    refine ib h (fun c2 h => ?_) (fun c2 h => ?_)
    · refine Ev_blk 1 (pc' := 120) (ls' := [.ref v0, .int v1, .int v2, .int v3, .int v4, .int v5, d6]) (st' := [.int (nI 0)]) (s' := s) rfl trivial ?_
      cases h
      exact Ev_ret rfl (Or.inl rfl)
    · refine gd h (fun g3 h => ?_)
      refine Ev_blk 2 (pc' := 30) (ls' := [.ref v0, .int v1, .int v2, .int v3, .int v4, .int v5, d6]) (st' := [.ref (strB + 16), .ref v0]) (s' := s) rfl trivial ?_
      refine bd h (fun r1 hr1 h => ?_)
      refine Ev_call 2 24 1 [.ref v0, .ref (strB + 16)] [] rfl rfl rfl rfl g3 rfl rfl (by omega) (t_Reader_placeIn hr1) ?_
      refine gd h (fun g4 h => ?_)
      refine Ev_blk 4 (pc' := 40) (ls' := [.ref v0, .int v1, .int v2, .int v3, .int v4, .int v5, .int r1]) (st' := [.int v2, .ref (sR s v0 0)]) (s' := s) rfl ⟨trivial, g3⟩ ?_
      refine bd h (fun r2 hr2 h => ?_)
      refine Ev_call 2 35 1 [.ref (sR s v0 0), .int v2] [] rfl rfl rfl rfl g4 rfl rfl (by omega) (t_Text_aim hr2) ?_
      refine Ev_blk 2 (pc' := if r1 = (nI 0) then 56 else 48) (ls' := [.ref v0, .int v1, .int v2, .int v3, .int v4, .int v5, .int r1]) (st' := []) (s' := r2) rfl trivial ?_
      refine ib h (fun c5 h => ?_) (fun c5 h => ?_)
      · exact t_Reader_readTest_56 HR hd H14 h
      · refine gd h (fun g6 h => ?_)
        refine gd h (fun g7 h => ?_)
        refine Ev_blk 3 (pc' := 53) (ls' := [.ref v0, .int v1, .int v2, .int v3, .int v4, .int v5, .int r1]) (st' := [.int v3, .ref (sR r2 v0 0)]) (s' := r2) rfl ⟨trivial, g6⟩ ?_
        refine bd h (fun r3 hr3 h => ?_)
        refine Ev_call 2 35 1 [.ref (sR r2 v0 0), .int v3] [] rfl rfl rfl rfl g7 rfl rfl (by omega) (t_Text_aim hr3) ?_
        exact t_Reader_readTest_56 HR hd H14 h
  · refine Ev_blk 1 (pc' := 120) (ls' := [.ref v0, .int v1, .int v2, .int v3, .int v4, .int v5, d6]) (st' := [.int (nI 0)]) (s' := s) rfl trivial ?_
    cases h
    exact Ev_ret rfl (Or.inl rfl)
def l_Reader_readTest_14 (Rg : RgBT)  : Nat → Nat → Int32 → Int32 → Int32 → Int32 → Int32 → AS → Option (Int32 × AS)
  | 0 => fun _ _ _ _ _ _ _ => none
  | n + 1 => b_Reader_readTest_14 Rg  (l_Reader_readTest_14 Rg  n)
theorem u_Reader_readTest_14 {d : Nat} {Rg : RgBT} (HR : HRgB d Rg) (hd : 60 ≤ d)   {n : Nat} : ∀ {d6 : Value} {v0 : Nat} {v1 : Int32} {v2 : Int32} {v3 : Int32} {v4 : Int32} {v5 : Int32} {s : AS} {o : Int32 × AS}, l_Reader_readTest_14 Rg  n v0 v1 v2 v3 v4 v5 s = some o → Ev (d + 1) mZ33 14 [.ref v0, .int v1, .int v2, .int v3, .int v4, .int v5, d6] [] s (some (.int o.1), o.2) := by
  induction n with
  | zero => intros; rename_i h; cases h
  | succ n ih => intros; rename_i h; exact t_Reader_readTest_14 HR hd  (fun h => ih h) h
/-- RecordHeap$Reader.readTest(I)Z -/
def g_Reader_readTest (Rg : RgBT) (s : AS) (a0 : Nat) (a1 : Int32) : Option (Int32 × AS) :=
  if sT s a0 = 8 then
  ((rg_Reader_readPlain Rg) s a0 a1).bind fun r1 =>
  l_Reader_readTest_14 Rg fuel a0 a1 (-(nI 1)) (-(nI 1)) r1.1 (nI 0) r1.2
  else none
theorem tg_Reader_readTest {d : Nat} {Rg : RgBT} (HR : HRgB d Rg) (hd : 60 ≤ d) {s : AS} {a0 : Nat} {a1 : Int32} {o : Int32 × AS} (h : g_Reader_readTest Rg s a0 a1 = some o) : Ev (d + 1) mZ33 0 [.ref a0, .int a1, .retAddr 0, .retAddr 0, .retAddr 0, .retAddr 0, .retAddr 0] [] s (some (.int o.1), o.2) := by
  unfold g_Reader_readTest at h
  refine gd h (fun g1 h => ?_)
  refine Ev_blk 6 (pc' := 6) (ls' := [.ref a0, .int a1, .int (-(nI 1)), .int (-(nI 1)), .retAddr 0, .retAddr 0, .retAddr 0]) (st' := [.int a1, .ref a0]) (s' := s) rfl trivial ?_
  refine bd h (fun r1 hr1 h => ?_)
  refine Ev_call 2 34 1 [.ref a0, .int a1] [] rfl rfl rfl rfl g1 rfl rfl (by omega) (HR.rg_Reader_readPlain hr1) ?_
  refine Ev_blk 3 (pc' := 14) (ls' := [.ref a0, .int a1, .int (-(nI 1)), .int (-(nI 1)), .int r1.1, .int (nI 0), .retAddr 0]) (st' := []) (s' := r1.2) rfl trivial ?_
  exact u_Reader_readTest_14 HR hd h

def b_Reader_readPlain_29 (Rg : RgBT) (k4 : Nat → Int32 → Int32 → Int32 → AS → Option (Int32 × AS)) (v0 : Nat) (v1 : Int32) (v3 : Int32) (w0 : Int32) (s : AS) : Option (Int32 × AS) :=
  if sT s v0 = 8 then
  (f_Reader_next s v0).bind fun r1 =>
  k4 v0 v1 w0 (v3 + nI 1) r1
  else none
theorem t_Reader_readPlain_29 {d : Nat} {Rg : RgBT} (HR : HRgB d Rg) (hd : 60 ≤ d) {k4 : Nat → Int32 → Int32 → Int32 → AS → Option (Int32 × AS)} (H4 : ∀ {v0 : Nat} {v1 : Int32} {v2 : Int32} {v3 : Int32} {s : AS} {o : Int32 × AS}, k4 v0 v1 v2 v3 s = some o → Ev (d + 1) mZ34 4 [.ref v0, .int v1, .int v2, .int v3] [] s (some (.int o.1), o.2)) {d2 : Value} {v0 : Nat} {v1 : Int32} {v3 : Int32} {w0 : Int32} {s : AS} {o : Int32 × AS} (h : b_Reader_readPlain_29 Rg k4 v0 v1 v3 w0 s = some o) : Ev (d + 1) mZ34 29 [.ref v0, .int v1, d2, .int v3] [.int w0] s (some (.int o.1), o.2) := by
  unfold b_Reader_readPlain_29 at h
  refine gd h (fun g1 h => ?_)
  refine Ev_blk 2 (pc' := 31) (ls' := [.ref v0, .int v1, .int w0, .int v3]) (st' := [.ref v0]) (s' := s) rfl trivial ?_
  refine bd h (fun r1 hr1 h => ?_)
  refine Ev_call 2 22 0 [.ref v0] [] rfl rfl rfl rfl g1 rfl rfl (by omega) (t_Reader_next hr1) ?_
  refine Ev_blk 2 (pc' := 4) (ls' := [.ref v0, .int v1, .int w0, .int (v3 + nI 1)]) (st' := []) (s' := r1) rfl trivial ?_
  exact H4 h
def b_Reader_readPlain_150 (Rg : RgBT)  (v0 : Nat) (v2 : Int32) (s : AS) : Option (Int32 × AS) :=
  if v2 = (nI 0) then
    some (nI 1, s)
  else
    if sT s v0 = 8 then
    if sT s (sR s v0 0) = 12 then
    (f_Text_add s (sR s v0 0) (nI 10) (nI 0)).bind fun r1 =>
    some (nI 1, r1)
    else none
    else none
theorem t_Reader_readPlain_150 {d : Nat} {Rg : RgBT} (HR : HRgB d Rg) (hd : 60 ≤ d)   {d1 d3 : Value} {v0 : Nat} {v2 : Int32} {s : AS} {o : Int32 × AS} (h : b_Reader_readPlain_150 Rg  v0 v2 s = some o) : Ev (d + 1) mZ34 150 [.ref v0, d1, .int v2, d3] [] s (some (.int o.1), o.2) := by
  unfold b_Reader_readPlain_150 at h
  refine Ev_blk 2 (pc' := if v2 = (nI 0) then 164 else 154) (ls' := [.ref v0, d1, .int v2, d3]) (st' := []) (s' := s) rfl trivial ?_
  refine ib h (fun c1 h => ?_) (fun c1 h => ?_)
  · refine Ev_blk 1 (pc' := 165) (ls' := [.ref v0, d1, .int v2, d3]) (st' := [.int (nI 1)]) (s' := s) rfl trivial ?_
    cases h
    exact Ev_ret rfl (Or.inr rfl)
  · refine gd h (fun g2 h => ?_)
    refine gd h (fun g3 h => ?_)
    refine Ev_blk 4 (pc' := 161) (ls' := [.ref v0, d1, .int v2, d3]) (st' := [.int (nI 0), .int (nI 10), .ref (sR s v0 0)]) (s' := s) rfl ⟨trivial, g2⟩ ?_
    refine bd h (fun r1 hr1 h => ?_)
    refine Ev_call 2 31 2 [.ref (sR s v0 0), .int (nI 10), .int (nI 0)] [] rfl rfl rfl rfl g3 rfl rfl (by omega) (t_Text_add hr1) ?_
    refine Ev_blk 1 (pc' := 165) (ls' := [.ref v0, d1, .int v2, d3]) (st' := [.int (nI 1)]) (s' := r1) rfl trivial ?_
    cases h
    exact Ev_ret rfl (Or.inr rfl)
def b_Reader_readPlain_40 (Rg : RgBT)  (v0 : Nat) (v1 : Int32) (v2 : Int32) (s : AS) : Option (Int32 × AS) :=
  if sT s v0 = 8 then
  (f_Reader_placeIn s v0 (strB + 13)).bind fun r1 =>
  if r1 = (nI 0) then
    if v1 < (nI 8) then
      (f_Reader_next s v0).bind fun r2 =>
      if sT r2 v0 = 8 then
      ((rg_Reader_readTest Rg) r2 v0 (v1 + (nI 1))).bind fun r3 =>
      if r3.1 = (nI 0) then
        some (nI 0, r3.2)
      else
        if sT r3.2 v0 = 8 then
        (f_Reader_placeIn r3.2 v0 (strB + 14)).bind fun r4 =>
        if r4 = (nI 0) then
          (f_Reader_next r3.2 v0).bind fun r5 =>
          b_Reader_readPlain_150 Rg v0 v2 r5
        else
          (f_Reader_stop r3.2 v0).bind fun r6 =>
          if r6.1 = nI 0 ∨ r6.1 = nI 1 then
          some (r6.1, r6.2)
          else none
        else none
      else none
    else
      (f_Reader_stop s v0).bind fun r7 =>
      if r7.1 = nI 0 ∨ r7.1 = nI 1 then
      some (r7.1, r7.2)
      else none
  else
    (f_Reader_readSum s v0 v1).bind fun r8 =>
    if r8.1 = (nI 0) then
      some (nI 0, r8.2)
    else
      if sT r8.2 v0 = 8 then
      (f_Reader_placeIn r8.2 v0 (strB + 15)).bind fun r9 =>
      if r9 = (-(nI 1)) then
        (f_Reader_stop r8.2 v0).bind fun r10 =>
        if r10.1 = nI 0 ∨ r10.1 = nI 1 then
        some (r10.1, r10.2)
        else none
      else
        (f_Reader_next r8.2 v0).bind fun r11 =>
        if sT r11 v0 = 8 then
        (f_Reader_readSum r11 v0 v1).bind fun r12 =>
        if r12.1 = (nI 0) then
          some (nI 0, r12.2)
        else
          if sT r12.2 v0 = 8 then
          if sT r12.2 (sR r12.2 v0 0) = 12 then
          (f_Text_add r12.2 (sR r12.2 v0 0) ((nI 7) + r9) (nI 0)).bind fun r13 =>
          b_Reader_readPlain_150 Rg v0 v2 r13
          else none
          else none
        else none
      else none
  else none
theorem t_Reader_readPlain_40 {d : Nat} {Rg : RgBT} (HR : HRgB d Rg) (hd : 60 ≤ d)   {d3 : Value} {v0 : Nat} {v1 : Int32} {v2 : Int32} {s : AS} {o : Int32 × AS} (h : b_Reader_readPlain_40 Rg  v0 v1 v2 s = some o) : Ev (d + 1) mZ34 40 [.ref v0, .int v1, .int v2, d3] [] s (some (.int o.1), o.2) := by
  unfold b_Reader_readPlain_40 at h
  refine gd h (fun g1 h => ?_)
  refine Ev_blk 2 (pc' := 43) (ls' := [.ref v0, .int v1, .int v2, d3]) (st' := [.ref (strB + 13), .ref v0]) (s' := s) rfl trivial ?_
  refine bd h (fun r1 hr1 h => ?_)
  refine Ev_call 2 24 1 [.ref v0, .ref (strB + 13)] [] rfl rfl rfl rfl g1 rfl rfl (by omega) (t_Reader_placeIn hr1) ?_
  refine Ev_blk 1 (pc' := if r1 = (nI 0) then 49 else 97) (ls' := [.ref v0, .int v1, .int v2, d3]) (st' := []) (s' := s) rfl trivial ?_
  refine ib h (fun c2 h => ?_) (fun c2 h => ?_)
  · refine Ev_blk 3 (pc' := if v1 < (nI 8) then 60 else 55) (ls' := [.ref v0, .int v1, .int v2, d3]) (st' := []) (s' := s) rfl trivial ?_
    refine ib h (fun c3 h => ?_) (fun c3 h => ?_)
    · refine Ev_blk 1 (pc' := 61) (ls' := [.ref v0, .int v1, .int v2, d3]) (st' := [.ref v0]) (s' := s) rfl trivial ?_
      refine bd h (fun r2 hr2 h => ?_)
      refine Ev_call 2 22 0 [.ref v0] [] rfl rfl rfl rfl g1 rfl rfl (by omega) (t_Reader_next hr2) ?_
      refine gd h (fun g4 h => ?_)
      refine Ev_blk 4 (pc' := 68) (ls' := [.ref v0, .int v1, .int v2, d3]) (st' := [.int (v1 + (nI 1)), .ref v0]) (s' := r2) rfl trivial ?_
      refine bd h (fun r3 hr3 h => ?_)
      refine Ev_call 2 33 1 [.ref v0, .int (v1 + (nI 1))] [] rfl rfl rfl rfl g4 rfl rfl (by omega) (HR.rg_Reader_readTest hr3) ?_
      refine Ev_blk 1 (pc' := if r3.1 = (nI 0) then 74 else 76) (ls' := [.ref v0, .int v1, .int v2, d3]) (st' := []) (s' := r3.2) rfl trivial ?_
      refine ib h (fun c5 h => ?_) (fun c5 h => ?_)
      · refine Ev_blk 1 (pc' := 75) (ls' := [.ref v0, .int v1, .int v2, d3]) (st' := [.int (nI 0)]) (s' := r3.2) rfl trivial ?_
        cases h
        exact Ev_ret rfl (Or.inl rfl)
      · refine gd h (fun g6 h => ?_)
        refine Ev_blk 2 (pc' := 79) (ls' := [.ref v0, .int v1, .int v2, d3]) (st' := [.ref (strB + 14), .ref v0]) (s' := r3.2) rfl trivial ?_
        refine bd h (fun r4 hr4 h => ?_)
        refine Ev_call 2 24 1 [.ref v0, .ref (strB + 14)] [] rfl rfl rfl rfl g6 rfl rfl (by omega) (t_Reader_placeIn hr4) ?_
        refine Ev_blk 1 (pc' := if r4 = (nI 0) then 90 else 85) (ls' := [.ref v0, .int v1, .int v2, d3]) (st' := []) (s' := r3.2) rfl trivial ?_
        refine ib h (fun c7 h => ?_) (fun c7 h => ?_)
        · refine Ev_blk 1 (pc' := 91) (ls' := [.ref v0, .int v1, .int v2, d3]) (st' := [.ref v0]) (s' := r3.2) rfl trivial ?_
          refine bd h (fun r5 hr5 h => ?_)
          refine Ev_call 2 22 0 [.ref v0] [] rfl rfl rfl rfl g6 rfl rfl (by omega) (t_Reader_next hr5) ?_
          refine Ev_blk 1 (pc' := 150) (ls' := [.ref v0, .int v1, .int v2, d3]) (st' := []) (s' := r5) rfl trivial ?_
          exact t_Reader_readPlain_150 HR hd h
        · refine Ev_blk 1 (pc' := 86) (ls' := [.ref v0, .int v1, .int v2, d3]) (st' := [.ref v0]) (s' := r3.2) rfl trivial ?_
          refine bd h (fun r6 hr6 h => ?_)
          refine Ev_call 2 25 0 [.ref v0] [] rfl rfl rfl rfl g6 rfl rfl (by omega) (t_Reader_stop hr6) ?_
          refine gd h (fun g8 h => ?_)
          cases h
          exact Ev_ret rfl g8
    · refine Ev_blk 1 (pc' := 56) (ls' := [.ref v0, .int v1, .int v2, d3]) (st' := [.ref v0]) (s' := s) rfl trivial ?_
      refine bd h (fun r7 hr7 h => ?_)
      refine Ev_call 2 25 0 [.ref v0] [] rfl rfl rfl rfl g1 rfl rfl (by omega) (t_Reader_stop hr7) ?_
      refine gd h (fun g9 h => ?_)
      cases h
      exact Ev_ret rfl g9
  · refine Ev_blk 2 (pc' := 99) (ls' := [.ref v0, .int v1, .int v2, d3]) (st' := [.int v1, .ref v0]) (s' := s) rfl trivial ?_
    refine bd h (fun r8 hr8 h => ?_)
    refine Ev_call 2 28 1 [.ref v0, .int v1] [] rfl rfl rfl rfl g1 rfl rfl (by omega) (t_Reader_readSum hr8) ?_
    refine Ev_blk 1 (pc' := if r8.1 = (nI 0) then 105 else 107) (ls' := [.ref v0, .int v1, .int v2, d3]) (st' := []) (s' := r8.2) rfl trivial ?_
    refine ib h (fun c10 h => ?_) (fun c10 h => ?_)
    · refine Ev_blk 1 (pc' := 106) (ls' := [.ref v0, .int v1, .int v2, d3]) (st' := [.int (nI 0)]) (s' := r8.2) rfl trivial ?_
      cases h
      exact Ev_ret rfl (Or.inl rfl)
    · refine gd h (fun g11 h => ?_)
      refine Ev_blk 2 (pc' := 110) (ls' := [.ref v0, .int v1, .int v2, d3]) (st' := [.ref (strB + 15), .ref v0]) (s' := r8.2) rfl trivial ?_
      refine bd h (fun r9 hr9 h => ?_)
      refine Ev_call 2 24 1 [.ref v0, .ref (strB + 15)] [] rfl rfl rfl rfl g11 rfl rfl (by omega) (t_Reader_placeIn hr9) ?_
      refine Ev_blk 4 (pc' := if r9 = (-(nI 1)) then 119 else 124) (ls' := [.ref v0, .int v1, .int v2, .int r9]) (st' := []) (s' := r8.2) rfl trivial ?_
      refine ib h (fun c12 h => ?_) (fun c12 h => ?_)
      · refine Ev_blk 1 (pc' := 120) (ls' := [.ref v0, .int v1, .int v2, .int r9]) (st' := [.ref v0]) (s' := r8.2) rfl trivial ?_
        refine bd h (fun r10 hr10 h => ?_)
        refine Ev_call 2 25 0 [.ref v0] [] rfl rfl rfl rfl g11 rfl rfl (by omega) (t_Reader_stop hr10) ?_
        refine gd h (fun g13 h => ?_)
        cases h
        exact Ev_ret rfl g13
      · refine Ev_blk 1 (pc' := 125) (ls' := [.ref v0, .int v1, .int v2, .int r9]) (st' := [.ref v0]) (s' := r8.2) rfl trivial ?_
        refine bd h (fun r11 hr11 h => ?_)
        refine Ev_call 2 22 0 [.ref v0] [] rfl rfl rfl rfl g11 rfl rfl (by omega) (t_Reader_next hr11) ?_
        refine gd h (fun g14 h => ?_)
        refine Ev_blk 2 (pc' := 130) (ls' := [.ref v0, .int v1, .int v2, .int r9]) (st' := [.int v1, .ref v0]) (s' := r11) rfl trivial ?_
        refine bd h (fun r12 hr12 h => ?_)
        refine Ev_call 2 28 1 [.ref v0, .int v1] [] rfl rfl rfl rfl g14 rfl rfl (by omega) (t_Reader_readSum hr12) ?_
        refine Ev_blk 1 (pc' := if r12.1 = (nI 0) then 136 else 138) (ls' := [.ref v0, .int v1, .int v2, .int r9]) (st' := []) (s' := r12.2) rfl trivial ?_
        refine ib h (fun c15 h => ?_) (fun c15 h => ?_)
        · refine Ev_blk 1 (pc' := 137) (ls' := [.ref v0, .int v1, .int v2, .int r9]) (st' := [.int (nI 0)]) (s' := r12.2) rfl trivial ?_
          cases h
          exact Ev_ret rfl (Or.inl rfl)
        · refine gd h (fun g16 h => ?_)
          refine gd h (fun g17 h => ?_)
          refine Ev_blk 6 (pc' := 147) (ls' := [.ref v0, .int v1, .int v2, .int r9]) (st' := [.int (nI 0), .int ((nI 7) + r9), .ref (sR r12.2 v0 0)]) (s' := r12.2) rfl ⟨trivial, g16⟩ ?_
          refine bd h (fun r13 hr13 h => ?_)
          refine Ev_call 2 31 2 [.ref (sR r12.2 v0 0), .int ((nI 7) + r9), .int (nI 0)] [] rfl rfl rfl rfl g17 rfl rfl (by omega) (t_Text_add hr13) ?_
          exact t_Reader_readPlain_150 HR hd h
def b_Reader_readPlain_4 (Rg : RgBT) (k4 : Nat → Int32 → Int32 → Int32 → AS → Option (Int32 × AS)) (v0 : Nat) (v1 : Int32) (v2 : Int32) (v3 : Int32) (s : AS) : Option (Int32 × AS) :=
  if v3 < (nI 400) then
    if sT s v0 = 8 then
    (f_Reader_placeIn s v0 (strB + 12)).bind fun r1 =>
    if r1 = (nI 0) then
        b_Reader_readPlain_29 Rg k4 v0 v1 v3 (if v2 = (nI 0) then nI 1 else nI 0) s
    else
      b_Reader_readPlain_40 Rg v0 v1 v2 s
    else none
  else
    b_Reader_readPlain_40 Rg v0 v1 v2 s
theorem t_Reader_readPlain_4 {d : Nat} {Rg : RgBT} (HR : HRgB d Rg) (hd : 60 ≤ d) {k4 : Nat → Int32 → Int32 → Int32 → AS → Option (Int32 × AS)} (H4 : ∀ {v0 : Nat} {v1 : Int32} {v2 : Int32} {v3 : Int32} {s : AS} {o : Int32 × AS}, k4 v0 v1 v2 v3 s = some o → Ev (d + 1) mZ34 4 [.ref v0, .int v1, .int v2, .int v3] [] s (some (.int o.1), o.2))  {v0 : Nat} {v1 : Int32} {v2 : Int32} {v3 : Int32} {s : AS} {o : Int32 × AS} (h : b_Reader_readPlain_4 Rg k4 v0 v1 v2 v3 s = some o) : Ev (d + 1) mZ34 4 [.ref v0, .int v1, .int v2, .int v3] [] s (some (.int o.1), o.2) := by
  unfold b_Reader_readPlain_4 at h
  refine Ev_blk 3 (pc' := if v3 < (nI 400) then 11 else 40) (ls' := [.ref v0, .int v1, .int v2, .int v3]) (st' := []) (s' := s) rfl trivial ?_
  refine ib h (fun c1 h => ?_) (fun c1 h => ?_)
  · refine gd h (fun g2 h => ?_)
    refine Ev_blk 2 (pc' := 14) (ls' := [.ref v0, .int v1, .int v2, .int v3]) (st' := [.ref (strB + 12), .ref v0]) (s' := s) rfl trivial ?_
    refine bd h (fun r1 hr1 h => ?_)
    refine Ev_call 2 24 1 [.ref v0, .ref (strB + 12)] [] rfl rfl rfl rfl g2 rfl rfl (by omega) (t_Reader_placeIn hr1) ?_
    refine Ev_blk 1 (pc' := if r1 = (nI 0) then 20 else 40) (ls' := [.ref v0, .int v1, .int v2, .int v3]) (st' := []) (s' := s) rfl trivial ?_
    refine ib h (fun c3 h => ?_) (fun c3 h => ?_)
    · refine Ev_blk 2 (pc' := if v2 = (nI 0) then 24 else 28) (ls' := [.ref v0, .int v1, .int v2, .int v3]) (st' := []) (s' := s) rfl trivial ?_
      have k4_ : Ev (d + 1) mZ34 29 [.ref v0, .int v1, .int v2, .int v3] [.int (if v2 = (nI 0) then nI 1 else nI 0)] s (some (.int o.1), o.2) := by
        exact t_Reader_readPlain_29 HR hd H4 h
      refine icases (fun c5 => ?_) (fun c5 => ?_)
      · exact Ev_blk 2 (pc' := 29) (ls' := [.ref v0, .int v1, .int v2, .int v3]) (st' := [.int (nI 1)]) (s' := s) rfl trivial (by simpa only [if_pos c5] using k4_)
      · exact Ev_blk 1 (pc' := 29) (ls' := [.ref v0, .int v1, .int v2, .int v3]) (st' := [.int (nI 0)]) (s' := s) rfl trivial (by simpa only [if_neg c5] using k4_)
    · exact t_Reader_readPlain_40 HR hd h
  · exact t_Reader_readPlain_40 HR hd h
def l_Reader_readPlain_4 (Rg : RgBT)  : Nat → Nat → Int32 → Int32 → Int32 → AS → Option (Int32 × AS)
  | 0 => fun _ _ _ _ _ => none
  | n + 1 => b_Reader_readPlain_4 Rg  (l_Reader_readPlain_4 Rg  n)
theorem u_Reader_readPlain_4 {d : Nat} {Rg : RgBT} (HR : HRgB d Rg) (hd : 60 ≤ d)   {n : Nat} : ∀  {v0 : Nat} {v1 : Int32} {v2 : Int32} {v3 : Int32} {s : AS} {o : Int32 × AS}, l_Reader_readPlain_4 Rg  n v0 v1 v2 v3 s = some o → Ev (d + 1) mZ34 4 [.ref v0, .int v1, .int v2, .int v3] [] s (some (.int o.1), o.2) := by
  induction n with
  | zero => intros; rename_i h; cases h
  | succ n ih => intros; rename_i h; exact t_Reader_readPlain_4 HR hd  (fun h => ih h) h
/-- RecordHeap$Reader.readPlain(I)Z -/
def g_Reader_readPlain (Rg : RgBT) (s : AS) (a0 : Nat) (a1 : Int32) : Option (Int32 × AS) :=
  l_Reader_readPlain_4 Rg fuel a0 a1 (nI 0) (nI 0) s
theorem tg_Reader_readPlain {d : Nat} {Rg : RgBT} (HR : HRgB d Rg) (hd : 60 ≤ d) {s : AS} {a0 : Nat} {a1 : Int32} {o : Int32 × AS} (h : g_Reader_readPlain Rg s a0 a1 = some o) : Ev (d + 1) mZ34 0 [.ref a0, .int a1, .retAddr 0, .retAddr 0] [] s (some (.int o.1), o.2) := by
  unfold g_Reader_readPlain at h
  refine Ev_blk 4 (pc' := 4) (ls' := [.ref a0, .int a1, .int (nI 0), .int (nI 0)]) (st' := []) (s' := s) rfl trivial ?_
  exact u_Reader_readPlain_4 HR hd h

def famB : Nat → RgBT
  | 0 => (fun _ _ _ => none, fun _ _ _ => none)
  | n + 1 => (g_Reader_readTest (famB n), g_Reader_readPlain (famB n))
theorem famB_ok : ∀ n : Nat, HRgB (60 + n) (famB n) := by
  intro n
  induction n with
  | zero => refine ⟨?_, ?_⟩ <;> (intros; rename_i h; have h2 : none = some _ := h; cases h2)
  | succ n ih => exact ⟨fun h => tg_Reader_readTest ih (by omega) h, fun h => tg_Reader_readPlain ih (by omega) h⟩
def f_Reader_readTest (s : AS) (a0 : Nat) (a1 : Int32) : Option (Int32 × AS) := rg_Reader_readTest (famB 60) s a0 a1
theorem t_Reader_readTest {s : AS} {a0 : Nat} {a1 : Int32} {o : Int32 × AS} (h : f_Reader_readTest s a0 a1 = some o) : Ev 120 mZ33 0 [.ref a0, .int a1, .retAddr 0, .retAddr 0, .retAddr 0, .retAddr 0, .retAddr 0] [] s (some (.int o.1), o.2) := HRgB.rg_Reader_readTest (famB_ok 60) h
def f_Reader_readPlain (s : AS) (a0 : Nat) (a1 : Int32) : Option (Int32 × AS) := rg_Reader_readPlain (famB 60) s a0 a1
theorem t_Reader_readPlain {s : AS} {a0 : Nat} {a1 : Int32} {o : Int32 × AS} (h : f_Reader_readPlain s a0 a1 = some o) : Ev 120 mZ34 0 [.ref a0, .int a1, .retAddr 0, .retAddr 0] [] s (some (.int o.1), o.2) := HRgB.rg_Reader_readPlain (famB_ok 60) h
def b_Reader_readClause_36  (v0 : Nat) (s : AS) : Option (Int32 × AS) :=
  if sT s v0 = 8 then
  (f_Reader_stop s v0).bind fun r1 =>
  if r1.1 = nI 0 ∨ r1.1 = nI 1 then
  some (r1.1, r1.2)
  else none
  else none
theorem t_Reader_readClause_36   {d1 : Value} {v0 : Nat} {s : AS} {o : Int32 × AS} (h : b_Reader_readClause_36  v0 s = some o) : Ev 121 mZ23 36 [.ref v0, d1] [] s (some (.int o.1), o.2) := by
  unfold b_Reader_readClause_36 at h
  refine gd h (fun g1 h => ?_)
  refine Ev_blk 1 (pc' := 37) (ls' := [.ref v0, d1]) (st' := [.ref v0]) (s' := s) rfl trivial ?_
  refine bd h (fun r1 hr1 h => ?_)
  refine Ev_call 2 25 0 [.ref v0] [] rfl rfl rfl rfl g1 rfl rfl (Nat.le_of_ble_eq_true rfl) (t_Reader_stop hr1) ?_
  refine gd h (fun g2 h => ?_)
  cases h
  exact Ev_ret rfl g2
def b_Reader_readClause_109  (v0 : Nat) (s : AS) : Option (Int32 × AS) :=
  if sT s v0 = 8 then
  if sT s (sR s v0 0) = 12 then
  (f_Text_mark s (sR s v0 0) (nI 5) (sI s (sR s v0 0) 2)).bind fun r1 =>
  if sT r1 v0 = 8 then
  if sT r1 (sR r1 v0 0) = 12 then
  some (nI 1, setI r1 (sR r1 v0 0) 3 ((sI r1 (sR r1 v0 0) 3) + (nI 1)))
  else none
  else none
  else none
  else none
theorem t_Reader_readClause_109   {d1 : Value} {v0 : Nat} {s : AS} {o : Int32 × AS} (h : b_Reader_readClause_109  v0 s = some o) : Ev 121 mZ23 109 [.ref v0, d1] [] s (some (.int o.1), o.2) := by
  unfold b_Reader_readClause_109 at h
  refine gd h (fun g1 h => ?_)
  refine gd h (fun g2 h => ?_)
  refine Ev_blk 6 (pc' := 121) (ls' := [.ref v0, d1]) (st' := [.int (sI s (sR s v0 0) 2), .int (nI 5), .ref (sR s v0 0)]) (s' := s) rfl ⟨⟨⟨trivial, g1⟩, g1⟩, g2⟩ ?_
  refine bd h (fun r1 hr1 h => ?_)
  refine Ev_call 2 26 2 [.ref (sR s v0 0), .int (nI 5), .int (sI s (sR s v0 0) 2)] [] rfl rfl rfl rfl g2 rfl rfl (Nat.le_of_ble_eq_true rfl) (t_Text_mark hr1) ?_
  refine gd h (fun g3 h => ?_)
  refine gd h (fun g4 h => ?_)
  refine Ev_blk 8 (pc' := 138) (ls' := [.ref v0, d1]) (st' := [.int (nI 1)]) (s' := setI r1 (sR r1 v0 0) 3 ((sI r1 (sR r1 v0 0) 3) + (nI 1))) rfl ⟨⟨⟨trivial, g3⟩, g4⟩, g4⟩ ?_
  cases h
  exact Ev_ret rfl (Or.inr rfl)
def b_Reader_readClause_15  (v0 : Nat) (w0 : Nat) (w1 : Nat) (s : AS) : Option (Int32 × AS) :=
  if sT s w1 = 8 then
  (f_Reader_placeIn s w1 w0).bind fun r1 =>
  if sT s v0 = 8 then
  if sT s (sR s v0 0) = 12 then
  if (sI s (sR s v0 0) 3) < (nI 12) then
    if r1 = (-(nI 1)) then
      b_Reader_readClause_36 v0 s
    else
      (f_Reader_next s v0).bind fun r2 =>
      if sT r2 v0 = 8 then
      if sT r2 (sR r2 v0 0) = 12 then
      (f_Text_mark r2 (sR r2 v0 0) (nI 0) r1).bind fun r3 =>
      if sT r3 v0 = 8 then
      (f_Reader_readSums r3 v0 r1).bind fun r4 =>
      if r4.1 = (nI 0) then
        some (nI 0, r4.2)
      else
        if sT r4.2 v0 = 8 then
        (f_Reader_readTimes r4.2 v0).bind fun r5 =>
        if r5.1 = (nI 0) then
          some (nI 0, r5.2)
        else
          if sT r5.2 v0 = 8 then
          if sT r5.2 (sR r5.2 v0 0) = 12 then
          (f_Text_mark r5.2 (sR r5.2 v0 0) (nI 4) (sI r5.2 (sR r5.2 v0 0) 2)).bind fun r6 =>
          if sT r6 v0 = 8 then
          (f_Reader_placeIn r6 v0 (strB + 11)).bind fun r7 =>
          if r7 = (nI 0) then
            (f_Reader_next r6 v0).bind fun r8 =>
            if sT r8 v0 = 8 then
            (f_Reader_readTest r8 v0 (nI 0)).bind fun r9 =>
            if r9.1 = (nI 0) then
              some (nI 0, r9.2)
            else
              b_Reader_readClause_109 v0 r9.2
            else none
          else
            b_Reader_readClause_109 v0 r6
          else none
          else none
          else none
        else none
      else none
      else none
      else none
  else
    b_Reader_readClause_36 v0 s
  else none
  else none
  else none
theorem t_Reader_readClause_15   {d1 : Value} {v0 : Nat} {w0 : Nat} {w1 : Nat} {s : AS} {o : Int32 × AS} (h : b_Reader_readClause_15  v0 w0 w1 s = some o) : Ev 121 mZ23 15 [.ref v0, d1] [.ref w0, .ref w1] s (some (.int o.1), o.2) := by
  unfold b_Reader_readClause_15 at h
  refine gd h (fun g1 h => ?_)
  refine bd h (fun r1 hr1 h => ?_)
  refine Ev_call 2 24 1 [.ref w1, .ref w0] [] rfl rfl rfl rfl g1 rfl rfl (Nat.le_of_ble_eq_true rfl) (t_Reader_placeIn hr1) ?_
  refine gd h (fun g2 h => ?_)
  refine gd h (fun g3 h => ?_)
  refine Ev_blk 6 (pc' := if (sI s (sR s v0 0) 3) < (nI 12) then 31 else 36) (ls' := [.ref v0, .int r1]) (st' := []) (s' := s) rfl ⟨⟨trivial, g2⟩, g3⟩ ?_
  refine ib h (fun c4 h => ?_) (fun c4 h => ?_)
  · refine Ev_blk 3 (pc' := if r1 = (-(nI 1)) then 36 else 41) (ls' := [.ref v0, .int r1]) (st' := []) (s' := s) rfl trivial ?_
    refine ib h (fun c5 h => ?_) (fun c5 h => ?_)
    · exact t_Reader_readClause_36 h
    · refine Ev_blk 1 (pc' := 42) (ls' := [.ref v0, .int r1]) (st' := [.ref v0]) (s' := s) rfl trivial ?_
      refine bd h (fun r2 hr2 h => ?_)
      refine Ev_call 2 22 0 [.ref v0] [] rfl rfl rfl rfl g2 rfl rfl (Nat.le_of_ble_eq_true rfl) (t_Reader_next hr2) ?_
      refine gd h (fun g6 h => ?_)
      refine gd h (fun g7 h => ?_)
      refine Ev_blk 4 (pc' := 51) (ls' := [.ref v0, .int r1]) (st' := [.int r1, .int (nI 0), .ref (sR r2 v0 0)]) (s' := r2) rfl ⟨trivial, g6⟩ ?_
      refine bd h (fun r3 hr3 h => ?_)
      refine Ev_call 2 26 2 [.ref (sR r2 v0 0), .int (nI 0), .int r1] [] rfl rfl rfl rfl g7 rfl rfl (Nat.le_of_ble_eq_true rfl) (t_Text_mark hr3) ?_
      refine gd h (fun g8 h => ?_)
      refine Ev_blk 2 (pc' := 56) (ls' := [.ref v0, .int r1]) (st' := [.int r1, .ref v0]) (s' := r3) rfl trivial ?_
      refine bd h (fun r4 hr4 h => ?_)
      refine Ev_call 2 27 1 [.ref v0, .int r1] [] rfl rfl rfl rfl g8 rfl rfl (Nat.le_of_ble_eq_true rfl) (t_Reader_readSums hr4) ?_
      refine Ev_blk 1 (pc' := if r4.1 = (nI 0) then 69 else 62) (ls' := [.ref v0, .int r1]) (st' := []) (s' := r4.2) rfl trivial ?_
      refine ib h (fun c9 h => ?_) (fun c9 h => ?_)
      · refine Ev_blk 1 (pc' := 70) (ls' := [.ref v0, .int r1]) (st' := [.int (nI 0)]) (s' := r4.2) rfl trivial ?_
        cases h
        exact Ev_ret rfl (Or.inl rfl)
      · refine gd h (fun g10 h => ?_)
        refine Ev_blk 1 (pc' := 63) (ls' := [.ref v0, .int r1]) (st' := [.ref v0]) (s' := r4.2) rfl trivial ?_
        refine bd h (fun r5 hr5 h => ?_)
        refine Ev_call 2 32 0 [.ref v0] [] rfl rfl rfl rfl g10 rfl rfl (Nat.le_of_ble_eq_true rfl) (t_Reader_readTimes hr5) ?_
        refine Ev_blk 1 (pc' := if r5.1 = (nI 0) then 69 else 71) (ls' := [.ref v0, .int r1]) (st' := []) (s' := r5.2) rfl trivial ?_
        refine ib h (fun c11 h => ?_) (fun c11 h => ?_)
        · refine Ev_blk 1 (pc' := 70) (ls' := [.ref v0, .int r1]) (st' := [.int (nI 0)]) (s' := r5.2) rfl trivial ?_
          cases h
          exact Ev_ret rfl (Or.inl rfl)
        · refine gd h (fun g12 h => ?_)
          refine gd h (fun g13 h => ?_)
          refine Ev_blk 6 (pc' := 83) (ls' := [.ref v0, .int r1]) (st' := [.int (sI r5.2 (sR r5.2 v0 0) 2), .int (nI 4), .ref (sR r5.2 v0 0)]) (s' := r5.2) rfl ⟨⟨⟨trivial, g12⟩, g12⟩, g13⟩ ?_
          refine bd h (fun r6 hr6 h => ?_)
          refine Ev_call 2 26 2 [.ref (sR r5.2 v0 0), .int (nI 4), .int (sI r5.2 (sR r5.2 v0 0) 2)] [] rfl rfl rfl rfl g13 rfl rfl (Nat.le_of_ble_eq_true rfl) (t_Text_mark hr6) ?_
          refine gd h (fun g14 h => ?_)
          refine Ev_blk 2 (pc' := 89) (ls' := [.ref v0, .int r1]) (st' := [.ref (strB + 11), .ref v0]) (s' := r6) rfl trivial ?_
          refine bd h (fun r7 hr7 h => ?_)
          refine Ev_call 2 24 1 [.ref v0, .ref (strB + 11)] [] rfl rfl rfl rfl g14 rfl rfl (Nat.le_of_ble_eq_true rfl) (t_Reader_placeIn hr7) ?_
          refine Ev_blk 1 (pc' := if r7 = (nI 0) then 95 else 109) (ls' := [.ref v0, .int r1]) (st' := []) (s' := r6) rfl trivial ?_
          refine ib h (fun c15 h => ?_) (fun c15 h => ?_)
          · refine Ev_blk 1 (pc' := 96) (ls' := [.ref v0, .int r1]) (st' := [.ref v0]) (s' := r6) rfl trivial ?_
            refine bd h (fun r8 hr8 h => ?_)
            refine Ev_call 2 22 0 [.ref v0] [] rfl rfl rfl rfl g14 rfl rfl (Nat.le_of_ble_eq_true rfl) (t_Reader_next hr8) ?_
            refine gd h (fun g16 h => ?_)
            refine Ev_blk 2 (pc' := 101) (ls' := [.ref v0, .int r1]) (st' := [.int (nI 0), .ref v0]) (s' := r8) rfl trivial ?_
            refine bd h (fun r9 hr9 h => ?_)
            refine Ev_call 2 33 1 [.ref v0, .int (nI 0)] [] rfl rfl rfl rfl g16 rfl rfl (Nat.le_of_ble_eq_true rfl) (t_Reader_readTest hr9) ?_
            refine Ev_blk 1 (pc' := if r9.1 = (nI 0) then 107 else 109) (ls' := [.ref v0, .int r1]) (st' := []) (s' := r9.2) rfl trivial ?_
            refine ib h (fun c17 h => ?_) (fun c17 h => ?_)
            · refine Ev_blk 1 (pc' := 108) (ls' := [.ref v0, .int r1]) (st' := [.int (nI 0)]) (s' := r9.2) rfl trivial ?_
              cases h
              exact Ev_ret rfl (Or.inl rfl)
            · exact t_Reader_readClause_109 h
          · exact t_Reader_readClause_109 h
  · exact t_Reader_readClause_36 h
/-- RecordHeap$Reader.readClause()Z -/
def f_Reader_readClause (s : AS) (a0 : Nat) : Option (Int32 × AS) :=
  if sT s a0 = 8 then
  if (sI s a0 3) = (nI 0) then
    b_Reader_readClause_15 a0 (strB + 1) a0 s
  else
    b_Reader_readClause_15 a0 (strB + 0) a0 s
  else none
theorem t_Reader_readClause {s : AS} {a0 : Nat} {o : Int32 × AS} (h : f_Reader_readClause s a0 = some o) : Ev 121 mZ23 0 [.ref a0, .retAddr 0] [] s (some (.int o.1), o.2) := by
  unfold f_Reader_readClause at h
  refine gd h (fun g1 h => ?_)
  refine Ev_blk 4 (pc' := if (sI s a0 3) = (nI 0) then 13 else 8) (ls' := [.ref a0, .retAddr 0]) (st' := [.ref a0]) (s' := s) rfl ⟨trivial, g1⟩ ?_
  refine ib h (fun c2 h => ?_) (fun c2 h => ?_)
  · refine Ev_blk 1 (pc' := 15) (ls' := [.ref a0, .retAddr 0]) (st' := [.ref (strB + 1), .ref a0]) (s' := s) rfl trivial ?_
    exact t_Reader_readClause_15 h
  · refine Ev_blk 2 (pc' := 15) (ls' := [.ref a0, .retAddr 0]) (st' := [.ref (strB + 0), .ref a0]) (s' := s) rfl trivial ?_
    exact t_Reader_readClause_15 h

def b_Reader_readAll_140  (v0 : Nat) (v3 : Int32) (s : AS) : Option (Int32 × AS) :=
  if v3 = (nI 0) then
    some (nI 0, s)
  else
    if sT s v0 = 8 then
    if sT s (sR s v0 1) = 20 ∧ inA (sI s v0 4) (sN s (sR s v0 1)) then
    if (sI s (sR s v0 1) (sI s v0 4).toNatClampNeg) = (-(nI 1)) then
      some (nI 1, s)
    else
      (f_Reader_stop s v0).bind fun r1 =>
        some ((if r1.1 = (nI 0) then nI 0 else nI 1), r1.2)
    else none
    else none
theorem t_Reader_readAll_140   {d1 d2 d4 : Value} {v0 : Nat} {v3 : Int32} {s : AS} {o : Int32 × AS} (h : b_Reader_readAll_140  v0 v3 s = some o) : Ev 122 mZ20 140 [.ref v0, d1, d2, .int v3, d4] [] s (some (.int o.1), o.2) := by
  unfold b_Reader_readAll_140 at h
  refine Ev_blk 2 (pc' := if v3 = (nI 0) then 168 else 144) (ls' := [.ref v0, d1, d2, .int v3, d4]) (st' := []) (s' := s) rfl trivial ?_
  refine ib h (fun c1 h => ?_) (fun c1 h => ?_)
  · refine Ev_blk 1 (pc' := 169) (ls' := [.ref v0, d1, d2, .int v3, d4]) (st' := [.int (nI 0)]) (s' := s) rfl trivial ?_
    cases h
    exact Ev_ret rfl (Or.inl rfl)
  · refine gd h (fun g2 h => ?_)
    refine gd h (fun g3 h => ?_)
    refine Ev_blk 7 (pc' := if (sI s (sR s v0 1) (sI s v0 4).toNatClampNeg) = (-(nI 1)) then 164 else 157) (ls' := [.ref v0, d1, d2, .int v3, d4]) (st' := []) (s' := s) rfl ⟨⟨⟨trivial, g2⟩, g2⟩, ⟨Or.inl g3.1, g3.2⟩⟩ ?_
    refine ib h (fun c4 h => ?_) (fun c4 h => ?_)
    · refine Ev_blk 2 (pc' := 169) (ls' := [.ref v0, d1, d2, .int v3, d4]) (st' := [.int (nI 1)]) (s' := s) rfl trivial ?_
      cases h
      exact Ev_ret rfl (Or.inr rfl)
    · refine Ev_blk 1 (pc' := 158) (ls' := [.ref v0, d1, d2, .int v3, d4]) (st' := [.ref v0]) (s' := s) rfl trivial ?_
      refine bd h (fun r1 hr1 h => ?_)
      refine Ev_call 2 25 0 [.ref v0] [] rfl rfl rfl rfl g2 rfl rfl (Nat.le_of_ble_eq_true rfl) (t_Reader_stop hr1) ?_
      refine Ev_blk 1 (pc' := if r1.1 = (nI 0) then 168 else 164) (ls' := [.ref v0, d1, d2, .int v3, d4]) (st' := []) (s' := r1.2) rfl trivial ?_
      have k5_ : Ev 122 mZ20 169 [.ref v0, d1, d2, .int v3, d4] [.int (if r1.1 = (nI 0) then nI 0 else nI 1)] r1.2 (some (.int o.1), o.2) := by
        cases h
        exact Ev_ret rfl (by (repeat' split) <;> first | exact Or.inl rfl | exact Or.inr rfl)
      refine icases (fun c6 => ?_) (fun c6 => ?_)
      · exact Ev_blk 1 (pc' := 169) (ls' := [.ref v0, d1, d2, .int v3, d4]) (st' := [.int (nI 0)]) (s' := r1.2) rfl trivial (by simpa only [if_pos c6] using k5_)
      · exact Ev_blk 2 (pc' := 169) (ls' := [.ref v0, d1, d2, .int v3, d4]) (st' := [.int (nI 1)]) (s' := r1.2) rfl trivial (by simpa only [if_neg c6] using k5_)
def b_Reader_readAll_104 (k104 : Nat → Int32 → Int32 → AS → Option (Int32 × AS)) (v0 : Nat) (v3 : Int32) (v4 : Int32) (s : AS) : Option (Int32 × AS) :=
  if v4 < (nI 400) then
    if v3 = (nI 0) then
      b_Reader_readAll_140 v0 v3 s
    else
      if sT s v0 = 8 then
      (f_Reader_placeIn s v0 (strB + 17)).bind fun r1 =>
      if r1 = (nI 0) then
        (f_Reader_next s v0).bind fun r2 =>
        if sT r2 v0 = 8 then
        (f_Reader_readClause r2 v0).bind fun r3 =>
        k104 v0 r3.1 (v4 + nI 1) r3.2
        else none
      else
        b_Reader_readAll_140 v0 v3 s
      else none
  else
    b_Reader_readAll_140 v0 v3 s
theorem t_Reader_readAll_104 {k104 : Nat → Int32 → Int32 → AS → Option (Int32 × AS)} (H104 : ∀ {d1 d2 : Value} {v0 : Nat} {v3 : Int32} {v4 : Int32} {s : AS} {o : Int32 × AS}, k104 v0 v3 v4 s = some o → Ev 122 mZ20 104 [.ref v0, d1, d2, .int v3, .int v4] [] s (some (.int o.1), o.2)) {d1 d2 : Value} {v0 : Nat} {v3 : Int32} {v4 : Int32} {s : AS} {o : Int32 × AS} (h : b_Reader_readAll_104 k104 v0 v3 v4 s = some o) : Ev 122 mZ20 104 [.ref v0, d1, d2, .int v3, .int v4] [] s (some (.int o.1), o.2) := by
  unfold b_Reader_readAll_104 at h
  refine Ev_blk 3 (pc' := if v4 < (nI 400) then 112 else 140) (ls' := [.ref v0, d1, d2, .int v3, .int v4]) (st' := []) (s' := s) rfl trivial ?_
  refine ib h (fun c1 h => ?_) (fun c1 h => ?_)
  · refine Ev_blk 2 (pc' := if v3 = (nI 0) then 140 else 116) (ls' := [.ref v0, d1, d2, .int v3, .int v4]) (st' := []) (s' := s) rfl trivial ?_
    refine ib h (fun c2 h => ?_) (fun c2 h => ?_)
    · exact t_Reader_readAll_140 h
    · refine gd h (fun g3 h => ?_)
      refine Ev_blk 2 (pc' := 119) (ls' := [.ref v0, d1, d2, .int v3, .int v4]) (st' := [.ref (strB + 17), .ref v0]) (s' := s) rfl trivial ?_
      refine bd h (fun r1 hr1 h => ?_)
      refine Ev_call 2 24 1 [.ref v0, .ref (strB + 17)] [] rfl rfl rfl rfl g3 rfl rfl (Nat.le_of_ble_eq_true rfl) (t_Reader_placeIn hr1) ?_
      refine Ev_blk 1 (pc' := if r1 = (nI 0) then 125 else 140) (ls' := [.ref v0, d1, d2, .int v3, .int v4]) (st' := []) (s' := s) rfl trivial ?_
      refine ib h (fun c4 h => ?_) (fun c4 h => ?_)
      · refine Ev_blk 1 (pc' := 126) (ls' := [.ref v0, d1, d2, .int v3, .int v4]) (st' := [.ref v0]) (s' := s) rfl trivial ?_
        refine bd h (fun r2 hr2 h => ?_)
        refine Ev_call 2 22 0 [.ref v0] [] rfl rfl rfl rfl g3 rfl rfl (Nat.le_of_ble_eq_true rfl) (t_Reader_next hr2) ?_
        refine gd h (fun g5 h => ?_)
        refine Ev_blk 1 (pc' := 130) (ls' := [.ref v0, d1, d2, .int v3, .int v4]) (st' := [.ref v0]) (s' := r2) rfl trivial ?_
        refine bd h (fun r3 hr3 h => ?_)
        refine Ev_call 2 23 0 [.ref v0] [] rfl rfl rfl rfl g5 rfl rfl (Nat.le_of_ble_eq_true rfl) (t_Reader_readClause hr3) ?_
        refine Ev_blk 3 (pc' := 104) (ls' := [.ref v0, d1, (clrV d2), .int r3.1, .int (v4 + nI 1)]) (st' := []) (s' := r3.2) rfl trivial ?_
        exact H104 h
      · exact t_Reader_readAll_140 h
  · exact t_Reader_readAll_140 h
def l_Reader_readAll_104  : Nat → Nat → Int32 → Int32 → AS → Option (Int32 × AS)
  | 0 => fun _ _ _ _ => none
  | n + 1 => b_Reader_readAll_104  (l_Reader_readAll_104  n)
theorem u_Reader_readAll_104   {n : Nat} : ∀ {d1 d2 : Value} {v0 : Nat} {v3 : Int32} {v4 : Int32} {s : AS} {o : Int32 × AS}, l_Reader_readAll_104  n v0 v3 v4 s = some o → Ev 122 mZ20 104 [.ref v0, d1, d2, .int v3, .int v4] [] s (some (.int o.1), o.2) := by
  induction n with
  | zero => intros; rename_i h; cases h
  | succ n ih => intros; rename_i h; exact t_Reader_readAll_104  (fun h => ih h) h
def b_Reader_readAll_12 (k12 : Nat → Nat → Int32 → AS → Option (Int32 × AS)) (v0 : Nat) (v1 : Nat) (v3 : Int32) (s : AS) : Option (Int32 × AS) :=
  if (nI 400) < v3 then
    if sT s v0 = 8 then
    if sT s (sR s v0 0) = 12 then
    (f_Reader_next (setI (setI (setI (setI (setI s v0 5 (nI 0)) v0 6 (nI 0)) v0 7 (-(nI 1))) (sR s v0 0) 2 (nI 0)) (sR s v0 0) 3 (nI 0)) v0).bind fun r1 =>
    if sT r1 v0 = 8 then
    (f_Reader_readClause r1 v0).bind fun r2 =>
    l_Reader_readAll_104 fuel v0 r2.1 (nI 0) r2.2
    else none
    else none
    else none
  else
    if sT s v0 = 8 then
    if sT s v1 = 9 then
    if v3 < (sI s v1 1) then
      if 20 ≤ sT s (sR s v1 0) then
      if v3 < (nI (sN s (sR s v1 0))) then
        if sT s (sR s v1 0) = 20 ∧ inA v3 (sN s (sR s v1 0)) then
        (f_Reader_kindOf s (sI s (sR s v1 0) v3.toNatClampNeg)).bind fun r3 =>
        if sT s (sR s v0 1) = 20 ∧ inA v3 (sN s (sR s v0 1)) then
        k12 v0 v1 (v3 + nI 1) (setI s (sR s v0 1) v3.toNatClampNeg r3)
        else none
        else none
      else
        if sT s (sR s v0 1) = 20 ∧ inA v3 (sN s (sR s v0 1)) then
        k12 v0 v1 (v3 + nI 1) (setI s (sR s v0 1) v3.toNatClampNeg (-(nI 1)))
        else none
      else none
    else
      if sT s (sR s v0 1) = 20 ∧ inA v3 (sN s (sR s v0 1)) then
      k12 v0 v1 (v3 + nI 1) (setI s (sR s v0 1) v3.toNatClampNeg (-(nI 1)))
      else none
    else none
    else none
theorem t_Reader_readAll_12 {k12 : Nat → Nat → Int32 → AS → Option (Int32 × AS)} (H12 : ∀ {d2 d4 : Value} {v0 : Nat} {v1 : Nat} {v3 : Int32} {s : AS} {o : Int32 × AS}, k12 v0 v1 v3 s = some o → Ev 122 mZ20 12 [.ref v0, .ref v1, d2, .int v3, d4] [] s (some (.int o.1), o.2)) {d2 d4 : Value} {v0 : Nat} {v1 : Nat} {v3 : Int32} {s : AS} {o : Int32 × AS} (h : b_Reader_readAll_12 k12 v0 v1 v3 s = some o) : Ev 122 mZ20 12 [.ref v0, .ref v1, d2, .int v3, d4] [] s (some (.int o.1), o.2) := by
  unfold b_Reader_readAll_12 at h
  refine Ev_blk 3 (pc' := if (nI 400) < v3 then 61 else 19) (ls' := [.ref v0, .ref v1, d2, .int v3, d4]) (st' := []) (s' := s) rfl trivial ?_
  refine ib h (fun c1 h => ?_) (fun c1 h => ?_)
  · refine gd h (fun g2 h => ?_)
    refine gd h (fun g3 h => ?_)
    refine Ev_blk 18 (pc' := 93) (ls' := [.ref v0, .ref v1, d2, .int v3, d4]) (st' := [.ref v0]) (s' := setI (setI (setI (setI (setI s v0 5 (nI 0)) v0 6 (nI 0)) v0 7 (-(nI 1))) (sR s v0 0) 2 (nI 0)) (sR s v0 0) 3 (nI 0)) rfl ⟨⟨⟨⟨⟨⟨⟨trivial, g2⟩, g2⟩, g2⟩, g2⟩, g3⟩, g2⟩, g3⟩ ?_
    refine bd h (fun r1 hr1 h => ?_)
    refine Ev_call 2 22 0 [.ref v0] [] rfl rfl rfl rfl g2 rfl rfl (Nat.le_of_ble_eq_true rfl) (t_Reader_next hr1) ?_
    refine gd h (fun g4 h => ?_)
    refine Ev_blk 1 (pc' := 97) (ls' := [.ref v0, .ref v1, d2, .int v3, d4]) (st' := [.ref v0]) (s' := r1) rfl trivial ?_
    refine bd h (fun r2 hr2 h => ?_)
    refine Ev_call 2 23 0 [.ref v0] [] rfl rfl rfl rfl g4 rfl rfl (Nat.le_of_ble_eq_true rfl) (t_Reader_readClause hr2) ?_
    refine Ev_blk 3 (pc' := 104) (ls' := [.ref v0, .ref v1, (clrV d2), .int r2.1, .int (nI 0)]) (st' := []) (s' := r2.2) rfl trivial ?_
    exact u_Reader_readAll_104 h
  · refine gd h (fun g5 h => ?_)
    refine gd h (fun g6 h => ?_)
    refine Ev_blk 7 (pc' := if v3 < (sI s v1 1) then 32 else 53) (ls' := [.ref v0, .ref v1, d2, .int v3, d4]) (st' := [.int v3, .ref (sR s v0 1)]) (s' := s) rfl ⟨⟨trivial, g5⟩, g6⟩ ?_
    refine ib h (fun c7 h => ?_) (fun c7 h => ?_)
    · refine gd h (fun g8 h => ?_)
      refine Ev_blk 5 (pc' := if v3 < (nI (sN s (sR s v1 0))) then 41 else 53) (ls' := [.ref v0, .ref v1, d2, .int v3, d4]) (st' := [.int v3, .ref (sR s v0 1)]) (s' := s) rfl ⟨⟨trivial, g6⟩, g8⟩ ?_
      refine ib h (fun c9 h => ?_) (fun c9 h => ?_)
      · refine gd h (fun g10 h => ?_)
        refine Ev_blk 4 (pc' := 47) (ls' := [.ref v0, .ref v1, d2, .int v3, d4]) (st' := [.int (sI s (sR s v1 0) v3.toNatClampNeg), .int v3, .ref (sR s v0 1)]) (s' := s) rfl ⟨⟨trivial, g6⟩, ⟨Or.inl g10.1, g10.2⟩⟩ ?_
        refine bd h (fun r3 hr3 h => ?_)
        refine Ev_call 1 21 1 [.int (sI s (sR s v1 0) v3.toNatClampNeg)] [.int v3, .ref (sR s v0 1)] rfl rfl rfl rfl trivial rfl rfl (Nat.le_of_ble_eq_true rfl) (t_Reader_kindOf hr3) ?_
        refine gd h (fun g11 h => ?_)
        refine Ev_blk 4 (pc' := 12) (ls' := [.ref v0, .ref v1, (clrV d2), .int (v3 + nI 1), d4]) (st' := []) (s' := setI s (sR s v0 1) v3.toNatClampNeg r3) rfl ⟨trivial, g11⟩ ?_
        exact H12 h
      · refine gd h (fun g12 h => ?_)
        refine Ev_blk 4 (pc' := 12) (ls' := [.ref v0, .ref v1, (clrV d2), .int (v3 + nI 1), d4]) (st' := []) (s' := setI s (sR s v0 1) v3.toNatClampNeg (-(nI 1))) rfl ⟨trivial, g12⟩ ?_
        exact H12 h
    · refine gd h (fun g13 h => ?_)
      refine Ev_blk 4 (pc' := 12) (ls' := [.ref v0, .ref v1, (clrV d2), .int (v3 + nI 1), d4]) (st' := []) (s' := setI s (sR s v0 1) v3.toNatClampNeg (-(nI 1))) rfl ⟨trivial, g13⟩ ?_
      exact H12 h
def l_Reader_readAll_12  : Nat → Nat → Nat → Int32 → AS → Option (Int32 × AS)
  | 0 => fun _ _ _ _ => none
  | n + 1 => b_Reader_readAll_12  (l_Reader_readAll_12  n)
theorem u_Reader_readAll_12   {n : Nat} : ∀ {d2 d4 : Value} {v0 : Nat} {v1 : Nat} {v3 : Int32} {s : AS} {o : Int32 × AS}, l_Reader_readAll_12  n v0 v1 v3 s = some o → Ev 122 mZ20 12 [.ref v0, .ref v1, d2, .int v3, d4] [] s (some (.int o.1), o.2) := by
  induction n with
  | zero => intros; rename_i h; cases h
  | succ n ih => intros; rename_i h; exact t_Reader_readAll_12  (fun h => ih h) h
/-- RecordHeap$Reader.readAll(LRecordHeap$Row;Z)Z -/
def f_Reader_readAll (s : AS) (a0 : Nat) (a1 : Nat) (a2 : Int32) : Option (Int32 × AS) :=
  if sT s a0 = 8 then
  if sT s a0 = 8 ∧ (a2 = nI 0 ∨ a2 = nI 1) then
  l_Reader_readAll_12 fuel a0 a1 (nI 0) (setI (setR s a0 2 a1) a0 3 a2)
  else none
  else none
theorem t_Reader_readAll {s : AS} {a0 : Nat} {a1 : Nat} {a2 : Int32} {o : Int32 × AS} (h : f_Reader_readAll s a0 a1 a2 = some o) : Ev 122 mZ20 0 [.ref a0, .ref a1, .int a2, .retAddr 0, .retAddr 0] [] s (some (.int o.1), o.2) := by
  unfold f_Reader_readAll at h
  refine gd h (fun g1 h => ?_)
  refine gd h (fun g2 h => ?_)
  refine Ev_blk 8 (pc' := 12) (ls' := [.ref a0, .ref a1, .int a2, .int (nI 0), .retAddr 0]) (st' := []) (s' := setI (setR s a0 2 a1) a0 3 a2) rfl ⟨⟨trivial, g1⟩, g2⟩ ?_
  exact u_Reader_readAll_12 h

/-- java/util/Arrays.copyOf([II)[I -/
def f_Arrays_copyOf (s : AS) (a0 : Nat) (a1 : Int32) : Option (Nat × AS) :=
  if 20 ≤ sT s a0 then
  if a1 = (nI (sN s a0)) then
    if sT s a0 = 20 ∧ sX s < 900000 ∧ sN s a0 ≤ 100000 then
    if sT (rowI (newA s 20 (sN s a0)) (sX s) (sI s a0)) (sX s) = 20 then
    some (sX s, rowI (newA s 20 (sN s a0)) (sX s) (sI s a0))
    else none
    else none
  else
    (nwA s 20 a1).bind fun r1 =>
    if 20 ≤ sT r1.2 a0 then
    (cpA r1.2 a0 (nI 0) r1.1 (nI 0) (if a1 < (nI (sN r1.2 a0)) then a1 else (nI (sN r1.2 a0)))).bind fun r2 =>
    some (r1.1, r2)
    else none
  else none
theorem t_Arrays_copyOf {s : AS} {a0 : Nat} {a1 : Int32} {o : Nat × AS} (h : f_Arrays_copyOf s a0 a1 = some o) : Ev 0 mZ38 0 [.ref a0, .int a1, .retAddr 0] [] s (some (.ref o.1), o.2) := by
  unfold f_Arrays_copyOf at h
  refine gd h (fun g1 h => ?_)
  refine Ev_blk 4 (pc' := if a1 = (nI (sN s a0)) then 6 else 14) (ls' := [.ref a0, .int a1, .retAddr 0]) (st' := []) (s' := s) rfl ⟨trivial, g1⟩ ?_
  refine ib h (fun c2 h => ?_) (fun c2 h => ?_)
  · refine gd h (fun g3 h => ?_)
    refine gd h (fun g4 h => ?_)
    refine Ev_blk 3 (pc' := 13) (ls' := [.ref a0, .int a1, .retAddr 0]) (st' := [.ref (sX s)]) (s' := rowI (newA s 20 (sN s a0)) (sX s) (sI s a0)) rfl ⟨⟨trivial, g3⟩, g4⟩ ?_
    cases h
    exact Ev_ret rfl trivial
  · refine bd h (fun r1 hr1 h => ?_)
    obtain ⟨gr1, er1, fr1⟩ := nwA_inv hr1
    refine Ev_blk 2 (pc' := 17) (ls' := [.ref a0, .int a1, .retAddr 0]) (st' := [.ref (sX s)]) (s' := newA s 20 a1.toNatClampNeg) rfl ⟨trivial, gr1⟩ ?_
    rw [← fr1, ← er1]
    refine gd h (fun g5 h => ?_)
    refine bd h (fun r2 hr2 h => ?_)
    obtain ⟨gr2, er2⟩ := cpA_inv hr2
    refine Ev_blk 10 (pc' := 31) (ls' := [.ref a0, .int a1, .ref r1.1]) (st' := []) (s' := rowI r1.2 r1.1 (va_cpy (sI r1.2 a0) (sI r1.2 r1.1) (nI 0).toNatClampNeg (nI 0).toNatClampNeg (if a1 < (nI (sN r1.2 a0)) then a1 else (nI (sN r1.2 a0))).toNatClampNeg)) rfl ⟨⟨trivial, g5⟩, gr2⟩ ?_
    rw [← er2]
    refine Ev_blk 1 (pc' := 32) (ls' := [.ref a0, .int a1, .ref r1.1]) (st' := [.ref r1.1]) (s' := r2) rfl trivial ?_
    cases h
    exact Ev_ret rfl trivial

/-- RecordHeap$Text.trimmed()LRecordHeap$Text; -/
def f_Text_trimmed (s : AS) (a0 : Nat) : Option (Nat × AS) :=
  (nwO s 12 4).bind fun r1 =>
  if sT r1.2 a0 = 12 then
  (f_Arrays_copyOf r1.2 (sR r1.2 a0 0) (sI r1.2 a0 2)).bind fun r2 =>
  if sT r2.2 a0 = 12 then
  (f_Arrays_copyOf r2.2 (sR r2.2 a0 1) ((sI r2.2 a0 3) * (nI 6))).bind fun r3 =>
  if ¬ r1.1 = 0 then
  (f_Text_init r3.2 r1.1 r2.1 r3.1).bind fun r4 =>
  if sT r4 a0 = 12 then
  if sT r4 r1.1 = 12 then
  some (r1.1, setI (setI r4 r1.1 2 (sI r4 a0 2)) r1.1 3 (sI (setI r4 r1.1 2 (sI r4 a0 2)) a0 3))
  else none
  else none
  else none
  else none
  else none
theorem t_Text_trimmed {s : AS} {a0 : Nat} {o : Nat × AS} (h : f_Text_trimmed s a0 = some o) : Ev 1 mZ37 0 [.ref a0, .retAddr 0] [] s (some (.ref o.1), o.2) := by
  unfold f_Text_trimmed at h
  refine bd h (fun r1 hr1 h => ?_)
  obtain ⟨gr1, er1, fr1⟩ := nwO_inv hr1
  refine Ev_blk 1 (pc' := 3) (ls' := [.ref a0, .retAddr 0]) (st' := [.ref (sX s)]) (s' := newA s 12 4) rfl ⟨trivial, gr1⟩ ?_
  rw [← fr1, ← er1]
  refine gd h (fun g1 h => ?_)
  refine Ev_blk 5 (pc' := 12) (ls' := [.ref a0, .retAddr 0]) (st' := [.int (sI r1.2 a0 2), .ref (sR r1.2 a0 0), .ref r1.1, .ref r1.1]) (s' := r1.2) rfl ⟨⟨trivial, g1⟩, g1⟩ ?_
  refine bd h (fun r2 hr2 h => ?_)
  refine Ev_call 1 38 2 [.ref (sR r1.2 a0 0), .int (sI r1.2 a0 2)] [.ref r1.1, .ref r1.1] rfl rfl rfl rfl trivial rfl rfl (Nat.le_of_ble_eq_true rfl) (t_Arrays_copyOf hr2) ?_
  refine gd h (fun g2 h => ?_)
  refine Ev_blk 6 (pc' := 26) (ls' := [.ref a0, .retAddr 0]) (st' := [.int ((sI r2.2 a0 3) * (nI 6)), .ref (sR r2.2 a0 1), .ref r2.1, .ref r1.1, .ref r1.1]) (s' := r2.2) rfl ⟨⟨trivial, g2⟩, g2⟩ ?_
  refine bd h (fun r3 hr3 h => ?_)
  refine Ev_call 1 38 2 [.ref (sR r2.2 a0 1), .int ((sI r2.2 a0 3) * (nI 6))] [.ref r2.1, .ref r1.1, .ref r1.1] rfl rfl rfl rfl trivial rfl rfl (Nat.le_of_ble_eq_true rfl) (t_Arrays_copyOf hr3) ?_
  refine gd h (fun g3 h => ?_)
  refine bd h (fun r4 hr4 h => ?_)
  refine Ev_call 3 3 2 [.ref r1.1, .ref r2.1, .ref r3.1] [.ref r1.1] rfl rfl rfl rfl g3 rfl rfl (Nat.le_of_ble_eq_true rfl) (t_Text_init hr4) ?_
  refine gd h (fun g4 h => ?_)
  refine gd h (fun g5 h => ?_)
  refine Ev_blk 10 (pc' := 50) (ls' := [.ref a0, .ref r1.1]) (st' := [.ref r1.1]) (s' := setI (setI r4 r1.1 2 (sI r4 a0 2)) r1.1 3 (sI (setI r4 r1.1 2 (sI r4 a0 2)) a0 3)) rfl ⟨⟨⟨⟨trivial, g4⟩, g5⟩, g4⟩, g5⟩ ?_
  cases h
  exact Ev_ret rfl trivial

/-- RecordHeap$Setting.addLaw(LRecordHeap$Text;)I -/
def f_Setting_addLaw (s : AS) (a0 : Nat) (a1 : Nat) : Option (Int32 × AS) :=
  if sT s a0 = 11 then
  if (sI s a0 2) < (nI 6) then
    if (40 ≤ sT s (sR s a0 1) ∧ inA (sI s a0 2) (sN s (sR s a0 1))) ∧ (a1 = 0 ∨ sT s a1 + 39 = sT s (sR s a0 1)) then
    some ((sI (setI (setR s (sR s a0 1) (sI s a0 2).toNatClampNeg a1) a0 2 ((sI s a0 2) + (nI 1))) a0 2) - (nI 1), setI (setR s (sR s a0 1) (sI s a0 2).toNatClampNeg a1) a0 2 ((sI s a0 2) + (nI 1)))
    else none
  else
    some (-(nI 1), s)
  else none
theorem t_Setting_addLaw {s : AS} {a0 : Nat} {a1 : Nat} {o : Int32 × AS} (h : f_Setting_addLaw s a0 a1 = some o) : Ev 0 mZ39 0 [.ref a0, .ref a1] [] s (some (.int o.1), o.2) := by
  unfold f_Setting_addLaw at h
  refine gd h (fun g1 h => ?_)
  refine Ev_blk 4 (pc' := if (sI s a0 2) < (nI 6) then 11 else 9) (ls' := [.ref a0, .ref a1]) (st' := []) (s' := s) rfl ⟨trivial, g1⟩ ?_
  refine ib h (fun c2 h => ?_) (fun c2 h => ?_)
  · refine gd h (fun g3 h => ?_)
    refine Ev_blk 16 (pc' := 37) (ls' := [.ref a0, .ref a1]) (st' := [.int ((sI (setI (setR s (sR s a0 1) (sI s a0 2).toNatClampNeg a1) a0 2 ((sI s a0 2) + (nI 1))) a0 2) - (nI 1))]) (s' := setI (setR s (sR s a0 1) (sI s a0 2).toNatClampNeg a1) a0 2 ((sI s a0 2) + (nI 1))) rfl ⟨⟨⟨⟨⟨⟨trivial, g1⟩, g1⟩, g3⟩, g1⟩, g1⟩, g1⟩ ?_
    cases h
    exact Ev_ret rfl trivial
  · refine Ev_blk 1 (pc' := 10) (ls' := [.ref a0, .ref a1]) (st' := [.int (-(nI 1))]) (s' := s) rfl trivial ?_
    cases h
    exact Ev_ret rfl trivial

def b_C_law_42  (v0 : Nat) (v1 : Int32) (w0 : Int32) (s : AS) : Option (Int32 × AS) :=
  if sT s v0 = 1 then
  if sT s (sR s v0 0) = 9 then
  if v1 = (nI 0) then
    (f_C_refuse (setI s (sR s v0 0) 1 (nI 0)) v0 (-(nI 5))).bind fun r1 =>
    some (r1.1, r1.2)
  else
    if w0 = (nI 0) then
      (f_C_refuse (setI s (sR s v0 0) 1 (nI 0)) v0 (-(nI 6))).bind fun r2 =>
      some (r2.1, r2.2)
    else
      if sT s (sR s v0 3) = 8 then
      if sT s (sR s (sR s v0 3) 0) = 12 then
      (f_Text_trimmed (setI s (sR s v0 0) 1 (nI 0)) (sR s (sR s v0 3) 0)).bind fun r3 =>
      if sT r3.2 (sR s v0 5) = 11 then
      (f_Setting_addLaw r3.2 (sR s v0 5) r3.1).bind fun r4 =>
      if sT r4.2 v0 = 1 then
      (f_C_told r4.2 v0 r4.1).bind fun r5 =>
      some (r5.1, r5.2)
      else none
      else none
      else none
      else none
  else none
  else none
theorem t_C_law_42   {d2 : Value} {v0 : Nat} {v1 : Int32} {w0 : Int32} {s : AS} {o : Int32 × AS} (h : b_C_law_42  v0 v1 w0 s = some o) : Ev 123 mZ19 42 [.ref v0, .int v1, d2] [.int w0] s (some (.int o.1), o.2) := by
  unfold b_C_law_42 at h
  refine gd h (fun g1 h => ?_)
  refine gd h (fun g2 h => ?_)
  refine Ev_blk 7 (pc' := if v1 = (nI 0) then 55 else 62) (ls' := [.ref v0, .int v1, .int w0]) (st' := []) (s' := setI s (sR s v0 0) 1 (nI 0)) rfl ⟨⟨trivial, g1⟩, g2⟩ ?_
  refine ib h (fun c3 h => ?_) (fun c3 h => ?_)
  · refine Ev_blk 2 (pc' := 58) (ls' := [.ref v0, .int v1, .int w0]) (st' := [.int (-(nI 5)), .ref v0]) (s' := setI s (sR s v0 0) 1 (nI 0)) rfl trivial ?_
    refine bd h (fun r1 hr1 h => ?_)
    refine Ev_call 2 13 1 [.ref v0, .int (-(nI 5))] [] rfl rfl rfl rfl g1 rfl rfl (Nat.le_of_ble_eq_true rfl) (t_C_refuse hr1) ?_
    cases h
    exact Ev_ret rfl trivial
  · refine Ev_blk 2 (pc' := if w0 = (nI 0) then 66 else 73) (ls' := [.ref v0, .int v1, .int w0]) (st' := []) (s' := setI s (sR s v0 0) 1 (nI 0)) rfl trivial ?_
    refine ib h (fun c4 h => ?_) (fun c4 h => ?_)
    · refine Ev_blk 2 (pc' := 69) (ls' := [.ref v0, .int v1, .int w0]) (st' := [.int (-(nI 6)), .ref v0]) (s' := setI s (sR s v0 0) 1 (nI 0)) rfl trivial ?_
      refine bd h (fun r2 hr2 h => ?_)
      refine Ev_call 2 13 1 [.ref v0, .int (-(nI 6))] [] rfl rfl rfl rfl g1 rfl rfl (Nat.le_of_ble_eq_true rfl) (t_C_refuse hr2) ?_
      cases h
      exact Ev_ret rfl trivial
    · refine gd h (fun g5 h => ?_)
      refine gd h (fun g6 h => ?_)
      refine Ev_blk 6 (pc' := 85) (ls' := [.ref v0, .int v1, .int w0]) (st' := [.ref (sR s (sR s v0 3) 0), .ref (sR s v0 5), .ref v0]) (s' := setI s (sR s v0 0) 1 (nI 0)) rfl ⟨⟨⟨trivial, g1⟩, g1⟩, g5⟩ ?_
      refine bd h (fun r3 hr3 h => ?_)
      refine Ev_call 2 37 0 [.ref (sR s (sR s v0 3) 0)] [.ref (sR s v0 5), .ref v0] rfl rfl rfl rfl g6 rfl rfl (Nat.le_of_ble_eq_true rfl) (t_Text_trimmed hr3) ?_
      refine gd h (fun g7 h => ?_)
      refine bd h (fun r4 hr4 h => ?_)
      refine Ev_call 2 39 1 [.ref (sR s v0 5), .ref r3.1] [.ref v0] rfl rfl rfl rfl g7 rfl rfl (Nat.le_of_ble_eq_true rfl) (t_Setting_addLaw hr4) ?_
      refine gd h (fun g8 h => ?_)
      refine bd h (fun r5 hr5 h => ?_)
      refine Ev_call 2 14 1 [.ref v0, .int r4.1] [] rfl rfl rfl rfl g8 rfl rfl (Nat.le_of_ble_eq_true rfl) (t_C_told hr5) ?_
      cases h
      exact Ev_ret rfl trivial
def b_C_law_41  (v0 : Nat) (v1 : Int32) (s : AS) : Option (Int32 × AS) :=
  b_C_law_42 v0 v1 (nI 0) s
theorem t_C_law_41   {d2 : Value} {v0 : Nat} {v1 : Int32} {s : AS} {o : Int32 × AS} (h : b_C_law_41  v0 v1 s = some o) : Ev 123 mZ19 41 [.ref v0, .int v1, d2] [] s (some (.int o.1), o.2) := by
  unfold b_C_law_41 at h
  refine Ev_blk 1 (pc' := 42) (ls' := [.ref v0, .int v1, d2]) (st' := [.int (nI 0)]) (s' := s) rfl trivial ?_
  exact t_C_law_42 h
def b_C_law_17  (v0 : Nat) (w0 : Int32) (s : AS) : Option (Int32 × AS) :=
  if w0 = (nI 0) then
    b_C_law_41 v0 w0 s
  else
    if sT s v0 = 1 then
    if sT s (sR s v0 3) = 8 then
    (f_Reader_readAll s (sR s v0 3) (sR s v0 0) (nI 0)).bind fun r1 =>
      b_C_law_42 v0 w0 (if r1.1 = (nI 0) then nI 0 else nI 1) r1.2
    else none
    else none
theorem t_C_law_17   {d1 d2 : Value} {v0 : Nat} {w0 : Int32} {s : AS} {o : Int32 × AS} (h : b_C_law_17  v0 w0 s = some o) : Ev 123 mZ19 17 [.ref v0, d1, d2] [.int w0] s (some (.int o.1), o.2) := by
  unfold b_C_law_17 at h
  refine Ev_blk 3 (pc' := if w0 = (nI 0) then 41 else 22) (ls' := [.ref v0, .int w0, d2]) (st' := []) (s' := s) rfl trivial ?_
  refine ib h (fun c1 h => ?_) (fun c1 h => ?_)
  · exact t_C_law_41 h
  · refine gd h (fun g2 h => ?_)
    refine gd h (fun g3 h => ?_)
    refine Ev_blk 5 (pc' := 31) (ls' := [.ref v0, .int w0, d2]) (st' := [.int (nI 0), .ref (sR s v0 0), .ref (sR s v0 3)]) (s' := s) rfl ⟨⟨trivial, g2⟩, g2⟩ ?_
    refine bd h (fun r1 hr1 h => ?_)
    refine Ev_call 2 20 2 [.ref (sR s v0 3), .ref (sR s v0 0), .int (nI 0)] [] rfl rfl rfl rfl g3 rfl rfl (Nat.le_of_ble_eq_true rfl) (t_Reader_readAll hr1) ?_
    refine Ev_blk 1 (pc' := if r1.1 = (nI 0) then 41 else 37) (ls' := [.ref v0, .int w0, d2]) (st' := []) (s' := r1.2) rfl trivial ?_
    have k4_ : Ev 123 mZ19 42 [.ref v0, .int w0, d2] [.int (if r1.1 = (nI 0) then nI 0 else nI 1)] r1.2 (some (.int o.1), o.2) := by
      exact t_C_law_42 h
    refine icases (fun c5 => ?_) (fun c5 => ?_)
    · exact Ev_blk 1 (pc' := 42) (ls' := [.ref v0, .int w0, d2]) (st' := [.int (nI 0)]) (s' := r1.2) rfl trivial (by simpa only [if_pos c5] using k4_)
    · exact Ev_blk 2 (pc' := 42) (ls' := [.ref v0, .int w0, d2]) (st' := [.int (nI 1)]) (s' := r1.2) rfl trivial (by simpa only [if_neg c5] using k4_)
/-- RecordHeap.law()I -/
def f_C_law (s : AS) (a0 : Nat) : Option (Int32 × AS) :=
  if sT s a0 = 1 then
  if sT s (sR s a0 5) = 11 then
    b_C_law_17 a0 (if (sI s (sR s a0 5) 2) < (nI 6) then nI 1 else nI 0) s
  else none
  else none
theorem t_C_law {s : AS} {a0 : Nat} {o : Int32 × AS} (h : f_C_law s a0 = some o) : Ev 123 mZ19 0 [.ref a0, .retAddr 0, .retAddr 0] [] s (some (.int o.1), o.2) := by
  unfold f_C_law at h
  refine gd h (fun g1 h => ?_)
  refine gd h (fun g2 h => ?_)
  refine Ev_blk 5 (pc' := if (sI s (sR s a0 5) 2) < (nI 6) then 12 else 16) (ls' := [.ref a0, .retAddr 0, .retAddr 0]) (st' := []) (s' := s) rfl ⟨⟨trivial, g1⟩, g2⟩ ?_
  have k3_ : Ev 123 mZ19 17 [.ref a0, .retAddr 0, .retAddr 0] [.int (if (sI s (sR s a0 5) 2) < (nI 6) then nI 1 else nI 0)] s (some (.int o.1), o.2) := by
    exact t_C_law_17 h
  refine icases (fun c4 => ?_) (fun c4 => ?_)
  · exact Ev_blk 2 (pc' := 17) (ls' := [.ref a0, .retAddr 0, .retAddr 0]) (st' := [.int (nI 1)]) (s' := s) rfl trivial (by simpa only [if_pos c4] using k3_)
  · exact Ev_blk 1 (pc' := 17) (ls' := [.ref a0, .retAddr 0, .retAddr 0]) (st' := [.int (nI 0)]) (s' := s) rfl trivial (by simpa only [if_neg c4] using k3_)

/-- RecordHeap$Pages.takeFrom(LRecordHeap$Pages;)V -/
def f_Pages_takeFrom (s : AS) (a0 : Nat) (a1 : Nat) : Option AS :=
  if sT s a1 = 7 then
  if sT s a0 = 7 then
  (cpA s (sR s a1 0) (nI 0) (sR s a0 0) (nI 0) (nI 128)).bind fun r1 =>
  if sT r1 a1 = 7 then
  if sT r1 a0 = 7 then
  (cpA r1 (sR r1 a1 1) (nI 0) (sR r1 a0 1) (nI 0) (nI 128)).bind fun r2 =>
  if sT r2 a1 = 7 then
  if sT r2 a0 = 7 then
  (cpA r2 (sR r2 a1 2) (nI 0) (sR r2 a0 2) (nI 0) (nI 128)).bind fun r3 =>
  if sT r3 a1 = 7 then
  if sT r3 a0 = 7 then
  (cpA r3 (sR r3 a1 3) (nI 0) (sR r3 a0 3) (nI 0) (nI 8)).bind fun r4 =>
  if sT r4 a1 = 7 then
  if sT r4 a0 = 7 then
  (cpA r4 (sR r4 a1 4) (nI 0) (sR r4 a0 4) (nI 0) (nI 8)).bind fun r5 =>
  if sT r5 a1 = 7 then
  if sT r5 a0 = 7 then
  (cpA r5 (sR r5 a1 5) (nI 0) (sR r5 a0 5) (nI 0) (nI 512)).bind fun r6 =>
  some r6
  else none
  else none
  else none
  else none
  else none
  else none
  else none
  else none
  else none
  else none
  else none
  else none
theorem t_Pages_takeFrom {s : AS} {a0 : Nat} {a1 : Nat} {o : AS} (h : f_Pages_takeFrom s a0 a1 = some o) : Ev 0 mZ42 0 [.ref a0, .ref a1] [] s (none, o) := by
  unfold f_Pages_takeFrom at h
  refine gd h (fun g1 h => ?_)
  refine gd h (fun g2 h => ?_)
  refine bd h (fun r1 hr1 h => ?_)
  obtain ⟨gr1, er1⟩ := cpA_inv hr1
  refine Ev_blk 8 (pc' := 16) (ls' := [.ref a0, .ref a1]) (st' := []) (s' := rowI s (sR s a0 0) (va_cpy (sI s (sR s a1 0)) (sI s (sR s a0 0)) (nI 0).toNatClampNeg (nI 0).toNatClampNeg (nI 128).toNatClampNeg)) rfl ⟨⟨⟨trivial, g1⟩, g2⟩, gr1⟩ ?_
  rw [← er1]
  refine gd h (fun g3 h => ?_)
  refine gd h (fun g4 h => ?_)
  refine bd h (fun r2 hr2 h => ?_)
  obtain ⟨gr2, er2⟩ := cpA_inv hr2
  refine Ev_blk 8 (pc' := 32) (ls' := [.ref a0, .ref a1]) (st' := []) (s' := rowI r1 (sR r1 a0 1) (va_cpy (sI r1 (sR r1 a1 1)) (sI r1 (sR r1 a0 1)) (nI 0).toNatClampNeg (nI 0).toNatClampNeg (nI 128).toNatClampNeg)) rfl ⟨⟨⟨trivial, g3⟩, g4⟩, gr2⟩ ?_
  rw [← er2]
  refine gd h (fun g5 h => ?_)
  refine gd h (fun g6 h => ?_)
  refine bd h (fun r3 hr3 h => ?_)
  obtain ⟨gr3, er3⟩ := cpA_inv hr3
  refine Ev_blk 8 (pc' := 48) (ls' := [.ref a0, .ref a1]) (st' := []) (s' := rowI r2 (sR r2 a0 2) (va_cpy (sI r2 (sR r2 a1 2)) (sI r2 (sR r2 a0 2)) (nI 0).toNatClampNeg (nI 0).toNatClampNeg (nI 128).toNatClampNeg)) rfl ⟨⟨⟨trivial, g5⟩, g6⟩, gr3⟩ ?_
  rw [← er3]
  refine gd h (fun g7 h => ?_)
  refine gd h (fun g8 h => ?_)
  refine bd h (fun r4 hr4 h => ?_)
  obtain ⟨gr4, er4⟩ := cpA_inv hr4
  refine Ev_blk 8 (pc' := 63) (ls' := [.ref a0, .ref a1]) (st' := []) (s' := rowI r3 (sR r3 a0 3) (va_cpy (sI r3 (sR r3 a1 3)) (sI r3 (sR r3 a0 3)) (nI 0).toNatClampNeg (nI 0).toNatClampNeg (nI 8).toNatClampNeg)) rfl ⟨⟨⟨trivial, g7⟩, g8⟩, gr4⟩ ?_
  rw [← er4]
  refine gd h (fun g9 h => ?_)
  refine gd h (fun g10 h => ?_)
  refine bd h (fun r5 hr5 h => ?_)
  obtain ⟨gr5, er5⟩ := cpA_inv hr5
  refine Ev_blk 8 (pc' := 78) (ls' := [.ref a0, .ref a1]) (st' := []) (s' := rowI r4 (sR r4 a0 4) (va_cpy (sI r4 (sR r4 a1 4)) (sI r4 (sR r4 a0 4)) (nI 0).toNatClampNeg (nI 0).toNatClampNeg (nI 8).toNatClampNeg)) rfl ⟨⟨⟨trivial, g9⟩, g10⟩, gr5⟩ ?_
  rw [← er5]
  refine gd h (fun g11 h => ?_)
  refine gd h (fun g12 h => ?_)
  refine bd h (fun r6 hr6 h => ?_)
  obtain ⟨gr6, er6⟩ := cpA_inv hr6
  refine Ev_blk 8 (pc' := 94) (ls' := [.ref a0, .ref a1]) (st' := []) (s' := rowI r5 (sR r5 a0 5) (va_cpy (sI r5 (sR r5 a1 5)) (sI r5 (sR r5 a0 5)) (nI 0).toNatClampNeg (nI 0).toNatClampNeg (nI 512).toNatClampNeg)) rfl ⟨⟨⟨trivial, g11⟩, g12⟩, gr6⟩ ?_
  rw [← er6]
  cases h
  exact Ev_ret rfl trivial

