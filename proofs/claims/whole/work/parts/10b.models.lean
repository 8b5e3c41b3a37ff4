/-- RecordHeap$Runner.begin()V -/
def f_Runner_begin (s : AS) (a0 : Nat) : Option AS :=
  if sT s a0 = 10 then
  if sT s (sR s a0 0) = 3 then
  if sT s (sR s a0 4) = 7 then
  (f_Pages_takeFrom s (sR s a0 4) (sR s (sR s a0 0) 2)).bind fun r1 =>
  if sT r1 a0 = 10 then
  if sT r1 (sR r1 a0 3) = 5 then
  some (setI (setI (setI r1 (sR r1 a0 3) 2 (nI 0)) a0 5 (nI 0)) a0 6 (-(nI 1)))
  else none
  else none
  else none
  else none
  else none
theorem t_Runner_begin {s : AS} {a0 : Nat} {o : AS} (h : f_Runner_begin s a0 = some o) : Ev 1 mZ41 0 [.ref a0] [] s (none, o) := by
  unfold f_Runner_begin at h
  refine gd h (fun g1 h => ?_)
  refine gd h (fun g2 h => ?_)
  refine gd h (fun g3 h => ?_)
  refine Ev_blk 5 (pc' := 11) (ls' := [.ref a0]) (st' := [.ref (sR s (sR s a0 0) 2), .ref (sR s a0 4)]) (s' := s) rfl ⟨⟨⟨trivial, g1⟩, g1⟩, g2⟩ ?_
  refine bd h (fun r1 hr1 h => ?_)
  refine Ev_call 2 42 1 [.ref (sR s a0 4), .ref (sR s (sR s a0 0) 2)] [] rfl rfl rfl rfl g3 rfl rfl (Nat.le_of_ble_eq_true rfl) (t_Pages_takeFrom hr1) ?_
  refine gd h (fun g4 h => ?_)
  refine gd h (fun g5 h => ?_)
  refine Ev_blk 10 (pc' := 32) (ls' := [.ref a0]) (st' := []) (s' := setI (setI (setI r1 (sR r1 a0 3) 2 (nI 0)) a0 5 (nI 0)) a0 6 (-(nI 1))) rfl ⟨⟨⟨⟨trivial, g4⟩, g5⟩, g4⟩, g4⟩ ?_
  cases h
  exact Ev_ret rfl trivial

def b_Pages_cellsOfKind_4 (s : AS) (k4 : Nat → Int32 → Int32 → Int32 → Option Int32) (v0 : Nat) (v1 : Int32) (v2 : Int32) (v3 : Int32) : Option Int32 :=
  if v3 < (nI 128) then
    if sT s v0 = 7 then
    if sT s (sR s v0 0) = 20 ∧ inA v3 (sN s (sR s v0 0)) then
    if (sI s (sR s v0 0) v3.toNatClampNeg) = v1 then
      k4 v0 v1 (v2 + nI 1) (v3 + nI 1)
    else
      k4 v0 v1 v2 (v3 + nI 1)
    else none
    else none
  else
    some v2
theorem t_Pages_cellsOfKind_4 {s : AS} {k4 : Nat → Int32 → Int32 → Int32 → Option Int32} (H4 : ∀ {v0 : Nat} {v1 : Int32} {v2 : Int32} {v3 : Int32} {o : Int32}, k4 v0 v1 v2 v3 = some o → Ev 0 mZ46 4 [.ref v0, .int v1, .int v2, .int v3] [] s (some (.int o), s))  {v0 : Nat} {v1 : Int32} {v2 : Int32} {v3 : Int32} {o : Int32} (h : b_Pages_cellsOfKind_4 s k4 v0 v1 v2 v3 = some o) : Ev 0 mZ46 4 [.ref v0, .int v1, .int v2, .int v3] [] s (some (.int o), s) := by
  unfold b_Pages_cellsOfKind_4 at h
  refine Ev_blk 3 (pc' := if v3 < (nI 128) then 11 else 30) (ls' := [.ref v0, .int v1, .int v2, .int v3]) (st' := []) (s' := s) rfl trivial ?_
  refine ib h (fun c1 h => ?_) (fun c1 h => ?_)
  · refine gd h (fun g2 h => ?_)
    refine gd h (fun g3 h => ?_)
    refine Ev_blk 6 (pc' := if (sI s (sR s v0 0) v3.toNatClampNeg) = v1 then 21 else 24) (ls' := [.ref v0, .int v1, .int v2, .int v3]) (st' := []) (s' := s) rfl ⟨⟨trivial, g2⟩, ⟨Or.inl g3.1, g3.2⟩⟩ ?_
    refine ib h (fun c4 h => ?_) (fun c4 h => ?_)
    · refine Ev_blk 3 (pc' := 4) (ls' := [.ref v0, .int v1, .int (v2 + nI 1), .int (v3 + nI 1)]) (st' := []) (s' := s) rfl trivial ?_
      exact H4 h
    · refine Ev_blk 2 (pc' := 4) (ls' := [.ref v0, .int v1, .int v2, .int (v3 + nI 1)]) (st' := []) (s' := s) rfl trivial ?_
      exact H4 h
  · refine Ev_blk 1 (pc' := 31) (ls' := [.ref v0, .int v1, .int v2, .int v3]) (st' := [.int v2]) (s' := s) rfl trivial ?_
    cases h
    exact Ev_ret rfl trivial
def l_Pages_cellsOfKind_4 (s : AS)  : Nat → Nat → Int32 → Int32 → Int32 → Option Int32
  | 0 => fun _ _ _ _ => none
  | n + 1 => b_Pages_cellsOfKind_4 s  (l_Pages_cellsOfKind_4 s  n)
theorem u_Pages_cellsOfKind_4 {s : AS}   {n : Nat} : ∀  {v0 : Nat} {v1 : Int32} {v2 : Int32} {v3 : Int32} {o : Int32}, l_Pages_cellsOfKind_4 s  n v0 v1 v2 v3 = some o → Ev 0 mZ46 4 [.ref v0, .int v1, .int v2, .int v3] [] s (some (.int o), s) := by
  induction n with
  | zero => intros; rename_i h; cases h
  | succ n ih => intros; rename_i h; exact t_Pages_cellsOfKind_4  (fun h => ih h) h
/-- RecordHeap$Pages.cellsOfKind(I)I -/
def f_Pages_cellsOfKind (s : AS) (a0 : Nat) (a1 : Int32) : Option Int32 :=
  l_Pages_cellsOfKind_4 s fuel a0 a1 (nI 0) (nI 0)
theorem t_Pages_cellsOfKind {s : AS} {a0 : Nat} {a1 : Int32} {o : Int32} (h : f_Pages_cellsOfKind s a0 a1 = some o) : Ev 0 mZ46 0 [.ref a0, .int a1, .retAddr 0, .retAddr 0] [] s (some (.int o), s) := by
  unfold f_Pages_cellsOfKind at h
  refine Ev_blk 4 (pc' := 4) (ls' := [.ref a0, .int a1, .int (nI 0), .int (nI 0)]) (st' := []) (s' := s) rfl trivial ?_
  exact u_Pages_cellsOfKind_4 h

/-- RecordHeap$Pages.recordCount()I -/
def f_Pages_recordCount (s : AS) (a0 : Nat) : Option Int32 :=
  if sT s a0 = 7 then
  (f_Pages_cellsOfKind s a0 (nI 1)).bind fun r1 =>
  (f_Pages_cellsOfKind s a0 (nI 2)).bind fun r2 =>
  (f_Pages_cellsOfKind s a0 (nI 4)).bind fun r3 =>
  some ((r1 + r2) + r3)
  else none
theorem t_Pages_recordCount {s : AS} {a0 : Nat} {o : Int32} (h : f_Pages_recordCount s a0 = some o) : Ev 1 mZ45 0 [.ref a0] [] s (some (.int o), s) := by
  unfold f_Pages_recordCount at h
  refine gd h (fun g1 h => ?_)
  refine Ev_blk 2 (pc' := 2) (ls' := [.ref a0]) (st' := [.int (nI 1), .ref a0]) (s' := s) rfl trivial ?_
  refine bd h (fun r1 hr1 h => ?_)
  refine Ev_call 2 46 1 [.ref a0, .int (nI 1)] [] rfl rfl rfl rfl g1 rfl rfl (Nat.le_of_ble_eq_true rfl) (t_Pages_cellsOfKind hr1) ?_
  refine Ev_blk 2 (pc' := 7) (ls' := [.ref a0]) (st' := [.int (nI 2), .ref a0, .int r1]) (s' := s) rfl trivial ?_
  refine bd h (fun r2 hr2 h => ?_)
  refine Ev_call 2 46 1 [.ref a0, .int (nI 2)] [.int r1] rfl rfl rfl rfl g1 rfl rfl (Nat.le_of_ble_eq_true rfl) (t_Pages_cellsOfKind hr2) ?_
  refine Ev_blk 3 (pc' := 13) (ls' := [.ref a0]) (st' := [.int (nI 4), .ref a0, .int (r1 + r2)]) (s' := s) rfl trivial ?_
  refine bd h (fun r3 hr3 h => ?_)
  refine Ev_call 2 46 1 [.ref a0, .int (nI 4)] [.int (r1 + r2)] rfl rfl rfl rfl g1 rfl rfl (Nat.le_of_ble_eq_true rfl) (t_Pages_cellsOfKind hr3) ?_
  refine Ev_blk 1 (pc' := 17) (ls' := [.ref a0]) (st' := [.int ((r1 + r2) + r3)]) (s' := s) rfl trivial ?_
  cases h
  exact Ev_ret rfl trivial

def b_Pages_freeOf_14 (s : AS) (k14 : Nat → Int32 → Int32 → Int32 → Option Int32) (v0 : Nat) (v1 : Int32) (v2 : Int32) (v3 : Int32) : Option Int32 :=
  if sT s v0 = 7 then
  if sT s (sR s v0 3) = 20 ∧ inA v1 (sN s (sR s v0 3)) then
  if v3 < (sI s (sR s v0 3) v1.toNatClampNeg) then
    if sT s (sR s v0 2) = 20 ∧ inA ((v1 * (nI 16)) + v3) (sN s (sR s v0 2)) then
    k14 v0 v1 (v2 - (sI s (sR s v0 2) ((v1 * (nI 16)) + v3).toNatClampNeg)) (v3 + nI 1)
    else none
  else
    some v2
  else none
  else none
theorem t_Pages_freeOf_14 {s : AS} {k14 : Nat → Int32 → Int32 → Int32 → Option Int32} (H14 : ∀ {v0 : Nat} {v1 : Int32} {v2 : Int32} {v3 : Int32} {o : Int32}, k14 v0 v1 v2 v3 = some o → Ev 0 mZ47 14 [.ref v0, .int v1, .int v2, .int v3] [] s (some (.int o), s))  {v0 : Nat} {v1 : Int32} {v2 : Int32} {v3 : Int32} {o : Int32} (h : b_Pages_freeOf_14 s k14 v0 v1 v2 v3 = some o) : Ev 0 mZ47 14 [.ref v0, .int v1, .int v2, .int v3] [] s (some (.int o), s) := by
  unfold b_Pages_freeOf_14 at h
  refine gd h (fun g1 h => ?_)
  refine gd h (fun g2 h => ?_)
  refine Ev_blk 6 (pc' := if v3 < (sI s (sR s v0 3) v1.toNatClampNeg) then 24 else 44) (ls' := [.ref v0, .int v1, .int v2, .int v3]) (st' := []) (s' := s) rfl ⟨⟨trivial, g1⟩, ⟨Or.inl g2.1, g2.2⟩⟩ ?_
  refine ib h (fun c3 h => ?_) (fun c3 h => ?_)
  · refine gd h (fun g4 h => ?_)
    refine Ev_blk 13 (pc' := 14) (ls' := [.ref v0, .int v1, .int (v2 - (sI s (sR s v0 2) ((v1 * (nI 16)) + v3).toNatClampNeg)), .int (v3 + nI 1)]) (st' := []) (s' := s) rfl ⟨⟨trivial, g1⟩, ⟨Or.inl g4.1, g4.2⟩⟩ ?_
    exact H14 h
  · refine Ev_blk 1 (pc' := 45) (ls' := [.ref v0, .int v1, .int v2, .int v3]) (st' := [.int v2]) (s' := s) rfl trivial ?_
    cases h
    exact Ev_ret rfl trivial
def l_Pages_freeOf_14 (s : AS)  : Nat → Nat → Int32 → Int32 → Int32 → Option Int32
  | 0 => fun _ _ _ _ => none
  | n + 1 => b_Pages_freeOf_14 s  (l_Pages_freeOf_14 s  n)
theorem u_Pages_freeOf_14 {s : AS}   {n : Nat} : ∀  {v0 : Nat} {v1 : Int32} {v2 : Int32} {v3 : Int32} {o : Int32}, l_Pages_freeOf_14 s  n v0 v1 v2 v3 = some o → Ev 0 mZ47 14 [.ref v0, .int v1, .int v2, .int v3] [] s (some (.int o), s) := by
  induction n with
  | zero => intros; rename_i h; cases h
  | succ n ih => intros; rename_i h; exact t_Pages_freeOf_14  (fun h => ih h) h
/-- RecordHeap$Pages.freeOf(I)I -/
def f_Pages_freeOf (s : AS) (a0 : Nat) (a1 : Int32) : Option Int32 :=
  if sT s a0 = 7 then
  if sT s (sR s a0 3) = 20 ∧ inA a1 (sN s (sR s a0 3)) then
  l_Pages_freeOf_14 s fuel a0 a1 ((nI 64) - ((nI 2) * (sI s (sR s a0 3) a1.toNatClampNeg))) (nI 0)
  else none
  else none
theorem t_Pages_freeOf {s : AS} {a0 : Nat} {a1 : Int32} {o : Int32} (h : f_Pages_freeOf s a0 a1 = some o) : Ev 0 mZ47 0 [.ref a0, .int a1, .retAddr 0, .retAddr 0] [] s (some (.int o), s) := by
  unfold f_Pages_freeOf at h
  refine gd h (fun g1 h => ?_)
  refine gd h (fun g2 h => ?_)
  refine Ev_blk 11 (pc' := 14) (ls' := [.ref a0, .int a1, .int ((nI 64) - ((nI 2) * (sI s (sR s a0 3) a1.toNatClampNeg))), .int (nI 0)]) (st' := []) (s' := s) rfl ⟨⟨trivial, g1⟩, ⟨Or.inl g2.1, g2.2⟩⟩ ?_
  exact u_Pages_freeOf_14 h

def b_Runner_fillWords_72 (k72 : Nat → Int32 → AS → Option AS) (v0 : Nat) (v1 : Int32) (s : AS) : Option AS :=
  if v1 < (nI 8) then
    if sT s v0 = 10 then
    if sT s (sR s v0 1) = 6 then
    if sT s (sR s v0 0) = 3 then
    if sT s (sR s (sR s v0 0) 2) = 7 then
    (f_Pages_freeOf s (sR s (sR s v0 0) 2) v1).bind fun r1 =>
    if sT s (sR s (sR s v0 1) 0) = 21 ∧ inA ((nI 4) + v1) (sN s (sR s (sR s v0 1) 0)) then
    if sT s (sR s (sR s (sR s v0 0) 2) 4) = 20 ∧ inA v1 (sN s (sR s (sR s (sR s v0 0) 2) 4)) then
    if sT s (sR s (sR s v0 1) 0) = 21 ∧ inA ((nI 12) + v1) (sN s (sR s (sR s v0 1) 0)) then
    k72 v0 (v1 + nI 1) (setJ (setJ s (sR s (sR s v0 1) 0) ((nI 4) + v1).toNatClampNeg r1.toInt64) (sR s (sR s v0 1) 0) ((nI 12) + v1).toNatClampNeg ((sI s (sR s (sR s (sR s v0 0) 2) 4) v1.toNatClampNeg).toInt64))
    else none
    else none
    else none
    else none
    else none
    else none
    else none
  else
    some s
theorem t_Runner_fillWords_72 {k72 : Nat → Int32 → AS → Option AS} (H72 : ∀ {v0 : Nat} {v1 : Int32} {s : AS} {o : AS}, k72 v0 v1 s = some o → Ev 2 mZ44 72 [.ref v0, .int v1] [] s (none, o))  {v0 : Nat} {v1 : Int32} {s : AS} {o : AS} (h : b_Runner_fillWords_72 k72 v0 v1 s = some o) : Ev 2 mZ44 72 [.ref v0, .int v1] [] s (none, o) := by
  unfold b_Runner_fillWords_72 at h
  refine Ev_blk 3 (pc' := if v1 < (nI 8) then 78 else 132) (ls' := [.ref v0, .int v1]) (st' := []) (s' := s) rfl trivial ?_
  refine ib h (fun c1 h => ?_) (fun c1 h => ?_)
  · refine gd h (fun g2 h => ?_)
    refine gd h (fun g3 h => ?_)
    refine gd h (fun g4 h => ?_)
    refine gd h (fun g5 h => ?_)
    refine Ev_blk 10 (pc' := 96) (ls' := [.ref v0, .int v1]) (st' := [.int v1, .ref (sR s (sR s v0 0) 2), .int ((nI 4) + v1), .ref (sR s (sR s v0 1) 0)]) (s' := s) rfl ⟨⟨⟨⟨trivial, g2⟩, g3⟩, g2⟩, g4⟩ ?_
    refine bd h (fun r1 hr1 h => ?_)
    refine Ev_call 2 47 1 [.ref (sR s (sR s v0 0) 2), .int v1] [.int ((nI 4) + v1), .ref (sR s (sR s v0 1) 0)] rfl rfl rfl rfl g5 rfl rfl (Nat.le_of_ble_eq_true rfl) (t_Pages_freeOf hr1) ?_
    refine gd h (fun g6 h => ?_)
    refine gd h (fun g7 h => ?_)
    refine gd h (fun g8 h => ?_)
    refine Ev_blk 18 (pc' := 72) (ls' := [.ref v0, .int (v1 + nI 1)]) (st' := []) (s' := setJ (setJ s (sR s (sR s v0 1) 0) ((nI 4) + v1).toNatClampNeg r1.toInt64) (sR s (sR s v0 1) 0) ((nI 12) + v1).toNatClampNeg ((sI s (sR s (sR s (sR s v0 0) 2) 4) v1.toNatClampNeg).toInt64)) rfl ⟨⟨⟨⟨⟨⟨⟨⟨trivial, g6⟩, g2⟩, g3⟩, g2⟩, g4⟩, g5⟩, ⟨Or.inl g7.1, g7.2⟩⟩, g8⟩ ?_
    exact H72 h
  · cases h
    exact Ev_ret rfl trivial
def l_Runner_fillWords_72  : Nat → Nat → Int32 → AS → Option AS
  | 0 => fun _ _ _ => none
  | n + 1 => b_Runner_fillWords_72  (l_Runner_fillWords_72  n)
theorem u_Runner_fillWords_72   {n : Nat} : ∀  {v0 : Nat} {v1 : Int32} {s : AS} {o : AS}, l_Runner_fillWords_72  n v0 v1 s = some o → Ev 2 mZ44 72 [.ref v0, .int v1] [] s (none, o) := by
  induction n with
  | zero => intros; rename_i h; cases h
  | succ n ih => intros; rename_i h; exact t_Runner_fillWords_72  (fun h => ih h) h
/-- RecordHeap$Runner.fillWords()V -/
def f_Runner_fillWords (s : AS) (a0 : Nat) : Option AS :=
  if sT s a0 = 10 then
  if sT s (sR s a0 1) = 6 then
  if sT s (sR s a0 0) = 3 then
  if sT s (sR s (sR s a0 0) 0) = 11 then
  if sT s (sR s (sR s (sR s a0 0) 0) 0) = 20 ∧ inA (nI 0) (sN s (sR s (sR s (sR s a0 0) 0) 0)) then
  if sT s (sR s (sR s a0 1) 0) = 21 ∧ inA (nI 0) (sN s (sR s (sR s a0 1) 0)) then
  if sT s (sR s (sR s a0 1) 0) = 21 ∧ inA (nI 1) (sN s (sR s (sR s a0 1) 0)) then
  if sT s (sR s (sR s a0 1) 0) = 21 ∧ inA (nI 2) (sN s (sR s (sR s a0 1) 0)) then
  if sT s (sR s (sR s a0 0) 2) = 7 then
  (f_Pages_recordCount (setJ (setJ (setJ s (sR s (sR s a0 1) 0) (nI 0).toNatClampNeg ((sI s (sR s (sR s (sR s a0 0) 0) 0) (nI 0).toNatClampNeg).toInt64)) (sR s (sR s a0 1) 0) (nI 1).toNatClampNeg ((sI s a0 5).toInt64)) (sR s (sR s a0 1) 0) (nI 2).toNatClampNeg ((sI s a0 6).toInt64)) (sR s (sR s a0 0) 2)).bind fun r1 =>
  if sT s (sR s (sR s a0 1) 0) = 21 ∧ inA (nI 3) (sN s (sR s (sR s a0 1) 0)) then
  l_Runner_fillWords_72 fuel a0 (nI 0) (setJ (setJ (setJ (setJ s (sR s (sR s a0 1) 0) (nI 0).toNatClampNeg ((sI s (sR s (sR s (sR s a0 0) 0) 0) (nI 0).toNatClampNeg).toInt64)) (sR s (sR s a0 1) 0) (nI 1).toNatClampNeg ((sI s a0 5).toInt64)) (sR s (sR s a0 1) 0) (nI 2).toNatClampNeg ((sI s a0 6).toInt64)) (sR s (sR s a0 1) 0) (nI 3).toNatClampNeg r1.toInt64)
  else none
  else none
  else none
  else none
  else none
  else none
  else none
  else none
  else none
  else none
theorem t_Runner_fillWords {s : AS} {a0 : Nat} {o : AS} (h : f_Runner_fillWords s a0 = some o) : Ev 2 mZ44 0 [.ref a0, .retAddr 0] [] s (none, o) := by
  unfold f_Runner_fillWords at h
  refine gd h (fun g1 h => ?_)
  refine gd h (fun g2 h => ?_)
  refine gd h (fun g3 h => ?_)
  refine gd h (fun g4 h => ?_)
  refine gd h (fun g5 h => ?_)
  refine gd h (fun g6 h => ?_)
  refine gd h (fun g7 h => ?_)
  refine gd h (fun g8 h => ?_)
  refine gd h (fun g9 h => ?_)
  refine Ev_blk 35 (pc' := 65) (ls' := [.ref a0, .retAddr 0]) (st' := [.ref (sR s (sR s a0 0) 2), .int (nI 3), .ref (sR s (sR s a0 1) 0)]) (s' := setJ (setJ (setJ s (sR s (sR s a0 1) 0) (nI 0).toNatClampNeg ((sI s (sR s (sR s (sR s a0 0) 0) 0) (nI 0).toNatClampNeg).toInt64)) (sR s (sR s a0 1) 0) (nI 1).toNatClampNeg ((sI s a0 5).toInt64)) (sR s (sR s a0 1) 0) (nI 2).toNatClampNeg ((sI s a0 6).toInt64)) rfl ⟨⟨⟨⟨⟨⟨⟨⟨⟨⟨⟨⟨⟨⟨⟨⟨⟨⟨⟨trivial, g1⟩, g2⟩, g1⟩, g3⟩, g4⟩, ⟨Or.inl g5.1, g5.2⟩⟩, g6⟩, g1⟩, g2⟩, g1⟩, g7⟩, g1⟩, g2⟩, g1⟩, g8⟩, g1⟩, g2⟩, g1⟩, g3⟩ ?_
  refine bd h (fun r1 hr1 h => ?_)
  refine Ev_call 2 45 0 [.ref (sR s (sR s a0 0) 2)] [.int (nI 3), .ref (sR s (sR s a0 1) 0)] rfl rfl rfl rfl g9 rfl rfl (Nat.le_of_ble_eq_true rfl) (t_Pages_recordCount hr1) ?_
  refine gd h (fun g10 h => ?_)
  refine Ev_blk 4 (pc' := 72) (ls' := [.ref a0, .int (nI 0)]) (st' := []) (s' := setJ (setJ (setJ (setJ s (sR s (sR s a0 1) 0) (nI 0).toNatClampNeg ((sI s (sR s (sR s (sR s a0 0) 0) 0) (nI 0).toNatClampNeg).toInt64)) (sR s (sR s a0 1) 0) (nI 1).toNatClampNeg ((sI s a0 5).toInt64)) (sR s (sR s a0 1) 0) (nI 2).toNatClampNeg ((sI s a0 6).toInt64)) (sR s (sR s a0 1) 0) (nI 3).toNatClampNeg r1.toInt64) rfl ⟨trivial, g10⟩ ?_
  exact u_Runner_fillWords_72 h

def b_Machine_joined_157 (s : AS)  (v5 : Int64) : Option Int64 :=
    some (if (lg_cmp v5 (-1000000000 : Int64)) < (nI 0) then (-9000000000000000000 : Int64) else (if (nI 0) < (lg_cmp v5 (lN 1000000000)) then (-9000000000000000000 : Int64) else v5))
theorem t_Machine_joined_157 {s : AS}   {d0 d1 d2 d3 d4 d6 : Value} {v5 : Int64} {o : Int64} (h : b_Machine_joined_157 s  v5 = some o) : Ev 0 mZ49 157 [d0, d1, d2, d3, d4, .long v5, d6] [] s (some (.long o), s) := by
  unfold b_Machine_joined_157 at h
  refine Ev_blk 4 (pc' := if (lg_cmp v5 (-1000000000 : Int64)) < (nI 0) then 175 else 166) (ls' := [d0, d1, d2, d3, d4, .long v5, d6]) (st' := []) (s' := s) rfl trivial ?_
  have k1_ : Ev 0 mZ49 183 [d0, d1, d2, d3, d4, .long v5, d6] [.long (if (lg_cmp v5 (-1000000000 : Int64)) < (nI 0) then (-9000000000000000000 : Int64) else (if (nI 0) < (lg_cmp v5 (lN 1000000000)) then (-9000000000000000000 : Int64) else v5))] s (some (.long o), s) := by
    cases h
    exact Ev_ret rfl trivial
  refine icases (fun c2 => ?_) (fun c2 => ?_)
  · exact Ev_blk 2 (pc' := 183) (ls' := [d0, d1, d2, d3, d4, .long v5, d6]) (st' := [.long (-9000000000000000000 : Int64)]) (s' := s) rfl trivial (by simpa only [if_pos c2] using k1_)
  · refine Ev_blk 4 (pc' := if (nI 0) < (lg_cmp v5 (lN 1000000000)) then 175 else 181) (ls' := [d0, d1, d2, d3, d4, .long v5, d6]) (st' := []) (s' := s) rfl trivial ?_
    refine icases (fun c3 => ?_) (fun c3 => ?_)
    · exact Ev_blk 2 (pc' := 183) (ls' := [d0, d1, d2, d3, d4, .long v5, d6]) (st' := [.long (-9000000000000000000 : Int64)]) (s' := s) rfl trivial (by simpa only [if_neg c2, if_pos c3] using k1_)
    · exact Ev_blk 1 (pc' := 183) (ls' := [d0, d1, d2, d3, d4, .long v5, d6]) (st' := [.long v5]) (s' := s) rfl trivial (by simpa only [if_neg c2, if_neg c3] using k1_)
def b_Machine_joined_155 (s : AS)  (w0 : Int64) : Option Int64 :=
  b_Machine_joined_157 s w0
theorem t_Machine_joined_155 {s : AS}   {d0 d1 d2 d3 d4 d5 d6 : Value} {w0 : Int64} {o : Int64} (h : b_Machine_joined_155 s  w0 = some o) : Ev 0 mZ49 155 [d0, d1, d2, d3, d4, d5, d6] [.long w0] s (some (.long o), s) := by
  unfold b_Machine_joined_155 at h
  refine Ev_blk 1 (pc' := 157) (ls' := [d0, d1, d2, d3, (clrV d4), .long w0, .retAddr 0]) (st' := []) (s' := s) rfl trivial ?_
  exact t_Machine_joined_157 h
def b_Machine_joined_139 (s : AS)  (w0 : Int64) : Option Int64 :=
  b_Machine_joined_157 s w0
theorem t_Machine_joined_139 {s : AS}   {d0 d1 d2 d3 d4 d5 d6 : Value} {w0 : Int64} {o : Int64} (h : b_Machine_joined_139 s  w0 = some o) : Ev 0 mZ49 139 [d0, d1, d2, d3, d4, d5, d6] [.long w0] s (some (.long o), s) := by
  unfold b_Machine_joined_139 at h
  refine Ev_blk 2 (pc' := 157) (ls' := [d0, d1, d2, d3, (clrV d4), .long w0, .retAddr 0]) (st' := []) (s' := s) rfl trivial ?_
  exact t_Machine_joined_157 h
def b_Machine_joined_123 (s : AS)  (w0 : Int64) : Option Int64 :=
  b_Machine_joined_157 s w0
theorem t_Machine_joined_123 {s : AS}   {d0 d1 d2 d3 d4 d5 d6 : Value} {w0 : Int64} {o : Int64} (h : b_Machine_joined_123 s  w0 = some o) : Ev 0 mZ49 123 [d0, d1, d2, d3, d4, d5, d6] [.long w0] s (some (.long o), s) := by
  unfold b_Machine_joined_123 at h
  refine Ev_blk 2 (pc' := 157) (ls' := [d0, d1, d2, d3, (clrV d4), .long w0, .retAddr 0]) (st' := []) (s' := s) rfl trivial ?_
  exact t_Machine_joined_157 h
def b_Machine_joined_107 (s : AS)  (w0 : Int64) : Option Int64 :=
  b_Machine_joined_157 s w0
theorem t_Machine_joined_107 {s : AS}   {d0 d1 d2 d3 d4 d5 d6 : Value} {w0 : Int64} {o : Int64} (h : b_Machine_joined_107 s  w0 = some o) : Ev 0 mZ49 107 [d0, d1, d2, d3, d4, d5, d6] [.long w0] s (some (.long o), s) := by
  unfold b_Machine_joined_107 at h
  refine Ev_blk 2 (pc' := 157) (ls' := [d0, d1, d2, d3, (clrV d4), .long w0, .retAddr 0]) (st' := []) (s' := s) rfl trivial ?_
  exact t_Machine_joined_157 h
def b_Machine_joined_87 (s : AS)  (w0 : Int64) : Option Int64 :=
  b_Machine_joined_157 s w0
theorem t_Machine_joined_87 {s : AS}   {d0 d1 d2 d3 d4 d5 d6 : Value} {w0 : Int64} {o : Int64} (h : b_Machine_joined_87 s  w0 = some o) : Ev 0 mZ49 87 [d0, d1, d2, d3, d4, d5, d6] [.long w0] s (some (.long o), s) := by
  unfold b_Machine_joined_87 at h
  refine Ev_blk 2 (pc' := 157) (ls' := [d0, d1, d2, d3, (clrV d4), .long w0, .retAddr 0]) (st' := []) (s' := s) rfl trivial ?_
  exact t_Machine_joined_157 h
/-- RecordHeap$Machine.joined(IJJ)J -/
def f_Machine_joined (s : AS) (a0 : Int32) (a1 : Int64) (a2 : Int64) : Option Int64 :=
  if a0 = nI 2 then
    b_Machine_joined_157 s (a1 + a2)
  else
  if a0 = nI 3 then
    b_Machine_joined_157 s (a1 - a2)
  else
  if a0 = nI 4 then
    b_Machine_joined_157 s (a1 * a2)
  else
  if a0 = nI 5 then
    if (lg_cmp a2 (lN 0)) = (nI 0) then
      b_Machine_joined_87 s (-9000000000000000000 : Int64)
    else
      if ¬ a2 = lN 0 then
      b_Machine_joined_87 s (a1 / a2)
      else none
  else
  if a0 = nI 6 then
    if (lg_cmp a2 (lN 0)) = (nI 0) then
      b_Machine_joined_107 s (-9000000000000000000 : Int64)
    else
      if ¬ a2 = lN 0 then
      b_Machine_joined_107 s (a1 - a1 / a2 * a2)
      else none
  else
  if a0 = nI 7 then
      b_Machine_joined_123 s (if (lg_cmp a1 a2) < (nI 0) then lN 1 else lN 0)
  else
  if a0 = nI 8 then
      b_Machine_joined_139 s (if (nI 0) < (lg_cmp a1 a2) then lN 1 else lN 0)
  else
    b_Machine_joined_155 s (if (lg_cmp a1 a2) = (nI 0) then lN 1 else lN 0)
theorem t_Machine_joined {s : AS} {a0 : Int32} {a1 : Int64} {a2 : Int64} {o : Int64} (h : f_Machine_joined s a0 a1 a2 = some o) : Ev 0 mZ49 0 [.int a0, .long a1, .retAddr 0, .long a2, .retAddr 0, .retAddr 0, .retAddr 0] [] s (some (.long o), s) := by
  unfold f_Machine_joined at h
  refine Ev_blk 4 (pc' := if a0 = nI 2 then 48 else if a0 = nI 3 then 56 else if a0 = nI 4 then 64 else if a0 = nI 5 then 72 else if a0 = nI 6 then 92 else if a0 = nI 7 then 112 else if a0 = nI 8 then 128 else 144) (ls' := [.int a0, .long a1, .retAddr 0, .long a2, .retAddr 0, .long (-9000000000000000000 : Int64), .retAddr 0]) (st' := []) (s' := s) rfl trivial ?_
  refine ib h (fun c1 h => ?_) (fun c1 h => ?_)
  · refine Ev_blk 5 (pc' := 157) (ls' := [.int a0, .long a1, .retAddr 0, .long a2, .retAddr 0, .long (a1 + a2), .retAddr 0]) (st' := []) (s' := s) rfl trivial ?_
    exact t_Machine_joined_157 h
  refine ib h (fun c2 h => ?_) (fun c2 h => ?_)
  · refine Ev_blk 5 (pc' := 157) (ls' := [.int a0, .long a1, .retAddr 0, .long a2, .retAddr 0, .long (a1 - a2), .retAddr 0]) (st' := []) (s' := s) rfl trivial ?_
    exact t_Machine_joined_157 h
  refine ib h (fun c3 h => ?_) (fun c3 h => ?_)
  · refine Ev_blk 5 (pc' := 157) (ls' := [.int a0, .long a1, .retAddr 0, .long a2, .retAddr 0, .long (a1 * a2), .retAddr 0]) (st' := []) (s' := s) rfl trivial ?_
    exact t_Machine_joined_157 h
  refine ib h (fun c4 h => ?_) (fun c4 h => ?_)
  · refine Ev_blk 4 (pc' := if (lg_cmp a2 (lN 0)) = (nI 0) then 78 else 84) (ls' := [.int a0, .long a1, .retAddr 0, .long a2, .retAddr 0, .long (-9000000000000000000 : Int64), .retAddr 0]) (st' := []) (s' := s) rfl trivial ?_
    refine ib h (fun c5 h => ?_) (fun c5 h => ?_)
    · refine Ev_blk 2 (pc' := 87) (ls' := [.int a0, .long a1, .retAddr 0, .long a2, .retAddr 0, .long (-9000000000000000000 : Int64), .retAddr 0]) (st' := [.long (-9000000000000000000 : Int64)]) (s' := s) rfl trivial ?_
      exact t_Machine_joined_87 h
    · refine gd h (fun g6 h => ?_)
      refine Ev_blk 3 (pc' := 87) (ls' := [.int a0, .long a1, .retAddr 0, .long a2, .retAddr 0, .long (-9000000000000000000 : Int64), .retAddr 0]) (st' := [.long (a1 / a2)]) (s' := s) rfl ⟨trivial, g6⟩ ?_
      exact t_Machine_joined_87 h
  refine ib h (fun c7 h => ?_) (fun c7 h => ?_)
  · refine Ev_blk 4 (pc' := if (lg_cmp a2 (lN 0)) = (nI 0) then 98 else 104) (ls' := [.int a0, .long a1, .retAddr 0, .long a2, .retAddr 0, .long (-9000000000000000000 : Int64), .retAddr 0]) (st' := []) (s' := s) rfl trivial ?_
    refine ib h (fun c8 h => ?_) (fun c8 h => ?_)
    · refine Ev_blk 2 (pc' := 107) (ls' := [.int a0, .long a1, .retAddr 0, .long a2, .retAddr 0, .long (-9000000000000000000 : Int64), .retAddr 0]) (st' := [.long (-9000000000000000000 : Int64)]) (s' := s) rfl trivial ?_
      exact t_Machine_joined_107 h
    · refine gd h (fun g9 h => ?_)
      refine Ev_blk 3 (pc' := 107) (ls' := [.int a0, .long a1, .retAddr 0, .long a2, .retAddr 0, .long (-9000000000000000000 : Int64), .retAddr 0]) (st' := [.long (a1 - a1 / a2 * a2)]) (s' := s) rfl ⟨trivial, g9⟩ ?_
      exact t_Machine_joined_107 h
  refine ib h (fun c10 h => ?_) (fun c10 h => ?_)
  · refine Ev_blk 4 (pc' := if (lg_cmp a1 a2) < (nI 0) then 118 else 122) (ls' := [.int a0, .long a1, .retAddr 0, .long a2, .retAddr 0, .long (-9000000000000000000 : Int64), .retAddr 0]) (st' := []) (s' := s) rfl trivial ?_
    have k11_ : Ev 0 mZ49 123 [.int a0, .long a1, .retAddr 0, .long a2, .retAddr 0, .long (-9000000000000000000 : Int64), .retAddr 0] [.long (if (lg_cmp a1 a2) < (nI 0) then lN 1 else lN 0)] s (some (.long o), s) := by
      exact t_Machine_joined_123 h
    refine icases (fun c12 => ?_) (fun c12 => ?_)
    · exact Ev_blk 2 (pc' := 123) (ls' := [.int a0, .long a1, .retAddr 0, .long a2, .retAddr 0, .long (-9000000000000000000 : Int64), .retAddr 0]) (st' := [.long (lN 1)]) (s' := s) rfl trivial (by simpa only [if_pos c12] using k11_)
    · exact Ev_blk 1 (pc' := 123) (ls' := [.int a0, .long a1, .retAddr 0, .long a2, .retAddr 0, .long (-9000000000000000000 : Int64), .retAddr 0]) (st' := [.long (lN 0)]) (s' := s) rfl trivial (by simpa only [if_neg c12] using k11_)
  refine ib h (fun c13 h => ?_) (fun c13 h => ?_)
  · refine Ev_blk 4 (pc' := if (nI 0) < (lg_cmp a1 a2) then 134 else 138) (ls' := [.int a0, .long a1, .retAddr 0, .long a2, .retAddr 0, .long (-9000000000000000000 : Int64), .retAddr 0]) (st' := []) (s' := s) rfl trivial ?_
    have k14_ : Ev 0 mZ49 139 [.int a0, .long a1, .retAddr 0, .long a2, .retAddr 0, .long (-9000000000000000000 : Int64), .retAddr 0] [.long (if (nI 0) < (lg_cmp a1 a2) then lN 1 else lN 0)] s (some (.long o), s) := by
      exact t_Machine_joined_139 h
    refine icases (fun c15 => ?_) (fun c15 => ?_)
    · exact Ev_blk 2 (pc' := 139) (ls' := [.int a0, .long a1, .retAddr 0, .long a2, .retAddr 0, .long (-9000000000000000000 : Int64), .retAddr 0]) (st' := [.long (lN 1)]) (s' := s) rfl trivial (by simpa only [if_pos c15] using k14_)
    · exact Ev_blk 1 (pc' := 139) (ls' := [.int a0, .long a1, .retAddr 0, .long a2, .retAddr 0, .long (-9000000000000000000 : Int64), .retAddr 0]) (st' := [.long (lN 0)]) (s' := s) rfl trivial (by simpa only [if_neg c15] using k14_)
  refine Ev_blk 4 (pc' := if (lg_cmp a1 a2) = (nI 0) then 150 else 154) (ls' := [.int a0, .long a1, .retAddr 0, .long a2, .retAddr 0, .long (-9000000000000000000 : Int64), .retAddr 0]) (st' := []) (s' := s) rfl trivial ?_
  have k16_ : Ev 0 mZ49 155 [.int a0, .long a1, .retAddr 0, .long a2, .retAddr 0, .long (-9000000000000000000 : Int64), .retAddr 0] [.long (if (lg_cmp a1 a2) = (nI 0) then lN 1 else lN 0)] s (some (.long o), s) := by
    exact t_Machine_joined_155 h
  refine icases (fun c17 => ?_) (fun c17 => ?_)
  · exact Ev_blk 2 (pc' := 155) (ls' := [.int a0, .long a1, .retAddr 0, .long a2, .retAddr 0, .long (-9000000000000000000 : Int64), .retAddr 0]) (st' := [.long (lN 1)]) (s' := s) rfl trivial (by simpa only [if_pos c17] using k16_)
  · exact Ev_blk 1 (pc' := 155) (ls' := [.int a0, .long a1, .retAddr 0, .long a2, .retAddr 0, .long (-9000000000000000000 : Int64), .retAddr 0]) (st' := [.long (lN 0)]) (s' := s) rfl trivial (by simpa only [if_neg c17] using k16_)

def b_Machine_answer_264 (k35 : Nat → Nat → Int32 → Int32 → Int32 → AS → Option (Int64 × AS)) (v0 : Nat) (v1 : Nat) (v5 : Int32) (v6 : Int32) (v7 : Int32) (v9 : Int32) (w0 : Int32) (w1 : Int64) (s : AS) : Option (Int64 × AS) :=
  if (lg_cmp w1 w0.toInt64) = (nI 0) then
    k35 v0 v1 v5 v6 ((if v7 < (v9 - (nI 1)) then (v9 - (nI 1)) else v7) + nI 1) s
  else
    k35 v0 v1 v5 (v6 + (-(nI 1))) (v7 + nI 1) s
theorem t_Machine_answer_264 {k35 : Nat → Nat → Int32 → Int32 → Int32 → AS → Option (Int64 × AS)} (H35 : ∀ {d2 d3 d4 d8 d9 d10 d11 : Value} {v0 : Nat} {v1 : Nat} {v5 : Int32} {v6 : Int32} {v7 : Int32} {s : AS} {o : Int64 × AS}, k35 v0 v1 v5 v6 v7 s = some o → Ev 1 mZ48 35 [.ref v0, .ref v1, d2, d3, d4, .int v5, .int v6, .int v7, d8, d9, d10, d11] [] s (some (.long o.1), o.2)) {d2 d3 d4 d8 d10 d11 : Value} {v0 : Nat} {v1 : Nat} {v5 : Int32} {v6 : Int32} {v7 : Int32} {v9 : Int32} {w0 : Int32} {w1 : Int64} {s : AS} {o : Int64 × AS} (h : b_Machine_answer_264 k35 v0 v1 v5 v6 v7 v9 w0 w1 s = some o) : Ev 1 mZ48 264 [.ref v0, .ref v1, d2, d3, d4, .int v5, .int v6, .int v7, d8, .int v9, d10, d11] [.int w0, .long w1] s (some (.long o.1), o.2) := by
  unfold b_Machine_answer_264 at h
  refine Ev_blk 3 (pc' := if (lg_cmp w1 w0.toInt64) = (nI 0) then 269 else 283) (ls' := [.ref v0, .ref v1, d2, d3, d4, .int v5, .int v6, .int v7, d8, .int v9, d10, d11]) (st' := []) (s' := s) rfl trivial ?_
  refine ib h (fun c1 h => ?_) (fun c1 h => ?_)
  · refine Ev_blk 9 (pc' := 35) (ls' := [.ref v0, .ref v1, d2, d3, d4, .int v5, .int v6, .int ((if v7 < (v9 - (nI 1)) then (v9 - (nI 1)) else v7) + nI 1), d8, .int v9, d10, d11]) (st' := []) (s' := s) rfl trivial ?_
    exact H35 h
  · refine Ev_blk 3 (pc' := 35) (ls' := [.ref v0, .ref v1, d2, d3, d4, .int v5, .int (v6 + (-(nI 1))), .int (v7 + nI 1), d8, .int v9, d10, d11]) (st' := []) (s' := s) rfl trivial ?_
    exact H35 h
def b_Machine_answer_105 (k35 : Nat → Nat → Int32 → Int32 → Int32 → AS → Option (Int64 × AS)) (v0 : Nat) (v1 : Nat) (v5 : Int32) (v6 : Int32) (v7 : Int32) (v8 : Int32) (v9 : Int32) (v10 : Int32) (w0 : Int32) (s : AS) : Option (Int64 × AS) :=
  if v6 < w0 then
    some ((-9000000000000000000 : Int64), s)
  else
    if (v6 + (nI 1)) < (nI 64) then
      if v10 = (nI 0) then
        if v8 = (nI 10) then
          if sT s v0 = 6 then
          if sT s (sR s v0 1) = 21 ∧ inA v6 (sN s (sR s v0 1)) then
          k35 v0 v1 v5 v6 (v7 + nI 1) (setJ s (sR s v0 1) v6.toNatClampNeg ((lN 1) - (sL s (sR s v0 1) v6.toNatClampNeg)))
          else none
          else none
        else
          if v8 < (nI 10) then
            if sT s v0 = 6 then
            if sT s (sR s v0 1) = 21 ∧ inA (v6 + (-(nI 1))) (sN s (sR s v0 1)) then
            if sT s (sR s v0 1) = 21 ∧ inA ((v6 + (-(nI 1))) + (nI 1)) (sN s (sR s v0 1)) then
            (f_Machine_joined s v8 (sL s (sR s v0 1) (v6 + (-(nI 1))).toNatClampNeg) (sL s (sR s v0 1) ((v6 + (-(nI 1))) + (nI 1)).toNatClampNeg)).bind fun r1 =>
            if (lg_cmp (sL (setJ s (sR s v0 1) (v6 + (-(nI 1))).toNatClampNeg r1) (sR s v0 1) (v6 + (-(nI 1))).toNatClampNeg) (-9000000000000000000 : Int64)) = (nI 0) then
              some ((-9000000000000000000 : Int64), setJ s (sR s v0 1) (v6 + (-(nI 1))).toNatClampNeg r1)
            else
              k35 v0 v1 v5 (v6 + (-(nI 1))) (v7 + nI 1) (setJ s (sR s v0 1) (v6 + (-(nI 1))).toNatClampNeg r1)
            else none
            else none
            else none
          else
            if sT s v0 = 6 then
            if sT s (sR s v0 1) = 21 ∧ inA v6 (sN s (sR s v0 1)) then
              b_Machine_answer_264 k35 v0 v1 v5 v6 v7 v9 (if v8 = (nI 11) then nI 0 else nI 1) (sL s (sR s v0 1) v6.toNatClampNeg) s
            else none
            else none
      else
        if sT s v0 = 6 then
        if v8 = (nI 0) then
          if sT s (sR s v0 1) = 21 ∧ inA (v6 + nI 1) (sN s (sR s v0 1)) then
          k35 v0 v1 v5 (v6 + nI 1) (v7 + nI 1) (setJ s (sR s v0 1) (v6 + nI 1).toNatClampNeg v9.toInt64)
          else none
        else
          if sT s (sR s v0 0) = 21 ∧ inA v9 (sN s (sR s v0 0)) then
          if sT s (sR s v0 1) = 21 ∧ inA (v6 + nI 1) (sN s (sR s v0 1)) then
          k35 v0 v1 v5 (v6 + nI 1) (v7 + nI 1) (setJ s (sR s v0 1) (v6 + nI 1).toNatClampNeg (sL s (sR s v0 0) v9.toNatClampNeg))
          else none
          else none
        else none
    else
      some ((-9000000000000000000 : Int64), s)
theorem t_Machine_answer_105 {k35 : Nat → Nat → Int32 → Int32 → Int32 → AS → Option (Int64 × AS)} (H35 : ∀ {d2 d3 d4 d8 d9 d10 d11 : Value} {v0 : Nat} {v1 : Nat} {v5 : Int32} {v6 : Int32} {v7 : Int32} {s : AS} {o : Int64 × AS}, k35 v0 v1 v5 v6 v7 s = some o → Ev 1 mZ48 35 [.ref v0, .ref v1, d2, d3, d4, .int v5, .int v6, .int v7, d8, d9, d10, d11] [] s (some (.long o.1), o.2)) {d2 d3 d4 d11 : Value} {v0 : Nat} {v1 : Nat} {v5 : Int32} {v6 : Int32} {v7 : Int32} {v8 : Int32} {v9 : Int32} {v10 : Int32} {w0 : Int32} {s : AS} {o : Int64 × AS} (h : b_Machine_answer_105 k35 v0 v1 v5 v6 v7 v8 v9 v10 w0 s = some o) : Ev 1 mZ48 105 [.ref v0, .ref v1, d2, d3, d4, .int v5, .int v6, .int v7, .int v8, .int v9, .int v10, d11] [.int w0] s (some (.long o.1), o.2) := by
  unfold b_Machine_answer_105 at h
  refine Ev_blk 4 (pc' := if v6 < w0 then 123 else 114) (ls' := [.ref v0, .ref v1, d2, d3, d4, .int v5, .int v6, .int v7, .int v8, .int v9, .int v10, .int w0]) (st' := []) (s' := s) rfl trivial ?_
  refine ib h (fun c1 h => ?_) (fun c1 h => ?_)
  · refine Ev_blk 1 (pc' := 126) (ls' := [.ref v0, .ref v1, d2, d3, d4, .int v5, .int v6, .int v7, .int v8, .int v9, .int v10, .int w0]) (st' := [.long (-9000000000000000000 : Int64)]) (s' := s) rfl trivial ?_
    cases h
    exact Ev_ret rfl trivial
  · refine Ev_blk 5 (pc' := if (v6 + (nI 1)) < (nI 64) then 127 else 123) (ls' := [.ref v0, .ref v1, d2, d3, d4, .int v5, .int v6, .int v7, .int v8, .int v9, .int v10, .int w0]) (st' := []) (s' := s) rfl trivial ?_
    refine ib h (fun c2 h => ?_) (fun c2 h => ?_)
    · refine Ev_blk 2 (pc' := if v10 = (nI 0) then 163 else 132) (ls' := [.ref v0, .ref v1, d2, d3, d4, .int v5, .int v6, .int v7, .int v8, .int v9, .int v10, .int w0]) (st' := []) (s' := s) rfl trivial ?_
      refine ib h (fun c3 h => ?_) (fun c3 h => ?_)
      · refine Ev_blk 3 (pc' := if v8 = (nI 10) then 170 else 189) (ls' := [.ref v0, .ref v1, d2, d3, d4, .int v5, .int v6, .int v7, .int v8, .int v9, .int v10, .int w0]) (st' := []) (s' := s) rfl trivial ?_
        refine ib h (fun c4 h => ?_) (fun c4 h => ?_)
        · refine gd h (fun g5 h => ?_)
          refine gd h (fun g6 h => ?_)
          refine Ev_blk 13 (pc' := 35) (ls' := [.ref v0, .ref v1, d2, d3, d4, .int v5, .int v6, .int (v7 + nI 1), .int v8, .int v9, .int v10, .int w0]) (st' := []) (s' := setJ s (sR s v0 1) v6.toNatClampNeg ((lN 1) - (sL s (sR s v0 1) v6.toNatClampNeg))) rfl ⟨⟨⟨⟨trivial, g5⟩, g5⟩, g6⟩, g6⟩ ?_
          exact H35 h
        · refine Ev_blk 3 (pc' := if v8 < (nI 10) then 196 else 245) (ls' := [.ref v0, .ref v1, d2, d3, d4, .int v5, .int v6, .int v7, .int v8, .int v9, .int v10, .int w0]) (st' := []) (s' := s) rfl trivial ?_
          refine ib h (fun c7 h => ?_) (fun c7 h => ?_)
          · refine gd h (fun g8 h => ?_)
            refine gd h (fun g9 h => ?_)
            refine gd h (fun g10 h => ?_)
            refine Ev_blk 15 (pc' := 223) (ls' := [.ref v0, .ref v1, d2, d3, d4, .int v5, .int (v6 + (-(nI 1))), .int v7, .int v8, .int v9, .int v10, .int w0]) (st' := [.long (sL s (sR s v0 1) ((v6 + (-(nI 1))) + (nI 1)).toNatClampNeg), .long (sL s (sR s v0 1) (v6 + (-(nI 1))).toNatClampNeg), .int v8, .int (v6 + (-(nI 1))), .ref (sR s v0 1)]) (s' := s) rfl ⟨⟨⟨⟨⟨trivial, g8⟩, g8⟩, g9⟩, g8⟩, g10⟩ ?_
            refine bd h (fun r1 hr1 h => ?_)
            refine Ev_call 1 49 3 [.int v8, .long (sL s (sR s v0 1) (v6 + (-(nI 1))).toNatClampNeg), .long (sL s (sR s v0 1) ((v6 + (-(nI 1))) + (nI 1)).toNatClampNeg)] [.int (v6 + (-(nI 1))), .ref (sR s v0 1)] rfl rfl rfl rfl trivial rfl rfl (Nat.le_of_ble_eq_true rfl) (t_Machine_joined hr1) ?_
            refine Ev_blk 8 (pc' := if (lg_cmp (sL (setJ s (sR s v0 1) (v6 + (-(nI 1))).toNatClampNeg r1) (sR s v0 1) (v6 + (-(nI 1))).toNatClampNeg) (-9000000000000000000 : Int64)) = (nI 0) then 241 else 286) (ls' := [.ref v0, .ref v1, d2, d3, d4, .int v5, .int (v6 + (-(nI 1))), .int v7, .int v8, .int v9, .int v10, .int w0]) (st' := []) (s' := setJ s (sR s v0 1) (v6 + (-(nI 1))).toNatClampNeg r1) rfl ⟨⟨⟨trivial, g9⟩, g8⟩, g9⟩ ?_
            refine ib h (fun c11 h => ?_) (fun c11 h => ?_)
            · refine Ev_blk 1 (pc' := 244) (ls' := [.ref v0, .ref v1, d2, d3, d4, .int v5, .int (v6 + (-(nI 1))), .int v7, .int v8, .int v9, .int v10, .int w0]) (st' := [.long (-9000000000000000000 : Int64)]) (s' := setJ s (sR s v0 1) (v6 + (-(nI 1))).toNatClampNeg r1) rfl trivial ?_
              cases h
              exact Ev_ret rfl trivial
            · refine Ev_blk 2 (pc' := 35) (ls' := [.ref v0, .ref v1, d2, d3, d4, .int v5, .int (v6 + (-(nI 1))), .int (v7 + nI 1), .int v8, .int v9, .int v10, .int w0]) (st' := []) (s' := setJ s (sR s v0 1) (v6 + (-(nI 1))).toNatClampNeg r1) rfl trivial ?_
              exact H35 h
          · refine gd h (fun g12 h => ?_)
            refine gd h (fun g13 h => ?_)
            refine Ev_blk 7 (pc' := if v8 = (nI 11) then 259 else 263) (ls' := [.ref v0, .ref v1, d2, d3, d4, .int v5, .int v6, .int v7, .int v8, .int v9, .int v10, .int w0]) (st' := [.long (sL s (sR s v0 1) v6.toNatClampNeg)]) (s' := s) rfl ⟨⟨trivial, g12⟩, g13⟩ ?_
            have k14_ : Ev 1 mZ48 264 [.ref v0, .ref v1, d2, d3, d4, .int v5, .int v6, .int v7, .int v8, .int v9, .int v10, .int w0] [.int (if v8 = (nI 11) then nI 0 else nI 1), .long (sL s (sR s v0 1) v6.toNatClampNeg)] s (some (.long o.1), o.2) := by
              exact t_Machine_answer_264 H35 h
            refine icases (fun c15 => ?_) (fun c15 => ?_)
            · exact Ev_blk 2 (pc' := 264) (ls' := [.ref v0, .ref v1, d2, d3, d4, .int v5, .int v6, .int v7, .int v8, .int v9, .int v10, .int w0]) (st' := [.int (nI 0), .long (sL s (sR s v0 1) v6.toNatClampNeg)]) (s' := s) rfl trivial (by simpa only [if_pos c15] using k14_)
            · exact Ev_blk 1 (pc' := 264) (ls' := [.ref v0, .ref v1, d2, d3, d4, .int v5, .int v6, .int v7, .int v8, .int v9, .int v10, .int w0]) (st' := [.int (nI 1), .long (sL s (sR s v0 1) v6.toNatClampNeg)]) (s' := s) rfl trivial (by simpa only [if_neg c15] using k14_)
      · refine gd h (fun g16 h => ?_)
        refine Ev_blk 6 (pc' := if v8 = (nI 0) then 146 else 152) (ls' := [.ref v0, .ref v1, d2, d3, d4, .int v5, .int (v6 + nI 1), .int v7, .int v8, .int v9, .int v10, .int w0]) (st' := [.int (v6 + nI 1), .ref (sR s v0 1)]) (s' := s) rfl ⟨trivial, g16⟩ ?_
        refine ib h (fun c17 h => ?_) (fun c17 h => ?_)
        · refine gd h (fun g18 h => ?_)
          refine Ev_blk 7 (pc' := 35) (ls' := [.ref v0, .ref v1, d2, d3, d4, .int v5, .int (v6 + nI 1), .int (v7 + nI 1), .int v8, .int v9, .int v10, .int w0]) (st' := []) (s' := setJ s (sR s v0 1) (v6 + nI 1).toNatClampNeg v9.toInt64) rfl ⟨trivial, g18⟩ ?_
          exact H35 h
        · refine gd h (fun g19 h => ?_)
          refine gd h (fun g20 h => ?_)
          refine Ev_blk 8 (pc' := 35) (ls' := [.ref v0, .ref v1, d2, d3, d4, .int v5, .int (v6 + nI 1), .int (v7 + nI 1), .int v8, .int v9, .int v10, .int w0]) (st' := []) (s' := setJ s (sR s v0 1) (v6 + nI 1).toNatClampNeg (sL s (sR s v0 0) v9.toNatClampNeg)) rfl ⟨⟨⟨trivial, g16⟩, g19⟩, g20⟩ ?_
          exact H35 h
    · refine Ev_blk 1 (pc' := 126) (ls' := [.ref v0, .ref v1, d2, d3, d4, .int v5, .int v6, .int v7, .int v8, .int v9, .int v10, .int w0]) (st' := [.long (-9000000000000000000 : Int64)]) (s' := s) rfl trivial ?_
      cases h
      exact Ev_ret rfl trivial
def b_Machine_answer_82 (k35 : Nat → Nat → Int32 → Int32 → Int32 → AS → Option (Int64 × AS)) (v0 : Nat) (v1 : Nat) (v5 : Int32) (v6 : Int32) (v7 : Int32) (v8 : Int32) (v9 : Int32) (w0 : Int32) (s : AS) : Option (Int64 × AS) :=
    b_Machine_answer_105 k35 v0 v1 v5 v6 v7 v8 v9 w0 (if w0 = (nI 0) then (if v8 < (nI 10) then nI 1 else nI 0) else -(nI 1)) s
theorem t_Machine_answer_82 {k35 : Nat → Nat → Int32 → Int32 → Int32 → AS → Option (Int64 × AS)} (H35 : ∀ {d2 d3 d4 d8 d9 d10 d11 : Value} {v0 : Nat} {v1 : Nat} {v5 : Int32} {v6 : Int32} {v7 : Int32} {s : AS} {o : Int64 × AS}, k35 v0 v1 v5 v6 v7 s = some o → Ev 1 mZ48 35 [.ref v0, .ref v1, d2, d3, d4, .int v5, .int v6, .int v7, d8, d9, d10, d11] [] s (some (.long o.1), o.2)) {d2 d3 d4 d10 d11 : Value} {v0 : Nat} {v1 : Nat} {v5 : Int32} {v6 : Int32} {v7 : Int32} {v8 : Int32} {v9 : Int32} {w0 : Int32} {s : AS} {o : Int64 × AS} (h : b_Machine_answer_82 k35 v0 v1 v5 v6 v7 v8 v9 w0 s = some o) : Ev 1 mZ48 82 [.ref v0, .ref v1, d2, d3, d4, .int v5, .int v6, .int v7, .int v8, .int v9, d10, d11] [.int w0] s (some (.long o.1), o.2) := by
  unfold b_Machine_answer_82 at h
  refine Ev_blk 3 (pc' := if w0 = (nI 0) then 93 else 89) (ls' := [.ref v0, .ref v1, d2, d3, d4, .int v5, .int v6, .int v7, .int v8, .int v9, .int w0, d11]) (st' := []) (s' := s) rfl trivial ?_
  have k1_ : Ev 1 mZ48 105 [.ref v0, .ref v1, d2, d3, d4, .int v5, .int v6, .int v7, .int v8, .int v9, .int w0, d11] [.int (if w0 = (nI 0) then (if v8 < (nI 10) then nI 1 else nI 0) else -(nI 1))] s (some (.long o.1), o.2) := by
    exact t_Machine_answer_105 H35 h
  refine icases (fun c2 => ?_) (fun c2 => ?_)
  · refine Ev_blk 3 (pc' := if v8 < (nI 10) then 104 else 100) (ls' := [.ref v0, .ref v1, d2, d3, d4, .int v5, .int v6, .int v7, .int v8, .int v9, .int w0, d11]) (st' := []) (s' := s) rfl trivial ?_
    refine icases (fun c3 => ?_) (fun c3 => ?_)
    · exact Ev_blk 1 (pc' := 105) (ls' := [.ref v0, .ref v1, d2, d3, d4, .int v5, .int v6, .int v7, .int v8, .int v9, .int w0, d11]) (st' := [.int (nI 1)]) (s' := s) rfl trivial (by simpa only [if_pos c2, if_pos c3] using k1_)
    · exact Ev_blk 2 (pc' := 105) (ls' := [.ref v0, .ref v1, d2, d3, d4, .int v5, .int v6, .int v7, .int v8, .int v9, .int w0, d11]) (st' := [.int (nI 0)]) (s' := s) rfl trivial (by simpa only [if_pos c2, if_neg c3] using k1_)
  · exact Ev_blk 2 (pc' := 105) (ls' := [.ref v0, .ref v1, d2, d3, d4, .int v5, .int v6, .int v7, .int v8, .int v9, .int w0, d11]) (st' := [.int (-(nI 1))]) (s' := s) rfl trivial (by simpa only [if_neg c2] using k1_)
def b_Machine_answer_77 (k35 : Nat → Nat → Int32 → Int32 → Int32 → AS → Option (Int64 × AS)) (v0 : Nat) (v1 : Nat) (v5 : Int32) (v6 : Int32) (v7 : Int32) (v8 : Int32) (v9 : Int32) (s : AS) : Option (Int64 × AS) :=
  b_Machine_answer_82 k35 v0 v1 v5 v6 v7 v8 v9 (nI 1) s
theorem t_Machine_answer_77 {k35 : Nat → Nat → Int32 → Int32 → Int32 → AS → Option (Int64 × AS)} (H35 : ∀ {d2 d3 d4 d8 d9 d10 d11 : Value} {v0 : Nat} {v1 : Nat} {v5 : Int32} {v6 : Int32} {v7 : Int32} {s : AS} {o : Int64 × AS}, k35 v0 v1 v5 v6 v7 s = some o → Ev 1 mZ48 35 [.ref v0, .ref v1, d2, d3, d4, .int v5, .int v6, .int v7, d8, d9, d10, d11] [] s (some (.long o.1), o.2)) {d2 d3 d4 d10 d11 : Value} {v0 : Nat} {v1 : Nat} {v5 : Int32} {v6 : Int32} {v7 : Int32} {v8 : Int32} {v9 : Int32} {s : AS} {o : Int64 × AS} (h : b_Machine_answer_77 k35 v0 v1 v5 v6 v7 v8 v9 s = some o) : Ev 1 mZ48 77 [.ref v0, .ref v1, d2, d3, d4, .int v5, .int v6, .int v7, .int v8, .int v9, d10, d11] [] s (some (.long o.1), o.2) := by
  unfold b_Machine_answer_77 at h
  refine Ev_blk 2 (pc' := 82) (ls' := [.ref v0, .ref v1, d2, d3, d4, .int v5, .int v6, .int v7, .int v8, .int v9, d10, d11]) (st' := [.int (nI 1)]) (s' := s) rfl trivial ?_
  exact t_Machine_answer_82 H35 h
def b_Machine_answer_35 (k35 : Nat → Nat → Int32 → Int32 → Int32 → AS → Option (Int64 × AS)) (v0 : Nat) (v1 : Nat) (v5 : Int32) (v6 : Int32) (v7 : Int32) (s : AS) : Option (Int64 × AS) :=
  if v7 < v5 then
    if sT s v1 = 12 then
    if sT s (sR s v1 0) = 20 ∧ inA v7 (sN s (sR s v1 0)) then
    if ¬ (nI 16) = nI 0 then
      b_Machine_answer_82 k35 v0 v1 v5 v6 v7 ((sI s (sR s v1 0) v7.toNatClampNeg) - (sI s (sR s v1 0) v7.toNatClampNeg) / (nI 16) * (nI 16)) ((sI s (sR s v1 0) v7.toNatClampNeg) / (nI 16)) (if ((sI s (sR s v1 0) v7.toNatClampNeg) - (sI s (sR s v1 0) v7.toNatClampNeg) / (nI 16) * (nI 16)) = (nI 0) then nI 1 else (if ((sI s (sR s v1 0) v7.toNatClampNeg) - (sI s (sR s v1 0) v7.toNatClampNeg) / (nI 16) * (nI 16)) = (nI 1) then nI 1 else nI 0)) s
    else none
    else none
    else none
  else
    if v6 < (nI 0) then
      some (lN 1, s)
    else
      if sT s v0 = 6 then
      if sT s (sR s v0 1) = 21 ∧ inA v6 (sN s (sR s v0 1)) then
      some (sL s (sR s v0 1) v6.toNatClampNeg, s)
      else none
      else none
theorem t_Machine_answer_35 {k35 : Nat → Nat → Int32 → Int32 → Int32 → AS → Option (Int64 × AS)} (H35 : ∀ {d2 d3 d4 d8 d9 d10 d11 : Value} {v0 : Nat} {v1 : Nat} {v5 : Int32} {v6 : Int32} {v7 : Int32} {s : AS} {o : Int64 × AS}, k35 v0 v1 v5 v6 v7 s = some o → Ev 1 mZ48 35 [.ref v0, .ref v1, d2, d3, d4, .int v5, .int v6, .int v7, d8, d9, d10, d11] [] s (some (.long o.1), o.2)) {d2 d3 d4 d8 d9 d10 d11 : Value} {v0 : Nat} {v1 : Nat} {v5 : Int32} {v6 : Int32} {v7 : Int32} {s : AS} {o : Int64 × AS} (h : b_Machine_answer_35 k35 v0 v1 v5 v6 v7 s = some o) : Ev 1 mZ48 35 [.ref v0, .ref v1, d2, d3, d4, .int v5, .int v6, .int v7, d8, d9, d10, d11] [] s (some (.long o.1), o.2) := by
  unfold b_Machine_answer_35 at h
  refine Ev_blk 3 (pc' := if v7 < v5 then 42 else 292) (ls' := [.ref v0, .ref v1, d2, d3, d4, .int v5, .int v6, .int v7, d8, d9, d10, d11]) (st' := []) (s' := s) rfl trivial ?_
  refine ib h (fun c1 h => ?_) (fun c1 h => ?_)
  · refine gd h (fun g2 h => ?_)
    refine gd h (fun g3 h => ?_)
    refine gd h (fun g4 h => ?_)
    refine Ev_blk 16 (pc' := if ((sI s (sR s v1 0) v7.toNatClampNeg) - (sI s (sR s v1 0) v7.toNatClampNeg) / (nI 16) * (nI 16)) = (nI 0) then 77 else 71) (ls' := [.ref v0, .ref v1, d2, d3, d4, .int v5, .int v6, .int v7, .int ((sI s (sR s v1 0) v7.toNatClampNeg) - (sI s (sR s v1 0) v7.toNatClampNeg) / (nI 16) * (nI 16)), .int ((sI s (sR s v1 0) v7.toNatClampNeg) / (nI 16)), d10, d11]) (st' := []) (s' := s) rfl ⟨⟨⟨⟨⟨⟨trivial, g2⟩, ⟨Or.inl g3.1, g3.2⟩⟩, g4⟩, g2⟩, ⟨Or.inl g3.1, g3.2⟩⟩, g4⟩ ?_
    have k5_ : Ev 1 mZ48 82 [.ref v0, .ref v1, d2, d3, d4, .int v5, .int v6, .int v7, .int ((sI s (sR s v1 0) v7.toNatClampNeg) - (sI s (sR s v1 0) v7.toNatClampNeg) / (nI 16) * (nI 16)), .int ((sI s (sR s v1 0) v7.toNatClampNeg) / (nI 16)), d10, d11] [.int (if ((sI s (sR s v1 0) v7.toNatClampNeg) - (sI s (sR s v1 0) v7.toNatClampNeg) / (nI 16) * (nI 16)) = (nI 0) then nI 1 else (if ((sI s (sR s v1 0) v7.toNatClampNeg) - (sI s (sR s v1 0) v7.toNatClampNeg) / (nI 16) * (nI 16)) = (nI 1) then nI 1 else nI 0))] s (some (.long o.1), o.2) := by
      exact t_Machine_answer_82 H35 h
    refine icases (fun c6 => ?_) (fun c6 => ?_)
    · exact Ev_blk 2 (pc' := 82) (ls' := [.ref v0, .ref v1, d2, d3, d4, .int v5, .int v6, .int v7, .int ((sI s (sR s v1 0) v7.toNatClampNeg) - (sI s (sR s v1 0) v7.toNatClampNeg) / (nI 16) * (nI 16)), .int ((sI s (sR s v1 0) v7.toNatClampNeg) / (nI 16)), d10, d11]) (st' := [.int (nI 1)]) (s' := s) rfl trivial (by simpa only [if_pos c6] using k5_)
    · refine Ev_blk 3 (pc' := if ((sI s (sR s v1 0) v7.toNatClampNeg) - (sI s (sR s v1 0) v7.toNatClampNeg) / (nI 16) * (nI 16)) = (nI 1) then 77 else 81) (ls' := [.ref v0, .ref v1, d2, d3, d4, .int v5, .int v6, .int v7, .int ((sI s (sR s v1 0) v7.toNatClampNeg) - (sI s (sR s v1 0) v7.toNatClampNeg) / (nI 16) * (nI 16)), .int ((sI s (sR s v1 0) v7.toNatClampNeg) / (nI 16)), d10, d11]) (st' := []) (s' := s) rfl trivial ?_
      refine icases (fun c7 => ?_) (fun c7 => ?_)
      · exact Ev_blk 2 (pc' := 82) (ls' := [.ref v0, .ref v1, d2, d3, d4, .int v5, .int v6, .int v7, .int ((sI s (sR s v1 0) v7.toNatClampNeg) - (sI s (sR s v1 0) v7.toNatClampNeg) / (nI 16) * (nI 16)), .int ((sI s (sR s v1 0) v7.toNatClampNeg) / (nI 16)), d10, d11]) (st' := [.int (nI 1)]) (s' := s) rfl trivial (by simpa only [if_neg c6, if_pos c7] using k5_)
      · exact Ev_blk 1 (pc' := 82) (ls' := [.ref v0, .ref v1, d2, d3, d4, .int v5, .int v6, .int v7, .int ((sI s (sR s v1 0) v7.toNatClampNeg) - (sI s (sR s v1 0) v7.toNatClampNeg) / (nI 16) * (nI 16)), .int ((sI s (sR s v1 0) v7.toNatClampNeg) / (nI 16)), d10, d11]) (st' := [.int (nI 0)]) (s' := s) rfl trivial (by simpa only [if_neg c6, if_neg c7] using k5_)
  · refine Ev_blk 2 (pc' := if v6 < (nI 0) then 297 else 301) (ls' := [.ref v0, .ref v1, d2, d3, d4, .int v5, .int v6, .int v7, d8, d9, d10, d11]) (st' := []) (s' := s) rfl trivial ?_
    refine ib h (fun c8 h => ?_) (fun c8 h => ?_)
    · refine Ev_blk 2 (pc' := 308) (ls' := [.ref v0, .ref v1, d2, d3, d4, .int v5, .int v6, .int v7, d8, d9, d10, d11]) (st' := [.long (lN 1)]) (s' := s) rfl trivial ?_
      cases h
      exact Ev_ret rfl trivial
    · refine gd h (fun g9 h => ?_)
      refine gd h (fun g10 h => ?_)
      refine Ev_blk 4 (pc' := 308) (ls' := [.ref v0, .ref v1, d2, d3, d4, .int v5, .int v6, .int v7, d8, d9, d10, d11]) (st' := [.long (sL s (sR s v0 1) v6.toNatClampNeg)]) (s' := s) rfl ⟨⟨trivial, g9⟩, g10⟩ ?_
      cases h
      exact Ev_ret rfl trivial
def l_Machine_answer_35  : Nat → Nat → Nat → Int32 → Int32 → Int32 → AS → Option (Int64 × AS)
  | 0 => fun _ _ _ _ _ _ => none
  | n + 1 => b_Machine_answer_35  (l_Machine_answer_35  n)
theorem u_Machine_answer_35   {n : Nat} : ∀ {d2 d3 d4 d8 d9 d10 d11 : Value} {v0 : Nat} {v1 : Nat} {v5 : Int32} {v6 : Int32} {v7 : Int32} {s : AS} {o : Int64 × AS}, l_Machine_answer_35  n v0 v1 v5 v6 v7 s = some o → Ev 1 mZ48 35 [.ref v0, .ref v1, d2, d3, d4, .int v5, .int v6, .int v7, d8, d9, d10, d11] [] s (some (.long o.1), o.2) := by
  induction n with
  | zero => intros; rename_i h; cases h
  | succ n ih => intros; rename_i h; exact t_Machine_answer_35  (fun h => ih h) h
/-- RecordHeap$Machine.answer(LRecordHeap$Text;II)J -/
def f_Machine_answer (s : AS) (a0 : Nat) (a1 : Nat) (a2 : Int32) (a3 : Int32) : Option (Int64 × AS) :=
  if sT s a1 = 12 then
  if sT s (sR s a1 1) = 20 ∧ inA ((a2 * (nI 6)) + a3) (sN s (sR s a1 1)) then
  if sT s (sR s a1 1) = 20 ∧ inA (((a2 * (nI 6)) + a3) + (nI 1)) (sN s (sR s a1 1)) then
  l_Machine_answer_35 fuel a0 a1 (sI s (sR s a1 1) (((a2 * (nI 6)) + a3) + (nI 1)).toNatClampNeg) (-(nI 1)) (sI s (sR s a1 1) ((a2 * (nI 6)) + a3).toNatClampNeg) s
  else none
  else none
  else none
theorem t_Machine_answer {s : AS} {a0 : Nat} {a1 : Nat} {a2 : Int32} {a3 : Int32} {o : Int64 × AS} (h : f_Machine_answer s a0 a1 a2 a3 = some o) : Ev 1 mZ48 0 [.ref a0, .ref a1, .int a2, .int a3, .retAddr 0, .retAddr 0, .retAddr 0, .retAddr 0, .retAddr 0, .retAddr 0, .retAddr 0, .retAddr 0] [] s (some (.long o.1), o.2) := by
  unfold f_Machine_answer at h
  refine gd h (fun g1 h => ?_)
  refine gd h (fun g2 h => ?_)
  refine gd h (fun g3 h => ?_)
  refine Ev_blk 24 (pc' := 35) (ls' := [.ref a0, .ref a1, .int a2, .int a3, .int (sI s (sR s a1 1) ((a2 * (nI 6)) + a3).toNatClampNeg), .int (sI s (sR s a1 1) (((a2 * (nI 6)) + a3) + (nI 1)).toNatClampNeg), .int (-(nI 1)), .int (sI s (sR s a1 1) ((a2 * (nI 6)) + a3).toNatClampNeg), .retAddr 0, .retAddr 0, .retAddr 0, .retAddr 0]) (st' := []) (s' := s) rfl ⟨⟨⟨⟨trivial, g1⟩, ⟨Or.inl g2.1, g2.2⟩⟩, g1⟩, ⟨Or.inl g3.1, g3.2⟩⟩ ?_
  exact u_Machine_answer_35 h

/-- RecordHeap.isAddress(I)Z -/
def f_C_isAddress (s : AS) (a0 : Int32) : Option Int32 :=
    some (if a0 < (nI 0) then nI 0 else (if a0 < (nI 128) then nI 1 else nI 0))
theorem t_C_isAddress {s : AS} {a0 : Int32} {o : Int32} (h : f_C_isAddress s a0 = some o) : Ev 0 mZ52 0 [.int a0] [] s (some (.int o), s) := by
  unfold f_C_isAddress at h
  refine Ev_blk 2 (pc' := if a0 < (nI 0) then 15 else 4) (ls' := [.int a0]) (st' := []) (s' := s) rfl trivial ?_
  have k1_ : Ev 0 mZ52 16 [.int a0] [.int (if a0 < (nI 0) then nI 0 else (if a0 < (nI 128) then nI 1 else nI 0))] s (some (.int o), s) := by
    cases h
    exact Ev_ret rfl (by (repeat' split) <;> first | exact Or.inl rfl | exact Or.inr rfl)
  refine icases (fun c2 => ?_) (fun c2 => ?_)
  · exact Ev_blk 1 (pc' := 16) (ls' := [.int a0]) (st' := [.int (nI 0)]) (s' := s) rfl trivial (by simpa only [if_pos c2] using k1_)
  · refine Ev_blk 3 (pc' := if a0 < (nI 128) then 11 else 15) (ls' := [.int a0]) (st' := []) (s' := s) rfl trivial ?_
    refine icases (fun c3 => ?_) (fun c3 => ?_)
    · exact Ev_blk 2 (pc' := 16) (ls' := [.int a0]) (st' := [.int (nI 1)]) (s' := s) rfl trivial (by simpa only [if_neg c2, if_pos c3] using k1_)
    · exact Ev_blk 1 (pc' := 16) (ls' := [.int a0]) (st' := [.int (nI 0)]) (s' := s) rfl trivial (by simpa only [if_neg c2, if_neg c3] using k1_)

/-- RecordHeap$Pages.isRecord(I)Z -/
def f_Pages_isRecord (s : AS) (a0 : Nat) (a1 : Int32) : Option Int32 :=
  (f_C_isAddress s a1).bind fun r1 =>
  if r1 = (nI 0) then
    some (nI 0)
  else
    if sT s a0 = 7 then
    if sT s (sR s a0 0) = 20 ∧ inA a1 (sN s (sR s a0 0)) then
      some (if (sI s (sR s a0 0) a1.toNatClampNeg) = (nI 1) then nI 1 else (if (sI s (sR s a0 0) a1.toNatClampNeg) = (nI 2) then nI 1 else (if (sI s (sR s a0 0) a1.toNatClampNeg) = (nI 4) then nI 1 else nI 0)))
    else none
    else none
theorem t_Pages_isRecord {s : AS} {a0 : Nat} {a1 : Int32} {o : Int32} (h : f_Pages_isRecord s a0 a1 = some o) : Ev 1 mZ51 0 [.ref a0, .int a1, .retAddr 0] [] s (some (.int o), s) := by
  unfold f_Pages_isRecord at h
  refine Ev_blk 1 (pc' := 1) (ls' := [.ref a0, .int a1, .retAddr 0]) (st' := [.int a1]) (s' := s) rfl trivial ?_
  refine bd h (fun r1 hr1 h => ?_)
  refine Ev_call 1 52 1 [.int a1] [] rfl rfl rfl rfl trivial rfl rfl (Nat.le_of_ble_eq_true rfl) (t_C_isAddress hr1) ?_
  refine Ev_blk 1 (pc' := if r1 = (nI 0) then 7 else 9) (ls' := [.ref a0, .int a1, .retAddr 0]) (st' := []) (s' := s) rfl trivial ?_
  refine ib h (fun c1 h => ?_) (fun c1 h => ?_)
  · refine Ev_blk 1 (pc' := 8) (ls' := [.ref a0, .int a1, .retAddr 0]) (st' := [.int (nI 0)]) (s' := s) rfl trivial ?_
    cases h
    exact Ev_ret rfl (Or.inl rfl)
  · refine gd h (fun g2 h => ?_)
    refine gd h (fun g3 h => ?_)
    refine Ev_blk 8 (pc' := if (sI s (sR s a0 0) a1.toNatClampNeg) = (nI 1) then 31 else 21) (ls' := [.ref a0, .int a1, .int (sI s (sR s a0 0) a1.toNatClampNeg)]) (st' := []) (s' := s) rfl ⟨⟨trivial, g2⟩, ⟨Or.inl g3.1, g3.2⟩⟩ ?_
    have k4_ : Ev 1 mZ51 36 [.ref a0, .int a1, .int (sI s (sR s a0 0) a1.toNatClampNeg)] [.int (if (sI s (sR s a0 0) a1.toNatClampNeg) = (nI 1) then nI 1 else (if (sI s (sR s a0 0) a1.toNatClampNeg) = (nI 2) then nI 1 else (if (sI s (sR s a0 0) a1.toNatClampNeg) = (nI 4) then nI 1 else nI 0)))] s (some (.int o), s) := by
      cases h
      exact Ev_ret rfl (by (repeat' split) <;> first | exact Or.inl rfl | exact Or.inr rfl)
    refine icases (fun c5 => ?_) (fun c5 => ?_)
    · exact Ev_blk 2 (pc' := 36) (ls' := [.ref a0, .int a1, .int (sI s (sR s a0 0) a1.toNatClampNeg)]) (st' := [.int (nI 1)]) (s' := s) rfl trivial (by simpa only [if_pos c5] using k4_)
    · refine Ev_blk 3 (pc' := if (sI s (sR s a0 0) a1.toNatClampNeg) = (nI 2) then 31 else 26) (ls' := [.ref a0, .int a1, .int (sI s (sR s a0 0) a1.toNatClampNeg)]) (st' := []) (s' := s) rfl trivial ?_
      refine icases (fun c6 => ?_) (fun c6 => ?_)
      · exact Ev_blk 2 (pc' := 36) (ls' := [.ref a0, .int a1, .int (sI s (sR s a0 0) a1.toNatClampNeg)]) (st' := [.int (nI 1)]) (s' := s) rfl trivial (by simpa only [if_neg c5, if_pos c6] using k4_)
      · refine Ev_blk 3 (pc' := if (sI s (sR s a0 0) a1.toNatClampNeg) = (nI 4) then 31 else 35) (ls' := [.ref a0, .int a1, .int (sI s (sR s a0 0) a1.toNatClampNeg)]) (st' := []) (s' := s) rfl trivial ?_
        refine icases (fun c7 => ?_) (fun c7 => ?_)
        · exact Ev_blk 2 (pc' := 36) (ls' := [.ref a0, .int a1, .int (sI s (sR s a0 0) a1.toNatClampNeg)]) (st' := [.int (nI 1)]) (s' := s) rfl trivial (by simpa only [if_neg c5, if_neg c6, if_pos c7] using k4_)
        · exact Ev_blk 1 (pc' := 36) (ls' := [.ref a0, .int a1, .int (sI s (sR s a0 0) a1.toNatClampNeg)]) (st' := [.int (nI 0)]) (s' := s) rfl trivial (by simpa only [if_neg c5, if_neg c6, if_neg c7] using k4_)

/-- RecordHeap.isPage(I)Z -/
def f_C_isPage (s : AS) (a0 : Int32) : Option Int32 :=
    some (if a0 < (nI 0) then nI 0 else (if a0 < (nI 8) then nI 1 else nI 0))
theorem t_C_isPage {s : AS} {a0 : Int32} {o : Int32} (h : f_C_isPage s a0 = some o) : Ev 0 mZ53 0 [.int a0] [] s (some (.int o), s) := by
  unfold f_C_isPage at h
  refine Ev_blk 2 (pc' := if a0 < (nI 0) then 14 else 4) (ls' := [.int a0]) (st' := []) (s' := s) rfl trivial ?_
  have k1_ : Ev 0 mZ53 15 [.int a0] [.int (if a0 < (nI 0) then nI 0 else (if a0 < (nI 8) then nI 1 else nI 0))] s (some (.int o), s) := by
    cases h
    exact Ev_ret rfl (by (repeat' split) <;> first | exact Or.inl rfl | exact Or.inr rfl)
  refine icases (fun c2 => ?_) (fun c2 => ?_)
  · exact Ev_blk 1 (pc' := 15) (ls' := [.int a0]) (st' := [.int (nI 0)]) (s' := s) rfl trivial (by simpa only [if_pos c2] using k1_)
  · refine Ev_blk 3 (pc' := if a0 < (nI 8) then 10 else 14) (ls' := [.int a0]) (st' := []) (s' := s) rfl trivial ?_
    refine icases (fun c3 => ?_) (fun c3 => ?_)
    · exact Ev_blk 2 (pc' := 15) (ls' := [.int a0]) (st' := [.int (nI 1)]) (s' := s) rfl trivial (by simpa only [if_neg c2, if_pos c3] using k1_)
    · exact Ev_blk 1 (pc' := 15) (ls' := [.int a0]) (st' := [.int (nI 0)]) (s' := s) rfl trivial (by simpa only [if_neg c2, if_neg c3] using k1_)

/-- RecordHeap$Runner.canBe(III)Z -/
def f_Runner_canBe (s : AS) (a0 : Nat) (a1 : Int32) (a2 : Int32) (a3 : Int32) : Option Int32 :=
  if a1 = nI 0 then
      some (if a2 < (nI 0) then nI 0 else (if (nI 200) < a2 then nI 0 else (if a3 < (nI 0) then nI 0 else (if (nI 255) < a3 then nI 0 else nI 1))))
  else
  if a1 = nI 1 then
    if sT s a0 = 10 then
    if sT s (sR s a0 0) = 3 then
    if sT s (sR s (sR s a0 0) 2) = 7 then
    (f_Pages_isRecord s (sR s (sR s a0 0) 2) a2).bind fun r1 =>
      some (if r1 = (nI 0) then nI 0 else (if a3 < (nI 0) then nI 0 else (if (nI 200) < a3 then nI 0 else nI 1)))
    else none
    else none
    else none
  else
  if a1 = nI 2 then
    if sT s a0 = 10 then
    if sT s (sR s a0 0) = 3 then
    if sT s (sR s (sR s a0 0) 2) = 7 then
    (f_Pages_isRecord s (sR s (sR s a0 0) 2) a2).bind fun r2 =>
    if r2 = nI 0 ∨ r2 = nI 1 then
    some r2
    else none
    else none
    else none
    else none
  else
  if a1 = nI 3 then
    (f_C_isPage s a2).bind fun r3 =>
    if r3 = nI 0 ∨ r3 = nI 1 then
    some r3
    else none
  else
  some (nI 1)
theorem t_Runner_canBe {s : AS} {a0 : Nat} {a1 : Int32} {a2 : Int32} {a3 : Int32} {o : Int32} (h : f_Runner_canBe s a0 a1 a2 a3 = some o) : Ev 2 mZ50 0 [.ref a0, .int a1, .int a2, .int a3] [] s (some (.int o), s) := by
  unfold f_Runner_canBe at h
  refine Ev_blk 2 (pc' := if a1 = nI 0 then 32 else if a1 = nI 1 then 60 else if a1 = nI 2 then 91 else if a1 = nI 3 then 103 else 108) (ls' := [.ref a0, .int a1, .int a2, .int a3]) (st' := []) (s' := s) rfl trivial ?_
  refine ib h (fun c1 h => ?_) (fun c1 h => ?_)
  · refine Ev_blk 2 (pc' := if a2 < (nI 0) then 58 else 36) (ls' := [.ref a0, .int a1, .int a2, .int a3]) (st' := []) (s' := s) rfl trivial ?_
    have k2_ : Ev 2 mZ50 59 [.ref a0, .int a1, .int a2, .int a3] [.int (if a2 < (nI 0) then nI 0 else (if (nI 200) < a2 then nI 0 else (if a3 < (nI 0) then nI 0 else (if (nI 255) < a3 then nI 0 else nI 1))))] s (some (.int o), s) := by
      cases h
      exact Ev_ret rfl (by (repeat' split) <;> first | exact Or.inl rfl | exact Or.inr rfl)
    refine icases (fun c3 => ?_) (fun c3 => ?_)
    · exact Ev_blk 1 (pc' := 59) (ls' := [.ref a0, .int a1, .int a2, .int a3]) (st' := [.int (nI 0)]) (s' := s) rfl trivial (by simpa only [if_pos c3] using k2_)
    · refine Ev_blk 3 (pc' := if (nI 200) < a2 then 58 else 43) (ls' := [.ref a0, .int a1, .int a2, .int a3]) (st' := []) (s' := s) rfl trivial ?_
      refine icases (fun c4 => ?_) (fun c4 => ?_)
      · exact Ev_blk 1 (pc' := 59) (ls' := [.ref a0, .int a1, .int a2, .int a3]) (st' := [.int (nI 0)]) (s' := s) rfl trivial (by simpa only [if_neg c3, if_pos c4] using k2_)
      · refine Ev_blk 2 (pc' := if a3 < (nI 0) then 58 else 47) (ls' := [.ref a0, .int a1, .int a2, .int a3]) (st' := []) (s' := s) rfl trivial ?_
        refine icases (fun c5 => ?_) (fun c5 => ?_)
        · exact Ev_blk 1 (pc' := 59) (ls' := [.ref a0, .int a1, .int a2, .int a3]) (st' := [.int (nI 0)]) (s' := s) rfl trivial (by simpa only [if_neg c3, if_neg c4, if_pos c5] using k2_)
        · refine Ev_blk 3 (pc' := if (nI 255) < a3 then 58 else 54) (ls' := [.ref a0, .int a1, .int a2, .int a3]) (st' := []) (s' := s) rfl trivial ?_
          refine icases (fun c6 => ?_) (fun c6 => ?_)
          · exact Ev_blk 1 (pc' := 59) (ls' := [.ref a0, .int a1, .int a2, .int a3]) (st' := [.int (nI 0)]) (s' := s) rfl trivial (by simpa only [if_neg c3, if_neg c4, if_neg c5, if_pos c6] using k2_)
          · exact Ev_blk 2 (pc' := 59) (ls' := [.ref a0, .int a1, .int a2, .int a3]) (st' := [.int (nI 1)]) (s' := s) rfl trivial (by simpa only [if_neg c3, if_neg c4, if_neg c5, if_neg c6] using k2_)
  refine ib h (fun c7 h => ?_) (fun c7 h => ?_)
  · refine gd h (fun g8 h => ?_)
    refine gd h (fun g9 h => ?_)
    refine gd h (fun g10 h => ?_)
    refine Ev_blk 4 (pc' := 68) (ls' := [.ref a0, .int a1, .int a2, .int a3]) (st' := [.int a2, .ref (sR s (sR s a0 0) 2)]) (s' := s) rfl ⟨⟨trivial, g8⟩, g9⟩ ?_
    refine bd h (fun r1 hr1 h => ?_)
    refine Ev_call 2 51 1 [.ref (sR s (sR s a0 0) 2), .int a2] [] rfl rfl rfl rfl g10 rfl rfl (Nat.le_of_ble_eq_true rfl) (t_Pages_isRecord hr1) ?_
    refine Ev_blk 1 (pc' := if r1 = (nI 0) then 89 else 74) (ls' := [.ref a0, .int a1, .int a2, .int a3]) (st' := []) (s' := s) rfl trivial ?_
    have k11_ : Ev 2 mZ50 90 [.ref a0, .int a1, .int a2, .int a3] [.int (if r1 = (nI 0) then nI 0 else (if a3 < (nI 0) then nI 0 else (if (nI 200) < a3 then nI 0 else nI 1)))] s (some (.int o), s) := by
      cases h
      exact Ev_ret rfl (by (repeat' split) <;> first | exact Or.inl rfl | exact Or.inr rfl)
    refine icases (fun c12 => ?_) (fun c12 => ?_)
    · exact Ev_blk 1 (pc' := 90) (ls' := [.ref a0, .int a1, .int a2, .int a3]) (st' := [.int (nI 0)]) (s' := s) rfl trivial (by simpa only [if_pos c12] using k11_)
    · refine Ev_blk 2 (pc' := if a3 < (nI 0) then 89 else 78) (ls' := [.ref a0, .int a1, .int a2, .int a3]) (st' := []) (s' := s) rfl trivial ?_
      refine icases (fun c13 => ?_) (fun c13 => ?_)
      · exact Ev_blk 1 (pc' := 90) (ls' := [.ref a0, .int a1, .int a2, .int a3]) (st' := [.int (nI 0)]) (s' := s) rfl trivial (by simpa only [if_neg c12, if_pos c13] using k11_)
      · refine Ev_blk 3 (pc' := if (nI 200) < a3 then 89 else 85) (ls' := [.ref a0, .int a1, .int a2, .int a3]) (st' := []) (s' := s) rfl trivial ?_
        refine icases (fun c14 => ?_) (fun c14 => ?_)
        · exact Ev_blk 1 (pc' := 90) (ls' := [.ref a0, .int a1, .int a2, .int a3]) (st' := [.int (nI 0)]) (s' := s) rfl trivial (by simpa only [if_neg c12, if_neg c13, if_pos c14] using k11_)
        · exact Ev_blk 2 (pc' := 90) (ls' := [.ref a0, .int a1, .int a2, .int a3]) (st' := [.int (nI 1)]) (s' := s) rfl trivial (by simpa only [if_neg c12, if_neg c13, if_neg c14] using k11_)
  refine ib h (fun c15 h => ?_) (fun c15 h => ?_)
  · refine gd h (fun g16 h => ?_)
    refine gd h (fun g17 h => ?_)
    refine gd h (fun g18 h => ?_)
    refine Ev_blk 4 (pc' := 99) (ls' := [.ref a0, .int a1, .int a2, .int a3]) (st' := [.int a2, .ref (sR s (sR s a0 0) 2)]) (s' := s) rfl ⟨⟨trivial, g16⟩, g17⟩ ?_
    refine bd h (fun r2 hr2 h => ?_)
    refine Ev_call 2 51 1 [.ref (sR s (sR s a0 0) 2), .int a2] [] rfl rfl rfl rfl g18 rfl rfl (Nat.le_of_ble_eq_true rfl) (t_Pages_isRecord hr2) ?_
    refine gd h (fun g19 h => ?_)
    cases h
    exact Ev_ret rfl g19
  refine ib h (fun c20 h => ?_) (fun c20 h => ?_)
  · refine Ev_blk 1 (pc' := 104) (ls' := [.ref a0, .int a1, .int a2, .int a3]) (st' := [.int a2]) (s' := s) rfl trivial ?_
    refine bd h (fun r3 hr3 h => ?_)
    refine Ev_call 1 53 1 [.int a2] [] rfl rfl rfl rfl trivial rfl rfl (Nat.le_of_ble_eq_true rfl) (t_C_isPage hr3) ?_
    refine gd h (fun g21 h => ?_)
    cases h
    exact Ev_ret rfl g21
  refine Ev_blk 1 (pc' := 109) (ls' := [.ref a0, .int a1, .int a2, .int a3]) (st' := [.int (nI 1)]) (s' := s) rfl trivial ?_
  cases h
  exact Ev_ret rfl (Or.inr rfl)

def b_Row_repeat_7 (k7 : Nat → Int32 → Int32 → Int32 → AS → Option AS) (v0 : Nat) (v1 : Int32) (v2 : Int32) (v3 : Int32) (s : AS) : Option AS :=
  if v3 < v1 then
    if sT s v0 = 9 then
    if 20 ≤ sT s (sR s v0 0) then
    if v3 < (nI (sN s (sR s v0 0))) then
      (f_Row_add s v0 v2).bind fun r1 =>
      k7 v0 v1 v2 (v3 + nI 1) r1
    else
      some s
    else none
    else none
  else
    some s
theorem t_Row_repeat_7 {k7 : Nat → Int32 → Int32 → Int32 → AS → Option AS} (H7 : ∀ {v0 : Nat} {v1 : Int32} {v2 : Int32} {v3 : Int32} {s : AS} {o : AS}, k7 v0 v1 v2 v3 s = some o → Ev 1 mZ54 7 [.ref v0, .int v1, .int v2, .int v3] [] s (none, o))  {v0 : Nat} {v1 : Int32} {v2 : Int32} {v3 : Int32} {s : AS} {o : AS} (h : b_Row_repeat_7 k7 v0 v1 v2 v3 s = some o) : Ev 1 mZ54 7 [.ref v0, .int v1, .int v2, .int v3] [] s (none, o) := by
  unfold b_Row_repeat_7 at h
  refine Ev_blk 3 (pc' := if v3 < v1 then 12 else 32) (ls' := [.ref v0, .int v1, .int v2, .int v3]) (st' := []) (s' := s) rfl trivial ?_
  refine ib h (fun c1 h => ?_) (fun c1 h => ?_)
  · refine gd h (fun g2 h => ?_)
    refine gd h (fun g3 h => ?_)
    refine Ev_blk 5 (pc' := if v3 < (nI (sN s (sR s v0 0))) then 21 else 32) (ls' := [.ref v0, .int v1, .int v2, .int v3]) (st' := []) (s' := s) rfl ⟨⟨trivial, g2⟩, g3⟩ ?_
    refine ib h (fun c4 h => ?_) (fun c4 h => ?_)
    · refine Ev_blk 2 (pc' := 23) (ls' := [.ref v0, .int v1, .int v2, .int v3]) (st' := [.int v2, .ref v0]) (s' := s) rfl trivial ?_
      refine bd h (fun r1 hr1 h => ?_)
      refine Ev_call 2 17 1 [.ref v0, .int v2] [] rfl rfl rfl rfl g2 rfl rfl (Nat.le_of_ble_eq_true rfl) (t_Row_add hr1) ?_
      refine Ev_blk 2 (pc' := 7) (ls' := [.ref v0, .int v1, .int v2, .int (v3 + nI 1)]) (st' := []) (s' := r1) rfl trivial ?_
      exact H7 h
    · cases h
      exact Ev_ret rfl trivial
  · cases h
    exact Ev_ret rfl trivial
def l_Row_repeat_7  : Nat → Nat → Int32 → Int32 → Int32 → AS → Option AS
  | 0 => fun _ _ _ _ _ => none
  | n + 1 => b_Row_repeat_7  (l_Row_repeat_7  n)
theorem u_Row_repeat_7   {n : Nat} : ∀  {v0 : Nat} {v1 : Int32} {v2 : Int32} {v3 : Int32} {s : AS} {o : AS}, l_Row_repeat_7  n v0 v1 v2 v3 s = some o → Ev 1 mZ54 7 [.ref v0, .int v1, .int v2, .int v3] [] s (none, o) := by
  induction n with
  | zero => intros; rename_i h; cases h
  | succ n ih => intros; rename_i h; exact t_Row_repeat_7  (fun h => ih h) h
/-- RecordHeap$Row.repeat(II)V -/
def f_Row_repeat (s : AS) (a0 : Nat) (a1 : Int32) (a2 : Int32) : Option AS :=
  if sT s a0 = 9 then
  l_Row_repeat_7 fuel a0 a1 a2 (nI 0) (setI s a0 1 (nI 0))
  else none
theorem t_Row_repeat {s : AS} {a0 : Nat} {a1 : Int32} {a2 : Int32} {o : AS} (h : f_Row_repeat s a0 a1 a2 = some o) : Ev 1 mZ54 0 [.ref a0, .int a1, .int a2, .retAddr 0] [] s (none, o) := by
  unfold f_Row_repeat at h
  refine gd h (fun g1 h => ?_)
  refine Ev_blk 5 (pc' := 7) (ls' := [.ref a0, .int a1, .int a2, .int (nI 0)]) (st' := []) (s' := setI s a0 1 (nI 0)) rfl ⟨trivial, g1⟩ ?_
  exact u_Row_repeat_7 h

def b_Row_link_20  (v0 : Nat) (v1 : Int32) (w0 : Int32) (w1 : Nat) (s : AS) : Option AS :=
  if sT s w1 = 9 then
  (f_Row_add s w1 w0).bind fun r1 =>
  if sT r1 v0 = 9 then
  (f_Row_add r1 v0 v1).bind fun r2 =>
  some r2
  else none
  else none
theorem t_Row_link_20    {v0 : Nat} {v1 : Int32} {w0 : Int32} {w1 : Nat} {s : AS} {o : AS} (h : b_Row_link_20  v0 v1 w0 w1 s = some o) : Ev 1 mZ57 20 [.ref v0, .int v1] [.int w0, .ref w1] s (none, o) := by
  unfold b_Row_link_20 at h
  refine gd h (fun g1 h => ?_)
  refine bd h (fun r1 hr1 h => ?_)
  refine Ev_call 2 17 1 [.ref w1, .int w0] [] rfl rfl rfl rfl g1 rfl rfl (Nat.le_of_ble_eq_true rfl) (t_Row_add hr1) ?_
  refine gd h (fun g2 h => ?_)
  refine Ev_blk 2 (pc' := 25) (ls' := [.ref v0, .int v1]) (st' := [.int v1, .ref v0]) (s' := r1) rfl trivial ?_
  refine bd h (fun r2 hr2 h => ?_)
  refine Ev_call 2 17 1 [.ref v0, .int v1] [] rfl rfl rfl rfl g2 rfl rfl (Nat.le_of_ble_eq_true rfl) (t_Row_add hr2) ?_
  cases h
  exact Ev_ret rfl trivial
/-- RecordHeap$Row.link(I)V -/
def f_Row_link (s : AS) (a0 : Nat) (a1 : Int32) : Option AS :=
  if sT s a0 = 9 then
    b_Row_link_20 a0 a1 (if a1 = (nI 255) then nI 255 else nI 0) a0 (setI s a0 1 (nI 0))
  else none
theorem t_Row_link {s : AS} {a0 : Nat} {a1 : Int32} {o : AS} (h : f_Row_link s a0 a1 = some o) : Ev 1 mZ57 0 [.ref a0, .int a1] [] s (none, o) := by
  unfold f_Row_link at h
  refine gd h (fun g1 h => ?_)
  refine Ev_blk 7 (pc' := if a1 = (nI 255) then 13 else 19) (ls' := [.ref a0, .int a1]) (st' := [.ref a0]) (s' := setI s a0 1 (nI 0)) rfl ⟨trivial, g1⟩ ?_
  have k2_ : Ev 1 mZ57 20 [.ref a0, .int a1] [.int (if a1 = (nI 255) then nI 255 else nI 0), .ref a0] (setI s a0 1 (nI 0)) (none, o) := by
    exact t_Row_link_20 h
  refine icases (fun c3 => ?_) (fun c3 => ?_)
  · exact Ev_blk 2 (pc' := 20) (ls' := [.ref a0, .int a1]) (st' := [.int (nI 255), .ref a0]) (s' := setI s a0 1 (nI 0)) rfl trivial (by simpa only [if_pos c3] using k2_)
  · exact Ev_blk 1 (pc' := 20) (ls' := [.ref a0, .int a1]) (st' := [.int (nI 0), .ref a0]) (s' := setI s a0 1 (nI 0)) rfl trivial (by simpa only [if_neg c3] using k2_)

def b_Row_assemble_22 (k22 : Nat → Nat → Int32 → Int32 → AS → Option AS) (v0 : Nat) (v2 : Nat) (v4 : Int32) (v5 : Int32) (s : AS) : Option AS :=
  if v5 < v4 then
    if sT s v2 = 9 then
    if v5 < (sI s v2 1) then
      if sT s (sR s v2 0) = 20 ∧ inA v5 (sN s (sR s v2 0)) then
      if sT s v0 = 9 then
      (f_Row_add s v0 (sI s (sR s v2 0) v5.toNatClampNeg)).bind fun r1 =>
      k22 v0 v2 v4 (v5 + nI 1) r1
      else none
      else none
    else
      some s
    else none
  else
    some s
theorem t_Row_assemble_22 {k22 : Nat → Nat → Int32 → Int32 → AS → Option AS} (H22 : ∀ {d1 d3 : Value} {v0 : Nat} {v2 : Nat} {v4 : Int32} {v5 : Int32} {s : AS} {o : AS}, k22 v0 v2 v4 v5 s = some o → Ev 2 mZ56 22 [.ref v0, d1, .ref v2, d3, .int v4, .int v5] [] s (none, o)) {d1 d3 : Value} {v0 : Nat} {v2 : Nat} {v4 : Int32} {v5 : Int32} {s : AS} {o : AS} (h : b_Row_assemble_22 k22 v0 v2 v4 v5 s = some o) : Ev 2 mZ56 22 [.ref v0, d1, .ref v2, d3, .int v4, .int v5] [] s (none, o) := by
  unfold b_Row_assemble_22 at h
  refine Ev_blk 3 (pc' := if v5 < v4 then 29 else 55) (ls' := [.ref v0, d1, .ref v2, d3, .int v4, .int v5]) (st' := []) (s' := s) rfl trivial ?_
  refine ib h (fun c1 h => ?_) (fun c1 h => ?_)
  · refine gd h (fun g2 h => ?_)
    refine Ev_blk 4 (pc' := if v5 < (sI s v2 1) then 38 else 55) (ls' := [.ref v0, d1, .ref v2, d3, .int v4, .int v5]) (st' := []) (s' := s) rfl ⟨trivial, g2⟩ ?_
    refine ib h (fun c3 h => ?_) (fun c3 h => ?_)
    · refine gd h (fun g4 h => ?_)
      refine gd h (fun g5 h => ?_)
      refine Ev_blk 5 (pc' := 46) (ls' := [.ref v0, d1, .ref v2, d3, .int v4, .int v5]) (st' := [.int (sI s (sR s v2 0) v5.toNatClampNeg), .ref v0]) (s' := s) rfl ⟨⟨trivial, g2⟩, ⟨Or.inl g4.1, g4.2⟩⟩ ?_
      refine bd h (fun r1 hr1 h => ?_)
      refine Ev_call 2 17 1 [.ref v0, .int (sI s (sR s v2 0) v5.toNatClampNeg)] [] rfl rfl rfl rfl g5 rfl rfl (Nat.le_of_ble_eq_true rfl) (t_Row_add hr1) ?_
      refine Ev_blk 2 (pc' := 22) (ls' := [.ref v0, d1, .ref v2, d3, .int v4, .int (v5 + nI 1)]) (st' := []) (s' := r1) rfl trivial ?_
      exact H22 h
    · cases h
      exact Ev_ret rfl trivial
  · cases h
    exact Ev_ret rfl trivial
def l_Row_assemble_22  : Nat → Nat → Nat → Int32 → Int32 → AS → Option AS
  | 0 => fun _ _ _ _ _ => none
  | n + 1 => b_Row_assemble_22  (l_Row_assemble_22  n)
theorem u_Row_assemble_22   {n : Nat} : ∀ {d1 d3 : Value} {v0 : Nat} {v2 : Nat} {v4 : Int32} {v5 : Int32} {s : AS} {o : AS}, l_Row_assemble_22  n v0 v2 v4 v5 s = some o → Ev 2 mZ56 22 [.ref v0, d1, .ref v2, d3, .int v4, .int v5] [] s (none, o) := by
  induction n with
  | zero => intros; rename_i h; cases h
  | succ n ih => intros; rename_i h; exact t_Row_assemble_22  (fun h => ih h) h
def b_Row_assemble_15  (v0 : Nat) (v2 : Nat) (v3 : Int32) (v4 : Int32) (s : AS) : Option AS :=
  l_Row_assemble_22 fuel v0 v2 v4 (if (nI 0) < v3 then v3 else (nI 0)) s
theorem t_Row_assemble_15   {d1 d5 : Value} {v0 : Nat} {v2 : Nat} {v3 : Int32} {v4 : Int32} {s : AS} {o : AS} (h : b_Row_assemble_15  v0 v2 v3 v4 s = some o) : Ev 2 mZ56 15 [.ref v0, d1, .ref v2, .int v3, .int v4, d5] [] s (none, o) := by
  unfold b_Row_assemble_15 at h
  refine Ev_blk 4 (pc' := 22) (ls' := [.ref v0, d1, .ref v2, .int v3, .int v4, .int (if (nI 0) < v3 then v3 else (nI 0))]) (st' := []) (s' := s) rfl trivial ?_
  exact u_Row_assemble_22 h
/-- RecordHeap$Row.assemble(ILRecordHeap$Row;II)V -/
def f_Row_assemble (s : AS) (a0 : Nat) (a1 : Int32) (a2 : Nat) (a3 : Int32) (a4 : Int32) : Option AS :=
  if sT s a0 = 9 then
  if a1 = (-(nI 1)) then
    b_Row_assemble_15 a0 a2 a3 a4 (setI s a0 1 (nI 0))
  else
    (f_Row_link (setI s a0 1 (nI 0)) a0 a1).bind fun r1 =>
    b_Row_assemble_15 a0 a2 a3 a4 r1
  else none
theorem t_Row_assemble {s : AS} {a0 : Nat} {a1 : Int32} {a2 : Nat} {a3 : Int32} {a4 : Int32} {o : AS} (h : f_Row_assemble s a0 a1 a2 a3 a4 = some o) : Ev 2 mZ56 0 [.ref a0, .int a1, .ref a2, .int a3, .int a4, .retAddr 0] [] s (none, o) := by
  unfold f_Row_assemble at h
  refine gd h (fun g1 h => ?_)
  refine Ev_blk 6 (pc' := if a1 = (-(nI 1)) then 15 else 10) (ls' := [.ref a0, .int a1, .ref a2, .int a3, .int a4, .retAddr 0]) (st' := []) (s' := setI s a0 1 (nI 0)) rfl ⟨trivial, g1⟩ ?_
  refine ib h (fun c2 h => ?_) (fun c2 h => ?_)
  · exact t_Row_assemble_15 h
  · refine Ev_blk 2 (pc' := 12) (ls' := [.ref a0, .int a1, .ref a2, .int a3, .int a4, .retAddr 0]) (st' := [.int a1, .ref a0]) (s' := setI s a0 1 (nI 0)) rfl trivial ?_
    refine bd h (fun r1 hr1 h => ?_)
    refine Ev_call 2 57 1 [.ref a0, .int a1] [] rfl rfl rfl rfl g1 rfl rfl (Nat.le_of_ble_eq_true rfl) (t_Row_link hr1) ?_
    exact t_Row_assemble_15 h

/-- RecordHeap$Setting.hasLaw(I)Z -/
def f_Setting_hasLaw (s : AS) (a0 : Nat) (a1 : Int32) : Option Int32 :=
  if a1 < (nI 0) then
    some (nI 0)
  else
    if sT s a0 = 11 then
      some (if a1 < (sI s a0 2) then nI 1 else nI 0)
    else none
theorem t_Setting_hasLaw {s : AS} {a0 : Nat} {a1 : Int32} {o : Int32} (h : f_Setting_hasLaw s a0 a1 = some o) : Ev 0 mZ60 0 [.ref a0, .int a1] [] s (some (.int o), s) := by
  unfold f_Setting_hasLaw at h
  refine Ev_blk 2 (pc' := if a1 < (nI 0) then 16 else 4) (ls' := [.ref a0, .int a1]) (st' := []) (s' := s) rfl trivial ?_
  refine ib h (fun c1 h => ?_) (fun c1 h => ?_)
  · refine Ev_blk 1 (pc' := 17) (ls' := [.ref a0, .int a1]) (st' := [.int (nI 0)]) (s' := s) rfl trivial ?_
    cases h
    exact Ev_ret rfl (Or.inl rfl)
  · refine gd h (fun g2 h => ?_)
    refine Ev_blk 4 (pc' := if a1 < (sI s a0 2) then 12 else 16) (ls' := [.ref a0, .int a1]) (st' := []) (s' := s) rfl ⟨trivial, g2⟩ ?_
    have k3_ : Ev 0 mZ60 17 [.ref a0, .int a1] [.int (if a1 < (sI s a0 2) then nI 1 else nI 0)] s (some (.int o), s) := by
      cases h
      exact Ev_ret rfl (by (repeat' split) <;> first | exact Or.inl rfl | exact Or.inr rfl)
    refine icases (fun c4 => ?_) (fun c4 => ?_)
    · exact Ev_blk 2 (pc' := 17) (ls' := [.ref a0, .int a1]) (st' := [.int (nI 1)]) (s' := s) rfl trivial (by simpa only [if_pos c4] using k3_)
    · exact Ev_blk 1 (pc' := 17) (ls' := [.ref a0, .int a1]) (st' := [.int (nI 0)]) (s' := s) rfl trivial (by simpa only [if_neg c4] using k3_)

/-- RecordHeap$Setting.lawOf(I)LRecordHeap$Text; -/
def f_Setting_lawOf (s : AS) (a0 : Nat) (a1 : Int32) : Option Nat :=
  if sT s a0 = 11 then
  (f_Setting_hasLaw s a0 a1).bind fun r1 =>
  if r1 = (nI 0) then
    some 0
  else
    if 40 ≤ sT s (sR s a0 1) ∧ inA a1 (sN s (sR s a0 1)) then
    some (sR s (sR s a0 1) a1.toNatClampNeg)
    else none
  else none
theorem t_Setting_lawOf {s : AS} {a0 : Nat} {a1 : Int32} {o : Nat} (h : f_Setting_lawOf s a0 a1 = some o) : Ev 1 mZ59 0 [.ref a0, .int a1] [] s (some (.ref o), s) := by
  unfold f_Setting_lawOf at h
  refine gd h (fun g1 h => ?_)
  refine Ev_blk 2 (pc' := 2) (ls' := [.ref a0, .int a1]) (st' := [.int a1, .ref a0]) (s' := s) rfl trivial ?_
  refine bd h (fun r1 hr1 h => ?_)
  refine Ev_call 2 60 1 [.ref a0, .int a1] [] rfl rfl rfl rfl g1 rfl rfl (Nat.le_of_ble_eq_true rfl) (t_Setting_hasLaw hr1) ?_
  refine Ev_blk 1 (pc' := if r1 = (nI 0) then 17 else 8) (ls' := [.ref a0, .int a1]) (st' := []) (s' := s) rfl trivial ?_
  refine ib h (fun c2 h => ?_) (fun c2 h => ?_)
  · refine Ev_blk 1 (pc' := 18) (ls' := [.ref a0, .int a1]) (st' := [.ref 0]) (s' := s) rfl trivial ?_
    cases h
    exact Ev_ret rfl trivial
  · refine gd h (fun g3 h => ?_)
    refine Ev_blk 5 (pc' := 18) (ls' := [.ref a0, .int a1]) (st' := [.ref (sR s (sR s a0 1) a1.toNatClampNeg)]) (s' := s) rfl ⟨⟨trivial, g1⟩, g3⟩ ?_
    cases h
    exact Ev_ret rfl trivial

/-- RecordHeap$Setting.lawInForce()LRecordHeap$Text; -/
def f_Setting_lawInForce (s : AS) (a0 : Nat) : Option Nat :=
  if sT s a0 = 11 then
  (f_Setting_lawOf s a0 (sI s a0 3)).bind fun r1 =>
  some r1
  else none
theorem t_Setting_lawInForce {s : AS} {a0 : Nat} {o : Nat} (h : f_Setting_lawInForce s a0 = some o) : Ev 2 mZ58 0 [.ref a0] [] s (some (.ref o), s) := by
  unfold f_Setting_lawInForce at h
  refine gd h (fun g1 h => ?_)
  refine Ev_blk 3 (pc' := 5) (ls' := [.ref a0]) (st' := [.int (sI s a0 3), .ref a0]) (s' := s) rfl ⟨trivial, g1⟩ ?_
  refine bd h (fun r1 hr1 h => ?_)
  refine Ev_call 2 59 1 [.ref a0, .int (sI s a0 3)] [] rfl rfl rfl rfl g1 rfl rfl (Nat.le_of_ble_eq_true rfl) (t_Setting_lawOf hr1) ?_
  cases h
  exact Ev_ret rfl trivial

def b_Pages_openSlot_2 (s : AS) (k2 : Nat → Int32 → Int32 → Int32 → Option Int32) (v0 : Nat) (v1 : Int32) (v2 : Int32) (v3 : Int32) : Option Int32 :=
  if sT s v0 = 7 then
  if sT s (sR s v0 3) = 20 ∧ inA v1 (sN s (sR s v0 3)) then
  if v3 < (sI s (sR s v0 3) v1.toNatClampNeg) then
    if sT s (sR s v0 0) = 20 ∧ inA ((v1 * (nI 16)) + v3) (sN s (sR s v0 0)) then
    if (sI s (sR s v0 0) ((v1 * (nI 16)) + v3).toNatClampNeg) = (nI 0) then
      if ((v1 * (nI 16)) + v3) = v2 then
        k2 v0 v1 v2 (v3 + nI 1)
      else
        some v3
    else
      k2 v0 v1 v2 (v3 + nI 1)
    else none
  else
    if (sI s (sR s v0 3) v1.toNatClampNeg) < (nI 12) then
      some (sI s (sR s v0 3) v1.toNatClampNeg)
    else
      some (-(nI 1))
  else none
  else none
theorem t_Pages_openSlot_2 {s : AS} {k2 : Nat → Int32 → Int32 → Int32 → Option Int32} (H2 : ∀ {d4 : Value} {v0 : Nat} {v1 : Int32} {v2 : Int32} {v3 : Int32} {o : Int32}, k2 v0 v1 v2 v3 = some o → Ev 0 mZ62 2 [.ref v0, .int v1, .int v2, .int v3, d4] [] s (some (.int o), s)) {d4 : Value} {v0 : Nat} {v1 : Int32} {v2 : Int32} {v3 : Int32} {o : Int32} (h : b_Pages_openSlot_2 s k2 v0 v1 v2 v3 = some o) : Ev 0 mZ62 2 [.ref v0, .int v1, .int v2, .int v3, d4] [] s (some (.int o), s) := by
  unfold b_Pages_openSlot_2 at h
  refine gd h (fun g1 h => ?_)
  refine gd h (fun g2 h => ?_)
  refine Ev_blk 6 (pc' := if v3 < (sI s (sR s v0 3) v1.toNatClampNeg) then 12 else 44) (ls' := [.ref v0, .int v1, .int v2, .int v3, d4]) (st' := []) (s' := s) rfl ⟨⟨trivial, g1⟩, ⟨Or.inl g2.1, g2.2⟩⟩ ?_
  refine ib h (fun c3 h => ?_) (fun c3 h => ?_)
  · refine gd h (fun g4 h => ?_)
    refine Ev_blk 11 (pc' := if (sI s (sR s v0 0) ((v1 * (nI 16)) + v3).toNatClampNeg) = (nI 0) then 30 else 38) (ls' := [.ref v0, .int v1, .int v2, .int v3, .int ((v1 * (nI 16)) + v3)]) (st' := []) (s' := s) rfl ⟨⟨trivial, g1⟩, ⟨Or.inl g4.1, g4.2⟩⟩ ?_
    refine ib h (fun c5 h => ?_) (fun c5 h => ?_)
    · refine Ev_blk 3 (pc' := if ((v1 * (nI 16)) + v3) = v2 then 38 else 36) (ls' := [.ref v0, .int v1, .int v2, .int v3, .int ((v1 * (nI 16)) + v3)]) (st' := []) (s' := s) rfl trivial ?_
      refine ib h (fun c6 h => ?_) (fun c6 h => ?_)
      · refine Ev_blk 2 (pc' := 2) (ls' := [.ref v0, .int v1, .int v2, .int (v3 + nI 1), .int ((v1 * (nI 16)) + v3)]) (st' := []) (s' := s) rfl trivial ?_
        exact H2 h
      · refine Ev_blk 1 (pc' := 37) (ls' := [.ref v0, .int v1, .int v2, .int v3, .int ((v1 * (nI 16)) + v3)]) (st' := [.int v3]) (s' := s) rfl trivial ?_
        cases h
        exact Ev_ret rfl trivial
    · refine Ev_blk 2 (pc' := 2) (ls' := [.ref v0, .int v1, .int v2, .int (v3 + nI 1), .int ((v1 * (nI 16)) + v3)]) (st' := []) (s' := s) rfl trivial ?_
      exact H2 h
  · refine Ev_blk 6 (pc' := if (sI s (sR s v0 3) v1.toNatClampNeg) < (nI 12) then 55 else 64) (ls' := [.ref v0, .int v1, .int v2, .int v3, d4]) (st' := []) (s' := s) rfl ⟨⟨trivial, g1⟩, ⟨Or.inl g2.1, g2.2⟩⟩ ?_
    refine ib h (fun c7 h => ?_) (fun c7 h => ?_)
    · refine Ev_blk 5 (pc' := 65) (ls' := [.ref v0, .int v1, .int v2, .int v3, d4]) (st' := [.int (sI s (sR s v0 3) v1.toNatClampNeg)]) (s' := s) rfl ⟨⟨trivial, g1⟩, ⟨Or.inl g2.1, g2.2⟩⟩ ?_
      cases h
      exact Ev_ret rfl trivial
    · refine Ev_blk 1 (pc' := 65) (ls' := [.ref v0, .int v1, .int v2, .int v3, d4]) (st' := [.int (-(nI 1))]) (s' := s) rfl trivial ?_
      cases h
      exact Ev_ret rfl trivial
def l_Pages_openSlot_2 (s : AS)  : Nat → Nat → Int32 → Int32 → Int32 → Option Int32
  | 0 => fun _ _ _ _ => none
  | n + 1 => b_Pages_openSlot_2 s  (l_Pages_openSlot_2 s  n)
theorem u_Pages_openSlot_2 {s : AS}   {n : Nat} : ∀ {d4 : Value} {v0 : Nat} {v1 : Int32} {v2 : Int32} {v3 : Int32} {o : Int32}, l_Pages_openSlot_2 s  n v0 v1 v2 v3 = some o → Ev 0 mZ62 2 [.ref v0, .int v1, .int v2, .int v3, d4] [] s (some (.int o), s) := by
  induction n with
  | zero => intros; rename_i h; cases h
  | succ n ih => intros; rename_i h; exact t_Pages_openSlot_2  (fun h => ih h) h
/-- RecordHeap$Pages.openSlot(II)I -/
def f_Pages_openSlot (s : AS) (a0 : Nat) (a1 : Int32) (a2 : Int32) : Option Int32 :=
  l_Pages_openSlot_2 s fuel a0 a1 a2 (nI 0)
theorem t_Pages_openSlot {s : AS} {a0 : Nat} {a1 : Int32} {a2 : Int32} {o : Int32} (h : f_Pages_openSlot s a0 a1 a2 = some o) : Ev 0 mZ62 0 [.ref a0, .int a1, .int a2, .retAddr 0, .retAddr 0] [] s (some (.int o), s) := by
  unfold f_Pages_openSlot at h
  refine Ev_blk 2 (pc' := 2) (ls' := [.ref a0, .int a1, .int a2, .int (nI 0), .retAddr 0]) (st' := []) (s' := s) rfl trivial ?_
  exact u_Pages_openSlot_2 h

def b_Desk_leftOn_129 (k129 : Nat → Nat → Int64 → Int32 → AS → Option (Int32 × AS)) (v0 : Nat) (v3 : Nat) (v4 : Int64) (v6 : Int32) (s : AS) : Option (Int32 × AS) :=
  if sT s v3 = 12 then
  if v6 < (sI s v3 3) then
    if sT s v0 = 3 then
    if sT s (sR s v0 1) = 6 then
    (f_Machine_answer s (sR s v0 1) v3 v6 (nI 4)).bind fun r1 =>
    if (lg_cmp r1.1 (lN 1)) = (nI 0) then
      if sT r1.2 v3 = 12 then
      if sT r1.2 (sR r1.2 v3 1) = 20 ∧ inA ((v6 * (nI 6)) + (nI 0)) (sN r1.2 (sR r1.2 v3 1)) then
      if (sI r1.2 (sR r1.2 v3 1) ((v6 * (nI 6)) + (nI 0)).toNatClampNeg) = (nI 1) then
        some (nI 65, r1.2)
      else
        if sT r1.2 v0 = 3 then
        if sT r1.2 (sR r1.2 v0 1) = 6 then
        (f_Machine_answer r1.2 (sR r1.2 v0 1) v3 v6 (nI 2)).bind fun r2 =>
        if (lg_cmp r2.1 (-9000000000000000000 : Int64)) = (nI 0) then
          k129 v0 v3 v4 (v6 + nI 1) r2.2
        else
          k129 v0 v3 (if (if r2.1 < (lN 64) then r2.1 else (lN 64)) < (lN 0) then (lN 0) else (if r2.1 < (lN 64) then r2.1 else (lN 64))) (v6 + nI 1) r2.2
        else none
        else none
      else none
      else none
    else
      k129 v0 v3 v4 (v6 + nI 1) r1.2
    else none
    else none
  else
    some (v4.toInt32, s)
  else none
theorem t_Desk_leftOn_129 {k129 : Nat → Nat → Int64 → Int32 → AS → Option (Int32 × AS)} (H129 : ∀ {d1 d2 d5 d7 d8 : Value} {v0 : Nat} {v3 : Nat} {v4 : Int64} {v6 : Int32} {s : AS} {o : Int32 × AS}, k129 v0 v3 v4 v6 s = some o → Ev 2 mZ63 129 [.ref v0, d1, d2, .ref v3, .long v4, d5, .int v6, d7, d8] [] s (some (.int o.1), o.2)) {d1 d2 d5 d7 d8 : Value} {v0 : Nat} {v3 : Nat} {v4 : Int64} {v6 : Int32} {s : AS} {o : Int32 × AS} (h : b_Desk_leftOn_129 k129 v0 v3 v4 v6 s = some o) : Ev 2 mZ63 129 [.ref v0, d1, d2, .ref v3, .long v4, d5, .int v6, d7, d8] [] s (some (.int o.1), o.2) := by
  unfold b_Desk_leftOn_129 at h
  refine gd h (fun g1 h => ?_)
  refine Ev_blk 4 (pc' := if v6 < (sI s v3 3) then 138 else 220) (ls' := [.ref v0, d1, d2, .ref v3, .long v4, d5, .int v6, d7, d8]) (st' := []) (s' := s) rfl ⟨trivial, g1⟩ ?_
  refine ib h (fun c2 h => ?_) (fun c2 h => ?_)
  · refine gd h (fun g3 h => ?_)
    refine gd h (fun g4 h => ?_)
    refine Ev_blk 5 (pc' := 146) (ls' := [.ref v0, d1, d2, .ref v3, .long v4, d5, .int v6, d7, d8]) (st' := [.int (nI 4), .int v6, .ref v3, .ref (sR s v0 1)]) (s' := s) rfl ⟨trivial, g3⟩ ?_
    refine bd h (fun r1 hr1 h => ?_)
    refine Ev_call 2 48 3 [.ref (sR s v0 1), .ref v3, .int v6, .int (nI 4)] [] rfl rfl rfl rfl g4 rfl rfl (Nat.le_of_ble_eq_true rfl) (t_Machine_answer hr1) ?_
    refine Ev_blk 3 (pc' := if (lg_cmp r1.1 (lN 1)) = (nI 0) then 154 else 214) (ls' := [.ref v0, d1, d2, .ref v3, .long v4, d5, .int v6, d7, d8]) (st' := []) (s' := r1.2) rfl trivial ?_
    refine ib h (fun c5 h => ?_) (fun c5 h => ?_)
    · refine gd h (fun g6 h => ?_)
      refine gd h (fun g7 h => ?_)
      refine Ev_blk 10 (pc' := if (sI r1.2 (sR r1.2 v3 1) ((v6 * (nI 6)) + (nI 0)).toNatClampNeg) = (nI 1) then 170 else 173) (ls' := [.ref v0, d1, d2, .ref v3, .long v4, d5, .int v6, d7, d8]) (st' := []) (s' := r1.2) rfl ⟨⟨trivial, g6⟩, ⟨Or.inl g7.1, g7.2⟩⟩ ?_
      refine ib h (fun c8 h => ?_) (fun c8 h => ?_)
      · refine Ev_blk 1 (pc' := 172) (ls' := [.ref v0, d1, d2, .ref v3, .long v4, d5, .int v6, d7, d8]) (st' := [.int (nI 65)]) (s' := r1.2) rfl trivial ?_
        cases h
        exact Ev_ret rfl trivial
      · refine gd h (fun g9 h => ?_)
        refine gd h (fun g10 h => ?_)
        refine Ev_blk 5 (pc' := 181) (ls' := [.ref v0, d1, d2, .ref v3, .long v4, d5, .int v6, d7, d8]) (st' := [.int (nI 2), .int v6, .ref v3, .ref (sR r1.2 v0 1)]) (s' := r1.2) rfl ⟨trivial, g9⟩ ?_
        refine bd h (fun r2 hr2 h => ?_)
        refine Ev_call 2 48 3 [.ref (sR r1.2 v0 1), .ref v3, .int v6, .int (nI 2)] [] rfl rfl rfl rfl g10 rfl rfl (Nat.le_of_ble_eq_true rfl) (t_Machine_answer hr2) ?_
        refine Ev_blk 5 (pc' := if (lg_cmp r2.1 (-9000000000000000000 : Int64)) = (nI 0) then 195 else 200) (ls' := [.ref v0, d1, d2, .ref v3, .long v4, d5, .int v6, .long r2.1, .retAddr 0]) (st' := []) (s' := r2.2) rfl trivial ?_
        refine ib h (fun c11 h => ?_) (fun c11 h => ?_)
        · refine Ev_blk 5 (pc' := 129) (ls' := [.ref v0, d1, d2, .ref v3, .long v4, .retAddr 0, .int (v6 + nI 1), .long r2.1, .retAddr 0]) (st' := []) (s' := r2.2) rfl trivial ?_
          exact H129 h
        · refine Ev_blk 8 (pc' := 129) (ls' := [.ref v0, d1, d2, .ref v3, .long (if (if r2.1 < (lN 64) then r2.1 else (lN 64)) < (lN 0) then (lN 0) else (if r2.1 < (lN 64) then r2.1 else (lN 64))), .retAddr 0, .int (v6 + nI 1), .long r2.1, .retAddr 0]) (st' := []) (s' := r2.2) rfl trivial ?_
          exact H129 h
    · refine Ev_blk 2 (pc' := 129) (ls' := [.ref v0, d1, d2, .ref v3, .long v4, (clrV d5), .int (v6 + nI 1), d7, d8]) (st' := []) (s' := r1.2) rfl trivial ?_
      exact H129 h
  · refine Ev_blk 2 (pc' := 223) (ls' := [.ref v0, d1, d2, .ref v3, .long v4, d5, .int v6, d7, d8]) (st' := [.int v4.toInt32]) (s' := s) rfl trivial ?_
    cases h
    exact Ev_ret rfl trivial
def l_Desk_leftOn_129  : Nat → Nat → Nat → Int64 → Int32 → AS → Option (Int32 × AS)
  | 0 => fun _ _ _ _ _ => none
  | n + 1 => b_Desk_leftOn_129  (l_Desk_leftOn_129  n)
theorem u_Desk_leftOn_129   {n : Nat} : ∀ {d1 d2 d5 d7 d8 : Value} {v0 : Nat} {v3 : Nat} {v4 : Int64} {v6 : Int32} {s : AS} {o : Int32 × AS}, l_Desk_leftOn_129  n v0 v3 v4 v6 s = some o → Ev 2 mZ63 129 [.ref v0, d1, d2, .ref v3, .long v4, d5, .int v6, d7, d8] [] s (some (.int o.1), o.2) := by
  induction n with
  | zero => intros; rename_i h; cases h
  | succ n ih => intros; rename_i h; exact t_Desk_leftOn_129  (fun h => ih h) h
/-- RecordHeap$Desk.leftOn(IILRecordHeap$Text;)I -/
def f_Desk_leftOn (s : AS) (a0 : Nat) (a1 : Int32) (a2 : Int32) (a3 : Nat) : Option (Int32 × AS) :=
  if a3 = 0 then
    some (nI 0, s)
  else
    if sT s a0 = 3 then
    if sT s (sR s a0 1) = 6 then
    if sT s (sR s (sR s a0 1) 0) = 21 ∧ inA (nI 0) (sN s (sR s (sR s a0 1) 0)) then
    if sT s (sR s (sR s a0 1) 0) = 21 ∧ inA (nI 1) (sN s (sR s (sR s a0 1) 0)) then
    if sT s (sR s a0 2) = 7 then
    (f_Pages_freeOf (setJ (setJ s (sR s (sR s a0 1) 0) (nI 0).toNatClampNeg a1.toInt64) (sR s (sR s a0 1) 0) (nI 1).toNatClampNeg a2.toInt64) (sR s a0 2) a1).bind fun r1 =>
    if sT s (sR s (sR s a0 1) 0) = 21 ∧ inA (nI 2) (sN s (sR s (sR s a0 1) 0)) then
    if sT s (sR s (sR s a0 2) 3) = 20 ∧ inA a1 (sN s (sR s (sR s a0 2) 3)) then
    if sT s (sR s (sR s a0 1) 0) = 21 ∧ inA (nI 3) (sN s (sR s (sR s a0 1) 0)) then
    if sT s (sR s (sR s a0 2) 4) = 20 ∧ inA a1 (sN s (sR s (sR s a0 2) 4)) then
    if sT s (sR s (sR s a0 1) 0) = 21 ∧ inA (nI 4) (sN s (sR s (sR s a0 1) 0)) then
    if sT s (sR s a0 0) = 11 then
    if sT s (sR s (sR s a0 0) 0) = 20 ∧ inA (nI 0) (sN s (sR s (sR s a0 0) 0)) then
    if sT s (sR s (sR s a0 1) 0) = 21 ∧ inA (nI 5) (sN s (sR s (sR s a0 1) 0)) then
    if sT s (sR s (sR s a0 0) 0) = 20 ∧ inA (nI 2) (sN s (sR s (sR s a0 0) 0)) then
    if sT s (sR s (sR s a0 1) 0) = 21 ∧ inA (nI 6) (sN s (sR s (sR s a0 1) 0)) then
    l_Desk_leftOn_129 fuel a0 a3 (lN 0) (nI 0) (setJ (setJ (setJ (setJ (setJ (setJ (setJ s (sR s (sR s a0 1) 0) (nI 0).toNatClampNeg a1.toInt64) (sR s (sR s a0 1) 0) (nI 1).toNatClampNeg a2.toInt64) (sR s (sR s a0 1) 0) (nI 2).toNatClampNeg r1.toInt64) (sR s (sR s a0 1) 0) (nI 3).toNatClampNeg ((sI s (sR s (sR s a0 2) 3) a1.toNatClampNeg).toInt64)) (sR s (sR s a0 1) 0) (nI 4).toNatClampNeg ((sI s (sR s (sR s a0 2) 4) a1.toNatClampNeg).toInt64)) (sR s (sR s a0 1) 0) (nI 5).toNatClampNeg ((sI s (sR s (sR s a0 0) 0) (nI 0).toNatClampNeg).toInt64)) (sR s (sR s a0 1) 0) (nI 6).toNatClampNeg ((sI s (sR s (sR s a0 0) 0) (nI 2).toNatClampNeg).toInt64))
    else none
    else none
    else none
    else none
    else none
    else none
    else none
    else none
    else none
    else none
    else none
    else none
    else none
    else none
    else none
theorem t_Desk_leftOn {s : AS} {a0 : Nat} {a1 : Int32} {a2 : Int32} {a3 : Nat} {o : Int32 × AS} (h : f_Desk_leftOn s a0 a1 a2 a3 = some o) : Ev 2 mZ63 0 [.ref a0, .int a1, .int a2, .ref a3, .retAddr 0, .retAddr 0, .retAddr 0, .retAddr 0, .retAddr 0] [] s (some (.int o.1), o.2) := by
  unfold f_Desk_leftOn at h
  refine Ev_blk 2 (pc' := if a3 = 0 then 4 else 6) (ls' := [.ref a0, .int a1, .int a2, .ref a3, .retAddr 0, .retAddr 0, .retAddr 0, .retAddr 0, .retAddr 0]) (st' := []) (s' := s) rfl trivial ?_
  refine ib h (fun c1 h => ?_) (fun c1 h => ?_)
  · refine Ev_blk 1 (pc' := 5) (ls' := [.ref a0, .int a1, .int a2, .ref a3, .retAddr 0, .retAddr 0, .retAddr 0, .retAddr 0, .retAddr 0]) (st' := [.int (nI 0)]) (s' := s) rfl trivial ?_
    cases h
    exact Ev_ret rfl trivial
  · refine gd h (fun g2 h => ?_)
    refine gd h (fun g3 h => ?_)
    refine gd h (fun g4 h => ?_)
    refine gd h (fun g5 h => ?_)
    refine gd h (fun g6 h => ?_)
    refine Ev_blk 21 (pc' := 41) (ls' := [.ref a0, .int a1, .int a2, .ref a3, .retAddr 0, .retAddr 0, .retAddr 0, .retAddr 0, .retAddr 0]) (st' := [.int a1, .ref (sR s a0 2), .int (nI 2), .ref (sR s (sR s a0 1) 0)]) (s' := setJ (setJ s (sR s (sR s a0 1) 0) (nI 0).toNatClampNeg a1.toInt64) (sR s (sR s a0 1) 0) (nI 1).toNatClampNeg a2.toInt64) rfl ⟨⟨⟨⟨⟨⟨⟨⟨⟨trivial, g2⟩, g3⟩, g4⟩, g2⟩, g3⟩, g5⟩, g2⟩, g3⟩, g2⟩ ?_
    refine bd h (fun r1 hr1 h => ?_)
    refine Ev_call 2 47 1 [.ref (sR s a0 2), .int a1] [.int (nI 2), .ref (sR s (sR s a0 1) 0)] rfl rfl rfl rfl g6 rfl rfl (Nat.le_of_ble_eq_true rfl) (t_Pages_freeOf hr1) ?_
    refine gd h (fun g7 h => ?_)
    refine gd h (fun g8 h => ?_)
    refine gd h (fun g9 h => ?_)
    refine gd h (fun g10 h => ?_)
    refine gd h (fun g11 h => ?_)
    refine gd h (fun g12 h => ?_)
    refine gd h (fun g13 h => ?_)
    refine gd h (fun g14 h => ?_)
    refine gd h (fun g15 h => ?_)
    refine gd h (fun g16 h => ?_)
    refine Ev_blk 50 (pc' := 129) (ls' := [.ref a0, .int a1, .int a2, .ref a3, .long (lN 0), .retAddr 0, .int (nI 0), .retAddr 0, .retAddr 0]) (st' := []) (s' := setJ (setJ (setJ (setJ (setJ (setJ (setJ s (sR s (sR s a0 1) 0) (nI 0).toNatClampNeg a1.toInt64) (sR s (sR s a0 1) 0) (nI 1).toNatClampNeg a2.toInt64) (sR s (sR s a0 1) 0) (nI 2).toNatClampNeg r1.toInt64) (sR s (sR s a0 1) 0) (nI 3).toNatClampNeg ((sI s (sR s (sR s a0 2) 3) a1.toNatClampNeg).toInt64)) (sR s (sR s a0 1) 0) (nI 4).toNatClampNeg ((sI s (sR s (sR s a0 2) 4) a1.toNatClampNeg).toInt64)) (sR s (sR s a0 1) 0) (nI 5).toNatClampNeg ((sI s (sR s (sR s a0 0) 0) (nI 0).toNatClampNeg).toInt64)) (sR s (sR s a0 1) 0) (nI 6).toNatClampNeg ((sI s (sR s (sR s a0 0) 0) (nI 2).toNatClampNeg).toInt64)) rfl ⟨⟨⟨⟨⟨⟨⟨⟨⟨⟨⟨⟨⟨⟨⟨⟨⟨⟨⟨⟨⟨⟨⟨⟨⟨trivial, g7⟩, g2⟩, g3⟩, g2⟩, g6⟩, ⟨Or.inl g8.1, g8.2⟩⟩, g9⟩, g2⟩, g3⟩, g2⟩, g6⟩, ⟨Or.inl g10.1, g10.2⟩⟩, g11⟩, g2⟩, g3⟩, g2⟩, g12⟩, ⟨Or.inl g13.1, g13.2⟩⟩, g14⟩, g2⟩, g3⟩, g2⟩, g12⟩, ⟨Or.inl g15.1, g15.2⟩⟩, g16⟩ ?_
    exact u_Desk_leftOn_129 h

def b_Desk_pageFor_50 (k2 : Nat → Int32 → Nat → Int32 → AS → Option (Int32 × AS)) (v0 : Nat) (v1 : Int32) (v2 : Nat) (v3 : Int32) (w0 : Int32) (s : AS) : Option (Int32 × AS) :=
  if w0 = (nI 0) then
    k2 v0 v1 v2 (v3 + nI 1) s
  else
    if sT s v0 = 3 then
    if sT s (sR s v0 2) = 7 then
    (f_Pages_freeOf s (sR s v0 2) v3).bind fun r1 =>
    (f_Desk_leftOn s v0 v3 v1 v2).bind fun r2 =>
    if ((r1 - v1) - (nI 2)) < r2.1 then
      k2 v0 v1 v2 (v3 + nI 1) r2.2
    else
      some (v3, r2.2)
    else none
    else none
theorem t_Desk_pageFor_50 {k2 : Nat → Int32 → Nat → Int32 → AS → Option (Int32 × AS)} (H2 : ∀ {d4 : Value} {v0 : Nat} {v1 : Int32} {v2 : Nat} {v3 : Int32} {s : AS} {o : Int32 × AS}, k2 v0 v1 v2 v3 s = some o → Ev 3 mZ61 2 [.ref v0, .int v1, .ref v2, .int v3, d4] [] s (some (.int o.1), o.2)) {d4 : Value} {v0 : Nat} {v1 : Int32} {v2 : Nat} {v3 : Int32} {w0 : Int32} {s : AS} {o : Int32 × AS} (h : b_Desk_pageFor_50 k2 v0 v1 v2 v3 w0 s = some o) : Ev 3 mZ61 50 [.ref v0, .int v1, .ref v2, .int v3, d4] [.int w0] s (some (.int o.1), o.2) := by
  unfold b_Desk_pageFor_50 at h
  refine Ev_blk 3 (pc' := if w0 = (nI 0) then 81 else 57) (ls' := [.ref v0, .int v1, .ref v2, .int v3, .int w0]) (st' := []) (s' := s) rfl trivial ?_
  refine ib h (fun c1 h => ?_) (fun c1 h => ?_)
  · refine Ev_blk 2 (pc' := 2) (ls' := [.ref v0, .int v1, .ref v2, .int (v3 + nI 1), .int w0]) (st' := []) (s' := s) rfl trivial ?_
    exact H2 h
  · refine gd h (fun g2 h => ?_)
    refine gd h (fun g3 h => ?_)
    refine Ev_blk 3 (pc' := 62) (ls' := [.ref v0, .int v1, .ref v2, .int v3, .int w0]) (st' := [.int v3, .ref (sR s v0 2)]) (s' := s) rfl ⟨trivial, g2⟩ ?_
    refine bd h (fun r1 hr1 h => ?_)
    refine Ev_call 2 47 1 [.ref (sR s v0 2), .int v3] [] rfl rfl rfl rfl g3 rfl rfl (Nat.le_of_ble_eq_true rfl) (t_Pages_freeOf hr1) ?_
    refine Ev_blk 8 (pc' := 73) (ls' := [.ref v0, .int v1, .ref v2, .int v3, .int w0]) (st' := [.ref v2, .int v1, .int v3, .ref v0, .int ((r1 - v1) - (nI 2))]) (s' := s) rfl trivial ?_
    refine bd h (fun r2 hr2 h => ?_)
    refine Ev_call 2 63 3 [.ref v0, .int v3, .int v1, .ref v2] [.int ((r1 - v1) - (nI 2))] rfl rfl rfl rfl g2 rfl rfl (Nat.le_of_ble_eq_true rfl) (t_Desk_leftOn hr2) ?_
    refine Ev_blk 1 (pc' := if ((r1 - v1) - (nI 2)) < r2.1 then 81 else 79) (ls' := [.ref v0, .int v1, .ref v2, .int v3, .int w0]) (st' := []) (s' := r2.2) rfl trivial ?_
    refine ib h (fun c4 h => ?_) (fun c4 h => ?_)
    · refine Ev_blk 2 (pc' := 2) (ls' := [.ref v0, .int v1, .ref v2, .int (v3 + nI 1), .int w0]) (st' := []) (s' := r2.2) rfl trivial ?_
      exact H2 h
    · refine Ev_blk 1 (pc' := 80) (ls' := [.ref v0, .int v1, .ref v2, .int v3, .int w0]) (st' := [.int v3]) (s' := r2.2) rfl trivial ?_
      cases h
      exact Ev_ret rfl trivial
def b_Desk_pageFor_49 (k2 : Nat → Int32 → Nat → Int32 → AS → Option (Int32 × AS)) (v0 : Nat) (v1 : Int32) (v2 : Nat) (v3 : Int32) (s : AS) : Option (Int32 × AS) :=
  b_Desk_pageFor_50 k2 v0 v1 v2 v3 (nI 0) s
theorem t_Desk_pageFor_49 {k2 : Nat → Int32 → Nat → Int32 → AS → Option (Int32 × AS)} (H2 : ∀ {d4 : Value} {v0 : Nat} {v1 : Int32} {v2 : Nat} {v3 : Int32} {s : AS} {o : Int32 × AS}, k2 v0 v1 v2 v3 s = some o → Ev 3 mZ61 2 [.ref v0, .int v1, .ref v2, .int v3, d4] [] s (some (.int o.1), o.2)) {d4 : Value} {v0 : Nat} {v1 : Int32} {v2 : Nat} {v3 : Int32} {s : AS} {o : Int32 × AS} (h : b_Desk_pageFor_49 k2 v0 v1 v2 v3 s = some o) : Ev 3 mZ61 49 [.ref v0, .int v1, .ref v2, .int v3, d4] [] s (some (.int o.1), o.2) := by
  unfold b_Desk_pageFor_49 at h
  refine Ev_blk 1 (pc' := 50) (ls' := [.ref v0, .int v1, .ref v2, .int v3, d4]) (st' := [.int (nI 0)]) (s' := s) rfl trivial ?_
  exact t_Desk_pageFor_50 H2 h
def b_Desk_pageFor_2 (k2 : Nat → Int32 → Nat → Int32 → AS → Option (Int32 × AS)) (v0 : Nat) (v1 : Int32) (v2 : Nat) (v3 : Int32) (s : AS) : Option (Int32 × AS) :=
  if v3 < (nI 8) then
    if sT s v0 = 3 then
    if sT s (sR s v0 2) = 7 then
    if sT s (sR s (sR s v0 2) 4) = 20 ∧ inA v3 (sN s (sR s (sR s v0 2) 4)) then
    if ¬ (nI 8) = nI 0 then
    if (sI s (sR s (sR s v0 2) 4) v3.toNatClampNeg) < (((v1 + (nI 8)) + (nI 1)) / (nI 8)) then
      b_Desk_pageFor_49 k2 v0 v1 v2 v3 s
    else
      (f_Pages_openSlot s (sR s v0 2) v3 (sI s v0 6)).bind fun r1 =>
        b_Desk_pageFor_50 k2 v0 v1 v2 v3 (if r1 = (-(nI 1)) then nI 0 else nI 1) s
    else none
    else none
    else none
    else none
  else
    some (-(nI 1), s)
theorem t_Desk_pageFor_2 {k2 : Nat → Int32 → Nat → Int32 → AS → Option (Int32 × AS)} (H2 : ∀ {d4 : Value} {v0 : Nat} {v1 : Int32} {v2 : Nat} {v3 : Int32} {s : AS} {o : Int32 × AS}, k2 v0 v1 v2 v3 s = some o → Ev 3 mZ61 2 [.ref v0, .int v1, .ref v2, .int v3, d4] [] s (some (.int o.1), o.2)) {d4 : Value} {v0 : Nat} {v1 : Int32} {v2 : Nat} {v3 : Int32} {s : AS} {o : Int32 × AS} (h : b_Desk_pageFor_2 k2 v0 v1 v2 v3 s = some o) : Ev 3 mZ61 2 [.ref v0, .int v1, .ref v2, .int v3, d4] [] s (some (.int o.1), o.2) := by
  unfold b_Desk_pageFor_2 at h
  refine Ev_blk 3 (pc' := if v3 < (nI 8) then 8 else 87) (ls' := [.ref v0, .int v1, .ref v2, .int v3, d4]) (st' := []) (s' := s) rfl trivial ?_
  refine ib h (fun c1 h => ?_) (fun c1 h => ?_)
  · refine gd h (fun g2 h => ?_)
    refine gd h (fun g3 h => ?_)
    refine gd h (fun g4 h => ?_)
    refine gd h (fun g5 h => ?_)
    refine Ev_blk 13 (pc' := if (sI s (sR s (sR s v0 2) 4) v3.toNatClampNeg) < (((v1 + (nI 8)) + (nI 1)) / (nI 8)) then 49 else 29) (ls' := [.ref v0, .int v1, .ref v2, .int v3, d4]) (st' := []) (s' := s) rfl ⟨⟨⟨⟨trivial, g2⟩, g3⟩, ⟨Or.inl g4.1, g4.2⟩⟩, g5⟩ ?_
    refine ib h (fun c6 h => ?_) (fun c6 h => ?_)
    · exact t_Desk_pageFor_49 H2 h
    · refine Ev_blk 5 (pc' := 38) (ls' := [.ref v0, .int v1, .ref v2, .int v3, d4]) (st' := [.int (sI s v0 6), .int v3, .ref (sR s v0 2)]) (s' := s) rfl ⟨⟨trivial, g2⟩, g2⟩ ?_
      refine bd h (fun r1 hr1 h => ?_)
      refine Ev_call 2 62 2 [.ref (sR s v0 2), .int v3, .int (sI s v0 6)] [] rfl rfl rfl rfl g3 rfl rfl (Nat.le_of_ble_eq_true rfl) (t_Pages_openSlot hr1) ?_
      refine Ev_blk 2 (pc' := if r1 = (-(nI 1)) then 49 else 45) (ls' := [.ref v0, .int v1, .ref v2, .int v3, d4]) (st' := []) (s' := s) rfl trivial ?_
      have k7_ : Ev 3 mZ61 50 [.ref v0, .int v1, .ref v2, .int v3, d4] [.int (if r1 = (-(nI 1)) then nI 0 else nI 1)] s (some (.int o.1), o.2) := by
        exact t_Desk_pageFor_50 H2 h
      refine icases (fun c8 => ?_) (fun c8 => ?_)
      · exact Ev_blk 1 (pc' := 50) (ls' := [.ref v0, .int v1, .ref v2, .int v3, d4]) (st' := [.int (nI 0)]) (s' := s) rfl trivial (by simpa only [if_pos c8] using k7_)
      · exact Ev_blk 2 (pc' := 50) (ls' := [.ref v0, .int v1, .ref v2, .int v3, d4]) (st' := [.int (nI 1)]) (s' := s) rfl trivial (by simpa only [if_neg c8] using k7_)
  · refine Ev_blk 1 (pc' := 88) (ls' := [.ref v0, .int v1, .ref v2, .int v3, d4]) (st' := [.int (-(nI 1))]) (s' := s) rfl trivial ?_
    cases h
    exact Ev_ret rfl trivial
def l_Desk_pageFor_2  : Nat → Nat → Int32 → Nat → Int32 → AS → Option (Int32 × AS)
  | 0 => fun _ _ _ _ _ => none
  | n + 1 => b_Desk_pageFor_2  (l_Desk_pageFor_2  n)
theorem u_Desk_pageFor_2   {n : Nat} : ∀ {d4 : Value} {v0 : Nat} {v1 : Int32} {v2 : Nat} {v3 : Int32} {s : AS} {o : Int32 × AS}, l_Desk_pageFor_2  n v0 v1 v2 v3 s = some o → Ev 3 mZ61 2 [.ref v0, .int v1, .ref v2, .int v3, d4] [] s (some (.int o.1), o.2) := by
  induction n with
  | zero => intros; rename_i h; cases h
  | succ n ih => intros; rename_i h; exact t_Desk_pageFor_2  (fun h => ih h) h
/-- RecordHeap$Desk.pageFor(ILRecordHeap$Text;)I -/
def f_Desk_pageFor (s : AS) (a0 : Nat) (a1 : Int32) (a2 : Nat) : Option (Int32 × AS) :=
  l_Desk_pageFor_2 fuel a0 a1 a2 (nI 0) s
theorem t_Desk_pageFor {s : AS} {a0 : Nat} {a1 : Int32} {a2 : Nat} {o : Int32 × AS} (h : f_Desk_pageFor s a0 a1 a2 = some o) : Ev 3 mZ61 0 [.ref a0, .int a1, .ref a2, .retAddr 0, .retAddr 0] [] s (some (.int o.1), o.2) := by
  unfold f_Desk_pageFor at h
  refine Ev_blk 2 (pc' := 2) (ls' := [.ref a0, .int a1, .ref a2, .int (nI 0), .retAddr 0]) (st' := []) (s' := s) rfl trivial ?_
  exact u_Desk_pageFor_2 h

def b_Pages_lowestOf_5 (s : AS) (k5 : Nat → Int32 → Int32 → Int32 → Option Int32) (v0 : Nat) (v1 : Int32) (v2 : Int32) (v3 : Int32) : Option Int32 :=
  if sT s v0 = 7 then
  if sT s (sR s v0 3) = 20 ∧ inA v1 (sN s (sR s v0 3)) then
  if v3 < (sI s (sR s v0 3) v1.toNatClampNeg) then
    if sT s (sR s v0 0) = 20 ∧ inA ((v1 * (nI 16)) + v3) (sN s (sR s v0 0)) then
    if (sI s (sR s v0 0) ((v1 * (nI 16)) + v3).toNatClampNeg) = (nI 0) then
      k5 v0 v1 v2 (v3 + nI 1)
    else
      if sT s (sR s v0 1) = 20 ∧ inA ((v1 * (nI 16)) + v3) (sN s (sR s v0 1)) then
      k5 v0 v1 (if (sI s (sR s v0 1) ((v1 * (nI 16)) + v3).toNatClampNeg) < v2 then (sI s (sR s v0 1) ((v1 * (nI 16)) + v3).toNatClampNeg) else v2) (v3 + nI 1)
      else none
    else none
  else
    some v2
  else none
  else none
theorem t_Pages_lowestOf_5 {s : AS} {k5 : Nat → Int32 → Int32 → Int32 → Option Int32} (H5 : ∀ {d4 : Value} {v0 : Nat} {v1 : Int32} {v2 : Int32} {v3 : Int32} {o : Int32}, k5 v0 v1 v2 v3 = some o → Ev 0 mZ67 5 [.ref v0, .int v1, .int v2, .int v3, d4] [] s (some (.int o), s)) {d4 : Value} {v0 : Nat} {v1 : Int32} {v2 : Int32} {v3 : Int32} {o : Int32} (h : b_Pages_lowestOf_5 s k5 v0 v1 v2 v3 = some o) : Ev 0 mZ67 5 [.ref v0, .int v1, .int v2, .int v3, d4] [] s (some (.int o), s) := by
  unfold b_Pages_lowestOf_5 at h
  refine gd h (fun g1 h => ?_)
  refine gd h (fun g2 h => ?_)
  refine Ev_blk 6 (pc' := if v3 < (sI s (sR s v0 3) v1.toNatClampNeg) then 15 else 51) (ls' := [.ref v0, .int v1, .int v2, .int v3, d4]) (st' := []) (s' := s) rfl ⟨⟨trivial, g1⟩, ⟨Or.inl g2.1, g2.2⟩⟩ ?_
  refine ib h (fun c3 h => ?_) (fun c3 h => ?_)
  · refine gd h (fun g4 h => ?_)
    refine Ev_blk 11 (pc' := if (sI s (sR s v0 0) ((v1 * (nI 16)) + v3).toNatClampNeg) = (nI 0) then 45 else 33) (ls' := [.ref v0, .int v1, .int v2, .int v3, .int ((v1 * (nI 16)) + v3)]) (st' := []) (s' := s) rfl ⟨⟨trivial, g1⟩, ⟨Or.inl g4.1, g4.2⟩⟩ ?_
    refine ib h (fun c5 h => ?_) (fun c5 h => ?_)
    · refine Ev_blk 2 (pc' := 5) (ls' := [.ref v0, .int v1, .int v2, .int (v3 + nI 1), .int ((v1 * (nI 16)) + v3)]) (st' := []) (s' := s) rfl trivial ?_
      exact H5 h
    · refine gd h (fun g6 h => ?_)
      refine Ev_blk 9 (pc' := 5) (ls' := [.ref v0, .int v1, .int (if (sI s (sR s v0 1) ((v1 * (nI 16)) + v3).toNatClampNeg) < v2 then (sI s (sR s v0 1) ((v1 * (nI 16)) + v3).toNatClampNeg) else v2), .int (v3 + nI 1), .int ((v1 * (nI 16)) + v3)]) (st' := []) (s' := s) rfl ⟨⟨trivial, g1⟩, ⟨Or.inl g6.1, g6.2⟩⟩ ?_
      exact H5 h
  · refine Ev_blk 1 (pc' := 52) (ls' := [.ref v0, .int v1, .int v2, .int v3, d4]) (st' := [.int v2]) (s' := s) rfl trivial ?_
    cases h
    exact Ev_ret rfl trivial
def l_Pages_lowestOf_5 (s : AS)  : Nat → Nat → Int32 → Int32 → Int32 → Option Int32
  | 0 => fun _ _ _ _ => none
  | n + 1 => b_Pages_lowestOf_5 s  (l_Pages_lowestOf_5 s  n)
theorem u_Pages_lowestOf_5 {s : AS}   {n : Nat} : ∀ {d4 : Value} {v0 : Nat} {v1 : Int32} {v2 : Int32} {v3 : Int32} {o : Int32}, l_Pages_lowestOf_5 s  n v0 v1 v2 v3 = some o → Ev 0 mZ67 5 [.ref v0, .int v1, .int v2, .int v3, d4] [] s (some (.int o), s) := by
  induction n with
  | zero => intros; rename_i h; cases h
  | succ n ih => intros; rename_i h; exact t_Pages_lowestOf_5  (fun h => ih h) h
/-- RecordHeap$Pages.lowestOf(I)I -/
def f_Pages_lowestOf (s : AS) (a0 : Nat) (a1 : Int32) : Option Int32 :=
  l_Pages_lowestOf_5 s fuel a0 a1 (nI 64) (nI 0)
theorem t_Pages_lowestOf {s : AS} {a0 : Nat} {a1 : Int32} {o : Int32} (h : f_Pages_lowestOf s a0 a1 = some o) : Ev 0 mZ67 0 [.ref a0, .int a1, .retAddr 0, .retAddr 0, .retAddr 0] [] s (some (.int o), s) := by
  unfold f_Pages_lowestOf at h
  refine Ev_blk 4 (pc' := 5) (ls' := [.ref a0, .int a1, .int (nI 64), .int (nI 0), .retAddr 0]) (st' := []) (s' := s) rfl trivial ?_
  exact u_Pages_lowestOf_5 h

/-- RecordHeap$Pages.gapOf(I)I -/
def f_Pages_gapOf (s : AS) (a0 : Nat) (a1 : Int32) : Option Int32 :=
  if sT s a0 = 7 then
  (f_Pages_lowestOf s a0 a1).bind fun r1 =>
  if sT s (sR s a0 3) = 20 ∧ inA a1 (sN s (sR s a0 3)) then
  some (r1 - ((nI 2) * (sI s (sR s a0 3) a1.toNatClampNeg)))
  else none
  else none
theorem t_Pages_gapOf {s : AS} {a0 : Nat} {a1 : Int32} {o : Int32} (h : f_Pages_gapOf s a0 a1 = some o) : Ev 1 mZ66 0 [.ref a0, .int a1] [] s (some (.int o), s) := by
  unfold f_Pages_gapOf at h
  refine gd h (fun g1 h => ?_)
  refine Ev_blk 2 (pc' := 2) (ls' := [.ref a0, .int a1]) (st' := [.int a1, .ref a0]) (s' := s) rfl trivial ?_
  refine bd h (fun r1 hr1 h => ?_)
  refine Ev_call 2 67 1 [.ref a0, .int a1] [] rfl rfl rfl rfl g1 rfl rfl (Nat.le_of_ble_eq_true rfl) (t_Pages_lowestOf hr1) ?_
  refine gd h (fun g2 h => ?_)
  refine Ev_blk 7 (pc' := 14) (ls' := [.ref a0, .int a1]) (st' := [.int (r1 - ((nI 2) * (sI s (sR s a0 3) a1.toNatClampNeg)))]) (s' := s) rfl ⟨⟨trivial, g1⟩, ⟨Or.inl g2.1, g2.2⟩⟩ ?_
  cases h
  exact Ev_ret rfl trivial

def b_Desk_squeeze_29 (k29 : Nat → Int32 → Int32 → Int32 → Int32 → AS → Option AS) (v0 : Nat) (v1 : Int32) (v2 : Int32) (v3 : Int32) (v4 : Int32) (s : AS) : Option AS :=
  if sT s v0 = 3 then
  if sT s (sR s v0 2) = 7 then
  if sT s (sR s (sR s v0 2) 3) = 20 ∧ inA v1 (sN s (sR s (sR s v0 2) 3)) then
  if v4 < (sI s (sR s (sR s v0 2) 3) v1.toNatClampNeg) then
    if sT s (sR s (sR s v0 2) 0) = 20 ∧ inA ((v1 * (nI 16)) + v4) (sN s (sR s (sR s v0 2) 0)) then
    if (sI s (sR s (sR s v0 2) 0) ((v1 * (nI 16)) + v4).toNatClampNeg) = (nI 0) then
      k29 v0 v1 v2 v3 (v4 + nI 1) s
    else
      if sT s (sR s (sR s v0 2) 2) = 20 ∧ inA ((v1 * (nI 16)) + v4) (sN s (sR s (sR s v0 2) 2)) then
      if sT s (sR s (sR s v0 2) 1) = 20 ∧ inA ((v1 * (nI 16)) + v4) (sN s (sR s (sR s v0 2) 1)) then
      (cpA s (sR s v0 5) (sI s (sR s (sR s v0 2) 1) ((v1 * (nI 16)) + v4).toNatClampNeg) (sR s (sR s v0 2) 5) (v2 + (v3 - (sI s (sR s (sR s v0 2) 2) ((v1 * (nI 16)) + v4).toNatClampNeg))) (sI s (sR s (sR s v0 2) 2) ((v1 * (nI 16)) + v4).toNatClampNeg)).bind fun r1 =>
      if sT r1 v0 = 3 then
      if sT r1 (sR r1 v0 2) = 7 then
      if sT r1 (sR r1 (sR r1 v0 2) 1) = 20 ∧ inA ((v1 * (nI 16)) + v4) (sN r1 (sR r1 (sR r1 v0 2) 1)) then
      k29 v0 v1 v2 (v3 - (sI s (sR s (sR s v0 2) 2) ((v1 * (nI 16)) + v4).toNatClampNeg)) (v4 + nI 1) (setI r1 (sR r1 (sR r1 v0 2) 1) ((v1 * (nI 16)) + v4).toNatClampNeg (v3 - (sI s (sR s (sR s v0 2) 2) ((v1 * (nI 16)) + v4).toNatClampNeg)))
      else none
      else none
      else none
      else none
      else none
    else none
  else
    some s
  else none
  else none
  else none
theorem t_Desk_squeeze_29 {k29 : Nat → Int32 → Int32 → Int32 → Int32 → AS → Option AS} (H29 : ∀ {d5 d6 : Value} {v0 : Nat} {v1 : Int32} {v2 : Int32} {v3 : Int32} {v4 : Int32} {s : AS} {o : AS}, k29 v0 v1 v2 v3 v4 s = some o → Ev 0 mZ68 29 [.ref v0, .int v1, .int v2, .int v3, .int v4, d5, d6] [] s (none, o)) {d5 d6 : Value} {v0 : Nat} {v1 : Int32} {v2 : Int32} {v3 : Int32} {v4 : Int32} {s : AS} {o : AS} (h : b_Desk_squeeze_29 k29 v0 v1 v2 v3 v4 s = some o) : Ev 0 mZ68 29 [.ref v0, .int v1, .int v2, .int v3, .int v4, d5, d6] [] s (none, o) := by
  unfold b_Desk_squeeze_29 at h
  refine gd h (fun g1 h => ?_)
  refine gd h (fun g2 h => ?_)
  refine gd h (fun g3 h => ?_)
  refine Ev_blk 7 (pc' := if v4 < (sI s (sR s (sR s v0 2) 3) v1.toNatClampNeg) then 43 else 128) (ls' := [.ref v0, .int v1, .int v2, .int v3, .int v4, d5, d6]) (st' := []) (s' := s) rfl ⟨⟨⟨trivial, g1⟩, g2⟩, ⟨Or.inl g3.1, g3.2⟩⟩ ?_
  refine ib h (fun c4 h => ?_) (fun c4 h => ?_)
  · refine gd h (fun g5 h => ?_)
    refine Ev_blk 12 (pc' := if (sI s (sR s (sR s v0 2) 0) ((v1 * (nI 16)) + v4).toNatClampNeg) = (nI 0) then 122 else 65) (ls' := [.ref v0, .int v1, .int v2, .int v3, .int v4, .int ((v1 * (nI 16)) + v4), d6]) (st' := []) (s' := s) rfl ⟨⟨⟨trivial, g1⟩, g2⟩, ⟨Or.inl g5.1, g5.2⟩⟩ ?_
    refine ib h (fun c6 h => ?_) (fun c6 h => ?_)
    · refine Ev_blk 2 (pc' := 29) (ls' := [.ref v0, .int v1, .int v2, .int v3, .int (v4 + nI 1), .int ((v1 * (nI 16)) + v4), d6]) (st' := []) (s' := s) rfl trivial ?_
      exact H29 h
    · refine gd h (fun g7 h => ?_)
      refine gd h (fun g8 h => ?_)
      refine bd h (fun r1 hr1 h => ?_)
      obtain ⟨gr1, er1⟩ := cpA_inv hr1
      refine Ev_blk 25 (pc' := 111) (ls' := [.ref v0, .int v1, .int v2, .int (v3 - (sI s (sR s (sR s v0 2) 2) ((v1 * (nI 16)) + v4).toNatClampNeg)), .int v4, .int ((v1 * (nI 16)) + v4), .int (sI s (sR s (sR s v0 2) 2) ((v1 * (nI 16)) + v4).toNatClampNeg)]) (st' := []) (s' := rowI s (sR s (sR s v0 2) 5) (va_cpy (sI s (sR s v0 5)) (sI s (sR s (sR s v0 2) 5)) (sI s (sR s (sR s v0 2) 1) ((v1 * (nI 16)) + v4).toNatClampNeg).toNatClampNeg (v2 + (v3 - (sI s (sR s (sR s v0 2) 2) ((v1 * (nI 16)) + v4).toNatClampNeg))).toNatClampNeg (sI s (sR s (sR s v0 2) 2) ((v1 * (nI 16)) + v4).toNatClampNeg).toNatClampNeg)) rfl ⟨⟨⟨⟨⟨⟨⟨⟨⟨⟨trivial, g1⟩, g2⟩, ⟨Or.inl g7.1, g7.2⟩⟩, g1⟩, g1⟩, g2⟩, ⟨Or.inl g8.1, g8.2⟩⟩, g1⟩, g2⟩, gr1⟩ ?_
      rw [← er1]
      refine gd h (fun g9 h => ?_)
      refine gd h (fun g10 h => ?_)
      refine gd h (fun g11 h => ?_)
      refine Ev_blk 8 (pc' := 29) (ls' := [.ref v0, .int v1, .int v2, .int (v3 - (sI s (sR s (sR s v0 2) 2) ((v1 * (nI 16)) + v4).toNatClampNeg)), .int (v4 + nI 1), .int ((v1 * (nI 16)) + v4), .int (sI s (sR s (sR s v0 2) 2) ((v1 * (nI 16)) + v4).toNatClampNeg)]) (st' := []) (s' := setI r1 (sR r1 (sR r1 v0 2) 1) ((v1 * (nI 16)) + v4).toNatClampNeg (v3 - (sI s (sR s (sR s v0 2) 2) ((v1 * (nI 16)) + v4).toNatClampNeg))) rfl ⟨⟨⟨trivial, g9⟩, g10⟩, g11⟩ ?_
      exact H29 h
  · cases h
    exact Ev_ret rfl trivial
def l_Desk_squeeze_29  : Nat → Nat → Int32 → Int32 → Int32 → Int32 → AS → Option AS
  | 0 => fun _ _ _ _ _ _ => none
  | n + 1 => b_Desk_squeeze_29  (l_Desk_squeeze_29  n)
theorem u_Desk_squeeze_29   {n : Nat} : ∀ {d5 d6 : Value} {v0 : Nat} {v1 : Int32} {v2 : Int32} {v3 : Int32} {v4 : Int32} {s : AS} {o : AS}, l_Desk_squeeze_29  n v0 v1 v2 v3 v4 s = some o → Ev 0 mZ68 29 [.ref v0, .int v1, .int v2, .int v3, .int v4, d5, d6] [] s (none, o) := by
  induction n with
  | zero => intros; rename_i h; cases h
  | succ n ih => intros; rename_i h; exact t_Desk_squeeze_29  (fun h => ih h) h
/-- RecordHeap$Desk.squeeze(I)V -/
def f_Desk_squeeze (s : AS) (a0 : Nat) (a1 : Int32) : Option AS :=
  if sT s a0 = 3 then
  if sT s (sR s a0 2) = 7 then
  (cpA s (sR s (sR s a0 2) 5) (a1 * (nI 64)) (sR s a0 5) (nI 0) (nI 64)).bind fun r1 =>
  l_Desk_squeeze_29 fuel a0 a1 (a1 * (nI 64)) (nI 64) (nI 0) r1
  else none
  else none
theorem t_Desk_squeeze {s : AS} {a0 : Nat} {a1 : Int32} {o : AS} (h : f_Desk_squeeze s a0 a1 = some o) : Ev 0 mZ68 0 [.ref a0, .int a1, .retAddr 0, .retAddr 0, .retAddr 0, .retAddr 0, .retAddr 0] [] s (none, o) := by
  unfold f_Desk_squeeze at h
  refine gd h (fun g1 h => ?_)
  refine gd h (fun g2 h => ?_)
  refine bd h (fun r1 hr1 h => ?_)
  obtain ⟨gr1, er1⟩ := cpA_inv hr1
  refine Ev_blk 13 (pc' := 23) (ls' := [.ref a0, .int a1, .int (a1 * (nI 64)), .retAddr 0, .retAddr 0, .retAddr 0, .retAddr 0]) (st' := []) (s' := rowI s (sR s a0 5) (va_cpy (sI s (sR s (sR s a0 2) 5)) (sI s (sR s a0 5)) (a1 * (nI 64)).toNatClampNeg (nI 0).toNatClampNeg (nI 64).toNatClampNeg)) rfl ⟨⟨⟨⟨trivial, g1⟩, g2⟩, g1⟩, gr1⟩ ?_
  rw [← er1]
  refine Ev_blk 4 (pc' := 29) (ls' := [.ref a0, .int a1, .int (a1 * (nI 64)), .int (nI 64), .int (nI 0), .retAddr 0, .retAddr 0]) (st' := []) (s' := r1) rfl trivial ?_
  exact u_Desk_squeeze_29 h

def b_Pages_write_39 (k39 : Nat → Nat → Int32 → Int32 → AS → Option AS) (v0 : Nat) (v4 : Nat) (v5 : Int32) (v6 : Int32) (s : AS) : Option AS :=
  if sT s v4 = 9 then
  if v6 < (sI s v4 1) then
    if sT s v0 = 7 then
    if 20 ≤ sT s (sR s v0 5) then
    if (v5 + v6) < (nI (sN s (sR s v0 5))) then
      if sT s (sR s v4 0) = 20 ∧ inA v6 (sN s (sR s v4 0)) then
      if sT s (sR s v0 5) = 20 ∧ inA (v5 + v6) (sN s (sR s v0 5)) then
      k39 v0 v4 v5 (v6 + nI 1) (setI s (sR s v0 5) (v5 + v6).toNatClampNeg (sI s (sR s v4 0) v6.toNatClampNeg))
      else none
      else none
    else
      some s
    else none
    else none
  else
    some s
  else none
theorem t_Pages_write_39 {k39 : Nat → Nat → Int32 → Int32 → AS → Option AS} (H39 : ∀ {d1 d2 d3 : Value} {v0 : Nat} {v4 : Nat} {v5 : Int32} {v6 : Int32} {s : AS} {o : AS}, k39 v0 v4 v5 v6 s = some o → Ev 0 mZ69 39 [.ref v0, d1, d2, d3, .ref v4, .int v5, .int v6] [] s (none, o)) {d1 d2 d3 : Value} {v0 : Nat} {v4 : Nat} {v5 : Int32} {v6 : Int32} {s : AS} {o : AS} (h : b_Pages_write_39 k39 v0 v4 v5 v6 s = some o) : Ev 0 mZ69 39 [.ref v0, d1, d2, d3, .ref v4, .int v5, .int v6] [] s (none, o) := by
  unfold b_Pages_write_39 at h
  refine gd h (fun g1 h => ?_)
  refine Ev_blk 4 (pc' := if v6 < (sI s v4 1) then 49 else 86) (ls' := [.ref v0, d1, d2, d3, .ref v4, .int v5, .int v6]) (st' := []) (s' := s) rfl ⟨trivial, g1⟩ ?_
  refine ib h (fun c2 h => ?_) (fun c2 h => ?_)
  · refine gd h (fun g3 h => ?_)
    refine gd h (fun g4 h => ?_)
    refine Ev_blk 7 (pc' := if (v5 + v6) < (nI (sN s (sR s v0 5))) then 62 else 86) (ls' := [.ref v0, d1, d2, d3, .ref v4, .int v5, .int v6]) (st' := []) (s' := s) rfl ⟨⟨trivial, g3⟩, g4⟩ ?_
    refine ib h (fun c5 h => ?_) (fun c5 h => ?_)
    · refine gd h (fun g6 h => ?_)
      refine gd h (fun g7 h => ?_)
      refine Ev_blk 12 (pc' := 39) (ls' := [.ref v0, d1, d2, d3, .ref v4, .int v5, .int (v6 + nI 1)]) (st' := []) (s' := setI s (sR s v0 5) (v5 + v6).toNatClampNeg (sI s (sR s v4 0) v6.toNatClampNeg)) rfl ⟨⟨⟨⟨trivial, g3⟩, g1⟩, ⟨Or.inl g6.1, g6.2⟩⟩, g7⟩ ?_
      exact H39 h
    · cases h
      exact Ev_ret rfl trivial
  · cases h
    exact Ev_ret rfl trivial
def l_Pages_write_39  : Nat → Nat → Nat → Int32 → Int32 → AS → Option AS
  | 0 => fun _ _ _ _ _ => none
  | n + 1 => b_Pages_write_39  (l_Pages_write_39  n)
theorem u_Pages_write_39   {n : Nat} : ∀ {d1 d2 d3 : Value} {v0 : Nat} {v4 : Nat} {v5 : Int32} {v6 : Int32} {s : AS} {o : AS}, l_Pages_write_39  n v0 v4 v5 v6 s = some o → Ev 0 mZ69 39 [.ref v0, d1, d2, d3, .ref v4, .int v5, .int v6] [] s (none, o) := by
  induction n with
  | zero => intros; rename_i h; cases h
  | succ n ih => intros; rename_i h; exact t_Pages_write_39  (fun h => ih h) h
/-- RecordHeap$Pages.write(IIILRecordHeap$Row;)V -/
def f_Pages_write (s : AS) (a0 : Nat) (a1 : Int32) (a2 : Int32) (a3 : Int32) (a4 : Nat) : Option AS :=
  if sT s a0 = 7 then
  if sT s (sR s a0 0) = 20 ∧ inA a1 (sN s (sR s a0 0)) then
  if sT s (sR s a0 1) = 20 ∧ inA a1 (sN s (sR s a0 1)) then
  if sT s a4 = 9 then
  if sT s (sR s a0 2) = 20 ∧ inA a1 (sN s (sR s a0 2)) then
  if ¬ (nI 16) = nI 0 then
  l_Pages_write_39 fuel a0 a4 (((a1 / (nI 16)) * (nI 64)) + a3) (nI 0) (setI (setI (setI s (sR s a0 0) a1.toNatClampNeg a2) (sR s a0 1) a1.toNatClampNeg a3) (sR s a0 2) a1.toNatClampNeg (sI (setI (setI s (sR s a0 0) a1.toNatClampNeg a2) (sR s a0 1) a1.toNatClampNeg a3) a4 1))
  else none
  else none
  else none
  else none
  else none
  else none
theorem t_Pages_write {s : AS} {a0 : Nat} {a1 : Int32} {a2 : Int32} {a3 : Int32} {a4 : Nat} {o : AS} (h : f_Pages_write s a0 a1 a2 a3 a4 = some o) : Ev 0 mZ69 0 [.ref a0, .int a1, .int a2, .int a3, .ref a4, .retAddr 0, .retAddr 0] [] s (none, o) := by
  unfold f_Pages_write at h
  refine gd h (fun g1 h => ?_)
  refine gd h (fun g2 h => ?_)
  refine gd h (fun g3 h => ?_)
  refine gd h (fun g4 h => ?_)
  refine gd h (fun g5 h => ?_)
  refine gd h (fun g6 h => ?_)
  refine Ev_blk 26 (pc' := 39) (ls' := [.ref a0, .int a1, .int a2, .int a3, .ref a4, .int (((a1 / (nI 16)) * (nI 64)) + a3), .int (nI 0)]) (st' := []) (s' := setI (setI (setI s (sR s a0 0) a1.toNatClampNeg a2) (sR s a0 1) a1.toNatClampNeg a3) (sR s a0 2) a1.toNatClampNeg (sI (setI (setI s (sR s a0 0) a1.toNatClampNeg a2) (sR s a0 1) a1.toNatClampNeg a3) a4 1)) rfl ⟨⟨⟨⟨⟨⟨⟨⟨trivial, g1⟩, g2⟩, g1⟩, g3⟩, g1⟩, g4⟩, g5⟩, g6⟩ ?_
  exact u_Pages_write_39 h

/-- RecordHeap$Pages.promise(I)V -/
def f_Pages_promise (s : AS) (a0 : Nat) (a1 : Int32) : Option AS :=
  if sT s a0 = 7 then
  (f_Pages_freeOf s a0 a1).bind fun r1 =>
  if ¬ (nI 8) = nI 0 then
  if sT s (sR s a0 4) = 20 ∧ inA a1 (sN s (sR s a0 4)) then
  some (setI s (sR s a0 4) a1.toNatClampNeg (r1 / (nI 8)))
  else none
  else none
  else none
theorem t_Pages_promise {s : AS} {a0 : Nat} {a1 : Int32} {o : AS} (h : f_Pages_promise s a0 a1 = some o) : Ev 1 mZ70 0 [.ref a0, .int a1] [] s (none, o) := by
  unfold f_Pages_promise at h
  refine gd h (fun g1 h => ?_)
  refine Ev_blk 5 (pc' := 7) (ls' := [.ref a0, .int a1]) (st' := [.int a1, .ref a0, .int a1, .ref (sR s a0 4)]) (s' := s) rfl ⟨trivial, g1⟩ ?_
  refine bd h (fun r1 hr1 h => ?_)
  refine Ev_call 2 47 1 [.ref a0, .int a1] [.int a1, .ref (sR s a0 4)] rfl rfl rfl rfl g1 rfl rfl (Nat.le_of_ble_eq_true rfl) (t_Pages_freeOf hr1) ?_
  refine gd h (fun g2 h => ?_)
  refine gd h (fun g3 h => ?_)
  refine Ev_blk 3 (pc' := 14) (ls' := [.ref a0, .int a1]) (st' := []) (s' := setI s (sR s a0 4) a1.toNatClampNeg (r1 / (nI 8))) rfl ⟨⟨trivial, g2⟩, g3⟩ ?_
  cases h
  exact Ev_ret rfl trivial

def b_Desk_lay_67  (v0 : Nat) (v1 : Int32) (v2 : Int32) (v3 : Int32) (v4 : Int32) (s : AS) : Option AS :=
  if sT s v0 = 3 then
  if sT s (sR s v0 2) = 7 then
  (f_Pages_lowestOf s (sR s v0 2) v3).bind fun r1 =>
  if sT s (sR s v0 4) = 9 then
  if sT s (sR s (sR s v0 2) 3) = 20 ∧ inA v3 (sN s (sR s (sR s v0 2) 3)) then
  (f_Pages_write (setI s (sR s (sR s v0 2) 3) v3.toNatClampNeg v4) (sR s v0 2) v1 v2 (r1 - (sI s (sR s v0 4) 1)) (sR s v0 4)).bind fun r2 =>
  if sT r2 v0 = 3 then
  if sT r2 (sR r2 v0 2) = 7 then
  (f_Pages_promise r2 (sR r2 v0 2) v3).bind fun r3 =>
  some r3
  else none
  else none
  else none
  else none
  else none
  else none
theorem t_Desk_lay_67   {d5 d6 : Value} {v0 : Nat} {v1 : Int32} {v2 : Int32} {v3 : Int32} {v4 : Int32} {s : AS} {o : AS} (h : b_Desk_lay_67  v0 v1 v2 v3 v4 s = some o) : Ev 2 mZ65 67 [.ref v0, .int v1, .int v2, .int v3, .int v4, d5, d6] [] s (none, o) := by
  unfold b_Desk_lay_67 at h
  refine gd h (fun g1 h => ?_)
  refine gd h (fun g2 h => ?_)
  refine Ev_blk 3 (pc' := 72) (ls' := [.ref v0, .int v1, .int v2, .int v3, .int v4, d5, d6]) (st' := [.int v3, .ref (sR s v0 2)]) (s' := s) rfl ⟨trivial, g1⟩ ?_
  refine bd h (fun r1 hr1 h => ?_)
  refine Ev_call 2 67 1 [.ref (sR s v0 2), .int v3] [] rfl rfl rfl rfl g2 rfl rfl (Nat.le_of_ble_eq_true rfl) (t_Pages_lowestOf hr1) ?_
  refine gd h (fun g3 h => ?_)
  refine gd h (fun g4 h => ?_)
  refine Ev_blk 18 (pc' := 108) (ls' := [.ref v0, .int v1, .int v2, .int v3, .int v4, (clrV d5), .int (r1 - (sI s (sR s v0 4) 1))]) (st' := [.ref (sR s v0 4), .int (r1 - (sI s (sR s v0 4) 1)), .int v2, .int v1, .ref (sR s v0 2)]) (s' := setI s (sR s (sR s v0 2) 3) v3.toNatClampNeg v4) rfl ⟨⟨⟨⟨⟨⟨⟨trivial, g1⟩, g3⟩, g1⟩, g2⟩, g4⟩, g1⟩, g1⟩ ?_
  refine bd h (fun r2 hr2 h => ?_)
  refine Ev_call 2 69 4 [.ref (sR s v0 2), .int v1, .int v2, .int (r1 - (sI s (sR s v0 4) 1)), .ref (sR s v0 4)] [] rfl rfl rfl rfl g2 rfl rfl (Nat.le_of_ble_eq_true rfl) (t_Pages_write hr2) ?_
  refine gd h (fun g5 h => ?_)
  refine gd h (fun g6 h => ?_)
  refine Ev_blk 3 (pc' := 116) (ls' := [.ref v0, .int v1, .int v2, .int v3, .int v4, (clrV d5), .int (r1 - (sI s (sR s v0 4) 1))]) (st' := [.int v3, .ref (sR r2 v0 2)]) (s' := r2) rfl ⟨trivial, g5⟩ ?_
  refine bd h (fun r3 hr3 h => ?_)
  refine Ev_call 2 70 1 [.ref (sR r2 v0 2), .int v3] [] rfl rfl rfl rfl g6 rfl rfl (Nat.le_of_ble_eq_true rfl) (t_Pages_promise hr3) ?_
  cases h
  exact Ev_ret rfl trivial
/-- RecordHeap$Desk.lay(II)V -/
def f_Desk_lay (s : AS) (a0 : Nat) (a1 : Int32) (a2 : Int32) : Option AS :=
  if ¬ (nI 16) = nI 0 then
  if sT s a0 = 3 then
  if sT s (sR s a0 2) = 7 then
  if sT s (sR s (sR s a0 2) 3) = 20 ∧ inA (a1 / (nI 16)) (sN s (sR s (sR s a0 2) 3)) then
  (f_Pages_gapOf s (sR s a0 2) (a1 / (nI 16))).bind fun r1 =>
  if sT s (sR s a0 4) = 9 then
  if r1 < ((sI s (sR s a0 4) 1) + ((nI 2) * ((if (sI s (sR s (sR s a0 2) 3) (a1 / (nI 16)).toNatClampNeg) < ((a1 - a1 / (nI 16) * (nI 16)) + (nI 1)) then ((a1 - a1 / (nI 16) * (nI 16)) + (nI 1)) else (sI s (sR s (sR s a0 2) 3) (a1 / (nI 16)).toNatClampNeg)) - (sI s (sR s (sR s a0 2) 3) (a1 / (nI 16)).toNatClampNeg)))) then
    (f_Desk_squeeze s a0 (a1 / (nI 16))).bind fun r2 =>
    b_Desk_lay_67 a0 a1 a2 (a1 / (nI 16)) (if (sI s (sR s (sR s a0 2) 3) (a1 / (nI 16)).toNatClampNeg) < ((a1 - a1 / (nI 16) * (nI 16)) + (nI 1)) then ((a1 - a1 / (nI 16) * (nI 16)) + (nI 1)) else (sI s (sR s (sR s a0 2) 3) (a1 / (nI 16)).toNatClampNeg)) r2
  else
    b_Desk_lay_67 a0 a1 a2 (a1 / (nI 16)) (if (sI s (sR s (sR s a0 2) 3) (a1 / (nI 16)).toNatClampNeg) < ((a1 - a1 / (nI 16) * (nI 16)) + (nI 1)) then ((a1 - a1 / (nI 16) * (nI 16)) + (nI 1)) else (sI s (sR s (sR s a0 2) 3) (a1 / (nI 16)).toNatClampNeg)) s
  else none
  else none
  else none
  else none
  else none
theorem t_Desk_lay {s : AS} {a0 : Nat} {a1 : Int32} {a2 : Int32} {o : AS} (h : f_Desk_lay s a0 a1 a2 = some o) : Ev 2 mZ65 0 [.ref a0, .int a1, .int a2, .retAddr 0, .retAddr 0, .retAddr 0, .retAddr 0] [] s (none, o) := by
  unfold f_Desk_lay at h
  refine gd h (fun g1 h => ?_)
  refine gd h (fun g2 h => ?_)
  refine gd h (fun g3 h => ?_)
  refine gd h (fun g4 h => ?_)
  refine Ev_blk 29 (pc' := 46) (ls' := [.ref a0, .int a1, .int a2, .int (a1 / (nI 16)), .int (if (sI s (sR s (sR s a0 2) 3) (a1 / (nI 16)).toNatClampNeg) < ((a1 - a1 / (nI 16) * (nI 16)) + (nI 1)) then ((a1 - a1 / (nI 16) * (nI 16)) + (nI 1)) else (sI s (sR s (sR s a0 2) 3) (a1 / (nI 16)).toNatClampNeg)), .int ((nI 2) * ((if (sI s (sR s (sR s a0 2) 3) (a1 / (nI 16)).toNatClampNeg) < ((a1 - a1 / (nI 16) * (nI 16)) + (nI 1)) then ((a1 - a1 / (nI 16) * (nI 16)) + (nI 1)) else (sI s (sR s (sR s a0 2) 3) (a1 / (nI 16)).toNatClampNeg)) - (sI s (sR s (sR s a0 2) 3) (a1 / (nI 16)).toNatClampNeg))), .retAddr 0]) (st' := [.int (a1 / (nI 16)), .ref (sR s a0 2)]) (s' := s) rfl ⟨⟨⟨⟨⟨⟨⟨⟨⟨trivial, g1⟩, g2⟩, g3⟩, ⟨Or.inl g4.1, g4.2⟩⟩, g1⟩, g2⟩, g3⟩, ⟨Or.inl g4.1, g4.2⟩⟩, g2⟩ ?_
  refine bd h (fun r1 hr1 h => ?_)
  refine Ev_call 2 66 1 [.ref (sR s a0 2), .int (a1 / (nI 16))] [] rfl rfl rfl rfl g3 rfl rfl (Nat.le_of_ble_eq_true rfl) (t_Pages_gapOf hr1) ?_
  refine gd h (fun g5 h => ?_)
  refine Ev_blk 6 (pc' := if r1 < ((sI s (sR s a0 4) 1) + ((nI 2) * ((if (sI s (sR s (sR s a0 2) 3) (a1 / (nI 16)).toNatClampNeg) < ((a1 - a1 / (nI 16) * (nI 16)) + (nI 1)) then ((a1 - a1 / (nI 16) * (nI 16)) + (nI 1)) else (sI s (sR s (sR s a0 2) 3) (a1 / (nI 16)).toNatClampNeg)) - (sI s (sR s (sR s a0 2) 3) (a1 / (nI 16)).toNatClampNeg)))) then 62 else 67) (ls' := [.ref a0, .int a1, .int a2, .int (a1 / (nI 16)), .int (if (sI s (sR s (sR s a0 2) 3) (a1 / (nI 16)).toNatClampNeg) < ((a1 - a1 / (nI 16) * (nI 16)) + (nI 1)) then ((a1 - a1 / (nI 16) * (nI 16)) + (nI 1)) else (sI s (sR s (sR s a0 2) 3) (a1 / (nI 16)).toNatClampNeg)), .int ((nI 2) * ((if (sI s (sR s (sR s a0 2) 3) (a1 / (nI 16)).toNatClampNeg) < ((a1 - a1 / (nI 16) * (nI 16)) + (nI 1)) then ((a1 - a1 / (nI 16) * (nI 16)) + (nI 1)) else (sI s (sR s (sR s a0 2) 3) (a1 / (nI 16)).toNatClampNeg)) - (sI s (sR s (sR s a0 2) 3) (a1 / (nI 16)).toNatClampNeg))), .retAddr 0]) (st' := []) (s' := s) rfl ⟨⟨trivial, g2⟩, g5⟩ ?_
  refine ib h (fun c6 h => ?_) (fun c6 h => ?_)
  · refine Ev_blk 2 (pc' := 64) (ls' := [.ref a0, .int a1, .int a2, .int (a1 / (nI 16)), .int (if (sI s (sR s (sR s a0 2) 3) (a1 / (nI 16)).toNatClampNeg) < ((a1 - a1 / (nI 16) * (nI 16)) + (nI 1)) then ((a1 - a1 / (nI 16) * (nI 16)) + (nI 1)) else (sI s (sR s (sR s a0 2) 3) (a1 / (nI 16)).toNatClampNeg)), .int ((nI 2) * ((if (sI s (sR s (sR s a0 2) 3) (a1 / (nI 16)).toNatClampNeg) < ((a1 - a1 / (nI 16) * (nI 16)) + (nI 1)) then ((a1 - a1 / (nI 16) * (nI 16)) + (nI 1)) else (sI s (sR s (sR s a0 2) 3) (a1 / (nI 16)).toNatClampNeg)) - (sI s (sR s (sR s a0 2) 3) (a1 / (nI 16)).toNatClampNeg))), .retAddr 0]) (st' := [.int (a1 / (nI 16)), .ref a0]) (s' := s) rfl trivial ?_
    refine bd h (fun r2 hr2 h => ?_)
    refine Ev_call 2 68 1 [.ref a0, .int (a1 / (nI 16))] [] rfl rfl rfl rfl g2 rfl rfl (Nat.le_of_ble_eq_true rfl) (t_Desk_squeeze hr2) ?_
    exact t_Desk_lay_67 h
  · exact t_Desk_lay_67 h

def b_Desk_layOn_23  (v0 : Nat) (v1 : Int32) (v2 : Int32) (w0 : Int32) (s : AS) : Option (Int32 × AS) :=
  if w0 = (-(nI 1)) then
    some (-(nI 1), s)
  else
    if sT s v0 = 3 then
    (f_Desk_lay s v0 ((v1 * (nI 16)) + w0) v2).bind fun r1 =>
    some ((v1 * (nI 16)) + w0, r1)
    else none
theorem t_Desk_layOn_23   {d3 d4 : Value} {v0 : Nat} {v1 : Int32} {v2 : Int32} {w0 : Int32} {s : AS} {o : Int32 × AS} (h : b_Desk_layOn_23  v0 v1 v2 w0 s = some o) : Ev 3 mZ64 23 [.ref v0, .int v1, .int v2, d3, d4] [.int w0] s (some (.int o.1), o.2) := by
  unfold b_Desk_layOn_23 at h
  refine Ev_blk 4 (pc' := if w0 = (-(nI 1)) then 29 else 31) (ls' := [.ref v0, .int v1, .int v2, .int w0, d4]) (st' := []) (s' := s) rfl trivial ?_
  refine ib h (fun c1 h => ?_) (fun c1 h => ?_)
  · refine Ev_blk 1 (pc' := 30) (ls' := [.ref v0, .int v1, .int v2, .int w0, d4]) (st' := [.int (-(nI 1))]) (s' := s) rfl trivial ?_
    cases h
    exact Ev_ret rfl trivial
  · refine gd h (fun g2 h => ?_)
    refine Ev_blk 9 (pc' := 43) (ls' := [.ref v0, .int v1, .int v2, .int w0, .int ((v1 * (nI 16)) + w0)]) (st' := [.int v2, .int ((v1 * (nI 16)) + w0), .ref v0]) (s' := s) rfl trivial ?_
    refine bd h (fun r1 hr1 h => ?_)
    refine Ev_call 2 65 2 [.ref v0, .int ((v1 * (nI 16)) + w0), .int v2] [] rfl rfl rfl rfl g2 rfl rfl (Nat.le_of_ble_eq_true rfl) (t_Desk_lay hr1) ?_
    refine Ev_blk 1 (pc' := 48) (ls' := [.ref v0, .int v1, .int v2, .int w0, .int ((v1 * (nI 16)) + w0)]) (st' := [.int ((v1 * (nI 16)) + w0)]) (s' := r1) rfl trivial ?_
    cases h
    exact Ev_ret rfl trivial
/-- RecordHeap$Desk.layOn(II)I -/
def f_Desk_layOn (s : AS) (a0 : Nat) (a1 : Int32) (a2 : Int32) : Option (Int32 × AS) :=
  (f_C_isPage s a1).bind fun r1 =>
  if r1 = (nI 0) then
    b_Desk_layOn_23 a0 a1 a2 (-(nI 1)) s
  else
    if sT s a0 = 3 then
    if sT s (sR s a0 2) = 7 then
    (f_Pages_openSlot s (sR s a0 2) a1 (sI s a0 6)).bind fun r2 =>
    b_Desk_layOn_23 a0 a1 a2 r2 s
    else none
    else none
theorem t_Desk_layOn {s : AS} {a0 : Nat} {a1 : Int32} {a2 : Int32} {o : Int32 × AS} (h : f_Desk_layOn s a0 a1 a2 = some o) : Ev 3 mZ64 0 [.ref a0, .int a1, .int a2, .retAddr 0, .retAddr 0] [] s (some (.int o.1), o.2) := by
  unfold f_Desk_layOn at h
  refine Ev_blk 1 (pc' := 1) (ls' := [.ref a0, .int a1, .int a2, .retAddr 0, .retAddr 0]) (st' := [.int a1]) (s' := s) rfl trivial ?_
  refine bd h (fun r1 hr1 h => ?_)
  refine Ev_call 1 53 1 [.int a1] [] rfl rfl rfl rfl trivial rfl rfl (Nat.le_of_ble_eq_true rfl) (t_C_isPage hr1) ?_
  refine Ev_blk 1 (pc' := if r1 = (nI 0) then 22 else 7) (ls' := [.ref a0, .int a1, .int a2, .retAddr 0, .retAddr 0]) (st' := []) (s' := s) rfl trivial ?_
  refine ib h (fun c1 h => ?_) (fun c1 h => ?_)
  · refine Ev_blk 1 (pc' := 23) (ls' := [.ref a0, .int a1, .int a2, .retAddr 0, .retAddr 0]) (st' := [.int (-(nI 1))]) (s' := s) rfl trivial ?_
    exact t_Desk_layOn_23 h
  · refine gd h (fun g2 h => ?_)
    refine gd h (fun g3 h => ?_)
    refine Ev_blk 5 (pc' := 16) (ls' := [.ref a0, .int a1, .int a2, .retAddr 0, .retAddr 0]) (st' := [.int (sI s a0 6), .int a1, .ref (sR s a0 2)]) (s' := s) rfl ⟨⟨trivial, g2⟩, g2⟩ ?_
    refine bd h (fun r2 hr2 h => ?_)
    refine Ev_call 2 62 2 [.ref (sR s a0 2), .int a1, .int (sI s a0 6)] [] rfl rfl rfl rfl g3 rfl rfl (Nat.le_of_ble_eq_true rfl) (t_Pages_openSlot hr2) ?_
    refine Ev_blk 1 (pc' := 23) (ls' := [.ref a0, .int a1, .int a2, .retAddr 0, .retAddr 0]) (st' := [.int r2]) (s' := s) rfl trivial ?_
    exact t_Desk_layOn_23 h

def b_Desk_layPieces_14 (k14 : Nat → Nat → Int32 → Int32 → AS → Option (Int32 × AS)) (v0 : Nat) (v1 : Nat) (v2 : Int32) (v3 : Int32) (s : AS) : Option (Int32 × AS) :=
  if (nI 0) < v3 then
    if v2 = (-(nI 1)) then
      some (v2, s)
    else
      if sT s v0 = 3 then
      if sT s (sR s v0 4) = 9 then
      (f_Row_assemble s (sR s v0 4) v2 v1 (v3 * (nI 38)) ((v3 + (nI 1)) * (nI 38))).bind fun r1 =>
      if sT r1 v0 = 3 then
      if sT r1 (sR r1 v0 4) = 9 then
      if sT r1 (sR r1 v0 0) = 11 then
      (f_Setting_lawInForce r1 (sR r1 v0 0)).bind fun r2 =>
      (f_Desk_pageFor r1 v0 (sI r1 (sR r1 v0 4) 1) r2).bind fun r3 =>
      if sT r3.2 v0 = 3 then
      (f_Desk_layOn r3.2 v0 r3.1 (nI 5)).bind fun r4 =>
      k14 v0 v1 r4.1 (v3 + (-(nI 1))) r4.2
      else none
      else none
      else none
      else none
      else none
      else none
  else
    some (v2, s)
theorem t_Desk_layPieces_14 {k14 : Nat → Nat → Int32 → Int32 → AS → Option (Int32 × AS)} (H14 : ∀ {v0 : Nat} {v1 : Nat} {v2 : Int32} {v3 : Int32} {s : AS} {o : Int32 × AS}, k14 v0 v1 v2 v3 s = some o → Ev 4 mZ71 14 [.ref v0, .ref v1, .int v2, .int v3] [] s (some (.int o.1), o.2))  {v0 : Nat} {v1 : Nat} {v2 : Int32} {v3 : Int32} {s : AS} {o : Int32 × AS} (h : b_Desk_layPieces_14 k14 v0 v1 v2 v3 s = some o) : Ev 4 mZ71 14 [.ref v0, .ref v1, .int v2, .int v3] [] s (some (.int o.1), o.2) := by
  unfold b_Desk_layPieces_14 at h
  refine Ev_blk 2 (pc' := if (nI 0) < v3 then 18 else 72) (ls' := [.ref v0, .ref v1, .int v2, .int v3]) (st' := []) (s' := s) rfl trivial ?_
  refine ib h (fun c1 h => ?_) (fun c1 h => ?_)
  · refine Ev_blk 3 (pc' := if v2 = (-(nI 1)) then 72 else 23) (ls' := [.ref v0, .ref v1, .int v2, .int v3]) (st' := []) (s' := s) rfl trivial ?_
    refine ib h (fun c2 h => ?_) (fun c2 h => ?_)
    · refine Ev_blk 1 (pc' := 73) (ls' := [.ref v0, .ref v1, .int v2, .int v3]) (st' := [.int v2]) (s' := s) rfl trivial ?_
      cases h
      exact Ev_ret rfl trivial
    · refine gd h (fun g3 h => ?_)
      refine gd h (fun g4 h => ?_)
      refine Ev_blk 12 (pc' := 39) (ls' := [.ref v0, .ref v1, .int v2, .int v3]) (st' := [.int ((v3 + (nI 1)) * (nI 38)), .int (v3 * (nI 38)), .ref v1, .int v2, .ref (sR s v0 4)]) (s' := s) rfl ⟨trivial, g3⟩ ?_
      refine bd h (fun r1 hr1 h => ?_)
      refine Ev_call 2 56 4 [.ref (sR s v0 4), .int v2, .ref v1, .int (v3 * (nI 38)), .int ((v3 + (nI 1)) * (nI 38))] [] rfl rfl rfl rfl g4 rfl rfl (Nat.le_of_ble_eq_true rfl) (t_Row_assemble hr1) ?_
      refine gd h (fun g5 h => ?_)
      refine gd h (fun g6 h => ?_)
      refine gd h (fun g7 h => ?_)
      refine Ev_blk 7 (pc' := 55) (ls' := [.ref v0, .ref v1, .int v2, .int v3]) (st' := [.ref (sR r1 v0 0), .int (sI r1 (sR r1 v0 4) 1), .ref v0, .ref v0]) (s' := r1) rfl ⟨⟨⟨trivial, g5⟩, g6⟩, g5⟩ ?_
      refine bd h (fun r2 hr2 h => ?_)
      refine Ev_call 2 58 0 [.ref (sR r1 v0 0)] [.int (sI r1 (sR r1 v0 4) 1), .ref v0, .ref v0] rfl rfl rfl rfl g7 rfl rfl (Nat.le_of_ble_eq_true rfl) (t_Setting_lawInForce hr2) ?_
      refine bd h (fun r3 hr3 h => ?_)
      refine Ev_call 2 61 2 [.ref v0, .int (sI r1 (sR r1 v0 4) 1), .ref r2] [.ref v0] rfl rfl rfl rfl g5 rfl rfl (Nat.le_of_ble_eq_true rfl) (t_Desk_pageFor hr3) ?_
      refine gd h (fun g8 h => ?_)
      refine Ev_blk 1 (pc' := 62) (ls' := [.ref v0, .ref v1, .int v2, .int v3]) (st' := [.int (nI 5), .int r3.1, .ref v0]) (s' := r3.2) rfl trivial ?_
      refine bd h (fun r4 hr4 h => ?_)
      refine Ev_call 2 64 2 [.ref v0, .int r3.1, .int (nI 5)] [] rfl rfl rfl rfl g8 rfl rfl (Nat.le_of_ble_eq_true rfl) (t_Desk_layOn hr4) ?_
      refine Ev_blk 3 (pc' := 14) (ls' := [.ref v0, .ref v1, .int r4.1, .int (v3 + (-(nI 1)))]) (st' := []) (s' := r4.2) rfl trivial ?_
      exact H14 h
  · refine Ev_blk 1 (pc' := 73) (ls' := [.ref v0, .ref v1, .int v2, .int v3]) (st' := [.int v2]) (s' := s) rfl trivial ?_
    cases h
    exact Ev_ret rfl trivial
def l_Desk_layPieces_14  : Nat → Nat → Nat → Int32 → Int32 → AS → Option (Int32 × AS)
  | 0 => fun _ _ _ _ _ => none
  | n + 1 => b_Desk_layPieces_14  (l_Desk_layPieces_14  n)
theorem u_Desk_layPieces_14   {n : Nat} : ∀  {v0 : Nat} {v1 : Nat} {v2 : Int32} {v3 : Int32} {s : AS} {o : Int32 × AS}, l_Desk_layPieces_14  n v0 v1 v2 v3 s = some o → Ev 4 mZ71 14 [.ref v0, .ref v1, .int v2, .int v3] [] s (some (.int o.1), o.2) := by
  induction n with
  | zero => intros; rename_i h; cases h
  | succ n ih => intros; rename_i h; exact t_Desk_layPieces_14  (fun h => ih h) h
/-- RecordHeap$Desk.layPieces(LRecordHeap$Row;)I -/
def f_Desk_layPieces (s : AS) (a0 : Nat) (a1 : Nat) : Option (Int32 × AS) :=
  if sT s a1 = 9 then
  if ¬ (nI 38) = nI 0 then
  l_Desk_layPieces_14 fuel a0 a1 (nI 255) (((sI s a1 1) - (nI 1)) / (nI 38)) s
  else none
  else none
theorem t_Desk_layPieces {s : AS} {a0 : Nat} {a1 : Nat} {o : Int32 × AS} (h : f_Desk_layPieces s a0 a1 = some o) : Ev 4 mZ71 0 [.ref a0, .ref a1, .retAddr 0, .retAddr 0] [] s (some (.int o.1), o.2) := by
  unfold f_Desk_layPieces at h
  refine gd h (fun g1 h => ?_)
  refine gd h (fun g2 h => ?_)
  refine Ev_blk 9 (pc' := 14) (ls' := [.ref a0, .ref a1, .int (nI 255), .int (((sI s a1 1) - (nI 1)) / (nI 38))]) (st' := []) (s' := s) rfl ⟨⟨trivial, g1⟩, g2⟩ ?_
  exact u_Desk_layPieces_14 h

def b_Desk_bring_112  (v0 : Nat) (v2 : Int32) (s : AS) : Option (Int32 × AS) :=
  if v2 = (-(nI 1)) then
    if sT s v0 = 3 then
    if sT s (sR s v0 2) = 7 then
    (f_Pages_takeFrom s (sR s v0 2) (sR s v0 3)).bind fun r1 =>
    some (v2, r1)
    else none
    else none
  else
    some (v2, s)
theorem t_Desk_bring_112   {d1 d3 : Value} {v0 : Nat} {v2 : Int32} {s : AS} {o : Int32 × AS} (h : b_Desk_bring_112  v0 v2 s = some o) : Ev 5 mZ55 112 [.ref v0, d1, .int v2, d3] [] s (some (.int o.1), o.2) := by
  unfold b_Desk_bring_112 at h
  refine Ev_blk 3 (pc' := if v2 = (-(nI 1)) then 117 else 128) (ls' := [.ref v0, d1, .int v2, d3]) (st' := []) (s' := s) rfl trivial ?_
  refine ib h (fun c1 h => ?_) (fun c1 h => ?_)
  · refine gd h (fun g2 h => ?_)
    refine gd h (fun g3 h => ?_)
    refine Ev_blk 4 (pc' := 125) (ls' := [.ref v0, d1, .int v2, d3]) (st' := [.ref (sR s v0 3), .ref (sR s v0 2)]) (s' := s) rfl ⟨⟨trivial, g2⟩, g2⟩ ?_
    refine bd h (fun r1 hr1 h => ?_)
    refine Ev_call 2 42 1 [.ref (sR s v0 2), .ref (sR s v0 3)] [] rfl rfl rfl rfl g3 rfl rfl (Nat.le_of_ble_eq_true rfl) (t_Pages_takeFrom hr1) ?_
    refine Ev_blk 1 (pc' := 129) (ls' := [.ref v0, d1, .int v2, d3]) (st' := [.int v2]) (s' := r1) rfl trivial ?_
    cases h
    exact Ev_ret rfl trivial
  · refine Ev_blk 1 (pc' := 129) (ls' := [.ref v0, d1, .int v2, d3]) (st' := [.int v2]) (s' := s) rfl trivial ?_
    cases h
    exact Ev_ret rfl trivial
def b_Desk_bring_111  (v0 : Nat) (w0 : Int32) (s : AS) : Option (Int32 × AS) :=
  b_Desk_bring_112 v0 w0 s
theorem t_Desk_bring_111   {d1 d2 d3 : Value} {v0 : Nat} {w0 : Int32} {s : AS} {o : Int32 × AS} (h : b_Desk_bring_111  v0 w0 s = some o) : Ev 5 mZ55 111 [.ref v0, d1, d2, d3] [.int w0] s (some (.int o.1), o.2) := by
  unfold b_Desk_bring_111 at h
  refine Ev_blk 1 (pc' := 112) (ls' := [.ref v0, (clrV d1), .int w0, d3]) (st' := []) (s' := s) rfl trivial ?_
  exact t_Desk_bring_112 h
/-- RecordHeap$Desk.bring(LRecordHeap$Row;)I -/
def f_Desk_bring (s : AS) (a0 : Nat) (a1 : Nat) : Option (Int32 × AS) :=
  if sT s a0 = 3 then
  if sT s (sR s a0 3) = 7 then
  (f_Pages_takeFrom s (sR s a0 3) (sR s a0 2)).bind fun r1 =>
  if sT r1 a1 = 9 then
  if (nI 40) < (sI r1 a1 1) then
    if sT r1 a0 = 3 then
    (f_Desk_layPieces r1 a0 a1).bind fun r2 =>
    if sT r2.2 a0 = 3 then
    if sT r2.2 (sR r2.2 a0 4) = 9 then
    (f_Row_assemble r2.2 (sR r2.2 a0 4) r2.1 a1 (nI 0) (nI 38)).bind fun r3 =>
    if r2.1 = (-(nI 1)) then
      b_Desk_bring_111 a0 (-(nI 1)) r3
    else
      if sT r3 a0 = 3 then
      if sT r3 (sR r3 a0 4) = 9 then
      if sT r3 (sR r3 a0 0) = 11 then
      (f_Setting_lawInForce r3 (sR r3 a0 0)).bind fun r4 =>
      (f_Desk_pageFor r3 a0 (sI r3 (sR r3 a0 4) 1) r4).bind fun r5 =>
      if sT r5.2 a0 = 3 then
      (f_Desk_layOn r5.2 a0 r5.1 (nI 4)).bind fun r6 =>
      b_Desk_bring_111 a0 r6.1 r6.2
      else none
      else none
      else none
      else none
    else none
    else none
    else none
  else
    if sT r1 a0 = 3 then
    if sT r1 (sR r1 a0 4) = 9 then
    (f_Row_assemble r1 (sR r1 a0 4) (-(nI 1)) a1 (nI 0) (sI r1 a1 1)).bind fun r7 =>
    if sT r7 a0 = 3 then
    if sT r7 (sR r7 a0 4) = 9 then
    if sT r7 (sR r7 a0 0) = 11 then
    (f_Setting_lawInForce r7 (sR r7 a0 0)).bind fun r8 =>
    (f_Desk_pageFor r7 a0 (sI r7 (sR r7 a0 4) 1) r8).bind fun r9 =>
    if sT r9.2 a0 = 3 then
    (f_Desk_layOn r9.2 a0 r9.1 (nI 1)).bind fun r10 =>
    b_Desk_bring_112 a0 r10.1 r10.2
    else none
    else none
    else none
    else none
    else none
    else none
  else none
  else none
  else none
theorem t_Desk_bring {s : AS} {a0 : Nat} {a1 : Nat} {o : Int32 × AS} (h : f_Desk_bring s a0 a1 = some o) : Ev 5 mZ55 0 [.ref a0, .ref a1, .retAddr 0, .retAddr 0] [] s (some (.int o.1), o.2) := by
  unfold f_Desk_bring at h
  refine gd h (fun g1 h => ?_)
  refine gd h (fun g2 h => ?_)
  refine Ev_blk 4 (pc' := 8) (ls' := [.ref a0, .ref a1, .retAddr 0, .retAddr 0]) (st' := [.ref (sR s a0 2), .ref (sR s a0 3)]) (s' := s) rfl ⟨⟨trivial, g1⟩, g1⟩ ?_
  refine bd h (fun r1 hr1 h => ?_)
  refine Ev_call 2 42 1 [.ref (sR s a0 3), .ref (sR s a0 2)] [] rfl rfl rfl rfl g2 rfl rfl (Nat.le_of_ble_eq_true rfl) (t_Pages_takeFrom hr1) ?_
  refine gd h (fun g3 h => ?_)
  refine Ev_blk 4 (pc' := if (nI 40) < (sI r1 a1 1) then 61 else 20) (ls' := [.ref a0, .ref a1, .retAddr 0, .retAddr 0]) (st' := []) (s' := r1) rfl ⟨trivial, g3⟩ ?_
  refine ib h (fun c4 h => ?_) (fun c4 h => ?_)
  · refine gd h (fun g5 h => ?_)
    refine Ev_blk 2 (pc' := 63) (ls' := [.ref a0, .ref a1, .retAddr 0, .retAddr 0]) (st' := [.ref a1, .ref a0]) (s' := r1) rfl trivial ?_
    refine bd h (fun r2 hr2 h => ?_)
    refine Ev_call 2 71 1 [.ref a0, .ref a1] [] rfl rfl rfl rfl g5 rfl rfl (Nat.le_of_ble_eq_true rfl) (t_Desk_layPieces hr2) ?_
    refine gd h (fun g6 h => ?_)
    refine gd h (fun g7 h => ?_)
    refine Ev_blk 7 (pc' := 76) (ls' := [.ref a0, .ref a1, .retAddr 0, .int r2.1]) (st' := [.int (nI 38), .int (nI 0), .ref a1, .int r2.1, .ref (sR r2.2 a0 4)]) (s' := r2.2) rfl ⟨trivial, g6⟩ ?_
    refine bd h (fun r3 hr3 h => ?_)
    refine Ev_call 2 56 4 [.ref (sR r2.2 a0 4), .int r2.1, .ref a1, .int (nI 0), .int (nI 38)] [] rfl rfl rfl rfl g7 rfl rfl (Nat.le_of_ble_eq_true rfl) (t_Row_assemble hr3) ?_
    refine Ev_blk 3 (pc' := if r2.1 = (-(nI 1)) then 84 else 88) (ls' := [.ref a0, .ref a1, .retAddr 0, .int r2.1]) (st' := []) (s' := r3) rfl trivial ?_
    refine ib h (fun c8 h => ?_) (fun c8 h => ?_)
    · refine Ev_blk 2 (pc' := 111) (ls' := [.ref a0, .ref a1, .retAddr 0, .int r2.1]) (st' := [.int (-(nI 1))]) (s' := r3) rfl trivial ?_
      exact t_Desk_bring_111 h
    · refine gd h (fun g9 h => ?_)
      refine gd h (fun g10 h => ?_)
      refine gd h (fun g11 h => ?_)
      refine Ev_blk 7 (pc' := 101) (ls' := [.ref a0, .ref a1, .retAddr 0, .int r2.1]) (st' := [.ref (sR r3 a0 0), .int (sI r3 (sR r3 a0 4) 1), .ref a0, .ref a0]) (s' := r3) rfl ⟨⟨⟨trivial, g9⟩, g10⟩, g9⟩ ?_
      refine bd h (fun r4 hr4 h => ?_)
      refine Ev_call 2 58 0 [.ref (sR r3 a0 0)] [.int (sI r3 (sR r3 a0 4) 1), .ref a0, .ref a0] rfl rfl rfl rfl g11 rfl rfl (Nat.le_of_ble_eq_true rfl) (t_Setting_lawInForce hr4) ?_
      refine bd h (fun r5 hr5 h => ?_)
      refine Ev_call 2 61 2 [.ref a0, .int (sI r3 (sR r3 a0 4) 1), .ref r4] [.ref a0] rfl rfl rfl rfl g9 rfl rfl (Nat.le_of_ble_eq_true rfl) (t_Desk_pageFor hr5) ?_
      refine gd h (fun g12 h => ?_)
      refine Ev_blk 1 (pc' := 108) (ls' := [.ref a0, .ref a1, .retAddr 0, .int r2.1]) (st' := [.int (nI 4), .int r5.1, .ref a0]) (s' := r5.2) rfl trivial ?_
      refine bd h (fun r6 hr6 h => ?_)
      refine Ev_call 2 64 2 [.ref a0, .int r5.1, .int (nI 4)] [] rfl rfl rfl rfl g12 rfl rfl (Nat.le_of_ble_eq_true rfl) (t_Desk_layOn hr6) ?_
      exact t_Desk_bring_111 h
  · refine gd h (fun g13 h => ?_)
    refine gd h (fun g14 h => ?_)
    refine Ev_blk 7 (pc' := 31) (ls' := [.ref a0, .ref a1, .retAddr 0, .retAddr 0]) (st' := [.int (sI r1 a1 1), .int (nI 0), .ref a1, .int (-(nI 1)), .ref (sR r1 a0 4)]) (s' := r1) rfl ⟨⟨trivial, g13⟩, g3⟩ ?_
    refine bd h (fun r7 hr7 h => ?_)
    refine Ev_call 2 56 4 [.ref (sR r1 a0 4), .int (-(nI 1)), .ref a1, .int (nI 0), .int (sI r1 a1 1)] [] rfl rfl rfl rfl g14 rfl rfl (Nat.le_of_ble_eq_true rfl) (t_Row_assemble hr7) ?_
    refine gd h (fun g15 h => ?_)
    refine gd h (fun g16 h => ?_)
    refine gd h (fun g17 h => ?_)
    refine Ev_blk 7 (pc' := 47) (ls' := [.ref a0, .ref a1, .retAddr 0, .retAddr 0]) (st' := [.ref (sR r7 a0 0), .int (sI r7 (sR r7 a0 4) 1), .ref a0, .ref a0]) (s' := r7) rfl ⟨⟨⟨trivial, g15⟩, g16⟩, g15⟩ ?_
    refine bd h (fun r8 hr8 h => ?_)
    refine Ev_call 2 58 0 [.ref (sR r7 a0 0)] [.int (sI r7 (sR r7 a0 4) 1), .ref a0, .ref a0] rfl rfl rfl rfl g17 rfl rfl (Nat.le_of_ble_eq_true rfl) (t_Setting_lawInForce hr8) ?_
    refine bd h (fun r9 hr9 h => ?_)
    refine Ev_call 2 61 2 [.ref a0, .int (sI r7 (sR r7 a0 4) 1), .ref r8] [.ref a0] rfl rfl rfl rfl g15 rfl rfl (Nat.le_of_ble_eq_true rfl) (t_Desk_pageFor hr9) ?_
    refine gd h (fun g18 h => ?_)
    refine Ev_blk 1 (pc' := 54) (ls' := [.ref a0, .ref a1, .retAddr 0, .retAddr 0]) (st' := [.int (nI 1), .int r9.1, .ref a0]) (s' := r9.2) rfl trivial ?_
    refine bd h (fun r10 hr10 h => ?_)
    refine Ev_call 2 64 2 [.ref a0, .int r9.1, .int (nI 1)] [] rfl rfl rfl rfl g18 rfl rfl (Nat.le_of_ble_eq_true rfl) (t_Desk_layOn hr10) ?_
    refine Ev_blk 2 (pc' := 112) (ls' := [.ref a0, .ref a1, .int r10.1, .retAddr 0]) (st' := []) (s' := r10.2) rfl trivial ?_
    exact t_Desk_bring_112 h

/-- RecordHeap$Pages.linkOf(I)I -/
def f_Pages_linkOf (s : AS) (a0 : Nat) (a1 : Int32) : Option Int32 :=
  if sT s a0 = 7 then
  if sT s (sR s a0 0) = 20 ∧ inA a1 (sN s (sR s a0 0)) then
    some (if (sI s (sR s a0 0) a1.toNatClampNeg) = (nI 2) then nI 2 else (if (sI s (sR s a0 0) a1.toNatClampNeg) = (nI 4) then nI 2 else (if (sI s (sR s a0 0) a1.toNatClampNeg) = (nI 5) then nI 2 else nI 0)))
  else none
  else none
theorem t_Pages_linkOf {s : AS} {a0 : Nat} {a1 : Int32} {o : Int32} (h : f_Pages_linkOf s a0 a1 = some o) : Ev 0 mZ75 0 [.ref a0, .int a1, .retAddr 0] [] s (some (.int o), s) := by
  unfold f_Pages_linkOf at h
  refine gd h (fun g1 h => ?_)
  refine gd h (fun g2 h => ?_)
  refine Ev_blk 8 (pc' := if (sI s (sR s a0 0) a1.toNatClampNeg) = (nI 2) then 22 else 12) (ls' := [.ref a0, .int a1, .int (sI s (sR s a0 0) a1.toNatClampNeg)]) (st' := []) (s' := s) rfl ⟨⟨trivial, g1⟩, ⟨Or.inl g2.1, g2.2⟩⟩ ?_
  have k3_ : Ev 0 mZ75 27 [.ref a0, .int a1, .int (sI s (sR s a0 0) a1.toNatClampNeg)] [.int (if (sI s (sR s a0 0) a1.toNatClampNeg) = (nI 2) then nI 2 else (if (sI s (sR s a0 0) a1.toNatClampNeg) = (nI 4) then nI 2 else (if (sI s (sR s a0 0) a1.toNatClampNeg) = (nI 5) then nI 2 else nI 0)))] s (some (.int o), s) := by
    cases h
    exact Ev_ret rfl trivial
  refine icases (fun c4 => ?_) (fun c4 => ?_)
  · exact Ev_blk 2 (pc' := 27) (ls' := [.ref a0, .int a1, .int (sI s (sR s a0 0) a1.toNatClampNeg)]) (st' := [.int (nI 2)]) (s' := s) rfl trivial (by simpa only [if_pos c4] using k3_)
  · refine Ev_blk 3 (pc' := if (sI s (sR s a0 0) a1.toNatClampNeg) = (nI 4) then 22 else 17) (ls' := [.ref a0, .int a1, .int (sI s (sR s a0 0) a1.toNatClampNeg)]) (st' := []) (s' := s) rfl trivial ?_
    refine icases (fun c5 => ?_) (fun c5 => ?_)
    · exact Ev_blk 2 (pc' := 27) (ls' := [.ref a0, .int a1, .int (sI s (sR s a0 0) a1.toNatClampNeg)]) (st' := [.int (nI 2)]) (s' := s) rfl trivial (by simpa only [if_neg c4, if_pos c5] using k3_)
    · refine Ev_blk 3 (pc' := if (sI s (sR s a0 0) a1.toNatClampNeg) = (nI 5) then 22 else 26) (ls' := [.ref a0, .int a1, .int (sI s (sR s a0 0) a1.toNatClampNeg)]) (st' := []) (s' := s) rfl trivial ?_
      refine icases (fun c6 => ?_) (fun c6 => ?_)
      · exact Ev_blk 2 (pc' := 27) (ls' := [.ref a0, .int a1, .int (sI s (sR s a0 0) a1.toNatClampNeg)]) (st' := [.int (nI 2)]) (s' := s) rfl trivial (by simpa only [if_neg c4, if_neg c5, if_pos c6] using k3_)
      · exact Ev_blk 1 (pc' := 27) (ls' := [.ref a0, .int a1, .int (sI s (sR s a0 0) a1.toNatClampNeg)]) (st' := [.int (nI 0)]) (s' := s) rfl trivial (by simpa only [if_neg c4, if_neg c5, if_neg c6] using k3_)

/-- RecordHeap$Pages.cellByte(II)I -/
def f_Pages_cellByte (s : AS) (a0 : Nat) (a1 : Int32) (a2 : Int32) : Option Int32 :=
  if a2 < (nI 0) then
    some (-(nI 1))
  else
    if sT s a0 = 7 then
    if sT s (sR s a0 2) = 20 ∧ inA a1 (sN s (sR s a0 2)) then
    if a2 < (sI s (sR s a0 2) a1.toNatClampNeg) then
      if ¬ (nI 16) = nI 0 then
      if sT s (sR s a0 1) = 20 ∧ inA a1 (sN s (sR s a0 1)) then
      if sT s (sR s a0 5) = 20 ∧ inA ((((a1 / (nI 16)) * (nI 64)) + (sI s (sR s a0 1) a1.toNatClampNeg)) + a2) (sN s (sR s a0 5)) then
      some (sI s (sR s a0 5) ((((a1 / (nI 16)) * (nI 64)) + (sI s (sR s a0 1) a1.toNatClampNeg)) + a2).toNatClampNeg)
      else none
      else none
      else none
    else
      some (-(nI 1))
    else none
    else none
theorem t_Pages_cellByte {s : AS} {a0 : Nat} {a1 : Int32} {a2 : Int32} {o : Int32} (h : f_Pages_cellByte s a0 a1 a2 = some o) : Ev 0 mZ76 0 [.ref a0, .int a1, .int a2] [] s (some (.int o), s) := by
  unfold f_Pages_cellByte at h
  refine Ev_blk 2 (pc' := if a2 < (nI 0) then 14 else 4) (ls' := [.ref a0, .int a1, .int a2]) (st' := []) (s' := s) rfl trivial ?_
  refine ib h (fun c1 h => ?_) (fun c1 h => ?_)
  · refine Ev_blk 1 (pc' := 15) (ls' := [.ref a0, .int a1, .int a2]) (st' := [.int (-(nI 1))]) (s' := s) rfl trivial ?_
    cases h
    exact Ev_ret rfl trivial
  · refine gd h (fun g2 h => ?_)
    refine gd h (fun g3 h => ?_)
    refine Ev_blk 6 (pc' := if a2 < (sI s (sR s a0 2) a1.toNatClampNeg) then 16 else 14) (ls' := [.ref a0, .int a1, .int a2]) (st' := []) (s' := s) rfl ⟨⟨trivial, g2⟩, ⟨Or.inl g3.1, g3.2⟩⟩ ?_
    refine ib h (fun c4 h => ?_) (fun c4 h => ?_)
    · refine gd h (fun g5 h => ?_)
      refine gd h (fun g6 h => ?_)
      refine gd h (fun g7 h => ?_)
      refine Ev_blk 15 (pc' := 37) (ls' := [.ref a0, .int a1, .int a2]) (st' := [.int (sI s (sR s a0 5) ((((a1 / (nI 16)) * (nI 64)) + (sI s (sR s a0 1) a1.toNatClampNeg)) + a2).toNatClampNeg)]) (s' := s) rfl ⟨⟨⟨⟨⟨trivial, g2⟩, g5⟩, g2⟩, ⟨Or.inl g6.1, g6.2⟩⟩, ⟨Or.inl g7.1, g7.2⟩⟩ ?_
      cases h
      exact Ev_ret rfl trivial
    · refine Ev_blk 1 (pc' := 15) (ls' := [.ref a0, .int a1, .int a2]) (st' := [.int (-(nI 1))]) (s' := s) rfl trivial ?_
      cases h
      exact Ev_ret rfl trivial

/-- RecordHeap$Pages.followerOf(I)I -/
def f_Pages_followerOf (s : AS) (a0 : Nat) (a1 : Int32) : Option Int32 :=
  if sT s a0 = 7 then
  (f_Pages_linkOf s a0 a1).bind fun r1 =>
  if r1 = (nI 0) then
    some (-(nI 1))
  else
    (f_Pages_cellByte s a0 a1 (nI 1)).bind fun r2 =>
    (f_C_isAddress s r2).bind fun r3 =>
      some (if r3 = (nI 0) then -(nI 1) else r2)
  else none
theorem t_Pages_followerOf {s : AS} {a0 : Nat} {a1 : Int32} {o : Int32} (h : f_Pages_followerOf s a0 a1 = some o) : Ev 1 mZ74 0 [.ref a0, .int a1, .retAddr 0] [] s (some (.int o), s) := by
  unfold f_Pages_followerOf at h
  refine gd h (fun g1 h => ?_)
  refine Ev_blk 2 (pc' := 2) (ls' := [.ref a0, .int a1, .retAddr 0]) (st' := [.int a1, .ref a0]) (s' := s) rfl trivial ?_
  refine bd h (fun r1 hr1 h => ?_)
  refine Ev_call 2 75 1 [.ref a0, .int a1] [] rfl rfl rfl rfl g1 rfl rfl (Nat.le_of_ble_eq_true rfl) (t_Pages_linkOf hr1) ?_
  refine Ev_blk 1 (pc' := if r1 = (nI 0) then 8 else 10) (ls' := [.ref a0, .int a1, .retAddr 0]) (st' := []) (s' := s) rfl trivial ?_
  refine ib h (fun c2 h => ?_) (fun c2 h => ?_)
  · refine Ev_blk 1 (pc' := 9) (ls' := [.ref a0, .int a1, .retAddr 0]) (st' := [.int (-(nI 1))]) (s' := s) rfl trivial ?_
    cases h
    exact Ev_ret rfl trivial
  · refine Ev_blk 3 (pc' := 13) (ls' := [.ref a0, .int a1, .retAddr 0]) (st' := [.int (nI 1), .int a1, .ref a0]) (s' := s) rfl trivial ?_
    refine bd h (fun r2 hr2 h => ?_)
    refine Ev_call 2 76 2 [.ref a0, .int a1, .int (nI 1)] [] rfl rfl rfl rfl g1 rfl rfl (Nat.le_of_ble_eq_true rfl) (t_Pages_cellByte hr2) ?_
    refine Ev_blk 2 (pc' := 18) (ls' := [.ref a0, .int a1, .int r2]) (st' := [.int r2]) (s' := s) rfl trivial ?_
    refine bd h (fun r3 hr3 h => ?_)
    refine Ev_call 1 52 1 [.int r2] [] rfl rfl rfl rfl trivial rfl rfl (Nat.le_of_ble_eq_true rfl) (t_C_isAddress hr3) ?_
    refine Ev_blk 1 (pc' := if r3 = (nI 0) then 28 else 24) (ls' := [.ref a0, .int a1, .int r2]) (st' := []) (s' := s) rfl trivial ?_
    have k3_ : Ev 1 mZ74 29 [.ref a0, .int a1, .int r2] [.int (if r3 = (nI 0) then -(nI 1) else r2)] s (some (.int o), s) := by
      cases h
      exact Ev_ret rfl trivial
    refine icases (fun c4 => ?_) (fun c4 => ?_)
    · exact Ev_blk 1 (pc' := 29) (ls' := [.ref a0, .int a1, .int r2]) (st' := [.int (-(nI 1))]) (s' := s) rfl trivial (by simpa only [if_pos c4] using k3_)
    · exact Ev_blk 2 (pc' := 29) (ls' := [.ref a0, .int a1, .int r2]) (st' := [.int r2]) (s' := s) rfl trivial (by simpa only [if_neg c4] using k3_)

def b_Pages_clear_29 (k29 : Nat → Int32 → Int32 → Int32 → AS → Option AS) (v0 : Nat) (v2 : Int32) (v3 : Int32) (v4 : Int32) (s : AS) : Option AS :=
  if v4 < (nI 0) then
    some s
  else
    if sT s v0 = 7 then
    if sT s (sR s v0 0) = 20 ∧ inA ((v3 * (nI 16)) + v4) (sN s (sR s v0 0)) then
    if (sI s (sR s v0 0) ((v3 * (nI 16)) + v4).toNatClampNeg) = (nI 0) then
      if ((v3 * (nI 16)) + v4) = v2 then
        some s
      else
        if sT s (sR s v0 3) = 20 ∧ inA v3 (sN s (sR s v0 3)) then
        k29 v0 v2 v3 (v4 + (-(nI 1))) (setI s (sR s v0 3) v3.toNatClampNeg v4)
        else none
    else
      some s
    else none
    else none
theorem t_Pages_clear_29 {k29 : Nat → Int32 → Int32 → Int32 → AS → Option AS} (H29 : ∀ {d1 d5 : Value} {v0 : Nat} {v2 : Int32} {v3 : Int32} {v4 : Int32} {s : AS} {o : AS}, k29 v0 v2 v3 v4 s = some o → Ev 0 mZ77 29 [.ref v0, d1, .int v2, .int v3, .int v4, d5] [] s (none, o)) {d1 d5 : Value} {v0 : Nat} {v2 : Int32} {v3 : Int32} {v4 : Int32} {s : AS} {o : AS} (h : b_Pages_clear_29 k29 v0 v2 v3 v4 s = some o) : Ev 0 mZ77 29 [.ref v0, d1, .int v2, .int v3, .int v4, d5] [] s (none, o) := by
  unfold b_Pages_clear_29 at h
  refine Ev_blk 2 (pc' := if v4 < (nI 0) then 74 else 34) (ls' := [.ref v0, d1, .int v2, .int v3, .int v4, d5]) (st' := []) (s' := s) rfl trivial ?_
  refine ib h (fun c1 h => ?_) (fun c1 h => ?_)
  · cases h
    exact Ev_ret rfl trivial
  · refine gd h (fun g2 h => ?_)
    refine gd h (fun g3 h => ?_)
    refine Ev_blk 11 (pc' := if (sI s (sR s v0 0) ((v3 * (nI 16)) + v4).toNatClampNeg) = (nI 0) then 53 else 59) (ls' := [.ref v0, d1, .int v2, .int v3, .int v4, .int ((v3 * (nI 16)) + v4)]) (st' := []) (s' := s) rfl ⟨⟨trivial, g2⟩, ⟨Or.inl g3.1, g3.2⟩⟩ ?_
    refine ib h (fun c4 h => ?_) (fun c4 h => ?_)
    · refine Ev_blk 3 (pc' := if ((v3 * (nI 16)) + v4) = v2 then 59 else 60) (ls' := [.ref v0, d1, .int v2, .int v3, .int v4, .int ((v3 * (nI 16)) + v4)]) (st' := []) (s' := s) rfl trivial ?_
      refine ib h (fun c5 h => ?_) (fun c5 h => ?_)
      · cases h
        exact Ev_ret rfl trivial
      · refine gd h (fun g6 h => ?_)
        refine Ev_blk 7 (pc' := 29) (ls' := [.ref v0, d1, .int v2, .int v3, .int (v4 + (-(nI 1))), .int ((v3 * (nI 16)) + v4)]) (st' := []) (s' := setI s (sR s v0 3) v3.toNatClampNeg v4) rfl ⟨⟨trivial, g2⟩, g6⟩ ?_
        exact H29 h
    · cases h
      exact Ev_ret rfl trivial
def l_Pages_clear_29  : Nat → Nat → Int32 → Int32 → Int32 → AS → Option AS
  | 0 => fun _ _ _ _ _ => none
  | n + 1 => b_Pages_clear_29  (l_Pages_clear_29  n)
theorem u_Pages_clear_29   {n : Nat} : ∀ {d1 d5 : Value} {v0 : Nat} {v2 : Int32} {v3 : Int32} {v4 : Int32} {s : AS} {o : AS}, l_Pages_clear_29  n v0 v2 v3 v4 s = some o → Ev 0 mZ77 29 [.ref v0, d1, .int v2, .int v3, .int v4, d5] [] s (none, o) := by
  induction n with
  | zero => intros; rename_i h; cases h
  | succ n ih => intros; rename_i h; exact t_Pages_clear_29  (fun h => ih h) h
/-- RecordHeap$Pages.clear(II)V -/
def f_Pages_clear (s : AS) (a0 : Nat) (a1 : Int32) (a2 : Int32) : Option AS :=
  if sT s a0 = 7 then
  if sT s (sR s a0 0) = 20 ∧ inA a1 (sN s (sR s a0 0)) then
  if sT s (sR s a0 2) = 20 ∧ inA a1 (sN s (sR s a0 2)) then
  if ¬ (nI 16) = nI 0 then
  if sT s (sR s a0 3) = 20 ∧ inA (a1 / (nI 16)) (sN s (sR s a0 3)) then
  l_Pages_clear_29 fuel a0 a2 (a1 / (nI 16)) ((sI (setI (setI s (sR s a0 0) a1.toNatClampNeg (nI 0)) (sR s a0 2) a1.toNatClampNeg (nI 0)) (sR s a0 3) (a1 / (nI 16)).toNatClampNeg) - (nI 1)) (setI (setI s (sR s a0 0) a1.toNatClampNeg (nI 0)) (sR s a0 2) a1.toNatClampNeg (nI 0))
  else none
  else none
  else none
  else none
  else none
theorem t_Pages_clear {s : AS} {a0 : Nat} {a1 : Int32} {a2 : Int32} {o : AS} (h : f_Pages_clear s a0 a1 a2 = some o) : Ev 0 mZ77 0 [.ref a0, .int a1, .int a2, .retAddr 0, .retAddr 0, .retAddr 0] [] s (none, o) := by
  unfold f_Pages_clear at h
  refine gd h (fun g1 h => ?_)
  refine gd h (fun g2 h => ?_)
  refine gd h (fun g3 h => ?_)
  refine gd h (fun g4 h => ?_)
  refine gd h (fun g5 h => ?_)
  refine Ev_blk 21 (pc' := 29) (ls' := [.ref a0, .int a1, .int a2, .int (a1 / (nI 16)), .int ((sI (setI (setI s (sR s a0 0) a1.toNatClampNeg (nI 0)) (sR s a0 2) a1.toNatClampNeg (nI 0)) (sR s a0 3) (a1 / (nI 16)).toNatClampNeg) - (nI 1)), .retAddr 0]) (st' := []) (s' := setI (setI s (sR s a0 0) a1.toNatClampNeg (nI 0)) (sR s a0 2) a1.toNatClampNeg (nI 0)) rfl ⟨⟨⟨⟨⟨⟨⟨trivial, g1⟩, g2⟩, g1⟩, g3⟩, g4⟩, g1⟩, ⟨Or.inl g5.1, g5.2⟩⟩ ?_
  exact u_Pages_clear_29 h

def b_Desk_takeOut_4 (k4 : Nat → Int32 → Int32 → AS → Option AS) (v0 : Nat) (v2 : Int32) (v3 : Int32) (s : AS) : Option AS :=
  if v3 < (nI 128) then
    if v2 = (-(nI 1)) then
      some s
    else
      if sT s v0 = 3 then
      if sT s (sR s v0 2) = 7 then
      (f_Pages_followerOf s (sR s v0 2) v2).bind fun r1 =>
      (f_Pages_clear s (sR s v0 2) v2 (sI s v0 6)).bind fun r2 =>
      k4 v0 r1 (v3 + nI 1) r2
      else none
      else none
  else
    some s
theorem t_Desk_takeOut_4 {k4 : Nat → Int32 → Int32 → AS → Option AS} (H4 : ∀ {d1 d4 : Value} {v0 : Nat} {v2 : Int32} {v3 : Int32} {s : AS} {o : AS}, k4 v0 v2 v3 s = some o → Ev 2 mZ73 4 [.ref v0, d1, .int v2, .int v3, d4] [] s (none, o)) {d1 d4 : Value} {v0 : Nat} {v2 : Int32} {v3 : Int32} {s : AS} {o : AS} (h : b_Desk_takeOut_4 k4 v0 v2 v3 s = some o) : Ev 2 mZ73 4 [.ref v0, d1, .int v2, .int v3, d4] [] s (none, o) := by
  unfold b_Desk_takeOut_4 at h
  refine Ev_blk 3 (pc' := if v3 < (nI 128) then 11 else 47) (ls' := [.ref v0, d1, .int v2, .int v3, d4]) (st' := []) (s' := s) rfl trivial ?_
  refine ib h (fun c1 h => ?_) (fun c1 h => ?_)
  · refine Ev_blk 3 (pc' := if v2 = (-(nI 1)) then 47 else 16) (ls' := [.ref v0, d1, .int v2, .int v3, d4]) (st' := []) (s' := s) rfl trivial ?_
    refine ib h (fun c2 h => ?_) (fun c2 h => ?_)
    · cases h
      exact Ev_ret rfl trivial
    · refine gd h (fun g3 h => ?_)
      refine gd h (fun g4 h => ?_)
      refine Ev_blk 3 (pc' := 21) (ls' := [.ref v0, d1, .int v2, .int v3, d4]) (st' := [.int v2, .ref (sR s v0 2)]) (s' := s) rfl ⟨trivial, g3⟩ ?_
      refine bd h (fun r1 hr1 h => ?_)
      refine Ev_call 2 74 1 [.ref (sR s v0 2), .int v2] [] rfl rfl rfl rfl g4 rfl rfl (Nat.le_of_ble_eq_true rfl) (t_Pages_followerOf hr1) ?_
      refine Ev_blk 6 (pc' := 35) (ls' := [.ref v0, d1, .int v2, .int v3, .int r1]) (st' := [.int (sI s v0 6), .int v2, .ref (sR s v0 2)]) (s' := s) rfl ⟨⟨trivial, g3⟩, g3⟩ ?_
      refine bd h (fun r2 hr2 h => ?_)
      refine Ev_call 2 77 2 [.ref (sR s v0 2), .int v2, .int (sI s v0 6)] [] rfl rfl rfl rfl g4 rfl rfl (Nat.le_of_ble_eq_true rfl) (t_Pages_clear hr2) ?_
      refine Ev_blk 4 (pc' := 4) (ls' := [.ref v0, (clrV d1), .int r1, .int (v3 + nI 1), .int r1]) (st' := []) (s' := r2) rfl trivial ?_
      exact H4 h
  · cases h
    exact Ev_ret rfl trivial
def l_Desk_takeOut_4  : Nat → Nat → Int32 → Int32 → AS → Option AS
  | 0 => fun _ _ _ _ => none
  | n + 1 => b_Desk_takeOut_4  (l_Desk_takeOut_4  n)
theorem u_Desk_takeOut_4   {n : Nat} : ∀ {d1 d4 : Value} {v0 : Nat} {v2 : Int32} {v3 : Int32} {s : AS} {o : AS}, l_Desk_takeOut_4  n v0 v2 v3 s = some o → Ev 2 mZ73 4 [.ref v0, d1, .int v2, .int v3, d4] [] s (none, o) := by
  induction n with
  | zero => intros; rename_i h; cases h
  | succ n ih => intros; rename_i h; exact t_Desk_takeOut_4  (fun h => ih h) h
/-- RecordHeap$Desk.takeOut(I)V -/
def f_Desk_takeOut (s : AS) (a0 : Nat) (a1 : Int32) : Option AS :=
  l_Desk_takeOut_4 fuel a0 a1 (nI 0) s
theorem t_Desk_takeOut {s : AS} {a0 : Nat} {a1 : Int32} {o : AS} (h : f_Desk_takeOut s a0 a1 = some o) : Ev 2 mZ73 0 [.ref a0, .int a1, .retAddr 0, .retAddr 0, .retAddr 0] [] s (none, o) := by
  unfold f_Desk_takeOut at h
  refine Ev_blk 4 (pc' := 4) (ls' := [.ref a0, .int a1, .int a1, .int (nI 0), .retAddr 0]) (st' := []) (s' := s) rfl trivial ?_
  exact u_Desk_takeOut_4 h

/-- RecordHeap$Desk.layKept(I)Z -/
def f_Desk_layKept (s : AS) (a0 : Nat) (a1 : Int32) : Option (Int32 × AS) :=
  if sT s a0 = 3 then
  (f_C_isAddress s (sI s a0 6)).bind fun r1 =>
  if r1 = (nI 0) then
    some (nI 0, s)
  else
    if ¬ (nI 16) = nI 0 then
    if sT s (sR s a0 2) = 7 then
    (f_Pages_freeOf s (sR s a0 2) ((sI s a0 6) / (nI 16))).bind fun r2 =>
    if sT s (sR s a0 4) = 9 then
    if r2 < (sI s (sR s a0 4) 1) then
      some (nI 0, s)
    else
      (f_Desk_lay s a0 (sI s a0 6) a1).bind fun r3 =>
      some (nI 1, r3)
    else none
    else none
    else none
  else none
theorem t_Desk_layKept {s : AS} {a0 : Nat} {a1 : Int32} {o : Int32 × AS} (h : f_Desk_layKept s a0 a1 = some o) : Ev 3 mZ78 0 [.ref a0, .int a1] [] s (some (.int o.1), o.2) := by
  unfold f_Desk_layKept at h
  refine gd h (fun g1 h => ?_)
  refine Ev_blk 2 (pc' := 4) (ls' := [.ref a0, .int a1]) (st' := [.int (sI s a0 6)]) (s' := s) rfl ⟨trivial, g1⟩ ?_
  refine bd h (fun r1 hr1 h => ?_)
  refine Ev_call 1 52 1 [.int (sI s a0 6)] [] rfl rfl rfl rfl trivial rfl rfl (Nat.le_of_ble_eq_true rfl) (t_C_isAddress hr1) ?_
  refine Ev_blk 1 (pc' := if r1 = (nI 0) then 34 else 10) (ls' := [.ref a0, .int a1]) (st' := []) (s' := s) rfl trivial ?_
  refine ib h (fun c2 h => ?_) (fun c2 h => ?_)
  · refine Ev_blk 1 (pc' := 35) (ls' := [.ref a0, .int a1]) (st' := [.int (nI 0)]) (s' := s) rfl trivial ?_
    cases h
    exact Ev_ret rfl (Or.inl rfl)
  · refine gd h (fun g3 h => ?_)
    refine gd h (fun g4 h => ?_)
    refine Ev_blk 6 (pc' := 21) (ls' := [.ref a0, .int a1]) (st' := [.int ((sI s a0 6) / (nI 16)), .ref (sR s a0 2)]) (s' := s) rfl ⟨⟨⟨trivial, g1⟩, g1⟩, g3⟩ ?_
    refine bd h (fun r2 hr2 h => ?_)
    refine Ev_call 2 47 1 [.ref (sR s a0 2), .int ((sI s a0 6) / (nI 16))] [] rfl rfl rfl rfl g4 rfl rfl (Nat.le_of_ble_eq_true rfl) (t_Pages_freeOf hr2) ?_
    refine gd h (fun g5 h => ?_)
    refine Ev_blk 4 (pc' := if r2 < (sI s (sR s a0 4) 1) then 34 else 36) (ls' := [.ref a0, .int a1]) (st' := []) (s' := s) rfl ⟨⟨trivial, g1⟩, g5⟩ ?_
    refine ib h (fun c6 h => ?_) (fun c6 h => ?_)
    · refine Ev_blk 1 (pc' := 35) (ls' := [.ref a0, .int a1]) (st' := [.int (nI 0)]) (s' := s) rfl trivial ?_
      cases h
      exact Ev_ret rfl (Or.inl rfl)
    · refine Ev_blk 4 (pc' := 42) (ls' := [.ref a0, .int a1]) (st' := [.int a1, .int (sI s a0 6), .ref a0]) (s' := s) rfl ⟨trivial, g1⟩ ?_
      refine bd h (fun r3 hr3 h => ?_)
      refine Ev_call 2 65 2 [.ref a0, .int (sI s a0 6), .int a1] [] rfl rfl rfl rfl g1 rfl rfl (Nat.le_of_ble_eq_true rfl) (t_Desk_lay hr3) ?_
      refine Ev_blk 1 (pc' := 46) (ls' := [.ref a0, .int a1]) (st' := [.int (nI 1)]) (s' := r3) rfl trivial ?_
      cases h
      exact Ev_ret rfl (Or.inr rfl)

/-- RecordHeap$Desk.layMoved()I -/
def f_Desk_layMoved (s : AS) (a0 : Nat) : Option (Int32 × AS) :=
  if sT s a0 = 3 then
  if sT s (sR s a0 4) = 9 then
  if sT s (sR s a0 0) = 11 then
  (f_Setting_lawInForce s (sR s a0 0)).bind fun r1 =>
  (f_Desk_pageFor s a0 (sI s (sR s a0 4) 1) r1).bind fun r2 =>
  if sT r2.2 a0 = 3 then
  (f_Desk_layOn r2.2 a0 r2.1 (nI 3)).bind fun r3 =>
  if sT r3.2 a0 = 3 then
  if sT r3.2 (sR r3.2 a0 4) = 9 then
  (f_Row_link r3.2 (sR r3.2 a0 4) r3.1).bind fun r4 =>
  if r3.1 = (-(nI 1)) then
    some (-(nI 1), r4)
  else
    if sT r4 a0 = 3 then
    (f_Desk_layKept r4 a0 (nI 2)).bind fun r5 =>
      some ((if r5.1 = (nI 0) then -(nI 1) else nI 1), r5.2)
    else none
  else none
  else none
  else none
  else none
  else none
  else none
theorem t_Desk_layMoved {s : AS} {a0 : Nat} {o : Int32 × AS} (h : f_Desk_layMoved s a0 = some o) : Ev 4 mZ79 0 [.ref a0, .retAddr 0] [] s (some (.int o.1), o.2) := by
  unfold f_Desk_layMoved at h
  refine gd h (fun g1 h => ?_)
  refine gd h (fun g2 h => ?_)
  refine gd h (fun g3 h => ?_)
  refine Ev_blk 7 (pc' := 13) (ls' := [.ref a0, .retAddr 0]) (st' := [.ref (sR s a0 0), .int (sI s (sR s a0 4) 1), .ref a0, .ref a0]) (s' := s) rfl ⟨⟨⟨trivial, g1⟩, g2⟩, g1⟩ ?_
  refine bd h (fun r1 hr1 h => ?_)
  refine Ev_call 2 58 0 [.ref (sR s a0 0)] [.int (sI s (sR s a0 4) 1), .ref a0, .ref a0] rfl rfl rfl rfl g3 rfl rfl (Nat.le_of_ble_eq_true rfl) (t_Setting_lawInForce hr1) ?_
  refine bd h (fun r2 hr2 h => ?_)
  refine Ev_call 2 61 2 [.ref a0, .int (sI s (sR s a0 4) 1), .ref r1] [.ref a0] rfl rfl rfl rfl g1 rfl rfl (Nat.le_of_ble_eq_true rfl) (t_Desk_pageFor hr2) ?_
  refine gd h (fun g4 h => ?_)
  refine Ev_blk 1 (pc' := 20) (ls' := [.ref a0, .retAddr 0]) (st' := [.int (nI 3), .int r2.1, .ref a0]) (s' := r2.2) rfl trivial ?_
  refine bd h (fun r3 hr3 h => ?_)
  refine Ev_call 2 64 2 [.ref a0, .int r2.1, .int (nI 3)] [] rfl rfl rfl rfl g4 rfl rfl (Nat.le_of_ble_eq_true rfl) (t_Desk_layOn hr3) ?_
  refine gd h (fun g5 h => ?_)
  refine gd h (fun g6 h => ?_)
  refine Ev_blk 4 (pc' := 29) (ls' := [.ref a0, .int r3.1]) (st' := [.int r3.1, .ref (sR r3.2 a0 4)]) (s' := r3.2) rfl ⟨trivial, g5⟩ ?_
  refine bd h (fun r4 hr4 h => ?_)
  refine Ev_call 2 57 1 [.ref (sR r3.2 a0 4), .int r3.1] [] rfl rfl rfl rfl g6 rfl rfl (Nat.le_of_ble_eq_true rfl) (t_Row_link hr4) ?_
  refine Ev_blk 3 (pc' := if r3.1 = (-(nI 1)) then 49 else 37) (ls' := [.ref a0, .int r3.1]) (st' := []) (s' := r4) rfl trivial ?_
  refine ib h (fun c7 h => ?_) (fun c7 h => ?_)
  · refine Ev_blk 1 (pc' := 50) (ls' := [.ref a0, .int r3.1]) (st' := [.int (-(nI 1))]) (s' := r4) rfl trivial ?_
    cases h
    exact Ev_ret rfl trivial
  · refine gd h (fun g8 h => ?_)
    refine Ev_blk 2 (pc' := 39) (ls' := [.ref a0, .int r3.1]) (st' := [.int (nI 2), .ref a0]) (s' := r4) rfl trivial ?_
    refine bd h (fun r5 hr5 h => ?_)
    refine Ev_call 2 78 1 [.ref a0, .int (nI 2)] [] rfl rfl rfl rfl g8 rfl rfl (Nat.le_of_ble_eq_true rfl) (t_Desk_layKept hr5) ?_
    refine Ev_blk 1 (pc' := if r5.1 = (nI 0) then 49 else 45) (ls' := [.ref a0, .int r3.1]) (st' := []) (s' := r5.2) rfl trivial ?_
    have k9_ : Ev 4 mZ79 50 [.ref a0, .int r3.1] [.int (if r5.1 = (nI 0) then -(nI 1) else nI 1)] r5.2 (some (.int o.1), o.2) := by
      cases h
      exact Ev_ret rfl trivial
    refine icases (fun c10 => ?_) (fun c10 => ?_)
    · exact Ev_blk 1 (pc' := 50) (ls' := [.ref a0, .int r3.1]) (st' := [.int (-(nI 1))]) (s' := r5.2) rfl trivial (by simpa only [if_pos c10] using k9_)
    · exact Ev_blk 2 (pc' := 50) (ls' := [.ref a0, .int r3.1]) (st' := [.int (nI 1)]) (s' := r5.2) rfl trivial (by simpa only [if_neg c10] using k9_)

def b_Desk_writeAnew_104  (v0 : Nat) (v3 : Int32) (s : AS) : Option (Int32 × AS) :=
  if sT s v0 = 3 then
  if v3 = (-(nI 1)) then
    if sT s (sR s v0 2) = 7 then
    (f_Pages_takeFrom (setI s v0 6 (-(nI 1))) (sR s v0 2) (sR s v0 3)).bind fun r1 =>
    some (v3, r1)
    else none
  else
    some (v3, setI s v0 6 (-(nI 1)))
  else none
theorem t_Desk_writeAnew_104   {d1 d2 d4 : Value} {v0 : Nat} {v3 : Int32} {s : AS} {o : Int32 × AS} (h : b_Desk_writeAnew_104  v0 v3 s = some o) : Ev 5 mZ72 104 [.ref v0, d1, d2, .int v3, d4] [] s (some (.int o.1), o.2) := by
  unfold b_Desk_writeAnew_104 at h
  refine gd h (fun g1 h => ?_)
  refine Ev_blk 6 (pc' := if v3 = (-(nI 1)) then 114 else 125) (ls' := [.ref v0, d1, d2, .int v3, d4]) (st' := []) (s' := setI s v0 6 (-(nI 1))) rfl ⟨trivial, g1⟩ ?_
  refine ib h (fun c2 h => ?_) (fun c2 h => ?_)
  · refine gd h (fun g3 h => ?_)
    refine Ev_blk 4 (pc' := 122) (ls' := [.ref v0, d1, d2, .int v3, d4]) (st' := [.ref (sR s v0 3), .ref (sR s v0 2)]) (s' := setI s v0 6 (-(nI 1))) rfl ⟨⟨trivial, g1⟩, g1⟩ ?_
    refine bd h (fun r1 hr1 h => ?_)
    refine Ev_call 2 42 1 [.ref (sR s v0 2), .ref (sR s v0 3)] [] rfl rfl rfl rfl g3 rfl rfl (Nat.le_of_ble_eq_true rfl) (t_Pages_takeFrom hr1) ?_
    refine Ev_blk 1 (pc' := 126) (ls' := [.ref v0, d1, d2, .int v3, d4]) (st' := [.int v3]) (s' := r1) rfl trivial ?_
    cases h
    exact Ev_ret rfl trivial
  · refine Ev_blk 1 (pc' := 126) (ls' := [.ref v0, d1, d2, .int v3, d4]) (st' := [.int v3]) (s' := setI s v0 6 (-(nI 1))) rfl trivial ?_
    cases h
    exact Ev_ret rfl trivial
def b_Desk_writeAnew_69  (v0 : Nat) (w0 : Int32) (s : AS) : Option (Int32 × AS) :=
  b_Desk_writeAnew_104 v0 w0 s
theorem t_Desk_writeAnew_69   {d1 d2 d3 d4 : Value} {v0 : Nat} {w0 : Int32} {s : AS} {o : Int32 × AS} (h : b_Desk_writeAnew_69  v0 w0 s = some o) : Ev 5 mZ72 69 [.ref v0, d1, d2, d3, d4] [.int w0] s (some (.int o.1), o.2) := by
  unfold b_Desk_writeAnew_69 at h
  refine Ev_blk 2 (pc' := 104) (ls' := [.ref v0, d1, (clrV d2), .int w0, d4]) (st' := []) (s' := s) rfl trivial ?_
  exact t_Desk_writeAnew_104 h
def b_Desk_writeAnew_68  (v0 : Nat) (s : AS) : Option (Int32 × AS) :=
  b_Desk_writeAnew_69 v0 (-(nI 1)) s
theorem t_Desk_writeAnew_68   {d1 d2 d3 d4 : Value} {v0 : Nat} {s : AS} {o : Int32 × AS} (h : b_Desk_writeAnew_68  v0 s = some o) : Ev 5 mZ72 68 [.ref v0, d1, d2, d3, d4] [] s (some (.int o.1), o.2) := by
  unfold b_Desk_writeAnew_68 at h
  refine Ev_blk 1 (pc' := 69) (ls' := [.ref v0, d1, d2, d3, d4]) (st' := [.int (-(nI 1))]) (s' := s) rfl trivial ?_
  exact t_Desk_writeAnew_69 h
def b_Desk_writeAnew_103  (v0 : Nat) (w0 : Int32) (s : AS) : Option (Int32 × AS) :=
  b_Desk_writeAnew_104 v0 w0 s
theorem t_Desk_writeAnew_103   {d1 d2 d3 d4 : Value} {v0 : Nat} {w0 : Int32} {s : AS} {o : Int32 × AS} (h : b_Desk_writeAnew_103  v0 w0 s = some o) : Ev 5 mZ72 103 [.ref v0, d1, d2, d3, d4] [.int w0] s (some (.int o.1), o.2) := by
  unfold b_Desk_writeAnew_103 at h
  refine Ev_blk 1 (pc' := 104) (ls' := [.ref v0, d1, (clrV d2), .int w0, d4]) (st' := []) (s' := s) rfl trivial ?_
  exact t_Desk_writeAnew_104 h
/-- RecordHeap$Desk.writeAnew(ILRecordHeap$Row;)I -/
def f_Desk_writeAnew (s : AS) (a0 : Nat) (a1 : Int32) (a2 : Nat) : Option (Int32 × AS) :=
  if sT s a0 = 3 then
  if sT s (sR s a0 3) = 7 then
  (f_Pages_takeFrom s (sR s a0 3) (sR s a0 2)).bind fun r1 =>
  if sT r1 a0 = 3 then
  (f_Desk_takeOut (setI r1 a0 6 a1) a0 a1).bind fun r2 =>
  if sT r2 a2 = 9 then
  if (nI 40) < (sI r2 a2 1) then
    if sT r2 a0 = 3 then
    (f_Desk_layPieces r2 a0 a2).bind fun r3 =>
    if sT r3.2 a0 = 3 then
    if sT r3.2 (sR r3.2 a0 4) = 9 then
    (f_Row_assemble r3.2 (sR r3.2 a0 4) r3.1 a2 (nI 0) (nI 38)).bind fun r4 =>
    if r3.1 = (-(nI 1)) then
      b_Desk_writeAnew_68 a0 r4
    else
      if sT r4 a0 = 3 then
      (f_Desk_layKept r4 a0 (nI 4)).bind fun r5 =>
        b_Desk_writeAnew_69 a0 (if r5.1 = (nI 0) then -(nI 1) else nI 2) r5.2
      else none
    else none
    else none
    else none
  else
    if sT r2 a0 = 3 then
    if sT r2 (sR r2 a0 4) = 9 then
    (f_Row_assemble r2 (sR r2 a0 4) (-(nI 1)) a2 (nI 0) (sI r2 a2 1)).bind fun r6 =>
    if sT r6 a0 = 3 then
    (f_Desk_layKept r6 a0 (nI 1)).bind fun r7 =>
    if r7.1 = (nI 0) then
      if sT r7.2 a0 = 3 then
      (f_Desk_layMoved r7.2 a0).bind fun r8 =>
      b_Desk_writeAnew_103 a0 r8.1 r8.2
      else none
    else
      b_Desk_writeAnew_103 a0 (nI 0) r7.2
    else none
    else none
    else none
  else none
  else none
  else none
  else none
theorem t_Desk_writeAnew {s : AS} {a0 : Nat} {a1 : Int32} {a2 : Nat} {o : Int32 × AS} (h : f_Desk_writeAnew s a0 a1 a2 = some o) : Ev 5 mZ72 0 [.ref a0, .int a1, .ref a2, .retAddr 0, .retAddr 0] [] s (some (.int o.1), o.2) := by
  unfold f_Desk_writeAnew at h
  refine gd h (fun g1 h => ?_)
  refine gd h (fun g2 h => ?_)
  refine Ev_blk 4 (pc' := 8) (ls' := [.ref a0, .int a1, .ref a2, .retAddr 0, .retAddr 0]) (st' := [.ref (sR s a0 2), .ref (sR s a0 3)]) (s' := s) rfl ⟨⟨trivial, g1⟩, g1⟩ ?_
  refine bd h (fun r1 hr1 h => ?_)
  refine Ev_call 2 42 1 [.ref (sR s a0 3), .ref (sR s a0 2)] [] rfl rfl rfl rfl g2 rfl rfl (Nat.le_of_ble_eq_true rfl) (t_Pages_takeFrom hr1) ?_
  refine gd h (fun g3 h => ?_)
  refine Ev_blk 5 (pc' := 18) (ls' := [.ref a0, .int a1, .ref a2, .retAddr 0, .retAddr 0]) (st' := [.int a1, .ref a0]) (s' := setI r1 a0 6 a1) rfl ⟨trivial, g3⟩ ?_
  refine bd h (fun r2 hr2 h => ?_)
  refine Ev_call 2 73 1 [.ref a0, .int a1] [] rfl rfl rfl rfl g3 rfl rfl (Nat.le_of_ble_eq_true rfl) (t_Desk_takeOut hr2) ?_
  refine gd h (fun g4 h => ?_)
  refine Ev_blk 4 (pc' := if (nI 40) < (sI r2 a2 1) then 30 else 73) (ls' := [.ref a0, .int a1, .ref a2, .retAddr 0, .retAddr 0]) (st' := []) (s' := r2) rfl ⟨trivial, g4⟩ ?_
  refine ib h (fun c5 h => ?_) (fun c5 h => ?_)
  · refine gd h (fun g6 h => ?_)
    refine Ev_blk 2 (pc' := 32) (ls' := [.ref a0, .int a1, .ref a2, .retAddr 0, .retAddr 0]) (st' := [.ref a2, .ref a0]) (s' := r2) rfl trivial ?_
    refine bd h (fun r3 hr3 h => ?_)
    refine Ev_call 2 71 1 [.ref a0, .ref a2] [] rfl rfl rfl rfl g6 rfl rfl (Nat.le_of_ble_eq_true rfl) (t_Desk_layPieces hr3) ?_
    refine gd h (fun g7 h => ?_)
    refine gd h (fun g8 h => ?_)
    refine Ev_blk 7 (pc' := 47) (ls' := [.ref a0, .int a1, .ref a2, .retAddr 0, .int r3.1]) (st' := [.int (nI 38), .int (nI 0), .ref a2, .int r3.1, .ref (sR r3.2 a0 4)]) (s' := r3.2) rfl ⟨trivial, g7⟩ ?_
    refine bd h (fun r4 hr4 h => ?_)
    refine Ev_call 2 56 4 [.ref (sR r3.2 a0 4), .int r3.1, .ref a2, .int (nI 0), .int (nI 38)] [] rfl rfl rfl rfl g8 rfl rfl (Nat.le_of_ble_eq_true rfl) (t_Row_assemble hr4) ?_
    refine Ev_blk 3 (pc' := if r3.1 = (-(nI 1)) then 68 else 56) (ls' := [.ref a0, .int a1, .ref a2, .retAddr 0, .int r3.1]) (st' := []) (s' := r4) rfl trivial ?_
    refine ib h (fun c9 h => ?_) (fun c9 h => ?_)
    · exact t_Desk_writeAnew_68 h
    · refine gd h (fun g10 h => ?_)
      refine Ev_blk 2 (pc' := 58) (ls' := [.ref a0, .int a1, .ref a2, .retAddr 0, .int r3.1]) (st' := [.int (nI 4), .ref a0]) (s' := r4) rfl trivial ?_
      refine bd h (fun r5 hr5 h => ?_)
      refine Ev_call 2 78 1 [.ref a0, .int (nI 4)] [] rfl rfl rfl rfl g10 rfl rfl (Nat.le_of_ble_eq_true rfl) (t_Desk_layKept hr5) ?_
      refine Ev_blk 1 (pc' := if r5.1 = (nI 0) then 68 else 64) (ls' := [.ref a0, .int a1, .ref a2, .retAddr 0, .int r3.1]) (st' := []) (s' := r5.2) rfl trivial ?_
      have k11_ : Ev 5 mZ72 69 [.ref a0, .int a1, .ref a2, .retAddr 0, .int r3.1] [.int (if r5.1 = (nI 0) then -(nI 1) else nI 2)] r5.2 (some (.int o.1), o.2) := by
        exact t_Desk_writeAnew_69 h
      refine icases (fun c12 => ?_) (fun c12 => ?_)
      · exact Ev_blk 1 (pc' := 69) (ls' := [.ref a0, .int a1, .ref a2, .retAddr 0, .int r3.1]) (st' := [.int (-(nI 1))]) (s' := r5.2) rfl trivial (by simpa only [if_pos c12] using k11_)
      · exact Ev_blk 2 (pc' := 69) (ls' := [.ref a0, .int a1, .ref a2, .retAddr 0, .int r3.1]) (st' := [.int (nI 2)]) (s' := r5.2) rfl trivial (by simpa only [if_neg c12] using k11_)
  · refine gd h (fun g13 h => ?_)
    refine gd h (fun g14 h => ?_)
    refine Ev_blk 7 (pc' := 84) (ls' := [.ref a0, .int a1, .ref a2, .retAddr 0, .retAddr 0]) (st' := [.int (sI r2 a2 1), .int (nI 0), .ref a2, .int (-(nI 1)), .ref (sR r2 a0 4)]) (s' := r2) rfl ⟨⟨trivial, g13⟩, g4⟩ ?_
    refine bd h (fun r6 hr6 h => ?_)
    refine Ev_call 2 56 4 [.ref (sR r2 a0 4), .int (-(nI 1)), .ref a2, .int (nI 0), .int (sI r2 a2 1)] [] rfl rfl rfl rfl g14 rfl rfl (Nat.le_of_ble_eq_true rfl) (t_Row_assemble hr6) ?_
    refine gd h (fun g15 h => ?_)
    refine Ev_blk 2 (pc' := 89) (ls' := [.ref a0, .int a1, .ref a2, .retAddr 0, .retAddr 0]) (st' := [.int (nI 1), .ref a0]) (s' := r6) rfl trivial ?_
    refine bd h (fun r7 hr7 h => ?_)
    refine Ev_call 2 78 1 [.ref a0, .int (nI 1)] [] rfl rfl rfl rfl g15 rfl rfl (Nat.le_of_ble_eq_true rfl) (t_Desk_layKept hr7) ?_
    refine Ev_blk 1 (pc' := if r7.1 = (nI 0) then 99 else 95) (ls' := [.ref a0, .int a1, .ref a2, .retAddr 0, .retAddr 0]) (st' := []) (s' := r7.2) rfl trivial ?_
    refine ib h (fun c16 h => ?_) (fun c16 h => ?_)
    · refine gd h (fun g17 h => ?_)
      refine Ev_blk 1 (pc' := 100) (ls' := [.ref a0, .int a1, .ref a2, .retAddr 0, .retAddr 0]) (st' := [.ref a0]) (s' := r7.2) rfl trivial ?_
      refine bd h (fun r8 hr8 h => ?_)
      refine Ev_call 2 79 0 [.ref a0] [] rfl rfl rfl rfl g17 rfl rfl (Nat.le_of_ble_eq_true rfl) (t_Desk_layMoved hr8) ?_
      exact t_Desk_writeAnew_103 h
    · refine Ev_blk 2 (pc' := 103) (ls' := [.ref a0, .int a1, .ref a2, .retAddr 0, .retAddr 0]) (st' := [.int (nI 0)]) (s' := r7.2) rfl trivial ?_
      exact t_Desk_writeAnew_103 h

/-- RecordHeap$Desk.takeAway(I)V -/
def f_Desk_takeAway (s : AS) (a0 : Nat) (a1 : Int32) : Option AS :=
  if sT s a0 = 3 then
  if sT s (sR s a0 3) = 7 then
  (f_Pages_takeFrom s (sR s a0 3) (sR s a0 2)).bind fun r1 =>
  if sT r1 a0 = 3 then
  (f_Desk_takeOut r1 a0 a1).bind fun r2 =>
  some r2
  else none
  else none
  else none
theorem t_Desk_takeAway {s : AS} {a0 : Nat} {a1 : Int32} {o : AS} (h : f_Desk_takeAway s a0 a1 = some o) : Ev 3 mZ80 0 [.ref a0, .int a1] [] s (none, o) := by
  unfold f_Desk_takeAway at h
  refine gd h (fun g1 h => ?_)
  refine gd h (fun g2 h => ?_)
  refine Ev_blk 4 (pc' := 8) (ls' := [.ref a0, .int a1]) (st' := [.ref (sR s a0 2), .ref (sR s a0 3)]) (s' := s) rfl ⟨⟨trivial, g1⟩, g1⟩ ?_
  refine bd h (fun r1 hr1 h => ?_)
  refine Ev_call 2 42 1 [.ref (sR s a0 3), .ref (sR s a0 2)] [] rfl rfl rfl rfl g2 rfl rfl (Nat.le_of_ble_eq_true rfl) (t_Pages_takeFrom hr1) ?_
  refine gd h (fun g3 h => ?_)
  refine Ev_blk 2 (pc' := 13) (ls' := [.ref a0, .int a1]) (st' := [.int a1, .ref a0]) (s' := r1) rfl trivial ?_
  refine bd h (fun r2 hr2 h => ?_)
  refine Ev_call 2 73 1 [.ref a0, .int a1] [] rfl rfl rfl rfl g3 rfl rfl (Nat.le_of_ble_eq_true rfl) (t_Desk_takeOut hr2) ?_
  cases h
  exact Ev_ret rfl trivial

/-- RecordHeap$Desk.packPage(I)V -/
def f_Desk_packPage (s : AS) (a0 : Nat) (a1 : Int32) : Option AS :=
  if sT s a0 = 3 then
  if sT s (sR s a0 3) = 7 then
  (f_Pages_takeFrom s (sR s a0 3) (sR s a0 2)).bind fun r1 =>
  if sT r1 a0 = 3 then
  (f_Desk_squeeze r1 a0 a1).bind fun r2 =>
  if sT r2 a0 = 3 then
  if sT r2 (sR r2 a0 2) = 7 then
  (f_Pages_promise r2 (sR r2 a0 2) a1).bind fun r3 =>
  some r3
  else none
  else none
  else none
  else none
  else none
theorem t_Desk_packPage {s : AS} {a0 : Nat} {a1 : Int32} {o : AS} (h : f_Desk_packPage s a0 a1 = some o) : Ev 2 mZ81 0 [.ref a0, .int a1] [] s (none, o) := by
  unfold f_Desk_packPage at h
  refine gd h (fun g1 h => ?_)
  refine gd h (fun g2 h => ?_)
  refine Ev_blk 4 (pc' := 8) (ls' := [.ref a0, .int a1]) (st' := [.ref (sR s a0 2), .ref (sR s a0 3)]) (s' := s) rfl ⟨⟨trivial, g1⟩, g1⟩ ?_
  refine bd h (fun r1 hr1 h => ?_)
  refine Ev_call 2 42 1 [.ref (sR s a0 3), .ref (sR s a0 2)] [] rfl rfl rfl rfl g2 rfl rfl (Nat.le_of_ble_eq_true rfl) (t_Pages_takeFrom hr1) ?_
  refine gd h (fun g3 h => ?_)
  refine Ev_blk 2 (pc' := 13) (ls' := [.ref a0, .int a1]) (st' := [.int a1, .ref a0]) (s' := r1) rfl trivial ?_
  refine bd h (fun r2 hr2 h => ?_)
  refine Ev_call 2 68 1 [.ref a0, .int a1] [] rfl rfl rfl rfl g3 rfl rfl (Nat.le_of_ble_eq_true rfl) (t_Desk_squeeze hr2) ?_
  refine gd h (fun g4 h => ?_)
  refine gd h (fun g5 h => ?_)
  refine Ev_blk 3 (pc' := 21) (ls' := [.ref a0, .int a1]) (st' := [.int a1, .ref (sR r2 a0 2)]) (s' := r2) rfl ⟨trivial, g4⟩ ?_
  refine bd h (fun r3 hr3 h => ?_)
  refine Ev_call 2 70 1 [.ref (sR r2 a0 2), .int a1] [] rfl rfl rfl rfl g5 rfl rfl (Nat.le_of_ble_eq_true rfl) (t_Pages_promise hr3) ?_
  cases h
  exact Ev_ret rfl trivial

def b_Desk_mendAll_15 (k15 : Nat → Int32 → Int32 → AS → Option (Int32 × AS)) (v0 : Nat) (v1 : Int32) (v2 : Int32) (s : AS) : Option (Int32 × AS) :=
  if v2 < (nI 8) then
    if sT s v0 = 3 then
    if sT s (sR s v0 2) = 7 then
    (f_Pages_promise s (sR s v0 2) v2).bind fun r1 =>
    if sT r1 v0 = 3 then
    if sT r1 (sR r1 v0 2) = 7 then
    if sT r1 (sR r1 (sR r1 v0 2) 4) = 20 ∧ inA v2 (sN r1 (sR r1 (sR r1 v0 2) 4)) then
    if sT r1 (sR r1 v0 3) = 7 then
    if sT r1 (sR r1 (sR r1 v0 3) 4) = 20 ∧ inA v2 (sN r1 (sR r1 (sR r1 v0 3) 4)) then
    if (sI r1 (sR r1 (sR r1 v0 2) 4) v2.toNatClampNeg) = (sI r1 (sR r1 (sR r1 v0 3) 4) v2.toNatClampNeg) then
      k15 v0 v1 (v2 + nI 1) r1
    else
      k15 v0 (v1 + nI 1) (v2 + nI 1) r1
    else none
    else none
    else none
    else none
    else none
    else none
    else none
  else
    some (v1, s)
theorem t_Desk_mendAll_15 {k15 : Nat → Int32 → Int32 → AS → Option (Int32 × AS)} (H15 : ∀ {v0 : Nat} {v1 : Int32} {v2 : Int32} {s : AS} {o : Int32 × AS}, k15 v0 v1 v2 s = some o → Ev 2 mZ82 15 [.ref v0, .int v1, .int v2] [] s (some (.int o.1), o.2))  {v0 : Nat} {v1 : Int32} {v2 : Int32} {s : AS} {o : Int32 × AS} (h : b_Desk_mendAll_15 k15 v0 v1 v2 s = some o) : Ev 2 mZ82 15 [.ref v0, .int v1, .int v2] [] s (some (.int o.1), o.2) := by
  unfold b_Desk_mendAll_15 at h
  refine Ev_blk 3 (pc' := if v2 < (nI 8) then 21 else 59) (ls' := [.ref v0, .int v1, .int v2]) (st' := []) (s' := s) rfl trivial ?_
  refine ib h (fun c1 h => ?_) (fun c1 h => ?_)
  · refine gd h (fun g2 h => ?_)
    refine gd h (fun g3 h => ?_)
    refine Ev_blk 3 (pc' := 26) (ls' := [.ref v0, .int v1, .int v2]) (st' := [.int v2, .ref (sR s v0 2)]) (s' := s) rfl ⟨trivial, g2⟩ ?_
    refine bd h (fun r1 hr1 h => ?_)
    refine Ev_call 2 70 1 [.ref (sR s v0 2), .int v2] [] rfl rfl rfl rfl g3 rfl rfl (Nat.le_of_ble_eq_true rfl) (t_Pages_promise hr1) ?_
    refine gd h (fun g4 h => ?_)
    refine gd h (fun g5 h => ?_)
    refine gd h (fun g6 h => ?_)
    refine gd h (fun g7 h => ?_)
    refine gd h (fun g8 h => ?_)
    refine Ev_blk 11 (pc' := if (sI r1 (sR r1 (sR r1 v0 2) 4) v2.toNatClampNeg) = (sI r1 (sR r1 (sR r1 v0 3) 4) v2.toNatClampNeg) then 53 else 50) (ls' := [.ref v0, .int v1, .int v2]) (st' := []) (s' := r1) rfl ⟨⟨⟨⟨⟨⟨trivial, g4⟩, g5⟩, ⟨Or.inl g6.1, g6.2⟩⟩, g4⟩, g7⟩, ⟨Or.inl g8.1, g8.2⟩⟩ ?_
    refine ib h (fun c9 h => ?_) (fun c9 h => ?_)
    · refine Ev_blk 2 (pc' := 15) (ls' := [.ref v0, .int v1, .int (v2 + nI 1)]) (st' := []) (s' := r1) rfl trivial ?_
      exact H15 h
    · refine Ev_blk 3 (pc' := 15) (ls' := [.ref v0, .int (v1 + nI 1), .int (v2 + nI 1)]) (st' := []) (s' := r1) rfl trivial ?_
      exact H15 h
  · refine Ev_blk 1 (pc' := 60) (ls' := [.ref v0, .int v1, .int v2]) (st' := [.int v1]) (s' := s) rfl trivial ?_
    cases h
    exact Ev_ret rfl trivial
def l_Desk_mendAll_15  : Nat → Nat → Int32 → Int32 → AS → Option (Int32 × AS)
  | 0 => fun _ _ _ _ => none
  | n + 1 => b_Desk_mendAll_15  (l_Desk_mendAll_15  n)
theorem u_Desk_mendAll_15   {n : Nat} : ∀  {v0 : Nat} {v1 : Int32} {v2 : Int32} {s : AS} {o : Int32 × AS}, l_Desk_mendAll_15  n v0 v1 v2 s = some o → Ev 2 mZ82 15 [.ref v0, .int v1, .int v2] [] s (some (.int o.1), o.2) := by
  induction n with
  | zero => intros; rename_i h; cases h
  | succ n ih => intros; rename_i h; exact t_Desk_mendAll_15  (fun h => ih h) h
/-- RecordHeap$Desk.mendAll()I -/
def f_Desk_mendAll (s : AS) (a0 : Nat) : Option (Int32 × AS) :=
  if sT s a0 = 3 then
  if sT s (sR s a0 3) = 7 then
  (f_Pages_takeFrom s (sR s a0 3) (sR s a0 2)).bind fun r1 =>
  l_Desk_mendAll_15 fuel a0 (nI 0) (nI 0) r1
  else none
  else none
theorem t_Desk_mendAll {s : AS} {a0 : Nat} {o : Int32 × AS} (h : f_Desk_mendAll s a0 = some o) : Ev 2 mZ82 0 [.ref a0, .retAddr 0, .retAddr 0] [] s (some (.int o.1), o.2) := by
  unfold f_Desk_mendAll at h
  refine gd h (fun g1 h => ?_)
  refine gd h (fun g2 h => ?_)
  refine Ev_blk 4 (pc' := 8) (ls' := [.ref a0, .retAddr 0, .retAddr 0]) (st' := [.ref (sR s a0 2), .ref (sR s a0 3)]) (s' := s) rfl ⟨⟨trivial, g1⟩, g1⟩ ?_
  refine bd h (fun r1 hr1 h => ?_)
  refine Ev_call 2 42 1 [.ref (sR s a0 3), .ref (sR s a0 2)] [] rfl rfl rfl rfl g2 rfl rfl (Nat.le_of_ble_eq_true rfl) (t_Pages_takeFrom hr1) ?_
  refine Ev_blk 4 (pc' := 15) (ls' := [.ref a0, .int (nI 0), .int (nI 0)]) (st' := []) (s' := r1) rfl trivial ?_
  exact u_Desk_mendAll_15 h

def b_Log_forgetOldest_9 (k9 : Nat → Nat → Int32 → AS → Option AS) (v0 : Nat) (v1 : Nat) (v2 : Int32) (s : AS) : Option AS :=
  if v2 < (nI 16) then
    if sT s v0 = 5 then
    if 40 ≤ sT s (sR s v0 1) ∧ inA v2 (sN s (sR s v0 1)) then
    if (40 ≤ sT s (sR s v0 1) ∧ inA (v2 - (nI 1)) (sN s (sR s v0 1))) ∧ ((sR s (sR s v0 1) v2.toNatClampNeg) = 0 ∨ sT s (sR s (sR s v0 1) v2.toNatClampNeg) + 39 = sT s (sR s v0 1)) then
    if sT s (sR (setR s (sR s v0 1) (v2 - (nI 1)).toNatClampNeg (sR s (sR s v0 1) v2.toNatClampNeg)) v0 0) = 20 ∧ inA v2 (sN s (sR (setR s (sR s v0 1) (v2 - (nI 1)).toNatClampNeg (sR s (sR s v0 1) v2.toNatClampNeg)) v0 0)) then
    if sT s (sR (setR s (sR s v0 1) (v2 - (nI 1)).toNatClampNeg (sR s (sR s v0 1) v2.toNatClampNeg)) v0 0) = 20 ∧ inA (v2 - (nI 1)) (sN s (sR (setR s (sR s v0 1) (v2 - (nI 1)).toNatClampNeg (sR s (sR s v0 1) v2.toNatClampNeg)) v0 0)) then
    k9 v0 v1 (v2 + nI 1) (setI (setR s (sR s v0 1) (v2 - (nI 1)).toNatClampNeg (sR s (sR s v0 1) v2.toNatClampNeg)) (sR (setR s (sR s v0 1) (v2 - (nI 1)).toNatClampNeg (sR s (sR s v0 1) v2.toNatClampNeg)) v0 0) (v2 - (nI 1)).toNatClampNeg (sI s (sR (setR s (sR s v0 1) (v2 - (nI 1)).toNatClampNeg (sR s (sR s v0 1) v2.toNatClampNeg)) v0 0) v2.toNatClampNeg))
    else none
    else none
    else none
    else none
    else none
  else
    if sT s v0 = 5 then
    if (40 ≤ sT s (sR s v0 1) ∧ inA (nI 15) (sN s (sR s v0 1))) ∧ (v1 = 0 ∨ sT s v1 + 39 = sT s (sR s v0 1)) then
    some (setI (setR s (sR s v0 1) (nI 15).toNatClampNeg v1) v0 2 (nI 15))
    else none
    else none
theorem t_Log_forgetOldest_9 {k9 : Nat → Nat → Int32 → AS → Option AS} (H9 : ∀ {v0 : Nat} {v1 : Nat} {v2 : Int32} {s : AS} {o : AS}, k9 v0 v1 v2 s = some o → Ev 0 mZ84 9 [.ref v0, .ref v1, .int v2] [] s (none, o))  {v0 : Nat} {v1 : Nat} {v2 : Int32} {s : AS} {o : AS} (h : b_Log_forgetOldest_9 k9 v0 v1 v2 s = some o) : Ev 0 mZ84 9 [.ref v0, .ref v1, .int v2] [] s (none, o) := by
  unfold b_Log_forgetOldest_9 at h
  refine Ev_blk 3 (pc' := if v2 < (nI 16) then 15 else 49) (ls' := [.ref v0, .ref v1, .int v2]) (st' := []) (s' := s) rfl trivial ?_
  refine ib h (fun c1 h => ?_) (fun c1 h => ?_)
  · refine gd h (fun g2 h => ?_)
    refine gd h (fun g3 h => ?_)
    refine gd h (fun g4 h => ?_)
    refine gd h (fun g5 h => ?_)
    refine gd h (fun g6 h => ?_)
    refine Ev_blk 22 (pc' := 9) (ls' := [.ref v0, .ref v1, .int (v2 + nI 1)]) (st' := []) (s' := setI (setR s (sR s v0 1) (v2 - (nI 1)).toNatClampNeg (sR s (sR s v0 1) v2.toNatClampNeg)) (sR (setR s (sR s v0 1) (v2 - (nI 1)).toNatClampNeg (sR s (sR s v0 1) v2.toNatClampNeg)) v0 0) (v2 - (nI 1)).toNatClampNeg (sI s (sR (setR s (sR s v0 1) (v2 - (nI 1)).toNatClampNeg (sR s (sR s v0 1) v2.toNatClampNeg)) v0 0) v2.toNatClampNeg)) rfl ⟨⟨⟨⟨⟨⟨⟨⟨trivial, g2⟩, g2⟩, g3⟩, g4⟩, g2⟩, g2⟩, ⟨Or.inl g5.1, g5.2⟩⟩, g6⟩ ?_
    exact H9 h
  · refine gd h (fun g7 h => ?_)
    refine gd h (fun g8 h => ?_)
    refine Ev_blk 8 (pc' := 63) (ls' := [.ref v0, .ref v1, .int v2]) (st' := []) (s' := setI (setR s (sR s v0 1) (nI 15).toNatClampNeg v1) v0 2 (nI 15)) rfl ⟨⟨⟨trivial, g7⟩, g8⟩, g7⟩ ?_
    cases h
    exact Ev_ret rfl trivial
def l_Log_forgetOldest_9  : Nat → Nat → Nat → Int32 → AS → Option AS
  | 0 => fun _ _ _ _ => none
  | n + 1 => b_Log_forgetOldest_9  (l_Log_forgetOldest_9  n)
theorem u_Log_forgetOldest_9   {n : Nat} : ∀  {v0 : Nat} {v1 : Nat} {v2 : Int32} {s : AS} {o : AS}, l_Log_forgetOldest_9  n v0 v1 v2 s = some o → Ev 0 mZ84 9 [.ref v0, .ref v1, .int v2] [] s (none, o) := by
  induction n with
  | zero => intros; rename_i h; cases h
  | succ n ih => intros; rename_i h; exact t_Log_forgetOldest_9  (fun h => ih h) h
/-- RecordHeap$Log.forgetOldest()V -/
def f_Log_forgetOldest (s : AS) (a0 : Nat) : Option AS :=
  if sT s a0 = 5 then
  if 40 ≤ sT s (sR s a0 1) ∧ inA (nI 0) (sN s (sR s a0 1)) then
  l_Log_forgetOldest_9 fuel a0 (sR s (sR s a0 1) (nI 0).toNatClampNeg) (nI 1) s
  else none
  else none
theorem t_Log_forgetOldest {s : AS} {a0 : Nat} {o : AS} (h : f_Log_forgetOldest s a0 = some o) : Ev 0 mZ84 0 [.ref a0, .retAddr 0, .retAddr 0] [] s (none, o) := by
  unfold f_Log_forgetOldest at h
  refine gd h (fun g1 h => ?_)
  refine gd h (fun g2 h => ?_)
  refine Ev_blk 7 (pc' := 9) (ls' := [.ref a0, .ref (sR s (sR s a0 1) (nI 0).toNatClampNeg), .int (nI 1)]) (st' := []) (s' := s) rfl ⟨⟨trivial, g1⟩, g2⟩ ?_
  exact u_Log_forgetOldest_9 h

