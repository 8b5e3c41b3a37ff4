def b_Calendar_keep_2 (k2 : Nat → Int32 → AS → Option AS) (v0 : Nat) (v1 : Int32) (s : AS) : Option AS :=
  if v1 < (nI 8) then
    if sT s v0 = 2 then
    if sT s (sR s v0 0) = 3 then
    if sT s (sR s (sR s v0 0) 2) = 7 then
    (f_Pages_freeOf s (sR s (sR s v0 0) 2) v1).bind fun r1 =>
    if sT s (sR s v0 2) = 20 ∧ inA v1 (sN s (sR s v0 2)) then
    if sT s (sR s (sR s (sR s v0 0) 2) 4) = 20 ∧ inA v1 (sN s (sR s (sR s (sR s v0 0) 2) 4)) then
    if sT s (sR s v0 3) = 20 ∧ inA v1 (sN s (sR s v0 3)) then
    (f_Pages_cellsOf (setI (setI s (sR s v0 2) v1.toNatClampNeg r1) (sR s v0 3) v1.toNatClampNeg (sI (setI s (sR s v0 2) v1.toNatClampNeg r1) (sR s (sR s (sR s v0 0) 2) 4) v1.toNatClampNeg)) (sR s (sR s v0 0) 2) v1).bind fun r2 =>
    if sT s (sR s v0 4) = 20 ∧ inA v1 (sN s (sR s v0 4)) then
    k2 v0 (v1 + nI 1) (setI (setI (setI s (sR s v0 2) v1.toNatClampNeg r1) (sR s v0 3) v1.toNatClampNeg (sI (setI s (sR s v0 2) v1.toNatClampNeg r1) (sR s (sR s (sR s v0 0) 2) 4) v1.toNatClampNeg)) (sR s v0 4) v1.toNatClampNeg r2)
    else none
    else none
    else none
    else none
    else none
    else none
    else none
  else
    if sT s v0 = 2 ∧ ((nI 1) = nI 0 ∨ (nI 1) = nI 1) then
    some (setI s v0 5 (nI 1))
    else none
theorem t_Calendar_keep_2 {k2 : Nat → Int32 → AS → Option AS} (H2 : ∀ {v0 : Nat} {v1 : Int32} {s : AS} {o : AS}, k2 v0 v1 s = some o → Ev 1 mZ128 2 [.ref v0, .int v1] [] s (none, o))  {v0 : Nat} {v1 : Int32} {s : AS} {o : AS} (h : b_Calendar_keep_2 k2 v0 v1 s = some o) : Ev 1 mZ128 2 [.ref v0, .int v1] [] s (none, o) := by
  unfold b_Calendar_keep_2 at h
  refine Ev_blk 3 (pc' := if v1 < (nI 8) then 8 else 66) (ls' := [.ref v0, .int v1]) (st' := []) (s' := s) rfl trivial ?_
  refine ib h (fun c1 h => ?_) (fun c1 h => ?_)
  · refine gd h (fun g2 h => ?_)
    refine gd h (fun g3 h => ?_)
    refine gd h (fun g4 h => ?_)
    refine Ev_blk 7 (pc' := 21) (ls' := [.ref v0, .int v1]) (st' := [.int v1, .ref (sR s (sR s v0 0) 2), .int v1, .ref (sR s v0 2)]) (s' := s) rfl ⟨⟨⟨trivial, g2⟩, g2⟩, g3⟩ ?_
    refine bd h (fun r1 hr1 h => ?_)
    refine Ev_call 2 47 1 [.ref (sR s (sR s v0 0) 2), .int v1] [.int v1, .ref (sR s v0 2)] rfl rfl rfl rfl g4 rfl rfl (Nat.le_of_ble_eq_true rfl) (t_Pages_freeOf hr1) ?_
    refine gd h (fun g5 h => ?_)
    refine gd h (fun g6 h => ?_)
    refine gd h (fun g7 h => ?_)
    refine Ev_blk 18 (pc' := 56) (ls' := [.ref v0, .int v1]) (st' := [.int v1, .ref (sR s (sR s v0 0) 2), .int v1, .ref (sR s v0 4)]) (s' := setI (setI s (sR s v0 2) v1.toNatClampNeg r1) (sR s v0 3) v1.toNatClampNeg (sI (setI s (sR s v0 2) v1.toNatClampNeg r1) (sR s (sR s (sR s v0 0) 2) 4) v1.toNatClampNeg)) rfl ⟨⟨⟨⟨⟨⟨⟨⟨⟨⟨trivial, g5⟩, g2⟩, g2⟩, g3⟩, g4⟩, ⟨Or.inl g6.1, g6.2⟩⟩, g7⟩, g2⟩, g2⟩, g3⟩ ?_
    refine bd h (fun r2 hr2 h => ?_)
    refine Ev_call 2 103 1 [.ref (sR s (sR s v0 0) 2), .int v1] [.int v1, .ref (sR s v0 4)] rfl rfl rfl rfl g4 rfl rfl (Nat.le_of_ble_eq_true rfl) (t_Pages_cellsOf hr2) ?_
    refine gd h (fun g8 h => ?_)
    refine Ev_blk 3 (pc' := 2) (ls' := [.ref v0, .int (v1 + nI 1)]) (st' := []) (s' := setI (setI (setI s (sR s v0 2) v1.toNatClampNeg r1) (sR s v0 3) v1.toNatClampNeg (sI (setI s (sR s v0 2) v1.toNatClampNeg r1) (sR s (sR s (sR s v0 0) 2) 4) v1.toNatClampNeg)) (sR s v0 4) v1.toNatClampNeg r2) rfl ⟨trivial, g8⟩ ?_
    exact H2 h
  · refine gd h (fun g9 h => ?_)
    refine Ev_blk 3 (pc' := 71) (ls' := [.ref v0, .int v1]) (st' := []) (s' := setI s v0 5 (nI 1)) rfl ⟨trivial, g9⟩ ?_
    cases h
    exact Ev_ret rfl trivial
def l_Calendar_keep_2  : Nat → Nat → Int32 → AS → Option AS
  | 0 => fun _ _ _ => none
  | n + 1 => b_Calendar_keep_2  (l_Calendar_keep_2  n)
theorem u_Calendar_keep_2   {n : Nat} : ∀  {v0 : Nat} {v1 : Int32} {s : AS} {o : AS}, l_Calendar_keep_2  n v0 v1 s = some o → Ev 1 mZ128 2 [.ref v0, .int v1] [] s (none, o) := by
  induction n with
  | zero => intros; rename_i h; cases h
  | succ n ih => intros; rename_i h; exact t_Calendar_keep_2  (fun h => ih h) h
/-- RecordHeap$Calendar.keep()V -/
def f_Calendar_keep (s : AS) (a0 : Nat) : Option AS :=
  l_Calendar_keep_2 fuel a0 (nI 0) s
theorem t_Calendar_keep {s : AS} {a0 : Nat} {o : AS} (h : f_Calendar_keep s a0 = some o) : Ev 1 mZ128 0 [.ref a0, .retAddr 0] [] s (none, o) := by
  unfold f_Calendar_keep at h
  refine Ev_blk 2 (pc' := 2) (ls' := [.ref a0, .int (nI 0)]) (st' := []) (s' := s) rfl trivial ?_
  exact u_Calendar_keep_2 h

def b_C_days_22  (v0 : Nat) (s : AS) : Option (Int32 × AS) :=
  if sT s v0 = 1 then
  (f_C_refuse s v0 (-(nI 1))).bind fun r1 =>
  some (r1.1, r1.2)
  else none
theorem t_C_days_22   {d1 d2 d3 : Value} {v0 : Nat} {s : AS} {o : Int32 × AS} (h : b_C_days_22  v0 s = some o) : Ev 7 mZ124 22 [.ref v0, d1, d2, d3] [] s (some (.int o.1), o.2) := by
  unfold b_C_days_22 at h
  refine gd h (fun g1 h => ?_)
  refine Ev_blk 2 (pc' := 24) (ls' := [.ref v0, d1, d2, d3]) (st' := [.int (-(nI 1)), .ref v0]) (s' := s) rfl trivial ?_
  refine bd h (fun r1 hr1 h => ?_)
  refine Ev_call 2 13 1 [.ref v0, .int (-(nI 1))] [] rfl rfl rfl rfl g1 rfl rfl (Nat.le_of_ble_eq_true rfl) (t_C_refuse hr1) ?_
  cases h
  exact Ev_ret rfl trivial
def b_C_days_55 (k55 : Nat → Int32 → Int32 → AS → Option (Int32 × AS)) (v0 : Nat) (v2 : Int32) (v3 : Int32) (s : AS) : Option (Int32 × AS) :=
  if v3 < v2 then
    if sT s v0 = 1 then
    if sT s (sR s v0 10) = 2 then
    (f_Calendar_passDay s (sR s v0 10)).bind fun r1 =>
    k55 v0 v2 (v3 + nI 1) r1
    else none
    else none
  else
    if sT s v0 = 1 then
    if sT s (sR s v0 10) = 2 then
    (f_Calendar_keep s (sR s v0 10)).bind fun r2 =>
    if sT r2 v0 = 1 then
    if sT r2 (sR r2 v0 7) = 3 then
    if sT r2 (sR r2 (sR r2 v0 7) 2) = 7 then
    (f_Pages_recordCount r2 (sR r2 (sR r2 v0 7) 2)).bind fun r3 =>
    (f_C_told r2 v0 r3).bind fun r4 =>
    some (r4.1, r4.2)
    else none
    else none
    else none
    else none
    else none
theorem t_C_days_55 {k55 : Nat → Int32 → Int32 → AS → Option (Int32 × AS)} (H55 : ∀ {d1 : Value} {v0 : Nat} {v2 : Int32} {v3 : Int32} {s : AS} {o : Int32 × AS}, k55 v0 v2 v3 s = some o → Ev 7 mZ124 55 [.ref v0, d1, .int v2, .int v3] [] s (some (.int o.1), o.2)) {d1 : Value} {v0 : Nat} {v2 : Int32} {v3 : Int32} {s : AS} {o : Int32 × AS} (h : b_C_days_55 k55 v0 v2 v3 s = some o) : Ev 7 mZ124 55 [.ref v0, d1, .int v2, .int v3] [] s (some (.int o.1), o.2) := by
  unfold b_C_days_55 at h
  refine Ev_blk 3 (pc' := if v3 < v2 then 60 else 73) (ls' := [.ref v0, d1, .int v2, .int v3]) (st' := []) (s' := s) rfl trivial ?_
  refine ib h (fun c1 h => ?_) (fun c1 h => ?_)
  · refine gd h (fun g2 h => ?_)
    refine gd h (fun g3 h => ?_)
    refine Ev_blk 2 (pc' := 64) (ls' := [.ref v0, d1, .int v2, .int v3]) (st' := [.ref (sR s v0 10)]) (s' := s) rfl ⟨trivial, g2⟩ ?_
    refine bd h (fun r1 hr1 h => ?_)
    refine Ev_call 2 126 0 [.ref (sR s v0 10)] [] rfl rfl rfl rfl g3 rfl rfl (Nat.le_of_ble_eq_true rfl) (t_Calendar_passDay hr1) ?_
    refine Ev_blk 2 (pc' := 55) (ls' := [.ref v0, d1, .int v2, .int (v3 + nI 1)]) (st' := []) (s' := r1) rfl trivial ?_
    exact H55 h
  · refine gd h (fun g4 h => ?_)
    refine gd h (fun g5 h => ?_)
    refine Ev_blk 2 (pc' := 77) (ls' := [.ref v0, d1, .int v2, .int v3]) (st' := [.ref (sR s v0 10)]) (s' := s) rfl ⟨trivial, g4⟩ ?_
    refine bd h (fun r2 hr2 h => ?_)
    refine Ev_call 2 128 0 [.ref (sR s v0 10)] [] rfl rfl rfl rfl g5 rfl rfl (Nat.le_of_ble_eq_true rfl) (t_Calendar_keep hr2) ?_
    refine gd h (fun g6 h => ?_)
    refine gd h (fun g7 h => ?_)
    refine gd h (fun g8 h => ?_)
    refine Ev_blk 4 (pc' := 88) (ls' := [.ref v0, d1, .int v2, .int v3]) (st' := [.ref (sR r2 (sR r2 v0 7) 2), .ref v0]) (s' := r2) rfl ⟨⟨trivial, g6⟩, g7⟩ ?_
    refine bd h (fun r3 hr3 h => ?_)
    refine Ev_call 2 45 0 [.ref (sR r2 (sR r2 v0 7) 2)] [.ref v0] rfl rfl rfl rfl g8 rfl rfl (Nat.le_of_ble_eq_true rfl) (t_Pages_recordCount hr3) ?_
    refine bd h (fun r4 hr4 h => ?_)
    refine Ev_call 2 14 1 [.ref v0, .int r3] [] rfl rfl rfl rfl g6 rfl rfl (Nat.le_of_ble_eq_true rfl) (t_C_told hr4) ?_
    cases h
    exact Ev_ret rfl trivial
def l_C_days_55  : Nat → Nat → Int32 → Int32 → AS → Option (Int32 × AS)
  | 0 => fun _ _ _ _ => none
  | n + 1 => b_C_days_55  (l_C_days_55  n)
theorem u_C_days_55   {n : Nat} : ∀ {d1 : Value} {v0 : Nat} {v2 : Int32} {v3 : Int32} {s : AS} {o : Int32 × AS}, l_C_days_55  n v0 v2 v3 s = some o → Ev 7 mZ124 55 [.ref v0, d1, .int v2, .int v3] [] s (some (.int o.1), o.2) := by
  induction n with
  | zero => intros; rename_i h; cases h
  | succ n ih => intros; rename_i h; exact t_C_days_55  (fun h => ih h) h
/-- RecordHeap.days(II)I -/
def f_C_days (s : AS) (a0 : Nat) (a1 : Int32) (a2 : Int32) : Option (Int32 × AS) :=
  if a1 < (nI 0) then
    b_C_days_22 a0 s
  else
    if (nI 1000000) < a1 then
      b_C_days_22 a0 s
    else
      if a2 < (nI 1) then
        b_C_days_22 a0 s
      else
        if (nI 60) < a2 then
          b_C_days_22 a0 s
        else
          if sT s a0 = 1 then
          if sT s (sR s a0 7) = 3 then
          if sT s (sR s a0 6) = 3 then
          if sT s (sR s (sR s a0 7) 2) = 7 then
          (f_Pages_takeFrom s (sR s (sR s a0 7) 2) (sR s (sR s a0 6) 2)).bind fun r1 =>
          if sT r1 a0 = 1 then
          if sT r1 (sR r1 a0 10) = 2 then
          (f_Calendar_begin r1 (sR r1 a0 10) a1).bind fun r2 =>
          l_C_days_55 fuel a0 a2 (nI 0) r2
          else none
          else none
          else none
          else none
          else none
          else none
theorem t_C_days {s : AS} {a0 : Nat} {a1 : Int32} {a2 : Int32} {o : Int32 × AS} (h : f_C_days s a0 a1 a2 = some o) : Ev 7 mZ124 0 [.ref a0, .int a1, .int a2, .retAddr 0] [] s (some (.int o.1), o.2) := by
  unfold f_C_days at h
  refine Ev_blk 2 (pc' := if a1 < (nI 0) then 22 else 4) (ls' := [.ref a0, .int a1, .int a2, .retAddr 0]) (st' := []) (s' := s) rfl trivial ?_
  refine ib h (fun c1 h => ?_) (fun c1 h => ?_)
  · exact t_C_days_22 h
  · refine Ev_blk 3 (pc' := if (nI 1000000) < a1 then 22 else 11) (ls' := [.ref a0, .int a1, .int a2, .retAddr 0]) (st' := []) (s' := s) rfl trivial ?_
    refine ib h (fun c2 h => ?_) (fun c2 h => ?_)
    · exact t_C_days_22 h
    · refine Ev_blk 3 (pc' := if a2 < (nI 1) then 22 else 16) (ls' := [.ref a0, .int a1, .int a2, .retAddr 0]) (st' := []) (s' := s) rfl trivial ?_
      refine ib h (fun c3 h => ?_) (fun c3 h => ?_)
      · exact t_C_days_22 h
      · refine Ev_blk 3 (pc' := if (nI 60) < a2 then 22 else 28) (ls' := [.ref a0, .int a1, .int a2, .retAddr 0]) (st' := []) (s' := s) rfl trivial ?_
        refine ib h (fun c4 h => ?_) (fun c4 h => ?_)
        · exact t_C_days_22 h
        · refine gd h (fun g5 h => ?_)
          refine gd h (fun g6 h => ?_)
          refine gd h (fun g7 h => ?_)
          refine gd h (fun g8 h => ?_)
          refine Ev_blk 6 (pc' := 42) (ls' := [.ref a0, .int a1, .int a2, .retAddr 0]) (st' := [.ref (sR s (sR s a0 6) 2), .ref (sR s (sR s a0 7) 2)]) (s' := s) rfl ⟨⟨⟨⟨trivial, g5⟩, g6⟩, g5⟩, g7⟩ ?_
          refine bd h (fun r1 hr1 h => ?_)
          refine Ev_call 2 42 1 [.ref (sR s (sR s a0 7) 2), .ref (sR s (sR s a0 6) 2)] [] rfl rfl rfl rfl g8 rfl rfl (Nat.le_of_ble_eq_true rfl) (t_Pages_takeFrom hr1) ?_
          refine gd h (fun g9 h => ?_)
          refine gd h (fun g10 h => ?_)
          refine Ev_blk 3 (pc' := 50) (ls' := [.ref a0, .int a1, .int a2, .retAddr 0]) (st' := [.int a1, .ref (sR r1 a0 10)]) (s' := r1) rfl ⟨trivial, g9⟩ ?_
          refine bd h (fun r2 hr2 h => ?_)
          refine Ev_call 2 125 1 [.ref (sR r1 a0 10), .int a1] [] rfl rfl rfl rfl g10 rfl rfl (Nat.le_of_ble_eq_true rfl) (t_Calendar_begin hr2) ?_
          refine Ev_blk 2 (pc' := 55) (ls' := [.ref a0, .int a1, .int a2, .int (nI 0)]) (st' := []) (s' := r2) rfl trivial ?_
          exact u_C_days_55 h

/-- RecordHeap$Calendar.drawnOf(II)I -/
def f_Calendar_drawnOf (s : AS) (a0 : Nat) (a1 : Int32) (a2 : Int32) : Option Int32 :=
  if sT s a0 = 2 then
  if (sI s a0 5) = (nI 0) then
    some (-(nI 1))
  else
    if a2 = nI 0 then
      if sT s (sR s a0 2) = 20 ∧ inA a1 (sN s (sR s a0 2)) then
      some (sI s (sR s a0 2) a1.toNatClampNeg)
      else none
    else
    if a2 = nI 1 then
      if sT s (sR s a0 3) = 20 ∧ inA a1 (sN s (sR s a0 3)) then
      some (sI s (sR s a0 3) a1.toNatClampNeg)
      else none
    else
    if a2 = nI 2 then
      if sT s (sR s a0 4) = 20 ∧ inA a1 (sN s (sR s a0 4)) then
      some (sI s (sR s a0 4) a1.toNatClampNeg)
      else none
    else
    some (-(nI 1))
  else none
theorem t_Calendar_drawnOf {s : AS} {a0 : Nat} {a1 : Int32} {a2 : Int32} {o : Int32} (h : f_Calendar_drawnOf s a0 a1 a2 = some o) : Ev 0 mZ130 0 [.ref a0, .int a1, .int a2] [] s (some (.int o), s) := by
  unfold f_Calendar_drawnOf at h
  refine gd h (fun g1 h => ?_)
  refine Ev_blk 3 (pc' := if (sI s a0 5) = (nI 0) then 7 else 9) (ls' := [.ref a0, .int a1, .int a2]) (st' := []) (s' := s) rfl ⟨trivial, g1⟩ ?_
  refine ib h (fun c2 h => ?_) (fun c2 h => ?_)
  · refine Ev_blk 1 (pc' := 8) (ls' := [.ref a0, .int a1, .int a2]) (st' := [.int (-(nI 1))]) (s' := s) rfl trivial ?_
    cases h
    exact Ev_ret rfl trivial
  · refine Ev_blk 2 (pc' := if a2 = nI 0 then 36 else if a2 = nI 1 then 43 else if a2 = nI 2 then 50 else 57) (ls' := [.ref a0, .int a1, .int a2]) (st' := []) (s' := s) rfl trivial ?_
    refine ib h (fun c3 h => ?_) (fun c3 h => ?_)
    · refine gd h (fun g4 h => ?_)
      refine Ev_blk 4 (pc' := 42) (ls' := [.ref a0, .int a1, .int a2]) (st' := [.int (sI s (sR s a0 2) a1.toNatClampNeg)]) (s' := s) rfl ⟨⟨trivial, g1⟩, ⟨Or.inl g4.1, g4.2⟩⟩ ?_
      cases h
      exact Ev_ret rfl trivial
    refine ib h (fun c5 h => ?_) (fun c5 h => ?_)
    · refine gd h (fun g6 h => ?_)
      refine Ev_blk 4 (pc' := 49) (ls' := [.ref a0, .int a1, .int a2]) (st' := [.int (sI s (sR s a0 3) a1.toNatClampNeg)]) (s' := s) rfl ⟨⟨trivial, g1⟩, ⟨Or.inl g6.1, g6.2⟩⟩ ?_
      cases h
      exact Ev_ret rfl trivial
    refine ib h (fun c7 h => ?_) (fun c7 h => ?_)
    · refine gd h (fun g8 h => ?_)
      refine Ev_blk 4 (pc' := 56) (ls' := [.ref a0, .int a1, .int a2]) (st' := [.int (sI s (sR s a0 4) a1.toNatClampNeg)]) (s' := s) rfl ⟨⟨trivial, g1⟩, ⟨Or.inl g8.1, g8.2⟩⟩ ?_
      cases h
      exact Ev_ret rfl trivial
    refine Ev_blk 1 (pc' := 58) (ls' := [.ref a0, .int a1, .int a2]) (st' := [.int (-(nI 1))]) (s' := s) rfl trivial ?_
    cases h
    exact Ev_ret rfl trivial

/-- RecordHeap.drawn(II)I -/
def f_C_drawn (s : AS) (a0 : Nat) (a1 : Int32) (a2 : Int32) : Option Int32 :=
  (f_C_isPage s a1).bind fun r1 =>
  if r1 = (nI 0) then
    some (-(nI 1))
  else
    if sT s a0 = 1 then
    if sT s (sR s a0 10) = 2 then
    (f_Calendar_drawnOf s (sR s a0 10) a1 a2).bind fun r2 =>
    some r2
    else none
    else none
theorem t_C_drawn {s : AS} {a0 : Nat} {a1 : Int32} {a2 : Int32} {o : Int32} (h : f_C_drawn s a0 a1 a2 = some o) : Ev 1 mZ129 0 [.ref a0, .int a1, .int a2] [] s (some (.int o), s) := by
  unfold f_C_drawn at h
  refine Ev_blk 1 (pc' := 1) (ls' := [.ref a0, .int a1, .int a2]) (st' := [.int a1]) (s' := s) rfl trivial ?_
  refine bd h (fun r1 hr1 h => ?_)
  refine Ev_call 1 53 1 [.int a1] [] rfl rfl rfl rfl trivial rfl rfl (Nat.le_of_ble_eq_true rfl) (t_C_isPage hr1) ?_
  refine Ev_blk 1 (pc' := if r1 = (nI 0) then 19 else 7) (ls' := [.ref a0, .int a1, .int a2]) (st' := []) (s' := s) rfl trivial ?_
  refine ib h (fun c1 h => ?_) (fun c1 h => ?_)
  · refine Ev_blk 1 (pc' := 20) (ls' := [.ref a0, .int a1, .int a2]) (st' := [.int (-(nI 1))]) (s' := s) rfl trivial ?_
    cases h
    exact Ev_ret rfl trivial
  · refine gd h (fun g2 h => ?_)
    refine gd h (fun g3 h => ?_)
    refine Ev_blk 4 (pc' := 13) (ls' := [.ref a0, .int a1, .int a2]) (st' := [.int a2, .int a1, .ref (sR s a0 10)]) (s' := s) rfl ⟨trivial, g2⟩ ?_
    refine bd h (fun r2 hr2 h => ?_)
    refine Ev_call 2 130 2 [.ref (sR s a0 10), .int a1, .int a2] [] rfl rfl rfl rfl g3 rfl rfl (Nat.le_of_ble_eq_true rfl) (t_Calendar_drawnOf hr2) ?_
    refine Ev_blk 1 (pc' := 20) (ls' := [.ref a0, .int a1, .int a2]) (st' := [.int r2]) (s' := s) rfl trivial ?_
    cases h
    exact Ev_ret rfl trivial

/-- RecordHeap$Image.<init>()V -/
def f_Image_init (s : AS) (a0 : Nat) : Option AS :=
  if ¬ a0 = 0 then
  (nwO s 7 6).bind fun r1 =>
  if ¬ r1.1 = 0 then
  (f_Pages_init r1.2 r1.1).bind fun r2 =>
  if sT r2 a0 = 4 then
  (nwO (setR r2 a0 0 r1.1) 11 4).bind fun r3 =>
  if ¬ r3.1 = 0 then
  (f_Setting_init r3.2 r3.1).bind fun r4 =>
  if sT r4 a0 = 4 then
  some (setR r4 a0 1 r3.1)
  else none
  else none
  else none
  else none
  else none
theorem t_Image_init {s : AS} {a0 : Nat} {o : AS} (h : f_Image_init s a0 = some o) : Ev 2 mZ132 0 [.ref a0] [] s (none, o) := by
  unfold f_Image_init at h
  refine gd h (fun g1 h => ?_)
  refine bd h (fun r1 hr1 h => ?_)
  obtain ⟨gr1, er1, fr1⟩ := nwO_inv hr1
  refine Ev_blk 4 (pc' := 8) (ls' := [.ref a0]) (st' := [.ref (sX s), .ref a0]) (s' := newA s 7 6) rfl ⟨⟨trivial, g1⟩, gr1⟩ ?_
  rw [← fr1, ← er1]
  refine gd h (fun g2 h => ?_)
  refine Ev_blk 1 (pc' := 9) (ls' := [.ref a0]) (st' := [.ref r1.1, .ref r1.1, .ref a0]) (s' := r1.2) rfl trivial ?_
  refine bd h (fun r2 hr2 h => ?_)
  refine Ev_call 3 7 0 [.ref r1.1] [.ref r1.1, .ref a0] rfl rfl rfl rfl g2 rfl rfl (Nat.le_of_ble_eq_true rfl) (t_Pages_init hr2) ?_
  refine gd h (fun g3 h => ?_)
  refine bd h (fun r3 hr3 h => ?_)
  obtain ⟨gr3, er3, fr3⟩ := nwO_inv hr3
  refine Ev_blk 3 (pc' := 19) (ls' := [.ref a0]) (st' := [.ref (sX (setR r2 a0 0 r1.1)), .ref a0]) (s' := newA (setR r2 a0 0 r1.1) 11 4) rfl ⟨⟨trivial, g3⟩, gr3⟩ ?_
  rw [← fr3, ← er3]
  refine gd h (fun g4 h => ?_)
  refine Ev_blk 1 (pc' := 20) (ls' := [.ref a0]) (st' := [.ref r3.1, .ref r3.1, .ref a0]) (s' := r3.2) rfl trivial ?_
  refine bd h (fun r4 hr4 h => ?_)
  refine Ev_call 3 5 0 [.ref r3.1] [.ref r3.1, .ref a0] rfl rfl rfl rfl g4 rfl rfl (Nat.le_of_ble_eq_true rfl) (t_Setting_init hr4) ?_
  refine gd h (fun g5 h => ?_)
  refine Ev_blk 1 (pc' := 26) (ls' := [.ref a0]) (st' := []) (s' := setR r4 a0 1 r3.1) rfl ⟨trivial, g5⟩ ?_
  cases h
  exact Ev_ret rfl trivial

def b_Setting_takeFrom_16 (k16 : Nat → Nat → Int32 → AS → Option AS) (v0 : Nat) (v1 : Nat) (v2 : Int32) (s : AS) : Option AS :=
  if v2 < (nI 6) then
    if sT s v0 = 11 then
    if sT s v1 = 11 then
    if 40 ≤ sT s (sR s v1 1) ∧ inA v2 (sN s (sR s v1 1)) then
    if (40 ≤ sT s (sR s v0 1) ∧ inA v2 (sN s (sR s v0 1))) ∧ ((sR s (sR s v1 1) v2.toNatClampNeg) = 0 ∨ sT s (sR s (sR s v1 1) v2.toNatClampNeg) + 39 = sT s (sR s v0 1)) then
    k16 v0 v1 (v2 + nI 1) (setR s (sR s v0 1) v2.toNatClampNeg (sR s (sR s v1 1) v2.toNatClampNeg))
    else none
    else none
    else none
    else none
  else
    if sT s v1 = 11 then
    if sT s v0 = 11 then
    some (setI (setI s v0 2 (sI s v1 2)) v0 3 (sI (setI s v0 2 (sI s v1 2)) v1 3))
    else none
    else none
theorem t_Setting_takeFrom_16 {k16 : Nat → Nat → Int32 → AS → Option AS} (H16 : ∀ {v0 : Nat} {v1 : Nat} {v2 : Int32} {s : AS} {o : AS}, k16 v0 v1 v2 s = some o → Ev 0 mZ133 16 [.ref v0, .ref v1, .int v2] [] s (none, o))  {v0 : Nat} {v1 : Nat} {v2 : Int32} {s : AS} {o : AS} (h : b_Setting_takeFrom_16 k16 v0 v1 v2 s = some o) : Ev 0 mZ133 16 [.ref v0, .ref v1, .int v2] [] s (none, o) := by
  unfold b_Setting_takeFrom_16 at h
  refine Ev_blk 3 (pc' := if v2 < (nI 6) then 22 else 40) (ls' := [.ref v0, .ref v1, .int v2]) (st' := []) (s' := s) rfl trivial ?_
  refine ib h (fun c1 h => ?_) (fun c1 h => ?_)
  · refine gd h (fun g2 h => ?_)
    refine gd h (fun g3 h => ?_)
    refine gd h (fun g4 h => ?_)
    refine gd h (fun g5 h => ?_)
    refine Ev_blk 10 (pc' := 16) (ls' := [.ref v0, .ref v1, .int (v2 + nI 1)]) (st' := []) (s' := setR s (sR s v0 1) v2.toNatClampNeg (sR s (sR s v1 1) v2.toNatClampNeg)) rfl ⟨⟨⟨⟨trivial, g2⟩, g3⟩, g4⟩, g5⟩ ?_
    exact H16 h
  · refine gd h (fun g6 h => ?_)
    refine gd h (fun g7 h => ?_)
    refine Ev_blk 8 (pc' := 56) (ls' := [.ref v0, .ref v1, .int v2]) (st' := []) (s' := setI (setI s v0 2 (sI s v1 2)) v0 3 (sI (setI s v0 2 (sI s v1 2)) v1 3)) rfl ⟨⟨⟨⟨trivial, g6⟩, g7⟩, g6⟩, g7⟩ ?_
    cases h
    exact Ev_ret rfl trivial
def l_Setting_takeFrom_16  : Nat → Nat → Nat → Int32 → AS → Option AS
  | 0 => fun _ _ _ _ => none
  | n + 1 => b_Setting_takeFrom_16  (l_Setting_takeFrom_16  n)
theorem u_Setting_takeFrom_16   {n : Nat} : ∀  {v0 : Nat} {v1 : Nat} {v2 : Int32} {s : AS} {o : AS}, l_Setting_takeFrom_16  n v0 v1 v2 s = some o → Ev 0 mZ133 16 [.ref v0, .ref v1, .int v2] [] s (none, o) := by
  induction n with
  | zero => intros; rename_i h; cases h
  | succ n ih => intros; rename_i h; exact t_Setting_takeFrom_16  (fun h => ih h) h
/-- RecordHeap$Setting.takeFrom(LRecordHeap$Setting;)V -/
def f_Setting_takeFrom (s : AS) (a0 : Nat) (a1 : Nat) : Option AS :=
  if sT s a1 = 11 then
  if sT s a0 = 11 then
  (cpA s (sR s a1 0) (nI 0) (sR s a0 0) (nI 0) (nI 3)).bind fun r1 =>
  l_Setting_takeFrom_16 fuel a0 a1 (nI 0) r1
  else none
  else none
theorem t_Setting_takeFrom {s : AS} {a0 : Nat} {a1 : Nat} {o : AS} (h : f_Setting_takeFrom s a0 a1 = some o) : Ev 0 mZ133 0 [.ref a0, .ref a1, .retAddr 0] [] s (none, o) := by
  unfold f_Setting_takeFrom at h
  refine gd h (fun g1 h => ?_)
  refine gd h (fun g2 h => ?_)
  refine bd h (fun r1 hr1 h => ?_)
  obtain ⟨gr1, er1⟩ := cpA_inv hr1
  refine Ev_blk 8 (pc' := 14) (ls' := [.ref a0, .ref a1, .retAddr 0]) (st' := []) (s' := rowI s (sR s a0 0) (va_cpy (sI s (sR s a1 0)) (sI s (sR s a0 0)) (nI 0).toNatClampNeg (nI 0).toNatClampNeg (nI 3).toNatClampNeg)) rfl ⟨⟨⟨trivial, g1⟩, g2⟩, gr1⟩ ?_
  rw [← er1]
  refine Ev_blk 2 (pc' := 16) (ls' := [.ref a0, .ref a1, .int (nI 0)]) (st' := []) (s' := r1) rfl trivial ?_
  exact u_Setting_takeFrom_16 h

def b_C_image_9  (v0 : Nat) (s : AS) : Option (Int32 × AS) :=
  if sT s v0 = 1 then
  (f_C_refuse s v0 (-(nI 1))).bind fun r1 =>
  some (r1.1, r1.2)
  else none
theorem t_C_image_9   {d1 : Value} {v0 : Nat} {s : AS} {o : Int32 × AS} (h : b_C_image_9  v0 s = some o) : Ev 3 mZ131 9 [.ref v0, d1] [] s (some (.int o.1), o.2) := by
  unfold b_C_image_9 at h
  refine gd h (fun g1 h => ?_)
  refine Ev_blk 2 (pc' := 11) (ls' := [.ref v0, d1]) (st' := [.int (-(nI 1)), .ref v0]) (s' := s) rfl trivial ?_
  refine bd h (fun r1 hr1 h => ?_)
  refine Ev_call 2 13 1 [.ref v0, .int (-(nI 1))] [] rfl rfl rfl rfl g1 rfl rfl (Nat.le_of_ble_eq_true rfl) (t_C_refuse hr1) ?_
  cases h
  exact Ev_ret rfl trivial
def b_C_image_37  (v0 : Nat) (v1 : Int32) (s : AS) : Option (Int32 × AS) :=
  if sT s v0 = 1 then
  if 40 ≤ sT s (sR s v0 11) ∧ inA v1 (sN s (sR s v0 11)) then
  if sT s (sR s (sR s v0 11) v1.toNatClampNeg) = 4 then
  if sT s (sR s v0 6) = 3 then
  if sT s (sR s (sR s (sR s v0 11) v1.toNatClampNeg) 0) = 7 then
  (f_Pages_takeFrom s (sR s (sR s (sR s v0 11) v1.toNatClampNeg) 0) (sR s (sR s v0 6) 2)).bind fun r1 =>
  if sT r1 v0 = 1 then
  if 40 ≤ sT r1 (sR r1 v0 11) ∧ inA v1 (sN r1 (sR r1 v0 11)) then
  if sT r1 (sR r1 (sR r1 v0 11) v1.toNatClampNeg) = 4 then
  if sT r1 (sR r1 (sR r1 (sR r1 v0 11) v1.toNatClampNeg) 1) = 11 then
  (f_Setting_takeFrom r1 (sR r1 (sR r1 (sR r1 v0 11) v1.toNatClampNeg) 1) (sR r1 v0 5)).bind fun r2 =>
  if sT r2 v0 = 1 then
  (f_C_told r2 v0 (nI 0)).bind fun r3 =>
  some (r3.1, r3.2)
  else none
  else none
  else none
  else none
  else none
  else none
  else none
  else none
  else none
  else none
theorem t_C_image_37    {v0 : Nat} {v1 : Int32} {s : AS} {o : Int32 × AS} (h : b_C_image_37  v0 v1 s = some o) : Ev 3 mZ131 37 [.ref v0, .int v1] [] s (some (.int o.1), o.2) := by
  unfold b_C_image_37 at h
  refine gd h (fun g1 h => ?_)
  refine gd h (fun g2 h => ?_)
  refine gd h (fun g3 h => ?_)
  refine gd h (fun g4 h => ?_)
  refine gd h (fun g5 h => ?_)
  refine Ev_blk 8 (pc' := 53) (ls' := [.ref v0, .int v1]) (st' := [.ref (sR s (sR s v0 6) 2), .ref (sR s (sR s (sR s v0 11) v1.toNatClampNeg) 0)]) (s' := s) rfl ⟨⟨⟨⟨⟨trivial, g1⟩, g2⟩, g3⟩, g1⟩, g4⟩ ?_
  refine bd h (fun r1 hr1 h => ?_)
  refine Ev_call 2 42 1 [.ref (sR s (sR s (sR s v0 11) v1.toNatClampNeg) 0), .ref (sR s (sR s v0 6) 2)] [] rfl rfl rfl rfl g5 rfl rfl (Nat.le_of_ble_eq_true rfl) (t_Pages_takeFrom hr1) ?_
  refine gd h (fun g6 h => ?_)
  refine gd h (fun g7 h => ?_)
  refine gd h (fun g8 h => ?_)
  refine gd h (fun g9 h => ?_)
  refine Ev_blk 7 (pc' := 69) (ls' := [.ref v0, .int v1]) (st' := [.ref (sR r1 v0 5), .ref (sR r1 (sR r1 (sR r1 v0 11) v1.toNatClampNeg) 1)]) (s' := r1) rfl ⟨⟨⟨⟨trivial, g6⟩, g7⟩, g8⟩, g6⟩ ?_
  refine bd h (fun r2 hr2 h => ?_)
  refine Ev_call 2 133 1 [.ref (sR r1 (sR r1 (sR r1 v0 11) v1.toNatClampNeg) 1), .ref (sR r1 v0 5)] [] rfl rfl rfl rfl g9 rfl rfl (Nat.le_of_ble_eq_true rfl) (t_Setting_takeFrom hr2) ?_
  refine gd h (fun g10 h => ?_)
  refine Ev_blk 2 (pc' := 74) (ls' := [.ref v0, .int v1]) (st' := [.int (nI 0), .ref v0]) (s' := r2) rfl trivial ?_
  refine bd h (fun r3 hr3 h => ?_)
  refine Ev_call 2 14 1 [.ref v0, .int (nI 0)] [] rfl rfl rfl rfl g10 rfl rfl (Nat.le_of_ble_eq_true rfl) (t_C_told hr3) ?_
  cases h
  exact Ev_ret rfl trivial
/-- RecordHeap.image(I)I -/
def f_C_image (s : AS) (a0 : Nat) (a1 : Int32) : Option (Int32 × AS) :=
  if a1 < (nI 0) then
    b_C_image_9 a0 s
  else
    if a1 < (nI 2) then
      if sT s a0 = 1 then
      if 40 ≤ sT s (sR s a0 11) ∧ inA a1 (sN s (sR s a0 11)) then
      if (sR s (sR s a0 11) a1.toNatClampNeg) = 0 then
        (nwO s 4 2).bind fun r1 =>
        if ¬ r1.1 = 0 then
        (f_Image_init r1.2 r1.1).bind fun r2 =>
        if (40 ≤ sT r2 (sR s a0 11) ∧ inA a1 (sN r2 (sR s a0 11))) ∧ (r1.1 = 0 ∨ sT r2 r1.1 + 39 = sT r2 (sR s a0 11)) then
        b_C_image_37 a0 a1 (setR r2 (sR s a0 11) a1.toNatClampNeg r1.1)
        else none
        else none
      else
        b_C_image_37 a0 a1 s
      else none
      else none
    else
      b_C_image_9 a0 s
theorem t_C_image {s : AS} {a0 : Nat} {a1 : Int32} {o : Int32 × AS} (h : f_C_image s a0 a1 = some o) : Ev 3 mZ131 0 [.ref a0, .int a1] [] s (some (.int o.1), o.2) := by
  unfold f_C_image at h
  refine Ev_blk 2 (pc' := if a1 < (nI 0) then 9 else 4) (ls' := [.ref a0, .int a1]) (st' := []) (s' := s) rfl trivial ?_
  refine ib h (fun c1 h => ?_) (fun c1 h => ?_)
  · exact t_C_image_9 h
  · refine Ev_blk 3 (pc' := if a1 < (nI 2) then 15 else 9) (ls' := [.ref a0, .int a1]) (st' := []) (s' := s) rfl trivial ?_
    refine ib h (fun c2 h => ?_) (fun c2 h => ?_)
    · refine gd h (fun g3 h => ?_)
      refine gd h (fun g4 h => ?_)
      refine Ev_blk 5 (pc' := if (sR s (sR s a0 11) a1.toNatClampNeg) = 0 then 24 else 37) (ls' := [.ref a0, .int a1]) (st' := []) (s' := s) rfl ⟨⟨trivial, g3⟩, g4⟩ ?_
      refine ib h (fun c5 h => ?_) (fun c5 h => ?_)
      · refine bd h (fun r1 hr1 h => ?_)
        obtain ⟨gr1, er1, fr1⟩ := nwO_inv hr1
        refine Ev_blk 4 (pc' := 32) (ls' := [.ref a0, .int a1]) (st' := [.ref (sX s), .int a1, .ref (sR s a0 11)]) (s' := newA s 4 2) rfl ⟨⟨trivial, g3⟩, gr1⟩ ?_
        rw [← fr1, ← er1]
        refine gd h (fun g6 h => ?_)
        refine Ev_blk 1 (pc' := 33) (ls' := [.ref a0, .int a1]) (st' := [.ref r1.1, .ref r1.1, .int a1, .ref (sR s a0 11)]) (s' := r1.2) rfl trivial ?_
        refine bd h (fun r2 hr2 h => ?_)
        refine Ev_call 3 132 0 [.ref r1.1] [.ref r1.1, .int a1, .ref (sR s a0 11)] rfl rfl rfl rfl g6 rfl rfl (Nat.le_of_ble_eq_true rfl) (t_Image_init hr2) ?_
        refine gd h (fun g7 h => ?_)
        refine Ev_blk 1 (pc' := 37) (ls' := [.ref a0, .int a1]) (st' := []) (s' := setR r2 (sR s a0 11) a1.toNatClampNeg r1.1) rfl ⟨trivial, g7⟩ ?_
        exact t_C_image_37 h
      · exact t_C_image_37 h
    · exact t_C_image_9 h

def b_C_back_9  (v0 : Nat) (s : AS) : Option (Int32 × AS) :=
  if sT s v0 = 1 then
  (f_C_refuse s v0 (-(nI 1))).bind fun r1 =>
  some (r1.1, r1.2)
  else none
theorem t_C_back_9   {d1 : Value} {v0 : Nat} {s : AS} {o : Int32 × AS} (h : b_C_back_9  v0 s = some o) : Ev 1 mZ134 9 [.ref v0, d1] [] s (some (.int o.1), o.2) := by
  unfold b_C_back_9 at h
  refine gd h (fun g1 h => ?_)
  refine Ev_blk 2 (pc' := 11) (ls' := [.ref v0, d1]) (st' := [.int (-(nI 1)), .ref v0]) (s' := s) rfl trivial ?_
  refine bd h (fun r1 hr1 h => ?_)
  refine Ev_call 2 13 1 [.ref v0, .int (-(nI 1))] [] rfl rfl rfl rfl g1 rfl rfl (Nat.le_of_ble_eq_true rfl) (t_C_refuse hr1) ?_
  cases h
  exact Ev_ret rfl trivial
/-- RecordHeap.back(I)I -/
def f_C_back (s : AS) (a0 : Nat) (a1 : Int32) : Option (Int32 × AS) :=
  if a1 < (nI 0) then
    b_C_back_9 a0 s
  else
    if a1 < (nI 2) then
      if sT s a0 = 1 then
      if 40 ≤ sT s (sR s a0 11) ∧ inA a1 (sN s (sR s a0 11)) then
      if (sR s (sR s a0 11) a1.toNatClampNeg) = 0 then
        (f_C_refuse s a0 (-(nI 2))).bind fun r1 =>
        some (r1.1, r1.2)
      else
        if sT s (sR s a0 6) = 3 then
        if sT s (sR s (sR s a0 11) a1.toNatClampNeg) = 4 then
        if sT s (sR s (sR s a0 6) 2) = 7 then
        (f_Pages_takeFrom s (sR s (sR s a0 6) 2) (sR s (sR s (sR s a0 11) a1.toNatClampNeg) 0)).bind fun r2 =>
        if sT r2 a0 = 1 then
        if 40 ≤ sT r2 (sR r2 a0 11) ∧ inA a1 (sN r2 (sR r2 a0 11)) then
        if sT r2 (sR r2 (sR r2 a0 11) a1.toNatClampNeg) = 4 then
        if sT r2 (sR r2 a0 5) = 11 then
        (f_Setting_takeFrom r2 (sR r2 a0 5) (sR r2 (sR r2 (sR r2 a0 11) a1.toNatClampNeg) 1)).bind fun r3 =>
        if sT r3 a0 = 1 then
        if sT r3 (sR r3 a0 8) = 5 then
        (f_C_told (setI r3 (sR r3 a0 8) 2 (nI 0)) a0 (nI 0)).bind fun r4 =>
        some (r4.1, r4.2)
        else none
        else none
        else none
        else none
        else none
        else none
        else none
        else none
        else none
      else none
      else none
    else
      b_C_back_9 a0 s
theorem t_C_back {s : AS} {a0 : Nat} {a1 : Int32} {o : Int32 × AS} (h : f_C_back s a0 a1 = some o) : Ev 1 mZ134 0 [.ref a0, .int a1] [] s (some (.int o.1), o.2) := by
  unfold f_C_back at h
  refine Ev_blk 2 (pc' := if a1 < (nI 0) then 9 else 4) (ls' := [.ref a0, .int a1]) (st' := []) (s' := s) rfl trivial ?_
  refine ib h (fun c1 h => ?_) (fun c1 h => ?_)
  · exact t_C_back_9 h
  · refine Ev_blk 3 (pc' := if a1 < (nI 2) then 15 else 9) (ls' := [.ref a0, .int a1]) (st' := []) (s' := s) rfl trivial ?_
    refine ib h (fun c2 h => ?_) (fun c2 h => ?_)
    · refine gd h (fun g3 h => ?_)
      refine gd h (fun g4 h => ?_)
      refine Ev_blk 5 (pc' := if (sR s (sR s a0 11) a1.toNatClampNeg) = 0 then 24 else 31) (ls' := [.ref a0, .int a1]) (st' := []) (s' := s) rfl ⟨⟨trivial, g3⟩, g4⟩ ?_
      refine ib h (fun c5 h => ?_) (fun c5 h => ?_)
      · refine Ev_blk 2 (pc' := 27) (ls' := [.ref a0, .int a1]) (st' := [.int (-(nI 2)), .ref a0]) (s' := s) rfl trivial ?_
        refine bd h (fun r1 hr1 h => ?_)
        refine Ev_call 2 13 1 [.ref a0, .int (-(nI 2))] [] rfl rfl rfl rfl g3 rfl rfl (Nat.le_of_ble_eq_true rfl) (t_C_refuse hr1) ?_
        cases h
        exact Ev_ret rfl trivial
      · refine gd h (fun g6 h => ?_)
        refine gd h (fun g7 h => ?_)
        refine gd h (fun g8 h => ?_)
        refine Ev_blk 8 (pc' := 47) (ls' := [.ref a0, .int a1]) (st' := [.ref (sR s (sR s (sR s a0 11) a1.toNatClampNeg) 0), .ref (sR s (sR s a0 6) 2)]) (s' := s) rfl ⟨⟨⟨⟨⟨trivial, g3⟩, g6⟩, g3⟩, g4⟩, g7⟩ ?_
        refine bd h (fun r2 hr2 h => ?_)
        refine Ev_call 2 42 1 [.ref (sR s (sR s a0 6) 2), .ref (sR s (sR s (sR s a0 11) a1.toNatClampNeg) 0)] [] rfl rfl rfl rfl g8 rfl rfl (Nat.le_of_ble_eq_true rfl) (t_Pages_takeFrom hr2) ?_
        refine gd h (fun g9 h => ?_)
        refine gd h (fun g10 h => ?_)
        refine gd h (fun g11 h => ?_)
        refine gd h (fun g12 h => ?_)
        refine Ev_blk 7 (pc' := 63) (ls' := [.ref a0, .int a1]) (st' := [.ref (sR r2 (sR r2 (sR r2 a0 11) a1.toNatClampNeg) 1), .ref (sR r2 a0 5)]) (s' := r2) rfl ⟨⟨⟨⟨trivial, g9⟩, g9⟩, g10⟩, g11⟩ ?_
        refine bd h (fun r3 hr3 h => ?_)
        refine Ev_call 2 133 1 [.ref (sR r2 a0 5), .ref (sR r2 (sR r2 (sR r2 a0 11) a1.toNatClampNeg) 1)] [] rfl rfl rfl rfl g12 rfl rfl (Nat.le_of_ble_eq_true rfl) (t_Setting_takeFrom hr3) ?_
        refine gd h (fun g13 h => ?_)
        refine gd h (fun g14 h => ?_)
        refine Ev_blk 6 (pc' := 76) (ls' := [.ref a0, .int a1]) (st' := [.int (nI 0), .ref a0]) (s' := setI r3 (sR r3 a0 8) 2 (nI 0)) rfl ⟨⟨trivial, g13⟩, g14⟩ ?_
        refine bd h (fun r4 hr4 h => ?_)
        refine Ev_call 2 14 1 [.ref a0, .int (nI 0)] [] rfl rfl rfl rfl g13 rfl rfl (Nat.le_of_ble_eq_true rfl) (t_C_told hr4) ?_
        cases h
        exact Ev_ret rfl trivial
    · exact t_C_back_9 h

def b_Pages_recordBytes_4 (s : AS) (k4 : Nat → Int32 → Int32 → Option Int32) (v0 : Nat) (v1 : Int32) (v2 : Int32) : Option Int32 :=
  if v2 < (nI 128) then
    if sT s v0 = 7 then
    (f_Pages_isRecord s v0 v2).bind fun r1 =>
    if r1 = (nI 0) then
      k4 v0 v1 (v2 + nI 1)
    else
      (f_Pages_sizeOf s v0 v2).bind fun r2 =>
      k4 v0 (v1 + r2) (v2 + nI 1)
    else none
  else
    some v1
theorem t_Pages_recordBytes_4 {s : AS} {k4 : Nat → Int32 → Int32 → Option Int32} (H4 : ∀ {v0 : Nat} {v1 : Int32} {v2 : Int32} {o : Int32}, k4 v0 v1 v2 = some o → Ev 3 mZ136 4 [.ref v0, .int v1, .int v2] [] s (some (.int o), s))  {v0 : Nat} {v1 : Int32} {v2 : Int32} {o : Int32} (h : b_Pages_recordBytes_4 s k4 v0 v1 v2 = some o) : Ev 3 mZ136 4 [.ref v0, .int v1, .int v2] [] s (some (.int o), s) := by
  unfold b_Pages_recordBytes_4 at h
  refine Ev_blk 3 (pc' := if v2 < (nI 128) then 11 else 33) (ls' := [.ref v0, .int v1, .int v2]) (st' := []) (s' := s) rfl trivial ?_
  refine ib h (fun c1 h => ?_) (fun c1 h => ?_)
  · refine gd h (fun g2 h => ?_)
    refine Ev_blk 2 (pc' := 13) (ls' := [.ref v0, .int v1, .int v2]) (st' := [.int v2, .ref v0]) (s' := s) rfl trivial ?_
    refine bd h (fun r1 hr1 h => ?_)
    refine Ev_call 2 51 1 [.ref v0, .int v2] [] rfl rfl rfl rfl g2 rfl rfl (Nat.le_of_ble_eq_true rfl) (t_Pages_isRecord hr1) ?_
    refine Ev_blk 1 (pc' := if r1 = (nI 0) then 27 else 19) (ls' := [.ref v0, .int v1, .int v2]) (st' := []) (s' := s) rfl trivial ?_
    refine ib h (fun c3 h => ?_) (fun c3 h => ?_)
    · refine Ev_blk 2 (pc' := 4) (ls' := [.ref v0, .int v1, .int (v2 + nI 1)]) (st' := []) (s' := s) rfl trivial ?_
      exact H4 h
    · refine Ev_blk 3 (pc' := 22) (ls' := [.ref v0, .int v1, .int v2]) (st' := [.int v2, .ref v0, .int v1]) (s' := s) rfl trivial ?_
      refine bd h (fun r2 hr2 h => ?_)
      refine Ev_call 2 93 1 [.ref v0, .int v2] [.int v1] rfl rfl rfl rfl g2 rfl rfl (Nat.le_of_ble_eq_true rfl) (t_Pages_sizeOf hr2) ?_
      refine Ev_blk 4 (pc' := 4) (ls' := [.ref v0, .int (v1 + r2), .int (v2 + nI 1)]) (st' := []) (s' := s) rfl trivial ?_
      exact H4 h
  · refine Ev_blk 1 (pc' := 34) (ls' := [.ref v0, .int v1, .int v2]) (st' := [.int v1]) (s' := s) rfl trivial ?_
    cases h
    exact Ev_ret rfl trivial
def l_Pages_recordBytes_4 (s : AS)  : Nat → Nat → Int32 → Int32 → Option Int32
  | 0 => fun _ _ _ => none
  | n + 1 => b_Pages_recordBytes_4 s  (l_Pages_recordBytes_4 s  n)
theorem u_Pages_recordBytes_4 {s : AS}   {n : Nat} : ∀  {v0 : Nat} {v1 : Int32} {v2 : Int32} {o : Int32}, l_Pages_recordBytes_4 s  n v0 v1 v2 = some o → Ev 3 mZ136 4 [.ref v0, .int v1, .int v2] [] s (some (.int o), s) := by
  induction n with
  | zero => intros; rename_i h; cases h
  | succ n ih => intros; rename_i h; exact t_Pages_recordBytes_4  (fun h => ih h) h
/-- RecordHeap$Pages.recordBytes()I -/
def f_Pages_recordBytes (s : AS) (a0 : Nat) : Option Int32 :=
  l_Pages_recordBytes_4 s fuel a0 (nI 0) (nI 0)
theorem t_Pages_recordBytes {s : AS} {a0 : Nat} {o : Int32} (h : f_Pages_recordBytes s a0 = some o) : Ev 3 mZ136 0 [.ref a0, .retAddr 0, .retAddr 0] [] s (some (.int o), s) := by
  unfold f_Pages_recordBytes at h
  refine Ev_blk 4 (pc' := 4) (ls' := [.ref a0, .int (nI 0), .int (nI 0)]) (st' := []) (s' := s) rfl trivial ?_
  exact u_Pages_recordBytes_4 h

def b_C_rowCount_22 (s : AS)  (v0 : Nat) (v1 : Int32) : Option Int32 :=
  if v1 < (nI 13) then
    some (-(nI 1))
  else
    if v1 < (nI 16) then
      if sT s v0 = 1 then
      if sT s (sR s v0 5) = 11 then
      if sT s (sR s (sR s v0 5) 0) = 20 ∧ inA (v1 - (nI 13)) (sN s (sR s (sR s v0 5) 0)) then
      some (sI s (sR s (sR s v0 5) 0) (v1 - (nI 13)).toNatClampNeg)
      else none
      else none
      else none
    else
      some (-(nI 1))
theorem t_C_rowCount_22 {s : AS}    {v0 : Nat} {v1 : Int32} {o : Int32} (h : b_C_rowCount_22 s  v0 v1 = some o) : Ev 0 mZ137 22 [.ref v0, .int v1] [] s (some (.int o), s) := by
  unfold b_C_rowCount_22 at h
  refine Ev_blk 3 (pc' := if v1 < (nI 13) then 49 else 28) (ls' := [.ref v0, .int v1]) (st' := []) (s' := s) rfl trivial ?_
  refine ib h (fun c1 h => ?_) (fun c1 h => ?_)
  · refine Ev_blk 1 (pc' := 50) (ls' := [.ref v0, .int v1]) (st' := [.int (-(nI 1))]) (s' := s) rfl trivial ?_
    cases h
    exact Ev_ret rfl trivial
  · refine Ev_blk 3 (pc' := if v1 < (nI 16) then 34 else 49) (ls' := [.ref v0, .int v1]) (st' := []) (s' := s) rfl trivial ?_
    refine ib h (fun c2 h => ?_) (fun c2 h => ?_)
    · refine gd h (fun g3 h => ?_)
      refine gd h (fun g4 h => ?_)
      refine gd h (fun g5 h => ?_)
      refine Ev_blk 8 (pc' := 50) (ls' := [.ref v0, .int v1]) (st' := [.int (sI s (sR s (sR s v0 5) 0) (v1 - (nI 13)).toNatClampNeg)]) (s' := s) rfl ⟨⟨⟨trivial, g3⟩, g4⟩, ⟨Or.inl g5.1, g5.2⟩⟩ ?_
      cases h
      exact Ev_ret rfl trivial
    · refine Ev_blk 1 (pc' := 50) (ls' := [.ref v0, .int v1]) (st' := [.int (-(nI 1))]) (s' := s) rfl trivial ?_
      cases h
      exact Ev_ret rfl trivial
/-- RecordHeap.rowCount(I)I -/
def f_C_rowCount (s : AS) (a0 : Nat) (a1 : Int32) : Option Int32 :=
  if a1 < (nI 7) then
    b_C_rowCount_22 s a0 a1
  else
    if a1 < (nI 12) then
      if sT s a0 = 1 then
      if sT s (sR s a0 13) = 20 ∧ inA (a1 - (nI 7)) (sN s (sR s a0 13)) then
      some (sI s (sR s a0 13) (a1 - (nI 7)).toNatClampNeg)
      else none
      else none
    else
      b_C_rowCount_22 s a0 a1
theorem t_C_rowCount {s : AS} {a0 : Nat} {a1 : Int32} {o : Int32} (h : f_C_rowCount s a0 a1 = some o) : Ev 0 mZ137 0 [.ref a0, .int a1] [] s (some (.int o), s) := by
  unfold f_C_rowCount at h
  refine Ev_blk 3 (pc' := if a1 < (nI 7) then 22 else 6) (ls' := [.ref a0, .int a1]) (st' := []) (s' := s) rfl trivial ?_
  refine ib h (fun c1 h => ?_) (fun c1 h => ?_)
  · exact t_C_rowCount_22 h
  · refine Ev_blk 3 (pc' := if a1 < (nI 12) then 12 else 22) (ls' := [.ref a0, .int a1]) (st' := []) (s' := s) rfl trivial ?_
    refine ib h (fun c2 h => ?_) (fun c2 h => ?_)
    · refine gd h (fun g3 h => ?_)
      refine gd h (fun g4 h => ?_)
      refine Ev_blk 6 (pc' := 21) (ls' := [.ref a0, .int a1]) (st' := [.int (sI s (sR s a0 13) (a1 - (nI 7)).toNatClampNeg)]) (s' := s) rfl ⟨⟨trivial, g3⟩, ⟨Or.inl g4.1, g4.2⟩⟩ ?_
      cases h
      exact Ev_ret rfl trivial
    · exact t_C_rowCount_22 h

/-- RecordHeap.count(I)I -/
def f_C_count (s : AS) (a0 : Nat) (a1 : Int32) : Option Int32 :=
  if a1 = nI 0 then
    if sT s a0 = 1 then
    if sT s (sR s a0 6) = 3 then
    if sT s (sR s (sR s a0 6) 2) = 7 then
    (f_Pages_recordCount s (sR s (sR s a0 6) 2)).bind fun r1 =>
    some r1
    else none
    else none
    else none
  else
  if a1 = nI 1 then
    if sT s a0 = 1 then
    if sT s (sR s a0 6) = 3 then
    if sT s (sR s (sR s a0 6) 2) = 7 then
    (f_Pages_recordBytes s (sR s (sR s a0 6) 2)).bind fun r2 =>
    some r2
    else none
    else none
    else none
  else
  if a1 = nI 2 then
    if sT s a0 = 1 then
    if sT s (sR s a0 6) = 3 then
    if sT s (sR s (sR s a0 6) 2) = 7 then
    (f_Pages_cellsOfKind s (sR s (sR s a0 6) 2) (nI 2)).bind fun r3 =>
    some r3
    else none
    else none
    else none
  else
  if a1 = nI 3 then
    if sT s a0 = 1 then
    if sT s (sR s a0 6) = 3 then
    if sT s (sR s (sR s a0 6) 2) = 7 then
    (f_Pages_cellsOfKind s (sR s (sR s a0 6) 2) (nI 5)).bind fun r4 =>
    some r4
    else none
    else none
    else none
  else
  if a1 = nI 4 then
    if sT s a0 = 1 then
    if sT s (sR s a0 5) = 11 then
    some (sI s (sR s a0 5) 2)
    else none
    else none
  else
  if a1 = nI 5 then
    if sT s a0 = 1 then
    if sT s (sR s a0 8) = 5 then
    some (sI s (sR s a0 8) 2)
    else none
    else none
  else
  if a1 = nI 6 then
    if sT s a0 = 1 then
    if sT s (sR s a0 0) = 9 then
    some (sI s (sR s a0 0) 1)
    else none
    else none
  else
  if a1 = nI 7 then
    if sT s a0 = 1 then
    (f_C_rowCount s a0 a1).bind fun r5 =>
    some r5
    else none
  else
  if a1 = nI 8 then
    if sT s a0 = 1 then
    (f_C_rowCount s a0 a1).bind fun r6 =>
    some r6
    else none
  else
  if a1 = nI 9 then
    if sT s a0 = 1 then
    (f_C_rowCount s a0 a1).bind fun r7 =>
    some r7
    else none
  else
  if a1 = nI 10 then
    if sT s a0 = 1 then
    (f_C_rowCount s a0 a1).bind fun r8 =>
    some r8
    else none
  else
  if a1 = nI 11 then
    if sT s a0 = 1 then
    (f_C_rowCount s a0 a1).bind fun r9 =>
    some r9
    else none
  else
  if a1 = nI 12 then
    if sT s a0 = 1 then
    if sT s (sR s a0 5) = 11 then
    some (sI s (sR s a0 5) 3)
    else none
    else none
  else
  if sT s a0 = 1 then
  (f_C_rowCount s a0 a1).bind fun r10 =>
  some r10
  else none
theorem t_C_count {s : AS} {a0 : Nat} {a1 : Int32} {o : Int32} (h : f_C_count s a0 a1 = some o) : Ev 4 mZ135 0 [.ref a0, .int a1] [] s (some (.int o), s) := by
  unfold f_C_count at h
  refine Ev_blk 2 (pc' := if a1 = nI 0 then 68 else if a1 = nI 1 then 79 else if a1 = nI 2 then 90 else if a1 = nI 3 then 102 else if a1 = nI 4 then 114 else if a1 = nI 5 then 122 else if a1 = nI 6 then 130 else if a1 = nI 7 then 146 else if a1 = nI 8 then 146 else if a1 = nI 9 then 146 else if a1 = nI 10 then 146 else if a1 = nI 11 then 146 else if a1 = nI 12 then 138 else 146) (ls' := [.ref a0, .int a1]) (st' := []) (s' := s) rfl trivial ?_
  refine ib h (fun c1 h => ?_) (fun c1 h => ?_)
  · refine gd h (fun g2 h => ?_)
    refine gd h (fun g3 h => ?_)
    refine gd h (fun g4 h => ?_)
    refine Ev_blk 3 (pc' := 75) (ls' := [.ref a0, .int a1]) (st' := [.ref (sR s (sR s a0 6) 2)]) (s' := s) rfl ⟨⟨trivial, g2⟩, g3⟩ ?_
    refine bd h (fun r1 hr1 h => ?_)
    refine Ev_call 2 45 0 [.ref (sR s (sR s a0 6) 2)] [] rfl rfl rfl rfl g4 rfl rfl (Nat.le_of_ble_eq_true rfl) (t_Pages_recordCount hr1) ?_
    cases h
    exact Ev_ret rfl trivial
  refine ib h (fun c5 h => ?_) (fun c5 h => ?_)
  · refine gd h (fun g6 h => ?_)
    refine gd h (fun g7 h => ?_)
    refine gd h (fun g8 h => ?_)
    refine Ev_blk 3 (pc' := 86) (ls' := [.ref a0, .int a1]) (st' := [.ref (sR s (sR s a0 6) 2)]) (s' := s) rfl ⟨⟨trivial, g6⟩, g7⟩ ?_
    refine bd h (fun r2 hr2 h => ?_)
    refine Ev_call 2 136 0 [.ref (sR s (sR s a0 6) 2)] [] rfl rfl rfl rfl g8 rfl rfl (Nat.le_of_ble_eq_true rfl) (t_Pages_recordBytes hr2) ?_
    cases h
    exact Ev_ret rfl trivial
  refine ib h (fun c9 h => ?_) (fun c9 h => ?_)
  · refine gd h (fun g10 h => ?_)
    refine gd h (fun g11 h => ?_)
    refine gd h (fun g12 h => ?_)
    refine Ev_blk 4 (pc' := 98) (ls' := [.ref a0, .int a1]) (st' := [.int (nI 2), .ref (sR s (sR s a0 6) 2)]) (s' := s) rfl ⟨⟨trivial, g10⟩, g11⟩ ?_
    refine bd h (fun r3 hr3 h => ?_)
    refine Ev_call 2 46 1 [.ref (sR s (sR s a0 6) 2), .int (nI 2)] [] rfl rfl rfl rfl g12 rfl rfl (Nat.le_of_ble_eq_true rfl) (t_Pages_cellsOfKind hr3) ?_
    cases h
    exact Ev_ret rfl trivial
  refine ib h (fun c13 h => ?_) (fun c13 h => ?_)
  · refine gd h (fun g14 h => ?_)
    refine gd h (fun g15 h => ?_)
    refine gd h (fun g16 h => ?_)
    refine Ev_blk 4 (pc' := 110) (ls' := [.ref a0, .int a1]) (st' := [.int (nI 5), .ref (sR s (sR s a0 6) 2)]) (s' := s) rfl ⟨⟨trivial, g14⟩, g15⟩ ?_
    refine bd h (fun r4 hr4 h => ?_)
    refine Ev_call 2 46 1 [.ref (sR s (sR s a0 6) 2), .int (nI 5)] [] rfl rfl rfl rfl g16 rfl rfl (Nat.le_of_ble_eq_true rfl) (t_Pages_cellsOfKind hr4) ?_
    cases h
    exact Ev_ret rfl trivial
  refine ib h (fun c17 h => ?_) (fun c17 h => ?_)
  · refine gd h (fun g18 h => ?_)
    refine gd h (fun g19 h => ?_)
    refine Ev_blk 3 (pc' := 121) (ls' := [.ref a0, .int a1]) (st' := [.int (sI s (sR s a0 5) 2)]) (s' := s) rfl ⟨⟨trivial, g18⟩, g19⟩ ?_
    cases h
    exact Ev_ret rfl trivial
  refine ib h (fun c20 h => ?_) (fun c20 h => ?_)
  · refine gd h (fun g21 h => ?_)
    refine gd h (fun g22 h => ?_)
    refine Ev_blk 3 (pc' := 129) (ls' := [.ref a0, .int a1]) (st' := [.int (sI s (sR s a0 8) 2)]) (s' := s) rfl ⟨⟨trivial, g21⟩, g22⟩ ?_
    cases h
    exact Ev_ret rfl trivial
  refine ib h (fun c23 h => ?_) (fun c23 h => ?_)
  · refine gd h (fun g24 h => ?_)
    refine gd h (fun g25 h => ?_)
    refine Ev_blk 3 (pc' := 137) (ls' := [.ref a0, .int a1]) (st' := [.int (sI s (sR s a0 0) 1)]) (s' := s) rfl ⟨⟨trivial, g24⟩, g25⟩ ?_
    cases h
    exact Ev_ret rfl trivial
  refine ib h (fun c26 h => ?_) (fun c26 h => ?_)
  · refine gd h (fun g27 h => ?_)
    refine Ev_blk 2 (pc' := 148) (ls' := [.ref a0, .int a1]) (st' := [.int a1, .ref a0]) (s' := s) rfl trivial ?_
    refine bd h (fun r5 hr5 h => ?_)
    refine Ev_call 2 137 1 [.ref a0, .int a1] [] rfl rfl rfl rfl g27 rfl rfl (Nat.le_of_ble_eq_true rfl) (t_C_rowCount hr5) ?_
    cases h
    exact Ev_ret rfl trivial
  refine ib h (fun c28 h => ?_) (fun c28 h => ?_)
  · refine gd h (fun g29 h => ?_)
    refine Ev_blk 2 (pc' := 148) (ls' := [.ref a0, .int a1]) (st' := [.int a1, .ref a0]) (s' := s) rfl trivial ?_
    refine bd h (fun r6 hr6 h => ?_)
    refine Ev_call 2 137 1 [.ref a0, .int a1] [] rfl rfl rfl rfl g29 rfl rfl (Nat.le_of_ble_eq_true rfl) (t_C_rowCount hr6) ?_
    cases h
    exact Ev_ret rfl trivial
  refine ib h (fun c30 h => ?_) (fun c30 h => ?_)
  · refine gd h (fun g31 h => ?_)
    refine Ev_blk 2 (pc' := 148) (ls' := [.ref a0, .int a1]) (st' := [.int a1, .ref a0]) (s' := s) rfl trivial ?_
    refine bd h (fun r7 hr7 h => ?_)
    refine Ev_call 2 137 1 [.ref a0, .int a1] [] rfl rfl rfl rfl g31 rfl rfl (Nat.le_of_ble_eq_true rfl) (t_C_rowCount hr7) ?_
    cases h
    exact Ev_ret rfl trivial
  refine ib h (fun c32 h => ?_) (fun c32 h => ?_)
  · refine gd h (fun g33 h => ?_)
    refine Ev_blk 2 (pc' := 148) (ls' := [.ref a0, .int a1]) (st' := [.int a1, .ref a0]) (s' := s) rfl trivial ?_
    refine bd h (fun r8 hr8 h => ?_)
    refine Ev_call 2 137 1 [.ref a0, .int a1] [] rfl rfl rfl rfl g33 rfl rfl (Nat.le_of_ble_eq_true rfl) (t_C_rowCount hr8) ?_
    cases h
    exact Ev_ret rfl trivial
  refine ib h (fun c34 h => ?_) (fun c34 h => ?_)
  · refine gd h (fun g35 h => ?_)
    refine Ev_blk 2 (pc' := 148) (ls' := [.ref a0, .int a1]) (st' := [.int a1, .ref a0]) (s' := s) rfl trivial ?_
    refine bd h (fun r9 hr9 h => ?_)
    refine Ev_call 2 137 1 [.ref a0, .int a1] [] rfl rfl rfl rfl g35 rfl rfl (Nat.le_of_ble_eq_true rfl) (t_C_rowCount hr9) ?_
    cases h
    exact Ev_ret rfl trivial
  refine ib h (fun c36 h => ?_) (fun c36 h => ?_)
  · refine gd h (fun g37 h => ?_)
    refine gd h (fun g38 h => ?_)
    refine Ev_blk 3 (pc' := 145) (ls' := [.ref a0, .int a1]) (st' := [.int (sI s (sR s a0 5) 3)]) (s' := s) rfl ⟨⟨trivial, g37⟩, g38⟩ ?_
    cases h
    exact Ev_ret rfl trivial
  refine gd h (fun g39 h => ?_)
  refine Ev_blk 2 (pc' := 148) (ls' := [.ref a0, .int a1]) (st' := [.int a1, .ref a0]) (s' := s) rfl trivial ?_
  refine bd h (fun r10 hr10 h => ?_)
  refine Ev_call 2 137 1 [.ref a0, .int a1] [] rfl rfl rfl rfl g39 rfl rfl (Nat.le_of_ble_eq_true rfl) (t_C_rowCount hr10) ?_
  cases h
  exact Ev_ret rfl trivial

/-- RecordHeap.status()I -/
def f_C_status (s : AS) (a0 : Nat) : Option Int32 :=
  if sT s a0 = 1 then
  some (sI s a0 15)
  else none
theorem t_C_status {s : AS} {a0 : Nat} {o : Int32} (h : f_C_status s a0 = some o) : Ev 0 mZ138 0 [.ref a0] [] s (some (.int o), s) := by
  unfold f_C_status at h
  refine gd h (fun g1 h => ?_)
  refine Ev_blk 2 (pc' := 4) (ls' := [.ref a0]) (st' := [.int (sI s a0 15)]) (s' := s) rfl ⟨trivial, g1⟩ ?_
  cases h
  exact Ev_ret rfl trivial

/-- RecordHeapModel.pageAt(I)I -/
def f_M_pageAt (s : AS) (a0 : Int32) : Option Int32 :=
  some ((nI 5) + ((nI 102) * a0))
theorem t_M_pageAt {s : AS} {a0 : Int32} {o : Int32} (h : f_M_pageAt s a0 = some o) : Ev 0 mZ140 0 [.int a0] [] s (some (.int o), s) := by
  unfold f_M_pageAt at h
  refine Ev_blk 5 (pc' := 6) (ls' := [.int a0]) (st' := [.int ((nI 5) + ((nI 102) * a0))]) (s' := s) rfl trivial ?_
  cases h
  exact Ev_ret rfl trivial

def b_M_init_386 (k386 : Nat → Int32 → AS → Option AS) (v0 : Nat) (v1 : Int32) (s : AS) : Option AS :=
  if v1 < (nI 8) then
    if sT s v0 = 13 then
    (f_M_pageAt s v1).bind fun r1 =>
    if sT s (sR s v0 3) = 20 ∧ inA (r1 + (nI 1)) (sN s (sR s v0 3)) then
    k386 v0 (v1 + nI 1) (setI s (sR s v0 3) (r1 + (nI 1)).toNatClampNeg (nI 8))
    else none
    else none
  else
    some s
theorem t_M_init_386 {k386 : Nat → Int32 → AS → Option AS} (H386 : ∀ {v0 : Nat} {v1 : Int32} {s : AS} {o : AS}, k386 v0 v1 s = some o → Ev 1 mZ139 386 [.ref v0, .int v1] [] s (none, o))  {v0 : Nat} {v1 : Int32} {s : AS} {o : AS} (h : b_M_init_386 k386 v0 v1 s = some o) : Ev 1 mZ139 386 [.ref v0, .int v1] [] s (none, o) := by
  unfold b_M_init_386 at h
  refine Ev_blk 3 (pc' := if v1 < (nI 8) then 392 else 411) (ls' := [.ref v0, .int v1]) (st' := []) (s' := s) rfl trivial ?_
  refine ib h (fun c1 h => ?_) (fun c1 h => ?_)
  · refine gd h (fun g2 h => ?_)
    refine Ev_blk 3 (pc' := 397) (ls' := [.ref v0, .int v1]) (st' := [.int v1, .ref (sR s v0 3)]) (s' := s) rfl ⟨trivial, g2⟩ ?_
    refine bd h (fun r1 hr1 h => ?_)
    refine Ev_call 1 140 1 [.int v1] [.ref (sR s v0 3)] rfl rfl rfl rfl trivial rfl rfl (Nat.le_of_ble_eq_true rfl) (t_M_pageAt hr1) ?_
    refine gd h (fun g3 h => ?_)
    refine Ev_blk 6 (pc' := 386) (ls' := [.ref v0, .int (v1 + nI 1)]) (st' := []) (s' := setI s (sR s v0 3) (r1 + (nI 1)).toNatClampNeg (nI 8)) rfl ⟨trivial, g3⟩ ?_
    exact H386 h
  · cases h
    exact Ev_ret rfl trivial
def l_M_init_386  : Nat → Nat → Int32 → AS → Option AS
  | 0 => fun _ _ _ => none
  | n + 1 => b_M_init_386  (l_M_init_386  n)
theorem u_M_init_386   {n : Nat} : ∀  {v0 : Nat} {v1 : Int32} {s : AS} {o : AS}, l_M_init_386  n v0 v1 s = some o → Ev 1 mZ139 386 [.ref v0, .int v1] [] s (none, o) := by
  induction n with
  | zero => intros; rename_i h; cases h
  | succ n ih => intros; rename_i h; exact t_M_init_386  (fun h => ih h) h
/-- RecordHeapModel.<init>()V -/
def f_M_init (s : AS) (a0 : Nat) : Option AS :=
  if ¬ a0 = 0 then
  (nwA s 20 (nI 7)).bind fun r1 =>
  if sT r1.2 a0 = 13 then
  (nwA (setR r1.2 a0 2 r1.1) 20 (nI 6221)).bind fun r2 =>
  if sT r2.2 a0 = 13 then
  (nwA (setR r2.2 a0 3 r2.1) 20 (nI 12442)).bind fun r3 =>
  if sT r3.2 a0 = 13 then
  (nwA (setR r3.2 a0 4 r3.1) 22 (nI 2)).bind fun r4 =>
  if sT r4.2 a0 = 13 then
  (nwA (setR r4.2 a0 5 r4.1) 20 (nI 15504)).bind fun r5 =>
  if sT r5.2 a0 = 13 then
  (nwA (setR r5.2 a0 6 r5.1) 20 (nI 16)).bind fun r6 =>
  if sT r6.2 a0 = 13 then
  (nwA (setR r6.2 a0 7 r6.1) 20 (nI 13056)).bind fun r7 =>
  if sT r7.2 a0 = 13 then
  (nwA (setR r7.2 a0 9 r7.1) 20 (nI 16)).bind fun r8 =>
  if sT r8.2 a0 = 13 then
  (nwA (setR r8.2 a0 10 r8.1) 20 (nI 400)).bind fun r9 =>
  if sT r9.2 a0 = 13 then
  (nwA (setI (setR r9.2 a0 11 r9.1) a0 17 (-(nI 1))) 20 (nI 96)).bind fun r10 =>
  if sT r10.2 a0 = 13 then
  (nwA (setR r10.2 a0 21 r10.1) 20 (nI 400)).bind fun r11 =>
  if sT r11.2 a0 = 13 then
  (nwA (setR r11.2 a0 23 r11.1) 20 (nI 400)).bind fun r12 =>
  if sT r12.2 a0 = 13 then
  (nwA (setR r12.2 a0 24 r12.1) 20 (nI 400)).bind fun r13 =>
  if sT r13.2 a0 = 13 then
  (nwA (setR r13.2 a0 26 r13.1) 20 (nI 400)).bind fun r14 =>
  if sT r14.2 a0 = 13 then
  (nwA (setR r14.2 a0 27 r14.1) 21 (nI 7)).bind fun r15 =>
  if sT r15.2 r15.1 = 21 ∧ inA (nI 0) (sN r15.2 r15.1) then
  if sT r15.2 r15.1 = 21 ∧ inA (nI 1) (sN r15.2 r15.1) then
  if sT r15.2 r15.1 = 21 ∧ inA (nI 2) (sN r15.2 r15.1) then
  if sT r15.2 r15.1 = 21 ∧ inA (nI 3) (sN r15.2 r15.1) then
  if sT r15.2 r15.1 = 21 ∧ inA (nI 4) (sN r15.2 r15.1) then
  if sT r15.2 r15.1 = 21 ∧ inA (nI 5) (sN r15.2 r15.1) then
  if sT r15.2 r15.1 = 21 ∧ inA (nI 6) (sN r15.2 r15.1) then
  if sT r15.2 a0 = 13 then
  (nwA (setR (setJ (setJ (setJ (setJ (setJ (setJ (setJ r15.2 r15.1 (nI 0).toNatClampNeg (lN 525541)) r15.1 (nI 1).toNatClampNeg (lN 632645)) r15.1 (nI 2).toNatClampNeg (lN 215205)) r15.1 (nI 3).toNatClampNeg (lN 20332179)) r15.1 (nI 4).toNatClampNeg (lN 17800013413)) r15.1 (nI 5).toNatClampNeg (lN 664997)) r15.1 (nI 6).toNatClampNeg (lN 441828)) a0 30 r15.1) 21 (nI 6)).bind fun r16 =>
  if sT r16.2 r16.1 = 21 ∧ inA (nI 0) (sN r16.2 r16.1) then
  if sT r16.2 r16.1 = 21 ∧ inA (nI 1) (sN r16.2 r16.1) then
  if sT r16.2 r16.1 = 21 ∧ inA (nI 2) (sN r16.2 r16.1) then
  if sT r16.2 r16.1 = 21 ∧ inA (nI 3) (sN r16.2 r16.1) then
  if sT r16.2 r16.1 = 21 ∧ inA (nI 4) (sN r16.2 r16.1) then
  if sT r16.2 r16.1 = 21 ∧ inA (nI 5) (sN r16.2 r16.1) then
  if sT r16.2 a0 = 13 then
  (nwA (setR (setJ (setJ (setJ (setJ (setJ (setJ r16.2 r16.1 (nI 0).toNatClampNeg (lN 664997)) r16.1 (nI 1).toNatClampNeg (lN 146885)) r16.1 (nI 2).toNatClampNeg (lN 404362868)) r16.1 (nI 3).toNatClampNeg (lN 403141)) r16.1 (nI 4).toNatClampNeg (lN 215205)) r16.1 (nI 5).toNatClampNeg (lN 17800013413)) a0 31 r16.1) 21 (nI 2)).bind fun r17 =>
  if sT r17.2 r17.1 = 21 ∧ inA (nI 0) (sN r17.2 r17.1) then
  if sT r17.2 r17.1 = 21 ∧ inA (nI 1) (sN r17.2 r17.1) then
  if sT r17.2 a0 = 13 then
  (nwA (setR (setJ (setJ r17.2 r17.1 (nI 0).toNatClampNeg (lN 407951539)) r17.1 (nI 1).toNatClampNeg (lN 67155)) a0 32 r17.1) 21 (nI 13)).bind fun r18 =>
  if sT r18.2 a0 = 13 then
  (nwA (setR r18.2 a0 34 r18.1) 21 (nI 13)).bind fun r19 =>
  if sT r19.2 a0 = 13 then
  (nwA (setR r19.2 a0 35 r19.1) 21 (nI 400)).bind fun r20 =>
  if sT r20.2 a0 = 13 then
  (nwA (setR r20.2 a0 36 r20.1) 20 (nI 64)).bind fun r21 =>
  if sT r21.2 a0 = 13 then
  (nwA (setI (setI (setR r21.2 a0 40 r21.1) a0 41 (-(nI 1))) a0 42 (-(nI 1))) 20 (nI 200)).bind fun r22 =>
  if sT r22.2 a0 = 13 then
  (nwA (setR r22.2 a0 43 r22.1) 20 (nI 200)).bind fun r23 =>
  if sT r23.2 a0 = 13 then
  (nwA (setR r23.2 a0 45 r23.1) 21 (nI 21)).bind fun r24 =>
  if sT r24.2 a0 = 13 then
  (nwA (setR r24.2 a0 47 r24.1) 21 (nI 5)).bind fun r25 =>
  if sT r25.2 r25.1 = 21 ∧ inA (nI 0) (sN r25.2 r25.1) then
  if sT r25.2 r25.1 = 21 ∧ inA (nI 1) (sN r25.2 r25.1) then
  if sT r25.2 r25.1 = 21 ∧ inA (nI 2) (sN r25.2 r25.1) then
  if sT r25.2 r25.1 = 21 ∧ inA (nI 3) (sN r25.2 r25.1) then
  if sT r25.2 r25.1 = 21 ∧ inA (nI 4) (sN r25.2 r25.1) then
  if sT r25.2 a0 = 13 then
  (nwA (setR (setJ (setJ (setJ (setJ (setJ r25.2 r25.1 (nI 0).toNatClampNeg (lN 17076)) r25.1 (nI 1).toNatClampNeg (lN 248311)) r25.1 (nI 2).toNatClampNeg (lN 150000)) r25.1 (nI 3).toNatClampNeg (lN 525419)) r25.1 (nI 4).toNatClampNeg (lN 431556)) a0 48 r25.1) 20 (nI 96)).bind fun r26 =>
  if sT r26.2 a0 = 13 then
  (nwA (setI (setR r26.2 a0 49 r26.1) a0 52 (-(nI 1))) 20 (nI 24)).bind fun r27 =>
  if sT r27.2 a0 = 13 then
  if sT r27.2 (sR (setR r27.2 a0 55 r27.1) a0 3) = 20 ∧ inA (nI 1) (sN r27.2 (sR (setR r27.2 a0 55 r27.1) a0 3)) then
  if sT r27.2 (sR (setR r27.2 a0 55 r27.1) a0 3) = 20 ∧ inA (nI 3) (sN r27.2 (sR (setR r27.2 a0 55 r27.1) a0 3)) then
  l_M_init_386 fuel a0 (nI 0) (setI (setI (setR r27.2 a0 55 r27.1) (sR (setR r27.2 a0 55 r27.1) a0 3) (nI 1).toNatClampNeg (-(nI 1))) (sR (setR r27.2 a0 55 r27.1) a0 3) (nI 3).toNatClampNeg (nI 1))
  else none
  else none
  else none
  else none
  else none
  else none
  else none
  else none
  else none
  else none
  else none
  else none
  else none
  else none
  else none
  else none
  else none
  else none
  else none
  else none
  else none
  else none
  else none
  else none
  else none
  else none
  else none
  else none
  else none
  else none
  else none
  else none
  else none
  else none
  else none
  else none
  else none
  else none
  else none
  else none
  else none
  else none
  else none
  else none
  else none
  else none
  else none
  else none
  else none
  else none
theorem t_M_init {s : AS} {a0 : Nat} {o : AS} (h : f_M_init s a0 = some o) : Ev 1 mZ139 0 [.ref a0, .retAddr 0] [] s (none, o) := by
  unfold f_M_init at h
  refine gd h (fun g1 h => ?_)
  refine bd h (fun r1 hr1 h => ?_)
  obtain ⟨gr1, er1, fr1⟩ := nwA_inv hr1
  refine Ev_blk 5 (pc' := 9) (ls' := [.ref a0, .retAddr 0]) (st' := [.ref (sX s), .ref a0]) (s' := newA s 20 (nI 7).toNatClampNeg) rfl ⟨⟨trivial, g1⟩, gr1⟩ ?_
  rw [← fr1, ← er1]
  refine gd h (fun g2 h => ?_)
  refine bd h (fun r2 hr2 h => ?_)
  obtain ⟨gr2, er2, fr2⟩ := nwA_inv hr2
  refine Ev_blk 4 (pc' := 18) (ls' := [.ref a0, .retAddr 0]) (st' := [.ref (sX (setR r1.2 a0 2 r1.1)), .ref a0]) (s' := newA (setR r1.2 a0 2 r1.1) 20 (nI 6221).toNatClampNeg) rfl ⟨⟨trivial, g2⟩, gr2⟩ ?_
  rw [← fr2, ← er2]
  refine gd h (fun g3 h => ?_)
  refine bd h (fun r3 hr3 h => ?_)
  obtain ⟨gr3, er3, fr3⟩ := nwA_inv hr3
  refine Ev_blk 4 (pc' := 27) (ls' := [.ref a0, .retAddr 0]) (st' := [.ref (sX (setR r2.2 a0 3 r2.1)), .ref a0]) (s' := newA (setR r2.2 a0 3 r2.1) 20 (nI 12442).toNatClampNeg) rfl ⟨⟨trivial, g3⟩, gr3⟩ ?_
  rw [← fr3, ← er3]
  refine gd h (fun g4 h => ?_)
  refine bd h (fun r4 hr4 h => ?_)
  obtain ⟨gr4, er4, fr4⟩ := nwA_inv hr4
  refine Ev_blk 4 (pc' := 34) (ls' := [.ref a0, .retAddr 0]) (st' := [.ref (sX (setR r3.2 a0 4 r3.1)), .ref a0]) (s' := newA (setR r3.2 a0 4 r3.1) 22 (nI 2).toNatClampNeg) rfl ⟨⟨trivial, g4⟩, gr4⟩ ?_
  rw [← fr4, ← er4]
  refine gd h (fun g5 h => ?_)
  refine bd h (fun r5 hr5 h => ?_)
  obtain ⟨gr5, er5, fr5⟩ := nwA_inv hr5
  refine Ev_blk 4 (pc' := 43) (ls' := [.ref a0, .retAddr 0]) (st' := [.ref (sX (setR r4.2 a0 5 r4.1)), .ref a0]) (s' := newA (setR r4.2 a0 5 r4.1) 20 (nI 15504).toNatClampNeg) rfl ⟨⟨trivial, g5⟩, gr5⟩ ?_
  rw [← fr5, ← er5]
  refine gd h (fun g6 h => ?_)
  refine bd h (fun r6 hr6 h => ?_)
  obtain ⟨gr6, er6, fr6⟩ := nwA_inv hr6
  refine Ev_blk 4 (pc' := 51) (ls' := [.ref a0, .retAddr 0]) (st' := [.ref (sX (setR r5.2 a0 6 r5.1)), .ref a0]) (s' := newA (setR r5.2 a0 6 r5.1) 20 (nI 16).toNatClampNeg) rfl ⟨⟨trivial, g6⟩, gr6⟩ ?_
  rw [← fr6, ← er6]
  refine gd h (fun g7 h => ?_)
  refine bd h (fun r7 hr7 h => ?_)
  obtain ⟨gr7, er7, fr7⟩ := nwA_inv hr7
  refine Ev_blk 4 (pc' := 60) (ls' := [.ref a0, .retAddr 0]) (st' := [.ref (sX (setR r6.2 a0 7 r6.1)), .ref a0]) (s' := newA (setR r6.2 a0 7 r6.1) 20 (nI 13056).toNatClampNeg) rfl ⟨⟨trivial, g7⟩, gr7⟩ ?_
  rw [← fr7, ← er7]
  refine gd h (fun g8 h => ?_)
  refine bd h (fun r8 hr8 h => ?_)
  obtain ⟨gr8, er8, fr8⟩ := nwA_inv hr8
  refine Ev_blk 4 (pc' := 68) (ls' := [.ref a0, .retAddr 0]) (st' := [.ref (sX (setR r7.2 a0 9 r7.1)), .ref a0]) (s' := newA (setR r7.2 a0 9 r7.1) 20 (nI 16).toNatClampNeg) rfl ⟨⟨trivial, g8⟩, gr8⟩ ?_
  rw [← fr8, ← er8]
  refine gd h (fun g9 h => ?_)
  refine bd h (fun r9 hr9 h => ?_)
  obtain ⟨gr9, er9, fr9⟩ := nwA_inv hr9
  refine Ev_blk 4 (pc' := 77) (ls' := [.ref a0, .retAddr 0]) (st' := [.ref (sX (setR r8.2 a0 10 r8.1)), .ref a0]) (s' := newA (setR r8.2 a0 10 r8.1) 20 (nI 400).toNatClampNeg) rfl ⟨⟨trivial, g9⟩, gr9⟩ ?_
  rw [← fr9, ← er9]
  refine gd h (fun g10 h => ?_)
  refine bd h (fun r10 hr10 h => ?_)
  obtain ⟨gr10, er10, fr10⟩ := nwA_inv hr10
  refine Ev_blk 7 (pc' := 90) (ls' := [.ref a0, .retAddr 0]) (st' := [.ref (sX (setI (setR r9.2 a0 11 r9.1) a0 17 (-(nI 1)))), .ref a0]) (s' := newA (setI (setR r9.2 a0 11 r9.1) a0 17 (-(nI 1))) 20 (nI 96).toNatClampNeg) rfl ⟨⟨⟨trivial, g10⟩, g10⟩, gr10⟩ ?_
  rw [← fr10, ← er10]
  refine gd h (fun g11 h => ?_)
  refine bd h (fun r11 hr11 h => ?_)
  obtain ⟨gr11, er11, fr11⟩ := nwA_inv hr11
  refine Ev_blk 4 (pc' := 99) (ls' := [.ref a0, .retAddr 0]) (st' := [.ref (sX (setR r10.2 a0 21 r10.1)), .ref a0]) (s' := newA (setR r10.2 a0 21 r10.1) 20 (nI 400).toNatClampNeg) rfl ⟨⟨trivial, g11⟩, gr11⟩ ?_
  rw [← fr11, ← er11]
  refine gd h (fun g12 h => ?_)
  refine bd h (fun r12 hr12 h => ?_)
  obtain ⟨gr12, er12, fr12⟩ := nwA_inv hr12
  refine Ev_blk 4 (pc' := 108) (ls' := [.ref a0, .retAddr 0]) (st' := [.ref (sX (setR r11.2 a0 23 r11.1)), .ref a0]) (s' := newA (setR r11.2 a0 23 r11.1) 20 (nI 400).toNatClampNeg) rfl ⟨⟨trivial, g12⟩, gr12⟩ ?_
  rw [← fr12, ← er12]
  refine gd h (fun g13 h => ?_)
  refine bd h (fun r13 hr13 h => ?_)
  obtain ⟨gr13, er13, fr13⟩ := nwA_inv hr13
  refine Ev_blk 4 (pc' := 117) (ls' := [.ref a0, .retAddr 0]) (st' := [.ref (sX (setR r12.2 a0 24 r12.1)), .ref a0]) (s' := newA (setR r12.2 a0 24 r12.1) 20 (nI 400).toNatClampNeg) rfl ⟨⟨trivial, g13⟩, gr13⟩ ?_
  rw [← fr13, ← er13]
  refine gd h (fun g14 h => ?_)
  refine bd h (fun r14 hr14 h => ?_)
  obtain ⟨gr14, er14, fr14⟩ := nwA_inv hr14
  refine Ev_blk 4 (pc' := 126) (ls' := [.ref a0, .retAddr 0]) (st' := [.ref (sX (setR r13.2 a0 26 r13.1)), .ref a0]) (s' := newA (setR r13.2 a0 26 r13.1) 20 (nI 400).toNatClampNeg) rfl ⟨⟨trivial, g14⟩, gr14⟩ ?_
  rw [← fr14, ← er14]
  refine gd h (fun g15 h => ?_)
  refine bd h (fun r15 hr15 h => ?_)
  obtain ⟨gr15, er15, fr15⟩ := nwA_inv hr15
  refine Ev_blk 4 (pc' := 134) (ls' := [.ref a0, .retAddr 0]) (st' := [.ref (sX (setR r14.2 a0 27 r14.1)), .ref a0]) (s' := newA (setR r14.2 a0 27 r14.1) 21 (nI 7).toNatClampNeg) rfl ⟨⟨trivial, g15⟩, gr15⟩ ?_
  rw [← fr15, ← er15]
  refine gd h (fun g16 h => ?_)
  refine gd h (fun g17 h => ?_)
  refine gd h (fun g18 h => ?_)
  refine gd h (fun g19 h => ?_)
  refine gd h (fun g20 h => ?_)
  refine gd h (fun g21 h => ?_)
  refine gd h (fun g22 h => ?_)
  refine gd h (fun g23 h => ?_)
  refine bd h (fun r16 hr16 h => ?_)
  obtain ⟨gr16, er16, fr16⟩ := nwA_inv hr16
  refine Ev_blk 32 (pc' := 185) (ls' := [.ref a0, .retAddr 0]) (st' := [.ref (sX (setR (setJ (setJ (setJ (setJ (setJ (setJ (setJ r15.2 r15.1 (nI 0).toNatClampNeg (lN 525541)) r15.1 (nI 1).toNatClampNeg (lN 632645)) r15.1 (nI 2).toNatClampNeg (lN 215205)) r15.1 (nI 3).toNatClampNeg (lN 20332179)) r15.1 (nI 4).toNatClampNeg (lN 17800013413)) r15.1 (nI 5).toNatClampNeg (lN 664997)) r15.1 (nI 6).toNatClampNeg (lN 441828)) a0 30 r15.1)), .ref a0]) (s' := newA (setR (setJ (setJ (setJ (setJ (setJ (setJ (setJ r15.2 r15.1 (nI 0).toNatClampNeg (lN 525541)) r15.1 (nI 1).toNatClampNeg (lN 632645)) r15.1 (nI 2).toNatClampNeg (lN 215205)) r15.1 (nI 3).toNatClampNeg (lN 20332179)) r15.1 (nI 4).toNatClampNeg (lN 17800013413)) r15.1 (nI 5).toNatClampNeg (lN 664997)) r15.1 (nI 6).toNatClampNeg (lN 441828)) a0 30 r15.1) 21 (nI 6).toNatClampNeg) rfl ⟨⟨⟨⟨⟨⟨⟨⟨⟨trivial, g16⟩, g17⟩, g18⟩, g19⟩, g20⟩, g21⟩, g22⟩, g23⟩, gr16⟩ ?_
  rw [← fr16, ← er16]
  refine gd h (fun g24 h => ?_)
  refine gd h (fun g25 h => ?_)
  refine gd h (fun g26 h => ?_)
  refine gd h (fun g27 h => ?_)
  refine gd h (fun g28 h => ?_)
  refine gd h (fun g29 h => ?_)
  refine gd h (fun g30 h => ?_)
  refine bd h (fun r17 hr17 h => ?_)
  obtain ⟨gr17, er17, fr17⟩ := nwA_inv hr17
  refine Ev_blk 28 (pc' := 228) (ls' := [.ref a0, .retAddr 0]) (st' := [.ref (sX (setR (setJ (setJ (setJ (setJ (setJ (setJ r16.2 r16.1 (nI 0).toNatClampNeg (lN 664997)) r16.1 (nI 1).toNatClampNeg (lN 146885)) r16.1 (nI 2).toNatClampNeg (lN 404362868)) r16.1 (nI 3).toNatClampNeg (lN 403141)) r16.1 (nI 4).toNatClampNeg (lN 215205)) r16.1 (nI 5).toNatClampNeg (lN 17800013413)) a0 31 r16.1)), .ref a0]) (s' := newA (setR (setJ (setJ (setJ (setJ (setJ (setJ r16.2 r16.1 (nI 0).toNatClampNeg (lN 664997)) r16.1 (nI 1).toNatClampNeg (lN 146885)) r16.1 (nI 2).toNatClampNeg (lN 404362868)) r16.1 (nI 3).toNatClampNeg (lN 403141)) r16.1 (nI 4).toNatClampNeg (lN 215205)) r16.1 (nI 5).toNatClampNeg (lN 17800013413)) a0 31 r16.1) 21 (nI 2).toNatClampNeg) rfl ⟨⟨⟨⟨⟨⟨⟨⟨trivial, g24⟩, g25⟩, g26⟩, g27⟩, g28⟩, g29⟩, g30⟩, gr17⟩ ?_
  rw [← fr17, ← er17]
  refine gd h (fun g31 h => ?_)
  refine gd h (fun g32 h => ?_)
  refine gd h (fun g33 h => ?_)
  refine bd h (fun r18 hr18 h => ?_)
  obtain ⟨gr18, er18, fr18⟩ := nwA_inv hr18
  refine Ev_blk 12 (pc' := 248) (ls' := [.ref a0, .retAddr 0]) (st' := [.ref (sX (setR (setJ (setJ r17.2 r17.1 (nI 0).toNatClampNeg (lN 407951539)) r17.1 (nI 1).toNatClampNeg (lN 67155)) a0 32 r17.1)), .ref a0]) (s' := newA (setR (setJ (setJ r17.2 r17.1 (nI 0).toNatClampNeg (lN 407951539)) r17.1 (nI 1).toNatClampNeg (lN 67155)) a0 32 r17.1) 21 (nI 13).toNatClampNeg) rfl ⟨⟨⟨⟨trivial, g31⟩, g32⟩, g33⟩, gr18⟩ ?_
  rw [← fr18, ← er18]
  refine gd h (fun g34 h => ?_)
  refine bd h (fun r19 hr19 h => ?_)
  obtain ⟨gr19, er19, fr19⟩ := nwA_inv hr19
  refine Ev_blk 4 (pc' := 256) (ls' := [.ref a0, .retAddr 0]) (st' := [.ref (sX (setR r18.2 a0 34 r18.1)), .ref a0]) (s' := newA (setR r18.2 a0 34 r18.1) 21 (nI 13).toNatClampNeg) rfl ⟨⟨trivial, g34⟩, gr19⟩ ?_
  rw [← fr19, ← er19]
  refine gd h (fun g35 h => ?_)
  refine bd h (fun r20 hr20 h => ?_)
  obtain ⟨gr20, er20, fr20⟩ := nwA_inv hr20
  refine Ev_blk 4 (pc' := 265) (ls' := [.ref a0, .retAddr 0]) (st' := [.ref (sX (setR r19.2 a0 35 r19.1)), .ref a0]) (s' := newA (setR r19.2 a0 35 r19.1) 21 (nI 400).toNatClampNeg) rfl ⟨⟨trivial, g35⟩, gr20⟩ ?_
  rw [← fr20, ← er20]
  refine gd h (fun g36 h => ?_)
  refine bd h (fun r21 hr21 h => ?_)
  obtain ⟨gr21, er21, fr21⟩ := nwA_inv hr21
  refine Ev_blk 4 (pc' := 273) (ls' := [.ref a0, .retAddr 0]) (st' := [.ref (sX (setR r20.2 a0 36 r20.1)), .ref a0]) (s' := newA (setR r20.2 a0 36 r20.1) 20 (nI 64).toNatClampNeg) rfl ⟨⟨trivial, g36⟩, gr21⟩ ?_
  rw [← fr21, ← er21]
  refine gd h (fun g37 h => ?_)
  refine bd h (fun r22 hr22 h => ?_)
  obtain ⟨gr22, er22, fr22⟩ := nwA_inv hr22
  refine Ev_blk 10 (pc' := 292) (ls' := [.ref a0, .retAddr 0]) (st' := [.ref (sX (setI (setI (setR r21.2 a0 40 r21.1) a0 41 (-(nI 1))) a0 42 (-(nI 1)))), .ref a0]) (s' := newA (setI (setI (setR r21.2 a0 40 r21.1) a0 41 (-(nI 1))) a0 42 (-(nI 1))) 20 (nI 200).toNatClampNeg) rfl ⟨⟨⟨⟨trivial, g37⟩, g37⟩, g37⟩, gr22⟩ ?_
  rw [← fr22, ← er22]
  refine gd h (fun g38 h => ?_)
  refine bd h (fun r23 hr23 h => ?_)
  obtain ⟨gr23, er23, fr23⟩ := nwA_inv hr23
  refine Ev_blk 4 (pc' := 301) (ls' := [.ref a0, .retAddr 0]) (st' := [.ref (sX (setR r22.2 a0 43 r22.1)), .ref a0]) (s' := newA (setR r22.2 a0 43 r22.1) 20 (nI 200).toNatClampNeg) rfl ⟨⟨trivial, g38⟩, gr23⟩ ?_
  rw [← fr23, ← er23]
  refine gd h (fun g39 h => ?_)
  refine bd h (fun r24 hr24 h => ?_)
  obtain ⟨gr24, er24, fr24⟩ := nwA_inv hr24
  refine Ev_blk 4 (pc' := 309) (ls' := [.ref a0, .retAddr 0]) (st' := [.ref (sX (setR r23.2 a0 45 r23.1)), .ref a0]) (s' := newA (setR r23.2 a0 45 r23.1) 21 (nI 21).toNatClampNeg) rfl ⟨⟨trivial, g39⟩, gr24⟩ ?_
  rw [← fr24, ← er24]
  refine gd h (fun g40 h => ?_)
  refine bd h (fun r25 hr25 h => ?_)
  obtain ⟨gr25, er25, fr25⟩ := nwA_inv hr25
  refine Ev_blk 4 (pc' := 316) (ls' := [.ref a0, .retAddr 0]) (st' := [.ref (sX (setR r24.2 a0 47 r24.1)), .ref a0]) (s' := newA (setR r24.2 a0 47 r24.1) 21 (nI 5).toNatClampNeg) rfl ⟨⟨trivial, g40⟩, gr25⟩ ?_
  rw [← fr25, ← er25]
  refine gd h (fun g41 h => ?_)
  refine gd h (fun g42 h => ?_)
  refine gd h (fun g43 h => ?_)
  refine gd h (fun g44 h => ?_)
  refine gd h (fun g45 h => ?_)
  refine gd h (fun g46 h => ?_)
  refine bd h (fun r26 hr26 h => ?_)
  obtain ⟨gr26, er26, fr26⟩ := nwA_inv hr26
  refine Ev_blk 24 (pc' := 354) (ls' := [.ref a0, .retAddr 0]) (st' := [.ref (sX (setR (setJ (setJ (setJ (setJ (setJ r25.2 r25.1 (nI 0).toNatClampNeg (lN 17076)) r25.1 (nI 1).toNatClampNeg (lN 248311)) r25.1 (nI 2).toNatClampNeg (lN 150000)) r25.1 (nI 3).toNatClampNeg (lN 525419)) r25.1 (nI 4).toNatClampNeg (lN 431556)) a0 48 r25.1)), .ref a0]) (s' := newA (setR (setJ (setJ (setJ (setJ (setJ r25.2 r25.1 (nI 0).toNatClampNeg (lN 17076)) r25.1 (nI 1).toNatClampNeg (lN 248311)) r25.1 (nI 2).toNatClampNeg (lN 150000)) r25.1 (nI 3).toNatClampNeg (lN 525419)) r25.1 (nI 4).toNatClampNeg (lN 431556)) a0 48 r25.1) 20 (nI 96).toNatClampNeg) rfl ⟨⟨⟨⟨⟨⟨⟨trivial, g41⟩, g42⟩, g43⟩, g44⟩, g45⟩, g46⟩, gr26⟩ ?_
  rw [← fr26, ← er26]
  refine gd h (fun g47 h => ?_)
  refine bd h (fun r27 hr27 h => ?_)
  obtain ⟨gr27, er27, fr27⟩ := nwA_inv hr27
  refine Ev_blk 7 (pc' := 367) (ls' := [.ref a0, .retAddr 0]) (st' := [.ref (sX (setI (setR r26.2 a0 49 r26.1) a0 52 (-(nI 1)))), .ref a0]) (s' := newA (setI (setR r26.2 a0 49 r26.1) a0 52 (-(nI 1))) 20 (nI 24).toNatClampNeg) rfl ⟨⟨⟨trivial, g47⟩, g47⟩, gr27⟩ ?_
  rw [← fr27, ← er27]
  refine gd h (fun g48 h => ?_)
  refine gd h (fun g49 h => ?_)
  refine gd h (fun g50 h => ?_)
  refine Ev_blk 13 (pc' := 386) (ls' := [.ref a0, .int (nI 0)]) (st' := []) (s' := setI (setI (setR r27.2 a0 55 r27.1) (sR (setR r27.2 a0 55 r27.1) a0 3) (nI 1).toNatClampNeg (-(nI 1))) (sR (setR r27.2 a0 55 r27.1) a0 3) (nI 3).toNatClampNeg (nI 1)) rfl ⟨⟨⟨⟨⟨trivial, g48⟩, g48⟩, g49⟩, g48⟩, g50⟩ ?_
  exact u_M_init_386 h

def b_M_tell_10  (v0 : Nat) (v1 : Int32) (w0 : Int32) (w1 : Nat) (s : AS) : Option (Int32 × AS) :=
  if sT s w1 = 13 then
  if v1 < (nI 0) then
    if sT s v0 = 13 then
    if sT s (sR s v0 2) = 20 ∧ inA (-v1) (sN s (sR s v0 2)) then
    some (v1, setI (setI s w1 1 w0) (sR s v0 2) (-v1).toNatClampNeg ((sI (setI s w1 1 w0) (sR s v0 2) (-v1).toNatClampNeg) + (nI 1)))
    else none
    else none
  else
    some (v1, setI s w1 1 w0)
  else none
theorem t_M_tell_10    {v0 : Nat} {v1 : Int32} {w0 : Int32} {w1 : Nat} {s : AS} {o : Int32 × AS} (h : b_M_tell_10  v0 v1 w0 w1 s = some o) : Ev 0 mZ142 10 [.ref v0, .int v1] [.int w0, .ref w1] s (some (.int o.1), o.2) := by
  unfold b_M_tell_10 at h
  refine gd h (fun g1 h => ?_)
  refine Ev_blk 3 (pc' := if v1 < (nI 0) then 17 else 28) (ls' := [.ref v0, .int v1]) (st' := []) (s' := setI s w1 1 w0) rfl ⟨trivial, g1⟩ ?_
  refine ib h (fun c2 h => ?_) (fun c2 h => ?_)
  · refine gd h (fun g3 h => ?_)
    refine gd h (fun g4 h => ?_)
    refine Ev_blk 10 (pc' := 29) (ls' := [.ref v0, .int v1]) (st' := [.int v1]) (s' := setI (setI s w1 1 w0) (sR s v0 2) (-v1).toNatClampNeg ((sI (setI s w1 1 w0) (sR s v0 2) (-v1).toNatClampNeg) + (nI 1))) rfl ⟨⟨⟨trivial, g3⟩, ⟨Or.inl g4.1, g4.2⟩⟩, g4⟩ ?_
    cases h
    exact Ev_ret rfl trivial
  · refine Ev_blk 1 (pc' := 29) (ls' := [.ref v0, .int v1]) (st' := [.int v1]) (s' := setI s w1 1 w0) rfl trivial ?_
    cases h
    exact Ev_ret rfl trivial
/-- RecordHeapModel.tell(I)I -/
def f_M_tell (s : AS) (a0 : Nat) (a1 : Int32) : Option (Int32 × AS) :=
    b_M_tell_10 a0 a1 (if a1 < (nI 0) then a1 else nI 0) a0 s
theorem t_M_tell {s : AS} {a0 : Nat} {a1 : Int32} {o : Int32 × AS} (h : f_M_tell s a0 a1 = some o) : Ev 0 mZ142 0 [.ref a0, .int a1] [] s (some (.int o.1), o.2) := by
  unfold f_M_tell at h
  refine Ev_blk 3 (pc' := if a1 < (nI 0) then 5 else 9) (ls' := [.ref a0, .int a1]) (st' := [.ref a0]) (s' := s) rfl trivial ?_
  have k1_ : Ev 0 mZ142 10 [.ref a0, .int a1] [.int (if a1 < (nI 0) then a1 else nI 0), .ref a0] s (some (.int o.1), o.2) := by
    exact t_M_tell_10 h
  refine icases (fun c2 => ?_) (fun c2 => ?_)
  · exact Ev_blk 2 (pc' := 10) (ls' := [.ref a0, .int a1]) (st' := [.int a1, .ref a0]) (s' := s) rfl trivial (by simpa only [if_pos c2] using k1_)
  · exact Ev_blk 1 (pc' := 10) (ls' := [.ref a0, .int a1]) (st' := [.int (nI 0), .ref a0]) (s' := s) rfl trivial (by simpa only [if_neg c2] using k1_)

def b_M_putBack_2 (k2 : Nat → Int32 → Int32 → AS → Option AS) (v0 : Nat) (v1 : Int32) (v2 : Int32) (s : AS) : Option AS :=
  if v2 < (nI 816) then
    if sT s v0 = 13 then
    if sT s (sR s v0 6) = 20 ∧ inA (((nI 816) * v1) + v2) (sN s (sR s v0 6)) then
    if sT s (sR s v0 3) = 20 ∧ inA ((nI 5) + v2) (sN s (sR s v0 3)) then
    k2 v0 v1 (v2 + nI 1) (setI s (sR s v0 3) ((nI 5) + v2).toNatClampNeg (sI s (sR s v0 6) (((nI 816) * v1) + v2).toNatClampNeg))
    else none
    else none
    else none
  else
    some s
theorem t_M_putBack_2 {k2 : Nat → Int32 → Int32 → AS → Option AS} (H2 : ∀ {v0 : Nat} {v1 : Int32} {v2 : Int32} {s : AS} {o : AS}, k2 v0 v1 v2 s = some o → Ev 0 mZ143 2 [.ref v0, .int v1, .int v2] [] s (none, o))  {v0 : Nat} {v1 : Int32} {v2 : Int32} {s : AS} {o : AS} (h : b_M_putBack_2 k2 v0 v1 v2 s = some o) : Ev 0 mZ143 2 [.ref v0, .int v1, .int v2] [] s (none, o) := by
  unfold b_M_putBack_2 at h
  refine Ev_blk 3 (pc' := if v2 < (nI 816) then 9 else 35) (ls' := [.ref v0, .int v1, .int v2]) (st' := []) (s' := s) rfl trivial ?_
  refine ib h (fun c1 h => ?_) (fun c1 h => ?_)
  · refine gd h (fun g2 h => ?_)
    refine gd h (fun g3 h => ?_)
    refine gd h (fun g4 h => ?_)
    refine Ev_blk 16 (pc' := 2) (ls' := [.ref v0, .int v1, .int (v2 + nI 1)]) (st' := []) (s' := setI s (sR s v0 3) ((nI 5) + v2).toNatClampNeg (sI s (sR s v0 6) (((nI 816) * v1) + v2).toNatClampNeg)) rfl ⟨⟨⟨⟨trivial, g2⟩, g2⟩, ⟨Or.inl g3.1, g3.2⟩⟩, g4⟩ ?_
    exact H2 h
  · cases h
    exact Ev_ret rfl trivial
def l_M_putBack_2  : Nat → Nat → Int32 → Int32 → AS → Option AS
  | 0 => fun _ _ _ _ => none
  | n + 1 => b_M_putBack_2  (l_M_putBack_2  n)
theorem u_M_putBack_2   {n : Nat} : ∀  {v0 : Nat} {v1 : Int32} {v2 : Int32} {s : AS} {o : AS}, l_M_putBack_2  n v0 v1 v2 s = some o → Ev 0 mZ143 2 [.ref v0, .int v1, .int v2] [] s (none, o) := by
  induction n with
  | zero => intros; rename_i h; cases h
  | succ n ih => intros; rename_i h; exact t_M_putBack_2  (fun h => ih h) h
/-- RecordHeapModel.putBack(I)V -/
def f_M_putBack (s : AS) (a0 : Nat) (a1 : Int32) : Option AS :=
  l_M_putBack_2 fuel a0 a1 (nI 0) s
theorem t_M_putBack {s : AS} {a0 : Nat} {a1 : Int32} {o : AS} (h : f_M_putBack s a0 a1 = some o) : Ev 0 mZ143 0 [.ref a0, .int a1, .retAddr 0] [] s (none, o) := by
  unfold f_M_putBack at h
  refine Ev_blk 2 (pc' := 2) (ls' := [.ref a0, .int a1, .int (nI 0)]) (st' := []) (s' := s) rfl trivial ?_
  exact u_M_putBack_2 h

/-- RecordHeapModel.undo()I -/
def f_M_undo (s : AS) (a0 : Nat) : Option (Int32 × AS) :=
  if sT s a0 = 13 then
  if (sI (setI s a0 0 (nI 0)) a0 8) = (nI 0) then
    (f_M_tell (setI s a0 0 (nI 0)) a0 (-(nI 3))).bind fun r1 =>
    some (r1.1, r1.2)
  else
    (f_M_putBack (setI (setI s a0 0 (nI 0)) a0 8 ((sI (setI s a0 0 (nI 0)) a0 8) - (nI 1))) a0 (sI (setI (setI s a0 0 (nI 0)) a0 8 ((sI (setI s a0 0 (nI 0)) a0 8) - (nI 1))) a0 8)).bind fun r2 =>
    if sT r2 a0 = 13 then
    if sT r2 (sR r2 a0 7) = 20 ∧ inA (sI r2 a0 8) (sN r2 (sR r2 a0 7)) then
    (f_M_tell r2 a0 (sI r2 (sR r2 a0 7) (sI r2 a0 8).toNatClampNeg)).bind fun r3 =>
    some (r3.1, r3.2)
    else none
    else none
  else none
theorem t_M_undo {s : AS} {a0 : Nat} {o : Int32 × AS} (h : f_M_undo s a0 = some o) : Ev 1 mZ141 0 [.ref a0] [] s (some (.int o.1), o.2) := by
  unfold f_M_undo at h
  refine gd h (fun g1 h => ?_)
  refine Ev_blk 6 (pc' := if (sI (setI s a0 0 (nI 0)) a0 8) = (nI 0) then 12 else 19) (ls' := [.ref a0]) (st' := []) (s' := setI s a0 0 (nI 0)) rfl ⟨⟨trivial, g1⟩, g1⟩ ?_
  refine ib h (fun c2 h => ?_) (fun c2 h => ?_)
  · refine Ev_blk 2 (pc' := 15) (ls' := [.ref a0]) (st' := [.int (-(nI 3)), .ref a0]) (s' := setI s a0 0 (nI 0)) rfl trivial ?_
    refine bd h (fun r1 hr1 h => ?_)
    refine Ev_call 2 142 1 [.ref a0, .int (-(nI 3))] [] rfl rfl rfl rfl g1 rfl rfl (Nat.le_of_ble_eq_true rfl) (t_M_tell hr1) ?_
    cases h
    exact Ev_ret rfl trivial
  · refine Ev_blk 9 (pc' := 34) (ls' := [.ref a0]) (st' := [.int (sI (setI (setI s a0 0 (nI 0)) a0 8 ((sI (setI s a0 0 (nI 0)) a0 8) - (nI 1))) a0 8), .ref a0]) (s' := setI (setI s a0 0 (nI 0)) a0 8 ((sI (setI s a0 0 (nI 0)) a0 8) - (nI 1))) rfl ⟨⟨⟨trivial, g1⟩, g1⟩, g1⟩ ?_
    refine bd h (fun r2 hr2 h => ?_)
    refine Ev_call 2 143 1 [.ref a0, .int (sI (setI (setI s a0 0 (nI 0)) a0 8 ((sI (setI s a0 0 (nI 0)) a0 8) - (nI 1))) a0 8)] [] rfl rfl rfl rfl g1 rfl rfl (Nat.le_of_ble_eq_true rfl) (t_M_putBack hr2) ?_
    refine gd h (fun g3 h => ?_)
    refine gd h (fun g4 h => ?_)
    refine Ev_blk 6 (pc' := 47) (ls' := [.ref a0]) (st' := [.int (sI r2 (sR r2 a0 7) (sI r2 a0 8).toNatClampNeg), .ref a0]) (s' := r2) rfl ⟨⟨⟨trivial, g3⟩, g3⟩, ⟨Or.inl g4.1, g4.2⟩⟩ ?_
    refine bd h (fun r3 hr3 h => ?_)
    refine Ev_call 2 142 1 [.ref a0, .int (sI r2 (sR r2 a0 7) (sI r2 a0 8).toNatClampNeg)] [] rfl rfl rfl rfl g3 rfl rfl (Nat.le_of_ble_eq_true rfl) (t_M_tell hr3) ?_
    cases h
    exact Ev_ret rfl trivial

/-- RecordHeapModel.in(JJJ)Z -/
def f_M_in (s : AS) (a0 : Int64) (a1 : Int64) (a2 : Int64) : Option Int32 :=
    some (if (lg_cmp a0 a1) < (nI 0) then nI 0 else (if (nI 0) < (lg_cmp a0 a2) then nI 0 else nI 1))
theorem t_M_in {s : AS} {a0 : Int64} {a1 : Int64} {a2 : Int64} {o : Int32} (h : f_M_in s a0 a1 a2 = some o) : Ev 0 mZ145 0 [.long a0, .retAddr 0, .long a1, .retAddr 0, .long a2, .retAddr 0] [] s (some (.int o), s) := by
  unfold f_M_in at h
  refine Ev_blk 4 (pc' := if (lg_cmp a0 a1) < (nI 0) then 17 else 6) (ls' := [.long a0, .retAddr 0, .long a1, .retAddr 0, .long a2, .retAddr 0]) (st' := []) (s' := s) rfl trivial ?_
  have k1_ : Ev 0 mZ145 18 [.long a0, .retAddr 0, .long a1, .retAddr 0, .long a2, .retAddr 0] [.int (if (lg_cmp a0 a1) < (nI 0) then nI 0 else (if (nI 0) < (lg_cmp a0 a2) then nI 0 else nI 1))] s (some (.int o), s) := by
    cases h
    exact Ev_ret rfl (by (repeat' split) <;> first | exact Or.inl rfl | exact Or.inr rfl)
  refine icases (fun c2 => ?_) (fun c2 => ?_)
  · exact Ev_blk 1 (pc' := 18) (ls' := [.long a0, .retAddr 0, .long a1, .retAddr 0, .long a2, .retAddr 0]) (st' := [.int (nI 0)]) (s' := s) rfl trivial (by simpa only [if_pos c2] using k1_)
  · refine Ev_blk 4 (pc' := if (nI 0) < (lg_cmp a0 a2) then 17 else 13) (ls' := [.long a0, .retAddr 0, .long a1, .retAddr 0, .long a2, .retAddr 0]) (st' := []) (s' := s) rfl trivial ?_
    refine icases (fun c3 => ?_) (fun c3 => ?_)
    · exact Ev_blk 1 (pc' := 18) (ls' := [.long a0, .retAddr 0, .long a1, .retAddr 0, .long a2, .retAddr 0]) (st' := [.int (nI 0)]) (s' := s) rfl trivial (by simpa only [if_neg c2, if_pos c3] using k1_)
    · exact Ev_blk 2 (pc' := 18) (ls' := [.long a0, .retAddr 0, .long a1, .retAddr 0, .long a2, .retAddr 0]) (st' := [.int (nI 1)]) (s' := s) rfl trivial (by simpa only [if_neg c2, if_neg c3] using k1_)

def b_M_image_23 (k23 : Nat → Int32 → Int32 → AS → Option (Int32 × AS)) (v0 : Nat) (v1 : Int32) (v2 : Int32) (s : AS) : Option (Int32 × AS) :=
  if v2 < (nI 6221) then
    if sT s v0 = 13 then
    if sT s (sR s v0 3) = 20 ∧ inA v2 (sN s (sR s v0 3)) then
    if sT s (sR s v0 4) = 20 ∧ inA (((nI 6221) * v1) + v2) (sN s (sR s v0 4)) then
    k23 v0 v1 (v2 + nI 1) (setI s (sR s v0 4) (((nI 6221) * v1) + v2).toNatClampNeg (sI s (sR s v0 3) v2.toNatClampNeg))
    else none
    else none
    else none
  else
    if sT s v0 = 13 then
    if (sT s (sR s v0 5) = 22 ∧ inA v1 (sN s (sR s v0 5))) ∧ ((nI 1) = nI 0 ∨ (nI 1) = nI 1) then
    (f_M_tell (setI s (sR s v0 5) v1.toNatClampNeg (nI 1)) v0 (nI 0)).bind fun r1 =>
    some (r1.1, r1.2)
    else none
    else none
theorem t_M_image_23 {k23 : Nat → Int32 → Int32 → AS → Option (Int32 × AS)} (H23 : ∀ {v0 : Nat} {v1 : Int32} {v2 : Int32} {s : AS} {o : Int32 × AS}, k23 v0 v1 v2 s = some o → Ev 1 mZ144 23 [.ref v0, .int v1, .int v2] [] s (some (.int o.1), o.2))  {v0 : Nat} {v1 : Int32} {v2 : Int32} {s : AS} {o : Int32 × AS} (h : b_M_image_23 k23 v0 v1 v2 s = some o) : Ev 1 mZ144 23 [.ref v0, .int v1, .int v2] [] s (some (.int o.1), o.2) := by
  unfold b_M_image_23 at h
  refine Ev_blk 3 (pc' := if v2 < (nI 6221) then 30 else 54) (ls' := [.ref v0, .int v1, .int v2]) (st' := []) (s' := s) rfl trivial ?_
  refine ib h (fun c1 h => ?_) (fun c1 h => ?_)
  · refine gd h (fun g2 h => ?_)
    refine gd h (fun g3 h => ?_)
    refine gd h (fun g4 h => ?_)
    refine Ev_blk 14 (pc' := 23) (ls' := [.ref v0, .int v1, .int (v2 + nI 1)]) (st' := []) (s' := setI s (sR s v0 4) (((nI 6221) * v1) + v2).toNatClampNeg (sI s (sR s v0 3) v2.toNatClampNeg)) rfl ⟨⟨⟨⟨trivial, g2⟩, g2⟩, ⟨Or.inl g3.1, g3.2⟩⟩, g4⟩ ?_
    exact H23 h
  · refine gd h (fun g5 h => ?_)
    refine gd h (fun g6 h => ?_)
    refine Ev_blk 7 (pc' := 63) (ls' := [.ref v0, .int v1, .int v2]) (st' := [.int (nI 0), .ref v0]) (s' := setI s (sR s v0 5) v1.toNatClampNeg (nI 1)) rfl ⟨⟨trivial, g5⟩, g6⟩ ?_
    refine bd h (fun r1 hr1 h => ?_)
    refine Ev_call 2 142 1 [.ref v0, .int (nI 0)] [] rfl rfl rfl rfl g5 rfl rfl (Nat.le_of_ble_eq_true rfl) (t_M_tell hr1) ?_
    cases h
    exact Ev_ret rfl trivial
def l_M_image_23  : Nat → Nat → Int32 → Int32 → AS → Option (Int32 × AS)
  | 0 => fun _ _ _ _ => none
  | n + 1 => b_M_image_23  (l_M_image_23  n)
theorem u_M_image_23   {n : Nat} : ∀  {v0 : Nat} {v1 : Int32} {v2 : Int32} {s : AS} {o : Int32 × AS}, l_M_image_23  n v0 v1 v2 s = some o → Ev 1 mZ144 23 [.ref v0, .int v1, .int v2] [] s (some (.int o.1), o.2) := by
  induction n with
  | zero => intros; rename_i h; cases h
  | succ n ih => intros; rename_i h; exact t_M_image_23  (fun h => ih h) h
/-- RecordHeapModel.image(I)I -/
def f_M_image (s : AS) (a0 : Nat) (a1 : Int32) : Option (Int32 × AS) :=
  if sT s a0 = 13 then
  (f_M_in (setI s a0 0 (nI 0)) a1.toInt64 (lN 0) (lN 1)).bind fun r1 =>
  if r1 = (nI 0) then
    (f_M_tell (setI s a0 0 (nI 0)) a0 (-(nI 1))).bind fun r2 =>
    some (r2.1, r2.2)
  else
    l_M_image_23 fuel a0 a1 (nI 0) (setI s a0 0 (nI 0))
  else none
theorem t_M_image {s : AS} {a0 : Nat} {a1 : Int32} {o : Int32 × AS} (h : f_M_image s a0 a1 = some o) : Ev 1 mZ144 0 [.ref a0, .int a1, .retAddr 0] [] s (some (.int o.1), o.2) := by
  unfold f_M_image at h
  refine gd h (fun g1 h => ?_)
  refine Ev_blk 7 (pc' := 9) (ls' := [.ref a0, .int a1, .retAddr 0]) (st' := [.long (lN 1), .long (lN 0), .long a1.toInt64]) (s' := setI s a0 0 (nI 0)) rfl ⟨trivial, g1⟩ ?_
  refine bd h (fun r1 hr1 h => ?_)
  refine Ev_call 1 145 3 [.long a1.toInt64, .long (lN 0), .long (lN 1)] [] rfl rfl rfl rfl trivial rfl rfl (Nat.le_of_ble_eq_true rfl) (t_M_in hr1) ?_
  refine Ev_blk 1 (pc' := if r1 = (nI 0) then 15 else 21) (ls' := [.ref a0, .int a1, .retAddr 0]) (st' := []) (s' := setI s a0 0 (nI 0)) rfl trivial ?_
  refine ib h (fun c2 h => ?_) (fun c2 h => ?_)
  · refine Ev_blk 2 (pc' := 17) (ls' := [.ref a0, .int a1, .retAddr 0]) (st' := [.int (-(nI 1)), .ref a0]) (s' := setI s a0 0 (nI 0)) rfl trivial ?_
    refine bd h (fun r2 hr2 h => ?_)
    refine Ev_call 2 142 1 [.ref a0, .int (-(nI 1))] [] rfl rfl rfl rfl g1 rfl rfl (Nat.le_of_ble_eq_true rfl) (t_M_tell hr2) ?_
    cases h
    exact Ev_ret rfl trivial
  · refine Ev_blk 2 (pc' := 23) (ls' := [.ref a0, .int a1, .int (nI 0)]) (st' := []) (s' := setI s a0 0 (nI 0)) rfl trivial ?_
    exact u_M_image_23 h

def b_M_back_39 (k39 : Nat → Int32 → Int32 → AS → Option (Int32 × AS)) (v0 : Nat) (v1 : Int32) (v2 : Int32) (s : AS) : Option (Int32 × AS) :=
  if v2 < (nI 6221) then
    if sT s v0 = 13 then
    if sT s (sR s v0 4) = 20 ∧ inA (((nI 6221) * v1) + v2) (sN s (sR s v0 4)) then
    if sT s (sR s v0 3) = 20 ∧ inA v2 (sN s (sR s v0 3)) then
    k39 v0 v1 (v2 + nI 1) (setI s (sR s v0 3) v2.toNatClampNeg (sI s (sR s v0 4) (((nI 6221) * v1) + v2).toNatClampNeg))
    else none
    else none
    else none
  else
    if sT s v0 = 13 then
    (f_M_tell (setI s v0 8 (nI 0)) v0 (nI 0)).bind fun r1 =>
    some (r1.1, r1.2)
    else none
theorem t_M_back_39 {k39 : Nat → Int32 → Int32 → AS → Option (Int32 × AS)} (H39 : ∀ {v0 : Nat} {v1 : Int32} {v2 : Int32} {s : AS} {o : Int32 × AS}, k39 v0 v1 v2 s = some o → Ev 1 mZ146 39 [.ref v0, .int v1, .int v2] [] s (some (.int o.1), o.2))  {v0 : Nat} {v1 : Int32} {v2 : Int32} {s : AS} {o : Int32 × AS} (h : b_M_back_39 k39 v0 v1 v2 s = some o) : Ev 1 mZ146 39 [.ref v0, .int v1, .int v2] [] s (some (.int o.1), o.2) := by
  unfold b_M_back_39 at h
  refine Ev_blk 3 (pc' := if v2 < (nI 6221) then 46 else 70) (ls' := [.ref v0, .int v1, .int v2]) (st' := []) (s' := s) rfl trivial ?_
  refine ib h (fun c1 h => ?_) (fun c1 h => ?_)
  · refine gd h (fun g2 h => ?_)
    refine gd h (fun g3 h => ?_)
    refine gd h (fun g4 h => ?_)
    refine Ev_blk 14 (pc' := 39) (ls' := [.ref v0, .int v1, .int (v2 + nI 1)]) (st' := []) (s' := setI s (sR s v0 3) v2.toNatClampNeg (sI s (sR s v0 4) (((nI 6221) * v1) + v2).toNatClampNeg)) rfl ⟨⟨⟨⟨trivial, g2⟩, g2⟩, ⟨Or.inl g3.1, g3.2⟩⟩, g4⟩ ?_
    exact H39 h
  · refine gd h (fun g5 h => ?_)
    refine Ev_blk 5 (pc' := 77) (ls' := [.ref v0, .int v1, .int v2]) (st' := [.int (nI 0), .ref v0]) (s' := setI s v0 8 (nI 0)) rfl ⟨trivial, g5⟩ ?_
    refine bd h (fun r1 hr1 h => ?_)
    refine Ev_call 2 142 1 [.ref v0, .int (nI 0)] [] rfl rfl rfl rfl g5 rfl rfl (Nat.le_of_ble_eq_true rfl) (t_M_tell hr1) ?_
    cases h
    exact Ev_ret rfl trivial
def l_M_back_39  : Nat → Nat → Int32 → Int32 → AS → Option (Int32 × AS)
  | 0 => fun _ _ _ _ => none
  | n + 1 => b_M_back_39  (l_M_back_39  n)
theorem u_M_back_39   {n : Nat} : ∀  {v0 : Nat} {v1 : Int32} {v2 : Int32} {s : AS} {o : Int32 × AS}, l_M_back_39  n v0 v1 v2 s = some o → Ev 1 mZ146 39 [.ref v0, .int v1, .int v2] [] s (some (.int o.1), o.2) := by
  induction n with
  | zero => intros; rename_i h; cases h
  | succ n ih => intros; rename_i h; exact t_M_back_39  (fun h => ih h) h
/-- RecordHeapModel.back(I)I -/
def f_M_back (s : AS) (a0 : Nat) (a1 : Int32) : Option (Int32 × AS) :=
  if sT s a0 = 13 then
  (f_M_in (setI s a0 0 (nI 0)) a1.toInt64 (lN 0) (lN 1)).bind fun r1 =>
  if r1 = (nI 0) then
    (f_M_tell (setI s a0 0 (nI 0)) a0 (-(nI 1))).bind fun r2 =>
    some (r2.1, r2.2)
  else
    if sT s (sR s a0 5) = 22 ∧ inA a1 (sN s (sR s a0 5)) then
    if (sI (setI s a0 0 (nI 0)) (sR s a0 5) a1.toNatClampNeg) = (nI 0) then
      (f_M_tell (setI s a0 0 (nI 0)) a0 (-(nI 2))).bind fun r3 =>
      some (r3.1, r3.2)
    else
      l_M_back_39 fuel a0 a1 (nI 0) (setI s a0 0 (nI 0))
    else none
  else none
theorem t_M_back {s : AS} {a0 : Nat} {a1 : Int32} {o : Int32 × AS} (h : f_M_back s a0 a1 = some o) : Ev 1 mZ146 0 [.ref a0, .int a1, .retAddr 0] [] s (some (.int o.1), o.2) := by
  unfold f_M_back at h
  refine gd h (fun g1 h => ?_)
  refine Ev_blk 7 (pc' := 9) (ls' := [.ref a0, .int a1, .retAddr 0]) (st' := [.long (lN 1), .long (lN 0), .long a1.toInt64]) (s' := setI s a0 0 (nI 0)) rfl ⟨trivial, g1⟩ ?_
  refine bd h (fun r1 hr1 h => ?_)
  refine Ev_call 1 145 3 [.long a1.toInt64, .long (lN 0), .long (lN 1)] [] rfl rfl rfl rfl trivial rfl rfl (Nat.le_of_ble_eq_true rfl) (t_M_in hr1) ?_
  refine Ev_blk 1 (pc' := if r1 = (nI 0) then 15 else 21) (ls' := [.ref a0, .int a1, .retAddr 0]) (st' := []) (s' := setI s a0 0 (nI 0)) rfl trivial ?_
  refine ib h (fun c2 h => ?_) (fun c2 h => ?_)
  · refine Ev_blk 2 (pc' := 17) (ls' := [.ref a0, .int a1, .retAddr 0]) (st' := [.int (-(nI 1)), .ref a0]) (s' := setI s a0 0 (nI 0)) rfl trivial ?_
    refine bd h (fun r2 hr2 h => ?_)
    refine Ev_call 2 142 1 [.ref a0, .int (-(nI 1))] [] rfl rfl rfl rfl g1 rfl rfl (Nat.le_of_ble_eq_true rfl) (t_M_tell hr2) ?_
    cases h
    exact Ev_ret rfl trivial
  · refine gd h (fun g3 h => ?_)
    refine Ev_blk 5 (pc' := if (sI (setI s a0 0 (nI 0)) (sR s a0 5) a1.toNatClampNeg) = (nI 0) then 30 else 37) (ls' := [.ref a0, .int a1, .retAddr 0]) (st' := []) (s' := setI s a0 0 (nI 0)) rfl ⟨⟨trivial, g1⟩, g3⟩ ?_
    refine ib h (fun c4 h => ?_) (fun c4 h => ?_)
    · refine Ev_blk 2 (pc' := 33) (ls' := [.ref a0, .int a1, .retAddr 0]) (st' := [.int (-(nI 2)), .ref a0]) (s' := setI s a0 0 (nI 0)) rfl trivial ?_
      refine bd h (fun r3 hr3 h => ?_)
      refine Ev_call 2 142 1 [.ref a0, .int (-(nI 2))] [] rfl rfl rfl rfl g1 rfl rfl (Nat.le_of_ble_eq_true rfl) (t_M_tell hr3) ?_
      cases h
      exact Ev_ret rfl trivial
    · refine Ev_blk 2 (pc' := 39) (ls' := [.ref a0, .int a1, .int (nI 0)]) (st' := []) (s' := setI s a0 0 (nI 0)) rfl trivial ?_
      exact u_M_back_39 h

/-- RecordHeapModel.change(II)I -/
def f_M_change (s : AS) (a0 : Nat) (a1 : Int32) (a2 : Int32) : Option (Int32 × AS) :=
  if sT s a0 = 13 then
  if sT s (sR s a0 3) = 20 ∧ inA a1 (sN s (sR s a0 3)) then
  some (sI s (sR s a0 3) a1.toNatClampNeg, setI (setI s (sR s a0 3) a1.toNatClampNeg a2) a0 1 (nI 0))
  else none
  else none
theorem t_M_change {s : AS} {a0 : Nat} {a1 : Int32} {a2 : Int32} {o : Int32 × AS} (h : f_M_change s a0 a1 a2 = some o) : Ev 0 mZ148 0 [.ref a0, .int a1, .int a2, .retAddr 0] [] s (some (.int o.1), o.2) := by
  unfold f_M_change at h
  refine gd h (fun g1 h => ?_)
  refine gd h (fun g2 h => ?_)
  refine Ev_blk 14 (pc' := 20) (ls' := [.ref a0, .int a1, .int a2, .int (sI s (sR s a0 3) a1.toNatClampNeg)]) (st' := [.int (sI s (sR s a0 3) a1.toNatClampNeg)]) (s' := setI (setI s (sR s a0 3) a1.toNatClampNeg a2) a0 1 (nI 0)) rfl ⟨⟨⟨⟨⟨trivial, g1⟩, ⟨Or.inl g2.1, g2.2⟩⟩, g1⟩, g2⟩, g1⟩ ?_
  cases h
  exact Ev_ret rfl trivial

def b_M_terms_60  (v0 : Nat) (v1 : Int32) (v2 : Int32) (w0 : Int32) (s : AS) : Option (Int32 × AS) :=
  if w0 = (nI 0) then
    if sT s v0 = 13 then
    (f_M_tell s v0 (-(nI 1))).bind fun r1 =>
    some (r1.1, r1.2)
    else none
  else
    if sT s v0 = 13 then
    (f_M_change s v0 ((nI 2) + v1) v2).bind fun r2 =>
    some (r2.1, r2.2)
    else none
theorem t_M_terms_60   {d3 : Value} {v0 : Nat} {v1 : Int32} {v2 : Int32} {w0 : Int32} {s : AS} {o : Int32 × AS} (h : b_M_terms_60  v0 v1 v2 w0 s = some o) : Ev 1 mZ147 60 [.ref v0, .int v1, .int v2, d3] [.int w0] s (some (.int o.1), o.2) := by
  unfold b_M_terms_60 at h
  refine Ev_blk 3 (pc' := if w0 = (nI 0) then 76 else 65) (ls' := [.ref v0, .int v1, .int v2, .int w0]) (st' := []) (s' := s) rfl trivial ?_
  refine ib h (fun c1 h => ?_) (fun c1 h => ?_)
  · refine gd h (fun g2 h => ?_)
    refine Ev_blk 2 (pc' := 78) (ls' := [.ref v0, .int v1, .int v2, .int w0]) (st' := [.int (-(nI 1)), .ref v0]) (s' := s) rfl trivial ?_
    refine bd h (fun r1 hr1 h => ?_)
    refine Ev_call 2 142 1 [.ref v0, .int (-(nI 1))] [] rfl rfl rfl rfl g2 rfl rfl (Nat.le_of_ble_eq_true rfl) (t_M_tell hr1) ?_
    cases h
    exact Ev_ret rfl trivial
  · refine gd h (fun g3 h => ?_)
    refine Ev_blk 5 (pc' := 70) (ls' := [.ref v0, .int v1, .int v2, .int w0]) (st' := [.int v2, .int ((nI 2) + v1), .ref v0]) (s' := s) rfl trivial ?_
    refine bd h (fun r2 hr2 h => ?_)
    refine Ev_call 2 148 2 [.ref v0, .int ((nI 2) + v1), .int v2] [] rfl rfl rfl rfl g3 rfl rfl (Nat.le_of_ble_eq_true rfl) (t_M_change hr2) ?_
    refine Ev_blk 1 (pc' := 81) (ls' := [.ref v0, .int v1, .int v2, .int w0]) (st' := [.int r2.1]) (s' := r2.2) rfl trivial ?_
    cases h
    exact Ev_ret rfl trivial
def b_M_terms_59  (v0 : Nat) (v1 : Int32) (v2 : Int32) (s : AS) : Option (Int32 × AS) :=
  b_M_terms_60 v0 v1 v2 (nI 0) s
theorem t_M_terms_59   {d3 : Value} {v0 : Nat} {v1 : Int32} {v2 : Int32} {s : AS} {o : Int32 × AS} (h : b_M_terms_59  v0 v1 v2 s = some o) : Ev 1 mZ147 59 [.ref v0, .int v1, .int v2, d3] [] s (some (.int o.1), o.2) := by
  unfold b_M_terms_59 at h
  refine Ev_blk 1 (pc' := 60) (ls' := [.ref v0, .int v1, .int v2, d3]) (st' := [.int (nI 0)]) (s' := s) rfl trivial ?_
  exact t_M_terms_60 h
/-- RecordHeapModel.terms(II)I -/
def f_M_terms (s : AS) (a0 : Nat) (a1 : Int32) (a2 : Int32) : Option (Int32 × AS) :=
  if sT s a0 = 13 then
  if a1 = (nI 0) then
    (f_M_in (setI s a0 0 (nI 0)) a2.toInt64 (lN 0) (lN 999)).bind fun r1 =>
    b_M_terms_60 a0 a1 a2 r1 (setI s a0 0 (nI 0))
  else
    if a1 = (nI 1) then
      (f_M_in (setI s a0 0 (nI 0)) a2.toInt64 (lN 0) (lN 10)).bind fun r2 =>
      b_M_terms_60 a0 a1 a2 r2 (setI s a0 0 (nI 0))
    else
      if a1 = (nI 2) then
        (f_M_in (setI s a0 0 (nI 0)) a2.toInt64 (lN 0) (lN 9)).bind fun r3 =>
          b_M_terms_60 a0 a1 a2 (if r3 = (nI 0) then nI 0 else nI 1) (setI s a0 0 (nI 0))
      else
        b_M_terms_59 a0 a1 a2 (setI s a0 0 (nI 0))
  else none
theorem t_M_terms {s : AS} {a0 : Nat} {a1 : Int32} {a2 : Int32} {o : Int32 × AS} (h : f_M_terms s a0 a1 a2 = some o) : Ev 1 mZ147 0 [.ref a0, .int a1, .int a2, .retAddr 0] [] s (some (.int o.1), o.2) := by
  unfold f_M_terms at h
  refine gd h (fun g1 h => ?_)
  refine Ev_blk 5 (pc' := if a1 = (nI 0) then 9 else 21) (ls' := [.ref a0, .int a1, .int a2, .retAddr 0]) (st' := []) (s' := setI s a0 0 (nI 0)) rfl ⟨trivial, g1⟩ ?_
  refine ib h (fun c2 h => ?_) (fun c2 h => ?_)
  · refine Ev_blk 4 (pc' := 15) (ls' := [.ref a0, .int a1, .int a2, .retAddr 0]) (st' := [.long (lN 999), .long (lN 0), .long a2.toInt64]) (s' := setI s a0 0 (nI 0)) rfl trivial ?_
    refine bd h (fun r1 hr1 h => ?_)
    refine Ev_call 1 145 3 [.long a2.toInt64, .long (lN 0), .long (lN 999)] [] rfl rfl rfl rfl trivial rfl rfl (Nat.le_of_ble_eq_true rfl) (t_M_in hr1) ?_
    refine Ev_blk 1 (pc' := 60) (ls' := [.ref a0, .int a1, .int a2, .retAddr 0]) (st' := [.int r1]) (s' := setI s a0 0 (nI 0)) rfl trivial ?_
    exact t_M_terms_60 h
  · refine Ev_blk 3 (pc' := if a1 = (nI 1) then 26 else 38) (ls' := [.ref a0, .int a1, .int a2, .retAddr 0]) (st' := []) (s' := setI s a0 0 (nI 0)) rfl trivial ?_
    refine ib h (fun c3 h => ?_) (fun c3 h => ?_)
    · refine Ev_blk 4 (pc' := 32) (ls' := [.ref a0, .int a1, .int a2, .retAddr 0]) (st' := [.long (lN 10), .long (lN 0), .long a2.toInt64]) (s' := setI s a0 0 (nI 0)) rfl trivial ?_
      refine bd h (fun r2 hr2 h => ?_)
      refine Ev_call 1 145 3 [.long a2.toInt64, .long (lN 0), .long (lN 10)] [] rfl rfl rfl rfl trivial rfl rfl (Nat.le_of_ble_eq_true rfl) (t_M_in hr2) ?_
      refine Ev_blk 1 (pc' := 60) (ls' := [.ref a0, .int a1, .int a2, .retAddr 0]) (st' := [.int r2]) (s' := setI s a0 0 (nI 0)) rfl trivial ?_
      exact t_M_terms_60 h
    · refine Ev_blk 3 (pc' := if a1 = (nI 2) then 43 else 59) (ls' := [.ref a0, .int a1, .int a2, .retAddr 0]) (st' := []) (s' := setI s a0 0 (nI 0)) rfl trivial ?_
      refine ib h (fun c4 h => ?_) (fun c4 h => ?_)
      · refine Ev_blk 4 (pc' := 49) (ls' := [.ref a0, .int a1, .int a2, .retAddr 0]) (st' := [.long (lN 9), .long (lN 0), .long a2.toInt64]) (s' := setI s a0 0 (nI 0)) rfl trivial ?_
        refine bd h (fun r3 hr3 h => ?_)
        refine Ev_call 1 145 3 [.long a2.toInt64, .long (lN 0), .long (lN 9)] [] rfl rfl rfl rfl trivial rfl rfl (Nat.le_of_ble_eq_true rfl) (t_M_in hr3) ?_
        refine Ev_blk 1 (pc' := if r3 = (nI 0) then 59 else 55) (ls' := [.ref a0, .int a1, .int a2, .retAddr 0]) (st' := []) (s' := setI s a0 0 (nI 0)) rfl trivial ?_
        have k5_ : Ev 1 mZ147 60 [.ref a0, .int a1, .int a2, .retAddr 0] [.int (if r3 = (nI 0) then nI 0 else nI 1)] (setI s a0 0 (nI 0)) (some (.int o.1), o.2) := by
          exact t_M_terms_60 h
        refine icases (fun c6 => ?_) (fun c6 => ?_)
        · exact Ev_blk 1 (pc' := 60) (ls' := [.ref a0, .int a1, .int a2, .retAddr 0]) (st' := [.int (nI 0)]) (s' := setI s a0 0 (nI 0)) rfl trivial (by simpa only [if_pos c6] using k5_)
        · exact Ev_blk 2 (pc' := 60) (ls' := [.ref a0, .int a1, .int a2, .retAddr 0]) (st' := [.int (nI 1)]) (s' := setI s a0 0 (nI 0)) rfl trivial (by simpa only [if_neg c6] using k5_)
      · exact t_M_terms_59 h

def b_M_four_3 (k3 : Nat → Int32 → Int32 → AS → Option AS) (v0 : Nat) (v1 : Int32) (v2 : Int32) (s : AS) : Option AS :=
  if v2 < (nI 0) then
    some s
  else
    if sT s v0 = 13 then
    if sT s (sR s v0 11) = 20 ∧ inA (sI s v0 12) (sN s (sR s v0 11)) then
    k3 v0 v1 (v2 + (-(nI 8))) (setI (setI s (sR s v0 11) (sI s v0 12).toNatClampNeg ((v1 >>> (v2 &&& 31)) &&& (nI 255))) v0 12 ((sI (setI s (sR s v0 11) (sI s v0 12).toNatClampNeg ((v1 >>> (v2 &&& 31)) &&& (nI 255))) v0 12) + (nI 1)))
    else none
    else none
theorem t_M_four_3 {k3 : Nat → Int32 → Int32 → AS → Option AS} (H3 : ∀ {v0 : Nat} {v1 : Int32} {v2 : Int32} {s : AS} {o : AS}, k3 v0 v1 v2 s = some o → Ev 0 mZ150 3 [.ref v0, .int v1, .int v2] [] s (none, o))  {v0 : Nat} {v1 : Int32} {v2 : Int32} {s : AS} {o : AS} (h : b_M_four_3 k3 v0 v1 v2 s = some o) : Ev 0 mZ150 3 [.ref v0, .int v1, .int v2] [] s (none, o) := by
  unfold b_M_four_3 at h
  refine Ev_blk 2 (pc' := if v2 < (nI 0) then 39 else 7) (ls' := [.ref v0, .int v1, .int v2]) (st' := []) (s' := s) rfl trivial ?_
  refine ib h (fun c1 h => ?_) (fun c1 h => ?_)
  · cases h
    exact Ev_ret rfl trivial
  · refine gd h (fun g2 h => ?_)
    refine gd h (fun g3 h => ?_)
    refine Ev_blk 18 (pc' := 3) (ls' := [.ref v0, .int v1, .int (v2 + (-(nI 8)))]) (st' := []) (s' := setI (setI s (sR s v0 11) (sI s v0 12).toNatClampNeg ((v1 >>> (v2 &&& 31)) &&& (nI 255))) v0 12 ((sI (setI s (sR s v0 11) (sI s v0 12).toNatClampNeg ((v1 >>> (v2 &&& 31)) &&& (nI 255))) v0 12) + (nI 1))) rfl ⟨⟨⟨⟨⟨trivial, g2⟩, g2⟩, g3⟩, g2⟩, g2⟩ ?_
    exact H3 h
def l_M_four_3  : Nat → Nat → Int32 → Int32 → AS → Option AS
  | 0 => fun _ _ _ _ => none
  | n + 1 => b_M_four_3  (l_M_four_3  n)
theorem u_M_four_3   {n : Nat} : ∀  {v0 : Nat} {v1 : Int32} {v2 : Int32} {s : AS} {o : AS}, l_M_four_3  n v0 v1 v2 s = some o → Ev 0 mZ150 3 [.ref v0, .int v1, .int v2] [] s (none, o) := by
  induction n with
  | zero => intros; rename_i h; cases h
  | succ n ih => intros; rename_i h; exact t_M_four_3  (fun h => ih h) h
/-- RecordHeapModel.four(I)V -/
def f_M_four (s : AS) (a0 : Nat) (a1 : Int32) : Option AS :=
  l_M_four_3 fuel a0 a1 (nI 24) s
theorem t_M_four {s : AS} {a0 : Nat} {a1 : Int32} {o : AS} (h : f_M_four s a0 a1 = some o) : Ev 0 mZ150 0 [.ref a0, .int a1, .retAddr 0] [] s (none, o) := by
  unfold f_M_four at h
  refine Ev_blk 2 (pc' := 3) (ls' := [.ref a0, .int a1, .int (nI 24)]) (st' := []) (s' := s) rfl trivial ?_
  exact u_M_four_3 h

/-- RecordHeapModel.feed(IIIII)I -/
def f_M_feed (s : AS) (a0 : Nat) (a1 : Int32) (a2 : Int32) (a3 : Int32) (a4 : Int32) (a5 : Int32) : Option (Int32 × AS) :=
  if sT s a0 = 13 then
  if (nI 400) < ((sI (setI s a0 0 (nI 0)) a0 12) + (nI 20)) then
    some (-(nI 1), setI s a0 0 (nI 0))
  else
    (f_M_four (setI s a0 0 (nI 0)) a0 a1).bind fun r1 =>
    if sT r1 a0 = 13 then
    (f_M_four r1 a0 a2).bind fun r2 =>
    if sT r2 a0 = 13 then
    (f_M_four r2 a0 a3).bind fun r3 =>
    if sT r3 a0 = 13 then
    (f_M_four r3 a0 a4).bind fun r4 =>
    if sT r4 a0 = 13 then
    (f_M_four r4 a0 a5).bind fun r5 =>
    if sT r5 a0 = 13 then
    some (sI r5 a0 12, r5)
    else none
    else none
    else none
    else none
    else none
  else none
theorem t_M_feed {s : AS} {a0 : Nat} {a1 : Int32} {a2 : Int32} {a3 : Int32} {a4 : Int32} {a5 : Int32} {o : Int32 × AS} (h : f_M_feed s a0 a1 a2 a3 a4 a5 = some o) : Ev 1 mZ149 0 [.ref a0, .int a1, .int a2, .int a3, .int a4, .int a5] [] s (some (.int o.1), o.2) := by
  unfold f_M_feed at h
  refine gd h (fun g1 h => ?_)
  refine Ev_blk 9 (pc' := if (nI 400) < ((sI (setI s a0 0 (nI 0)) a0 12) + (nI 20)) then 18 else 20) (ls' := [.ref a0, .int a1, .int a2, .int a3, .int a4, .int a5]) (st' := []) (s' := setI s a0 0 (nI 0)) rfl ⟨⟨trivial, g1⟩, g1⟩ ?_
  refine ib h (fun c2 h => ?_) (fun c2 h => ?_)
  · refine Ev_blk 1 (pc' := 19) (ls' := [.ref a0, .int a1, .int a2, .int a3, .int a4, .int a5]) (st' := [.int (-(nI 1))]) (s' := setI s a0 0 (nI 0)) rfl trivial ?_
    cases h
    exact Ev_ret rfl trivial
  · refine Ev_blk 2 (pc' := 22) (ls' := [.ref a0, .int a1, .int a2, .int a3, .int a4, .int a5]) (st' := [.int a1, .ref a0]) (s' := setI s a0 0 (nI 0)) rfl trivial ?_
    refine bd h (fun r1 hr1 h => ?_)
    refine Ev_call 2 150 1 [.ref a0, .int a1] [] rfl rfl rfl rfl g1 rfl rfl (Nat.le_of_ble_eq_true rfl) (t_M_four hr1) ?_
    refine gd h (fun g3 h => ?_)
    refine Ev_blk 2 (pc' := 27) (ls' := [.ref a0, .int a1, .int a2, .int a3, .int a4, .int a5]) (st' := [.int a2, .ref a0]) (s' := r1) rfl trivial ?_
    refine bd h (fun r2 hr2 h => ?_)
    refine Ev_call 2 150 1 [.ref a0, .int a2] [] rfl rfl rfl rfl g3 rfl rfl (Nat.le_of_ble_eq_true rfl) (t_M_four hr2) ?_
    refine gd h (fun g4 h => ?_)
    refine Ev_blk 2 (pc' := 32) (ls' := [.ref a0, .int a1, .int a2, .int a3, .int a4, .int a5]) (st' := [.int a3, .ref a0]) (s' := r2) rfl trivial ?_
    refine bd h (fun r3 hr3 h => ?_)
    refine Ev_call 2 150 1 [.ref a0, .int a3] [] rfl rfl rfl rfl g4 rfl rfl (Nat.le_of_ble_eq_true rfl) (t_M_four hr3) ?_
    refine gd h (fun g5 h => ?_)
    refine Ev_blk 2 (pc' := 38) (ls' := [.ref a0, .int a1, .int a2, .int a3, .int a4, .int a5]) (st' := [.int a4, .ref a0]) (s' := r3) rfl trivial ?_
    refine bd h (fun r4 hr4 h => ?_)
    refine Ev_call 2 150 1 [.ref a0, .int a4] [] rfl rfl rfl rfl g5 rfl rfl (Nat.le_of_ble_eq_true rfl) (t_M_four hr4) ?_
    refine gd h (fun g6 h => ?_)
    refine Ev_blk 2 (pc' := 44) (ls' := [.ref a0, .int a1, .int a2, .int a3, .int a4, .int a5]) (st' := [.int a5, .ref a0]) (s' := r4) rfl trivial ?_
    refine bd h (fun r5 hr5 h => ?_)
    refine Ev_call 2 150 1 [.ref a0, .int a5] [] rfl rfl rfl rfl g6 rfl rfl (Nat.le_of_ble_eq_true rfl) (t_M_four hr5) ?_
    refine gd h (fun g7 h => ?_)
    refine Ev_blk 2 (pc' := 51) (ls' := [.ref a0, .int a1, .int a2, .int a3, .int a4, .int a5]) (st' := [.int (sI r5 a0 12)]) (s' := r5) rfl ⟨trivial, g7⟩ ?_
    cases h
    exact Ev_ret rfl trivial

/-- RecordHeapModel.end(I)I -/
def f_M_end (s : AS) (a0 : Nat) (a1 : Int32) : Option (Int32 × AS) :=
  if sT s a0 = 13 then
  if a1 < (nI 0) then
    some (-(nI 1), setI s a0 0 (nI 0))
  else
    if (sI (setI s a0 0 (nI 0)) a0 12) < a1 then
      some (-(nI 1), setI s a0 0 (nI 0))
    else
      some (a1, setI (setI s a0 0 (nI 0)) a0 12 a1)
  else none
theorem t_M_end {s : AS} {a0 : Nat} {a1 : Int32} {o : Int32 × AS} (h : f_M_end s a0 a1 = some o) : Ev 0 mZ151 0 [.ref a0, .int a1] [] s (some (.int o.1), o.2) := by
  unfold f_M_end at h
  refine gd h (fun g1 h => ?_)
  refine Ev_blk 5 (pc' := if a1 < (nI 0) then 17 else 9) (ls' := [.ref a0, .int a1]) (st' := []) (s' := setI s a0 0 (nI 0)) rfl ⟨trivial, g1⟩ ?_
  refine ib h (fun c2 h => ?_) (fun c2 h => ?_)
  · refine Ev_blk 1 (pc' := 18) (ls' := [.ref a0, .int a1]) (st' := [.int (-(nI 1))]) (s' := setI s a0 0 (nI 0)) rfl trivial ?_
    cases h
    exact Ev_ret rfl trivial
  · refine Ev_blk 4 (pc' := if (sI (setI s a0 0 (nI 0)) a0 12) < a1 then 17 else 19) (ls' := [.ref a0, .int a1]) (st' := []) (s' := setI s a0 0 (nI 0)) rfl ⟨trivial, g1⟩ ?_
    refine ib h (fun c3 h => ?_) (fun c3 h => ?_)
    · refine Ev_blk 1 (pc' := 18) (ls' := [.ref a0, .int a1]) (st' := [.int (-(nI 1))]) (s' := setI s a0 0 (nI 0)) rfl trivial ?_
      cases h
      exact Ev_ret rfl trivial
    · refine Ev_blk 4 (pc' := 25) (ls' := [.ref a0, .int a1]) (st' := [.int a1]) (s' := setI (setI s a0 0 (nI 0)) a0 12 a1) rfl ⟨trivial, g1⟩ ?_
      cases h
      exact Ev_ret rfl trivial

/-- RecordHeapModel.fault()I -/
def f_M_fault (s : AS) (a0 : Nat) : Option (Int32 × AS) :=
  if sT s a0 = 13 then
  some (sI (setI s a0 0 (nI 0)) a0 17, setI s a0 0 (nI 0))
  else none
theorem t_M_fault {s : AS} {a0 : Nat} {o : Int32 × AS} (h : f_M_fault s a0 = some o) : Ev 0 mZ152 0 [.ref a0] [] s (some (.int o.1), o.2) := by
  unfold f_M_fault at h
  refine gd h (fun g1 h => ?_)
  refine Ev_blk 5 (pc' := 9) (ls' := [.ref a0]) (st' := [.int (sI (setI s a0 0 (nI 0)) a0 17)]) (s' := setI s a0 0 (nI 0)) rfl ⟨⟨trivial, g1⟩, g1⟩ ?_
  cases h
  exact Ev_ret rfl trivial

/-- RecordHeapModel.isSmall(I)Z -/
def f_M_isSmall (s : AS) (a0 : Int32) : Option Int32 :=
    some (if a0 < (nI 97) then nI 0 else (if (nI 122) < a0 then nI 0 else nI 1))
theorem t_M_isSmall {s : AS} {a0 : Int32} {o : Int32} (h : f_M_isSmall s a0 = some o) : Ev 0 mZ157 0 [.int a0] [] s (some (.int o), s) := by
  unfold f_M_isSmall at h
  refine Ev_blk 3 (pc' := if a0 < (nI 97) then 16 else 6) (ls' := [.int a0]) (st' := []) (s' := s) rfl trivial ?_
  have k1_ : Ev 0 mZ157 17 [.int a0] [.int (if a0 < (nI 97) then nI 0 else (if (nI 122) < a0 then nI 0 else nI 1))] s (some (.int o), s) := by
    cases h
    exact Ev_ret rfl (by (repeat' split) <;> first | exact Or.inl rfl | exact Or.inr rfl)
  refine icases (fun c2 => ?_) (fun c2 => ?_)
  · exact Ev_blk 1 (pc' := 17) (ls' := [.int a0]) (st' := [.int (nI 0)]) (s' := s) rfl trivial (by simpa only [if_pos c2] using k1_)
  · refine Ev_blk 3 (pc' := if (nI 122) < a0 then 16 else 12) (ls' := [.int a0]) (st' := []) (s' := s) rfl trivial ?_
    refine icases (fun c3 => ?_) (fun c3 => ?_)
    · exact Ev_blk 1 (pc' := 17) (ls' := [.int a0]) (st' := [.int (nI 0)]) (s' := s) rfl trivial (by simpa only [if_neg c2, if_pos c3] using k1_)
    · exact Ev_blk 2 (pc' := 17) (ls' := [.int a0]) (st' := [.int (nI 1)]) (s' := s) rfl trivial (by simpa only [if_neg c2, if_neg c3] using k1_)

/-- RecordHeapModel.isDigit(I)Z -/
def f_M_isDigit (s : AS) (a0 : Int32) : Option Int32 :=
    some (if a0 < (nI 48) then nI 0 else (if (nI 57) < a0 then nI 0 else nI 1))
theorem t_M_isDigit {s : AS} {a0 : Int32} {o : Int32} (h : f_M_isDigit s a0 = some o) : Ev 0 mZ158 0 [.int a0] [] s (some (.int o), s) := by
  unfold f_M_isDigit at h
  refine Ev_blk 3 (pc' := if a0 < (nI 48) then 16 else 6) (ls' := [.int a0]) (st' := []) (s' := s) rfl trivial ?_
  have k1_ : Ev 0 mZ158 17 [.int a0] [.int (if a0 < (nI 48) then nI 0 else (if (nI 57) < a0 then nI 0 else nI 1))] s (some (.int o), s) := by
    cases h
    exact Ev_ret rfl (by (repeat' split) <;> first | exact Or.inl rfl | exact Or.inr rfl)
  refine icases (fun c2 => ?_) (fun c2 => ?_)
  · exact Ev_blk 1 (pc' := 17) (ls' := [.int a0]) (st' := [.int (nI 0)]) (s' := s) rfl trivial (by simpa only [if_pos c2] using k1_)
  · refine Ev_blk 3 (pc' := if (nI 57) < a0 then 16 else 12) (ls' := [.int a0]) (st' := []) (s' := s) rfl trivial ?_
    refine icases (fun c3 => ?_) (fun c3 => ?_)
    · exact Ev_blk 1 (pc' := 17) (ls' := [.int a0]) (st' := [.int (nI 0)]) (s' := s) rfl trivial (by simpa only [if_neg c2, if_pos c3] using k1_)
    · exact Ev_blk 2 (pc' := 17) (ls' := [.int a0]) (st' := [.int (nI 1)]) (s' := s) rfl trivial (by simpa only [if_neg c2, if_neg c3] using k1_)

def b_M_onward_227 (k149 : Nat → AS → Option AS) (v0 : Nat) (w0 : Int64) (w1 : Nat) (s : AS) : Option AS :=
  if sT s w1 = 13 then
  if sT s v0 = 13 then
  k149 v0 (setI (setJ s w1 16 w0) v0 14 ((sI s v0 14) + (nI 1)))
  else none
  else none
theorem t_M_onward_227 {k149 : Nat → AS → Option AS} (H149 : ∀ {v0 : Nat} {s : AS} {o : AS}, k149 v0 s = some o → Ev 1 mZ156 149 [.ref v0] [] s (none, o))  {v0 : Nat} {w0 : Int64} {w1 : Nat} {s : AS} {o : AS} (h : b_M_onward_227 k149 v0 w0 w1 s = some o) : Ev 1 mZ156 227 [.ref v0] [.long w0, .ref w1] s (none, o) := by
  unfold b_M_onward_227 at h
  refine gd h (fun g1 h => ?_)
  refine gd h (fun g2 h => ?_)
  refine Ev_blk 8 (pc' := 149) (ls' := [.ref v0]) (st' := []) (s' := setI (setJ s w1 16 w0) v0 14 ((sI s v0 14) + (nI 1))) rfl ⟨⟨⟨trivial, g1⟩, g2⟩, g2⟩ ?_
  exact H149 h
def b_M_onward_319 (k243 : Nat → AS → Option AS) (v0 : Nat) (w0 : Int64) (w1 : Nat) (s : AS) : Option AS :=
  if sT s w1 = 13 then
  if sT s v0 = 13 then
  k243 v0 (setI (setJ s w1 16 w0) v0 14 ((sI s v0 14) + (nI 1)))
  else none
  else none
theorem t_M_onward_319 {k243 : Nat → AS → Option AS} (H243 : ∀ {v0 : Nat} {s : AS} {o : AS}, k243 v0 s = some o → Ev 1 mZ156 243 [.ref v0] [] s (none, o))  {v0 : Nat} {w0 : Int64} {w1 : Nat} {s : AS} {o : AS} (h : b_M_onward_319 k243 v0 w0 w1 s = some o) : Ev 1 mZ156 319 [.ref v0] [.long w0, .ref w1] s (none, o) := by
  unfold b_M_onward_319 at h
  refine gd h (fun g1 h => ?_)
  refine gd h (fun g2 h => ?_)
  refine Ev_blk 8 (pc' := 243) (ls' := [.ref v0]) (st' := []) (s' := setI (setJ s w1 16 w0) v0 14 ((sI s v0 14) + (nI 1))) rfl ⟨⟨⟨trivial, g1⟩, g2⟩, g2⟩ ?_
  exact H243 h
def b_M_onward_243 (k243 : Nat → AS → Option AS) (v0 : Nat) (s : AS) : Option AS :=
  if sT s v0 = 13 then
  if (sI s v0 15) = (nI 2) then
    if (sI s v0 14) < (sI s v0 12) then
      if sT s (sR s v0 11) = 20 ∧ inA (sI s v0 14) (sN s (sR s v0 11)) then
      (f_M_isDigit s (sI s (sR s v0 11) (sI s v0 14).toNatClampNeg)).bind fun r1 =>
      if r1 = (nI 0) then
        some s
      else
        if (nI 0) < (lg_cmp (sL s v0 16) (lN 1000000)) then
          b_M_onward_319 k243 v0 (sL s v0 16) v0 s
        else
          b_M_onward_319 k243 v0 ((((sL s v0 16) * (lN 10)) + ((sI s (sR s v0 11) (sI s v0 14).toNatClampNeg).toInt64)) - (lN 48)) v0 s
      else none
    else
      some s
  else
    some s
  else none
theorem t_M_onward_243 {k243 : Nat → AS → Option AS} (H243 : ∀ {v0 : Nat} {s : AS} {o : AS}, k243 v0 s = some o → Ev 1 mZ156 243 [.ref v0] [] s (none, o))  {v0 : Nat} {s : AS} {o : AS} (h : b_M_onward_243 k243 v0 s = some o) : Ev 1 mZ156 243 [.ref v0] [] s (none, o) := by
  unfold b_M_onward_243 at h
  refine gd h (fun g1 h => ?_)
  refine Ev_blk 4 (pc' := if (sI s v0 15) = (nI 2) then 251 else 335) (ls' := [.ref v0]) (st' := []) (s' := s) rfl ⟨trivial, g1⟩ ?_
  refine ib h (fun c2 h => ?_) (fun c2 h => ?_)
  · refine Ev_blk 5 (pc' := if (sI s v0 14) < (sI s v0 12) then 262 else 335) (ls' := [.ref v0]) (st' := []) (s' := s) rfl ⟨⟨trivial, g1⟩, g1⟩ ?_
    refine ib h (fun c3 h => ?_) (fun c3 h => ?_)
    · refine gd h (fun g4 h => ?_)
      refine Ev_blk 5 (pc' := 271) (ls' := [.ref v0]) (st' := [.int (sI s (sR s v0 11) (sI s v0 14).toNatClampNeg)]) (s' := s) rfl ⟨⟨⟨trivial, g1⟩, g1⟩, ⟨Or.inl g4.1, g4.2⟩⟩ ?_
      refine bd h (fun r1 hr1 h => ?_)
      refine Ev_call 1 158 1 [.int (sI s (sR s v0 11) (sI s v0 14).toNatClampNeg)] [] rfl rfl rfl rfl trivial rfl rfl (Nat.le_of_ble_eq_true rfl) (t_M_isDigit hr1) ?_
      refine Ev_blk 1 (pc' := if r1 = (nI 0) then 335 else 277) (ls' := [.ref v0]) (st' := []) (s' := s) rfl trivial ?_
      refine ib h (fun c5 h => ?_) (fun c5 h => ?_)
      · cases h
        exact Ev_ret rfl trivial
      · refine Ev_blk 6 (pc' := if (nI 0) < (lg_cmp (sL s v0 16) (lN 1000000)) then 289 else 296) (ls' := [.ref v0]) (st' := [.ref v0]) (s' := s) rfl ⟨trivial, g1⟩ ?_
        refine ib h (fun c6 h => ?_) (fun c6 h => ?_)
        · refine Ev_blk 3 (pc' := 319) (ls' := [.ref v0]) (st' := [.long (sL s v0 16), .ref v0]) (s' := s) rfl ⟨trivial, g1⟩ ?_
          exact t_M_onward_319 H243 h
        · refine Ev_blk 13 (pc' := 319) (ls' := [.ref v0]) (st' := [.long ((((sL s v0 16) * (lN 10)) + ((sI s (sR s v0 11) (sI s v0 14).toNatClampNeg).toInt64)) - (lN 48)), .ref v0]) (s' := s) rfl ⟨⟨⟨⟨trivial, g1⟩, g1⟩, g1⟩, ⟨Or.inl g4.1, g4.2⟩⟩ ?_
          exact t_M_onward_319 H243 h
    · cases h
      exact Ev_ret rfl trivial
  · cases h
    exact Ev_ret rfl trivial
def l_M_onward_243  : Nat → Nat → AS → Option AS
  | 0 => fun _ _ => none
  | n + 1 => b_M_onward_243  (l_M_onward_243  n)
theorem u_M_onward_243   {n : Nat} : ∀  {v0 : Nat} {s : AS} {o : AS}, l_M_onward_243  n v0 s = some o → Ev 1 mZ156 243 [.ref v0] [] s (none, o) := by
  induction n with
  | zero => intros; rename_i h; cases h
  | succ n ih => intros; rename_i h; exact t_M_onward_243  (fun h => ih h) h
def b_M_onward_149 (k149 : Nat → AS → Option AS) (v0 : Nat) (s : AS) : Option AS :=
  if sT s v0 = 13 then
  if (sI s v0 15) = (nI 1) then
    if (sI s v0 14) < (sI s v0 12) then
      if sT s (sR s v0 11) = 20 ∧ inA (sI s v0 14) (sN s (sR s v0 11)) then
      (f_M_isSmall s (sI s (sR s v0 11) (sI s v0 14).toNatClampNeg)).bind fun r1 =>
      if r1 = (nI 0) then
        l_M_onward_243 fuel v0 s
      else
        if ((sI s v0 14) - (sI s v0 13)) < (nI 10) then
          b_M_onward_227 k149 v0 ((((sL s v0 16) * (lN 32)) + ((sI s (sR s v0 11) (sI s v0 14).toNatClampNeg).toInt64)) - (lN 96)) v0 s
        else
          b_M_onward_227 k149 v0 (-1 : Int64) v0 s
      else none
    else
      l_M_onward_243 fuel v0 s
  else
    l_M_onward_243 fuel v0 s
  else none
theorem t_M_onward_149 {k149 : Nat → AS → Option AS} (H149 : ∀ {v0 : Nat} {s : AS} {o : AS}, k149 v0 s = some o → Ev 1 mZ156 149 [.ref v0] [] s (none, o))  {v0 : Nat} {s : AS} {o : AS} (h : b_M_onward_149 k149 v0 s = some o) : Ev 1 mZ156 149 [.ref v0] [] s (none, o) := by
  unfold b_M_onward_149 at h
  refine gd h (fun g1 h => ?_)
  refine Ev_blk 4 (pc' := if (sI s v0 15) = (nI 1) then 157 else 243) (ls' := [.ref v0]) (st' := []) (s' := s) rfl ⟨trivial, g1⟩ ?_
  refine ib h (fun c2 h => ?_) (fun c2 h => ?_)
  · refine Ev_blk 5 (pc' := if (sI s v0 14) < (sI s v0 12) then 168 else 243) (ls' := [.ref v0]) (st' := []) (s' := s) rfl ⟨⟨trivial, g1⟩, g1⟩ ?_
    refine ib h (fun c3 h => ?_) (fun c3 h => ?_)
    · refine gd h (fun g4 h => ?_)
      refine Ev_blk 5 (pc' := 177) (ls' := [.ref v0]) (st' := [.int (sI s (sR s v0 11) (sI s v0 14).toNatClampNeg)]) (s' := s) rfl ⟨⟨⟨trivial, g1⟩, g1⟩, ⟨Or.inl g4.1, g4.2⟩⟩ ?_
      refine bd h (fun r1 hr1 h => ?_)
      refine Ev_call 1 157 1 [.int (sI s (sR s v0 11) (sI s v0 14).toNatClampNeg)] [] rfl rfl rfl rfl trivial rfl rfl (Nat.le_of_ble_eq_true rfl) (t_M_isSmall hr1) ?_
      refine Ev_blk 1 (pc' := if r1 = (nI 0) then 243 else 183) (ls' := [.ref v0]) (st' := []) (s' := s) rfl trivial ?_
      refine ib h (fun c5 h => ?_) (fun c5 h => ?_)
      · exact u_M_onward_243 h
      · refine Ev_blk 8 (pc' := if ((sI s v0 14) - (sI s v0 13)) < (nI 10) then 198 else 224) (ls' := [.ref v0]) (st' := [.ref v0]) (s' := s) rfl ⟨⟨trivial, g1⟩, g1⟩ ?_
        refine ib h (fun c6 h => ?_) (fun c6 h => ?_)
        · refine Ev_blk 14 (pc' := 227) (ls' := [.ref v0]) (st' := [.long ((((sL s v0 16) * (lN 32)) + ((sI s (sR s v0 11) (sI s v0 14).toNatClampNeg).toInt64)) - (lN 96)), .ref v0]) (s' := s) rfl ⟨⟨⟨⟨trivial, g1⟩, g1⟩, g1⟩, ⟨Or.inl g4.1, g4.2⟩⟩ ?_
          exact t_M_onward_227 H149 h
        · refine Ev_blk 1 (pc' := 227) (ls' := [.ref v0]) (st' := [.long (-1 : Int64), .ref v0]) (s' := s) rfl trivial ?_
          exact t_M_onward_227 H149 h
    · exact u_M_onward_243 h
  · exact u_M_onward_243 h
def l_M_onward_149  : Nat → Nat → AS → Option AS
  | 0 => fun _ _ => none
  | n + 1 => b_M_onward_149  (l_M_onward_149  n)
theorem u_M_onward_149   {n : Nat} : ∀  {v0 : Nat} {s : AS} {o : AS}, l_M_onward_149  n v0 s = some o → Ev 1 mZ156 149 [.ref v0] [] s (none, o) := by
  induction n with
  | zero => intros; rename_i h; cases h
  | succ n ih => intros; rename_i h; exact t_M_onward_149  (fun h => ih h) h
def b_M_onward_114  (v0 : Nat) (w0 : Int32) (w1 : Nat) (s : AS) : Option AS :=
  if sT s w1 = 13 then
  if sT s v0 = 13 then
  if (sI (setI s w1 15 w0) v0 15) = (nI 3) then
    if sT s (sR s v0 11) = 20 ∧ inA (sI (setI s w1 15 w0) v0 13) (sN s (sR s v0 11)) then
    l_M_onward_149 fuel v0 (setI (setJ (setI s w1 15 w0) v0 16 ((sI (setI s w1 15 w0) (sR s v0 11) (sI (setI s w1 15 w0) v0 13).toNatClampNeg).toInt64)) v0 14 ((sI (setI s w1 15 w0) v0 14) + (nI 1)))
    else none
  else
    l_M_onward_149 fuel v0 (setI s w1 15 w0)
  else none
  else none
theorem t_M_onward_114    {v0 : Nat} {w0 : Int32} {w1 : Nat} {s : AS} {o : AS} (h : b_M_onward_114  v0 w0 w1 s = some o) : Ev 1 mZ156 114 [.ref v0] [.int w0, .ref w1] s (none, o) := by
  unfold b_M_onward_114 at h
  refine gd h (fun g1 h => ?_)
  refine gd h (fun g2 h => ?_)
  refine Ev_blk 5 (pc' := if (sI (setI s w1 15 w0) v0 15) = (nI 3) then 125 else 149) (ls' := [.ref v0]) (st' := []) (s' := setI s w1 15 w0) rfl ⟨⟨trivial, g1⟩, g2⟩ ?_
  refine ib h (fun c3 h => ?_) (fun c3 h => ?_)
  · refine gd h (fun g4 h => ?_)
    refine Ev_blk 14 (pc' := 149) (ls' := [.ref v0]) (st' := []) (s' := setI (setJ (setI s w1 15 w0) v0 16 ((sI (setI s w1 15 w0) (sR s v0 11) (sI (setI s w1 15 w0) v0 13).toNatClampNeg).toInt64)) v0 14 ((sI (setI s w1 15 w0) v0 14) + (nI 1))) rfl ⟨⟨⟨⟨⟨⟨trivial, g2⟩, g2⟩, ⟨Or.inl g4.1, g4.2⟩⟩, g2⟩, g2⟩, g2⟩ ?_
    exact u_M_onward_149 h
  · exact u_M_onward_149 h
def b_M_onward_46  (v0 : Nat) (s : AS) : Option AS :=
  if sT s v0 = 13 then
  if (sI (setI s v0 14 (sI s v0 13)) v0 13) = (sI (setI s v0 14 (sI s v0 13)) v0 12) then
    b_M_onward_114 v0 (nI 0) v0 (setJ (setI s v0 14 (sI s v0 13)) v0 16 (lN 0))
  else
    if sT s (sR s v0 11) = 20 ∧ inA (sI (setI s v0 14 (sI s v0 13)) v0 13) (sN s (sR s v0 11)) then
    (f_M_isSmall (setJ (setI s v0 14 (sI s v0 13)) v0 16 (lN 0)) (sI (setI s v0 14 (sI s v0 13)) (sR s v0 11) (sI (setI s v0 14 (sI s v0 13)) v0 13).toNatClampNeg)).bind fun r1 =>
    if r1 = (nI 0) then
      (f_M_isDigit (setJ (setI s v0 14 (sI s v0 13)) v0 16 (lN 0)) (sI (setI s v0 14 (sI s v0 13)) (sR s v0 11) (sI (setI s v0 14 (sI s v0 13)) v0 13).toNatClampNeg)).bind fun r2 =>
        b_M_onward_114 v0 (if r2 = (nI 0) then nI 3 else nI 2) v0 (setJ (setI s v0 14 (sI s v0 13)) v0 16 (lN 0))
    else
      b_M_onward_114 v0 (nI 1) v0 (setJ (setI s v0 14 (sI s v0 13)) v0 16 (lN 0))
    else none
  else none
theorem t_M_onward_46    {v0 : Nat} {s : AS} {o : AS} (h : b_M_onward_46  v0 s = some o) : Ev 1 mZ156 46 [.ref v0] [] s (none, o) := by
  unfold b_M_onward_46 at h
  refine gd h (fun g1 h => ?_)
  refine Ev_blk 13 (pc' := if (sI (setI s v0 14 (sI s v0 13)) v0 13) = (sI (setI s v0 14 (sI s v0 13)) v0 12) then 71 else 75) (ls' := [.ref v0]) (st' := [.ref v0]) (s' := setJ (setI s v0 14 (sI s v0 13)) v0 16 (lN 0)) rfl ⟨⟨⟨⟨⟨trivial, g1⟩, g1⟩, g1⟩, g1⟩, g1⟩ ?_
  refine ib h (fun c2 h => ?_) (fun c2 h => ?_)
  · refine Ev_blk 2 (pc' := 114) (ls' := [.ref v0]) (st' := [.int (nI 0), .ref v0]) (s' := setJ (setI s v0 14 (sI s v0 13)) v0 16 (lN 0)) rfl trivial ?_
    exact t_M_onward_114 h
  · refine gd h (fun g3 h => ?_)
    refine Ev_blk 5 (pc' := 84) (ls' := [.ref v0]) (st' := [.int (sI (setI s v0 14 (sI s v0 13)) (sR s v0 11) (sI (setI s v0 14 (sI s v0 13)) v0 13).toNatClampNeg), .ref v0]) (s' := setJ (setI s v0 14 (sI s v0 13)) v0 16 (lN 0)) rfl ⟨⟨⟨trivial, g1⟩, g1⟩, ⟨Or.inl g3.1, g3.2⟩⟩ ?_
    refine bd h (fun r1 hr1 h => ?_)
    refine Ev_call 1 157 1 [.int (sI (setI s v0 14 (sI s v0 13)) (sR s v0 11) (sI (setI s v0 14 (sI s v0 13)) v0 13).toNatClampNeg)] [.ref v0] rfl rfl rfl rfl trivial rfl rfl (Nat.le_of_ble_eq_true rfl) (t_M_isSmall hr1) ?_
    refine Ev_blk 1 (pc' := if r1 = (nI 0) then 94 else 90) (ls' := [.ref v0]) (st' := [.ref v0]) (s' := setJ (setI s v0 14 (sI s v0 13)) v0 16 (lN 0)) rfl trivial ?_
    refine ib h (fun c4 h => ?_) (fun c4 h => ?_)
    · refine Ev_blk 5 (pc' := 103) (ls' := [.ref v0]) (st' := [.int (sI (setI s v0 14 (sI s v0 13)) (sR s v0 11) (sI (setI s v0 14 (sI s v0 13)) v0 13).toNatClampNeg), .ref v0]) (s' := setJ (setI s v0 14 (sI s v0 13)) v0 16 (lN 0)) rfl ⟨⟨⟨trivial, g1⟩, g1⟩, ⟨Or.inl g3.1, g3.2⟩⟩ ?_
      refine bd h (fun r2 hr2 h => ?_)
      refine Ev_call 1 158 1 [.int (sI (setI s v0 14 (sI s v0 13)) (sR s v0 11) (sI (setI s v0 14 (sI s v0 13)) v0 13).toNatClampNeg)] [.ref v0] rfl rfl rfl rfl trivial rfl rfl (Nat.le_of_ble_eq_true rfl) (t_M_isDigit hr2) ?_
      refine Ev_blk 1 (pc' := if r2 = (nI 0) then 113 else 109) (ls' := [.ref v0]) (st' := [.ref v0]) (s' := setJ (setI s v0 14 (sI s v0 13)) v0 16 (lN 0)) rfl trivial ?_
      have k5_ : Ev 1 mZ156 114 [.ref v0] [.int (if r2 = (nI 0) then nI 3 else nI 2), .ref v0] (setJ (setI s v0 14 (sI s v0 13)) v0 16 (lN 0)) (none, o) := by
        exact t_M_onward_114 h
      refine icases (fun c6 => ?_) (fun c6 => ?_)
      · exact Ev_blk 1 (pc' := 114) (ls' := [.ref v0]) (st' := [.int (nI 3), .ref v0]) (s' := setJ (setI s v0 14 (sI s v0 13)) v0 16 (lN 0)) rfl trivial (by simpa only [if_pos c6] using k5_)
      · exact Ev_blk 2 (pc' := 114) (ls' := [.ref v0]) (st' := [.int (nI 2), .ref v0]) (s' := setJ (setI s v0 14 (sI s v0 13)) v0 16 (lN 0)) rfl trivial (by simpa only [if_neg c6] using k5_)
    · refine Ev_blk 2 (pc' := 114) (ls' := [.ref v0]) (st' := [.int (nI 1), .ref v0]) (s' := setJ (setI s v0 14 (sI s v0 13)) v0 16 (lN 0)) rfl trivial ?_
      exact t_M_onward_114 h
def b_M_onward_8 (k8 : Nat → AS → Option AS) (v0 : Nat) (s : AS) : Option AS :=
  if sT s v0 = 13 then
  if (sI s v0 13) < (sI s v0 12) then
    if sT s (sR s v0 11) = 20 ∧ inA (sI s v0 13) (sN s (sR s v0 11)) then
    if (sI s (sR s v0 11) (sI s v0 13).toNatClampNeg) = (nI 32) then
      k8 v0 (setI s v0 13 ((sI s v0 13) + (nI 1)))
    else
      b_M_onward_46 v0 s
    else none
  else
    b_M_onward_46 v0 s
  else none
theorem t_M_onward_8 {k8 : Nat → AS → Option AS} (H8 : ∀ {v0 : Nat} {s : AS} {o : AS}, k8 v0 s = some o → Ev 1 mZ156 8 [.ref v0] [] s (none, o))  {v0 : Nat} {s : AS} {o : AS} (h : b_M_onward_8 k8 v0 s = some o) : Ev 1 mZ156 8 [.ref v0] [] s (none, o) := by
  unfold b_M_onward_8 at h
  refine gd h (fun g1 h => ?_)
  refine Ev_blk 5 (pc' := if (sI s v0 13) < (sI s v0 12) then 19 else 46) (ls' := [.ref v0]) (st' := []) (s' := s) rfl ⟨⟨trivial, g1⟩, g1⟩ ?_
  refine ib h (fun c2 h => ?_) (fun c2 h => ?_)
  · refine gd h (fun g3 h => ?_)
    refine Ev_blk 7 (pc' := if (sI s (sR s v0 11) (sI s v0 13).toNatClampNeg) = (nI 32) then 33 else 46) (ls' := [.ref v0]) (st' := []) (s' := s) rfl ⟨⟨⟨trivial, g1⟩, g1⟩, ⟨Or.inl g3.1, g3.2⟩⟩ ?_
    refine ib h (fun c4 h => ?_) (fun c4 h => ?_)
    · refine Ev_blk 7 (pc' := 8) (ls' := [.ref v0]) (st' := []) (s' := setI s v0 13 ((sI s v0 13) + (nI 1))) rfl ⟨⟨trivial, g1⟩, g1⟩ ?_
      exact H8 h
    · exact t_M_onward_46 h
  · exact t_M_onward_46 h
def l_M_onward_8  : Nat → Nat → AS → Option AS
  | 0 => fun _ _ => none
  | n + 1 => b_M_onward_8  (l_M_onward_8  n)
theorem u_M_onward_8   {n : Nat} : ∀  {v0 : Nat} {s : AS} {o : AS}, l_M_onward_8  n v0 s = some o → Ev 1 mZ156 8 [.ref v0] [] s (none, o) := by
  induction n with
  | zero => intros; rename_i h; cases h
  | succ n ih => intros; rename_i h; exact t_M_onward_8  (fun h => ih h) h
/-- RecordHeapModel.onward()V -/
def f_M_onward (s : AS) (a0 : Nat) : Option AS :=
  if sT s a0 = 13 then
  l_M_onward_8 fuel a0 (setI s a0 13 (sI s a0 14))
  else none
theorem t_M_onward {s : AS} {a0 : Nat} {o : AS} (h : f_M_onward s a0 = some o) : Ev 1 mZ156 0 [.ref a0] [] s (none, o) := by
  unfold f_M_onward at h
  refine gd h (fun g1 h => ?_)
  refine Ev_blk 4 (pc' := 8) (ls' := [.ref a0]) (st' := []) (s' := setI s a0 13 (sI s a0 14)) rfl ⟨⟨trivial, g1⟩, g1⟩ ?_
  exact u_M_onward_8 h

/-- RecordHeapModel.begin()V -/
def f_M_begin (s : AS) (a0 : Nat) : Option AS :=
  if sT s a0 = 13 then
  if sT s a0 = 13 ∧ ((nI 0) = nI 0 ∨ (nI 0) = nI 1) then
  (f_M_onward (setI (setI (setI s a0 14 (nI 0)) a0 18 (nI 0)) a0 17 (-(nI 1))) a0).bind fun r1 =>
  some r1
  else none
  else none
theorem t_M_begin {s : AS} {a0 : Nat} {o : AS} (h : f_M_begin s a0 = some o) : Ev 2 mZ155 0 [.ref a0] [] s (none, o) := by
  unfold f_M_begin at h
  refine gd h (fun g1 h => ?_)
  refine gd h (fun g2 h => ?_)
  refine Ev_blk 10 (pc' := 16) (ls' := [.ref a0]) (st' := [.ref a0]) (s' := setI (setI (setI s a0 14 (nI 0)) a0 18 (nI 0)) a0 17 (-(nI 1))) rfl ⟨⟨⟨trivial, g1⟩, g2⟩, g1⟩ ?_
  refine bd h (fun r1 hr1 h => ?_)
  refine Ev_call 2 156 0 [.ref a0] [] rfl rfl rfl rfl g1 rfl rfl (Nat.le_of_ble_eq_true rfl) (t_M_onward hr1) ?_
  cases h
  exact Ev_ret rfl trivial

/-- RecordHeapModel.beginText(Z)V -/
def f_M_beginText (s : AS) (a0 : Nat) (a1 : Int32) : Option AS :=
  if sT s a0 = 13 ∧ (a1 = nI 0 ∨ a1 = nI 1) then
  if sT s a0 = 13 then
  (f_M_begin (setI s a0 19 a1) a0).bind fun r1 =>
  if sT r1 a0 = 13 then
  some (setI (setI (setI r1 a0 20 (nI 0)) a0 22 (nI 0)) a0 25 (nI 0))
  else none
  else none
  else none
theorem t_M_beginText {s : AS} {a0 : Nat} {a1 : Int32} {o : AS} (h : f_M_beginText s a0 a1 = some o) : Ev 3 mZ154 0 [.ref a0, .int a1] [] s (none, o) := by
  unfold f_M_beginText at h
  refine gd h (fun g1 h => ?_)
  refine gd h (fun g2 h => ?_)
  refine Ev_blk 4 (pc' := 6) (ls' := [.ref a0, .int a1]) (st' := [.ref a0]) (s' := setI s a0 19 a1) rfl ⟨trivial, g1⟩ ?_
  refine bd h (fun r1 hr1 h => ?_)
  refine Ev_call 2 155 0 [.ref a0] [] rfl rfl rfl rfl g2 rfl rfl (Nat.le_of_ble_eq_true rfl) (t_M_begin hr1) ?_
  refine gd h (fun g3 h => ?_)
  refine Ev_blk 9 (pc' := 24) (ls' := [.ref a0, .int a1]) (st' := []) (s' := setI (setI (setI r1 a0 20 (nI 0)) a0 22 (nI 0)) a0 25 (nI 0)) rfl ⟨⟨⟨trivial, g3⟩, g3⟩, g3⟩ ?_
  cases h
  exact Ev_ret rfl trivial

/-- RecordHeapModel.isWord(J)Z -/
def f_M_isWord (s : AS) (a0 : Nat) (a1 : Int64) : Option Int32 :=
  if sT s a0 = 13 then
  if (sI s a0 15) = (nI 1) then
      some (if (lg_cmp (sL s a0 16) a1) = (nI 0) then nI 1 else nI 0)
  else
    some (nI 0)
  else none
theorem t_M_isWord {s : AS} {a0 : Nat} {a1 : Int64} {o : Int32} (h : f_M_isWord s a0 a1 = some o) : Ev 0 mZ160 0 [.ref a0, .long a1, .retAddr 0] [] s (some (.int o), s) := by
  unfold f_M_isWord at h
  refine gd h (fun g1 h => ?_)
  refine Ev_blk 4 (pc' := if (sI s a0 15) = (nI 1) then 8 else 21) (ls' := [.ref a0, .long a1, .retAddr 0]) (st' := []) (s' := s) rfl ⟨trivial, g1⟩ ?_
  refine ib h (fun c2 h => ?_) (fun c2 h => ?_)
  · refine Ev_blk 5 (pc' := if (lg_cmp (sL s a0 16) a1) = (nI 0) then 17 else 21) (ls' := [.ref a0, .long a1, .retAddr 0]) (st' := []) (s' := s) rfl ⟨trivial, g1⟩ ?_
    have k3_ : Ev 0 mZ160 22 [.ref a0, .long a1, .retAddr 0] [.int (if (lg_cmp (sL s a0 16) a1) = (nI 0) then nI 1 else nI 0)] s (some (.int o), s) := by
      cases h
      exact Ev_ret rfl (by (repeat' split) <;> first | exact Or.inl rfl | exact Or.inr rfl)
    refine icases (fun c4 => ?_) (fun c4 => ?_)
    · exact Ev_blk 2 (pc' := 22) (ls' := [.ref a0, .long a1, .retAddr 0]) (st' := [.int (nI 1)]) (s' := s) rfl trivial (by simpa only [if_pos c4] using k3_)
    · exact Ev_blk 1 (pc' := 22) (ls' := [.ref a0, .long a1, .retAddr 0]) (st' := [.int (nI 0)]) (s' := s) rfl trivial (by simpa only [if_neg c4] using k3_)
  · refine Ev_blk 1 (pc' := 22) (ls' := [.ref a0, .long a1, .retAddr 0]) (st' := [.int (nI 0)]) (s' := s) rfl trivial ?_
    cases h
    exact Ev_ret rfl (Or.inl rfl)

def b_M_must_24  (v0 : Nat) (s : AS) : Option AS :=
  if sT s v0 = 13 then
  if (sI s v0 18) = (nI 0) then
    (f_M_onward s v0).bind fun r1 =>
    some r1
  else
    some s
  else none
theorem t_M_must_24   {d1 : Value} {v0 : Nat} {s : AS} {o : AS} (h : b_M_must_24  v0 s = some o) : Ev 2 mZ161 24 [.ref v0, d1] [] s (none, o) := by
  unfold b_M_must_24 at h
  refine gd h (fun g1 h => ?_)
  refine Ev_blk 3 (pc' := if (sI s v0 18) = (nI 0) then 31 else 35) (ls' := [.ref v0, d1]) (st' := []) (s' := s) rfl ⟨trivial, g1⟩ ?_
  refine ib h (fun c2 h => ?_) (fun c2 h => ?_)
  · refine Ev_blk 1 (pc' := 32) (ls' := [.ref v0, d1]) (st' := [.ref v0]) (s' := s) rfl trivial ?_
    refine bd h (fun r1 hr1 h => ?_)
    refine Ev_call 2 156 0 [.ref v0] [] rfl rfl rfl rfl g1 rfl rfl (Nat.le_of_ble_eq_true rfl) (t_M_onward hr1) ?_
    cases h
    exact Ev_ret rfl trivial
  · cases h
    exact Ev_ret rfl trivial
/-- RecordHeapModel.must(Z)V -/
def f_M_must (s : AS) (a0 : Nat) (a1 : Int32) : Option AS :=
  if sT s a0 = 13 then
  if (sI s a0 18) = (nI 0) then
    if a1 = (nI 0) then
      if sT s a0 = 13 ∧ ((nI 1) = nI 0 ∨ (nI 1) = nI 1) then
      b_M_must_24 a0 (setI (setI s a0 18 (nI 1)) a0 17 (sI (setI s a0 18 (nI 1)) a0 13))
      else none
    else
      b_M_must_24 a0 s
  else
    b_M_must_24 a0 s
  else none
theorem t_M_must {s : AS} {a0 : Nat} {a1 : Int32} {o : AS} (h : f_M_must s a0 a1 = some o) : Ev 2 mZ161 0 [.ref a0, .int a1] [] s (none, o) := by
  unfold f_M_must at h
  refine gd h (fun g1 h => ?_)
  refine Ev_blk 3 (pc' := if (sI s a0 18) = (nI 0) then 7 else 24) (ls' := [.ref a0, .int a1]) (st' := []) (s' := s) rfl ⟨trivial, g1⟩ ?_
  refine ib h (fun c2 h => ?_) (fun c2 h => ?_)
  · refine Ev_blk 2 (pc' := if a1 = (nI 0) then 11 else 24) (ls' := [.ref a0, .int a1]) (st' := []) (s' := s) rfl trivial ?_
    refine ib h (fun c3 h => ?_) (fun c3 h => ?_)
    · refine gd h (fun g4 h => ?_)
      refine Ev_blk 7 (pc' := 24) (ls' := [.ref a0, .int a1]) (st' := []) (s' := setI (setI s a0 18 (nI 1)) a0 17 (sI (setI s a0 18 (nI 1)) a0 13)) rfl ⟨⟨⟨trivial, g4⟩, g1⟩, g1⟩ ?_
      exact t_M_must_24 h
    · exact t_M_must_24 h
  · exact t_M_must_24 h

/-- RecordHeapModel.push(II)V -/
def f_M_push (s : AS) (a0 : Nat) (a1 : Int32) (a2 : Int32) : Option AS :=
  if sT s a0 = 13 then
  if sT s (sR s a0 26) = 20 ∧ inA (sI s a0 28) (sN s (sR s a0 26)) then
  if sT s (sR s a0 27) = 20 ∧ inA (sI (setI s (sR s a0 26) (sI s a0 28).toNatClampNeg a1) a0 28) (sN s (sR s a0 27)) then
  some (setI (setI (setI s (sR s a0 26) (sI s a0 28).toNatClampNeg a1) (sR s a0 27) (sI (setI s (sR s a0 26) (sI s a0 28).toNatClampNeg a1) a0 28).toNatClampNeg a2) a0 28 ((sI (setI (setI s (sR s a0 26) (sI s a0 28).toNatClampNeg a1) (sR s a0 27) (sI (setI s (sR s a0 26) (sI s a0 28).toNatClampNeg a1) a0 28).toNatClampNeg a2) a0 28) + (nI 1)))
  else none
  else none
  else none
theorem t_M_push {s : AS} {a0 : Nat} {a1 : Int32} {a2 : Int32} {o : AS} (h : f_M_push s a0 a1 a2 = some o) : Ev 0 mZ164 0 [.ref a0, .int a1, .int a2] [] s (none, o) := by
  unfold f_M_push at h
  refine gd h (fun g1 h => ?_)
  refine gd h (fun g2 h => ?_)
  refine gd h (fun g3 h => ?_)
  refine Ev_blk 18 (pc' := 30) (ls' := [.ref a0, .int a1, .int a2]) (st' := []) (s' := setI (setI (setI s (sR s a0 26) (sI s a0 28).toNatClampNeg a1) (sR s a0 27) (sI (setI s (sR s a0 26) (sI s a0 28).toNatClampNeg a1) a0 28).toNatClampNeg a2) a0 28 ((sI (setI (setI s (sR s a0 26) (sI s a0 28).toNatClampNeg a1) (sR s a0 27) (sI (setI s (sR s a0 26) (sI s a0 28).toNatClampNeg a1) a0 28).toNatClampNeg a2) a0 28) + (nI 1))) rfl ⟨⟨⟨⟨⟨⟨⟨⟨trivial, g1⟩, g1⟩, g2⟩, g1⟩, g1⟩, g3⟩, g1⟩, g1⟩ ?_
  cases h
  exact Ev_ret rfl trivial

/-- RecordHeapModel.isSign(I)Z -/
def f_M_isSign (s : AS) (a0 : Nat) (a1 : Int32) : Option Int32 :=
  if sT s a0 = 13 then
  if (sI s a0 15) = (nI 3) then
      some (if (lg_cmp (sL s a0 16) a1.toInt64) = (nI 0) then nI 1 else nI 0)
  else
    some (nI 0)
  else none
theorem t_M_isSign {s : AS} {a0 : Nat} {a1 : Int32} {o : Int32} (h : f_M_isSign s a0 a1 = some o) : Ev 0 mZ165 0 [.ref a0, .int a1] [] s (some (.int o), s) := by
  unfold f_M_isSign at h
  refine gd h (fun g1 h => ?_)
  refine Ev_blk 4 (pc' := if (sI s a0 15) = (nI 3) then 8 else 22) (ls' := [.ref a0, .int a1]) (st' := []) (s' := s) rfl ⟨trivial, g1⟩ ?_
  refine ib h (fun c2 h => ?_) (fun c2 h => ?_)
  · refine Ev_blk 6 (pc' := if (lg_cmp (sL s a0 16) a1.toInt64) = (nI 0) then 18 else 22) (ls' := [.ref a0, .int a1]) (st' := []) (s' := s) rfl ⟨trivial, g1⟩ ?_
    have k3_ : Ev 0 mZ165 23 [.ref a0, .int a1] [.int (if (lg_cmp (sL s a0 16) a1.toInt64) = (nI 0) then nI 1 else nI 0)] s (some (.int o), s) := by
      cases h
      exact Ev_ret rfl (by (repeat' split) <;> first | exact Or.inl rfl | exact Or.inr rfl)
    refine icases (fun c4 => ?_) (fun c4 => ?_)
    · exact Ev_blk 2 (pc' := 23) (ls' := [.ref a0, .int a1]) (st' := [.int (nI 1)]) (s' := s) rfl trivial (by simpa only [if_pos c4] using k3_)
    · exact Ev_blk 1 (pc' := 23) (ls' := [.ref a0, .int a1]) (st' := [.int (nI 0)]) (s' := s) rfl trivial (by simpa only [if_neg c4] using k3_)
  · refine Ev_blk 1 (pc' := 23) (ls' := [.ref a0, .int a1]) (st' := [.int (nI 0)]) (s' := s) rfl trivial ?_
    cases h
    exact Ev_ret rfl (Or.inl rfl)

def b_M_openBracket_15  (v0 : Nat) (v1 : Int32) (w0 : Int32) (w1 : Nat) (s : AS) : Option AS :=
  if sT s w1 = 13 then
  (f_M_must s w1 w0).bind fun r1 =>
  if sT r1 v0 = 13 then
  if (sI r1 v0 18) = (nI 0) then
    (f_M_push (setI r1 v0 29 ((sI r1 v0 29) + (nI 1))) v0 v1 (nI 0)).bind fun r2 =>
    some r2
  else
    some r1
  else none
  else none
theorem t_M_openBracket_15    {v0 : Nat} {v1 : Int32} {w0 : Int32} {w1 : Nat} {s : AS} {o : AS} (h : b_M_openBracket_15  v0 v1 w0 w1 s = some o) : Ev 3 mZ166 15 [.ref v0, .int v1] [.int w0, .ref w1] s (none, o) := by
  unfold b_M_openBracket_15 at h
  refine gd h (fun g1 h => ?_)
  refine bd h (fun r1 hr1 h => ?_)
  refine Ev_call 2 161 1 [.ref w1, .int w0] [] rfl rfl rfl rfl g1 rfl rfl (Nat.le_of_ble_eq_true rfl) (t_M_must hr1) ?_
  refine gd h (fun g2 h => ?_)
  refine Ev_blk 3 (pc' := if (sI r1 v0 18) = (nI 0) then 25 else 41) (ls' := [.ref v0, .int v1]) (st' := []) (s' := r1) rfl ⟨trivial, g2⟩ ?_
  refine ib h (fun c3 h => ?_) (fun c3 h => ?_)
  · refine Ev_blk 9 (pc' := 38) (ls' := [.ref v0, .int v1]) (st' := [.int (nI 0), .int v1, .ref v0]) (s' := setI r1 v0 29 ((sI r1 v0 29) + (nI 1))) rfl ⟨⟨trivial, g2⟩, g2⟩ ?_
    refine bd h (fun r2 hr2 h => ?_)
    refine Ev_call 2 164 2 [.ref v0, .int v1, .int (nI 0)] [] rfl rfl rfl rfl g2 rfl rfl (Nat.le_of_ble_eq_true rfl) (t_M_push hr2) ?_
    cases h
    exact Ev_ret rfl trivial
  · cases h
    exact Ev_ret rfl trivial
/-- RecordHeapModel.openBracket(I)V -/
def f_M_openBracket (s : AS) (a0 : Nat) (a1 : Int32) : Option AS :=
  if sT s a0 = 13 then
    b_M_openBracket_15 a0 a1 (if (sI s a0 29) < (nI 8) then nI 1 else nI 0) a0 s
  else none
theorem t_M_openBracket {s : AS} {a0 : Nat} {a1 : Int32} {o : AS} (h : f_M_openBracket s a0 a1 = some o) : Ev 3 mZ166 0 [.ref a0, .int a1] [] s (none, o) := by
  unfold f_M_openBracket at h
  refine gd h (fun g1 h => ?_)
  refine Ev_blk 5 (pc' := if (sI s a0 29) < (nI 8) then 10 else 14) (ls' := [.ref a0, .int a1]) (st' := [.ref a0]) (s' := s) rfl ⟨trivial, g1⟩ ?_
  have k2_ : Ev 3 mZ166 15 [.ref a0, .int a1] [.int (if (sI s a0 29) < (nI 8) then nI 1 else nI 0), .ref a0] s (none, o) := by
    exact t_M_openBracket_15 h
  refine icases (fun c3 => ?_) (fun c3 => ?_)
  · exact Ev_blk 2 (pc' := 15) (ls' := [.ref a0, .int a1]) (st' := [.int (nI 1), .ref a0]) (s' := s) rfl trivial (by simpa only [if_pos c3] using k2_)
  · exact Ev_blk 1 (pc' := 15) (ls' := [.ref a0, .int a1]) (st' := [.int (nI 0), .ref a0]) (s' := s) rfl trivial (by simpa only [if_neg c3] using k2_)

def b_M_orderPartAt_4 (s : AS) (k4 : Nat → Int32 → Int32 → Option Int32) (v0 : Nat) (v1 : Int32) (v2 : Int32) : Option Int32 :=
  if v2 < (nI 6) then
    if sT s v0 = 13 then
    if sT s (sR s v0 31) = 21 ∧ inA v2 (sN s (sR s v0 31)) then
    (f_M_isWord s v0 (sL s (sR s v0 31) v2.toNatClampNeg)).bind fun r1 =>
      k4 v0 (if r1 = (nI 0) then v1 else v2 + (nI 1)) (v2 + nI 1)
    else none
    else none
  else
    some v1
theorem t_M_orderPartAt_4 {s : AS} {k4 : Nat → Int32 → Int32 → Option Int32} (H4 : ∀ {v0 : Nat} {v1 : Int32} {v2 : Int32} {o : Int32}, k4 v0 v1 v2 = some o → Ev 1 mZ168 4 [.ref v0, .int v1, .int v2] [] s (some (.int o), s))  {v0 : Nat} {v1 : Int32} {v2 : Int32} {o : Int32} (h : b_M_orderPartAt_4 s k4 v0 v1 v2 = some o) : Ev 1 mZ168 4 [.ref v0, .int v1, .int v2] [] s (some (.int o), s) := by
  unfold b_M_orderPartAt_4 at h
  refine Ev_blk 3 (pc' := if v2 < (nI 6) then 10 else 37) (ls' := [.ref v0, .int v1, .int v2]) (st' := []) (s' := s) rfl trivial ?_
  refine ib h (fun c1 h => ?_) (fun c1 h => ?_)
  · refine gd h (fun g2 h => ?_)
    refine gd h (fun g3 h => ?_)
    refine Ev_blk 5 (pc' := 17) (ls' := [.ref v0, .int v1, .int v2]) (st' := [.long (sL s (sR s v0 31) v2.toNatClampNeg), .ref v0]) (s' := s) rfl ⟨⟨trivial, g2⟩, g3⟩ ?_
    refine bd h (fun r1 hr1 h => ?_)
    refine Ev_call 2 160 1 [.ref v0, .long (sL s (sR s v0 31) v2.toNatClampNeg)] [] rfl rfl rfl rfl g2 rfl rfl (Nat.le_of_ble_eq_true rfl) (t_M_isWord hr1) ?_
    refine Ev_blk 1 (pc' := if r1 = (nI 0) then 29 else 23) (ls' := [.ref v0, .int v1, .int v2]) (st' := []) (s' := s) rfl trivial ?_
    have k4_ : Ev 1 mZ168 30 [.ref v0, .int v1, .int v2] [.int (if r1 = (nI 0) then v1 else v2 + (nI 1))] s (some (.int o), s) := by
      refine Ev_blk 3 (pc' := 4) (ls' := [.ref v0, .int (if r1 = (nI 0) then v1 else v2 + (nI 1)), .int (v2 + nI 1)]) (st' := []) (s' := s) rfl trivial ?_
      exact H4 h
    refine icases (fun c5 => ?_) (fun c5 => ?_)
    · exact Ev_blk 1 (pc' := 30) (ls' := [.ref v0, .int v1, .int v2]) (st' := [.int v1]) (s' := s) rfl trivial (by simpa only [if_pos c5] using k4_)
    · exact Ev_blk 4 (pc' := 30) (ls' := [.ref v0, .int v1, .int v2]) (st' := [.int (v2 + (nI 1))]) (s' := s) rfl trivial (by simpa only [if_neg c5] using k4_)
  · refine Ev_blk 1 (pc' := 38) (ls' := [.ref v0, .int v1, .int v2]) (st' := [.int v1]) (s' := s) rfl trivial ?_
    cases h
    exact Ev_ret rfl trivial
def l_M_orderPartAt_4 (s : AS)  : Nat → Nat → Int32 → Int32 → Option Int32
  | 0 => fun _ _ _ => none
  | n + 1 => b_M_orderPartAt_4 s  (l_M_orderPartAt_4 s  n)
theorem u_M_orderPartAt_4 {s : AS}   {n : Nat} : ∀  {v0 : Nat} {v1 : Int32} {v2 : Int32} {o : Int32}, l_M_orderPartAt_4 s  n v0 v1 v2 = some o → Ev 1 mZ168 4 [.ref v0, .int v1, .int v2] [] s (some (.int o), s) := by
  induction n with
  | zero => intros; rename_i h; cases h
  | succ n ih => intros; rename_i h; exact t_M_orderPartAt_4  (fun h => ih h) h
/-- RecordHeapModel.orderPartAt()I -/
def f_M_orderPartAt (s : AS) (a0 : Nat) : Option Int32 :=
  l_M_orderPartAt_4 s fuel a0 (-(nI 1)) (nI 0)
theorem t_M_orderPartAt {s : AS} {a0 : Nat} {o : Int32} (h : f_M_orderPartAt s a0 = some o) : Ev 1 mZ168 0 [.ref a0, .retAddr 0, .retAddr 0] [] s (some (.int o), s) := by
  unfold f_M_orderPartAt at h
  refine Ev_blk 4 (pc' := 4) (ls' := [.ref a0, .int (-(nI 1)), .int (nI 0)]) (st' := []) (s' := s) rfl trivial ?_
  exact u_M_orderPartAt_4 h

def b_M_partAt_4 (s : AS) (k4 : Nat → Int32 → Int32 → Option Int32) (v0 : Nat) (v1 : Int32) (v2 : Int32) : Option Int32 :=
  if v2 < (nI 7) then
    if sT s v0 = 13 then
    if sT s (sR s v0 30) = 21 ∧ inA v2 (sN s (sR s v0 30)) then
    (f_M_isWord s v0 (sL s (sR s v0 30) v2.toNatClampNeg)).bind fun r1 =>
      k4 v0 (if r1 = (nI 0) then v1 else v2 + (nI 1)) (v2 + nI 1)
    else none
    else none
  else
    some v1
theorem t_M_partAt_4 {s : AS} {k4 : Nat → Int32 → Int32 → Option Int32} (H4 : ∀ {v0 : Nat} {v1 : Int32} {v2 : Int32} {o : Int32}, k4 v0 v1 v2 = some o → Ev 1 mZ169 4 [.ref v0, .int v1, .int v2] [] s (some (.int o), s))  {v0 : Nat} {v1 : Int32} {v2 : Int32} {o : Int32} (h : b_M_partAt_4 s k4 v0 v1 v2 = some o) : Ev 1 mZ169 4 [.ref v0, .int v1, .int v2] [] s (some (.int o), s) := by
  unfold b_M_partAt_4 at h
  refine Ev_blk 3 (pc' := if v2 < (nI 7) then 10 else 37) (ls' := [.ref v0, .int v1, .int v2]) (st' := []) (s' := s) rfl trivial ?_
  refine ib h (fun c1 h => ?_) (fun c1 h => ?_)
  · refine gd h (fun g2 h => ?_)
    refine gd h (fun g3 h => ?_)
    refine Ev_blk 5 (pc' := 17) (ls' := [.ref v0, .int v1, .int v2]) (st' := [.long (sL s (sR s v0 30) v2.toNatClampNeg), .ref v0]) (s' := s) rfl ⟨⟨trivial, g2⟩, g3⟩ ?_
    refine bd h (fun r1 hr1 h => ?_)
    refine Ev_call 2 160 1 [.ref v0, .long (sL s (sR s v0 30) v2.toNatClampNeg)] [] rfl rfl rfl rfl g2 rfl rfl (Nat.le_of_ble_eq_true rfl) (t_M_isWord hr1) ?_
    refine Ev_blk 1 (pc' := if r1 = (nI 0) then 29 else 23) (ls' := [.ref v0, .int v1, .int v2]) (st' := []) (s' := s) rfl trivial ?_
    have k4_ : Ev 1 mZ169 30 [.ref v0, .int v1, .int v2] [.int (if r1 = (nI 0) then v1 else v2 + (nI 1))] s (some (.int o), s) := by
      refine Ev_blk 3 (pc' := 4) (ls' := [.ref v0, .int (if r1 = (nI 0) then v1 else v2 + (nI 1)), .int (v2 + nI 1)]) (st' := []) (s' := s) rfl trivial ?_
      exact H4 h
    refine icases (fun c5 => ?_) (fun c5 => ?_)
    · exact Ev_blk 1 (pc' := 30) (ls' := [.ref v0, .int v1, .int v2]) (st' := [.int v1]) (s' := s) rfl trivial (by simpa only [if_pos c5] using k4_)
    · exact Ev_blk 4 (pc' := 30) (ls' := [.ref v0, .int v1, .int v2]) (st' := [.int (v2 + (nI 1))]) (s' := s) rfl trivial (by simpa only [if_neg c5] using k4_)
  · refine Ev_blk 1 (pc' := 38) (ls' := [.ref v0, .int v1, .int v2]) (st' := [.int v1]) (s' := s) rfl trivial ?_
    cases h
    exact Ev_ret rfl trivial
def l_M_partAt_4 (s : AS)  : Nat → Nat → Int32 → Int32 → Option Int32
  | 0 => fun _ _ _ => none
  | n + 1 => b_M_partAt_4 s  (l_M_partAt_4 s  n)
theorem u_M_partAt_4 {s : AS}   {n : Nat} : ∀  {v0 : Nat} {v1 : Int32} {v2 : Int32} {o : Int32}, l_M_partAt_4 s  n v0 v1 v2 = some o → Ev 1 mZ169 4 [.ref v0, .int v1, .int v2] [] s (some (.int o), s) := by
  induction n with
  | zero => intros; rename_i h; cases h
  | succ n ih => intros; rename_i h; exact t_M_partAt_4  (fun h => ih h) h
/-- RecordHeapModel.partAt()I -/
def f_M_partAt (s : AS) (a0 : Nat) : Option Int32 :=
  l_M_partAt_4 s fuel a0 (-(nI 1)) (nI 0)
theorem t_M_partAt {s : AS} {a0 : Nat} {o : Int32} (h : f_M_partAt s a0 = some o) : Ev 1 mZ169 0 [.ref a0, .retAddr 0, .retAddr 0] [] s (some (.int o), s) := by
  unfold f_M_partAt at h
  refine Ev_blk 4 (pc' := 4) (ls' := [.ref a0, .int (-(nI 1)), .int (nI 0)]) (st' := []) (s' := s) rfl trivial ?_
  exact u_M_partAt_4 h

/-- RecordHeapModel.emit(II)V -/
def f_M_emit (s : AS) (a0 : Nat) (a1 : Int32) (a2 : Int32) : Option AS :=
  if sT s a0 = 13 then
  if sT s (sR s a0 23) = 20 ∧ inA (sI s a0 22) (sN s (sR s a0 23)) then
  if sT s (sR s a0 24) = 20 ∧ inA (sI (setI s (sR s a0 23) (sI s a0 22).toNatClampNeg a1) a0 22) (sN s (sR s a0 24)) then
  some (setI (setI (setI s (sR s a0 23) (sI s a0 22).toNatClampNeg a1) (sR s a0 24) (sI (setI s (sR s a0 23) (sI s a0 22).toNatClampNeg a1) a0 22).toNatClampNeg a2) a0 22 ((sI (setI (setI s (sR s a0 23) (sI s a0 22).toNatClampNeg a1) (sR s a0 24) (sI (setI s (sR s a0 23) (sI s a0 22).toNatClampNeg a1) a0 22).toNatClampNeg a2) a0 22) + (nI 1)))
  else none
  else none
  else none
theorem t_M_emit {s : AS} {a0 : Nat} {a1 : Int32} {a2 : Int32} {o : AS} (h : f_M_emit s a0 a1 a2 = some o) : Ev 0 mZ171 0 [.ref a0, .int a1, .int a2] [] s (none, o) := by
  unfold f_M_emit at h
  refine gd h (fun g1 h => ?_)
  refine gd h (fun g2 h => ?_)
  refine gd h (fun g3 h => ?_)
  refine Ev_blk 18 (pc' := 30) (ls' := [.ref a0, .int a1, .int a2]) (st' := []) (s' := setI (setI (setI s (sR s a0 23) (sI s a0 22).toNatClampNeg a1) (sR s a0 24) (sI (setI s (sR s a0 23) (sI s a0 22).toNatClampNeg a1) a0 22).toNatClampNeg a2) a0 22 ((sI (setI (setI s (sR s a0 23) (sI s a0 22).toNatClampNeg a1) (sR s a0 24) (sI (setI s (sR s a0 23) (sI s a0 22).toNatClampNeg a1) a0 22).toNatClampNeg a2) a0 22) + (nI 1))) rfl ⟨⟨⟨⟨⟨⟨⟨⟨trivial, g1⟩, g1⟩, g2⟩, g1⟩, g1⟩, g3⟩, g1⟩, g1⟩ ?_
  cases h
  exact Ev_ret rfl trivial

def b_M_leaf_19  (v0 : Nat) (v2 : Int32) (v3 : Int32) (w0 : Int32) (w1 : Nat) (s : AS) : Option AS :=
  if sT s w1 = 13 then
  (f_M_must s w1 w0).bind fun r1 =>
  if sT r1 v0 = 13 then
  if (sI r1 v0 18) = (nI 0) then
    (f_M_emit r1 v0 v2 v3).bind fun r2 =>
    if sT r2 v0 = 13 then
    some (setI r2 v0 25 ((sI r2 v0 25) + (nI 1)))
    else none
  else
    some r1
  else none
  else none
theorem t_M_leaf_19   {d1 : Value} {v0 : Nat} {v2 : Int32} {v3 : Int32} {w0 : Int32} {w1 : Nat} {s : AS} {o : AS} (h : b_M_leaf_19  v0 v2 v3 w0 w1 s = some o) : Ev 3 mZ170 19 [.ref v0, d1, .int v2, .int v3] [.int w0, .ref w1] s (none, o) := by
  unfold b_M_leaf_19 at h
  refine gd h (fun g1 h => ?_)
  refine bd h (fun r1 hr1 h => ?_)
  refine Ev_call 2 161 1 [.ref w1, .int w0] [] rfl rfl rfl rfl g1 rfl rfl (Nat.le_of_ble_eq_true rfl) (t_M_must hr1) ?_
  refine gd h (fun g2 h => ?_)
  refine Ev_blk 3 (pc' := if (sI r1 v0 18) = (nI 0) then 29 else 45) (ls' := [.ref v0, d1, .int v2, .int v3]) (st' := []) (s' := r1) rfl ⟨trivial, g2⟩ ?_
  refine ib h (fun c3 h => ?_) (fun c3 h => ?_)
  · refine Ev_blk 3 (pc' := 32) (ls' := [.ref v0, d1, .int v2, .int v3]) (st' := [.int v3, .int v2, .ref v0]) (s' := r1) rfl trivial ?_
    refine bd h (fun r2 hr2 h => ?_)
    refine Ev_call 2 171 2 [.ref v0, .int v2, .int v3] [] rfl rfl rfl rfl g2 rfl rfl (Nat.le_of_ble_eq_true rfl) (t_M_emit hr2) ?_
    refine gd h (fun g4 h => ?_)
    refine Ev_blk 6 (pc' := 45) (ls' := [.ref v0, d1, .int v2, .int v3]) (st' := []) (s' := setI r2 v0 25 ((sI r2 v0 25) + (nI 1))) rfl ⟨⟨trivial, g4⟩, g4⟩ ?_
    cases h
    exact Ev_ret rfl trivial
  · cases h
    exact Ev_ret rfl trivial
def b_M_leaf_18  (v0 : Nat) (v2 : Int32) (v3 : Int32) (w0 : Nat) (s : AS) : Option AS :=
  b_M_leaf_19 v0 v2 v3 (nI 0) w0 s
theorem t_M_leaf_18   {d1 : Value} {v0 : Nat} {v2 : Int32} {v3 : Int32} {w0 : Nat} {s : AS} {o : AS} (h : b_M_leaf_18  v0 v2 v3 w0 s = some o) : Ev 3 mZ170 18 [.ref v0, d1, .int v2, .int v3] [.ref w0] s (none, o) := by
  unfold b_M_leaf_18 at h
  refine Ev_blk 1 (pc' := 19) (ls' := [.ref v0, d1, .int v2, .int v3]) (st' := [.int (nI 0), .ref w0]) (s' := s) rfl trivial ?_
  exact t_M_leaf_19 h
/-- RecordHeapModel.leaf(ZII)V -/
def f_M_leaf (s : AS) (a0 : Nat) (a1 : Int32) (a2 : Int32) (a3 : Int32) : Option AS :=
  if a1 = (nI 0) then
    b_M_leaf_18 a0 a2 a3 a0 s
  else
    if sT s a0 = 13 then
      b_M_leaf_19 a0 a2 a3 (if (sI s a0 25) < (nI 50) then nI 1 else nI 0) a0 s
    else none
theorem t_M_leaf {s : AS} {a0 : Nat} {a1 : Int32} {a2 : Int32} {a3 : Int32} {o : AS} (h : f_M_leaf s a0 a1 a2 a3 = some o) : Ev 3 mZ170 0 [.ref a0, .int a1, .int a2, .int a3] [] s (none, o) := by
  unfold f_M_leaf at h
  refine Ev_blk 3 (pc' := if a1 = (nI 0) then 18 else 5) (ls' := [.ref a0, .int a1, .int a2, .int a3]) (st' := [.ref a0]) (s' := s) rfl trivial ?_
  refine ib h (fun c1 h => ?_) (fun c1 h => ?_)
  · exact t_M_leaf_18 h
  · refine gd h (fun g2 h => ?_)
    refine Ev_blk 4 (pc' := if (sI s a0 25) < (nI 50) then 14 else 18) (ls' := [.ref a0, .int a1, .int a2, .int a3]) (st' := [.ref a0]) (s' := s) rfl ⟨trivial, g2⟩ ?_
    have k3_ : Ev 3 mZ170 19 [.ref a0, .int a1, .int a2, .int a3] [.int (if (sI s a0 25) < (nI 50) then nI 1 else nI 0), .ref a0] s (none, o) := by
      exact t_M_leaf_19 h
    refine icases (fun c4 => ?_) (fun c4 => ?_)
    · exact Ev_blk 2 (pc' := 19) (ls' := [.ref a0, .int a1, .int a2, .int a3]) (st' := [.int (nI 1), .ref a0]) (s' := s) rfl trivial (by simpa only [if_pos c4] using k3_)
    · exact Ev_blk 1 (pc' := 19) (ls' := [.ref a0, .int a1, .int a2, .int a3]) (st' := [.int (nI 0), .ref a0]) (s' := s) rfl trivial (by simpa only [if_neg c4] using k3_)

def b_M_number_33  (v5 : Int32) (w0 : Int32) (w1 : Nat) (s : AS) : Option (Int32 × AS) :=
  if sT s w1 = 13 then
  (f_M_must s w1 w0).bind fun r1 =>
  some (v5, r1)
  else none
theorem t_M_number_33   {d0 d1 d2 d3 d4 : Value} {v5 : Int32} {w0 : Int32} {w1 : Nat} {s : AS} {o : Int32 × AS} (h : b_M_number_33  v5 w0 w1 s = some o) : Ev 3 mZ172 33 [d0, d1, d2, d3, d4, .int v5] [.int w0, .ref w1] s (some (.int o.1), o.2) := by
  unfold b_M_number_33 at h
  refine gd h (fun g1 h => ?_)
  refine bd h (fun r1 hr1 h => ?_)
  refine Ev_call 2 161 1 [.ref w1, .int w0] [] rfl rfl rfl rfl g1 rfl rfl (Nat.le_of_ble_eq_true rfl) (t_M_must hr1) ?_
  refine Ev_blk 1 (pc' := 38) (ls' := [d0, d1, d2, d3, d4, .int v5]) (st' := [.int v5]) (s' := r1) rfl trivial ?_
  cases h
  exact Ev_ret rfl trivial
def b_M_number_32  (v5 : Int32) (w0 : Nat) (s : AS) : Option (Int32 × AS) :=
  b_M_number_33 v5 (nI 0) w0 s
theorem t_M_number_32   {d0 d1 d2 d3 d4 : Value} {v5 : Int32} {w0 : Nat} {s : AS} {o : Int32 × AS} (h : b_M_number_32  v5 w0 s = some o) : Ev 3 mZ172 32 [d0, d1, d2, d3, d4, .int v5] [.ref w0] s (some (.int o.1), o.2) := by
  unfold b_M_number_32 at h
  refine Ev_blk 1 (pc' := 33) (ls' := [d0, d1, d2, d3, d4, .int v5]) (st' := [.int (nI 0), .ref w0]) (s' := s) rfl trivial ?_
  exact t_M_number_33 h
/-- RecordHeapModel.number(JJ)I -/
def f_M_number (s : AS) (a0 : Nat) (a1 : Int64) (a2 : Int64) : Option (Int32 × AS) :=
  if sT s a0 = 13 then
  if (sI s a0 15) = (nI 2) then
    (f_M_in s (sL s a0 16) a1 a2).bind fun r1 =>
      b_M_number_33 ((sL s a0 16).toInt32) (if r1 = (nI 0) then nI 0 else nI 1) a0 s
  else
    b_M_number_32 ((sL s a0 16).toInt32) a0 s
  else none
theorem t_M_number {s : AS} {a0 : Nat} {a1 : Int64} {a2 : Int64} {o : Int32 × AS} (h : f_M_number s a0 a1 a2 = some o) : Ev 3 mZ172 0 [.ref a0, .long a1, .retAddr 0, .long a2, .retAddr 0, .retAddr 0] [] s (some (.int o.1), o.2) := by
  unfold f_M_number at h
  refine gd h (fun g1 h => ?_)
  refine Ev_blk 9 (pc' := if (sI s a0 15) = (nI 2) then 16 else 32) (ls' := [.ref a0, .long a1, .retAddr 0, .long a2, .retAddr 0, .int ((sL s a0 16).toInt32)]) (st' := [.ref a0]) (s' := s) rfl ⟨⟨trivial, g1⟩, g1⟩ ?_
  refine ib h (fun c2 h => ?_) (fun c2 h => ?_)
  · refine Ev_blk 4 (pc' := 22) (ls' := [.ref a0, .long a1, .retAddr 0, .long a2, .retAddr 0, .int ((sL s a0 16).toInt32)]) (st' := [.long a2, .long a1, .long (sL s a0 16), .ref a0]) (s' := s) rfl ⟨trivial, g1⟩ ?_
    refine bd h (fun r1 hr1 h => ?_)
    refine Ev_call 1 145 3 [.long (sL s a0 16), .long a1, .long a2] [.ref a0] rfl rfl rfl rfl trivial rfl rfl (Nat.le_of_ble_eq_true rfl) (t_M_in hr1) ?_
    refine Ev_blk 1 (pc' := if r1 = (nI 0) then 32 else 28) (ls' := [.ref a0, .long a1, .retAddr 0, .long a2, .retAddr 0, .int ((sL s a0 16).toInt32)]) (st' := [.ref a0]) (s' := s) rfl trivial ?_
    have k3_ : Ev 3 mZ172 33 [.ref a0, .long a1, .retAddr 0, .long a2, .retAddr 0, .int ((sL s a0 16).toInt32)] [.int (if r1 = (nI 0) then nI 0 else nI 1), .ref a0] s (some (.int o.1), o.2) := by
      exact t_M_number_33 h
    refine icases (fun c4 => ?_) (fun c4 => ?_)
    · exact Ev_blk 1 (pc' := 33) (ls' := [.ref a0, .long a1, .retAddr 0, .long a2, .retAddr 0, .int ((sL s a0 16).toInt32)]) (st' := [.int (nI 0), .ref a0]) (s' := s) rfl trivial (by simpa only [if_pos c4] using k3_)
    · exact Ev_blk 2 (pc' := 33) (ls' := [.ref a0, .long a1, .retAddr 0, .long a2, .retAddr 0, .int ((sL s a0 16).toInt32)]) (st' := [.int (nI 1), .ref a0]) (s' := s) rfl trivial (by simpa only [if_neg c4] using k3_)
  · exact t_M_number_32 h

def b_M_readPart_99  (v0 : Nat) (v1 : Int32) (w0 : Int32) (w1 : Int32) (w2 : Int32) (w3 : Nat) (s : AS) : Option (Int32 × AS) :=
  if sT s w3 = 13 then
  (f_M_leaf s w3 w2 w1 w0).bind fun r1 =>
  if sT r1 v0 = 13 then
  if (sI r1 v0 19) = (nI 0) then
    some (nI 3, r1)
  else
    if v1 < (nI 5) then
      some (nI 3, r1)
    else
      if (sI r1 v0 18) = (nI 0) then
        (f_M_number r1 v0 (lN 0) (lN 7)).bind fun r2 =>
        if sT r2.2 (sR r1 v0 24) = 20 ∧ inA ((sI r1 v0 22) - (nI 1)) (sN r2.2 (sR r1 v0 24)) then
        some (nI 3, setI r2.2 (sR r1 v0 24) ((sI r1 v0 22) - (nI 1)).toNatClampNeg r2.1)
        else none
      else
        some (nI 3, r1)
  else none
  else none
theorem t_M_readPart_99   {d2 d3 : Value} {v0 : Nat} {v1 : Int32} {w0 : Int32} {w1 : Int32} {w2 : Int32} {w3 : Nat} {s : AS} {o : Int32 × AS} (h : b_M_readPart_99  v0 v1 w0 w1 w2 w3 s = some o) : Ev 4 mZ167 99 [.ref v0, .int v1, d2, d3] [.int w0, .int w1, .int w2, .ref w3] s (some (.int o.1), o.2) := by
  unfold b_M_readPart_99 at h
  refine gd h (fun g1 h => ?_)
  refine bd h (fun r1 hr1 h => ?_)
  refine Ev_call 2 170 3 [.ref w3, .int w2, .int w1, .int w0] [] rfl rfl rfl rfl g1 rfl rfl (Nat.le_of_ble_eq_true rfl) (t_M_leaf hr1) ?_
  refine gd h (fun g2 h => ?_)
  refine Ev_blk 3 (pc' := if (sI r1 v0 19) = (nI 0) then 142 else 109) (ls' := [.ref v0, .int v1, d2, d3]) (st' := []) (s' := r1) rfl ⟨trivial, g2⟩ ?_
  refine ib h (fun c3 h => ?_) (fun c3 h => ?_)
  · refine Ev_blk 1 (pc' := 143) (ls' := [.ref v0, .int v1, d2, d3]) (st' := [.int (nI 3)]) (s' := r1) rfl trivial ?_
    cases h
    exact Ev_ret rfl trivial
  · refine Ev_blk 3 (pc' := if v1 < (nI 5) then 142 else 114) (ls' := [.ref v0, .int v1, d2, d3]) (st' := []) (s' := r1) rfl trivial ?_
    refine ib h (fun c4 h => ?_) (fun c4 h => ?_)
    · refine Ev_blk 1 (pc' := 143) (ls' := [.ref v0, .int v1, d2, d3]) (st' := [.int (nI 3)]) (s' := r1) rfl trivial ?_
      cases h
      exact Ev_ret rfl trivial
    · refine Ev_blk 3 (pc' := if (sI r1 v0 18) = (nI 0) then 121 else 142) (ls' := [.ref v0, .int v1, d2, d3]) (st' := []) (s' := r1) rfl ⟨trivial, g2⟩ ?_
      refine ib h (fun c5 h => ?_) (fun c5 h => ?_)
      · refine Ev_blk 11 (pc' := 138) (ls' := [.ref v0, .int v1, (clrV d2), .int ((sI r1 v0 22) - (nI 1))]) (st' := [.long (lN 7), .long (lN 0), .ref v0, .int ((sI r1 v0 22) - (nI 1)), .ref (sR r1 v0 24)]) (s' := r1) rfl ⟨⟨trivial, g2⟩, g2⟩ ?_
        refine bd h (fun r2 hr2 h => ?_)
        refine Ev_call 2 172 2 [.ref v0, .long (lN 0), .long (lN 7)] [.int ((sI r1 v0 22) - (nI 1)), .ref (sR r1 v0 24)] rfl rfl rfl rfl g2 rfl rfl (Nat.le_of_ble_eq_true rfl) (t_M_number hr2) ?_
        refine gd h (fun g6 h => ?_)
        refine Ev_blk 2 (pc' := 143) (ls' := [.ref v0, .int v1, (clrV d2), .int ((sI r1 v0 22) - (nI 1))]) (st' := [.int (nI 3)]) (s' := setI r2.2 (sR r1 v0 24) ((sI r1 v0 22) - (nI 1)).toNatClampNeg r2.1) rfl ⟨trivial, g6⟩ ?_
        cases h
        exact Ev_ret rfl trivial
      · refine Ev_blk 1 (pc' := 143) (ls' := [.ref v0, .int v1, d2, d3]) (st' := [.int (nI 3)]) (s' := r1) rfl trivial ?_
        cases h
        exact Ev_ret rfl trivial
def b_M_readPart_86  (v0 : Nat) (v1 : Int32) (v2 : Int32) (w0 : Int32) (w1 : Int32) (w2 : Nat) (s : AS) : Option (Int32 × AS) :=
  if v2 = (nI 0) then
    b_M_readPart_99 v0 v1 (nI 0) w0 w1 w2 s
  else
    if sT s v0 = 13 then
    b_M_readPart_99 v0 v1 ((sL s v0 16).toInt32) w0 w1 w2 s
    else none
theorem t_M_readPart_86   {d3 : Value} {v0 : Nat} {v1 : Int32} {v2 : Int32} {w0 : Int32} {w1 : Int32} {w2 : Nat} {s : AS} {o : Int32 × AS} (h : b_M_readPart_86  v0 v1 v2 w0 w1 w2 s = some o) : Ev 4 mZ167 86 [.ref v0, .int v1, .int v2, d3] [.int w0, .int w1, .ref w2] s (some (.int o.1), o.2) := by
  unfold b_M_readPart_86 at h
  refine Ev_blk 2 (pc' := if v2 = (nI 0) then 98 else 90) (ls' := [.ref v0, .int v1, .int v2, d3]) (st' := [.int w0, .int w1, .ref w2]) (s' := s) rfl trivial ?_
  refine ib h (fun c1 h => ?_) (fun c1 h => ?_)
  · refine Ev_blk 1 (pc' := 99) (ls' := [.ref v0, .int v1, .int v2, d3]) (st' := [.int (nI 0), .int w0, .int w1, .ref w2]) (s' := s) rfl trivial ?_
    exact t_M_readPart_99 h
  · refine gd h (fun g2 h => ?_)
    refine Ev_blk 4 (pc' := 99) (ls' := [.ref v0, .int v1, .int v2, d3]) (st' := [.int ((sL s v0 16).toInt32), .int w0, .int w1, .ref w2]) (s' := s) rfl ⟨trivial, g2⟩ ?_
    exact t_M_readPart_99 h
def b_M_readPart_76  (v0 : Nat) (v1 : Int32) (v2 : Int32) (w0 : Int32) (w1 : Nat) (s : AS) : Option (Int32 × AS) :=
    b_M_readPart_86 v0 v1 v2 (if v1 = (-(nI 1)) then nI 0 else v1) w0 w1 s
theorem t_M_readPart_76   {d3 : Value} {v0 : Nat} {v1 : Int32} {v2 : Int32} {w0 : Int32} {w1 : Nat} {s : AS} {o : Int32 × AS} (h : b_M_readPart_76  v0 v1 v2 w0 w1 s = some o) : Ev 4 mZ167 76 [.ref v0, .int v1, .int v2, d3] [.int w0, .ref w1] s (some (.int o.1), o.2) := by
  unfold b_M_readPart_76 at h
  refine Ev_blk 3 (pc' := if v1 = (-(nI 1)) then 81 else 85) (ls' := [.ref v0, .int v1, .int v2, d3]) (st' := [.int w0, .ref w1]) (s' := s) rfl trivial ?_
  have k1_ : Ev 4 mZ167 86 [.ref v0, .int v1, .int v2, d3] [.int (if v1 = (-(nI 1)) then nI 0 else v1), .int w0, .ref w1] s (some (.int o.1), o.2) := by
    exact t_M_readPart_86 h
  refine icases (fun c2 => ?_) (fun c2 => ?_)
  · exact Ev_blk 2 (pc' := 86) (ls' := [.ref v0, .int v1, .int v2, d3]) (st' := [.int (nI 0), .int w0, .ref w1]) (s' := s) rfl trivial (by simpa only [if_pos c2] using k1_)
  · exact Ev_blk 1 (pc' := 86) (ls' := [.ref v0, .int v1, .int v2, d3]) (st' := [.int v1, .int w0, .ref w1]) (s' := s) rfl trivial (by simpa only [if_neg c2] using k1_)
def b_M_readPart_71  (v0 : Nat) (v1 : Int32) (v2 : Int32) (w0 : Nat) (s : AS) : Option (Int32 × AS) :=
  b_M_readPart_76 v0 v1 v2 (nI 1) w0 s
theorem t_M_readPart_71   {d3 : Value} {v0 : Nat} {v1 : Int32} {v2 : Int32} {w0 : Nat} {s : AS} {o : Int32 × AS} (h : b_M_readPart_71  v0 v1 v2 w0 s = some o) : Ev 4 mZ167 71 [.ref v0, .int v1, .int v2, d3] [.ref w0] s (some (.int o.1), o.2) := by
  unfold b_M_readPart_71 at h
  refine Ev_blk 2 (pc' := 76) (ls' := [.ref v0, .int v1, .int v2, d3]) (st' := [.int (nI 1), .ref w0]) (s' := s) rfl trivial ?_
  exact t_M_readPart_76 h
def b_M_readPart_60  (v0 : Nat) (v1 : Int32) (w0 : Int32) (s : AS) : Option (Int32 × AS) :=
    b_M_readPart_76 v0 v1 w0 (if v1 = (-(nI 1)) then (if w0 = (nI 0) then nI 0 else nI 1) else nI 1) v0 s
theorem t_M_readPart_60   {d2 d3 : Value} {v0 : Nat} {v1 : Int32} {w0 : Int32} {s : AS} {o : Int32 × AS} (h : b_M_readPart_60  v0 v1 w0 s = some o) : Ev 4 mZ167 60 [.ref v0, .int v1, d2, d3] [.int w0] s (some (.int o.1), o.2) := by
  unfold b_M_readPart_60 at h
  refine Ev_blk 5 (pc' := if v1 = (-(nI 1)) then 67 else 71) (ls' := [.ref v0, .int v1, .int w0, d3]) (st' := [.ref v0]) (s' := s) rfl trivial ?_
  have k1_ : Ev 4 mZ167 76 [.ref v0, .int v1, .int w0, d3] [.int (if v1 = (-(nI 1)) then (if w0 = (nI 0) then nI 0 else nI 1) else nI 1), .ref v0] s (some (.int o.1), o.2) := by
    exact t_M_readPart_76 h
  refine icases (fun c2 => ?_) (fun c2 => ?_)
  · refine Ev_blk 2 (pc' := if w0 = (nI 0) then 75 else 71) (ls' := [.ref v0, .int v1, .int w0, d3]) (st' := [.ref v0]) (s' := s) rfl trivial ?_
    refine icases (fun c3 => ?_) (fun c3 => ?_)
    · exact Ev_blk 1 (pc' := 76) (ls' := [.ref v0, .int v1, .int w0, d3]) (st' := [.int (nI 0), .ref v0]) (s' := s) rfl trivial (by simpa only [if_pos c2, if_pos c3] using k1_)
    · exact Ev_blk 2 (pc' := 76) (ls' := [.ref v0, .int v1, .int w0, d3]) (st' := [.int (nI 1), .ref v0]) (s' := s) rfl trivial (by simpa only [if_pos c2, if_neg c3] using k1_)
  · exact Ev_blk 2 (pc' := 76) (ls' := [.ref v0, .int v1, .int w0, d3]) (st' := [.int (nI 1), .ref v0]) (s' := s) rfl trivial (by simpa only [if_neg c2] using k1_)
def b_M_readPart_59  (v0 : Nat) (v1 : Int32) (s : AS) : Option (Int32 × AS) :=
  b_M_readPart_60 v0 v1 (nI 0) s
theorem t_M_readPart_59   {d2 d3 : Value} {v0 : Nat} {v1 : Int32} {s : AS} {o : Int32 × AS} (h : b_M_readPart_59  v0 v1 s = some o) : Ev 4 mZ167 59 [.ref v0, .int v1, d2, d3] [] s (some (.int o.1), o.2) := by
  unfold b_M_readPart_59 at h
  refine Ev_blk 1 (pc' := 60) (ls' := [.ref v0, .int v1, d2, d3]) (st' := [.int (nI 0)]) (s' := s) rfl trivial ?_
  exact t_M_readPart_60 h
def b_M_readPart_35  (v0 : Nat) (w0 : Int32) (s : AS) : Option (Int32 × AS) :=
  if sT s v0 = 13 then
  if (sI s v0 15) = (nI 2) then
      b_M_readPart_60 v0 w0 (if (nI 0) < (lg_cmp (sL s v0 16) (lN 1000)) then nI 0 else nI 1) s
  else
    b_M_readPart_59 v0 w0 s
  else none
theorem t_M_readPart_35   {d1 d2 d3 : Value} {v0 : Nat} {w0 : Int32} {s : AS} {o : Int32 × AS} (h : b_M_readPart_35  v0 w0 s = some o) : Ev 4 mZ167 35 [.ref v0, d1, d2, d3] [.int w0] s (some (.int o.1), o.2) := by
  unfold b_M_readPart_35 at h
  refine gd h (fun g1 h => ?_)
  refine Ev_blk 5 (pc' := if (sI s v0 15) = (nI 2) then 44 else 59) (ls' := [.ref v0, .int w0, d2, d3]) (st' := []) (s' := s) rfl ⟨trivial, g1⟩ ?_
  refine ib h (fun c2 h => ?_) (fun c2 h => ?_)
  · refine Ev_blk 5 (pc' := if (nI 0) < (lg_cmp (sL s v0 16) (lN 1000)) then 59 else 55) (ls' := [.ref v0, .int w0, d2, d3]) (st' := []) (s' := s) rfl ⟨trivial, g1⟩ ?_
    have k3_ : Ev 4 mZ167 60 [.ref v0, .int w0, d2, d3] [.int (if (nI 0) < (lg_cmp (sL s v0 16) (lN 1000)) then nI 0 else nI 1)] s (some (.int o.1), o.2) := by
      exact t_M_readPart_60 h
    refine icases (fun c4 => ?_) (fun c4 => ?_)
    · exact Ev_blk 1 (pc' := 60) (ls' := [.ref v0, .int w0, d2, d3]) (st' := [.int (nI 0)]) (s' := s) rfl trivial (by simpa only [if_pos c4] using k3_)
    · exact Ev_blk 2 (pc' := 60) (ls' := [.ref v0, .int w0, d2, d3]) (st' := [.int (nI 1)]) (s' := s) rfl trivial (by simpa only [if_neg c4] using k3_)
  · exact t_M_readPart_59 h
/-- RecordHeapModel.readPart()I -/
def f_M_readPart (s : AS) (a0 : Nat) : Option (Int32 × AS) :=
  if sT s a0 = 13 then
  (f_M_isSign s a0 (nI 91)).bind fun r1 =>
  if r1 = (nI 0) then
    if (sI s a0 19) = (nI 0) then
      (f_M_partAt s a0).bind fun r2 =>
      b_M_readPart_35 a0 r2 s
    else
      (f_M_orderPartAt s a0).bind fun r3 =>
      b_M_readPart_35 a0 r3 s
  else
    (f_M_openBracket s a0 (nI 32)).bind fun r4 =>
    some (nI 1, r4)
  else none
theorem t_M_readPart {s : AS} {a0 : Nat} {o : Int32 × AS} (h : f_M_readPart s a0 = some o) : Ev 4 mZ167 0 [.ref a0, .retAddr 0, .retAddr 0, .retAddr 0] [] s (some (.int o.1), o.2) := by
  unfold f_M_readPart at h
  refine gd h (fun g1 h => ?_)
  refine Ev_blk 2 (pc' := 3) (ls' := [.ref a0, .retAddr 0, .retAddr 0, .retAddr 0]) (st' := [.int (nI 91), .ref a0]) (s' := s) rfl trivial ?_
  refine bd h (fun r1 hr1 h => ?_)
  refine Ev_call 2 165 1 [.ref a0, .int (nI 91)] [] rfl rfl rfl rfl g1 rfl rfl (Nat.le_of_ble_eq_true rfl) (t_M_isSign hr1) ?_
  refine Ev_blk 1 (pc' := if r1 = (nI 0) then 17 else 9) (ls' := [.ref a0, .retAddr 0, .retAddr 0, .retAddr 0]) (st' := []) (s' := s) rfl trivial ?_
  refine ib h (fun c2 h => ?_) (fun c2 h => ?_)
  · refine Ev_blk 3 (pc' := if (sI s a0 19) = (nI 0) then 31 else 24) (ls' := [.ref a0, .retAddr 0, .retAddr 0, .retAddr 0]) (st' := []) (s' := s) rfl ⟨trivial, g1⟩ ?_
    refine ib h (fun c3 h => ?_) (fun c3 h => ?_)
    · refine Ev_blk 1 (pc' := 32) (ls' := [.ref a0, .retAddr 0, .retAddr 0, .retAddr 0]) (st' := [.ref a0]) (s' := s) rfl trivial ?_
      refine bd h (fun r2 hr2 h => ?_)
      refine Ev_call 2 169 0 [.ref a0] [] rfl rfl rfl rfl g1 rfl rfl (Nat.le_of_ble_eq_true rfl) (t_M_partAt hr2) ?_
      exact t_M_readPart_35 h
    · refine Ev_blk 1 (pc' := 25) (ls' := [.ref a0, .retAddr 0, .retAddr 0, .retAddr 0]) (st' := [.ref a0]) (s' := s) rfl trivial ?_
      refine bd h (fun r3 hr3 h => ?_)
      refine Ev_call 2 168 0 [.ref a0] [] rfl rfl rfl rfl g1 rfl rfl (Nat.le_of_ble_eq_true rfl) (t_M_orderPartAt hr3) ?_
      refine Ev_blk 1 (pc' := 35) (ls' := [.ref a0, .retAddr 0, .retAddr 0, .retAddr 0]) (st' := [.int r3]) (s' := s) rfl trivial ?_
      exact t_M_readPart_35 h
  · refine Ev_blk 2 (pc' := 12) (ls' := [.ref a0, .retAddr 0, .retAddr 0, .retAddr 0]) (st' := [.int (nI 32), .ref a0]) (s' := s) rfl trivial ?_
    refine bd h (fun r4 hr4 h => ?_)
    refine Ev_call 2 166 1 [.ref a0, .int (nI 32)] [] rfl rfl rfl rfl g1 rfl rfl (Nat.le_of_ble_eq_true rfl) (t_M_openBracket hr4) ?_
    refine Ev_blk 1 (pc' := 16) (ls' := [.ref a0, .retAddr 0, .retAddr 0, .retAddr 0]) (st' := [.int (nI 1)]) (s' := r4) rfl trivial ?_
    cases h
    exact Ev_ret rfl trivial

/-- RecordHeapModel.readPlain()I -/
def f_M_readPlain (s : AS) (a0 : Nat) : Option (Int32 × AS) :=
  if sT s a0 = 13 then
  (f_M_isWord s a0 (lN 14836)).bind fun r1 =>
  if r1 = (nI 0) then
    (f_M_isSign s a0 (nI 40)).bind fun r2 =>
    if r2 = (nI 0) then
      (f_M_readPart s a0).bind fun r3 =>
      some (r3.1, r3.2)
    else
      (f_M_openBracket s a0 (nI 31)).bind fun r4 =>
      some (nI 0, r4)
  else
    (f_M_push s a0 (nI 28) (nI 0)).bind fun r5 =>
    if sT r5 a0 = 13 then
    (f_M_onward r5 a0).bind fun r6 =>
    some (nI 0, r6)
    else none
  else none
theorem t_M_readPlain {s : AS} {a0 : Nat} {o : Int32 × AS} (h : f_M_readPlain s a0 = some o) : Ev 5 mZ163 0 [.ref a0] [] s (some (.int o.1), o.2) := by
  unfold f_M_readPlain at h
  refine gd h (fun g1 h => ?_)
  refine Ev_blk 2 (pc' := 4) (ls' := [.ref a0]) (st' := [.long (lN 14836), .ref a0]) (s' := s) rfl trivial ?_
  refine bd h (fun r1 hr1 h => ?_)
  refine Ev_call 2 160 1 [.ref a0, .long (lN 14836)] [] rfl rfl rfl rfl g1 rfl rfl (Nat.le_of_ble_eq_true rfl) (t_M_isWord hr1) ?_
  refine Ev_blk 1 (pc' := if r1 = (nI 0) then 23 else 10) (ls' := [.ref a0]) (st' := []) (s' := s) rfl trivial ?_
  refine ib h (fun c2 h => ?_) (fun c2 h => ?_)
  · refine Ev_blk 2 (pc' := 26) (ls' := [.ref a0]) (st' := [.int (nI 40), .ref a0]) (s' := s) rfl trivial ?_
    refine bd h (fun r2 hr2 h => ?_)
    refine Ev_call 2 165 1 [.ref a0, .int (nI 40)] [] rfl rfl rfl rfl g1 rfl rfl (Nat.le_of_ble_eq_true rfl) (t_M_isSign hr2) ?_
    refine Ev_blk 1 (pc' := if r2 = (nI 0) then 40 else 32) (ls' := [.ref a0]) (st' := []) (s' := s) rfl trivial ?_
    refine ib h (fun c3 h => ?_) (fun c3 h => ?_)
    · refine Ev_blk 1 (pc' := 41) (ls' := [.ref a0]) (st' := [.ref a0]) (s' := s) rfl trivial ?_
      refine bd h (fun r3 hr3 h => ?_)
      refine Ev_call 2 167 0 [.ref a0] [] rfl rfl rfl rfl g1 rfl rfl (Nat.le_of_ble_eq_true rfl) (t_M_readPart hr3) ?_
      cases h
      exact Ev_ret rfl trivial
    · refine Ev_blk 2 (pc' := 35) (ls' := [.ref a0]) (st' := [.int (nI 31), .ref a0]) (s' := s) rfl trivial ?_
      refine bd h (fun r4 hr4 h => ?_)
      refine Ev_call 2 166 1 [.ref a0, .int (nI 31)] [] rfl rfl rfl rfl g1 rfl rfl (Nat.le_of_ble_eq_true rfl) (t_M_openBracket hr4) ?_
      refine Ev_blk 1 (pc' := 39) (ls' := [.ref a0]) (st' := [.int (nI 0)]) (s' := r4) rfl trivial ?_
      cases h
      exact Ev_ret rfl trivial
  · refine Ev_blk 3 (pc' := 14) (ls' := [.ref a0]) (st' := [.int (nI 0), .int (nI 28), .ref a0]) (s' := s) rfl trivial ?_
    refine bd h (fun r5 hr5 h => ?_)
    refine Ev_call 2 164 2 [.ref a0, .int (nI 28), .int (nI 0)] [] rfl rfl rfl rfl g1 rfl rfl (Nat.le_of_ble_eq_true rfl) (t_M_push hr5) ?_
    refine gd h (fun g4 h => ?_)
    refine Ev_blk 1 (pc' := 18) (ls' := [.ref a0]) (st' := [.ref a0]) (s' := r5) rfl trivial ?_
    refine bd h (fun r6 hr6 h => ?_)
    refine Ev_call 2 156 0 [.ref a0] [] rfl rfl rfl rfl g4 rfl rfl (Nat.le_of_ble_eq_true rfl) (t_M_onward hr6) ?_
    refine Ev_blk 1 (pc' := 22) (ls' := [.ref a0]) (st' := [.int (nI 0)]) (s' := r6) rfl trivial ?_
    cases h
    exact Ev_ret rfl trivial

/-- RecordHeapModel.binds(I)I -/
def f_M_binds (s : AS) (a0 : Int32) : Option Int32 :=
    some (if a0 < (nI 31) then (if a0 = (nI 30) then nI 1 else (if a0 = (nI 29) then nI 2 else (if a0 = (nI 28) then nI 3 else (if a0 < (nI 25) then (if a0 < (nI 22) then nI 5 else nI 6) else nI 4)))) else nI 0)
theorem t_M_binds {s : AS} {a0 : Int32} {o : Int32} (h : f_M_binds s a0 = some o) : Ev 0 mZ174 0 [.int a0] [] s (some (.int o), s) := by
  unfold f_M_binds at h
  refine Ev_blk 3 (pc' := if a0 < (nI 31) then 10 else 6) (ls' := [.int a0]) (st' := []) (s' := s) rfl trivial ?_
  have k1_ : Ev 0 mZ174 62 [.int a0] [.int (if a0 < (nI 31) then (if a0 = (nI 30) then nI 1 else (if a0 = (nI 29) then nI 2 else (if a0 = (nI 28) then nI 3 else (if a0 < (nI 25) then (if a0 < (nI 22) then nI 5 else nI 6) else nI 4)))) else nI 0)] s (some (.int o), s) := by
    cases h
    exact Ev_ret rfl trivial
  refine icases (fun c2 => ?_) (fun c2 => ?_)
  · refine Ev_blk 3 (pc' := if a0 = (nI 30) then 16 else 20) (ls' := [.int a0]) (st' := []) (s' := s) rfl trivial ?_
    refine icases (fun c3 => ?_) (fun c3 => ?_)
    · exact Ev_blk 2 (pc' := 62) (ls' := [.int a0]) (st' := [.int (nI 1)]) (s' := s) rfl trivial (by simpa only [if_pos c2, if_pos c3] using k1_)
    · refine Ev_blk 3 (pc' := if a0 = (nI 29) then 26 else 30) (ls' := [.int a0]) (st' := []) (s' := s) rfl trivial ?_
      refine icases (fun c4 => ?_) (fun c4 => ?_)
      · exact Ev_blk 2 (pc' := 62) (ls' := [.int a0]) (st' := [.int (nI 2)]) (s' := s) rfl trivial (by simpa only [if_pos c2, if_neg c3, if_pos c4] using k1_)
      · refine Ev_blk 3 (pc' := if a0 = (nI 28) then 36 else 40) (ls' := [.int a0]) (st' := []) (s' := s) rfl trivial ?_
        refine icases (fun c5 => ?_) (fun c5 => ?_)
        · exact Ev_blk 2 (pc' := 62) (ls' := [.int a0]) (st' := [.int (nI 3)]) (s' := s) rfl trivial (by simpa only [if_pos c2, if_neg c3, if_neg c4, if_pos c5] using k1_)
        · refine Ev_blk 3 (pc' := if a0 < (nI 25) then 50 else 46) (ls' := [.int a0]) (st' := []) (s' := s) rfl trivial ?_
          refine icases (fun c6 => ?_) (fun c6 => ?_)
          · refine Ev_blk 3 (pc' := if a0 < (nI 22) then 61 else 56) (ls' := [.int a0]) (st' := []) (s' := s) rfl trivial ?_
            refine icases (fun c7 => ?_) (fun c7 => ?_)
            · exact Ev_blk 1 (pc' := 62) (ls' := [.int a0]) (st' := [.int (nI 5)]) (s' := s) rfl trivial (by simpa only [if_pos c2, if_neg c3, if_neg c4, if_neg c5, if_pos c6, if_pos c7] using k1_)
            · exact Ev_blk 2 (pc' := 62) (ls' := [.int a0]) (st' := [.int (nI 6)]) (s' := s) rfl trivial (by simpa only [if_pos c2, if_neg c3, if_neg c4, if_neg c5, if_pos c6, if_neg c7] using k1_)
          · exact Ev_blk 2 (pc' := 62) (ls' := [.int a0]) (st' := [.int (nI 4)]) (s' := s) rfl trivial (by simpa only [if_pos c2, if_neg c3, if_neg c4, if_neg c5, if_neg c6] using k1_)
  · exact Ev_blk 2 (pc' := 62) (ls' := [.int a0]) (st' := [.int (nI 0)]) (s' := s) rfl trivial (by simpa only [if_neg c2] using k1_)

def b_M_settle_63 (k0 : Nat → Int32 → AS → Option AS) (v0 : Nat) (v1 : Int32) (s : AS) : Option AS :=
  if sT s v0 = 13 then
  if sT s (sR s v0 27) = 20 ∧ inA (sI s v0 28) (sN s (sR s v0 27)) then
  if sT s (sR s v0 24) = 20 ∧ inA (sI s (sR s v0 27) (sI s v0 28).toNatClampNeg) (sN s (sR s v0 24)) then
  k0 v0 v1 (setI s (sR s v0 24) (sI s (sR s v0 27) (sI s v0 28).toNatClampNeg).toNatClampNeg (sI s v0 22))
  else none
  else none
  else none
theorem t_M_settle_63 {k0 : Nat → Int32 → AS → Option AS} (H0 : ∀ {v0 : Nat} {v1 : Int32} {s : AS} {o : AS}, k0 v0 v1 s = some o → Ev 1 mZ175 0 [.ref v0, .int v1] [] s (none, o))  {v0 : Nat} {v1 : Int32} {s : AS} {o : AS} (h : b_M_settle_63 k0 v0 v1 s = some o) : Ev 1 mZ175 63 [.ref v0, .int v1] [] s (none, o) := by
  unfold b_M_settle_63 at h
  refine gd h (fun g1 h => ?_)
  refine gd h (fun g2 h => ?_)
  refine gd h (fun g3 h => ?_)
  refine Ev_blk 11 (pc' := 0) (ls' := [.ref v0, .int v1]) (st' := []) (s' := setI s (sR s v0 24) (sI s (sR s v0 27) (sI s v0 28).toNatClampNeg).toNatClampNeg (sI s v0 22)) rfl ⟨⟨⟨⟨⟨⟨trivial, g1⟩, g1⟩, g1⟩, ⟨Or.inl g2.1, g2.2⟩⟩, g1⟩, g3⟩ ?_
  exact H0 h
def b_M_settle_0 (k0 : Nat → Int32 → AS → Option AS) (v0 : Nat) (v1 : Int32) (s : AS) : Option AS :=
  if sT s v0 = 13 then
  if (nI 0) < (sI s v0 28) then
    if sT s (sR s v0 26) = 20 ∧ inA ((sI s v0 28) - (nI 1)) (sN s (sR s v0 26)) then
    (f_M_binds s (sI s (sR s v0 26) ((sI s v0 28) - (nI 1)).toNatClampNeg)).bind fun r1 =>
    if r1 < v1 then
      some s
    else
      if sT s (sR s v0 26) = 20 ∧ inA (sI (setI s v0 28 ((sI s v0 28) - (nI 1))) v0 28) (sN s (sR s v0 26)) then
      if (sI (setI s v0 28 ((sI s v0 28) - (nI 1))) (sR s v0 26) (sI (setI s v0 28 ((sI s v0 28) - (nI 1))) v0 28).toNatClampNeg) = (nI 29) then
        b_M_settle_63 k0 v0 v1 (setI s v0 28 ((sI s v0 28) - (nI 1)))
      else
        if (sI (setI s v0 28 ((sI s v0 28) - (nI 1))) (sR s v0 26) (sI (setI s v0 28 ((sI s v0 28) - (nI 1))) v0 28).toNatClampNeg) = (nI 30) then
          b_M_settle_63 k0 v0 v1 (setI s v0 28 ((sI s v0 28) - (nI 1)))
        else
          (f_M_emit (setI s v0 28 ((sI s v0 28) - (nI 1))) v0 (sI (setI s v0 28 ((sI s v0 28) - (nI 1))) (sR s v0 26) (sI (setI s v0 28 ((sI s v0 28) - (nI 1))) v0 28).toNatClampNeg) (nI 0)).bind fun r2 =>
          k0 v0 v1 r2
      else none
    else none
  else
    some s
  else none
theorem t_M_settle_0 {k0 : Nat → Int32 → AS → Option AS} (H0 : ∀ {v0 : Nat} {v1 : Int32} {s : AS} {o : AS}, k0 v0 v1 s = some o → Ev 1 mZ175 0 [.ref v0, .int v1] [] s (none, o))  {v0 : Nat} {v1 : Int32} {s : AS} {o : AS} (h : b_M_settle_0 k0 v0 v1 s = some o) : Ev 1 mZ175 0 [.ref v0, .int v1] [] s (none, o) := by
  unfold b_M_settle_0 at h
  refine gd h (fun g1 h => ?_)
  refine Ev_blk 3 (pc' := if (nI 0) < (sI s v0 28) then 7 else 101) (ls' := [.ref v0, .int v1]) (st' := []) (s' := s) rfl ⟨trivial, g1⟩ ?_
  refine ib h (fun c2 h => ?_) (fun c2 h => ?_)
  · refine gd h (fun g3 h => ?_)
    refine Ev_blk 7 (pc' := 18) (ls' := [.ref v0, .int v1]) (st' := [.int (sI s (sR s v0 26) ((sI s v0 28) - (nI 1)).toNatClampNeg)]) (s' := s) rfl ⟨⟨⟨trivial, g1⟩, g1⟩, ⟨Or.inl g3.1, g3.2⟩⟩ ?_
    refine bd h (fun r1 hr1 h => ?_)
    refine Ev_call 1 174 1 [.int (sI s (sR s v0 26) ((sI s v0 28) - (nI 1)).toNatClampNeg)] [] rfl rfl rfl rfl trivial rfl rfl (Nat.le_of_ble_eq_true rfl) (t_M_binds hr1) ?_
    refine Ev_blk 2 (pc' := if r1 < v1 then 101 else 25) (ls' := [.ref v0, .int v1]) (st' := []) (s' := s) rfl trivial ?_
    refine ib h (fun c4 h => ?_) (fun c4 h => ?_)
    · cases h
      exact Ev_ret rfl trivial
    · refine gd h (fun g5 h => ?_)
      refine Ev_blk 13 (pc' := if (sI (setI s v0 28 ((sI s v0 28) - (nI 1))) (sR s v0 26) (sI (setI s v0 28 ((sI s v0 28) - (nI 1))) v0 28).toNatClampNeg) = (nI 29) then 63 else 49) (ls' := [.ref v0, .int v1]) (st' := []) (s' := setI s v0 28 ((sI s v0 28) - (nI 1))) rfl ⟨⟨⟨⟨⟨trivial, g1⟩, g1⟩, g1⟩, g1⟩, ⟨Or.inl g5.1, g5.2⟩⟩ ?_
      refine ib h (fun c6 h => ?_) (fun c6 h => ?_)
      · exact t_M_settle_63 H0 h
      · refine Ev_blk 7 (pc' := if (sI (setI s v0 28 ((sI s v0 28) - (nI 1))) (sR s v0 26) (sI (setI s v0 28 ((sI s v0 28) - (nI 1))) v0 28).toNatClampNeg) = (nI 30) then 63 else 84) (ls' := [.ref v0, .int v1]) (st' := []) (s' := setI s v0 28 ((sI s v0 28) - (nI 1))) rfl ⟨⟨⟨trivial, g1⟩, g1⟩, ⟨Or.inl g5.1, g5.2⟩⟩ ?_
        refine ib h (fun c7 h => ?_) (fun c7 h => ?_)
        · exact t_M_settle_63 H0 h
        · refine Ev_blk 7 (pc' := 95) (ls' := [.ref v0, .int v1]) (st' := [.int (nI 0), .int (sI (setI s v0 28 ((sI s v0 28) - (nI 1))) (sR s v0 26) (sI (setI s v0 28 ((sI s v0 28) - (nI 1))) v0 28).toNatClampNeg), .ref v0]) (s' := setI s v0 28 ((sI s v0 28) - (nI 1))) rfl ⟨⟨⟨trivial, g1⟩, g1⟩, ⟨Or.inl g5.1, g5.2⟩⟩ ?_
          refine bd h (fun r2 hr2 h => ?_)
          refine Ev_call 2 171 2 [.ref v0, .int (sI (setI s v0 28 ((sI s v0 28) - (nI 1))) (sR s v0 26) (sI (setI s v0 28 ((sI s v0 28) - (nI 1))) v0 28).toNatClampNeg), .int (nI 0)] [] rfl rfl rfl rfl g1 rfl rfl (Nat.le_of_ble_eq_true rfl) (t_M_emit hr2) ?_
          refine Ev_blk 1 (pc' := 0) (ls' := [.ref v0, .int v1]) (st' := []) (s' := r2) rfl trivial ?_
          exact H0 h
  · cases h
    exact Ev_ret rfl trivial
def l_M_settle_0  : Nat → Nat → Int32 → AS → Option AS
  | 0 => fun _ _ _ => none
  | n + 1 => b_M_settle_0  (l_M_settle_0  n)
theorem u_M_settle_0   {n : Nat} : ∀  {v0 : Nat} {v1 : Int32} {s : AS} {o : AS}, l_M_settle_0  n v0 v1 s = some o → Ev 1 mZ175 0 [.ref v0, .int v1] [] s (none, o) := by
  induction n with
  | zero => intros; rename_i h; cases h
  | succ n ih => intros; rename_i h; exact t_M_settle_0  (fun h => ih h) h
/-- RecordHeapModel.settle(I)V -/
def f_M_settle (s : AS) (a0 : Nat) (a1 : Int32) : Option AS :=
  l_M_settle_0 fuel a0 a1 s
theorem t_M_settle {s : AS} {a0 : Nat} {a1 : Int32} {o : AS} (h : f_M_settle s a0 a1 = some o) : Ev 1 mZ175 0 [.ref a0, .int a1] [] s (none, o) := by
  unfold f_M_settle at h
  exact u_M_settle_0 h

def b_M_inner_4 (s : AS) (k4 : Nat → Int32 → Int32 → Option Int32) (v0 : Nat) (v1 : Int32) (v2 : Int32) : Option Int32 :=
  if sT s v0 = 13 then
  if v2 < (sI s v0 28) then
    if sT s (sR s v0 26) = 20 ∧ inA v2 (sN s (sR s v0 26)) then
    if (sI s (sR s v0 26) v2.toNatClampNeg) < (nI 31) then
      k4 v0 v1 (v2 + nI 1)
    else
      k4 v0 (sI s (sR s v0 26) v2.toNatClampNeg) (v2 + nI 1)
    else none
  else
    some v1
  else none
theorem t_M_inner_4 {s : AS} {k4 : Nat → Int32 → Int32 → Option Int32} (H4 : ∀ {v0 : Nat} {v1 : Int32} {v2 : Int32} {o : Int32}, k4 v0 v1 v2 = some o → Ev 0 mZ176 4 [.ref v0, .int v1, .int v2] [] s (some (.int o), s))  {v0 : Nat} {v1 : Int32} {v2 : Int32} {o : Int32} (h : b_M_inner_4 s k4 v0 v1 v2 = some o) : Ev 0 mZ176 4 [.ref v0, .int v1, .int v2] [] s (some (.int o), s) := by
  unfold b_M_inner_4 at h
  refine gd h (fun g1 h => ?_)
  refine Ev_blk 4 (pc' := if v2 < (sI s v0 28) then 12 else 40) (ls' := [.ref v0, .int v1, .int v2]) (st' := []) (s' := s) rfl ⟨trivial, g1⟩ ?_
  refine ib h (fun c2 h => ?_) (fun c2 h => ?_)
  · refine gd h (fun g3 h => ?_)
    refine Ev_blk 6 (pc' := if (sI s (sR s v0 26) v2.toNatClampNeg) < (nI 31) then 32 else 23) (ls' := [.ref v0, .int v1, .int v2]) (st' := []) (s' := s) rfl ⟨⟨trivial, g1⟩, ⟨Or.inl g3.1, g3.2⟩⟩ ?_
    refine ib h (fun c4 h => ?_) (fun c4 h => ?_)
    · refine Ev_blk 4 (pc' := 4) (ls' := [.ref v0, .int v1, .int (v2 + nI 1)]) (st' := []) (s' := s) rfl trivial ?_
      exact H4 h
    · refine Ev_blk 8 (pc' := 4) (ls' := [.ref v0, .int (sI s (sR s v0 26) v2.toNatClampNeg), .int (v2 + nI 1)]) (st' := []) (s' := s) rfl ⟨⟨trivial, g1⟩, ⟨Or.inl g3.1, g3.2⟩⟩ ?_
      exact H4 h
  · refine Ev_blk 1 (pc' := 41) (ls' := [.ref v0, .int v1, .int v2]) (st' := [.int v1]) (s' := s) rfl trivial ?_
    cases h
    exact Ev_ret rfl trivial
def l_M_inner_4 (s : AS)  : Nat → Nat → Int32 → Int32 → Option Int32
  | 0 => fun _ _ _ => none
  | n + 1 => b_M_inner_4 s  (l_M_inner_4 s  n)
theorem u_M_inner_4 {s : AS}   {n : Nat} : ∀  {v0 : Nat} {v1 : Int32} {v2 : Int32} {o : Int32}, l_M_inner_4 s  n v0 v1 v2 = some o → Ev 0 mZ176 4 [.ref v0, .int v1, .int v2] [] s (some (.int o), s) := by
  induction n with
  | zero => intros; rename_i h; cases h
  | succ n ih => intros; rename_i h; exact t_M_inner_4  (fun h => ih h) h
/-- RecordHeapModel.inner()I -/
def f_M_inner (s : AS) (a0 : Nat) : Option Int32 :=
  l_M_inner_4 s fuel a0 (-(nI 1)) (nI 0)
theorem t_M_inner {s : AS} {a0 : Nat} {o : Int32} (h : f_M_inner s a0 = some o) : Ev 0 mZ176 0 [.ref a0, .retAddr 0, .retAddr 0] [] s (some (.int o), s) := by
  unfold f_M_inner at h
  refine Ev_blk 4 (pc' := 4) (ls' := [.ref a0, .int (-(nI 1)), .int (nI 0)]) (st' := []) (s' := s) rfl trivial ?_
  exact u_M_inner_4 h

