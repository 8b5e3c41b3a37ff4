def b_M_isCompared_36 (s : AS)  (v0 : Nat) (v1 : Int32) : Option Int32 :=
  if v1 < (nI 0) then
    some (nI 0)
  else
    if sT s v0 = 13 then
    if sT s (sR s v0 26) = 20 ∧ inA v1 (sN s (sR s v0 26)) then
    (f_M_in s ((sI s (sR s v0 26) v1.toNatClampNeg).toInt64) (lN 25) (lN 27)).bind fun r1 =>
      some (if r1 = (nI 0) then nI 0 else nI 1)
    else none
    else none
theorem t_M_isCompared_36 {s : AS}    {v0 : Nat} {v1 : Int32} {o : Int32} (h : b_M_isCompared_36 s  v0 v1 = some o) : Ev 1 mZ177 36 [.ref v0, .int v1] [] s (some (.int o), s) := by
  unfold b_M_isCompared_36 at h
  refine Ev_blk 2 (pc' := if v1 < (nI 0) then 63 else 40) (ls' := [.ref v0, .int v1]) (st' := []) (s' := s) rfl trivial ?_
  refine ib h (fun c1 h => ?_) (fun c1 h => ?_)
  · refine Ev_blk 1 (pc' := 64) (ls' := [.ref v0, .int v1]) (st' := [.int (nI 0)]) (s' := s) rfl trivial ?_
    cases h
    exact Ev_ret rfl (Or.inl rfl)
  · refine gd h (fun g2 h => ?_)
    refine gd h (fun g3 h => ?_)
    refine Ev_blk 7 (pc' := 53) (ls' := [.ref v0, .int v1]) (st' := [.long (lN 27), .long (lN 25), .long ((sI s (sR s v0 26) v1.toNatClampNeg).toInt64)]) (s' := s) rfl ⟨⟨trivial, g2⟩, ⟨Or.inl g3.1, g3.2⟩⟩ ?_
    refine bd h (fun r1 hr1 h => ?_)
    refine Ev_call 1 145 3 [.long ((sI s (sR s v0 26) v1.toNatClampNeg).toInt64), .long (lN 25), .long (lN 27)] [] rfl rfl rfl rfl trivial rfl rfl (Nat.le_of_ble_eq_true rfl) (t_M_in hr1) ?_
    refine Ev_blk 1 (pc' := if r1 = (nI 0) then 63 else 59) (ls' := [.ref v0, .int v1]) (st' := []) (s' := s) rfl trivial ?_
    have k4_ : Ev 1 mZ177 64 [.ref v0, .int v1] [.int (if r1 = (nI 0) then nI 0 else nI 1)] s (some (.int o), s) := by
      cases h
      exact Ev_ret rfl (by (repeat' split) <;> first | exact Or.inl rfl | exact Or.inr rfl)
    refine icases (fun c5 => ?_) (fun c5 => ?_)
    · exact Ev_blk 1 (pc' := 64) (ls' := [.ref v0, .int v1]) (st' := [.int (nI 0)]) (s' := s) rfl trivial (by simpa only [if_pos c5] using k4_)
    · exact Ev_blk 2 (pc' := 64) (ls' := [.ref v0, .int v1]) (st' := [.int (nI 1)]) (s' := s) rfl trivial (by simpa only [if_neg c5] using k4_)
def b_M_isCompared_7 (s : AS) (k7 : Nat → Int32 → Option Int32) (v0 : Nat) (v1 : Int32) : Option Int32 :=
  if v1 < (nI 0) then
    b_M_isCompared_36 s v0 v1
  else
    if sT s v0 = 13 then
    if sT s (sR s v0 26) = 20 ∧ inA v1 (sN s (sR s v0 26)) then
    (f_M_in s ((sI s (sR s v0 26) v1.toNatClampNeg).toInt64) (lN 20) (lN 24)).bind fun r1 =>
    if r1 = (nI 0) then
      b_M_isCompared_36 s v0 v1
    else
      k7 v0 (v1 + (-(nI 1)))
    else none
    else none
theorem t_M_isCompared_7 {s : AS} {k7 : Nat → Int32 → Option Int32} (H7 : ∀ {v0 : Nat} {v1 : Int32} {o : Int32}, k7 v0 v1 = some o → Ev 1 mZ177 7 [.ref v0, .int v1] [] s (some (.int o), s))  {v0 : Nat} {v1 : Int32} {o : Int32} (h : b_M_isCompared_7 s k7 v0 v1 = some o) : Ev 1 mZ177 7 [.ref v0, .int v1] [] s (some (.int o), s) := by
  unfold b_M_isCompared_7 at h
  refine Ev_blk 2 (pc' := if v1 < (nI 0) then 36 else 11) (ls' := [.ref v0, .int v1]) (st' := []) (s' := s) rfl trivial ?_
  refine ib h (fun c1 h => ?_) (fun c1 h => ?_)
  · exact t_M_isCompared_36 h
  · refine gd h (fun g2 h => ?_)
    refine gd h (fun g3 h => ?_)
    refine Ev_blk 7 (pc' := 24) (ls' := [.ref v0, .int v1]) (st' := [.long (lN 24), .long (lN 20), .long ((sI s (sR s v0 26) v1.toNatClampNeg).toInt64)]) (s' := s) rfl ⟨⟨trivial, g2⟩, ⟨Or.inl g3.1, g3.2⟩⟩ ?_
    refine bd h (fun r1 hr1 h => ?_)
    refine Ev_call 1 145 3 [.long ((sI s (sR s v0 26) v1.toNatClampNeg).toInt64), .long (lN 20), .long (lN 24)] [] rfl rfl rfl rfl trivial rfl rfl (Nat.le_of_ble_eq_true rfl) (t_M_in hr1) ?_
    refine Ev_blk 1 (pc' := if r1 = (nI 0) then 36 else 30) (ls' := [.ref v0, .int v1]) (st' := []) (s' := s) rfl trivial ?_
    refine ib h (fun c4 h => ?_) (fun c4 h => ?_)
    · exact t_M_isCompared_36 h
    · refine Ev_blk 2 (pc' := 7) (ls' := [.ref v0, .int (v1 + (-(nI 1)))]) (st' := []) (s' := s) rfl trivial ?_
      exact H7 h
def l_M_isCompared_7 (s : AS)  : Nat → Nat → Int32 → Option Int32
  | 0 => fun _ _ => none
  | n + 1 => b_M_isCompared_7 s  (l_M_isCompared_7 s  n)
theorem u_M_isCompared_7 {s : AS}   {n : Nat} : ∀  {v0 : Nat} {v1 : Int32} {o : Int32}, l_M_isCompared_7 s  n v0 v1 = some o → Ev 1 mZ177 7 [.ref v0, .int v1] [] s (some (.int o), s) := by
  induction n with
  | zero => intros; rename_i h; cases h
  | succ n ih => intros; rename_i h; exact t_M_isCompared_7  (fun h => ih h) h
/-- RecordHeapModel.isCompared()Z -/
def f_M_isCompared (s : AS) (a0 : Nat) : Option Int32 :=
  if sT s a0 = 13 then
  l_M_isCompared_7 s fuel a0 ((sI s a0 28) - (nI 1))
  else none
theorem t_M_isCompared {s : AS} {a0 : Nat} {o : Int32} (h : f_M_isCompared s a0 = some o) : Ev 1 mZ177 0 [.ref a0, .retAddr 0] [] s (some (.int o), s) := by
  unfold f_M_isCompared at h
  refine gd h (fun g1 h => ?_)
  refine Ev_blk 5 (pc' := 7) (ls' := [.ref a0, .int ((sI s a0 28) - (nI 1))]) (st' := []) (s' := s) rfl ⟨trivial, g1⟩ ?_
  exact u_M_isCompared_7 h

def b_M_behindSum_224  (v0 : Nat) (v2 : Int32) (w0 : Int32) (w1 : Nat) (s : AS) : Option (Int32 × AS) :=
  if sT s w1 = 13 then
  (f_M_must s w1 w0).bind fun r1 =>
  if sT r1 v0 = 13 then
  if (sI r1 v0 18) = (nI 0) then
    (f_M_settle r1 v0 (nI 5)).bind fun r2 =>
    if sT r2 v0 = 13 then
    (f_M_push r2 v0 v2 (nI 0)).bind fun r3 =>
    some (nI 1, r3)
    else none
  else
    some (nI 1, r1)
  else none
  else none
theorem t_M_behindSum_224   {d1 d3 : Value} {v0 : Nat} {v2 : Int32} {w0 : Int32} {w1 : Nat} {s : AS} {o : Int32 × AS} (h : b_M_behindSum_224  v0 v2 w0 w1 s = some o) : Ev 3 mZ173 224 [.ref v0, d1, .int v2, d3] [.int w0, .ref w1] s (some (.int o.1), o.2) := by
  unfold b_M_behindSum_224 at h
  refine gd h (fun g1 h => ?_)
  refine bd h (fun r1 hr1 h => ?_)
  refine Ev_call 2 161 1 [.ref w1, .int w0] [] rfl rfl rfl rfl g1 rfl rfl (Nat.le_of_ble_eq_true rfl) (t_M_must hr1) ?_
  refine gd h (fun g2 h => ?_)
  refine Ev_blk 3 (pc' := if (sI r1 v0 18) = (nI 0) then 234 else 245) (ls' := [.ref v0, d1, .int v2, d3]) (st' := []) (s' := r1) rfl ⟨trivial, g2⟩ ?_
  refine ib h (fun c3 h => ?_) (fun c3 h => ?_)
  · refine Ev_blk 2 (pc' := 236) (ls' := [.ref v0, d1, .int v2, d3]) (st' := [.int (nI 5), .ref v0]) (s' := r1) rfl trivial ?_
    refine bd h (fun r2 hr2 h => ?_)
    refine Ev_call 2 175 1 [.ref v0, .int (nI 5)] [] rfl rfl rfl rfl g2 rfl rfl (Nat.le_of_ble_eq_true rfl) (t_M_settle hr2) ?_
    refine gd h (fun g4 h => ?_)
    refine Ev_blk 3 (pc' := 242) (ls' := [.ref v0, d1, .int v2, d3]) (st' := [.int (nI 0), .int v2, .ref v0]) (s' := r2) rfl trivial ?_
    refine bd h (fun r3 hr3 h => ?_)
    refine Ev_call 2 164 2 [.ref v0, .int v2, .int (nI 0)] [] rfl rfl rfl rfl g4 rfl rfl (Nat.le_of_ble_eq_true rfl) (t_M_push hr3) ?_
    refine Ev_blk 1 (pc' := 246) (ls' := [.ref v0, d1, .int v2, d3]) (st' := [.int (nI 1)]) (s' := r3) rfl trivial ?_
    cases h
    exact Ev_ret rfl trivial
  · refine Ev_blk 1 (pc' := 246) (ls' := [.ref v0, d1, .int v2, d3]) (st' := [.int (nI 1)]) (s' := r1) rfl trivial ?_
    cases h
    exact Ev_ret rfl trivial
def b_M_behindSum_219  (v0 : Nat) (v2 : Int32) (w0 : Nat) (s : AS) : Option (Int32 × AS) :=
  b_M_behindSum_224 v0 v2 (nI 1) w0 s
theorem t_M_behindSum_219   {d1 d3 : Value} {v0 : Nat} {v2 : Int32} {w0 : Nat} {s : AS} {o : Int32 × AS} (h : b_M_behindSum_219  v0 v2 w0 s = some o) : Ev 3 mZ173 219 [.ref v0, d1, .int v2, d3] [.ref w0] s (some (.int o.1), o.2) := by
  unfold b_M_behindSum_219 at h
  refine Ev_blk 2 (pc' := 224) (ls' := [.ref v0, d1, .int v2, d3]) (st' := [.int (nI 1), .ref w0]) (s' := s) rfl trivial ?_
  exact t_M_behindSum_224 h
def b_M_behindSum_202  (v0 : Nat) (w0 : Int32) (s : AS) : Option (Int32 × AS) :=
  if w0 = (nI 27) then
    if sT s v0 = 13 then
    (f_M_isSign s v0 (nI 61)).bind fun r1 =>
      b_M_behindSum_224 v0 w0 (if r1 = (nI 0) then nI 0 else nI 1) v0 s
    else none
  else
    b_M_behindSum_219 v0 w0 v0 s
theorem t_M_behindSum_202   {d1 d2 d3 : Value} {v0 : Nat} {w0 : Int32} {s : AS} {o : Int32 × AS} (h : b_M_behindSum_202  v0 w0 s = some o) : Ev 3 mZ173 202 [.ref v0, d1, d2, d3] [.int w0] s (some (.int o.1), o.2) := by
  unfold b_M_behindSum_202 at h
  refine Ev_blk 5 (pc' := if w0 = (nI 27) then 210 else 219) (ls' := [.ref v0, (clrV d1), .int w0, d3]) (st' := [.ref v0]) (s' := s) rfl trivial ?_
  refine ib h (fun c1 h => ?_) (fun c1 h => ?_)
  · refine gd h (fun g2 h => ?_)
    refine Ev_blk 2 (pc' := 213) (ls' := [.ref v0, (clrV d1), .int w0, d3]) (st' := [.int (nI 61), .ref v0, .ref v0]) (s' := s) rfl trivial ?_
    refine bd h (fun r1 hr1 h => ?_)
    refine Ev_call 2 165 1 [.ref v0, .int (nI 61)] [.ref v0] rfl rfl rfl rfl g2 rfl rfl (Nat.le_of_ble_eq_true rfl) (t_M_isSign hr1) ?_
    refine Ev_blk 1 (pc' := if r1 = (nI 0) then 223 else 219) (ls' := [.ref v0, (clrV d1), .int w0, d3]) (st' := [.ref v0]) (s' := s) rfl trivial ?_
    have k3_ : Ev 3 mZ173 224 [.ref v0, (clrV d1), .int w0, d3] [.int (if r1 = (nI 0) then nI 0 else nI 1), .ref v0] s (some (.int o.1), o.2) := by
      exact t_M_behindSum_224 h
    refine icases (fun c4 => ?_) (fun c4 => ?_)
    · exact Ev_blk 1 (pc' := 224) (ls' := [.ref v0, (clrV d1), .int w0, d3]) (st' := [.int (nI 0), .ref v0]) (s' := s) rfl trivial (by simpa only [if_pos c4] using k3_)
    · exact Ev_blk 2 (pc' := 224) (ls' := [.ref v0, (clrV d1), .int w0, d3]) (st' := [.int (nI 1), .ref v0]) (s' := s) rfl trivial (by simpa only [if_neg c4] using k3_)
  · exact t_M_behindSum_219 h
def b_M_behindSum_163  (v0 : Nat) (s : AS) : Option (Int32 × AS) :=
  if sT s v0 = 13 then
  (f_M_isCompared s v0).bind fun r1 =>
  if r1 = (nI 0) then
    (f_M_isSign s v0 (nI 60)).bind fun r2 =>
    if r2 = (nI 0) then
      (f_M_isSign s v0 (nI 62)).bind fun r3 =>
        b_M_behindSum_202 v0 (if r3 = (nI 0) then nI 27 else nI 26) s
    else
      b_M_behindSum_202 v0 (nI 25) s
  else
    some (nI 2, s)
  else none
theorem t_M_behindSum_163   {d1 d2 d3 : Value} {v0 : Nat} {s : AS} {o : Int32 × AS} (h : b_M_behindSum_163  v0 s = some o) : Ev 3 mZ173 163 [.ref v0, d1, d2, d3] [] s (some (.int o.1), o.2) := by
  unfold b_M_behindSum_163 at h
  refine gd h (fun g1 h => ?_)
  refine Ev_blk 1 (pc' := 164) (ls' := [.ref v0, d1, d2, d3]) (st' := [.ref v0]) (s' := s) rfl trivial ?_
  refine bd h (fun r1 hr1 h => ?_)
  refine Ev_call 2 177 0 [.ref v0] [] rfl rfl rfl rfl g1 rfl rfl (Nat.le_of_ble_eq_true rfl) (t_M_isCompared hr1) ?_
  refine Ev_blk 1 (pc' := if r1 = (nI 0) then 172 else 170) (ls' := [.ref v0, d1, d2, d3]) (st' := []) (s' := s) rfl trivial ?_
  refine ib h (fun c2 h => ?_) (fun c2 h => ?_)
  · refine Ev_blk 2 (pc' := 175) (ls' := [.ref v0, d1, d2, d3]) (st' := [.int (nI 60), .ref v0]) (s' := s) rfl trivial ?_
    refine bd h (fun r2 hr2 h => ?_)
    refine Ev_call 2 165 1 [.ref v0, .int (nI 60)] [] rfl rfl rfl rfl g1 rfl rfl (Nat.le_of_ble_eq_true rfl) (t_M_isSign hr2) ?_
    refine Ev_blk 1 (pc' := if r2 = (nI 0) then 186 else 181) (ls' := [.ref v0, d1, d2, d3]) (st' := []) (s' := s) rfl trivial ?_
    refine ib h (fun c3 h => ?_) (fun c3 h => ?_)
    · refine Ev_blk 2 (pc' := 189) (ls' := [.ref v0, d1, d2, d3]) (st' := [.int (nI 62), .ref v0]) (s' := s) rfl trivial ?_
      refine bd h (fun r3 hr3 h => ?_)
      refine Ev_call 2 165 1 [.ref v0, .int (nI 62)] [] rfl rfl rfl rfl g1 rfl rfl (Nat.le_of_ble_eq_true rfl) (t_M_isSign hr3) ?_
      refine Ev_blk 1 (pc' := if r3 = (nI 0) then 200 else 195) (ls' := [.ref v0, d1, d2, d3]) (st' := []) (s' := s) rfl trivial ?_
      have k4_ : Ev 3 mZ173 202 [.ref v0, d1, d2, d3] [.int (if r3 = (nI 0) then nI 27 else nI 26)] s (some (.int o.1), o.2) := by
        exact t_M_behindSum_202 h
      refine icases (fun c5 => ?_) (fun c5 => ?_)
      · exact Ev_blk 1 (pc' := 202) (ls' := [.ref v0, d1, d2, d3]) (st' := [.int (nI 27)]) (s' := s) rfl trivial (by simpa only [if_pos c5] using k4_)
      · exact Ev_blk 2 (pc' := 202) (ls' := [.ref v0, d1, d2, d3]) (st' := [.int (nI 26)]) (s' := s) rfl trivial (by simpa only [if_neg c5] using k4_)
    · refine Ev_blk 2 (pc' := 202) (ls' := [.ref v0, d1, d2, d3]) (st' := [.int (nI 25)]) (s' := s) rfl trivial ?_
      exact t_M_behindSum_202 h
  · refine Ev_blk 1 (pc' := 171) (ls' := [.ref v0, d1, d2, d3]) (st' := [.int (nI 2)]) (s' := s) rfl trivial ?_
    cases h
    exact Ev_ret rfl trivial
def b_M_behindSum_71  (v0 : Nat) (v1 : Int32) (w0 : Int32) (s : AS) : Option (Int32 × AS) :=
  if w0 = (-(nI 1)) then
    if sT s v0 = 13 then
    (f_M_inner s v0).bind fun r1 =>
    if r1 = (nI 32) then
      (f_M_isSign s v0 (nI 93)).bind fun r2 =>
      (f_M_must s v0 r2).bind fun r3 =>
      if sT r3 v0 = 13 then
      if (sI r3 v0 18) = (nI 0) then
        (f_M_settle r3 v0 (nI 5)).bind fun r4 =>
        if sT r4 v0 = 13 then
        some (nI 3, setI (setI r4 v0 28 ((sI r4 v0 28) - (nI 1))) v0 29 ((sI (setI r4 v0 28 ((sI r4 v0 28) - (nI 1))) v0 29) - (nI 1)))
        else none
      else
        some (nI 3, r3)
      else none
    else
      if r1 = (-(nI 1)) then
        if v1 = (nI 0) then
          some (nI 4, s)
        else
          b_M_behindSum_163 v0 s
      else
        b_M_behindSum_163 v0 s
    else none
  else
    (f_M_binds s w0).bind fun r5 =>
    if sT s v0 = 13 then
    (f_M_settle s v0 r5).bind fun r6 =>
    if sT r6 v0 = 13 then
    (f_M_push r6 v0 w0 (nI 0)).bind fun r7 =>
    if sT r7 v0 = 13 then
    (f_M_onward r7 v0).bind fun r8 =>
    some (nI 1, r8)
    else none
    else none
    else none
theorem t_M_behindSum_71   {d2 d3 : Value} {v0 : Nat} {v1 : Int32} {w0 : Int32} {s : AS} {o : Int32 × AS} (h : b_M_behindSum_71  v0 v1 w0 s = some o) : Ev 3 mZ173 71 [.ref v0, .int v1, d2, d3] [.int w0] s (some (.int o.1), o.2) := by
  unfold b_M_behindSum_71 at h
  refine Ev_blk 4 (pc' := if w0 = (-(nI 1)) then 97 else 77) (ls' := [.ref v0, .int v1, .int w0, d3]) (st' := []) (s' := s) rfl trivial ?_
  refine ib h (fun c1 h => ?_) (fun c1 h => ?_)
  · refine gd h (fun g2 h => ?_)
    refine Ev_blk 1 (pc' := 98) (ls' := [.ref v0, .int v1, .int w0, d3]) (st' := [.ref v0]) (s' := s) rfl trivial ?_
    refine bd h (fun r1 hr1 h => ?_)
    refine Ev_call 2 176 0 [.ref v0] [] rfl rfl rfl rfl g2 rfl rfl (Nat.le_of_ble_eq_true rfl) (t_M_inner hr1) ?_
    refine Ev_blk 4 (pc' := if r1 = (nI 32) then 108 else 152) (ls' := [.ref v0, .int v1, .int w0, .int r1]) (st' := []) (s' := s) rfl trivial ?_
    refine ib h (fun c3 h => ?_) (fun c3 h => ?_)
    · refine Ev_blk 3 (pc' := 112) (ls' := [.ref v0, .int v1, .int w0, .int r1]) (st' := [.int (nI 93), .ref v0, .ref v0]) (s' := s) rfl trivial ?_
      refine bd h (fun r2 hr2 h => ?_)
      refine Ev_call 2 165 1 [.ref v0, .int (nI 93)] [.ref v0] rfl rfl rfl rfl g2 rfl rfl (Nat.le_of_ble_eq_true rfl) (t_M_isSign hr2) ?_
      refine bd h (fun r3 hr3 h => ?_)
      refine Ev_call 2 161 1 [.ref v0, .int r2] [] rfl rfl rfl rfl g2 rfl rfl (Nat.le_of_ble_eq_true rfl) (t_M_must hr3) ?_
      refine gd h (fun g4 h => ?_)
      refine Ev_blk 3 (pc' := if (sI r3 v0 18) = (nI 0) then 125 else 150) (ls' := [.ref v0, .int v1, .int w0, .int r1]) (st' := []) (s' := r3) rfl ⟨trivial, g4⟩ ?_
      refine ib h (fun c5 h => ?_) (fun c5 h => ?_)
      · refine Ev_blk 2 (pc' := 127) (ls' := [.ref v0, .int v1, .int w0, .int r1]) (st' := [.int (nI 5), .ref v0]) (s' := r3) rfl trivial ?_
        refine bd h (fun r4 hr4 h => ?_)
        refine Ev_call 2 175 1 [.ref v0, .int (nI 5)] [] rfl rfl rfl rfl g4 rfl rfl (Nat.le_of_ble_eq_true rfl) (t_M_settle hr4) ?_
        refine gd h (fun g6 h => ?_)
        refine Ev_blk 13 (pc' := 151) (ls' := [.ref v0, .int v1, .int w0, .int r1]) (st' := [.int (nI 3)]) (s' := setI (setI r4 v0 28 ((sI r4 v0 28) - (nI 1))) v0 29 ((sI (setI r4 v0 28 ((sI r4 v0 28) - (nI 1))) v0 29) - (nI 1))) rfl ⟨⟨⟨⟨trivial, g6⟩, g6⟩, g6⟩, g6⟩ ?_
        cases h
        exact Ev_ret rfl trivial
      · refine Ev_blk 1 (pc' := 151) (ls' := [.ref v0, .int v1, .int w0, .int r1]) (st' := [.int (nI 3)]) (s' := r3) rfl trivial ?_
        cases h
        exact Ev_ret rfl trivial
    · refine Ev_blk 3 (pc' := if r1 = (-(nI 1)) then 157 else 163) (ls' := [.ref v0, .int v1, .int w0, .int r1]) (st' := []) (s' := s) rfl trivial ?_
      refine ib h (fun c7 h => ?_) (fun c7 h => ?_)
      · refine Ev_blk 2 (pc' := if v1 = (nI 0) then 161 else 163) (ls' := [.ref v0, .int v1, .int w0, .int r1]) (st' := []) (s' := s) rfl trivial ?_
        refine ib h (fun c8 h => ?_) (fun c8 h => ?_)
        · refine Ev_blk 1 (pc' := 162) (ls' := [.ref v0, .int v1, .int w0, .int r1]) (st' := [.int (nI 4)]) (s' := s) rfl trivial ?_
          cases h
          exact Ev_ret rfl trivial
        · exact t_M_behindSum_163 h
      · exact t_M_behindSum_163 h
  · refine Ev_blk 2 (pc' := 79) (ls' := [.ref v0, .int v1, .int w0, d3]) (st' := [.int w0, .ref v0]) (s' := s) rfl trivial ?_
    refine bd h (fun r5 hr5 h => ?_)
    refine Ev_call 1 174 1 [.int w0] [.ref v0] rfl rfl rfl rfl trivial rfl rfl (Nat.le_of_ble_eq_true rfl) (t_M_binds hr5) ?_
    refine gd h (fun g9 h => ?_)
    refine bd h (fun r6 hr6 h => ?_)
    refine Ev_call 2 175 1 [.ref v0, .int r5] [] rfl rfl rfl rfl g9 rfl rfl (Nat.le_of_ble_eq_true rfl) (t_M_settle hr6) ?_
    refine gd h (fun g10 h => ?_)
    refine Ev_blk 3 (pc' := 88) (ls' := [.ref v0, .int v1, .int w0, d3]) (st' := [.int (nI 0), .int w0, .ref v0]) (s' := r6) rfl trivial ?_
    refine bd h (fun r7 hr7 h => ?_)
    refine Ev_call 2 164 2 [.ref v0, .int w0, .int (nI 0)] [] rfl rfl rfl rfl g10 rfl rfl (Nat.le_of_ble_eq_true rfl) (t_M_push hr7) ?_
    refine gd h (fun g11 h => ?_)
    refine Ev_blk 1 (pc' := 92) (ls' := [.ref v0, .int v1, .int w0, d3]) (st' := [.ref v0]) (s' := r7) rfl trivial ?_
    refine bd h (fun r8 hr8 h => ?_)
    refine Ev_call 2 156 0 [.ref v0] [] rfl rfl rfl rfl g11 rfl rfl (Nat.le_of_ble_eq_true rfl) (t_M_onward hr8) ?_
    refine Ev_blk 1 (pc' := 96) (ls' := [.ref v0, .int v1, .int w0, d3]) (st' := [.int (nI 1)]) (s' := r8) rfl trivial ?_
    cases h
    exact Ev_ret rfl trivial
/-- RecordHeapModel.behindSum(Z)I -/
def f_M_behindSum (s : AS) (a0 : Nat) (a1 : Int32) : Option (Int32 × AS) :=
  if sT s a0 = 13 then
  (f_M_isSign s a0 (nI 43)).bind fun r1 =>
  if r1 = (nI 0) then
    (f_M_isSign s a0 (nI 45)).bind fun r2 =>
    if r2 = (nI 0) then
      (f_M_isSign s a0 (nI 42)).bind fun r3 =>
      if r3 = (nI 0) then
        (f_M_isSign s a0 (nI 47)).bind fun r4 =>
        if r4 = (nI 0) then
          (f_M_isSign s a0 (nI 37)).bind fun r5 =>
            b_M_behindSum_71 a0 a1 (if r5 = (nI 0) then -(nI 1) else nI 24) s
        else
          b_M_behindSum_71 a0 a1 (nI 23) s
      else
        b_M_behindSum_71 a0 a1 (nI 22) s
    else
      b_M_behindSum_71 a0 a1 (nI 21) s
  else
    b_M_behindSum_71 a0 a1 (nI 20) s
  else none
theorem t_M_behindSum {s : AS} {a0 : Nat} {a1 : Int32} {o : Int32 × AS} (h : f_M_behindSum s a0 a1 = some o) : Ev 3 mZ173 0 [.ref a0, .int a1, .retAddr 0, .retAddr 0] [] s (some (.int o.1), o.2) := by
  unfold f_M_behindSum at h
  refine gd h (fun g1 h => ?_)
  refine Ev_blk 2 (pc' := 3) (ls' := [.ref a0, .int a1, .retAddr 0, .retAddr 0]) (st' := [.int (nI 43), .ref a0]) (s' := s) rfl trivial ?_
  refine bd h (fun r1 hr1 h => ?_)
  refine Ev_call 2 165 1 [.ref a0, .int (nI 43)] [] rfl rfl rfl rfl g1 rfl rfl (Nat.le_of_ble_eq_true rfl) (t_M_isSign hr1) ?_
  refine Ev_blk 1 (pc' := if r1 = (nI 0) then 14 else 9) (ls' := [.ref a0, .int a1, .retAddr 0, .retAddr 0]) (st' := []) (s' := s) rfl trivial ?_
  refine ib h (fun c2 h => ?_) (fun c2 h => ?_)
  · refine Ev_blk 2 (pc' := 17) (ls' := [.ref a0, .int a1, .retAddr 0, .retAddr 0]) (st' := [.int (nI 45), .ref a0]) (s' := s) rfl trivial ?_
    refine bd h (fun r2 hr2 h => ?_)
    refine Ev_call 2 165 1 [.ref a0, .int (nI 45)] [] rfl rfl rfl rfl g1 rfl rfl (Nat.le_of_ble_eq_true rfl) (t_M_isSign hr2) ?_
    refine Ev_blk 1 (pc' := if r2 = (nI 0) then 28 else 23) (ls' := [.ref a0, .int a1, .retAddr 0, .retAddr 0]) (st' := []) (s' := s) rfl trivial ?_
    refine ib h (fun c3 h => ?_) (fun c3 h => ?_)
    · refine Ev_blk 2 (pc' := 31) (ls' := [.ref a0, .int a1, .retAddr 0, .retAddr 0]) (st' := [.int (nI 42), .ref a0]) (s' := s) rfl trivial ?_
      refine bd h (fun r3 hr3 h => ?_)
      refine Ev_call 2 165 1 [.ref a0, .int (nI 42)] [] rfl rfl rfl rfl g1 rfl rfl (Nat.le_of_ble_eq_true rfl) (t_M_isSign hr3) ?_
      refine Ev_blk 1 (pc' := if r3 = (nI 0) then 42 else 37) (ls' := [.ref a0, .int a1, .retAddr 0, .retAddr 0]) (st' := []) (s' := s) rfl trivial ?_
      refine ib h (fun c4 h => ?_) (fun c4 h => ?_)
      · refine Ev_blk 2 (pc' := 45) (ls' := [.ref a0, .int a1, .retAddr 0, .retAddr 0]) (st' := [.int (nI 47), .ref a0]) (s' := s) rfl trivial ?_
        refine bd h (fun r4 hr4 h => ?_)
        refine Ev_call 2 165 1 [.ref a0, .int (nI 47)] [] rfl rfl rfl rfl g1 rfl rfl (Nat.le_of_ble_eq_true rfl) (t_M_isSign hr4) ?_
        refine Ev_blk 1 (pc' := if r4 = (nI 0) then 56 else 51) (ls' := [.ref a0, .int a1, .retAddr 0, .retAddr 0]) (st' := []) (s' := s) rfl trivial ?_
        refine ib h (fun c5 h => ?_) (fun c5 h => ?_)
        · refine Ev_blk 2 (pc' := 59) (ls' := [.ref a0, .int a1, .retAddr 0, .retAddr 0]) (st' := [.int (nI 37), .ref a0]) (s' := s) rfl trivial ?_
          refine bd h (fun r5 hr5 h => ?_)
          refine Ev_call 2 165 1 [.ref a0, .int (nI 37)] [] rfl rfl rfl rfl g1 rfl rfl (Nat.le_of_ble_eq_true rfl) (t_M_isSign hr5) ?_
          refine Ev_blk 1 (pc' := if r5 = (nI 0) then 70 else 65) (ls' := [.ref a0, .int a1, .retAddr 0, .retAddr 0]) (st' := []) (s' := s) rfl trivial ?_
          have k6_ : Ev 3 mZ173 71 [.ref a0, .int a1, .retAddr 0, .retAddr 0] [.int (if r5 = (nI 0) then -(nI 1) else nI 24)] s (some (.int o.1), o.2) := by
            exact t_M_behindSum_71 h
          refine icases (fun c7 => ?_) (fun c7 => ?_)
          · exact Ev_blk 1 (pc' := 71) (ls' := [.ref a0, .int a1, .retAddr 0, .retAddr 0]) (st' := [.int (-(nI 1))]) (s' := s) rfl trivial (by simpa only [if_pos c7] using k6_)
          · exact Ev_blk 2 (pc' := 71) (ls' := [.ref a0, .int a1, .retAddr 0, .retAddr 0]) (st' := [.int (nI 24)]) (s' := s) rfl trivial (by simpa only [if_neg c7] using k6_)
        · refine Ev_blk 2 (pc' := 71) (ls' := [.ref a0, .int a1, .retAddr 0, .retAddr 0]) (st' := [.int (nI 23)]) (s' := s) rfl trivial ?_
          exact t_M_behindSum_71 h
      · refine Ev_blk 2 (pc' := 71) (ls' := [.ref a0, .int a1, .retAddr 0, .retAddr 0]) (st' := [.int (nI 22)]) (s' := s) rfl trivial ?_
        exact t_M_behindSum_71 h
    · refine Ev_blk 2 (pc' := 71) (ls' := [.ref a0, .int a1, .retAddr 0, .retAddr 0]) (st' := [.int (nI 21)]) (s' := s) rfl trivial ?_
      exact t_M_behindSum_71 h
  · refine Ev_blk 2 (pc' := 71) (ls' := [.ref a0, .int a1, .retAddr 0, .retAddr 0]) (st' := [.int (nI 20)]) (s' := s) rfl trivial ?_
    exact t_M_behindSum_71 h

def b_M_behindTest_66  (v0 : Nat) (w0 : Int32) (w1 : Nat) (s : AS) : Option (Int32 × AS) :=
  if sT s w1 = 13 then
  (f_M_emit s w1 w0 (nI 0)).bind fun r1 =>
  if sT r1 v0 = 13 then
  (f_M_onward r1 v0).bind fun r2 =>
  some (nI 0, r2)
  else none
  else none
theorem t_M_behindTest_66   {d1 : Value} {v0 : Nat} {w0 : Int32} {w1 : Nat} {s : AS} {o : Int32 × AS} (h : b_M_behindTest_66  v0 w0 w1 s = some o) : Ev 3 mZ178 66 [.ref v0, d1] [.int w0, .ref w1] s (some (.int o.1), o.2) := by
  unfold b_M_behindTest_66 at h
  refine gd h (fun g1 h => ?_)
  refine Ev_blk 1 (pc' := 67) (ls' := [.ref v0, d1]) (st' := [.int (nI 0), .int w0, .ref w1]) (s' := s) rfl trivial ?_
  refine bd h (fun r1 hr1 h => ?_)
  refine Ev_call 2 171 2 [.ref w1, .int w0, .int (nI 0)] [] rfl rfl rfl rfl g1 rfl rfl (Nat.le_of_ble_eq_true rfl) (t_M_emit hr1) ?_
  refine gd h (fun g2 h => ?_)
  refine Ev_blk 1 (pc' := 71) (ls' := [.ref v0, d1]) (st' := [.ref v0]) (s' := r1) rfl trivial ?_
  refine bd h (fun r2 hr2 h => ?_)
  refine Ev_call 2 156 0 [.ref v0] [] rfl rfl rfl rfl g2 rfl rfl (Nat.le_of_ble_eq_true rfl) (t_M_onward hr2) ?_
  refine Ev_blk 1 (pc' := 75) (ls' := [.ref v0, d1]) (st' := [.int (nI 0)]) (s' := r2) rfl trivial ?_
  cases h
  exact Ev_ret rfl trivial
def b_M_behindTest_47  (v0 : Nat) (v1 : Int32) (w0 : Int32) (w1 : Nat) (s : AS) : Option (Int32 × AS) :=
  if sT s v0 = 13 then
  if sT s w1 = 13 then
  (f_M_push s w1 w0 (sI s v0 22)).bind fun r1 =>
    b_M_behindTest_66 v0 (if v1 = (nI 0) then nI 30 else nI 29) v0 r1
  else none
  else none
theorem t_M_behindTest_47    {v0 : Nat} {v1 : Int32} {w0 : Int32} {w1 : Nat} {s : AS} {o : Int32 × AS} (h : b_M_behindTest_47  v0 v1 w0 w1 s = some o) : Ev 3 mZ178 47 [.ref v0, .int v1] [.int w0, .ref w1] s (some (.int o.1), o.2) := by
  unfold b_M_behindTest_47 at h
  refine gd h (fun g1 h => ?_)
  refine gd h (fun g2 h => ?_)
  refine Ev_blk 2 (pc' := 51) (ls' := [.ref v0, .int v1]) (st' := [.int (sI s v0 22), .int w0, .ref w1]) (s' := s) rfl ⟨trivial, g1⟩ ?_
  refine bd h (fun r1 hr1 h => ?_)
  refine Ev_call 2 164 2 [.ref w1, .int w0, .int (sI s v0 22)] [] rfl rfl rfl rfl g2 rfl rfl (Nat.le_of_ble_eq_true rfl) (t_M_push hr1) ?_
  refine Ev_blk 3 (pc' := if v1 = (nI 0) then 64 else 59) (ls' := [.ref v0, .int v1]) (st' := [.ref v0]) (s' := r1) rfl trivial ?_
  have k3_ : Ev 3 mZ178 66 [.ref v0, .int v1] [.int (if v1 = (nI 0) then nI 30 else nI 29), .ref v0] r1 (some (.int o.1), o.2) := by
    exact t_M_behindTest_66 h
  refine icases (fun c4 => ?_) (fun c4 => ?_)
  · exact Ev_blk 1 (pc' := 66) (ls' := [.ref v0, .int v1]) (st' := [.int (nI 30), .ref v0]) (s' := r1) rfl trivial (by simpa only [if_pos c4] using k3_)
  · exact Ev_blk 2 (pc' := 66) (ls' := [.ref v0, .int v1]) (st' := [.int (nI 29), .ref v0]) (s' := r1) rfl trivial (by simpa only [if_neg c4] using k3_)
def b_M_behindTest_32  (v0 : Nat) (v1 : Int32) (w0 : Int32) (w1 : Nat) (s : AS) : Option (Int32 × AS) :=
  if sT s w1 = 13 then
  (f_M_settle s w1 w0).bind fun r1 =>
    b_M_behindTest_47 v0 v1 (if v1 = (nI 0) then nI 30 else nI 29) v0 r1
  else none
theorem t_M_behindTest_32    {v0 : Nat} {v1 : Int32} {w0 : Int32} {w1 : Nat} {s : AS} {o : Int32 × AS} (h : b_M_behindTest_32  v0 v1 w0 w1 s = some o) : Ev 3 mZ178 32 [.ref v0, .int v1] [.int w0, .ref w1] s (some (.int o.1), o.2) := by
  unfold b_M_behindTest_32 at h
  refine gd h (fun g1 h => ?_)
  refine bd h (fun r1 hr1 h => ?_)
  refine Ev_call 2 175 1 [.ref w1, .int w0] [] rfl rfl rfl rfl g1 rfl rfl (Nat.le_of_ble_eq_true rfl) (t_M_settle hr1) ?_
  refine Ev_blk 3 (pc' := if v1 = (nI 0) then 45 else 40) (ls' := [.ref v0, .int v1]) (st' := [.ref v0]) (s' := r1) rfl trivial ?_
  have k2_ : Ev 3 mZ178 47 [.ref v0, .int v1] [.int (if v1 = (nI 0) then nI 30 else nI 29), .ref v0] r1 (some (.int o.1), o.2) := by
    exact t_M_behindTest_47 h
  refine icases (fun c3 => ?_) (fun c3 => ?_)
  · exact Ev_blk 1 (pc' := 47) (ls' := [.ref v0, .int v1]) (st' := [.int (nI 30), .ref v0]) (s' := r1) rfl trivial (by simpa only [if_pos c3] using k2_)
  · exact Ev_blk 2 (pc' := 47) (ls' := [.ref v0, .int v1]) (st' := [.int (nI 29), .ref v0]) (s' := r1) rfl trivial (by simpa only [if_neg c3] using k2_)
def b_M_behindTest_22  (v0 : Nat) (v1 : Int32) (s : AS) : Option (Int32 × AS) :=
    b_M_behindTest_32 v0 v1 (if v1 = (nI 0) then nI 1 else nI 2) v0 s
theorem t_M_behindTest_22    {v0 : Nat} {v1 : Int32} {s : AS} {o : Int32 × AS} (h : b_M_behindTest_22  v0 v1 s = some o) : Ev 3 mZ178 22 [.ref v0, .int v1] [] s (some (.int o.1), o.2) := by
  unfold b_M_behindTest_22 at h
  refine Ev_blk 3 (pc' := if v1 = (nI 0) then 31 else 27) (ls' := [.ref v0, .int v1]) (st' := [.ref v0]) (s' := s) rfl trivial ?_
  have k1_ : Ev 3 mZ178 32 [.ref v0, .int v1] [.int (if v1 = (nI 0) then nI 1 else nI 2), .ref v0] s (some (.int o.1), o.2) := by
    exact t_M_behindTest_32 h
  refine icases (fun c2 => ?_) (fun c2 => ?_)
  · exact Ev_blk 1 (pc' := 32) (ls' := [.ref v0, .int v1]) (st' := [.int (nI 1), .ref v0]) (s' := s) rfl trivial (by simpa only [if_pos c2] using k1_)
  · exact Ev_blk 2 (pc' := 32) (ls' := [.ref v0, .int v1]) (st' := [.int (nI 2), .ref v0]) (s' := s) rfl trivial (by simpa only [if_neg c2] using k1_)
/-- RecordHeapModel.behindTest()I -/
def f_M_behindTest (s : AS) (a0 : Nat) : Option (Int32 × AS) :=
  if sT s a0 = 13 then
  (f_M_isWord s a0 (lN 1476)).bind fun r1 =>
  if r1 = (nI 0) then
    (f_M_isWord s a0 (lN 498)).bind fun r2 =>
    if r2 = (nI 0) then
      (f_M_inner s a0).bind fun r3 =>
      if r3 = (-(nI 1)) then
        some (nI 4, s)
      else
        (f_M_isSign s a0 (nI 41)).bind fun r4 =>
        (f_M_must s a0 r4).bind fun r5 =>
        if sT r5 a0 = 13 then
        if (sI r5 a0 18) = (nI 0) then
          (f_M_settle r5 a0 (nI 1)).bind fun r6 =>
          if sT r6 a0 = 13 then
          some (nI 2, setI (setI r6 a0 28 ((sI r6 a0 28) - (nI 1))) a0 29 ((sI (setI r6 a0 28 ((sI r6 a0 28) - (nI 1))) a0 29) - (nI 1)))
          else none
        else
          some (nI 2, r5)
        else none
    else
      b_M_behindTest_22 a0 r1 s
  else
    b_M_behindTest_22 a0 r1 s
  else none
theorem t_M_behindTest {s : AS} {a0 : Nat} {o : Int32 × AS} (h : f_M_behindTest s a0 = some o) : Ev 3 mZ178 0 [.ref a0, .retAddr 0] [] s (some (.int o.1), o.2) := by
  unfold f_M_behindTest at h
  refine gd h (fun g1 h => ?_)
  refine Ev_blk 2 (pc' := 4) (ls' := [.ref a0, .retAddr 0]) (st' := [.long (lN 1476), .ref a0]) (s' := s) rfl trivial ?_
  refine bd h (fun r1 hr1 h => ?_)
  refine Ev_call 2 160 1 [.ref a0, .long (lN 1476)] [] rfl rfl rfl rfl g1 rfl rfl (Nat.le_of_ble_eq_true rfl) (t_M_isWord hr1) ?_
  refine Ev_blk 3 (pc' := if r1 = (nI 0) then 12 else 22) (ls' := [.ref a0, .int r1]) (st' := []) (s' := s) rfl trivial ?_
  refine ib h (fun c2 h => ?_) (fun c2 h => ?_)
  · refine Ev_blk 2 (pc' := 16) (ls' := [.ref a0, .int r1]) (st' := [.long (lN 498), .ref a0]) (s' := s) rfl trivial ?_
    refine bd h (fun r2 hr2 h => ?_)
    refine Ev_call 2 160 1 [.ref a0, .long (lN 498)] [] rfl rfl rfl rfl g1 rfl rfl (Nat.le_of_ble_eq_true rfl) (t_M_isWord hr2) ?_
    refine Ev_blk 1 (pc' := if r2 = (nI 0) then 76 else 22) (ls' := [.ref a0, .int r1]) (st' := []) (s' := s) rfl trivial ?_
    refine ib h (fun c3 h => ?_) (fun c3 h => ?_)
    · refine Ev_blk 1 (pc' := 77) (ls' := [.ref a0, .int r1]) (st' := [.ref a0]) (s' := s) rfl trivial ?_
      refine bd h (fun r3 hr3 h => ?_)
      refine Ev_call 2 176 0 [.ref a0] [] rfl rfl rfl rfl g1 rfl rfl (Nat.le_of_ble_eq_true rfl) (t_M_inner hr3) ?_
      refine Ev_blk 2 (pc' := if r3 = (-(nI 1)) then 84 else 86) (ls' := [.ref a0, .int r1]) (st' := []) (s' := s) rfl trivial ?_
      refine ib h (fun c4 h => ?_) (fun c4 h => ?_)
      · refine Ev_blk 1 (pc' := 85) (ls' := [.ref a0, .int r1]) (st' := [.int (nI 4)]) (s' := s) rfl trivial ?_
        cases h
        exact Ev_ret rfl trivial
      · refine Ev_blk 3 (pc' := 90) (ls' := [.ref a0, .int r1]) (st' := [.int (nI 41), .ref a0, .ref a0]) (s' := s) rfl trivial ?_
        refine bd h (fun r4 hr4 h => ?_)
        refine Ev_call 2 165 1 [.ref a0, .int (nI 41)] [.ref a0] rfl rfl rfl rfl g1 rfl rfl (Nat.le_of_ble_eq_true rfl) (t_M_isSign hr4) ?_
        refine bd h (fun r5 hr5 h => ?_)
        refine Ev_call 2 161 1 [.ref a0, .int r4] [] rfl rfl rfl rfl g1 rfl rfl (Nat.le_of_ble_eq_true rfl) (t_M_must hr5) ?_
        refine gd h (fun g5 h => ?_)
        refine Ev_blk 3 (pc' := if (sI r5 a0 18) = (nI 0) then 103 else 128) (ls' := [.ref a0, .int r1]) (st' := []) (s' := r5) rfl ⟨trivial, g5⟩ ?_
        refine ib h (fun c6 h => ?_) (fun c6 h => ?_)
        · refine Ev_blk 2 (pc' := 105) (ls' := [.ref a0, .int r1]) (st' := [.int (nI 1), .ref a0]) (s' := r5) rfl trivial ?_
          refine bd h (fun r6 hr6 h => ?_)
          refine Ev_call 2 175 1 [.ref a0, .int (nI 1)] [] rfl rfl rfl rfl g5 rfl rfl (Nat.le_of_ble_eq_true rfl) (t_M_settle hr6) ?_
          refine gd h (fun g7 h => ?_)
          refine Ev_blk 13 (pc' := 129) (ls' := [.ref a0, .int r1]) (st' := [.int (nI 2)]) (s' := setI (setI r6 a0 28 ((sI r6 a0 28) - (nI 1))) a0 29 ((sI (setI r6 a0 28 ((sI r6 a0 28) - (nI 1))) a0 29) - (nI 1))) rfl ⟨⟨⟨⟨trivial, g7⟩, g7⟩, g7⟩, g7⟩ ?_
          cases h
          exact Ev_ret rfl trivial
        · refine Ev_blk 1 (pc' := 129) (ls' := [.ref a0, .int r1]) (st' := [.int (nI 2)]) (s' := r5) rfl trivial ?_
          cases h
          exact Ev_ret rfl trivial
    · exact t_M_behindTest_22 h
  · exact t_M_behindTest_22 h

def b_M_readExpression_76  (v0 : Nat) (s : AS) : Option AS :=
  if sT s v0 = 13 then
  (f_M_settle s v0 (nI 1)).bind fun r1 =>
  some r1
  else none
theorem t_M_readExpression_76   {d1 d2 : Value} {v0 : Nat} {s : AS} {o : AS} (h : b_M_readExpression_76  v0 s = some o) : Ev 6 mZ162 76 [.ref v0, d1, d2] [] s (none, o) := by
  unfold b_M_readExpression_76 at h
  refine gd h (fun g1 h => ?_)
  refine Ev_blk 2 (pc' := 78) (ls' := [.ref v0, d1, d2]) (st' := [.int (nI 1), .ref v0]) (s' := s) rfl trivial ?_
  refine bd h (fun r1 hr1 h => ?_)
  refine Ev_call 2 175 1 [.ref v0, .int (nI 1)] [] rfl rfl rfl rfl g1 rfl rfl (Nat.le_of_ble_eq_true rfl) (t_M_settle hr1) ?_
  cases h
  exact Ev_ret rfl trivial
def b_M_readExpression_20 (k20 : Nat → Int32 → Int32 → AS → Option AS) (v0 : Nat) (v1 : Int32) (v2 : Int32) (s : AS) : Option AS :=
  if sT s v0 = 13 then
  if (sI s v0 18) = (nI 0) then
    if v2 = (nI 4) then
      b_M_readExpression_76 v0 s
    else
      if v2 = (nI 0) then
        (f_M_readPlain s v0).bind fun r1 =>
        k20 v0 v1 r1.1 r1.2
      else
        if v2 = (nI 1) then
          (f_M_readPart s v0).bind fun r2 =>
          k20 v0 v1 r2.1 r2.2
        else
          if v2 = (nI 3) then
            (f_M_behindSum s v0 v1).bind fun r3 =>
            k20 v0 v1 r3.1 r3.2
          else
            (f_M_behindTest s v0).bind fun r4 =>
            k20 v0 v1 r4.1 r4.2
  else
    b_M_readExpression_76 v0 s
  else none
theorem t_M_readExpression_20 {k20 : Nat → Int32 → Int32 → AS → Option AS} (H20 : ∀ {v0 : Nat} {v1 : Int32} {v2 : Int32} {s : AS} {o : AS}, k20 v0 v1 v2 s = some o → Ev 6 mZ162 20 [.ref v0, .int v1, .int v2] [] s (none, o))  {v0 : Nat} {v1 : Int32} {v2 : Int32} {s : AS} {o : AS} (h : b_M_readExpression_20 k20 v0 v1 v2 s = some o) : Ev 6 mZ162 20 [.ref v0, .int v1, .int v2] [] s (none, o) := by
  unfold b_M_readExpression_20 at h
  refine gd h (fun g1 h => ?_)
  refine Ev_blk 3 (pc' := if (sI s v0 18) = (nI 0) then 27 else 76) (ls' := [.ref v0, .int v1, .int v2]) (st' := []) (s' := s) rfl ⟨trivial, g1⟩ ?_
  refine ib h (fun c2 h => ?_) (fun c2 h => ?_)
  · refine Ev_blk 3 (pc' := if v2 = (nI 4) then 76 else 32) (ls' := [.ref v0, .int v1, .int v2]) (st' := []) (s' := s) rfl trivial ?_
    refine ib h (fun c3 h => ?_) (fun c3 h => ?_)
    · exact t_M_readExpression_76 h
    · refine Ev_blk 2 (pc' := if v2 = (nI 0) then 36 else 43) (ls' := [.ref v0, .int v1, .int v2]) (st' := []) (s' := s) rfl trivial ?_
      refine ib h (fun c4 h => ?_) (fun c4 h => ?_)
      · refine Ev_blk 1 (pc' := 37) (ls' := [.ref v0, .int v1, .int v2]) (st' := [.ref v0]) (s' := s) rfl trivial ?_
        refine bd h (fun r1 hr1 h => ?_)
        refine Ev_call 2 163 0 [.ref v0] [] rfl rfl rfl rfl g1 rfl rfl (Nat.le_of_ble_eq_true rfl) (t_M_readPlain hr1) ?_
        refine Ev_blk 3 (pc' := 20) (ls' := [.ref v0, .int v1, .int r1.1]) (st' := []) (s' := r1.2) rfl trivial ?_
        exact H20 h
      · refine Ev_blk 3 (pc' := if v2 = (nI 1) then 48 else 55) (ls' := [.ref v0, .int v1, .int v2]) (st' := []) (s' := s) rfl trivial ?_
        refine ib h (fun c5 h => ?_) (fun c5 h => ?_)
        · refine Ev_blk 1 (pc' := 49) (ls' := [.ref v0, .int v1, .int v2]) (st' := [.ref v0]) (s' := s) rfl trivial ?_
          refine bd h (fun r2 hr2 h => ?_)
          refine Ev_call 2 167 0 [.ref v0] [] rfl rfl rfl rfl g1 rfl rfl (Nat.le_of_ble_eq_true rfl) (t_M_readPart hr2) ?_
          refine Ev_blk 3 (pc' := 20) (ls' := [.ref v0, .int v1, .int r2.1]) (st' := []) (s' := r2.2) rfl trivial ?_
          exact H20 h
        · refine Ev_blk 3 (pc' := if v2 = (nI 3) then 60 else 68) (ls' := [.ref v0, .int v1, .int v2]) (st' := []) (s' := s) rfl trivial ?_
          refine ib h (fun c6 h => ?_) (fun c6 h => ?_)
          · refine Ev_blk 2 (pc' := 62) (ls' := [.ref v0, .int v1, .int v2]) (st' := [.int v1, .ref v0]) (s' := s) rfl trivial ?_
            refine bd h (fun r3 hr3 h => ?_)
            refine Ev_call 2 173 1 [.ref v0, .int v1] [] rfl rfl rfl rfl g1 rfl rfl (Nat.le_of_ble_eq_true rfl) (t_M_behindSum hr3) ?_
            refine Ev_blk 3 (pc' := 20) (ls' := [.ref v0, .int v1, .int r3.1]) (st' := []) (s' := r3.2) rfl trivial ?_
            exact H20 h
          · refine Ev_blk 1 (pc' := 69) (ls' := [.ref v0, .int v1, .int v2]) (st' := [.ref v0]) (s' := s) rfl trivial ?_
            refine bd h (fun r4 hr4 h => ?_)
            refine Ev_call 2 178 0 [.ref v0] [] rfl rfl rfl rfl g1 rfl rfl (Nat.le_of_ble_eq_true rfl) (t_M_behindTest hr4) ?_
            refine Ev_blk 2 (pc' := 20) (ls' := [.ref v0, .int v1, .int r4.1]) (st' := []) (s' := r4.2) rfl trivial ?_
            exact H20 h
  · exact t_M_readExpression_76 h
def l_M_readExpression_20  : Nat → Nat → Int32 → Int32 → AS → Option AS
  | 0 => fun _ _ _ _ => none
  | n + 1 => b_M_readExpression_20  (l_M_readExpression_20  n)
theorem u_M_readExpression_20   {n : Nat} : ∀  {v0 : Nat} {v1 : Int32} {v2 : Int32} {s : AS} {o : AS}, l_M_readExpression_20  n v0 v1 v2 s = some o → Ev 6 mZ162 20 [.ref v0, .int v1, .int v2] [] s (none, o) := by
  induction n with
  | zero => intros; rename_i h; cases h
  | succ n ih => intros; rename_i h; exact t_M_readExpression_20  (fun h => ih h) h
def b_M_readExpression_19  (v0 : Nat) (v1 : Int32) (w0 : Int32) (s : AS) : Option AS :=
  l_M_readExpression_20 fuel v0 v1 w0 s
theorem t_M_readExpression_19   {d2 : Value} {v0 : Nat} {v1 : Int32} {w0 : Int32} {s : AS} {o : AS} (h : b_M_readExpression_19  v0 v1 w0 s = some o) : Ev 6 mZ162 19 [.ref v0, .int v1, d2] [.int w0] s (none, o) := by
  unfold b_M_readExpression_19 at h
  refine Ev_blk 1 (pc' := 20) (ls' := [.ref v0, .int v1, .int w0]) (st' := []) (s' := s) rfl trivial ?_
  exact u_M_readExpression_20 h
/-- RecordHeapModel.readExpression(Z)V -/
def f_M_readExpression (s : AS) (a0 : Nat) (a1 : Int32) : Option AS :=
  if sT s a0 = 13 then
    b_M_readExpression_19 a0 a1 (if a1 = (nI 0) then nI 1 else nI 0) (setI (setI s a0 28 (nI 0)) a0 29 (nI 0))
  else none
theorem t_M_readExpression {s : AS} {a0 : Nat} {a1 : Int32} {o : AS} (h : f_M_readExpression s a0 a1 = some o) : Ev 6 mZ162 0 [.ref a0, .int a1, .retAddr 0] [] s (none, o) := by
  unfold f_M_readExpression at h
  refine gd h (fun g1 h => ?_)
  refine Ev_blk 8 (pc' := if a1 = (nI 0) then 18 else 14) (ls' := [.ref a0, .int a1, .retAddr 0]) (st' := []) (s' := setI (setI s a0 28 (nI 0)) a0 29 (nI 0)) rfl ⟨⟨trivial, g1⟩, g1⟩ ?_
  have k2_ : Ev 6 mZ162 19 [.ref a0, .int a1, .retAddr 0] [.int (if a1 = (nI 0) then nI 1 else nI 0)] (setI (setI s a0 28 (nI 0)) a0 29 (nI 0)) (none, o) := by
    exact t_M_readExpression_19 h
  refine icases (fun c3 => ?_) (fun c3 => ?_)
  · exact Ev_blk 1 (pc' := 19) (ls' := [.ref a0, .int a1, .retAddr 0]) (st' := [.int (nI 1)]) (s' := setI (setI s a0 28 (nI 0)) a0 29 (nI 0)) rfl trivial (by simpa only [if_pos c3] using k2_)
  · exact Ev_blk 2 (pc' := 19) (ls' := [.ref a0, .int a1, .retAddr 0]) (st' := [.int (nI 0)]) (s' := setI (setI s a0 28 (nI 0)) a0 29 (nI 0)) rfl trivial (by simpa only [if_neg c3] using k2_)

def b_M_readLaw_184  (v0 : Nat) (v2 : Int32) (s : AS) : Option AS :=
  if sT s v0 = 13 then
  if sT s (sR s v0 21) = 20 ∧ inA (v2 + (nI 6)) (sN s (sR s v0 21)) then
  some (setI s (sR s v0 21) (v2 + (nI 6)).toNatClampNeg (sI s v0 22))
  else none
  else none
theorem t_M_readLaw_184   {d1 d3 : Value} {v0 : Nat} {v2 : Int32} {s : AS} {o : AS} (h : b_M_readLaw_184  v0 v2 s = some o) : Ev 7 mZ159 184 [.ref v0, d1, .int v2, d3] [] s (none, o) := by
  unfold b_M_readLaw_184 at h
  refine gd h (fun g1 h => ?_)
  refine gd h (fun g2 h => ?_)
  refine Ev_blk 8 (pc' := 197) (ls' := [.ref v0, d1, .int v2, d3]) (st' := []) (s' := setI s (sR s v0 21) (v2 + (nI 6)).toNatClampNeg (sI s v0 22)) rfl ⟨⟨⟨trivial, g1⟩, g1⟩, g2⟩ ?_
  cases h
  exact Ev_ret rfl trivial
def b_M_readLaw_134  (v0 : Nat) (v2 : Int32) (s : AS) : Option AS :=
  if sT s v0 = 13 then
  if sT s (sR s v0 21) = 20 ∧ inA (v2 + (nI 4)) (sN s (sR s v0 21)) then
  if sT s (sR s v0 21) = 20 ∧ inA (v2 + (nI 5)) (sN s (sR s v0 21)) then
  if (sI (setI (setI s (sR s v0 21) (v2 + (nI 4)).toNatClampNeg (sI s v0 22)) (sR s v0 21) (v2 + (nI 5)).toNatClampNeg (sI (setI s (sR s v0 21) (v2 + (nI 4)).toNatClampNeg (sI s v0 22)) v0 22)) v0 18) = (nI 0) then
    (f_M_isWord (setI (setI s (sR s v0 21) (v2 + (nI 4)).toNatClampNeg (sI s v0 22)) (sR s v0 21) (v2 + (nI 5)).toNatClampNeg (sI (setI s (sR s v0 21) (v2 + (nI 4)).toNatClampNeg (sI s v0 22)) v0 22)) v0 (lN 294)).bind fun r1 =>
    if r1 = (nI 0) then
      b_M_readLaw_184 v0 v2 (setI (setI s (sR s v0 21) (v2 + (nI 4)).toNatClampNeg (sI s v0 22)) (sR s v0 21) (v2 + (nI 5)).toNatClampNeg (sI (setI s (sR s v0 21) (v2 + (nI 4)).toNatClampNeg (sI s v0 22)) v0 22))
    else
      (f_M_onward (setI (setI s (sR s v0 21) (v2 + (nI 4)).toNatClampNeg (sI s v0 22)) (sR s v0 21) (v2 + (nI 5)).toNatClampNeg (sI (setI s (sR s v0 21) (v2 + (nI 4)).toNatClampNeg (sI s v0 22)) v0 22)) v0).bind fun r2 =>
      if sT r2 v0 = 13 then
      (f_M_readExpression r2 v0 (nI 1)).bind fun r3 =>
      b_M_readLaw_184 v0 v2 r3
      else none
  else
    b_M_readLaw_184 v0 v2 (setI (setI s (sR s v0 21) (v2 + (nI 4)).toNatClampNeg (sI s v0 22)) (sR s v0 21) (v2 + (nI 5)).toNatClampNeg (sI (setI s (sR s v0 21) (v2 + (nI 4)).toNatClampNeg (sI s v0 22)) v0 22))
  else none
  else none
  else none
theorem t_M_readLaw_134   {d1 d3 : Value} {v0 : Nat} {v2 : Int32} {s : AS} {o : AS} (h : b_M_readLaw_134  v0 v2 s = some o) : Ev 7 mZ159 134 [.ref v0, d1, .int v2, d3] [] s (none, o) := by
  unfold b_M_readLaw_134 at h
  refine gd h (fun g1 h => ?_)
  refine gd h (fun g2 h => ?_)
  refine gd h (fun g3 h => ?_)
  refine Ev_blk 19 (pc' := if (sI (setI (setI s (sR s v0 21) (v2 + (nI 4)).toNatClampNeg (sI s v0 22)) (sR s v0 21) (v2 + (nI 5)).toNatClampNeg (sI (setI s (sR s v0 21) (v2 + (nI 4)).toNatClampNeg (sI s v0 22)) v0 22)) v0 18) = (nI 0) then 165 else 184) (ls' := [.ref v0, d1, .int v2, d3]) (st' := []) (s' := setI (setI s (sR s v0 21) (v2 + (nI 4)).toNatClampNeg (sI s v0 22)) (sR s v0 21) (v2 + (nI 5)).toNatClampNeg (sI (setI s (sR s v0 21) (v2 + (nI 4)).toNatClampNeg (sI s v0 22)) v0 22)) rfl ⟨⟨⟨⟨⟨⟨⟨trivial, g1⟩, g1⟩, g2⟩, g1⟩, g1⟩, g3⟩, g1⟩ ?_
  refine ib h (fun c4 h => ?_) (fun c4 h => ?_)
  · refine Ev_blk 2 (pc' := 169) (ls' := [.ref v0, d1, .int v2, d3]) (st' := [.long (lN 294), .ref v0]) (s' := setI (setI s (sR s v0 21) (v2 + (nI 4)).toNatClampNeg (sI s v0 22)) (sR s v0 21) (v2 + (nI 5)).toNatClampNeg (sI (setI s (sR s v0 21) (v2 + (nI 4)).toNatClampNeg (sI s v0 22)) v0 22)) rfl trivial ?_
    refine bd h (fun r1 hr1 h => ?_)
    refine Ev_call 2 160 1 [.ref v0, .long (lN 294)] [] rfl rfl rfl rfl g1 rfl rfl (Nat.le_of_ble_eq_true rfl) (t_M_isWord hr1) ?_
    refine Ev_blk 1 (pc' := if r1 = (nI 0) then 184 else 175) (ls' := [.ref v0, d1, .int v2, d3]) (st' := []) (s' := setI (setI s (sR s v0 21) (v2 + (nI 4)).toNatClampNeg (sI s v0 22)) (sR s v0 21) (v2 + (nI 5)).toNatClampNeg (sI (setI s (sR s v0 21) (v2 + (nI 4)).toNatClampNeg (sI s v0 22)) v0 22)) rfl trivial ?_
    refine ib h (fun c5 h => ?_) (fun c5 h => ?_)
    · exact t_M_readLaw_184 h
    · refine Ev_blk 1 (pc' := 176) (ls' := [.ref v0, d1, .int v2, d3]) (st' := [.ref v0]) (s' := setI (setI s (sR s v0 21) (v2 + (nI 4)).toNatClampNeg (sI s v0 22)) (sR s v0 21) (v2 + (nI 5)).toNatClampNeg (sI (setI s (sR s v0 21) (v2 + (nI 4)).toNatClampNeg (sI s v0 22)) v0 22)) rfl trivial ?_
      refine bd h (fun r2 hr2 h => ?_)
      refine Ev_call 2 156 0 [.ref v0] [] rfl rfl rfl rfl g1 rfl rfl (Nat.le_of_ble_eq_true rfl) (t_M_onward hr2) ?_
      refine gd h (fun g6 h => ?_)
      refine Ev_blk 2 (pc' := 181) (ls' := [.ref v0, d1, .int v2, d3]) (st' := [.int (nI 1), .ref v0]) (s' := r2) rfl trivial ?_
      refine bd h (fun r3 hr3 h => ?_)
      refine Ev_call 2 162 1 [.ref v0, .int (nI 1)] [] rfl rfl rfl rfl g6 rfl rfl (Nat.le_of_ble_eq_true rfl) (t_M_readExpression hr3) ?_
      exact t_M_readLaw_184 h
  · exact t_M_readLaw_184 h
def b_M_readLaw_75 (k75 : Nat → Int32 → Int32 → Int32 → AS → Option AS) (v0 : Nat) (v1 : Int32) (v2 : Int32) (v3 : Int32) (s : AS) : Option AS :=
  if v3 < (nI 8) then
    if sT s v0 = 13 then
    if sT s (sR s v0 21) = 20 ∧ inA (v2 + v3) (sN s (sR s v0 21)) then
    k75 v0 v1 v2 (v3 + nI 1) (setI s (sR s v0 21) (v2 + v3).toNatClampNeg (nI 0))
    else none
    else none
  else
    if sT s v0 = 13 then
    if sT s (sR s v0 21) = 20 ∧ inA v2 (sN s (sR s v0 21)) then
    if sT s (sR s v0 21) = 20 ∧ inA (v2 + (nI 3)) (sN s (sR s v0 21)) then
    if v1 = (nI 0) then
      (f_M_readExpression (setI (setI (setI s (sR s v0 21) v2.toNatClampNeg v1) v0 20 ((sI (setI s (sR s v0 21) v2.toNatClampNeg v1) v0 20) + (nI 1))) (sR s v0 21) (v2 + (nI 3)).toNatClampNeg (sI (setI (setI s (sR s v0 21) v2.toNatClampNeg v1) v0 20 ((sI (setI s (sR s v0 21) v2.toNatClampNeg v1) v0 20) + (nI 1))) v0 22)) v0 (nI 0)).bind fun r1 =>
      b_M_readLaw_134 v0 v2 r1
    else
      b_M_readLaw_134 v0 v2 (setI (setI (setI s (sR s v0 21) v2.toNatClampNeg v1) v0 20 ((sI (setI s (sR s v0 21) v2.toNatClampNeg v1) v0 20) + (nI 1))) (sR s v0 21) (v2 + (nI 3)).toNatClampNeg (sI (setI (setI s (sR s v0 21) v2.toNatClampNeg v1) v0 20 ((sI (setI s (sR s v0 21) v2.toNatClampNeg v1) v0 20) + (nI 1))) v0 22))
    else none
    else none
    else none
theorem t_M_readLaw_75 {k75 : Nat → Int32 → Int32 → Int32 → AS → Option AS} (H75 : ∀ {v0 : Nat} {v1 : Int32} {v2 : Int32} {v3 : Int32} {s : AS} {o : AS}, k75 v0 v1 v2 v3 s = some o → Ev 7 mZ159 75 [.ref v0, .int v1, .int v2, .int v3] [] s (none, o))  {v0 : Nat} {v1 : Int32} {v2 : Int32} {v3 : Int32} {s : AS} {o : AS} (h : b_M_readLaw_75 k75 v0 v1 v2 v3 s = some o) : Ev 7 mZ159 75 [.ref v0, .int v1, .int v2, .int v3] [] s (none, o) := by
  unfold b_M_readLaw_75 at h
  refine Ev_blk 3 (pc' := if v3 < (nI 8) then 81 else 96) (ls' := [.ref v0, .int v1, .int v2, .int v3]) (st' := []) (s' := s) rfl trivial ?_
  refine ib h (fun c1 h => ?_) (fun c1 h => ?_)
  · refine gd h (fun g2 h => ?_)
    refine gd h (fun g3 h => ?_)
    refine Ev_blk 9 (pc' := 75) (ls' := [.ref v0, .int v1, .int v2, .int (v3 + nI 1)]) (st' := []) (s' := setI s (sR s v0 21) (v2 + v3).toNatClampNeg (nI 0)) rfl ⟨⟨trivial, g2⟩, g3⟩ ?_
    exact H75 h
  · refine gd h (fun g4 h => ?_)
    refine gd h (fun g5 h => ?_)
    refine gd h (fun g6 h => ?_)
    refine Ev_blk 21 (pc' := if v1 = (nI 0) then 129 else 134) (ls' := [.ref v0, .int v1, .int v2, .int v3]) (st' := []) (s' := setI (setI (setI s (sR s v0 21) v2.toNatClampNeg v1) v0 20 ((sI (setI s (sR s v0 21) v2.toNatClampNeg v1) v0 20) + (nI 1))) (sR s v0 21) (v2 + (nI 3)).toNatClampNeg (sI (setI (setI s (sR s v0 21) v2.toNatClampNeg v1) v0 20 ((sI (setI s (sR s v0 21) v2.toNatClampNeg v1) v0 20) + (nI 1))) v0 22)) rfl ⟨⟨⟨⟨⟨⟨⟨trivial, g4⟩, g5⟩, g4⟩, g4⟩, g4⟩, g4⟩, g6⟩ ?_
    refine ib h (fun c7 h => ?_) (fun c7 h => ?_)
    · refine Ev_blk 2 (pc' := 131) (ls' := [.ref v0, .int v1, .int v2, .int v3]) (st' := [.int (nI 0), .ref v0]) (s' := setI (setI (setI s (sR s v0 21) v2.toNatClampNeg v1) v0 20 ((sI (setI s (sR s v0 21) v2.toNatClampNeg v1) v0 20) + (nI 1))) (sR s v0 21) (v2 + (nI 3)).toNatClampNeg (sI (setI (setI s (sR s v0 21) v2.toNatClampNeg v1) v0 20 ((sI (setI s (sR s v0 21) v2.toNatClampNeg v1) v0 20) + (nI 1))) v0 22)) rfl trivial ?_
      refine bd h (fun r1 hr1 h => ?_)
      refine Ev_call 2 162 1 [.ref v0, .int (nI 0)] [] rfl rfl rfl rfl g4 rfl rfl (Nat.le_of_ble_eq_true rfl) (t_M_readExpression hr1) ?_
      exact t_M_readLaw_134 h
    · exact t_M_readLaw_134 h
def l_M_readLaw_75  : Nat → Nat → Int32 → Int32 → Int32 → AS → Option AS
  | 0 => fun _ _ _ _ _ => none
  | n + 1 => b_M_readLaw_75  (l_M_readLaw_75  n)
theorem u_M_readLaw_75   {n : Nat} : ∀  {v0 : Nat} {v1 : Int32} {v2 : Int32} {v3 : Int32} {s : AS} {o : AS}, l_M_readLaw_75  n v0 v1 v2 v3 s = some o → Ev 7 mZ159 75 [.ref v0, .int v1, .int v2, .int v3] [] s (none, o) := by
  induction n with
  | zero => intros; rename_i h; cases h
  | succ n ih => intros; rename_i h; exact t_M_readLaw_75  (fun h => ih h) h
def b_M_readLaw_54  (v0 : Nat) (v1 : Int32) (w0 : Int32) (w1 : Nat) (s : AS) : Option AS :=
  if sT s w1 = 13 then
  (f_M_must s w1 w0).bind fun r1 =>
  if sT r1 v0 = 13 then
  if (sI r1 v0 18) = (nI 0) then
    l_M_readLaw_75 fuel v0 v1 ((nI 8) * (sI r1 v0 20)) (nI 0) r1
  else
    some r1
  else none
  else none
theorem t_M_readLaw_54   {d2 d3 : Value} {v0 : Nat} {v1 : Int32} {w0 : Int32} {w1 : Nat} {s : AS} {o : AS} (h : b_M_readLaw_54  v0 v1 w0 w1 s = some o) : Ev 7 mZ159 54 [.ref v0, .int v1, d2, d3] [.int w0, .ref w1] s (none, o) := by
  unfold b_M_readLaw_54 at h
  refine gd h (fun g1 h => ?_)
  refine bd h (fun r1 hr1 h => ?_)
  refine Ev_call 2 161 1 [.ref w1, .int w0] [] rfl rfl rfl rfl g1 rfl rfl (Nat.le_of_ble_eq_true rfl) (t_M_must hr1) ?_
  refine gd h (fun g2 h => ?_)
  refine Ev_blk 3 (pc' := if (sI r1 v0 18) = (nI 0) then 65 else 64) (ls' := [.ref v0, .int v1, d2, d3]) (st' := []) (s' := r1) rfl ⟨trivial, g2⟩ ?_
  refine ib h (fun c3 h => ?_) (fun c3 h => ?_)
  · refine Ev_blk 7 (pc' := 75) (ls' := [.ref v0, .int v1, .int ((nI 8) * (sI r1 v0 20)), .int (nI 0)]) (st' := []) (s' := r1) rfl ⟨trivial, g2⟩ ?_
    exact u_M_readLaw_75 h
  · cases h
    exact Ev_ret rfl trivial
def b_M_readLaw_53  (v0 : Nat) (v1 : Int32) (w0 : Nat) (s : AS) : Option AS :=
  b_M_readLaw_54 v0 v1 (nI 0) w0 s
theorem t_M_readLaw_53   {d2 d3 : Value} {v0 : Nat} {v1 : Int32} {w0 : Nat} {s : AS} {o : AS} (h : b_M_readLaw_53  v0 v1 w0 s = some o) : Ev 7 mZ159 53 [.ref v0, .int v1, d2, d3] [.ref w0] s (none, o) := by
  unfold b_M_readLaw_53 at h
  refine Ev_blk 1 (pc' := 54) (ls' := [.ref v0, .int v1, d2, d3]) (st' := [.int (nI 0), .ref w0]) (s' := s) rfl trivial ?_
  exact t_M_readLaw_54 h
def b_M_readLaw_4 (k4 : Nat → Int32 → Int32 → AS → Option AS) (v0 : Nat) (v1 : Int32) (v2 : Int32) (s : AS) : Option AS :=
  if v2 < (nI 2) then
    if sT s v0 = 13 then
    if sT s (sR s v0 32) = 21 ∧ inA v2 (sN s (sR s v0 32)) then
    (f_M_isWord s v0 (sL s (sR s v0 32) v2.toNatClampNeg)).bind fun r1 =>
      k4 v0 (if r1 = (nI 0) then v1 else v2) (v2 + nI 1) s
    else none
    else none
  else
    if v1 = (-(nI 1)) then
      b_M_readLaw_53 v0 v1 v0 s
    else
      if sT s v0 = 13 then
        b_M_readLaw_54 v0 v1 (if (sI s v0 20) < (nI 12) then nI 1 else nI 0) v0 s
      else none
theorem t_M_readLaw_4 {k4 : Nat → Int32 → Int32 → AS → Option AS} (H4 : ∀ {d3 : Value} {v0 : Nat} {v1 : Int32} {v2 : Int32} {s : AS} {o : AS}, k4 v0 v1 v2 s = some o → Ev 7 mZ159 4 [.ref v0, .int v1, .int v2, d3] [] s (none, o)) {d3 : Value} {v0 : Nat} {v1 : Int32} {v2 : Int32} {s : AS} {o : AS} (h : b_M_readLaw_4 k4 v0 v1 v2 s = some o) : Ev 7 mZ159 4 [.ref v0, .int v1, .int v2, d3] [] s (none, o) := by
  unfold b_M_readLaw_4 at h
  refine Ev_blk 3 (pc' := if v2 < (nI 2) then 9 else 34) (ls' := [.ref v0, .int v1, .int v2, d3]) (st' := []) (s' := s) rfl trivial ?_
  refine ib h (fun c1 h => ?_) (fun c1 h => ?_)
  · refine gd h (fun g2 h => ?_)
    refine gd h (fun g3 h => ?_)
    refine Ev_blk 5 (pc' := 16) (ls' := [.ref v0, .int v1, .int v2, d3]) (st' := [.long (sL s (sR s v0 32) v2.toNatClampNeg), .ref v0]) (s' := s) rfl ⟨⟨trivial, g2⟩, g3⟩ ?_
    refine bd h (fun r1 hr1 h => ?_)
    refine Ev_call 2 160 1 [.ref v0, .long (sL s (sR s v0 32) v2.toNatClampNeg)] [] rfl rfl rfl rfl g2 rfl rfl (Nat.le_of_ble_eq_true rfl) (t_M_isWord hr1) ?_
    refine Ev_blk 1 (pc' := if r1 = (nI 0) then 26 else 22) (ls' := [.ref v0, .int v1, .int v2, d3]) (st' := []) (s' := s) rfl trivial ?_
    have k4_ : Ev 7 mZ159 27 [.ref v0, .int v1, .int v2, d3] [.int (if r1 = (nI 0) then v1 else v2)] s (none, o) := by
      refine Ev_blk 3 (pc' := 4) (ls' := [.ref v0, .int (if r1 = (nI 0) then v1 else v2), .int (v2 + nI 1), d3]) (st' := []) (s' := s) rfl trivial ?_
      exact H4 h
    refine icases (fun c5 => ?_) (fun c5 => ?_)
    · exact Ev_blk 1 (pc' := 27) (ls' := [.ref v0, .int v1, .int v2, d3]) (st' := [.int v1]) (s' := s) rfl trivial (by simpa only [if_pos c5] using k4_)
    · exact Ev_blk 2 (pc' := 27) (ls' := [.ref v0, .int v1, .int v2, d3]) (st' := [.int v2]) (s' := s) rfl trivial (by simpa only [if_neg c5] using k4_)
  · refine Ev_blk 4 (pc' := if v1 = (-(nI 1)) then 53 else 40) (ls' := [.ref v0, .int v1, .int v2, d3]) (st' := [.ref v0]) (s' := s) rfl trivial ?_
    refine ib h (fun c6 h => ?_) (fun c6 h => ?_)
    · exact t_M_readLaw_53 h
    · refine gd h (fun g7 h => ?_)
      refine Ev_blk 4 (pc' := if (sI s v0 20) < (nI 12) then 49 else 53) (ls' := [.ref v0, .int v1, .int v2, d3]) (st' := [.ref v0]) (s' := s) rfl ⟨trivial, g7⟩ ?_
      have k8_ : Ev 7 mZ159 54 [.ref v0, .int v1, .int v2, d3] [.int (if (sI s v0 20) < (nI 12) then nI 1 else nI 0), .ref v0] s (none, o) := by
        exact t_M_readLaw_54 h
      refine icases (fun c9 => ?_) (fun c9 => ?_)
      · exact Ev_blk 2 (pc' := 54) (ls' := [.ref v0, .int v1, .int v2, d3]) (st' := [.int (nI 1), .ref v0]) (s' := s) rfl trivial (by simpa only [if_pos c9] using k8_)
      · exact Ev_blk 1 (pc' := 54) (ls' := [.ref v0, .int v1, .int v2, d3]) (st' := [.int (nI 0), .ref v0]) (s' := s) rfl trivial (by simpa only [if_neg c9] using k8_)
def l_M_readLaw_4  : Nat → Nat → Int32 → Int32 → AS → Option AS
  | 0 => fun _ _ _ _ => none
  | n + 1 => b_M_readLaw_4  (l_M_readLaw_4  n)
theorem u_M_readLaw_4   {n : Nat} : ∀ {d3 : Value} {v0 : Nat} {v1 : Int32} {v2 : Int32} {s : AS} {o : AS}, l_M_readLaw_4  n v0 v1 v2 s = some o → Ev 7 mZ159 4 [.ref v0, .int v1, .int v2, d3] [] s (none, o) := by
  induction n with
  | zero => intros; rename_i h; cases h
  | succ n ih => intros; rename_i h; exact t_M_readLaw_4  (fun h => ih h) h
/-- RecordHeapModel.readLaw()V -/
def f_M_readLaw (s : AS) (a0 : Nat) : Option AS :=
  l_M_readLaw_4 fuel a0 (-(nI 1)) (nI 0) s
theorem t_M_readLaw {s : AS} {a0 : Nat} {o : AS} (h : f_M_readLaw s a0 = some o) : Ev 7 mZ159 0 [.ref a0, .retAddr 0, .retAddr 0, .retAddr 0] [] s (none, o) := by
  unfold f_M_readLaw at h
  refine Ev_blk 4 (pc' := 4) (ls' := [.ref a0, .int (-(nI 1)), .int (nI 0), .retAddr 0]) (st' := []) (s' := s) rfl trivial ?_
  exact u_M_readLaw_4 h

/-- RecordHeapModel.endText()V -/
def f_M_endText (s : AS) (a0 : Nat) : Option AS :=
  if sT s a0 = 13 then
  if (sI s a0 18) = (nI 0) then
    if (sI s a0 15) = (nI 0) then
      if sT s a0 = 13 ∧ ((nI 0) = nI 0 ∨ (nI 0) = nI 1) then
      some (setI (setI s a0 19 (nI 0)) a0 12 (nI 0))
      else none
    else
      (f_M_must s a0 (nI 0)).bind fun r1 =>
      if sT r1 a0 = 13 ∧ ((nI 0) = nI 0 ∨ (nI 0) = nI 1) then
      if sT r1 a0 = 13 then
      some (setI (setI r1 a0 19 (nI 0)) a0 12 (nI 0))
      else none
      else none
  else
    if sT s a0 = 13 ∧ ((nI 0) = nI 0 ∨ (nI 0) = nI 1) then
    some (setI (setI s a0 19 (nI 0)) a0 12 (nI 0))
    else none
  else none
theorem t_M_endText {s : AS} {a0 : Nat} {o : AS} (h : f_M_endText s a0 = some o) : Ev 3 mZ179 0 [.ref a0] [] s (none, o) := by
  unfold f_M_endText at h
  refine gd h (fun g1 h => ?_)
  refine Ev_blk 3 (pc' := if (sI s a0 18) = (nI 0) then 7 else 19) (ls' := [.ref a0]) (st' := []) (s' := s) rfl ⟨trivial, g1⟩ ?_
  refine ib h (fun c2 h => ?_) (fun c2 h => ?_)
  · refine Ev_blk 3 (pc' := if (sI s a0 15) = (nI 0) then 19 else 14) (ls' := [.ref a0]) (st' := []) (s' := s) rfl ⟨trivial, g1⟩ ?_
    refine ib h (fun c3 h => ?_) (fun c3 h => ?_)
    · refine gd h (fun g4 h => ?_)
      refine Ev_blk 6 (pc' := 29) (ls' := [.ref a0]) (st' := []) (s' := setI (setI s a0 19 (nI 0)) a0 12 (nI 0)) rfl ⟨⟨trivial, g4⟩, g1⟩ ?_
      cases h
      exact Ev_ret rfl trivial
    · refine Ev_blk 2 (pc' := 16) (ls' := [.ref a0]) (st' := [.int (nI 0), .ref a0]) (s' := s) rfl trivial ?_
      refine bd h (fun r1 hr1 h => ?_)
      refine Ev_call 2 161 1 [.ref a0, .int (nI 0)] [] rfl rfl rfl rfl g1 rfl rfl (Nat.le_of_ble_eq_true rfl) (t_M_must hr1) ?_
      refine gd h (fun g5 h => ?_)
      refine gd h (fun g6 h => ?_)
      refine Ev_blk 6 (pc' := 29) (ls' := [.ref a0]) (st' := []) (s' := setI (setI r1 a0 19 (nI 0)) a0 12 (nI 0)) rfl ⟨⟨trivial, g5⟩, g6⟩ ?_
      cases h
      exact Ev_ret rfl trivial
  · refine gd h (fun g7 h => ?_)
    refine Ev_blk 6 (pc' := 29) (ls' := [.ref a0]) (st' := []) (s' := setI (setI s a0 19 (nI 0)) a0 12 (nI 0)) rfl ⟨⟨trivial, g7⟩, g1⟩ ?_
    cases h
    exact Ev_ret rfl trivial

def b_M_law_146 (k146 : Nat → Int32 → Int32 → AS → Option (Int32 × AS)) (v0 : Nat) (v1 : Int32) (v2 : Int32) (s : AS) : Option (Int32 × AS) :=
  if sT s v0 = 13 then
  if v2 < (sI s v0 22) then
    if sT s (sR s v0 23) = 20 ∧ inA v2 (sN s (sR s v0 23)) then
    if sT s (sR s v0 3) = 20 ∧ inA ((v1 + (nI 98)) + ((nI 2) * v2)) (sN s (sR s v0 3)) then
    if sT s (sR s v0 24) = 20 ∧ inA v2 (sN s (sR s v0 24)) then
    if sT s (sR s v0 3) = 20 ∧ inA (((v1 + (nI 98)) + ((nI 2) * v2)) + (nI 1)) (sN s (sR s v0 3)) then
    k146 v0 v1 (v2 + nI 1) (setI (setI s (sR s v0 3) ((v1 + (nI 98)) + ((nI 2) * v2)).toNatClampNeg (sI s (sR s v0 23) v2.toNatClampNeg)) (sR s v0 3) (((v1 + (nI 98)) + ((nI 2) * v2)) + (nI 1)).toNatClampNeg (sI (setI s (sR s v0 3) ((v1 + (nI 98)) + ((nI 2) * v2)).toNatClampNeg (sI s (sR s v0 23) v2.toNatClampNeg)) (sR s v0 24) v2.toNatClampNeg))
    else none
    else none
    else none
    else none
  else
    if sT s (sR s v0 3) = 20 ∧ inA (nI 0) (sN s (sR s v0 3)) then
    (f_M_tell (setI s (sR s v0 3) (nI 0).toNatClampNeg ((sI s (sR s v0 3) (nI 0).toNatClampNeg) + (nI 1))) v0 ((sI (setI s (sR s v0 3) (nI 0).toNatClampNeg ((sI s (sR s v0 3) (nI 0).toNatClampNeg) + (nI 1))) (sR s v0 3) (nI 0).toNatClampNeg) - (nI 1))).bind fun r1 =>
    some (r1.1, r1.2)
    else none
  else none
theorem t_M_law_146 {k146 : Nat → Int32 → Int32 → AS → Option (Int32 × AS)} (H146 : ∀ {v0 : Nat} {v1 : Int32} {v2 : Int32} {s : AS} {o : Int32 × AS}, k146 v0 v1 v2 s = some o → Ev 8 mZ153 146 [.ref v0, .int v1, .int v2] [] s (some (.int o.1), o.2))  {v0 : Nat} {v1 : Int32} {v2 : Int32} {s : AS} {o : Int32 × AS} (h : b_M_law_146 k146 v0 v1 v2 s = some o) : Ev 8 mZ153 146 [.ref v0, .int v1, .int v2] [] s (some (.int o.1), o.2) := by
  unfold b_M_law_146 at h
  refine gd h (fun g1 h => ?_)
  refine Ev_blk 4 (pc' := if v2 < (sI s v0 22) then 154 else 200) (ls' := [.ref v0, .int v1, .int v2]) (st' := []) (s' := s) rfl ⟨trivial, g1⟩ ?_
  refine ib h (fun c2 h => ?_) (fun c2 h => ?_)
  · refine gd h (fun g3 h => ?_)
    refine gd h (fun g4 h => ?_)
    refine gd h (fun g5 h => ?_)
    refine gd h (fun g6 h => ?_)
    refine Ev_blk 32 (pc' := 146) (ls' := [.ref v0, .int v1, .int (v2 + nI 1)]) (st' := []) (s' := setI (setI s (sR s v0 3) ((v1 + (nI 98)) + ((nI 2) * v2)).toNatClampNeg (sI s (sR s v0 23) v2.toNatClampNeg)) (sR s v0 3) (((v1 + (nI 98)) + ((nI 2) * v2)) + (nI 1)).toNatClampNeg (sI (setI s (sR s v0 3) ((v1 + (nI 98)) + ((nI 2) * v2)).toNatClampNeg (sI s (sR s v0 23) v2.toNatClampNeg)) (sR s v0 24) v2.toNatClampNeg)) rfl ⟨⟨⟨⟨⟨⟨⟨⟨trivial, g1⟩, g1⟩, ⟨Or.inl g3.1, g3.2⟩⟩, g4⟩, g1⟩, g1⟩, ⟨Or.inl g5.1, g5.2⟩⟩, g6⟩ ?_
    exact H146 h
  · refine gd h (fun g7 h => ?_)
    refine Ev_blk 15 (pc' := 219) (ls' := [.ref v0, .int v1, .int v2]) (st' := [.int ((sI (setI s (sR s v0 3) (nI 0).toNatClampNeg ((sI s (sR s v0 3) (nI 0).toNatClampNeg) + (nI 1))) (sR s v0 3) (nI 0).toNatClampNeg) - (nI 1)), .ref v0]) (s' := setI s (sR s v0 3) (nI 0).toNatClampNeg ((sI s (sR s v0 3) (nI 0).toNatClampNeg) + (nI 1))) rfl ⟨⟨⟨⟨⟨trivial, g1⟩, ⟨Or.inl g7.1, g7.2⟩⟩, g7⟩, g1⟩, ⟨Or.inl g7.1, g7.2⟩⟩ ?_
    refine bd h (fun r1 hr1 h => ?_)
    refine Ev_call 2 142 1 [.ref v0, .int ((sI (setI s (sR s v0 3) (nI 0).toNatClampNeg ((sI s (sR s v0 3) (nI 0).toNatClampNeg) + (nI 1))) (sR s v0 3) (nI 0).toNatClampNeg) - (nI 1))] [] rfl rfl rfl rfl g1 rfl rfl (Nat.le_of_ble_eq_true rfl) (t_M_tell hr1) ?_
    cases h
    exact Ev_ret rfl trivial
def l_M_law_146  : Nat → Nat → Int32 → Int32 → AS → Option (Int32 × AS)
  | 0 => fun _ _ _ _ => none
  | n + 1 => b_M_law_146  (l_M_law_146  n)
theorem u_M_law_146   {n : Nat} : ∀  {v0 : Nat} {v1 : Int32} {v2 : Int32} {s : AS} {o : Int32 × AS}, l_M_law_146  n v0 v1 v2 s = some o → Ev 8 mZ153 146 [.ref v0, .int v1, .int v2] [] s (some (.int o.1), o.2) := by
  induction n with
  | zero => intros; rename_i h; cases h
  | succ n ih => intros; rename_i h; exact t_M_law_146  (fun h => ih h) h
def b_M_law_111 (k111 : Nat → Int32 → Int32 → AS → Option (Int32 × AS)) (v0 : Nat) (v1 : Int32) (v2 : Int32) (s : AS) : Option (Int32 × AS) :=
  if sT s v0 = 13 then
  if v2 < ((nI 8) * (sI s v0 20)) then
    if sT s (sR s v0 21) = 20 ∧ inA v2 (sN s (sR s v0 21)) then
    if sT s (sR s v0 3) = 20 ∧ inA ((v1 + (nI 2)) + v2) (sN s (sR s v0 3)) then
    k111 v0 v1 (v2 + nI 1) (setI s (sR s v0 3) ((v1 + (nI 2)) + v2).toNatClampNeg (sI s (sR s v0 21) v2.toNatClampNeg))
    else none
    else none
  else
    l_M_law_146 fuel v0 v1 (nI 0) s
  else none
theorem t_M_law_111 {k111 : Nat → Int32 → Int32 → AS → Option (Int32 × AS)} (H111 : ∀ {v0 : Nat} {v1 : Int32} {v2 : Int32} {s : AS} {o : Int32 × AS}, k111 v0 v1 v2 s = some o → Ev 8 mZ153 111 [.ref v0, .int v1, .int v2] [] s (some (.int o.1), o.2))  {v0 : Nat} {v1 : Int32} {v2 : Int32} {s : AS} {o : Int32 × AS} (h : b_M_law_111 k111 v0 v1 v2 s = some o) : Ev 8 mZ153 111 [.ref v0, .int v1, .int v2] [] s (some (.int o.1), o.2) := by
  unfold b_M_law_111 at h
  refine gd h (fun g1 h => ?_)
  refine Ev_blk 6 (pc' := if v2 < ((nI 8) * (sI s v0 20)) then 122 else 144) (ls' := [.ref v0, .int v1, .int v2]) (st' := []) (s' := s) rfl ⟨trivial, g1⟩ ?_
  refine ib h (fun c2 h => ?_) (fun c2 h => ?_)
  · refine gd h (fun g3 h => ?_)
    refine gd h (fun g4 h => ?_)
    refine Ev_blk 14 (pc' := 111) (ls' := [.ref v0, .int v1, .int (v2 + nI 1)]) (st' := []) (s' := setI s (sR s v0 3) ((v1 + (nI 2)) + v2).toNatClampNeg (sI s (sR s v0 21) v2.toNatClampNeg)) rfl ⟨⟨⟨⟨trivial, g1⟩, g1⟩, ⟨Or.inl g3.1, g3.2⟩⟩, g4⟩ ?_
    exact H111 h
  · refine Ev_blk 2 (pc' := 146) (ls' := [.ref v0, .int v1, .int (nI 0)]) (st' := []) (s' := s) rfl trivial ?_
    exact u_M_law_146 h
def l_M_law_111  : Nat → Nat → Int32 → Int32 → AS → Option (Int32 × AS)
  | 0 => fun _ _ _ _ => none
  | n + 1 => b_M_law_111  (l_M_law_111  n)
theorem u_M_law_111   {n : Nat} : ∀  {v0 : Nat} {v1 : Int32} {v2 : Int32} {s : AS} {o : Int32 × AS}, l_M_law_111  n v0 v1 v2 s = some o → Ev 8 mZ153 111 [.ref v0, .int v1, .int v2] [] s (some (.int o.1), o.2) := by
  induction n with
  | zero => intros; rename_i h; cases h
  | succ n ih => intros; rename_i h; exact t_M_law_111  (fun h => ih h) h
def b_M_law_64  (v0 : Nat) (s : AS) : Option (Int32 × AS) :=
  if sT s v0 = 13 then
  (f_M_endText s v0).bind fun r1 =>
  if sT r1 v0 = 13 then
  if (sI r1 v0 18) = (nI 0) then
    if sT r1 (sR r1 v0 3) = 20 ∧ inA (nI 0) (sN r1 (sR r1 v0 3)) then
    if sT r1 (sR r1 v0 3) = 20 ∧ inA (((nI 821) + ((nI 900) * (sI r1 (sR r1 v0 3) (nI 0).toNatClampNeg))) + (nI 1)) (sN r1 (sR r1 v0 3)) then
    l_M_law_111 fuel v0 ((nI 821) + ((nI 900) * (sI r1 (sR r1 v0 3) (nI 0).toNatClampNeg))) (nI 0) (setI r1 (sR r1 v0 3) (((nI 821) + ((nI 900) * (sI r1 (sR r1 v0 3) (nI 0).toNatClampNeg))) + (nI 1)).toNatClampNeg (sI r1 v0 20))
    else none
    else none
  else
    (f_M_tell r1 v0 (-(nI 6))).bind fun r2 =>
    some (r2.1, r2.2)
  else none
  else none
theorem t_M_law_64   {d1 d2 : Value} {v0 : Nat} {s : AS} {o : Int32 × AS} (h : b_M_law_64  v0 s = some o) : Ev 8 mZ153 64 [.ref v0, d1, d2] [] s (some (.int o.1), o.2) := by
  unfold b_M_law_64 at h
  refine gd h (fun g1 h => ?_)
  refine Ev_blk 1 (pc' := 65) (ls' := [.ref v0, d1, d2]) (st' := [.ref v0]) (s' := s) rfl trivial ?_
  refine bd h (fun r1 hr1 h => ?_)
  refine Ev_call 2 179 0 [.ref v0] [] rfl rfl rfl rfl g1 rfl rfl (Nat.le_of_ble_eq_true rfl) (t_M_endText hr1) ?_
  refine gd h (fun g2 h => ?_)
  refine Ev_blk 3 (pc' := if (sI r1 v0 18) = (nI 0) then 82 else 75) (ls' := [.ref v0, d1, d2]) (st' := []) (s' := r1) rfl ⟨trivial, g2⟩ ?_
  refine ib h (fun c3 h => ?_) (fun c3 h => ?_)
  · refine gd h (fun g4 h => ?_)
    refine gd h (fun g5 h => ?_)
    refine Ev_blk 19 (pc' := 111) (ls' := [.ref v0, .int ((nI 821) + ((nI 900) * (sI r1 (sR r1 v0 3) (nI 0).toNatClampNeg))), .int (nI 0)]) (st' := []) (s' := setI r1 (sR r1 v0 3) (((nI 821) + ((nI 900) * (sI r1 (sR r1 v0 3) (nI 0).toNatClampNeg))) + (nI 1)).toNatClampNeg (sI r1 v0 20)) rfl ⟨⟨⟨⟨⟨trivial, g2⟩, ⟨Or.inl g4.1, g4.2⟩⟩, g2⟩, g2⟩, g5⟩ ?_
    exact u_M_law_111 h
  · refine Ev_blk 2 (pc' := 78) (ls' := [.ref v0, d1, d2]) (st' := [.int (-(nI 6)), .ref v0]) (s' := r1) rfl trivial ?_
    refine bd h (fun r2 hr2 h => ?_)
    refine Ev_call 2 142 1 [.ref v0, .int (-(nI 6))] [] rfl rfl rfl rfl g2 rfl rfl (Nat.le_of_ble_eq_true rfl) (t_M_tell hr2) ?_
    cases h
    exact Ev_ret rfl trivial
def b_M_law_37 (k37 : Nat → AS → Option (Int32 × AS)) (v0 : Nat) (s : AS) : Option (Int32 × AS) :=
  if sT s v0 = 13 then
  if (sI s v0 18) = (nI 0) then
    (f_M_isSign s v0 (nI 59)).bind fun r1 =>
    if r1 = (nI 0) then
      b_M_law_64 v0 s
    else
      (f_M_onward s v0).bind fun r2 =>
      if sT r2 v0 = 13 then
      (f_M_readLaw r2 v0).bind fun r3 =>
      k37 v0 r3
      else none
  else
    b_M_law_64 v0 s
  else none
theorem t_M_law_37 {k37 : Nat → AS → Option (Int32 × AS)} (H37 : ∀ {d1 d2 : Value} {v0 : Nat} {s : AS} {o : Int32 × AS}, k37 v0 s = some o → Ev 8 mZ153 37 [.ref v0, d1, d2] [] s (some (.int o.1), o.2)) {d1 d2 : Value} {v0 : Nat} {s : AS} {o : Int32 × AS} (h : b_M_law_37 k37 v0 s = some o) : Ev 8 mZ153 37 [.ref v0, d1, d2] [] s (some (.int o.1), o.2) := by
  unfold b_M_law_37 at h
  refine gd h (fun g1 h => ?_)
  refine Ev_blk 3 (pc' := if (sI s v0 18) = (nI 0) then 44 else 64) (ls' := [.ref v0, d1, d2]) (st' := []) (s' := s) rfl ⟨trivial, g1⟩ ?_
  refine ib h (fun c2 h => ?_) (fun c2 h => ?_)
  · refine Ev_blk 2 (pc' := 47) (ls' := [.ref v0, d1, d2]) (st' := [.int (nI 59), .ref v0]) (s' := s) rfl trivial ?_
    refine bd h (fun r1 hr1 h => ?_)
    refine Ev_call 2 165 1 [.ref v0, .int (nI 59)] [] rfl rfl rfl rfl g1 rfl rfl (Nat.le_of_ble_eq_true rfl) (t_M_isSign hr1) ?_
    refine Ev_blk 1 (pc' := if r1 = (nI 0) then 64 else 53) (ls' := [.ref v0, d1, d2]) (st' := []) (s' := s) rfl trivial ?_
    refine ib h (fun c3 h => ?_) (fun c3 h => ?_)
    · exact t_M_law_64 h
    · refine Ev_blk 1 (pc' := 54) (ls' := [.ref v0, d1, d2]) (st' := [.ref v0]) (s' := s) rfl trivial ?_
      refine bd h (fun r2 hr2 h => ?_)
      refine Ev_call 2 156 0 [.ref v0] [] rfl rfl rfl rfl g1 rfl rfl (Nat.le_of_ble_eq_true rfl) (t_M_onward hr2) ?_
      refine gd h (fun g4 h => ?_)
      refine Ev_blk 1 (pc' := 58) (ls' := [.ref v0, d1, d2]) (st' := [.ref v0]) (s' := r2) rfl trivial ?_
      refine bd h (fun r3 hr3 h => ?_)
      refine Ev_call 2 159 0 [.ref v0] [] rfl rfl rfl rfl g4 rfl rfl (Nat.le_of_ble_eq_true rfl) (t_M_readLaw hr3) ?_
      refine Ev_blk 1 (pc' := 37) (ls' := [.ref v0, d1, d2]) (st' := []) (s' := r3) rfl trivial ?_
      exact H37 h
  · exact t_M_law_64 h
def l_M_law_37  : Nat → Nat → AS → Option (Int32 × AS)
  | 0 => fun _ _ => none
  | n + 1 => b_M_law_37  (l_M_law_37  n)
theorem u_M_law_37   {n : Nat} : ∀ {d1 d2 : Value} {v0 : Nat} {s : AS} {o : Int32 × AS}, l_M_law_37  n v0 s = some o → Ev 8 mZ153 37 [.ref v0, d1, d2] [] s (some (.int o.1), o.2) := by
  induction n with
  | zero => intros; rename_i h; cases h
  | succ n ih => intros; rename_i h; exact t_M_law_37  (fun h => ih h) h
/-- RecordHeapModel.law()I -/
def f_M_law (s : AS) (a0 : Nat) : Option (Int32 × AS) :=
  if sT s a0 = 13 then
  if sT s (sR s a0 3) = 20 ∧ inA (nI 0) (sN s (sR s a0 3)) then
  if (sI (setI s a0 0 (nI 0)) (sR s a0 3) (nI 0).toNatClampNeg) = (nI 6) then
    (f_M_tell (setI (setI s a0 0 (nI 0)) a0 12 (nI 0)) a0 (-(nI 5))).bind fun r1 =>
    some (r1.1, r1.2)
  else
    (f_M_beginText (setI s a0 0 (nI 0)) a0 (nI 0)).bind fun r2 =>
    if sT r2 a0 = 13 then
    (f_M_readLaw r2 a0).bind fun r3 =>
    l_M_law_37 fuel a0 r3
    else none
  else none
  else none
theorem t_M_law {s : AS} {a0 : Nat} {o : Int32 × AS} (h : f_M_law s a0 = some o) : Ev 8 mZ153 0 [.ref a0, .retAddr 0, .retAddr 0] [] s (some (.int o.1), o.2) := by
  unfold f_M_law at h
  refine gd h (fun g1 h => ?_)
  refine gd h (fun g2 h => ?_)
  refine Ev_blk 9 (pc' := if (sI (setI s a0 0 (nI 0)) (sR s a0 3) (nI 0).toNatClampNeg) = (nI 6) then 16 else 28) (ls' := [.ref a0, .retAddr 0, .retAddr 0]) (st' := []) (s' := setI s a0 0 (nI 0)) rfl ⟨⟨⟨trivial, g1⟩, g1⟩, ⟨Or.inl g2.1, g2.2⟩⟩ ?_
  refine ib h (fun c3 h => ?_) (fun c3 h => ?_)
  · refine Ev_blk 5 (pc' := 24) (ls' := [.ref a0, .retAddr 0, .retAddr 0]) (st' := [.int (-(nI 5)), .ref a0]) (s' := setI (setI s a0 0 (nI 0)) a0 12 (nI 0)) rfl ⟨trivial, g1⟩ ?_
    refine bd h (fun r1 hr1 h => ?_)
    refine Ev_call 2 142 1 [.ref a0, .int (-(nI 5))] [] rfl rfl rfl rfl g1 rfl rfl (Nat.le_of_ble_eq_true rfl) (t_M_tell hr1) ?_
    cases h
    exact Ev_ret rfl trivial
  · refine Ev_blk 2 (pc' := 30) (ls' := [.ref a0, .retAddr 0, .retAddr 0]) (st' := [.int (nI 0), .ref a0]) (s' := setI s a0 0 (nI 0)) rfl trivial ?_
    refine bd h (fun r2 hr2 h => ?_)
    refine Ev_call 2 154 1 [.ref a0, .int (nI 0)] [] rfl rfl rfl rfl g1 rfl rfl (Nat.le_of_ble_eq_true rfl) (t_M_beginText hr2) ?_
    refine gd h (fun g4 h => ?_)
    refine Ev_blk 1 (pc' := 34) (ls' := [.ref a0, .retAddr 0, .retAddr 0]) (st' := [.ref a0]) (s' := r2) rfl trivial ?_
    refine bd h (fun r3 hr3 h => ?_)
    refine Ev_call 2 159 0 [.ref a0] [] rfl rfl rfl rfl g4 rfl rfl (Nat.le_of_ble_eq_true rfl) (t_M_readLaw hr3) ?_
    exact u_M_law_37 h

/-- RecordHeapModel.isLaw(I)Z -/
def f_M_isLaw (s : AS) (a0 : Nat) (a1 : Int32) : Option Int32 :=
  if a1 = (-(nI 1)) then
    some (nI 1)
  else
    if sT s a0 = 13 then
    if sT s (sR s a0 3) = 20 ∧ inA (nI 0) (sN s (sR s a0 3)) then
    (f_M_in s a1.toInt64 (lN 0) (((sI s (sR s a0 3) (nI 0).toNatClampNeg).toInt64) - (lN 1))).bind fun r1 =>
      some (if r1 = (nI 0) then nI 0 else nI 1)
    else none
    else none
theorem t_M_isLaw {s : AS} {a0 : Nat} {a1 : Int32} {o : Int32} (h : f_M_isLaw s a0 a1 = some o) : Ev 1 mZ181 0 [.ref a0, .int a1] [] s (some (.int o), s) := by
  unfold f_M_isLaw at h
  refine Ev_blk 3 (pc' := if a1 = (-(nI 1)) then 23 else 5) (ls' := [.ref a0, .int a1]) (st' := []) (s' := s) rfl trivial ?_
  refine ib h (fun c1 h => ?_) (fun c1 h => ?_)
  · refine Ev_blk 2 (pc' := 28) (ls' := [.ref a0, .int a1]) (st' := [.int (nI 1)]) (s' := s) rfl trivial ?_
    cases h
    exact Ev_ret rfl (Or.inr rfl)
  · refine gd h (fun g2 h => ?_)
    refine gd h (fun g3 h => ?_)
    refine Ev_blk 10 (pc' := 17) (ls' := [.ref a0, .int a1]) (st' := [.long (((sI s (sR s a0 3) (nI 0).toNatClampNeg).toInt64) - (lN 1)), .long (lN 0), .long a1.toInt64]) (s' := s) rfl ⟨⟨trivial, g2⟩, ⟨Or.inl g3.1, g3.2⟩⟩ ?_
    refine bd h (fun r1 hr1 h => ?_)
    refine Ev_call 1 145 3 [.long a1.toInt64, .long (lN 0), .long (((sI s (sR s a0 3) (nI 0).toNatClampNeg).toInt64) - (lN 1))] [] rfl rfl rfl rfl trivial rfl rfl (Nat.le_of_ble_eq_true rfl) (t_M_in hr1) ?_
    refine Ev_blk 1 (pc' := if r1 = (nI 0) then 27 else 23) (ls' := [.ref a0, .int a1]) (st' := []) (s' := s) rfl trivial ?_
    have k4_ : Ev 1 mZ181 28 [.ref a0, .int a1] [.int (if r1 = (nI 0) then nI 0 else nI 1)] s (some (.int o), s) := by
      cases h
      exact Ev_ret rfl (by (repeat' split) <;> first | exact Or.inl rfl | exact Or.inr rfl)
    refine icases (fun c5 => ?_) (fun c5 => ?_)
    · exact Ev_blk 1 (pc' := 28) (ls' := [.ref a0, .int a1]) (st' := [.int (nI 0)]) (s' := s) rfl trivial (by simpa only [if_pos c5] using k4_)
    · exact Ev_blk 2 (pc' := 28) (ls' := [.ref a0, .int a1]) (st' := [.int (nI 1)]) (s' := s) rfl trivial (by simpa only [if_neg c5] using k4_)

/-- RecordHeapModel.force(I)I -/
def f_M_force (s : AS) (a0 : Nat) (a1 : Int32) : Option (Int32 × AS) :=
  if sT s a0 = 13 then
  (f_M_isLaw (setI s a0 0 (nI 0)) a0 a1).bind fun r1 =>
  if r1 = (nI 0) then
    (f_M_tell (setI s a0 0 (nI 0)) a0 (-(nI 2))).bind fun r2 =>
    some (r2.1, r2.2)
  else
    (f_M_change (setI s a0 0 (nI 0)) a0 (nI 1) a1).bind fun r3 =>
    some (r3.1, r3.2)
  else none
theorem t_M_force {s : AS} {a0 : Nat} {a1 : Int32} {o : Int32 × AS} (h : f_M_force s a0 a1 = some o) : Ev 2 mZ180 0 [.ref a0, .int a1] [] s (some (.int o.1), o.2) := by
  unfold f_M_force at h
  refine gd h (fun g1 h => ?_)
  refine Ev_blk 5 (pc' := 7) (ls' := [.ref a0, .int a1]) (st' := [.int a1, .ref a0]) (s' := setI s a0 0 (nI 0)) rfl ⟨trivial, g1⟩ ?_
  refine bd h (fun r1 hr1 h => ?_)
  refine Ev_call 2 181 1 [.ref a0, .int a1] [] rfl rfl rfl rfl g1 rfl rfl (Nat.le_of_ble_eq_true rfl) (t_M_isLaw hr1) ?_
  refine Ev_blk 1 (pc' := if r1 = (nI 0) then 22 else 13) (ls' := [.ref a0, .int a1]) (st' := []) (s' := setI s a0 0 (nI 0)) rfl trivial ?_
  refine ib h (fun c2 h => ?_) (fun c2 h => ?_)
  · refine Ev_blk 2 (pc' := 25) (ls' := [.ref a0, .int a1]) (st' := [.int (-(nI 2)), .ref a0]) (s' := setI s a0 0 (nI 0)) rfl trivial ?_
    refine bd h (fun r2 hr2 h => ?_)
    refine Ev_call 2 142 1 [.ref a0, .int (-(nI 2))] [] rfl rfl rfl rfl g1 rfl rfl (Nat.le_of_ble_eq_true rfl) (t_M_tell hr2) ?_
    cases h
    exact Ev_ret rfl trivial
  · refine Ev_blk 3 (pc' := 16) (ls' := [.ref a0, .int a1]) (st' := [.int a1, .int (nI 1), .ref a0]) (s' := setI s a0 0 (nI 0)) rfl trivial ?_
    refine bd h (fun r3 hr3 h => ?_)
    refine Ev_call 2 148 2 [.ref a0, .int (nI 1), .int a1] [] rfl rfl rfl rfl g1 rfl rfl (Nat.le_of_ble_eq_true rfl) (t_M_change hr3) ?_
    refine Ev_blk 1 (pc' := 28) (ls' := [.ref a0, .int a1]) (st' := [.int r3.1]) (s' := r3.2) rfl trivial ?_
    cases h
    exact Ev_ret rfl trivial

def b_M_bringTape_10 (k10 : Nat → Int32 → AS → Option AS) (v0 : Nat) (v1 : Int32) (s : AS) : Option AS :=
  if sT s v0 = 13 then
  if v1 < (sI s v0 12) then
    if v1 < (nI 200) then
      if sT s (sR s v0 11) = 20 ∧ inA v1 (sN s (sR s v0 11)) then
      if sT s (sR s v0 43) = 20 ∧ inA v1 (sN s (sR s v0 43)) then
      k10 v0 (v1 + nI 1) (setI s (sR s v0 43) v1.toNatClampNeg (sI s (sR s v0 11) v1.toNatClampNeg))
      else none
      else none
    else
      some (setI s v0 12 (nI 0))
  else
    some (setI s v0 12 (nI 0))
  else none
theorem t_M_bringTape_10 {k10 : Nat → Int32 → AS → Option AS} (H10 : ∀ {v0 : Nat} {v1 : Int32} {s : AS} {o : AS}, k10 v0 v1 s = some o → Ev 0 mZ183 10 [.ref v0, .int v1] [] s (none, o))  {v0 : Nat} {v1 : Int32} {s : AS} {o : AS} (h : b_M_bringTape_10 k10 v0 v1 s = some o) : Ev 0 mZ183 10 [.ref v0, .int v1] [] s (none, o) := by
  unfold b_M_bringTape_10 at h
  refine gd h (fun g1 h => ?_)
  refine Ev_blk 4 (pc' := if v1 < (sI s v0 12) then 18 else 43) (ls' := [.ref v0, .int v1]) (st' := []) (s' := s) rfl ⟨trivial, g1⟩ ?_
  refine ib h (fun c2 h => ?_) (fun c2 h => ?_)
  · refine Ev_blk 3 (pc' := if v1 < (nI 200) then 25 else 43) (ls' := [.ref v0, .int v1]) (st' := []) (s' := s) rfl trivial ?_
    refine ib h (fun c3 h => ?_) (fun c3 h => ?_)
    · refine gd h (fun g4 h => ?_)
      refine gd h (fun g5 h => ?_)
      refine Ev_blk 10 (pc' := 10) (ls' := [.ref v0, .int (v1 + nI 1)]) (st' := []) (s' := setI s (sR s v0 43) v1.toNatClampNeg (sI s (sR s v0 11) v1.toNatClampNeg)) rfl ⟨⟨⟨⟨trivial, g1⟩, g1⟩, ⟨Or.inl g4.1, g4.2⟩⟩, g5⟩ ?_
      exact H10 h
    · refine Ev_blk 3 (pc' := 48) (ls' := [.ref v0, .int v1]) (st' := []) (s' := setI s v0 12 (nI 0)) rfl ⟨trivial, g1⟩ ?_
      cases h
      exact Ev_ret rfl trivial
  · refine Ev_blk 3 (pc' := 48) (ls' := [.ref v0, .int v1]) (st' := []) (s' := setI s v0 12 (nI 0)) rfl ⟨trivial, g1⟩ ?_
    cases h
    exact Ev_ret rfl trivial
def l_M_bringTape_10  : Nat → Nat → Int32 → AS → Option AS
  | 0 => fun _ _ _ => none
  | n + 1 => b_M_bringTape_10  (l_M_bringTape_10  n)
theorem u_M_bringTape_10   {n : Nat} : ∀  {v0 : Nat} {v1 : Int32} {s : AS} {o : AS}, l_M_bringTape_10  n v0 v1 s = some o → Ev 0 mZ183 10 [.ref v0, .int v1] [] s (none, o) := by
  induction n with
  | zero => intros; rename_i h; cases h
  | succ n ih => intros; rename_i h; exact t_M_bringTape_10  (fun h => ih h) h
/-- RecordHeapModel.bringTape()V -/
def f_M_bringTape (s : AS) (a0 : Nat) : Option AS :=
  if sT s a0 = 13 then
  l_M_bringTape_10 fuel a0 (nI 0) (setI s a0 44 (sI s a0 12))
  else none
theorem t_M_bringTape {s : AS} {a0 : Nat} {o : AS} (h : f_M_bringTape s a0 = some o) : Ev 0 mZ183 0 [.ref a0, .retAddr 0] [] s (none, o) := by
  unfold f_M_bringTape at h
  refine gd h (fun g1 h => ?_)
  refine Ev_blk 6 (pc' := 10) (ls' := [.ref a0, .int (nI 0)]) (st' := []) (s' := setI s a0 44 (sI s a0 12)) rfl ⟨⟨trivial, g1⟩, g1⟩ ?_
  exact u_M_bringTape_10 h

def b_M_keepAll_2 (k2 : Nat → Int32 → Int32 → AS → Option AS) (v0 : Nat) (v1 : Int32) (v2 : Int32) (s : AS) : Option AS :=
  if v2 < (nI 816) then
    if sT s v0 = 13 then
    if sT s (sR s v0 3) = 20 ∧ inA ((nI 5) + v2) (sN s (sR s v0 3)) then
    if sT s (sR s v0 6) = 20 ∧ inA (((nI 816) * v1) + v2) (sN s (sR s v0 6)) then
    k2 v0 v1 (v2 + nI 1) (setI s (sR s v0 6) (((nI 816) * v1) + v2).toNatClampNeg (sI s (sR s v0 3) ((nI 5) + v2).toNatClampNeg))
    else none
    else none
    else none
  else
    some s
theorem t_M_keepAll_2 {k2 : Nat → Int32 → Int32 → AS → Option AS} (H2 : ∀ {v0 : Nat} {v1 : Int32} {v2 : Int32} {s : AS} {o : AS}, k2 v0 v1 v2 s = some o → Ev 0 mZ185 2 [.ref v0, .int v1, .int v2] [] s (none, o))  {v0 : Nat} {v1 : Int32} {v2 : Int32} {s : AS} {o : AS} (h : b_M_keepAll_2 k2 v0 v1 v2 s = some o) : Ev 0 mZ185 2 [.ref v0, .int v1, .int v2] [] s (none, o) := by
  unfold b_M_keepAll_2 at h
  refine Ev_blk 3 (pc' := if v2 < (nI 816) then 9 else 35) (ls' := [.ref v0, .int v1, .int v2]) (st' := []) (s' := s) rfl trivial ?_
  refine ib h (fun c1 h => ?_) (fun c1 h => ?_)
  · refine gd h (fun g2 h => ?_)
    refine gd h (fun g3 h => ?_)
    refine gd h (fun g4 h => ?_)
    refine Ev_blk 16 (pc' := 2) (ls' := [.ref v0, .int v1, .int (v2 + nI 1)]) (st' := []) (s' := setI s (sR s v0 6) (((nI 816) * v1) + v2).toNatClampNeg (sI s (sR s v0 3) ((nI 5) + v2).toNatClampNeg)) rfl ⟨⟨⟨⟨trivial, g2⟩, g2⟩, ⟨Or.inl g3.1, g3.2⟩⟩, g4⟩ ?_
    exact H2 h
  · cases h
    exact Ev_ret rfl trivial
def l_M_keepAll_2  : Nat → Nat → Int32 → Int32 → AS → Option AS
  | 0 => fun _ _ _ _ => none
  | n + 1 => b_M_keepAll_2  (l_M_keepAll_2  n)
theorem u_M_keepAll_2   {n : Nat} : ∀  {v0 : Nat} {v1 : Int32} {v2 : Int32} {s : AS} {o : AS}, l_M_keepAll_2  n v0 v1 v2 s = some o → Ev 0 mZ185 2 [.ref v0, .int v1, .int v2] [] s (none, o) := by
  induction n with
  | zero => intros; rename_i h; cases h
  | succ n ih => intros; rename_i h; exact t_M_keepAll_2  (fun h => ih h) h
/-- RecordHeapModel.keepAll(I)V -/
def f_M_keepAll (s : AS) (a0 : Nat) (a1 : Int32) : Option AS :=
  l_M_keepAll_2 fuel a0 a1 (nI 0) s
theorem t_M_keepAll {s : AS} {a0 : Nat} {a1 : Int32} {o : AS} (h : f_M_keepAll s a0 a1 = some o) : Ev 0 mZ185 0 [.ref a0, .int a1, .retAddr 0] [] s (none, o) := by
  unfold f_M_keepAll at h
  refine Ev_blk 2 (pc' := 2) (ls' := [.ref a0, .int a1, .int (nI 0)]) (st' := []) (s' := s) rfl trivial ?_
  exact u_M_keepAll_2 h

/-- RecordHeapModel.slotAt(II)I -/
def f_M_slotAt (s : AS) (a0 : Int32) (a1 : Int32) : Option Int32 :=
  (f_M_pageAt s a0).bind fun r1 =>
  some ((r1 + (nI 2)) + ((nI 3) * a1))
theorem t_M_slotAt {s : AS} {a0 : Int32} {a1 : Int32} {o : Int32} (h : f_M_slotAt s a0 a1 = some o) : Ev 1 mZ191 0 [.int a0, .int a1] [] s (some (.int o), s) := by
  unfold f_M_slotAt at h
  refine Ev_blk 1 (pc' := 1) (ls' := [.int a0, .int a1]) (st' := [.int a0]) (s' := s) rfl trivial ?_
  refine bd h (fun r1 hr1 h => ?_)
  refine Ev_call 1 140 1 [.int a0] [] rfl rfl rfl rfl trivial rfl rfl (Nat.le_of_ble_eq_true rfl) (t_M_pageAt hr1) ?_
  refine Ev_blk 6 (pc' := 10) (ls' := [.int a0, .int a1]) (st' := [.int ((r1 + (nI 2)) + ((nI 3) * a1))]) (s' := s) rfl trivial ?_
  cases h
  exact Ev_ret rfl trivial

/-- RecordHeapModel.kindOf(II)I -/
def f_M_kindOf (s : AS) (a0 : Nat) (a1 : Int32) (a2 : Int32) : Option Int32 :=
  if sT s a0 = 13 then
  (f_M_slotAt s a1 a2).bind fun r1 =>
  if sT s (sR s a0 3) = 20 ∧ inA (r1 + (nI 0)) (sN s (sR s a0 3)) then
  some (sI s (sR s a0 3) (r1 + (nI 0)).toNatClampNeg)
  else none
  else none
theorem t_M_kindOf {s : AS} {a0 : Nat} {a1 : Int32} {a2 : Int32} {o : Int32} (h : f_M_kindOf s a0 a1 a2 = some o) : Ev 2 mZ190 0 [.ref a0, .int a1, .int a2] [] s (some (.int o), s) := by
  unfold f_M_kindOf at h
  refine gd h (fun g1 h => ?_)
  refine Ev_blk 4 (pc' := 6) (ls' := [.ref a0, .int a1, .int a2]) (st' := [.int a2, .int a1, .ref (sR s a0 3)]) (s' := s) rfl ⟨trivial, g1⟩ ?_
  refine bd h (fun r1 hr1 h => ?_)
  refine Ev_call 1 191 2 [.int a1, .int a2] [.ref (sR s a0 3)] rfl rfl rfl rfl trivial rfl rfl (Nat.le_of_ble_eq_true rfl) (t_M_slotAt hr1) ?_
  refine gd h (fun g2 h => ?_)
  refine Ev_blk 3 (pc' := 12) (ls' := [.ref a0, .int a1, .int a2]) (st' := [.int (sI s (sR s a0 3) (r1 + (nI 0)).toNatClampNeg)]) (s' := s) rfl ⟨trivial, ⟨Or.inl g2.1, g2.2⟩⟩ ?_
  cases h
  exact Ev_ret rfl trivial

/-- RecordHeapModel.isKeptSlot(II)Z -/
def f_M_isKeptSlot (s : AS) (a0 : Nat) (a1 : Int32) (a2 : Int32) : Option Int32 :=
  if sT s a0 = 13 then
  if a1 = (sI s a0 41) then
      some (if a2 = (sI s a0 42) then nI 1 else nI 0)
  else
    some (nI 0)
  else none
theorem t_M_isKeptSlot {s : AS} {a0 : Nat} {a1 : Int32} {a2 : Int32} {o : Int32} (h : f_M_isKeptSlot s a0 a1 a2 = some o) : Ev 0 mZ192 0 [.ref a0, .int a1, .int a2] [] s (some (.int o), s) := by
  unfold f_M_isKeptSlot at h
  refine gd h (fun g1 h => ?_)
  refine Ev_blk 4 (pc' := if a1 = (sI s a0 41) then 8 else 20) (ls' := [.ref a0, .int a1, .int a2]) (st' := []) (s' := s) rfl ⟨trivial, g1⟩ ?_
  refine ib h (fun c2 h => ?_) (fun c2 h => ?_)
  · refine Ev_blk 4 (pc' := if a2 = (sI s a0 42) then 16 else 20) (ls' := [.ref a0, .int a1, .int a2]) (st' := []) (s' := s) rfl ⟨trivial, g1⟩ ?_
    have k3_ : Ev 0 mZ192 21 [.ref a0, .int a1, .int a2] [.int (if a2 = (sI s a0 42) then nI 1 else nI 0)] s (some (.int o), s) := by
      cases h
      exact Ev_ret rfl (by (repeat' split) <;> first | exact Or.inl rfl | exact Or.inr rfl)
    refine icases (fun c4 => ?_) (fun c4 => ?_)
    · exact Ev_blk 2 (pc' := 21) (ls' := [.ref a0, .int a1, .int a2]) (st' := [.int (nI 1)]) (s' := s) rfl trivial (by simpa only [if_pos c4] using k3_)
    · exact Ev_blk 1 (pc' := 21) (ls' := [.ref a0, .int a1, .int a2]) (st' := [.int (nI 0)]) (s' := s) rfl trivial (by simpa only [if_neg c4] using k3_)
  · refine Ev_blk 1 (pc' := 21) (ls' := [.ref a0, .int a1, .int a2]) (st' := [.int (nI 0)]) (s' := s) rfl trivial ?_
    cases h
    exact Ev_ret rfl (Or.inl rfl)

def b_M_slotFor_14 (s : AS) (k14 : Nat → Int32 → Int32 → Int32 → Option Int32) (v0 : Nat) (v1 : Int32) (v2 : Int32) (v3 : Int32) : Option Int32 :=
  if v3 < v2 then
    if sT s v0 = 13 then
    (f_M_kindOf s v0 v1 v3).bind fun r1 =>
    if r1 = (nI 0) then
      (f_M_isKeptSlot s v0 v1 v3).bind fun r2 =>
      if r2 = (nI 0) then
        some v3
      else
        k14 v0 v1 v2 (v3 + nI 1)
    else
      k14 v0 v1 v2 (v3 + nI 1)
    else none
  else
      some (if v2 < (nI 12) then v2 else -(nI 1))
theorem t_M_slotFor_14 {s : AS} {k14 : Nat → Int32 → Int32 → Int32 → Option Int32} (H14 : ∀ {v0 : Nat} {v1 : Int32} {v2 : Int32} {v3 : Int32} {o : Int32}, k14 v0 v1 v2 v3 = some o → Ev 3 mZ189 14 [.ref v0, .int v1, .int v2, .int v3] [] s (some (.int o), s))  {v0 : Nat} {v1 : Int32} {v2 : Int32} {v3 : Int32} {o : Int32} (h : b_M_slotFor_14 s k14 v0 v1 v2 v3 = some o) : Ev 3 mZ189 14 [.ref v0, .int v1, .int v2, .int v3] [] s (some (.int o), s) := by
  unfold b_M_slotFor_14 at h
  refine Ev_blk 3 (pc' := if v3 < v2 then 19 else 45) (ls' := [.ref v0, .int v1, .int v2, .int v3]) (st' := []) (s' := s) rfl trivial ?_
  refine ib h (fun c1 h => ?_) (fun c1 h => ?_)
  · refine gd h (fun g2 h => ?_)
    refine Ev_blk 3 (pc' := 22) (ls' := [.ref v0, .int v1, .int v2, .int v3]) (st' := [.int v3, .int v1, .ref v0]) (s' := s) rfl trivial ?_
    refine bd h (fun r1 hr1 h => ?_)
    refine Ev_call 2 190 2 [.ref v0, .int v1, .int v3] [] rfl rfl rfl rfl g2 rfl rfl (Nat.le_of_ble_eq_true rfl) (t_M_kindOf hr1) ?_
    refine Ev_blk 1 (pc' := if r1 = (nI 0) then 28 else 39) (ls' := [.ref v0, .int v1, .int v2, .int v3]) (st' := []) (s' := s) rfl trivial ?_
    refine ib h (fun c3 h => ?_) (fun c3 h => ?_)
    · refine Ev_blk 3 (pc' := 31) (ls' := [.ref v0, .int v1, .int v2, .int v3]) (st' := [.int v3, .int v1, .ref v0]) (s' := s) rfl trivial ?_
      refine bd h (fun r2 hr2 h => ?_)
      refine Ev_call 2 192 2 [.ref v0, .int v1, .int v3] [] rfl rfl rfl rfl g2 rfl rfl (Nat.le_of_ble_eq_true rfl) (t_M_isKeptSlot hr2) ?_
      refine Ev_blk 1 (pc' := if r2 = (nI 0) then 37 else 39) (ls' := [.ref v0, .int v1, .int v2, .int v3]) (st' := []) (s' := s) rfl trivial ?_
      refine ib h (fun c4 h => ?_) (fun c4 h => ?_)
      · refine Ev_blk 1 (pc' := 38) (ls' := [.ref v0, .int v1, .int v2, .int v3]) (st' := [.int v3]) (s' := s) rfl trivial ?_
        cases h
        exact Ev_ret rfl trivial
      · refine Ev_blk 2 (pc' := 14) (ls' := [.ref v0, .int v1, .int v2, .int (v3 + nI 1)]) (st' := []) (s' := s) rfl trivial ?_
        exact H14 h
    · refine Ev_blk 2 (pc' := 14) (ls' := [.ref v0, .int v1, .int v2, .int (v3 + nI 1)]) (st' := []) (s' := s) rfl trivial ?_
      exact H14 h
  · refine Ev_blk 3 (pc' := if v2 < (nI 12) then 51 else 55) (ls' := [.ref v0, .int v1, .int v2, .int v3]) (st' := []) (s' := s) rfl trivial ?_
    have k5_ : Ev 3 mZ189 56 [.ref v0, .int v1, .int v2, .int v3] [.int (if v2 < (nI 12) then v2 else -(nI 1))] s (some (.int o), s) := by
      cases h
      exact Ev_ret rfl trivial
    refine icases (fun c6 => ?_) (fun c6 => ?_)
    · exact Ev_blk 2 (pc' := 56) (ls' := [.ref v0, .int v1, .int v2, .int v3]) (st' := [.int v2]) (s' := s) rfl trivial (by simpa only [if_pos c6] using k5_)
    · exact Ev_blk 1 (pc' := 56) (ls' := [.ref v0, .int v1, .int v2, .int v3]) (st' := [.int (-(nI 1))]) (s' := s) rfl trivial (by simpa only [if_neg c6] using k5_)
def l_M_slotFor_14 (s : AS)  : Nat → Nat → Int32 → Int32 → Int32 → Option Int32
  | 0 => fun _ _ _ _ => none
  | n + 1 => b_M_slotFor_14 s  (l_M_slotFor_14 s  n)
theorem u_M_slotFor_14 {s : AS}   {n : Nat} : ∀  {v0 : Nat} {v1 : Int32} {v2 : Int32} {v3 : Int32} {o : Int32}, l_M_slotFor_14 s  n v0 v1 v2 v3 = some o → Ev 3 mZ189 14 [.ref v0, .int v1, .int v2, .int v3] [] s (some (.int o), s) := by
  induction n with
  | zero => intros; rename_i h; cases h
  | succ n ih => intros; rename_i h; exact t_M_slotFor_14  (fun h => ih h) h
/-- RecordHeapModel.slotFor(I)I -/
def f_M_slotFor (s : AS) (a0 : Nat) (a1 : Int32) : Option Int32 :=
  if sT s a0 = 13 then
  (f_M_pageAt s a1).bind fun r1 =>
  if sT s (sR s a0 3) = 20 ∧ inA (r1 + (nI 0)) (sN s (sR s a0 3)) then
  l_M_slotFor_14 s fuel a0 a1 (sI s (sR s a0 3) (r1 + (nI 0)).toNatClampNeg) (nI 0)
  else none
  else none
theorem t_M_slotFor {s : AS} {a0 : Nat} {a1 : Int32} {o : Int32} (h : f_M_slotFor s a0 a1 = some o) : Ev 3 mZ189 0 [.ref a0, .int a1, .retAddr 0, .retAddr 0] [] s (some (.int o), s) := by
  unfold f_M_slotFor at h
  refine gd h (fun g1 h => ?_)
  refine Ev_blk 3 (pc' := 5) (ls' := [.ref a0, .int a1, .retAddr 0, .retAddr 0]) (st' := [.int a1, .ref (sR s a0 3)]) (s' := s) rfl ⟨trivial, g1⟩ ?_
  refine bd h (fun r1 hr1 h => ?_)
  refine Ev_call 1 140 1 [.int a1] [.ref (sR s a0 3)] rfl rfl rfl rfl trivial rfl rfl (Nat.le_of_ble_eq_true rfl) (t_M_pageAt hr1) ?_
  refine gd h (fun g2 h => ?_)
  refine Ev_blk 6 (pc' := 14) (ls' := [.ref a0, .int a1, .int (sI s (sR s a0 3) (r1 + (nI 0)).toNatClampNeg), .int (nI 0)]) (st' := []) (s' := s) rfl ⟨trivial, ⟨Or.inl g2.1, g2.2⟩⟩ ?_
  exact u_M_slotFor_14 h

def b_M_freeOf_19 (s : AS) (k19 : Nat → Int32 → Int32 → Int32 → Option Int32) (v0 : Nat) (v1 : Int32) (v2 : Int32) (v3 : Int32) : Option Int32 :=
  if sT s v0 = 13 then
  (f_M_pageAt s v1).bind fun r1 =>
  if sT s (sR s v0 3) = 20 ∧ inA (r1 + (nI 0)) (sN s (sR s v0 3)) then
  if v3 < (sI s (sR s v0 3) (r1 + (nI 0)).toNatClampNeg) then
    (f_M_kindOf s v0 v1 v3).bind fun r2 =>
    if r2 = (nI 0) then
      k19 v0 v1 (v2 - (nI 0)) (v3 + nI 1)
    else
      (f_M_slotAt s v1 v3).bind fun r3 =>
      if sT s (sR s v0 3) = 20 ∧ inA (r3 + (nI 2)) (sN s (sR s v0 3)) then
      k19 v0 v1 (v2 - (sI s (sR s v0 3) (r3 + (nI 2)).toNatClampNeg)) (v3 + nI 1)
      else none
  else
    some v2
  else none
  else none
theorem t_M_freeOf_19 {s : AS} {k19 : Nat → Int32 → Int32 → Int32 → Option Int32} (H19 : ∀ {v0 : Nat} {v1 : Int32} {v2 : Int32} {v3 : Int32} {o : Int32}, k19 v0 v1 v2 v3 = some o → Ev 3 mZ194 19 [.ref v0, .int v1, .int v2, .int v3] [] s (some (.int o), s))  {v0 : Nat} {v1 : Int32} {v2 : Int32} {v3 : Int32} {o : Int32} (h : b_M_freeOf_19 s k19 v0 v1 v2 v3 = some o) : Ev 3 mZ194 19 [.ref v0, .int v1, .int v2, .int v3] [] s (some (.int o), s) := by
  unfold b_M_freeOf_19 at h
  refine gd h (fun g1 h => ?_)
  refine Ev_blk 4 (pc' := 25) (ls' := [.ref v0, .int v1, .int v2, .int v3]) (st' := [.int v1, .ref (sR s v0 3), .int v3]) (s' := s) rfl ⟨trivial, g1⟩ ?_
  refine bd h (fun r1 hr1 h => ?_)
  refine Ev_call 1 140 1 [.int v1] [.ref (sR s v0 3), .int v3] rfl rfl rfl rfl trivial rfl rfl (Nat.le_of_ble_eq_true rfl) (t_M_pageAt hr1) ?_
  refine gd h (fun g2 h => ?_)
  refine Ev_blk 4 (pc' := if v3 < (sI s (sR s v0 3) (r1 + (nI 0)).toNatClampNeg) then 34 else 68) (ls' := [.ref v0, .int v1, .int v2, .int v3]) (st' := []) (s' := s) rfl ⟨trivial, ⟨Or.inl g2.1, g2.2⟩⟩ ?_
  refine ib h (fun c3 h => ?_) (fun c3 h => ?_)
  · refine Ev_blk 4 (pc' := 38) (ls' := [.ref v0, .int v1, .int v2, .int v3]) (st' := [.int v3, .int v1, .ref v0, .int v2]) (s' := s) rfl trivial ?_
    refine bd h (fun r2 hr2 h => ?_)
    refine Ev_call 2 190 2 [.ref v0, .int v1, .int v3] [.int v2] rfl rfl rfl rfl g1 rfl rfl (Nat.le_of_ble_eq_true rfl) (t_M_kindOf hr2) ?_
    refine Ev_blk 1 (pc' := if r2 = (nI 0) then 44 else 48) (ls' := [.ref v0, .int v1, .int v2, .int v3]) (st' := [.int v2]) (s' := s) rfl trivial ?_
    refine ib h (fun c4 h => ?_) (fun c4 h => ?_)
    · refine Ev_blk 6 (pc' := 19) (ls' := [.ref v0, .int v1, .int (v2 - (nI 0)), .int (v3 + nI 1)]) (st' := []) (s' := s) rfl trivial ?_
      exact H19 h
    · refine Ev_blk 4 (pc' := 54) (ls' := [.ref v0, .int v1, .int v2, .int v3]) (st' := [.int v3, .int v1, .ref (sR s v0 3), .int v2]) (s' := s) rfl ⟨trivial, g1⟩ ?_
      refine bd h (fun r3 hr3 h => ?_)
      refine Ev_call 1 191 2 [.int v1, .int v3] [.ref (sR s v0 3), .int v2] rfl rfl rfl rfl trivial rfl rfl (Nat.le_of_ble_eq_true rfl) (t_M_slotAt hr3) ?_
      refine gd h (fun g5 h => ?_)
      refine Ev_blk 7 (pc' := 19) (ls' := [.ref v0, .int v1, .int (v2 - (sI s (sR s v0 3) (r3 + (nI 2)).toNatClampNeg)), .int (v3 + nI 1)]) (st' := []) (s' := s) rfl ⟨trivial, ⟨Or.inl g5.1, g5.2⟩⟩ ?_
      exact H19 h
  · refine Ev_blk 1 (pc' := 69) (ls' := [.ref v0, .int v1, .int v2, .int v3]) (st' := [.int v2]) (s' := s) rfl trivial ?_
    cases h
    exact Ev_ret rfl trivial
def l_M_freeOf_19 (s : AS)  : Nat → Nat → Int32 → Int32 → Int32 → Option Int32
  | 0 => fun _ _ _ _ => none
  | n + 1 => b_M_freeOf_19 s  (l_M_freeOf_19 s  n)
theorem u_M_freeOf_19 {s : AS}   {n : Nat} : ∀  {v0 : Nat} {v1 : Int32} {v2 : Int32} {v3 : Int32} {o : Int32}, l_M_freeOf_19 s  n v0 v1 v2 v3 = some o → Ev 3 mZ194 19 [.ref v0, .int v1, .int v2, .int v3] [] s (some (.int o), s) := by
  induction n with
  | zero => intros; rename_i h; cases h
  | succ n ih => intros; rename_i h; exact t_M_freeOf_19  (fun h => ih h) h
/-- RecordHeapModel.freeOf(I)I -/
def f_M_freeOf (s : AS) (a0 : Nat) (a1 : Int32) : Option Int32 :=
  if sT s a0 = 13 then
  (f_M_pageAt s a1).bind fun r1 =>
  if sT s (sR s a0 3) = 20 ∧ inA (r1 + (nI 0)) (sN s (sR s a0 3)) then
  l_M_freeOf_19 s fuel a0 a1 ((nI 64) - ((nI 2) * (sI s (sR s a0 3) (r1 + (nI 0)).toNatClampNeg))) (nI 0)
  else none
  else none
theorem t_M_freeOf {s : AS} {a0 : Nat} {a1 : Int32} {o : Int32} (h : f_M_freeOf s a0 a1 = some o) : Ev 3 mZ194 0 [.ref a0, .int a1, .retAddr 0, .retAddr 0] [] s (some (.int o), s) := by
  unfold f_M_freeOf at h
  refine gd h (fun g1 h => ?_)
  refine Ev_blk 5 (pc' := 8) (ls' := [.ref a0, .int a1, .retAddr 0, .retAddr 0]) (st' := [.int a1, .ref (sR s a0 3), .int (nI 2), .int (nI 64)]) (s' := s) rfl ⟨trivial, g1⟩ ?_
  refine bd h (fun r1 hr1 h => ?_)
  refine Ev_call 1 140 1 [.int a1] [.ref (sR s a0 3), .int (nI 2), .int (nI 64)] rfl rfl rfl rfl trivial rfl rfl (Nat.le_of_ble_eq_true rfl) (t_M_pageAt hr1) ?_
  refine gd h (fun g2 h => ?_)
  refine Ev_blk 8 (pc' := 19) (ls' := [.ref a0, .int a1, .int ((nI 64) - ((nI 2) * (sI s (sR s a0 3) (r1 + (nI 0)).toNatClampNeg))), .int (nI 0)]) (st' := []) (s' := s) rfl ⟨trivial, ⟨Or.inl g2.1, g2.2⟩⟩ ?_
  exact u_M_freeOf_19 h

def b_M_reckon_104  (v0 : Nat) (v2 : Int64) (v4 : Int64) (w0 : Int32) (w1 : Nat) (s : AS) : Option (Int64 × AS) :=
  if sT s w1 = 13 ∧ (w0 = nI 0 ∨ w0 = nI 1) then
  if sT s v0 = 13 then
  if (sI (setI s w1 37 w0) v0 37) = (nI 0) then
    if ¬ v4 = lN 0 then
    some (v2 - v2 / v4 * v4, setI s w1 37 w0)
    else none
  else
    some (lN 0, setI s w1 37 w0)
  else none
  else none
theorem t_M_reckon_104   {d1 d3 d5 : Value} {v0 : Nat} {v2 : Int64} {v4 : Int64} {w0 : Int32} {w1 : Nat} {s : AS} {o : Int64 × AS} (h : b_M_reckon_104  v0 v2 v4 w0 w1 s = some o) : Ev 0 mZ197 104 [.ref v0, d1, .long v2, d3, .long v4, d5] [.int w0, .ref w1] s (some (.long o.1), o.2) := by
  unfold b_M_reckon_104 at h
  refine gd h (fun g1 h => ?_)
  refine gd h (fun g2 h => ?_)
  refine Ev_blk 4 (pc' := if (sI (setI s w1 37 w0) v0 37) = (nI 0) then 118 else 114) (ls' := [.ref v0, d1, .long v2, d3, .long v4, d5]) (st' := []) (s' := setI s w1 37 w0) rfl ⟨⟨trivial, g1⟩, g2⟩ ?_
  refine ib h (fun c3 h => ?_) (fun c3 h => ?_)
  · refine gd h (fun g4 h => ?_)
    refine Ev_blk 3 (pc' := 122) (ls' := [.ref v0, d1, .long v2, d3, .long v4, d5]) (st' := [.long (v2 - v2 / v4 * v4)]) (s' := setI s w1 37 w0) rfl ⟨trivial, g4⟩ ?_
    cases h
    exact Ev_ret rfl trivial
  · refine Ev_blk 2 (pc' := 122) (ls' := [.ref v0, d1, .long v2, d3, .long v4, d5]) (st' := [.long (lN 0)]) (s' := setI s w1 37 w0) rfl trivial ?_
    cases h
    exact Ev_ret rfl trivial
def b_M_reckon_72  (v0 : Nat) (v2 : Int64) (v4 : Int64) (w0 : Int32) (w1 : Nat) (s : AS) : Option (Int64 × AS) :=
  if sT s w1 = 13 ∧ (w0 = nI 0 ∨ w0 = nI 1) then
  if sT s v0 = 13 then
  if (sI (setI s w1 37 w0) v0 37) = (nI 0) then
    if ¬ v4 = lN 0 then
    some (v2 / v4, setI s w1 37 w0)
    else none
  else
    some (lN 0, setI s w1 37 w0)
  else none
  else none
theorem t_M_reckon_72   {d1 d3 d5 : Value} {v0 : Nat} {v2 : Int64} {v4 : Int64} {w0 : Int32} {w1 : Nat} {s : AS} {o : Int64 × AS} (h : b_M_reckon_72  v0 v2 v4 w0 w1 s = some o) : Ev 0 mZ197 72 [.ref v0, d1, .long v2, d3, .long v4, d5] [.int w0, .ref w1] s (some (.long o.1), o.2) := by
  unfold b_M_reckon_72 at h
  refine gd h (fun g1 h => ?_)
  refine gd h (fun g2 h => ?_)
  refine Ev_blk 4 (pc' := if (sI (setI s w1 37 w0) v0 37) = (nI 0) then 86 else 82) (ls' := [.ref v0, d1, .long v2, d3, .long v4, d5]) (st' := []) (s' := setI s w1 37 w0) rfl ⟨⟨trivial, g1⟩, g2⟩ ?_
  refine ib h (fun c3 h => ?_) (fun c3 h => ?_)
  · refine gd h (fun g4 h => ?_)
    refine Ev_blk 3 (pc' := 90) (ls' := [.ref v0, d1, .long v2, d3, .long v4, d5]) (st' := [.long (v2 / v4)]) (s' := setI s w1 37 w0) rfl ⟨trivial, g4⟩ ?_
    cases h
    exact Ev_ret rfl trivial
  · refine Ev_blk 2 (pc' := 90) (ls' := [.ref v0, d1, .long v2, d3, .long v4, d5]) (st' := [.long (lN 0)]) (s' := setI s w1 37 w0) rfl trivial ?_
    cases h
    exact Ev_ret rfl trivial
/-- RecordHeapModel.reckon(IJJ)J -/
def f_M_reckon (s : AS) (a0 : Nat) (a1 : Int32) (a2 : Int64) (a3 : Int64) : Option (Int64 × AS) :=
  if a1 = nI 20 then
    some (a2 + a3, s)
  else
  if a1 = nI 21 then
    some (a2 - a3, s)
  else
  if a1 = nI 22 then
    some (a2 * a3, s)
  else
  if a1 = nI 23 then
      b_M_reckon_72 a0 a2 a3 (if (lg_cmp a3 (lN 0)) = (nI 0) then nI 1 else nI 0) a0 s
  else
  if a1 = nI 24 then
      b_M_reckon_104 a0 a2 a3 (if (lg_cmp a3 (lN 0)) = (nI 0) then nI 1 else nI 0) a0 s
  else
  if a1 = nI 25 then
      some ((if (lg_cmp a2 a3) < (nI 0) then lN 1 else lN 0), s)
  else
  if a1 = nI 26 then
      some ((if (nI 0) < (lg_cmp a2 a3) then lN 1 else lN 0), s)
  else
    some ((if (lg_cmp a2 a3) = (nI 0) then lN 1 else lN 0), s)
theorem t_M_reckon {s : AS} {a0 : Nat} {a1 : Int32} {a2 : Int64} {a3 : Int64} {o : Int64 × AS} (h : f_M_reckon s a0 a1 a2 a3 = some o) : Ev 0 mZ197 0 [.ref a0, .int a1, .long a2, .retAddr 0, .long a3, .retAddr 0] [] s (some (.long o.1), o.2) := by
  unfold f_M_reckon at h
  refine Ev_blk 2 (pc' := if a1 = nI 20 then 44 else if a1 = nI 21 then 49 else if a1 = nI 22 then 54 else if a1 = nI 23 then 59 else if a1 = nI 24 then 91 else if a1 = nI 25 then 123 else if a1 = nI 26 then 136 else 149) (ls' := [.ref a0, .int a1, .long a2, .retAddr 0, .long a3, .retAddr 0]) (st' := []) (s' := s) rfl trivial ?_
  refine ib h (fun c1 h => ?_) (fun c1 h => ?_)
  · refine Ev_blk 3 (pc' := 48) (ls' := [.ref a0, .int a1, .long a2, .retAddr 0, .long a3, .retAddr 0]) (st' := [.long (a2 + a3)]) (s' := s) rfl trivial ?_
    cases h
    exact Ev_ret rfl trivial
  refine ib h (fun c2 h => ?_) (fun c2 h => ?_)
  · refine Ev_blk 3 (pc' := 53) (ls' := [.ref a0, .int a1, .long a2, .retAddr 0, .long a3, .retAddr 0]) (st' := [.long (a2 - a3)]) (s' := s) rfl trivial ?_
    cases h
    exact Ev_ret rfl trivial
  refine ib h (fun c3 h => ?_) (fun c3 h => ?_)
  · refine Ev_blk 3 (pc' := 58) (ls' := [.ref a0, .int a1, .long a2, .retAddr 0, .long a3, .retAddr 0]) (st' := [.long (a2 * a3)]) (s' := s) rfl trivial ?_
    cases h
    exact Ev_ret rfl trivial
  refine ib h (fun c4 h => ?_) (fun c4 h => ?_)
  · refine Ev_blk 5 (pc' := if (lg_cmp a3 (lN 0)) = (nI 0) then 67 else 71) (ls' := [.ref a0, .int a1, .long a2, .retAddr 0, .long a3, .retAddr 0]) (st' := [.ref a0]) (s' := s) rfl trivial ?_
    have k5_ : Ev 0 mZ197 72 [.ref a0, .int a1, .long a2, .retAddr 0, .long a3, .retAddr 0] [.int (if (lg_cmp a3 (lN 0)) = (nI 0) then nI 1 else nI 0), .ref a0] s (some (.long o.1), o.2) := by
      exact t_M_reckon_72 h
    refine icases (fun c6 => ?_) (fun c6 => ?_)
    · exact Ev_blk 2 (pc' := 72) (ls' := [.ref a0, .int a1, .long a2, .retAddr 0, .long a3, .retAddr 0]) (st' := [.int (nI 1), .ref a0]) (s' := s) rfl trivial (by simpa only [if_pos c6] using k5_)
    · exact Ev_blk 1 (pc' := 72) (ls' := [.ref a0, .int a1, .long a2, .retAddr 0, .long a3, .retAddr 0]) (st' := [.int (nI 0), .ref a0]) (s' := s) rfl trivial (by simpa only [if_neg c6] using k5_)
  refine ib h (fun c7 h => ?_) (fun c7 h => ?_)
  · refine Ev_blk 5 (pc' := if (lg_cmp a3 (lN 0)) = (nI 0) then 99 else 103) (ls' := [.ref a0, .int a1, .long a2, .retAddr 0, .long a3, .retAddr 0]) (st' := [.ref a0]) (s' := s) rfl trivial ?_
    have k8_ : Ev 0 mZ197 104 [.ref a0, .int a1, .long a2, .retAddr 0, .long a3, .retAddr 0] [.int (if (lg_cmp a3 (lN 0)) = (nI 0) then nI 1 else nI 0), .ref a0] s (some (.long o.1), o.2) := by
      exact t_M_reckon_104 h
    refine icases (fun c9 => ?_) (fun c9 => ?_)
    · exact Ev_blk 2 (pc' := 104) (ls' := [.ref a0, .int a1, .long a2, .retAddr 0, .long a3, .retAddr 0]) (st' := [.int (nI 1), .ref a0]) (s' := s) rfl trivial (by simpa only [if_pos c9] using k8_)
    · exact Ev_blk 1 (pc' := 104) (ls' := [.ref a0, .int a1, .long a2, .retAddr 0, .long a3, .retAddr 0]) (st' := [.int (nI 0), .ref a0]) (s' := s) rfl trivial (by simpa only [if_neg c9] using k8_)
  refine ib h (fun c10 h => ?_) (fun c10 h => ?_)
  · refine Ev_blk 4 (pc' := if (lg_cmp a2 a3) < (nI 0) then 130 else 134) (ls' := [.ref a0, .int a1, .long a2, .retAddr 0, .long a3, .retAddr 0]) (st' := []) (s' := s) rfl trivial ?_
    have k11_ : Ev 0 mZ197 135 [.ref a0, .int a1, .long a2, .retAddr 0, .long a3, .retAddr 0] [.long (if (lg_cmp a2 a3) < (nI 0) then lN 1 else lN 0)] s (some (.long o.1), o.2) := by
      cases h
      exact Ev_ret rfl trivial
    refine icases (fun c12 => ?_) (fun c12 => ?_)
    · exact Ev_blk 2 (pc' := 135) (ls' := [.ref a0, .int a1, .long a2, .retAddr 0, .long a3, .retAddr 0]) (st' := [.long (lN 1)]) (s' := s) rfl trivial (by simpa only [if_pos c12] using k11_)
    · exact Ev_blk 1 (pc' := 135) (ls' := [.ref a0, .int a1, .long a2, .retAddr 0, .long a3, .retAddr 0]) (st' := [.long (lN 0)]) (s' := s) rfl trivial (by simpa only [if_neg c12] using k11_)
  refine ib h (fun c13 h => ?_) (fun c13 h => ?_)
  · refine Ev_blk 4 (pc' := if (nI 0) < (lg_cmp a2 a3) then 143 else 147) (ls' := [.ref a0, .int a1, .long a2, .retAddr 0, .long a3, .retAddr 0]) (st' := []) (s' := s) rfl trivial ?_
    have k14_ : Ev 0 mZ197 148 [.ref a0, .int a1, .long a2, .retAddr 0, .long a3, .retAddr 0] [.long (if (nI 0) < (lg_cmp a2 a3) then lN 1 else lN 0)] s (some (.long o.1), o.2) := by
      cases h
      exact Ev_ret rfl trivial
    refine icases (fun c15 => ?_) (fun c15 => ?_)
    · exact Ev_blk 2 (pc' := 148) (ls' := [.ref a0, .int a1, .long a2, .retAddr 0, .long a3, .retAddr 0]) (st' := [.long (lN 1)]) (s' := s) rfl trivial (by simpa only [if_pos c15] using k14_)
    · exact Ev_blk 1 (pc' := 148) (ls' := [.ref a0, .int a1, .long a2, .retAddr 0, .long a3, .retAddr 0]) (st' := [.long (lN 0)]) (s' := s) rfl trivial (by simpa only [if_neg c15] using k14_)
  refine Ev_blk 4 (pc' := if (lg_cmp a2 a3) = (nI 0) then 156 else 160) (ls' := [.ref a0, .int a1, .long a2, .retAddr 0, .long a3, .retAddr 0]) (st' := []) (s' := s) rfl trivial ?_
  have k16_ : Ev 0 mZ197 161 [.ref a0, .int a1, .long a2, .retAddr 0, .long a3, .retAddr 0] [.long (if (lg_cmp a2 a3) = (nI 0) then lN 1 else lN 0)] s (some (.long o.1), o.2) := by
    cases h
    exact Ev_ret rfl trivial
  refine icases (fun c17 => ?_) (fun c17 => ?_)
  · exact Ev_blk 2 (pc' := 161) (ls' := [.ref a0, .int a1, .long a2, .retAddr 0, .long a3, .retAddr 0]) (st' := [.long (lN 1)]) (s' := s) rfl trivial (by simpa only [if_pos c17] using k16_)
  · exact Ev_blk 1 (pc' := 161) (ls' := [.ref a0, .int a1, .long a2, .retAddr 0, .long a3, .retAddr 0]) (st' := [.long (lN 0)]) (s' := s) rfl trivial (by simpa only [if_neg c17] using k16_)

def b_M_reckonAll_317 (k10 : Nat → Int32 → Int32 → Int32 → AS → Option AS) (v0 : Nat) (v2 : Int32) (v3 : Int32) (v4 : Int32) (v6 : Int32) (w0 : Int64) (w1 : Int64) (s : AS) : Option AS :=
  if (lg_cmp w1 w0) = (nI 0) then
    k10 v0 v2 v3 v6 s
  else
    k10 v0 v2 (v3 + (-(nI 1))) v4 s
theorem t_M_reckonAll_317 {k10 : Nat → Int32 → Int32 → Int32 → AS → Option AS} (H10 : ∀ {d1 d5 d6 : Value} {v0 : Nat} {v2 : Int32} {v3 : Int32} {v4 : Int32} {s : AS} {o : AS}, k10 v0 v2 v3 v4 s = some o → Ev 4 mZ196 10 [.ref v0, d1, .int v2, .int v3, .int v4, d5, d6] [] s (none, o)) {d1 d5 : Value} {v0 : Nat} {v2 : Int32} {v3 : Int32} {v4 : Int32} {v6 : Int32} {w0 : Int64} {w1 : Int64} {s : AS} {o : AS} (h : b_M_reckonAll_317 k10 v0 v2 v3 v4 v6 w0 w1 s = some o) : Ev 4 mZ196 317 [.ref v0, d1, .int v2, .int v3, .int v4, d5, .int v6] [.long w0, .long w1] s (none, o) := by
  unfold b_M_reckonAll_317 at h
  refine Ev_blk 2 (pc' := if (lg_cmp w1 w0) = (nI 0) then 321 else 328) (ls' := [.ref v0, d1, .int v2, .int v3, .int v4, d5, .int v6]) (st' := []) (s' := s) rfl trivial ?_
  refine ib h (fun c1 h => ?_) (fun c1 h => ?_)
  · refine Ev_blk 4 (pc' := 10) (ls' := [.ref v0, d1, .int v2, .int v3, .int v6, d5, .int v6]) (st' := []) (s' := s) rfl trivial ?_
    exact H10 h
  · refine Ev_blk 2 (pc' := 10) (ls' := [.ref v0, d1, .int v2, .int (v3 + (-(nI 1))), .int v4, d5, .int v6]) (st' := []) (s' := s) rfl trivial ?_
    exact H10 h
def b_M_reckonAll_95 (k10 : Nat → Int32 → Int32 → Int32 → AS → Option AS) (v0 : Nat) (v2 : Int32) (v3 : Int32) (v4 : Int32) (v5 : Int32) (w0 : Int32) (s : AS) : Option AS :=
  if v5 < (nI 20) then
    if sT s v0 = 13 then
    if v5 = (nI 0) then
      if sT s (sR s v0 36) = 21 ∧ inA v3 (sN s (sR s v0 36)) then
      k10 v0 v2 (v3 + nI 1) (v4 + nI 1) (setJ s (sR s v0 36) v3.toNatClampNeg w0.toInt64)
      else none
    else
      if (sI s v0 19) = (nI 0) then
        if sT s (sR s v0 34) = 21 ∧ inA v5 (sN s (sR s v0 34)) then
        if sT s (sR s v0 36) = 21 ∧ inA v3 (sN s (sR s v0 36)) then
        k10 v0 v2 (v3 + nI 1) (v4 + nI 1) (setJ s (sR s v0 36) v3.toNatClampNeg (sL s (sR s v0 34) v5.toNatClampNeg))
        else none
        else none
      else
        if v5 < (nI 5) then
          if sT s (sR s v0 35) = 21 ∧ inA v5 (sN s (sR s v0 35)) then
          if sT s (sR s v0 36) = 21 ∧ inA v3 (sN s (sR s v0 36)) then
          k10 v0 v2 (v3 + nI 1) (v4 + nI 1) (setJ s (sR s v0 36) v3.toNatClampNeg (sL s (sR s v0 35) v5.toNatClampNeg))
          else none
          else none
        else
          if v5 = (nI 5) then
            (f_M_freeOf s v0 w0).bind fun r1 =>
            if sT s (sR s v0 36) = 21 ∧ inA v3 (sN s (sR s v0 36)) then
            k10 v0 v2 (v3 + nI 1) (v4 + nI 1) (setJ s (sR s v0 36) v3.toNatClampNeg r1.toInt64)
            else none
          else
            (f_M_pageAt s w0).bind fun r2 =>
            if sT s (sR s v0 3) = 20 ∧ inA (r2 + (nI 1)) (sN s (sR s v0 3)) then
            if sT s (sR s v0 36) = 21 ∧ inA v3 (sN s (sR s v0 36)) then
            k10 v0 v2 (v3 + nI 1) (v4 + nI 1) (setJ s (sR s v0 36) v3.toNatClampNeg ((sI s (sR s v0 3) (r2 + (nI 1)).toNatClampNeg).toInt64))
            else none
            else none
    else none
  else
    if v5 < (nI 28) then
      if sT s v0 = 13 then
      if sT s (sR s v0 36) = 21 ∧ inA ((v3 + (-(nI 1))) - (nI 1)) (sN s (sR s v0 36)) then
      if sT s (sR s v0 36) = 21 ∧ inA (v3 + (-(nI 1))) (sN s (sR s v0 36)) then
      (f_M_reckon s v0 v5 (sL s (sR s v0 36) ((v3 + (-(nI 1))) - (nI 1)).toNatClampNeg) (sL s (sR s v0 36) (v3 + (-(nI 1))).toNatClampNeg)).bind fun r3 =>
      if sT r3.2 (sR s v0 36) = 21 ∧ inA ((v3 + (-(nI 1))) - (nI 1)) (sN r3.2 (sR s v0 36)) then
      if sT r3.2 v0 = 13 then
      if (sI r3.2 v0 37) = (nI 0) then
        if sT r3.2 (sR r3.2 v0 36) = 21 ∧ inA ((v3 + (-(nI 1))) - (nI 1)) (sN r3.2 (sR r3.2 v0 36)) then
        (f_M_in (setJ r3.2 (sR s v0 36) ((v3 + (-(nI 1))) - (nI 1)).toNatClampNeg r3.1) (sL (setJ r3.2 (sR s v0 36) ((v3 + (-(nI 1))) - (nI 1)).toNatClampNeg r3.1) (sR r3.2 v0 36) ((v3 + (-(nI 1))) - (nI 1)).toNatClampNeg) (-1000000000 : Int64) (lN 1000000000)).bind fun r4 =>
          if sT r3.2 v0 = 13 ∧ ((if r4 = (nI 0) then nI 1 else nI 0) = nI 0 ∨ (if r4 = (nI 0) then nI 1 else nI 0) = nI 1) then
          k10 v0 v2 (v3 + (-(nI 1))) (v4 + nI 1) (setI (setJ r3.2 (sR s v0 36) ((v3 + (-(nI 1))) - (nI 1)).toNatClampNeg r3.1) v0 37 (if r4 = (nI 0) then nI 1 else nI 0))
          else none
        else none
      else
        if sT r3.2 v0 = 13 ∧ ((nI 1) = nI 0 ∨ (nI 1) = nI 1) then
        k10 v0 v2 (v3 + (-(nI 1))) (v4 + nI 1) (setI (setJ r3.2 (sR s v0 36) ((v3 + (-(nI 1))) - (nI 1)).toNatClampNeg r3.1) v0 37 (nI 1))
        else none
      else none
      else none
      else none
      else none
      else none
    else
      if v5 = (nI 28) then
        if sT s v0 = 13 then
        if sT s (sR s v0 36) = 21 ∧ inA (v3 - (nI 1)) (sN s (sR s v0 36)) then
        k10 v0 v2 v3 (v4 + nI 1) (setJ s (sR s v0 36) (v3 - (nI 1)).toNatClampNeg ((lN 1) - (sL s (sR s v0 36) (v3 - (nI 1)).toNatClampNeg)))
        else none
        else none
      else
        if sT s v0 = 13 then
        if sT s (sR s v0 36) = 21 ∧ inA (v3 - (nI 1)) (sN s (sR s v0 36)) then
          b_M_reckonAll_317 k10 v0 v2 v3 (v4 + nI 1) w0 (if v5 = (nI 29) then lN 0 else lN 1) (sL s (sR s v0 36) (v3 - (nI 1)).toNatClampNeg) s
        else none
        else none
theorem t_M_reckonAll_95 {k10 : Nat → Int32 → Int32 → Int32 → AS → Option AS} (H10 : ∀ {d1 d5 d6 : Value} {v0 : Nat} {v2 : Int32} {v3 : Int32} {v4 : Int32} {s : AS} {o : AS}, k10 v0 v2 v3 v4 s = some o → Ev 4 mZ196 10 [.ref v0, d1, .int v2, .int v3, .int v4, d5, d6] [] s (none, o)) {d1 d6 : Value} {v0 : Nat} {v2 : Int32} {v3 : Int32} {v4 : Int32} {v5 : Int32} {w0 : Int32} {s : AS} {o : AS} (h : b_M_reckonAll_95 k10 v0 v2 v3 v4 v5 w0 s = some o) : Ev 4 mZ196 95 [.ref v0, d1, .int v2, .int v3, .int v4, .int v5, d6] [.int w0] s (none, o) := by
  unfold b_M_reckonAll_95 at h
  refine Ev_blk 5 (pc' := if v5 < (nI 20) then 107 else 192) (ls' := [.ref v0, d1, .int v2, .int v3, .int (v4 + nI 1), .int v5, .int w0]) (st' := []) (s' := s) rfl trivial ?_
  refine ib h (fun c1 h => ?_) (fun c1 h => ?_)
  · refine gd h (fun g2 h => ?_)
    refine Ev_blk 5 (pc' := if v5 = (nI 0) then 117 else 123) (ls' := [.ref v0, d1, .int v2, .int v3, .int (v4 + nI 1), .int v5, .int w0]) (st' := [.int v3, .ref (sR s v0 36)]) (s' := s) rfl ⟨trivial, g2⟩ ?_
    refine ib h (fun c3 h => ?_) (fun c3 h => ?_)
    · refine gd h (fun g4 h => ?_)
      refine Ev_blk 7 (pc' := 10) (ls' := [.ref v0, d1, .int v2, .int (v3 + nI 1), .int (v4 + nI 1), .int v5, .int w0]) (st' := []) (s' := setJ s (sR s v0 36) v3.toNatClampNeg w0.toInt64) rfl ⟨trivial, g4⟩ ?_
      exact H10 h
    · refine Ev_blk 3 (pc' := if (sI s v0 19) = (nI 0) then 130 else 140) (ls' := [.ref v0, d1, .int v2, .int v3, .int (v4 + nI 1), .int v5, .int w0]) (st' := [.int v3, .ref (sR s v0 36)]) (s' := s) rfl ⟨trivial, g2⟩ ?_
      refine ib h (fun c5 h => ?_) (fun c5 h => ?_)
      · refine gd h (fun g6 h => ?_)
        refine gd h (fun g7 h => ?_)
        refine Ev_blk 9 (pc' := 10) (ls' := [.ref v0, d1, .int v2, .int (v3 + nI 1), .int (v4 + nI 1), .int v5, .int w0]) (st' := []) (s' := setJ s (sR s v0 36) v3.toNatClampNeg (sL s (sR s v0 34) v5.toNatClampNeg)) rfl ⟨⟨⟨trivial, g2⟩, g6⟩, g7⟩ ?_
        exact H10 h
      · refine Ev_blk 3 (pc' := if v5 < (nI 5) then 146 else 156) (ls' := [.ref v0, d1, .int v2, .int v3, .int (v4 + nI 1), .int v5, .int w0]) (st' := [.int v3, .ref (sR s v0 36)]) (s' := s) rfl trivial ?_
        refine ib h (fun c8 h => ?_) (fun c8 h => ?_)
        · refine gd h (fun g9 h => ?_)
          refine gd h (fun g10 h => ?_)
          refine Ev_blk 9 (pc' := 10) (ls' := [.ref v0, d1, .int v2, .int (v3 + nI 1), .int (v4 + nI 1), .int v5, .int w0]) (st' := []) (s' := setJ s (sR s v0 36) v3.toNatClampNeg (sL s (sR s v0 35) v5.toNatClampNeg)) rfl ⟨⟨⟨trivial, g2⟩, g9⟩, g10⟩ ?_
          exact H10 h
        · refine Ev_blk 3 (pc' := if v5 = (nI 5) then 162 else 172) (ls' := [.ref v0, d1, .int v2, .int v3, .int (v4 + nI 1), .int v5, .int w0]) (st' := [.int v3, .ref (sR s v0 36)]) (s' := s) rfl trivial ?_
          refine ib h (fun c11 h => ?_) (fun c11 h => ?_)
          · refine Ev_blk 2 (pc' := 165) (ls' := [.ref v0, d1, .int v2, .int v3, .int (v4 + nI 1), .int v5, .int w0]) (st' := [.int w0, .ref v0, .int v3, .ref (sR s v0 36)]) (s' := s) rfl trivial ?_
            refine bd h (fun r1 hr1 h => ?_)
            refine Ev_call 2 194 1 [.ref v0, .int w0] [.int v3, .ref (sR s v0 36)] rfl rfl rfl rfl g2 rfl rfl (Nat.le_of_ble_eq_true rfl) (t_M_freeOf hr1) ?_
            refine gd h (fun g12 h => ?_)
            refine Ev_blk 6 (pc' := 10) (ls' := [.ref v0, d1, .int v2, .int (v3 + nI 1), .int (v4 + nI 1), .int v5, .int w0]) (st' := []) (s' := setJ s (sR s v0 36) v3.toNatClampNeg r1.toInt64) rfl ⟨trivial, g12⟩ ?_
            exact H10 h
          · refine Ev_blk 3 (pc' := 178) (ls' := [.ref v0, d1, .int v2, .int v3, .int (v4 + nI 1), .int v5, .int w0]) (st' := [.int w0, .ref (sR s v0 3), .int v3, .ref (sR s v0 36)]) (s' := s) rfl ⟨trivial, g2⟩ ?_
            refine bd h (fun r2 hr2 h => ?_)
            refine Ev_call 1 140 1 [.int w0] [.ref (sR s v0 3), .int v3, .ref (sR s v0 36)] rfl rfl rfl rfl trivial rfl rfl (Nat.le_of_ble_eq_true rfl) (t_M_pageAt hr2) ?_
            refine gd h (fun g13 h => ?_)
            refine gd h (fun g14 h => ?_)
            refine Ev_blk 8 (pc' := 10) (ls' := [.ref v0, d1, .int v2, .int (v3 + nI 1), .int (v4 + nI 1), .int v5, .int w0]) (st' := []) (s' := setJ s (sR s v0 36) v3.toNatClampNeg ((sI s (sR s v0 3) (r2 + (nI 1)).toNatClampNeg).toInt64)) rfl ⟨⟨trivial, ⟨Or.inl g13.1, g13.2⟩⟩, g14⟩ ?_
            exact H10 h
  · refine Ev_blk 3 (pc' := if v5 < (nI 28) then 199 else 269) (ls' := [.ref v0, d1, .int v2, .int v3, .int (v4 + nI 1), .int v5, .int w0]) (st' := []) (s' := s) rfl trivial ?_
    refine ib h (fun c15 h => ?_) (fun c15 h => ?_)
    · refine gd h (fun g16 h => ?_)
      refine gd h (fun g17 h => ?_)
      refine gd h (fun g18 h => ?_)
      refine Ev_blk 18 (pc' := 226) (ls' := [.ref v0, d1, .int v2, .int (v3 + (-(nI 1))), .int (v4 + nI 1), .int v5, .int w0]) (st' := [.long (sL s (sR s v0 36) (v3 + (-(nI 1))).toNatClampNeg), .long (sL s (sR s v0 36) ((v3 + (-(nI 1))) - (nI 1)).toNatClampNeg), .int v5, .ref v0, .int ((v3 + (-(nI 1))) - (nI 1)), .ref (sR s v0 36)]) (s' := s) rfl ⟨⟨⟨⟨⟨trivial, g16⟩, g16⟩, g17⟩, g16⟩, g18⟩ ?_
      refine bd h (fun r3 hr3 h => ?_)
      refine Ev_call 2 197 3 [.ref v0, .int v5, .long (sL s (sR s v0 36) ((v3 + (-(nI 1))) - (nI 1)).toNatClampNeg), .long (sL s (sR s v0 36) (v3 + (-(nI 1))).toNatClampNeg)] [.int ((v3 + (-(nI 1))) - (nI 1)), .ref (sR s v0 36)] rfl rfl rfl rfl g16 rfl rfl (Nat.le_of_ble_eq_true rfl) (t_M_reckon hr3) ?_
      refine gd h (fun g19 h => ?_)
      refine gd h (fun g20 h => ?_)
      refine Ev_blk 5 (pc' := if (sI r3.2 v0 37) = (nI 0) then 238 else 258) (ls' := [.ref v0, d1, .int v2, .int (v3 + (-(nI 1))), .int (v4 + nI 1), .int v5, .int w0]) (st' := [.ref v0]) (s' := setJ r3.2 (sR s v0 36) ((v3 + (-(nI 1))) - (nI 1)).toNatClampNeg r3.1) rfl ⟨⟨trivial, g19⟩, g20⟩ ?_
      refine ib h (fun c21 h => ?_) (fun c21 h => ?_)
      · refine gd h (fun g22 h => ?_)
        refine Ev_blk 8 (pc' := 252) (ls' := [.ref v0, d1, .int v2, .int (v3 + (-(nI 1))), .int (v4 + nI 1), .int v5, .int w0]) (st' := [.long (lN 1000000000), .long (-1000000000 : Int64), .long (sL (setJ r3.2 (sR s v0 36) ((v3 + (-(nI 1))) - (nI 1)).toNatClampNeg r3.1) (sR r3.2 v0 36) ((v3 + (-(nI 1))) - (nI 1)).toNatClampNeg), .ref v0]) (s' := setJ r3.2 (sR s v0 36) ((v3 + (-(nI 1))) - (nI 1)).toNatClampNeg r3.1) rfl ⟨⟨trivial, g20⟩, g22⟩ ?_
        refine bd h (fun r4 hr4 h => ?_)
        refine Ev_call 1 145 3 [.long (sL (setJ r3.2 (sR s v0 36) ((v3 + (-(nI 1))) - (nI 1)).toNatClampNeg r3.1) (sR r3.2 v0 36) ((v3 + (-(nI 1))) - (nI 1)).toNatClampNeg), .long (-1000000000 : Int64), .long (lN 1000000000)] [.ref v0] rfl rfl rfl rfl trivial rfl rfl (Nat.le_of_ble_eq_true rfl) (t_M_in hr4) ?_
        refine Ev_blk 1 (pc' := if r4 = (nI 0) then 258 else 262) (ls' := [.ref v0, d1, .int v2, .int (v3 + (-(nI 1))), .int (v4 + nI 1), .int v5, .int w0]) (st' := [.ref v0]) (s' := setJ r3.2 (sR s v0 36) ((v3 + (-(nI 1))) - (nI 1)).toNatClampNeg r3.1) rfl trivial ?_
        have k23_ : Ev 4 mZ196 263 [.ref v0, d1, .int v2, .int (v3 + (-(nI 1))), .int (v4 + nI 1), .int v5, .int w0] [.int (if r4 = (nI 0) then nI 1 else nI 0), .ref v0] (setJ r3.2 (sR s v0 36) ((v3 + (-(nI 1))) - (nI 1)).toNatClampNeg r3.1) (none, o) := by
          refine gd h (fun g24 h => ?_)
          refine Ev_blk 3 (pc' := 10) (ls' := [.ref v0, d1, .int v2, .int (v3 + (-(nI 1))), .int (v4 + nI 1), .int v5, .int w0]) (st' := []) (s' := setI (setJ r3.2 (sR s v0 36) ((v3 + (-(nI 1))) - (nI 1)).toNatClampNeg r3.1) v0 37 (if r4 = (nI 0) then nI 1 else nI 0)) rfl ⟨trivial, g24⟩ ?_
          exact H10 h
        refine icases (fun c25 => ?_) (fun c25 => ?_)
        · exact Ev_blk 2 (pc' := 263) (ls' := [.ref v0, d1, .int v2, .int (v3 + (-(nI 1))), .int (v4 + nI 1), .int v5, .int w0]) (st' := [.int (nI 1), .ref v0]) (s' := setJ r3.2 (sR s v0 36) ((v3 + (-(nI 1))) - (nI 1)).toNatClampNeg r3.1) rfl trivial (by simpa only [if_pos c25] using k23_)
        · exact Ev_blk 1 (pc' := 263) (ls' := [.ref v0, d1, .int v2, .int (v3 + (-(nI 1))), .int (v4 + nI 1), .int v5, .int w0]) (st' := [.int (nI 0), .ref v0]) (s' := setJ r3.2 (sR s v0 36) ((v3 + (-(nI 1))) - (nI 1)).toNatClampNeg r3.1) rfl trivial (by simpa only [if_neg c25] using k23_)
      · refine gd h (fun g26 h => ?_)
        refine Ev_blk 5 (pc' := 10) (ls' := [.ref v0, d1, .int v2, .int (v3 + (-(nI 1))), .int (v4 + nI 1), .int v5, .int w0]) (st' := []) (s' := setI (setJ r3.2 (sR s v0 36) ((v3 + (-(nI 1))) - (nI 1)).toNatClampNeg r3.1) v0 37 (nI 1)) rfl ⟨trivial, g26⟩ ?_
        exact H10 h
    · refine Ev_blk 3 (pc' := if v5 = (nI 28) then 276 else 297) (ls' := [.ref v0, d1, .int v2, .int v3, .int (v4 + nI 1), .int v5, .int w0]) (st' := []) (s' := s) rfl trivial ?_
      refine ib h (fun c27 h => ?_) (fun c27 h => ?_)
      · refine gd h (fun g28 h => ?_)
        refine gd h (fun g29 h => ?_)
        refine Ev_blk 16 (pc' := 10) (ls' := [.ref v0, d1, .int v2, .int v3, .int (v4 + nI 1), .int v5, .int w0]) (st' := []) (s' := setJ s (sR s v0 36) (v3 - (nI 1)).toNatClampNeg ((lN 1) - (sL s (sR s v0 36) (v3 - (nI 1)).toNatClampNeg))) rfl ⟨⟨⟨⟨trivial, g28⟩, g28⟩, g29⟩, g29⟩ ?_
        exact H10 h
      · refine gd h (fun g30 h => ?_)
        refine gd h (fun g31 h => ?_)
        refine Ev_blk 9 (pc' := if v5 = (nI 29) then 312 else 316) (ls' := [.ref v0, d1, .int v2, .int v3, .int (v4 + nI 1), .int v5, .int w0]) (st' := [.long (sL s (sR s v0 36) (v3 - (nI 1)).toNatClampNeg)]) (s' := s) rfl ⟨⟨trivial, g30⟩, g31⟩ ?_
        have k32_ : Ev 4 mZ196 317 [.ref v0, d1, .int v2, .int v3, .int (v4 + nI 1), .int v5, .int w0] [.long (if v5 = (nI 29) then lN 0 else lN 1), .long (sL s (sR s v0 36) (v3 - (nI 1)).toNatClampNeg)] s (none, o) := by
          exact t_M_reckonAll_317 H10 h
        refine icases (fun c33 => ?_) (fun c33 => ?_)
        · exact Ev_blk 2 (pc' := 317) (ls' := [.ref v0, d1, .int v2, .int v3, .int (v4 + nI 1), .int v5, .int w0]) (st' := [.long (lN 0), .long (sL s (sR s v0 36) (v3 - (nI 1)).toNatClampNeg)]) (s' := s) rfl trivial (by simpa only [if_pos c33] using k32_)
        · exact Ev_blk 1 (pc' := 317) (ls' := [.ref v0, d1, .int v2, .int v3, .int (v4 + nI 1), .int v5, .int w0]) (st' := [.long (lN 1), .long (sL s (sR s v0 36) (v3 - (nI 1)).toNatClampNeg)]) (s' := s) rfl trivial (by simpa only [if_neg c33] using k32_)
def b_M_reckonAll_57 (k10 : Nat → Int32 → Int32 → Int32 → AS → Option AS) (v0 : Nat) (v2 : Int32) (v3 : Int32) (v4 : Int32) (w0 : Int32) (s : AS) : Option AS :=
  if sT s v0 = 13 then
  if (sI s v0 19) = (nI 0) then
    if sT s (sR s v0 3) = 20 ∧ inA ((((sI s v0 33) + (nI 98)) + ((nI 2) * v4)) + (nI 1)) (sN s (sR s v0 3)) then
    b_M_reckonAll_95 k10 v0 v2 v3 v4 w0 (sI s (sR s v0 3) ((((sI s v0 33) + (nI 98)) + ((nI 2) * v4)) + (nI 1)).toNatClampNeg) s
    else none
  else
    if sT s (sR s v0 24) = 20 ∧ inA v4 (sN s (sR s v0 24)) then
    b_M_reckonAll_95 k10 v0 v2 v3 v4 w0 (sI s (sR s v0 24) v4.toNatClampNeg) s
    else none
  else none
theorem t_M_reckonAll_57 {k10 : Nat → Int32 → Int32 → Int32 → AS → Option AS} (H10 : ∀ {d1 d5 d6 : Value} {v0 : Nat} {v2 : Int32} {v3 : Int32} {v4 : Int32} {s : AS} {o : AS}, k10 v0 v2 v3 v4 s = some o → Ev 4 mZ196 10 [.ref v0, d1, .int v2, .int v3, .int v4, d5, d6] [] s (none, o)) {d1 d5 d6 : Value} {v0 : Nat} {v2 : Int32} {v3 : Int32} {v4 : Int32} {w0 : Int32} {s : AS} {o : AS} (h : b_M_reckonAll_57 k10 v0 v2 v3 v4 w0 s = some o) : Ev 4 mZ196 57 [.ref v0, d1, .int v2, .int v3, .int v4, d5, d6] [.int w0] s (none, o) := by
  unfold b_M_reckonAll_57 at h
  refine gd h (fun g1 h => ?_)
  refine Ev_blk 4 (pc' := if (sI s v0 19) = (nI 0) then 76 else 66) (ls' := [.ref v0, d1, .int v2, .int v3, .int v4, .int w0, d6]) (st' := []) (s' := s) rfl ⟨trivial, g1⟩ ?_
  refine ib h (fun c2 h => ?_) (fun c2 h => ?_)
  · refine gd h (fun g3 h => ?_)
    refine Ev_blk 13 (pc' := 95) (ls' := [.ref v0, d1, .int v2, .int v3, .int v4, .int w0, d6]) (st' := [.int (sI s (sR s v0 3) ((((sI s v0 33) + (nI 98)) + ((nI 2) * v4)) + (nI 1)).toNatClampNeg)]) (s' := s) rfl ⟨⟨⟨trivial, g1⟩, g1⟩, ⟨Or.inl g3.1, g3.2⟩⟩ ?_
    exact t_M_reckonAll_95 H10 h
  · refine gd h (fun g4 h => ?_)
    refine Ev_blk 5 (pc' := 95) (ls' := [.ref v0, d1, .int v2, .int v3, .int v4, .int w0, d6]) (st' := [.int (sI s (sR s v0 24) v4.toNatClampNeg)]) (s' := s) rfl ⟨⟨trivial, g1⟩, ⟨Or.inl g4.1, g4.2⟩⟩ ?_
    exact t_M_reckonAll_95 H10 h
def b_M_reckonAll_334  (v0 : Nat) (v3 : Int32) (s : AS) : Option AS :=
  if (nI 0) < v3 then
    if sT s v0 = 13 then
    if sT s (sR s v0 36) = 21 ∧ inA (nI 0) (sN s (sR s v0 36)) then
    some (setJ s v0 38 (sL s (sR s v0 36) (nI 0).toNatClampNeg))
    else none
    else none
  else
    if sT s v0 = 13 then
    some (setJ s v0 38 (lN 0))
    else none
theorem t_M_reckonAll_334   {d1 d2 d4 d5 d6 : Value} {v0 : Nat} {v3 : Int32} {s : AS} {o : AS} (h : b_M_reckonAll_334  v0 v3 s = some o) : Ev 4 mZ196 334 [.ref v0, d1, d2, .int v3, d4, d5, d6] [] s (none, o) := by
  unfold b_M_reckonAll_334 at h
  refine Ev_blk 3 (pc' := if (nI 0) < v3 then 339 else 348) (ls' := [.ref v0, d1, d2, .int v3, d4, d5, d6]) (st' := [.ref v0]) (s' := s) rfl trivial ?_
  refine ib h (fun c1 h => ?_) (fun c1 h => ?_)
  · refine gd h (fun g2 h => ?_)
    refine gd h (fun g3 h => ?_)
    refine Ev_blk 6 (pc' := 352) (ls' := [.ref v0, d1, d2, .int v3, d4, d5, d6]) (st' := []) (s' := setJ s v0 38 (sL s (sR s v0 36) (nI 0).toNatClampNeg)) rfl ⟨⟨⟨trivial, g2⟩, g3⟩, g2⟩ ?_
    cases h
    exact Ev_ret rfl trivial
  · refine gd h (fun g4 h => ?_)
    refine Ev_blk 2 (pc' := 352) (ls' := [.ref v0, d1, d2, .int v3, d4, d5, d6]) (st' := []) (s' := setJ s v0 38 (lN 0)) rfl ⟨trivial, g4⟩ ?_
    cases h
    exact Ev_ret rfl trivial
def b_M_reckonAll_10 (k10 : Nat → Int32 → Int32 → Int32 → AS → Option AS) (v0 : Nat) (v2 : Int32) (v3 : Int32) (v4 : Int32) (s : AS) : Option AS :=
  if v4 < v2 then
    if sT s v0 = 13 then
    if (sI s v0 37) = (nI 0) then
      if (sI s v0 19) = (nI 0) then
        if sT s (sR s v0 3) = 20 ∧ inA (((sI s v0 33) + (nI 98)) + ((nI 2) * v4)) (sN s (sR s v0 3)) then
        b_M_reckonAll_57 k10 v0 v2 v3 v4 (sI s (sR s v0 3) (((sI s v0 33) + (nI 98)) + ((nI 2) * v4)).toNatClampNeg) s
        else none
      else
        if sT s (sR s v0 23) = 20 ∧ inA v4 (sN s (sR s v0 23)) then
        b_M_reckonAll_57 k10 v0 v2 v3 v4 (sI s (sR s v0 23) v4.toNatClampNeg) s
        else none
    else
      b_M_reckonAll_334 v0 v3 s
    else none
  else
    b_M_reckonAll_334 v0 v3 s
theorem t_M_reckonAll_10 {k10 : Nat → Int32 → Int32 → Int32 → AS → Option AS} (H10 : ∀ {d1 d5 d6 : Value} {v0 : Nat} {v2 : Int32} {v3 : Int32} {v4 : Int32} {s : AS} {o : AS}, k10 v0 v2 v3 v4 s = some o → Ev 4 mZ196 10 [.ref v0, d1, .int v2, .int v3, .int v4, d5, d6] [] s (none, o)) {d1 d5 d6 : Value} {v0 : Nat} {v2 : Int32} {v3 : Int32} {v4 : Int32} {s : AS} {o : AS} (h : b_M_reckonAll_10 k10 v0 v2 v3 v4 s = some o) : Ev 4 mZ196 10 [.ref v0, d1, .int v2, .int v3, .int v4, d5, d6] [] s (none, o) := by
  unfold b_M_reckonAll_10 at h
  refine Ev_blk 3 (pc' := if v4 < v2 then 16 else 334) (ls' := [.ref v0, d1, .int v2, .int v3, .int v4, d5, d6]) (st' := []) (s' := s) rfl trivial ?_
  refine ib h (fun c1 h => ?_) (fun c1 h => ?_)
  · refine gd h (fun g2 h => ?_)
    refine Ev_blk 3 (pc' := if (sI s v0 37) = (nI 0) then 23 else 334) (ls' := [.ref v0, d1, .int v2, .int v3, .int v4, d5, d6]) (st' := []) (s' := s) rfl ⟨trivial, g2⟩ ?_
    refine ib h (fun c3 h => ?_) (fun c3 h => ?_)
    · refine Ev_blk 3 (pc' := if (sI s v0 19) = (nI 0) then 40 else 30) (ls' := [.ref v0, d1, .int v2, .int v3, .int v4, d5, d6]) (st' := []) (s' := s) rfl ⟨trivial, g2⟩ ?_
      refine ib h (fun c4 h => ?_) (fun c4 h => ?_)
      · refine gd h (fun g5 h => ?_)
        refine Ev_blk 11 (pc' := 57) (ls' := [.ref v0, d1, .int v2, .int v3, .int v4, d5, d6]) (st' := [.int (sI s (sR s v0 3) (((sI s v0 33) + (nI 98)) + ((nI 2) * v4)).toNatClampNeg)]) (s' := s) rfl ⟨⟨⟨trivial, g2⟩, g2⟩, ⟨Or.inl g5.1, g5.2⟩⟩ ?_
        exact t_M_reckonAll_57 H10 h
      · refine gd h (fun g6 h => ?_)
        refine Ev_blk 5 (pc' := 57) (ls' := [.ref v0, d1, .int v2, .int v3, .int v4, d5, d6]) (st' := [.int (sI s (sR s v0 23) v4.toNatClampNeg)]) (s' := s) rfl ⟨⟨trivial, g2⟩, ⟨Or.inl g6.1, g6.2⟩⟩ ?_
        exact t_M_reckonAll_57 H10 h
    · exact t_M_reckonAll_334 h
  · exact t_M_reckonAll_334 h
def l_M_reckonAll_10  : Nat → Nat → Int32 → Int32 → Int32 → AS → Option AS
  | 0 => fun _ _ _ _ _ => none
  | n + 1 => b_M_reckonAll_10  (l_M_reckonAll_10  n)
theorem u_M_reckonAll_10   {n : Nat} : ∀ {d1 d5 d6 : Value} {v0 : Nat} {v2 : Int32} {v3 : Int32} {v4 : Int32} {s : AS} {o : AS}, l_M_reckonAll_10  n v0 v2 v3 v4 s = some o → Ev 4 mZ196 10 [.ref v0, d1, .int v2, .int v3, .int v4, d5, d6] [] s (none, o) := by
  induction n with
  | zero => intros; rename_i h; cases h
  | succ n ih => intros; rename_i h; exact t_M_reckonAll_10  (fun h => ih h) h
/-- RecordHeapModel.reckonAll(II)V -/
def f_M_reckonAll (s : AS) (a0 : Nat) (a1 : Int32) (a2 : Int32) : Option AS :=
  if sT s a0 = 13 ∧ ((nI 0) = nI 0 ∨ (nI 0) = nI 1) then
  l_M_reckonAll_10 fuel a0 a2 (nI 0) a1 (setI s a0 37 (nI 0))
  else none
theorem t_M_reckonAll {s : AS} {a0 : Nat} {a1 : Int32} {a2 : Int32} {o : AS} (h : f_M_reckonAll s a0 a1 a2 = some o) : Ev 4 mZ196 0 [.ref a0, .int a1, .int a2, .retAddr 0, .retAddr 0, .retAddr 0, .retAddr 0] [] s (none, o) := by
  unfold f_M_reckonAll at h
  refine gd h (fun g1 h => ?_)
  refine Ev_blk 7 (pc' := 10) (ls' := [.ref a0, .int a1, .int a2, .int (nI 0), .int a1, .retAddr 0, .retAddr 0]) (st' := []) (s' := setI s a0 37 (nI 0)) rfl ⟨trivial, g1⟩ ?_
  exact u_M_reckonAll_10 h

def b_M_isSo_59  (v0 : Nat) (v1 : Int32) (s : AS) : Option (Int32 × AS) :=
  if sT s v0 = 13 then
  if sT s (sR s v0 3) = 20 ∧ inA v1 (sN s (sR s v0 3)) then
  if (sI s (sR s v0 3) v1.toNatClampNeg) = (nI 0) then
    if sT s (sR s v0 3) = 20 ∧ inA (v1 + (nI 3)) (sN s (sR s v0 3)) then
    if sT s (sR s v0 3) = 20 ∧ inA (v1 + (nI 4)) (sN s (sR s v0 3)) then
    (f_M_reckonAll s v0 (sI s (sR s v0 3) (v1 + (nI 3)).toNatClampNeg) (sI s (sR s v0 3) (v1 + (nI 4)).toNatClampNeg)).bind fun r1 =>
    if sT r1 v0 = 13 then
      some ((if (sI r1 v0 37) = (nI 0) then nI 1 else nI 0), setJ r1 v0 39 (sL r1 v0 38))
    else none
    else none
    else none
  else
    some (nI 1, s)
  else none
  else none
theorem t_M_isSo_59    {v0 : Nat} {v1 : Int32} {s : AS} {o : Int32 × AS} (h : b_M_isSo_59  v0 v1 s = some o) : Ev 5 mZ195 59 [.ref v0, .int v1] [] s (some (.int o.1), o.2) := by
  unfold b_M_isSo_59 at h
  refine gd h (fun g1 h => ?_)
  refine gd h (fun g2 h => ?_)
  refine Ev_blk 5 (pc' := if (sI s (sR s v0 3) v1.toNatClampNeg) = (nI 0) then 68 else 109) (ls' := [.ref v0, .int v1]) (st' := []) (s' := s) rfl ⟨⟨trivial, g1⟩, ⟨Or.inl g2.1, g2.2⟩⟩ ?_
  refine ib h (fun c3 h => ?_) (fun c3 h => ?_)
  · refine gd h (fun g4 h => ?_)
    refine gd h (fun g5 h => ?_)
    refine Ev_blk 13 (pc' := 85) (ls' := [.ref v0, .int v1]) (st' := [.int (sI s (sR s v0 3) (v1 + (nI 4)).toNatClampNeg), .int (sI s (sR s v0 3) (v1 + (nI 3)).toNatClampNeg), .ref v0]) (s' := s) rfl ⟨⟨⟨⟨trivial, g1⟩, ⟨Or.inl g4.1, g4.2⟩⟩, g1⟩, ⟨Or.inl g5.1, g5.2⟩⟩ ?_
    refine bd h (fun r1 hr1 h => ?_)
    refine Ev_call 2 196 2 [.ref v0, .int (sI s (sR s v0 3) (v1 + (nI 3)).toNatClampNeg), .int (sI s (sR s v0 3) (v1 + (nI 4)).toNatClampNeg)] [] rfl rfl rfl rfl g1 rfl rfl (Nat.le_of_ble_eq_true rfl) (t_M_reckonAll hr1) ?_
    refine gd h (fun g6 h => ?_)
    refine Ev_blk 7 (pc' := if (sI r1 v0 37) = (nI 0) then 103 else 107) (ls' := [.ref v0, .int v1]) (st' := []) (s' := setJ r1 v0 39 (sL r1 v0 38)) rfl ⟨⟨⟨trivial, g6⟩, g6⟩, g6⟩ ?_
    have k7_ : Ev 5 mZ195 108 [.ref v0, .int v1] [.int (if (sI r1 v0 37) = (nI 0) then nI 1 else nI 0)] (setJ r1 v0 39 (sL r1 v0 38)) (some (.int o.1), o.2) := by
      cases h
      exact Ev_ret rfl (by (repeat' split) <;> first | exact Or.inl rfl | exact Or.inr rfl)
    refine icases (fun c8 => ?_) (fun c8 => ?_)
    · exact Ev_blk 2 (pc' := 108) (ls' := [.ref v0, .int v1]) (st' := [.int (nI 1)]) (s' := setJ r1 v0 39 (sL r1 v0 38)) rfl trivial (by simpa only [if_pos c8] using k7_)
    · exact Ev_blk 1 (pc' := 108) (ls' := [.ref v0, .int v1]) (st' := [.int (nI 0)]) (s' := setJ r1 v0 39 (sL r1 v0 38)) rfl trivial (by simpa only [if_neg c8] using k7_)
  · refine Ev_blk 1 (pc' := 110) (ls' := [.ref v0, .int v1]) (st' := [.int (nI 1)]) (s' := s) rfl trivial ?_
    cases h
    exact Ev_ret rfl (Or.inr rfl)
/-- RecordHeapModel.isSo(I)Z -/
def f_M_isSo (s : AS) (a0 : Nat) (a1 : Int32) : Option (Int32 × AS) :=
  if sT s a0 = 13 then
  if sT s (sR s a0 3) = 20 ∧ inA (a1 + (nI 5)) (sN s (sR s a0 3)) then
  if sT s (sR s a0 3) = 20 ∧ inA (a1 + (nI 6)) (sN s (sR s a0 3)) then
  if (sI s (sR s a0 3) (a1 + (nI 5)).toNatClampNeg) < (sI s (sR s a0 3) (a1 + (nI 6)).toNatClampNeg) then
    (f_M_reckonAll s a0 (sI s (sR s a0 3) (a1 + (nI 5)).toNatClampNeg) (sI s (sR s a0 3) (a1 + (nI 6)).toNatClampNeg)).bind fun r1 =>
    if sT r1 a0 = 13 then
    if (sI r1 a0 37) = (nI 0) then
      if (lg_cmp (sL r1 a0 38) (lN 0)) = (nI 0) then
        some (nI 0, r1)
      else
        b_M_isSo_59 a0 a1 r1
    else
      some (nI 0, r1)
    else none
  else
    b_M_isSo_59 a0 a1 s
  else none
  else none
  else none
theorem t_M_isSo {s : AS} {a0 : Nat} {a1 : Int32} {o : Int32 × AS} (h : f_M_isSo s a0 a1 = some o) : Ev 5 mZ195 0 [.ref a0, .int a1] [] s (some (.int o.1), o.2) := by
  unfold f_M_isSo at h
  refine gd h (fun g1 h => ?_)
  refine gd h (fun g2 h => ?_)
  refine gd h (fun g3 h => ?_)
  refine Ev_blk 13 (pc' := if (sI s (sR s a0 3) (a1 + (nI 5)).toNatClampNeg) < (sI s (sR s a0 3) (a1 + (nI 6)).toNatClampNeg) then 20 else 59) (ls' := [.ref a0, .int a1]) (st' := []) (s' := s) rfl ⟨⟨⟨⟨trivial, g1⟩, ⟨Or.inl g2.1, g2.2⟩⟩, g1⟩, ⟨Or.inl g3.1, g3.2⟩⟩ ?_
  refine ib h (fun c4 h => ?_) (fun c4 h => ?_)
  · refine Ev_blk 13 (pc' := 38) (ls' := [.ref a0, .int a1]) (st' := [.int (sI s (sR s a0 3) (a1 + (nI 6)).toNatClampNeg), .int (sI s (sR s a0 3) (a1 + (nI 5)).toNatClampNeg), .ref a0]) (s' := s) rfl ⟨⟨⟨⟨trivial, g1⟩, ⟨Or.inl g2.1, g2.2⟩⟩, g1⟩, ⟨Or.inl g3.1, g3.2⟩⟩ ?_
    refine bd h (fun r1 hr1 h => ?_)
    refine Ev_call 2 196 2 [.ref a0, .int (sI s (sR s a0 3) (a1 + (nI 5)).toNatClampNeg), .int (sI s (sR s a0 3) (a1 + (nI 6)).toNatClampNeg)] [] rfl rfl rfl rfl g1 rfl rfl (Nat.le_of_ble_eq_true rfl) (t_M_reckonAll hr1) ?_
    refine gd h (fun g5 h => ?_)
    refine Ev_blk 3 (pc' := if (sI r1 a0 37) = (nI 0) then 48 else 57) (ls' := [.ref a0, .int a1]) (st' := []) (s' := r1) rfl ⟨trivial, g5⟩ ?_
    refine ib h (fun c6 h => ?_) (fun c6 h => ?_)
    · refine Ev_blk 5 (pc' := if (lg_cmp (sL r1 a0 38) (lN 0)) = (nI 0) then 57 else 59) (ls' := [.ref a0, .int a1]) (st' := []) (s' := r1) rfl ⟨trivial, g5⟩ ?_
      refine ib h (fun c7 h => ?_) (fun c7 h => ?_)
      · refine Ev_blk 1 (pc' := 58) (ls' := [.ref a0, .int a1]) (st' := [.int (nI 0)]) (s' := r1) rfl trivial ?_
        cases h
        exact Ev_ret rfl (Or.inl rfl)
      · exact t_M_isSo_59 h
    · refine Ev_blk 1 (pc' := 58) (ls' := [.ref a0, .int a1]) (st' := [.int (nI 0)]) (s' := r1) rfl trivial ?_
      cases h
      exact Ev_ret rfl (Or.inl rfl)
  · exact t_M_isSo_59 h

def b_M_tells_130 (k130 : Nat → Int32 → Int64 → Int32 → AS → Option (Int64 × AS)) (v0 : Nat) (v1 : Int32) (v6 : Int64) (v8 : Int32) (s : AS) : Option (Int64 × AS) :=
  if sT s v0 = 13 then
  if sT s (sR s v0 3) = 20 ∧ inA ((sI s v0 33) + (nI 1)) (sN s (sR s v0 3)) then
  if v8 < (sI s (sR s v0 3) ((sI s v0 33) + (nI 1)).toNatClampNeg) then
    if sT s (sR s v0 3) = 20 ∧ inA (((sI s v0 33) + (nI 2)) + ((nI 8) * v8)) (sN s (sR s v0 3)) then
    if (sI s (sR s v0 3) (((sI s v0 33) + (nI 2)) + ((nI 8) * v8)).toNatClampNeg) = v1 then
      (f_M_isSo s v0 (((sI s v0 33) + (nI 2)) + ((nI 8) * v8))).bind fun r1 =>
      if r1.1 = (nI 0) then
        k130 v0 v1 v6 (v8 + nI 1) r1.2
      else
        if v1 = (nI 0) then
          if sT r1.2 v0 = 13 then
          k130 v0 v1 (sL r1.2 v0 39) (v8 + nI 1) r1.2
          else none
        else
          k130 v0 v1 (lN 1) (v8 + nI 1) r1.2
    else
      k130 v0 v1 v6 (v8 + nI 1) s
    else none
  else
    some (v6, s)
  else none
  else none
theorem t_M_tells_130 {k130 : Nat → Int32 → Int64 → Int32 → AS → Option (Int64 × AS)} (H130 : ∀ {d2 d3 d4 d5 d7 d9 : Value} {v0 : Nat} {v1 : Int32} {v6 : Int64} {v8 : Int32} {s : AS} {o : Int64 × AS}, k130 v0 v1 v6 v8 s = some o → Ev 6 mZ193 130 [.ref v0, .int v1, d2, d3, d4, d5, .long v6, d7, .int v8, d9] [] s (some (.long o.1), o.2)) {d2 d3 d4 d5 d7 d9 : Value} {v0 : Nat} {v1 : Int32} {v6 : Int64} {v8 : Int32} {s : AS} {o : Int64 × AS} (h : b_M_tells_130 k130 v0 v1 v6 v8 s = some o) : Ev 6 mZ193 130 [.ref v0, .int v1, d2, d3, d4, d5, .long v6, d7, .int v8, d9] [] s (some (.long o.1), o.2) := by
  unfold b_M_tells_130 at h
  refine gd h (fun g1 h => ?_)
  refine gd h (fun g2 h => ?_)
  refine Ev_blk 9 (pc' := if v8 < (sI s (sR s v0 3) ((sI s v0 33) + (nI 1)).toNatClampNeg) then 146 else 200) (ls' := [.ref v0, .int v1, d2, d3, d4, d5, .long v6, d7, .int v8, d9]) (st' := []) (s' := s) rfl ⟨⟨⟨trivial, g1⟩, g1⟩, ⟨Or.inl g2.1, g2.2⟩⟩ ?_
  refine ib h (fun c3 h => ?_) (fun c3 h => ?_)
  · refine gd h (fun g4 h => ?_)
    refine Ev_blk 15 (pc' := if (sI s (sR s v0 3) (((sI s v0 33) + (nI 2)) + ((nI 8) * v8)).toNatClampNeg) = v1 then 171 else 194) (ls' := [.ref v0, .int v1, d2, d3, d4, d5, .long v6, d7, .int v8, .int (((sI s v0 33) + (nI 2)) + ((nI 8) * v8))]) (st' := []) (s' := s) rfl ⟨⟨⟨trivial, g1⟩, g1⟩, ⟨Or.inl g4.1, g4.2⟩⟩ ?_
    refine ib h (fun c5 h => ?_) (fun c5 h => ?_)
    · refine Ev_blk 2 (pc' := 174) (ls' := [.ref v0, .int v1, d2, d3, d4, d5, .long v6, d7, .int v8, .int (((sI s v0 33) + (nI 2)) + ((nI 8) * v8))]) (st' := [.int (((sI s v0 33) + (nI 2)) + ((nI 8) * v8)), .ref v0]) (s' := s) rfl trivial ?_
      refine bd h (fun r1 hr1 h => ?_)
      refine Ev_call 2 195 1 [.ref v0, .int (((sI s v0 33) + (nI 2)) + ((nI 8) * v8))] [] rfl rfl rfl rfl g1 rfl rfl (Nat.le_of_ble_eq_true rfl) (t_M_isSo hr1) ?_
      refine Ev_blk 1 (pc' := if r1.1 = (nI 0) then 194 else 180) (ls' := [.ref v0, .int v1, d2, d3, d4, d5, .long v6, d7, .int v8, .int (((sI s v0 33) + (nI 2)) + ((nI 8) * v8))]) (st' := []) (s' := r1.2) rfl trivial ?_
      refine ib h (fun c6 h => ?_) (fun c6 h => ?_)
      · refine Ev_blk 2 (pc' := 130) (ls' := [.ref v0, .int v1, d2, d3, d4, d5, .long v6, (clrV d7), .int (v8 + nI 1), .int (((sI s v0 33) + (nI 2)) + ((nI 8) * v8))]) (st' := []) (s' := r1.2) rfl trivial ?_
        exact H130 h
      · refine Ev_blk 2 (pc' := if v1 = (nI 0) then 184 else 191) (ls' := [.ref v0, .int v1, d2, d3, d4, d5, .long v6, d7, .int v8, .int (((sI s v0 33) + (nI 2)) + ((nI 8) * v8))]) (st' := []) (s' := r1.2) rfl trivial ?_
        refine ib h (fun c7 h => ?_) (fun c7 h => ?_)
        · refine gd h (fun g8 h => ?_)
          refine Ev_blk 6 (pc' := 130) (ls' := [.ref v0, .int v1, d2, d3, d4, (clrV d5), .long (sL r1.2 v0 39), .retAddr 0, .int (v8 + nI 1), .int (((sI s v0 33) + (nI 2)) + ((nI 8) * v8))]) (st' := []) (s' := r1.2) rfl ⟨trivial, g8⟩ ?_
          exact H130 h
        · refine Ev_blk 4 (pc' := 130) (ls' := [.ref v0, .int v1, d2, d3, d4, (clrV d5), .long (lN 1), .retAddr 0, .int (v8 + nI 1), .int (((sI s v0 33) + (nI 2)) + ((nI 8) * v8))]) (st' := []) (s' := r1.2) rfl trivial ?_
          exact H130 h
    · refine Ev_blk 2 (pc' := 130) (ls' := [.ref v0, .int v1, d2, d3, d4, d5, .long v6, (clrV d7), .int (v8 + nI 1), .int (((sI s v0 33) + (nI 2)) + ((nI 8) * v8))]) (st' := []) (s' := s) rfl trivial ?_
      exact H130 h
  · refine Ev_blk 1 (pc' := 202) (ls' := [.ref v0, .int v1, d2, d3, d4, d5, .long v6, d7, .int v8, d9]) (st' := [.long v6]) (s' := s) rfl trivial ?_
    cases h
    exact Ev_ret rfl trivial
def l_M_tells_130  : Nat → Nat → Int32 → Int64 → Int32 → AS → Option (Int64 × AS)
  | 0 => fun _ _ _ _ _ => none
  | n + 1 => b_M_tells_130  (l_M_tells_130  n)
theorem u_M_tells_130   {n : Nat} : ∀ {d2 d3 d4 d5 d7 d9 : Value} {v0 : Nat} {v1 : Int32} {v6 : Int64} {v8 : Int32} {s : AS} {o : Int64 × AS}, l_M_tells_130  n v0 v1 v6 v8 s = some o → Ev 6 mZ193 130 [.ref v0, .int v1, d2, d3, d4, d5, .long v6, d7, .int v8, d9] [] s (some (.long o.1), o.2) := by
  induction n with
  | zero => intros; rename_i h; cases h
  | succ n ih => intros; rename_i h; exact t_M_tells_130  (fun h => ih h) h
/-- RecordHeapModel.tells(IIIJ)J -/
def f_M_tells (s : AS) (a0 : Nat) (a1 : Int32) (a2 : Int32) (a3 : Int32) (a4 : Int64) : Option (Int64 × AS) :=
  if sT s a0 = 13 then
  if sT s (sR s a0 3) = 20 ∧ inA (nI 1) (sN s (sR s a0 3)) then
  if (sI s (sR s a0 3) (nI 1).toNatClampNeg) = (-(nI 1)) then
    some (a4, s)
  else
    if sT s (sR s a0 34) = 21 ∧ inA (nI 1) (sN s (sR s a0 34)) then
    if sT s (sR s a0 34) = 21 ∧ inA (nI 2) (sN s (sR s a0 34)) then
    (f_M_freeOf (setJ (setJ (setI s a0 33 ((nI 821) + ((nI 900) * (sI s (sR s a0 3) (nI 1).toNatClampNeg)))) (sR s a0 34) (nI 1).toNatClampNeg a2.toInt64) (sR s a0 34) (nI 2).toNatClampNeg a3.toInt64) a0 a2).bind fun r1 =>
    if sT s (sR s a0 34) = 21 ∧ inA (nI 3) (sN s (sR s a0 34)) then
    (f_M_pageAt (setJ (setJ (setJ (setI s a0 33 ((nI 821) + ((nI 900) * (sI s (sR s a0 3) (nI 1).toNatClampNeg)))) (sR s a0 34) (nI 1).toNatClampNeg a2.toInt64) (sR s a0 34) (nI 2).toNatClampNeg a3.toInt64) (sR s a0 34) (nI 3).toNatClampNeg r1.toInt64) a2).bind fun r2 =>
    if sT s (sR s a0 3) = 20 ∧ inA (r2 + (nI 0)) (sN s (sR s a0 3)) then
    if sT s (sR s a0 34) = 21 ∧ inA (nI 4) (sN s (sR s a0 34)) then
    (f_M_pageAt (setJ (setJ (setJ (setJ (setI s a0 33 ((nI 821) + ((nI 900) * (sI s (sR s a0 3) (nI 1).toNatClampNeg)))) (sR s a0 34) (nI 1).toNatClampNeg a2.toInt64) (sR s a0 34) (nI 2).toNatClampNeg a3.toInt64) (sR s a0 34) (nI 3).toNatClampNeg r1.toInt64) (sR s a0 34) (nI 4).toNatClampNeg ((sI (setI s a0 33 ((nI 821) + ((nI 900) * (sI s (sR s a0 3) (nI 1).toNatClampNeg)))) (sR s a0 3) (r2 + (nI 0)).toNatClampNeg).toInt64)) a2).bind fun r3 =>
    if sT s (sR s a0 3) = 20 ∧ inA (r3 + (nI 1)) (sN s (sR s a0 3)) then
    if sT s (sR s a0 34) = 21 ∧ inA (nI 5) (sN s (sR s a0 34)) then
    if sT s (sR s a0 3) = 20 ∧ inA (nI 2) (sN s (sR s a0 3)) then
    if sT s (sR s a0 34) = 21 ∧ inA (nI 6) (sN s (sR s a0 34)) then
    if sT s (sR s a0 3) = 20 ∧ inA (nI 4) (sN s (sR s a0 3)) then
    if sT s (sR s a0 34) = 21 ∧ inA (nI 7) (sN s (sR s a0 34)) then
    l_M_tells_130 fuel a0 a1 a4 (nI 0) (setJ (setJ (setJ (setJ (setJ (setJ (setJ (setI s a0 33 ((nI 821) + ((nI 900) * (sI s (sR s a0 3) (nI 1).toNatClampNeg)))) (sR s a0 34) (nI 1).toNatClampNeg a2.toInt64) (sR s a0 34) (nI 2).toNatClampNeg a3.toInt64) (sR s a0 34) (nI 3).toNatClampNeg r1.toInt64) (sR s a0 34) (nI 4).toNatClampNeg ((sI (setI s a0 33 ((nI 821) + ((nI 900) * (sI s (sR s a0 3) (nI 1).toNatClampNeg)))) (sR s a0 3) (r2 + (nI 0)).toNatClampNeg).toInt64)) (sR s a0 34) (nI 5).toNatClampNeg ((sI (setI s a0 33 ((nI 821) + ((nI 900) * (sI s (sR s a0 3) (nI 1).toNatClampNeg)))) (sR s a0 3) (r3 + (nI 1)).toNatClampNeg).toInt64)) (sR s a0 34) (nI 6).toNatClampNeg ((sI (setI s a0 33 ((nI 821) + ((nI 900) * (sI s (sR s a0 3) (nI 1).toNatClampNeg)))) (sR s a0 3) (nI 2).toNatClampNeg).toInt64)) (sR s a0 34) (nI 7).toNatClampNeg ((sI (setI s a0 33 ((nI 821) + ((nI 900) * (sI s (sR s a0 3) (nI 1).toNatClampNeg)))) (sR s a0 3) (nI 4).toNatClampNeg).toInt64))
    else none
    else none
    else none
    else none
    else none
    else none
    else none
    else none
    else none
    else none
    else none
  else none
  else none
theorem t_M_tells {s : AS} {a0 : Nat} {a1 : Int32} {a2 : Int32} {a3 : Int32} {a4 : Int64} {o : Int64 × AS} (h : f_M_tells s a0 a1 a2 a3 a4 = some o) : Ev 6 mZ193 0 [.ref a0, .int a1, .int a2, .int a3, .long a4, .retAddr 0, .retAddr 0, .retAddr 0, .retAddr 0, .retAddr 0] [] s (some (.long o.1), o.2) := by
  unfold f_M_tells at h
  refine gd h (fun g1 h => ?_)
  refine gd h (fun g2 h => ?_)
  refine Ev_blk 6 (pc' := if (sI s (sR s a0 3) (nI 1).toNatClampNeg) = (-(nI 1)) then 10 else 13) (ls' := [.ref a0, .int a1, .int a2, .int a3, .long a4, .retAddr 0, .retAddr 0, .retAddr 0, .retAddr 0, .retAddr 0]) (st' := []) (s' := s) rfl ⟨⟨trivial, g1⟩, ⟨Or.inl g2.1, g2.2⟩⟩ ?_
  refine ib h (fun c3 h => ?_) (fun c3 h => ?_)
  · refine Ev_blk 1 (pc' := 12) (ls' := [.ref a0, .int a1, .int a2, .int a3, .long a4, .retAddr 0, .retAddr 0, .retAddr 0, .retAddr 0, .retAddr 0]) (st' := [.long a4]) (s' := s) rfl trivial ?_
    cases h
    exact Ev_ret rfl trivial
  · refine gd h (fun g4 h => ?_)
    refine gd h (fun g5 h => ?_)
    refine Ev_blk 27 (pc' := 54) (ls' := [.ref a0, .int a1, .int a2, .int a3, .long a4, .retAddr 0, .retAddr 0, .retAddr 0, .retAddr 0, .retAddr 0]) (st' := [.int a2, .ref a0, .int (nI 3), .ref (sR s a0 34)]) (s' := setJ (setJ (setI s a0 33 ((nI 821) + ((nI 900) * (sI s (sR s a0 3) (nI 1).toNatClampNeg)))) (sR s a0 34) (nI 1).toNatClampNeg a2.toInt64) (sR s a0 34) (nI 2).toNatClampNeg a3.toInt64) rfl ⟨⟨⟨⟨⟨⟨⟨⟨trivial, g1⟩, ⟨Or.inl g2.1, g2.2⟩⟩, g1⟩, g1⟩, g4⟩, g1⟩, g5⟩, g1⟩ ?_
    refine bd h (fun r1 hr1 h => ?_)
    refine Ev_call 2 194 1 [.ref a0, .int a2] [.int (nI 3), .ref (sR s a0 34)] rfl rfl rfl rfl g1 rfl rfl (Nat.le_of_ble_eq_true rfl) (t_M_freeOf hr1) ?_
    refine gd h (fun g6 h => ?_)
    refine Ev_blk 8 (pc' := 69) (ls' := [.ref a0, .int a1, .int a2, .int a3, .long a4, .retAddr 0, .retAddr 0, .retAddr 0, .retAddr 0, .retAddr 0]) (st' := [.int a2, .ref (sR s a0 3), .int (nI 4), .ref (sR s a0 34)]) (s' := setJ (setJ (setJ (setI s a0 33 ((nI 821) + ((nI 900) * (sI s (sR s a0 3) (nI 1).toNatClampNeg)))) (sR s a0 34) (nI 1).toNatClampNeg a2.toInt64) (sR s a0 34) (nI 2).toNatClampNeg a3.toInt64) (sR s a0 34) (nI 3).toNatClampNeg r1.toInt64) rfl ⟨⟨⟨trivial, g6⟩, g1⟩, g1⟩ ?_
    refine bd h (fun r2 hr2 h => ?_)
    refine Ev_call 1 140 1 [.int a2] [.ref (sR s a0 3), .int (nI 4), .ref (sR s a0 34)] rfl rfl rfl rfl trivial rfl rfl (Nat.le_of_ble_eq_true rfl) (t_M_pageAt hr2) ?_
    refine gd h (fun g7 h => ?_)
    refine gd h (fun g8 h => ?_)
    refine Ev_blk 11 (pc' := 87) (ls' := [.ref a0, .int a1, .int a2, .int a3, .long a4, .retAddr 0, .retAddr 0, .retAddr 0, .retAddr 0, .retAddr 0]) (st' := [.int a2, .ref (sR s a0 3), .int (nI 5), .ref (sR s a0 34)]) (s' := setJ (setJ (setJ (setJ (setI s a0 33 ((nI 821) + ((nI 900) * (sI s (sR s a0 3) (nI 1).toNatClampNeg)))) (sR s a0 34) (nI 1).toNatClampNeg a2.toInt64) (sR s a0 34) (nI 2).toNatClampNeg a3.toInt64) (sR s a0 34) (nI 3).toNatClampNeg r1.toInt64) (sR s a0 34) (nI 4).toNatClampNeg ((sI (setI s a0 33 ((nI 821) + ((nI 900) * (sI s (sR s a0 3) (nI 1).toNatClampNeg)))) (sR s a0 3) (r2 + (nI 0)).toNatClampNeg).toInt64)) rfl ⟨⟨⟨⟨trivial, ⟨Or.inl g7.1, g7.2⟩⟩, g8⟩, g1⟩, g1⟩ ?_
    refine bd h (fun r3 hr3 h => ?_)
    refine Ev_call 1 140 1 [.int a2] [.ref (sR s a0 3), .int (nI 5), .ref (sR s a0 34)] rfl rfl rfl rfl trivial rfl rfl (Nat.le_of_ble_eq_true rfl) (t_M_pageAt hr3) ?_
    refine gd h (fun g9 h => ?_)
    refine gd h (fun g10 h => ?_)
    refine gd h (fun g11 h => ?_)
    refine gd h (fun g12 h => ?_)
    refine gd h (fun g13 h => ?_)
    refine gd h (fun g14 h => ?_)
    refine Ev_blk 27 (pc' := 130) (ls' := [.ref a0, .int a1, .int a2, .int a3, .long a4, .retAddr 0, .long a4, .retAddr 0, .int (nI 0), .retAddr 0]) (st' := []) (s' := setJ (setJ (setJ (setJ (setJ (setJ (setJ (setI s a0 33 ((nI 821) + ((nI 900) * (sI s (sR s a0 3) (nI 1).toNatClampNeg)))) (sR s a0 34) (nI 1).toNatClampNeg a2.toInt64) (sR s a0 34) (nI 2).toNatClampNeg a3.toInt64) (sR s a0 34) (nI 3).toNatClampNeg r1.toInt64) (sR s a0 34) (nI 4).toNatClampNeg ((sI (setI s a0 33 ((nI 821) + ((nI 900) * (sI s (sR s a0 3) (nI 1).toNatClampNeg)))) (sR s a0 3) (r2 + (nI 0)).toNatClampNeg).toInt64)) (sR s a0 34) (nI 5).toNatClampNeg ((sI (setI s a0 33 ((nI 821) + ((nI 900) * (sI s (sR s a0 3) (nI 1).toNatClampNeg)))) (sR s a0 3) (r3 + (nI 1)).toNatClampNeg).toInt64)) (sR s a0 34) (nI 6).toNatClampNeg ((sI (setI s a0 33 ((nI 821) + ((nI 900) * (sI s (sR s a0 3) (nI 1).toNatClampNeg)))) (sR s a0 3) (nI 2).toNatClampNeg).toInt64)) (sR s a0 34) (nI 7).toNatClampNeg ((sI (setI s a0 33 ((nI 821) + ((nI 900) * (sI s (sR s a0 3) (nI 1).toNatClampNeg)))) (sR s a0 3) (nI 4).toNatClampNeg).toInt64)) rfl ⟨⟨⟨⟨⟨⟨⟨⟨⟨⟨trivial, ⟨Or.inl g9.1, g9.2⟩⟩, g10⟩, g1⟩, g1⟩, ⟨Or.inl g11.1, g11.2⟩⟩, g12⟩, g1⟩, g1⟩, ⟨Or.inl g13.1, g13.2⟩⟩, g14⟩ ?_
    exact u_M_tells_130 h

/-- RecordHeapModel.bounded(JII)I -/
def f_M_bounded (s : AS) (a0 : Int64) (a1 : Int32) (a2 : Int32) : Option Int32 :=
    some (if (lg_cmp a0 a1.toInt64) < (nI 0) then a1 else (if (nI 0) < (lg_cmp a0 a2.toInt64) then a2 else a0.toInt32))
theorem t_M_bounded {s : AS} {a0 : Int64} {a1 : Int32} {a2 : Int32} {o : Int32} (h : f_M_bounded s a0 a1 a2 = some o) : Ev 0 mZ198 0 [.long a0, .retAddr 0, .int a1, .int a2] [] s (some (.int o), s) := by
  unfold f_M_bounded at h
  refine Ev_blk 5 (pc' := if (lg_cmp a0 a1.toInt64) < (nI 0) then 7 else 11) (ls' := [.long a0, .retAddr 0, .int a1, .int a2]) (st' := []) (s' := s) rfl trivial ?_
  have k1_ : Ev 0 mZ198 24 [.long a0, .retAddr 0, .int a1, .int a2] [.int (if (lg_cmp a0 a1.toInt64) < (nI 0) then a1 else (if (nI 0) < (lg_cmp a0 a2.toInt64) then a2 else a0.toInt32))] s (some (.int o), s) := by
    cases h
    exact Ev_ret rfl trivial
  refine icases (fun c2 => ?_) (fun c2 => ?_)
  · exact Ev_blk 2 (pc' := 24) (ls' := [.long a0, .retAddr 0, .int a1, .int a2]) (st' := [.int a1]) (s' := s) rfl trivial (by simpa only [if_pos c2] using k1_)
  · refine Ev_blk 5 (pc' := if (nI 0) < (lg_cmp a0 a2.toInt64) then 18 else 22) (ls' := [.long a0, .retAddr 0, .int a1, .int a2]) (st' := []) (s' := s) rfl trivial ?_
    refine icases (fun c3 => ?_) (fun c3 => ?_)
    · exact Ev_blk 2 (pc' := 24) (ls' := [.long a0, .retAddr 0, .int a1, .int a2]) (st' := [.int a2]) (s' := s) rfl trivial (by simpa only [if_neg c2, if_pos c3] using k1_)
    · exact Ev_blk 2 (pc' := 24) (ls' := [.long a0, .retAddr 0, .int a1, .int a2]) (st' := [.int a0.toInt32]) (s' := s) rfl trivial (by simpa only [if_neg c2, if_neg c3] using k1_)

def b_M_searchFor_2 (k2 : Nat → Int32 → Int32 → AS → Option (Int32 × AS)) (v0 : Nat) (v1 : Int32) (v2 : Int32) (s : AS) : Option (Int32 × AS) :=
  if v2 < (nI 8) then
    if sT s v0 = 13 then
    (f_M_pageAt s v2).bind fun r1 =>
    if sT s (sR s v0 3) = 20 ∧ inA (r1 + (nI 1)) (sN s (sR s v0 3)) then
    if ¬ (nI 8) = nI 0 then
    if (sI s (sR s v0 3) (r1 + (nI 1)).toNatClampNeg) < ((v1 + (nI 9)) / (nI 8)) then
      k2 v0 v1 (v2 + nI 1) s
    else
      (f_M_slotFor s v0 v2).bind fun r2 =>
      if r2 = (-(nI 1)) then
        k2 v0 v1 (v2 + nI 1) s
      else
        (f_M_tells s v0 (nI 1) v2 v1 (lN 0)).bind fun r3 =>
        if (lg_cmp r3.1 (lN 0)) = (nI 0) then
          if sT r3.2 v0 = 13 then
          (f_M_freeOf r3.2 v0 v2).bind fun r4 =>
          (f_M_tells r3.2 v0 (nI 0) v2 v1 (lN 0)).bind fun r5 =>
          (f_M_bounded r5.2 r5.1 (nI 0) (nI 64)).bind fun r6 =>
          if ((r4 - v1) - (nI 2)) < r6 then
            k2 v0 v1 (v2 + nI 1) r5.2
          else
            some (v2, r5.2)
          else none
        else
          k2 v0 v1 (v2 + nI 1) r3.2
    else none
    else none
    else none
  else
    some (-(nI 1), s)
theorem t_M_searchFor_2 {k2 : Nat → Int32 → Int32 → AS → Option (Int32 × AS)} (H2 : ∀ {v0 : Nat} {v1 : Int32} {v2 : Int32} {s : AS} {o : Int32 × AS}, k2 v0 v1 v2 s = some o → Ev 7 mZ188 2 [.ref v0, .int v1, .int v2] [] s (some (.int o.1), o.2))  {v0 : Nat} {v1 : Int32} {v2 : Int32} {s : AS} {o : Int32 × AS} (h : b_M_searchFor_2 k2 v0 v1 v2 s = some o) : Ev 7 mZ188 2 [.ref v0, .int v1, .int v2] [] s (some (.int o.1), o.2) := by
  unfold b_M_searchFor_2 at h
  refine Ev_blk 3 (pc' := if v2 < (nI 8) then 8 else 85) (ls' := [.ref v0, .int v1, .int v2]) (st' := []) (s' := s) rfl trivial ?_
  refine ib h (fun c1 h => ?_) (fun c1 h => ?_)
  · refine gd h (fun g2 h => ?_)
    refine Ev_blk 3 (pc' := 13) (ls' := [.ref v0, .int v1, .int v2]) (st' := [.int v2, .ref (sR s v0 3)]) (s' := s) rfl ⟨trivial, g2⟩ ?_
    refine bd h (fun r1 hr1 h => ?_)
    refine Ev_call 1 140 1 [.int v2] [.ref (sR s v0 3)] rfl rfl rfl rfl trivial rfl rfl (Nat.le_of_ble_eq_true rfl) (t_M_pageAt hr1) ?_
    refine gd h (fun g3 h => ?_)
    refine gd h (fun g4 h => ?_)
    refine Ev_blk 9 (pc' := if (sI s (sR s v0 3) (r1 + (nI 1)).toNatClampNeg) < ((v1 + (nI 9)) / (nI 8)) then 79 else 29) (ls' := [.ref v0, .int v1, .int v2]) (st' := []) (s' := s) rfl ⟨⟨trivial, ⟨Or.inl g3.1, g3.2⟩⟩, g4⟩ ?_
    refine ib h (fun c5 h => ?_) (fun c5 h => ?_)
    · refine Ev_blk 2 (pc' := 2) (ls' := [.ref v0, .int v1, .int (v2 + nI 1)]) (st' := []) (s' := s) rfl trivial ?_
      exact H2 h
    · refine Ev_blk 2 (pc' := 31) (ls' := [.ref v0, .int v1, .int v2]) (st' := [.int v2, .ref v0]) (s' := s) rfl trivial ?_
      refine bd h (fun r2 hr2 h => ?_)
      refine Ev_call 2 189 1 [.ref v0, .int v2] [] rfl rfl rfl rfl g2 rfl rfl (Nat.le_of_ble_eq_true rfl) (t_M_slotFor hr2) ?_
      refine Ev_blk 2 (pc' := if r2 = (-(nI 1)) then 79 else 38) (ls' := [.ref v0, .int v1, .int v2]) (st' := []) (s' := s) rfl trivial ?_
      refine ib h (fun c6 h => ?_) (fun c6 h => ?_)
      · refine Ev_blk 2 (pc' := 2) (ls' := [.ref v0, .int v1, .int (v2 + nI 1)]) (st' := []) (s' := s) rfl trivial ?_
        exact H2 h
      · refine Ev_blk 5 (pc' := 43) (ls' := [.ref v0, .int v1, .int v2]) (st' := [.long (lN 0), .int v1, .int v2, .int (nI 1), .ref v0]) (s' := s) rfl trivial ?_
        refine bd h (fun r3 hr3 h => ?_)
        refine Ev_call 2 193 4 [.ref v0, .int (nI 1), .int v2, .int v1, .long (lN 0)] [] rfl rfl rfl rfl g2 rfl rfl (Nat.le_of_ble_eq_true rfl) (t_M_tells hr3) ?_
        refine Ev_blk 3 (pc' := if (lg_cmp r3.1 (lN 0)) = (nI 0) then 51 else 79) (ls' := [.ref v0, .int v1, .int v2]) (st' := []) (s' := r3.2) rfl trivial ?_
        refine ib h (fun c7 h => ?_) (fun c7 h => ?_)
        · refine gd h (fun g8 h => ?_)
          refine Ev_blk 2 (pc' := 53) (ls' := [.ref v0, .int v1, .int v2]) (st' := [.int v2, .ref v0]) (s' := r3.2) rfl trivial ?_
          refine bd h (fun r4 hr4 h => ?_)
          refine Ev_call 2 194 1 [.ref v0, .int v2] [] rfl rfl rfl rfl g8 rfl rfl (Nat.le_of_ble_eq_true rfl) (t_M_freeOf hr4) ?_
          refine Ev_blk 9 (pc' := 65) (ls' := [.ref v0, .int v1, .int v2]) (st' := [.long (lN 0), .int v1, .int v2, .int (nI 0), .ref v0, .int ((r4 - v1) - (nI 2))]) (s' := r3.2) rfl trivial ?_
          refine bd h (fun r5 hr5 h => ?_)
          refine Ev_call 2 193 4 [.ref v0, .int (nI 0), .int v2, .int v1, .long (lN 0)] [.int ((r4 - v1) - (nI 2))] rfl rfl rfl rfl g8 rfl rfl (Nat.le_of_ble_eq_true rfl) (t_M_tells hr5) ?_
          refine Ev_blk 2 (pc' := 71) (ls' := [.ref v0, .int v1, .int v2]) (st' := [.int (nI 64), .int (nI 0), .long r5.1, .int ((r4 - v1) - (nI 2))]) (s' := r5.2) rfl trivial ?_
          refine bd h (fun r6 hr6 h => ?_)
          refine Ev_call 1 198 3 [.long r5.1, .int (nI 0), .int (nI 64)] [.int ((r4 - v1) - (nI 2))] rfl rfl rfl rfl trivial rfl rfl (Nat.le_of_ble_eq_true rfl) (t_M_bounded hr6) ?_
          refine Ev_blk 1 (pc' := if ((r4 - v1) - (nI 2)) < r6 then 79 else 77) (ls' := [.ref v0, .int v1, .int v2]) (st' := []) (s' := r5.2) rfl trivial ?_
          refine ib h (fun c9 h => ?_) (fun c9 h => ?_)
          · refine Ev_blk 2 (pc' := 2) (ls' := [.ref v0, .int v1, .int (v2 + nI 1)]) (st' := []) (s' := r5.2) rfl trivial ?_
            exact H2 h
          · refine Ev_blk 1 (pc' := 78) (ls' := [.ref v0, .int v1, .int v2]) (st' := [.int v2]) (s' := r5.2) rfl trivial ?_
            cases h
            exact Ev_ret rfl trivial
        · refine Ev_blk 2 (pc' := 2) (ls' := [.ref v0, .int v1, .int (v2 + nI 1)]) (st' := []) (s' := r3.2) rfl trivial ?_
          exact H2 h
  · refine Ev_blk 1 (pc' := 86) (ls' := [.ref v0, .int v1, .int v2]) (st' := [.int (-(nI 1))]) (s' := s) rfl trivial ?_
    cases h
    exact Ev_ret rfl trivial
def l_M_searchFor_2  : Nat → Nat → Int32 → Int32 → AS → Option (Int32 × AS)
  | 0 => fun _ _ _ _ => none
  | n + 1 => b_M_searchFor_2  (l_M_searchFor_2  n)
theorem u_M_searchFor_2   {n : Nat} : ∀  {v0 : Nat} {v1 : Int32} {v2 : Int32} {s : AS} {o : Int32 × AS}, l_M_searchFor_2  n v0 v1 v2 s = some o → Ev 7 mZ188 2 [.ref v0, .int v1, .int v2] [] s (some (.int o.1), o.2) := by
  induction n with
  | zero => intros; rename_i h; cases h
  | succ n ih => intros; rename_i h; exact t_M_searchFor_2  (fun h => ih h) h
/-- RecordHeapModel.searchFor(I)I -/
def f_M_searchFor (s : AS) (a0 : Nat) (a1 : Int32) : Option (Int32 × AS) :=
  l_M_searchFor_2 fuel a0 a1 (nI 0) s
theorem t_M_searchFor {s : AS} {a0 : Nat} {a1 : Int32} {o : Int32 × AS} (h : f_M_searchFor s a0 a1 = some o) : Ev 7 mZ188 0 [.ref a0, .int a1, .retAddr 0] [] s (some (.int o.1), o.2) := by
  unfold f_M_searchFor at h
  refine Ev_blk 2 (pc' := 2) (ls' := [.ref a0, .int a1, .int (nI 0)]) (st' := []) (s' := s) rfl trivial ?_
  exact u_M_searchFor_2 h

def b_M_lowestOf_5 (s : AS) (k5 : Nat → Int32 → Int32 → Int32 → Option Int32) (v0 : Nat) (v1 : Int32) (v2 : Int32) (v3 : Int32) : Option Int32 :=
  if sT s v0 = 13 then
  (f_M_pageAt s v1).bind fun r1 =>
  if sT s (sR s v0 3) = 20 ∧ inA (r1 + (nI 0)) (sN s (sR s v0 3)) then
  if v3 < (sI s (sR s v0 3) (r1 + (nI 0)).toNatClampNeg) then
    (f_M_slotAt s v1 v3).bind fun r2 =>
    if sT s (sR s v0 3) = 20 ∧ inA (r2 + (nI 1)) (sN s (sR s v0 3)) then
    (f_M_kindOf s v0 v1 v3).bind fun r3 =>
      k5 v0 v1 (if r3 = (nI 0) then v2 else (if (sI s (sR s v0 3) (r2 + (nI 1)).toNatClampNeg) < v2 then sI s (sR s v0 3) (r2 + (nI 1)).toNatClampNeg else v2)) (v3 + nI 1)
    else none
  else
    some v2
  else none
  else none
theorem t_M_lowestOf_5 {s : AS} {k5 : Nat → Int32 → Int32 → Int32 → Option Int32} (H5 : ∀ {d4 : Value} {v0 : Nat} {v1 : Int32} {v2 : Int32} {v3 : Int32} {o : Int32}, k5 v0 v1 v2 v3 = some o → Ev 3 mZ200 5 [.ref v0, .int v1, .int v2, .int v3, d4] [] s (some (.int o), s)) {d4 : Value} {v0 : Nat} {v1 : Int32} {v2 : Int32} {v3 : Int32} {o : Int32} (h : b_M_lowestOf_5 s k5 v0 v1 v2 v3 = some o) : Ev 3 mZ200 5 [.ref v0, .int v1, .int v2, .int v3, d4] [] s (some (.int o), s) := by
  unfold b_M_lowestOf_5 at h
  refine gd h (fun g1 h => ?_)
  refine Ev_blk 4 (pc' := 11) (ls' := [.ref v0, .int v1, .int v2, .int v3, d4]) (st' := [.int v1, .ref (sR s v0 3), .int v3]) (s' := s) rfl ⟨trivial, g1⟩ ?_
  refine bd h (fun r1 hr1 h => ?_)
  refine Ev_call 1 140 1 [.int v1] [.ref (sR s v0 3), .int v3] rfl rfl rfl rfl trivial rfl rfl (Nat.le_of_ble_eq_true rfl) (t_M_pageAt hr1) ?_
  refine gd h (fun g2 h => ?_)
  refine Ev_blk 4 (pc' := if v3 < (sI s (sR s v0 3) (r1 + (nI 0)).toNatClampNeg) then 20 else 62) (ls' := [.ref v0, .int v1, .int v2, .int v3, d4]) (st' := []) (s' := s) rfl ⟨trivial, ⟨Or.inl g2.1, g2.2⟩⟩ ?_
  refine ib h (fun c3 h => ?_) (fun c3 h => ?_)
  · refine Ev_blk 4 (pc' := 26) (ls' := [.ref v0, .int v1, .int v2, .int v3, d4]) (st' := [.int v3, .int v1, .ref (sR s v0 3)]) (s' := s) rfl ⟨trivial, g1⟩ ?_
    refine bd h (fun r2 hr2 h => ?_)
    refine Ev_call 1 191 2 [.int v1, .int v3] [.ref (sR s v0 3)] rfl rfl rfl rfl trivial rfl rfl (Nat.le_of_ble_eq_true rfl) (t_M_slotAt hr2) ?_
    refine gd h (fun g4 h => ?_)
    refine Ev_blk 7 (pc' := 37) (ls' := [.ref v0, .int v1, .int v2, .int v3, .int (sI s (sR s v0 3) (r2 + (nI 1)).toNatClampNeg)]) (st' := [.int v3, .int v1, .ref v0]) (s' := s) rfl ⟨trivial, ⟨Or.inl g4.1, g4.2⟩⟩ ?_
    refine bd h (fun r3 hr3 h => ?_)
    refine Ev_call 2 190 2 [.ref v0, .int v1, .int v3] [] rfl rfl rfl rfl g1 rfl rfl (Nat.le_of_ble_eq_true rfl) (t_M_kindOf hr3) ?_
    refine Ev_blk 1 (pc' := if r3 = (nI 0) then 54 else 43) (ls' := [.ref v0, .int v1, .int v2, .int v3, .int (sI s (sR s v0 3) (r2 + (nI 1)).toNatClampNeg)]) (st' := []) (s' := s) rfl trivial ?_
    have k5_ : Ev 3 mZ200 55 [.ref v0, .int v1, .int v2, .int v3, .int (sI s (sR s v0 3) (r2 + (nI 1)).toNatClampNeg)] [.int (if r3 = (nI 0) then v2 else (if (sI s (sR s v0 3) (r2 + (nI 1)).toNatClampNeg) < v2 then sI s (sR s v0 3) (r2 + (nI 1)).toNatClampNeg else v2))] s (some (.int o), s) := by
      refine Ev_blk 3 (pc' := 5) (ls' := [.ref v0, .int v1, .int (if r3 = (nI 0) then v2 else (if (sI s (sR s v0 3) (r2 + (nI 1)).toNatClampNeg) < v2 then sI s (sR s v0 3) (r2 + (nI 1)).toNatClampNeg else v2)), .int (v3 + nI 1), .int (sI s (sR s v0 3) (r2 + (nI 1)).toNatClampNeg)]) (st' := []) (s' := s) rfl trivial ?_
      exact H5 h
    refine icases (fun c6 => ?_) (fun c6 => ?_)
    · exact Ev_blk 1 (pc' := 55) (ls' := [.ref v0, .int v1, .int v2, .int v3, .int (sI s (sR s v0 3) (r2 + (nI 1)).toNatClampNeg)]) (st' := [.int v2]) (s' := s) rfl trivial (by simpa only [if_pos c6] using k5_)
    · refine Ev_blk 3 (pc' := if (sI s (sR s v0 3) (r2 + (nI 1)).toNatClampNeg) < v2 then 49 else 54) (ls' := [.ref v0, .int v1, .int v2, .int v3, .int (sI s (sR s v0 3) (r2 + (nI 1)).toNatClampNeg)]) (st' := []) (s' := s) rfl trivial ?_
      refine icases (fun c7 => ?_) (fun c7 => ?_)
      · exact Ev_blk 2 (pc' := 55) (ls' := [.ref v0, .int v1, .int v2, .int v3, .int (sI s (sR s v0 3) (r2 + (nI 1)).toNatClampNeg)]) (st' := [.int (sI s (sR s v0 3) (r2 + (nI 1)).toNatClampNeg)]) (s' := s) rfl trivial (by simpa only [if_neg c6, if_pos c7] using k5_)
      · exact Ev_blk 1 (pc' := 55) (ls' := [.ref v0, .int v1, .int v2, .int v3, .int (sI s (sR s v0 3) (r2 + (nI 1)).toNatClampNeg)]) (st' := [.int v2]) (s' := s) rfl trivial (by simpa only [if_neg c6, if_neg c7] using k5_)
  · refine Ev_blk 1 (pc' := 63) (ls' := [.ref v0, .int v1, .int v2, .int v3, d4]) (st' := [.int v2]) (s' := s) rfl trivial ?_
    cases h
    exact Ev_ret rfl trivial
def l_M_lowestOf_5 (s : AS)  : Nat → Nat → Int32 → Int32 → Int32 → Option Int32
  | 0 => fun _ _ _ _ => none
  | n + 1 => b_M_lowestOf_5 s  (l_M_lowestOf_5 s  n)
theorem u_M_lowestOf_5 {s : AS}   {n : Nat} : ∀ {d4 : Value} {v0 : Nat} {v1 : Int32} {v2 : Int32} {v3 : Int32} {o : Int32}, l_M_lowestOf_5 s  n v0 v1 v2 v3 = some o → Ev 3 mZ200 5 [.ref v0, .int v1, .int v2, .int v3, d4] [] s (some (.int o), s) := by
  induction n with
  | zero => intros; rename_i h; cases h
  | succ n ih => intros; rename_i h; exact t_M_lowestOf_5  (fun h => ih h) h
/-- RecordHeapModel.lowestOf(I)I -/
def f_M_lowestOf (s : AS) (a0 : Nat) (a1 : Int32) : Option Int32 :=
  l_M_lowestOf_5 s fuel a0 a1 (nI 64) (nI 0)
theorem t_M_lowestOf {s : AS} {a0 : Nat} {a1 : Int32} {o : Int32} (h : f_M_lowestOf s a0 a1 = some o) : Ev 3 mZ200 0 [.ref a0, .int a1, .retAddr 0, .retAddr 0, .retAddr 0] [] s (some (.int o), s) := by
  unfold f_M_lowestOf at h
  refine Ev_blk 4 (pc' := 5) (ls' := [.ref a0, .int a1, .int (nI 64), .int (nI 0), .retAddr 0]) (st' := []) (s' := s) rfl trivial ?_
  exact u_M_lowestOf_5 h

/-- RecordHeapModel.gapOf(I)I -/
def f_M_gapOf (s : AS) (a0 : Nat) (a1 : Int32) : Option Int32 :=
  if sT s a0 = 13 then
  (f_M_lowestOf s a0 a1).bind fun r1 =>
  (f_M_pageAt s a1).bind fun r2 =>
  if sT s (sR s a0 3) = 20 ∧ inA (r2 + (nI 0)) (sN s (sR s a0 3)) then
  some (r1 - ((nI 2) * (sI s (sR s a0 3) (r2 + (nI 0)).toNatClampNeg)))
  else none
  else none
theorem t_M_gapOf {s : AS} {a0 : Nat} {a1 : Int32} {o : Int32} (h : f_M_gapOf s a0 a1 = some o) : Ev 4 mZ199 0 [.ref a0, .int a1] [] s (some (.int o), s) := by
  unfold f_M_gapOf at h
  refine gd h (fun g1 h => ?_)
  refine Ev_blk 2 (pc' := 2) (ls' := [.ref a0, .int a1]) (st' := [.int a1, .ref a0]) (s' := s) rfl trivial ?_
  refine bd h (fun r1 hr1 h => ?_)
  refine Ev_call 2 200 1 [.ref a0, .int a1] [] rfl rfl rfl rfl g1 rfl rfl (Nat.le_of_ble_eq_true rfl) (t_M_lowestOf hr1) ?_
  refine Ev_blk 4 (pc' := 11) (ls' := [.ref a0, .int a1]) (st' := [.int a1, .ref (sR s a0 3), .int (nI 2), .int r1]) (s' := s) rfl ⟨trivial, g1⟩ ?_
  refine bd h (fun r2 hr2 h => ?_)
  refine Ev_call 1 140 1 [.int a1] [.ref (sR s a0 3), .int (nI 2), .int r1] rfl rfl rfl rfl trivial rfl rfl (Nat.le_of_ble_eq_true rfl) (t_M_pageAt hr2) ?_
  refine gd h (fun g2 h => ?_)
  refine Ev_blk 5 (pc' := 19) (ls' := [.ref a0, .int a1]) (st' := [.int (r1 - ((nI 2) * (sI s (sR s a0 3) (r2 + (nI 0)).toNatClampNeg)))]) (s' := s) rfl ⟨trivial, ⟨Or.inl g2.1, g2.2⟩⟩ ?_
  cases h
  exact Ev_ret rfl trivial

/-- RecordHeapModel.promise(I)V -/
def f_M_promise (s : AS) (a0 : Nat) (a1 : Int32) : Option AS :=
  if sT s a0 = 13 then
  (f_M_pageAt s a1).bind fun r1 =>
  (f_M_freeOf s a0 a1).bind fun r2 =>
  if ¬ (nI 8) = nI 0 then
  if sT s (sR s a0 3) = 20 ∧ inA (r1 + (nI 1)) (sN s (sR s a0 3)) then
  some (setI s (sR s a0 3) (r1 + (nI 1)).toNatClampNeg (r2 / (nI 8)))
  else none
  else none
  else none
theorem t_M_promise {s : AS} {a0 : Nat} {a1 : Int32} {o : AS} (h : f_M_promise s a0 a1 = some o) : Ev 4 mZ202 0 [.ref a0, .int a1] [] s (none, o) := by
  unfold f_M_promise at h
  refine gd h (fun g1 h => ?_)
  refine Ev_blk 3 (pc' := 5) (ls' := [.ref a0, .int a1]) (st' := [.int a1, .ref (sR s a0 3)]) (s' := s) rfl ⟨trivial, g1⟩ ?_
  refine bd h (fun r1 hr1 h => ?_)
  refine Ev_call 1 140 1 [.int a1] [.ref (sR s a0 3)] rfl rfl rfl rfl trivial rfl rfl (Nat.le_of_ble_eq_true rfl) (t_M_pageAt hr1) ?_
  refine Ev_blk 4 (pc' := 12) (ls' := [.ref a0, .int a1]) (st' := [.int a1, .ref a0, .int (r1 + (nI 1)), .ref (sR s a0 3)]) (s' := s) rfl trivial ?_
  refine bd h (fun r2 hr2 h => ?_)
  refine Ev_call 2 194 1 [.ref a0, .int a1] [.int (r1 + (nI 1)), .ref (sR s a0 3)] rfl rfl rfl rfl g1 rfl rfl (Nat.le_of_ble_eq_true rfl) (t_M_freeOf hr2) ?_
  refine gd h (fun g2 h => ?_)
  refine gd h (fun g3 h => ?_)
  refine Ev_blk 3 (pc' := 19) (ls' := [.ref a0, .int a1]) (st' := []) (s' := setI s (sR s a0 3) (r1 + (nI 1)).toNatClampNeg (r2 / (nI 8))) rfl ⟨⟨trivial, g2⟩, g3⟩ ?_
  cases h
  exact Ev_ret rfl trivial

def b_M_packIt_106 (k42 : Nat → Int32 → Int32 → Int32 → Int32 → AS → Option AS) (k106 : Nat → Int32 → Int32 → Int32 → Int32 → Int32 → Int32 → Int32 → AS → Option AS) (v0 : Nat) (v1 : Int32) (v2 : Int32) (v3 : Int32) (v4 : Int32) (v5 : Int32) (v6 : Int32) (v7 : Int32) (s : AS) : Option AS :=
  if v7 < v6 then
    if sT s v0 = 13 then
    if sT s (sR s v0 40) = 20 ∧ inA (v5 + v7) (sN s (sR s v0 40)) then
    if sT s (sR s v0 3) = 20 ∧ inA ((v2 + v3) + v7) (sN s (sR s v0 3)) then
    k106 v0 v1 v2 v3 v4 v5 v6 (v7 + nI 1) (setI s (sR s v0 3) ((v2 + v3) + v7).toNatClampNeg (sI s (sR s v0 40) (v5 + v7).toNatClampNeg))
    else none
    else none
    else none
  else
    if sT s v0 = 13 then
    (f_M_slotAt s v1 v4).bind fun r1 =>
    if sT s (sR s v0 3) = 20 ∧ inA (r1 + (nI 1)) (sN s (sR s v0 3)) then
    k42 v0 v1 v2 v3 (v4 + nI 1) (setI s (sR s v0 3) (r1 + (nI 1)).toNatClampNeg v3)
    else none
    else none
theorem t_M_packIt_106 {k42 : Nat → Int32 → Int32 → Int32 → Int32 → AS → Option AS} {k106 : Nat → Int32 → Int32 → Int32 → Int32 → Int32 → Int32 → Int32 → AS → Option AS} (H42 : ∀ {d5 d6 d7 : Value} {v0 : Nat} {v1 : Int32} {v2 : Int32} {v3 : Int32} {v4 : Int32} {s : AS} {o : AS}, k42 v0 v1 v2 v3 v4 s = some o → Ev 5 mZ201 42 [.ref v0, .int v1, .int v2, .int v3, .int v4, d5, d6, d7] [] s (none, o)) (H106 : ∀ {v0 : Nat} {v1 : Int32} {v2 : Int32} {v3 : Int32} {v4 : Int32} {v5 : Int32} {v6 : Int32} {v7 : Int32} {s : AS} {o : AS}, k106 v0 v1 v2 v3 v4 v5 v6 v7 s = some o → Ev 5 mZ201 106 [.ref v0, .int v1, .int v2, .int v3, .int v4, .int v5, .int v6, .int v7] [] s (none, o))  {v0 : Nat} {v1 : Int32} {v2 : Int32} {v3 : Int32} {v4 : Int32} {v5 : Int32} {v6 : Int32} {v7 : Int32} {s : AS} {o : AS} (h : b_M_packIt_106 k42 k106 v0 v1 v2 v3 v4 v5 v6 v7 s = some o) : Ev 5 mZ201 106 [.ref v0, .int v1, .int v2, .int v3, .int v4, .int v5, .int v6, .int v7] [] s (none, o) := by
  unfold b_M_packIt_106 at h
  refine Ev_blk 3 (pc' := if v7 < v6 then 113 else 140) (ls' := [.ref v0, .int v1, .int v2, .int v3, .int v4, .int v5, .int v6, .int v7]) (st' := []) (s' := s) rfl trivial ?_
  refine ib h (fun c1 h => ?_) (fun c1 h => ?_)
  · refine gd h (fun g2 h => ?_)
    refine gd h (fun g3 h => ?_)
    refine gd h (fun g4 h => ?_)
    refine Ev_blk 16 (pc' := 106) (ls' := [.ref v0, .int v1, .int v2, .int v3, .int v4, .int v5, .int v6, .int (v7 + nI 1)]) (st' := []) (s' := setI s (sR s v0 3) ((v2 + v3) + v7).toNatClampNeg (sI s (sR s v0 40) (v5 + v7).toNatClampNeg)) rfl ⟨⟨⟨⟨trivial, g2⟩, g2⟩, ⟨Or.inl g3.1, g3.2⟩⟩, g4⟩ ?_
    exact H106 h
  · refine gd h (fun g5 h => ?_)
    refine Ev_blk 4 (pc' := 147) (ls' := [.ref v0, .int v1, .int v2, .int v3, .int v4, .int v5, .int v6, .int v7]) (st' := [.int v4, .int v1, .ref (sR s v0 3)]) (s' := s) rfl ⟨trivial, g5⟩ ?_
    refine bd h (fun r1 hr1 h => ?_)
    refine Ev_call 1 191 2 [.int v1, .int v4] [.ref (sR s v0 3)] rfl rfl rfl rfl trivial rfl rfl (Nat.le_of_ble_eq_true rfl) (t_M_slotAt hr1) ?_
    refine gd h (fun g6 h => ?_)
    refine Ev_blk 6 (pc' := 42) (ls' := [.ref v0, .int v1, .int v2, .int v3, .int (v4 + nI 1), .int v5, .int v6, .int v7]) (st' := []) (s' := setI s (sR s v0 3) (r1 + (nI 1)).toNatClampNeg v3) rfl ⟨trivial, g6⟩ ?_
    exact H42 h
def l_M_packIt_106 (k42 : Nat → Int32 → Int32 → Int32 → Int32 → AS → Option AS) : Nat → Nat → Int32 → Int32 → Int32 → Int32 → Int32 → Int32 → Int32 → AS → Option AS
  | 0 => fun _ _ _ _ _ _ _ _ _ => none
  | n + 1 => b_M_packIt_106 k42 (l_M_packIt_106 k42 n)
theorem u_M_packIt_106 {k42 : Nat → Int32 → Int32 → Int32 → Int32 → AS → Option AS} (H42 : ∀ {d5 d6 d7 : Value} {v0 : Nat} {v1 : Int32} {v2 : Int32} {v3 : Int32} {v4 : Int32} {s : AS} {o : AS}, k42 v0 v1 v2 v3 v4 s = some o → Ev 5 mZ201 42 [.ref v0, .int v1, .int v2, .int v3, .int v4, d5, d6, d7] [] s (none, o)) {n : Nat} : ∀  {v0 : Nat} {v1 : Int32} {v2 : Int32} {v3 : Int32} {v4 : Int32} {v5 : Int32} {v6 : Int32} {v7 : Int32} {s : AS} {o : AS}, l_M_packIt_106 k42 n v0 v1 v2 v3 v4 v5 v6 v7 s = some o → Ev 5 mZ201 106 [.ref v0, .int v1, .int v2, .int v3, .int v4, .int v5, .int v6, .int v7] [] s (none, o) := by
  induction n with
  | zero => intros; rename_i h; cases h
  | succ n ih => intros; rename_i h; exact t_M_packIt_106 H42 (fun h => ih h) h
def b_M_packIt_42 (k42 : Nat → Int32 → Int32 → Int32 → Int32 → AS → Option AS) (v0 : Nat) (v1 : Int32) (v2 : Int32) (v3 : Int32) (v4 : Int32) (s : AS) : Option AS :=
  if sT s v0 = 13 then
  (f_M_pageAt s v1).bind fun r1 =>
  if sT s (sR s v0 3) = 20 ∧ inA (r1 + (nI 0)) (sN s (sR s v0 3)) then
  if v4 < (sI s (sR s v0 3) (r1 + (nI 0)).toNatClampNeg) then
    (f_M_kindOf s v0 v1 v4).bind fun r2 =>
    if r2 = (nI 0) then
      k42 v0 v1 v2 v3 (v4 + nI 1) s
    else
      (f_M_slotAt s v1 v4).bind fun r3 =>
      if sT s (sR s v0 3) = 20 ∧ inA (r3 + (nI 1)) (sN s (sR s v0 3)) then
      (f_M_slotAt s v1 v4).bind fun r4 =>
      if sT s (sR s v0 3) = 20 ∧ inA (r4 + (nI 2)) (sN s (sR s v0 3)) then
      l_M_packIt_106 k42 fuel v0 v1 v2 (v3 - (sI s (sR s v0 3) (r4 + (nI 2)).toNatClampNeg)) v4 (sI s (sR s v0 3) (r3 + (nI 1)).toNatClampNeg) (sI s (sR s v0 3) (r4 + (nI 2)).toNatClampNeg) (nI 0) s
      else none
      else none
  else
    (f_M_promise s v0 v1).bind fun r5 =>
    some r5
  else none
  else none
theorem t_M_packIt_42 {k42 : Nat → Int32 → Int32 → Int32 → Int32 → AS → Option AS} (H42 : ∀ {d5 d6 d7 : Value} {v0 : Nat} {v1 : Int32} {v2 : Int32} {v3 : Int32} {v4 : Int32} {s : AS} {o : AS}, k42 v0 v1 v2 v3 v4 s = some o → Ev 5 mZ201 42 [.ref v0, .int v1, .int v2, .int v3, .int v4, d5, d6, d7] [] s (none, o)) {d5 d6 d7 : Value} {v0 : Nat} {v1 : Int32} {v2 : Int32} {v3 : Int32} {v4 : Int32} {s : AS} {o : AS} (h : b_M_packIt_42 k42 v0 v1 v2 v3 v4 s = some o) : Ev 5 mZ201 42 [.ref v0, .int v1, .int v2, .int v3, .int v4, d5, d6, d7] [] s (none, o) := by
  unfold b_M_packIt_42 at h
  refine gd h (fun g1 h => ?_)
  refine Ev_blk 4 (pc' := 49) (ls' := [.ref v0, .int v1, .int v2, .int v3, .int v4, d5, d6, d7]) (st' := [.int v1, .ref (sR s v0 3), .int v4]) (s' := s) rfl ⟨trivial, g1⟩ ?_
  refine bd h (fun r1 hr1 h => ?_)
  refine Ev_call 1 140 1 [.int v1] [.ref (sR s v0 3), .int v4] rfl rfl rfl rfl trivial rfl rfl (Nat.le_of_ble_eq_true rfl) (t_M_pageAt hr1) ?_
  refine gd h (fun g2 h => ?_)
  refine Ev_blk 4 (pc' := if v4 < (sI s (sR s v0 3) (r1 + (nI 0)).toNatClampNeg) then 58 else 160) (ls' := [.ref v0, .int v1, .int v2, .int v3, .int v4, d5, d6, d7]) (st' := []) (s' := s) rfl ⟨trivial, ⟨Or.inl g2.1, g2.2⟩⟩ ?_
  refine ib h (fun c3 h => ?_) (fun c3 h => ?_)
  · refine Ev_blk 3 (pc' := 62) (ls' := [.ref v0, .int v1, .int v2, .int v3, .int v4, d5, d6, d7]) (st' := [.int v4, .int v1, .ref v0]) (s' := s) rfl trivial ?_
    refine bd h (fun r2 hr2 h => ?_)
    refine Ev_call 2 190 2 [.ref v0, .int v1, .int v4] [] rfl rfl rfl rfl g1 rfl rfl (Nat.le_of_ble_eq_true rfl) (t_M_kindOf hr2) ?_
    refine Ev_blk 1 (pc' := if r2 = (nI 0) then 154 else 68) (ls' := [.ref v0, .int v1, .int v2, .int v3, .int v4, d5, d6, d7]) (st' := []) (s' := s) rfl trivial ?_
    refine ib h (fun c4 h => ?_) (fun c4 h => ?_)
    · refine Ev_blk 2 (pc' := 42) (ls' := [.ref v0, .int v1, .int v2, .int v3, .int (v4 + nI 1), d5, d6, d7]) (st' := []) (s' := s) rfl trivial ?_
      exact H42 h
    · refine Ev_blk 4 (pc' := 75) (ls' := [.ref v0, .int v1, .int v2, .int v3, .int v4, d5, d6, d7]) (st' := [.int v4, .int v1, .ref (sR s v0 3)]) (s' := s) rfl ⟨trivial, g1⟩ ?_
      refine bd h (fun r3 hr3 h => ?_)
      refine Ev_call 1 191 2 [.int v1, .int v4] [.ref (sR s v0 3)] rfl rfl rfl rfl trivial rfl rfl (Nat.le_of_ble_eq_true rfl) (t_M_slotAt hr3) ?_
      refine gd h (fun g5 h => ?_)
      refine Ev_blk 8 (pc' := 90) (ls' := [.ref v0, .int v1, .int v2, .int v3, .int v4, .int (sI s (sR s v0 3) (r3 + (nI 1)).toNatClampNeg), d6, d7]) (st' := [.int v4, .int v1, .ref (sR s v0 3)]) (s' := s) rfl ⟨⟨trivial, ⟨Or.inl g5.1, g5.2⟩⟩, g1⟩ ?_
      refine bd h (fun r4 hr4 h => ?_)
      refine Ev_call 1 191 2 [.int v1, .int v4] [.ref (sR s v0 3)] rfl rfl rfl rfl trivial rfl rfl (Nat.le_of_ble_eq_true rfl) (t_M_slotAt hr4) ?_
      refine gd h (fun g6 h => ?_)
      refine Ev_blk 10 (pc' := 106) (ls' := [.ref v0, .int v1, .int v2, .int (v3 - (sI s (sR s v0 3) (r4 + (nI 2)).toNatClampNeg)), .int v4, .int (sI s (sR s v0 3) (r3 + (nI 1)).toNatClampNeg), .int (sI s (sR s v0 3) (r4 + (nI 2)).toNatClampNeg), .int (nI 0)]) (st' := []) (s' := s) rfl ⟨trivial, ⟨Or.inl g6.1, g6.2⟩⟩ ?_
      exact u_M_packIt_106 H42 h
  · refine Ev_blk 2 (pc' := 162) (ls' := [.ref v0, .int v1, .int v2, .int v3, .int v4, d5, d6, d7]) (st' := [.int v1, .ref v0]) (s' := s) rfl trivial ?_
    refine bd h (fun r5 hr5 h => ?_)
    refine Ev_call 2 202 1 [.ref v0, .int v1] [] rfl rfl rfl rfl g1 rfl rfl (Nat.le_of_ble_eq_true rfl) (t_M_promise hr5) ?_
    cases h
    exact Ev_ret rfl trivial
def l_M_packIt_42  : Nat → Nat → Int32 → Int32 → Int32 → Int32 → AS → Option AS
  | 0 => fun _ _ _ _ _ _ => none
  | n + 1 => b_M_packIt_42  (l_M_packIt_42  n)
theorem u_M_packIt_42   {n : Nat} : ∀ {d5 d6 d7 : Value} {v0 : Nat} {v1 : Int32} {v2 : Int32} {v3 : Int32} {v4 : Int32} {s : AS} {o : AS}, l_M_packIt_42  n v0 v1 v2 v3 v4 s = some o → Ev 5 mZ201 42 [.ref v0, .int v1, .int v2, .int v3, .int v4, d5, d6, d7] [] s (none, o) := by
  induction n with
  | zero => intros; rename_i h; cases h
  | succ n ih => intros; rename_i h; exact t_M_packIt_42  (fun h => ih h) h
def b_M_packIt_10 (k10 : Nat → Int32 → Int32 → Int32 → AS → Option AS) (v0 : Nat) (v1 : Int32) (v2 : Int32) (v3 : Int32) (s : AS) : Option AS :=
  if v3 < (nI 64) then
    if sT s v0 = 13 then
    if sT s (sR s v0 3) = 20 ∧ inA (v2 + v3) (sN s (sR s v0 3)) then
    if sT s (sR s v0 40) = 20 ∧ inA v3 (sN s (sR s v0 40)) then
    k10 v0 v1 v2 (v3 + nI 1) (setI s (sR s v0 40) v3.toNatClampNeg (sI s (sR s v0 3) (v2 + v3).toNatClampNeg))
    else none
    else none
    else none
  else
    l_M_packIt_42 fuel v0 v1 v2 (nI 64) (nI 0) s
theorem t_M_packIt_10 {k10 : Nat → Int32 → Int32 → Int32 → AS → Option AS} (H10 : ∀ {d4 d5 d6 d7 : Value} {v0 : Nat} {v1 : Int32} {v2 : Int32} {v3 : Int32} {s : AS} {o : AS}, k10 v0 v1 v2 v3 s = some o → Ev 5 mZ201 10 [.ref v0, .int v1, .int v2, .int v3, d4, d5, d6, d7] [] s (none, o)) {d4 d5 d6 d7 : Value} {v0 : Nat} {v1 : Int32} {v2 : Int32} {v3 : Int32} {s : AS} {o : AS} (h : b_M_packIt_10 k10 v0 v1 v2 v3 s = some o) : Ev 5 mZ201 10 [.ref v0, .int v1, .int v2, .int v3, d4, d5, d6, d7] [] s (none, o) := by
  unfold b_M_packIt_10 at h
  refine Ev_blk 3 (pc' := if v3 < (nI 64) then 16 else 36) (ls' := [.ref v0, .int v1, .int v2, .int v3, d4, d5, d6, d7]) (st' := []) (s' := s) rfl trivial ?_
  refine ib h (fun c1 h => ?_) (fun c1 h => ?_)
  · refine gd h (fun g2 h => ?_)
    refine gd h (fun g3 h => ?_)
    refine gd h (fun g4 h => ?_)
    refine Ev_blk 12 (pc' := 10) (ls' := [.ref v0, .int v1, .int v2, .int (v3 + nI 1), d4, d5, d6, d7]) (st' := []) (s' := setI s (sR s v0 40) v3.toNatClampNeg (sI s (sR s v0 3) (v2 + v3).toNatClampNeg)) rfl ⟨⟨⟨⟨trivial, g2⟩, g2⟩, ⟨Or.inl g3.1, g3.2⟩⟩, g4⟩ ?_
    exact H10 h
  · refine Ev_blk 4 (pc' := 42) (ls' := [.ref v0, .int v1, .int v2, .int (nI 64), .int (nI 0), d5, d6, d7]) (st' := []) (s' := s) rfl trivial ?_
    exact u_M_packIt_42 h
def l_M_packIt_10  : Nat → Nat → Int32 → Int32 → Int32 → AS → Option AS
  | 0 => fun _ _ _ _ _ => none
  | n + 1 => b_M_packIt_10  (l_M_packIt_10  n)
theorem u_M_packIt_10   {n : Nat} : ∀ {d4 d5 d6 d7 : Value} {v0 : Nat} {v1 : Int32} {v2 : Int32} {v3 : Int32} {s : AS} {o : AS}, l_M_packIt_10  n v0 v1 v2 v3 s = some o → Ev 5 mZ201 10 [.ref v0, .int v1, .int v2, .int v3, d4, d5, d6, d7] [] s (none, o) := by
  induction n with
  | zero => intros; rename_i h; cases h
  | succ n ih => intros; rename_i h; exact t_M_packIt_10  (fun h => ih h) h
/-- RecordHeapModel.packIt(I)V -/
def f_M_packIt (s : AS) (a0 : Nat) (a1 : Int32) : Option AS :=
  (f_M_pageAt s a1).bind fun r1 =>
  l_M_packIt_10 fuel a0 a1 (r1 + (nI 38)) (nI 0) s
theorem t_M_packIt {s : AS} {a0 : Nat} {a1 : Int32} {o : AS} (h : f_M_packIt s a0 a1 = some o) : Ev 5 mZ201 0 [.ref a0, .int a1, .retAddr 0, .retAddr 0, .retAddr 0, .retAddr 0, .retAddr 0, .retAddr 0] [] s (none, o) := by
  unfold f_M_packIt at h
  refine Ev_blk 1 (pc' := 1) (ls' := [.ref a0, .int a1, .retAddr 0, .retAddr 0, .retAddr 0, .retAddr 0, .retAddr 0, .retAddr 0]) (st' := [.int a1]) (s' := s) rfl trivial ?_
  refine bd h (fun r1 hr1 h => ?_)
  refine Ev_call 1 140 1 [.int a1] [] rfl rfl rfl rfl trivial rfl rfl (Nat.le_of_ble_eq_true rfl) (t_M_pageAt hr1) ?_
  refine Ev_blk 5 (pc' := 10) (ls' := [.ref a0, .int a1, .int (r1 + (nI 38)), .int (nI 0), .retAddr 0, .retAddr 0, .retAddr 0, .retAddr 0]) (st' := []) (s' := s) rfl trivial ?_
  exact u_M_packIt_10 h

def b_M_placeIn_15  (v0 : Nat) (v1 : Int32) (v2 : Int32) (v3 : Int32) (v4 : Int32) (s : AS) : Option AS :=
  if sT s v0 = 13 then
  (f_M_lowestOf s v0 v1).bind fun r1 =>
  (f_M_slotAt s v1 v2).bind fun r2 =>
  if sT s (sR s v0 3) = 20 ∧ inA (r2 + (nI 0)) (sN s (sR s v0 3)) then
  (f_M_slotAt (setI s (sR s v0 3) (r2 + (nI 0)).toNatClampNeg v3) v1 v2).bind fun r3 =>
  if sT s (sR s v0 3) = 20 ∧ inA (r3 + (nI 1)) (sN s (sR s v0 3)) then
  (f_M_slotAt (setI (setI s (sR s v0 3) (r2 + (nI 0)).toNatClampNeg v3) (sR s v0 3) (r3 + (nI 1)).toNatClampNeg (r1 - v4)) v1 v2).bind fun r4 =>
  if sT s (sR s v0 3) = 20 ∧ inA (r4 + (nI 2)) (sN s (sR s v0 3)) then
  (f_M_promise (setI (setI (setI s (sR s v0 3) (r2 + (nI 0)).toNatClampNeg v3) (sR s v0 3) (r3 + (nI 1)).toNatClampNeg (r1 - v4)) (sR s v0 3) (r4 + (nI 2)).toNatClampNeg v4) v0 v1).bind fun r5 =>
  some r5
  else none
  else none
  else none
  else none
theorem t_M_placeIn_15   {d5 : Value} {v0 : Nat} {v1 : Int32} {v2 : Int32} {v3 : Int32} {v4 : Int32} {s : AS} {o : AS} (h : b_M_placeIn_15  v0 v1 v2 v3 v4 s = some o) : Ev 6 mZ203 15 [.ref v0, .int v1, .int v2, .int v3, .int v4, d5] [] s (none, o) := by
  unfold b_M_placeIn_15 at h
  refine gd h (fun g1 h => ?_)
  refine Ev_blk 2 (pc' := 17) (ls' := [.ref v0, .int v1, .int v2, .int v3, .int v4, d5]) (st' := [.int v1, .ref v0]) (s' := s) rfl trivial ?_
  refine bd h (fun r1 hr1 h => ?_)
  refine Ev_call 2 200 1 [.ref v0, .int v1] [] rfl rfl rfl rfl g1 rfl rfl (Nat.le_of_ble_eq_true rfl) (t_M_lowestOf hr1) ?_
  refine Ev_blk 7 (pc' := 31) (ls' := [.ref v0, .int v1, .int v2, .int v3, .int v4, .int (r1 - v4)]) (st' := [.int v2, .int v1, .ref (sR s v0 3)]) (s' := s) rfl ⟨trivial, g1⟩ ?_
  refine bd h (fun r2 hr2 h => ?_)
  refine Ev_call 1 191 2 [.int v1, .int v2] [.ref (sR s v0 3)] rfl rfl rfl rfl trivial rfl rfl (Nat.le_of_ble_eq_true rfl) (t_M_slotAt hr2) ?_
  refine gd h (fun g2 h => ?_)
  refine Ev_blk 8 (pc' := 44) (ls' := [.ref v0, .int v1, .int v2, .int v3, .int v4, .int (r1 - v4)]) (st' := [.int v2, .int v1, .ref (sR s v0 3)]) (s' := setI s (sR s v0 3) (r2 + (nI 0)).toNatClampNeg v3) rfl ⟨⟨trivial, g2⟩, g1⟩ ?_
  refine bd h (fun r3 hr3 h => ?_)
  refine Ev_call 1 191 2 [.int v1, .int v2] [.ref (sR s v0 3)] rfl rfl rfl rfl trivial rfl rfl (Nat.le_of_ble_eq_true rfl) (t_M_slotAt hr3) ?_
  refine gd h (fun g3 h => ?_)
  refine Ev_blk 8 (pc' := 58) (ls' := [.ref v0, .int v1, .int v2, .int v3, .int v4, .int (r1 - v4)]) (st' := [.int v2, .int v1, .ref (sR s v0 3)]) (s' := setI (setI s (sR s v0 3) (r2 + (nI 0)).toNatClampNeg v3) (sR s v0 3) (r3 + (nI 1)).toNatClampNeg (r1 - v4)) rfl ⟨⟨trivial, g3⟩, g1⟩ ?_
  refine bd h (fun r4 hr4 h => ?_)
  refine Ev_call 1 191 2 [.int v1, .int v2] [.ref (sR s v0 3)] rfl rfl rfl rfl trivial rfl rfl (Nat.le_of_ble_eq_true rfl) (t_M_slotAt hr4) ?_
  refine gd h (fun g4 h => ?_)
  refine Ev_blk 6 (pc' := 68) (ls' := [.ref v0, .int v1, .int v2, .int v3, .int v4, .int (r1 - v4)]) (st' := [.int v1, .ref v0]) (s' := setI (setI (setI s (sR s v0 3) (r2 + (nI 0)).toNatClampNeg v3) (sR s v0 3) (r3 + (nI 1)).toNatClampNeg (r1 - v4)) (sR s v0 3) (r4 + (nI 2)).toNatClampNeg v4) rfl ⟨trivial, g4⟩ ?_
  refine bd h (fun r5 hr5 h => ?_)
  refine Ev_call 2 202 1 [.ref v0, .int v1] [] rfl rfl rfl rfl g1 rfl rfl (Nat.le_of_ble_eq_true rfl) (t_M_promise hr5) ?_
  cases h
  exact Ev_ret rfl trivial
/-- RecordHeapModel.placeIn(IIII)V -/
def f_M_placeIn (s : AS) (a0 : Nat) (a1 : Int32) (a2 : Int32) (a3 : Int32) (a4 : Int32) : Option AS :=
  if sT s a0 = 13 then
  (f_M_gapOf s a0 a1).bind fun r1 =>
  if r1 < a4 then
    (f_M_packIt s a0 a1).bind fun r2 =>
    b_M_placeIn_15 a0 a1 a2 a3 a4 r2
  else
    b_M_placeIn_15 a0 a1 a2 a3 a4 s
  else none
theorem t_M_placeIn {s : AS} {a0 : Nat} {a1 : Int32} {a2 : Int32} {a3 : Int32} {a4 : Int32} {o : AS} (h : f_M_placeIn s a0 a1 a2 a3 a4 = some o) : Ev 6 mZ203 0 [.ref a0, .int a1, .int a2, .int a3, .int a4, .retAddr 0] [] s (none, o) := by
  unfold f_M_placeIn at h
  refine gd h (fun g1 h => ?_)
  refine Ev_blk 2 (pc' := 2) (ls' := [.ref a0, .int a1, .int a2, .int a3, .int a4, .retAddr 0]) (st' := [.int a1, .ref a0]) (s' := s) rfl trivial ?_
  refine bd h (fun r1 hr1 h => ?_)
  refine Ev_call 2 199 1 [.ref a0, .int a1] [] rfl rfl rfl rfl g1 rfl rfl (Nat.le_of_ble_eq_true rfl) (t_M_gapOf hr1) ?_
  refine Ev_blk 2 (pc' := if r1 < a4 then 10 else 15) (ls' := [.ref a0, .int a1, .int a2, .int a3, .int a4, .retAddr 0]) (st' := []) (s' := s) rfl trivial ?_
  refine ib h (fun c2 h => ?_) (fun c2 h => ?_)
  · refine Ev_blk 2 (pc' := 12) (ls' := [.ref a0, .int a1, .int a2, .int a3, .int a4, .retAddr 0]) (st' := [.int a1, .ref a0]) (s' := s) rfl trivial ?_
    refine bd h (fun r2 hr2 h => ?_)
    refine Ev_call 2 201 1 [.ref a0, .int a1] [] rfl rfl rfl rfl g1 rfl rfl (Nat.le_of_ble_eq_true rfl) (t_M_packIt hr2) ?_
    exact t_M_placeIn_15 h
  · exact t_M_placeIn_15 h

def b_M_placed_95  (v0 : Nat) (v1 : Int32) (v2 : Int32) (v3 : Int32) (v4 : Int32) (s : AS) : Option (Int32 × AS) :=
  if sT s v0 = 13 then
  (f_M_placeIn s v0 v3 v4 v1 v2).bind fun r1 =>
  some (((nI 16) * v3) + v4, r1)
  else none
theorem t_M_placed_95    {v0 : Nat} {v1 : Int32} {v2 : Int32} {v3 : Int32} {v4 : Int32} {s : AS} {o : Int32 × AS} (h : b_M_placed_95  v0 v1 v2 v3 v4 s = some o) : Ev 8 mZ187 95 [.ref v0, .int v1, .int v2, .int v3, .int v4] [] s (some (.int o.1), o.2) := by
  unfold b_M_placed_95 at h
  refine gd h (fun g1 h => ?_)
  refine Ev_blk 5 (pc' := 101) (ls' := [.ref v0, .int v1, .int v2, .int v3, .int v4]) (st' := [.int v2, .int v1, .int v4, .int v3, .ref v0]) (s' := s) rfl trivial ?_
  refine bd h (fun r1 hr1 h => ?_)
  refine Ev_call 2 203 4 [.ref v0, .int v3, .int v4, .int v1, .int v2] [] rfl rfl rfl rfl g1 rfl rfl (Nat.le_of_ble_eq_true rfl) (t_M_placeIn hr1) ?_
  refine Ev_blk 5 (pc' := 111) (ls' := [.ref v0, .int v1, .int v2, .int v3, .int v4]) (st' := [.int (((nI 16) * v3) + v4)]) (s' := r1) rfl trivial ?_
  cases h
  exact Ev_ret rfl trivial
def b_M_placed_80  (v0 : Nat) (v1 : Int32) (v2 : Int32) (v3 : Int32) (v4 : Int32) (s : AS) : Option (Int32 × AS) :=
  if sT s v0 = 13 then
  (f_M_pageAt s v3).bind fun r1 =>
  if sT s (sR s v0 3) = 20 ∧ inA (r1 + (nI 0)) (sN s (sR s v0 3)) then
  b_M_placed_95 v0 v1 v2 v3 v4 (setI s (sR s v0 3) (r1 + (nI 0)).toNatClampNeg ((sI s (sR s v0 3) (r1 + (nI 0)).toNatClampNeg) + (nI 1)))
  else none
  else none
theorem t_M_placed_80    {v0 : Nat} {v1 : Int32} {v2 : Int32} {v3 : Int32} {v4 : Int32} {s : AS} {o : Int32 × AS} (h : b_M_placed_80  v0 v1 v2 v3 v4 s = some o) : Ev 8 mZ187 80 [.ref v0, .int v1, .int v2, .int v3, .int v4] [] s (some (.int o.1), o.2) := by
  unfold b_M_placed_80 at h
  refine gd h (fun g1 h => ?_)
  refine Ev_blk 3 (pc' := 85) (ls' := [.ref v0, .int v1, .int v2, .int v3, .int v4]) (st' := [.int v3, .ref (sR s v0 3)]) (s' := s) rfl ⟨trivial, g1⟩ ?_
  refine bd h (fun r1 hr1 h => ?_)
  refine Ev_call 1 140 1 [.int v3] [.ref (sR s v0 3)] rfl rfl rfl rfl trivial rfl rfl (Nat.le_of_ble_eq_true rfl) (t_M_pageAt hr1) ?_
  refine gd h (fun g2 h => ?_)
  refine Ev_blk 7 (pc' := 95) (ls' := [.ref v0, .int v1, .int v2, .int v3, .int v4]) (st' := []) (s' := setI s (sR s v0 3) (r1 + (nI 0)).toNatClampNeg ((sI s (sR s v0 3) (r1 + (nI 0)).toNatClampNeg) + (nI 1))) rfl ⟨⟨trivial, ⟨Or.inl g2.1, g2.2⟩⟩, g2⟩ ?_
  exact t_M_placed_95 h
/-- RecordHeapModel.placed(II)I -/
def f_M_placed (s : AS) (a0 : Nat) (a1 : Int32) (a2 : Int32) : Option (Int32 × AS) :=
  if sT s a0 = 13 then
  (f_M_searchFor s a0 a2).bind fun r1 =>
  if r1.1 = (-(nI 1)) then
    some (-(nI 1), r1.2)
  else
    if sT r1.2 a0 = 13 then
    (f_M_slotFor r1.2 a0 r1.1).bind fun r2 =>
    (f_M_pageAt r1.2 r1.1).bind fun r3 =>
    if sT r1.2 (sR r1.2 a0 3) = 20 ∧ inA (r3 + (nI 0)) (sN r1.2 (sR r1.2 a0 3)) then
    if r2 = (sI r1.2 (sR r1.2 a0 3) (r3 + (nI 0)).toNatClampNeg) then
      (f_M_slotAt r1.2 r1.1 r2).bind fun r4 =>
      if sT r1.2 (sR r1.2 a0 3) = 20 ∧ inA (r4 + (nI 0)) (sN r1.2 (sR r1.2 a0 3)) then
      (f_M_slotAt (setI r1.2 (sR r1.2 a0 3) (r4 + (nI 0)).toNatClampNeg (nI 0)) r1.1 r2).bind fun r5 =>
      if sT r1.2 (sR r1.2 a0 3) = 20 ∧ inA (r5 + (nI 2)) (sN r1.2 (sR r1.2 a0 3)) then
      (f_M_gapOf (setI (setI r1.2 (sR r1.2 a0 3) (r4 + (nI 0)).toNatClampNeg (nI 0)) (sR r1.2 a0 3) (r5 + (nI 2)).toNatClampNeg (nI 0)) a0 r1.1).bind fun r6 =>
      if r6 < (a2 + (nI 2)) then
        (f_M_packIt (setI (setI r1.2 (sR r1.2 a0 3) (r4 + (nI 0)).toNatClampNeg (nI 0)) (sR r1.2 a0 3) (r5 + (nI 2)).toNatClampNeg (nI 0)) a0 r1.1).bind fun r7 =>
        b_M_placed_80 a0 a1 a2 r1.1 r2 r7
      else
        b_M_placed_80 a0 a1 a2 r1.1 r2 (setI (setI r1.2 (sR r1.2 a0 3) (r4 + (nI 0)).toNatClampNeg (nI 0)) (sR r1.2 a0 3) (r5 + (nI 2)).toNatClampNeg (nI 0))
      else none
      else none
    else
      b_M_placed_95 a0 a1 a2 r1.1 r2 r1.2
    else none
    else none
  else none
theorem t_M_placed {s : AS} {a0 : Nat} {a1 : Int32} {a2 : Int32} {o : Int32 × AS} (h : f_M_placed s a0 a1 a2 = some o) : Ev 8 mZ187 0 [.ref a0, .int a1, .int a2, .retAddr 0, .retAddr 0] [] s (some (.int o.1), o.2) := by
  unfold f_M_placed at h
  refine gd h (fun g1 h => ?_)
  refine Ev_blk 2 (pc' := 2) (ls' := [.ref a0, .int a1, .int a2, .retAddr 0, .retAddr 0]) (st' := [.int a2, .ref a0]) (s' := s) rfl trivial ?_
  refine bd h (fun r1 hr1 h => ?_)
  refine Ev_call 2 188 1 [.ref a0, .int a2] [] rfl rfl rfl rfl g1 rfl rfl (Nat.le_of_ble_eq_true rfl) (t_M_searchFor hr1) ?_
  refine Ev_blk 4 (pc' := if r1.1 = (-(nI 1)) then 11 else 13) (ls' := [.ref a0, .int a1, .int a2, .int r1.1, .retAddr 0]) (st' := []) (s' := r1.2) rfl trivial ?_
  refine ib h (fun c2 h => ?_) (fun c2 h => ?_)
  · refine Ev_blk 1 (pc' := 12) (ls' := [.ref a0, .int a1, .int a2, .int r1.1, .retAddr 0]) (st' := [.int (-(nI 1))]) (s' := r1.2) rfl trivial ?_
    cases h
    exact Ev_ret rfl trivial
  · refine gd h (fun g3 h => ?_)
    refine Ev_blk 2 (pc' := 15) (ls' := [.ref a0, .int a1, .int a2, .int r1.1, .retAddr 0]) (st' := [.int r1.1, .ref a0]) (s' := r1.2) rfl trivial ?_
    refine bd h (fun r2 hr2 h => ?_)
    refine Ev_call 2 189 1 [.ref a0, .int r1.1] [] rfl rfl rfl rfl g3 rfl rfl (Nat.le_of_ble_eq_true rfl) (t_M_slotFor hr2) ?_
    refine Ev_blk 5 (pc' := 27) (ls' := [.ref a0, .int a1, .int a2, .int r1.1, .int r2]) (st' := [.int r1.1, .ref (sR r1.2 a0 3), .int r2]) (s' := r1.2) rfl ⟨trivial, g3⟩ ?_
    refine bd h (fun r3 hr3 h => ?_)
    refine Ev_call 1 140 1 [.int r1.1] [.ref (sR r1.2 a0 3), .int r2] rfl rfl rfl rfl trivial rfl rfl (Nat.le_of_ble_eq_true rfl) (t_M_pageAt hr3) ?_
    refine gd h (fun g4 h => ?_)
    refine Ev_blk 4 (pc' := if r2 = (sI r1.2 (sR r1.2 a0 3) (r3 + (nI 0)).toNatClampNeg) then 36 else 95) (ls' := [.ref a0, .int a1, .int a2, .int r1.1, .int r2]) (st' := []) (s' := r1.2) rfl ⟨trivial, ⟨Or.inl g4.1, g4.2⟩⟩ ?_
    refine ib h (fun c5 h => ?_) (fun c5 h => ?_)
    · refine Ev_blk 4 (pc' := 43) (ls' := [.ref a0, .int a1, .int a2, .int r1.1, .int r2]) (st' := [.int r2, .int r1.1, .ref (sR r1.2 a0 3)]) (s' := r1.2) rfl ⟨trivial, g3⟩ ?_
      refine bd h (fun r4 hr4 h => ?_)
      refine Ev_call 1 191 2 [.int r1.1, .int r2] [.ref (sR r1.2 a0 3)] rfl rfl rfl rfl trivial rfl rfl (Nat.le_of_ble_eq_true rfl) (t_M_slotAt hr4) ?_
      refine gd h (fun g6 h => ?_)
      refine Ev_blk 8 (pc' := 57) (ls' := [.ref a0, .int a1, .int a2, .int r1.1, .int r2]) (st' := [.int r2, .int r1.1, .ref (sR r1.2 a0 3)]) (s' := setI r1.2 (sR r1.2 a0 3) (r4 + (nI 0)).toNatClampNeg (nI 0)) rfl ⟨⟨trivial, g6⟩, g3⟩ ?_
      refine bd h (fun r5 hr5 h => ?_)
      refine Ev_call 1 191 2 [.int r1.1, .int r2] [.ref (sR r1.2 a0 3)] rfl rfl rfl rfl trivial rfl rfl (Nat.le_of_ble_eq_true rfl) (t_M_slotAt hr5) ?_
      refine gd h (fun g7 h => ?_)
      refine Ev_blk 6 (pc' := 66) (ls' := [.ref a0, .int a1, .int a2, .int r1.1, .int r2]) (st' := [.int r1.1, .ref a0]) (s' := setI (setI r1.2 (sR r1.2 a0 3) (r4 + (nI 0)).toNatClampNeg (nI 0)) (sR r1.2 a0 3) (r5 + (nI 2)).toNatClampNeg (nI 0)) rfl ⟨trivial, g7⟩ ?_
      refine bd h (fun r6 hr6 h => ?_)
      refine Ev_call 2 199 1 [.ref a0, .int r1.1] [] rfl rfl rfl rfl g3 rfl rfl (Nat.le_of_ble_eq_true rfl) (t_M_gapOf hr6) ?_
      refine Ev_blk 4 (pc' := if r6 < (a2 + (nI 2)) then 75 else 80) (ls' := [.ref a0, .int a1, .int a2, .int r1.1, .int r2]) (st' := []) (s' := setI (setI r1.2 (sR r1.2 a0 3) (r4 + (nI 0)).toNatClampNeg (nI 0)) (sR r1.2 a0 3) (r5 + (nI 2)).toNatClampNeg (nI 0)) rfl trivial ?_
      refine ib h (fun c8 h => ?_) (fun c8 h => ?_)
      · refine Ev_blk 2 (pc' := 77) (ls' := [.ref a0, .int a1, .int a2, .int r1.1, .int r2]) (st' := [.int r1.1, .ref a0]) (s' := setI (setI r1.2 (sR r1.2 a0 3) (r4 + (nI 0)).toNatClampNeg (nI 0)) (sR r1.2 a0 3) (r5 + (nI 2)).toNatClampNeg (nI 0)) rfl trivial ?_
        refine bd h (fun r7 hr7 h => ?_)
        refine Ev_call 2 201 1 [.ref a0, .int r1.1] [] rfl rfl rfl rfl g3 rfl rfl (Nat.le_of_ble_eq_true rfl) (t_M_packIt hr7) ?_
        exact t_M_placed_80 h
      · exact t_M_placed_80 h
    · exact t_M_placed_95 h

