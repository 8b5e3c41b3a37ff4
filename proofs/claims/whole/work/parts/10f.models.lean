/-- RecordHeapModel.byteAt(II)I -/
def f_M_byteAt (s : AS) (a0 : Nat) (a1 : Int32) (a2 : Int32) : Option Int32 :=
  if ¬ (nI 16) = nI 0 then
  (f_M_pageAt s (a1 / (nI 16))).bind fun r1 =>
  if sT s a0 = 13 then
  (f_M_slotAt s (a1 / (nI 16)) (a1 - a1 / (nI 16) * (nI 16))).bind fun r2 =>
  if sT s (sR s a0 3) = 20 ∧ inA (r2 + (nI 1)) (sN s (sR s a0 3)) then
  some (((r1 + (nI 38)) + (sI s (sR s a0 3) (r2 + (nI 1)).toNatClampNeg)) + a2)
  else none
  else none
  else none
theorem t_M_byteAt {s : AS} {a0 : Nat} {a1 : Int32} {a2 : Int32} {o : Int32} (h : f_M_byteAt s a0 a1 a2 = some o) : Ev 2 mZ205 0 [.ref a0, .int a1, .int a2, .retAddr 0] [] s (some (.int o), s) := by
  unfold f_M_byteAt at h
  refine gd h (fun g1 h => ?_)
  refine Ev_blk 5 (pc' := 6) (ls' := [.ref a0, .int a1, .int a2, .int (a1 / (nI 16))]) (st' := [.int (a1 / (nI 16))]) (s' := s) rfl ⟨trivial, g1⟩ ?_
  refine bd h (fun r1 hr1 h => ?_)
  refine Ev_call 1 140 1 [.int (a1 / (nI 16))] [] rfl rfl rfl rfl trivial rfl rfl (Nat.le_of_ble_eq_true rfl) (t_M_pageAt hr1) ?_
  refine gd h (fun g2 h => ?_)
  refine Ev_blk 8 (pc' := 21) (ls' := [.ref a0, .int a1, .int a2, .int (a1 / (nI 16))]) (st' := [.int (a1 - a1 / (nI 16) * (nI 16)), .int (a1 / (nI 16)), .ref (sR s a0 3), .int (r1 + (nI 38))]) (s' := s) rfl ⟨⟨trivial, g2⟩, g1⟩ ?_
  refine bd h (fun r2 hr2 h => ?_)
  refine Ev_call 1 191 2 [.int (a1 / (nI 16)), .int (a1 - a1 / (nI 16) * (nI 16))] [.ref (sR s a0 3), .int (r1 + (nI 38))] rfl rfl rfl rfl trivial rfl rfl (Nat.le_of_ble_eq_true rfl) (t_M_slotAt hr2) ?_
  refine gd h (fun g3 h => ?_)
  refine Ev_blk 6 (pc' := 30) (ls' := [.ref a0, .int a1, .int a2, .int (a1 / (nI 16))]) (st' := [.int (((r1 + (nI 38)) + (sI s (sR s a0 3) (r2 + (nI 1)).toNatClampNeg)) + a2)]) (s' := s) rfl ⟨trivial, ⟨Or.inl g3.1, g3.2⟩⟩ ?_
  cases h
  exact Ev_ret rfl trivial

def b_M_copyTo_3 (k3 : Nat → Int32 → Int32 → Int32 → Int32 → Int32 → AS → Option AS) (v0 : Nat) (v1 : Int32) (v2 : Int32) (v3 : Int32) (v4 : Int32) (v5 : Int32) (s : AS) : Option AS :=
  if v5 < v4 then
    if sT s v0 = 13 then
    (f_M_byteAt s v0 v1 (v2 + v5)).bind fun r1 =>
    if sT s (sR s v0 43) = 20 ∧ inA (v3 + v5) (sN s (sR s v0 43)) then
    if sT s (sR s v0 3) = 20 ∧ inA r1 (sN s (sR s v0 3)) then
    k3 v0 v1 v2 v3 v4 (v5 + nI 1) (setI s (sR s v0 3) r1.toNatClampNeg (sI s (sR s v0 43) (v3 + v5).toNatClampNeg))
    else none
    else none
    else none
  else
    some s
theorem t_M_copyTo_3 {k3 : Nat → Int32 → Int32 → Int32 → Int32 → Int32 → AS → Option AS} (H3 : ∀ {v0 : Nat} {v1 : Int32} {v2 : Int32} {v3 : Int32} {v4 : Int32} {v5 : Int32} {s : AS} {o : AS}, k3 v0 v1 v2 v3 v4 v5 s = some o → Ev 3 mZ204 3 [.ref v0, .int v1, .int v2, .int v3, .int v4, .int v5] [] s (none, o))  {v0 : Nat} {v1 : Int32} {v2 : Int32} {v3 : Int32} {v4 : Int32} {v5 : Int32} {s : AS} {o : AS} (h : b_M_copyTo_3 k3 v0 v1 v2 v3 v4 v5 s = some o) : Ev 3 mZ204 3 [.ref v0, .int v1, .int v2, .int v3, .int v4, .int v5] [] s (none, o) := by
  unfold b_M_copyTo_3 at h
  refine Ev_blk 3 (pc' := if v5 < v4 then 10 else 39) (ls' := [.ref v0, .int v1, .int v2, .int v3, .int v4, .int v5]) (st' := []) (s' := s) rfl trivial ?_
  refine ib h (fun c1 h => ?_) (fun c1 h => ?_)
  · refine gd h (fun g2 h => ?_)
    refine Ev_blk 7 (pc' := 20) (ls' := [.ref v0, .int v1, .int v2, .int v3, .int v4, .int v5]) (st' := [.int (v2 + v5), .int v1, .ref v0, .ref (sR s v0 3)]) (s' := s) rfl ⟨trivial, g2⟩ ?_
    refine bd h (fun r1 hr1 h => ?_)
    refine Ev_call 2 205 2 [.ref v0, .int v1, .int (v2 + v5)] [.ref (sR s v0 3)] rfl rfl rfl rfl g2 rfl rfl (Nat.le_of_ble_eq_true rfl) (t_M_byteAt hr1) ?_
    refine gd h (fun g3 h => ?_)
    refine gd h (fun g4 h => ?_)
    refine Ev_blk 9 (pc' := 3) (ls' := [.ref v0, .int v1, .int v2, .int v3, .int v4, .int (v5 + nI 1)]) (st' := []) (s' := setI s (sR s v0 3) r1.toNatClampNeg (sI s (sR s v0 43) (v3 + v5).toNatClampNeg)) rfl ⟨⟨⟨trivial, g2⟩, ⟨Or.inl g3.1, g3.2⟩⟩, g4⟩ ?_
    exact H3 h
  · cases h
    exact Ev_ret rfl trivial
def l_M_copyTo_3  : Nat → Nat → Int32 → Int32 → Int32 → Int32 → Int32 → AS → Option AS
  | 0 => fun _ _ _ _ _ _ _ => none
  | n + 1 => b_M_copyTo_3  (l_M_copyTo_3  n)
theorem u_M_copyTo_3   {n : Nat} : ∀  {v0 : Nat} {v1 : Int32} {v2 : Int32} {v3 : Int32} {v4 : Int32} {v5 : Int32} {s : AS} {o : AS}, l_M_copyTo_3  n v0 v1 v2 v3 v4 v5 s = some o → Ev 3 mZ204 3 [.ref v0, .int v1, .int v2, .int v3, .int v4, .int v5] [] s (none, o) := by
  induction n with
  | zero => intros; rename_i h; cases h
  | succ n ih => intros; rename_i h; exact t_M_copyTo_3  (fun h => ih h) h
/-- RecordHeapModel.copyTo(IIII)V -/
def f_M_copyTo (s : AS) (a0 : Nat) (a1 : Int32) (a2 : Int32) (a3 : Int32) (a4 : Int32) : Option AS :=
  l_M_copyTo_3 fuel a0 a1 a2 a3 a4 (nI 0) s
theorem t_M_copyTo {s : AS} {a0 : Nat} {a1 : Int32} {a2 : Int32} {a3 : Int32} {a4 : Int32} {o : AS} (h : f_M_copyTo s a0 a1 a2 a3 a4 = some o) : Ev 3 mZ204 0 [.ref a0, .int a1, .int a2, .int a3, .int a4, .retAddr 0] [] s (none, o) := by
  unfold f_M_copyTo at h
  refine Ev_blk 2 (pc' := 3) (ls' := [.ref a0, .int a1, .int a2, .int a3, .int a4, .int (nI 0)]) (st' := []) (s' := s) rfl trivial ?_
  exact u_M_copyTo_3 h

def b_M_point_22  (v0 : Nat) (v1 : Int32) (v2 : Int32) (w0 : Int32) (w1 : Int32) (w2 : Nat) (s : AS) : Option AS :=
  if sT s w2 = 20 ∧ inA w1 (sN s w2) then
  if sT s v0 = 13 then
  (f_M_byteAt (setI s w2 w1.toNatClampNeg w0) v0 v1 (nI 1)).bind fun r1 =>
    if sT s (sR s v0 3) = 20 ∧ inA r1 (sN s (sR s v0 3)) then
    some (setI (setI s w2 w1.toNatClampNeg w0) (sR s v0 3) r1.toNatClampNeg (if v2 = (-(nI 1)) then nI 255 else v2))
    else none
  else none
  else none
theorem t_M_point_22    {v0 : Nat} {v1 : Int32} {v2 : Int32} {w0 : Int32} {w1 : Int32} {w2 : Nat} {s : AS} {o : AS} (h : b_M_point_22  v0 v1 v2 w0 w1 w2 s = some o) : Ev 3 mZ207 22 [.ref v0, .int v1, .int v2] [.int w0, .int w1, .ref w2] s (none, o) := by
  unfold b_M_point_22 at h
  refine gd h (fun g1 h => ?_)
  refine gd h (fun g2 h => ?_)
  refine Ev_blk 6 (pc' := 30) (ls' := [.ref v0, .int v1, .int v2]) (st' := [.int (nI 1), .int v1, .ref v0, .ref (sR s v0 3)]) (s' := setI s w2 w1.toNatClampNeg w0) rfl ⟨⟨trivial, g1⟩, g2⟩ ?_
  refine bd h (fun r1 hr1 h => ?_)
  refine Ev_call 2 205 2 [.ref v0, .int v1, .int (nI 1)] [.ref (sR s v0 3)] rfl rfl rfl rfl g2 rfl rfl (Nat.le_of_ble_eq_true rfl) (t_M_byteAt hr1) ?_
  refine Ev_blk 3 (pc' := if v2 = (-(nI 1)) then 38 else 44) (ls' := [.ref v0, .int v1, .int v2]) (st' := [.int r1, .ref (sR s v0 3)]) (s' := setI s w2 w1.toNatClampNeg w0) rfl trivial ?_
  have k3_ : Ev 3 mZ207 45 [.ref v0, .int v1, .int v2] [.int (if v2 = (-(nI 1)) then nI 255 else v2), .int r1, .ref (sR s v0 3)] (setI s w2 w1.toNatClampNeg w0) (none, o) := by
    refine gd h (fun g4 h => ?_)
    refine Ev_blk 1 (pc' := 46) (ls' := [.ref v0, .int v1, .int v2]) (st' := []) (s' := setI (setI s w2 w1.toNatClampNeg w0) (sR s v0 3) r1.toNatClampNeg (if v2 = (-(nI 1)) then nI 255 else v2)) rfl ⟨trivial, g4⟩ ?_
    cases h
    exact Ev_ret rfl trivial
  refine icases (fun c5 => ?_) (fun c5 => ?_)
  · exact Ev_blk 2 (pc' := 45) (ls' := [.ref v0, .int v1, .int v2]) (st' := [.int (nI 255), .int r1, .ref (sR s v0 3)]) (s' := setI s w2 w1.toNatClampNeg w0) rfl trivial (by simpa only [if_pos c5] using k3_)
  · exact Ev_blk 1 (pc' := 45) (ls' := [.ref v0, .int v1, .int v2]) (st' := [.int v2, .int r1, .ref (sR s v0 3)]) (s' := setI s w2 w1.toNatClampNeg w0) rfl trivial (by simpa only [if_neg c5] using k3_)
/-- RecordHeapModel.point(II)V -/
def f_M_point (s : AS) (a0 : Nat) (a1 : Int32) (a2 : Int32) : Option AS :=
  if sT s a0 = 13 then
  (f_M_byteAt s a0 a1 (nI 0)).bind fun r1 =>
    b_M_point_22 a0 a1 a2 (if a2 = (-(nI 1)) then nI 255 else nI 0) r1 (sR s a0 3) s
  else none
theorem t_M_point {s : AS} {a0 : Nat} {a1 : Int32} {a2 : Int32} {o : AS} (h : f_M_point s a0 a1 a2 = some o) : Ev 3 mZ207 0 [.ref a0, .int a1, .int a2] [] s (none, o) := by
  unfold f_M_point at h
  refine gd h (fun g1 h => ?_)
  refine Ev_blk 5 (pc' := 7) (ls' := [.ref a0, .int a1, .int a2]) (st' := [.int (nI 0), .int a1, .ref a0, .ref (sR s a0 3)]) (s' := s) rfl ⟨trivial, g1⟩ ?_
  refine bd h (fun r1 hr1 h => ?_)
  refine Ev_call 2 205 2 [.ref a0, .int a1, .int (nI 0)] [.ref (sR s a0 3)] rfl rfl rfl rfl g1 rfl rfl (Nat.le_of_ble_eq_true rfl) (t_M_byteAt hr1) ?_
  refine Ev_blk 3 (pc' := if a2 = (-(nI 1)) then 15 else 21) (ls' := [.ref a0, .int a1, .int a2]) (st' := [.int r1, .ref (sR s a0 3)]) (s' := s) rfl trivial ?_
  have k2_ : Ev 3 mZ207 22 [.ref a0, .int a1, .int a2] [.int (if a2 = (-(nI 1)) then nI 255 else nI 0), .int r1, .ref (sR s a0 3)] s (none, o) := by
    exact t_M_point_22 h
  refine icases (fun c3 => ?_) (fun c3 => ?_)
  · exact Ev_blk 2 (pc' := 22) (ls' := [.ref a0, .int a1, .int a2]) (st' := [.int (nI 255), .int r1, .ref (sR s a0 3)]) (s' := s) rfl trivial (by simpa only [if_pos c3] using k2_)
  · exact Ev_blk 1 (pc' := 22) (ls' := [.ref a0, .int a1, .int a2]) (st' := [.int (nI 0), .int r1, .ref (sR s a0 3)]) (s' := s) rfl trivial (by simpa only [if_neg c3] using k2_)

def b_M_putPieces_52 (k16 : Nat → Int32 → Int32 → AS → Option (Int32 × AS)) (v0 : Nat) (v2 : Int32) (v3 : Int32) (v4 : Int32) (w0 : Int32) (s : AS) : Option (Int32 × AS) :=
  if sT s v0 = 13 then
  (f_M_placed s v0 (nI 5) (w0 + (nI 2))).bind fun r1 =>
  if r1.1 = (-(nI 1)) then
    some (-(nI 2), r1.2)
  else
    if sT r1.2 v0 = 13 then
    (f_M_point r1.2 v0 r1.1 v2).bind fun r2 =>
    if sT r2 v0 = 13 then
    (f_M_copyTo r2 v0 r1.1 (nI 2) v4 w0).bind fun r3 =>
    k16 v0 r1.1 (v3 + (-(nI 1))) r3
    else none
    else none
  else none
theorem t_M_putPieces_52 {k16 : Nat → Int32 → Int32 → AS → Option (Int32 × AS)} (H16 : ∀ {d1 d4 d5 d6 : Value} {v0 : Nat} {v2 : Int32} {v3 : Int32} {s : AS} {o : Int32 × AS}, k16 v0 v2 v3 s = some o → Ev 9 mZ206 16 [.ref v0, d1, .int v2, .int v3, d4, d5, d6] [] s (some (.int o.1), o.2)) {d1 d5 d6 : Value} {v0 : Nat} {v2 : Int32} {v3 : Int32} {v4 : Int32} {w0 : Int32} {s : AS} {o : Int32 × AS} (h : b_M_putPieces_52 k16 v0 v2 v3 v4 w0 s = some o) : Ev 9 mZ206 52 [.ref v0, d1, .int v2, .int v3, .int v4, d5, d6] [.int w0] s (some (.int o.1), o.2) := by
  unfold b_M_putPieces_52 at h
  refine gd h (fun g1 h => ?_)
  refine Ev_blk 6 (pc' := 60) (ls' := [.ref v0, d1, .int v2, .int v3, .int v4, .int w0, d6]) (st' := [.int (w0 + (nI 2)), .int (nI 5), .ref v0]) (s' := s) rfl trivial ?_
  refine bd h (fun r1 hr1 h => ?_)
  refine Ev_call 2 187 2 [.ref v0, .int (nI 5), .int (w0 + (nI 2))] [] rfl rfl rfl rfl g1 rfl rfl (Nat.le_of_ble_eq_true rfl) (t_M_placed hr1) ?_
  refine Ev_blk 4 (pc' := if r1.1 = (-(nI 1)) then 71 else 74) (ls' := [.ref v0, d1, .int v2, .int v3, .int v4, .int w0, .int r1.1]) (st' := []) (s' := r1.2) rfl trivial ?_
  refine ib h (fun c2 h => ?_) (fun c2 h => ?_)
  · refine Ev_blk 1 (pc' := 73) (ls' := [.ref v0, d1, .int v2, .int v3, .int v4, .int w0, .int r1.1]) (st' := [.int (-(nI 2))]) (s' := r1.2) rfl trivial ?_
    cases h
    exact Ev_ret rfl trivial
  · refine gd h (fun g3 h => ?_)
    refine Ev_blk 3 (pc' := 78) (ls' := [.ref v0, d1, .int v2, .int v3, .int v4, .int w0, .int r1.1]) (st' := [.int v2, .int r1.1, .ref v0]) (s' := r1.2) rfl trivial ?_
    refine bd h (fun r2 hr2 h => ?_)
    refine Ev_call 2 207 2 [.ref v0, .int r1.1, .int v2] [] rfl rfl rfl rfl g3 rfl rfl (Nat.le_of_ble_eq_true rfl) (t_M_point hr2) ?_
    refine gd h (fun g4 h => ?_)
    refine Ev_blk 5 (pc' := 89) (ls' := [.ref v0, d1, .int v2, .int v3, .int v4, .int w0, .int r1.1]) (st' := [.int w0, .int v4, .int (nI 2), .int r1.1, .ref v0]) (s' := r2) rfl trivial ?_
    refine bd h (fun r3 hr3 h => ?_)
    refine Ev_call 2 204 4 [.ref v0, .int r1.1, .int (nI 2), .int v4, .int w0] [] rfl rfl rfl rfl g4 rfl rfl (Nat.le_of_ble_eq_true rfl) (t_M_copyTo hr3) ?_
    refine Ev_blk 4 (pc' := 16) (ls' := [.ref v0, (clrV d1), .int r1.1, .int (v3 + (-(nI 1))), .int v4, .int w0, .int r1.1]) (st' := []) (s' := r3) rfl trivial ?_
    exact H16 h
def b_M_putPieces_16 (k16 : Nat → Int32 → Int32 → AS → Option (Int32 × AS)) (v0 : Nat) (v2 : Int32) (v3 : Int32) (s : AS) : Option (Int32 × AS) :=
  if v3 < (nI 0) then
    some (v2, s)
  else
    if sT s v0 = 13 then
    if ((sI s v0 44) - ((nI 38) * (v3 + (nI 1)))) < (nI 38) then
      b_M_putPieces_52 k16 v0 v2 v3 ((nI 38) * (v3 + (nI 1))) ((sI s v0 44) - ((nI 38) * (v3 + (nI 1)))) s
    else
      b_M_putPieces_52 k16 v0 v2 v3 ((nI 38) * (v3 + (nI 1))) (nI 38) s
    else none
theorem t_M_putPieces_16 {k16 : Nat → Int32 → Int32 → AS → Option (Int32 × AS)} (H16 : ∀ {d1 d4 d5 d6 : Value} {v0 : Nat} {v2 : Int32} {v3 : Int32} {s : AS} {o : Int32 × AS}, k16 v0 v2 v3 s = some o → Ev 9 mZ206 16 [.ref v0, d1, .int v2, .int v3, d4, d5, d6] [] s (some (.int o.1), o.2)) {d1 d4 d5 d6 : Value} {v0 : Nat} {v2 : Int32} {v3 : Int32} {s : AS} {o : Int32 × AS} (h : b_M_putPieces_16 k16 v0 v2 v3 s = some o) : Ev 9 mZ206 16 [.ref v0, d1, .int v2, .int v3, d4, d5, d6] [] s (some (.int o.1), o.2) := by
  unfold b_M_putPieces_16 at h
  refine Ev_blk 2 (pc' := if v3 < (nI 0) then 101 else 20) (ls' := [.ref v0, d1, .int v2, .int v3, d4, d5, d6]) (st' := []) (s' := s) rfl trivial ?_
  refine ib h (fun c1 h => ?_) (fun c1 h => ?_)
  · refine Ev_blk 1 (pc' := 102) (ls' := [.ref v0, d1, .int v2, .int v3, d4, d5, d6]) (st' := [.int v2]) (s' := s) rfl trivial ?_
    cases h
    exact Ev_ret rfl trivial
  · refine gd h (fun g2 h => ?_)
    refine Ev_blk 12 (pc' := if ((sI s v0 44) - ((nI 38) * (v3 + (nI 1)))) < (nI 38) then 40 else 50) (ls' := [.ref v0, d1, .int v2, .int v3, .int ((nI 38) * (v3 + (nI 1))), d5, d6]) (st' := []) (s' := s) rfl ⟨trivial, g2⟩ ?_
    refine ib h (fun c3 h => ?_) (fun c3 h => ?_)
    · refine Ev_blk 5 (pc' := 52) (ls' := [.ref v0, d1, .int v2, .int v3, .int ((nI 38) * (v3 + (nI 1))), d5, d6]) (st' := [.int ((sI s v0 44) - ((nI 38) * (v3 + (nI 1))))]) (s' := s) rfl ⟨trivial, g2⟩ ?_
      exact t_M_putPieces_52 H16 h
    · refine Ev_blk 1 (pc' := 52) (ls' := [.ref v0, d1, .int v2, .int v3, .int ((nI 38) * (v3 + (nI 1))), d5, d6]) (st' := [.int (nI 38)]) (s' := s) rfl trivial ?_
      exact t_M_putPieces_52 H16 h
def l_M_putPieces_16  : Nat → Nat → Int32 → Int32 → AS → Option (Int32 × AS)
  | 0 => fun _ _ _ _ => none
  | n + 1 => b_M_putPieces_16  (l_M_putPieces_16  n)
theorem u_M_putPieces_16   {n : Nat} : ∀ {d1 d4 d5 d6 : Value} {v0 : Nat} {v2 : Int32} {v3 : Int32} {s : AS} {o : Int32 × AS}, l_M_putPieces_16  n v0 v2 v3 s = some o → Ev 9 mZ206 16 [.ref v0, d1, .int v2, .int v3, d4, d5, d6] [] s (some (.int o.1), o.2) := by
  induction n with
  | zero => intros; rename_i h; cases h
  | succ n ih => intros; rename_i h; exact t_M_putPieces_16  (fun h => ih h) h
/-- RecordHeapModel.putPieces()I -/
def f_M_putPieces (s : AS) (a0 : Nat) : Option (Int32 × AS) :=
  if sT s a0 = 13 then
  if ¬ (nI 38) = nI 0 then
  l_M_putPieces_16 fuel a0 (-(nI 1)) ((((sI s a0 44) - (nI 1)) / (nI 38)) - (nI 1)) s
  else none
  else none
theorem t_M_putPieces {s : AS} {a0 : Nat} {o : Int32 × AS} (h : f_M_putPieces s a0 = some o) : Ev 9 mZ206 0 [.ref a0, .retAddr 0, .retAddr 0, .retAddr 0, .retAddr 0, .retAddr 0, .retAddr 0] [] s (some (.int o.1), o.2) := by
  unfold f_M_putPieces at h
  refine gd h (fun g1 h => ?_)
  refine gd h (fun g2 h => ?_)
  refine Ev_blk 13 (pc' := 16) (ls' := [.ref a0, .int (((sI s a0 44) - (nI 1)) / (nI 38)), .int (-(nI 1)), .int ((((sI s a0 44) - (nI 1)) / (nI 38)) - (nI 1)), .retAddr 0, .retAddr 0, .retAddr 0]) (st' := []) (s' := s) rfl ⟨⟨trivial, g1⟩, g2⟩ ?_
  exact u_M_putPieces_16 h

/-- RecordHeapModel.putIt()I -/
def f_M_putIt (s : AS) (a0 : Nat) : Option (Int32 × AS) :=
  if sT s a0 = 13 then
  if (nI 40) < (sI s a0 44) then
    (f_M_putPieces s a0).bind fun r1 =>
    if r1.1 = (-(nI 2)) then
      some (-(nI 1), r1.2)
    else
      if sT r1.2 a0 = 13 then
      (f_M_placed r1.2 a0 (nI 4) (nI 40)).bind fun r2 =>
      if r2.1 = (-(nI 1)) then
        some (r2.1, r2.2)
      else
        if sT r2.2 a0 = 13 then
        (f_M_point r2.2 a0 r2.1 r1.1).bind fun r3 =>
        if sT r3 a0 = 13 then
        (f_M_copyTo r3 a0 r2.1 (nI 2) (nI 0) (nI 38)).bind fun r4 =>
        some (r2.1, r4)
        else none
        else none
      else none
  else
    (f_M_placed s a0 (nI 1) (sI s a0 44)).bind fun r5 =>
    if r5.1 = (-(nI 1)) then
      some (r5.1, r5.2)
    else
      if sT r5.2 a0 = 13 then
      (f_M_copyTo r5.2 a0 r5.1 (nI 0) (nI 0) (sI r5.2 a0 44)).bind fun r6 =>
      some (r5.1, r6)
      else none
  else none
theorem t_M_putIt {s : AS} {a0 : Nat} {o : Int32 × AS} (h : f_M_putIt s a0 = some o) : Ev 10 mZ186 0 [.ref a0, .retAddr 0, .retAddr 0] [] s (some (.int o.1), o.2) := by
  unfold f_M_putIt at h
  refine gd h (fun g1 h => ?_)
  refine Ev_blk 4 (pc' := if (nI 40) < (sI s a0 44) then 37 else 9) (ls' := [.ref a0, .retAddr 0, .retAddr 0]) (st' := []) (s' := s) rfl ⟨trivial, g1⟩ ?_
  refine ib h (fun c2 h => ?_) (fun c2 h => ?_)
  · refine Ev_blk 1 (pc' := 38) (ls' := [.ref a0, .retAddr 0, .retAddr 0]) (st' := [.ref a0]) (s' := s) rfl trivial ?_
    refine bd h (fun r1 hr1 h => ?_)
    refine Ev_call 2 206 0 [.ref a0] [] rfl rfl rfl rfl g1 rfl rfl (Nat.le_of_ble_eq_true rfl) (t_M_putPieces hr1) ?_
    refine Ev_blk 4 (pc' := if r1.1 = (-(nI 2)) then 48 else 50) (ls' := [.ref a0, .int r1.1, .retAddr 0]) (st' := []) (s' := r1.2) rfl trivial ?_
    refine ib h (fun c3 h => ?_) (fun c3 h => ?_)
    · refine Ev_blk 1 (pc' := 49) (ls' := [.ref a0, .int r1.1, .retAddr 0]) (st' := [.int (-(nI 1))]) (s' := r1.2) rfl trivial ?_
      cases h
      exact Ev_ret rfl trivial
    · refine gd h (fun g4 h => ?_)
      refine Ev_blk 3 (pc' := 54) (ls' := [.ref a0, .int r1.1, .retAddr 0]) (st' := [.int (nI 40), .int (nI 4), .ref a0]) (s' := r1.2) rfl trivial ?_
      refine bd h (fun r2 hr2 h => ?_)
      refine Ev_call 2 187 2 [.ref a0, .int (nI 4), .int (nI 40)] [] rfl rfl rfl rfl g4 rfl rfl (Nat.le_of_ble_eq_true rfl) (t_M_placed hr2) ?_
      refine Ev_blk 4 (pc' := if r2.1 = (-(nI 1)) then 78 else 63) (ls' := [.ref a0, .int r1.1, .int r2.1]) (st' := []) (s' := r2.2) rfl trivial ?_
      refine ib h (fun c5 h => ?_) (fun c5 h => ?_)
      · refine Ev_blk 1 (pc' := 79) (ls' := [.ref a0, .int r1.1, .int r2.1]) (st' := [.int r2.1]) (s' := r2.2) rfl trivial ?_
        cases h
        exact Ev_ret rfl trivial
      · refine gd h (fun g6 h => ?_)
        refine Ev_blk 3 (pc' := 66) (ls' := [.ref a0, .int r1.1, .int r2.1]) (st' := [.int r1.1, .int r2.1, .ref a0]) (s' := r2.2) rfl trivial ?_
        refine bd h (fun r3 hr3 h => ?_)
        refine Ev_call 2 207 2 [.ref a0, .int r2.1, .int r1.1] [] rfl rfl rfl rfl g6 rfl rfl (Nat.le_of_ble_eq_true rfl) (t_M_point hr3) ?_
        refine gd h (fun g7 h => ?_)
        refine Ev_blk 5 (pc' := 75) (ls' := [.ref a0, .int r1.1, .int r2.1]) (st' := [.int (nI 38), .int (nI 0), .int (nI 2), .int r2.1, .ref a0]) (s' := r3) rfl trivial ?_
        refine bd h (fun r4 hr4 h => ?_)
        refine Ev_call 2 204 4 [.ref a0, .int r2.1, .int (nI 2), .int (nI 0), .int (nI 38)] [] rfl rfl rfl rfl g7 rfl rfl (Nat.le_of_ble_eq_true rfl) (t_M_copyTo hr4) ?_
        refine Ev_blk 1 (pc' := 79) (ls' := [.ref a0, .int r1.1, .int r2.1]) (st' := [.int r2.1]) (s' := r4) rfl trivial ?_
        cases h
        exact Ev_ret rfl trivial
  · refine Ev_blk 4 (pc' := 15) (ls' := [.ref a0, .retAddr 0, .retAddr 0]) (st' := [.int (sI s a0 44), .int (nI 1), .ref a0]) (s' := s) rfl ⟨trivial, g1⟩ ?_
    refine bd h (fun r5 hr5 h => ?_)
    refine Ev_call 2 187 2 [.ref a0, .int (nI 1), .int (sI s a0 44)] [] rfl rfl rfl rfl g1 rfl rfl (Nat.le_of_ble_eq_true rfl) (t_M_placed hr5) ?_
    refine Ev_blk 4 (pc' := if r5.1 = (-(nI 1)) then 35 else 24) (ls' := [.ref a0, .int r5.1, .retAddr 0]) (st' := []) (s' := r5.2) rfl trivial ?_
    refine ib h (fun c8 h => ?_) (fun c8 h => ?_)
    · refine Ev_blk 1 (pc' := 36) (ls' := [.ref a0, .int r5.1, .retAddr 0]) (st' := [.int r5.1]) (s' := r5.2) rfl trivial ?_
      cases h
      exact Ev_ret rfl trivial
    · refine gd h (fun g9 h => ?_)
      refine Ev_blk 6 (pc' := 32) (ls' := [.ref a0, .int r5.1, .retAddr 0]) (st' := [.int (sI r5.2 a0 44), .int (nI 0), .int (nI 0), .int r5.1, .ref a0]) (s' := r5.2) rfl ⟨trivial, g9⟩ ?_
      refine bd h (fun r6 hr6 h => ?_)
      refine Ev_call 2 204 4 [.ref a0, .int r5.1, .int (nI 0), .int (nI 0), .int (sI r5.2 a0 44)] [] rfl rfl rfl rfl g9 rfl rfl (Nat.le_of_ble_eq_true rfl) (t_M_copyTo hr6) ?_
      refine Ev_blk 1 (pc' := 36) (ls' := [.ref a0, .int r5.1, .retAddr 0]) (st' := [.int r5.1]) (s' := r6) rfl trivial ?_
      cases h
      exact Ev_ret rfl trivial

def b_M_rememberTried_80 (k80 : Nat → Int32 → Int32 → AS → Option AS) (v0 : Nat) (v1 : Int32) (v2 : Int32) (s : AS) : Option AS :=
  if v2 < (nI 816) then
    if sT s v0 = 13 then
    if sT s (sR s v0 6) = 20 ∧ inA ((nI 14688) + v2) (sN s (sR s v0 6)) then
    if sT s (sR s v0 6) = 20 ∧ inA (((nI 816) * (sI s v0 8)) + v2) (sN s (sR s v0 6)) then
    k80 v0 v1 (v2 + nI 1) (setI s (sR s v0 6) (((nI 816) * (sI s v0 8)) + v2).toNatClampNeg (sI s (sR s v0 6) ((nI 14688) + v2).toNatClampNeg))
    else none
    else none
    else none
  else
    if sT s v0 = 13 then
    if sT s (sR s v0 7) = 20 ∧ inA (sI s v0 8) (sN s (sR s v0 7)) then
    some (setI (setI s (sR s v0 7) (sI s v0 8).toNatClampNeg v1) v0 8 ((sI (setI s (sR s v0 7) (sI s v0 8).toNatClampNeg v1) v0 8) + (nI 1)))
    else none
    else none
theorem t_M_rememberTried_80 {k80 : Nat → Int32 → Int32 → AS → Option AS} (H80 : ∀ {v0 : Nat} {v1 : Int32} {v2 : Int32} {s : AS} {o : AS}, k80 v0 v1 v2 s = some o → Ev 0 mZ208 80 [.ref v0, .int v1, .int v2] [] s (none, o))  {v0 : Nat} {v1 : Int32} {v2 : Int32} {s : AS} {o : AS} (h : b_M_rememberTried_80 k80 v0 v1 v2 s = some o) : Ev 0 mZ208 80 [.ref v0, .int v1, .int v2] [] s (none, o) := by
  unfold b_M_rememberTried_80 at h
  refine Ev_blk 3 (pc' := if v2 < (nI 816) then 87 else 118) (ls' := [.ref v0, .int v1, .int v2]) (st' := []) (s' := s) rfl trivial ?_
  refine ib h (fun c1 h => ?_) (fun c1 h => ?_)
  · refine gd h (fun g2 h => ?_)
    refine gd h (fun g3 h => ?_)
    refine gd h (fun g4 h => ?_)
    refine Ev_blk 17 (pc' := 80) (ls' := [.ref v0, .int v1, .int (v2 + nI 1)]) (st' := []) (s' := setI s (sR s v0 6) (((nI 816) * (sI s v0 8)) + v2).toNatClampNeg (sI s (sR s v0 6) ((nI 14688) + v2).toNatClampNeg)) rfl ⟨⟨⟨⟨⟨trivial, g2⟩, g2⟩, g2⟩, ⟨Or.inl g3.1, g3.2⟩⟩, g4⟩ ?_
    exact H80 h
  · refine gd h (fun g5 h => ?_)
    refine gd h (fun g6 h => ?_)
    refine Ev_blk 12 (pc' := 138) (ls' := [.ref v0, .int v1, .int v2]) (st' := []) (s' := setI (setI s (sR s v0 7) (sI s v0 8).toNatClampNeg v1) v0 8 ((sI (setI s (sR s v0 7) (sI s v0 8).toNatClampNeg v1) v0 8) + (nI 1))) rfl ⟨⟨⟨⟨⟨trivial, g5⟩, g5⟩, g6⟩, g5⟩, g5⟩ ?_
    cases h
    exact Ev_ret rfl trivial
def l_M_rememberTried_80  : Nat → Nat → Int32 → Int32 → AS → Option AS
  | 0 => fun _ _ _ _ => none
  | n + 1 => b_M_rememberTried_80  (l_M_rememberTried_80  n)
theorem u_M_rememberTried_80   {n : Nat} : ∀  {v0 : Nat} {v1 : Int32} {v2 : Int32} {s : AS} {o : AS}, l_M_rememberTried_80  n v0 v1 v2 s = some o → Ev 0 mZ208 80 [.ref v0, .int v1, .int v2] [] s (none, o) := by
  induction n with
  | zero => intros; rename_i h; cases h
  | succ n ih => intros; rename_i h; exact t_M_rememberTried_80  (fun h => ih h) h
def b_M_rememberTried_78  (v0 : Nat) (v1 : Int32) (s : AS) : Option AS :=
  l_M_rememberTried_80 fuel v0 v1 (nI 0) s
theorem t_M_rememberTried_78   {d2 : Value} {v0 : Nat} {v1 : Int32} {s : AS} {o : AS} (h : b_M_rememberTried_78  v0 v1 s = some o) : Ev 0 mZ208 78 [.ref v0, .int v1, d2] [] s (none, o) := by
  unfold b_M_rememberTried_78 at h
  refine Ev_blk 2 (pc' := 80) (ls' := [.ref v0, .int v1, .int (nI 0)]) (st' := []) (s' := s) rfl trivial ?_
  exact u_M_rememberTried_80 h
def b_M_rememberTried_42 (k42 : Nat → Int32 → Int32 → AS → Option AS) (v0 : Nat) (v1 : Int32) (v2 : Int32) (s : AS) : Option AS :=
  if v2 < (nI 15) then
    if sT s v0 = 13 then
    if sT s (sR s v0 7) = 20 ∧ inA (v2 + (nI 1)) (sN s (sR s v0 7)) then
    if sT s (sR s v0 7) = 20 ∧ inA v2 (sN s (sR s v0 7)) then
    k42 v0 v1 (v2 + nI 1) (setI s (sR s v0 7) v2.toNatClampNeg (sI s (sR s v0 7) (v2 + (nI 1)).toNatClampNeg))
    else none
    else none
    else none
  else
    if sT s v0 = 13 then
    b_M_rememberTried_78 v0 v1 (setI s v0 8 ((sI s v0 8) - (nI 1)))
    else none
theorem t_M_rememberTried_42 {k42 : Nat → Int32 → Int32 → AS → Option AS} (H42 : ∀ {v0 : Nat} {v1 : Int32} {v2 : Int32} {s : AS} {o : AS}, k42 v0 v1 v2 s = some o → Ev 0 mZ208 42 [.ref v0, .int v1, .int v2] [] s (none, o))  {v0 : Nat} {v1 : Int32} {v2 : Int32} {s : AS} {o : AS} (h : b_M_rememberTried_42 k42 v0 v1 v2 s = some o) : Ev 0 mZ208 42 [.ref v0, .int v1, .int v2] [] s (none, o) := by
  unfold b_M_rememberTried_42 at h
  refine Ev_blk 3 (pc' := if v2 < (nI 15) then 48 else 68) (ls' := [.ref v0, .int v1, .int v2]) (st' := []) (s' := s) rfl trivial ?_
  refine ib h (fun c1 h => ?_) (fun c1 h => ?_)
  · refine gd h (fun g2 h => ?_)
    refine gd h (fun g3 h => ?_)
    refine gd h (fun g4 h => ?_)
    refine Ev_blk 12 (pc' := 42) (ls' := [.ref v0, .int v1, .int (v2 + nI 1)]) (st' := []) (s' := setI s (sR s v0 7) v2.toNatClampNeg (sI s (sR s v0 7) (v2 + (nI 1)).toNatClampNeg)) rfl ⟨⟨⟨⟨trivial, g2⟩, g2⟩, ⟨Or.inl g3.1, g3.2⟩⟩, g4⟩ ?_
    exact H42 h
  · refine gd h (fun g5 h => ?_)
    refine Ev_blk 6 (pc' := 78) (ls' := [.ref v0, .int v1, .int v2]) (st' := []) (s' := setI s v0 8 ((sI s v0 8) - (nI 1))) rfl ⟨⟨trivial, g5⟩, g5⟩ ?_
    exact t_M_rememberTried_78 h
def l_M_rememberTried_42  : Nat → Nat → Int32 → Int32 → AS → Option AS
  | 0 => fun _ _ _ _ => none
  | n + 1 => b_M_rememberTried_42  (l_M_rememberTried_42  n)
theorem u_M_rememberTried_42   {n : Nat} : ∀  {v0 : Nat} {v1 : Int32} {v2 : Int32} {s : AS} {o : AS}, l_M_rememberTried_42  n v0 v1 v2 s = some o → Ev 0 mZ208 42 [.ref v0, .int v1, .int v2] [] s (none, o) := by
  induction n with
  | zero => intros; rename_i h; cases h
  | succ n ih => intros; rename_i h; exact t_M_rememberTried_42  (fun h => ih h) h
def b_M_rememberTried_11 (k11 : Nat → Int32 → Int32 → AS → Option AS) (v0 : Nat) (v1 : Int32) (v2 : Int32) (s : AS) : Option AS :=
  if v2 < (nI 12240) then
    if sT s v0 = 13 then
    if sT s (sR s v0 6) = 20 ∧ inA (v2 + (nI 816)) (sN s (sR s v0 6)) then
    if sT s (sR s v0 6) = 20 ∧ inA v2 (sN s (sR s v0 6)) then
    k11 v0 v1 (v2 + nI 1) (setI s (sR s v0 6) v2.toNatClampNeg (sI s (sR s v0 6) (v2 + (nI 816)).toNatClampNeg))
    else none
    else none
    else none
  else
    l_M_rememberTried_42 fuel v0 v1 (nI 0) s
theorem t_M_rememberTried_11 {k11 : Nat → Int32 → Int32 → AS → Option AS} (H11 : ∀ {v0 : Nat} {v1 : Int32} {v2 : Int32} {s : AS} {o : AS}, k11 v0 v1 v2 s = some o → Ev 0 mZ208 11 [.ref v0, .int v1, .int v2] [] s (none, o))  {v0 : Nat} {v1 : Int32} {v2 : Int32} {s : AS} {o : AS} (h : b_M_rememberTried_11 k11 v0 v1 v2 s = some o) : Ev 0 mZ208 11 [.ref v0, .int v1, .int v2] [] s (none, o) := by
  unfold b_M_rememberTried_11 at h
  refine Ev_blk 3 (pc' := if v2 < (nI 12240) then 18 else 40) (ls' := [.ref v0, .int v1, .int v2]) (st' := []) (s' := s) rfl trivial ?_
  refine ib h (fun c1 h => ?_) (fun c1 h => ?_)
  · refine gd h (fun g2 h => ?_)
    refine gd h (fun g3 h => ?_)
    refine gd h (fun g4 h => ?_)
    refine Ev_blk 12 (pc' := 11) (ls' := [.ref v0, .int v1, .int (v2 + nI 1)]) (st' := []) (s' := setI s (sR s v0 6) v2.toNatClampNeg (sI s (sR s v0 6) (v2 + (nI 816)).toNatClampNeg)) rfl ⟨⟨⟨⟨trivial, g2⟩, g2⟩, ⟨Or.inl g3.1, g3.2⟩⟩, g4⟩ ?_
    exact H11 h
  · refine Ev_blk 2 (pc' := 42) (ls' := [.ref v0, .int v1, .int (nI 0)]) (st' := []) (s' := s) rfl trivial ?_
    exact u_M_rememberTried_42 h
def l_M_rememberTried_11  : Nat → Nat → Int32 → Int32 → AS → Option AS
  | 0 => fun _ _ _ _ => none
  | n + 1 => b_M_rememberTried_11  (l_M_rememberTried_11  n)
theorem u_M_rememberTried_11   {n : Nat} : ∀  {v0 : Nat} {v1 : Int32} {v2 : Int32} {s : AS} {o : AS}, l_M_rememberTried_11  n v0 v1 v2 s = some o → Ev 0 mZ208 11 [.ref v0, .int v1, .int v2] [] s (none, o) := by
  induction n with
  | zero => intros; rename_i h; cases h
  | succ n ih => intros; rename_i h; exact t_M_rememberTried_11  (fun h => ih h) h
/-- RecordHeapModel.rememberTried(I)V -/
def f_M_rememberTried (s : AS) (a0 : Nat) (a1 : Int32) : Option AS :=
  if sT s a0 = 13 then
  if (sI s a0 8) = (nI 16) then
    l_M_rememberTried_11 fuel a0 a1 (nI 0) s
  else
    b_M_rememberTried_78 a0 a1 s
  else none
theorem t_M_rememberTried {s : AS} {a0 : Nat} {a1 : Int32} {o : AS} (h : f_M_rememberTried s a0 a1 = some o) : Ev 0 mZ208 0 [.ref a0, .int a1, .retAddr 0] [] s (none, o) := by
  unfold f_M_rememberTried at h
  refine gd h (fun g1 h => ?_)
  refine Ev_blk 4 (pc' := if (sI s a0 8) = (nI 16) then 9 else 78) (ls' := [.ref a0, .int a1, .retAddr 0]) (st' := []) (s' := s) rfl ⟨trivial, g1⟩ ?_
  refine ib h (fun c2 h => ?_) (fun c2 h => ?_)
  · refine Ev_blk 2 (pc' := 11) (ls' := [.ref a0, .int a1, .int (nI 0)]) (st' := []) (s' := s) rfl trivial ?_
    exact u_M_rememberTried_11 h
  · exact t_M_rememberTried_78 h

/-- RecordHeapModel.putNow()I -/
def f_M_putNow (s : AS) (a0 : Nat) : Option (Int32 × AS) :=
  if sT s a0 = 13 then
  (f_M_keepAll s a0 (nI 18)).bind fun r1 =>
  if sT r1 a0 = 13 then
  (f_M_putIt r1 a0).bind fun r2 =>
  if r2.1 = (-(nI 1)) then
    if sT r2.2 a0 = 13 then
    (f_M_putBack r2.2 a0 (nI 18)).bind fun r3 =>
    some (-(nI 5), r3)
    else none
  else
    if sT r2.2 a0 = 13 then
    (f_M_rememberTried r2.2 a0 (nI 0)).bind fun r4 =>
    some (r2.1, r4)
    else none
  else none
  else none
theorem t_M_putNow {s : AS} {a0 : Nat} {o : Int32 × AS} (h : f_M_putNow s a0 = some o) : Ev 11 mZ184 0 [.ref a0, .retAddr 0] [] s (some (.int o.1), o.2) := by
  unfold f_M_putNow at h
  refine gd h (fun g1 h => ?_)
  refine Ev_blk 2 (pc' := 3) (ls' := [.ref a0, .retAddr 0]) (st' := [.int (nI 18), .ref a0]) (s' := s) rfl trivial ?_
  refine bd h (fun r1 hr1 h => ?_)
  refine Ev_call 2 185 1 [.ref a0, .int (nI 18)] [] rfl rfl rfl rfl g1 rfl rfl (Nat.le_of_ble_eq_true rfl) (t_M_keepAll hr1) ?_
  refine gd h (fun g2 h => ?_)
  refine Ev_blk 1 (pc' := 7) (ls' := [.ref a0, .retAddr 0]) (st' := [.ref a0]) (s' := r1) rfl trivial ?_
  refine bd h (fun r2 hr2 h => ?_)
  refine Ev_call 2 186 0 [.ref a0] [] rfl rfl rfl rfl g2 rfl rfl (Nat.le_of_ble_eq_true rfl) (t_M_putIt hr2) ?_
  refine Ev_blk 4 (pc' := if r2.1 = (-(nI 1)) then 16 else 25) (ls' := [.ref a0, .int r2.1]) (st' := []) (s' := r2.2) rfl trivial ?_
  refine ib h (fun c3 h => ?_) (fun c3 h => ?_)
  · refine gd h (fun g4 h => ?_)
    refine Ev_blk 2 (pc' := 19) (ls' := [.ref a0, .int r2.1]) (st' := [.int (nI 18), .ref a0]) (s' := r2.2) rfl trivial ?_
    refine bd h (fun r3 hr3 h => ?_)
    refine Ev_call 2 143 1 [.ref a0, .int (nI 18)] [] rfl rfl rfl rfl g4 rfl rfl (Nat.le_of_ble_eq_true rfl) (t_M_putBack hr3) ?_
    refine Ev_blk 1 (pc' := 24) (ls' := [.ref a0, .int r2.1]) (st' := [.int (-(nI 5))]) (s' := r3) rfl trivial ?_
    cases h
    exact Ev_ret rfl trivial
  · refine gd h (fun g5 h => ?_)
    refine Ev_blk 2 (pc' := 27) (ls' := [.ref a0, .int r2.1]) (st' := [.int (nI 0), .ref a0]) (s' := r2.2) rfl trivial ?_
    refine bd h (fun r4 hr4 h => ?_)
    refine Ev_call 2 208 1 [.ref a0, .int (nI 0)] [] rfl rfl rfl rfl g5 rfl rfl (Nat.le_of_ble_eq_true rfl) (t_M_rememberTried hr4) ?_
    refine Ev_blk 1 (pc' := 31) (ls' := [.ref a0, .int r2.1]) (st' := [.int r2.1]) (s' := r4) rfl trivial ?_
    cases h
    exact Ev_ret rfl trivial

def b_M_put_29  (w0 : Int32) (w1 : Nat) (s : AS) : Option (Int32 × AS) :=
  if sT s w1 = 13 then
  (f_M_tell s w1 w0).bind fun r1 =>
  some (r1.1, r1.2)
  else none
theorem t_M_put_29   {d0 : Value} {w0 : Int32} {w1 : Nat} {s : AS} {o : Int32 × AS} (h : b_M_put_29  w0 w1 s = some o) : Ev 12 mZ182 29 [d0] [.int w0, .ref w1] s (some (.int o.1), o.2) := by
  unfold b_M_put_29 at h
  refine gd h (fun g1 h => ?_)
  refine bd h (fun r1 hr1 h => ?_)
  refine Ev_call 2 142 1 [.ref w1, .int w0] [] rfl rfl rfl rfl g1 rfl rfl (Nat.le_of_ble_eq_true rfl) (t_M_tell hr1) ?_
  cases h
  exact Ev_ret rfl trivial
/-- RecordHeapModel.put()I -/
def f_M_put (s : AS) (a0 : Nat) : Option (Int32 × AS) :=
  if sT s a0 = 13 then
  (f_M_bringTape (setI s a0 0 (nI 0)) a0).bind fun r1 =>
  if sT r1 a0 = 13 then
  if (nI 200) < (sI r1 a0 44) then
    b_M_put_29 (-(nI 6)) a0 r1
  else
    (f_M_putNow r1 a0).bind fun r2 =>
    b_M_put_29 r2.1 a0 r2.2
  else none
  else none
theorem t_M_put {s : AS} {a0 : Nat} {o : Int32 × AS} (h : f_M_put s a0 = some o) : Ev 12 mZ182 0 [.ref a0] [] s (some (.int o.1), o.2) := by
  unfold f_M_put at h
  refine gd h (fun g1 h => ?_)
  refine Ev_blk 4 (pc' := 6) (ls' := [.ref a0]) (st' := [.ref a0]) (s' := setI s a0 0 (nI 0)) rfl ⟨trivial, g1⟩ ?_
  refine bd h (fun r1 hr1 h => ?_)
  refine Ev_call 2 183 0 [.ref a0] [] rfl rfl rfl rfl g1 rfl rfl (Nat.le_of_ble_eq_true rfl) (t_M_bringTape hr1) ?_
  refine gd h (fun g2 h => ?_)
  refine Ev_blk 5 (pc' := if (nI 200) < (sI r1 a0 44) then 20 else 25) (ls' := [.ref a0]) (st' := [.ref a0]) (s' := r1) rfl ⟨trivial, g2⟩ ?_
  refine ib h (fun c3 h => ?_) (fun c3 h => ?_)
  · refine Ev_blk 2 (pc' := 29) (ls' := [.ref a0]) (st' := [.int (-(nI 6)), .ref a0]) (s' := r1) rfl trivial ?_
    exact t_M_put_29 h
  · refine Ev_blk 1 (pc' := 26) (ls' := [.ref a0]) (st' := [.ref a0, .ref a0]) (s' := r1) rfl trivial ?_
    refine bd h (fun r2 hr2 h => ?_)
    refine Ev_call 2 184 0 [.ref a0] [.ref a0] rfl rfl rfl rfl g2 rfl rfl (Nat.le_of_ble_eq_true rfl) (t_M_putNow hr2) ?_
    exact t_M_put_29 h

/-- RecordHeapModel.kindAt(I)I -/
def f_M_kindAt (s : AS) (a0 : Nat) (a1 : Int32) : Option Int32 :=
  if ¬ (nI 16) = nI 0 then
  if sT s a0 = 13 then
  (f_M_pageAt s (a1 / (nI 16))).bind fun r1 =>
  if sT s (sR s a0 3) = 20 ∧ inA (r1 + (nI 0)) (sN s (sR s a0 3)) then
  if (a1 - a1 / (nI 16) * (nI 16)) < (sI s (sR s a0 3) (r1 + (nI 0)).toNatClampNeg) then
    (f_M_kindOf s a0 (a1 / (nI 16)) (a1 - a1 / (nI 16) * (nI 16))).bind fun r2 =>
    some r2
  else
    some (nI 0)
  else none
  else none
  else none
theorem t_M_kindAt {s : AS} {a0 : Nat} {a1 : Int32} {o : Int32} (h : f_M_kindAt s a0 a1 = some o) : Ev 3 mZ211 0 [.ref a0, .int a1] [] s (some (.int o), s) := by
  unfold f_M_kindAt at h
  refine gd h (fun g1 h => ?_)
  refine gd h (fun g2 h => ?_)
  refine Ev_blk 8 (pc' := 12) (ls' := [.ref a0, .int a1]) (st' := [.int (a1 / (nI 16)), .ref (sR s a0 3), .int (a1 - a1 / (nI 16) * (nI 16))]) (s' := s) rfl ⟨⟨⟨trivial, g1⟩, g2⟩, g1⟩ ?_
  refine bd h (fun r1 hr1 h => ?_)
  refine Ev_call 1 140 1 [.int (a1 / (nI 16))] [.ref (sR s a0 3), .int (a1 - a1 / (nI 16) * (nI 16))] rfl rfl rfl rfl trivial rfl rfl (Nat.le_of_ble_eq_true rfl) (t_M_pageAt hr1) ?_
  refine gd h (fun g3 h => ?_)
  refine Ev_blk 4 (pc' := if (a1 - a1 / (nI 16) * (nI 16)) < (sI s (sR s a0 3) (r1 + (nI 0)).toNatClampNeg) then 21 else 36) (ls' := [.ref a0, .int a1]) (st' := []) (s' := s) rfl ⟨trivial, ⟨Or.inl g3.1, g3.2⟩⟩ ?_
  refine ib h (fun c4 h => ?_) (fun c4 h => ?_)
  · refine Ev_blk 7 (pc' := 30) (ls' := [.ref a0, .int a1]) (st' := [.int (a1 - a1 / (nI 16) * (nI 16)), .int (a1 / (nI 16)), .ref a0]) (s' := s) rfl ⟨⟨trivial, g1⟩, g1⟩ ?_
    refine bd h (fun r2 hr2 h => ?_)
    refine Ev_call 2 190 2 [.ref a0, .int (a1 / (nI 16)), .int (a1 - a1 / (nI 16) * (nI 16))] [] rfl rfl rfl rfl g2 rfl rfl (Nat.le_of_ble_eq_true rfl) (t_M_kindOf hr2) ?_
    refine Ev_blk 1 (pc' := 37) (ls' := [.ref a0, .int a1]) (st' := [.int r2]) (s' := s) rfl trivial ?_
    cases h
    exact Ev_ret rfl trivial
  · refine Ev_blk 1 (pc' := 37) (ls' := [.ref a0, .int a1]) (st' := [.int (nI 0)]) (s' := s) rfl trivial ?_
    cases h
    exact Ev_ret rfl trivial

/-- RecordHeapModel.isRecord(I)Z -/
def f_M_isRecord (s : AS) (a0 : Nat) (a1 : Int32) : Option Int32 :=
  (f_M_in s a1.toInt64 (lN 0) (lN 127)).bind fun r1 =>
  if r1 = (nI 0) then
    some (nI 0)
  else
    if sT s a0 = 13 then
    (f_M_kindAt s a0 a1).bind fun r2 =>
      some (if r2 = (nI 1) then nI 1 else (if r2 = (nI 2) then nI 1 else (if r2 = (nI 4) then nI 1 else nI 0)))
    else none
theorem t_M_isRecord {s : AS} {a0 : Nat} {a1 : Int32} {o : Int32} (h : f_M_isRecord s a0 a1 = some o) : Ev 4 mZ210 0 [.ref a0, .int a1, .retAddr 0] [] s (some (.int o), s) := by
  unfold f_M_isRecord at h
  refine Ev_blk 4 (pc' := 6) (ls' := [.ref a0, .int a1, .retAddr 0]) (st' := [.long (lN 127), .long (lN 0), .long a1.toInt64]) (s' := s) rfl trivial ?_
  refine bd h (fun r1 hr1 h => ?_)
  refine Ev_call 1 145 3 [.long a1.toInt64, .long (lN 0), .long (lN 127)] [] rfl rfl rfl rfl trivial rfl rfl (Nat.le_of_ble_eq_true rfl) (t_M_in hr1) ?_
  refine Ev_blk 1 (pc' := if r1 = (nI 0) then 12 else 14) (ls' := [.ref a0, .int a1, .retAddr 0]) (st' := []) (s' := s) rfl trivial ?_
  refine ib h (fun c1 h => ?_) (fun c1 h => ?_)
  · refine Ev_blk 1 (pc' := 13) (ls' := [.ref a0, .int a1, .retAddr 0]) (st' := [.int (nI 0)]) (s' := s) rfl trivial ?_
    cases h
    exact Ev_ret rfl (Or.inl rfl)
  · refine gd h (fun g2 h => ?_)
    refine Ev_blk 2 (pc' := 16) (ls' := [.ref a0, .int a1, .retAddr 0]) (st' := [.int a1, .ref a0]) (s' := s) rfl trivial ?_
    refine bd h (fun r2 hr2 h => ?_)
    refine Ev_call 2 211 1 [.ref a0, .int a1] [] rfl rfl rfl rfl g2 rfl rfl (Nat.le_of_ble_eq_true rfl) (t_M_kindAt hr2) ?_
    refine Ev_blk 4 (pc' := if r2 = (nI 1) then 35 else 25) (ls' := [.ref a0, .int a1, .int r2]) (st' := []) (s' := s) rfl trivial ?_
    have k3_ : Ev 4 mZ210 40 [.ref a0, .int a1, .int r2] [.int (if r2 = (nI 1) then nI 1 else (if r2 = (nI 2) then nI 1 else (if r2 = (nI 4) then nI 1 else nI 0)))] s (some (.int o), s) := by
      cases h
      exact Ev_ret rfl (by (repeat' split) <;> first | exact Or.inl rfl | exact Or.inr rfl)
    refine icases (fun c4 => ?_) (fun c4 => ?_)
    · exact Ev_blk 2 (pc' := 40) (ls' := [.ref a0, .int a1, .int r2]) (st' := [.int (nI 1)]) (s' := s) rfl trivial (by simpa only [if_pos c4] using k3_)
    · refine Ev_blk 3 (pc' := if r2 = (nI 2) then 35 else 30) (ls' := [.ref a0, .int a1, .int r2]) (st' := []) (s' := s) rfl trivial ?_
      refine icases (fun c5 => ?_) (fun c5 => ?_)
      · exact Ev_blk 2 (pc' := 40) (ls' := [.ref a0, .int a1, .int r2]) (st' := [.int (nI 1)]) (s' := s) rfl trivial (by simpa only [if_neg c4, if_pos c5] using k3_)
      · refine Ev_blk 3 (pc' := if r2 = (nI 4) then 35 else 39) (ls' := [.ref a0, .int a1, .int r2]) (st' := []) (s' := s) rfl trivial ?_
        refine icases (fun c6 => ?_) (fun c6 => ?_)
        · exact Ev_blk 2 (pc' := 40) (ls' := [.ref a0, .int a1, .int r2]) (st' := [.int (nI 1)]) (s' := s) rfl trivial (by simpa only [if_neg c4, if_neg c5, if_pos c6] using k3_)
        · exact Ev_blk 1 (pc' := 40) (ls' := [.ref a0, .int a1, .int r2]) (st' := [.int (nI 0)]) (s' := s) rfl trivial (by simpa only [if_neg c4, if_neg c5, if_neg c6] using k3_)

/-- RecordHeapModel.pointed(I)I -/
def f_M_pointed (s : AS) (a0 : Nat) (a1 : Int32) : Option Int32 :=
  if sT s a0 = 13 then
  (f_M_byteAt s a0 a1 (nI 0)).bind fun r1 =>
  if sT s (sR s a0 3) = 20 ∧ inA r1 (sN s (sR s a0 3)) then
  if (sI s (sR s a0 3) r1.toNatClampNeg) = (nI 255) then
    some (-(nI 1))
  else
    (f_M_byteAt s a0 a1 (nI 1)).bind fun r2 =>
    if sT s (sR s a0 3) = 20 ∧ inA r2 (sN s (sR s a0 3)) then
    some (sI s (sR s a0 3) r2.toNatClampNeg)
    else none
  else none
  else none
theorem t_M_pointed {s : AS} {a0 : Nat} {a1 : Int32} {o : Int32} (h : f_M_pointed s a0 a1 = some o) : Ev 3 mZ215 0 [.ref a0, .int a1] [] s (some (.int o), s) := by
  unfold f_M_pointed at h
  refine gd h (fun g1 h => ?_)
  refine Ev_blk 5 (pc' := 7) (ls' := [.ref a0, .int a1]) (st' := [.int (nI 0), .int a1, .ref a0, .ref (sR s a0 3)]) (s' := s) rfl ⟨trivial, g1⟩ ?_
  refine bd h (fun r1 hr1 h => ?_)
  refine Ev_call 2 205 2 [.ref a0, .int a1, .int (nI 0)] [.ref (sR s a0 3)] rfl rfl rfl rfl g1 rfl rfl (Nat.le_of_ble_eq_true rfl) (t_M_byteAt hr1) ?_
  refine gd h (fun g2 h => ?_)
  refine Ev_blk 3 (pc' := if (sI s (sR s a0 3) r1.toNatClampNeg) = (nI 255) then 17 else 21) (ls' := [.ref a0, .int a1]) (st' := []) (s' := s) rfl ⟨trivial, ⟨Or.inl g2.1, g2.2⟩⟩ ?_
  refine ib h (fun c3 h => ?_) (fun c3 h => ?_)
  · refine Ev_blk 2 (pc' := 32) (ls' := [.ref a0, .int a1]) (st' := [.int (-(nI 1))]) (s' := s) rfl trivial ?_
    cases h
    exact Ev_ret rfl trivial
  · refine Ev_blk 5 (pc' := 28) (ls' := [.ref a0, .int a1]) (st' := [.int (nI 1), .int a1, .ref a0, .ref (sR s a0 3)]) (s' := s) rfl ⟨trivial, g1⟩ ?_
    refine bd h (fun r2 hr2 h => ?_)
    refine Ev_call 2 205 2 [.ref a0, .int a1, .int (nI 1)] [.ref (sR s a0 3)] rfl rfl rfl rfl g1 rfl rfl (Nat.le_of_ble_eq_true rfl) (t_M_byteAt hr2) ?_
    refine gd h (fun g4 h => ?_)
    refine Ev_blk 1 (pc' := 32) (ls' := [.ref a0, .int a1]) (st' := [.int (sI s (sR s a0 3) r2.toNatClampNeg)]) (s' := s) rfl ⟨trivial, ⟨Or.inl g4.1, g4.2⟩⟩ ?_
    cases h
    exact Ev_ret rfl trivial

def b_M_pointedBy_21 (s : AS)  (v0 : Nat) (v1 : Int32) : Option Int32 :=
  if sT s v0 = 13 then
  (f_M_pointed s v0 v1).bind fun r1 =>
  some r1
  else none
theorem t_M_pointedBy_21 {s : AS}   {d2 : Value} {v0 : Nat} {v1 : Int32} {o : Int32} (h : b_M_pointedBy_21 s  v0 v1 = some o) : Ev 4 mZ214 21 [.ref v0, .int v1, d2] [] s (some (.int o), s) := by
  unfold b_M_pointedBy_21 at h
  refine gd h (fun g1 h => ?_)
  refine Ev_blk 2 (pc' := 23) (ls' := [.ref v0, .int v1, d2]) (st' := [.int v1, .ref v0]) (s' := s) rfl trivial ?_
  refine bd h (fun r1 hr1 h => ?_)
  refine Ev_call 2 215 1 [.ref v0, .int v1] [] rfl rfl rfl rfl g1 rfl rfl (Nat.le_of_ble_eq_true rfl) (t_M_pointed hr1) ?_
  refine Ev_blk 1 (pc' := 30) (ls' := [.ref v0, .int v1, d2]) (st' := [.int r1]) (s' := s) rfl trivial ?_
  cases h
  exact Ev_ret rfl trivial
/-- RecordHeapModel.pointedBy(I)I -/
def f_M_pointedBy (s : AS) (a0 : Nat) (a1 : Int32) : Option Int32 :=
  if sT s a0 = 13 then
  (f_M_kindAt s a0 a1).bind fun r1 =>
  if r1 = (nI 2) then
    b_M_pointedBy_21 s a0 a1
  else
    if r1 = (nI 4) then
      b_M_pointedBy_21 s a0 a1
    else
      if r1 = (nI 5) then
        b_M_pointedBy_21 s a0 a1
      else
        some (-(nI 1))
  else none
theorem t_M_pointedBy {s : AS} {a0 : Nat} {a1 : Int32} {o : Int32} (h : f_M_pointedBy s a0 a1 = some o) : Ev 4 mZ214 0 [.ref a0, .int a1, .retAddr 0] [] s (some (.int o), s) := by
  unfold f_M_pointedBy at h
  refine gd h (fun g1 h => ?_)
  refine Ev_blk 2 (pc' := 2) (ls' := [.ref a0, .int a1, .retAddr 0]) (st' := [.int a1, .ref a0]) (s' := s) rfl trivial ?_
  refine bd h (fun r1 hr1 h => ?_)
  refine Ev_call 2 211 1 [.ref a0, .int a1] [] rfl rfl rfl rfl g1 rfl rfl (Nat.le_of_ble_eq_true rfl) (t_M_kindAt hr1) ?_
  refine Ev_blk 4 (pc' := if r1 = (nI 2) then 21 else 11) (ls' := [.ref a0, .int a1, .int r1]) (st' := []) (s' := s) rfl trivial ?_
  refine ib h (fun c2 h => ?_) (fun c2 h => ?_)
  · exact t_M_pointedBy_21 h
  · refine Ev_blk 3 (pc' := if r1 = (nI 4) then 21 else 16) (ls' := [.ref a0, .int a1, .int r1]) (st' := []) (s' := s) rfl trivial ?_
    refine ib h (fun c3 h => ?_) (fun c3 h => ?_)
    · exact t_M_pointedBy_21 h
    · refine Ev_blk 3 (pc' := if r1 = (nI 5) then 21 else 29) (ls' := [.ref a0, .int a1, .int r1]) (st' := []) (s' := s) rfl trivial ?_
      refine ib h (fun c4 h => ?_) (fun c4 h => ?_)
      · exact t_M_pointedBy_21 h
      · refine Ev_blk 1 (pc' := 30) (ls' := [.ref a0, .int a1, .int r1]) (st' := [.int (-(nI 1))]) (s' := s) rfl trivial ?_
        cases h
        exact Ev_ret rfl trivial

def b_M_leaves_83  (v0 : Nat) (v1 : Int32) (v3 : Int32) (s : AS) : Option AS :=
  if sT s v0 = 13 then
  (f_M_pageAt s v1).bind fun r1 =>
  if sT s (sR s v0 3) = 20 ∧ inA (r1 + (nI 0)) (sN s (sR s v0 3)) then
  some (setI s (sR s v0 3) (r1 + (nI 0)).toNatClampNeg v3)
  else none
  else none
theorem t_M_leaves_83   {d2 : Value} {v0 : Nat} {v1 : Int32} {v3 : Int32} {s : AS} {o : AS} (h : b_M_leaves_83  v0 v1 v3 s = some o) : Ev 3 mZ216 83 [.ref v0, .int v1, d2, .int v3] [] s (none, o) := by
  unfold b_M_leaves_83 at h
  refine gd h (fun g1 h => ?_)
  refine Ev_blk 3 (pc' := 88) (ls' := [.ref v0, .int v1, d2, .int v3]) (st' := [.int v1, .ref (sR s v0 3)]) (s' := s) rfl ⟨trivial, g1⟩ ?_
  refine bd h (fun r1 hr1 h => ?_)
  refine Ev_call 1 140 1 [.int v1] [.ref (sR s v0 3)] rfl rfl rfl rfl trivial rfl rfl (Nat.le_of_ble_eq_true rfl) (t_M_pageAt hr1) ?_
  refine gd h (fun g2 h => ?_)
  refine Ev_blk 4 (pc' := 95) (ls' := [.ref v0, .int v1, d2, .int v3]) (st' := []) (s' := setI s (sR s v0 3) (r1 + (nI 0)).toNatClampNeg v3) rfl ⟨trivial, g2⟩ ?_
  cases h
  exact Ev_ret rfl trivial
def b_M_leaves_51 (k51 : Nat → Int32 → Int32 → AS → Option AS) (v0 : Nat) (v1 : Int32) (v3 : Int32) (s : AS) : Option AS :=
  if (nI 0) < v3 then
    if sT s v0 = 13 then
    (f_M_kindOf s v0 v1 (v3 - (nI 1))).bind fun r1 =>
    if r1 = (nI 0) then
      (f_M_isKeptSlot s v0 v1 (v3 - (nI 1))).bind fun r2 =>
      if r2 = (nI 0) then
        k51 v0 v1 (v3 + (-(nI 1))) s
      else
        b_M_leaves_83 v0 v1 v3 s
    else
      b_M_leaves_83 v0 v1 v3 s
    else none
  else
    b_M_leaves_83 v0 v1 v3 s
theorem t_M_leaves_51 {k51 : Nat → Int32 → Int32 → AS → Option AS} (H51 : ∀ {d2 : Value} {v0 : Nat} {v1 : Int32} {v3 : Int32} {s : AS} {o : AS}, k51 v0 v1 v3 s = some o → Ev 3 mZ216 51 [.ref v0, .int v1, d2, .int v3] [] s (none, o)) {d2 : Value} {v0 : Nat} {v1 : Int32} {v3 : Int32} {s : AS} {o : AS} (h : b_M_leaves_51 k51 v0 v1 v3 s = some o) : Ev 3 mZ216 51 [.ref v0, .int v1, d2, .int v3] [] s (none, o) := by
  unfold b_M_leaves_51 at h
  refine Ev_blk 2 (pc' := if (nI 0) < v3 then 55 else 83) (ls' := [.ref v0, .int v1, d2, .int v3]) (st' := []) (s' := s) rfl trivial ?_
  refine ib h (fun c1 h => ?_) (fun c1 h => ?_)
  · refine gd h (fun g2 h => ?_)
    refine Ev_blk 5 (pc' := 60) (ls' := [.ref v0, .int v1, d2, .int v3]) (st' := [.int (v3 - (nI 1)), .int v1, .ref v0]) (s' := s) rfl trivial ?_
    refine bd h (fun r1 hr1 h => ?_)
    refine Ev_call 2 190 2 [.ref v0, .int v1, .int (v3 - (nI 1))] [] rfl rfl rfl rfl g2 rfl rfl (Nat.le_of_ble_eq_true rfl) (t_M_kindOf hr1) ?_
    refine Ev_blk 1 (pc' := if r1 = (nI 0) then 66 else 83) (ls' := [.ref v0, .int v1, d2, .int v3]) (st' := []) (s' := s) rfl trivial ?_
    refine ib h (fun c3 h => ?_) (fun c3 h => ?_)
    · refine Ev_blk 5 (pc' := 71) (ls' := [.ref v0, .int v1, d2, .int v3]) (st' := [.int (v3 - (nI 1)), .int v1, .ref v0]) (s' := s) rfl trivial ?_
      refine bd h (fun r2 hr2 h => ?_)
      refine Ev_call 2 192 2 [.ref v0, .int v1, .int (v3 - (nI 1))] [] rfl rfl rfl rfl g2 rfl rfl (Nat.le_of_ble_eq_true rfl) (t_M_isKeptSlot hr2) ?_
      refine Ev_blk 1 (pc' := if r2 = (nI 0) then 77 else 83) (ls' := [.ref v0, .int v1, d2, .int v3]) (st' := []) (s' := s) rfl trivial ?_
      refine ib h (fun c4 h => ?_) (fun c4 h => ?_)
      · refine Ev_blk 2 (pc' := 51) (ls' := [.ref v0, .int v1, (clrV d2), .int (v3 + (-(nI 1)))]) (st' := []) (s' := s) rfl trivial ?_
        exact H51 h
      · exact t_M_leaves_83 h
    · exact t_M_leaves_83 h
  · exact t_M_leaves_83 h
def l_M_leaves_51  : Nat → Nat → Int32 → Int32 → AS → Option AS
  | 0 => fun _ _ _ _ => none
  | n + 1 => b_M_leaves_51  (l_M_leaves_51  n)
theorem u_M_leaves_51   {n : Nat} : ∀ {d2 : Value} {v0 : Nat} {v1 : Int32} {v3 : Int32} {s : AS} {o : AS}, l_M_leaves_51  n v0 v1 v3 s = some o → Ev 3 mZ216 51 [.ref v0, .int v1, d2, .int v3] [] s (none, o) := by
  induction n with
  | zero => intros; rename_i h; cases h
  | succ n ih => intros; rename_i h; exact t_M_leaves_51  (fun h => ih h) h
/-- RecordHeapModel.leaves(II)V -/
def f_M_leaves (s : AS) (a0 : Nat) (a1 : Int32) (a2 : Int32) : Option AS :=
  if sT s a0 = 13 then
  (f_M_slotAt s a1 a2).bind fun r1 =>
  if sT s (sR s a0 3) = 20 ∧ inA (r1 + (nI 0)) (sN s (sR s a0 3)) then
  (f_M_slotAt (setI s (sR s a0 3) (r1 + (nI 0)).toNatClampNeg (nI 0)) a1 a2).bind fun r2 =>
  if sT s (sR s a0 3) = 20 ∧ inA (r2 + (nI 1)) (sN s (sR s a0 3)) then
  (f_M_slotAt (setI (setI s (sR s a0 3) (r1 + (nI 0)).toNatClampNeg (nI 0)) (sR s a0 3) (r2 + (nI 1)).toNatClampNeg (nI 0)) a1 a2).bind fun r3 =>
  if sT s (sR s a0 3) = 20 ∧ inA (r3 + (nI 2)) (sN s (sR s a0 3)) then
  (f_M_pageAt (setI (setI (setI s (sR s a0 3) (r1 + (nI 0)).toNatClampNeg (nI 0)) (sR s a0 3) (r2 + (nI 1)).toNatClampNeg (nI 0)) (sR s a0 3) (r3 + (nI 2)).toNatClampNeg (nI 0)) a1).bind fun r4 =>
  if sT s (sR s a0 3) = 20 ∧ inA (r4 + (nI 0)) (sN s (sR s a0 3)) then
  l_M_leaves_51 fuel a0 a1 (sI (setI (setI (setI s (sR s a0 3) (r1 + (nI 0)).toNatClampNeg (nI 0)) (sR s a0 3) (r2 + (nI 1)).toNatClampNeg (nI 0)) (sR s a0 3) (r3 + (nI 2)).toNatClampNeg (nI 0)) (sR s a0 3) (r4 + (nI 0)).toNatClampNeg) (setI (setI (setI s (sR s a0 3) (r1 + (nI 0)).toNatClampNeg (nI 0)) (sR s a0 3) (r2 + (nI 1)).toNatClampNeg (nI 0)) (sR s a0 3) (r3 + (nI 2)).toNatClampNeg (nI 0))
  else none
  else none
  else none
  else none
  else none
theorem t_M_leaves {s : AS} {a0 : Nat} {a1 : Int32} {a2 : Int32} {o : AS} (h : f_M_leaves s a0 a1 a2 = some o) : Ev 3 mZ216 0 [.ref a0, .int a1, .int a2, .retAddr 0] [] s (none, o) := by
  unfold f_M_leaves at h
  refine gd h (fun g1 h => ?_)
  refine Ev_blk 4 (pc' := 6) (ls' := [.ref a0, .int a1, .int a2, .retAddr 0]) (st' := [.int a2, .int a1, .ref (sR s a0 3)]) (s' := s) rfl ⟨trivial, g1⟩ ?_
  refine bd h (fun r1 hr1 h => ?_)
  refine Ev_call 1 191 2 [.int a1, .int a2] [.ref (sR s a0 3)] rfl rfl rfl rfl trivial rfl rfl (Nat.le_of_ble_eq_true rfl) (t_M_slotAt hr1) ?_
  refine gd h (fun g2 h => ?_)
  refine Ev_blk 8 (pc' := 19) (ls' := [.ref a0, .int a1, .int a2, .retAddr 0]) (st' := [.int a2, .int a1, .ref (sR s a0 3)]) (s' := setI s (sR s a0 3) (r1 + (nI 0)).toNatClampNeg (nI 0)) rfl ⟨⟨trivial, g2⟩, g1⟩ ?_
  refine bd h (fun r2 hr2 h => ?_)
  refine Ev_call 1 191 2 [.int a1, .int a2] [.ref (sR s a0 3)] rfl rfl rfl rfl trivial rfl rfl (Nat.le_of_ble_eq_true rfl) (t_M_slotAt hr2) ?_
  refine gd h (fun g3 h => ?_)
  refine Ev_blk 8 (pc' := 32) (ls' := [.ref a0, .int a1, .int a2, .retAddr 0]) (st' := [.int a2, .int a1, .ref (sR s a0 3)]) (s' := setI (setI s (sR s a0 3) (r1 + (nI 0)).toNatClampNeg (nI 0)) (sR s a0 3) (r2 + (nI 1)).toNatClampNeg (nI 0)) rfl ⟨⟨trivial, g3⟩, g1⟩ ?_
  refine bd h (fun r3 hr3 h => ?_)
  refine Ev_call 1 191 2 [.int a1, .int a2] [.ref (sR s a0 3)] rfl rfl rfl rfl trivial rfl rfl (Nat.le_of_ble_eq_true rfl) (t_M_slotAt hr3) ?_
  refine gd h (fun g4 h => ?_)
  refine Ev_blk 7 (pc' := 44) (ls' := [.ref a0, .int a1, .int a2, .retAddr 0]) (st' := [.int a1, .ref (sR s a0 3)]) (s' := setI (setI (setI s (sR s a0 3) (r1 + (nI 0)).toNatClampNeg (nI 0)) (sR s a0 3) (r2 + (nI 1)).toNatClampNeg (nI 0)) (sR s a0 3) (r3 + (nI 2)).toNatClampNeg (nI 0)) rfl ⟨⟨trivial, g4⟩, g1⟩ ?_
  refine bd h (fun r4 hr4 h => ?_)
  refine Ev_call 1 140 1 [.int a1] [.ref (sR s a0 3)] rfl rfl rfl rfl trivial rfl rfl (Nat.le_of_ble_eq_true rfl) (t_M_pageAt hr4) ?_
  refine gd h (fun g5 h => ?_)
  refine Ev_blk 4 (pc' := 51) (ls' := [.ref a0, .int a1, .int a2, .int (sI (setI (setI (setI s (sR s a0 3) (r1 + (nI 0)).toNatClampNeg (nI 0)) (sR s a0 3) (r2 + (nI 1)).toNatClampNeg (nI 0)) (sR s a0 3) (r3 + (nI 2)).toNatClampNeg (nI 0)) (sR s a0 3) (r4 + (nI 0)).toNatClampNeg)]) (st' := []) (s' := setI (setI (setI s (sR s a0 3) (r1 + (nI 0)).toNatClampNeg (nI 0)) (sR s a0 3) (r2 + (nI 1)).toNatClampNeg (nI 0)) (sR s a0 3) (r3 + (nI 2)).toNatClampNeg (nI 0)) rfl ⟨trivial, ⟨Or.inl g5.1, g5.2⟩⟩ ?_
  exact u_M_leaves_51 h

def b_M_allLeave_2 (k2 : Nat → Int32 → AS → Option AS) (v0 : Nat) (v2 : Int32) (s : AS) : Option AS :=
  if v2 = (-(nI 1)) then
    some s
  else
    if sT s v0 = 13 then
    (f_M_pointedBy s v0 v2).bind fun r1 =>
    if ¬ (nI 16) = nI 0 then
    (f_M_leaves s v0 (v2 / (nI 16)) (v2 - v2 / (nI 16) * (nI 16))).bind fun r2 =>
    k2 v0 r1 r2
    else none
    else none
theorem t_M_allLeave_2 {k2 : Nat → Int32 → AS → Option AS} (H2 : ∀ {d1 d3 : Value} {v0 : Nat} {v2 : Int32} {s : AS} {o : AS}, k2 v0 v2 s = some o → Ev 5 mZ213 2 [.ref v0, d1, .int v2, d3] [] s (none, o)) {d1 d3 : Value} {v0 : Nat} {v2 : Int32} {s : AS} {o : AS} (h : b_M_allLeave_2 k2 v0 v2 s = some o) : Ev 5 mZ213 2 [.ref v0, d1, .int v2, d3] [] s (none, o) := by
  unfold b_M_allLeave_2 at h
  refine Ev_blk 3 (pc' := if v2 = (-(nI 1)) then 30 else 7) (ls' := [.ref v0, d1, .int v2, d3]) (st' := []) (s' := s) rfl trivial ?_
  refine ib h (fun c1 h => ?_) (fun c1 h => ?_)
  · cases h
    exact Ev_ret rfl trivial
  · refine gd h (fun g2 h => ?_)
    refine Ev_blk 2 (pc' := 9) (ls' := [.ref v0, d1, .int v2, d3]) (st' := [.int v2, .ref v0]) (s' := s) rfl trivial ?_
    refine bd h (fun r1 hr1 h => ?_)
    refine Ev_call 2 214 1 [.ref v0, .int v2] [] rfl rfl rfl rfl g2 rfl rfl (Nat.le_of_ble_eq_true rfl) (t_M_pointedBy hr1) ?_
    refine gd h (fun g3 h => ?_)
    refine Ev_blk 8 (pc' := 22) (ls' := [.ref v0, d1, .int v2, .int r1]) (st' := [.int (v2 - v2 / (nI 16) * (nI 16)), .int (v2 / (nI 16)), .ref v0]) (s' := s) rfl ⟨⟨trivial, g3⟩, g3⟩ ?_
    refine bd h (fun r2 hr2 h => ?_)
    refine Ev_call 2 216 2 [.ref v0, .int (v2 / (nI 16)), .int (v2 - v2 / (nI 16) * (nI 16))] [] rfl rfl rfl rfl g2 rfl rfl (Nat.le_of_ble_eq_true rfl) (t_M_leaves hr2) ?_
    refine Ev_blk 3 (pc' := 2) (ls' := [.ref v0, (clrV d1), .int r1, .int r1]) (st' := []) (s' := r2) rfl trivial ?_
    exact H2 h
def l_M_allLeave_2  : Nat → Nat → Int32 → AS → Option AS
  | 0 => fun _ _ _ => none
  | n + 1 => b_M_allLeave_2  (l_M_allLeave_2  n)
theorem u_M_allLeave_2   {n : Nat} : ∀ {d1 d3 : Value} {v0 : Nat} {v2 : Int32} {s : AS} {o : AS}, l_M_allLeave_2  n v0 v2 s = some o → Ev 5 mZ213 2 [.ref v0, d1, .int v2, d3] [] s (none, o) := by
  induction n with
  | zero => intros; rename_i h; cases h
  | succ n ih => intros; rename_i h; exact t_M_allLeave_2  (fun h => ih h) h
/-- RecordHeapModel.allLeave(I)V -/
def f_M_allLeave (s : AS) (a0 : Nat) (a1 : Int32) : Option AS :=
  l_M_allLeave_2 fuel a0 a1 s
theorem t_M_allLeave {s : AS} {a0 : Nat} {a1 : Int32} {o : AS} (h : f_M_allLeave s a0 a1 = some o) : Ev 5 mZ213 0 [.ref a0, .int a1, .retAddr 0, .retAddr 0] [] s (none, o) := by
  unfold f_M_allLeave at h
  refine Ev_blk 2 (pc' := 2) (ls' := [.ref a0, .int a1, .int a1, .retAddr 0]) (st' := []) (s' := s) rfl trivial ?_
  exact u_M_allLeave_2 h

/-- RecordHeapModel.placeOwn(III)Z -/
def f_M_placeOwn (s : AS) (a0 : Nat) (a1 : Int32) (a2 : Int32) (a3 : Int32) : Option (Int32 × AS) :=
  if ¬ (nI 16) = nI 0 then
  if sT s a0 = 13 then
  (f_M_freeOf s a0 (a1 / (nI 16))).bind fun r1 =>
  if r1 < a3 then
    some (nI 0, s)
  else
    (f_M_placeIn s a0 (a1 / (nI 16)) (a1 - a1 / (nI 16) * (nI 16)) a2 a3).bind fun r2 =>
    some (nI 1, r2)
  else none
  else none
theorem t_M_placeOwn {s : AS} {a0 : Nat} {a1 : Int32} {a2 : Int32} {a3 : Int32} {o : Int32 × AS} (h : f_M_placeOwn s a0 a1 a2 a3 = some o) : Ev 7 mZ218 0 [.ref a0, .int a1, .int a2, .int a3, .retAddr 0] [] s (some (.int o.1), o.2) := by
  unfold f_M_placeOwn at h
  refine gd h (fun g1 h => ?_)
  refine gd h (fun g2 h => ?_)
  refine Ev_blk 6 (pc' := 9) (ls' := [.ref a0, .int a1, .int a2, .int a3, .int (a1 / (nI 16))]) (st' := [.int (a1 / (nI 16)), .ref a0]) (s' := s) rfl ⟨trivial, g1⟩ ?_
  refine bd h (fun r1 hr1 h => ?_)
  refine Ev_call 2 194 1 [.ref a0, .int (a1 / (nI 16))] [] rfl rfl rfl rfl g2 rfl rfl (Nat.le_of_ble_eq_true rfl) (t_M_freeOf hr1) ?_
  refine Ev_blk 2 (pc' := if r1 < a3 then 16 else 18) (ls' := [.ref a0, .int a1, .int a2, .int a3, .int (a1 / (nI 16))]) (st' := []) (s' := s) rfl trivial ?_
  refine ib h (fun c3 h => ?_) (fun c3 h => ?_)
  · refine Ev_blk 1 (pc' := 17) (ls' := [.ref a0, .int a1, .int a2, .int a3, .int (a1 / (nI 16))]) (st' := [.int (nI 0)]) (s' := s) rfl trivial ?_
    cases h
    exact Ev_ret rfl (Or.inl rfl)
  · refine Ev_blk 7 (pc' := 27) (ls' := [.ref a0, .int a1, .int a2, .int a3, .int (a1 / (nI 16))]) (st' := [.int a3, .int a2, .int (a1 - a1 / (nI 16) * (nI 16)), .int (a1 / (nI 16)), .ref a0]) (s' := s) rfl ⟨trivial, g1⟩ ?_
    refine bd h (fun r2 hr2 h => ?_)
    refine Ev_call 2 203 4 [.ref a0, .int (a1 / (nI 16)), .int (a1 - a1 / (nI 16) * (nI 16)), .int a2, .int a3] [] rfl rfl rfl rfl g2 rfl rfl (Nat.le_of_ble_eq_true rfl) (t_M_placeIn hr2) ?_
    refine Ev_blk 1 (pc' := 31) (ls' := [.ref a0, .int a1, .int a2, .int a3, .int (a1 / (nI 16))]) (st' := [.int (nI 1)]) (s' := r2) rfl trivial ?_
    cases h
    exact Ev_ret rfl (Or.inr rfl)

/-- RecordHeapModel.rewriteShort(I)I -/
def f_M_rewriteShort (s : AS) (a0 : Nat) (a1 : Int32) : Option (Int32 × AS) :=
  if sT s a0 = 13 then
  (f_M_placeOwn s a0 a1 (nI 1) (sI s a0 44)).bind fun r1 =>
  if r1.1 = (nI 0) then
    if sT r1.2 a0 = 13 then
    (f_M_placed r1.2 a0 (nI 3) (sI r1.2 a0 44)).bind fun r2 =>
    if r2.1 = (-(nI 1)) then
      some (-(nI 1), r2.2)
    else
      if sT r2.2 a0 = 13 then
      (f_M_copyTo r2.2 a0 r2.1 (nI 0) (nI 0) (sI r2.2 a0 44)).bind fun r3 =>
      if sT r3 a0 = 13 then
      (f_M_placeOwn r3 a0 a1 (nI 2) (nI 2)).bind fun r4 =>
      if r4.1 = (nI 0) then
        some (-(nI 1), r4.2)
      else
        if sT r4.2 a0 = 13 then
        (f_M_point r4.2 a0 a1 r2.1).bind fun r5 =>
        some (nI 1, r5)
        else none
      else none
      else none
    else none
  else
    if sT r1.2 a0 = 13 then
    (f_M_copyTo r1.2 a0 a1 (nI 0) (nI 0) (sI r1.2 a0 44)).bind fun r6 =>
    some (nI 0, r6)
    else none
  else none
theorem t_M_rewriteShort {s : AS} {a0 : Nat} {a1 : Int32} {o : Int32 × AS} (h : f_M_rewriteShort s a0 a1 = some o) : Ev 9 mZ217 0 [.ref a0, .int a1, .retAddr 0] [] s (some (.int o.1), o.2) := by
  unfold f_M_rewriteShort at h
  refine gd h (fun g1 h => ?_)
  refine Ev_blk 5 (pc' := 7) (ls' := [.ref a0, .int a1, .retAddr 0]) (st' := [.int (sI s a0 44), .int (nI 1), .int a1, .ref a0]) (s' := s) rfl ⟨trivial, g1⟩ ?_
  refine bd h (fun r1 hr1 h => ?_)
  refine Ev_call 2 218 3 [.ref a0, .int a1, .int (nI 1), .int (sI s a0 44)] [] rfl rfl rfl rfl g1 rfl rfl (Nat.le_of_ble_eq_true rfl) (t_M_placeOwn hr1) ?_
  refine Ev_blk 1 (pc' := if r1.1 = (nI 0) then 26 else 13) (ls' := [.ref a0, .int a1, .retAddr 0]) (st' := []) (s' := r1.2) rfl trivial ?_
  refine ib h (fun c2 h => ?_) (fun c2 h => ?_)
  · refine gd h (fun g3 h => ?_)
    refine Ev_blk 4 (pc' := 32) (ls' := [.ref a0, .int a1, .retAddr 0]) (st' := [.int (sI r1.2 a0 44), .int (nI 3), .ref a0]) (s' := r1.2) rfl ⟨trivial, g3⟩ ?_
    refine bd h (fun r2 hr2 h => ?_)
    refine Ev_call 2 187 2 [.ref a0, .int (nI 3), .int (sI r1.2 a0 44)] [] rfl rfl rfl rfl g3 rfl rfl (Nat.le_of_ble_eq_true rfl) (t_M_placed hr2) ?_
    refine Ev_blk 4 (pc' := if r2.1 = (-(nI 1)) then 41 else 43) (ls' := [.ref a0, .int a1, .int r2.1]) (st' := []) (s' := r2.2) rfl trivial ?_
    refine ib h (fun c4 h => ?_) (fun c4 h => ?_)
    · refine Ev_blk 1 (pc' := 42) (ls' := [.ref a0, .int a1, .int r2.1]) (st' := [.int (-(nI 1))]) (s' := r2.2) rfl trivial ?_
      cases h
      exact Ev_ret rfl trivial
    · refine gd h (fun g5 h => ?_)
      refine Ev_blk 6 (pc' := 51) (ls' := [.ref a0, .int a1, .int r2.1]) (st' := [.int (sI r2.2 a0 44), .int (nI 0), .int (nI 0), .int r2.1, .ref a0]) (s' := r2.2) rfl ⟨trivial, g5⟩ ?_
      refine bd h (fun r3 hr3 h => ?_)
      refine Ev_call 2 204 4 [.ref a0, .int r2.1, .int (nI 0), .int (nI 0), .int (sI r2.2 a0 44)] [] rfl rfl rfl rfl g5 rfl rfl (Nat.le_of_ble_eq_true rfl) (t_M_copyTo hr3) ?_
      refine gd h (fun g6 h => ?_)
      refine Ev_blk 4 (pc' := 58) (ls' := [.ref a0, .int a1, .int r2.1]) (st' := [.int (nI 2), .int (nI 2), .int a1, .ref a0]) (s' := r3) rfl trivial ?_
      refine bd h (fun r4 hr4 h => ?_)
      refine Ev_call 2 218 3 [.ref a0, .int a1, .int (nI 2), .int (nI 2)] [] rfl rfl rfl rfl g6 rfl rfl (Nat.le_of_ble_eq_true rfl) (t_M_placeOwn hr4) ?_
      refine Ev_blk 1 (pc' := if r4.1 = (nI 0) then 64 else 66) (ls' := [.ref a0, .int a1, .int r2.1]) (st' := []) (s' := r4.2) rfl trivial ?_
      refine ib h (fun c7 h => ?_) (fun c7 h => ?_)
      · refine Ev_blk 1 (pc' := 65) (ls' := [.ref a0, .int a1, .int r2.1]) (st' := [.int (-(nI 1))]) (s' := r4.2) rfl trivial ?_
        cases h
        exact Ev_ret rfl trivial
      · refine gd h (fun g8 h => ?_)
        refine Ev_blk 3 (pc' := 69) (ls' := [.ref a0, .int a1, .int r2.1]) (st' := [.int r2.1, .int a1, .ref a0]) (s' := r4.2) rfl trivial ?_
        refine bd h (fun r5 hr5 h => ?_)
        refine Ev_call 2 207 2 [.ref a0, .int a1, .int r2.1] [] rfl rfl rfl rfl g8 rfl rfl (Nat.le_of_ble_eq_true rfl) (t_M_point hr5) ?_
        refine Ev_blk 1 (pc' := 73) (ls' := [.ref a0, .int a1, .int r2.1]) (st' := [.int (nI 1)]) (s' := r5) rfl trivial ?_
        cases h
        exact Ev_ret rfl trivial
  · refine gd h (fun g9 h => ?_)
    refine Ev_blk 6 (pc' := 21) (ls' := [.ref a0, .int a1, .retAddr 0]) (st' := [.int (sI r1.2 a0 44), .int (nI 0), .int (nI 0), .int a1, .ref a0]) (s' := r1.2) rfl ⟨trivial, g9⟩ ?_
    refine bd h (fun r6 hr6 h => ?_)
    refine Ev_call 2 204 4 [.ref a0, .int a1, .int (nI 0), .int (nI 0), .int (sI r1.2 a0 44)] [] rfl rfl rfl rfl g9 rfl rfl (Nat.le_of_ble_eq_true rfl) (t_M_copyTo hr6) ?_
    refine Ev_blk 1 (pc' := 25) (ls' := [.ref a0, .int a1, .retAddr 0]) (st' := [.int (nI 0)]) (s' := r6) rfl trivial ?_
    cases h
    exact Ev_ret rfl trivial

/-- RecordHeapModel.rewriteLong(I)I -/
def f_M_rewriteLong (s : AS) (a0 : Nat) (a1 : Int32) : Option (Int32 × AS) :=
  if sT s a0 = 13 then
  (f_M_putPieces s a0).bind fun r1 =>
  if r1.1 = (-(nI 2)) then
    some (-(nI 1), r1.2)
  else
    if sT r1.2 a0 = 13 then
    (f_M_placeOwn r1.2 a0 a1 (nI 4) (nI 40)).bind fun r2 =>
    if r2.1 = (nI 0) then
      some (-(nI 1), r2.2)
    else
      if sT r2.2 a0 = 13 then
      (f_M_point r2.2 a0 a1 r1.1).bind fun r3 =>
      if sT r3 a0 = 13 then
      (f_M_copyTo r3 a0 a1 (nI 2) (nI 0) (nI 38)).bind fun r4 =>
      some (nI 2, r4)
      else none
      else none
    else none
  else none
theorem t_M_rewriteLong {s : AS} {a0 : Nat} {a1 : Int32} {o : Int32 × AS} (h : f_M_rewriteLong s a0 a1 = some o) : Ev 10 mZ219 0 [.ref a0, .int a1, .retAddr 0] [] s (some (.int o.1), o.2) := by
  unfold f_M_rewriteLong at h
  refine gd h (fun g1 h => ?_)
  refine Ev_blk 1 (pc' := 1) (ls' := [.ref a0, .int a1, .retAddr 0]) (st' := [.ref a0]) (s' := s) rfl trivial ?_
  refine bd h (fun r1 hr1 h => ?_)
  refine Ev_call 2 206 0 [.ref a0] [] rfl rfl rfl rfl g1 rfl rfl (Nat.le_of_ble_eq_true rfl) (t_M_putPieces hr1) ?_
  refine Ev_blk 4 (pc' := if r1.1 = (-(nI 2)) then 22 else 11) (ls' := [.ref a0, .int a1, .int r1.1]) (st' := []) (s' := r1.2) rfl trivial ?_
  refine ib h (fun c2 h => ?_) (fun c2 h => ?_)
  · refine Ev_blk 1 (pc' := 23) (ls' := [.ref a0, .int a1, .int r1.1]) (st' := [.int (-(nI 1))]) (s' := r1.2) rfl trivial ?_
    cases h
    exact Ev_ret rfl trivial
  · refine gd h (fun g3 h => ?_)
    refine Ev_blk 4 (pc' := 16) (ls' := [.ref a0, .int a1, .int r1.1]) (st' := [.int (nI 40), .int (nI 4), .int a1, .ref a0]) (s' := r1.2) rfl trivial ?_
    refine bd h (fun r2 hr2 h => ?_)
    refine Ev_call 2 218 3 [.ref a0, .int a1, .int (nI 4), .int (nI 40)] [] rfl rfl rfl rfl g3 rfl rfl (Nat.le_of_ble_eq_true rfl) (t_M_placeOwn hr2) ?_
    refine Ev_blk 1 (pc' := if r2.1 = (nI 0) then 22 else 24) (ls' := [.ref a0, .int a1, .int r1.1]) (st' := []) (s' := r2.2) rfl trivial ?_
    refine ib h (fun c4 h => ?_) (fun c4 h => ?_)
    · refine Ev_blk 1 (pc' := 23) (ls' := [.ref a0, .int a1, .int r1.1]) (st' := [.int (-(nI 1))]) (s' := r2.2) rfl trivial ?_
      cases h
      exact Ev_ret rfl trivial
    · refine gd h (fun g5 h => ?_)
      refine Ev_blk 3 (pc' := 27) (ls' := [.ref a0, .int a1, .int r1.1]) (st' := [.int r1.1, .int a1, .ref a0]) (s' := r2.2) rfl trivial ?_
      refine bd h (fun r3 hr3 h => ?_)
      refine Ev_call 2 207 2 [.ref a0, .int a1, .int r1.1] [] rfl rfl rfl rfl g5 rfl rfl (Nat.le_of_ble_eq_true rfl) (t_M_point hr3) ?_
      refine gd h (fun g6 h => ?_)
      refine Ev_blk 5 (pc' := 36) (ls' := [.ref a0, .int a1, .int r1.1]) (st' := [.int (nI 38), .int (nI 0), .int (nI 2), .int a1, .ref a0]) (s' := r3) rfl trivial ?_
      refine bd h (fun r4 hr4 h => ?_)
      refine Ev_call 2 204 4 [.ref a0, .int a1, .int (nI 2), .int (nI 0), .int (nI 38)] [] rfl rfl rfl rfl g6 rfl rfl (Nat.le_of_ble_eq_true rfl) (t_M_copyTo hr4) ?_
      refine Ev_blk 1 (pc' := 40) (ls' := [.ref a0, .int a1, .int r1.1]) (st' := [.int (nI 2)]) (s' := r4) rfl trivial ?_
      cases h
      exact Ev_ret rfl trivial

def b_M_rewriteNow_49  (v0 : Nat) (w0 : Int32) (s : AS) : Option (Int32 × AS) :=
  if sT s v0 = 13 then
  if w0 = (-(nI 1)) then
    (f_M_putBack (setI (setI s v0 41 (-(nI 1))) v0 42 (-(nI 1))) v0 (nI 18)).bind fun r1 =>
    some (-(nI 5), r1)
  else
    (f_M_rememberTried (setI (setI s v0 41 (-(nI 1))) v0 42 (-(nI 1))) v0 (nI 1)).bind fun r2 =>
    some (w0, r2)
  else none
theorem t_M_rewriteNow_49   {d1 d2 : Value} {v0 : Nat} {w0 : Int32} {s : AS} {o : Int32 × AS} (h : b_M_rewriteNow_49  v0 w0 s = some o) : Ev 11 mZ212 49 [.ref v0, d1, d2] [.int w0] s (some (.int o.1), o.2) := by
  unfold b_M_rewriteNow_49 at h
  refine gd h (fun g1 h => ?_)
  refine Ev_blk 10 (pc' := if w0 = (-(nI 1)) then 65 else 74) (ls' := [.ref v0, (clrV d1), .int w0]) (st' := []) (s' := setI (setI s v0 41 (-(nI 1))) v0 42 (-(nI 1))) rfl ⟨⟨trivial, g1⟩, g1⟩ ?_
  refine ib h (fun c2 h => ?_) (fun c2 h => ?_)
  · refine Ev_blk 2 (pc' := 68) (ls' := [.ref v0, (clrV d1), .int w0]) (st' := [.int (nI 18), .ref v0]) (s' := setI (setI s v0 41 (-(nI 1))) v0 42 (-(nI 1))) rfl trivial ?_
    refine bd h (fun r1 hr1 h => ?_)
    refine Ev_call 2 143 1 [.ref v0, .int (nI 18)] [] rfl rfl rfl rfl g1 rfl rfl (Nat.le_of_ble_eq_true rfl) (t_M_putBack hr1) ?_
    refine Ev_blk 1 (pc' := 73) (ls' := [.ref v0, (clrV d1), .int w0]) (st' := [.int (-(nI 5))]) (s' := r1) rfl trivial ?_
    cases h
    exact Ev_ret rfl trivial
  · refine Ev_blk 2 (pc' := 76) (ls' := [.ref v0, (clrV d1), .int w0]) (st' := [.int (nI 1), .ref v0]) (s' := setI (setI s v0 41 (-(nI 1))) v0 42 (-(nI 1))) rfl trivial ?_
    refine bd h (fun r2 hr2 h => ?_)
    refine Ev_call 2 208 1 [.ref v0, .int (nI 1)] [] rfl rfl rfl rfl g1 rfl rfl (Nat.le_of_ble_eq_true rfl) (t_M_rememberTried hr2) ?_
    refine Ev_blk 1 (pc' := 80) (ls' := [.ref v0, (clrV d1), .int w0]) (st' := [.int w0]) (s' := r2) rfl trivial ?_
    cases h
    exact Ev_ret rfl trivial
/-- RecordHeapModel.rewriteNow(I)I -/
def f_M_rewriteNow (s : AS) (a0 : Nat) (a1 : Int32) : Option (Int32 × AS) :=
  if sT s a0 = 13 then
  (f_M_keepAll s a0 (nI 18)).bind fun r1 =>
  if ¬ (nI 16) = nI 0 then
  if sT r1 a0 = 13 then
  (f_M_allLeave (setI (setI r1 a0 41 (a1 / (nI 16))) a0 42 (a1 - a1 / (nI 16) * (nI 16))) a0 a1).bind fun r2 =>
  if sT r2 a0 = 13 then
  if (nI 40) < (sI r2 a0 44) then
    (f_M_rewriteLong r2 a0 a1).bind fun r3 =>
    b_M_rewriteNow_49 a0 r3.1 r3.2
  else
    (f_M_rewriteShort r2 a0 a1).bind fun r4 =>
    b_M_rewriteNow_49 a0 r4.1 r4.2
  else none
  else none
  else none
  else none
theorem t_M_rewriteNow {s : AS} {a0 : Nat} {a1 : Int32} {o : Int32 × AS} (h : f_M_rewriteNow s a0 a1 = some o) : Ev 11 mZ212 0 [.ref a0, .int a1, .retAddr 0] [] s (some (.int o.1), o.2) := by
  unfold f_M_rewriteNow at h
  refine gd h (fun g1 h => ?_)
  refine Ev_blk 2 (pc' := 3) (ls' := [.ref a0, .int a1, .retAddr 0]) (st' := [.int (nI 18), .ref a0]) (s' := s) rfl trivial ?_
  refine bd h (fun r1 hr1 h => ?_)
  refine Ev_call 2 185 1 [.ref a0, .int (nI 18)] [] rfl rfl rfl rfl g1 rfl rfl (Nat.le_of_ble_eq_true rfl) (t_M_keepAll hr1) ?_
  refine gd h (fun g2 h => ?_)
  refine gd h (fun g3 h => ?_)
  refine Ev_blk 12 (pc' := 24) (ls' := [.ref a0, .int a1, .retAddr 0]) (st' := [.int a1, .ref a0]) (s' := setI (setI r1 a0 41 (a1 / (nI 16))) a0 42 (a1 - a1 / (nI 16) * (nI 16))) rfl ⟨⟨⟨⟨trivial, g2⟩, g3⟩, g2⟩, g3⟩ ?_
  refine bd h (fun r2 hr2 h => ?_)
  refine Ev_call 2 213 1 [.ref a0, .int a1] [] rfl rfl rfl rfl g3 rfl rfl (Nat.le_of_ble_eq_true rfl) (t_M_allLeave hr2) ?_
  refine gd h (fun g4 h => ?_)
  refine Ev_blk 4 (pc' := if (nI 40) < (sI r2 a0 44) then 44 else 36) (ls' := [.ref a0, .int a1, .retAddr 0]) (st' := []) (s' := r2) rfl ⟨trivial, g4⟩ ?_
  refine ib h (fun c5 h => ?_) (fun c5 h => ?_)
  · refine Ev_blk 2 (pc' := 46) (ls' := [.ref a0, .int a1, .retAddr 0]) (st' := [.int a1, .ref a0]) (s' := r2) rfl trivial ?_
    refine bd h (fun r3 hr3 h => ?_)
    refine Ev_call 2 219 1 [.ref a0, .int a1] [] rfl rfl rfl rfl g4 rfl rfl (Nat.le_of_ble_eq_true rfl) (t_M_rewriteLong hr3) ?_
    exact t_M_rewriteNow_49 h
  · refine Ev_blk 2 (pc' := 38) (ls' := [.ref a0, .int a1, .retAddr 0]) (st' := [.int a1, .ref a0]) (s' := r2) rfl trivial ?_
    refine bd h (fun r4 hr4 h => ?_)
    refine Ev_call 2 217 1 [.ref a0, .int a1] [] rfl rfl rfl rfl g4 rfl rfl (Nat.le_of_ble_eq_true rfl) (t_M_rewriteShort hr4) ?_
    refine Ev_blk 1 (pc' := 49) (ls' := [.ref a0, .int a1, .retAddr 0]) (st' := [.int r4.1]) (s' := r4.2) rfl trivial ?_
    exact t_M_rewriteNow_49 h

def b_M_rewrite_43  (w0 : Int32) (w1 : Nat) (s : AS) : Option (Int32 × AS) :=
  if sT s w1 = 13 then
  (f_M_tell s w1 w0).bind fun r1 =>
  some (r1.1, r1.2)
  else none
theorem t_M_rewrite_43   {d0 d1 : Value} {w0 : Int32} {w1 : Nat} {s : AS} {o : Int32 × AS} (h : b_M_rewrite_43  w0 w1 s = some o) : Ev 12 mZ209 43 [d0, d1] [.int w0, .ref w1] s (some (.int o.1), o.2) := by
  unfold b_M_rewrite_43 at h
  refine gd h (fun g1 h => ?_)
  refine bd h (fun r1 hr1 h => ?_)
  refine Ev_call 2 142 1 [.ref w1, .int w0] [] rfl rfl rfl rfl g1 rfl rfl (Nat.le_of_ble_eq_true rfl) (t_M_tell hr1) ?_
  cases h
  exact Ev_ret rfl trivial
/-- RecordHeapModel.rewrite(I)I -/
def f_M_rewrite (s : AS) (a0 : Nat) (a1 : Int32) : Option (Int32 × AS) :=
  if sT s a0 = 13 then
  (f_M_bringTape (setI s a0 0 (nI 0)) a0).bind fun r1 =>
  if sT r1 a0 = 13 then
  (f_M_isRecord r1 a0 a1).bind fun r2 =>
  if r2 = (nI 0) then
    b_M_rewrite_43 (-(nI 2)) a0 r1
  else
    if (nI 200) < (sI r1 a0 44) then
      b_M_rewrite_43 (-(nI 6)) a0 r1
    else
      (f_M_rewriteNow r1 a0 a1).bind fun r3 =>
      b_M_rewrite_43 r3.1 a0 r3.2
  else none
  else none
theorem t_M_rewrite {s : AS} {a0 : Nat} {a1 : Int32} {o : Int32 × AS} (h : f_M_rewrite s a0 a1 = some o) : Ev 12 mZ209 0 [.ref a0, .int a1] [] s (some (.int o.1), o.2) := by
  unfold f_M_rewrite at h
  refine gd h (fun g1 h => ?_)
  refine Ev_blk 4 (pc' := 6) (ls' := [.ref a0, .int a1]) (st' := [.ref a0]) (s' := setI s a0 0 (nI 0)) rfl ⟨trivial, g1⟩ ?_
  refine bd h (fun r1 hr1 h => ?_)
  refine Ev_call 2 183 0 [.ref a0] [] rfl rfl rfl rfl g1 rfl rfl (Nat.le_of_ble_eq_true rfl) (t_M_bringTape hr1) ?_
  refine gd h (fun g2 h => ?_)
  refine Ev_blk 3 (pc' := 12) (ls' := [.ref a0, .int a1]) (st' := [.int a1, .ref a0, .ref a0]) (s' := r1) rfl trivial ?_
  refine bd h (fun r2 hr2 h => ?_)
  refine Ev_call 2 210 1 [.ref a0, .int a1] [.ref a0] rfl rfl rfl rfl g2 rfl rfl (Nat.le_of_ble_eq_true rfl) (t_M_isRecord hr2) ?_
  refine Ev_blk 1 (pc' := if r2 = (nI 0) then 18 else 23) (ls' := [.ref a0, .int a1]) (st' := [.ref a0]) (s' := r1) rfl trivial ?_
  refine ib h (fun c3 h => ?_) (fun c3 h => ?_)
  · refine Ev_blk 2 (pc' := 43) (ls' := [.ref a0, .int a1]) (st' := [.int (-(nI 2)), .ref a0]) (s' := r1) rfl trivial ?_
    exact t_M_rewrite_43 h
  · refine Ev_blk 4 (pc' := if (nI 200) < (sI r1 a0 44) then 33 else 38) (ls' := [.ref a0, .int a1]) (st' := [.ref a0]) (s' := r1) rfl ⟨trivial, g2⟩ ?_
    refine ib h (fun c4 h => ?_) (fun c4 h => ?_)
    · refine Ev_blk 2 (pc' := 43) (ls' := [.ref a0, .int a1]) (st' := [.int (-(nI 6)), .ref a0]) (s' := r1) rfl trivial ?_
      exact t_M_rewrite_43 h
    · refine Ev_blk 2 (pc' := 40) (ls' := [.ref a0, .int a1]) (st' := [.int a1, .ref a0, .ref a0]) (s' := r1) rfl trivial ?_
      refine bd h (fun r3 hr3 h => ?_)
      refine Ev_call 2 212 1 [.ref a0, .int a1] [.ref a0] rfl rfl rfl rfl g2 rfl rfl (Nat.le_of_ble_eq_true rfl) (t_M_rewriteNow hr3) ?_
      exact t_M_rewrite_43 h

/-- RecordHeapModel.lengthAt(I)I -/
def f_M_lengthAt (s : AS) (a0 : Nat) (a1 : Int32) : Option Int32 :=
  if sT s a0 = 13 then
  if ¬ (nI 16) = nI 0 then
  (f_M_slotAt s (a1 / (nI 16)) (a1 - a1 / (nI 16) * (nI 16))).bind fun r1 =>
  if sT s (sR s a0 3) = 20 ∧ inA (r1 + (nI 2)) (sN s (sR s a0 3)) then
  some (sI s (sR s a0 3) (r1 + (nI 2)).toNatClampNeg)
  else none
  else none
  else none
theorem t_M_lengthAt {s : AS} {a0 : Nat} {a1 : Int32} {o : Int32} (h : f_M_lengthAt s a0 a1 = some o) : Ev 2 mZ223 0 [.ref a0, .int a1] [] s (some (.int o), s) := by
  unfold f_M_lengthAt at h
  refine gd h (fun g1 h => ?_)
  refine gd h (fun g2 h => ?_)
  refine Ev_blk 8 (pc' := 12) (ls' := [.ref a0, .int a1]) (st' := [.int (a1 - a1 / (nI 16) * (nI 16)), .int (a1 / (nI 16)), .ref (sR s a0 3)]) (s' := s) rfl ⟨⟨⟨trivial, g1⟩, g2⟩, g2⟩ ?_
  refine bd h (fun r1 hr1 h => ?_)
  refine Ev_call 1 191 2 [.int (a1 / (nI 16)), .int (a1 - a1 / (nI 16) * (nI 16))] [.ref (sR s a0 3)] rfl rfl rfl rfl trivial rfl rfl (Nat.le_of_ble_eq_true rfl) (t_M_slotAt hr1) ?_
  refine gd h (fun g3 h => ?_)
  refine Ev_blk 3 (pc' := 18) (ls' := [.ref a0, .int a1]) (st' := [.int (sI s (sR s a0 3) (r1 + (nI 2)).toNatClampNeg)]) (s' := s) rfl ⟨trivial, ⟨Or.inl g3.1, g3.2⟩⟩ ?_
  cases h
  exact Ev_ret rfl trivial

def b_M_lengthOf_37 (s : AS) (k37 : Nat → Int32 → Int32 → Option Int32) (v0 : Nat) (v3 : Int32) (v4 : Int32) : Option Int32 :=
  if v4 = (-(nI 1)) then
    some v3
  else
    if sT s v0 = 13 then
    (f_M_lengthAt s v0 v4).bind fun r1 =>
    (f_M_pointed s v0 v4).bind fun r2 =>
    k37 v0 (v3 + (r1 - (nI 2))) r2
    else none
theorem t_M_lengthOf_37 {s : AS} {k37 : Nat → Int32 → Int32 → Option Int32} (H37 : ∀ {d1 d2 : Value} {v0 : Nat} {v3 : Int32} {v4 : Int32} {o : Int32}, k37 v0 v3 v4 = some o → Ev 4 mZ222 37 [.ref v0, d1, d2, .int v3, .int v4] [] s (some (.int o), s)) {d1 d2 : Value} {v0 : Nat} {v3 : Int32} {v4 : Int32} {o : Int32} (h : b_M_lengthOf_37 s k37 v0 v3 v4 = some o) : Ev 4 mZ222 37 [.ref v0, d1, d2, .int v3, .int v4] [] s (some (.int o), s) := by
  unfold b_M_lengthOf_37 at h
  refine Ev_blk 3 (pc' := if v4 = (-(nI 1)) then 65 else 43) (ls' := [.ref v0, d1, d2, .int v3, .int v4]) (st' := []) (s' := s) rfl trivial ?_
  refine ib h (fun c1 h => ?_) (fun c1 h => ?_)
  · refine Ev_blk 1 (pc' := 66) (ls' := [.ref v0, d1, d2, .int v3, .int v4]) (st' := [.int v3]) (s' := s) rfl trivial ?_
    cases h
    exact Ev_ret rfl trivial
  · refine gd h (fun g2 h => ?_)
    refine Ev_blk 3 (pc' := 47) (ls' := [.ref v0, d1, d2, .int v3, .int v4]) (st' := [.int v4, .ref v0, .int v3]) (s' := s) rfl trivial ?_
    refine bd h (fun r1 hr1 h => ?_)
    refine Ev_call 2 223 1 [.ref v0, .int v4] [.int v3] rfl rfl rfl rfl g2 rfl rfl (Nat.le_of_ble_eq_true rfl) (t_M_lengthAt hr1) ?_
    refine Ev_blk 6 (pc' := 57) (ls' := [.ref v0, d1, (clrV d2), .int (v3 + (r1 - (nI 2))), .int v4]) (st' := [.int v4, .ref v0]) (s' := s) rfl trivial ?_
    refine bd h (fun r2 hr2 h => ?_)
    refine Ev_call 2 215 1 [.ref v0, .int v4] [] rfl rfl rfl rfl g2 rfl rfl (Nat.le_of_ble_eq_true rfl) (t_M_pointed hr2) ?_
    refine Ev_blk 2 (pc' := 37) (ls' := [.ref v0, d1, (clrV d2), .int (v3 + (r1 - (nI 2))), .int r2]) (st' := []) (s' := s) rfl trivial ?_
    exact H37 h
def l_M_lengthOf_37 (s : AS)  : Nat → Nat → Int32 → Int32 → Option Int32
  | 0 => fun _ _ _ => none
  | n + 1 => b_M_lengthOf_37 s  (l_M_lengthOf_37 s  n)
theorem u_M_lengthOf_37 {s : AS}   {n : Nat} : ∀ {d1 d2 : Value} {v0 : Nat} {v3 : Int32} {v4 : Int32} {o : Int32}, l_M_lengthOf_37 s  n v0 v3 v4 = some o → Ev 4 mZ222 37 [.ref v0, d1, d2, .int v3, .int v4] [] s (some (.int o), s) := by
  induction n with
  | zero => intros; rename_i h; cases h
  | succ n ih => intros; rename_i h; exact t_M_lengthOf_37  (fun h => ih h) h
/-- RecordHeapModel.lengthOf(I)I -/
def f_M_lengthOf (s : AS) (a0 : Nat) (a1 : Int32) : Option Int32 :=
  if sT s a0 = 13 then
  (f_M_kindAt s a0 a1).bind fun r1 =>
  if r1 = (nI 1) then
    (f_M_lengthAt s a0 a1).bind fun r2 =>
    some r2
  else
    if r1 = (nI 2) then
      (f_M_pointed s a0 a1).bind fun r3 =>
      (f_M_lengthAt s a0 r3).bind fun r4 =>
      some r4
    else
      l_M_lengthOf_37 s fuel a0 (nI 0) a1
  else none
theorem t_M_lengthOf {s : AS} {a0 : Nat} {a1 : Int32} {o : Int32} (h : f_M_lengthOf s a0 a1 = some o) : Ev 4 mZ222 0 [.ref a0, .int a1, .retAddr 0, .retAddr 0, .retAddr 0] [] s (some (.int o), s) := by
  unfold f_M_lengthOf at h
  refine gd h (fun g1 h => ?_)
  refine Ev_blk 2 (pc' := 2) (ls' := [.ref a0, .int a1, .retAddr 0, .retAddr 0, .retAddr 0]) (st' := [.int a1, .ref a0]) (s' := s) rfl trivial ?_
  refine bd h (fun r1 hr1 h => ?_)
  refine Ev_call 2 211 1 [.ref a0, .int a1] [] rfl rfl rfl rfl g1 rfl rfl (Nat.le_of_ble_eq_true rfl) (t_M_kindAt hr1) ?_
  refine Ev_blk 4 (pc' := if r1 = (nI 1) then 11 else 17) (ls' := [.ref a0, .int a1, .int r1, .retAddr 0, .retAddr 0]) (st' := []) (s' := s) rfl trivial ?_
  refine ib h (fun c2 h => ?_) (fun c2 h => ?_)
  · refine Ev_blk 2 (pc' := 13) (ls' := [.ref a0, .int a1, .int r1, .retAddr 0, .retAddr 0]) (st' := [.int a1, .ref a0]) (s' := s) rfl trivial ?_
    refine bd h (fun r2 hr2 h => ?_)
    refine Ev_call 2 223 1 [.ref a0, .int a1] [] rfl rfl rfl rfl g1 rfl rfl (Nat.le_of_ble_eq_true rfl) (t_M_lengthAt hr2) ?_
    cases h
    exact Ev_ret rfl trivial
  · refine Ev_blk 3 (pc' := if r1 = (nI 2) then 22 else 32) (ls' := [.ref a0, .int a1, .int r1, .retAddr 0, .retAddr 0]) (st' := []) (s' := s) rfl trivial ?_
    refine ib h (fun c3 h => ?_) (fun c3 h => ?_)
    · refine Ev_blk 3 (pc' := 25) (ls' := [.ref a0, .int a1, .int r1, .retAddr 0, .retAddr 0]) (st' := [.int a1, .ref a0, .ref a0]) (s' := s) rfl trivial ?_
      refine bd h (fun r3 hr3 h => ?_)
      refine Ev_call 2 215 1 [.ref a0, .int a1] [.ref a0] rfl rfl rfl rfl g1 rfl rfl (Nat.le_of_ble_eq_true rfl) (t_M_pointed hr3) ?_
      refine bd h (fun r4 hr4 h => ?_)
      refine Ev_call 2 223 1 [.ref a0, .int r3] [] rfl rfl rfl rfl g1 rfl rfl (Nat.le_of_ble_eq_true rfl) (t_M_lengthAt hr4) ?_
      cases h
      exact Ev_ret rfl trivial
    · refine Ev_blk 4 (pc' := 37) (ls' := [.ref a0, .int a1, .int r1, .int (nI 0), .int a1]) (st' := []) (s' := s) rfl trivial ?_
      exact u_M_lengthOf_37 h

/-- RecordHeapModel.dropNow(I)I -/
def f_M_dropNow (s : AS) (a0 : Nat) (a1 : Int32) : Option (Int32 × AS) :=
  if sT s a0 = 13 then
  (f_M_isRecord s a0 a1).bind fun r1 =>
  if r1 = (nI 0) then
    some (-(nI 2), s)
  else
    (f_M_keepAll s a0 (nI 18)).bind fun r2 =>
    if sT r2 a0 = 13 then
    (f_M_lengthOf r2 a0 a1).bind fun r3 =>
    (f_M_allLeave r2 a0 a1).bind fun r4 =>
    if sT r4 a0 = 13 then
    (f_M_rememberTried r4 a0 (nI 2)).bind fun r5 =>
    some (r3, r5)
    else none
    else none
  else none
theorem t_M_dropNow {s : AS} {a0 : Nat} {a1 : Int32} {o : Int32 × AS} (h : f_M_dropNow s a0 a1 = some o) : Ev 6 mZ221 0 [.ref a0, .int a1, .retAddr 0] [] s (some (.int o.1), o.2) := by
  unfold f_M_dropNow at h
  refine gd h (fun g1 h => ?_)
  refine Ev_blk 2 (pc' := 2) (ls' := [.ref a0, .int a1, .retAddr 0]) (st' := [.int a1, .ref a0]) (s' := s) rfl trivial ?_
  refine bd h (fun r1 hr1 h => ?_)
  refine Ev_call 2 210 1 [.ref a0, .int a1] [] rfl rfl rfl rfl g1 rfl rfl (Nat.le_of_ble_eq_true rfl) (t_M_isRecord hr1) ?_
  refine Ev_blk 1 (pc' := if r1 = (nI 0) then 8 else 11) (ls' := [.ref a0, .int a1, .retAddr 0]) (st' := []) (s' := s) rfl trivial ?_
  refine ib h (fun c2 h => ?_) (fun c2 h => ?_)
  · refine Ev_blk 1 (pc' := 10) (ls' := [.ref a0, .int a1, .retAddr 0]) (st' := [.int (-(nI 2))]) (s' := s) rfl trivial ?_
    cases h
    exact Ev_ret rfl trivial
  · refine Ev_blk 2 (pc' := 14) (ls' := [.ref a0, .int a1, .retAddr 0]) (st' := [.int (nI 18), .ref a0]) (s' := s) rfl trivial ?_
    refine bd h (fun r2 hr2 h => ?_)
    refine Ev_call 2 185 1 [.ref a0, .int (nI 18)] [] rfl rfl rfl rfl g1 rfl rfl (Nat.le_of_ble_eq_true rfl) (t_M_keepAll hr2) ?_
    refine gd h (fun g3 h => ?_)
    refine Ev_blk 2 (pc' := 19) (ls' := [.ref a0, .int a1, .retAddr 0]) (st' := [.int a1, .ref a0]) (s' := r2) rfl trivial ?_
    refine bd h (fun r3 hr3 h => ?_)
    refine Ev_call 2 222 1 [.ref a0, .int a1] [] rfl rfl rfl rfl g3 rfl rfl (Nat.le_of_ble_eq_true rfl) (t_M_lengthOf hr3) ?_
    refine Ev_blk 3 (pc' := 25) (ls' := [.ref a0, .int a1, .int r3]) (st' := [.int a1, .ref a0]) (s' := r2) rfl trivial ?_
    refine bd h (fun r4 hr4 h => ?_)
    refine Ev_call 2 213 1 [.ref a0, .int a1] [] rfl rfl rfl rfl g3 rfl rfl (Nat.le_of_ble_eq_true rfl) (t_M_allLeave hr4) ?_
    refine gd h (fun g4 h => ?_)
    refine Ev_blk 2 (pc' := 30) (ls' := [.ref a0, .int a1, .int r3]) (st' := [.int (nI 2), .ref a0]) (s' := r4) rfl trivial ?_
    refine bd h (fun r5 hr5 h => ?_)
    refine Ev_call 2 208 1 [.ref a0, .int (nI 2)] [] rfl rfl rfl rfl g4 rfl rfl (Nat.le_of_ble_eq_true rfl) (t_M_rememberTried hr5) ?_
    refine Ev_blk 1 (pc' := 34) (ls' := [.ref a0, .int a1, .int r3]) (st' := [.int r3]) (s' := r5) rfl trivial ?_
    cases h
    exact Ev_ret rfl trivial

/-- RecordHeapModel.drop(I)I -/
def f_M_drop (s : AS) (a0 : Nat) (a1 : Int32) : Option (Int32 × AS) :=
  if sT s a0 = 13 then
  (f_M_dropNow (setI s a0 0 (nI 0)) a0 a1).bind fun r1 =>
  if sT r1.2 a0 = 13 then
  (f_M_tell r1.2 a0 r1.1).bind fun r2 =>
  some (r2.1, r2.2)
  else none
  else none
theorem t_M_drop {s : AS} {a0 : Nat} {a1 : Int32} {o : Int32 × AS} (h : f_M_drop s a0 a1 = some o) : Ev 7 mZ220 0 [.ref a0, .int a1] [] s (some (.int o.1), o.2) := by
  unfold f_M_drop at h
  refine gd h (fun g1 h => ?_)
  refine Ev_blk 6 (pc' := 8) (ls' := [.ref a0, .int a1]) (st' := [.int a1, .ref a0, .ref a0]) (s' := setI s a0 0 (nI 0)) rfl ⟨trivial, g1⟩ ?_
  refine bd h (fun r1 hr1 h => ?_)
  refine Ev_call 2 221 1 [.ref a0, .int a1] [.ref a0] rfl rfl rfl rfl g1 rfl rfl (Nat.le_of_ble_eq_true rfl) (t_M_dropNow hr1) ?_
  refine gd h (fun g2 h => ?_)
  refine bd h (fun r2 hr2 h => ?_)
  refine Ev_call 2 142 1 [.ref a0, .int r1.1] [] rfl rfl rfl rfl g2 rfl rfl (Nat.le_of_ble_eq_true rfl) (t_M_tell hr2) ?_
  cases h
  exact Ev_ret rfl trivial

/-- RecordHeapModel.isPage(I)Z -/
def f_M_isPage (s : AS) (a0 : Int32) : Option Int32 :=
  (f_M_in s a0.toInt64 (lN 0) (lN 7)).bind fun r1 =>
  if r1 = nI 0 ∨ r1 = nI 1 then
  some r1
  else none
theorem t_M_isPage {s : AS} {a0 : Int32} {o : Int32} (h : f_M_isPage s a0 = some o) : Ev 1 mZ226 0 [.int a0] [] s (some (.int o), s) := by
  unfold f_M_isPage at h
  refine Ev_blk 4 (pc' := 6) (ls' := [.int a0]) (st' := [.long (lN 7), .long (lN 0), .long a0.toInt64]) (s' := s) rfl trivial ?_
  refine bd h (fun r1 hr1 h => ?_)
  refine Ev_call 1 145 3 [.long a0.toInt64, .long (lN 0), .long (lN 7)] [] rfl rfl rfl rfl trivial rfl rfl (Nat.le_of_ble_eq_true rfl) (t_M_in hr1) ?_
  refine gd h (fun g1 h => ?_)
  cases h
  exact Ev_ret rfl g1

/-- RecordHeapModel.wasteOf(I)I -/
def f_M_wasteOf (s : AS) (a0 : Nat) (a1 : Int32) : Option Int32 :=
  if sT s a0 = 13 then
  (f_M_freeOf s a0 a1).bind fun r1 =>
  (f_M_gapOf s a0 a1).bind fun r2 =>
  some (r1 - r2)
  else none
theorem t_M_wasteOf {s : AS} {a0 : Nat} {a1 : Int32} {o : Int32} (h : f_M_wasteOf s a0 a1 = some o) : Ev 5 mZ227 0 [.ref a0, .int a1] [] s (some (.int o), s) := by
  unfold f_M_wasteOf at h
  refine gd h (fun g1 h => ?_)
  refine Ev_blk 2 (pc' := 2) (ls' := [.ref a0, .int a1]) (st' := [.int a1, .ref a0]) (s' := s) rfl trivial ?_
  refine bd h (fun r1 hr1 h => ?_)
  refine Ev_call 2 194 1 [.ref a0, .int a1] [] rfl rfl rfl rfl g1 rfl rfl (Nat.le_of_ble_eq_true rfl) (t_M_freeOf hr1) ?_
  refine Ev_blk 2 (pc' := 7) (ls' := [.ref a0, .int a1]) (st' := [.int a1, .ref a0, .int r1]) (s' := s) rfl trivial ?_
  refine bd h (fun r2 hr2 h => ?_)
  refine Ev_call 2 199 1 [.ref a0, .int a1] [.int r1] rfl rfl rfl rfl g1 rfl rfl (Nat.le_of_ble_eq_true rfl) (t_M_gapOf hr2) ?_
  refine Ev_blk 1 (pc' := 11) (ls' := [.ref a0, .int a1]) (st' := [.int (r1 - r2)]) (s' := s) rfl trivial ?_
  cases h
  exact Ev_ret rfl trivial

/-- RecordHeapModel.packNow(I)I -/
def f_M_packNow (s : AS) (a0 : Nat) (a1 : Int32) : Option (Int32 × AS) :=
  (f_M_isPage s a1).bind fun r1 =>
  if r1 = (nI 0) then
    some (-(nI 1), s)
  else
    if sT s a0 = 13 then
    (f_M_keepAll s a0 (nI 18)).bind fun r2 =>
    if sT r2 a0 = 13 then
    (f_M_wasteOf r2 a0 a1).bind fun r3 =>
    (f_M_packIt r2 a0 a1).bind fun r4 =>
    if sT r4 a0 = 13 then
    (f_M_rememberTried r4 a0 (nI 3)).bind fun r5 =>
    some (r3, r5)
    else none
    else none
    else none
theorem t_M_packNow {s : AS} {a0 : Nat} {a1 : Int32} {o : Int32 × AS} (h : f_M_packNow s a0 a1 = some o) : Ev 6 mZ225 0 [.ref a0, .int a1, .retAddr 0] [] s (some (.int o.1), o.2) := by
  unfold f_M_packNow at h
  refine Ev_blk 1 (pc' := 1) (ls' := [.ref a0, .int a1, .retAddr 0]) (st' := [.int a1]) (s' := s) rfl trivial ?_
  refine bd h (fun r1 hr1 h => ?_)
  refine Ev_call 1 226 1 [.int a1] [] rfl rfl rfl rfl trivial rfl rfl (Nat.le_of_ble_eq_true rfl) (t_M_isPage hr1) ?_
  refine Ev_blk 1 (pc' := if r1 = (nI 0) then 7 else 9) (ls' := [.ref a0, .int a1, .retAddr 0]) (st' := []) (s' := s) rfl trivial ?_
  refine ib h (fun c1 h => ?_) (fun c1 h => ?_)
  · refine Ev_blk 1 (pc' := 8) (ls' := [.ref a0, .int a1, .retAddr 0]) (st' := [.int (-(nI 1))]) (s' := s) rfl trivial ?_
    cases h
    exact Ev_ret rfl trivial
  · refine gd h (fun g2 h => ?_)
    refine Ev_blk 2 (pc' := 12) (ls' := [.ref a0, .int a1, .retAddr 0]) (st' := [.int (nI 18), .ref a0]) (s' := s) rfl trivial ?_
    refine bd h (fun r2 hr2 h => ?_)
    refine Ev_call 2 185 1 [.ref a0, .int (nI 18)] [] rfl rfl rfl rfl g2 rfl rfl (Nat.le_of_ble_eq_true rfl) (t_M_keepAll hr2) ?_
    refine gd h (fun g3 h => ?_)
    refine Ev_blk 2 (pc' := 17) (ls' := [.ref a0, .int a1, .retAddr 0]) (st' := [.int a1, .ref a0]) (s' := r2) rfl trivial ?_
    refine bd h (fun r3 hr3 h => ?_)
    refine Ev_call 2 227 1 [.ref a0, .int a1] [] rfl rfl rfl rfl g3 rfl rfl (Nat.le_of_ble_eq_true rfl) (t_M_wasteOf hr3) ?_
    refine Ev_blk 3 (pc' := 23) (ls' := [.ref a0, .int a1, .int r3]) (st' := [.int a1, .ref a0]) (s' := r2) rfl trivial ?_
    refine bd h (fun r4 hr4 h => ?_)
    refine Ev_call 2 201 1 [.ref a0, .int a1] [] rfl rfl rfl rfl g3 rfl rfl (Nat.le_of_ble_eq_true rfl) (t_M_packIt hr4) ?_
    refine gd h (fun g4 h => ?_)
    refine Ev_blk 2 (pc' := 28) (ls' := [.ref a0, .int a1, .int r3]) (st' := [.int (nI 3), .ref a0]) (s' := r4) rfl trivial ?_
    refine bd h (fun r5 hr5 h => ?_)
    refine Ev_call 2 208 1 [.ref a0, .int (nI 3)] [] rfl rfl rfl rfl g4 rfl rfl (Nat.le_of_ble_eq_true rfl) (t_M_rememberTried hr5) ?_
    refine Ev_blk 1 (pc' := 32) (ls' := [.ref a0, .int a1, .int r3]) (st' := [.int r3]) (s' := r5) rfl trivial ?_
    cases h
    exact Ev_ret rfl trivial

/-- RecordHeapModel.pack(I)I -/
def f_M_pack (s : AS) (a0 : Nat) (a1 : Int32) : Option (Int32 × AS) :=
  if sT s a0 = 13 then
  (f_M_packNow (setI s a0 0 (nI 0)) a0 a1).bind fun r1 =>
  if sT r1.2 a0 = 13 then
  (f_M_tell r1.2 a0 r1.1).bind fun r2 =>
  some (r2.1, r2.2)
  else none
  else none
theorem t_M_pack {s : AS} {a0 : Nat} {a1 : Int32} {o : Int32 × AS} (h : f_M_pack s a0 a1 = some o) : Ev 7 mZ224 0 [.ref a0, .int a1] [] s (some (.int o.1), o.2) := by
  unfold f_M_pack at h
  refine gd h (fun g1 h => ?_)
  refine Ev_blk 6 (pc' := 8) (ls' := [.ref a0, .int a1]) (st' := [.int a1, .ref a0, .ref a0]) (s' := setI s a0 0 (nI 0)) rfl ⟨trivial, g1⟩ ?_
  refine bd h (fun r1 hr1 h => ?_)
  refine Ev_call 2 225 1 [.ref a0, .int a1] [.ref a0] rfl rfl rfl rfl g1 rfl rfl (Nat.le_of_ble_eq_true rfl) (t_M_packNow hr1) ?_
  refine gd h (fun g2 h => ?_)
  refine bd h (fun r2 hr2 h => ?_)
  refine Ev_call 2 142 1 [.ref a0, .int r1.1] [] rfl rfl rfl rfl g2 rfl rfl (Nat.le_of_ble_eq_true rfl) (t_M_tell hr2) ?_
  cases h
  exact Ev_ret rfl trivial

def b_M_mendNow_10 (k10 : Nat → Int32 → Int32 → AS → Option (Int32 × AS)) (v0 : Nat) (v1 : Int32) (v2 : Int32) (s : AS) : Option (Int32 × AS) :=
  if v2 < (nI 8) then
    if sT s v0 = 13 then
    (f_M_pageAt s v2).bind fun r1 =>
    if sT s (sR s v0 3) = 20 ∧ inA (r1 + (nI 1)) (sN s (sR s v0 3)) then
    (f_M_promise s v0 v2).bind fun r2 =>
    if sT r2 v0 = 13 then
    (f_M_pageAt r2 v2).bind fun r3 =>
    if sT r2 (sR r2 v0 3) = 20 ∧ inA (r3 + (nI 1)) (sN r2 (sR r2 v0 3)) then
      k10 v0 (v1 + (if (sI s (sR s v0 3) (r1 + (nI 1)).toNatClampNeg) = (sI r2 (sR r2 v0 3) (r3 + (nI 1)).toNatClampNeg) then nI 0 else nI 1)) (v2 + nI 1) r2
    else none
    else none
    else none
    else none
  else
    if sT s v0 = 13 then
    (f_M_rememberTried s v0 (nI 4)).bind fun r4 =>
    some (v1, r4)
    else none
theorem t_M_mendNow_10 {k10 : Nat → Int32 → Int32 → AS → Option (Int32 × AS)} (H10 : ∀ {d3 : Value} {v0 : Nat} {v1 : Int32} {v2 : Int32} {s : AS} {o : Int32 × AS}, k10 v0 v1 v2 s = some o → Ev 5 mZ229 10 [.ref v0, .int v1, .int v2, d3] [] s (some (.int o.1), o.2)) {d3 : Value} {v0 : Nat} {v1 : Int32} {v2 : Int32} {s : AS} {o : Int32 × AS} (h : b_M_mendNow_10 k10 v0 v1 v2 s = some o) : Ev 5 mZ229 10 [.ref v0, .int v1, .int v2, d3] [] s (some (.int o.1), o.2) := by
  unfold b_M_mendNow_10 at h
  refine Ev_blk 3 (pc' := if v2 < (nI 8) then 16 else 62) (ls' := [.ref v0, .int v1, .int v2, d3]) (st' := []) (s' := s) rfl trivial ?_
  refine ib h (fun c1 h => ?_) (fun c1 h => ?_)
  · refine gd h (fun g2 h => ?_)
    refine Ev_blk 3 (pc' := 21) (ls' := [.ref v0, .int v1, .int v2, d3]) (st' := [.int v2, .ref (sR s v0 3)]) (s' := s) rfl ⟨trivial, g2⟩ ?_
    refine bd h (fun r1 hr1 h => ?_)
    refine Ev_call 1 140 1 [.int v2] [.ref (sR s v0 3)] rfl rfl rfl rfl trivial rfl rfl (Nat.le_of_ble_eq_true rfl) (t_M_pageAt hr1) ?_
    refine gd h (fun g3 h => ?_)
    refine Ev_blk 6 (pc' := 30) (ls' := [.ref v0, .int v1, .int v2, .int (sI s (sR s v0 3) (r1 + (nI 1)).toNatClampNeg)]) (st' := [.int v2, .ref v0]) (s' := s) rfl ⟨trivial, ⟨Or.inl g3.1, g3.2⟩⟩ ?_
    refine bd h (fun r2 hr2 h => ?_)
    refine Ev_call 2 202 1 [.ref v0, .int v2] [] rfl rfl rfl rfl g2 rfl rfl (Nat.le_of_ble_eq_true rfl) (t_M_promise hr2) ?_
    refine gd h (fun g4 h => ?_)
    refine Ev_blk 5 (pc' := 40) (ls' := [.ref v0, .int v1, .int v2, .int (sI s (sR s v0 3) (r1 + (nI 1)).toNatClampNeg)]) (st' := [.int v2, .ref (sR r2 v0 3), .int (sI s (sR s v0 3) (r1 + (nI 1)).toNatClampNeg), .int v1]) (s' := r2) rfl ⟨trivial, g4⟩ ?_
    refine bd h (fun r3 hr3 h => ?_)
    refine Ev_call 1 140 1 [.int v2] [.ref (sR r2 v0 3), .int (sI s (sR s v0 3) (r1 + (nI 1)).toNatClampNeg), .int v1] rfl rfl rfl rfl trivial rfl rfl (Nat.le_of_ble_eq_true rfl) (t_M_pageAt hr3) ?_
    refine gd h (fun g5 h => ?_)
    refine Ev_blk 4 (pc' := if (sI s (sR s v0 3) (r1 + (nI 1)).toNatClampNeg) = (sI r2 (sR r2 v0 3) (r3 + (nI 1)).toNatClampNeg) then 49 else 53) (ls' := [.ref v0, .int v1, .int v2, .int (sI s (sR s v0 3) (r1 + (nI 1)).toNatClampNeg)]) (st' := [.int v1]) (s' := r2) rfl ⟨trivial, ⟨Or.inl g5.1, g5.2⟩⟩ ?_
    have k6_ : Ev 5 mZ229 54 [.ref v0, .int v1, .int v2, .int (sI s (sR s v0 3) (r1 + (nI 1)).toNatClampNeg)] [.int (if (sI s (sR s v0 3) (r1 + (nI 1)).toNatClampNeg) = (sI r2 (sR r2 v0 3) (r3 + (nI 1)).toNatClampNeg) then nI 0 else nI 1), .int v1] r2 (some (.int o.1), o.2) := by
      refine Ev_blk 4 (pc' := 10) (ls' := [.ref v0, .int (v1 + (if (sI s (sR s v0 3) (r1 + (nI 1)).toNatClampNeg) = (sI r2 (sR r2 v0 3) (r3 + (nI 1)).toNatClampNeg) then nI 0 else nI 1)), .int (v2 + nI 1), .int (sI s (sR s v0 3) (r1 + (nI 1)).toNatClampNeg)]) (st' := []) (s' := r2) rfl trivial ?_
      exact H10 h
    refine icases (fun c7 => ?_) (fun c7 => ?_)
    · exact Ev_blk 2 (pc' := 54) (ls' := [.ref v0, .int v1, .int v2, .int (sI s (sR s v0 3) (r1 + (nI 1)).toNatClampNeg)]) (st' := [.int (nI 0), .int v1]) (s' := r2) rfl trivial (by simpa only [if_pos c7] using k6_)
    · exact Ev_blk 1 (pc' := 54) (ls' := [.ref v0, .int v1, .int v2, .int (sI s (sR s v0 3) (r1 + (nI 1)).toNatClampNeg)]) (st' := [.int (nI 1), .int v1]) (s' := r2) rfl trivial (by simpa only [if_neg c7] using k6_)
  · refine gd h (fun g8 h => ?_)
    refine Ev_blk 2 (pc' := 64) (ls' := [.ref v0, .int v1, .int v2, d3]) (st' := [.int (nI 4), .ref v0]) (s' := s) rfl trivial ?_
    refine bd h (fun r4 hr4 h => ?_)
    refine Ev_call 2 208 1 [.ref v0, .int (nI 4)] [] rfl rfl rfl rfl g8 rfl rfl (Nat.le_of_ble_eq_true rfl) (t_M_rememberTried hr4) ?_
    refine Ev_blk 1 (pc' := 68) (ls' := [.ref v0, .int v1, .int v2, d3]) (st' := [.int v1]) (s' := r4) rfl trivial ?_
    cases h
    exact Ev_ret rfl trivial
def l_M_mendNow_10  : Nat → Nat → Int32 → Int32 → AS → Option (Int32 × AS)
  | 0 => fun _ _ _ _ => none
  | n + 1 => b_M_mendNow_10  (l_M_mendNow_10  n)
theorem u_M_mendNow_10   {n : Nat} : ∀ {d3 : Value} {v0 : Nat} {v1 : Int32} {v2 : Int32} {s : AS} {o : Int32 × AS}, l_M_mendNow_10  n v0 v1 v2 s = some o → Ev 5 mZ229 10 [.ref v0, .int v1, .int v2, d3] [] s (some (.int o.1), o.2) := by
  induction n with
  | zero => intros; rename_i h; cases h
  | succ n ih => intros; rename_i h; exact t_M_mendNow_10  (fun h => ih h) h
/-- RecordHeapModel.mendNow()I -/
def f_M_mendNow (s : AS) (a0 : Nat) : Option (Int32 × AS) :=
  if sT s a0 = 13 then
  (f_M_keepAll s a0 (nI 18)).bind fun r1 =>
  l_M_mendNow_10 fuel a0 (nI 0) (nI 0) r1
  else none
theorem t_M_mendNow {s : AS} {a0 : Nat} {o : Int32 × AS} (h : f_M_mendNow s a0 = some o) : Ev 5 mZ229 0 [.ref a0, .retAddr 0, .retAddr 0, .retAddr 0] [] s (some (.int o.1), o.2) := by
  unfold f_M_mendNow at h
  refine gd h (fun g1 h => ?_)
  refine Ev_blk 2 (pc' := 3) (ls' := [.ref a0, .retAddr 0, .retAddr 0, .retAddr 0]) (st' := [.int (nI 18), .ref a0]) (s' := s) rfl trivial ?_
  refine bd h (fun r1 hr1 h => ?_)
  refine Ev_call 2 185 1 [.ref a0, .int (nI 18)] [] rfl rfl rfl rfl g1 rfl rfl (Nat.le_of_ble_eq_true rfl) (t_M_keepAll hr1) ?_
  refine Ev_blk 4 (pc' := 10) (ls' := [.ref a0, .int (nI 0), .int (nI 0), .retAddr 0]) (st' := []) (s' := r1) rfl trivial ?_
  exact u_M_mendNow_10 h

/-- RecordHeapModel.mend()I -/
def f_M_mend (s : AS) (a0 : Nat) : Option (Int32 × AS) :=
  if sT s a0 = 13 then
  (f_M_mendNow (setI s a0 0 (nI 0)) a0).bind fun r1 =>
  if sT r1.2 a0 = 13 then
  (f_M_tell r1.2 a0 r1.1).bind fun r2 =>
  some (r2.1, r2.2)
  else none
  else none
theorem t_M_mend {s : AS} {a0 : Nat} {o : Int32 × AS} (h : f_M_mend s a0 = some o) : Ev 6 mZ228 0 [.ref a0] [] s (some (.int o.1), o.2) := by
  unfold f_M_mend at h
  refine gd h (fun g1 h => ?_)
  refine Ev_blk 5 (pc' := 7) (ls' := [.ref a0]) (st' := [.ref a0, .ref a0]) (s' := setI s a0 0 (nI 0)) rfl ⟨trivial, g1⟩ ?_
  refine bd h (fun r1 hr1 h => ?_)
  refine Ev_call 2 229 0 [.ref a0] [.ref a0] rfl rfl rfl rfl g1 rfl rfl (Nat.le_of_ble_eq_true rfl) (t_M_mendNow hr1) ?_
  refine gd h (fun g2 h => ?_)
  refine bd h (fun r2 hr2 h => ?_)
  refine Ev_call 2 142 1 [.ref a0, .int r1.1] [] rfl rfl rfl rfl g2 rfl rfl (Nat.le_of_ble_eq_true rfl) (t_M_tell hr2) ?_
  cases h
  exact Ev_ret rfl trivial

def b_M_signOf_50 (s : AS) (k50 : Nat → Int32 → Int32 → Int32 → Option Int32) (v0 : Nat) (v2 : Int32) (v4 : Int32) (v5 : Int32) : Option Int32 :=
  if ¬ (nI 38) = nI 0 then
  if v5 < (v2 / (nI 38)) then
    if sT s v0 = 13 then
    (f_M_pointed s v0 v4).bind fun r1 =>
    k50 v0 v2 r1 (v5 + nI 1)
    else none
  else
    if sT s v0 = 13 then
    (f_M_byteAt s v0 v4 ((nI 2) + (v2 - v2 / (nI 38) * (nI 38)))).bind fun r2 =>
    if sT s (sR s v0 3) = 20 ∧ inA r2 (sN s (sR s v0 3)) then
    some (sI s (sR s v0 3) r2.toNatClampNeg)
    else none
    else none
  else none
theorem t_M_signOf_50 {s : AS} {k50 : Nat → Int32 → Int32 → Int32 → Option Int32} (H50 : ∀ {d1 d3 : Value} {v0 : Nat} {v2 : Int32} {v4 : Int32} {v5 : Int32} {o : Int32}, k50 v0 v2 v4 v5 = some o → Ev 4 mZ231 50 [.ref v0, d1, .int v2, d3, .int v4, .int v5] [] s (some (.int o), s)) {d1 d3 : Value} {v0 : Nat} {v2 : Int32} {v4 : Int32} {v5 : Int32} {o : Int32} (h : b_M_signOf_50 s k50 v0 v2 v4 v5 = some o) : Ev 4 mZ231 50 [.ref v0, d1, .int v2, d3, .int v4, .int v5] [] s (some (.int o), s) := by
  unfold b_M_signOf_50 at h
  refine gd h (fun g1 h => ?_)
  refine Ev_blk 5 (pc' := if v5 < (v2 / (nI 38)) then 59 else 73) (ls' := [.ref v0, d1, .int v2, d3, .int v4, .int v5]) (st' := []) (s' := s) rfl ⟨trivial, g1⟩ ?_
  refine ib h (fun c2 h => ?_) (fun c2 h => ?_)
  · refine gd h (fun g3 h => ?_)
    refine Ev_blk 2 (pc' := 62) (ls' := [.ref v0, d1, .int v2, d3, .int v4, .int v5]) (st' := [.int v4, .ref v0]) (s' := s) rfl trivial ?_
    refine bd h (fun r1 hr1 h => ?_)
    refine Ev_call 2 215 1 [.ref v0, .int v4] [] rfl rfl rfl rfl g3 rfl rfl (Nat.le_of_ble_eq_true rfl) (t_M_pointed hr1) ?_
    refine Ev_blk 3 (pc' := 50) (ls' := [.ref v0, d1, .int v2, (clrV d3), .int r1, .int (v5 + nI 1)]) (st' := []) (s' := s) rfl trivial ?_
    exact H50 h
  · refine gd h (fun g4 h => ?_)
    refine Ev_blk 9 (pc' := 86) (ls' := [.ref v0, d1, .int v2, d3, .int v4, .int v5]) (st' := [.int ((nI 2) + (v2 - v2 / (nI 38) * (nI 38))), .int v4, .ref v0, .ref (sR s v0 3)]) (s' := s) rfl ⟨⟨trivial, g4⟩, g1⟩ ?_
    refine bd h (fun r2 hr2 h => ?_)
    refine Ev_call 2 205 2 [.ref v0, .int v4, .int ((nI 2) + (v2 - v2 / (nI 38) * (nI 38)))] [.ref (sR s v0 3)] rfl rfl rfl rfl g4 rfl rfl (Nat.le_of_ble_eq_true rfl) (t_M_byteAt hr2) ?_
    refine gd h (fun g5 h => ?_)
    refine Ev_blk 1 (pc' := 90) (ls' := [.ref v0, d1, .int v2, d3, .int v4, .int v5]) (st' := [.int (sI s (sR s v0 3) r2.toNatClampNeg)]) (s' := s) rfl ⟨trivial, ⟨Or.inl g5.1, g5.2⟩⟩ ?_
    cases h
    exact Ev_ret rfl trivial
def l_M_signOf_50 (s : AS)  : Nat → Nat → Int32 → Int32 → Int32 → Option Int32
  | 0 => fun _ _ _ _ => none
  | n + 1 => b_M_signOf_50 s  (l_M_signOf_50 s  n)
theorem u_M_signOf_50 {s : AS}   {n : Nat} : ∀ {d1 d3 : Value} {v0 : Nat} {v2 : Int32} {v4 : Int32} {v5 : Int32} {o : Int32}, l_M_signOf_50 s  n v0 v2 v4 v5 = some o → Ev 4 mZ231 50 [.ref v0, d1, .int v2, d3, .int v4, .int v5] [] s (some (.int o), s) := by
  induction n with
  | zero => intros; rename_i h; cases h
  | succ n ih => intros; rename_i h; exact t_M_signOf_50  (fun h => ih h) h
/-- RecordHeapModel.signOf(II)I -/
def f_M_signOf (s : AS) (a0 : Nat) (a1 : Int32) (a2 : Int32) : Option Int32 :=
  if sT s a0 = 13 then
  (f_M_kindAt s a0 a1).bind fun r1 =>
  if r1 = (nI 1) then
    (f_M_byteAt s a0 a1 a2).bind fun r2 =>
    if sT s (sR s a0 3) = 20 ∧ inA r2 (sN s (sR s a0 3)) then
    some (sI s (sR s a0 3) r2.toNatClampNeg)
    else none
  else
    if r1 = (nI 2) then
      (f_M_pointed s a0 a1).bind fun r3 =>
      (f_M_byteAt s a0 r3 a2).bind fun r4 =>
      if sT s (sR s a0 3) = 20 ∧ inA r4 (sN s (sR s a0 3)) then
      some (sI s (sR s a0 3) r4.toNatClampNeg)
      else none
    else
      l_M_signOf_50 s fuel a0 a2 a1 (nI 0)
  else none
theorem t_M_signOf {s : AS} {a0 : Nat} {a1 : Int32} {a2 : Int32} {o : Int32} (h : f_M_signOf s a0 a1 a2 = some o) : Ev 4 mZ231 0 [.ref a0, .int a1, .int a2, .retAddr 0, .retAddr 0, .retAddr 0] [] s (some (.int o), s) := by
  unfold f_M_signOf at h
  refine gd h (fun g1 h => ?_)
  refine Ev_blk 2 (pc' := 2) (ls' := [.ref a0, .int a1, .int a2, .retAddr 0, .retAddr 0, .retAddr 0]) (st' := [.int a1, .ref a0]) (s' := s) rfl trivial ?_
  refine bd h (fun r1 hr1 h => ?_)
  refine Ev_call 2 211 1 [.ref a0, .int a1] [] rfl rfl rfl rfl g1 rfl rfl (Nat.le_of_ble_eq_true rfl) (t_M_kindAt hr1) ?_
  refine Ev_blk 4 (pc' := if r1 = (nI 1) then 11 else 23) (ls' := [.ref a0, .int a1, .int a2, .int r1, .retAddr 0, .retAddr 0]) (st' := []) (s' := s) rfl trivial ?_
  refine ib h (fun c2 h => ?_) (fun c2 h => ?_)
  · refine Ev_blk 5 (pc' := 18) (ls' := [.ref a0, .int a1, .int a2, .int r1, .retAddr 0, .retAddr 0]) (st' := [.int a2, .int a1, .ref a0, .ref (sR s a0 3)]) (s' := s) rfl ⟨trivial, g1⟩ ?_
    refine bd h (fun r2 hr2 h => ?_)
    refine Ev_call 2 205 2 [.ref a0, .int a1, .int a2] [.ref (sR s a0 3)] rfl rfl rfl rfl g1 rfl rfl (Nat.le_of_ble_eq_true rfl) (t_M_byteAt hr2) ?_
    refine gd h (fun g3 h => ?_)
    refine Ev_blk 1 (pc' := 22) (ls' := [.ref a0, .int a1, .int a2, .int r1, .retAddr 0, .retAddr 0]) (st' := [.int (sI s (sR s a0 3) r2.toNatClampNeg)]) (s' := s) rfl ⟨trivial, ⟨Or.inl g3.1, g3.2⟩⟩ ?_
    cases h
    exact Ev_ret rfl trivial
  · refine Ev_blk 3 (pc' := if r1 = (nI 2) then 28 else 44) (ls' := [.ref a0, .int a1, .int a2, .int r1, .retAddr 0, .retAddr 0]) (st' := []) (s' := s) rfl trivial ?_
    refine ib h (fun c4 h => ?_) (fun c4 h => ?_)
    · refine Ev_blk 5 (pc' := 35) (ls' := [.ref a0, .int a1, .int a2, .int r1, .retAddr 0, .retAddr 0]) (st' := [.int a1, .ref a0, .ref a0, .ref (sR s a0 3)]) (s' := s) rfl ⟨trivial, g1⟩ ?_
      refine bd h (fun r3 hr3 h => ?_)
      refine Ev_call 2 215 1 [.ref a0, .int a1] [.ref a0, .ref (sR s a0 3)] rfl rfl rfl rfl g1 rfl rfl (Nat.le_of_ble_eq_true rfl) (t_M_pointed hr3) ?_
      refine Ev_blk 1 (pc' := 39) (ls' := [.ref a0, .int a1, .int a2, .int r1, .retAddr 0, .retAddr 0]) (st' := [.int a2, .int r3, .ref a0, .ref (sR s a0 3)]) (s' := s) rfl trivial ?_
      refine bd h (fun r4 hr4 h => ?_)
      refine Ev_call 2 205 2 [.ref a0, .int r3, .int a2] [.ref (sR s a0 3)] rfl rfl rfl rfl g1 rfl rfl (Nat.le_of_ble_eq_true rfl) (t_M_byteAt hr4) ?_
      refine gd h (fun g5 h => ?_)
      refine Ev_blk 1 (pc' := 43) (ls' := [.ref a0, .int a1, .int a2, .int r1, .retAddr 0, .retAddr 0]) (st' := [.int (sI s (sR s a0 3) r4.toNatClampNeg)]) (s' := s) rfl ⟨trivial, ⟨Or.inl g5.1, g5.2⟩⟩ ?_
      cases h
      exact Ev_ret rfl trivial
    · refine Ev_blk 4 (pc' := 50) (ls' := [.ref a0, .int a1, .int a2, .int r1, .int a1, .int (nI 0)]) (st' := []) (s' := s) rfl trivial ?_
      exact u_M_signOf_50 h

def b_M_view_26 (k26 : Nat → Int32 → Int32 → AS → Option (Int32 × AS)) (v0 : Nat) (v1 : Int32) (v2 : Int32) (s : AS) : Option (Int32 × AS) :=
  if sT s v0 = 13 then
  if v2 < (sI s v0 46) then
    (f_M_signOf s v0 v1 v2).bind fun r1 =>
    if sT s (sR s v0 45) = 20 ∧ inA v2 (sN s (sR s v0 45)) then
    k26 v0 v1 (v2 + nI 1) (setI s (sR s v0 45) v2.toNatClampNeg r1)
    else none
  else
    some (sI s v0 46, s)
  else none
theorem t_M_view_26 {k26 : Nat → Int32 → Int32 → AS → Option (Int32 × AS)} (H26 : ∀ {v0 : Nat} {v1 : Int32} {v2 : Int32} {s : AS} {o : Int32 × AS}, k26 v0 v1 v2 s = some o → Ev 5 mZ230 26 [.ref v0, .int v1, .int v2] [] s (some (.int o.1), o.2))  {v0 : Nat} {v1 : Int32} {v2 : Int32} {s : AS} {o : Int32 × AS} (h : b_M_view_26 k26 v0 v1 v2 s = some o) : Ev 5 mZ230 26 [.ref v0, .int v1, .int v2] [] s (some (.int o.1), o.2) := by
  unfold b_M_view_26 at h
  refine gd h (fun g1 h => ?_)
  refine Ev_blk 4 (pc' := if v2 < (sI s v0 46) then 34 else 52) (ls' := [.ref v0, .int v1, .int v2]) (st' := []) (s' := s) rfl ⟨trivial, g1⟩ ?_
  refine ib h (fun c2 h => ?_) (fun c2 h => ?_)
  · refine Ev_blk 6 (pc' := 42) (ls' := [.ref v0, .int v1, .int v2]) (st' := [.int v2, .int v1, .ref v0, .int v2, .ref (sR s v0 45)]) (s' := s) rfl ⟨trivial, g1⟩ ?_
    refine bd h (fun r1 hr1 h => ?_)
    refine Ev_call 2 231 2 [.ref v0, .int v1, .int v2] [.int v2, .ref (sR s v0 45)] rfl rfl rfl rfl g1 rfl rfl (Nat.le_of_ble_eq_true rfl) (t_M_signOf hr1) ?_
    refine gd h (fun g3 h => ?_)
    refine Ev_blk 3 (pc' := 26) (ls' := [.ref v0, .int v1, .int (v2 + nI 1)]) (st' := []) (s' := setI s (sR s v0 45) v2.toNatClampNeg r1) rfl ⟨trivial, g3⟩ ?_
    exact H26 h
  · refine Ev_blk 2 (pc' := 56) (ls' := [.ref v0, .int v1, .int v2]) (st' := [.int (sI s v0 46)]) (s' := s) rfl ⟨trivial, g1⟩ ?_
    cases h
    exact Ev_ret rfl trivial
def l_M_view_26  : Nat → Nat → Int32 → Int32 → AS → Option (Int32 × AS)
  | 0 => fun _ _ _ _ => none
  | n + 1 => b_M_view_26  (l_M_view_26  n)
theorem u_M_view_26   {n : Nat} : ∀  {v0 : Nat} {v1 : Int32} {v2 : Int32} {s : AS} {o : Int32 × AS}, l_M_view_26  n v0 v1 v2 s = some o → Ev 5 mZ230 26 [.ref v0, .int v1, .int v2] [] s (some (.int o.1), o.2) := by
  induction n with
  | zero => intros; rename_i h; cases h
  | succ n ih => intros; rename_i h; exact t_M_view_26  (fun h => ih h) h
/-- RecordHeapModel.view(I)I -/
def f_M_view (s : AS) (a0 : Nat) (a1 : Int32) : Option (Int32 × AS) :=
  if sT s a0 = 13 then
  (f_M_isRecord (setI s a0 0 (nI 0)) a0 a1).bind fun r1 =>
  if r1 = (nI 0) then
    some (-(nI 1), setI s a0 0 (nI 0))
  else
    (f_M_lengthOf (setI s a0 0 (nI 0)) a0 a1).bind fun r2 =>
    l_M_view_26 fuel a0 a1 (nI 0) (setI (setI s a0 0 (nI 0)) a0 46 r2)
  else none
theorem t_M_view {s : AS} {a0 : Nat} {a1 : Int32} {o : Int32 × AS} (h : f_M_view s a0 a1 = some o) : Ev 5 mZ230 0 [.ref a0, .int a1, .retAddr 0] [] s (some (.int o.1), o.2) := by
  unfold f_M_view at h
  refine gd h (fun g1 h => ?_)
  refine Ev_blk 5 (pc' := 7) (ls' := [.ref a0, .int a1, .retAddr 0]) (st' := [.int a1, .ref a0]) (s' := setI s a0 0 (nI 0)) rfl ⟨trivial, g1⟩ ?_
  refine bd h (fun r1 hr1 h => ?_)
  refine Ev_call 2 210 1 [.ref a0, .int a1] [] rfl rfl rfl rfl g1 rfl rfl (Nat.le_of_ble_eq_true rfl) (t_M_isRecord hr1) ?_
  refine Ev_blk 1 (pc' := if r1 = (nI 0) then 13 else 15) (ls' := [.ref a0, .int a1, .retAddr 0]) (st' := []) (s' := setI s a0 0 (nI 0)) rfl trivial ?_
  refine ib h (fun c2 h => ?_) (fun c2 h => ?_)
  · refine Ev_blk 1 (pc' := 14) (ls' := [.ref a0, .int a1, .retAddr 0]) (st' := [.int (-(nI 1))]) (s' := setI s a0 0 (nI 0)) rfl trivial ?_
    cases h
    exact Ev_ret rfl trivial
  · refine Ev_blk 3 (pc' := 18) (ls' := [.ref a0, .int a1, .retAddr 0]) (st' := [.int a1, .ref a0, .ref a0]) (s' := setI s a0 0 (nI 0)) rfl trivial ?_
    refine bd h (fun r2 hr2 h => ?_)
    refine Ev_call 2 222 1 [.ref a0, .int a1] [.ref a0] rfl rfl rfl rfl g1 rfl rfl (Nat.le_of_ble_eq_true rfl) (t_M_lengthOf hr2) ?_
    refine Ev_blk 3 (pc' := 26) (ls' := [.ref a0, .int a1, .int (nI 0)]) (st' := []) (s' := setI (setI s a0 0 (nI 0)) a0 46 r2) rfl ⟨trivial, g1⟩ ?_
    exact u_M_view_26 h

/-- RecordHeapModel.sign(I)I -/
def f_M_sign (s : AS) (a0 : Nat) (a1 : Int32) : Option (Int32 × AS) :=
  if sT s a0 = 13 then
  (f_M_in (setI s a0 0 (nI 0)) a1.toInt64 (lN 0) (((sI (setI s a0 0 (nI 0)) a0 46).toInt64) - (lN 1))).bind fun r1 =>
  if r1 = (nI 0) then
    some (-(nI 1), setI s a0 0 (nI 0))
  else
    if sT s (sR s a0 45) = 20 ∧ inA a1 (sN s (sR s a0 45)) then
    some (sI (setI s a0 0 (nI 0)) (sR s a0 45) a1.toNatClampNeg, setI s a0 0 (nI 0))
    else none
  else none
theorem t_M_sign {s : AS} {a0 : Nat} {a1 : Int32} {o : Int32 × AS} (h : f_M_sign s a0 a1 = some o) : Ev 1 mZ232 0 [.ref a0, .int a1] [] s (some (.int o.1), o.2) := by
  unfold f_M_sign at h
  refine gd h (fun g1 h => ?_)
  refine Ev_blk 11 (pc' := 15) (ls' := [.ref a0, .int a1]) (st' := [.long (((sI (setI s a0 0 (nI 0)) a0 46).toInt64) - (lN 1)), .long (lN 0), .long a1.toInt64]) (s' := setI s a0 0 (nI 0)) rfl ⟨⟨trivial, g1⟩, g1⟩ ?_
  refine bd h (fun r1 hr1 h => ?_)
  refine Ev_call 1 145 3 [.long a1.toInt64, .long (lN 0), .long (((sI (setI s a0 0 (nI 0)) a0 46).toInt64) - (lN 1))] [] rfl rfl rfl rfl trivial rfl rfl (Nat.le_of_ble_eq_true rfl) (t_M_in hr1) ?_
  refine Ev_blk 1 (pc' := if r1 = (nI 0) then 30 else 21) (ls' := [.ref a0, .int a1]) (st' := []) (s' := setI s a0 0 (nI 0)) rfl trivial ?_
  refine ib h (fun c2 h => ?_) (fun c2 h => ?_)
  · refine Ev_blk 1 (pc' := 31) (ls' := [.ref a0, .int a1]) (st' := [.int (-(nI 1))]) (s' := setI s a0 0 (nI 0)) rfl trivial ?_
    cases h
    exact Ev_ret rfl trivial
  · refine gd h (fun g3 h => ?_)
    refine Ev_blk 5 (pc' := 31) (ls' := [.ref a0, .int a1]) (st' := [.int (sI (setI s a0 0 (nI 0)) (sR s a0 45) a1.toNatClampNeg)]) (s' := setI s a0 0 (nI 0)) rfl ⟨⟨trivial, g1⟩, ⟨Or.inl g3.1, g3.2⟩⟩ ?_
    cases h
    exact Ev_ret rfl trivial

def b_M_cellsOn_4 (s : AS) (k4 : Nat → Int32 → Int32 → Int32 → Option Int32) (v0 : Nat) (v1 : Int32) (v2 : Int32) (v3 : Int32) : Option Int32 :=
  if sT s v0 = 13 then
  (f_M_pageAt s v1).bind fun r1 =>
  if sT s (sR s v0 3) = 20 ∧ inA (r1 + (nI 0)) (sN s (sR s v0 3)) then
  if v3 < (sI s (sR s v0 3) (r1 + (nI 0)).toNatClampNeg) then
    (f_M_kindOf s v0 v1 v3).bind fun r2 =>
      k4 v0 v1 (v2 + (if r2 = (nI 0) then nI 0 else nI 1)) (v3 + nI 1)
  else
    some v2
  else none
  else none
theorem t_M_cellsOn_4 {s : AS} {k4 : Nat → Int32 → Int32 → Int32 → Option Int32} (H4 : ∀ {v0 : Nat} {v1 : Int32} {v2 : Int32} {v3 : Int32} {o : Int32}, k4 v0 v1 v2 v3 = some o → Ev 3 mZ234 4 [.ref v0, .int v1, .int v2, .int v3] [] s (some (.int o), s))  {v0 : Nat} {v1 : Int32} {v2 : Int32} {v3 : Int32} {o : Int32} (h : b_M_cellsOn_4 s k4 v0 v1 v2 v3 = some o) : Ev 3 mZ234 4 [.ref v0, .int v1, .int v2, .int v3] [] s (some (.int o), s) := by
  unfold b_M_cellsOn_4 at h
  refine gd h (fun g1 h => ?_)
  refine Ev_blk 4 (pc' := 10) (ls' := [.ref v0, .int v1, .int v2, .int v3]) (st' := [.int v1, .ref (sR s v0 3), .int v3]) (s' := s) rfl ⟨trivial, g1⟩ ?_
  refine bd h (fun r1 hr1 h => ?_)
  refine Ev_call 1 140 1 [.int v1] [.ref (sR s v0 3), .int v3] rfl rfl rfl rfl trivial rfl rfl (Nat.le_of_ble_eq_true rfl) (t_M_pageAt hr1) ?_
  refine gd h (fun g2 h => ?_)
  refine Ev_blk 4 (pc' := if v3 < (sI s (sR s v0 3) (r1 + (nI 0)).toNatClampNeg) then 19 else 42) (ls' := [.ref v0, .int v1, .int v2, .int v3]) (st' := []) (s' := s) rfl ⟨trivial, ⟨Or.inl g2.1, g2.2⟩⟩ ?_
  refine ib h (fun c3 h => ?_) (fun c3 h => ?_)
  · refine Ev_blk 4 (pc' := 23) (ls' := [.ref v0, .int v1, .int v2, .int v3]) (st' := [.int v3, .int v1, .ref v0, .int v2]) (s' := s) rfl trivial ?_
    refine bd h (fun r2 hr2 h => ?_)
    refine Ev_call 2 190 2 [.ref v0, .int v1, .int v3] [.int v2] rfl rfl rfl rfl g1 rfl rfl (Nat.le_of_ble_eq_true rfl) (t_M_kindOf hr2) ?_
    refine Ev_blk 1 (pc' := if r2 = (nI 0) then 29 else 33) (ls' := [.ref v0, .int v1, .int v2, .int v3]) (st' := [.int v2]) (s' := s) rfl trivial ?_
    have k4_ : Ev 3 mZ234 34 [.ref v0, .int v1, .int v2, .int v3] [.int (if r2 = (nI 0) then nI 0 else nI 1), .int v2] s (some (.int o), s) := by
      refine Ev_blk 4 (pc' := 4) (ls' := [.ref v0, .int v1, .int (v2 + (if r2 = (nI 0) then nI 0 else nI 1)), .int (v3 + nI 1)]) (st' := []) (s' := s) rfl trivial ?_
      exact H4 h
    refine icases (fun c5 => ?_) (fun c5 => ?_)
    · exact Ev_blk 2 (pc' := 34) (ls' := [.ref v0, .int v1, .int v2, .int v3]) (st' := [.int (nI 0), .int v2]) (s' := s) rfl trivial (by simpa only [if_pos c5] using k4_)
    · exact Ev_blk 1 (pc' := 34) (ls' := [.ref v0, .int v1, .int v2, .int v3]) (st' := [.int (nI 1), .int v2]) (s' := s) rfl trivial (by simpa only [if_neg c5] using k4_)
  · refine Ev_blk 1 (pc' := 43) (ls' := [.ref v0, .int v1, .int v2, .int v3]) (st' := [.int v2]) (s' := s) rfl trivial ?_
    cases h
    exact Ev_ret rfl trivial
def l_M_cellsOn_4 (s : AS)  : Nat → Nat → Int32 → Int32 → Int32 → Option Int32
  | 0 => fun _ _ _ _ => none
  | n + 1 => b_M_cellsOn_4 s  (l_M_cellsOn_4 s  n)
theorem u_M_cellsOn_4 {s : AS}   {n : Nat} : ∀  {v0 : Nat} {v1 : Int32} {v2 : Int32} {v3 : Int32} {o : Int32}, l_M_cellsOn_4 s  n v0 v1 v2 v3 = some o → Ev 3 mZ234 4 [.ref v0, .int v1, .int v2, .int v3] [] s (some (.int o), s) := by
  induction n with
  | zero => intros; rename_i h; cases h
  | succ n ih => intros; rename_i h; exact t_M_cellsOn_4  (fun h => ih h) h
/-- RecordHeapModel.cellsOn(I)I -/
def f_M_cellsOn (s : AS) (a0 : Nat) (a1 : Int32) : Option Int32 :=
  l_M_cellsOn_4 s fuel a0 a1 (nI 0) (nI 0)
theorem t_M_cellsOn {s : AS} {a0 : Nat} {a1 : Int32} {o : Int32} (h : f_M_cellsOn s a0 a1 = some o) : Ev 3 mZ234 0 [.ref a0, .int a1, .retAddr 0, .retAddr 0] [] s (some (.int o), s) := by
  unfold f_M_cellsOn at h
  refine Ev_blk 4 (pc' := 4) (ls' := [.ref a0, .int a1, .int (nI 0), .int (nI 0)]) (st' := []) (s' := s) rfl trivial ?_
  exact u_M_cellsOn_4 h

/-- RecordHeapModel.page(II)I -/
def f_M_page (s : AS) (a0 : Nat) (a1 : Int32) (a2 : Int32) : Option (Int32 × AS) :=
  if sT s a0 = 13 then
  (f_M_isPage (setI s a0 0 (nI 0)) a1).bind fun r1 =>
  if r1 = (nI 0) then
    some (-(nI 1), setI s a0 0 (nI 0))
  else
    if a2 = nI 0 then
      (f_M_pageAt (setI s a0 0 (nI 0)) a1).bind fun r2 =>
      if sT s (sR s a0 3) = 20 ∧ inA (r2 + (nI 0)) (sN s (sR s a0 3)) then
      some (sI (setI s a0 0 (nI 0)) (sR s a0 3) (r2 + (nI 0)).toNatClampNeg, setI s a0 0 (nI 0))
      else none
    else
    if a2 = nI 1 then
      (f_M_cellsOn (setI s a0 0 (nI 0)) a0 a1).bind fun r3 =>
      some (r3, setI s a0 0 (nI 0))
    else
    if a2 = nI 2 then
      (f_M_freeOf (setI s a0 0 (nI 0)) a0 a1).bind fun r4 =>
      some (r4, setI s a0 0 (nI 0))
    else
    if a2 = nI 3 then
      (f_M_gapOf (setI s a0 0 (nI 0)) a0 a1).bind fun r5 =>
      some (r5, setI s a0 0 (nI 0))
    else
    if a2 = nI 4 then
      (f_M_wasteOf (setI s a0 0 (nI 0)) a0 a1).bind fun r6 =>
      some (r6, setI s a0 0 (nI 0))
    else
    if a2 = nI 5 then
      (f_M_pageAt (setI s a0 0 (nI 0)) a1).bind fun r7 =>
      if sT s (sR s a0 3) = 20 ∧ inA (r7 + (nI 1)) (sN s (sR s a0 3)) then
      some (sI (setI s a0 0 (nI 0)) (sR s a0 3) (r7 + (nI 1)).toNatClampNeg, setI s a0 0 (nI 0))
      else none
    else
    some (-(nI 1), setI s a0 0 (nI 0))
  else none
theorem t_M_page {s : AS} {a0 : Nat} {a1 : Int32} {a2 : Int32} {o : Int32 × AS} (h : f_M_page s a0 a1 a2 = some o) : Ev 6 mZ233 0 [.ref a0, .int a1, .int a2] [] s (some (.int o.1), o.2) := by
  unfold f_M_page at h
  refine gd h (fun g1 h => ?_)
  refine Ev_blk 4 (pc' := 6) (ls' := [.ref a0, .int a1, .int a2]) (st' := [.int a1]) (s' := setI s a0 0 (nI 0)) rfl ⟨trivial, g1⟩ ?_
  refine bd h (fun r1 hr1 h => ?_)
  refine Ev_call 1 226 1 [.int a1] [] rfl rfl rfl rfl trivial rfl rfl (Nat.le_of_ble_eq_true rfl) (t_M_isPage hr1) ?_
  refine Ev_blk 1 (pc' := if r1 = (nI 0) then 12 else 14) (ls' := [.ref a0, .int a1, .int a2]) (st' := []) (s' := setI s a0 0 (nI 0)) rfl trivial ?_
  refine ib h (fun c2 h => ?_) (fun c2 h => ?_)
  · refine Ev_blk 1 (pc' := 13) (ls' := [.ref a0, .int a1, .int a2]) (st' := [.int (-(nI 1))]) (s' := setI s a0 0 (nI 0)) rfl trivial ?_
    cases h
    exact Ev_ret rfl trivial
  · refine Ev_blk 2 (pc' := if a2 = nI 0 then 52 else if a2 = nI 1 then 64 else if a2 = nI 2 then 70 else if a2 = nI 3 then 76 else if a2 = nI 4 then 82 else if a2 = nI 5 then 88 else 100) (ls' := [.ref a0, .int a1, .int a2]) (st' := []) (s' := setI s a0 0 (nI 0)) rfl trivial ?_
    refine ib h (fun c3 h => ?_) (fun c3 h => ?_)
    · refine Ev_blk 3 (pc' := 57) (ls' := [.ref a0, .int a1, .int a2]) (st' := [.int a1, .ref (sR s a0 3)]) (s' := setI s a0 0 (nI 0)) rfl ⟨trivial, g1⟩ ?_
      refine bd h (fun r2 hr2 h => ?_)
      refine Ev_call 1 140 1 [.int a1] [.ref (sR s a0 3)] rfl rfl rfl rfl trivial rfl rfl (Nat.le_of_ble_eq_true rfl) (t_M_pageAt hr2) ?_
      refine gd h (fun g4 h => ?_)
      refine Ev_blk 3 (pc' := 63) (ls' := [.ref a0, .int a1, .int a2]) (st' := [.int (sI (setI s a0 0 (nI 0)) (sR s a0 3) (r2 + (nI 0)).toNatClampNeg)]) (s' := setI s a0 0 (nI 0)) rfl ⟨trivial, ⟨Or.inl g4.1, g4.2⟩⟩ ?_
      cases h
      exact Ev_ret rfl trivial
    refine ib h (fun c5 h => ?_) (fun c5 h => ?_)
    · refine Ev_blk 2 (pc' := 66) (ls' := [.ref a0, .int a1, .int a2]) (st' := [.int a1, .ref a0]) (s' := setI s a0 0 (nI 0)) rfl trivial ?_
      refine bd h (fun r3 hr3 h => ?_)
      refine Ev_call 2 234 1 [.ref a0, .int a1] [] rfl rfl rfl rfl g1 rfl rfl (Nat.le_of_ble_eq_true rfl) (t_M_cellsOn hr3) ?_
      cases h
      exact Ev_ret rfl trivial
    refine ib h (fun c6 h => ?_) (fun c6 h => ?_)
    · refine Ev_blk 2 (pc' := 72) (ls' := [.ref a0, .int a1, .int a2]) (st' := [.int a1, .ref a0]) (s' := setI s a0 0 (nI 0)) rfl trivial ?_
      refine bd h (fun r4 hr4 h => ?_)
      refine Ev_call 2 194 1 [.ref a0, .int a1] [] rfl rfl rfl rfl g1 rfl rfl (Nat.le_of_ble_eq_true rfl) (t_M_freeOf hr4) ?_
      cases h
      exact Ev_ret rfl trivial
    refine ib h (fun c7 h => ?_) (fun c7 h => ?_)
    · refine Ev_blk 2 (pc' := 78) (ls' := [.ref a0, .int a1, .int a2]) (st' := [.int a1, .ref a0]) (s' := setI s a0 0 (nI 0)) rfl trivial ?_
      refine bd h (fun r5 hr5 h => ?_)
      refine Ev_call 2 199 1 [.ref a0, .int a1] [] rfl rfl rfl rfl g1 rfl rfl (Nat.le_of_ble_eq_true rfl) (t_M_gapOf hr5) ?_
      cases h
      exact Ev_ret rfl trivial
    refine ib h (fun c8 h => ?_) (fun c8 h => ?_)
    · refine Ev_blk 2 (pc' := 84) (ls' := [.ref a0, .int a1, .int a2]) (st' := [.int a1, .ref a0]) (s' := setI s a0 0 (nI 0)) rfl trivial ?_
      refine bd h (fun r6 hr6 h => ?_)
      refine Ev_call 2 227 1 [.ref a0, .int a1] [] rfl rfl rfl rfl g1 rfl rfl (Nat.le_of_ble_eq_true rfl) (t_M_wasteOf hr6) ?_
      cases h
      exact Ev_ret rfl trivial
    refine ib h (fun c9 h => ?_) (fun c9 h => ?_)
    · refine Ev_blk 3 (pc' := 93) (ls' := [.ref a0, .int a1, .int a2]) (st' := [.int a1, .ref (sR s a0 3)]) (s' := setI s a0 0 (nI 0)) rfl ⟨trivial, g1⟩ ?_
      refine bd h (fun r7 hr7 h => ?_)
      refine Ev_call 1 140 1 [.int a1] [.ref (sR s a0 3)] rfl rfl rfl rfl trivial rfl rfl (Nat.le_of_ble_eq_true rfl) (t_M_pageAt hr7) ?_
      refine gd h (fun g10 h => ?_)
      refine Ev_blk 3 (pc' := 99) (ls' := [.ref a0, .int a1, .int a2]) (st' := [.int (sI (setI s a0 0 (nI 0)) (sR s a0 3) (r7 + (nI 1)).toNatClampNeg)]) (s' := setI s a0 0 (nI 0)) rfl ⟨trivial, ⟨Or.inl g10.1, g10.2⟩⟩ ?_
      cases h
      exact Ev_ret rfl trivial
    refine Ev_blk 1 (pc' := 101) (ls' := [.ref a0, .int a1, .int a2]) (st' := [.int (-(nI 1))]) (s' := setI s a0 0 (nI 0)) rfl trivial ?_
    cases h
    exact Ev_ret rfl trivial

def b_M_slot_54  (v3 : Int32) (v4 : Int32) (s : AS) : Option (Int32 × AS) :=
    some ((if v3 = (nI 0) then v4 else -(nI 1)), s)
theorem t_M_slot_54   {d0 d1 d2 d5 : Value} {v3 : Int32} {v4 : Int32} {s : AS} {o : Int32 × AS} (h : b_M_slot_54  v3 v4 s = some o) : Ev 3 mZ235 54 [d0, d1, d2, .int v3, .int v4, d5] [] s (some (.int o.1), o.2) := by
  unfold b_M_slot_54 at h
  refine Ev_blk 2 (pc' := if v3 = (nI 0) then 58 else 63) (ls' := [d0, d1, d2, .int v3, .int v4, d5]) (st' := []) (s' := s) rfl trivial ?_
  have k1_ : Ev 3 mZ235 64 [d0, d1, d2, .int v3, .int v4, d5] [.int (if v3 = (nI 0) then v4 else -(nI 1))] s (some (.int o.1), o.2) := by
    cases h
    exact Ev_ret rfl trivial
  refine icases (fun c2 => ?_) (fun c2 => ?_)
  · exact Ev_blk 2 (pc' := 64) (ls' := [d0, d1, d2, .int v3, .int v4, d5]) (st' := [.int v4]) (s' := s) rfl trivial (by simpa only [if_pos c2] using k1_)
  · exact Ev_blk 1 (pc' := 64) (ls' := [d0, d1, d2, .int v3, .int v4, d5]) (st' := [.int (-(nI 1))]) (s' := s) rfl trivial (by simpa only [if_neg c2] using k1_)
def b_M_slot_89  (v0 : Nat) (v1 : Int32) (v2 : Int32) (v3 : Int32) (v5 : Int32) (s : AS) : Option (Int32 × AS) :=
  if v3 = (nI 2) then
    some (v5, s)
  else
    if sT s v0 = 13 then
    (f_M_slotAt s v1 v2).bind fun r1 =>
    if sT s (sR s v0 3) = 20 ∧ inA (r1 + (nI 1)) (sN s (sR s v0 3)) then
    some (sI s (sR s v0 3) (r1 + (nI 1)).toNatClampNeg, s)
    else none
    else none
theorem t_M_slot_89   {d4 : Value} {v0 : Nat} {v1 : Int32} {v2 : Int32} {v3 : Int32} {v5 : Int32} {s : AS} {o : Int32 × AS} (h : b_M_slot_89  v0 v1 v2 v3 v5 s = some o) : Ev 3 mZ235 89 [.ref v0, .int v1, .int v2, .int v3, d4, .int v5] [] s (some (.int o.1), o.2) := by
  unfold b_M_slot_89 at h
  refine Ev_blk 3 (pc' := if v3 = (nI 2) then 94 else 99) (ls' := [.ref v0, .int v1, .int v2, .int v3, d4, .int v5]) (st' := []) (s' := s) rfl trivial ?_
  refine ib h (fun c1 h => ?_) (fun c1 h => ?_)
  · refine Ev_blk 2 (pc' := 111) (ls' := [.ref v0, .int v1, .int v2, .int v3, d4, .int v5]) (st' := [.int v5]) (s' := s) rfl trivial ?_
    cases h
    exact Ev_ret rfl trivial
  · refine gd h (fun g2 h => ?_)
    refine Ev_blk 4 (pc' := 105) (ls' := [.ref v0, .int v1, .int v2, .int v3, d4, .int v5]) (st' := [.int v2, .int v1, .ref (sR s v0 3)]) (s' := s) rfl ⟨trivial, g2⟩ ?_
    refine bd h (fun r1 hr1 h => ?_)
    refine Ev_call 1 191 2 [.int v1, .int v2] [.ref (sR s v0 3)] rfl rfl rfl rfl trivial rfl rfl (Nat.le_of_ble_eq_true rfl) (t_M_slotAt hr1) ?_
    refine gd h (fun g3 h => ?_)
    refine Ev_blk 3 (pc' := 111) (ls' := [.ref v0, .int v1, .int v2, .int v3, d4, .int v5]) (st' := [.int (sI s (sR s v0 3) (r1 + (nI 1)).toNatClampNeg)]) (s' := s) rfl ⟨trivial, ⟨Or.inl g3.1, g3.2⟩⟩ ?_
    cases h
    exact Ev_ret rfl trivial
/-- RecordHeapModel.slot(III)I -/
def f_M_slot (s : AS) (a0 : Nat) (a1 : Int32) (a2 : Int32) (a3 : Int32) : Option (Int32 × AS) :=
  if sT s a0 = 13 then
  (f_M_isPage (setI s a0 0 (nI 0)) a1).bind fun r1 =>
  if r1 = (nI 0) then
    some (-(nI 1), setI s a0 0 (nI 0))
  else
    (f_M_pageAt (setI s a0 0 (nI 0)) a1).bind fun r2 =>
    if sT s (sR s a0 3) = 20 ∧ inA (r2 + (nI 0)) (sN s (sR s a0 3)) then
    (f_M_in (setI s a0 0 (nI 0)) a2.toInt64 (lN 0) (((sI (setI s a0 0 (nI 0)) (sR s a0 3) (r2 + (nI 0)).toNatClampNeg).toInt64) - (lN 1))).bind fun r3 =>
    if r3 = (nI 0) then
      some (-(nI 1), setI s a0 0 (nI 0))
    else
      (f_M_kindOf (setI s a0 0 (nI 0)) a0 a1 a2).bind fun r4 =>
      if a3 = (nI 0) then
        b_M_slot_54 a3 r4 (setI s a0 0 (nI 0))
      else
        if r4 = (nI 0) then
          b_M_slot_54 a3 r4 (setI s a0 0 (nI 0))
        else
          (f_M_slotAt (setI s a0 0 (nI 0)) a1 a2).bind fun r5 =>
          if sT s (sR s a0 3) = 20 ∧ inA (r5 + (nI 2)) (sN s (sR s a0 3)) then
          if a3 = (nI 1) then
            b_M_slot_89 a0 a1 a2 a3 (sI (setI s a0 0 (nI 0)) (sR s a0 3) (r5 + (nI 2)).toNatClampNeg) (setI s a0 0 (nI 0))
          else
            if a3 = (nI 2) then
              b_M_slot_89 a0 a1 a2 a3 (sI (setI s a0 0 (nI 0)) (sR s a0 3) (r5 + (nI 2)).toNatClampNeg) (setI s a0 0 (nI 0))
            else
              (f_M_in (setI s a0 0 (nI 0)) a3.toInt64 (lN 3) ((lN 2) + ((sI (setI s a0 0 (nI 0)) (sR s a0 3) (r5 + (nI 2)).toNatClampNeg).toInt64))).bind fun r6 =>
              if r6 = (nI 0) then
                some (-(nI 1), setI s a0 0 (nI 0))
              else
                (f_M_byteAt (setI s a0 0 (nI 0)) a0 (((nI 16) * a1) + a2) (a3 - (nI 3))).bind fun r7 =>
                if sT s (sR s a0 3) = 20 ∧ inA r7 (sN s (sR s a0 3)) then
                some (sI (setI s a0 0 (nI 0)) (sR s a0 3) r7.toNatClampNeg, setI s a0 0 (nI 0))
                else none
          else none
    else none
  else none
theorem t_M_slot {s : AS} {a0 : Nat} {a1 : Int32} {a2 : Int32} {a3 : Int32} {o : Int32 × AS} (h : f_M_slot s a0 a1 a2 a3 = some o) : Ev 3 mZ235 0 [.ref a0, .int a1, .int a2, .int a3, .retAddr 0, .retAddr 0] [] s (some (.int o.1), o.2) := by
  unfold f_M_slot at h
  refine gd h (fun g1 h => ?_)
  refine Ev_blk 4 (pc' := 6) (ls' := [.ref a0, .int a1, .int a2, .int a3, .retAddr 0, .retAddr 0]) (st' := [.int a1]) (s' := setI s a0 0 (nI 0)) rfl ⟨trivial, g1⟩ ?_
  refine bd h (fun r1 hr1 h => ?_)
  refine Ev_call 1 226 1 [.int a1] [] rfl rfl rfl rfl trivial rfl rfl (Nat.le_of_ble_eq_true rfl) (t_M_isPage hr1) ?_
  refine Ev_blk 1 (pc' := if r1 = (nI 0) then 35 else 12) (ls' := [.ref a0, .int a1, .int a2, .int a3, .retAddr 0, .retAddr 0]) (st' := []) (s' := setI s a0 0 (nI 0)) rfl trivial ?_
  refine ib h (fun c2 h => ?_) (fun c2 h => ?_)
  · refine Ev_blk 1 (pc' := 36) (ls' := [.ref a0, .int a1, .int a2, .int a3, .retAddr 0, .retAddr 0]) (st' := [.int (-(nI 1))]) (s' := setI s a0 0 (nI 0)) rfl trivial ?_
    cases h
    exact Ev_ret rfl trivial
  · refine Ev_blk 6 (pc' := 20) (ls' := [.ref a0, .int a1, .int a2, .int a3, .retAddr 0, .retAddr 0]) (st' := [.int a1, .ref (sR s a0 3), .long (lN 0), .long a2.toInt64]) (s' := setI s a0 0 (nI 0)) rfl ⟨trivial, g1⟩ ?_
    refine bd h (fun r2 hr2 h => ?_)
    refine Ev_call 1 140 1 [.int a1] [.ref (sR s a0 3), .long (lN 0), .long a2.toInt64] rfl rfl rfl rfl trivial rfl rfl (Nat.le_of_ble_eq_true rfl) (t_M_pageAt hr2) ?_
    refine gd h (fun g3 h => ?_)
    refine Ev_blk 6 (pc' := 29) (ls' := [.ref a0, .int a1, .int a2, .int a3, .retAddr 0, .retAddr 0]) (st' := [.long (((sI (setI s a0 0 (nI 0)) (sR s a0 3) (r2 + (nI 0)).toNatClampNeg).toInt64) - (lN 1)), .long (lN 0), .long a2.toInt64]) (s' := setI s a0 0 (nI 0)) rfl ⟨trivial, ⟨Or.inl g3.1, g3.2⟩⟩ ?_
    refine bd h (fun r3 hr3 h => ?_)
    refine Ev_call 1 145 3 [.long a2.toInt64, .long (lN 0), .long (((sI (setI s a0 0 (nI 0)) (sR s a0 3) (r2 + (nI 0)).toNatClampNeg).toInt64) - (lN 1))] [] rfl rfl rfl rfl trivial rfl rfl (Nat.le_of_ble_eq_true rfl) (t_M_in hr3) ?_
    refine Ev_blk 1 (pc' := if r3 = (nI 0) then 35 else 37) (ls' := [.ref a0, .int a1, .int a2, .int a3, .retAddr 0, .retAddr 0]) (st' := []) (s' := setI s a0 0 (nI 0)) rfl trivial ?_
    refine ib h (fun c4 h => ?_) (fun c4 h => ?_)
    · refine Ev_blk 1 (pc' := 36) (ls' := [.ref a0, .int a1, .int a2, .int a3, .retAddr 0, .retAddr 0]) (st' := [.int (-(nI 1))]) (s' := setI s a0 0 (nI 0)) rfl trivial ?_
      cases h
      exact Ev_ret rfl trivial
    · refine Ev_blk 3 (pc' := 40) (ls' := [.ref a0, .int a1, .int a2, .int a3, .retAddr 0, .retAddr 0]) (st' := [.int a2, .int a1, .ref a0]) (s' := setI s a0 0 (nI 0)) rfl trivial ?_
      refine bd h (fun r4 hr4 h => ?_)
      refine Ev_call 2 190 2 [.ref a0, .int a1, .int a2] [] rfl rfl rfl rfl g1 rfl rfl (Nat.le_of_ble_eq_true rfl) (t_M_kindOf hr4) ?_
      refine Ev_blk 3 (pc' := if a3 = (nI 0) then 54 else 49) (ls' := [.ref a0, .int a1, .int a2, .int a3, .int r4, .retAddr 0]) (st' := []) (s' := setI s a0 0 (nI 0)) rfl trivial ?_
      refine ib h (fun c5 h => ?_) (fun c5 h => ?_)
      · exact t_M_slot_54 h
      · refine Ev_blk 2 (pc' := if r4 = (nI 0) then 54 else 65) (ls' := [.ref a0, .int a1, .int a2, .int a3, .int r4, .retAddr 0]) (st' := []) (s' := setI s a0 0 (nI 0)) rfl trivial ?_
        refine ib h (fun c6 h => ?_) (fun c6 h => ?_)
        · exact t_M_slot_54 h
        · refine Ev_blk 4 (pc' := 71) (ls' := [.ref a0, .int a1, .int a2, .int a3, .int r4, .retAddr 0]) (st' := [.int a2, .int a1, .ref (sR s a0 3)]) (s' := setI s a0 0 (nI 0)) rfl ⟨trivial, g1⟩ ?_
          refine bd h (fun r5 hr5 h => ?_)
          refine Ev_call 1 191 2 [.int a1, .int a2] [.ref (sR s a0 3)] rfl rfl rfl rfl trivial rfl rfl (Nat.le_of_ble_eq_true rfl) (t_M_slotAt hr5) ?_
          refine gd h (fun g7 h => ?_)
          refine Ev_blk 7 (pc' := if a3 = (nI 1) then 89 else 84) (ls' := [.ref a0, .int a1, .int a2, .int a3, .int r4, .int (sI (setI s a0 0 (nI 0)) (sR s a0 3) (r5 + (nI 2)).toNatClampNeg)]) (st' := []) (s' := setI s a0 0 (nI 0)) rfl ⟨trivial, ⟨Or.inl g7.1, g7.2⟩⟩ ?_
          refine ib h (fun c8 h => ?_) (fun c8 h => ?_)
          · exact t_M_slot_89 h
          · refine Ev_blk 3 (pc' := if a3 = (nI 2) then 89 else 112) (ls' := [.ref a0, .int a1, .int a2, .int a3, .int r4, .int (sI (setI s a0 0 (nI 0)) (sR s a0 3) (r5 + (nI 2)).toNatClampNeg)]) (st' := []) (s' := setI s a0 0 (nI 0)) rfl trivial ?_
            refine ib h (fun c9 h => ?_) (fun c9 h => ?_)
            · exact t_M_slot_89 h
            · refine Ev_blk 7 (pc' := 124) (ls' := [.ref a0, .int a1, .int a2, .int a3, .int r4, .int (sI (setI s a0 0 (nI 0)) (sR s a0 3) (r5 + (nI 2)).toNatClampNeg)]) (st' := [.long ((lN 2) + ((sI (setI s a0 0 (nI 0)) (sR s a0 3) (r5 + (nI 2)).toNatClampNeg).toInt64)), .long (lN 3), .long a3.toInt64]) (s' := setI s a0 0 (nI 0)) rfl trivial ?_
              refine bd h (fun r6 hr6 h => ?_)
              refine Ev_call 1 145 3 [.long a3.toInt64, .long (lN 3), .long ((lN 2) + ((sI (setI s a0 0 (nI 0)) (sR s a0 3) (r5 + (nI 2)).toNatClampNeg).toInt64))] [] rfl rfl rfl rfl trivial rfl rfl (Nat.le_of_ble_eq_true rfl) (t_M_in hr6) ?_
              refine Ev_blk 1 (pc' := if r6 = (nI 0) then 151 else 130) (ls' := [.ref a0, .int a1, .int a2, .int a3, .int r4, .int (sI (setI s a0 0 (nI 0)) (sR s a0 3) (r5 + (nI 2)).toNatClampNeg)]) (st' := []) (s' := setI s a0 0 (nI 0)) rfl trivial ?_
              refine ib h (fun c10 h => ?_) (fun c10 h => ?_)
              · refine Ev_blk 1 (pc' := 152) (ls' := [.ref a0, .int a1, .int a2, .int a3, .int r4, .int (sI (setI s a0 0 (nI 0)) (sR s a0 3) (r5 + (nI 2)).toNatClampNeg)]) (st' := [.int (-(nI 1))]) (s' := setI s a0 0 (nI 0)) rfl trivial ?_
                cases h
                exact Ev_ret rfl trivial
              · refine Ev_blk 11 (pc' := 144) (ls' := [.ref a0, .int a1, .int a2, .int a3, .int r4, .int (sI (setI s a0 0 (nI 0)) (sR s a0 3) (r5 + (nI 2)).toNatClampNeg)]) (st' := [.int (a3 - (nI 3)), .int (((nI 16) * a1) + a2), .ref a0, .ref (sR s a0 3)]) (s' := setI s a0 0 (nI 0)) rfl ⟨trivial, g1⟩ ?_
                refine bd h (fun r7 hr7 h => ?_)
                refine Ev_call 2 205 2 [.ref a0, .int (((nI 16) * a1) + a2), .int (a3 - (nI 3))] [.ref (sR s a0 3)] rfl rfl rfl rfl g1 rfl rfl (Nat.le_of_ble_eq_true rfl) (t_M_byteAt hr7) ?_
                refine gd h (fun g11 h => ?_)
                refine Ev_blk 2 (pc' := 152) (ls' := [.ref a0, .int a1, .int a2, .int a3, .int r4, .int (sI (setI s a0 0 (nI 0)) (sR s a0 3) (r5 + (nI 2)).toNatClampNeg)]) (st' := [.int (sI (setI s a0 0 (nI 0)) (sR s a0 3) r7.toNatClampNeg)]) (s' := setI s a0 0 (nI 0)) rfl ⟨trivial, ⟨Or.inl g11.1, g11.2⟩⟩ ?_
                cases h
                exact Ev_ret rfl trivial

def b_M_map_48 (k48 : Nat → Int32 → Int32 → Int32 → AS → Option (Int32 × AS)) (v0 : Nat) (v3 : Int32) (v4 : Int32) (v5 : Int32) (s : AS) : Option (Int32 × AS) :=
  if v3 < v5 then
    some (v4, s)
  else
    if sT s v0 = 13 then
    (f_M_pageAt s (v5 - (nI 8))).bind fun r1 =>
    if sT s (sR s v0 3) = 20 ∧ inA (r1 + (nI 1)) (sN s (sR s v0 3)) then
      k48 v0 v3 (if v4 < (sI s (sR s v0 3) (r1 + (nI 1)).toNatClampNeg) then sI s (sR s v0 3) (r1 + (nI 1)).toNatClampNeg else v4) (v5 + nI 1) s
    else none
    else none
theorem t_M_map_48 {k48 : Nat → Int32 → Int32 → Int32 → AS → Option (Int32 × AS)} (H48 : ∀ {d1 d2 d6 : Value} {v0 : Nat} {v3 : Int32} {v4 : Int32} {v5 : Int32} {s : AS} {o : Int32 × AS}, k48 v0 v3 v4 v5 s = some o → Ev 1 mZ236 48 [.ref v0, d1, d2, .int v3, .int v4, .int v5, d6] [] s (some (.int o.1), o.2)) {d1 d2 d6 : Value} {v0 : Nat} {v3 : Int32} {v4 : Int32} {v5 : Int32} {s : AS} {o : Int32 × AS} (h : b_M_map_48 k48 v0 v3 v4 v5 s = some o) : Ev 1 mZ236 48 [.ref v0, d1, d2, .int v3, .int v4, .int v5, d6] [] s (some (.int o.1), o.2) := by
  unfold b_M_map_48 at h
  refine Ev_blk 3 (pc' := if v3 < v5 then 93 else 54) (ls' := [.ref v0, d1, d2, .int v3, .int v4, .int v5, d6]) (st' := []) (s' := s) rfl trivial ?_
  refine ib h (fun c1 h => ?_) (fun c1 h => ?_)
  · refine Ev_blk 1 (pc' := 95) (ls' := [.ref v0, d1, d2, .int v3, .int v4, .int v5, d6]) (st' := [.int v4]) (s' := s) rfl trivial ?_
    cases h
    exact Ev_ret rfl trivial
  · refine gd h (fun g2 h => ?_)
    refine Ev_blk 5 (pc' := 63) (ls' := [.ref v0, d1, d2, .int v3, .int v4, .int v5, d6]) (st' := [.int (v5 - (nI 8)), .ref (sR s v0 3)]) (s' := s) rfl ⟨trivial, g2⟩ ?_
    refine bd h (fun r1 hr1 h => ?_)
    refine Ev_call 1 140 1 [.int (v5 - (nI 8))] [.ref (sR s v0 3)] rfl rfl rfl rfl trivial rfl rfl (Nat.le_of_ble_eq_true rfl) (t_M_pageAt hr1) ?_
    refine gd h (fun g3 h => ?_)
    refine Ev_blk 7 (pc' := if v4 < (sI s (sR s v0 3) (r1 + (nI 1)).toNatClampNeg) then 78 else 83) (ls' := [.ref v0, d1, d2, .int v3, .int v4, .int v5, .int (sI s (sR s v0 3) (r1 + (nI 1)).toNatClampNeg)]) (st' := []) (s' := s) rfl ⟨trivial, ⟨Or.inl g3.1, g3.2⟩⟩ ?_
    have k4_ : Ev 1 mZ236 85 [.ref v0, d1, d2, .int v3, .int v4, .int v5, .int (sI s (sR s v0 3) (r1 + (nI 1)).toNatClampNeg)] [.int (if v4 < (sI s (sR s v0 3) (r1 + (nI 1)).toNatClampNeg) then sI s (sR s v0 3) (r1 + (nI 1)).toNatClampNeg else v4)] s (some (.int o.1), o.2) := by
      refine Ev_blk 3 (pc' := 48) (ls' := [.ref v0, d1, d2, .int v3, .int (if v4 < (sI s (sR s v0 3) (r1 + (nI 1)).toNatClampNeg) then sI s (sR s v0 3) (r1 + (nI 1)).toNatClampNeg else v4), .int (v5 + nI 1), .int (sI s (sR s v0 3) (r1 + (nI 1)).toNatClampNeg)]) (st' := []) (s' := s) rfl trivial ?_
      exact H48 h
    refine icases (fun c5 => ?_) (fun c5 => ?_)
    · exact Ev_blk 2 (pc' := 85) (ls' := [.ref v0, d1, d2, .int v3, .int v4, .int v5, .int (sI s (sR s v0 3) (r1 + (nI 1)).toNatClampNeg)]) (st' := [.int (sI s (sR s v0 3) (r1 + (nI 1)).toNatClampNeg)]) (s' := s) rfl trivial (by simpa only [if_pos c5] using k4_)
    · exact Ev_blk 1 (pc' := 85) (ls' := [.ref v0, d1, d2, .int v3, .int v4, .int v5, .int (sI s (sR s v0 3) (r1 + (nI 1)).toNatClampNeg)]) (st' := [.int v4]) (s' := s) rfl trivial (by simpa only [if_neg c5] using k4_)
def l_M_map_48  : Nat → Nat → Int32 → Int32 → Int32 → AS → Option (Int32 × AS)
  | 0 => fun _ _ _ _ _ => none
  | n + 1 => b_M_map_48  (l_M_map_48  n)
theorem u_M_map_48   {n : Nat} : ∀ {d1 d2 d6 : Value} {v0 : Nat} {v3 : Int32} {v4 : Int32} {v5 : Int32} {s : AS} {o : Int32 × AS}, l_M_map_48  n v0 v3 v4 v5 s = some o → Ev 1 mZ236 48 [.ref v0, d1, d2, .int v3, .int v4, .int v5, d6] [] s (some (.int o.1), o.2) := by
  induction n with
  | zero => intros; rename_i h; cases h
  | succ n ih => intros; rename_i h; exact t_M_map_48  (fun h => ih h) h
def b_M_map_23 (k23 : Nat → Int32 → Int32 → AS → Option (Int32 × AS)) (v0 : Nat) (v2 : Int32) (v3 : Int32) (s : AS) : Option (Int32 × AS) :=
  if v2 < (nI 8) then
    k23 v0 ((nI 2) * v2) (((nI 2) * v3) + (nI 1)) s
  else
    l_M_map_48 fuel v0 v3 (nI 0) v2 s
theorem t_M_map_23 {k23 : Nat → Int32 → Int32 → AS → Option (Int32 × AS)} (H23 : ∀ {d1 d4 d5 d6 : Value} {v0 : Nat} {v2 : Int32} {v3 : Int32} {s : AS} {o : Int32 × AS}, k23 v0 v2 v3 s = some o → Ev 1 mZ236 23 [.ref v0, d1, .int v2, .int v3, d4, d5, d6] [] s (some (.int o.1), o.2)) {d1 d4 d5 d6 : Value} {v0 : Nat} {v2 : Int32} {v3 : Int32} {s : AS} {o : Int32 × AS} (h : b_M_map_23 k23 v0 v2 v3 s = some o) : Ev 1 mZ236 23 [.ref v0, d1, .int v2, .int v3, d4, d5, d6] [] s (some (.int o.1), o.2) := by
  unfold b_M_map_23 at h
  refine Ev_blk 3 (pc' := if v2 < (nI 8) then 29 else 42) (ls' := [.ref v0, d1, .int v2, .int v3, d4, d5, d6]) (st' := []) (s' := s) rfl trivial ?_
  refine ib h (fun c1 h => ?_) (fun c1 h => ?_)
  · refine Ev_blk 11 (pc' := 23) (ls' := [.ref v0, (clrV d1), .int ((nI 2) * v2), .int (((nI 2) * v3) + (nI 1)), d4, d5, d6]) (st' := []) (s' := s) rfl trivial ?_
    exact H23 h
  · refine Ev_blk 4 (pc' := 48) (ls' := [.ref v0, d1, .int v2, .int v3, .int (nI 0), .int v2, d6]) (st' := []) (s' := s) rfl trivial ?_
    exact u_M_map_48 h
def l_M_map_23  : Nat → Nat → Int32 → Int32 → AS → Option (Int32 × AS)
  | 0 => fun _ _ _ _ => none
  | n + 1 => b_M_map_23  (l_M_map_23  n)
theorem u_M_map_23   {n : Nat} : ∀ {d1 d4 d5 d6 : Value} {v0 : Nat} {v2 : Int32} {v3 : Int32} {s : AS} {o : Int32 × AS}, l_M_map_23  n v0 v2 v3 s = some o → Ev 1 mZ236 23 [.ref v0, d1, .int v2, .int v3, d4, d5, d6] [] s (some (.int o.1), o.2) := by
  induction n with
  | zero => intros; rename_i h; cases h
  | succ n ih => intros; rename_i h; exact t_M_map_23  (fun h => ih h) h
/-- RecordHeapModel.map(I)I -/
def f_M_map (s : AS) (a0 : Nat) (a1 : Int32) : Option (Int32 × AS) :=
  if sT s a0 = 13 then
  (f_M_in (setI s a0 0 (nI 0)) a1.toInt64 (lN 1) (lN 15)).bind fun r1 =>
  if r1 = (nI 0) then
    some (-(nI 1), setI s a0 0 (nI 0))
  else
    l_M_map_23 fuel a0 a1 a1 (setI s a0 0 (nI 0))
  else none
theorem t_M_map {s : AS} {a0 : Nat} {a1 : Int32} {o : Int32 × AS} (h : f_M_map s a0 a1 = some o) : Ev 1 mZ236 0 [.ref a0, .int a1, .retAddr 0, .retAddr 0, .retAddr 0, .retAddr 0, .retAddr 0] [] s (some (.int o.1), o.2) := by
  unfold f_M_map at h
  refine gd h (fun g1 h => ?_)
  refine Ev_blk 7 (pc' := 11) (ls' := [.ref a0, .int a1, .retAddr 0, .retAddr 0, .retAddr 0, .retAddr 0, .retAddr 0]) (st' := [.long (lN 15), .long (lN 1), .long a1.toInt64]) (s' := setI s a0 0 (nI 0)) rfl ⟨trivial, g1⟩ ?_
  refine bd h (fun r1 hr1 h => ?_)
  refine Ev_call 1 145 3 [.long a1.toInt64, .long (lN 1), .long (lN 15)] [] rfl rfl rfl rfl trivial rfl rfl (Nat.le_of_ble_eq_true rfl) (t_M_in hr1) ?_
  refine Ev_blk 1 (pc' := if r1 = (nI 0) then 17 else 19) (ls' := [.ref a0, .int a1, .retAddr 0, .retAddr 0, .retAddr 0, .retAddr 0, .retAddr 0]) (st' := []) (s' := setI s a0 0 (nI 0)) rfl trivial ?_
  refine ib h (fun c2 h => ?_) (fun c2 h => ?_)
  · refine Ev_blk 1 (pc' := 18) (ls' := [.ref a0, .int a1, .retAddr 0, .retAddr 0, .retAddr 0, .retAddr 0, .retAddr 0]) (st' := [.int (-(nI 1))]) (s' := setI s a0 0 (nI 0)) rfl trivial ?_
    cases h
    exact Ev_ret rfl trivial
  · refine Ev_blk 4 (pc' := 23) (ls' := [.ref a0, .int a1, .int a1, .int a1, .retAddr 0, .retAddr 0, .retAddr 0]) (st' := []) (s' := setI s a0 0 (nI 0)) rfl trivial ?_
    exact u_M_map_23 h

/-- RecordHeapModel.search(I)I -/
def f_M_search (s : AS) (a0 : Nat) (a1 : Int32) : Option (Int32 × AS) :=
  if sT s a0 = 13 then
  (f_M_in (setI s a0 0 (nI 0)) a1.toInt64 (lN 0) (lN 40)).bind fun r1 =>
  if r1 = (nI 0) then
    some (-(nI 1), setI s a0 0 (nI 0))
  else
    (f_M_searchFor (setI s a0 0 (nI 0)) a0 a1).bind fun r2 =>
    some (r2.1, r2.2)
  else none
theorem t_M_search {s : AS} {a0 : Nat} {a1 : Int32} {o : Int32 × AS} (h : f_M_search s a0 a1 = some o) : Ev 8 mZ237 0 [.ref a0, .int a1] [] s (some (.int o.1), o.2) := by
  unfold f_M_search at h
  refine gd h (fun g1 h => ?_)
  refine Ev_blk 7 (pc' := 11) (ls' := [.ref a0, .int a1]) (st' := [.long (lN 40), .long (lN 0), .long a1.toInt64]) (s' := setI s a0 0 (nI 0)) rfl ⟨trivial, g1⟩ ?_
  refine bd h (fun r1 hr1 h => ?_)
  refine Ev_call 1 145 3 [.long a1.toInt64, .long (lN 0), .long (lN 40)] [] rfl rfl rfl rfl trivial rfl rfl (Nat.le_of_ble_eq_true rfl) (t_M_in hr1) ?_
  refine Ev_blk 1 (pc' := if r1 = (nI 0) then 25 else 17) (ls' := [.ref a0, .int a1]) (st' := []) (s' := setI s a0 0 (nI 0)) rfl trivial ?_
  refine ib h (fun c2 h => ?_) (fun c2 h => ?_)
  · refine Ev_blk 1 (pc' := 26) (ls' := [.ref a0, .int a1]) (st' := [.int (-(nI 1))]) (s' := setI s a0 0 (nI 0)) rfl trivial ?_
    cases h
    exact Ev_ret rfl trivial
  · refine Ev_blk 2 (pc' := 19) (ls' := [.ref a0, .int a1]) (st' := [.int a1, .ref a0]) (s' := setI s a0 0 (nI 0)) rfl trivial ?_
    refine bd h (fun r2 hr2 h => ?_)
    refine Ev_call 2 188 1 [.ref a0, .int a1] [] rfl rfl rfl rfl g1 rfl rfl (Nat.le_of_ble_eq_true rfl) (t_M_searchFor hr2) ?_
    refine Ev_blk 1 (pc' := 26) (ls' := [.ref a0, .int a1]) (st' := [.int r2.1]) (s' := r2.2) rfl trivial ?_
    cases h
    exact Ev_ret rfl trivial

/-- RecordHeapModel.compare(II)I -/
def f_M_compare (s : AS) (a0 : Nat) (a1 : Int32) (a2 : Int32) : Option (Int32 × AS) :=
  if sT s a0 = 13 then
  (f_M_isLaw (setI s a0 0 (nI 0)) a0 a1).bind fun r1 =>
  if r1 = (nI 0) then
    some (-(nI 1), setI s a0 0 (nI 0))
  else
    (f_M_in (setI s a0 0 (nI 0)) a2.toInt64 (lN 0) (lN 40)).bind fun r2 =>
    if r2 = (nI 0) then
      some (-(nI 1), setI s a0 0 (nI 0))
    else
      if sT s (sR s a0 3) = 20 ∧ inA (nI 1) (sN s (sR s a0 3)) then
      (f_M_searchFor (setI (setI s a0 0 (nI 0)) (sR s a0 3) (nI 1).toNatClampNeg a1) a0 a2).bind fun r3 =>
      if sT r3.2 a0 = 13 then
      if sT r3.2 (sR r3.2 a0 3) = 20 ∧ inA (nI 1) (sN r3.2 (sR r3.2 a0 3)) then
      some (r3.1, setI r3.2 (sR r3.2 a0 3) (nI 1).toNatClampNeg (sI (setI s a0 0 (nI 0)) (sR s a0 3) (nI 1).toNatClampNeg))
      else none
      else none
      else none
  else none
theorem t_M_compare {s : AS} {a0 : Nat} {a1 : Int32} {a2 : Int32} {o : Int32 × AS} (h : f_M_compare s a0 a1 a2 = some o) : Ev 8 mZ238 0 [.ref a0, .int a1, .int a2, .retAddr 0, .retAddr 0] [] s (some (.int o.1), o.2) := by
  unfold f_M_compare at h
  refine gd h (fun g1 h => ?_)
  refine Ev_blk 5 (pc' := 7) (ls' := [.ref a0, .int a1, .int a2, .retAddr 0, .retAddr 0]) (st' := [.int a1, .ref a0]) (s' := setI s a0 0 (nI 0)) rfl ⟨trivial, g1⟩ ?_
  refine bd h (fun r1 hr1 h => ?_)
  refine Ev_call 2 181 1 [.ref a0, .int a1] [] rfl rfl rfl rfl g1 rfl rfl (Nat.le_of_ble_eq_true rfl) (t_M_isLaw hr1) ?_
  refine Ev_blk 1 (pc' := if r1 = (nI 0) then 25 else 13) (ls' := [.ref a0, .int a1, .int a2, .retAddr 0, .retAddr 0]) (st' := []) (s' := setI s a0 0 (nI 0)) rfl trivial ?_
  refine ib h (fun c2 h => ?_) (fun c2 h => ?_)
  · refine Ev_blk 1 (pc' := 26) (ls' := [.ref a0, .int a1, .int a2, .retAddr 0, .retAddr 0]) (st' := [.int (-(nI 1))]) (s' := setI s a0 0 (nI 0)) rfl trivial ?_
    cases h
    exact Ev_ret rfl trivial
  · refine Ev_blk 4 (pc' := 19) (ls' := [.ref a0, .int a1, .int a2, .retAddr 0, .retAddr 0]) (st' := [.long (lN 40), .long (lN 0), .long a2.toInt64]) (s' := setI s a0 0 (nI 0)) rfl trivial ?_
    refine bd h (fun r2 hr2 h => ?_)
    refine Ev_call 1 145 3 [.long a2.toInt64, .long (lN 0), .long (lN 40)] [] rfl rfl rfl rfl trivial rfl rfl (Nat.le_of_ble_eq_true rfl) (t_M_in hr2) ?_
    refine Ev_blk 1 (pc' := if r2 = (nI 0) then 25 else 27) (ls' := [.ref a0, .int a1, .int a2, .retAddr 0, .retAddr 0]) (st' := []) (s' := setI s a0 0 (nI 0)) rfl trivial ?_
    refine ib h (fun c3 h => ?_) (fun c3 h => ?_)
    · refine Ev_blk 1 (pc' := 26) (ls' := [.ref a0, .int a1, .int a2, .retAddr 0, .retAddr 0]) (st' := [.int (-(nI 1))]) (s' := setI s a0 0 (nI 0)) rfl trivial ?_
      cases h
      exact Ev_ret rfl trivial
    · refine gd h (fun g4 h => ?_)
      refine Ev_blk 12 (pc' := 43) (ls' := [.ref a0, .int a1, .int a2, .int (sI (setI s a0 0 (nI 0)) (sR s a0 3) (nI 1).toNatClampNeg), .retAddr 0]) (st' := [.int a2, .ref a0]) (s' := setI (setI s a0 0 (nI 0)) (sR s a0 3) (nI 1).toNatClampNeg a1) rfl ⟨⟨⟨⟨trivial, g1⟩, ⟨Or.inl g4.1, g4.2⟩⟩, g1⟩, g4⟩ ?_
      refine bd h (fun r3 hr3 h => ?_)
      refine Ev_call 2 188 1 [.ref a0, .int a2] [] rfl rfl rfl rfl g1 rfl rfl (Nat.le_of_ble_eq_true rfl) (t_M_searchFor hr3) ?_
      refine gd h (fun g5 h => ?_)
      refine gd h (fun g6 h => ?_)
      refine Ev_blk 7 (pc' := 57) (ls' := [.ref a0, .int a1, .int a2, .int (sI (setI s a0 0 (nI 0)) (sR s a0 3) (nI 1).toNatClampNeg), .int r3.1]) (st' := [.int r3.1]) (s' := setI r3.2 (sR r3.2 a0 3) (nI 1).toNatClampNeg (sI (setI s a0 0 (nI 0)) (sR s a0 3) (nI 1).toNatClampNeg)) rfl ⟨⟨trivial, g5⟩, g6⟩ ?_
      cases h
      exact Ev_ret rfl trivial

def b_M_scan_9 (k9 : Nat → Int32 → Int32 → Int32 → AS → Option (Int32 × AS)) (v0 : Nat) (v1 : Int32) (v2 : Int32) (v3 : Int32) (s : AS) : Option (Int32 × AS) :=
  if v3 < (nI 128) then
    if sT s v0 = 13 then
    (f_M_isRecord s v0 v3).bind fun r1 =>
    if r1 = (nI 0) then
      k9 v0 v1 v2 (v3 + nI 1) s
    else
      if v2 = v1 then
        some (v3, s)
      else
        k9 v0 v1 (v2 + nI 1) (v3 + nI 1) s
    else none
  else
    some (-(nI 1), s)
theorem t_M_scan_9 {k9 : Nat → Int32 → Int32 → Int32 → AS → Option (Int32 × AS)} (H9 : ∀ {v0 : Nat} {v1 : Int32} {v2 : Int32} {v3 : Int32} {s : AS} {o : Int32 × AS}, k9 v0 v1 v2 v3 s = some o → Ev 5 mZ239 9 [.ref v0, .int v1, .int v2, .int v3] [] s (some (.int o.1), o.2))  {v0 : Nat} {v1 : Int32} {v2 : Int32} {v3 : Int32} {s : AS} {o : Int32 × AS} (h : b_M_scan_9 k9 v0 v1 v2 v3 s = some o) : Ev 5 mZ239 9 [.ref v0, .int v1, .int v2, .int v3] [] s (some (.int o.1), o.2) := by
  unfold b_M_scan_9 at h
  refine Ev_blk 3 (pc' := if v3 < (nI 128) then 16 else 40) (ls' := [.ref v0, .int v1, .int v2, .int v3]) (st' := []) (s' := s) rfl trivial ?_
  refine ib h (fun c1 h => ?_) (fun c1 h => ?_)
  · refine gd h (fun g2 h => ?_)
    refine Ev_blk 2 (pc' := 18) (ls' := [.ref v0, .int v1, .int v2, .int v3]) (st' := [.int v3, .ref v0]) (s' := s) rfl trivial ?_
    refine bd h (fun r1 hr1 h => ?_)
    refine Ev_call 2 210 1 [.ref v0, .int v3] [] rfl rfl rfl rfl g2 rfl rfl (Nat.le_of_ble_eq_true rfl) (t_M_isRecord hr1) ?_
    refine Ev_blk 1 (pc' := if r1 = (nI 0) then 34 else 24) (ls' := [.ref v0, .int v1, .int v2, .int v3]) (st' := []) (s' := s) rfl trivial ?_
    refine ib h (fun c3 h => ?_) (fun c3 h => ?_)
    · refine Ev_blk 2 (pc' := 9) (ls' := [.ref v0, .int v1, .int v2, .int (v3 + nI 1)]) (st' := []) (s' := s) rfl trivial ?_
      exact H9 h
    · refine Ev_blk 3 (pc' := if v2 = v1 then 29 else 31) (ls' := [.ref v0, .int v1, .int v2, .int v3]) (st' := []) (s' := s) rfl trivial ?_
      refine ib h (fun c4 h => ?_) (fun c4 h => ?_)
      · refine Ev_blk 1 (pc' := 30) (ls' := [.ref v0, .int v1, .int v2, .int v3]) (st' := [.int v3]) (s' := s) rfl trivial ?_
        cases h
        exact Ev_ret rfl trivial
      · refine Ev_blk 3 (pc' := 9) (ls' := [.ref v0, .int v1, .int (v2 + nI 1), .int (v3 + nI 1)]) (st' := []) (s' := s) rfl trivial ?_
        exact H9 h
  · refine Ev_blk 1 (pc' := 41) (ls' := [.ref v0, .int v1, .int v2, .int v3]) (st' := [.int (-(nI 1))]) (s' := s) rfl trivial ?_
    cases h
    exact Ev_ret rfl trivial
def l_M_scan_9  : Nat → Nat → Int32 → Int32 → Int32 → AS → Option (Int32 × AS)
  | 0 => fun _ _ _ _ _ => none
  | n + 1 => b_M_scan_9  (l_M_scan_9  n)
theorem u_M_scan_9   {n : Nat} : ∀  {v0 : Nat} {v1 : Int32} {v2 : Int32} {v3 : Int32} {s : AS} {o : Int32 × AS}, l_M_scan_9  n v0 v1 v2 v3 s = some o → Ev 5 mZ239 9 [.ref v0, .int v1, .int v2, .int v3] [] s (some (.int o.1), o.2) := by
  induction n with
  | zero => intros; rename_i h; cases h
  | succ n ih => intros; rename_i h; exact t_M_scan_9  (fun h => ih h) h
/-- RecordHeapModel.scan(I)I -/
def f_M_scan (s : AS) (a0 : Nat) (a1 : Int32) : Option (Int32 × AS) :=
  if sT s a0 = 13 then
  l_M_scan_9 fuel a0 a1 (nI 0) (nI 0) (setI s a0 0 (nI 0))
  else none
theorem t_M_scan {s : AS} {a0 : Nat} {a1 : Int32} {o : Int32 × AS} (h : f_M_scan s a0 a1 = some o) : Ev 5 mZ239 0 [.ref a0, .int a1, .retAddr 0, .retAddr 0] [] s (some (.int o.1), o.2) := by
  unfold f_M_scan at h
  refine gd h (fun g1 h => ?_)
  refine Ev_blk 7 (pc' := 9) (ls' := [.ref a0, .int a1, .int (nI 0), .int (nI 0)]) (st' := []) (s' := setI s a0 0 (nI 0)) rfl ⟨trivial, g1⟩ ?_
  exact u_M_scan_9 h

def b_M_firstFrom_23 (s : AS)  (v2 : Int32) : Option Int32 :=
    some (if v2 < (nI 128) then v2 else -(nI 1))
theorem t_M_firstFrom_23 {s : AS}   {d0 d1 : Value} {v2 : Int32} {o : Int32} (h : b_M_firstFrom_23 s  v2 = some o) : Ev 5 mZ241 23 [d0, d1, .int v2] [] s (some (.int o), s) := by
  unfold b_M_firstFrom_23 at h
  refine Ev_blk 3 (pc' := if v2 < (nI 128) then 30 else 34) (ls' := [d0, d1, .int v2]) (st' := []) (s' := s) rfl trivial ?_
  have k1_ : Ev 5 mZ241 35 [d0, d1, .int v2] [.int (if v2 < (nI 128) then v2 else -(nI 1))] s (some (.int o), s) := by
    cases h
    exact Ev_ret rfl trivial
  refine icases (fun c2 => ?_) (fun c2 => ?_)
  · exact Ev_blk 2 (pc' := 35) (ls' := [d0, d1, .int v2]) (st' := [.int v2]) (s' := s) rfl trivial (by simpa only [if_pos c2] using k1_)
  · exact Ev_blk 1 (pc' := 35) (ls' := [d0, d1, .int v2]) (st' := [.int (-(nI 1))]) (s' := s) rfl trivial (by simpa only [if_neg c2] using k1_)
def b_M_firstFrom_2 (s : AS) (k2 : Nat → Int32 → Option Int32) (v0 : Nat) (v2 : Int32) : Option Int32 :=
  if v2 < (nI 128) then
    if sT s v0 = 13 then
    (f_M_isRecord s v0 v2).bind fun r1 =>
    if r1 = (nI 0) then
      k2 v0 (v2 + nI 1)
    else
      b_M_firstFrom_23 s v2
    else none
  else
    b_M_firstFrom_23 s v2
theorem t_M_firstFrom_2 {s : AS} {k2 : Nat → Int32 → Option Int32} (H2 : ∀ {d1 : Value} {v0 : Nat} {v2 : Int32} {o : Int32}, k2 v0 v2 = some o → Ev 5 mZ241 2 [.ref v0, d1, .int v2] [] s (some (.int o), s)) {d1 : Value} {v0 : Nat} {v2 : Int32} {o : Int32} (h : b_M_firstFrom_2 s k2 v0 v2 = some o) : Ev 5 mZ241 2 [.ref v0, d1, .int v2] [] s (some (.int o), s) := by
  unfold b_M_firstFrom_2 at h
  refine Ev_blk 3 (pc' := if v2 < (nI 128) then 9 else 23) (ls' := [.ref v0, d1, .int v2]) (st' := []) (s' := s) rfl trivial ?_
  refine ib h (fun c1 h => ?_) (fun c1 h => ?_)
  · refine gd h (fun g2 h => ?_)
    refine Ev_blk 2 (pc' := 11) (ls' := [.ref v0, d1, .int v2]) (st' := [.int v2, .ref v0]) (s' := s) rfl trivial ?_
    refine bd h (fun r1 hr1 h => ?_)
    refine Ev_call 2 210 1 [.ref v0, .int v2] [] rfl rfl rfl rfl g2 rfl rfl (Nat.le_of_ble_eq_true rfl) (t_M_isRecord hr1) ?_
    refine Ev_blk 1 (pc' := if r1 = (nI 0) then 17 else 23) (ls' := [.ref v0, d1, .int v2]) (st' := []) (s' := s) rfl trivial ?_
    refine ib h (fun c3 h => ?_) (fun c3 h => ?_)
    · refine Ev_blk 2 (pc' := 2) (ls' := [.ref v0, (clrV d1), .int (v2 + nI 1)]) (st' := []) (s' := s) rfl trivial ?_
      exact H2 h
    · exact t_M_firstFrom_23 h
  · exact t_M_firstFrom_23 h
def l_M_firstFrom_2 (s : AS)  : Nat → Nat → Int32 → Option Int32
  | 0 => fun _ _ => none
  | n + 1 => b_M_firstFrom_2 s  (l_M_firstFrom_2 s  n)
theorem u_M_firstFrom_2 {s : AS}   {n : Nat} : ∀ {d1 : Value} {v0 : Nat} {v2 : Int32} {o : Int32}, l_M_firstFrom_2 s  n v0 v2 = some o → Ev 5 mZ241 2 [.ref v0, d1, .int v2] [] s (some (.int o), s) := by
  induction n with
  | zero => intros; rename_i h; cases h
  | succ n ih => intros; rename_i h; exact t_M_firstFrom_2  (fun h => ih h) h
/-- RecordHeapModel.firstFrom(I)I -/
def f_M_firstFrom (s : AS) (a0 : Nat) (a1 : Int32) : Option Int32 :=
  l_M_firstFrom_2 s fuel a0 a1
theorem t_M_firstFrom {s : AS} {a0 : Nat} {a1 : Int32} {o : Int32} (h : f_M_firstFrom s a0 a1 = some o) : Ev 5 mZ241 0 [.ref a0, .int a1, .retAddr 0] [] s (some (.int o), s) := by
  unfold f_M_firstFrom at h
  refine Ev_blk 2 (pc' := 2) (ls' := [.ref a0, .int a1, .int a1]) (st' := []) (s' := s) rfl trivial ?_
  exact u_M_firstFrom_2 h

def b_M_above_28  (w0 : Int32) (w1 : Nat) (s : AS) : Option (Int32 × AS) :=
  if sT s w1 = 13 then
  (f_M_firstFrom s w1 w0).bind fun r1 =>
  some (r1, s)
  else none
theorem t_M_above_28   {d0 d1 : Value} {w0 : Int32} {w1 : Nat} {s : AS} {o : Int32 × AS} (h : b_M_above_28  w0 w1 s = some o) : Ev 6 mZ240 28 [d0, d1] [.int w0, .ref w1] s (some (.int o.1), o.2) := by
  unfold b_M_above_28 at h
  refine gd h (fun g1 h => ?_)
  refine bd h (fun r1 hr1 h => ?_)
  refine Ev_call 2 241 1 [.ref w1, .int w0] [] rfl rfl rfl rfl g1 rfl rfl (Nat.le_of_ble_eq_true rfl) (t_M_firstFrom hr1) ?_
  cases h
  exact Ev_ret rfl trivial
/-- RecordHeapModel.above(I)I -/
def f_M_above (s : AS) (a0 : Nat) (a1 : Int32) : Option (Int32 × AS) :=
  if sT s a0 = 13 then
  if a1 < (nI 128) then
      b_M_above_28 (if a1 < (nI 0) then nI 0 else a1 + (nI 1)) a0 (setI s a0 0 (nI 0))
  else
    some (-(nI 1), setI s a0 0 (nI 0))
  else none
theorem t_M_above {s : AS} {a0 : Nat} {a1 : Int32} {o : Int32 × AS} (h : f_M_above s a0 a1 = some o) : Ev 6 mZ240 0 [.ref a0, .int a1] [] s (some (.int o.1), o.2) := by
  unfold f_M_above at h
  refine gd h (fun g1 h => ?_)
  refine Ev_blk 6 (pc' := if a1 < (nI 128) then 16 else 12) (ls' := [.ref a0, .int a1]) (st' := []) (s' := setI s a0 0 (nI 0)) rfl ⟨trivial, g1⟩ ?_
  refine ib h (fun c2 h => ?_) (fun c2 h => ?_)
  · refine Ev_blk 3 (pc' := if a1 < (nI 0) then 21 else 25) (ls' := [.ref a0, .int a1]) (st' := [.ref a0]) (s' := setI s a0 0 (nI 0)) rfl trivial ?_
    have k3_ : Ev 6 mZ240 28 [.ref a0, .int a1] [.int (if a1 < (nI 0) then nI 0 else a1 + (nI 1)), .ref a0] (setI s a0 0 (nI 0)) (some (.int o.1), o.2) := by
      exact t_M_above_28 h
    refine icases (fun c4 => ?_) (fun c4 => ?_)
    · exact Ev_blk 2 (pc' := 28) (ls' := [.ref a0, .int a1]) (st' := [.int (nI 0), .ref a0]) (s' := setI s a0 0 (nI 0)) rfl trivial (by simpa only [if_pos c4] using k3_)
    · exact Ev_blk 3 (pc' := 28) (ls' := [.ref a0, .int a1]) (st' := [.int (a1 + (nI 1)), .ref a0]) (s' := setI s a0 0 (nI 0)) rfl trivial (by simpa only [if_neg c4] using k3_)
  · refine Ev_blk 2 (pc' := 31) (ls' := [.ref a0, .int a1]) (st' := [.int (-(nI 1))]) (s' := setI s a0 0 (nI 0)) rfl trivial ?_
    cases h
    exact Ev_ret rfl trivial

def b_M_pieces_71 (k71 : Int32 → Int32 → Int32 → Int32 → Int32 → AS → Option (Int32 × AS)) (v2 : Int32) (v3 : Int32) (v4 : Int32) (v6 : Int32) (v7 : Int32) (s : AS) : Option (Int32 × AS) :=
  if v7 < (nI 8) then
    k71 v2 v3 v4 (v6 + ((v4 >>> (v7 &&& 31)) &&& (nI 1))) (v7 + nI 1) s
  else
      some ((if v2 = (nI 0) then v3 else v6), s)
theorem t_M_pieces_71 {k71 : Int32 → Int32 → Int32 → Int32 → Int32 → AS → Option (Int32 × AS)} (H71 : ∀ {d0 d1 d5 : Value} {v2 : Int32} {v3 : Int32} {v4 : Int32} {v6 : Int32} {v7 : Int32} {s : AS} {o : Int32 × AS}, k71 v2 v3 v4 v6 v7 s = some o → Ev 5 mZ242 71 [d0, d1, .int v2, .int v3, .int v4, d5, .int v6, .int v7] [] s (some (.int o.1), o.2)) {d0 d1 d5 : Value} {v2 : Int32} {v3 : Int32} {v4 : Int32} {v6 : Int32} {v7 : Int32} {s : AS} {o : Int32 × AS} (h : b_M_pieces_71 k71 v2 v3 v4 v6 v7 s = some o) : Ev 5 mZ242 71 [d0, d1, .int v2, .int v3, .int v4, d5, .int v6, .int v7] [] s (some (.int o.1), o.2) := by
  unfold b_M_pieces_71 at h
  refine Ev_blk 3 (pc' := if v7 < (nI 8) then 78 else 96) (ls' := [d0, d1, .int v2, .int v3, .int v4, d5, .int v6, .int v7]) (st' := []) (s' := s) rfl trivial ?_
  refine ib h (fun c1 h => ?_) (fun c1 h => ?_)
  · refine Ev_blk 10 (pc' := 71) (ls' := [d0, d1, .int v2, .int v3, .int v4, (clrV d5), .int (v6 + ((v4 >>> (v7 &&& 31)) &&& (nI 1))), .int (v7 + nI 1)]) (st' := []) (s' := s) rfl trivial ?_
    exact H71 h
  · refine Ev_blk 2 (pc' := if v2 = (nI 0) then 100 else 104) (ls' := [d0, d1, .int v2, .int v3, .int v4, d5, .int v6, .int v7]) (st' := []) (s' := s) rfl trivial ?_
    have k2_ : Ev 5 mZ242 106 [d0, d1, .int v2, .int v3, .int v4, d5, .int v6, .int v7] [.int (if v2 = (nI 0) then v3 else v6)] s (some (.int o.1), o.2) := by
      cases h
      exact Ev_ret rfl trivial
    refine icases (fun c3 => ?_) (fun c3 => ?_)
    · exact Ev_blk 2 (pc' := 106) (ls' := [d0, d1, .int v2, .int v3, .int v4, d5, .int v6, .int v7]) (st' := [.int v3]) (s' := s) rfl trivial (by simpa only [if_pos c3] using k2_)
    · exact Ev_blk 1 (pc' := 106) (ls' := [d0, d1, .int v2, .int v3, .int v4, d5, .int v6, .int v7]) (st' := [.int v6]) (s' := s) rfl trivial (by simpa only [if_neg c3] using k2_)
def l_M_pieces_71  : Nat → Int32 → Int32 → Int32 → Int32 → Int32 → AS → Option (Int32 × AS)
  | 0 => fun _ _ _ _ _ _ => none
  | n + 1 => b_M_pieces_71  (l_M_pieces_71  n)
theorem u_M_pieces_71   {n : Nat} : ∀ {d0 d1 d5 : Value} {v2 : Int32} {v3 : Int32} {v4 : Int32} {v6 : Int32} {v7 : Int32} {s : AS} {o : Int32 × AS}, l_M_pieces_71  n v2 v3 v4 v6 v7 s = some o → Ev 5 mZ242 71 [d0, d1, .int v2, .int v3, .int v4, d5, .int v6, .int v7] [] s (some (.int o.1), o.2) := by
  induction n with
  | zero => intros; rename_i h; cases h
  | succ n ih => intros; rename_i h; exact t_M_pieces_71  (fun h => ih h) h
def b_M_pieces_33 (k33 : Nat → Int32 → Int32 → Int32 → Int32 → AS → Option (Int32 × AS)) (v0 : Nat) (v2 : Int32) (v3 : Int32) (v4 : Int32) (v5 : Int32) (s : AS) : Option (Int32 × AS) :=
  if v5 = (-(nI 1)) then
    l_M_pieces_71 fuel v2 v3 v4 (nI 0) (nI 0) s
  else
    if ¬ (nI 16) = nI 0 then
    if sT s v0 = 13 then
    (f_M_pointedBy s v0 v5).bind fun r1 =>
    k33 v0 v2 (v3 + nI 1) (v4 ||| ((nI 1) <<< ((v5 / (nI 16)) &&& 31))) r1 s
    else none
    else none
theorem t_M_pieces_33 {k33 : Nat → Int32 → Int32 → Int32 → Int32 → AS → Option (Int32 × AS)} (H33 : ∀ {d1 d6 d7 : Value} {v0 : Nat} {v2 : Int32} {v3 : Int32} {v4 : Int32} {v5 : Int32} {s : AS} {o : Int32 × AS}, k33 v0 v2 v3 v4 v5 s = some o → Ev 5 mZ242 33 [.ref v0, d1, .int v2, .int v3, .int v4, .int v5, d6, d7] [] s (some (.int o.1), o.2)) {d1 d6 d7 : Value} {v0 : Nat} {v2 : Int32} {v3 : Int32} {v4 : Int32} {v5 : Int32} {s : AS} {o : Int32 × AS} (h : b_M_pieces_33 k33 v0 v2 v3 v4 v5 s = some o) : Ev 5 mZ242 33 [.ref v0, d1, .int v2, .int v3, .int v4, .int v5, d6, d7] [] s (some (.int o.1), o.2) := by
  unfold b_M_pieces_33 at h
  refine Ev_blk 3 (pc' := if v5 = (-(nI 1)) then 65 else 39) (ls' := [.ref v0, d1, .int v2, .int v3, .int v4, .int v5, d6, d7]) (st' := []) (s' := s) rfl trivial ?_
  refine ib h (fun c1 h => ?_) (fun c1 h => ?_)
  · refine Ev_blk 4 (pc' := 71) (ls' := [.ref v0, d1, .int v2, .int v3, .int v4, .int v5, .int (nI 0), .int (nI 0)]) (st' := []) (s' := s) rfl trivial ?_
    exact u_M_pieces_71 h
  · refine gd h (fun g2 h => ?_)
    refine gd h (fun g3 h => ?_)
    refine Ev_blk 11 (pc' := 57) (ls' := [.ref v0, d1, .int v2, .int (v3 + nI 1), .int (v4 ||| ((nI 1) <<< ((v5 / (nI 16)) &&& 31))), .int v5, d6, d7]) (st' := [.int v5, .ref v0]) (s' := s) rfl ⟨trivial, g2⟩ ?_
    refine bd h (fun r1 hr1 h => ?_)
    refine Ev_call 2 214 1 [.ref v0, .int v5] [] rfl rfl rfl rfl g3 rfl rfl (Nat.le_of_ble_eq_true rfl) (t_M_pointedBy hr1) ?_
    refine Ev_blk 2 (pc' := 33) (ls' := [.ref v0, d1, .int v2, .int (v3 + nI 1), .int (v4 ||| ((nI 1) <<< ((v5 / (nI 16)) &&& 31))), .int r1, d6, d7]) (st' := []) (s' := s) rfl trivial ?_
    exact H33 h
def l_M_pieces_33  : Nat → Nat → Int32 → Int32 → Int32 → Int32 → AS → Option (Int32 × AS)
  | 0 => fun _ _ _ _ _ _ => none
  | n + 1 => b_M_pieces_33  (l_M_pieces_33  n)
theorem u_M_pieces_33   {n : Nat} : ∀ {d1 d6 d7 : Value} {v0 : Nat} {v2 : Int32} {v3 : Int32} {v4 : Int32} {v5 : Int32} {s : AS} {o : Int32 × AS}, l_M_pieces_33  n v0 v2 v3 v4 v5 s = some o → Ev 5 mZ242 33 [.ref v0, d1, .int v2, .int v3, .int v4, .int v5, d6, d7] [] s (some (.int o.1), o.2) := by
  induction n with
  | zero => intros; rename_i h; cases h
  | succ n ih => intros; rename_i h; exact t_M_pieces_33  (fun h => ih h) h
/-- RecordHeapModel.pieces(II)I -/
def f_M_pieces (s : AS) (a0 : Nat) (a1 : Int32) (a2 : Int32) : Option (Int32 × AS) :=
  if sT s a0 = 13 then
  (f_M_isRecord (setI s a0 0 (nI 0)) a0 a1).bind fun r1 =>
  if r1 = (nI 0) then
    some (-(nI 1), setI s a0 0 (nI 0))
  else
    (f_M_in (setI s a0 0 (nI 0)) a2.toInt64 (lN 0) (lN 1)).bind fun r2 =>
    if r2 = (nI 0) then
      some (-(nI 1), setI s a0 0 (nI 0))
    else
      l_M_pieces_33 fuel a0 a2 (nI 0) (nI 0) a1 (setI s a0 0 (nI 0))
  else none
theorem t_M_pieces {s : AS} {a0 : Nat} {a1 : Int32} {a2 : Int32} {o : Int32 × AS} (h : f_M_pieces s a0 a1 a2 = some o) : Ev 5 mZ242 0 [.ref a0, .int a1, .int a2, .retAddr 0, .retAddr 0, .retAddr 0, .retAddr 0, .retAddr 0] [] s (some (.int o.1), o.2) := by
  unfold f_M_pieces at h
  refine gd h (fun g1 h => ?_)
  refine Ev_blk 5 (pc' := 7) (ls' := [.ref a0, .int a1, .int a2, .retAddr 0, .retAddr 0, .retAddr 0, .retAddr 0, .retAddr 0]) (st' := [.int a1, .ref a0]) (s' := setI s a0 0 (nI 0)) rfl ⟨trivial, g1⟩ ?_
  refine bd h (fun r1 hr1 h => ?_)
  refine Ev_call 2 210 1 [.ref a0, .int a1] [] rfl rfl rfl rfl g1 rfl rfl (Nat.le_of_ble_eq_true rfl) (t_M_isRecord hr1) ?_
  refine Ev_blk 1 (pc' := if r1 = (nI 0) then 23 else 13) (ls' := [.ref a0, .int a1, .int a2, .retAddr 0, .retAddr 0, .retAddr 0, .retAddr 0, .retAddr 0]) (st' := []) (s' := setI s a0 0 (nI 0)) rfl trivial ?_
  refine ib h (fun c2 h => ?_) (fun c2 h => ?_)
  · refine Ev_blk 1 (pc' := 24) (ls' := [.ref a0, .int a1, .int a2, .retAddr 0, .retAddr 0, .retAddr 0, .retAddr 0, .retAddr 0]) (st' := [.int (-(nI 1))]) (s' := setI s a0 0 (nI 0)) rfl trivial ?_
    cases h
    exact Ev_ret rfl trivial
  · refine Ev_blk 4 (pc' := 17) (ls' := [.ref a0, .int a1, .int a2, .retAddr 0, .retAddr 0, .retAddr 0, .retAddr 0, .retAddr 0]) (st' := [.long (lN 1), .long (lN 0), .long a2.toInt64]) (s' := setI s a0 0 (nI 0)) rfl trivial ?_
    refine bd h (fun r2 hr2 h => ?_)
    refine Ev_call 1 145 3 [.long a2.toInt64, .long (lN 0), .long (lN 1)] [] rfl rfl rfl rfl trivial rfl rfl (Nat.le_of_ble_eq_true rfl) (t_M_in hr2) ?_
    refine Ev_blk 1 (pc' := if r2 = (nI 0) then 23 else 25) (ls' := [.ref a0, .int a1, .int a2, .retAddr 0, .retAddr 0, .retAddr 0, .retAddr 0, .retAddr 0]) (st' := []) (s' := setI s a0 0 (nI 0)) rfl trivial ?_
    refine ib h (fun c3 h => ?_) (fun c3 h => ?_)
    · refine Ev_blk 1 (pc' := 24) (ls' := [.ref a0, .int a1, .int a2, .retAddr 0, .retAddr 0, .retAddr 0, .retAddr 0, .retAddr 0]) (st' := [.int (-(nI 1))]) (s' := setI s a0 0 (nI 0)) rfl trivial ?_
      cases h
      exact Ev_ret rfl trivial
    · refine Ev_blk 6 (pc' := 33) (ls' := [.ref a0, .int a1, .int a2, .int (nI 0), .int (nI 0), .int a1, .retAddr 0, .retAddr 0]) (st' := []) (s' := setI s a0 0 (nI 0)) rfl trivial ?_
      exact u_M_pieces_33 h

def b_M_isAhead_73 (s : AS)  (v1 : Int32) (v2 : Int32) (v3 : Int32) (v4 : Int32) : Option Int32 :=
    some (if v3 < v4 then nI 1 else (if v3 = v4 then (if v1 < v2 then nI 1 else nI 0) else nI 0))
theorem t_M_isAhead_73 {s : AS}   {d0 d5 d6 d7 : Value} {v1 : Int32} {v2 : Int32} {v3 : Int32} {v4 : Int32} {o : Int32} (h : b_M_isAhead_73 s  v1 v2 v3 v4 = some o) : Ev 5 mZ244 73 [d0, .int v1, .int v2, .int v3, .int v4, d5, d6, d7] [] s (some (.int o), s) := by
  unfold b_M_isAhead_73 at h
  refine Ev_blk 3 (pc' := if v3 < v4 then 90 else 79) (ls' := [d0, .int v1, .int v2, .int v3, .int v4, d5, d6, d7]) (st' := []) (s' := s) rfl trivial ?_
  have k1_ : Ev 5 mZ244 95 [d0, .int v1, .int v2, .int v3, .int v4, d5, d6, d7] [.int (if v3 < v4 then nI 1 else (if v3 = v4 then (if v1 < v2 then nI 1 else nI 0) else nI 0))] s (some (.int o), s) := by
    cases h
    exact Ev_ret rfl (by (repeat' split) <;> first | exact Or.inl rfl | exact Or.inr rfl)
  refine icases (fun c2 => ?_) (fun c2 => ?_)
  · exact Ev_blk 2 (pc' := 95) (ls' := [d0, .int v1, .int v2, .int v3, .int v4, d5, d6, d7]) (st' := [.int (nI 1)]) (s' := s) rfl trivial (by simpa only [if_pos c2] using k1_)
  · refine Ev_blk 3 (pc' := if v3 = v4 then 85 else 94) (ls' := [d0, .int v1, .int v2, .int v3, .int v4, d5, d6, d7]) (st' := []) (s' := s) rfl trivial ?_
    refine icases (fun c3 => ?_) (fun c3 => ?_)
    · refine Ev_blk 3 (pc' := if v1 < v2 then 90 else 94) (ls' := [d0, .int v1, .int v2, .int v3, .int v4, d5, d6, d7]) (st' := []) (s' := s) rfl trivial ?_
      refine icases (fun c4 => ?_) (fun c4 => ?_)
      · exact Ev_blk 2 (pc' := 95) (ls' := [d0, .int v1, .int v2, .int v3, .int v4, d5, d6, d7]) (st' := [.int (nI 1)]) (s' := s) rfl trivial (by simpa only [if_neg c2, if_pos c3, if_pos c4] using k1_)
      · exact Ev_blk 1 (pc' := 95) (ls' := [d0, .int v1, .int v2, .int v3, .int v4, d5, d6, d7]) (st' := [.int (nI 0)]) (s' := s) rfl trivial (by simpa only [if_neg c2, if_pos c3, if_neg c4] using k1_)
    · exact Ev_blk 1 (pc' := 95) (ls' := [d0, .int v1, .int v2, .int v3, .int v4, d5, d6, d7]) (st' := [.int (nI 0)]) (s' := s) rfl trivial (by simpa only [if_neg c2, if_neg c3] using k1_)
def b_M_isAhead_16 (s : AS) (k16 : Nat → Int32 → Int32 → Int32 → Int32 → Int32 → Option Int32) (v0 : Nat) (v1 : Int32) (v2 : Int32) (v3 : Int32) (v4 : Int32) (v5 : Int32) : Option Int32 :=
  if v5 < v3 then
    if v5 < v4 then
      if sT s v0 = 13 then
      (f_M_signOf s v0 v1 v5).bind fun r1 =>
      (f_M_signOf s v0 v2 v5).bind fun r2 =>
      if r1 = r2 then
        k16 v0 v1 v2 v3 v4 (v5 + nI 1)
      else
          some (if r1 < r2 then nI 1 else nI 0)
      else none
    else
      b_M_isAhead_73 s v1 v2 v3 v4
  else
    b_M_isAhead_73 s v1 v2 v3 v4
theorem t_M_isAhead_16 {s : AS} {k16 : Nat → Int32 → Int32 → Int32 → Int32 → Int32 → Option Int32} (H16 : ∀ {d6 d7 : Value} {v0 : Nat} {v1 : Int32} {v2 : Int32} {v3 : Int32} {v4 : Int32} {v5 : Int32} {o : Int32}, k16 v0 v1 v2 v3 v4 v5 = some o → Ev 5 mZ244 16 [.ref v0, .int v1, .int v2, .int v3, .int v4, .int v5, d6, d7] [] s (some (.int o), s)) {d6 d7 : Value} {v0 : Nat} {v1 : Int32} {v2 : Int32} {v3 : Int32} {v4 : Int32} {v5 : Int32} {o : Int32} (h : b_M_isAhead_16 s k16 v0 v1 v2 v3 v4 v5 = some o) : Ev 5 mZ244 16 [.ref v0, .int v1, .int v2, .int v3, .int v4, .int v5, d6, d7] [] s (some (.int o), s) := by
  unfold b_M_isAhead_16 at h
  refine Ev_blk 3 (pc' := if v5 < v3 then 22 else 73) (ls' := [.ref v0, .int v1, .int v2, .int v3, .int v4, .int v5, d6, d7]) (st' := []) (s' := s) rfl trivial ?_
  refine ib h (fun c1 h => ?_) (fun c1 h => ?_)
  · refine Ev_blk 3 (pc' := if v5 < v4 then 29 else 73) (ls' := [.ref v0, .int v1, .int v2, .int v3, .int v4, .int v5, d6, d7]) (st' := []) (s' := s) rfl trivial ?_
    refine ib h (fun c2 h => ?_) (fun c2 h => ?_)
    · refine gd h (fun g3 h => ?_)
      refine Ev_blk 3 (pc' := 33) (ls' := [.ref v0, .int v1, .int v2, .int v3, .int v4, .int v5, d6, d7]) (st' := [.int v5, .int v1, .ref v0]) (s' := s) rfl trivial ?_
      refine bd h (fun r1 hr1 h => ?_)
      refine Ev_call 2 231 2 [.ref v0, .int v1, .int v5] [] rfl rfl rfl rfl g3 rfl rfl (Nat.le_of_ble_eq_true rfl) (t_M_signOf hr1) ?_
      refine Ev_blk 4 (pc' := 42) (ls' := [.ref v0, .int v1, .int v2, .int v3, .int v4, .int v5, .int r1, d7]) (st' := [.int v5, .int v2, .ref v0]) (s' := s) rfl trivial ?_
      refine bd h (fun r2 hr2 h => ?_)
      refine Ev_call 2 231 2 [.ref v0, .int v2, .int v5] [] rfl rfl rfl rfl g3 rfl rfl (Nat.le_of_ble_eq_true rfl) (t_M_signOf hr2) ?_
      refine Ev_blk 4 (pc' := if r1 = r2 then 67 else 54) (ls' := [.ref v0, .int v1, .int v2, .int v3, .int v4, .int v5, .int r1, .int r2]) (st' := []) (s' := s) rfl trivial ?_
      refine ib h (fun c4 h => ?_) (fun c4 h => ?_)
      · refine Ev_blk 2 (pc' := 16) (ls' := [.ref v0, .int v1, .int v2, .int v3, .int v4, .int (v5 + nI 1), .int r1, .int r2]) (st' := []) (s' := s) rfl trivial ?_
        exact H16 h
      · refine Ev_blk 3 (pc' := if r1 < r2 then 61 else 65) (ls' := [.ref v0, .int v1, .int v2, .int v3, .int v4, .int v5, .int r1, .int r2]) (st' := []) (s' := s) rfl trivial ?_
        have k5_ : Ev 5 mZ244 66 [.ref v0, .int v1, .int v2, .int v3, .int v4, .int v5, .int r1, .int r2] [.int (if r1 < r2 then nI 1 else nI 0)] s (some (.int o), s) := by
          cases h
          exact Ev_ret rfl (by (repeat' split) <;> first | exact Or.inl rfl | exact Or.inr rfl)
        refine icases (fun c6 => ?_) (fun c6 => ?_)
        · exact Ev_blk 2 (pc' := 66) (ls' := [.ref v0, .int v1, .int v2, .int v3, .int v4, .int v5, .int r1, .int r2]) (st' := [.int (nI 1)]) (s' := s) rfl trivial (by simpa only [if_pos c6] using k5_)
        · exact Ev_blk 1 (pc' := 66) (ls' := [.ref v0, .int v1, .int v2, .int v3, .int v4, .int v5, .int r1, .int r2]) (st' := [.int (nI 0)]) (s' := s) rfl trivial (by simpa only [if_neg c6] using k5_)
    · exact t_M_isAhead_73 h
  · exact t_M_isAhead_73 h
def l_M_isAhead_16 (s : AS)  : Nat → Nat → Int32 → Int32 → Int32 → Int32 → Int32 → Option Int32
  | 0 => fun _ _ _ _ _ _ => none
  | n + 1 => b_M_isAhead_16 s  (l_M_isAhead_16 s  n)
theorem u_M_isAhead_16 {s : AS}   {n : Nat} : ∀ {d6 d7 : Value} {v0 : Nat} {v1 : Int32} {v2 : Int32} {v3 : Int32} {v4 : Int32} {v5 : Int32} {o : Int32}, l_M_isAhead_16 s  n v0 v1 v2 v3 v4 v5 = some o → Ev 5 mZ244 16 [.ref v0, .int v1, .int v2, .int v3, .int v4, .int v5, d6, d7] [] s (some (.int o), s) := by
  induction n with
  | zero => intros; rename_i h; cases h
  | succ n ih => intros; rename_i h; exact t_M_isAhead_16  (fun h => ih h) h
/-- RecordHeapModel.isAhead(II)Z -/
def f_M_isAhead (s : AS) (a0 : Nat) (a1 : Int32) (a2 : Int32) : Option Int32 :=
  if sT s a0 = 13 then
  (f_M_lengthOf s a0 a1).bind fun r1 =>
  (f_M_lengthOf s a0 a2).bind fun r2 =>
  l_M_isAhead_16 s fuel a0 a1 a2 r1 r2 (nI 0)
  else none
theorem t_M_isAhead {s : AS} {a0 : Nat} {a1 : Int32} {a2 : Int32} {o : Int32} (h : f_M_isAhead s a0 a1 a2 = some o) : Ev 5 mZ244 0 [.ref a0, .int a1, .int a2, .retAddr 0, .retAddr 0, .retAddr 0, .retAddr 0, .retAddr 0] [] s (some (.int o), s) := by
  unfold f_M_isAhead at h
  refine gd h (fun g1 h => ?_)
  refine Ev_blk 2 (pc' := 2) (ls' := [.ref a0, .int a1, .int a2, .retAddr 0, .retAddr 0, .retAddr 0, .retAddr 0, .retAddr 0]) (st' := [.int a1, .ref a0]) (s' := s) rfl trivial ?_
  refine bd h (fun r1 hr1 h => ?_)
  refine Ev_call 2 222 1 [.ref a0, .int a1] [] rfl rfl rfl rfl g1 rfl rfl (Nat.le_of_ble_eq_true rfl) (t_M_lengthOf hr1) ?_
  refine Ev_blk 3 (pc' := 8) (ls' := [.ref a0, .int a1, .int a2, .int r1, .retAddr 0, .retAddr 0, .retAddr 0, .retAddr 0]) (st' := [.int a2, .ref a0]) (s' := s) rfl trivial ?_
  refine bd h (fun r2 hr2 h => ?_)
  refine Ev_call 2 222 1 [.ref a0, .int a2] [] rfl rfl rfl rfl g1 rfl rfl (Nat.le_of_ble_eq_true rfl) (t_M_lengthOf hr2) ?_
  refine Ev_blk 3 (pc' := 16) (ls' := [.ref a0, .int a1, .int a2, .int r1, .int r2, .int (nI 0), .retAddr 0, .retAddr 0]) (st' := []) (s' := s) rfl trivial ?_
  exact u_M_isAhead_16 h

def b_M_sorted_27 (k7 : Nat → Int32 → Int32 → AS → Option (Int32 × AS)) (k27 : Nat → Int32 → Int32 → Int32 → Int32 → AS → Option (Int32 × AS)) (v0 : Nat) (v1 : Int32) (v2 : Int32) (v3 : Int32) (v4 : Int32) (s : AS) : Option (Int32 × AS) :=
  if v4 < (nI 128) then
    if v4 = v2 then
      k27 v0 v1 v2 (v3 + (nI 0)) (v4 + nI 1) s
    else
      if sT s v0 = 13 then
      (f_M_isRecord s v0 v4).bind fun r1 =>
      if r1 = (nI 0) then
        k27 v0 v1 v2 (v3 + (nI 0)) (v4 + nI 1) s
      else
        (f_M_isAhead s v0 v4 v2).bind fun r2 =>
          k27 v0 v1 v2 (v3 + (if r2 = (nI 0) then nI 0 else nI 1)) (v4 + nI 1) s
      else none
  else
    if v3 = v1 then
      some (v2, s)
    else
      k7 v0 v1 (v2 + nI 1) s
theorem t_M_sorted_27 {k7 : Nat → Int32 → Int32 → AS → Option (Int32 × AS)} {k27 : Nat → Int32 → Int32 → Int32 → Int32 → AS → Option (Int32 × AS)} (H7 : ∀ {d3 d4 : Value} {v0 : Nat} {v1 : Int32} {v2 : Int32} {s : AS} {o : Int32 × AS}, k7 v0 v1 v2 s = some o → Ev 6 mZ243 7 [.ref v0, .int v1, .int v2, d3, d4] [] s (some (.int o.1), o.2)) (H27 : ∀ {v0 : Nat} {v1 : Int32} {v2 : Int32} {v3 : Int32} {v4 : Int32} {s : AS} {o : Int32 × AS}, k27 v0 v1 v2 v3 v4 s = some o → Ev 6 mZ243 27 [.ref v0, .int v1, .int v2, .int v3, .int v4] [] s (some (.int o.1), o.2))  {v0 : Nat} {v1 : Int32} {v2 : Int32} {v3 : Int32} {v4 : Int32} {s : AS} {o : Int32 × AS} (h : b_M_sorted_27 k7 k27 v0 v1 v2 v3 v4 s = some o) : Ev 6 mZ243 27 [.ref v0, .int v1, .int v2, .int v3, .int v4] [] s (some (.int o.1), o.2) := by
  unfold b_M_sorted_27 at h
  refine Ev_blk 3 (pc' := if v4 < (nI 128) then 35 else 74) (ls' := [.ref v0, .int v1, .int v2, .int v3, .int v4]) (st' := []) (s' := s) rfl trivial ?_
  refine ib h (fun c1 h => ?_) (fun c1 h => ?_)
  · refine Ev_blk 4 (pc' := if v4 = v2 then 65 else 42) (ls' := [.ref v0, .int v1, .int v2, .int v3, .int v4]) (st' := [.int v3]) (s' := s) rfl trivial ?_
    refine ib h (fun c2 h => ?_) (fun c2 h => ?_)
    · refine Ev_blk 5 (pc' := 27) (ls' := [.ref v0, .int v1, .int v2, .int (v3 + (nI 0)), .int (v4 + nI 1)]) (st' := []) (s' := s) rfl trivial ?_
      exact H27 h
    · refine gd h (fun g3 h => ?_)
      refine Ev_blk 2 (pc' := 45) (ls' := [.ref v0, .int v1, .int v2, .int v3, .int v4]) (st' := [.int v4, .ref v0, .int v3]) (s' := s) rfl trivial ?_
      refine bd h (fun r1 hr1 h => ?_)
      refine Ev_call 2 210 1 [.ref v0, .int v4] [.int v3] rfl rfl rfl rfl g3 rfl rfl (Nat.le_of_ble_eq_true rfl) (t_M_isRecord hr1) ?_
      refine Ev_blk 1 (pc' := if r1 = (nI 0) then 65 else 51) (ls' := [.ref v0, .int v1, .int v2, .int v3, .int v4]) (st' := [.int v3]) (s' := s) rfl trivial ?_
      refine ib h (fun c4 h => ?_) (fun c4 h => ?_)
      · refine Ev_blk 5 (pc' := 27) (ls' := [.ref v0, .int v1, .int v2, .int (v3 + (nI 0)), .int (v4 + nI 1)]) (st' := []) (s' := s) rfl trivial ?_
        exact H27 h
      · refine Ev_blk 3 (pc' := 55) (ls' := [.ref v0, .int v1, .int v2, .int v3, .int v4]) (st' := [.int v2, .int v4, .ref v0, .int v3]) (s' := s) rfl trivial ?_
        refine bd h (fun r2 hr2 h => ?_)
        refine Ev_call 2 244 2 [.ref v0, .int v4, .int v2] [.int v3] rfl rfl rfl rfl g3 rfl rfl (Nat.le_of_ble_eq_true rfl) (t_M_isAhead hr2) ?_
        refine Ev_blk 1 (pc' := if r2 = (nI 0) then 65 else 61) (ls' := [.ref v0, .int v1, .int v2, .int v3, .int v4]) (st' := [.int v3]) (s' := s) rfl trivial ?_
        have k5_ : Ev 6 mZ243 66 [.ref v0, .int v1, .int v2, .int v3, .int v4] [.int (if r2 = (nI 0) then nI 0 else nI 1), .int v3] s (some (.int o.1), o.2) := by
          refine Ev_blk 4 (pc' := 27) (ls' := [.ref v0, .int v1, .int v2, .int (v3 + (if r2 = (nI 0) then nI 0 else nI 1)), .int (v4 + nI 1)]) (st' := []) (s' := s) rfl trivial ?_
          exact H27 h
        refine icases (fun c6 => ?_) (fun c6 => ?_)
        · exact Ev_blk 1 (pc' := 66) (ls' := [.ref v0, .int v1, .int v2, .int v3, .int v4]) (st' := [.int (nI 0), .int v3]) (s' := s) rfl trivial (by simpa only [if_pos c6] using k5_)
        · exact Ev_blk 2 (pc' := 66) (ls' := [.ref v0, .int v1, .int v2, .int v3, .int v4]) (st' := [.int (nI 1), .int v3]) (s' := s) rfl trivial (by simpa only [if_neg c6] using k5_)
  · refine Ev_blk 3 (pc' := if v3 = v1 then 79 else 81) (ls' := [.ref v0, .int v1, .int v2, .int v3, .int v4]) (st' := []) (s' := s) rfl trivial ?_
    refine ib h (fun c7 h => ?_) (fun c7 h => ?_)
    · refine Ev_blk 1 (pc' := 80) (ls' := [.ref v0, .int v1, .int v2, .int v3, .int v4]) (st' := [.int v2]) (s' := s) rfl trivial ?_
      cases h
      exact Ev_ret rfl trivial
    · refine Ev_blk 2 (pc' := 7) (ls' := [.ref v0, .int v1, .int (v2 + nI 1), .int v3, .int v4]) (st' := []) (s' := s) rfl trivial ?_
      exact H7 h
def l_M_sorted_27 (k7 : Nat → Int32 → Int32 → AS → Option (Int32 × AS)) : Nat → Nat → Int32 → Int32 → Int32 → Int32 → AS → Option (Int32 × AS)
  | 0 => fun _ _ _ _ _ _ => none
  | n + 1 => b_M_sorted_27 k7 (l_M_sorted_27 k7 n)
theorem u_M_sorted_27 {k7 : Nat → Int32 → Int32 → AS → Option (Int32 × AS)} (H7 : ∀ {d3 d4 : Value} {v0 : Nat} {v1 : Int32} {v2 : Int32} {s : AS} {o : Int32 × AS}, k7 v0 v1 v2 s = some o → Ev 6 mZ243 7 [.ref v0, .int v1, .int v2, d3, d4] [] s (some (.int o.1), o.2)) {n : Nat} : ∀  {v0 : Nat} {v1 : Int32} {v2 : Int32} {v3 : Int32} {v4 : Int32} {s : AS} {o : Int32 × AS}, l_M_sorted_27 k7 n v0 v1 v2 v3 v4 s = some o → Ev 6 mZ243 27 [.ref v0, .int v1, .int v2, .int v3, .int v4] [] s (some (.int o.1), o.2) := by
  induction n with
  | zero => intros; rename_i h; cases h
  | succ n ih => intros; rename_i h; exact t_M_sorted_27 H7 (fun h => ih h) h
def b_M_sorted_7 (k7 : Nat → Int32 → Int32 → AS → Option (Int32 × AS)) (v0 : Nat) (v1 : Int32) (v2 : Int32) (s : AS) : Option (Int32 × AS) :=
  if v2 < (nI 128) then
    if sT s v0 = 13 then
    (f_M_isRecord s v0 v2).bind fun r1 =>
    if r1 = (nI 0) then
      k7 v0 v1 (v2 + nI 1) s
    else
      l_M_sorted_27 k7 fuel v0 v1 v2 (nI 0) (nI 0) s
    else none
  else
    some (-(nI 1), s)
theorem t_M_sorted_7 {k7 : Nat → Int32 → Int32 → AS → Option (Int32 × AS)} (H7 : ∀ {d3 d4 : Value} {v0 : Nat} {v1 : Int32} {v2 : Int32} {s : AS} {o : Int32 × AS}, k7 v0 v1 v2 s = some o → Ev 6 mZ243 7 [.ref v0, .int v1, .int v2, d3, d4] [] s (some (.int o.1), o.2)) {d3 d4 : Value} {v0 : Nat} {v1 : Int32} {v2 : Int32} {s : AS} {o : Int32 × AS} (h : b_M_sorted_7 k7 v0 v1 v2 s = some o) : Ev 6 mZ243 7 [.ref v0, .int v1, .int v2, d3, d4] [] s (some (.int o.1), o.2) := by
  unfold b_M_sorted_7 at h
  refine Ev_blk 3 (pc' := if v2 < (nI 128) then 14 else 87) (ls' := [.ref v0, .int v1, .int v2, d3, d4]) (st' := []) (s' := s) rfl trivial ?_
  refine ib h (fun c1 h => ?_) (fun c1 h => ?_)
  · refine gd h (fun g2 h => ?_)
    refine Ev_blk 2 (pc' := 16) (ls' := [.ref v0, .int v1, .int v2, d3, d4]) (st' := [.int v2, .ref v0]) (s' := s) rfl trivial ?_
    refine bd h (fun r1 hr1 h => ?_)
    refine Ev_call 2 210 1 [.ref v0, .int v2] [] rfl rfl rfl rfl g2 rfl rfl (Nat.le_of_ble_eq_true rfl) (t_M_isRecord hr1) ?_
    refine Ev_blk 1 (pc' := if r1 = (nI 0) then 81 else 22) (ls' := [.ref v0, .int v1, .int v2, d3, d4]) (st' := []) (s' := s) rfl trivial ?_
    refine ib h (fun c3 h => ?_) (fun c3 h => ?_)
    · refine Ev_blk 2 (pc' := 7) (ls' := [.ref v0, .int v1, .int (v2 + nI 1), d3, d4]) (st' := []) (s' := s) rfl trivial ?_
      exact H7 h
    · refine Ev_blk 4 (pc' := 27) (ls' := [.ref v0, .int v1, .int v2, .int (nI 0), .int (nI 0)]) (st' := []) (s' := s) rfl trivial ?_
      exact u_M_sorted_27 H7 h
  · refine Ev_blk 1 (pc' := 88) (ls' := [.ref v0, .int v1, .int v2, d3, d4]) (st' := [.int (-(nI 1))]) (s' := s) rfl trivial ?_
    cases h
    exact Ev_ret rfl trivial
def l_M_sorted_7  : Nat → Nat → Int32 → Int32 → AS → Option (Int32 × AS)
  | 0 => fun _ _ _ _ => none
  | n + 1 => b_M_sorted_7  (l_M_sorted_7  n)
theorem u_M_sorted_7   {n : Nat} : ∀ {d3 d4 : Value} {v0 : Nat} {v1 : Int32} {v2 : Int32} {s : AS} {o : Int32 × AS}, l_M_sorted_7  n v0 v1 v2 s = some o → Ev 6 mZ243 7 [.ref v0, .int v1, .int v2, d3, d4] [] s (some (.int o.1), o.2) := by
  induction n with
  | zero => intros; rename_i h; cases h
  | succ n ih => intros; rename_i h; exact t_M_sorted_7  (fun h => ih h) h
/-- RecordHeapModel.sorted(I)I -/
def f_M_sorted (s : AS) (a0 : Nat) (a1 : Int32) : Option (Int32 × AS) :=
  if sT s a0 = 13 then
  l_M_sorted_7 fuel a0 a1 (nI 0) (setI s a0 0 (nI 0))
  else none
theorem t_M_sorted {s : AS} {a0 : Nat} {a1 : Int32} {o : Int32 × AS} (h : f_M_sorted s a0 a1 = some o) : Ev 6 mZ243 0 [.ref a0, .int a1, .retAddr 0, .retAddr 0, .retAddr 0] [] s (some (.int o.1), o.2) := by
  unfold f_M_sorted at h
  refine gd h (fun g1 h => ?_)
  refine Ev_blk 5 (pc' := 7) (ls' := [.ref a0, .int a1, .int (nI 0), .retAddr 0, .retAddr 0]) (st' := []) (s' := setI s a0 0 (nI 0)) rfl ⟨trivial, g1⟩ ?_
  exact u_M_sorted_7 h

def b_M_isBrought_20 (s : AS) (k20 : Nat → Int32 → Int32 → Int32 → Option Int32) (v0 : Nat) (v1 : Int32) (v2 : Int32) (v3 : Int32) : Option Int32 :=
  if sT s v0 = 13 then
  if v3 < (sI s v0 44) then
    if v2 = (nI 0) then
      if v2 = nI 0 ∨ v2 = nI 1 then
      some v2
      else none
    else
      (f_M_signOf s v0 v1 v3).bind fun r1 =>
      if sT s (sR s v0 43) = 20 ∧ inA v3 (sN s (sR s v0 43)) then
        k20 v0 v1 (if r1 = (sI s (sR s v0 43) v3.toNatClampNeg) then nI 1 else nI 0) (v3 + nI 1)
      else none
  else
    if v2 = nI 0 ∨ v2 = nI 1 then
    some v2
    else none
  else none
theorem t_M_isBrought_20 {s : AS} {k20 : Nat → Int32 → Int32 → Int32 → Option Int32} (H20 : ∀ {v0 : Nat} {v1 : Int32} {v2 : Int32} {v3 : Int32} {o : Int32}, k20 v0 v1 v2 v3 = some o → Ev 5 mZ246 20 [.ref v0, .int v1, .int v2, .int v3] [] s (some (.int o), s))  {v0 : Nat} {v1 : Int32} {v2 : Int32} {v3 : Int32} {o : Int32} (h : b_M_isBrought_20 s k20 v0 v1 v2 v3 = some o) : Ev 5 mZ246 20 [.ref v0, .int v1, .int v2, .int v3] [] s (some (.int o), s) := by
  unfold b_M_isBrought_20 at h
  refine gd h (fun g1 h => ?_)
  refine Ev_blk 4 (pc' := if v3 < (sI s v0 44) then 28 else 59) (ls' := [.ref v0, .int v1, .int v2, .int v3]) (st' := []) (s' := s) rfl ⟨trivial, g1⟩ ?_
  refine ib h (fun c2 h => ?_) (fun c2 h => ?_)
  · refine Ev_blk 2 (pc' := if v2 = (nI 0) then 59 else 32) (ls' := [.ref v0, .int v1, .int v2, .int v3]) (st' := []) (s' := s) rfl trivial ?_
    refine ib h (fun c3 h => ?_) (fun c3 h => ?_)
    · refine gd h (fun g4 h => ?_)
      refine Ev_blk 1 (pc' := 60) (ls' := [.ref v0, .int v1, .int v2, .int v3]) (st' := [.int v2]) (s' := s) rfl trivial ?_
      cases h
      exact Ev_ret rfl g4
    · refine Ev_blk 3 (pc' := 35) (ls' := [.ref v0, .int v1, .int v2, .int v3]) (st' := [.int v3, .int v1, .ref v0]) (s' := s) rfl trivial ?_
      refine bd h (fun r1 hr1 h => ?_)
      refine Ev_call 2 231 2 [.ref v0, .int v1, .int v3] [] rfl rfl rfl rfl g1 rfl rfl (Nat.le_of_ble_eq_true rfl) (t_M_signOf hr1) ?_
      refine gd h (fun g5 h => ?_)
      refine Ev_blk 5 (pc' := if r1 = (sI s (sR s v0 43) v3.toNatClampNeg) then 47 else 51) (ls' := [.ref v0, .int v1, .int v2, .int v3]) (st' := []) (s' := s) rfl ⟨⟨trivial, g1⟩, ⟨Or.inl g5.1, g5.2⟩⟩ ?_
      have k6_ : Ev 5 mZ246 52 [.ref v0, .int v1, .int v2, .int v3] [.int (if r1 = (sI s (sR s v0 43) v3.toNatClampNeg) then nI 1 else nI 0)] s (some (.int o), s) := by
        refine Ev_blk 3 (pc' := 20) (ls' := [.ref v0, .int v1, .int (if r1 = (sI s (sR s v0 43) v3.toNatClampNeg) then nI 1 else nI 0), .int (v3 + nI 1)]) (st' := []) (s' := s) rfl trivial ?_
        exact H20 h
      refine icases (fun c7 => ?_) (fun c7 => ?_)
      · exact Ev_blk 2 (pc' := 52) (ls' := [.ref v0, .int v1, .int v2, .int v3]) (st' := [.int (nI 1)]) (s' := s) rfl trivial (by simpa only [if_pos c7] using k6_)
      · exact Ev_blk 1 (pc' := 52) (ls' := [.ref v0, .int v1, .int v2, .int v3]) (st' := [.int (nI 0)]) (s' := s) rfl trivial (by simpa only [if_neg c7] using k6_)
  · refine gd h (fun g8 h => ?_)
    refine Ev_blk 1 (pc' := 60) (ls' := [.ref v0, .int v1, .int v2, .int v3]) (st' := [.int v2]) (s' := s) rfl trivial ?_
    cases h
    exact Ev_ret rfl g8
def l_M_isBrought_20 (s : AS)  : Nat → Nat → Int32 → Int32 → Int32 → Option Int32
  | 0 => fun _ _ _ _ => none
  | n + 1 => b_M_isBrought_20 s  (l_M_isBrought_20 s  n)
theorem u_M_isBrought_20 {s : AS}   {n : Nat} : ∀  {v0 : Nat} {v1 : Int32} {v2 : Int32} {v3 : Int32} {o : Int32}, l_M_isBrought_20 s  n v0 v1 v2 v3 = some o → Ev 5 mZ246 20 [.ref v0, .int v1, .int v2, .int v3] [] s (some (.int o), s) := by
  induction n with
  | zero => intros; rename_i h; cases h
  | succ n ih => intros; rename_i h; exact t_M_isBrought_20  (fun h => ih h) h
def b_M_isBrought_17 (s : AS)  (v0 : Nat) (v1 : Int32) (w0 : Int32) : Option Int32 :=
  l_M_isBrought_20 s fuel v0 v1 w0 (nI 0)
theorem t_M_isBrought_17 {s : AS}   {d2 d3 : Value} {v0 : Nat} {v1 : Int32} {w0 : Int32} {o : Int32} (h : b_M_isBrought_17 s  v0 v1 w0 = some o) : Ev 5 mZ246 17 [.ref v0, .int v1, d2, d3] [.int w0] s (some (.int o), s) := by
  unfold b_M_isBrought_17 at h
  refine Ev_blk 3 (pc' := 20) (ls' := [.ref v0, .int v1, .int w0, .int (nI 0)]) (st' := []) (s' := s) rfl trivial ?_
  exact u_M_isBrought_20 h
/-- RecordHeapModel.isBrought(I)Z -/
def f_M_isBrought (s : AS) (a0 : Nat) (a1 : Int32) : Option Int32 :=
  if sT s a0 = 13 then
  (f_M_lengthOf s a0 a1).bind fun r1 =>
    b_M_isBrought_17 s a0 a1 (if r1 = (sI s a0 44) then nI 1 else nI 0)
  else none
theorem t_M_isBrought {s : AS} {a0 : Nat} {a1 : Int32} {o : Int32} (h : f_M_isBrought s a0 a1 = some o) : Ev 5 mZ246 0 [.ref a0, .int a1, .retAddr 0, .retAddr 0] [] s (some (.int o), s) := by
  unfold f_M_isBrought at h
  refine gd h (fun g1 h => ?_)
  refine Ev_blk 2 (pc' := 2) (ls' := [.ref a0, .int a1, .retAddr 0, .retAddr 0]) (st' := [.int a1, .ref a0]) (s' := s) rfl trivial ?_
  refine bd h (fun r1 hr1 h => ?_)
  refine Ev_call 2 222 1 [.ref a0, .int a1] [] rfl rfl rfl rfl g1 rfl rfl (Nat.le_of_ble_eq_true rfl) (t_M_lengthOf hr1) ?_
  refine Ev_blk 3 (pc' := if r1 = (sI s a0 44) then 12 else 16) (ls' := [.ref a0, .int a1, .retAddr 0, .retAddr 0]) (st' := []) (s' := s) rfl ⟨trivial, g1⟩ ?_
  have k2_ : Ev 5 mZ246 17 [.ref a0, .int a1, .retAddr 0, .retAddr 0] [.int (if r1 = (sI s a0 44) then nI 1 else nI 0)] s (some (.int o), s) := by
    exact t_M_isBrought_17 h
  refine icases (fun c3 => ?_) (fun c3 => ?_)
  · exact Ev_blk 2 (pc' := 17) (ls' := [.ref a0, .int a1, .retAddr 0, .retAddr 0]) (st' := [.int (nI 1)]) (s' := s) rfl trivial (by simpa only [if_pos c3] using k2_)
  · exact Ev_blk 1 (pc' := 17) (ls' := [.ref a0, .int a1, .retAddr 0, .retAddr 0]) (st' := [.int (nI 0)]) (s' := s) rfl trivial (by simpa only [if_neg c3] using k2_)

def b_M_find_23 (k23 : Nat → Int32 → AS → Option (Int32 × AS)) (v0 : Nat) (v1 : Int32) (s : AS) : Option (Int32 × AS) :=
  if v1 < (nI 128) then
    if sT s v0 = 13 then
    (f_M_isRecord s v0 v1).bind fun r1 =>
    if r1 = (nI 0) then
      k23 v0 (v1 + nI 1) s
    else
      (f_M_isBrought s v0 v1).bind fun r2 =>
      if r2 = (nI 0) then
        k23 v0 (v1 + nI 1) s
      else
        some (v1, s)
    else none
  else
    some (-(nI 1), s)
theorem t_M_find_23 {k23 : Nat → Int32 → AS → Option (Int32 × AS)} (H23 : ∀ {v0 : Nat} {v1 : Int32} {s : AS} {o : Int32 × AS}, k23 v0 v1 s = some o → Ev 6 mZ245 23 [.ref v0, .int v1] [] s (some (.int o.1), o.2))  {v0 : Nat} {v1 : Int32} {s : AS} {o : Int32 × AS} (h : b_M_find_23 k23 v0 v1 s = some o) : Ev 6 mZ245 23 [.ref v0, .int v1] [] s (some (.int o.1), o.2) := by
  unfold b_M_find_23 at h
  refine Ev_blk 3 (pc' := if v1 < (nI 128) then 30 else 54) (ls' := [.ref v0, .int v1]) (st' := []) (s' := s) rfl trivial ?_
  refine ib h (fun c1 h => ?_) (fun c1 h => ?_)
  · refine gd h (fun g2 h => ?_)
    refine Ev_blk 2 (pc' := 32) (ls' := [.ref v0, .int v1]) (st' := [.int v1, .ref v0]) (s' := s) rfl trivial ?_
    refine bd h (fun r1 hr1 h => ?_)
    refine Ev_call 2 210 1 [.ref v0, .int v1] [] rfl rfl rfl rfl g2 rfl rfl (Nat.le_of_ble_eq_true rfl) (t_M_isRecord hr1) ?_
    refine Ev_blk 1 (pc' := if r1 = (nI 0) then 48 else 38) (ls' := [.ref v0, .int v1]) (st' := []) (s' := s) rfl trivial ?_
    refine ib h (fun c3 h => ?_) (fun c3 h => ?_)
    · refine Ev_blk 2 (pc' := 23) (ls' := [.ref v0, .int (v1 + nI 1)]) (st' := []) (s' := s) rfl trivial ?_
      exact H23 h
    · refine Ev_blk 2 (pc' := 40) (ls' := [.ref v0, .int v1]) (st' := [.int v1, .ref v0]) (s' := s) rfl trivial ?_
      refine bd h (fun r2 hr2 h => ?_)
      refine Ev_call 2 246 1 [.ref v0, .int v1] [] rfl rfl rfl rfl g2 rfl rfl (Nat.le_of_ble_eq_true rfl) (t_M_isBrought hr2) ?_
      refine Ev_blk 1 (pc' := if r2 = (nI 0) then 48 else 46) (ls' := [.ref v0, .int v1]) (st' := []) (s' := s) rfl trivial ?_
      refine ib h (fun c4 h => ?_) (fun c4 h => ?_)
      · refine Ev_blk 2 (pc' := 23) (ls' := [.ref v0, .int (v1 + nI 1)]) (st' := []) (s' := s) rfl trivial ?_
        exact H23 h
      · refine Ev_blk 1 (pc' := 47) (ls' := [.ref v0, .int v1]) (st' := [.int v1]) (s' := s) rfl trivial ?_
        cases h
        exact Ev_ret rfl trivial
  · refine Ev_blk 1 (pc' := 55) (ls' := [.ref v0, .int v1]) (st' := [.int (-(nI 1))]) (s' := s) rfl trivial ?_
    cases h
    exact Ev_ret rfl trivial
def l_M_find_23  : Nat → Nat → Int32 → AS → Option (Int32 × AS)
  | 0 => fun _ _ _ => none
  | n + 1 => b_M_find_23  (l_M_find_23  n)
theorem u_M_find_23   {n : Nat} : ∀  {v0 : Nat} {v1 : Int32} {s : AS} {o : Int32 × AS}, l_M_find_23  n v0 v1 s = some o → Ev 6 mZ245 23 [.ref v0, .int v1] [] s (some (.int o.1), o.2) := by
  induction n with
  | zero => intros; rename_i h; cases h
  | succ n ih => intros; rename_i h; exact t_M_find_23  (fun h => ih h) h
/-- RecordHeapModel.find()I -/
def f_M_find (s : AS) (a0 : Nat) : Option (Int32 × AS) :=
  if sT s a0 = 13 then
  (f_M_bringTape (setI s a0 0 (nI 0)) a0).bind fun r1 =>
  if sT r1 a0 = 13 then
  if (nI 200) < (sI r1 a0 44) then
    some (-(nI 1), r1)
  else
    l_M_find_23 fuel a0 (nI 0) r1
  else none
  else none
theorem t_M_find {s : AS} {a0 : Nat} {o : Int32 × AS} (h : f_M_find s a0 = some o) : Ev 6 mZ245 0 [.ref a0, .retAddr 0] [] s (some (.int o.1), o.2) := by
  unfold f_M_find at h
  refine gd h (fun g1 h => ?_)
  refine Ev_blk 4 (pc' := 6) (ls' := [.ref a0, .retAddr 0]) (st' := [.ref a0]) (s' := setI s a0 0 (nI 0)) rfl ⟨trivial, g1⟩ ?_
  refine bd h (fun r1 hr1 h => ?_)
  refine Ev_call 2 183 0 [.ref a0] [] rfl rfl rfl rfl g1 rfl rfl (Nat.le_of_ble_eq_true rfl) (t_M_bringTape hr1) ?_
  refine gd h (fun g2 h => ?_)
  refine Ev_blk 4 (pc' := if (nI 200) < (sI r1 a0 44) then 19 else 21) (ls' := [.ref a0, .retAddr 0]) (st' := []) (s' := r1) rfl ⟨trivial, g2⟩ ?_
  refine ib h (fun c3 h => ?_) (fun c3 h => ?_)
  · refine Ev_blk 1 (pc' := 20) (ls' := [.ref a0, .retAddr 0]) (st' := [.int (-(nI 1))]) (s' := r1) rfl trivial ?_
    cases h
    exact Ev_ret rfl trivial
  · refine Ev_blk 2 (pc' := 23) (ls' := [.ref a0, .int (nI 0)]) (st' := []) (s' := r1) rfl trivial ?_
    exact u_M_find_23 h

def b_M_bringAlike_7 (k7 : Nat → Int32 → Int32 → Int32 → AS → Option AS) (v0 : Nat) (v1 : Int32) (v2 : Int32) (v3 : Int32) (s : AS) : Option AS :=
  if v3 < v1 then
    if sT s v0 = 13 then
    if sT s (sR s v0 43) = 20 ∧ inA v3 (sN s (sR s v0 43)) then
    k7 v0 v1 v2 (v3 + nI 1) (setI s (sR s v0 43) v3.toNatClampNeg v2)
    else none
    else none
  else
    some s
theorem t_M_bringAlike_7 {k7 : Nat → Int32 → Int32 → Int32 → AS → Option AS} (H7 : ∀ {v0 : Nat} {v1 : Int32} {v2 : Int32} {v3 : Int32} {s : AS} {o : AS}, k7 v0 v1 v2 v3 s = some o → Ev 0 mZ248 7 [.ref v0, .int v1, .int v2, .int v3] [] s (none, o))  {v0 : Nat} {v1 : Int32} {v2 : Int32} {v3 : Int32} {s : AS} {o : AS} (h : b_M_bringAlike_7 k7 v0 v1 v2 v3 s = some o) : Ev 0 mZ248 7 [.ref v0, .int v1, .int v2, .int v3] [] s (none, o) := by
  unfold b_M_bringAlike_7 at h
  refine Ev_blk 3 (pc' := if v3 < v1 then 12 else 25) (ls' := [.ref v0, .int v1, .int v2, .int v3]) (st' := []) (s' := s) rfl trivial ?_
  refine ib h (fun c1 h => ?_) (fun c1 h => ?_)
  · refine gd h (fun g2 h => ?_)
    refine gd h (fun g3 h => ?_)
    refine Ev_blk 7 (pc' := 7) (ls' := [.ref v0, .int v1, .int v2, .int (v3 + nI 1)]) (st' := []) (s' := setI s (sR s v0 43) v3.toNatClampNeg v2) rfl ⟨⟨trivial, g2⟩, g3⟩ ?_
    exact H7 h
  · cases h
    exact Ev_ret rfl trivial
def l_M_bringAlike_7  : Nat → Nat → Int32 → Int32 → Int32 → AS → Option AS
  | 0 => fun _ _ _ _ _ => none
  | n + 1 => b_M_bringAlike_7  (l_M_bringAlike_7  n)
theorem u_M_bringAlike_7   {n : Nat} : ∀  {v0 : Nat} {v1 : Int32} {v2 : Int32} {v3 : Int32} {s : AS} {o : AS}, l_M_bringAlike_7  n v0 v1 v2 v3 s = some o → Ev 0 mZ248 7 [.ref v0, .int v1, .int v2, .int v3] [] s (none, o) := by
  induction n with
  | zero => intros; rename_i h; cases h
  | succ n ih => intros; rename_i h; exact t_M_bringAlike_7  (fun h => ih h) h
/-- RecordHeapModel.bringAlike(II)V -/
def f_M_bringAlike (s : AS) (a0 : Nat) (a1 : Int32) (a2 : Int32) : Option AS :=
  if sT s a0 = 13 then
  l_M_bringAlike_7 fuel a0 a1 a2 (nI 0) (setI s a0 44 a1)
  else none
theorem t_M_bringAlike {s : AS} {a0 : Nat} {a1 : Int32} {a2 : Int32} {o : AS} (h : f_M_bringAlike s a0 a1 a2 = some o) : Ev 0 mZ248 0 [.ref a0, .int a1, .int a2, .retAddr 0] [] s (none, o) := by
  unfold f_M_bringAlike at h
  refine gd h (fun g1 h => ?_)
  refine Ev_blk 5 (pc' := 7) (ls' := [.ref a0, .int a1, .int a2, .int (nI 0)]) (st' := []) (s' := setI s a0 44 a1) rfl ⟨trivial, g1⟩ ?_
  exact u_M_bringAlike_7 h

def b_M_fit_33 (k33 : Nat → Int32 → AS → Option (Int32 × AS)) (v0 : Nat) (v2 : Int32) (s : AS) : Option (Int32 × AS) :=
  if sT s v0 = 13 then
  (f_M_putIt s v0).bind fun r1 =>
  if r1.1 = (-(nI 1)) then
    if sT r1.2 v0 = 13 then
    (f_M_putBack r1.2 v0 (nI 16)).bind fun r2 =>
    some (v2, r2)
    else none
  else
    k33 v0 (v2 + nI 1) r1.2
  else none
theorem t_M_fit_33 {k33 : Nat → Int32 → AS → Option (Int32 × AS)} (H33 : ∀ {d1 : Value} {v0 : Nat} {v2 : Int32} {s : AS} {o : Int32 × AS}, k33 v0 v2 s = some o → Ev 11 mZ247 33 [.ref v0, d1, .int v2] [] s (some (.int o.1), o.2)) {d1 : Value} {v0 : Nat} {v2 : Int32} {s : AS} {o : Int32 × AS} (h : b_M_fit_33 k33 v0 v2 s = some o) : Ev 11 mZ247 33 [.ref v0, d1, .int v2] [] s (some (.int o.1), o.2) := by
  unfold b_M_fit_33 at h
  refine gd h (fun g1 h => ?_)
  refine Ev_blk 1 (pc' := 34) (ls' := [.ref v0, d1, .int v2]) (st' := [.ref v0]) (s' := s) rfl trivial ?_
  refine bd h (fun r1 hr1 h => ?_)
  refine Ev_call 2 186 0 [.ref v0] [] rfl rfl rfl rfl g1 rfl rfl (Nat.le_of_ble_eq_true rfl) (t_M_putIt hr1) ?_
  refine Ev_blk 2 (pc' := if r1.1 = (-(nI 1)) then 47 else 41) (ls' := [.ref v0, d1, .int v2]) (st' := []) (s' := r1.2) rfl trivial ?_
  refine ib h (fun c2 h => ?_) (fun c2 h => ?_)
  · refine gd h (fun g3 h => ?_)
    refine Ev_blk 2 (pc' := 50) (ls' := [.ref v0, d1, .int v2]) (st' := [.int (nI 16), .ref v0]) (s' := r1.2) rfl trivial ?_
    refine bd h (fun r2 hr2 h => ?_)
    refine Ev_call 2 143 1 [.ref v0, .int (nI 16)] [] rfl rfl rfl rfl g3 rfl rfl (Nat.le_of_ble_eq_true rfl) (t_M_putBack hr2) ?_
    refine Ev_blk 1 (pc' := 54) (ls' := [.ref v0, d1, .int v2]) (st' := [.int v2]) (s' := r2) rfl trivial ?_
    cases h
    exact Ev_ret rfl trivial
  · refine Ev_blk 2 (pc' := 33) (ls' := [.ref v0, (clrV d1), .int (v2 + nI 1)]) (st' := []) (s' := r1.2) rfl trivial ?_
    exact H33 h
def l_M_fit_33  : Nat → Nat → Int32 → AS → Option (Int32 × AS)
  | 0 => fun _ _ _ => none
  | n + 1 => b_M_fit_33  (l_M_fit_33  n)
theorem u_M_fit_33   {n : Nat} : ∀ {d1 : Value} {v0 : Nat} {v2 : Int32} {s : AS} {o : Int32 × AS}, l_M_fit_33  n v0 v2 s = some o → Ev 11 mZ247 33 [.ref v0, d1, .int v2] [] s (some (.int o.1), o.2) := by
  induction n with
  | zero => intros; rename_i h; cases h
  | succ n ih => intros; rename_i h; exact t_M_fit_33  (fun h => ih h) h
/-- RecordHeapModel.fit(I)I -/
def f_M_fit (s : AS) (a0 : Nat) (a1 : Int32) : Option (Int32 × AS) :=
  if sT s a0 = 13 then
  (f_M_in (setI s a0 0 (nI 0)) a1.toInt64 (lN 0) (lN 200)).bind fun r1 =>
  if r1 = (nI 0) then
    some (-(nI 1), setI s a0 0 (nI 0))
  else
    (f_M_keepAll (setI s a0 0 (nI 0)) a0 (nI 16)).bind fun r2 =>
    if sT r2 a0 = 13 then
    (f_M_bringAlike r2 a0 a1 (nI 0)).bind fun r3 =>
    l_M_fit_33 fuel a0 (nI 0) r3
    else none
  else none
theorem t_M_fit {s : AS} {a0 : Nat} {a1 : Int32} {o : Int32 × AS} (h : f_M_fit s a0 a1 = some o) : Ev 11 mZ247 0 [.ref a0, .int a1, .retAddr 0] [] s (some (.int o.1), o.2) := by
  unfold f_M_fit at h
  refine gd h (fun g1 h => ?_)
  refine Ev_blk 7 (pc' := 11) (ls' := [.ref a0, .int a1, .retAddr 0]) (st' := [.long (lN 200), .long (lN 0), .long a1.toInt64]) (s' := setI s a0 0 (nI 0)) rfl ⟨trivial, g1⟩ ?_
  refine bd h (fun r1 hr1 h => ?_)
  refine Ev_call 1 145 3 [.long a1.toInt64, .long (lN 0), .long (lN 200)] [] rfl rfl rfl rfl trivial rfl rfl (Nat.le_of_ble_eq_true rfl) (t_M_in hr1) ?_
  refine Ev_blk 1 (pc' := if r1 = (nI 0) then 17 else 19) (ls' := [.ref a0, .int a1, .retAddr 0]) (st' := []) (s' := setI s a0 0 (nI 0)) rfl trivial ?_
  refine ib h (fun c2 h => ?_) (fun c2 h => ?_)
  · refine Ev_blk 1 (pc' := 18) (ls' := [.ref a0, .int a1, .retAddr 0]) (st' := [.int (-(nI 1))]) (s' := setI s a0 0 (nI 0)) rfl trivial ?_
    cases h
    exact Ev_ret rfl trivial
  · refine Ev_blk 2 (pc' := 22) (ls' := [.ref a0, .int a1, .retAddr 0]) (st' := [.int (nI 16), .ref a0]) (s' := setI s a0 0 (nI 0)) rfl trivial ?_
    refine bd h (fun r2 hr2 h => ?_)
    refine Ev_call 2 185 1 [.ref a0, .int (nI 16)] [] rfl rfl rfl rfl g1 rfl rfl (Nat.le_of_ble_eq_true rfl) (t_M_keepAll hr2) ?_
    refine gd h (fun g3 h => ?_)
    refine Ev_blk 3 (pc' := 28) (ls' := [.ref a0, .int a1, .retAddr 0]) (st' := [.int (nI 0), .int a1, .ref a0]) (s' := r2) rfl trivial ?_
    refine bd h (fun r3 hr3 h => ?_)
    refine Ev_call 2 248 2 [.ref a0, .int a1, .int (nI 0)] [] rfl rfl rfl rfl g3 rfl rfl (Nat.le_of_ble_eq_true rfl) (t_M_bringAlike hr3) ?_
    refine Ev_blk 2 (pc' := 33) (ls' := [.ref a0, .int a1, .int (nI 0)]) (st' := []) (s' := r3) rfl trivial ?_
    exact u_M_fit_33 h

