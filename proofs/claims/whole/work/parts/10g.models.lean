def b_M_worst_60 (k7 : Nat → Int32 → Int32 → AS → Option (Int32 × AS)) (k18 : Nat → Int32 → Int32 → Int32 → Int32 → AS → Option (Int32 × AS)) (v0 : Nat) (v1 : Int32) (v2 : Int32) (v4 : Int32) (w0 : Int32) (s : AS) : Option (Int32 × AS) :=
  k18 v0 v1 v2 (w0 + (nI 1)) (v4 + nI 1) s
theorem t_M_worst_60 {k7 : Nat → Int32 → Int32 → AS → Option (Int32 × AS)} {k18 : Nat → Int32 → Int32 → Int32 → Int32 → AS → Option (Int32 × AS)} (H7 : ∀ {d3 d4 : Value} {v0 : Nat} {v1 : Int32} {v2 : Int32} {s : AS} {o : Int32 × AS}, k7 v0 v1 v2 s = some o → Ev 6 mZ249 7 [.ref v0, .int v1, .int v2, d3, d4] [] s (some (.int o.1), o.2)) (H18 : ∀ {v0 : Nat} {v1 : Int32} {v2 : Int32} {v3 : Int32} {v4 : Int32} {s : AS} {o : Int32 × AS}, k18 v0 v1 v2 v3 v4 s = some o → Ev 6 mZ249 18 [.ref v0, .int v1, .int v2, .int v3, .int v4] [] s (some (.int o.1), o.2)) {d3 : Value} {v0 : Nat} {v1 : Int32} {v2 : Int32} {v4 : Int32} {w0 : Int32} {s : AS} {o : Int32 × AS} (h : b_M_worst_60 k7 k18 v0 v1 v2 v4 w0 s = some o) : Ev 6 mZ249 60 [.ref v0, .int v1, .int v2, d3, .int v4] [.int w0] s (some (.int o.1), o.2) := by
  unfold b_M_worst_60 at h
  refine Ev_blk 6 (pc' := 18) (ls' := [.ref v0, .int v1, .int v2, .int (w0 + (nI 1)), .int (v4 + nI 1)]) (st' := []) (s' := s) rfl trivial ?_
  exact H18 h
def b_M_worst_18 (k7 : Nat → Int32 → Int32 → AS → Option (Int32 × AS)) (k18 : Nat → Int32 → Int32 → Int32 → Int32 → AS → Option (Int32 × AS)) (v0 : Nat) (v1 : Int32) (v2 : Int32) (v3 : Int32) (v4 : Int32) (s : AS) : Option (Int32 × AS) :=
  if v4 < (nI 8) then
    if sT s v0 = 13 then
    (f_M_wasteOf s v0 v4).bind fun r1 =>
    (f_M_wasteOf s v0 v2).bind fun r2 =>
    if r2 < r1 then
      b_M_worst_60 k7 k18 v0 v1 v2 v4 v3 s
    else
      (f_M_wasteOf s v0 v4).bind fun r3 =>
      (f_M_wasteOf s v0 v2).bind fun r4 =>
        k18 v0 v1 v2 (v3 + (if r3 = r4 then (if v4 < v2 then nI 1 else nI 0) else nI 0)) (v4 + nI 1) s
    else none
  else
    if v3 = v1 then
      some (v2, s)
    else
      k7 v0 v1 (v2 + nI 1) s
theorem t_M_worst_18 {k7 : Nat → Int32 → Int32 → AS → Option (Int32 × AS)} {k18 : Nat → Int32 → Int32 → Int32 → Int32 → AS → Option (Int32 × AS)} (H7 : ∀ {d3 d4 : Value} {v0 : Nat} {v1 : Int32} {v2 : Int32} {s : AS} {o : Int32 × AS}, k7 v0 v1 v2 s = some o → Ev 6 mZ249 7 [.ref v0, .int v1, .int v2, d3, d4] [] s (some (.int o.1), o.2)) (H18 : ∀ {v0 : Nat} {v1 : Int32} {v2 : Int32} {v3 : Int32} {v4 : Int32} {s : AS} {o : Int32 × AS}, k18 v0 v1 v2 v3 v4 s = some o → Ev 6 mZ249 18 [.ref v0, .int v1, .int v2, .int v3, .int v4] [] s (some (.int o.1), o.2))  {v0 : Nat} {v1 : Int32} {v2 : Int32} {v3 : Int32} {v4 : Int32} {s : AS} {o : Int32 × AS} (h : b_M_worst_18 k7 k18 v0 v1 v2 v3 v4 s = some o) : Ev 6 mZ249 18 [.ref v0, .int v1, .int v2, .int v3, .int v4] [] s (some (.int o.1), o.2) := by
  unfold b_M_worst_18 at h
  refine Ev_blk 3 (pc' := if v4 < (nI 8) then 25 else 73) (ls' := [.ref v0, .int v1, .int v2, .int v3, .int v4]) (st' := []) (s' := s) rfl trivial ?_
  refine ib h (fun c1 h => ?_) (fun c1 h => ?_)
  · refine gd h (fun g2 h => ?_)
    refine Ev_blk 3 (pc' := 29) (ls' := [.ref v0, .int v1, .int v2, .int v3, .int v4]) (st' := [.int v4, .ref v0, .int v3]) (s' := s) rfl trivial ?_
    refine bd h (fun r1 hr1 h => ?_)
    refine Ev_call 2 227 1 [.ref v0, .int v4] [.int v3] rfl rfl rfl rfl g2 rfl rfl (Nat.le_of_ble_eq_true rfl) (t_M_wasteOf hr1) ?_
    refine Ev_blk 2 (pc' := 34) (ls' := [.ref v0, .int v1, .int v2, .int v3, .int v4]) (st' := [.int v2, .ref v0, .int r1, .int v3]) (s' := s) rfl trivial ?_
    refine bd h (fun r2 hr2 h => ?_)
    refine Ev_call 2 227 1 [.ref v0, .int v2] [.int r1, .int v3] rfl rfl rfl rfl g2 rfl rfl (Nat.le_of_ble_eq_true rfl) (t_M_wasteOf hr2) ?_
    refine Ev_blk 1 (pc' := if r2 < r1 then 60 else 40) (ls' := [.ref v0, .int v1, .int v2, .int v3, .int v4]) (st' := [.int v3]) (s' := s) rfl trivial ?_
    refine ib h (fun c3 h => ?_) (fun c3 h => ?_)
    · exact t_M_worst_60 H7 H18 h
    · refine Ev_blk 2 (pc' := 43) (ls' := [.ref v0, .int v1, .int v2, .int v3, .int v4]) (st' := [.int v4, .ref v0, .int v3]) (s' := s) rfl trivial ?_
      refine bd h (fun r3 hr3 h => ?_)
      refine Ev_call 2 227 1 [.ref v0, .int v4] [.int v3] rfl rfl rfl rfl g2 rfl rfl (Nat.le_of_ble_eq_true rfl) (t_M_wasteOf hr3) ?_
      refine Ev_blk 2 (pc' := 48) (ls' := [.ref v0, .int v1, .int v2, .int v3, .int v4]) (st' := [.int v2, .ref v0, .int r3, .int v3]) (s' := s) rfl trivial ?_
      refine bd h (fun r4 hr4 h => ?_)
      refine Ev_call 2 227 1 [.ref v0, .int v2] [.int r3, .int v3] rfl rfl rfl rfl g2 rfl rfl (Nat.le_of_ble_eq_true rfl) (t_M_wasteOf hr4) ?_
      refine Ev_blk 1 (pc' := if r3 = r4 then 54 else 64) (ls' := [.ref v0, .int v1, .int v2, .int v3, .int v4]) (st' := [.int v3]) (s' := s) rfl trivial ?_
      have k4_ : Ev 6 mZ249 65 [.ref v0, .int v1, .int v2, .int v3, .int v4] [.int (if r3 = r4 then (if v4 < v2 then nI 1 else nI 0) else nI 0), .int v3] s (some (.int o.1), o.2) := by
        refine Ev_blk 4 (pc' := 18) (ls' := [.ref v0, .int v1, .int v2, .int (v3 + (if r3 = r4 then (if v4 < v2 then nI 1 else nI 0) else nI 0)), .int (v4 + nI 1)]) (st' := []) (s' := s) rfl trivial ?_
        exact H18 h
      refine icases (fun c5 => ?_) (fun c5 => ?_)
      · refine Ev_blk 3 (pc' := if v4 < v2 then 60 else 64) (ls' := [.ref v0, .int v1, .int v2, .int v3, .int v4]) (st' := [.int v3]) (s' := s) rfl trivial ?_
        refine icases (fun c6 => ?_) (fun c6 => ?_)
        · exact Ev_blk 2 (pc' := 65) (ls' := [.ref v0, .int v1, .int v2, .int v3, .int v4]) (st' := [.int (nI 1), .int v3]) (s' := s) rfl trivial (by simpa only [if_pos c5, if_pos c6] using k4_)
        · exact Ev_blk 1 (pc' := 65) (ls' := [.ref v0, .int v1, .int v2, .int v3, .int v4]) (st' := [.int (nI 0), .int v3]) (s' := s) rfl trivial (by simpa only [if_pos c5, if_neg c6] using k4_)
      · exact Ev_blk 1 (pc' := 65) (ls' := [.ref v0, .int v1, .int v2, .int v3, .int v4]) (st' := [.int (nI 0), .int v3]) (s' := s) rfl trivial (by simpa only [if_neg c5] using k4_)
  · refine Ev_blk 3 (pc' := if v3 = v1 then 78 else 80) (ls' := [.ref v0, .int v1, .int v2, .int v3, .int v4]) (st' := []) (s' := s) rfl trivial ?_
    refine ib h (fun c7 h => ?_) (fun c7 h => ?_)
    · refine Ev_blk 1 (pc' := 79) (ls' := [.ref v0, .int v1, .int v2, .int v3, .int v4]) (st' := [.int v2]) (s' := s) rfl trivial ?_
      cases h
      exact Ev_ret rfl trivial
    · refine Ev_blk 2 (pc' := 7) (ls' := [.ref v0, .int v1, .int (v2 + nI 1), .int v3, .int v4]) (st' := []) (s' := s) rfl trivial ?_
      exact H7 h
def l_M_worst_18 (k7 : Nat → Int32 → Int32 → AS → Option (Int32 × AS)) : Nat → Nat → Int32 → Int32 → Int32 → Int32 → AS → Option (Int32 × AS)
  | 0 => fun _ _ _ _ _ _ => none
  | n + 1 => b_M_worst_18 k7 (l_M_worst_18 k7 n)
theorem u_M_worst_18 {k7 : Nat → Int32 → Int32 → AS → Option (Int32 × AS)} (H7 : ∀ {d3 d4 : Value} {v0 : Nat} {v1 : Int32} {v2 : Int32} {s : AS} {o : Int32 × AS}, k7 v0 v1 v2 s = some o → Ev 6 mZ249 7 [.ref v0, .int v1, .int v2, d3, d4] [] s (some (.int o.1), o.2)) {n : Nat} : ∀  {v0 : Nat} {v1 : Int32} {v2 : Int32} {v3 : Int32} {v4 : Int32} {s : AS} {o : Int32 × AS}, l_M_worst_18 k7 n v0 v1 v2 v3 v4 s = some o → Ev 6 mZ249 18 [.ref v0, .int v1, .int v2, .int v3, .int v4] [] s (some (.int o.1), o.2) := by
  induction n with
  | zero => intros; rename_i h; cases h
  | succ n ih => intros; rename_i h; exact t_M_worst_18 H7 (fun h => ih h) h
def b_M_worst_7 (k7 : Nat → Int32 → Int32 → AS → Option (Int32 × AS)) (v0 : Nat) (v1 : Int32) (v2 : Int32) (s : AS) : Option (Int32 × AS) :=
  if v2 < (nI 8) then
    l_M_worst_18 k7 fuel v0 v1 v2 (nI 0) (nI 0) s
  else
    some (-(nI 1), s)
theorem t_M_worst_7 {k7 : Nat → Int32 → Int32 → AS → Option (Int32 × AS)} (H7 : ∀ {d3 d4 : Value} {v0 : Nat} {v1 : Int32} {v2 : Int32} {s : AS} {o : Int32 × AS}, k7 v0 v1 v2 s = some o → Ev 6 mZ249 7 [.ref v0, .int v1, .int v2, d3, d4] [] s (some (.int o.1), o.2)) {d3 d4 : Value} {v0 : Nat} {v1 : Int32} {v2 : Int32} {s : AS} {o : Int32 × AS} (h : b_M_worst_7 k7 v0 v1 v2 s = some o) : Ev 6 mZ249 7 [.ref v0, .int v1, .int v2, d3, d4] [] s (some (.int o.1), o.2) := by
  unfold b_M_worst_7 at h
  refine Ev_blk 3 (pc' := if v2 < (nI 8) then 13 else 86) (ls' := [.ref v0, .int v1, .int v2, d3, d4]) (st' := []) (s' := s) rfl trivial ?_
  refine ib h (fun c1 h => ?_) (fun c1 h => ?_)
  · refine Ev_blk 4 (pc' := 18) (ls' := [.ref v0, .int v1, .int v2, .int (nI 0), .int (nI 0)]) (st' := []) (s' := s) rfl trivial ?_
    exact u_M_worst_18 H7 h
  · refine Ev_blk 1 (pc' := 87) (ls' := [.ref v0, .int v1, .int v2, d3, d4]) (st' := [.int (-(nI 1))]) (s' := s) rfl trivial ?_
    cases h
    exact Ev_ret rfl trivial
def l_M_worst_7  : Nat → Nat → Int32 → Int32 → AS → Option (Int32 × AS)
  | 0 => fun _ _ _ _ => none
  | n + 1 => b_M_worst_7  (l_M_worst_7  n)
theorem u_M_worst_7   {n : Nat} : ∀ {d3 d4 : Value} {v0 : Nat} {v1 : Int32} {v2 : Int32} {s : AS} {o : Int32 × AS}, l_M_worst_7  n v0 v1 v2 s = some o → Ev 6 mZ249 7 [.ref v0, .int v1, .int v2, d3, d4] [] s (some (.int o.1), o.2) := by
  induction n with
  | zero => intros; rename_i h; cases h
  | succ n ih => intros; rename_i h; exact t_M_worst_7  (fun h => ih h) h
/-- RecordHeapModel.worst(I)I -/
def f_M_worst (s : AS) (a0 : Nat) (a1 : Int32) : Option (Int32 × AS) :=
  if sT s a0 = 13 then
  l_M_worst_7 fuel a0 a1 (nI 0) (setI s a0 0 (nI 0))
  else none
theorem t_M_worst {s : AS} {a0 : Nat} {a1 : Int32} {o : Int32 × AS} (h : f_M_worst s a0 a1 = some o) : Ev 6 mZ249 0 [.ref a0, .int a1, .retAddr 0, .retAddr 0, .retAddr 0] [] s (some (.int o.1), o.2) := by
  unfold f_M_worst at h
  refine gd h (fun g1 h => ?_)
  refine Ev_blk 5 (pc' := 7) (ls' := [.ref a0, .int a1, .int (nI 0), .retAddr 0, .retAddr 0]) (st' := []) (s' := setI s a0 0 (nI 0)) rfl ⟨trivial, g1⟩ ?_
  exact u_M_worst_7 h

def b_M_few_85 (k74 : Nat → Int32 → Int32 → Int32 → Int32 → AS → Option (Int64 × AS)) (k85 : Nat → Int32 → Int32 → Int32 → Int32 → Int32 → AS → Option (Int64 × AS)) (v0 : Nat) (v1 : Int32) (v2 : Int32) (v3 : Int32) (v4 : Int32) (v5 : Int32) (s : AS) : Option (Int64 × AS) :=
  if v5 < (nI 0) then
    k74 v0 v1 v2 v3 (v4 + nI 1) s
  else
    if sT s v0 = 13 then
    if sT s (sR s v0 47) = 21 ∧ inA v5 (sN s (sR s v0 47)) then
    if ¬ (lN 10) = lN 0 then
    if sT s (sR s v0 47) = 21 ∧ inA (v5 + (nI 1)) (sN s (sR s v0 47)) then
    k85 v0 v1 v2 v3 v4 (v5 + (-(nI 1))) (setJ (setJ s (sR s v0 47) v5.toNatClampNeg (((sL s (sR s v0 47) v5.toNatClampNeg) * (((nI 10) - v3).toInt64)) / (lN 10))) (sR s v0 47) (v5 + (nI 1)).toNatClampNeg ((sL (setJ s (sR s v0 47) v5.toNatClampNeg (((sL s (sR s v0 47) v5.toNatClampNeg) * (((nI 10) - v3).toInt64)) / (lN 10))) (sR s v0 47) (v5 + (nI 1)).toNatClampNeg) + (((sL s (sR s v0 47) v5.toNatClampNeg) * v3.toInt64) / (lN 10))))
    else none
    else none
    else none
    else none
theorem t_M_few_85 {k74 : Nat → Int32 → Int32 → Int32 → Int32 → AS → Option (Int64 × AS)} {k85 : Nat → Int32 → Int32 → Int32 → Int32 → Int32 → AS → Option (Int64 × AS)} (H74 : ∀ {d5 d6 d7 : Value} {v0 : Nat} {v1 : Int32} {v2 : Int32} {v3 : Int32} {v4 : Int32} {s : AS} {o : Int64 × AS}, k74 v0 v1 v2 v3 v4 s = some o → Ev 1 mZ250 74 [.ref v0, .int v1, .int v2, .int v3, .int v4, d5, d6, d7] [] s (some (.long o.1), o.2)) (H85 : ∀ {d6 d7 : Value} {v0 : Nat} {v1 : Int32} {v2 : Int32} {v3 : Int32} {v4 : Int32} {v5 : Int32} {s : AS} {o : Int64 × AS}, k85 v0 v1 v2 v3 v4 v5 s = some o → Ev 1 mZ250 85 [.ref v0, .int v1, .int v2, .int v3, .int v4, .int v5, d6, d7] [] s (some (.long o.1), o.2)) {d6 d7 : Value} {v0 : Nat} {v1 : Int32} {v2 : Int32} {v3 : Int32} {v4 : Int32} {v5 : Int32} {s : AS} {o : Int64 × AS} (h : b_M_few_85 k74 k85 v0 v1 v2 v3 v4 v5 s = some o) : Ev 1 mZ250 85 [.ref v0, .int v1, .int v2, .int v3, .int v4, .int v5, d6, d7] [] s (some (.long o.1), o.2) := by
  unfold b_M_few_85 at h
  refine Ev_blk 2 (pc' := if v5 < (nI 0) then 145 else 90) (ls' := [.ref v0, .int v1, .int v2, .int v3, .int v4, .int v5, d6, d7]) (st' := []) (s' := s) rfl trivial ?_
  refine ib h (fun c1 h => ?_) (fun c1 h => ?_)
  · refine Ev_blk 2 (pc' := 74) (ls' := [.ref v0, .int v1, .int v2, .int v3, .int (v4 + nI 1), .int v5, d6, d7]) (st' := []) (s' := s) rfl trivial ?_
    exact H74 h
  · refine gd h (fun g2 h => ?_)
    refine gd h (fun g3 h => ?_)
    refine gd h (fun g4 h => ?_)
    refine gd h (fun g5 h => ?_)
    refine Ev_blk 34 (pc' := 85) (ls' := [.ref v0, .int v1, .int v2, .int v3, .int v4, .int (v5 + (-(nI 1))), .long (sL s (sR s v0 47) v5.toNatClampNeg), .retAddr 0]) (st' := []) (s' := setJ (setJ s (sR s v0 47) v5.toNatClampNeg (((sL s (sR s v0 47) v5.toNatClampNeg) * (((nI 10) - v3).toInt64)) / (lN 10))) (sR s v0 47) (v5 + (nI 1)).toNatClampNeg ((sL (setJ s (sR s v0 47) v5.toNatClampNeg (((sL s (sR s v0 47) v5.toNatClampNeg) * (((nI 10) - v3).toInt64)) / (lN 10))) (sR s v0 47) (v5 + (nI 1)).toNatClampNeg) + (((sL s (sR s v0 47) v5.toNatClampNeg) * v3.toInt64) / (lN 10)))) rfl ⟨⟨⟨⟨⟨⟨⟨⟨⟨trivial, g2⟩, g3⟩, g2⟩, g4⟩, g3⟩, g2⟩, g5⟩, g4⟩, g5⟩ ?_
    exact H85 h
def l_M_few_85 (k74 : Nat → Int32 → Int32 → Int32 → Int32 → AS → Option (Int64 × AS)) : Nat → Nat → Int32 → Int32 → Int32 → Int32 → Int32 → AS → Option (Int64 × AS)
  | 0 => fun _ _ _ _ _ _ _ => none
  | n + 1 => b_M_few_85 k74 (l_M_few_85 k74 n)
theorem u_M_few_85 {k74 : Nat → Int32 → Int32 → Int32 → Int32 → AS → Option (Int64 × AS)} (H74 : ∀ {d5 d6 d7 : Value} {v0 : Nat} {v1 : Int32} {v2 : Int32} {v3 : Int32} {v4 : Int32} {s : AS} {o : Int64 × AS}, k74 v0 v1 v2 v3 v4 s = some o → Ev 1 mZ250 74 [.ref v0, .int v1, .int v2, .int v3, .int v4, d5, d6, d7] [] s (some (.long o.1), o.2)) {n : Nat} : ∀ {d6 d7 : Value} {v0 : Nat} {v1 : Int32} {v2 : Int32} {v3 : Int32} {v4 : Int32} {v5 : Int32} {s : AS} {o : Int64 × AS}, l_M_few_85 k74 n v0 v1 v2 v3 v4 v5 s = some o → Ev 1 mZ250 85 [.ref v0, .int v1, .int v2, .int v3, .int v4, .int v5, d6, d7] [] s (some (.long o.1), o.2) := by
  induction n with
  | zero => intros; rename_i h; cases h
  | succ n ih => intros; rename_i h; exact t_M_few_85 H74 (fun h => ih h) h
def b_M_few_157 (k157 : Nat → Int32 → Int64 → Int32 → AS → Option (Int64 × AS)) (v0 : Nat) (v1 : Int32) (v4 : Int64) (v6 : Int32) (s : AS) : Option (Int64 × AS) :=
  if v6 < v1 then
    if sT s v0 = 13 then
    if sT s (sR s v0 47) = 21 ∧ inA v6 (sN s (sR s v0 47)) then
    k157 v0 v1 (v4 + (sL s (sR s v0 47) v6.toNatClampNeg)) (v6 + nI 1) s
    else none
    else none
  else
    some (v4, s)
theorem t_M_few_157 {k157 : Nat → Int32 → Int64 → Int32 → AS → Option (Int64 × AS)} (H157 : ∀ {d2 d3 d5 d7 : Value} {v0 : Nat} {v1 : Int32} {v4 : Int64} {v6 : Int32} {s : AS} {o : Int64 × AS}, k157 v0 v1 v4 v6 s = some o → Ev 1 mZ250 157 [.ref v0, .int v1, d2, d3, .long v4, d5, .int v6, d7] [] s (some (.long o.1), o.2)) {d2 d3 d5 d7 : Value} {v0 : Nat} {v1 : Int32} {v4 : Int64} {v6 : Int32} {s : AS} {o : Int64 × AS} (h : b_M_few_157 k157 v0 v1 v4 v6 s = some o) : Ev 1 mZ250 157 [.ref v0, .int v1, d2, d3, .long v4, d5, .int v6, d7] [] s (some (.long o.1), o.2) := by
  unfold b_M_few_157 at h
  refine Ev_blk 3 (pc' := if v6 < v1 then 163 else 181) (ls' := [.ref v0, .int v1, d2, d3, .long v4, d5, .int v6, d7]) (st' := []) (s' := s) rfl trivial ?_
  refine ib h (fun c1 h => ?_) (fun c1 h => ?_)
  · refine gd h (fun g2 h => ?_)
    refine gd h (fun g3 h => ?_)
    refine Ev_blk 9 (pc' := 157) (ls' := [.ref v0, .int v1, d2, (clrV d3), .long (v4 + (sL s (sR s v0 47) v6.toNatClampNeg)), .retAddr 0, .int (v6 + nI 1), d7]) (st' := []) (s' := s) rfl ⟨⟨trivial, g2⟩, g3⟩ ?_
    exact H157 h
  · refine Ev_blk 1 (pc' := 183) (ls' := [.ref v0, .int v1, d2, d3, .long v4, d5, .int v6, d7]) (st' := [.long v4]) (s' := s) rfl trivial ?_
    cases h
    exact Ev_ret rfl trivial
def l_M_few_157  : Nat → Nat → Int32 → Int64 → Int32 → AS → Option (Int64 × AS)
  | 0 => fun _ _ _ _ _ => none
  | n + 1 => b_M_few_157  (l_M_few_157  n)
theorem u_M_few_157   {n : Nat} : ∀ {d2 d3 d5 d7 : Value} {v0 : Nat} {v1 : Int32} {v4 : Int64} {v6 : Int32} {s : AS} {o : Int64 × AS}, l_M_few_157  n v0 v1 v4 v6 s = some o → Ev 1 mZ250 157 [.ref v0, .int v1, d2, d3, .long v4, d5, .int v6, d7] [] s (some (.long o.1), o.2) := by
  induction n with
  | zero => intros; rename_i h; cases h
  | succ n ih => intros; rename_i h; exact t_M_few_157  (fun h => ih h) h
def b_M_few_74 (k74 : Nat → Int32 → Int32 → Int32 → Int32 → AS → Option (Int64 × AS)) (v0 : Nat) (v1 : Int32) (v2 : Int32) (v3 : Int32) (v4 : Int32) (s : AS) : Option (Int64 × AS) :=
  if v4 < v2 then
    l_M_few_85 k74 fuel v0 v1 v2 v3 v4 (v1 - (nI 1)) s
  else
    l_M_few_157 fuel v0 v1 (lN 0) (nI 0) s
theorem t_M_few_74 {k74 : Nat → Int32 → Int32 → Int32 → Int32 → AS → Option (Int64 × AS)} (H74 : ∀ {d5 d6 d7 : Value} {v0 : Nat} {v1 : Int32} {v2 : Int32} {v3 : Int32} {v4 : Int32} {s : AS} {o : Int64 × AS}, k74 v0 v1 v2 v3 v4 s = some o → Ev 1 mZ250 74 [.ref v0, .int v1, .int v2, .int v3, .int v4, d5, d6, d7] [] s (some (.long o.1), o.2)) {d5 d6 d7 : Value} {v0 : Nat} {v1 : Int32} {v2 : Int32} {v3 : Int32} {v4 : Int32} {s : AS} {o : Int64 × AS} (h : b_M_few_74 k74 v0 v1 v2 v3 v4 s = some o) : Ev 1 mZ250 74 [.ref v0, .int v1, .int v2, .int v3, .int v4, d5, d6, d7] [] s (some (.long o.1), o.2) := by
  unfold b_M_few_74 at h
  refine Ev_blk 3 (pc' := if v4 < v2 then 80 else 151) (ls' := [.ref v0, .int v1, .int v2, .int v3, .int v4, d5, d6, d7]) (st' := []) (s' := s) rfl trivial ?_
  refine ib h (fun c1 h => ?_) (fun c1 h => ?_)
  · refine Ev_blk 4 (pc' := 85) (ls' := [.ref v0, .int v1, .int v2, .int v3, .int v4, .int (v1 - (nI 1)), d6, d7]) (st' := []) (s' := s) rfl trivial ?_
    exact u_M_few_85 H74 h
  · refine Ev_blk 4 (pc' := 157) (ls' := [.ref v0, .int v1, .int v2, .int v3, .long (lN 0), .retAddr 0, .int (nI 0), d7]) (st' := []) (s' := s) rfl trivial ?_
    exact u_M_few_157 h
def l_M_few_74  : Nat → Nat → Int32 → Int32 → Int32 → Int32 → AS → Option (Int64 × AS)
  | 0 => fun _ _ _ _ _ _ => none
  | n + 1 => b_M_few_74  (l_M_few_74  n)
theorem u_M_few_74   {n : Nat} : ∀ {d5 d6 d7 : Value} {v0 : Nat} {v1 : Int32} {v2 : Int32} {v3 : Int32} {v4 : Int32} {s : AS} {o : Int64 × AS}, l_M_few_74  n v0 v1 v2 v3 v4 s = some o → Ev 1 mZ250 74 [.ref v0, .int v1, .int v2, .int v3, .int v4, d5, d6, d7] [] s (some (.long o.1), o.2) := by
  induction n with
  | zero => intros; rename_i h; cases h
  | succ n ih => intros; rename_i h; exact t_M_few_74  (fun h => ih h) h
def b_M_few_35 (k35 : Nat → Int32 → Int32 → Int32 → AS → Option (Int64 × AS)) (v0 : Nat) (v1 : Int32) (v2 : Int32) (v3 : Int32) (s : AS) : Option (Int64 × AS) :=
  if v3 < (nI 21) then
    if sT s v0 = 13 then
      if sT s (sR s v0 47) = 21 ∧ inA v3 (sN s (sR s v0 47)) then
      k35 v0 v1 v2 (v3 + nI 1) (setJ s (sR s v0 47) v3.toNatClampNeg (if v3 = (nI 0) then lN 1000000000000 else lN 0))
      else none
    else none
  else
    if sT s v0 = 13 then
    if sT s (sR s v0 3) = 20 ∧ inA (nI 3) (sN s (sR s v0 3)) then
    l_M_few_74 fuel v0 v1 v2 (sI s (sR s v0 3) (nI 3).toNatClampNeg) (nI 0) s
    else none
    else none
theorem t_M_few_35 {k35 : Nat → Int32 → Int32 → Int32 → AS → Option (Int64 × AS)} (H35 : ∀ {d4 d5 d6 d7 : Value} {v0 : Nat} {v1 : Int32} {v2 : Int32} {v3 : Int32} {s : AS} {o : Int64 × AS}, k35 v0 v1 v2 v3 s = some o → Ev 1 mZ250 35 [.ref v0, .int v1, .int v2, .int v3, d4, d5, d6, d7] [] s (some (.long o.1), o.2)) {d4 d5 d6 d7 : Value} {v0 : Nat} {v1 : Int32} {v2 : Int32} {v3 : Int32} {s : AS} {o : Int64 × AS} (h : b_M_few_35 k35 v0 v1 v2 v3 s = some o) : Ev 1 mZ250 35 [.ref v0, .int v1, .int v2, .int v3, d4, d5, d6, d7] [] s (some (.long o.1), o.2) := by
  unfold b_M_few_35 at h
  refine Ev_blk 3 (pc' := if v3 < (nI 21) then 41 else 64) (ls' := [.ref v0, .int v1, .int v2, .int v3, d4, d5, d6, d7]) (st' := []) (s' := s) rfl trivial ?_
  refine ib h (fun c1 h => ?_) (fun c1 h => ?_)
  · refine gd h (fun g2 h => ?_)
    refine Ev_blk 5 (pc' := if v3 = (nI 0) then 50 else 56) (ls' := [.ref v0, .int v1, .int v2, .int v3, d4, d5, d6, d7]) (st' := [.int v3, .ref (sR s v0 47)]) (s' := s) rfl ⟨trivial, g2⟩ ?_
    have k3_ : Ev 1 mZ250 57 [.ref v0, .int v1, .int v2, .int v3, d4, d5, d6, d7] [.long (if v3 = (nI 0) then lN 1000000000000 else lN 0), .int v3, .ref (sR s v0 47)] s (some (.long o.1), o.2) := by
      refine gd h (fun g4 h => ?_)
      refine Ev_blk 3 (pc' := 35) (ls' := [.ref v0, .int v1, .int v2, .int (v3 + nI 1), d4, d5, d6, d7]) (st' := []) (s' := setJ s (sR s v0 47) v3.toNatClampNeg (if v3 = (nI 0) then lN 1000000000000 else lN 0)) rfl ⟨trivial, g4⟩ ?_
      exact H35 h
    refine icases (fun c5 => ?_) (fun c5 => ?_)
    · exact Ev_blk 2 (pc' := 57) (ls' := [.ref v0, .int v1, .int v2, .int v3, d4, d5, d6, d7]) (st' := [.long (lN 1000000000000), .int v3, .ref (sR s v0 47)]) (s' := s) rfl trivial (by simpa only [if_pos c5] using k3_)
    · exact Ev_blk 1 (pc' := 57) (ls' := [.ref v0, .int v1, .int v2, .int v3, d4, d5, d6, d7]) (st' := [.long (lN 0), .int v3, .ref (sR s v0 47)]) (s' := s) rfl trivial (by simpa only [if_neg c5] using k3_)
  · refine gd h (fun g6 h => ?_)
    refine gd h (fun g7 h => ?_)
    refine Ev_blk 7 (pc' := 74) (ls' := [.ref v0, .int v1, .int v2, .int (sI s (sR s v0 3) (nI 3).toNatClampNeg), .int (nI 0), d5, d6, d7]) (st' := []) (s' := s) rfl ⟨⟨trivial, g6⟩, ⟨Or.inl g7.1, g7.2⟩⟩ ?_
    exact u_M_few_74 h
def l_M_few_35  : Nat → Nat → Int32 → Int32 → Int32 → AS → Option (Int64 × AS)
  | 0 => fun _ _ _ _ _ => none
  | n + 1 => b_M_few_35  (l_M_few_35  n)
theorem u_M_few_35   {n : Nat} : ∀ {d4 d5 d6 d7 : Value} {v0 : Nat} {v1 : Int32} {v2 : Int32} {v3 : Int32} {s : AS} {o : Int64 × AS}, l_M_few_35  n v0 v1 v2 v3 s = some o → Ev 1 mZ250 35 [.ref v0, .int v1, .int v2, .int v3, d4, d5, d6, d7] [] s (some (.long o.1), o.2) := by
  induction n with
  | zero => intros; rename_i h; cases h
  | succ n ih => intros; rename_i h; exact t_M_few_35  (fun h => ih h) h
/-- RecordHeapModel.few(II)J -/
def f_M_few (s : AS) (a0 : Nat) (a1 : Int32) (a2 : Int32) : Option (Int64 × AS) :=
  if sT s a0 = 13 then
  (f_M_in (setI s a0 0 (nI 0)) a1.toInt64 (lN 1) (lN 20)).bind fun r1 =>
  if r1 = (nI 0) then
    some ((-1 : Int64), setI s a0 0 (nI 0))
  else
    (f_M_in (setI s a0 0 (nI 0)) a2.toInt64 (lN 0) (lN 99)).bind fun r2 =>
    if r2 = (nI 0) then
      some ((-1 : Int64), setI s a0 0 (nI 0))
    else
      l_M_few_35 fuel a0 a1 a2 (nI 0) (setI s a0 0 (nI 0))
  else none
theorem t_M_few {s : AS} {a0 : Nat} {a1 : Int32} {a2 : Int32} {o : Int64 × AS} (h : f_M_few s a0 a1 a2 = some o) : Ev 1 mZ250 0 [.ref a0, .int a1, .int a2, .retAddr 0, .retAddr 0, .retAddr 0, .retAddr 0, .retAddr 0] [] s (some (.long o.1), o.2) := by
  unfold f_M_few at h
  refine gd h (fun g1 h => ?_)
  refine Ev_blk 7 (pc' := 11) (ls' := [.ref a0, .int a1, .int a2, .retAddr 0, .retAddr 0, .retAddr 0, .retAddr 0, .retAddr 0]) (st' := [.long (lN 20), .long (lN 1), .long a1.toInt64]) (s' := setI s a0 0 (nI 0)) rfl ⟨trivial, g1⟩ ?_
  refine bd h (fun r1 hr1 h => ?_)
  refine Ev_call 1 145 3 [.long a1.toInt64, .long (lN 1), .long (lN 20)] [] rfl rfl rfl rfl trivial rfl rfl (Nat.le_of_ble_eq_true rfl) (t_M_in hr1) ?_
  refine Ev_blk 1 (pc' := if r1 = (nI 0) then 29 else 17) (ls' := [.ref a0, .int a1, .int a2, .retAddr 0, .retAddr 0, .retAddr 0, .retAddr 0, .retAddr 0]) (st' := []) (s' := setI s a0 0 (nI 0)) rfl trivial ?_
  refine ib h (fun c2 h => ?_) (fun c2 h => ?_)
  · refine Ev_blk 1 (pc' := 32) (ls' := [.ref a0, .int a1, .int a2, .retAddr 0, .retAddr 0, .retAddr 0, .retAddr 0, .retAddr 0]) (st' := [.long (-1 : Int64)]) (s' := setI s a0 0 (nI 0)) rfl trivial ?_
    cases h
    exact Ev_ret rfl trivial
  · refine Ev_blk 4 (pc' := 23) (ls' := [.ref a0, .int a1, .int a2, .retAddr 0, .retAddr 0, .retAddr 0, .retAddr 0, .retAddr 0]) (st' := [.long (lN 99), .long (lN 0), .long a2.toInt64]) (s' := setI s a0 0 (nI 0)) rfl trivial ?_
    refine bd h (fun r2 hr2 h => ?_)
    refine Ev_call 1 145 3 [.long a2.toInt64, .long (lN 0), .long (lN 99)] [] rfl rfl rfl rfl trivial rfl rfl (Nat.le_of_ble_eq_true rfl) (t_M_in hr2) ?_
    refine Ev_blk 1 (pc' := if r2 = (nI 0) then 29 else 33) (ls' := [.ref a0, .int a1, .int a2, .retAddr 0, .retAddr 0, .retAddr 0, .retAddr 0, .retAddr 0]) (st' := []) (s' := setI s a0 0 (nI 0)) rfl trivial ?_
    refine ib h (fun c3 h => ?_) (fun c3 h => ?_)
    · refine Ev_blk 1 (pc' := 32) (ls' := [.ref a0, .int a1, .int a2, .retAddr 0, .retAddr 0, .retAddr 0, .retAddr 0, .retAddr 0]) (st' := [.long (-1 : Int64)]) (s' := setI s a0 0 (nI 0)) rfl trivial ?_
      cases h
      exact Ev_ret rfl trivial
    · refine Ev_blk 2 (pc' := 35) (ls' := [.ref a0, .int a1, .int a2, .int (nI 0), .retAddr 0, .retAddr 0, .retAddr 0, .retAddr 0]) (st' := []) (s' := setI s a0 0 (nI 0)) rfl trivial ?_
      exact u_M_few_35 h

def b_M_readSum_22  (v0 : Nat) (v1 : Int32) (s : AS) : Option AS :=
  if sT s v0 = 13 then
  if sT s (sR s v0 49) = 20 ∧ inA (v1 + (nI 1)) (sN s (sR s v0 49)) then
  some (setI s (sR s v0 49) (v1 + (nI 1)).toNatClampNeg (sI s v0 22))
  else none
  else none
theorem t_M_readSum_22    {v0 : Nat} {v1 : Int32} {s : AS} {o : AS} (h : b_M_readSum_22  v0 v1 s = some o) : Ev 7 mZ253 22 [.ref v0, .int v1] [] s (none, o) := by
  unfold b_M_readSum_22 at h
  refine gd h (fun g1 h => ?_)
  refine gd h (fun g2 h => ?_)
  refine Ev_blk 8 (pc' := 34) (ls' := [.ref v0, .int v1]) (st' := []) (s' := setI s (sR s v0 49) (v1 + (nI 1)).toNatClampNeg (sI s v0 22)) rfl ⟨⟨⟨trivial, g1⟩, g1⟩, g2⟩ ?_
  cases h
  exact Ev_ret rfl trivial
/-- RecordHeapModel.readSum(I)V -/
def f_M_readSum (s : AS) (a0 : Nat) (a1 : Int32) : Option AS :=
  if sT s a0 = 13 then
  if sT s (sR s a0 49) = 20 ∧ inA a1 (sN s (sR s a0 49)) then
  if (sI (setI s (sR s a0 49) a1.toNatClampNeg (sI s a0 22)) a0 18) = (nI 0) then
    (f_M_readExpression (setI s (sR s a0 49) a1.toNatClampNeg (sI s a0 22)) a0 (nI 0)).bind fun r1 =>
    b_M_readSum_22 a0 a1 r1
  else
    b_M_readSum_22 a0 a1 (setI s (sR s a0 49) a1.toNatClampNeg (sI s a0 22))
  else none
  else none
theorem t_M_readSum {s : AS} {a0 : Nat} {a1 : Int32} {o : AS} (h : f_M_readSum s a0 a1 = some o) : Ev 7 mZ253 0 [.ref a0, .int a1] [] s (none, o) := by
  unfold f_M_readSum at h
  refine gd h (fun g1 h => ?_)
  refine gd h (fun g2 h => ?_)
  refine Ev_blk 9 (pc' := if (sI (setI s (sR s a0 49) a1.toNatClampNeg (sI s a0 22)) a0 18) = (nI 0) then 17 else 22) (ls' := [.ref a0, .int a1]) (st' := []) (s' := setI s (sR s a0 49) a1.toNatClampNeg (sI s a0 22)) rfl ⟨⟨⟨⟨trivial, g1⟩, g1⟩, g2⟩, g1⟩ ?_
  refine ib h (fun c3 h => ?_) (fun c3 h => ?_)
  · refine Ev_blk 2 (pc' := 19) (ls' := [.ref a0, .int a1]) (st' := [.int (nI 0), .ref a0]) (s' := setI s (sR s a0 49) a1.toNatClampNeg (sI s a0 22)) rfl trivial ?_
    refine bd h (fun r1 hr1 h => ?_)
    refine Ev_call 2 162 1 [.ref a0, .int (nI 0)] [] rfl rfl rfl rfl g1 rfl rfl (Nat.le_of_ble_eq_true rfl) (t_M_readExpression hr1) ?_
    exact t_M_readSum_22 h
  · exact t_M_readSum_22 h

def b_M_readBehind_16  (v0 : Nat) (v3 : Int32) (s : AS) : Option AS :=
  if sT s v0 = 13 then
  (f_M_readSum s v0 v3).bind fun r1 =>
  some r1
  else none
theorem t_M_readBehind_16   {d1 d2 : Value} {v0 : Nat} {v3 : Int32} {s : AS} {o : AS} (h : b_M_readBehind_16  v0 v3 s = some o) : Ev 8 mZ254 16 [.ref v0, d1, d2, .int v3] [] s (none, o) := by
  unfold b_M_readBehind_16 at h
  refine gd h (fun g1 h => ?_)
  refine Ev_blk 2 (pc' := 18) (ls' := [.ref v0, d1, d2, .int v3]) (st' := [.int v3, .ref v0]) (s' := s) rfl trivial ?_
  refine bd h (fun r1 hr1 h => ?_)
  refine Ev_call 2 253 1 [.ref v0, .int v3] [] rfl rfl rfl rfl g1 rfl rfl (Nat.le_of_ble_eq_true rfl) (t_M_readSum hr1) ?_
  cases h
  exact Ev_ret rfl trivial
/-- RecordHeapModel.readBehind(JI)V -/
def f_M_readBehind (s : AS) (a0 : Nat) (a1 : Int64) (a2 : Int32) : Option AS :=
  if sT s a0 = 13 then
  if (sI s a0 18) = (nI 0) then
    (f_M_isWord s a0 a1).bind fun r1 =>
    (f_M_must s a0 r1).bind fun r2 =>
    b_M_readBehind_16 a0 a2 r2
  else
    b_M_readBehind_16 a0 a2 s
  else none
theorem t_M_readBehind {s : AS} {a0 : Nat} {a1 : Int64} {a2 : Int32} {o : AS} (h : f_M_readBehind s a0 a1 a2 = some o) : Ev 8 mZ254 0 [.ref a0, .long a1, .retAddr 0, .int a2] [] s (none, o) := by
  unfold f_M_readBehind at h
  refine gd h (fun g1 h => ?_)
  refine Ev_blk 3 (pc' := if (sI s a0 18) = (nI 0) then 7 else 16) (ls' := [.ref a0, .long a1, .retAddr 0, .int a2]) (st' := []) (s' := s) rfl ⟨trivial, g1⟩ ?_
  refine ib h (fun c2 h => ?_) (fun c2 h => ?_)
  · refine Ev_blk 3 (pc' := 10) (ls' := [.ref a0, .long a1, .retAddr 0, .int a2]) (st' := [.long a1, .ref a0, .ref a0]) (s' := s) rfl trivial ?_
    refine bd h (fun r1 hr1 h => ?_)
    refine Ev_call 2 160 1 [.ref a0, .long a1] [.ref a0] rfl rfl rfl rfl g1 rfl rfl (Nat.le_of_ble_eq_true rfl) (t_M_isWord hr1) ?_
    refine bd h (fun r2 hr2 h => ?_)
    refine Ev_call 2 161 1 [.ref a0, .int r1] [] rfl rfl rfl rfl g1 rfl rfl (Nat.le_of_ble_eq_true rfl) (t_M_must hr2) ?_
    exact t_M_readBehind_16 h
  · exact t_M_readBehind_16 h

def b_M_readOrder_240  (v0 : Nat) (v2 : Int32) (s : AS) : Option AS :=
  if sT s v0 = 13 then
  if sT s (sR s v0 49) = 20 ∧ inA (v2 + (nI 6)) (sN s (sR s v0 49)) then
  some (setI s (sR s v0 49) (v2 + (nI 6)).toNatClampNeg (sI s v0 22))
  else none
  else none
theorem t_M_readOrder_240   {d1 d3 : Value} {v0 : Nat} {v2 : Int32} {s : AS} {o : AS} (h : b_M_readOrder_240  v0 v2 s = some o) : Ev 9 mZ252 240 [.ref v0, d1, .int v2, d3] [] s (none, o) := by
  unfold b_M_readOrder_240 at h
  refine gd h (fun g1 h => ?_)
  refine gd h (fun g2 h => ?_)
  refine Ev_blk 8 (pc' := 253) (ls' := [.ref v0, d1, .int v2, d3]) (st' := []) (s' := setI s (sR s v0 49) (v2 + (nI 6)).toNatClampNeg (sI s v0 22)) rfl ⟨⟨⟨trivial, g1⟩, g1⟩, g2⟩ ?_
  cases h
  exact Ev_ret rfl trivial
def b_M_readOrder_202  (v0 : Nat) (v2 : Int32) (s : AS) : Option AS :=
  if sT s v0 = 13 then
  if sT s (sR s v0 49) = 20 ∧ inA (v2 + (nI 5)) (sN s (sR s v0 49)) then
  if (sI (setI s (sR s v0 49) (v2 + (nI 5)).toNatClampNeg (sI s v0 22)) v0 18) = (nI 0) then
    (f_M_isWord (setI s (sR s v0 49) (v2 + (nI 5)).toNatClampNeg (sI s v0 22)) v0 (lN 294)).bind fun r1 =>
    if r1 = (nI 0) then
      b_M_readOrder_240 v0 v2 (setI s (sR s v0 49) (v2 + (nI 5)).toNatClampNeg (sI s v0 22))
    else
      (f_M_onward (setI s (sR s v0 49) (v2 + (nI 5)).toNatClampNeg (sI s v0 22)) v0).bind fun r2 =>
      if sT r2 v0 = 13 then
      (f_M_readExpression r2 v0 (nI 1)).bind fun r3 =>
      b_M_readOrder_240 v0 v2 r3
      else none
  else
    b_M_readOrder_240 v0 v2 (setI s (sR s v0 49) (v2 + (nI 5)).toNatClampNeg (sI s v0 22))
  else none
  else none
theorem t_M_readOrder_202   {d1 d3 : Value} {v0 : Nat} {v2 : Int32} {s : AS} {o : AS} (h : b_M_readOrder_202  v0 v2 s = some o) : Ev 9 mZ252 202 [.ref v0, d1, .int v2, d3] [] s (none, o) := by
  unfold b_M_readOrder_202 at h
  refine gd h (fun g1 h => ?_)
  refine gd h (fun g2 h => ?_)
  refine Ev_blk 11 (pc' := if (sI (setI s (sR s v0 49) (v2 + (nI 5)).toNatClampNeg (sI s v0 22)) v0 18) = (nI 0) then 221 else 240) (ls' := [.ref v0, d1, .int v2, d3]) (st' := []) (s' := setI s (sR s v0 49) (v2 + (nI 5)).toNatClampNeg (sI s v0 22)) rfl ⟨⟨⟨⟨trivial, g1⟩, g1⟩, g2⟩, g1⟩ ?_
  refine ib h (fun c3 h => ?_) (fun c3 h => ?_)
  · refine Ev_blk 2 (pc' := 225) (ls' := [.ref v0, d1, .int v2, d3]) (st' := [.long (lN 294), .ref v0]) (s' := setI s (sR s v0 49) (v2 + (nI 5)).toNatClampNeg (sI s v0 22)) rfl trivial ?_
    refine bd h (fun r1 hr1 h => ?_)
    refine Ev_call 2 160 1 [.ref v0, .long (lN 294)] [] rfl rfl rfl rfl g1 rfl rfl (Nat.le_of_ble_eq_true rfl) (t_M_isWord hr1) ?_
    refine Ev_blk 1 (pc' := if r1 = (nI 0) then 240 else 231) (ls' := [.ref v0, d1, .int v2, d3]) (st' := []) (s' := setI s (sR s v0 49) (v2 + (nI 5)).toNatClampNeg (sI s v0 22)) rfl trivial ?_
    refine ib h (fun c4 h => ?_) (fun c4 h => ?_)
    · exact t_M_readOrder_240 h
    · refine Ev_blk 1 (pc' := 232) (ls' := [.ref v0, d1, .int v2, d3]) (st' := [.ref v0]) (s' := setI s (sR s v0 49) (v2 + (nI 5)).toNatClampNeg (sI s v0 22)) rfl trivial ?_
      refine bd h (fun r2 hr2 h => ?_)
      refine Ev_call 2 156 0 [.ref v0] [] rfl rfl rfl rfl g1 rfl rfl (Nat.le_of_ble_eq_true rfl) (t_M_onward hr2) ?_
      refine gd h (fun g5 h => ?_)
      refine Ev_blk 2 (pc' := 237) (ls' := [.ref v0, d1, .int v2, d3]) (st' := [.int (nI 1), .ref v0]) (s' := r2) rfl trivial ?_
      refine bd h (fun r3 hr3 h => ?_)
      refine Ev_call 2 162 1 [.ref v0, .int (nI 1)] [] rfl rfl rfl rfl g5 rfl rfl (Nat.le_of_ble_eq_true rfl) (t_M_readExpression hr3) ?_
      exact t_M_readOrder_240 h
  · exact t_M_readOrder_240 h
def b_M_readOrder_154  (v0 : Nat) (v2 : Int32) (s : AS) : Option AS :=
  if sT s v0 = 13 then
  if sT s (sR s v0 49) = 20 ∧ inA (v2 + (nI 7)) (sN s (sR s v0 49)) then
  if (sI (setI s (sR s v0 49) (v2 + (nI 7)).toNatClampNeg (nI 1)) v0 18) = (nI 0) then
    (f_M_isWord (setI s (sR s v0 49) (v2 + (nI 7)).toNatClampNeg (nI 1)) v0 (lN 21279923)).bind fun r1 =>
    if r1 = (nI 0) then
      b_M_readOrder_202 v0 v2 (setI s (sR s v0 49) (v2 + (nI 7)).toNatClampNeg (nI 1))
    else
      (f_M_onward (setI s (sR s v0 49) (v2 + (nI 7)).toNatClampNeg (nI 1)) v0).bind fun r2 =>
      if sT r2 v0 = 13 then
      (f_M_number r2 v0 (lN 1) (lN 20)).bind fun r3 =>
      if sT r3.2 (sR r2 v0 49) = 20 ∧ inA (v2 + (nI 7)) (sN r3.2 (sR r2 v0 49)) then
      b_M_readOrder_202 v0 v2 (setI r3.2 (sR r2 v0 49) (v2 + (nI 7)).toNatClampNeg r3.1)
      else none
      else none
  else
    b_M_readOrder_202 v0 v2 (setI s (sR s v0 49) (v2 + (nI 7)).toNatClampNeg (nI 1))
  else none
  else none
theorem t_M_readOrder_154   {d1 d3 : Value} {v0 : Nat} {v2 : Int32} {s : AS} {o : AS} (h : b_M_readOrder_154  v0 v2 s = some o) : Ev 9 mZ252 154 [.ref v0, d1, .int v2, d3] [] s (none, o) := by
  unfold b_M_readOrder_154 at h
  refine gd h (fun g1 h => ?_)
  refine gd h (fun g2 h => ?_)
  refine Ev_blk 10 (pc' := if (sI (setI s (sR s v0 49) (v2 + (nI 7)).toNatClampNeg (nI 1)) v0 18) = (nI 0) then 171 else 202) (ls' := [.ref v0, d1, .int v2, d3]) (st' := []) (s' := setI s (sR s v0 49) (v2 + (nI 7)).toNatClampNeg (nI 1)) rfl ⟨⟨⟨trivial, g1⟩, g2⟩, g1⟩ ?_
  refine ib h (fun c3 h => ?_) (fun c3 h => ?_)
  · refine Ev_blk 2 (pc' := 175) (ls' := [.ref v0, d1, .int v2, d3]) (st' := [.long (lN 21279923), .ref v0]) (s' := setI s (sR s v0 49) (v2 + (nI 7)).toNatClampNeg (nI 1)) rfl trivial ?_
    refine bd h (fun r1 hr1 h => ?_)
    refine Ev_call 2 160 1 [.ref v0, .long (lN 21279923)] [] rfl rfl rfl rfl g1 rfl rfl (Nat.le_of_ble_eq_true rfl) (t_M_isWord hr1) ?_
    refine Ev_blk 1 (pc' := if r1 = (nI 0) then 202 else 181) (ls' := [.ref v0, d1, .int v2, d3]) (st' := []) (s' := setI s (sR s v0 49) (v2 + (nI 7)).toNatClampNeg (nI 1)) rfl trivial ?_
    refine ib h (fun c4 h => ?_) (fun c4 h => ?_)
    · exact t_M_readOrder_202 h
    · refine Ev_blk 1 (pc' := 182) (ls' := [.ref v0, d1, .int v2, d3]) (st' := [.ref v0]) (s' := setI s (sR s v0 49) (v2 + (nI 7)).toNatClampNeg (nI 1)) rfl trivial ?_
      refine bd h (fun r2 hr2 h => ?_)
      refine Ev_call 2 156 0 [.ref v0] [] rfl rfl rfl rfl g1 rfl rfl (Nat.le_of_ble_eq_true rfl) (t_M_onward hr2) ?_
      refine gd h (fun g5 h => ?_)
      refine Ev_blk 8 (pc' := 198) (ls' := [.ref v0, d1, .int v2, d3]) (st' := [.long (lN 20), .long (lN 1), .ref v0, .int (v2 + (nI 7)), .ref (sR r2 v0 49)]) (s' := r2) rfl ⟨trivial, g5⟩ ?_
      refine bd h (fun r3 hr3 h => ?_)
      refine Ev_call 2 172 2 [.ref v0, .long (lN 1), .long (lN 20)] [.int (v2 + (nI 7)), .ref (sR r2 v0 49)] rfl rfl rfl rfl g5 rfl rfl (Nat.le_of_ble_eq_true rfl) (t_M_number hr3) ?_
      refine gd h (fun g6 h => ?_)
      refine Ev_blk 1 (pc' := 202) (ls' := [.ref v0, d1, .int v2, d3]) (st' := []) (s' := setI r3.2 (sR r2 v0 49) (v2 + (nI 7)).toNatClampNeg r3.1) rfl ⟨trivial, g6⟩ ?_
      exact t_M_readOrder_202 h
  · exact t_M_readOrder_202 h
def b_M_readOrder_139  (v0 : Nat) (v1 : Int32) (v2 : Int32) (s : AS) : Option AS :=
  if v1 = (nI 1) then
    if sT s v0 = 13 then
    (f_M_readBehind s v0 (lN 655) (v2 + (nI 3))).bind fun r1 =>
    b_M_readOrder_154 v0 v2 r1
    else none
  else
    b_M_readOrder_154 v0 v2 s
theorem t_M_readOrder_139   {d3 : Value} {v0 : Nat} {v1 : Int32} {v2 : Int32} {s : AS} {o : AS} (h : b_M_readOrder_139  v0 v1 v2 s = some o) : Ev 9 mZ252 139 [.ref v0, .int v1, .int v2, d3] [] s (none, o) := by
  unfold b_M_readOrder_139 at h
  refine Ev_blk 3 (pc' := if v1 = (nI 1) then 144 else 154) (ls' := [.ref v0, .int v1, .int v2, d3]) (st' := []) (s' := s) rfl trivial ?_
  refine ib h (fun c1 h => ?_) (fun c1 h => ?_)
  · refine gd h (fun g2 h => ?_)
    refine Ev_blk 5 (pc' := 151) (ls' := [.ref v0, .int v1, .int v2, d3]) (st' := [.int (v2 + (nI 3)), .long (lN 655), .ref v0]) (s' := s) rfl trivial ?_
    refine bd h (fun r1 hr1 h => ?_)
    refine Ev_call 2 254 2 [.ref v0, .long (lN 655), .int (v2 + (nI 3))] [] rfl rfl rfl rfl g2 rfl rfl (Nat.le_of_ble_eq_true rfl) (t_M_readBehind hr1) ?_
    exact t_M_readOrder_154 h
  · exact t_M_readOrder_154 h
def b_M_readOrder_125  (v0 : Nat) (v1 : Int32) (v2 : Int32) (s : AS) : Option AS :=
  if v1 = (nI 0) then
    if sT s v0 = 13 then
    (f_M_readBehind s v0 (lN 486) (v2 + (nI 3))).bind fun r1 =>
    b_M_readOrder_139 v0 v1 v2 r1
    else none
  else
    b_M_readOrder_139 v0 v1 v2 s
theorem t_M_readOrder_125   {d3 : Value} {v0 : Nat} {v1 : Int32} {v2 : Int32} {s : AS} {o : AS} (h : b_M_readOrder_125  v0 v1 v2 s = some o) : Ev 9 mZ252 125 [.ref v0, .int v1, .int v2, d3] [] s (none, o) := by
  unfold b_M_readOrder_125 at h
  refine Ev_blk 2 (pc' := if v1 = (nI 0) then 129 else 139) (ls' := [.ref v0, .int v1, .int v2, d3]) (st' := []) (s' := s) rfl trivial ?_
  refine ib h (fun c1 h => ?_) (fun c1 h => ?_)
  · refine gd h (fun g2 h => ?_)
    refine Ev_blk 5 (pc' := 136) (ls' := [.ref v0, .int v1, .int v2, d3]) (st' := [.int (v2 + (nI 3)), .long (lN 486), .ref v0]) (s' := s) rfl trivial ?_
    refine bd h (fun r1 hr1 h => ?_)
    refine Ev_call 2 254 2 [.ref v0, .long (lN 486), .int (v2 + (nI 3))] [] rfl rfl rfl rfl g2 rfl rfl (Nat.le_of_ble_eq_true rfl) (t_M_readBehind hr1) ?_
    exact t_M_readOrder_139 h
  · exact t_M_readOrder_139 h
def b_M_readOrder_85 (k85 : Nat → Int32 → Int32 → Int32 → AS → Option AS) (v0 : Nat) (v1 : Int32) (v2 : Int32) (v3 : Int32) (s : AS) : Option AS :=
  if v3 < (nI 8) then
    if sT s v0 = 13 then
    if sT s (sR s v0 49) = 20 ∧ inA (v2 + v3) (sN s (sR s v0 49)) then
    k85 v0 v1 v2 (v3 + nI 1) (setI s (sR s v0 49) (v2 + v3).toNatClampNeg (nI 0))
    else none
    else none
  else
    if sT s v0 = 13 then
    if sT s (sR s v0 49) = 20 ∧ inA v2 (sN s (sR s v0 49)) then
    if v1 = (nI 4) then
      b_M_readOrder_125 v0 v1 v2 (setI s (sR s v0 49) v2.toNatClampNeg v1)
    else
      (f_M_readSum (setI s (sR s v0 49) v2.toNatClampNeg v1) v0 (v2 + (nI 1))).bind fun r1 =>
      b_M_readOrder_125 v0 v1 v2 r1
    else none
    else none
theorem t_M_readOrder_85 {k85 : Nat → Int32 → Int32 → Int32 → AS → Option AS} (H85 : ∀ {v0 : Nat} {v1 : Int32} {v2 : Int32} {v3 : Int32} {s : AS} {o : AS}, k85 v0 v1 v2 v3 s = some o → Ev 9 mZ252 85 [.ref v0, .int v1, .int v2, .int v3] [] s (none, o))  {v0 : Nat} {v1 : Int32} {v2 : Int32} {v3 : Int32} {s : AS} {o : AS} (h : b_M_readOrder_85 k85 v0 v1 v2 v3 s = some o) : Ev 9 mZ252 85 [.ref v0, .int v1, .int v2, .int v3] [] s (none, o) := by
  unfold b_M_readOrder_85 at h
  refine Ev_blk 3 (pc' := if v3 < (nI 8) then 91 else 106) (ls' := [.ref v0, .int v1, .int v2, .int v3]) (st' := []) (s' := s) rfl trivial ?_
  refine ib h (fun c1 h => ?_) (fun c1 h => ?_)
  · refine gd h (fun g2 h => ?_)
    refine gd h (fun g3 h => ?_)
    refine Ev_blk 9 (pc' := 85) (ls' := [.ref v0, .int v1, .int v2, .int (v3 + nI 1)]) (st' := []) (s' := setI s (sR s v0 49) (v2 + v3).toNatClampNeg (nI 0)) rfl ⟨⟨trivial, g2⟩, g3⟩ ?_
    exact H85 h
  · refine gd h (fun g4 h => ?_)
    refine gd h (fun g5 h => ?_)
    refine Ev_blk 8 (pc' := if v1 = (nI 4) then 125 else 118) (ls' := [.ref v0, .int v1, .int v2, .int v3]) (st' := []) (s' := setI s (sR s v0 49) v2.toNatClampNeg v1) rfl ⟨⟨trivial, g4⟩, g5⟩ ?_
    refine ib h (fun c6 h => ?_) (fun c6 h => ?_)
    · exact t_M_readOrder_125 h
    · refine Ev_blk 4 (pc' := 122) (ls' := [.ref v0, .int v1, .int v2, .int v3]) (st' := [.int (v2 + (nI 1)), .ref v0]) (s' := setI s (sR s v0 49) v2.toNatClampNeg v1) rfl trivial ?_
      refine bd h (fun r1 hr1 h => ?_)
      refine Ev_call 2 253 1 [.ref v0, .int (v2 + (nI 1))] [] rfl rfl rfl rfl g4 rfl rfl (Nat.le_of_ble_eq_true rfl) (t_M_readSum hr1) ?_
      exact t_M_readOrder_125 h
def l_M_readOrder_85  : Nat → Nat → Int32 → Int32 → Int32 → AS → Option AS
  | 0 => fun _ _ _ _ _ => none
  | n + 1 => b_M_readOrder_85  (l_M_readOrder_85  n)
theorem u_M_readOrder_85   {n : Nat} : ∀  {v0 : Nat} {v1 : Int32} {v2 : Int32} {v3 : Int32} {s : AS} {o : AS}, l_M_readOrder_85  n v0 v1 v2 v3 s = some o → Ev 9 mZ252 85 [.ref v0, .int v1, .int v2, .int v3] [] s (none, o) := by
  induction n with
  | zero => intros; rename_i h; cases h
  | succ n ih => intros; rename_i h; exact t_M_readOrder_85  (fun h => ih h) h
def b_M_readOrder_54  (v0 : Nat) (v1 : Int32) (w0 : Int32) (w1 : Nat) (s : AS) : Option AS :=
  if sT s w1 = 13 then
  (f_M_must s w1 w0).bind fun r1 =>
  if sT r1 v0 = 13 then
  if (sI r1 v0 18) = (nI 0) then
    l_M_readOrder_85 fuel v0 v1 ((nI 8) * (sI r1 v0 20)) (nI 0) (setI r1 v0 20 ((sI r1 v0 20) + (nI 1)))
  else
    some r1
  else none
  else none
theorem t_M_readOrder_54   {d2 d3 : Value} {v0 : Nat} {v1 : Int32} {w0 : Int32} {w1 : Nat} {s : AS} {o : AS} (h : b_M_readOrder_54  v0 v1 w0 w1 s = some o) : Ev 9 mZ252 54 [.ref v0, .int v1, d2, d3] [.int w0, .ref w1] s (none, o) := by
  unfold b_M_readOrder_54 at h
  refine gd h (fun g1 h => ?_)
  refine bd h (fun r1 hr1 h => ?_)
  refine Ev_call 2 161 1 [.ref w1, .int w0] [] rfl rfl rfl rfl g1 rfl rfl (Nat.le_of_ble_eq_true rfl) (t_M_must hr1) ?_
  refine gd h (fun g2 h => ?_)
  refine Ev_blk 3 (pc' := if (sI r1 v0 18) = (nI 0) then 65 else 64) (ls' := [.ref v0, .int v1, d2, d3]) (st' := []) (s' := r1) rfl ⟨trivial, g2⟩ ?_
  refine ib h (fun c3 h => ?_) (fun c3 h => ?_)
  · refine Ev_blk 13 (pc' := 85) (ls' := [.ref v0, .int v1, .int ((nI 8) * (sI r1 v0 20)), .int (nI 0)]) (st' := []) (s' := setI r1 v0 20 ((sI r1 v0 20) + (nI 1))) rfl ⟨⟨⟨trivial, g2⟩, g2⟩, g2⟩ ?_
    exact u_M_readOrder_85 h
  · cases h
    exact Ev_ret rfl trivial
def b_M_readOrder_53  (v0 : Nat) (v1 : Int32) (w0 : Nat) (s : AS) : Option AS :=
  b_M_readOrder_54 v0 v1 (nI 0) w0 s
theorem t_M_readOrder_53   {d2 d3 : Value} {v0 : Nat} {v1 : Int32} {w0 : Nat} {s : AS} {o : AS} (h : b_M_readOrder_53  v0 v1 w0 s = some o) : Ev 9 mZ252 53 [.ref v0, .int v1, d2, d3] [.ref w0] s (none, o) := by
  unfold b_M_readOrder_53 at h
  refine Ev_blk 1 (pc' := 54) (ls' := [.ref v0, .int v1, d2, d3]) (st' := [.int (nI 0), .ref w0]) (s' := s) rfl trivial ?_
  exact t_M_readOrder_54 h
def b_M_readOrder_4 (k4 : Nat → Int32 → Int32 → AS → Option AS) (v0 : Nat) (v1 : Int32) (v2 : Int32) (s : AS) : Option AS :=
  if v2 < (nI 5) then
    if sT s v0 = 13 then
    if sT s (sR s v0 48) = 21 ∧ inA v2 (sN s (sR s v0 48)) then
    (f_M_isWord s v0 (sL s (sR s v0 48) v2.toNatClampNeg)).bind fun r1 =>
      k4 v0 (if r1 = (nI 0) then v1 else v2) (v2 + nI 1) s
    else none
    else none
  else
    if v1 = (-(nI 1)) then
      b_M_readOrder_53 v0 v1 v0 s
    else
      if sT s v0 = 13 then
        b_M_readOrder_54 v0 v1 (if (sI s v0 20) < (nI 12) then nI 1 else nI 0) v0 s
      else none
theorem t_M_readOrder_4 {k4 : Nat → Int32 → Int32 → AS → Option AS} (H4 : ∀ {d3 : Value} {v0 : Nat} {v1 : Int32} {v2 : Int32} {s : AS} {o : AS}, k4 v0 v1 v2 s = some o → Ev 9 mZ252 4 [.ref v0, .int v1, .int v2, d3] [] s (none, o)) {d3 : Value} {v0 : Nat} {v1 : Int32} {v2 : Int32} {s : AS} {o : AS} (h : b_M_readOrder_4 k4 v0 v1 v2 s = some o) : Ev 9 mZ252 4 [.ref v0, .int v1, .int v2, d3] [] s (none, o) := by
  unfold b_M_readOrder_4 at h
  refine Ev_blk 3 (pc' := if v2 < (nI 5) then 9 else 34) (ls' := [.ref v0, .int v1, .int v2, d3]) (st' := []) (s' := s) rfl trivial ?_
  refine ib h (fun c1 h => ?_) (fun c1 h => ?_)
  · refine gd h (fun g2 h => ?_)
    refine gd h (fun g3 h => ?_)
    refine Ev_blk 5 (pc' := 16) (ls' := [.ref v0, .int v1, .int v2, d3]) (st' := [.long (sL s (sR s v0 48) v2.toNatClampNeg), .ref v0]) (s' := s) rfl ⟨⟨trivial, g2⟩, g3⟩ ?_
    refine bd h (fun r1 hr1 h => ?_)
    refine Ev_call 2 160 1 [.ref v0, .long (sL s (sR s v0 48) v2.toNatClampNeg)] [] rfl rfl rfl rfl g2 rfl rfl (Nat.le_of_ble_eq_true rfl) (t_M_isWord hr1) ?_
    refine Ev_blk 1 (pc' := if r1 = (nI 0) then 26 else 22) (ls' := [.ref v0, .int v1, .int v2, d3]) (st' := []) (s' := s) rfl trivial ?_
    have k4_ : Ev 9 mZ252 27 [.ref v0, .int v1, .int v2, d3] [.int (if r1 = (nI 0) then v1 else v2)] s (none, o) := by
      refine Ev_blk 3 (pc' := 4) (ls' := [.ref v0, .int (if r1 = (nI 0) then v1 else v2), .int (v2 + nI 1), d3]) (st' := []) (s' := s) rfl trivial ?_
      exact H4 h
    refine icases (fun c5 => ?_) (fun c5 => ?_)
    · exact Ev_blk 1 (pc' := 27) (ls' := [.ref v0, .int v1, .int v2, d3]) (st' := [.int v1]) (s' := s) rfl trivial (by simpa only [if_pos c5] using k4_)
    · exact Ev_blk 2 (pc' := 27) (ls' := [.ref v0, .int v1, .int v2, d3]) (st' := [.int v2]) (s' := s) rfl trivial (by simpa only [if_neg c5] using k4_)
  · refine Ev_blk 4 (pc' := if v1 = (-(nI 1)) then 53 else 40) (ls' := [.ref v0, .int v1, .int v2, d3]) (st' := [.ref v0]) (s' := s) rfl trivial ?_
    refine ib h (fun c6 h => ?_) (fun c6 h => ?_)
    · exact t_M_readOrder_53 h
    · refine gd h (fun g7 h => ?_)
      refine Ev_blk 4 (pc' := if (sI s v0 20) < (nI 12) then 49 else 53) (ls' := [.ref v0, .int v1, .int v2, d3]) (st' := [.ref v0]) (s' := s) rfl ⟨trivial, g7⟩ ?_
      have k8_ : Ev 9 mZ252 54 [.ref v0, .int v1, .int v2, d3] [.int (if (sI s v0 20) < (nI 12) then nI 1 else nI 0), .ref v0] s (none, o) := by
        exact t_M_readOrder_54 h
      refine icases (fun c9 => ?_) (fun c9 => ?_)
      · exact Ev_blk 2 (pc' := 54) (ls' := [.ref v0, .int v1, .int v2, d3]) (st' := [.int (nI 1), .ref v0]) (s' := s) rfl trivial (by simpa only [if_pos c9] using k8_)
      · exact Ev_blk 1 (pc' := 54) (ls' := [.ref v0, .int v1, .int v2, d3]) (st' := [.int (nI 0), .ref v0]) (s' := s) rfl trivial (by simpa only [if_neg c9] using k8_)
def l_M_readOrder_4  : Nat → Nat → Int32 → Int32 → AS → Option AS
  | 0 => fun _ _ _ _ => none
  | n + 1 => b_M_readOrder_4  (l_M_readOrder_4  n)
theorem u_M_readOrder_4   {n : Nat} : ∀ {d3 : Value} {v0 : Nat} {v1 : Int32} {v2 : Int32} {s : AS} {o : AS}, l_M_readOrder_4  n v0 v1 v2 s = some o → Ev 9 mZ252 4 [.ref v0, .int v1, .int v2, d3] [] s (none, o) := by
  induction n with
  | zero => intros; rename_i h; cases h
  | succ n ih => intros; rename_i h; exact t_M_readOrder_4  (fun h => ih h) h
/-- RecordHeapModel.readOrder()V -/
def f_M_readOrder (s : AS) (a0 : Nat) : Option AS :=
  l_M_readOrder_4 fuel a0 (-(nI 1)) (nI 0) s
theorem t_M_readOrder {s : AS} {a0 : Nat} {o : AS} (h : f_M_readOrder s a0 = some o) : Ev 9 mZ252 0 [.ref a0, .retAddr 0, .retAddr 0, .retAddr 0] [] s (none, o) := by
  unfold f_M_readOrder at h
  refine Ev_blk 4 (pc' := 4) (ls' := [.ref a0, .int (-(nI 1)), .int (nI 0), .retAddr 0]) (st' := []) (s' := s) rfl trivial ?_
  exact u_M_readOrder_4 h

def b_M_records_4 (s : AS) (k4 : Nat → Int32 → Int32 → Option Int32) (v0 : Nat) (v1 : Int32) (v2 : Int32) : Option Int32 :=
  if v2 < (nI 128) then
    if sT s v0 = 13 then
    (f_M_isRecord s v0 v2).bind fun r1 =>
      k4 v0 (v1 + (if r1 = (nI 0) then nI 0 else nI 1)) (v2 + nI 1)
    else none
  else
    some v1
theorem t_M_records_4 {s : AS} {k4 : Nat → Int32 → Int32 → Option Int32} (H4 : ∀ {v0 : Nat} {v1 : Int32} {v2 : Int32} {o : Int32}, k4 v0 v1 v2 = some o → Ev 5 mZ256 4 [.ref v0, .int v1, .int v2] [] s (some (.int o), s))  {v0 : Nat} {v1 : Int32} {v2 : Int32} {o : Int32} (h : b_M_records_4 s k4 v0 v1 v2 = some o) : Ev 5 mZ256 4 [.ref v0, .int v1, .int v2] [] s (some (.int o), s) := by
  unfold b_M_records_4 at h
  refine Ev_blk 3 (pc' := if v2 < (nI 128) then 11 else 33) (ls' := [.ref v0, .int v1, .int v2]) (st' := []) (s' := s) rfl trivial ?_
  refine ib h (fun c1 h => ?_) (fun c1 h => ?_)
  · refine gd h (fun g2 h => ?_)
    refine Ev_blk 3 (pc' := 14) (ls' := [.ref v0, .int v1, .int v2]) (st' := [.int v2, .ref v0, .int v1]) (s' := s) rfl trivial ?_
    refine bd h (fun r1 hr1 h => ?_)
    refine Ev_call 2 210 1 [.ref v0, .int v2] [.int v1] rfl rfl rfl rfl g2 rfl rfl (Nat.le_of_ble_eq_true rfl) (t_M_isRecord hr1) ?_
    refine Ev_blk 1 (pc' := if r1 = (nI 0) then 24 else 20) (ls' := [.ref v0, .int v1, .int v2]) (st' := [.int v1]) (s' := s) rfl trivial ?_
    have k3_ : Ev 5 mZ256 25 [.ref v0, .int v1, .int v2] [.int (if r1 = (nI 0) then nI 0 else nI 1), .int v1] s (some (.int o), s) := by
      refine Ev_blk 4 (pc' := 4) (ls' := [.ref v0, .int (v1 + (if r1 = (nI 0) then nI 0 else nI 1)), .int (v2 + nI 1)]) (st' := []) (s' := s) rfl trivial ?_
      exact H4 h
    refine icases (fun c4 => ?_) (fun c4 => ?_)
    · exact Ev_blk 1 (pc' := 25) (ls' := [.ref v0, .int v1, .int v2]) (st' := [.int (nI 0), .int v1]) (s' := s) rfl trivial (by simpa only [if_pos c4] using k3_)
    · exact Ev_blk 2 (pc' := 25) (ls' := [.ref v0, .int v1, .int v2]) (st' := [.int (nI 1), .int v1]) (s' := s) rfl trivial (by simpa only [if_neg c4] using k3_)
  · refine Ev_blk 1 (pc' := 34) (ls' := [.ref v0, .int v1, .int v2]) (st' := [.int v1]) (s' := s) rfl trivial ?_
    cases h
    exact Ev_ret rfl trivial
def l_M_records_4 (s : AS)  : Nat → Nat → Int32 → Int32 → Option Int32
  | 0 => fun _ _ _ => none
  | n + 1 => b_M_records_4 s  (l_M_records_4 s  n)
theorem u_M_records_4 {s : AS}   {n : Nat} : ∀  {v0 : Nat} {v1 : Int32} {v2 : Int32} {o : Int32}, l_M_records_4 s  n v0 v1 v2 = some o → Ev 5 mZ256 4 [.ref v0, .int v1, .int v2] [] s (some (.int o), s) := by
  induction n with
  | zero => intros; rename_i h; cases h
  | succ n ih => intros; rename_i h; exact t_M_records_4  (fun h => ih h) h
/-- RecordHeapModel.records()I -/
def f_M_records (s : AS) (a0 : Nat) : Option Int32 :=
  l_M_records_4 s fuel a0 (nI 0) (nI 0)
theorem t_M_records {s : AS} {a0 : Nat} {o : Int32} (h : f_M_records s a0 = some o) : Ev 5 mZ256 0 [.ref a0, .retAddr 0, .retAddr 0] [] s (some (.int o), s) := by
  unfold f_M_records at h
  refine Ev_blk 4 (pc' := 4) (ls' := [.ref a0, .int (nI 0), .int (nI 0)]) (st' := []) (s' := s) rfl trivial ?_
  exact u_M_records_4 h

/-- RecordHeapModel.sumOf(I)I -/
def f_M_sumOf (s : AS) (a0 : Nat) (a1 : Int32) : Option (Int32 × AS) :=
  if sT s a0 = 13 then
  if (sI s a0 53) = (nI 0) then
    if sT s (sR s a0 49) = 20 ∧ inA a1 (sN s (sR s a0 49)) then
    if sT s (sR s a0 49) = 20 ∧ inA (a1 + (nI 1)) (sN s (sR s a0 49)) then
    if (sI s (sR s a0 49) a1.toNatClampNeg) = (sI s (sR s a0 49) (a1 + (nI 1)).toNatClampNeg) then
      some (-(nI 1), s)
    else
      if sT s a0 = 13 ∧ ((nI 1) = nI 0 ∨ (nI 1) = nI 1) then
      (f_M_reckonAll (setI s a0 19 (nI 1)) a0 (sI (setI s a0 19 (nI 1)) (sR s a0 49) a1.toNatClampNeg) (sI (setI s a0 19 (nI 1)) (sR s a0 49) (a1 + (nI 1)).toNatClampNeg)).bind fun r1 =>
      if sT r1 a0 = 13 ∧ ((nI 0) = nI 0 ∨ (nI 0) = nI 1) then
      if sT r1 a0 = 13 then
      if sT r1 a0 = 13 ∧ ((sI (setI r1 a0 19 (nI 0)) a0 37) = nI 0 ∨ (sI (setI r1 a0 19 (nI 0)) a0 37) = nI 1) then
      some ((sL r1 a0 38).toInt32, setI (setI r1 a0 19 (nI 0)) a0 53 (sI (setI r1 a0 19 (nI 0)) a0 37))
      else none
      else none
      else none
      else none
    else none
    else none
  else
    some (-(nI 1), s)
  else none
theorem t_M_sumOf {s : AS} {a0 : Nat} {a1 : Int32} {o : Int32 × AS} (h : f_M_sumOf s a0 a1 = some o) : Ev 5 mZ257 0 [.ref a0, .int a1] [] s (some (.int o.1), o.2) := by
  unfold f_M_sumOf at h
  refine gd h (fun g1 h => ?_)
  refine Ev_blk 3 (pc' := if (sI s a0 53) = (nI 0) then 7 else 24) (ls' := [.ref a0, .int a1]) (st' := []) (s' := s) rfl ⟨trivial, g1⟩ ?_
  refine ib h (fun c2 h => ?_) (fun c2 h => ?_)
  · refine gd h (fun g3 h => ?_)
    refine gd h (fun g4 h => ?_)
    refine Ev_blk 11 (pc' := if (sI s (sR s a0 49) a1.toNatClampNeg) = (sI s (sR s a0 49) (a1 + (nI 1)).toNatClampNeg) then 24 else 26) (ls' := [.ref a0, .int a1]) (st' := []) (s' := s) rfl ⟨⟨⟨⟨trivial, g1⟩, ⟨Or.inl g3.1, g3.2⟩⟩, g1⟩, ⟨Or.inl g4.1, g4.2⟩⟩ ?_
    refine ib h (fun c5 h => ?_) (fun c5 h => ?_)
    · refine Ev_blk 1 (pc' := 25) (ls' := [.ref a0, .int a1]) (st' := [.int (-(nI 1))]) (s' := s) rfl trivial ?_
      cases h
      exact Ev_ret rfl trivial
    · refine gd h (fun g6 h => ?_)
      refine Ev_blk 14 (pc' := 46) (ls' := [.ref a0, .int a1]) (st' := [.int (sI (setI s a0 19 (nI 1)) (sR s a0 49) (a1 + (nI 1)).toNatClampNeg), .int (sI (setI s a0 19 (nI 1)) (sR s a0 49) a1.toNatClampNeg), .ref a0]) (s' := setI s a0 19 (nI 1)) rfl ⟨⟨⟨⟨⟨trivial, g6⟩, g1⟩, ⟨Or.inl g3.1, g3.2⟩⟩, g1⟩, ⟨Or.inl g4.1, g4.2⟩⟩ ?_
      refine bd h (fun r1 hr1 h => ?_)
      refine Ev_call 2 196 2 [.ref a0, .int (sI (setI s a0 19 (nI 1)) (sR s a0 49) a1.toNatClampNeg), .int (sI (setI s a0 19 (nI 1)) (sR s a0 49) (a1 + (nI 1)).toNatClampNeg)] [] rfl rfl rfl rfl g1 rfl rfl (Nat.le_of_ble_eq_true rfl) (t_M_reckonAll hr1) ?_
      refine gd h (fun g7 h => ?_)
      refine gd h (fun g8 h => ?_)
      refine gd h (fun g9 h => ?_)
      refine Ev_blk 10 (pc' := 67) (ls' := [.ref a0, .int a1]) (st' := [.int ((sL r1 a0 38).toInt32)]) (s' := setI (setI r1 a0 19 (nI 0)) a0 53 (sI (setI r1 a0 19 (nI 0)) a0 37)) rfl ⟨⟨⟨⟨trivial, g7⟩, g8⟩, g9⟩, g8⟩ ?_
      cases h
      exact Ev_ret rfl trivial
  · refine Ev_blk 1 (pc' := 25) (ls' := [.ref a0, .int a1]) (st' := [.int (-(nI 1))]) (s' := s) rfl trivial ?_
    cases h
    exact Ev_ret rfl trivial

/-- RecordHeapModel.putAlike(II)I -/
def f_M_putAlike (s : AS) (a0 : Nat) (a1 : Int32) (a2 : Int32) : Option (Int32 × AS) :=
  (f_M_in s a1.toInt64 (lN 0) (lN 200)).bind fun r1 =>
  if r1 = (nI 0) then
    some (-(nI 3), s)
  else
    (f_M_in s a2.toInt64 (lN 0) (lN 255)).bind fun r2 =>
    if r2 = (nI 0) then
      some (-(nI 3), s)
    else
      if sT s a0 = 13 then
      (f_M_bringAlike s a0 a1 a2).bind fun r3 =>
      if sT r3 a0 = 13 then
      (f_M_putNow r3 a0).bind fun r4 =>
      some (r4.1, r4.2)
      else none
      else none
theorem t_M_putAlike {s : AS} {a0 : Nat} {a1 : Int32} {a2 : Int32} {o : Int32 × AS} (h : f_M_putAlike s a0 a1 a2 = some o) : Ev 12 mZ259 0 [.ref a0, .int a1, .int a2] [] s (some (.int o.1), o.2) := by
  unfold f_M_putAlike at h
  refine Ev_blk 4 (pc' := 6) (ls' := [.ref a0, .int a1, .int a2]) (st' := [.long (lN 200), .long (lN 0), .long a1.toInt64]) (s' := s) rfl trivial ?_
  refine bd h (fun r1 hr1 h => ?_)
  refine Ev_call 1 145 3 [.long a1.toInt64, .long (lN 0), .long (lN 200)] [] rfl rfl rfl rfl trivial rfl rfl (Nat.le_of_ble_eq_true rfl) (t_M_in hr1) ?_
  refine Ev_blk 1 (pc' := if r1 = (nI 0) then 24 else 12) (ls' := [.ref a0, .int a1, .int a2]) (st' := []) (s' := s) rfl trivial ?_
  refine ib h (fun c1 h => ?_) (fun c1 h => ?_)
  · refine Ev_blk 1 (pc' := 26) (ls' := [.ref a0, .int a1, .int a2]) (st' := [.int (-(nI 3))]) (s' := s) rfl trivial ?_
    cases h
    exact Ev_ret rfl trivial
  · refine Ev_blk 4 (pc' := 18) (ls' := [.ref a0, .int a1, .int a2]) (st' := [.long (lN 255), .long (lN 0), .long a2.toInt64]) (s' := s) rfl trivial ?_
    refine bd h (fun r2 hr2 h => ?_)
    refine Ev_call 1 145 3 [.long a2.toInt64, .long (lN 0), .long (lN 255)] [] rfl rfl rfl rfl trivial rfl rfl (Nat.le_of_ble_eq_true rfl) (t_M_in hr2) ?_
    refine Ev_blk 1 (pc' := if r2 = (nI 0) then 24 else 27) (ls' := [.ref a0, .int a1, .int a2]) (st' := []) (s' := s) rfl trivial ?_
    refine ib h (fun c2 h => ?_) (fun c2 h => ?_)
    · refine Ev_blk 1 (pc' := 26) (ls' := [.ref a0, .int a1, .int a2]) (st' := [.int (-(nI 3))]) (s' := s) rfl trivial ?_
      cases h
      exact Ev_ret rfl trivial
    · refine gd h (fun g3 h => ?_)
      refine Ev_blk 3 (pc' := 30) (ls' := [.ref a0, .int a1, .int a2]) (st' := [.int a2, .int a1, .ref a0]) (s' := s) rfl trivial ?_
      refine bd h (fun r3 hr3 h => ?_)
      refine Ev_call 2 248 2 [.ref a0, .int a1, .int a2] [] rfl rfl rfl rfl g3 rfl rfl (Nat.le_of_ble_eq_true rfl) (t_M_bringAlike hr3) ?_
      refine gd h (fun g4 h => ?_)
      refine Ev_blk 1 (pc' := 34) (ls' := [.ref a0, .int a1, .int a2]) (st' := [.ref a0]) (s' := r3) rfl trivial ?_
      refine bd h (fun r4 hr4 h => ?_)
      refine Ev_call 2 184 0 [.ref a0] [] rfl rfl rfl rfl g4 rfl rfl (Nat.le_of_ble_eq_true rfl) (t_M_putNow hr4) ?_
      cases h
      exact Ev_ret rfl trivial

/-- RecordHeapModel.growTo(II)I -/
def f_M_growTo (s : AS) (a0 : Nat) (a1 : Int32) (a2 : Int32) : Option (Int32 × AS) :=
  if sT s a0 = 13 then
  (f_M_isRecord s a0 a1).bind fun r1 =>
  if r1 = (nI 0) then
    some (-(nI 3), s)
  else
    (f_M_in s a2.toInt64 (lN 0) (lN 200)).bind fun r2 =>
    if r2 = (nI 0) then
      some (-(nI 3), s)
    else
      (f_M_bringAlike s a0 a2 (nI 7)).bind fun r3 =>
      if sT r3 a0 = 13 then
      (f_M_rewriteNow r3 a0 a1).bind fun r4 =>
      some (r4.1, r4.2)
      else none
  else none
theorem t_M_growTo {s : AS} {a0 : Nat} {a1 : Int32} {a2 : Int32} {o : Int32 × AS} (h : f_M_growTo s a0 a1 a2 = some o) : Ev 12 mZ260 0 [.ref a0, .int a1, .int a2] [] s (some (.int o.1), o.2) := by
  unfold f_M_growTo at h
  refine gd h (fun g1 h => ?_)
  refine Ev_blk 2 (pc' := 2) (ls' := [.ref a0, .int a1, .int a2]) (st' := [.int a1, .ref a0]) (s' := s) rfl trivial ?_
  refine bd h (fun r1 hr1 h => ?_)
  refine Ev_call 2 210 1 [.ref a0, .int a1] [] rfl rfl rfl rfl g1 rfl rfl (Nat.le_of_ble_eq_true rfl) (t_M_isRecord hr1) ?_
  refine Ev_blk 1 (pc' := if r1 = (nI 0) then 20 else 8) (ls' := [.ref a0, .int a1, .int a2]) (st' := []) (s' := s) rfl trivial ?_
  refine ib h (fun c2 h => ?_) (fun c2 h => ?_)
  · refine Ev_blk 1 (pc' := 22) (ls' := [.ref a0, .int a1, .int a2]) (st' := [.int (-(nI 3))]) (s' := s) rfl trivial ?_
    cases h
    exact Ev_ret rfl trivial
  · refine Ev_blk 4 (pc' := 14) (ls' := [.ref a0, .int a1, .int a2]) (st' := [.long (lN 200), .long (lN 0), .long a2.toInt64]) (s' := s) rfl trivial ?_
    refine bd h (fun r2 hr2 h => ?_)
    refine Ev_call 1 145 3 [.long a2.toInt64, .long (lN 0), .long (lN 200)] [] rfl rfl rfl rfl trivial rfl rfl (Nat.le_of_ble_eq_true rfl) (t_M_in hr2) ?_
    refine Ev_blk 1 (pc' := if r2 = (nI 0) then 20 else 23) (ls' := [.ref a0, .int a1, .int a2]) (st' := []) (s' := s) rfl trivial ?_
    refine ib h (fun c3 h => ?_) (fun c3 h => ?_)
    · refine Ev_blk 1 (pc' := 22) (ls' := [.ref a0, .int a1, .int a2]) (st' := [.int (-(nI 3))]) (s' := s) rfl trivial ?_
      cases h
      exact Ev_ret rfl trivial
    · refine Ev_blk 3 (pc' := 27) (ls' := [.ref a0, .int a1, .int a2]) (st' := [.int (nI 7), .int a2, .ref a0]) (s' := s) rfl trivial ?_
      refine bd h (fun r3 hr3 h => ?_)
      refine Ev_call 2 248 2 [.ref a0, .int a2, .int (nI 7)] [] rfl rfl rfl rfl g1 rfl rfl (Nat.le_of_ble_eq_true rfl) (t_M_bringAlike hr3) ?_
      refine gd h (fun g4 h => ?_)
      refine Ev_blk 2 (pc' := 32) (ls' := [.ref a0, .int a1, .int a2]) (st' := [.int a1, .ref a0]) (s' := r3) rfl trivial ?_
      refine bd h (fun r4 hr4 h => ?_)
      refine Ev_call 2 212 1 [.ref a0, .int a1] [] rfl rfl rfl rfl g4 rfl rfl (Nat.le_of_ble_eq_true rfl) (t_M_rewriteNow hr4) ?_
      cases h
      exact Ev_ret rfl trivial

/-- RecordHeapModel.act(III)I -/
def f_M_act (s : AS) (a0 : Nat) (a1 : Int32) (a2 : Int32) (a3 : Int32) : Option (Int32 × AS) :=
  if a1 = nI 0 then
    if sT s a0 = 13 then
    (f_M_putAlike s a0 a2 a3).bind fun r1 =>
    some (r1.1, r1.2)
    else none
  else
  if a1 = nI 1 then
    if sT s a0 = 13 then
    (f_M_growTo s a0 a2 a3).bind fun r2 =>
    some (r2.1, r2.2)
    else none
  else
  if a1 = nI 2 then
    if sT s a0 = 13 then
    (f_M_dropNow s a0 a2).bind fun r3 =>
    some (r3.1, r3.2)
    else none
  else
  if a1 = nI 3 then
    if sT s a0 = 13 then
    (f_M_packNow s a0 a2).bind fun r4 =>
    some (r4.1, r4.2)
    else none
  else
  if sT s a0 = 13 then
  (f_M_mendNow s a0).bind fun r5 =>
  some (r5.1, r5.2)
  else none
theorem t_M_act {s : AS} {a0 : Nat} {a1 : Int32} {a2 : Int32} {a3 : Int32} {o : Int32 × AS} (h : f_M_act s a0 a1 a2 a3 = some o) : Ev 13 mZ258 0 [.ref a0, .int a1, .int a2, .int a3] [] s (some (.int o.1), o.2) := by
  unfold f_M_act at h
  refine Ev_blk 2 (pc' := if a1 = nI 0 then 32 else if a1 = nI 1 then 39 else if a1 = nI 2 then 46 else if a1 = nI 3 then 52 else 58) (ls' := [.ref a0, .int a1, .int a2, .int a3]) (st' := []) (s' := s) rfl trivial ?_
  refine ib h (fun c1 h => ?_) (fun c1 h => ?_)
  · refine gd h (fun g2 h => ?_)
    refine Ev_blk 3 (pc' := 35) (ls' := [.ref a0, .int a1, .int a2, .int a3]) (st' := [.int a3, .int a2, .ref a0]) (s' := s) rfl trivial ?_
    refine bd h (fun r1 hr1 h => ?_)
    refine Ev_call 2 259 2 [.ref a0, .int a2, .int a3] [] rfl rfl rfl rfl g2 rfl rfl (Nat.le_of_ble_eq_true rfl) (t_M_putAlike hr1) ?_
    cases h
    exact Ev_ret rfl trivial
  refine ib h (fun c3 h => ?_) (fun c3 h => ?_)
  · refine gd h (fun g4 h => ?_)
    refine Ev_blk 3 (pc' := 42) (ls' := [.ref a0, .int a1, .int a2, .int a3]) (st' := [.int a3, .int a2, .ref a0]) (s' := s) rfl trivial ?_
    refine bd h (fun r2 hr2 h => ?_)
    refine Ev_call 2 260 2 [.ref a0, .int a2, .int a3] [] rfl rfl rfl rfl g4 rfl rfl (Nat.le_of_ble_eq_true rfl) (t_M_growTo hr2) ?_
    cases h
    exact Ev_ret rfl trivial
  refine ib h (fun c5 h => ?_) (fun c5 h => ?_)
  · refine gd h (fun g6 h => ?_)
    refine Ev_blk 2 (pc' := 48) (ls' := [.ref a0, .int a1, .int a2, .int a3]) (st' := [.int a2, .ref a0]) (s' := s) rfl trivial ?_
    refine bd h (fun r3 hr3 h => ?_)
    refine Ev_call 2 221 1 [.ref a0, .int a2] [] rfl rfl rfl rfl g6 rfl rfl (Nat.le_of_ble_eq_true rfl) (t_M_dropNow hr3) ?_
    cases h
    exact Ev_ret rfl trivial
  refine ib h (fun c7 h => ?_) (fun c7 h => ?_)
  · refine gd h (fun g8 h => ?_)
    refine Ev_blk 2 (pc' := 54) (ls' := [.ref a0, .int a1, .int a2, .int a3]) (st' := [.int a2, .ref a0]) (s' := s) rfl trivial ?_
    refine bd h (fun r4 hr4 h => ?_)
    refine Ev_call 2 225 1 [.ref a0, .int a2] [] rfl rfl rfl rfl g8 rfl rfl (Nat.le_of_ble_eq_true rfl) (t_M_packNow hr4) ?_
    cases h
    exact Ev_ret rfl trivial
  refine gd h (fun g9 h => ?_)
  refine Ev_blk 1 (pc' := 59) (ls' := [.ref a0, .int a1, .int a2, .int a3]) (st' := [.ref a0]) (s' := s) rfl trivial ?_
  refine bd h (fun r5 hr5 h => ?_)
  refine Ev_call 2 229 0 [.ref a0] [] rfl rfl rfl rfl g9 rfl rfl (Nat.le_of_ble_eq_true rfl) (t_M_mendNow hr5) ?_
  cases h
  exact Ev_ret rfl trivial

def b_M_run_159  (v0 : Nat) (w0 : Int32) (w1 : Nat) (s : AS) : Option (Int32 × AS) :=
  if sT s w1 = 13 then
  if sT s v0 = 13 then
  some (nI 0, setI (setI s w1 51 w0) v0 50 ((sI (setI s w1 51 w0) v0 50) + (nI 1)))
  else none
  else none
theorem t_M_run_159   {d1 d2 d3 d4 : Value} {v0 : Nat} {w0 : Int32} {w1 : Nat} {s : AS} {o : Int32 × AS} (h : b_M_run_159  v0 w0 w1 s = some o) : Ev 14 mZ255 159 [.ref v0, d1, d2, d3, d4] [.int w0, .ref w1] s (some (.int o.1), o.2) := by
  unfold b_M_run_159 at h
  refine gd h (fun g1 h => ?_)
  refine gd h (fun g2 h => ?_)
  refine Ev_blk 8 (pc' := 173) (ls' := [.ref v0, d1, d2, d3, d4]) (st' := [.int (nI 0)]) (s' := setI (setI s w1 51 w0) v0 50 ((sI (setI s w1 51 w0) v0 50) + (nI 1))) rfl ⟨⟨⟨trivial, g1⟩, g2⟩, g2⟩ ?_
  cases h
  exact Ev_ret rfl trivial
def b_M_run_92  (v0 : Nat) (v1 : Int32) (s : AS) : Option (Int32 × AS) :=
  if sT s v0 = 13 then
  (f_M_sumOf s v0 (v1 + (nI 1))).bind fun r1 =>
  if sT r1.2 v0 = 13 then
  (f_M_sumOf r1.2 v0 (v1 + (nI 3))).bind fun r2 =>
  if sT r2.2 v0 = 13 then
  if (sI r2.2 v0 53) = (nI 0) then
    if sT r2.2 (sR r2.2 v0 49) = 20 ∧ inA v1 (sN r2.2 (sR r2.2 v0 49)) then
    (f_M_act r2.2 v0 (sI r2.2 (sR r2.2 v0 49) v1.toNatClampNeg) r1.1 r2.1).bind fun r3 =>
    if r3.1 < (nI 0) then
      some (-(nI 3), r3.2)
    else
      if sT r3.2 v0 = 13 then
      if sT r3.2 (sR r3.2 v0 49) = 20 ∧ inA v1 (sN r3.2 (sR r3.2 v0 49)) then
      if (sI r3.2 (sR r3.2 v0 49) v1.toNatClampNeg) = (nI 0) then
        b_M_run_159 v0 r3.1 v0 r3.2
      else
        b_M_run_159 v0 (sI r3.2 v0 51) v0 r3.2
      else none
      else none
    else none
  else
    some (-(nI 3), r2.2)
  else none
  else none
  else none
theorem t_M_run_92   {d2 d3 d4 : Value} {v0 : Nat} {v1 : Int32} {s : AS} {o : Int32 × AS} (h : b_M_run_92  v0 v1 s = some o) : Ev 14 mZ255 92 [.ref v0, .int v1, d2, d3, d4] [] s (some (.int o.1), o.2) := by
  unfold b_M_run_92 at h
  refine gd h (fun g1 h => ?_)
  refine Ev_blk 4 (pc' := 96) (ls' := [.ref v0, .int v1, d2, d3, d4]) (st' := [.int (v1 + (nI 1)), .ref v0]) (s' := s) rfl trivial ?_
  refine bd h (fun r1 hr1 h => ?_)
  refine Ev_call 2 257 1 [.ref v0, .int (v1 + (nI 1))] [] rfl rfl rfl rfl g1 rfl rfl (Nat.le_of_ble_eq_true rfl) (t_M_sumOf hr1) ?_
  refine gd h (fun g2 h => ?_)
  refine Ev_blk 5 (pc' := 104) (ls' := [.ref v0, .int v1, .int r1.1, d3, d4]) (st' := [.int (v1 + (nI 3)), .ref v0]) (s' := r1.2) rfl trivial ?_
  refine bd h (fun r2 hr2 h => ?_)
  refine Ev_call 2 257 1 [.ref v0, .int (v1 + (nI 3))] [] rfl rfl rfl rfl g2 rfl rfl (Nat.le_of_ble_eq_true rfl) (t_M_sumOf hr2) ?_
  refine gd h (fun g3 h => ?_)
  refine Ev_blk 4 (pc' := if (sI r2.2 v0 53) = (nI 0) then 118 else 115) (ls' := [.ref v0, .int v1, .int r1.1, .int r2.1, d4]) (st' := []) (s' := r2.2) rfl ⟨trivial, g3⟩ ?_
  refine ib h (fun c4 h => ?_) (fun c4 h => ?_)
  · refine gd h (fun g5 h => ?_)
    refine Ev_blk 7 (pc' := 127) (ls' := [.ref v0, .int v1, .int r1.1, .int r2.1, d4]) (st' := [.int r2.1, .int r1.1, .int (sI r2.2 (sR r2.2 v0 49) v1.toNatClampNeg), .ref v0]) (s' := r2.2) rfl ⟨⟨trivial, g3⟩, ⟨Or.inl g5.1, g5.2⟩⟩ ?_
    refine bd h (fun r3 hr3 h => ?_)
    refine Ev_call 2 258 3 [.ref v0, .int (sI r2.2 (sR r2.2 v0 49) v1.toNatClampNeg), .int r1.1, .int r2.1] [] rfl rfl rfl rfl g3 rfl rfl (Nat.le_of_ble_eq_true rfl) (t_M_act hr3) ?_
    refine Ev_blk 3 (pc' := if r3.1 < (nI 0) then 137 else 140) (ls' := [.ref v0, .int v1, .int r1.1, .int r2.1, .int r3.1]) (st' := []) (s' := r3.2) rfl trivial ?_
    refine ib h (fun c6 h => ?_) (fun c6 h => ?_)
    · refine Ev_blk 1 (pc' := 139) (ls' := [.ref v0, .int v1, .int r1.1, .int r2.1, .int r3.1]) (st' := [.int (-(nI 3))]) (s' := r3.2) rfl trivial ?_
      cases h
      exact Ev_ret rfl trivial
    · refine gd h (fun g7 h => ?_)
      refine gd h (fun g8 h => ?_)
      refine Ev_blk 6 (pc' := if (sI r3.2 (sR r3.2 v0 49) v1.toNatClampNeg) = (nI 0) then 150 else 155) (ls' := [.ref v0, .int v1, .int r1.1, .int r2.1, .int r3.1]) (st' := [.ref v0]) (s' := r3.2) rfl ⟨⟨trivial, g7⟩, ⟨Or.inl g8.1, g8.2⟩⟩ ?_
      refine ib h (fun c9 h => ?_) (fun c9 h => ?_)
      · refine Ev_blk 2 (pc' := 159) (ls' := [.ref v0, .int v1, .int r1.1, .int r2.1, .int r3.1]) (st' := [.int r3.1, .ref v0]) (s' := r3.2) rfl trivial ?_
        exact t_M_run_159 h
      · refine Ev_blk 2 (pc' := 159) (ls' := [.ref v0, .int v1, .int r1.1, .int r2.1, .int r3.1]) (st' := [.int (sI r3.2 v0 51), .ref v0]) (s' := r3.2) rfl ⟨trivial, g7⟩ ?_
        exact t_M_run_159 h
  · refine Ev_blk 1 (pc' := 117) (ls' := [.ref v0, .int v1, .int r1.1, .int r2.1, d4]) (st' := [.int (-(nI 3))]) (s' := r2.2) rfl trivial ?_
    cases h
    exact Ev_ret rfl trivial
/-- RecordHeapModel.run(I)I -/
def f_M_run (s : AS) (a0 : Nat) (a1 : Int32) : Option (Int32 × AS) :=
  if sT s a0 = 13 then
  if sT s (sR s a0 3) = 20 ∧ inA (nI 2) (sN s (sR s a0 3)) then
  if sT s (sR s a0 35) = 21 ∧ inA (nI 1) (sN s (sR s a0 35)) then
  if sT s (sR s a0 35) = 21 ∧ inA (nI 2) (sN s (sR s a0 35)) then
  if sT s (sR s a0 35) = 21 ∧ inA (nI 3) (sN s (sR s a0 35)) then
  (f_M_records (setJ (setJ (setJ s (sR s a0 35) (nI 1).toNatClampNeg ((sI s (sR s a0 3) (nI 2).toNatClampNeg).toInt64)) (sR s a0 35) (nI 2).toNatClampNeg ((sI s a0 50).toInt64)) (sR s a0 35) (nI 3).toNatClampNeg ((sI s a0 51).toInt64)) a0).bind fun r1 =>
  if sT s (sR s a0 35) = 21 ∧ inA (nI 4) (sN s (sR s a0 35)) then
  if sT s a0 = 13 ∧ ((nI 0) = nI 0 ∨ (nI 0) = nI 1) then
  if sT s (sR s a0 49) = 20 ∧ inA (a1 + (nI 5)) (sN s (sR s a0 49)) then
  if sT s (sR s a0 49) = 20 ∧ inA (a1 + (nI 6)) (sN s (sR s a0 49)) then
  if (sI (setI (setJ (setJ (setJ (setJ s (sR s a0 35) (nI 1).toNatClampNeg ((sI s (sR s a0 3) (nI 2).toNatClampNeg).toInt64)) (sR s a0 35) (nI 2).toNatClampNeg ((sI s a0 50).toInt64)) (sR s a0 35) (nI 3).toNatClampNeg ((sI s a0 51).toInt64)) (sR s a0 35) (nI 4).toNatClampNeg r1.toInt64) a0 53 (nI 0)) (sR s a0 49) (a1 + (nI 5)).toNatClampNeg) < (sI (setI (setJ (setJ (setJ (setJ s (sR s a0 35) (nI 1).toNatClampNeg ((sI s (sR s a0 3) (nI 2).toNatClampNeg).toInt64)) (sR s a0 35) (nI 2).toNatClampNeg ((sI s a0 50).toInt64)) (sR s a0 35) (nI 3).toNatClampNeg ((sI s a0 51).toInt64)) (sR s a0 35) (nI 4).toNatClampNeg r1.toInt64) a0 53 (nI 0)) (sR s a0 49) (a1 + (nI 6)).toNatClampNeg) then
    (f_M_sumOf (setI (setJ (setJ (setJ (setJ s (sR s a0 35) (nI 1).toNatClampNeg ((sI s (sR s a0 3) (nI 2).toNatClampNeg).toInt64)) (sR s a0 35) (nI 2).toNatClampNeg ((sI s a0 50).toInt64)) (sR s a0 35) (nI 3).toNatClampNeg ((sI s a0 51).toInt64)) (sR s a0 35) (nI 4).toNatClampNeg r1.toInt64) a0 53 (nI 0)) a0 (a1 + (nI 5))).bind fun r2 =>
    if sT r2.2 a0 = 13 then
    if (sI r2.2 a0 53) = (nI 0) then
      if r2.1 = (nI 0) then
        some (nI 0, r2.2)
      else
        b_M_run_92 a0 a1 r2.2
    else
      some (nI 0, r2.2)
    else none
  else
    b_M_run_92 a0 a1 (setI (setJ (setJ (setJ (setJ s (sR s a0 35) (nI 1).toNatClampNeg ((sI s (sR s a0 3) (nI 2).toNatClampNeg).toInt64)) (sR s a0 35) (nI 2).toNatClampNeg ((sI s a0 50).toInt64)) (sR s a0 35) (nI 3).toNatClampNeg ((sI s a0 51).toInt64)) (sR s a0 35) (nI 4).toNatClampNeg r1.toInt64) a0 53 (nI 0))
  else none
  else none
  else none
  else none
  else none
  else none
  else none
  else none
  else none
theorem t_M_run {s : AS} {a0 : Nat} {a1 : Int32} {o : Int32 × AS} (h : f_M_run s a0 a1 = some o) : Ev 14 mZ255 0 [.ref a0, .int a1, .retAddr 0, .retAddr 0, .retAddr 0] [] s (some (.int o.1), o.2) := by
  unfold f_M_run at h
  refine gd h (fun g1 h => ?_)
  refine gd h (fun g2 h => ?_)
  refine gd h (fun g3 h => ?_)
  refine gd h (fun g4 h => ?_)
  refine gd h (fun g5 h => ?_)
  refine Ev_blk 27 (pc' := 41) (ls' := [.ref a0, .int a1, .retAddr 0, .retAddr 0, .retAddr 0]) (st' := [.ref a0, .int (nI 4), .ref (sR s a0 35)]) (s' := setJ (setJ (setJ s (sR s a0 35) (nI 1).toNatClampNeg ((sI s (sR s a0 3) (nI 2).toNatClampNeg).toInt64)) (sR s a0 35) (nI 2).toNatClampNeg ((sI s a0 50).toInt64)) (sR s a0 35) (nI 3).toNatClampNeg ((sI s a0 51).toInt64)) rfl ⟨⟨⟨⟨⟨⟨⟨⟨⟨⟨⟨trivial, g1⟩, g1⟩, ⟨Or.inl g2.1, g2.2⟩⟩, g3⟩, g1⟩, g1⟩, g4⟩, g1⟩, g1⟩, g5⟩, g1⟩ ?_
  refine bd h (fun r1 hr1 h => ?_)
  refine Ev_call 2 256 0 [.ref a0] [.int (nI 4), .ref (sR s a0 35)] rfl rfl rfl rfl g1 rfl rfl (Nat.le_of_ble_eq_true rfl) (t_M_records hr1) ?_
  refine gd h (fun g6 h => ?_)
  refine gd h (fun g7 h => ?_)
  refine gd h (fun g8 h => ?_)
  refine gd h (fun g9 h => ?_)
  refine Ev_blk 18 (pc' := if (sI (setI (setJ (setJ (setJ (setJ s (sR s a0 35) (nI 1).toNatClampNeg ((sI s (sR s a0 3) (nI 2).toNatClampNeg).toInt64)) (sR s a0 35) (nI 2).toNatClampNeg ((sI s a0 50).toInt64)) (sR s a0 35) (nI 3).toNatClampNeg ((sI s a0 51).toInt64)) (sR s a0 35) (nI 4).toNatClampNeg r1.toInt64) a0 53 (nI 0)) (sR s a0 49) (a1 + (nI 5)).toNatClampNeg) < (sI (setI (setJ (setJ (setJ (setJ s (sR s a0 35) (nI 1).toNatClampNeg ((sI s (sR s a0 3) (nI 2).toNatClampNeg).toInt64)) (sR s a0 35) (nI 2).toNatClampNeg ((sI s a0 50).toInt64)) (sR s a0 35) (nI 3).toNatClampNeg ((sI s a0 51).toInt64)) (sR s a0 35) (nI 4).toNatClampNeg r1.toInt64) a0 53 (nI 0)) (sR s a0 49) (a1 + (nI 6)).toNatClampNeg) then 71 else 92) (ls' := [.ref a0, .int a1, .retAddr 0, .retAddr 0, .retAddr 0]) (st' := []) (s' := setI (setJ (setJ (setJ (setJ s (sR s a0 35) (nI 1).toNatClampNeg ((sI s (sR s a0 3) (nI 2).toNatClampNeg).toInt64)) (sR s a0 35) (nI 2).toNatClampNeg ((sI s a0 50).toInt64)) (sR s a0 35) (nI 3).toNatClampNeg ((sI s a0 51).toInt64)) (sR s a0 35) (nI 4).toNatClampNeg r1.toInt64) a0 53 (nI 0)) rfl ⟨⟨⟨⟨⟨⟨trivial, g6⟩, g7⟩, g1⟩, ⟨Or.inl g8.1, g8.2⟩⟩, g1⟩, ⟨Or.inl g9.1, g9.2⟩⟩ ?_
  refine ib h (fun c10 h => ?_) (fun c10 h => ?_)
  · refine Ev_blk 4 (pc' := 75) (ls' := [.ref a0, .int a1, .retAddr 0, .retAddr 0, .retAddr 0]) (st' := [.int (a1 + (nI 5)), .ref a0]) (s' := setI (setJ (setJ (setJ (setJ s (sR s a0 35) (nI 1).toNatClampNeg ((sI s (sR s a0 3) (nI 2).toNatClampNeg).toInt64)) (sR s a0 35) (nI 2).toNatClampNeg ((sI s a0 50).toInt64)) (sR s a0 35) (nI 3).toNatClampNeg ((sI s a0 51).toInt64)) (sR s a0 35) (nI 4).toNatClampNeg r1.toInt64) a0 53 (nI 0)) rfl trivial ?_
    refine bd h (fun r2 hr2 h => ?_)
    refine Ev_call 2 257 1 [.ref a0, .int (a1 + (nI 5))] [] rfl rfl rfl rfl g1 rfl rfl (Nat.le_of_ble_eq_true rfl) (t_M_sumOf hr2) ?_
    refine gd h (fun g11 h => ?_)
    refine Ev_blk 4 (pc' := if (sI r2.2 a0 53) = (nI 0) then 86 else 90) (ls' := [.ref a0, .int a1, .int r2.1, .retAddr 0, .retAddr 0]) (st' := []) (s' := r2.2) rfl ⟨trivial, g11⟩ ?_
    refine ib h (fun c12 h => ?_) (fun c12 h => ?_)
    · refine Ev_blk 2 (pc' := if r2.1 = (nI 0) then 90 else 92) (ls' := [.ref a0, .int a1, .int r2.1, .retAddr 0, .retAddr 0]) (st' := []) (s' := r2.2) rfl trivial ?_
      refine ib h (fun c13 h => ?_) (fun c13 h => ?_)
      · refine Ev_blk 1 (pc' := 91) (ls' := [.ref a0, .int a1, .int r2.1, .retAddr 0, .retAddr 0]) (st' := [.int (nI 0)]) (s' := r2.2) rfl trivial ?_
        cases h
        exact Ev_ret rfl trivial
      · exact t_M_run_92 h
    · refine Ev_blk 1 (pc' := 91) (ls' := [.ref a0, .int a1, .int r2.1, .retAddr 0, .retAddr 0]) (st' := [.int (nI 0)]) (s' := r2.2) rfl trivial ?_
      cases h
      exact Ev_ret rfl trivial
  · exact t_M_run_92 h

def b_M_giveBack_35 (k35 : Nat → Int32 → Int32 → AS → Option AS) (v0 : Nat) (v1 : Int32) (v2 : Int32) (s : AS) : Option AS :=
  if v2 < (nI 16) then
    if sT s v0 = 13 then
    if sT s (sR s v0 10) = 20 ∧ inA v2 (sN s (sR s v0 10)) then
    if sT s (sR s v0 7) = 20 ∧ inA v2 (sN s (sR s v0 7)) then
    k35 v0 v1 (v2 + nI 1) (setI s (sR s v0 7) v2.toNatClampNeg (sI s (sR s v0 10) v2.toNatClampNeg))
    else none
    else none
    else none
  else
    if sT s v0 = 13 then
    some (setI s v0 8 v1)
    else none
theorem t_M_giveBack_35 {k35 : Nat → Int32 → Int32 → AS → Option AS} (H35 : ∀ {v0 : Nat} {v1 : Int32} {v2 : Int32} {s : AS} {o : AS}, k35 v0 v1 v2 s = some o → Ev 1 mZ261 35 [.ref v0, .int v1, .int v2] [] s (none, o))  {v0 : Nat} {v1 : Int32} {v2 : Int32} {s : AS} {o : AS} (h : b_M_giveBack_35 k35 v0 v1 v2 s = some o) : Ev 1 mZ261 35 [.ref v0, .int v1, .int v2] [] s (none, o) := by
  unfold b_M_giveBack_35 at h
  refine Ev_blk 3 (pc' := if v2 < (nI 16) then 41 else 59) (ls' := [.ref v0, .int v1, .int v2]) (st' := []) (s' := s) rfl trivial ?_
  refine ib h (fun c1 h => ?_) (fun c1 h => ?_)
  · refine gd h (fun g2 h => ?_)
    refine gd h (fun g3 h => ?_)
    refine gd h (fun g4 h => ?_)
    refine Ev_blk 10 (pc' := 35) (ls' := [.ref v0, .int v1, .int (v2 + nI 1)]) (st' := []) (s' := setI s (sR s v0 7) v2.toNatClampNeg (sI s (sR s v0 10) v2.toNatClampNeg)) rfl ⟨⟨⟨⟨trivial, g2⟩, g2⟩, ⟨Or.inl g3.1, g3.2⟩⟩, g4⟩ ?_
    exact H35 h
  · refine gd h (fun g5 h => ?_)
    refine Ev_blk 3 (pc' := 64) (ls' := [.ref v0, .int v1, .int v2]) (st' := []) (s' := setI s v0 8 v1) rfl ⟨trivial, g5⟩ ?_
    cases h
    exact Ev_ret rfl trivial
def l_M_giveBack_35  : Nat → Nat → Int32 → Int32 → AS → Option AS
  | 0 => fun _ _ _ _ => none
  | n + 1 => b_M_giveBack_35  (l_M_giveBack_35  n)
theorem u_M_giveBack_35   {n : Nat} : ∀  {v0 : Nat} {v1 : Int32} {v2 : Int32} {s : AS} {o : AS}, l_M_giveBack_35  n v0 v1 v2 s = some o → Ev 1 mZ261 35 [.ref v0, .int v1, .int v2] [] s (none, o) := by
  induction n with
  | zero => intros; rename_i h; cases h
  | succ n ih => intros; rename_i h; exact t_M_giveBack_35  (fun h => ih h) h
def b_M_giveBack_8 (k8 : Nat → Int32 → Int32 → AS → Option AS) (v0 : Nat) (v1 : Int32) (v2 : Int32) (s : AS) : Option AS :=
  if v2 < (nI 13056) then
    if sT s v0 = 13 then
    if sT s (sR s v0 9) = 20 ∧ inA v2 (sN s (sR s v0 9)) then
    if sT s (sR s v0 6) = 20 ∧ inA v2 (sN s (sR s v0 6)) then
    k8 v0 v1 (v2 + nI 1) (setI s (sR s v0 6) v2.toNatClampNeg (sI s (sR s v0 9) v2.toNatClampNeg))
    else none
    else none
    else none
  else
    l_M_giveBack_35 fuel v0 v1 (nI 0) s
theorem t_M_giveBack_8 {k8 : Nat → Int32 → Int32 → AS → Option AS} (H8 : ∀ {v0 : Nat} {v1 : Int32} {v2 : Int32} {s : AS} {o : AS}, k8 v0 v1 v2 s = some o → Ev 1 mZ261 8 [.ref v0, .int v1, .int v2] [] s (none, o))  {v0 : Nat} {v1 : Int32} {v2 : Int32} {s : AS} {o : AS} (h : b_M_giveBack_8 k8 v0 v1 v2 s = some o) : Ev 1 mZ261 8 [.ref v0, .int v1, .int v2] [] s (none, o) := by
  unfold b_M_giveBack_8 at h
  refine Ev_blk 3 (pc' := if v2 < (nI 13056) then 15 else 33) (ls' := [.ref v0, .int v1, .int v2]) (st' := []) (s' := s) rfl trivial ?_
  refine ib h (fun c1 h => ?_) (fun c1 h => ?_)
  · refine gd h (fun g2 h => ?_)
    refine gd h (fun g3 h => ?_)
    refine gd h (fun g4 h => ?_)
    refine Ev_blk 10 (pc' := 8) (ls' := [.ref v0, .int v1, .int (v2 + nI 1)]) (st' := []) (s' := setI s (sR s v0 6) v2.toNatClampNeg (sI s (sR s v0 9) v2.toNatClampNeg)) rfl ⟨⟨⟨⟨trivial, g2⟩, g2⟩, ⟨Or.inl g3.1, g3.2⟩⟩, g4⟩ ?_
    exact H8 h
  · refine Ev_blk 2 (pc' := 35) (ls' := [.ref v0, .int v1, .int (nI 0)]) (st' := []) (s' := s) rfl trivial ?_
    exact u_M_giveBack_35 h
def l_M_giveBack_8  : Nat → Nat → Int32 → Int32 → AS → Option AS
  | 0 => fun _ _ _ _ => none
  | n + 1 => b_M_giveBack_8  (l_M_giveBack_8  n)
theorem u_M_giveBack_8   {n : Nat} : ∀  {v0 : Nat} {v1 : Int32} {v2 : Int32} {s : AS} {o : AS}, l_M_giveBack_8  n v0 v1 v2 s = some o → Ev 1 mZ261 8 [.ref v0, .int v1, .int v2] [] s (none, o) := by
  induction n with
  | zero => intros; rename_i h; cases h
  | succ n ih => intros; rename_i h; exact t_M_giveBack_8  (fun h => ih h) h
/-- RecordHeapModel.giveBack(I)V -/
def f_M_giveBack (s : AS) (a0 : Nat) (a1 : Int32) : Option AS :=
  if sT s a0 = 13 then
  (f_M_putBack s a0 (nI 17)).bind fun r1 =>
  l_M_giveBack_8 fuel a0 a1 (nI 0) r1
  else none
theorem t_M_giveBack {s : AS} {a0 : Nat} {a1 : Int32} {o : AS} (h : f_M_giveBack s a0 a1 = some o) : Ev 1 mZ261 0 [.ref a0, .int a1, .retAddr 0] [] s (none, o) := by
  unfold f_M_giveBack at h
  refine gd h (fun g1 h => ?_)
  refine Ev_blk 2 (pc' := 3) (ls' := [.ref a0, .int a1, .retAddr 0]) (st' := [.int (nI 17), .ref a0]) (s' := s) rfl trivial ?_
  refine bd h (fun r1 hr1 h => ?_)
  refine Ev_call 2 143 1 [.ref a0, .int (nI 17)] [] rfl rfl rfl rfl g1 rfl rfl (Nat.le_of_ble_eq_true rfl) (t_M_putBack hr1) ?_
  refine Ev_blk 2 (pc' := 8) (ls' := [.ref a0, .int a1, .int (nI 0)]) (st' := []) (s' := r1) rfl trivial ?_
  exact u_M_giveBack_8 h

def b_M_orders_150 (k140 : Nat → Int32 → Int32 → AS → Option (Int32 × AS)) (k150 : Nat → Int32 → Int32 → Int32 → AS → Option (Int32 × AS)) (v0 : Nat) (v1 : Int32) (v2 : Int32) (v3 : Int32) (s : AS) : Option (Int32 × AS) :=
  if sT s v0 = 13 then
  if sT s (sR s v0 49) = 20 ∧ inA (((nI 8) * v2) + (nI 7)) (sN s (sR s v0 49)) then
  if v3 < (sI s (sR s v0 49) (((nI 8) * v2) + (nI 7)).toNatClampNeg) then
    (f_M_run s v0 ((nI 8) * v2)).bind fun r1 =>
    if r1.1 < (nI 0) then
      if sT r1.2 v0 = 13 then
      (f_M_giveBack r1.2 v0 v1).bind fun r2 =>
      if sT r2 v0 = 13 then
      (f_M_tell (setI r2 v0 52 v2) v0 (-(nI 3))).bind fun r3 =>
      some (r3.1, r3.2)
      else none
      else none
    else
      k150 v0 v1 v2 (v3 + nI 1) r1.2
  else
    k140 v0 v1 (v2 + nI 1) s
  else none
  else none
theorem t_M_orders_150 {k140 : Nat → Int32 → Int32 → AS → Option (Int32 × AS)} {k150 : Nat → Int32 → Int32 → Int32 → AS → Option (Int32 × AS)} (H140 : ∀ {d3 : Value} {v0 : Nat} {v1 : Int32} {v2 : Int32} {s : AS} {o : Int32 × AS}, k140 v0 v1 v2 s = some o → Ev 15 mZ251 140 [.ref v0, .int v1, .int v2, d3] [] s (some (.int o.1), o.2)) (H150 : ∀ {v0 : Nat} {v1 : Int32} {v2 : Int32} {v3 : Int32} {s : AS} {o : Int32 × AS}, k150 v0 v1 v2 v3 s = some o → Ev 15 mZ251 150 [.ref v0, .int v1, .int v2, .int v3] [] s (some (.int o.1), o.2))  {v0 : Nat} {v1 : Int32} {v2 : Int32} {v3 : Int32} {s : AS} {o : Int32 × AS} (h : b_M_orders_150 k140 k150 v0 v1 v2 v3 s = some o) : Ev 15 mZ251 150 [.ref v0, .int v1, .int v2, .int v3] [] s (some (.int o.1), o.2) := by
  unfold b_M_orders_150 at h
  refine gd h (fun g1 h => ?_)
  refine gd h (fun g2 h => ?_)
  refine Ev_blk 10 (pc' := if v3 < (sI s (sR s v0 49) (((nI 8) * v2) + (nI 7)).toNatClampNeg) then 166 else 200) (ls' := [.ref v0, .int v1, .int v2, .int v3]) (st' := []) (s' := s) rfl ⟨⟨trivial, g1⟩, ⟨Or.inl g2.1, g2.2⟩⟩ ?_
  refine ib h (fun c3 h => ?_) (fun c3 h => ?_)
  · refine Ev_blk 4 (pc' := 171) (ls' := [.ref v0, .int v1, .int v2, .int v3]) (st' := [.int ((nI 8) * v2), .ref v0]) (s' := s) rfl trivial ?_
    refine bd h (fun r1 hr1 h => ?_)
    refine Ev_call 2 255 1 [.ref v0, .int ((nI 8) * v2)] [] rfl rfl rfl rfl g1 rfl rfl (Nat.le_of_ble_eq_true rfl) (t_M_run hr1) ?_
    refine Ev_blk 1 (pc' := if r1.1 < (nI 0) then 177 else 194) (ls' := [.ref v0, .int v1, .int v2, .int v3]) (st' := []) (s' := r1.2) rfl trivial ?_
    refine ib h (fun c4 h => ?_) (fun c4 h => ?_)
    · refine gd h (fun g5 h => ?_)
      refine Ev_blk 2 (pc' := 179) (ls' := [.ref v0, .int v1, .int v2, .int v3]) (st' := [.int v1, .ref v0]) (s' := r1.2) rfl trivial ?_
      refine bd h (fun r2 hr2 h => ?_)
      refine Ev_call 2 261 1 [.ref v0, .int v1] [] rfl rfl rfl rfl g5 rfl rfl (Nat.le_of_ble_eq_true rfl) (t_M_giveBack hr2) ?_
      refine gd h (fun g6 h => ?_)
      refine Ev_blk 5 (pc' := 190) (ls' := [.ref v0, .int v1, .int v2, .int v3]) (st' := [.int (-(nI 3)), .ref v0]) (s' := setI r2 v0 52 v2) rfl ⟨trivial, g6⟩ ?_
      refine bd h (fun r3 hr3 h => ?_)
      refine Ev_call 2 142 1 [.ref v0, .int (-(nI 3))] [] rfl rfl rfl rfl g6 rfl rfl (Nat.le_of_ble_eq_true rfl) (t_M_tell hr3) ?_
      cases h
      exact Ev_ret rfl trivial
    · refine Ev_blk 2 (pc' := 150) (ls' := [.ref v0, .int v1, .int v2, .int (v3 + nI 1)]) (st' := []) (s' := r1.2) rfl trivial ?_
      exact H150 h
  · refine Ev_blk 2 (pc' := 140) (ls' := [.ref v0, .int v1, .int (v2 + nI 1), .int v3]) (st' := []) (s' := s) rfl trivial ?_
    exact H140 h
def l_M_orders_150 (k140 : Nat → Int32 → Int32 → AS → Option (Int32 × AS)) : Nat → Nat → Int32 → Int32 → Int32 → AS → Option (Int32 × AS)
  | 0 => fun _ _ _ _ _ => none
  | n + 1 => b_M_orders_150 k140 (l_M_orders_150 k140 n)
theorem u_M_orders_150 {k140 : Nat → Int32 → Int32 → AS → Option (Int32 × AS)} (H140 : ∀ {d3 : Value} {v0 : Nat} {v1 : Int32} {v2 : Int32} {s : AS} {o : Int32 × AS}, k140 v0 v1 v2 s = some o → Ev 15 mZ251 140 [.ref v0, .int v1, .int v2, d3] [] s (some (.int o.1), o.2)) {n : Nat} : ∀  {v0 : Nat} {v1 : Int32} {v2 : Int32} {v3 : Int32} {s : AS} {o : Int32 × AS}, l_M_orders_150 k140 n v0 v1 v2 v3 s = some o → Ev 15 mZ251 150 [.ref v0, .int v1, .int v2, .int v3] [] s (some (.int o.1), o.2) := by
  induction n with
  | zero => intros; rename_i h; cases h
  | succ n ih => intros; rename_i h; exact t_M_orders_150 H140 (fun h => ih h) h
def b_M_orders_140 (k140 : Nat → Int32 → Int32 → AS → Option (Int32 × AS)) (v0 : Nat) (v1 : Int32) (v2 : Int32) (s : AS) : Option (Int32 × AS) :=
  if sT s v0 = 13 then
  if v2 < (sI s v0 20) then
    l_M_orders_150 k140 fuel v0 v1 v2 (nI 0) s
  else
    (f_M_tell s v0 (sI s v0 50)).bind fun r1 =>
    some (r1.1, r1.2)
  else none
theorem t_M_orders_140 {k140 : Nat → Int32 → Int32 → AS → Option (Int32 × AS)} (H140 : ∀ {d3 : Value} {v0 : Nat} {v1 : Int32} {v2 : Int32} {s : AS} {o : Int32 × AS}, k140 v0 v1 v2 s = some o → Ev 15 mZ251 140 [.ref v0, .int v1, .int v2, d3] [] s (some (.int o.1), o.2)) {d3 : Value} {v0 : Nat} {v1 : Int32} {v2 : Int32} {s : AS} {o : Int32 × AS} (h : b_M_orders_140 k140 v0 v1 v2 s = some o) : Ev 15 mZ251 140 [.ref v0, .int v1, .int v2, d3] [] s (some (.int o.1), o.2) := by
  unfold b_M_orders_140 at h
  refine gd h (fun g1 h => ?_)
  refine Ev_blk 4 (pc' := if v2 < (sI s v0 20) then 148 else 206) (ls' := [.ref v0, .int v1, .int v2, d3]) (st' := []) (s' := s) rfl ⟨trivial, g1⟩ ?_
  refine ib h (fun c2 h => ?_) (fun c2 h => ?_)
  · refine Ev_blk 2 (pc' := 150) (ls' := [.ref v0, .int v1, .int v2, .int (nI 0)]) (st' := []) (s' := s) rfl trivial ?_
    exact u_M_orders_150 H140 h
  · refine Ev_blk 3 (pc' := 211) (ls' := [.ref v0, .int v1, .int v2, d3]) (st' := [.int (sI s v0 50), .ref v0]) (s' := s) rfl ⟨trivial, g1⟩ ?_
    refine bd h (fun r1 hr1 h => ?_)
    refine Ev_call 2 142 1 [.ref v0, .int (sI s v0 50)] [] rfl rfl rfl rfl g1 rfl rfl (Nat.le_of_ble_eq_true rfl) (t_M_tell hr1) ?_
    cases h
    exact Ev_ret rfl trivial
def l_M_orders_140  : Nat → Nat → Int32 → Int32 → AS → Option (Int32 × AS)
  | 0 => fun _ _ _ _ => none
  | n + 1 => b_M_orders_140  (l_M_orders_140  n)
theorem u_M_orders_140   {n : Nat} : ∀ {d3 : Value} {v0 : Nat} {v1 : Int32} {v2 : Int32} {s : AS} {o : Int32 × AS}, l_M_orders_140  n v0 v1 v2 s = some o → Ev 15 mZ251 140 [.ref v0, .int v1, .int v2, d3] [] s (some (.int o.1), o.2) := by
  induction n with
  | zero => intros; rename_i h; cases h
  | succ n ih => intros; rename_i h; exact t_M_orders_140  (fun h => ih h) h
def b_M_orders_104 (k104 : Nat → Int32 → Int32 → AS → Option (Int32 × AS)) (v0 : Nat) (v1 : Int32) (v2 : Int32) (s : AS) : Option (Int32 × AS) :=
  if v2 < (nI 16) then
    if sT s v0 = 13 then
    if sT s (sR s v0 7) = 20 ∧ inA v2 (sN s (sR s v0 7)) then
    if sT s (sR s v0 10) = 20 ∧ inA v2 (sN s (sR s v0 10)) then
    k104 v0 v1 (v2 + nI 1) (setI s (sR s v0 10) v2.toNatClampNeg (sI s (sR s v0 7) v2.toNatClampNeg))
    else none
    else none
    else none
  else
    if sT s v0 = 13 then
    l_M_orders_140 fuel v0 v1 (nI 0) (setI (setI s v0 50 (nI 0)) v0 51 (-(nI 1)))
    else none
theorem t_M_orders_104 {k104 : Nat → Int32 → Int32 → AS → Option (Int32 × AS)} (H104 : ∀ {d3 : Value} {v0 : Nat} {v1 : Int32} {v2 : Int32} {s : AS} {o : Int32 × AS}, k104 v0 v1 v2 s = some o → Ev 15 mZ251 104 [.ref v0, .int v1, .int v2, d3] [] s (some (.int o.1), o.2)) {d3 : Value} {v0 : Nat} {v1 : Int32} {v2 : Int32} {s : AS} {o : Int32 × AS} (h : b_M_orders_104 k104 v0 v1 v2 s = some o) : Ev 15 mZ251 104 [.ref v0, .int v1, .int v2, d3] [] s (some (.int o.1), o.2) := by
  unfold b_M_orders_104 at h
  refine Ev_blk 3 (pc' := if v2 < (nI 16) then 110 else 128) (ls' := [.ref v0, .int v1, .int v2, d3]) (st' := []) (s' := s) rfl trivial ?_
  refine ib h (fun c1 h => ?_) (fun c1 h => ?_)
  · refine gd h (fun g2 h => ?_)
    refine gd h (fun g3 h => ?_)
    refine gd h (fun g4 h => ?_)
    refine Ev_blk 10 (pc' := 104) (ls' := [.ref v0, .int v1, .int (v2 + nI 1), d3]) (st' := []) (s' := setI s (sR s v0 10) v2.toNatClampNeg (sI s (sR s v0 7) v2.toNatClampNeg)) rfl ⟨⟨⟨⟨trivial, g2⟩, g2⟩, ⟨Or.inl g3.1, g3.2⟩⟩, g4⟩ ?_
    exact H104 h
  · refine gd h (fun g5 h => ?_)
    refine Ev_blk 8 (pc' := 140) (ls' := [.ref v0, .int v1, .int (nI 0), d3]) (st' := []) (s' := setI (setI s v0 50 (nI 0)) v0 51 (-(nI 1))) rfl ⟨⟨trivial, g5⟩, g5⟩ ?_
    exact u_M_orders_140 h
def l_M_orders_104  : Nat → Nat → Int32 → Int32 → AS → Option (Int32 × AS)
  | 0 => fun _ _ _ _ => none
  | n + 1 => b_M_orders_104  (l_M_orders_104  n)
theorem u_M_orders_104   {n : Nat} : ∀ {d3 : Value} {v0 : Nat} {v1 : Int32} {v2 : Int32} {s : AS} {o : Int32 × AS}, l_M_orders_104  n v0 v1 v2 s = some o → Ev 15 mZ251 104 [.ref v0, .int v1, .int v2, d3] [] s (some (.int o.1), o.2) := by
  induction n with
  | zero => intros; rename_i h; cases h
  | succ n ih => intros; rename_i h; exact t_M_orders_104  (fun h => ih h) h
def b_M_orders_77 (k77 : Nat → Int32 → Int32 → AS → Option (Int32 × AS)) (v0 : Nat) (v1 : Int32) (v2 : Int32) (s : AS) : Option (Int32 × AS) :=
  if v2 < (nI 13056) then
    if sT s v0 = 13 then
    if sT s (sR s v0 6) = 20 ∧ inA v2 (sN s (sR s v0 6)) then
    if sT s (sR s v0 9) = 20 ∧ inA v2 (sN s (sR s v0 9)) then
    k77 v0 v1 (v2 + nI 1) (setI s (sR s v0 9) v2.toNatClampNeg (sI s (sR s v0 6) v2.toNatClampNeg))
    else none
    else none
    else none
  else
    l_M_orders_104 fuel v0 v1 (nI 0) s
theorem t_M_orders_77 {k77 : Nat → Int32 → Int32 → AS → Option (Int32 × AS)} (H77 : ∀ {d3 : Value} {v0 : Nat} {v1 : Int32} {v2 : Int32} {s : AS} {o : Int32 × AS}, k77 v0 v1 v2 s = some o → Ev 15 mZ251 77 [.ref v0, .int v1, .int v2, d3] [] s (some (.int o.1), o.2)) {d3 : Value} {v0 : Nat} {v1 : Int32} {v2 : Int32} {s : AS} {o : Int32 × AS} (h : b_M_orders_77 k77 v0 v1 v2 s = some o) : Ev 15 mZ251 77 [.ref v0, .int v1, .int v2, d3] [] s (some (.int o.1), o.2) := by
  unfold b_M_orders_77 at h
  refine Ev_blk 3 (pc' := if v2 < (nI 13056) then 84 else 102) (ls' := [.ref v0, .int v1, .int v2, d3]) (st' := []) (s' := s) rfl trivial ?_
  refine ib h (fun c1 h => ?_) (fun c1 h => ?_)
  · refine gd h (fun g2 h => ?_)
    refine gd h (fun g3 h => ?_)
    refine gd h (fun g4 h => ?_)
    refine Ev_blk 10 (pc' := 77) (ls' := [.ref v0, .int v1, .int (v2 + nI 1), d3]) (st' := []) (s' := setI s (sR s v0 9) v2.toNatClampNeg (sI s (sR s v0 6) v2.toNatClampNeg)) rfl ⟨⟨⟨⟨trivial, g2⟩, g2⟩, ⟨Or.inl g3.1, g3.2⟩⟩, g4⟩ ?_
    exact H77 h
  · refine Ev_blk 2 (pc' := 104) (ls' := [.ref v0, .int v1, .int (nI 0), d3]) (st' := []) (s' := s) rfl trivial ?_
    exact u_M_orders_104 h
def l_M_orders_77  : Nat → Nat → Int32 → Int32 → AS → Option (Int32 × AS)
  | 0 => fun _ _ _ _ => none
  | n + 1 => b_M_orders_77  (l_M_orders_77  n)
theorem u_M_orders_77   {n : Nat} : ∀ {d3 : Value} {v0 : Nat} {v1 : Int32} {v2 : Int32} {s : AS} {o : Int32 × AS}, l_M_orders_77  n v0 v1 v2 s = some o → Ev 15 mZ251 77 [.ref v0, .int v1, .int v2, d3] [] s (some (.int o.1), o.2) := by
  induction n with
  | zero => intros; rename_i h; cases h
  | succ n ih => intros; rename_i h; exact t_M_orders_77  (fun h => ih h) h
def b_M_orders_46  (v0 : Nat) (s : AS) : Option (Int32 × AS) :=
  if sT s v0 = 13 then
  (f_M_endText s v0).bind fun r1 =>
  if sT r1 v0 = 13 then
  if (sI r1 v0 18) = (nI 0) then
    (f_M_keepAll r1 v0 (nI 17)).bind fun r2 =>
    if sT r2 v0 = 13 then
    l_M_orders_77 fuel v0 (sI r2 v0 8) (nI 0) r2
    else none
  else
    (f_M_tell r1 v0 (-(nI 6))).bind fun r3 =>
    some (r3.1, r3.2)
  else none
  else none
theorem t_M_orders_46   {d1 d2 d3 : Value} {v0 : Nat} {s : AS} {o : Int32 × AS} (h : b_M_orders_46  v0 s = some o) : Ev 15 mZ251 46 [.ref v0, d1, d2, d3] [] s (some (.int o.1), o.2) := by
  unfold b_M_orders_46 at h
  refine gd h (fun g1 h => ?_)
  refine Ev_blk 1 (pc' := 47) (ls' := [.ref v0, d1, d2, d3]) (st' := [.ref v0]) (s' := s) rfl trivial ?_
  refine bd h (fun r1 hr1 h => ?_)
  refine Ev_call 2 179 0 [.ref v0] [] rfl rfl rfl rfl g1 rfl rfl (Nat.le_of_ble_eq_true rfl) (t_M_endText hr1) ?_
  refine gd h (fun g2 h => ?_)
  refine Ev_blk 3 (pc' := if (sI r1 v0 18) = (nI 0) then 64 else 57) (ls' := [.ref v0, d1, d2, d3]) (st' := []) (s' := r1) rfl ⟨trivial, g2⟩ ?_
  refine ib h (fun c3 h => ?_) (fun c3 h => ?_)
  · refine Ev_blk 2 (pc' := 67) (ls' := [.ref v0, d1, d2, d3]) (st' := [.int (nI 17), .ref v0]) (s' := r1) rfl trivial ?_
    refine bd h (fun r2 hr2 h => ?_)
    refine Ev_call 2 185 1 [.ref v0, .int (nI 17)] [] rfl rfl rfl rfl g2 rfl rfl (Nat.le_of_ble_eq_true rfl) (t_M_keepAll hr2) ?_
    refine gd h (fun g4 h => ?_)
    refine Ev_blk 5 (pc' := 77) (ls' := [.ref v0, .int (sI r2 v0 8), .int (nI 0), d3]) (st' := []) (s' := r2) rfl ⟨trivial, g4⟩ ?_
    exact u_M_orders_77 h
  · refine Ev_blk 2 (pc' := 60) (ls' := [.ref v0, d1, d2, d3]) (st' := [.int (-(nI 6)), .ref v0]) (s' := r1) rfl trivial ?_
    refine bd h (fun r3 hr3 h => ?_)
    refine Ev_call 2 142 1 [.ref v0, .int (-(nI 6))] [] rfl rfl rfl rfl g2 rfl rfl (Nat.le_of_ble_eq_true rfl) (t_M_tell hr3) ?_
    cases h
    exact Ev_ret rfl trivial
def b_M_orders_19 (k19 : Nat → AS → Option (Int32 × AS)) (v0 : Nat) (s : AS) : Option (Int32 × AS) :=
  if sT s v0 = 13 then
  if (sI s v0 18) = (nI 0) then
    (f_M_isSign s v0 (nI 59)).bind fun r1 =>
    if r1 = (nI 0) then
      b_M_orders_46 v0 s
    else
      (f_M_onward s v0).bind fun r2 =>
      if sT r2 v0 = 13 then
      (f_M_readOrder r2 v0).bind fun r3 =>
      k19 v0 r3
      else none
  else
    b_M_orders_46 v0 s
  else none
theorem t_M_orders_19 {k19 : Nat → AS → Option (Int32 × AS)} (H19 : ∀ {d1 d2 d3 : Value} {v0 : Nat} {s : AS} {o : Int32 × AS}, k19 v0 s = some o → Ev 15 mZ251 19 [.ref v0, d1, d2, d3] [] s (some (.int o.1), o.2)) {d1 d2 d3 : Value} {v0 : Nat} {s : AS} {o : Int32 × AS} (h : b_M_orders_19 k19 v0 s = some o) : Ev 15 mZ251 19 [.ref v0, d1, d2, d3] [] s (some (.int o.1), o.2) := by
  unfold b_M_orders_19 at h
  refine gd h (fun g1 h => ?_)
  refine Ev_blk 3 (pc' := if (sI s v0 18) = (nI 0) then 26 else 46) (ls' := [.ref v0, d1, d2, d3]) (st' := []) (s' := s) rfl ⟨trivial, g1⟩ ?_
  refine ib h (fun c2 h => ?_) (fun c2 h => ?_)
  · refine Ev_blk 2 (pc' := 29) (ls' := [.ref v0, d1, d2, d3]) (st' := [.int (nI 59), .ref v0]) (s' := s) rfl trivial ?_
    refine bd h (fun r1 hr1 h => ?_)
    refine Ev_call 2 165 1 [.ref v0, .int (nI 59)] [] rfl rfl rfl rfl g1 rfl rfl (Nat.le_of_ble_eq_true rfl) (t_M_isSign hr1) ?_
    refine Ev_blk 1 (pc' := if r1 = (nI 0) then 46 else 35) (ls' := [.ref v0, d1, d2, d3]) (st' := []) (s' := s) rfl trivial ?_
    refine ib h (fun c3 h => ?_) (fun c3 h => ?_)
    · exact t_M_orders_46 h
    · refine Ev_blk 1 (pc' := 36) (ls' := [.ref v0, d1, d2, d3]) (st' := [.ref v0]) (s' := s) rfl trivial ?_
      refine bd h (fun r2 hr2 h => ?_)
      refine Ev_call 2 156 0 [.ref v0] [] rfl rfl rfl rfl g1 rfl rfl (Nat.le_of_ble_eq_true rfl) (t_M_onward hr2) ?_
      refine gd h (fun g4 h => ?_)
      refine Ev_blk 1 (pc' := 40) (ls' := [.ref v0, d1, d2, d3]) (st' := [.ref v0]) (s' := r2) rfl trivial ?_
      refine bd h (fun r3 hr3 h => ?_)
      refine Ev_call 2 252 0 [.ref v0] [] rfl rfl rfl rfl g4 rfl rfl (Nat.le_of_ble_eq_true rfl) (t_M_readOrder hr3) ?_
      refine Ev_blk 1 (pc' := 19) (ls' := [.ref v0, d1, d2, d3]) (st' := []) (s' := r3) rfl trivial ?_
      exact H19 h
  · exact t_M_orders_46 h
def l_M_orders_19  : Nat → Nat → AS → Option (Int32 × AS)
  | 0 => fun _ _ => none
  | n + 1 => b_M_orders_19  (l_M_orders_19  n)
theorem u_M_orders_19   {n : Nat} : ∀ {d1 d2 d3 : Value} {v0 : Nat} {s : AS} {o : Int32 × AS}, l_M_orders_19  n v0 s = some o → Ev 15 mZ251 19 [.ref v0, d1, d2, d3] [] s (some (.int o.1), o.2) := by
  induction n with
  | zero => intros; rename_i h; cases h
  | succ n ih => intros; rename_i h; exact t_M_orders_19  (fun h => ih h) h
/-- RecordHeapModel.orders()I -/
def f_M_orders (s : AS) (a0 : Nat) : Option (Int32 × AS) :=
  if sT s a0 = 13 then
  (f_M_beginText (setI (setI s a0 0 (nI 0)) a0 52 (-(nI 1))) a0 (nI 1)).bind fun r1 =>
  if sT r1 a0 = 13 then
  (f_M_readOrder r1 a0).bind fun r2 =>
  l_M_orders_19 fuel a0 r2
  else none
  else none
theorem t_M_orders {s : AS} {a0 : Nat} {o : Int32 × AS} (h : f_M_orders s a0 = some o) : Ev 15 mZ251 0 [.ref a0, .retAddr 0, .retAddr 0, .retAddr 0] [] s (some (.int o.1), o.2) := by
  unfold f_M_orders at h
  refine gd h (fun g1 h => ?_)
  refine Ev_blk 8 (pc' := 12) (ls' := [.ref a0, .retAddr 0, .retAddr 0, .retAddr 0]) (st' := [.int (nI 1), .ref a0]) (s' := setI (setI s a0 0 (nI 0)) a0 52 (-(nI 1))) rfl ⟨⟨trivial, g1⟩, g1⟩ ?_
  refine bd h (fun r1 hr1 h => ?_)
  refine Ev_call 2 154 1 [.ref a0, .int (nI 1)] [] rfl rfl rfl rfl g1 rfl rfl (Nat.le_of_ble_eq_true rfl) (t_M_beginText hr1) ?_
  refine gd h (fun g2 h => ?_)
  refine Ev_blk 1 (pc' := 16) (ls' := [.ref a0, .retAddr 0, .retAddr 0, .retAddr 0]) (st' := [.ref a0]) (s' := r1) rfl trivial ?_
  refine bd h (fun r2 hr2 h => ?_)
  refine Ev_call 2 252 0 [.ref a0] [] rfl rfl rfl rfl g2 rfl rfl (Nat.le_of_ble_eq_true rfl) (t_M_readOrder hr2) ?_
  exact u_M_orders_19 h

/-- RecordHeapModel.stopped()I -/
def f_M_stopped (s : AS) (a0 : Nat) : Option (Int32 × AS) :=
  if sT s a0 = 13 then
  some (sI (setI s a0 0 (nI 0)) a0 52, setI s a0 0 (nI 0))
  else none
theorem t_M_stopped {s : AS} {a0 : Nat} {o : Int32 × AS} (h : f_M_stopped s a0 = some o) : Ev 0 mZ262 0 [.ref a0] [] s (some (.int o.1), o.2) := by
  unfold f_M_stopped at h
  refine gd h (fun g1 h => ?_)
  refine Ev_blk 5 (pc' := 9) (ls' := [.ref a0]) (st' := [.int (sI (setI s a0 0 (nI 0)) a0 52)]) (s' := setI s a0 0 (nI 0)) rfl ⟨⟨trivial, g1⟩, g1⟩ ?_
  cases h
  exact Ev_ret rfl trivial

/-- RecordHeapModel.draw(I)I -/
def f_M_draw (s : AS) (a0 : Nat) (a1 : Int32) : Option (Int32 × AS) :=
  if sT s a0 = 13 then
  if ¬ (lN 1000003) = lN 0 then
  if ¬ a1.toInt64 = lN 0 then
  some (((sL (setJ s a0 54 ((((sL s a0 54) * (lN 1103)) + (lN 12345)) - (((sL s a0 54) * (lN 1103)) + (lN 12345)) / (lN 1000003) * (lN 1000003))) a0 54) - (sL (setJ s a0 54 ((((sL s a0 54) * (lN 1103)) + (lN 12345)) - (((sL s a0 54) * (lN 1103)) + (lN 12345)) / (lN 1000003) * (lN 1000003))) a0 54) / a1.toInt64 * a1.toInt64).toInt32, setJ s a0 54 ((((sL s a0 54) * (lN 1103)) + (lN 12345)) - (((sL s a0 54) * (lN 1103)) + (lN 12345)) / (lN 1000003) * (lN 1000003)))
  else none
  else none
  else none
theorem t_M_draw {s : AS} {a0 : Nat} {a1 : Int32} {o : Int32 × AS} (h : f_M_draw s a0 a1 = some o) : Ev 0 mZ264 0 [.ref a0, .int a1] [] s (some (.int o.1), o.2) := by
  unfold f_M_draw at h
  refine gd h (fun g1 h => ?_)
  refine gd h (fun g2 h => ?_)
  refine gd h (fun g3 h => ?_)
  refine Ev_blk 16 (pc' := 28) (ls' := [.ref a0, .int a1]) (st' := [.int (((sL (setJ s a0 54 ((((sL s a0 54) * (lN 1103)) + (lN 12345)) - (((sL s a0 54) * (lN 1103)) + (lN 12345)) / (lN 1000003) * (lN 1000003))) a0 54) - (sL (setJ s a0 54 ((((sL s a0 54) * (lN 1103)) + (lN 12345)) - (((sL s a0 54) * (lN 1103)) + (lN 12345)) / (lN 1000003) * (lN 1000003))) a0 54) / a1.toInt64 * a1.toInt64).toInt32)]) (s' := setJ s a0 54 ((((sL s a0 54) * (lN 1103)) + (lN 12345)) - (((sL s a0 54) * (lN 1103)) + (lN 12345)) / (lN 1000003) * (lN 1000003))) rfl ⟨⟨⟨⟨⟨trivial, g1⟩, g2⟩, g1⟩, g1⟩, g3⟩ ?_
  cases h
  exact Ev_ret rfl trivial

def b_M_drawnAct_73  (v0 : Nat) (v3 : Int32) (v4 : Int32) (s : AS) : Option AS :=
  if v4 = (nI 7) then
    if ¬ (nI 16) = nI 0 then
    if sT s v0 = 13 then
    (f_M_packNow s v0 (v3 / (nI 16))).bind fun r1 =>
    some r1.2
    else none
    else none
  else
    some s
theorem t_M_drawnAct_73   {d1 d2 d5 : Value} {v0 : Nat} {v3 : Int32} {v4 : Int32} {s : AS} {o : AS} (h : b_M_drawnAct_73  v0 v3 v4 s = some o) : Ev 12 mZ265 73 [.ref v0, d1, d2, .int v3, .int v4, d5] [] s (none, o) := by
  unfold b_M_drawnAct_73 at h
  refine Ev_blk 3 (pc' := if v4 = (nI 7) then 80 else 89) (ls' := [.ref v0, d1, d2, .int v3, .int v4, d5]) (st' := []) (s' := s) rfl trivial ?_
  refine ib h (fun c1 h => ?_) (fun c1 h => ?_)
  · refine gd h (fun g2 h => ?_)
    refine gd h (fun g3 h => ?_)
    refine Ev_blk 4 (pc' := 85) (ls' := [.ref v0, d1, d2, .int v3, .int v4, d5]) (st' := [.int (v3 / (nI 16)), .ref v0]) (s' := s) rfl ⟨trivial, g2⟩ ?_
    refine bd h (fun r1 hr1 h => ?_)
    refine Ev_call 2 225 1 [.ref v0, .int (v3 / (nI 16))] [] rfl rfl rfl rfl g3 rfl rfl (Nat.le_of_ble_eq_true rfl) (t_M_packNow hr1) ?_
    refine Ev_blk 1 (pc' := 89) (ls' := [.ref v0, d1, d2, .int v3, .int v4, d5]) (st' := []) (s' := r1.2) rfl trivial ?_
    cases h
    exact Ev_ret rfl trivial
  · cases h
    exact Ev_ret rfl trivial
def b_M_drawnAct_50  (v0 : Nat) (v3 : Int32) (v4 : Int32) (v5 : Int32) (s : AS) : Option AS :=
  if v4 = (nI 6) then
    if v5 = (-(nI 1)) then
      b_M_drawnAct_73 v0 v3 v4 s
    else
      if sT s v0 = 13 then
      (f_M_dropNow s v0 v5).bind fun r1 =>
      some r1.2
      else none
  else
    b_M_drawnAct_73 v0 v3 v4 s
theorem t_M_drawnAct_50   {d1 d2 : Value} {v0 : Nat} {v3 : Int32} {v4 : Int32} {v5 : Int32} {s : AS} {o : AS} (h : b_M_drawnAct_50  v0 v3 v4 v5 s = some o) : Ev 12 mZ265 50 [.ref v0, d1, d2, .int v3, .int v4, .int v5] [] s (none, o) := by
  unfold b_M_drawnAct_50 at h
  refine Ev_blk 3 (pc' := if v4 = (nI 6) then 57 else 73) (ls' := [.ref v0, d1, d2, .int v3, .int v4, .int v5]) (st' := []) (s' := s) rfl trivial ?_
  refine ib h (fun c1 h => ?_) (fun c1 h => ?_)
  · refine Ev_blk 3 (pc' := if v5 = (-(nI 1)) then 73 else 63) (ls' := [.ref v0, d1, d2, .int v3, .int v4, .int v5]) (st' := []) (s' := s) rfl trivial ?_
    refine ib h (fun c2 h => ?_) (fun c2 h => ?_)
    · exact t_M_drawnAct_73 h
    · refine gd h (fun g3 h => ?_)
      refine Ev_blk 2 (pc' := 66) (ls' := [.ref v0, d1, d2, .int v3, .int v4, .int v5]) (st' := [.int v5, .ref v0]) (s' := s) rfl trivial ?_
      refine bd h (fun r1 hr1 h => ?_)
      refine Ev_call 2 221 1 [.ref v0, .int v5] [] rfl rfl rfl rfl g3 rfl rfl (Nat.le_of_ble_eq_true rfl) (t_M_dropNow hr1) ?_
      refine Ev_blk 2 (pc' := 89) (ls' := [.ref v0, d1, d2, .int v3, .int v4, .int v5]) (st' := []) (s' := r1.2) rfl trivial ?_
      cases h
      exact Ev_ret rfl trivial
  · exact t_M_drawnAct_73 h
/-- RecordHeapModel.drawnAct(IIII)V -/
def f_M_drawnAct (s : AS) (a0 : Nat) (a1 : Int32) (a2 : Int32) (a3 : Int32) (a4 : Int32) : Option AS :=
  if sT s a0 = 13 then
  (f_M_bringAlike s a0 a1 a2).bind fun r1 =>
  if sT r1 a0 = 13 then
  (f_M_firstFrom r1 a0 a3).bind fun r2 =>
  if a4 < (nI 4) then
    (f_M_putNow r1 a0).bind fun r3 =>
    some r3.2
  else
    if a4 < (nI 6) then
      if r2 = (-(nI 1)) then
        b_M_drawnAct_50 a0 a3 a4 r2 r1
      else
        (f_M_rewriteNow r1 a0 r2).bind fun r4 =>
        some r4.2
    else
      b_M_drawnAct_50 a0 a3 a4 r2 r1
  else none
  else none
theorem t_M_drawnAct {s : AS} {a0 : Nat} {a1 : Int32} {a2 : Int32} {a3 : Int32} {a4 : Int32} {o : AS} (h : f_M_drawnAct s a0 a1 a2 a3 a4 = some o) : Ev 12 mZ265 0 [.ref a0, .int a1, .int a2, .int a3, .int a4, .retAddr 0] [] s (none, o) := by
  unfold f_M_drawnAct at h
  refine gd h (fun g1 h => ?_)
  refine Ev_blk 3 (pc' := 3) (ls' := [.ref a0, .int a1, .int a2, .int a3, .int a4, .retAddr 0]) (st' := [.int a2, .int a1, .ref a0]) (s' := s) rfl trivial ?_
  refine bd h (fun r1 hr1 h => ?_)
  refine Ev_call 2 248 2 [.ref a0, .int a1, .int a2] [] rfl rfl rfl rfl g1 rfl rfl (Nat.le_of_ble_eq_true rfl) (t_M_bringAlike hr1) ?_
  refine gd h (fun g2 h => ?_)
  refine Ev_blk 2 (pc' := 8) (ls' := [.ref a0, .int a1, .int a2, .int a3, .int a4, .retAddr 0]) (st' := [.int a3, .ref a0]) (s' := r1) rfl trivial ?_
  refine bd h (fun r2 hr2 h => ?_)
  refine Ev_call 2 241 1 [.ref a0, .int a3] [] rfl rfl rfl rfl g2 rfl rfl (Nat.le_of_ble_eq_true rfl) (t_M_firstFrom hr2) ?_
  refine Ev_blk 4 (pc' := if a4 < (nI 4) then 19 else 27) (ls' := [.ref a0, .int a1, .int a2, .int a3, .int a4, .int r2]) (st' := []) (s' := r1) rfl trivial ?_
  refine ib h (fun c3 h => ?_) (fun c3 h => ?_)
  · refine Ev_blk 1 (pc' := 20) (ls' := [.ref a0, .int a1, .int a2, .int a3, .int a4, .int r2]) (st' := [.ref a0]) (s' := r1) rfl trivial ?_
    refine bd h (fun r3 hr3 h => ?_)
    refine Ev_call 2 184 0 [.ref a0] [] rfl rfl rfl rfl g2 rfl rfl (Nat.le_of_ble_eq_true rfl) (t_M_putNow hr3) ?_
    refine Ev_blk 2 (pc' := 89) (ls' := [.ref a0, .int a1, .int a2, .int a3, .int a4, .int r2]) (st' := []) (s' := r3.2) rfl trivial ?_
    cases h
    exact Ev_ret rfl trivial
  · refine Ev_blk 3 (pc' := if a4 < (nI 6) then 34 else 50) (ls' := [.ref a0, .int a1, .int a2, .int a3, .int a4, .int r2]) (st' := []) (s' := r1) rfl trivial ?_
    refine ib h (fun c4 h => ?_) (fun c4 h => ?_)
    · refine Ev_blk 3 (pc' := if r2 = (-(nI 1)) then 50 else 40) (ls' := [.ref a0, .int a1, .int a2, .int a3, .int a4, .int r2]) (st' := []) (s' := r1) rfl trivial ?_
      refine ib h (fun c5 h => ?_) (fun c5 h => ?_)
      · exact t_M_drawnAct_50 h
      · refine Ev_blk 2 (pc' := 43) (ls' := [.ref a0, .int a1, .int a2, .int a3, .int a4, .int r2]) (st' := [.int r2, .ref a0]) (s' := r1) rfl trivial ?_
        refine bd h (fun r4 hr4 h => ?_)
        refine Ev_call 2 212 1 [.ref a0, .int r2] [] rfl rfl rfl rfl g2 rfl rfl (Nat.le_of_ble_eq_true rfl) (t_M_rewriteNow hr4) ?_
        refine Ev_blk 2 (pc' := 89) (ls' := [.ref a0, .int a1, .int a2, .int a3, .int a4, .int r2]) (st' := []) (s' := r4.2) rfl trivial ?_
        cases h
        exact Ev_ret rfl trivial
    · exact t_M_drawnAct_50 h

def b_M_days_29  (v0 : Nat) (s : AS) : Option (Int32 × AS) :=
  if sT s v0 = 13 then
  (f_M_tell s v0 (-(nI 1))).bind fun r1 =>
  some (r1.1, r1.2)
  else none
theorem t_M_days_29   {d1 d2 d3 d4 d5 d6 d7 d8 : Value} {v0 : Nat} {s : AS} {o : Int32 × AS} (h : b_M_days_29  v0 s = some o) : Ev 13 mZ263 29 [.ref v0, d1, d2, d3, d4, d5, d6, d7, d8] [] s (some (.int o.1), o.2) := by
  unfold b_M_days_29 at h
  refine gd h (fun g1 h => ?_)
  refine Ev_blk 2 (pc' := 31) (ls' := [.ref v0, d1, d2, d3, d4, d5, d6, d7, d8]) (st' := [.int (-(nI 1)), .ref v0]) (s' := s) rfl trivial ?_
  refine bd h (fun r1 hr1 h => ?_)
  refine Ev_call 2 142 1 [.ref v0, .int (-(nI 1))] [] rfl rfl rfl rfl g1 rfl rfl (Nat.le_of_ble_eq_true rfl) (t_M_tell hr1) ?_
  cases h
  exact Ev_ret rfl trivial
def b_M_days_183 (k183 : Nat → Int32 → Int32 → Int32 → AS → Option (Int32 × AS)) (v0 : Nat) (v3 : Int32) (v4 : Int32) (v5 : Int32) (s : AS) : Option (Int32 × AS) :=
  if v5 < (nI 8) then
    if sT s v0 = 13 then
    (f_M_freeOf s v0 v5).bind fun r1 =>
    if sT s (sR s v0 55) = 20 ∧ inA ((nI 3) * v5) (sN s (sR s v0 55)) then
    (f_M_pageAt (setI s (sR s v0 55) ((nI 3) * v5).toNatClampNeg r1) v5).bind fun r2 =>
    if sT s (sR s v0 3) = 20 ∧ inA (r2 + (nI 1)) (sN s (sR s v0 3)) then
    if sT s (sR s v0 55) = 20 ∧ inA (((nI 3) * v5) + (nI 1)) (sN s (sR s v0 55)) then
    (f_M_cellsOn (setI (setI s (sR s v0 55) ((nI 3) * v5).toNatClampNeg r1) (sR s v0 55) (((nI 3) * v5) + (nI 1)).toNatClampNeg (sI (setI s (sR s v0 55) ((nI 3) * v5).toNatClampNeg r1) (sR s v0 3) (r2 + (nI 1)).toNatClampNeg)) v0 v5).bind fun r3 =>
    if sT s (sR s v0 55) = 20 ∧ inA (((nI 3) * v5) + (nI 2)) (sN s (sR s v0 55)) then
    k183 v0 v3 v4 (v5 + nI 1) (setI (setI (setI s (sR s v0 55) ((nI 3) * v5).toNatClampNeg r1) (sR s v0 55) (((nI 3) * v5) + (nI 1)).toNatClampNeg (sI (setI s (sR s v0 55) ((nI 3) * v5).toNatClampNeg r1) (sR s v0 3) (r2 + (nI 1)).toNatClampNeg)) (sR s v0 55) (((nI 3) * v5) + (nI 2)).toNatClampNeg r3)
    else none
    else none
    else none
    else none
    else none
  else
    if sT s v0 = 13 ∧ ((nI 1) = nI 0 ∨ (nI 1) = nI 1) then
    if sT s v0 = 13 then
    (f_M_giveBack (setI s v0 56 (nI 1)) v0 v3).bind fun r4 =>
    if sT r4 v0 = 13 then
    (f_M_tell r4 v0 v4).bind fun r5 =>
    some (r5.1, r5.2)
    else none
    else none
    else none
theorem t_M_days_183 {k183 : Nat → Int32 → Int32 → Int32 → AS → Option (Int32 × AS)} (H183 : ∀ {d1 d2 d6 d7 d8 : Value} {v0 : Nat} {v3 : Int32} {v4 : Int32} {v5 : Int32} {s : AS} {o : Int32 × AS}, k183 v0 v3 v4 v5 s = some o → Ev 13 mZ263 183 [.ref v0, d1, d2, .int v3, .int v4, .int v5, d6, d7, d8] [] s (some (.int o.1), o.2)) {d1 d2 d6 d7 d8 : Value} {v0 : Nat} {v3 : Int32} {v4 : Int32} {v5 : Int32} {s : AS} {o : Int32 × AS} (h : b_M_days_183 k183 v0 v3 v4 v5 s = some o) : Ev 13 mZ263 183 [.ref v0, d1, d2, .int v3, .int v4, .int v5, d6, d7, d8] [] s (some (.int o.1), o.2) := by
  unfold b_M_days_183 at h
  refine Ev_blk 3 (pc' := if v5 < (nI 8) then 190 else 251) (ls' := [.ref v0, d1, d2, .int v3, .int v4, .int v5, d6, d7, d8]) (st' := []) (s' := s) rfl trivial ?_
  refine ib h (fun c1 h => ?_) (fun c1 h => ?_)
  · refine gd h (fun g2 h => ?_)
    refine Ev_blk 7 (pc' := 201) (ls' := [.ref v0, d1, d2, .int v3, .int v4, .int v5, d6, d7, d8]) (st' := [.int v5, .ref v0, .int ((nI 3) * v5), .ref (sR s v0 55)]) (s' := s) rfl ⟨trivial, g2⟩ ?_
    refine bd h (fun r1 hr1 h => ?_)
    refine Ev_call 2 194 1 [.ref v0, .int v5] [.int ((nI 3) * v5), .ref (sR s v0 55)] rfl rfl rfl rfl g2 rfl rfl (Nat.le_of_ble_eq_true rfl) (t_M_freeOf hr1) ?_
    refine gd h (fun g3 h => ?_)
    refine Ev_blk 11 (pc' := 221) (ls' := [.ref v0, d1, d2, .int v3, .int v4, .int v5, d6, d7, d8]) (st' := [.int v5, .ref (sR s v0 3), .int (((nI 3) * v5) + (nI 1)), .ref (sR s v0 55)]) (s' := setI s (sR s v0 55) ((nI 3) * v5).toNatClampNeg r1) rfl ⟨⟨⟨trivial, g3⟩, g2⟩, g2⟩ ?_
    refine bd h (fun r2 hr2 h => ?_)
    refine Ev_call 1 140 1 [.int v5] [.ref (sR s v0 3), .int (((nI 3) * v5) + (nI 1)), .ref (sR s v0 55)] rfl rfl rfl rfl trivial rfl rfl (Nat.le_of_ble_eq_true rfl) (t_M_pageAt hr2) ?_
    refine gd h (fun g4 h => ?_)
    refine gd h (fun g5 h => ?_)
    refine Ev_blk 13 (pc' := 241) (ls' := [.ref v0, d1, d2, .int v3, .int v4, .int v5, d6, d7, d8]) (st' := [.int v5, .ref v0, .int (((nI 3) * v5) + (nI 2)), .ref (sR s v0 55)]) (s' := setI (setI s (sR s v0 55) ((nI 3) * v5).toNatClampNeg r1) (sR s v0 55) (((nI 3) * v5) + (nI 1)).toNatClampNeg (sI (setI s (sR s v0 55) ((nI 3) * v5).toNatClampNeg r1) (sR s v0 3) (r2 + (nI 1)).toNatClampNeg)) rfl ⟨⟨⟨trivial, ⟨Or.inl g4.1, g4.2⟩⟩, g5⟩, g2⟩ ?_
    refine bd h (fun r3 hr3 h => ?_)
    refine Ev_call 2 234 1 [.ref v0, .int v5] [.int (((nI 3) * v5) + (nI 2)), .ref (sR s v0 55)] rfl rfl rfl rfl g2 rfl rfl (Nat.le_of_ble_eq_true rfl) (t_M_cellsOn hr3) ?_
    refine gd h (fun g6 h => ?_)
    refine Ev_blk 3 (pc' := 183) (ls' := [.ref v0, d1, d2, .int v3, .int v4, .int (v5 + nI 1), d6, d7, d8]) (st' := []) (s' := setI (setI (setI s (sR s v0 55) ((nI 3) * v5).toNatClampNeg r1) (sR s v0 55) (((nI 3) * v5) + (nI 1)).toNatClampNeg (sI (setI s (sR s v0 55) ((nI 3) * v5).toNatClampNeg r1) (sR s v0 3) (r2 + (nI 1)).toNatClampNeg)) (sR s v0 55) (((nI 3) * v5) + (nI 2)).toNatClampNeg r3) rfl ⟨trivial, g6⟩ ?_
    exact H183 h
  · refine gd h (fun g7 h => ?_)
    refine gd h (fun g8 h => ?_)
    refine Ev_blk 5 (pc' := 258) (ls' := [.ref v0, d1, d2, .int v3, .int v4, .int v5, d6, d7, d8]) (st' := [.int v3, .ref v0]) (s' := setI s v0 56 (nI 1)) rfl ⟨trivial, g7⟩ ?_
    refine bd h (fun r4 hr4 h => ?_)
    refine Ev_call 2 261 1 [.ref v0, .int v3] [] rfl rfl rfl rfl g8 rfl rfl (Nat.le_of_ble_eq_true rfl) (t_M_giveBack hr4) ?_
    refine gd h (fun g9 h => ?_)
    refine Ev_blk 2 (pc' := 264) (ls' := [.ref v0, d1, d2, .int v3, .int v4, .int v5, d6, d7, d8]) (st' := [.int v4, .ref v0]) (s' := r4) rfl trivial ?_
    refine bd h (fun r5 hr5 h => ?_)
    refine Ev_call 2 142 1 [.ref v0, .int v4] [] rfl rfl rfl rfl g9 rfl rfl (Nat.le_of_ble_eq_true rfl) (t_M_tell hr5) ?_
    cases h
    exact Ev_ret rfl trivial
def l_M_days_183  : Nat → Nat → Int32 → Int32 → Int32 → AS → Option (Int32 × AS)
  | 0 => fun _ _ _ _ _ => none
  | n + 1 => b_M_days_183  (l_M_days_183  n)
theorem u_M_days_183   {n : Nat} : ∀ {d1 d2 d6 d7 d8 : Value} {v0 : Nat} {v3 : Int32} {v4 : Int32} {v5 : Int32} {s : AS} {o : Int32 × AS}, l_M_days_183  n v0 v3 v4 v5 s = some o → Ev 13 mZ263 183 [.ref v0, d1, d2, .int v3, .int v4, .int v5, d6, d7, d8] [] s (some (.int o.1), o.2) := by
  induction n with
  | zero => intros; rename_i h; cases h
  | succ n ih => intros; rename_i h; exact t_M_days_183  (fun h => ih h) h
def b_M_days_116 (k116 : Nat → Int32 → Int32 → Int32 → AS → Option (Int32 × AS)) (v0 : Nat) (v2 : Int32) (v3 : Int32) (v4 : Int32) (s : AS) : Option (Int32 × AS) :=
  if v4 < v2 then
    if sT s v0 = 13 then
    (f_M_draw s v0 (nI 70)).bind fun r1 =>
    if sT r1.2 v0 = 13 then
    (f_M_draw r1.2 v0 (nI 256)).bind fun r2 =>
    if sT r2.2 v0 = 13 then
    (f_M_draw r2.2 v0 (nI 128)).bind fun r3 =>
    if sT r3.2 v0 = 13 then
    (f_M_draw r3.2 v0 (nI 8)).bind fun r4 =>
    if sT r4.2 v0 = 13 then
    (f_M_drawnAct r4.2 v0 r1.1 r2.1 r3.1 r4.1).bind fun r5 =>
    k116 v0 v2 v3 (v4 + nI 1) r5
    else none
    else none
    else none
    else none
    else none
  else
    if sT s v0 = 13 then
    (f_M_records s v0).bind fun r6 =>
    l_M_days_183 fuel v0 v3 r6 (nI 0) s
    else none
theorem t_M_days_116 {k116 : Nat → Int32 → Int32 → Int32 → AS → Option (Int32 × AS)} (H116 : ∀ {d1 d5 d6 d7 d8 : Value} {v0 : Nat} {v2 : Int32} {v3 : Int32} {v4 : Int32} {s : AS} {o : Int32 × AS}, k116 v0 v2 v3 v4 s = some o → Ev 13 mZ263 116 [.ref v0, d1, .int v2, .int v3, .int v4, d5, d6, d7, d8] [] s (some (.int o.1), o.2)) {d1 d5 d6 d7 d8 : Value} {v0 : Nat} {v2 : Int32} {v3 : Int32} {v4 : Int32} {s : AS} {o : Int32 × AS} (h : b_M_days_116 k116 v0 v2 v3 v4 s = some o) : Ev 13 mZ263 116 [.ref v0, d1, .int v2, .int v3, .int v4, d5, d6, d7, d8] [] s (some (.int o.1), o.2) := by
  unfold b_M_days_116 at h
  refine Ev_blk 3 (pc' := if v4 < v2 then 122 else 174) (ls' := [.ref v0, d1, .int v2, .int v3, .int v4, d5, d6, d7, d8]) (st' := []) (s' := s) rfl trivial ?_
  refine ib h (fun c1 h => ?_) (fun c1 h => ?_)
  · refine gd h (fun g2 h => ?_)
    refine Ev_blk 2 (pc' := 125) (ls' := [.ref v0, d1, .int v2, .int v3, .int v4, d5, d6, d7, d8]) (st' := [.int (nI 70), .ref v0]) (s' := s) rfl trivial ?_
    refine bd h (fun r1 hr1 h => ?_)
    refine Ev_call 2 264 1 [.ref v0, .int (nI 70)] [] rfl rfl rfl rfl g2 rfl rfl (Nat.le_of_ble_eq_true rfl) (t_M_draw hr1) ?_
    refine gd h (fun g3 h => ?_)
    refine Ev_blk 3 (pc' := 134) (ls' := [.ref v0, d1, .int v2, .int v3, .int v4, .int r1.1, d6, d7, d8]) (st' := [.int (nI 256), .ref v0]) (s' := r1.2) rfl trivial ?_
    refine bd h (fun r2 hr2 h => ?_)
    refine Ev_call 2 264 1 [.ref v0, .int (nI 256)] [] rfl rfl rfl rfl g3 rfl rfl (Nat.le_of_ble_eq_true rfl) (t_M_draw hr2) ?_
    refine gd h (fun g4 h => ?_)
    refine Ev_blk 3 (pc' := 143) (ls' := [.ref v0, d1, .int v2, .int v3, .int v4, .int r1.1, .int r2.1, d7, d8]) (st' := [.int (nI 128), .ref v0]) (s' := r2.2) rfl trivial ?_
    refine bd h (fun r3 hr3 h => ?_)
    refine Ev_call 2 264 1 [.ref v0, .int (nI 128)] [] rfl rfl rfl rfl g4 rfl rfl (Nat.le_of_ble_eq_true rfl) (t_M_draw hr3) ?_
    refine gd h (fun g5 h => ?_)
    refine Ev_blk 3 (pc' := 151) (ls' := [.ref v0, d1, .int v2, .int v3, .int v4, .int r1.1, .int r2.1, .int r3.1, d8]) (st' := [.int (nI 8), .ref v0]) (s' := r3.2) rfl trivial ?_
    refine bd h (fun r4 hr4 h => ?_)
    refine Ev_call 2 264 1 [.ref v0, .int (nI 8)] [] rfl rfl rfl rfl g5 rfl rfl (Nat.le_of_ble_eq_true rfl) (t_M_draw hr4) ?_
    refine gd h (fun g6 h => ?_)
    refine Ev_blk 6 (pc' := 165) (ls' := [.ref v0, d1, .int v2, .int v3, .int v4, .int r1.1, .int r2.1, .int r3.1, .int r4.1]) (st' := [.int r4.1, .int r3.1, .int r2.1, .int r1.1, .ref v0]) (s' := r4.2) rfl trivial ?_
    refine bd h (fun r5 hr5 h => ?_)
    refine Ev_call 2 265 4 [.ref v0, .int r1.1, .int r2.1, .int r3.1, .int r4.1] [] rfl rfl rfl rfl g6 rfl rfl (Nat.le_of_ble_eq_true rfl) (t_M_drawnAct hr5) ?_
    refine Ev_blk 2 (pc' := 116) (ls' := [.ref v0, d1, .int v2, .int v3, .int (v4 + nI 1), .int r1.1, .int r2.1, .int r3.1, .int r4.1]) (st' := []) (s' := r5) rfl trivial ?_
    exact H116 h
  · refine gd h (fun g7 h => ?_)
    refine Ev_blk 1 (pc' := 175) (ls' := [.ref v0, d1, .int v2, .int v3, .int v4, d5, d6, d7, d8]) (st' := [.ref v0]) (s' := s) rfl trivial ?_
    refine bd h (fun r6 hr6 h => ?_)
    refine Ev_call 2 256 0 [.ref v0] [] rfl rfl rfl rfl g7 rfl rfl (Nat.le_of_ble_eq_true rfl) (t_M_records hr6) ?_
    refine Ev_blk 3 (pc' := 183) (ls' := [.ref v0, d1, .int v2, .int v3, .int r6, .int (nI 0), d6, d7, d8]) (st' := []) (s' := s) rfl trivial ?_
    exact u_M_days_183 h
def l_M_days_116  : Nat → Nat → Int32 → Int32 → Int32 → AS → Option (Int32 × AS)
  | 0 => fun _ _ _ _ _ => none
  | n + 1 => b_M_days_116  (l_M_days_116  n)
theorem u_M_days_116   {n : Nat} : ∀ {d1 d5 d6 d7 d8 : Value} {v0 : Nat} {v2 : Int32} {v3 : Int32} {v4 : Int32} {s : AS} {o : Int32 × AS}, l_M_days_116  n v0 v2 v3 v4 s = some o → Ev 13 mZ263 116 [.ref v0, d1, .int v2, .int v3, .int v4, d5, d6, d7, d8] [] s (some (.int o.1), o.2) := by
  induction n with
  | zero => intros; rename_i h; cases h
  | succ n ih => intros; rename_i h; exact t_M_days_116  (fun h => ih h) h
def b_M_days_80 (k80 : Nat → Int32 → Int32 → Int32 → Int32 → AS → Option (Int32 × AS)) (v0 : Nat) (v1 : Int32) (v2 : Int32) (v3 : Int32) (v4 : Int32) (s : AS) : Option (Int32 × AS) :=
  if v4 < (nI 16) then
    if sT s v0 = 13 then
    if sT s (sR s v0 7) = 20 ∧ inA v4 (sN s (sR s v0 7)) then
    if sT s (sR s v0 10) = 20 ∧ inA v4 (sN s (sR s v0 10)) then
    k80 v0 v1 v2 v3 (v4 + nI 1) (setI s (sR s v0 10) v4.toNatClampNeg (sI s (sR s v0 7) v4.toNatClampNeg))
    else none
    else none
    else none
  else
    if sT s v0 = 13 then
    l_M_days_116 fuel v0 v2 v3 (nI 0) (setJ s v0 54 v1.toInt64)
    else none
theorem t_M_days_80 {k80 : Nat → Int32 → Int32 → Int32 → Int32 → AS → Option (Int32 × AS)} (H80 : ∀ {d5 d6 d7 d8 : Value} {v0 : Nat} {v1 : Int32} {v2 : Int32} {v3 : Int32} {v4 : Int32} {s : AS} {o : Int32 × AS}, k80 v0 v1 v2 v3 v4 s = some o → Ev 13 mZ263 80 [.ref v0, .int v1, .int v2, .int v3, .int v4, d5, d6, d7, d8] [] s (some (.int o.1), o.2)) {d5 d6 d7 d8 : Value} {v0 : Nat} {v1 : Int32} {v2 : Int32} {v3 : Int32} {v4 : Int32} {s : AS} {o : Int32 × AS} (h : b_M_days_80 k80 v0 v1 v2 v3 v4 s = some o) : Ev 13 mZ263 80 [.ref v0, .int v1, .int v2, .int v3, .int v4, d5, d6, d7, d8] [] s (some (.int o.1), o.2) := by
  unfold b_M_days_80 at h
  refine Ev_blk 3 (pc' := if v4 < (nI 16) then 87 else 107) (ls' := [.ref v0, .int v1, .int v2, .int v3, .int v4, d5, d6, d7, d8]) (st' := []) (s' := s) rfl trivial ?_
  refine ib h (fun c1 h => ?_) (fun c1 h => ?_)
  · refine gd h (fun g2 h => ?_)
    refine gd h (fun g3 h => ?_)
    refine gd h (fun g4 h => ?_)
    refine Ev_blk 10 (pc' := 80) (ls' := [.ref v0, .int v1, .int v2, .int v3, .int (v4 + nI 1), d5, d6, d7, d8]) (st' := []) (s' := setI s (sR s v0 10) v4.toNatClampNeg (sI s (sR s v0 7) v4.toNatClampNeg)) rfl ⟨⟨⟨⟨trivial, g2⟩, g2⟩, ⟨Or.inl g3.1, g3.2⟩⟩, g4⟩ ?_
    exact H80 h
  · refine gd h (fun g5 h => ?_)
    refine Ev_blk 6 (pc' := 116) (ls' := [.ref v0, .int v1, .int v2, .int v3, .int (nI 0), d5, d6, d7, d8]) (st' := []) (s' := setJ s v0 54 v1.toInt64) rfl ⟨trivial, g5⟩ ?_
    exact u_M_days_116 h
def l_M_days_80  : Nat → Nat → Int32 → Int32 → Int32 → Int32 → AS → Option (Int32 × AS)
  | 0 => fun _ _ _ _ _ _ => none
  | n + 1 => b_M_days_80  (l_M_days_80  n)
theorem u_M_days_80   {n : Nat} : ∀ {d5 d6 d7 d8 : Value} {v0 : Nat} {v1 : Int32} {v2 : Int32} {v3 : Int32} {v4 : Int32} {s : AS} {o : Int32 × AS}, l_M_days_80  n v0 v1 v2 v3 v4 s = some o → Ev 13 mZ263 80 [.ref v0, .int v1, .int v2, .int v3, .int v4, d5, d6, d7, d8] [] s (some (.int o.1), o.2) := by
  induction n with
  | zero => intros; rename_i h; cases h
  | succ n ih => intros; rename_i h; exact t_M_days_80  (fun h => ih h) h
def b_M_days_49 (k49 : Nat → Int32 → Int32 → Int32 → Int32 → AS → Option (Int32 × AS)) (v0 : Nat) (v1 : Int32) (v2 : Int32) (v3 : Int32) (v4 : Int32) (s : AS) : Option (Int32 × AS) :=
  if v4 < (nI 13056) then
    if sT s v0 = 13 then
    if sT s (sR s v0 6) = 20 ∧ inA v4 (sN s (sR s v0 6)) then
    if sT s (sR s v0 9) = 20 ∧ inA v4 (sN s (sR s v0 9)) then
    k49 v0 v1 v2 v3 (v4 + nI 1) (setI s (sR s v0 9) v4.toNatClampNeg (sI s (sR s v0 6) v4.toNatClampNeg))
    else none
    else none
    else none
  else
    l_M_days_80 fuel v0 v1 v2 v3 (nI 0) s
theorem t_M_days_49 {k49 : Nat → Int32 → Int32 → Int32 → Int32 → AS → Option (Int32 × AS)} (H49 : ∀ {d5 d6 d7 d8 : Value} {v0 : Nat} {v1 : Int32} {v2 : Int32} {v3 : Int32} {v4 : Int32} {s : AS} {o : Int32 × AS}, k49 v0 v1 v2 v3 v4 s = some o → Ev 13 mZ263 49 [.ref v0, .int v1, .int v2, .int v3, .int v4, d5, d6, d7, d8] [] s (some (.int o.1), o.2)) {d5 d6 d7 d8 : Value} {v0 : Nat} {v1 : Int32} {v2 : Int32} {v3 : Int32} {v4 : Int32} {s : AS} {o : Int32 × AS} (h : b_M_days_49 k49 v0 v1 v2 v3 v4 s = some o) : Ev 13 mZ263 49 [.ref v0, .int v1, .int v2, .int v3, .int v4, d5, d6, d7, d8] [] s (some (.int o.1), o.2) := by
  unfold b_M_days_49 at h
  refine Ev_blk 3 (pc' := if v4 < (nI 13056) then 57 else 77) (ls' := [.ref v0, .int v1, .int v2, .int v3, .int v4, d5, d6, d7, d8]) (st' := []) (s' := s) rfl trivial ?_
  refine ib h (fun c1 h => ?_) (fun c1 h => ?_)
  · refine gd h (fun g2 h => ?_)
    refine gd h (fun g3 h => ?_)
    refine gd h (fun g4 h => ?_)
    refine Ev_blk 10 (pc' := 49) (ls' := [.ref v0, .int v1, .int v2, .int v3, .int (v4 + nI 1), d5, d6, d7, d8]) (st' := []) (s' := setI s (sR s v0 9) v4.toNatClampNeg (sI s (sR s v0 6) v4.toNatClampNeg)) rfl ⟨⟨⟨⟨trivial, g2⟩, g2⟩, ⟨Or.inl g3.1, g3.2⟩⟩, g4⟩ ?_
    exact H49 h
  · refine Ev_blk 2 (pc' := 80) (ls' := [.ref v0, .int v1, .int v2, .int v3, .int (nI 0), d5, d6, d7, d8]) (st' := []) (s' := s) rfl trivial ?_
    exact u_M_days_80 h
def l_M_days_49  : Nat → Nat → Int32 → Int32 → Int32 → Int32 → AS → Option (Int32 × AS)
  | 0 => fun _ _ _ _ _ _ => none
  | n + 1 => b_M_days_49  (l_M_days_49  n)
theorem u_M_days_49   {n : Nat} : ∀ {d5 d6 d7 d8 : Value} {v0 : Nat} {v1 : Int32} {v2 : Int32} {v3 : Int32} {v4 : Int32} {s : AS} {o : Int32 × AS}, l_M_days_49  n v0 v1 v2 v3 v4 s = some o → Ev 13 mZ263 49 [.ref v0, .int v1, .int v2, .int v3, .int v4, d5, d6, d7, d8] [] s (some (.int o.1), o.2) := by
  induction n with
  | zero => intros; rename_i h; cases h
  | succ n ih => intros; rename_i h; exact t_M_days_49  (fun h => ih h) h
/-- RecordHeapModel.days(II)I -/
def f_M_days (s : AS) (a0 : Nat) (a1 : Int32) (a2 : Int32) : Option (Int32 × AS) :=
  if sT s a0 = 13 then
  (f_M_in (setI s a0 0 (nI 0)) a1.toInt64 (lN 0) (lN 1000000)).bind fun r1 =>
  if r1 = (nI 0) then
    b_M_days_29 a0 (setI s a0 0 (nI 0))
  else
    (f_M_in (setI s a0 0 (nI 0)) a2.toInt64 (lN 1) (lN 60)).bind fun r2 =>
    if r2 = (nI 0) then
      b_M_days_29 a0 (setI s a0 0 (nI 0))
    else
      (f_M_keepAll (setI s a0 0 (nI 0)) a0 (nI 17)).bind fun r3 =>
      if sT r3 a0 = 13 then
      l_M_days_49 fuel a0 a1 a2 (sI r3 a0 8) (nI 0) r3
      else none
  else none
theorem t_M_days {s : AS} {a0 : Nat} {a1 : Int32} {a2 : Int32} {o : Int32 × AS} (h : f_M_days s a0 a1 a2 = some o) : Ev 13 mZ263 0 [.ref a0, .int a1, .int a2, .retAddr 0, .retAddr 0, .retAddr 0, .retAddr 0, .retAddr 0, .retAddr 0] [] s (some (.int o.1), o.2) := by
  unfold f_M_days at h
  refine gd h (fun g1 h => ?_)
  refine Ev_blk 7 (pc' := 11) (ls' := [.ref a0, .int a1, .int a2, .retAddr 0, .retAddr 0, .retAddr 0, .retAddr 0, .retAddr 0, .retAddr 0]) (st' := [.long (lN 1000000), .long (lN 0), .long a1.toInt64]) (s' := setI s a0 0 (nI 0)) rfl ⟨trivial, g1⟩ ?_
  refine bd h (fun r1 hr1 h => ?_)
  refine Ev_call 1 145 3 [.long a1.toInt64, .long (lN 0), .long (lN 1000000)] [] rfl rfl rfl rfl trivial rfl rfl (Nat.le_of_ble_eq_true rfl) (t_M_in hr1) ?_
  refine Ev_blk 1 (pc' := if r1 = (nI 0) then 29 else 17) (ls' := [.ref a0, .int a1, .int a2, .retAddr 0, .retAddr 0, .retAddr 0, .retAddr 0, .retAddr 0, .retAddr 0]) (st' := []) (s' := setI s a0 0 (nI 0)) rfl trivial ?_
  refine ib h (fun c2 h => ?_) (fun c2 h => ?_)
  · exact t_M_days_29 h
  · refine Ev_blk 4 (pc' := 23) (ls' := [.ref a0, .int a1, .int a2, .retAddr 0, .retAddr 0, .retAddr 0, .retAddr 0, .retAddr 0, .retAddr 0]) (st' := [.long (lN 60), .long (lN 1), .long a2.toInt64]) (s' := setI s a0 0 (nI 0)) rfl trivial ?_
    refine bd h (fun r2 hr2 h => ?_)
    refine Ev_call 1 145 3 [.long a2.toInt64, .long (lN 1), .long (lN 60)] [] rfl rfl rfl rfl trivial rfl rfl (Nat.le_of_ble_eq_true rfl) (t_M_in hr2) ?_
    refine Ev_blk 1 (pc' := if r2 = (nI 0) then 29 else 35) (ls' := [.ref a0, .int a1, .int a2, .retAddr 0, .retAddr 0, .retAddr 0, .retAddr 0, .retAddr 0, .retAddr 0]) (st' := []) (s' := setI s a0 0 (nI 0)) rfl trivial ?_
    refine ib h (fun c3 h => ?_) (fun c3 h => ?_)
    · exact t_M_days_29 h
    · refine Ev_blk 2 (pc' := 38) (ls' := [.ref a0, .int a1, .int a2, .retAddr 0, .retAddr 0, .retAddr 0, .retAddr 0, .retAddr 0, .retAddr 0]) (st' := [.int (nI 17), .ref a0]) (s' := setI s a0 0 (nI 0)) rfl trivial ?_
      refine bd h (fun r3 hr3 h => ?_)
      refine Ev_call 2 185 1 [.ref a0, .int (nI 17)] [] rfl rfl rfl rfl g1 rfl rfl (Nat.le_of_ble_eq_true rfl) (t_M_keepAll hr3) ?_
      refine gd h (fun g4 h => ?_)
      refine Ev_blk 5 (pc' := 49) (ls' := [.ref a0, .int a1, .int a2, .int (sI r3 a0 8), .int (nI 0), .retAddr 0, .retAddr 0, .retAddr 0, .retAddr 0]) (st' := []) (s' := r3) rfl ⟨trivial, g4⟩ ?_
      exact u_M_days_49 h

/-- RecordHeapModel.drawn(II)I -/
def f_M_drawn (s : AS) (a0 : Nat) (a1 : Int32) (a2 : Int32) : Option (Int32 × AS) :=
  if sT s a0 = 13 then
  if (sI (setI s a0 0 (nI 0)) a0 56) = (nI 0) then
    some (-(nI 1), setI s a0 0 (nI 0))
  else
    (f_M_isPage (setI s a0 0 (nI 0)) a1).bind fun r1 =>
    if r1 = (nI 0) then
      some (-(nI 1), setI s a0 0 (nI 0))
    else
      (f_M_in (setI s a0 0 (nI 0)) a2.toInt64 (lN 0) (lN 2)).bind fun r2 =>
      if r2 = (nI 0) then
        some (-(nI 1), setI s a0 0 (nI 0))
      else
        if sT s (sR s a0 55) = 20 ∧ inA (((nI 3) * a1) + a2) (sN s (sR s a0 55)) then
        some (sI (setI s a0 0 (nI 0)) (sR s a0 55) (((nI 3) * a1) + a2).toNatClampNeg, setI s a0 0 (nI 0))
        else none
  else none
theorem t_M_drawn {s : AS} {a0 : Nat} {a1 : Int32} {a2 : Int32} {o : Int32 × AS} (h : f_M_drawn s a0 a1 a2 = some o) : Ev 2 mZ266 0 [.ref a0, .int a1, .int a2] [] s (some (.int o.1), o.2) := by
  unfold f_M_drawn at h
  refine gd h (fun g1 h => ?_)
  refine Ev_blk 6 (pc' := if (sI (setI s a0 0 (nI 0)) a0 56) = (nI 0) then 44 else 12) (ls' := [.ref a0, .int a1, .int a2]) (st' := []) (s' := setI s a0 0 (nI 0)) rfl ⟨⟨trivial, g1⟩, g1⟩ ?_
  refine ib h (fun c2 h => ?_) (fun c2 h => ?_)
  · refine Ev_blk 1 (pc' := 45) (ls' := [.ref a0, .int a1, .int a2]) (st' := [.int (-(nI 1))]) (s' := setI s a0 0 (nI 0)) rfl trivial ?_
    cases h
    exact Ev_ret rfl trivial
  · refine Ev_blk 1 (pc' := 13) (ls' := [.ref a0, .int a1, .int a2]) (st' := [.int a1]) (s' := setI s a0 0 (nI 0)) rfl trivial ?_
    refine bd h (fun r1 hr1 h => ?_)
    refine Ev_call 1 226 1 [.int a1] [] rfl rfl rfl rfl trivial rfl rfl (Nat.le_of_ble_eq_true rfl) (t_M_isPage hr1) ?_
    refine Ev_blk 1 (pc' := if r1 = (nI 0) then 44 else 19) (ls' := [.ref a0, .int a1, .int a2]) (st' := []) (s' := setI s a0 0 (nI 0)) rfl trivial ?_
    refine ib h (fun c3 h => ?_) (fun c3 h => ?_)
    · refine Ev_blk 1 (pc' := 45) (ls' := [.ref a0, .int a1, .int a2]) (st' := [.int (-(nI 1))]) (s' := setI s a0 0 (nI 0)) rfl trivial ?_
      cases h
      exact Ev_ret rfl trivial
    · refine Ev_blk 4 (pc' := 25) (ls' := [.ref a0, .int a1, .int a2]) (st' := [.long (lN 2), .long (lN 0), .long a2.toInt64]) (s' := setI s a0 0 (nI 0)) rfl trivial ?_
      refine bd h (fun r2 hr2 h => ?_)
      refine Ev_call 1 145 3 [.long a2.toInt64, .long (lN 0), .long (lN 2)] [] rfl rfl rfl rfl trivial rfl rfl (Nat.le_of_ble_eq_true rfl) (t_M_in hr2) ?_
      refine Ev_blk 1 (pc' := if r2 = (nI 0) then 44 else 31) (ls' := [.ref a0, .int a1, .int a2]) (st' := []) (s' := setI s a0 0 (nI 0)) rfl trivial ?_
      refine ib h (fun c4 h => ?_) (fun c4 h => ?_)
      · refine Ev_blk 1 (pc' := 45) (ls' := [.ref a0, .int a1, .int a2]) (st' := [.int (-(nI 1))]) (s' := setI s a0 0 (nI 0)) rfl trivial ?_
        cases h
        exact Ev_ret rfl trivial
      · refine gd h (fun g5 h => ?_)
        refine Ev_blk 9 (pc' := 45) (ls' := [.ref a0, .int a1, .int a2]) (st' := [.int (sI (setI s a0 0 (nI 0)) (sR s a0 55) (((nI 3) * a1) + a2).toNatClampNeg)]) (s' := setI s a0 0 (nI 0)) rfl ⟨⟨trivial, g1⟩, ⟨Or.inl g5.1, g5.2⟩⟩ ?_
        cases h
        exact Ev_ret rfl trivial

def b_M_bytesOfAll_4 (s : AS) (k4 : Nat → Int32 → Int32 → Option Int32) (v0 : Nat) (v1 : Int32) (v2 : Int32) : Option Int32 :=
  if v2 < (nI 128) then
    if sT s v0 = 13 then
    (f_M_isRecord s v0 v2).bind fun r1 =>
    if r1 = (nI 0) then
      k4 v0 (v1 + (nI 0)) (v2 + nI 1)
    else
      (f_M_lengthOf s v0 v2).bind fun r2 =>
      k4 v0 (v1 + r2) (v2 + nI 1)
    else none
  else
    some v1
theorem t_M_bytesOfAll_4 {s : AS} {k4 : Nat → Int32 → Int32 → Option Int32} (H4 : ∀ {v0 : Nat} {v1 : Int32} {v2 : Int32} {o : Int32}, k4 v0 v1 v2 = some o → Ev 5 mZ268 4 [.ref v0, .int v1, .int v2] [] s (some (.int o), s))  {v0 : Nat} {v1 : Int32} {v2 : Int32} {o : Int32} (h : b_M_bytesOfAll_4 s k4 v0 v1 v2 = some o) : Ev 5 mZ268 4 [.ref v0, .int v1, .int v2] [] s (some (.int o), s) := by
  unfold b_M_bytesOfAll_4 at h
  refine Ev_blk 3 (pc' := if v2 < (nI 128) then 11 else 37) (ls' := [.ref v0, .int v1, .int v2]) (st' := []) (s' := s) rfl trivial ?_
  refine ib h (fun c1 h => ?_) (fun c1 h => ?_)
  · refine gd h (fun g2 h => ?_)
    refine Ev_blk 3 (pc' := 14) (ls' := [.ref v0, .int v1, .int v2]) (st' := [.int v2, .ref v0, .int v1]) (s' := s) rfl trivial ?_
    refine bd h (fun r1 hr1 h => ?_)
    refine Ev_call 2 210 1 [.ref v0, .int v2] [.int v1] rfl rfl rfl rfl g2 rfl rfl (Nat.le_of_ble_eq_true rfl) (t_M_isRecord hr1) ?_
    refine Ev_blk 1 (pc' := if r1 = (nI 0) then 28 else 20) (ls' := [.ref v0, .int v1, .int v2]) (st' := [.int v1]) (s' := s) rfl trivial ?_
    refine ib h (fun c3 h => ?_) (fun c3 h => ?_)
    · refine Ev_blk 5 (pc' := 4) (ls' := [.ref v0, .int (v1 + (nI 0)), .int (v2 + nI 1)]) (st' := []) (s' := s) rfl trivial ?_
      exact H4 h
    · refine Ev_blk 2 (pc' := 22) (ls' := [.ref v0, .int v1, .int v2]) (st' := [.int v2, .ref v0, .int v1]) (s' := s) rfl trivial ?_
      refine bd h (fun r2 hr2 h => ?_)
      refine Ev_call 2 222 1 [.ref v0, .int v2] [.int v1] rfl rfl rfl rfl g2 rfl rfl (Nat.le_of_ble_eq_true rfl) (t_M_lengthOf hr2) ?_
      refine Ev_blk 5 (pc' := 4) (ls' := [.ref v0, .int (v1 + r2), .int (v2 + nI 1)]) (st' := []) (s' := s) rfl trivial ?_
      exact H4 h
  · refine Ev_blk 1 (pc' := 38) (ls' := [.ref v0, .int v1, .int v2]) (st' := [.int v1]) (s' := s) rfl trivial ?_
    cases h
    exact Ev_ret rfl trivial
def l_M_bytesOfAll_4 (s : AS)  : Nat → Nat → Int32 → Int32 → Option Int32
  | 0 => fun _ _ _ => none
  | n + 1 => b_M_bytesOfAll_4 s  (l_M_bytesOfAll_4 s  n)
theorem u_M_bytesOfAll_4 {s : AS}   {n : Nat} : ∀  {v0 : Nat} {v1 : Int32} {v2 : Int32} {o : Int32}, l_M_bytesOfAll_4 s  n v0 v1 v2 = some o → Ev 5 mZ268 4 [.ref v0, .int v1, .int v2] [] s (some (.int o), s) := by
  induction n with
  | zero => intros; rename_i h; cases h
  | succ n ih => intros; rename_i h; exact t_M_bytesOfAll_4  (fun h => ih h) h
/-- RecordHeapModel.bytesOfAll()I -/
def f_M_bytesOfAll (s : AS) (a0 : Nat) : Option Int32 :=
  l_M_bytesOfAll_4 s fuel a0 (nI 0) (nI 0)
theorem t_M_bytesOfAll {s : AS} {a0 : Nat} {o : Int32} (h : f_M_bytesOfAll s a0 = some o) : Ev 5 mZ268 0 [.ref a0, .retAddr 0, .retAddr 0] [] s (some (.int o), s) := by
  unfold f_M_bytesOfAll at h
  refine Ev_blk 4 (pc' := 4) (ls' := [.ref a0, .int (nI 0), .int (nI 0)]) (st' := []) (s' := s) rfl trivial ?_
  exact u_M_bytesOfAll_4 h

def b_M_ofKind_4 (s : AS) (k4 : Nat → Int32 → Int32 → Int32 → Option Int32) (v0 : Nat) (v1 : Int32) (v2 : Int32) (v3 : Int32) : Option Int32 :=
  if v3 < (nI 128) then
    if sT s v0 = 13 then
    (f_M_kindAt s v0 v3).bind fun r1 =>
      k4 v0 v1 (v2 + (if r1 = v1 then nI 1 else nI 0)) (v3 + nI 1)
    else none
  else
    some v2
theorem t_M_ofKind_4 {s : AS} {k4 : Nat → Int32 → Int32 → Int32 → Option Int32} (H4 : ∀ {v0 : Nat} {v1 : Int32} {v2 : Int32} {v3 : Int32} {o : Int32}, k4 v0 v1 v2 v3 = some o → Ev 4 mZ269 4 [.ref v0, .int v1, .int v2, .int v3] [] s (some (.int o), s))  {v0 : Nat} {v1 : Int32} {v2 : Int32} {v3 : Int32} {o : Int32} (h : b_M_ofKind_4 s k4 v0 v1 v2 v3 = some o) : Ev 4 mZ269 4 [.ref v0, .int v1, .int v2, .int v3] [] s (some (.int o), s) := by
  unfold b_M_ofKind_4 at h
  refine Ev_blk 3 (pc' := if v3 < (nI 128) then 11 else 34) (ls' := [.ref v0, .int v1, .int v2, .int v3]) (st' := []) (s' := s) rfl trivial ?_
  refine ib h (fun c1 h => ?_) (fun c1 h => ?_)
  · refine gd h (fun g2 h => ?_)
    refine Ev_blk 3 (pc' := 14) (ls' := [.ref v0, .int v1, .int v2, .int v3]) (st' := [.int v3, .ref v0, .int v2]) (s' := s) rfl trivial ?_
    refine bd h (fun r1 hr1 h => ?_)
    refine Ev_call 2 211 1 [.ref v0, .int v3] [.int v2] rfl rfl rfl rfl g2 rfl rfl (Nat.le_of_ble_eq_true rfl) (t_M_kindAt hr1) ?_
    refine Ev_blk 2 (pc' := if r1 = v1 then 21 else 25) (ls' := [.ref v0, .int v1, .int v2, .int v3]) (st' := [.int v2]) (s' := s) rfl trivial ?_
    have k3_ : Ev 4 mZ269 26 [.ref v0, .int v1, .int v2, .int v3] [.int (if r1 = v1 then nI 1 else nI 0), .int v2] s (some (.int o), s) := by
      refine Ev_blk 4 (pc' := 4) (ls' := [.ref v0, .int v1, .int (v2 + (if r1 = v1 then nI 1 else nI 0)), .int (v3 + nI 1)]) (st' := []) (s' := s) rfl trivial ?_
      exact H4 h
    refine icases (fun c4 => ?_) (fun c4 => ?_)
    · exact Ev_blk 2 (pc' := 26) (ls' := [.ref v0, .int v1, .int v2, .int v3]) (st' := [.int (nI 1), .int v2]) (s' := s) rfl trivial (by simpa only [if_pos c4] using k3_)
    · exact Ev_blk 1 (pc' := 26) (ls' := [.ref v0, .int v1, .int v2, .int v3]) (st' := [.int (nI 0), .int v2]) (s' := s) rfl trivial (by simpa only [if_neg c4] using k3_)
  · refine Ev_blk 1 (pc' := 35) (ls' := [.ref v0, .int v1, .int v2, .int v3]) (st' := [.int v2]) (s' := s) rfl trivial ?_
    cases h
    exact Ev_ret rfl trivial
def l_M_ofKind_4 (s : AS)  : Nat → Nat → Int32 → Int32 → Int32 → Option Int32
  | 0 => fun _ _ _ _ => none
  | n + 1 => b_M_ofKind_4 s  (l_M_ofKind_4 s  n)
theorem u_M_ofKind_4 {s : AS}   {n : Nat} : ∀  {v0 : Nat} {v1 : Int32} {v2 : Int32} {v3 : Int32} {o : Int32}, l_M_ofKind_4 s  n v0 v1 v2 v3 = some o → Ev 4 mZ269 4 [.ref v0, .int v1, .int v2, .int v3] [] s (some (.int o), s) := by
  induction n with
  | zero => intros; rename_i h; cases h
  | succ n ih => intros; rename_i h; exact t_M_ofKind_4  (fun h => ih h) h
/-- RecordHeapModel.ofKind(I)I -/
def f_M_ofKind (s : AS) (a0 : Nat) (a1 : Int32) : Option Int32 :=
  l_M_ofKind_4 s fuel a0 a1 (nI 0) (nI 0)
theorem t_M_ofKind {s : AS} {a0 : Nat} {a1 : Int32} {o : Int32} (h : f_M_ofKind s a0 a1 = some o) : Ev 4 mZ269 0 [.ref a0, .int a1, .retAddr 0, .retAddr 0] [] s (some (.int o), s) := by
  unfold f_M_ofKind at h
  refine Ev_blk 4 (pc' := 4) (ls' := [.ref a0, .int a1, .int (nI 0), .int (nI 0)]) (st' := []) (s' := s) rfl trivial ?_
  exact u_M_ofKind_4 h

/-- RecordHeapModel.count(I)I -/
def f_M_count (s : AS) (a0 : Nat) (a1 : Int32) : Option (Int32 × AS) :=
  if sT s a0 = 13 then
  if a1 = nI 0 then
    (f_M_records (setI s a0 0 (nI 0)) a0).bind fun r1 =>
    some (r1, setI s a0 0 (nI 0))
  else
  if a1 = nI 1 then
    (f_M_bytesOfAll (setI s a0 0 (nI 0)) a0).bind fun r2 =>
    some (r2, setI s a0 0 (nI 0))
  else
  if a1 = nI 2 then
    (f_M_ofKind (setI s a0 0 (nI 0)) a0 (nI 2)).bind fun r3 =>
    some (r3, setI s a0 0 (nI 0))
  else
  if a1 = nI 3 then
    (f_M_ofKind (setI s a0 0 (nI 0)) a0 (nI 5)).bind fun r4 =>
    some (r4, setI s a0 0 (nI 0))
  else
  if a1 = nI 4 then
    if sT s (sR s a0 3) = 20 ∧ inA (nI 0) (sN s (sR s a0 3)) then
    some (sI (setI s a0 0 (nI 0)) (sR s a0 3) (nI 0).toNatClampNeg, setI s a0 0 (nI 0))
    else none
  else
  if a1 = nI 5 then
    some (sI (setI s a0 0 (nI 0)) a0 8, setI s a0 0 (nI 0))
  else
  if a1 = nI 6 then
    some (sI (setI s a0 0 (nI 0)) a0 12, setI s a0 0 (nI 0))
  else
  if a1 = nI 7 then
    if sT s (sR s a0 2) = 20 ∧ inA (nI 1) (sN s (sR s a0 2)) then
    some (sI (setI s a0 0 (nI 0)) (sR s a0 2) (nI 1).toNatClampNeg, setI s a0 0 (nI 0))
    else none
  else
  if a1 = nI 8 then
    if sT s (sR s a0 2) = 20 ∧ inA (nI 2) (sN s (sR s a0 2)) then
    some (sI (setI s a0 0 (nI 0)) (sR s a0 2) (nI 2).toNatClampNeg, setI s a0 0 (nI 0))
    else none
  else
  if a1 = nI 9 then
    if sT s (sR s a0 2) = 20 ∧ inA (nI 3) (sN s (sR s a0 2)) then
    some (sI (setI s a0 0 (nI 0)) (sR s a0 2) (nI 3).toNatClampNeg, setI s a0 0 (nI 0))
    else none
  else
  if a1 = nI 10 then
    if sT s (sR s a0 2) = 20 ∧ inA (nI 5) (sN s (sR s a0 2)) then
    some (sI (setI s a0 0 (nI 0)) (sR s a0 2) (nI 5).toNatClampNeg, setI s a0 0 (nI 0))
    else none
  else
  if a1 = nI 11 then
    if sT s (sR s a0 2) = 20 ∧ inA (nI 6) (sN s (sR s a0 2)) then
    some (sI (setI s a0 0 (nI 0)) (sR s a0 2) (nI 6).toNatClampNeg, setI s a0 0 (nI 0))
    else none
  else
  if a1 = nI 12 then
    if sT s (sR s a0 3) = 20 ∧ inA (nI 1) (sN s (sR s a0 3)) then
    some (sI (setI s a0 0 (nI 0)) (sR s a0 3) (nI 1).toNatClampNeg, setI s a0 0 (nI 0))
    else none
  else
  (f_M_in (setI s a0 0 (nI 0)) a1.toInt64 (lN 13) (lN 15)).bind fun r5 =>
  if r5 = (nI 0) then
    some (-(nI 1), setI s a0 0 (nI 0))
  else
    if sT s (sR s a0 3) = 20 ∧ inA (((nI 2) + a1) - (nI 13)) (sN s (sR s a0 3)) then
    some (sI (setI s a0 0 (nI 0)) (sR s a0 3) (((nI 2) + a1) - (nI 13)).toNatClampNeg, setI s a0 0 (nI 0))
    else none
  else none
theorem t_M_count {s : AS} {a0 : Nat} {a1 : Int32} {o : Int32 × AS} (h : f_M_count s a0 a1 = some o) : Ev 6 mZ267 0 [.ref a0, .int a1] [] s (some (.int o.1), o.2) := by
  unfold f_M_count at h
  refine gd h (fun g1 h => ?_)
  refine Ev_blk 5 (pc' := if a1 = nI 0 then 72 else if a1 = nI 1 then 77 else if a1 = nI 2 then 82 else if a1 = nI 3 then 88 else if a1 = nI 4 then 94 else if a1 = nI 5 then 101 else if a1 = nI 6 then 106 else if a1 = nI 7 then 111 else if a1 = nI 8 then 118 else if a1 = nI 9 then 125 else if a1 = nI 10 then 132 else if a1 = nI 11 then 139 else if a1 = nI 12 then 147 else 154) (ls' := [.ref a0, .int a1]) (st' := []) (s' := setI s a0 0 (nI 0)) rfl ⟨trivial, g1⟩ ?_
  refine ib h (fun c2 h => ?_) (fun c2 h => ?_)
  · refine Ev_blk 1 (pc' := 73) (ls' := [.ref a0, .int a1]) (st' := [.ref a0]) (s' := setI s a0 0 (nI 0)) rfl trivial ?_
    refine bd h (fun r1 hr1 h => ?_)
    refine Ev_call 2 256 0 [.ref a0] [] rfl rfl rfl rfl g1 rfl rfl (Nat.le_of_ble_eq_true rfl) (t_M_records hr1) ?_
    cases h
    exact Ev_ret rfl trivial
  refine ib h (fun c3 h => ?_) (fun c3 h => ?_)
  · refine Ev_blk 1 (pc' := 78) (ls' := [.ref a0, .int a1]) (st' := [.ref a0]) (s' := setI s a0 0 (nI 0)) rfl trivial ?_
    refine bd h (fun r2 hr2 h => ?_)
    refine Ev_call 2 268 0 [.ref a0] [] rfl rfl rfl rfl g1 rfl rfl (Nat.le_of_ble_eq_true rfl) (t_M_bytesOfAll hr2) ?_
    cases h
    exact Ev_ret rfl trivial
  refine ib h (fun c4 h => ?_) (fun c4 h => ?_)
  · refine Ev_blk 2 (pc' := 84) (ls' := [.ref a0, .int a1]) (st' := [.int (nI 2), .ref a0]) (s' := setI s a0 0 (nI 0)) rfl trivial ?_
    refine bd h (fun r3 hr3 h => ?_)
    refine Ev_call 2 269 1 [.ref a0, .int (nI 2)] [] rfl rfl rfl rfl g1 rfl rfl (Nat.le_of_ble_eq_true rfl) (t_M_ofKind hr3) ?_
    cases h
    exact Ev_ret rfl trivial
  refine ib h (fun c5 h => ?_) (fun c5 h => ?_)
  · refine Ev_blk 2 (pc' := 90) (ls' := [.ref a0, .int a1]) (st' := [.int (nI 5), .ref a0]) (s' := setI s a0 0 (nI 0)) rfl trivial ?_
    refine bd h (fun r4 hr4 h => ?_)
    refine Ev_call 2 269 1 [.ref a0, .int (nI 5)] [] rfl rfl rfl rfl g1 rfl rfl (Nat.le_of_ble_eq_true rfl) (t_M_ofKind hr4) ?_
    cases h
    exact Ev_ret rfl trivial
  refine ib h (fun c6 h => ?_) (fun c6 h => ?_)
  · refine gd h (fun g7 h => ?_)
    refine Ev_blk 4 (pc' := 100) (ls' := [.ref a0, .int a1]) (st' := [.int (sI (setI s a0 0 (nI 0)) (sR s a0 3) (nI 0).toNatClampNeg)]) (s' := setI s a0 0 (nI 0)) rfl ⟨⟨trivial, g1⟩, ⟨Or.inl g7.1, g7.2⟩⟩ ?_
    cases h
    exact Ev_ret rfl trivial
  refine ib h (fun c8 h => ?_) (fun c8 h => ?_)
  · refine Ev_blk 2 (pc' := 105) (ls' := [.ref a0, .int a1]) (st' := [.int (sI (setI s a0 0 (nI 0)) a0 8)]) (s' := setI s a0 0 (nI 0)) rfl ⟨trivial, g1⟩ ?_
    cases h
    exact Ev_ret rfl trivial
  refine ib h (fun c9 h => ?_) (fun c9 h => ?_)
  · refine Ev_blk 2 (pc' := 110) (ls' := [.ref a0, .int a1]) (st' := [.int (sI (setI s a0 0 (nI 0)) a0 12)]) (s' := setI s a0 0 (nI 0)) rfl ⟨trivial, g1⟩ ?_
    cases h
    exact Ev_ret rfl trivial
  refine ib h (fun c10 h => ?_) (fun c10 h => ?_)
  · refine gd h (fun g11 h => ?_)
    refine Ev_blk 4 (pc' := 117) (ls' := [.ref a0, .int a1]) (st' := [.int (sI (setI s a0 0 (nI 0)) (sR s a0 2) (nI 1).toNatClampNeg)]) (s' := setI s a0 0 (nI 0)) rfl ⟨⟨trivial, g1⟩, ⟨Or.inl g11.1, g11.2⟩⟩ ?_
    cases h
    exact Ev_ret rfl trivial
  refine ib h (fun c12 h => ?_) (fun c12 h => ?_)
  · refine gd h (fun g13 h => ?_)
    refine Ev_blk 4 (pc' := 124) (ls' := [.ref a0, .int a1]) (st' := [.int (sI (setI s a0 0 (nI 0)) (sR s a0 2) (nI 2).toNatClampNeg)]) (s' := setI s a0 0 (nI 0)) rfl ⟨⟨trivial, g1⟩, ⟨Or.inl g13.1, g13.2⟩⟩ ?_
    cases h
    exact Ev_ret rfl trivial
  refine ib h (fun c14 h => ?_) (fun c14 h => ?_)
  · refine gd h (fun g15 h => ?_)
    refine Ev_blk 4 (pc' := 131) (ls' := [.ref a0, .int a1]) (st' := [.int (sI (setI s a0 0 (nI 0)) (sR s a0 2) (nI 3).toNatClampNeg)]) (s' := setI s a0 0 (nI 0)) rfl ⟨⟨trivial, g1⟩, ⟨Or.inl g15.1, g15.2⟩⟩ ?_
    cases h
    exact Ev_ret rfl trivial
  refine ib h (fun c16 h => ?_) (fun c16 h => ?_)
  · refine gd h (fun g17 h => ?_)
    refine Ev_blk 4 (pc' := 138) (ls' := [.ref a0, .int a1]) (st' := [.int (sI (setI s a0 0 (nI 0)) (sR s a0 2) (nI 5).toNatClampNeg)]) (s' := setI s a0 0 (nI 0)) rfl ⟨⟨trivial, g1⟩, ⟨Or.inl g17.1, g17.2⟩⟩ ?_
    cases h
    exact Ev_ret rfl trivial
  refine ib h (fun c18 h => ?_) (fun c18 h => ?_)
  · refine gd h (fun g19 h => ?_)
    refine Ev_blk 4 (pc' := 146) (ls' := [.ref a0, .int a1]) (st' := [.int (sI (setI s a0 0 (nI 0)) (sR s a0 2) (nI 6).toNatClampNeg)]) (s' := setI s a0 0 (nI 0)) rfl ⟨⟨trivial, g1⟩, ⟨Or.inl g19.1, g19.2⟩⟩ ?_
    cases h
    exact Ev_ret rfl trivial
  refine ib h (fun c20 h => ?_) (fun c20 h => ?_)
  · refine gd h (fun g21 h => ?_)
    refine Ev_blk 4 (pc' := 153) (ls' := [.ref a0, .int a1]) (st' := [.int (sI (setI s a0 0 (nI 0)) (sR s a0 3) (nI 1).toNatClampNeg)]) (s' := setI s a0 0 (nI 0)) rfl ⟨⟨trivial, g1⟩, ⟨Or.inl g21.1, g21.2⟩⟩ ?_
    cases h
    exact Ev_ret rfl trivial
  refine Ev_blk 4 (pc' := 162) (ls' := [.ref a0, .int a1]) (st' := [.long (lN 15), .long (lN 13), .long a1.toInt64]) (s' := setI s a0 0 (nI 0)) rfl trivial ?_
  refine bd h (fun r5 hr5 h => ?_)
  refine Ev_call 1 145 3 [.long a1.toInt64, .long (lN 13), .long (lN 15)] [] rfl rfl rfl rfl trivial rfl rfl (Nat.le_of_ble_eq_true rfl) (t_M_in hr5) ?_
  refine Ev_blk 1 (pc' := if r5 = (nI 0) then 182 else 168) (ls' := [.ref a0, .int a1]) (st' := []) (s' := setI s a0 0 (nI 0)) rfl trivial ?_
  refine ib h (fun c22 h => ?_) (fun c22 h => ?_)
  · refine Ev_blk 1 (pc' := 183) (ls' := [.ref a0, .int a1]) (st' := [.int (-(nI 1))]) (s' := setI s a0 0 (nI 0)) rfl trivial ?_
    cases h
    exact Ev_ret rfl trivial
  · refine gd h (fun g23 h => ?_)
    refine Ev_blk 9 (pc' := 183) (ls' := [.ref a0, .int a1]) (st' := [.int (sI (setI s a0 0 (nI 0)) (sR s a0 3) (((nI 2) + a1) - (nI 13)).toNatClampNeg)]) (s' := setI s a0 0 (nI 0)) rfl ⟨⟨trivial, g1⟩, ⟨Or.inl g23.1, g23.2⟩⟩ ?_
    cases h
    exact Ev_ret rfl trivial

/-- RecordHeapModel.status()I -/
def f_M_status (s : AS) (a0 : Nat) : Option (Int32 × AS) :=
  if sT s a0 = 13 then
  some (sI (setI s a0 0 (nI 0)) a0 1, setI s a0 0 (nI 0))
  else none
theorem t_M_status {s : AS} {a0 : Nat} {o : Int32 × AS} (h : f_M_status s a0 = some o) : Ev 0 mZ270 0 [.ref a0] [] s (some (.int o.1), o.2) := by
  unfold f_M_status at h
  refine gd h (fun g1 h => ?_)
  refine Ev_blk 5 (pc' := 9) (ls' := [.ref a0]) (st' := [.int (sI (setI s a0 0 (nI 0)) a0 1)]) (s' := setI s a0 0 (nI 0)) rfl ⟨⟨trivial, g1⟩, g1⟩ ?_
  cases h
  exact Ev_ret rfl trivial

