/-- RecordHeap$Row.<init>(I)V -/
def f_Row_init (s : AS) (a0 : Nat) (a1 : Int32) : Option AS :=
  if sX s < 900000 ∧ ¬ (if (nI 0) < a1 then a1 else (nI 0)) < 0 ∧ (if (nI 0) < a1 then a1 else (nI 0)).toNatClampNeg ≤ 100000 then
  if sT (newA s 20 (if (nI 0) < a1 then a1 else (nI 0)).toNatClampNeg) a0 = 9 then
  some (setR (newA s 20 (if (nI 0) < a1 then a1 else (nI 0)).toNatClampNeg) a0 0 (sX s))
  else none
  else none
theorem t_Row_init {s : AS} {a0 : Nat} {a1 : Int32} {o : AS} (h : f_Row_init s a0 a1 = some o) : Ev 0 mZ1 0 [.ref a0, .int a1] [] s (none, o) := by
  unfold f_Row_init at h
  refine gd h (fun g1 h => ?_)
  refine gd h (fun g2 h => ?_)
  refine Ev_blk 8 (pc' := 15) (ls' := [.ref a0, .int a1]) (st' := []) (s' := setR (newA s 20 (if (nI 0) < a1 then a1 else (nI 0)).toNatClampNeg) a0 0 (sX s)) rfl ⟨⟨trivial, g1⟩, g2⟩ ?_
  cases h
  exact Ev_ret rfl trivial

def b_Arrays_fill1_5 (k5 : Nat → Int32 → Int32 → Int32 → AS → Option AS) (v0 : Nat) (v1 : Int32) (v2 : Int32) (v3 : Int32) (s : AS) : Option AS :=
  if v2 < v3 then
    if sT s v0 = 20 ∧ inA v2 (sN s v0) then
    k5 v0 v1 (v2 + nI 1) v3 (setI s v0 v2.toNatClampNeg v1)
    else none
  else
    some s
theorem t_Arrays_fill1_5 {k5 : Nat → Int32 → Int32 → Int32 → AS → Option AS} (H5 : ∀ {v0 : Nat} {v1 : Int32} {v2 : Int32} {v3 : Int32} {s : AS} {o : AS}, k5 v0 v1 v2 v3 s = some o → Ev 0 mZ8 5 [.ref v0, .int v1, .int v2, .int v3] [] s (none, o))  {v0 : Nat} {v1 : Int32} {v2 : Int32} {v3 : Int32} {s : AS} {o : AS} (h : b_Arrays_fill1_5 k5 v0 v1 v2 v3 s = some o) : Ev 0 mZ8 5 [.ref v0, .int v1, .int v2, .int v3] [] s (none, o) := by
  unfold b_Arrays_fill1_5 at h
  refine Ev_blk 3 (pc' := if v2 < v3 then 10 else 20) (ls' := [.ref v0, .int v1, .int v2, .int v3]) (st' := []) (s' := s) rfl trivial ?_
  refine ib h (fun c1 h => ?_) (fun c1 h => ?_)
  · refine gd h (fun g2 h => ?_)
    refine Ev_blk 6 (pc' := 5) (ls' := [.ref v0, .int v1, .int (v2 + nI 1), .int v3]) (st' := []) (s' := setI s v0 v2.toNatClampNeg v1) rfl ⟨trivial, g2⟩ ?_
    exact H5 h
  · cases h
    exact Ev_ret rfl trivial
def l_Arrays_fill1_5  : Nat → Nat → Int32 → Int32 → Int32 → AS → Option AS
  | 0 => fun _ _ _ _ _ => none
  | n + 1 => b_Arrays_fill1_5  (l_Arrays_fill1_5  n)
theorem u_Arrays_fill1_5   {n : Nat} : ∀  {v0 : Nat} {v1 : Int32} {v2 : Int32} {v3 : Int32} {s : AS} {o : AS}, l_Arrays_fill1_5  n v0 v1 v2 v3 s = some o → Ev 0 mZ8 5 [.ref v0, .int v1, .int v2, .int v3] [] s (none, o) := by
  induction n with
  | zero => intros; rename_i h; cases h
  | succ n ih => intros; rename_i h; exact t_Arrays_fill1_5  (fun h => ih h) h
/-- java/util/Arrays.fill([II)V -/
def f_Arrays_fill1 (s : AS) (a0 : Nat) (a1 : Int32) : Option AS :=
  if 20 ≤ sT s a0 then
  l_Arrays_fill1_5 fuel a0 a1 (nI 0) (nI (sN s a0)) s
  else none
theorem t_Arrays_fill1 {s : AS} {a0 : Nat} {a1 : Int32} {o : AS} (h : f_Arrays_fill1 s a0 a1 = some o) : Ev 0 mZ8 0 [.ref a0, .int a1, .retAddr 0, .retAddr 0] [] s (none, o) := by
  unfold f_Arrays_fill1 at h
  refine gd h (fun g1 h => ?_)
  refine Ev_blk 5 (pc' := 5) (ls' := [.ref a0, .int a1, .int (nI 0), .int (nI (sN s a0))]) (st' := []) (s' := s) rfl ⟨trivial, g1⟩ ?_
  exact u_Arrays_fill1_5 h

/-- RecordHeap$Pages.<init>()V -/
def f_Pages_init (s : AS) (a0 : Nat) : Option AS :=
  if sX s < 900000 ∧ ¬ (nI 128) < 0 ∧ (nI 128).toNatClampNeg ≤ 100000 then
  if sT (newA s 20 (nI 128).toNatClampNeg) a0 = 7 then
  if sX (newA s 20 (nI 128).toNatClampNeg) < 900000 ∧ ¬ (nI 128) < 0 ∧ (nI 128).toNatClampNeg ≤ 100000 then
  if sT (newA (setR (newA s 20 (nI 128).toNatClampNeg) a0 0 (sX s)) 20 (nI 128).toNatClampNeg) a0 = 7 then
  if sX (newA (setR (newA s 20 (nI 128).toNatClampNeg) a0 0 (sX s)) 20 (nI 128).toNatClampNeg) < 900000 ∧ ¬ (nI 128) < 0 ∧ (nI 128).toNatClampNeg ≤ 100000 then
  if sT (newA (setR (newA (setR (newA s 20 (nI 128).toNatClampNeg) a0 0 (sX s)) 20 (nI 128).toNatClampNeg) a0 1 (sX (newA s 20 (nI 128).toNatClampNeg))) 20 (nI 128).toNatClampNeg) a0 = 7 then
  if sX (newA (setR (newA (setR (newA s 20 (nI 128).toNatClampNeg) a0 0 (sX s)) 20 (nI 128).toNatClampNeg) a0 1 (sX (newA s 20 (nI 128).toNatClampNeg))) 20 (nI 128).toNatClampNeg) < 900000 ∧ ¬ (nI 8) < 0 ∧ (nI 8).toNatClampNeg ≤ 100000 then
  if sT (newA (setR (newA (setR (newA (setR (newA s 20 (nI 128).toNatClampNeg) a0 0 (sX s)) 20 (nI 128).toNatClampNeg) a0 1 (sX (newA s 20 (nI 128).toNatClampNeg))) 20 (nI 128).toNatClampNeg) a0 2 (sX (newA (setR (newA s 20 (nI 128).toNatClampNeg) a0 0 (sX s)) 20 (nI 128).toNatClampNeg))) 20 (nI 8).toNatClampNeg) a0 = 7 then
  if sX (newA (setR (newA (setR (newA (setR (newA s 20 (nI 128).toNatClampNeg) a0 0 (sX s)) 20 (nI 128).toNatClampNeg) a0 1 (sX (newA s 20 (nI 128).toNatClampNeg))) 20 (nI 128).toNatClampNeg) a0 2 (sX (newA (setR (newA s 20 (nI 128).toNatClampNeg) a0 0 (sX s)) 20 (nI 128).toNatClampNeg))) 20 (nI 8).toNatClampNeg) < 900000 ∧ ¬ (nI 8) < 0 ∧ (nI 8).toNatClampNeg ≤ 100000 then
  if sT (newA (setR (newA (setR (newA (setR (newA (setR (newA s 20 (nI 128).toNatClampNeg) a0 0 (sX s)) 20 (nI 128).toNatClampNeg) a0 1 (sX (newA s 20 (nI 128).toNatClampNeg))) 20 (nI 128).toNatClampNeg) a0 2 (sX (newA (setR (newA s 20 (nI 128).toNatClampNeg) a0 0 (sX s)) 20 (nI 128).toNatClampNeg))) 20 (nI 8).toNatClampNeg) a0 3 (sX (newA (setR (newA (setR (newA s 20 (nI 128).toNatClampNeg) a0 0 (sX s)) 20 (nI 128).toNatClampNeg) a0 1 (sX (newA s 20 (nI 128).toNatClampNeg))) 20 (nI 128).toNatClampNeg))) 20 (nI 8).toNatClampNeg) a0 = 7 then
  if sX (newA (setR (newA (setR (newA (setR (newA (setR (newA s 20 (nI 128).toNatClampNeg) a0 0 (sX s)) 20 (nI 128).toNatClampNeg) a0 1 (sX (newA s 20 (nI 128).toNatClampNeg))) 20 (nI 128).toNatClampNeg) a0 2 (sX (newA (setR (newA s 20 (nI 128).toNatClampNeg) a0 0 (sX s)) 20 (nI 128).toNatClampNeg))) 20 (nI 8).toNatClampNeg) a0 3 (sX (newA (setR (newA (setR (newA s 20 (nI 128).toNatClampNeg) a0 0 (sX s)) 20 (nI 128).toNatClampNeg) a0 1 (sX (newA s 20 (nI 128).toNatClampNeg))) 20 (nI 128).toNatClampNeg))) 20 (nI 8).toNatClampNeg) < 900000 ∧ ¬ (nI 512) < 0 ∧ (nI 512).toNatClampNeg ≤ 100000 then
  if sT (newA (setR (newA (setR (newA (setR (newA (setR (newA (setR (newA s 20 (nI 128).toNatClampNeg) a0 0 (sX s)) 20 (nI 128).toNatClampNeg) a0 1 (sX (newA s 20 (nI 128).toNatClampNeg))) 20 (nI 128).toNatClampNeg) a0 2 (sX (newA (setR (newA s 20 (nI 128).toNatClampNeg) a0 0 (sX s)) 20 (nI 128).toNatClampNeg))) 20 (nI 8).toNatClampNeg) a0 3 (sX (newA (setR (newA (setR (newA s 20 (nI 128).toNatClampNeg) a0 0 (sX s)) 20 (nI 128).toNatClampNeg) a0 1 (sX (newA s 20 (nI 128).toNatClampNeg))) 20 (nI 128).toNatClampNeg))) 20 (nI 8).toNatClampNeg) a0 4 (sX (newA (setR (newA (setR (newA (setR (newA s 20 (nI 128).toNatClampNeg) a0 0 (sX s)) 20 (nI 128).toNatClampNeg) a0 1 (sX (newA s 20 (nI 128).toNatClampNeg))) 20 (nI 128).toNatClampNeg) a0 2 (sX (newA (setR (newA s 20 (nI 128).toNatClampNeg) a0 0 (sX s)) 20 (nI 128).toNatClampNeg))) 20 (nI 8).toNatClampNeg))) 20 (nI 512).toNatClampNeg) a0 = 7 then
  (f_Arrays_fill1 (setR (newA (setR (newA (setR (newA (setR (newA (setR (newA (setR (newA s 20 (nI 128).toNatClampNeg) a0 0 (sX s)) 20 (nI 128).toNatClampNeg) a0 1 (sX (newA s 20 (nI 128).toNatClampNeg))) 20 (nI 128).toNatClampNeg) a0 2 (sX (newA (setR (newA s 20 (nI 128).toNatClampNeg) a0 0 (sX s)) 20 (nI 128).toNatClampNeg))) 20 (nI 8).toNatClampNeg) a0 3 (sX (newA (setR (newA (setR (newA s 20 (nI 128).toNatClampNeg) a0 0 (sX s)) 20 (nI 128).toNatClampNeg) a0 1 (sX (newA s 20 (nI 128).toNatClampNeg))) 20 (nI 128).toNatClampNeg))) 20 (nI 8).toNatClampNeg) a0 4 (sX (newA (setR (newA (setR (newA (setR (newA s 20 (nI 128).toNatClampNeg) a0 0 (sX s)) 20 (nI 128).toNatClampNeg) a0 1 (sX (newA s 20 (nI 128).toNatClampNeg))) 20 (nI 128).toNatClampNeg) a0 2 (sX (newA (setR (newA s 20 (nI 128).toNatClampNeg) a0 0 (sX s)) 20 (nI 128).toNatClampNeg))) 20 (nI 8).toNatClampNeg))) 20 (nI 512).toNatClampNeg) a0 5 (sX (newA (setR (newA (setR (newA (setR (newA (setR (newA s 20 (nI 128).toNatClampNeg) a0 0 (sX s)) 20 (nI 128).toNatClampNeg) a0 1 (sX (newA s 20 (nI 128).toNatClampNeg))) 20 (nI 128).toNatClampNeg) a0 2 (sX (newA (setR (newA s 20 (nI 128).toNatClampNeg) a0 0 (sX s)) 20 (nI 128).toNatClampNeg))) 20 (nI 8).toNatClampNeg) a0 3 (sX (newA (setR (newA (setR (newA s 20 (nI 128).toNatClampNeg) a0 0 (sX s)) 20 (nI 128).toNatClampNeg) a0 1 (sX (newA s 20 (nI 128).toNatClampNeg))) 20 (nI 128).toNatClampNeg))) 20 (nI 8).toNatClampNeg))) (sR (setR (newA (setR (newA (setR (newA (setR (newA (setR (newA (setR (newA s 20 (nI 128).toNatClampNeg) a0 0 (sX s)) 20 (nI 128).toNatClampNeg) a0 1 (sX (newA s 20 (nI 128).toNatClampNeg))) 20 (nI 128).toNatClampNeg) a0 2 (sX (newA (setR (newA s 20 (nI 128).toNatClampNeg) a0 0 (sX s)) 20 (nI 128).toNatClampNeg))) 20 (nI 8).toNatClampNeg) a0 3 (sX (newA (setR (newA (setR (newA s 20 (nI 128).toNatClampNeg) a0 0 (sX s)) 20 (nI 128).toNatClampNeg) a0 1 (sX (newA s 20 (nI 128).toNatClampNeg))) 20 (nI 128).toNatClampNeg))) 20 (nI 8).toNatClampNeg) a0 4 (sX (newA (setR (newA (setR (newA (setR (newA s 20 (nI 128).toNatClampNeg) a0 0 (sX s)) 20 (nI 128).toNatClampNeg) a0 1 (sX (newA s 20 (nI 128).toNatClampNeg))) 20 (nI 128).toNatClampNeg) a0 2 (sX (newA (setR (newA s 20 (nI 128).toNatClampNeg) a0 0 (sX s)) 20 (nI 128).toNatClampNeg))) 20 (nI 8).toNatClampNeg))) 20 (nI 512).toNatClampNeg) a0 5 (sX (newA (setR (newA (setR (newA (setR (newA (setR (newA s 20 (nI 128).toNatClampNeg) a0 0 (sX s)) 20 (nI 128).toNatClampNeg) a0 1 (sX (newA s 20 (nI 128).toNatClampNeg))) 20 (nI 128).toNatClampNeg) a0 2 (sX (newA (setR (newA s 20 (nI 128).toNatClampNeg) a0 0 (sX s)) 20 (nI 128).toNatClampNeg))) 20 (nI 8).toNatClampNeg) a0 3 (sX (newA (setR (newA (setR (newA s 20 (nI 128).toNatClampNeg) a0 0 (sX s)) 20 (nI 128).toNatClampNeg) a0 1 (sX (newA s 20 (nI 128).toNatClampNeg))) 20 (nI 128).toNatClampNeg))) 20 (nI 8).toNatClampNeg))) a0 4) (nI 8)).bind fun r1 =>
  some r1
  else none
  else none
  else none
  else none
  else none
  else none
  else none
  else none
  else none
  else none
  else none
  else none
theorem t_Pages_init {s : AS} {a0 : Nat} {o : AS} (h : f_Pages_init s a0 = some o) : Ev 1 mZ7 0 [.ref a0] [] s (none, o) := by
  unfold f_Pages_init at h
  refine gd h (fun g1 h => ?_)
  refine gd h (fun g2 h => ?_)
  refine gd h (fun g3 h => ?_)
  refine gd h (fun g4 h => ?_)
  refine gd h (fun g5 h => ?_)
  refine gd h (fun g6 h => ?_)
  refine gd h (fun g7 h => ?_)
  refine gd h (fun g8 h => ?_)
  refine gd h (fun g9 h => ?_)
  refine gd h (fun g10 h => ?_)
  refine gd h (fun g11 h => ?_)
  refine gd h (fun g12 h => ?_)
  refine Ev_blk 29 (pc' := 62) (ls' := [.ref a0]) (st' := [.int (nI 8), .ref (sR (setR (newA (setR (newA (setR (newA (setR (newA (setR (newA (setR (newA s 20 (nI 128).toNatClampNeg) a0 0 (sX s)) 20 (nI 128).toNatClampNeg) a0 1 (sX (newA s 20 (nI 128).toNatClampNeg))) 20 (nI 128).toNatClampNeg) a0 2 (sX (newA (setR (newA s 20 (nI 128).toNatClampNeg) a0 0 (sX s)) 20 (nI 128).toNatClampNeg))) 20 (nI 8).toNatClampNeg) a0 3 (sX (newA (setR (newA (setR (newA s 20 (nI 128).toNatClampNeg) a0 0 (sX s)) 20 (nI 128).toNatClampNeg) a0 1 (sX (newA s 20 (nI 128).toNatClampNeg))) 20 (nI 128).toNatClampNeg))) 20 (nI 8).toNatClampNeg) a0 4 (sX (newA (setR (newA (setR (newA (setR (newA s 20 (nI 128).toNatClampNeg) a0 0 (sX s)) 20 (nI 128).toNatClampNeg) a0 1 (sX (newA s 20 (nI 128).toNatClampNeg))) 20 (nI 128).toNatClampNeg) a0 2 (sX (newA (setR (newA s 20 (nI 128).toNatClampNeg) a0 0 (sX s)) 20 (nI 128).toNatClampNeg))) 20 (nI 8).toNatClampNeg))) 20 (nI 512).toNatClampNeg) a0 5 (sX (newA (setR (newA (setR (newA (setR (newA (setR (newA s 20 (nI 128).toNatClampNeg) a0 0 (sX s)) 20 (nI 128).toNatClampNeg) a0 1 (sX (newA s 20 (nI 128).toNatClampNeg))) 20 (nI 128).toNatClampNeg) a0 2 (sX (newA (setR (newA s 20 (nI 128).toNatClampNeg) a0 0 (sX s)) 20 (nI 128).toNatClampNeg))) 20 (nI 8).toNatClampNeg) a0 3 (sX (newA (setR (newA (setR (newA s 20 (nI 128).toNatClampNeg) a0 0 (sX s)) 20 (nI 128).toNatClampNeg) a0 1 (sX (newA s 20 (nI 128).toNatClampNeg))) 20 (nI 128).toNatClampNeg))) 20 (nI 8).toNatClampNeg))) a0 4)]) (s' := setR (newA (setR (newA (setR (newA (setR (newA (setR (newA (setR (newA s 20 (nI 128).toNatClampNeg) a0 0 (sX s)) 20 (nI 128).toNatClampNeg) a0 1 (sX (newA s 20 (nI 128).toNatClampNeg))) 20 (nI 128).toNatClampNeg) a0 2 (sX (newA (setR (newA s 20 (nI 128).toNatClampNeg) a0 0 (sX s)) 20 (nI 128).toNatClampNeg))) 20 (nI 8).toNatClampNeg) a0 3 (sX (newA (setR (newA (setR (newA s 20 (nI 128).toNatClampNeg) a0 0 (sX s)) 20 (nI 128).toNatClampNeg) a0 1 (sX (newA s 20 (nI 128).toNatClampNeg))) 20 (nI 128).toNatClampNeg))) 20 (nI 8).toNatClampNeg) a0 4 (sX (newA (setR (newA (setR (newA (setR (newA s 20 (nI 128).toNatClampNeg) a0 0 (sX s)) 20 (nI 128).toNatClampNeg) a0 1 (sX (newA s 20 (nI 128).toNatClampNeg))) 20 (nI 128).toNatClampNeg) a0 2 (sX (newA (setR (newA s 20 (nI 128).toNatClampNeg) a0 0 (sX s)) 20 (nI 128).toNatClampNeg))) 20 (nI 8).toNatClampNeg))) 20 (nI 512).toNatClampNeg) a0 5 (sX (newA (setR (newA (setR (newA (setR (newA (setR (newA s 20 (nI 128).toNatClampNeg) a0 0 (sX s)) 20 (nI 128).toNatClampNeg) a0 1 (sX (newA s 20 (nI 128).toNatClampNeg))) 20 (nI 128).toNatClampNeg) a0 2 (sX (newA (setR (newA s 20 (nI 128).toNatClampNeg) a0 0 (sX s)) 20 (nI 128).toNatClampNeg))) 20 (nI 8).toNatClampNeg) a0 3 (sX (newA (setR (newA (setR (newA s 20 (nI 128).toNatClampNeg) a0 0 (sX s)) 20 (nI 128).toNatClampNeg) a0 1 (sX (newA s 20 (nI 128).toNatClampNeg))) 20 (nI 128).toNatClampNeg))) 20 (nI 8).toNatClampNeg))) rfl ⟨⟨⟨⟨⟨⟨⟨⟨⟨⟨⟨⟨⟨trivial, g1⟩, g2⟩, g3⟩, g4⟩, g5⟩, g6⟩, g7⟩, g8⟩, g9⟩, g10⟩, g11⟩, g12⟩, g12⟩ ?_
  refine bd h (fun r1 hr1 h => ?_)
  refine Ev_call 1 8 2 [.ref (sR (setR (newA (setR (newA (setR (newA (setR (newA (setR (newA (setR (newA s 20 (nI 128).toNatClampNeg) a0 0 (sX s)) 20 (nI 128).toNatClampNeg) a0 1 (sX (newA s 20 (nI 128).toNatClampNeg))) 20 (nI 128).toNatClampNeg) a0 2 (sX (newA (setR (newA s 20 (nI 128).toNatClampNeg) a0 0 (sX s)) 20 (nI 128).toNatClampNeg))) 20 (nI 8).toNatClampNeg) a0 3 (sX (newA (setR (newA (setR (newA s 20 (nI 128).toNatClampNeg) a0 0 (sX s)) 20 (nI 128).toNatClampNeg) a0 1 (sX (newA s 20 (nI 128).toNatClampNeg))) 20 (nI 128).toNatClampNeg))) 20 (nI 8).toNatClampNeg) a0 4 (sX (newA (setR (newA (setR (newA (setR (newA s 20 (nI 128).toNatClampNeg) a0 0 (sX s)) 20 (nI 128).toNatClampNeg) a0 1 (sX (newA s 20 (nI 128).toNatClampNeg))) 20 (nI 128).toNatClampNeg) a0 2 (sX (newA (setR (newA s 20 (nI 128).toNatClampNeg) a0 0 (sX s)) 20 (nI 128).toNatClampNeg))) 20 (nI 8).toNatClampNeg))) 20 (nI 512).toNatClampNeg) a0 5 (sX (newA (setR (newA (setR (newA (setR (newA (setR (newA s 20 (nI 128).toNatClampNeg) a0 0 (sX s)) 20 (nI 128).toNatClampNeg) a0 1 (sX (newA s 20 (nI 128).toNatClampNeg))) 20 (nI 128).toNatClampNeg) a0 2 (sX (newA (setR (newA s 20 (nI 128).toNatClampNeg) a0 0 (sX s)) 20 (nI 128).toNatClampNeg))) 20 (nI 8).toNatClampNeg) a0 3 (sX (newA (setR (newA (setR (newA s 20 (nI 128).toNatClampNeg) a0 0 (sX s)) 20 (nI 128).toNatClampNeg) a0 1 (sX (newA s 20 (nI 128).toNatClampNeg))) 20 (nI 128).toNatClampNeg))) 20 (nI 8).toNatClampNeg))) a0 4), .int (nI 8)] [] rfl rfl rfl rfl trivial (Nat.le_of_ble_eq_true rfl) (t_Arrays_fill1 hr1) ?_
  cases h
  exact Ev_ret rfl trivial

/-- RecordHeap$Row.add(I)V -/
def f_Row_add (s : AS) (a0 : Nat) (a1 : Int32) : Option AS :=
  if sT s a0 = 9 then
  if 20 ≤ sT s (sR s a0 0) then
  if (sI s a0 1) < (nI (sN s (sR s a0 0))) then
    if sT s (sR s a0 0) = 20 ∧ inA (sI s a0 1) (sN s (sR s a0 0)) then
    some (setI (setI s (sR s a0 0) (sI s a0 1).toNatClampNeg a1) a0 1 ((sI (setI s (sR s a0 0) (sI s a0 1).toNatClampNeg a1) a0 1) + (nI 1)))
    else none
  else
    some s
  else none
  else none
theorem t_Row_add {s : AS} {a0 : Nat} {a1 : Int32} {o : AS} (h : f_Row_add s a0 a1 = some o) : Ev 0 mZ17 0 [.ref a0, .int a1] [] s (none, o) := by
  unfold f_Row_add at h
  refine gd h (fun g1 h => ?_)
  refine gd h (fun g2 h => ?_)
  refine Ev_blk 6 (pc' := if (sI s a0 1) < (nI (sN s (sR s a0 0))) then 12 else 32) (ls' := [.ref a0, .int a1]) (st' := []) (s' := s) rfl ⟨⟨⟨trivial, g1⟩, g1⟩, g2⟩ ?_
  refine ib h (fun c3 h => ?_) (fun c3 h => ?_)
  · refine gd h (fun g4 h => ?_)
    refine Ev_blk 12 (pc' := 32) (ls' := [.ref a0, .int a1]) (st' := []) (s' := setI (setI s (sR s a0 0) (sI s a0 1).toNatClampNeg a1) a0 1 ((sI (setI s (sR s a0 0) (sI s a0 1).toNatClampNeg a1) a0 1) + (nI 1))) rfl ⟨⟨⟨⟨⟨trivial, g1⟩, g1⟩, g4⟩, g1⟩, g1⟩ ?_
    cases h
    exact Ev_ret rfl trivial
  · cases h
    exact Ev_ret rfl trivial

def b_Row_addNumber_3 (k3 : Nat → Int32 → Int32 → AS → Option AS) (v0 : Nat) (v1 : Int32) (v2 : Int32) (s : AS) : Option AS :=
  if v2 < (nI 0) then
    some s
  else
    if sT s v0 = 9 then
    (f_Row_add s v0 ((v1 >>> v2) &&& (nI 255))).bind fun r1 =>
    k3 v0 v1 (v2 + (-(nI 8))) r1
    else none
theorem t_Row_addNumber_3 {k3 : Nat → Int32 → Int32 → AS → Option AS} (H3 : ∀ {v0 : Nat} {v1 : Int32} {v2 : Int32} {s : AS} {o : AS}, k3 v0 v1 v2 s = some o → Ev 1 mZ16 3 [.ref v0, .int v1, .int v2] [] s (none, o))  {v0 : Nat} {v1 : Int32} {v2 : Int32} {s : AS} {o : AS} (h : b_Row_addNumber_3 k3 v0 v1 v2 s = some o) : Ev 1 mZ16 3 [.ref v0, .int v1, .int v2] [] s (none, o) := by
  unfold b_Row_addNumber_3 at h
  refine Ev_blk 2 (pc' := if v2 < (nI 0) then 24 else 7) (ls' := [.ref v0, .int v1, .int v2]) (st' := []) (s' := s) rfl trivial ?_
  refine ib h (fun c1 h => ?_) (fun c1 h => ?_)
  · cases h
    exact Ev_ret rfl trivial
  · refine gd h (fun g2 h => ?_)
    refine Ev_blk 6 (pc' := 15) (ls' := [.ref v0, .int v1, .int v2]) (st' := [.int ((v1 >>> v2) &&& (nI 255)), .ref v0]) (s' := s) rfl trivial ?_
    refine bd h (fun r1 hr1 h => ?_)
    refine Ev_call 2 17 1 [.ref v0, .int ((v1 >>> v2) &&& (nI 255))] [] rfl rfl rfl rfl g2 (Nat.le_of_ble_eq_true rfl) (t_Row_add hr1) ?_
    refine Ev_blk 2 (pc' := 3) (ls' := [.ref v0, .int v1, .int (v2 + (-(nI 8)))]) (st' := []) (s' := r1) rfl trivial ?_
    exact H3 h
def l_Row_addNumber_3  : Nat → Nat → Int32 → Int32 → AS → Option AS
  | 0 => fun _ _ _ _ => none
  | n + 1 => b_Row_addNumber_3  (l_Row_addNumber_3  n)
theorem u_Row_addNumber_3   {n : Nat} : ∀  {v0 : Nat} {v1 : Int32} {v2 : Int32} {s : AS} {o : AS}, l_Row_addNumber_3  n v0 v1 v2 s = some o → Ev 1 mZ16 3 [.ref v0, .int v1, .int v2] [] s (none, o) := by
  induction n with
  | zero => intros; rename_i h; cases h
  | succ n ih => intros; rename_i h; exact t_Row_addNumber_3  (fun h => ih h) h
/-- RecordHeap$Row.addNumber(I)V -/
def f_Row_addNumber (s : AS) (a0 : Nat) (a1 : Int32) : Option AS :=
  l_Row_addNumber_3 fuel a0 a1 (nI 24) s
theorem t_Row_addNumber {s : AS} {a0 : Nat} {a1 : Int32} {o : AS} (h : f_Row_addNumber s a0 a1 = some o) : Ev 1 mZ16 0 [.ref a0, .int a1, .retAddr 0] [] s (none, o) := by
  unfold f_Row_addNumber at h
  refine Ev_blk 2 (pc' := 3) (ls' := [.ref a0, .int a1, .int (nI 24)]) (st' := []) (s' := s) rfl trivial ?_
  exact u_Row_addNumber_3 h

/-- java/util/Arrays.copyOf([II)[I -/
def f_Arrays_copyOf (s : AS) (a0 : Nat) (a1 : Int32) : Option (Nat × AS) :=
  if 20 ≤ sT s a0 then
  if a1 = (nI (sN s a0)) then
    if sT s a0 = 20 ∧ sX s < 900000 ∧ sN s a0 ≤ 100000 then
    if sT (rowI (newA s 20 (sN s a0)) (sX s) (sI s a0)) (sX s) = 20 then
    some (sX s, rowI (newA s 20 (sN s a0)) (sX s) (sI s a0))
    else none
    else none
  else
    if sX s < 900000 ∧ ¬ a1 < 0 ∧ a1.toNatClampNeg ≤ 100000 then
    if 20 ≤ sT (newA s 20 a1.toNatClampNeg) a0 then
    if (sT (newA s 20 a1.toNatClampNeg) a0 = 20 ∧ sT (newA s 20 a1.toNatClampNeg) (sX s) = 20) ∧ (¬ (nI 0) < 0 ∧ ¬ (nI 0) < 0 ∧ ¬ (if a1 < (nI (sN (newA s 20 a1.toNatClampNeg) a0)) then a1 else (nI (sN (newA s 20 a1.toNatClampNeg) a0))) < 0) ∧ (nI 0).toNatClampNeg + (if a1 < (nI (sN (newA s 20 a1.toNatClampNeg) a0)) then a1 else (nI (sN (newA s 20 a1.toNatClampNeg) a0))).toNatClampNeg ≤ sN (newA s 20 a1.toNatClampNeg) a0 ∧ (nI 0).toNatClampNeg + (if a1 < (nI (sN (newA s 20 a1.toNatClampNeg) a0)) then a1 else (nI (sN (newA s 20 a1.toNatClampNeg) a0))).toNatClampNeg ≤ sN (newA s 20 a1.toNatClampNeg) (sX s) then
    some (sX s, rowI (newA s 20 a1.toNatClampNeg) (sX s) (va_cpy (sI (newA s 20 a1.toNatClampNeg) a0) (sI (newA s 20 a1.toNatClampNeg) (sX s)) (nI 0).toNatClampNeg (nI 0).toNatClampNeg (if a1 < (nI (sN (newA s 20 a1.toNatClampNeg) a0)) then a1 else (nI (sN (newA s 20 a1.toNatClampNeg) a0))).toNatClampNeg))
    else none
    else none
    else none
  else none
theorem t_Arrays_copyOf {s : AS} {a0 : Nat} {a1 : Int32} {o : Nat × AS} (h : f_Arrays_copyOf s a0 a1 = some o) : Ev 0 mZ38 0 [.ref a0, .int a1, .retAddr 0] [] s (some (.ref o.1), o.2) := by
  unfold f_Arrays_copyOf at h
  refine gd h (fun g1 h => ?_)
  refine Ev_blk 4 (pc' := if a1 = (nI (sN s a0)) then 6 else 14) (ls' := [.ref a0, .int a1, .retAddr 0]) (st' := []) (s' := s) rfl ⟨trivial, g1⟩ ?_
  refine ib h (fun c2 h => ?_) (fun c2 h => ?_)
  · refine gd h (fun g3 h => ?_)
    refine gd h (fun g4 h => ?_)
    refine Ev_blk 3 (pc' := 13) (ls' := [.ref a0, .int a1, .retAddr 0]) (st' := [.ref (sX s)]) (s' := rowI (newA s 20 (sN s a0)) (sX s) (sI s a0)) rfl ⟨⟨trivial, g3⟩, g4⟩ ?_
    cases h
    exact Ev_ret rfl trivial
  · refine gd h (fun g5 h => ?_)
    refine gd h (fun g6 h => ?_)
    refine gd h (fun g7 h => ?_)
    refine Ev_blk 13 (pc' := 32) (ls' := [.ref a0, .int a1, .ref (sX s)]) (st' := [.ref (sX s)]) (s' := rowI (newA s 20 a1.toNatClampNeg) (sX s) (va_cpy (sI (newA s 20 a1.toNatClampNeg) a0) (sI (newA s 20 a1.toNatClampNeg) (sX s)) (nI 0).toNatClampNeg (nI 0).toNatClampNeg (if a1 < (nI (sN (newA s 20 a1.toNatClampNeg) a0)) then a1 else (nI (sN (newA s 20 a1.toNatClampNeg) a0))).toNatClampNeg)) rfl ⟨⟨⟨trivial, g5⟩, g6⟩, g7⟩ ?_
    cases h
    exact Ev_ret rfl trivial

def b_Pages_freeOf_14 (s : AS) (k14 : Nat → Int32 → Int32 → Int32 → Option Int32) (v0 : Nat) (v1 : Int32) (v2 : Int32) (v3 : Int32) : Option Int32 :=
  if sT s v0 = 7 then
  if sT s (sR s v0 3) = 20 ∧ inA v1 (sN s (sR s v0 3)) then
  if v3 < (sI s (sR s v0 3) v1.toNatClampNeg) then
    if sT s (sR s v0 2) = 20 ∧ inA ((v1 * (nI 16)) + v3) (sN s (sR s v0 2)) then
    k14 v0 v1 (v2 - (sI s (sR s v0 2) ((v1 * (nI 16)) + v3).toNatClampNeg)) (v3 + nI 1)
    else none
  else
    some v2
  else none
  else none
theorem t_Pages_freeOf_14 {s : AS} {k14 : Nat → Int32 → Int32 → Int32 → Option Int32} (H14 : ∀ {v0 : Nat} {v1 : Int32} {v2 : Int32} {v3 : Int32} {o : Int32}, k14 v0 v1 v2 v3 = some o → Ev 0 mZ47 14 [.ref v0, .int v1, .int v2, .int v3] [] s (some (.int o), s))  {v0 : Nat} {v1 : Int32} {v2 : Int32} {v3 : Int32} {o : Int32} (h : b_Pages_freeOf_14 s k14 v0 v1 v2 v3 = some o) : Ev 0 mZ47 14 [.ref v0, .int v1, .int v2, .int v3] [] s (some (.int o), s) := by
  unfold b_Pages_freeOf_14 at h
  refine gd h (fun g1 h => ?_)
  refine gd h (fun g2 h => ?_)
  refine Ev_blk 6 (pc' := if v3 < (sI s (sR s v0 3) v1.toNatClampNeg) then 24 else 44) (ls' := [.ref v0, .int v1, .int v2, .int v3]) (st' := []) (s' := s) rfl ⟨⟨trivial, g1⟩, ⟨Or.inl g2.1, g2.2⟩⟩ ?_
  refine ib h (fun c3 h => ?_) (fun c3 h => ?_)
  · refine gd h (fun g4 h => ?_)
    refine Ev_blk 13 (pc' := 14) (ls' := [.ref v0, .int v1, .int (v2 - (sI s (sR s v0 2) ((v1 * (nI 16)) + v3).toNatClampNeg)), .int (v3 + nI 1)]) (st' := []) (s' := s) rfl ⟨⟨trivial, g1⟩, ⟨Or.inl g4.1, g4.2⟩⟩ ?_
    exact H14 h
  · refine Ev_blk 1 (pc' := 45) (ls' := [.ref v0, .int v1, .int v2, .int v3]) (st' := [.int v2]) (s' := s) rfl trivial ?_
    cases h
    exact Ev_ret rfl trivial
def l_Pages_freeOf_14 (s : AS)  : Nat → Nat → Int32 → Int32 → Int32 → Option Int32
  | 0 => fun _ _ _ _ => none
  | n + 1 => b_Pages_freeOf_14 s  (l_Pages_freeOf_14 s  n)
theorem u_Pages_freeOf_14 {s : AS}   {n : Nat} : ∀  {v0 : Nat} {v1 : Int32} {v2 : Int32} {v3 : Int32} {o : Int32}, l_Pages_freeOf_14 s  n v0 v1 v2 v3 = some o → Ev 0 mZ47 14 [.ref v0, .int v1, .int v2, .int v3] [] s (some (.int o), s) := by
  induction n with
  | zero => intros; rename_i h; cases h
  | succ n ih => intros; rename_i h; exact t_Pages_freeOf_14  (fun h => ih h) h
/-- RecordHeap$Pages.freeOf(I)I -/
def f_Pages_freeOf (s : AS) (a0 : Nat) (a1 : Int32) : Option Int32 :=
  if sT s a0 = 7 then
  if sT s (sR s a0 3) = 20 ∧ inA a1 (sN s (sR s a0 3)) then
  l_Pages_freeOf_14 s fuel a0 a1 ((nI 64) - ((nI 2) * (sI s (sR s a0 3) a1.toNatClampNeg))) (nI 0)
  else none
  else none
theorem t_Pages_freeOf {s : AS} {a0 : Nat} {a1 : Int32} {o : Int32} (h : f_Pages_freeOf s a0 a1 = some o) : Ev 0 mZ47 0 [.ref a0, .int a1, .retAddr 0, .retAddr 0] [] s (some (.int o), s) := by
  unfold f_Pages_freeOf at h
  refine gd h (fun g1 h => ?_)
  refine gd h (fun g2 h => ?_)
  refine Ev_blk 11 (pc' := 14) (ls' := [.ref a0, .int a1, .int ((nI 64) - ((nI 2) * (sI s (sR s a0 3) a1.toNatClampNeg))), .int (nI 0)]) (st' := []) (s' := s) rfl ⟨⟨trivial, g1⟩, ⟨Or.inl g2.1, g2.2⟩⟩ ?_
  exact u_Pages_freeOf_14 h

/-- RecordHeap.isAddress(I)Z -/
def f_C_isAddress (s : AS) (a0 : Int32) : Option Int32 :=
    some (if a0 < (nI 0) then nI 0 else (if a0 < (nI 128) then nI 1 else nI 0))
theorem t_C_isAddress {s : AS} {a0 : Int32} {o : Int32} (h : f_C_isAddress s a0 = some o) : Ev 0 mZ52 0 [.int a0] [] s (some (.int o), s) := by
  unfold f_C_isAddress at h
  refine Ev_blk 2 (pc' := if a0 < (nI 0) then 15 else 4) (ls' := [.int a0]) (st' := []) (s' := s) rfl trivial ?_
  have k1_ : Ev 0 mZ52 16 [.int a0] [.int (if a0 < (nI 0) then nI 0 else (if a0 < (nI 128) then nI 1 else nI 0))] s (some (.int o), s) := by
    cases h
    exact Ev_ret rfl (by (repeat' split) <;> first | exact Or.inl rfl | exact Or.inr rfl)
  refine icases (fun c2 => ?_) (fun c2 => ?_)
  · exact Ev_blk 1 (pc' := 16) (ls' := [.int a0]) (st' := [.int (nI 0)]) (s' := s) rfl trivial (by simpa only [if_pos c2] using k1_)
  · refine Ev_blk 3 (pc' := if a0 < (nI 128) then 11 else 15) (ls' := [.int a0]) (st' := []) (s' := s) rfl trivial ?_
    refine icases (fun c3 => ?_) (fun c3 => ?_)
    · exact Ev_blk 2 (pc' := 16) (ls' := [.int a0]) (st' := [.int (nI 1)]) (s' := s) rfl trivial (by simpa only [if_neg c2, if_pos c3] using k1_)
    · exact Ev_blk 1 (pc' := 16) (ls' := [.int a0]) (st' := [.int (nI 0)]) (s' := s) rfl trivial (by simpa only [if_neg c2, if_neg c3] using k1_)

/-- RecordHeap$Pages.isRecord(I)Z -/
def f_Pages_isRecord (s : AS) (a0 : Nat) (a1 : Int32) : Option Int32 :=
  (f_C_isAddress s a1).bind fun r1 =>
  if r1 = (nI 0) then
    some (nI 0)
  else
    if sT s a0 = 7 then
    if sT s (sR s a0 0) = 20 ∧ inA a1 (sN s (sR s a0 0)) then
      some (if (sI s (sR s a0 0) a1.toNatClampNeg) = (nI 1) then nI 1 else (if (sI s (sR s a0 0) a1.toNatClampNeg) = (nI 2) then nI 1 else (if (sI s (sR s a0 0) a1.toNatClampNeg) = (nI 4) then nI 1 else nI 0)))
    else none
    else none
theorem t_Pages_isRecord {s : AS} {a0 : Nat} {a1 : Int32} {o : Int32} (h : f_Pages_isRecord s a0 a1 = some o) : Ev 1 mZ51 0 [.ref a0, .int a1, .retAddr 0] [] s (some (.int o), s) := by
  unfold f_Pages_isRecord at h
  refine Ev_blk 1 (pc' := 1) (ls' := [.ref a0, .int a1, .retAddr 0]) (st' := [.int a1]) (s' := s) rfl trivial ?_
  refine bd h (fun r1 hr1 h => ?_)
  refine Ev_call 1 52 1 [.int a1] [] rfl rfl rfl rfl trivial (Nat.le_of_ble_eq_true rfl) (t_C_isAddress hr1) ?_
  refine Ev_blk 1 (pc' := if r1 = (nI 0) then 7 else 9) (ls' := [.ref a0, .int a1, .retAddr 0]) (st' := []) (s' := s) rfl trivial ?_
  refine ib h (fun c1 h => ?_) (fun c1 h => ?_)
  · refine Ev_blk 1 (pc' := 8) (ls' := [.ref a0, .int a1, .retAddr 0]) (st' := [.int (nI 0)]) (s' := s) rfl trivial ?_
    cases h
    exact Ev_ret rfl (Or.inl rfl)
  · refine gd h (fun g2 h => ?_)
    refine gd h (fun g3 h => ?_)
    refine Ev_blk 8 (pc' := if (sI s (sR s a0 0) a1.toNatClampNeg) = (nI 1) then 31 else 21) (ls' := [.ref a0, .int a1, .int (sI s (sR s a0 0) a1.toNatClampNeg)]) (st' := []) (s' := s) rfl ⟨⟨trivial, g2⟩, ⟨Or.inl g3.1, g3.2⟩⟩ ?_
    have k4_ : Ev 1 mZ51 36 [.ref a0, .int a1, .int (sI s (sR s a0 0) a1.toNatClampNeg)] [.int (if (sI s (sR s a0 0) a1.toNatClampNeg) = (nI 1) then nI 1 else (if (sI s (sR s a0 0) a1.toNatClampNeg) = (nI 2) then nI 1 else (if (sI s (sR s a0 0) a1.toNatClampNeg) = (nI 4) then nI 1 else nI 0)))] s (some (.int o), s) := by
      cases h
      exact Ev_ret rfl (by (repeat' split) <;> first | exact Or.inl rfl | exact Or.inr rfl)
    refine icases (fun c5 => ?_) (fun c5 => ?_)
    · exact Ev_blk 2 (pc' := 36) (ls' := [.ref a0, .int a1, .int (sI s (sR s a0 0) a1.toNatClampNeg)]) (st' := [.int (nI 1)]) (s' := s) rfl trivial (by simpa only [if_pos c5] using k4_)
    · refine Ev_blk 3 (pc' := if (sI s (sR s a0 0) a1.toNatClampNeg) = (nI 2) then 31 else 26) (ls' := [.ref a0, .int a1, .int (sI s (sR s a0 0) a1.toNatClampNeg)]) (st' := []) (s' := s) rfl trivial ?_
      refine icases (fun c6 => ?_) (fun c6 => ?_)
      · exact Ev_blk 2 (pc' := 36) (ls' := [.ref a0, .int a1, .int (sI s (sR s a0 0) a1.toNatClampNeg)]) (st' := [.int (nI 1)]) (s' := s) rfl trivial (by simpa only [if_neg c5, if_pos c6] using k4_)
      · refine Ev_blk 3 (pc' := if (sI s (sR s a0 0) a1.toNatClampNeg) = (nI 4) then 31 else 35) (ls' := [.ref a0, .int a1, .int (sI s (sR s a0 0) a1.toNatClampNeg)]) (st' := []) (s' := s) rfl trivial ?_
        refine icases (fun c7 => ?_) (fun c7 => ?_)
        · exact Ev_blk 2 (pc' := 36) (ls' := [.ref a0, .int a1, .int (sI s (sR s a0 0) a1.toNatClampNeg)]) (st' := [.int (nI 1)]) (s' := s) rfl trivial (by simpa only [if_neg c5, if_neg c6, if_pos c7] using k4_)
        · exact Ev_blk 1 (pc' := 36) (ls' := [.ref a0, .int a1, .int (sI s (sR s a0 0) a1.toNatClampNeg)]) (st' := [.int (nI 0)]) (s' := s) rfl trivial (by simpa only [if_neg c5, if_neg c6, if_neg c7] using k4_)

/-- RecordHeap.isPage(I)Z -/
def f_C_isPage (s : AS) (a0 : Int32) : Option Int32 :=
    some (if a0 < (nI 0) then nI 0 else (if a0 < (nI 8) then nI 1 else nI 0))
theorem t_C_isPage {s : AS} {a0 : Int32} {o : Int32} (h : f_C_isPage s a0 = some o) : Ev 0 mZ53 0 [.int a0] [] s (some (.int o), s) := by
  unfold f_C_isPage at h
  refine Ev_blk 2 (pc' := if a0 < (nI 0) then 14 else 4) (ls' := [.int a0]) (st' := []) (s' := s) rfl trivial ?_
  have k1_ : Ev 0 mZ53 15 [.int a0] [.int (if a0 < (nI 0) then nI 0 else (if a0 < (nI 8) then nI 1 else nI 0))] s (some (.int o), s) := by
    cases h
    exact Ev_ret rfl (by (repeat' split) <;> first | exact Or.inl rfl | exact Or.inr rfl)
  refine icases (fun c2 => ?_) (fun c2 => ?_)
  · exact Ev_blk 1 (pc' := 15) (ls' := [.int a0]) (st' := [.int (nI 0)]) (s' := s) rfl trivial (by simpa only [if_pos c2] using k1_)
  · refine Ev_blk 3 (pc' := if a0 < (nI 8) then 10 else 14) (ls' := [.int a0]) (st' := []) (s' := s) rfl trivial ?_
    refine icases (fun c3 => ?_) (fun c3 => ?_)
    · exact Ev_blk 2 (pc' := 15) (ls' := [.int a0]) (st' := [.int (nI 1)]) (s' := s) rfl trivial (by simpa only [if_neg c2, if_pos c3] using k1_)
    · exact Ev_blk 1 (pc' := 15) (ls' := [.int a0]) (st' := [.int (nI 0)]) (s' := s) rfl trivial (by simpa only [if_neg c2, if_neg c3] using k1_)

def b_Pages_lowestOf_5 (s : AS) (k5 : Nat → Int32 → Int32 → Int32 → Option Int32) (v0 : Nat) (v1 : Int32) (v2 : Int32) (v3 : Int32) : Option Int32 :=
  if sT s v0 = 7 then
  if sT s (sR s v0 3) = 20 ∧ inA v1 (sN s (sR s v0 3)) then
  if v3 < (sI s (sR s v0 3) v1.toNatClampNeg) then
    if sT s (sR s v0 0) = 20 ∧ inA ((v1 * (nI 16)) + v3) (sN s (sR s v0 0)) then
    if (sI s (sR s v0 0) ((v1 * (nI 16)) + v3).toNatClampNeg) = (nI 0) then
      k5 v0 v1 v2 (v3 + nI 1)
    else
      if sT s (sR s v0 1) = 20 ∧ inA ((v1 * (nI 16)) + v3) (sN s (sR s v0 1)) then
      k5 v0 v1 (if (sI s (sR s v0 1) ((v1 * (nI 16)) + v3).toNatClampNeg) < v2 then (sI s (sR s v0 1) ((v1 * (nI 16)) + v3).toNatClampNeg) else v2) (v3 + nI 1)
      else none
    else none
  else
    some v2
  else none
  else none
theorem t_Pages_lowestOf_5 {s : AS} {k5 : Nat → Int32 → Int32 → Int32 → Option Int32} (H5 : ∀ {d4 : Value} {v0 : Nat} {v1 : Int32} {v2 : Int32} {v3 : Int32} {o : Int32}, k5 v0 v1 v2 v3 = some o → Ev 0 mZ67 5 [.ref v0, .int v1, .int v2, .int v3, d4] [] s (some (.int o), s)) {d4 : Value} {v0 : Nat} {v1 : Int32} {v2 : Int32} {v3 : Int32} {o : Int32} (h : b_Pages_lowestOf_5 s k5 v0 v1 v2 v3 = some o) : Ev 0 mZ67 5 [.ref v0, .int v1, .int v2, .int v3, d4] [] s (some (.int o), s) := by
  unfold b_Pages_lowestOf_5 at h
  refine gd h (fun g1 h => ?_)
  refine gd h (fun g2 h => ?_)
  refine Ev_blk 6 (pc' := if v3 < (sI s (sR s v0 3) v1.toNatClampNeg) then 15 else 51) (ls' := [.ref v0, .int v1, .int v2, .int v3, d4]) (st' := []) (s' := s) rfl ⟨⟨trivial, g1⟩, ⟨Or.inl g2.1, g2.2⟩⟩ ?_
  refine ib h (fun c3 h => ?_) (fun c3 h => ?_)
  · refine gd h (fun g4 h => ?_)
    refine Ev_blk 11 (pc' := if (sI s (sR s v0 0) ((v1 * (nI 16)) + v3).toNatClampNeg) = (nI 0) then 45 else 33) (ls' := [.ref v0, .int v1, .int v2, .int v3, .int ((v1 * (nI 16)) + v3)]) (st' := []) (s' := s) rfl ⟨⟨trivial, g1⟩, ⟨Or.inl g4.1, g4.2⟩⟩ ?_
    refine ib h (fun c5 h => ?_) (fun c5 h => ?_)
    · refine Ev_blk 2 (pc' := 5) (ls' := [.ref v0, .int v1, .int v2, .int (v3 + nI 1), .int ((v1 * (nI 16)) + v3)]) (st' := []) (s' := s) rfl trivial ?_
      exact H5 h
    · refine gd h (fun g6 h => ?_)
      refine Ev_blk 9 (pc' := 5) (ls' := [.ref v0, .int v1, .int (if (sI s (sR s v0 1) ((v1 * (nI 16)) + v3).toNatClampNeg) < v2 then (sI s (sR s v0 1) ((v1 * (nI 16)) + v3).toNatClampNeg) else v2), .int (v3 + nI 1), .int ((v1 * (nI 16)) + v3)]) (st' := []) (s' := s) rfl ⟨⟨trivial, g1⟩, ⟨Or.inl g6.1, g6.2⟩⟩ ?_
      exact H5 h
  · refine Ev_blk 1 (pc' := 52) (ls' := [.ref v0, .int v1, .int v2, .int v3, d4]) (st' := [.int v2]) (s' := s) rfl trivial ?_
    cases h
    exact Ev_ret rfl trivial
def l_Pages_lowestOf_5 (s : AS)  : Nat → Nat → Int32 → Int32 → Int32 → Option Int32
  | 0 => fun _ _ _ _ => none
  | n + 1 => b_Pages_lowestOf_5 s  (l_Pages_lowestOf_5 s  n)
theorem u_Pages_lowestOf_5 {s : AS}   {n : Nat} : ∀ {d4 : Value} {v0 : Nat} {v1 : Int32} {v2 : Int32} {v3 : Int32} {o : Int32}, l_Pages_lowestOf_5 s  n v0 v1 v2 v3 = some o → Ev 0 mZ67 5 [.ref v0, .int v1, .int v2, .int v3, d4] [] s (some (.int o), s) := by
  induction n with
  | zero => intros; rename_i h; cases h
  | succ n ih => intros; rename_i h; exact t_Pages_lowestOf_5  (fun h => ih h) h
/-- RecordHeap$Pages.lowestOf(I)I -/
def f_Pages_lowestOf (s : AS) (a0 : Nat) (a1 : Int32) : Option Int32 :=
  l_Pages_lowestOf_5 s fuel a0 a1 (nI 64) (nI 0)
theorem t_Pages_lowestOf {s : AS} {a0 : Nat} {a1 : Int32} {o : Int32} (h : f_Pages_lowestOf s a0 a1 = some o) : Ev 0 mZ67 0 [.ref a0, .int a1, .retAddr 0, .retAddr 0, .retAddr 0] [] s (some (.int o), s) := by
  unfold f_Pages_lowestOf at h
  refine Ev_blk 4 (pc' := 5) (ls' := [.ref a0, .int a1, .int (nI 64), .int (nI 0), .retAddr 0]) (st' := []) (s' := s) rfl trivial ?_
  exact u_Pages_lowestOf_5 h

/-- RecordHeap$Pages.gapOf(I)I -/
def f_Pages_gapOf (s : AS) (a0 : Nat) (a1 : Int32) : Option Int32 :=
  if sT s a0 = 7 then
  (f_Pages_lowestOf s a0 a1).bind fun r1 =>
  if sT s (sR s a0 3) = 20 ∧ inA a1 (sN s (sR s a0 3)) then
  some (r1 - ((nI 2) * (sI s (sR s a0 3) a1.toNatClampNeg)))
  else none
  else none
theorem t_Pages_gapOf {s : AS} {a0 : Nat} {a1 : Int32} {o : Int32} (h : f_Pages_gapOf s a0 a1 = some o) : Ev 1 mZ66 0 [.ref a0, .int a1] [] s (some (.int o), s) := by
  unfold f_Pages_gapOf at h
  refine gd h (fun g1 h => ?_)
  refine Ev_blk 2 (pc' := 2) (ls' := [.ref a0, .int a1]) (st' := [.int a1, .ref a0]) (s' := s) rfl trivial ?_
  refine bd h (fun r1 hr1 h => ?_)
  refine Ev_call 2 67 1 [.ref a0, .int a1] [] rfl rfl rfl rfl g1 (Nat.le_of_ble_eq_true rfl) (t_Pages_lowestOf hr1) ?_
  refine gd h (fun g2 h => ?_)
  refine Ev_blk 7 (pc' := 14) (ls' := [.ref a0, .int a1]) (st' := [.int (r1 - ((nI 2) * (sI s (sR s a0 3) a1.toNatClampNeg)))]) (s' := s) rfl ⟨⟨trivial, g1⟩, ⟨Or.inl g2.1, g2.2⟩⟩ ?_
  cases h
  exact Ev_ret rfl trivial

/-- java/lang/Integer.bitCount(I)I -/
def f_Integer_bitCount (s : AS) (a0 : Int32) : Option Int32 :=
  some ((((((((a0 - (((a0.toUInt32 >>> ((nI 1).toUInt32 &&& Int32.toUInt32 31)).toInt32) &&& (nI 1431655765))) &&& (nI 858993459)) + ((((a0 - (((a0.toUInt32 >>> ((nI 1).toUInt32 &&& Int32.toUInt32 31)).toInt32) &&& (nI 1431655765))).toUInt32 >>> ((nI 2).toUInt32 &&& Int32.toUInt32 31)).toInt32) &&& (nI 858993459))) + (((((a0 - (((a0.toUInt32 >>> ((nI 1).toUInt32 &&& Int32.toUInt32 31)).toInt32) &&& (nI 1431655765))) &&& (nI 858993459)) + ((((a0 - (((a0.toUInt32 >>> ((nI 1).toUInt32 &&& Int32.toUInt32 31)).toInt32) &&& (nI 1431655765))).toUInt32 >>> ((nI 2).toUInt32 &&& Int32.toUInt32 31)).toInt32) &&& (nI 858993459))).toUInt32 >>> ((nI 4).toUInt32 &&& Int32.toUInt32 31)).toInt32)) &&& (nI 252645135)) + (((((((a0 - (((a0.toUInt32 >>> ((nI 1).toUInt32 &&& Int32.toUInt32 31)).toInt32) &&& (nI 1431655765))) &&& (nI 858993459)) + ((((a0 - (((a0.toUInt32 >>> ((nI 1).toUInt32 &&& Int32.toUInt32 31)).toInt32) &&& (nI 1431655765))).toUInt32 >>> ((nI 2).toUInt32 &&& Int32.toUInt32 31)).toInt32) &&& (nI 858993459))) + (((((a0 - (((a0.toUInt32 >>> ((nI 1).toUInt32 &&& Int32.toUInt32 31)).toInt32) &&& (nI 1431655765))) &&& (nI 858993459)) + ((((a0 - (((a0.toUInt32 >>> ((nI 1).toUInt32 &&& Int32.toUInt32 31)).toInt32) &&& (nI 1431655765))).toUInt32 >>> ((nI 2).toUInt32 &&& Int32.toUInt32 31)).toInt32) &&& (nI 858993459))).toUInt32 >>> ((nI 4).toUInt32 &&& Int32.toUInt32 31)).toInt32)) &&& (nI 252645135)).toUInt32 >>> ((nI 8).toUInt32 &&& Int32.toUInt32 31)).toInt32)) + ((((((((a0 - (((a0.toUInt32 >>> ((nI 1).toUInt32 &&& Int32.toUInt32 31)).toInt32) &&& (nI 1431655765))) &&& (nI 858993459)) + ((((a0 - (((a0.toUInt32 >>> ((nI 1).toUInt32 &&& Int32.toUInt32 31)).toInt32) &&& (nI 1431655765))).toUInt32 >>> ((nI 2).toUInt32 &&& Int32.toUInt32 31)).toInt32) &&& (nI 858993459))) + (((((a0 - (((a0.toUInt32 >>> ((nI 1).toUInt32 &&& Int32.toUInt32 31)).toInt32) &&& (nI 1431655765))) &&& (nI 858993459)) + ((((a0 - (((a0.toUInt32 >>> ((nI 1).toUInt32 &&& Int32.toUInt32 31)).toInt32) &&& (nI 1431655765))).toUInt32 >>> ((nI 2).toUInt32 &&& Int32.toUInt32 31)).toInt32) &&& (nI 858993459))).toUInt32 >>> ((nI 4).toUInt32 &&& Int32.toUInt32 31)).toInt32)) &&& (nI 252645135)) + (((((((a0 - (((a0.toUInt32 >>> ((nI 1).toUInt32 &&& Int32.toUInt32 31)).toInt32) &&& (nI 1431655765))) &&& (nI 858993459)) + ((((a0 - (((a0.toUInt32 >>> ((nI 1).toUInt32 &&& Int32.toUInt32 31)).toInt32) &&& (nI 1431655765))).toUInt32 >>> ((nI 2).toUInt32 &&& Int32.toUInt32 31)).toInt32) &&& (nI 858993459))) + (((((a0 - (((a0.toUInt32 >>> ((nI 1).toUInt32 &&& Int32.toUInt32 31)).toInt32) &&& (nI 1431655765))) &&& (nI 858993459)) + ((((a0 - (((a0.toUInt32 >>> ((nI 1).toUInt32 &&& Int32.toUInt32 31)).toInt32) &&& (nI 1431655765))).toUInt32 >>> ((nI 2).toUInt32 &&& Int32.toUInt32 31)).toInt32) &&& (nI 858993459))).toUInt32 >>> ((nI 4).toUInt32 &&& Int32.toUInt32 31)).toInt32)) &&& (nI 252645135)).toUInt32 >>> ((nI 8).toUInt32 &&& Int32.toUInt32 31)).toInt32)).toUInt32 >>> ((nI 16).toUInt32 &&& Int32.toUInt32 31)).toInt32)) &&& (nI 63))
theorem t_Integer_bitCount {s : AS} {a0 : Int32} {o : Int32} (h : f_Integer_bitCount s a0 = some o) : Ev 0 mZ112 0 [.int a0] [] s (some (.int o), s) := by
  unfold f_Integer_bitCount at h
  refine Ev_blk 41 (pc' := 52) (ls' := [.int (((((((a0 - (((a0.toUInt32 >>> ((nI 1).toUInt32 &&& Int32.toUInt32 31)).toInt32) &&& (nI 1431655765))) &&& (nI 858993459)) + ((((a0 - (((a0.toUInt32 >>> ((nI 1).toUInt32 &&& Int32.toUInt32 31)).toInt32) &&& (nI 1431655765))).toUInt32 >>> ((nI 2).toUInt32 &&& Int32.toUInt32 31)).toInt32) &&& (nI 858993459))) + (((((a0 - (((a0.toUInt32 >>> ((nI 1).toUInt32 &&& Int32.toUInt32 31)).toInt32) &&& (nI 1431655765))) &&& (nI 858993459)) + ((((a0 - (((a0.toUInt32 >>> ((nI 1).toUInt32 &&& Int32.toUInt32 31)).toInt32) &&& (nI 1431655765))).toUInt32 >>> ((nI 2).toUInt32 &&& Int32.toUInt32 31)).toInt32) &&& (nI 858993459))).toUInt32 >>> ((nI 4).toUInt32 &&& Int32.toUInt32 31)).toInt32)) &&& (nI 252645135)) + (((((((a0 - (((a0.toUInt32 >>> ((nI 1).toUInt32 &&& Int32.toUInt32 31)).toInt32) &&& (nI 1431655765))) &&& (nI 858993459)) + ((((a0 - (((a0.toUInt32 >>> ((nI 1).toUInt32 &&& Int32.toUInt32 31)).toInt32) &&& (nI 1431655765))).toUInt32 >>> ((nI 2).toUInt32 &&& Int32.toUInt32 31)).toInt32) &&& (nI 858993459))) + (((((a0 - (((a0.toUInt32 >>> ((nI 1).toUInt32 &&& Int32.toUInt32 31)).toInt32) &&& (nI 1431655765))) &&& (nI 858993459)) + ((((a0 - (((a0.toUInt32 >>> ((nI 1).toUInt32 &&& Int32.toUInt32 31)).toInt32) &&& (nI 1431655765))).toUInt32 >>> ((nI 2).toUInt32 &&& Int32.toUInt32 31)).toInt32) &&& (nI 858993459))).toUInt32 >>> ((nI 4).toUInt32 &&& Int32.toUInt32 31)).toInt32)) &&& (nI 252645135)).toUInt32 >>> ((nI 8).toUInt32 &&& Int32.toUInt32 31)).toInt32)) + ((((((((a0 - (((a0.toUInt32 >>> ((nI 1).toUInt32 &&& Int32.toUInt32 31)).toInt32) &&& (nI 1431655765))) &&& (nI 858993459)) + ((((a0 - (((a0.toUInt32 >>> ((nI 1).toUInt32 &&& Int32.toUInt32 31)).toInt32) &&& (nI 1431655765))).toUInt32 >>> ((nI 2).toUInt32 &&& Int32.toUInt32 31)).toInt32) &&& (nI 858993459))) + (((((a0 - (((a0.toUInt32 >>> ((nI 1).toUInt32 &&& Int32.toUInt32 31)).toInt32) &&& (nI 1431655765))) &&& (nI 858993459)) + ((((a0 - (((a0.toUInt32 >>> ((nI 1).toUInt32 &&& Int32.toUInt32 31)).toInt32) &&& (nI 1431655765))).toUInt32 >>> ((nI 2).toUInt32 &&& Int32.toUInt32 31)).toInt32) &&& (nI 858993459))).toUInt32 >>> ((nI 4).toUInt32 &&& Int32.toUInt32 31)).toInt32)) &&& (nI 252645135)) + (((((((a0 - (((a0.toUInt32 >>> ((nI 1).toUInt32 &&& Int32.toUInt32 31)).toInt32) &&& (nI 1431655765))) &&& (nI 858993459)) + ((((a0 - (((a0.toUInt32 >>> ((nI 1).toUInt32 &&& Int32.toUInt32 31)).toInt32) &&& (nI 1431655765))).toUInt32 >>> ((nI 2).toUInt32 &&& Int32.toUInt32 31)).toInt32) &&& (nI 858993459))) + (((((a0 - (((a0.toUInt32 >>> ((nI 1).toUInt32 &&& Int32.toUInt32 31)).toInt32) &&& (nI 1431655765))) &&& (nI 858993459)) + ((((a0 - (((a0.toUInt32 >>> ((nI 1).toUInt32 &&& Int32.toUInt32 31)).toInt32) &&& (nI 1431655765))).toUInt32 >>> ((nI 2).toUInt32 &&& Int32.toUInt32 31)).toInt32) &&& (nI 858993459))).toUInt32 >>> ((nI 4).toUInt32 &&& Int32.toUInt32 31)).toInt32)) &&& (nI 252645135)).toUInt32 >>> ((nI 8).toUInt32 &&& Int32.toUInt32 31)).toInt32)).toUInt32 >>> ((nI 16).toUInt32 &&& Int32.toUInt32 31)).toInt32))]) (st' := [.int ((((((((a0 - (((a0.toUInt32 >>> ((nI 1).toUInt32 &&& Int32.toUInt32 31)).toInt32) &&& (nI 1431655765))) &&& (nI 858993459)) + ((((a0 - (((a0.toUInt32 >>> ((nI 1).toUInt32 &&& Int32.toUInt32 31)).toInt32) &&& (nI 1431655765))).toUInt32 >>> ((nI 2).toUInt32 &&& Int32.toUInt32 31)).toInt32) &&& (nI 858993459))) + (((((a0 - (((a0.toUInt32 >>> ((nI 1).toUInt32 &&& Int32.toUInt32 31)).toInt32) &&& (nI 1431655765))) &&& (nI 858993459)) + ((((a0 - (((a0.toUInt32 >>> ((nI 1).toUInt32 &&& Int32.toUInt32 31)).toInt32) &&& (nI 1431655765))).toUInt32 >>> ((nI 2).toUInt32 &&& Int32.toUInt32 31)).toInt32) &&& (nI 858993459))).toUInt32 >>> ((nI 4).toUInt32 &&& Int32.toUInt32 31)).toInt32)) &&& (nI 252645135)) + (((((((a0 - (((a0.toUInt32 >>> ((nI 1).toUInt32 &&& Int32.toUInt32 31)).toInt32) &&& (nI 1431655765))) &&& (nI 858993459)) + ((((a0 - (((a0.toUInt32 >>> ((nI 1).toUInt32 &&& Int32.toUInt32 31)).toInt32) &&& (nI 1431655765))).toUInt32 >>> ((nI 2).toUInt32 &&& Int32.toUInt32 31)).toInt32) &&& (nI 858993459))) + (((((a0 - (((a0.toUInt32 >>> ((nI 1).toUInt32 &&& Int32.toUInt32 31)).toInt32) &&& (nI 1431655765))) &&& (nI 858993459)) + ((((a0 - (((a0.toUInt32 >>> ((nI 1).toUInt32 &&& Int32.toUInt32 31)).toInt32) &&& (nI 1431655765))).toUInt32 >>> ((nI 2).toUInt32 &&& Int32.toUInt32 31)).toInt32) &&& (nI 858993459))).toUInt32 >>> ((nI 4).toUInt32 &&& Int32.toUInt32 31)).toInt32)) &&& (nI 252645135)).toUInt32 >>> ((nI 8).toUInt32 &&& Int32.toUInt32 31)).toInt32)) + ((((((((a0 - (((a0.toUInt32 >>> ((nI 1).toUInt32 &&& Int32.toUInt32 31)).toInt32) &&& (nI 1431655765))) &&& (nI 858993459)) + ((((a0 - (((a0.toUInt32 >>> ((nI 1).toUInt32 &&& Int32.toUInt32 31)).toInt32) &&& (nI 1431655765))).toUInt32 >>> ((nI 2).toUInt32 &&& Int32.toUInt32 31)).toInt32) &&& (nI 858993459))) + (((((a0 - (((a0.toUInt32 >>> ((nI 1).toUInt32 &&& Int32.toUInt32 31)).toInt32) &&& (nI 1431655765))) &&& (nI 858993459)) + ((((a0 - (((a0.toUInt32 >>> ((nI 1).toUInt32 &&& Int32.toUInt32 31)).toInt32) &&& (nI 1431655765))).toUInt32 >>> ((nI 2).toUInt32 &&& Int32.toUInt32 31)).toInt32) &&& (nI 858993459))).toUInt32 >>> ((nI 4).toUInt32 &&& Int32.toUInt32 31)).toInt32)) &&& (nI 252645135)) + (((((((a0 - (((a0.toUInt32 >>> ((nI 1).toUInt32 &&& Int32.toUInt32 31)).toInt32) &&& (nI 1431655765))) &&& (nI 858993459)) + ((((a0 - (((a0.toUInt32 >>> ((nI 1).toUInt32 &&& Int32.toUInt32 31)).toInt32) &&& (nI 1431655765))).toUInt32 >>> ((nI 2).toUInt32 &&& Int32.toUInt32 31)).toInt32) &&& (nI 858993459))) + (((((a0 - (((a0.toUInt32 >>> ((nI 1).toUInt32 &&& Int32.toUInt32 31)).toInt32) &&& (nI 1431655765))) &&& (nI 858993459)) + ((((a0 - (((a0.toUInt32 >>> ((nI 1).toUInt32 &&& Int32.toUInt32 31)).toInt32) &&& (nI 1431655765))).toUInt32 >>> ((nI 2).toUInt32 &&& Int32.toUInt32 31)).toInt32) &&& (nI 858993459))).toUInt32 >>> ((nI 4).toUInt32 &&& Int32.toUInt32 31)).toInt32)) &&& (nI 252645135)).toUInt32 >>> ((nI 8).toUInt32 &&& Int32.toUInt32 31)).toInt32)).toUInt32 >>> ((nI 16).toUInt32 &&& Int32.toUInt32 31)).toInt32)) &&& (nI 63))]) (s' := s) rfl trivial ?_
  cases h
  exact Ev_ret rfl trivial

def b_Arrays_fill2_6 (k6 : Nat → Int64 → Int32 → Int32 → AS → Option AS) (v0 : Nat) (v1 : Int64) (v3 : Int32) (v4 : Int32) (s : AS) : Option AS :=
  if v3 < v4 then
    if sT s v0 = 21 ∧ inA v3 (sN s v0) then
    k6 v0 v1 (v3 + nI 1) v4 (setJ s v0 v3.toNatClampNeg v1)
    else none
  else
    some s
theorem t_Arrays_fill2_6 {k6 : Nat → Int64 → Int32 → Int32 → AS → Option AS} (H6 : ∀ {d2 : Value} {v0 : Nat} {v1 : Int64} {v3 : Int32} {v4 : Int32} {s : AS} {o : AS}, k6 v0 v1 v3 v4 s = some o → Ev 0 mZ122 6 [.ref v0, .long v1, d2, .int v3, .int v4] [] s (none, o)) {d2 : Value} {v0 : Nat} {v1 : Int64} {v3 : Int32} {v4 : Int32} {s : AS} {o : AS} (h : b_Arrays_fill2_6 k6 v0 v1 v3 v4 s = some o) : Ev 0 mZ122 6 [.ref v0, .long v1, d2, .int v3, .int v4] [] s (none, o) := by
  unfold b_Arrays_fill2_6 at h
  refine Ev_blk 3 (pc' := if v3 < v4 then 12 else 22) (ls' := [.ref v0, .long v1, d2, .int v3, .int v4]) (st' := []) (s' := s) rfl trivial ?_
  refine ib h (fun c1 h => ?_) (fun c1 h => ?_)
  · refine gd h (fun g2 h => ?_)
    refine Ev_blk 6 (pc' := 6) (ls' := [.ref v0, .long v1, (clrV d2), .int (v3 + nI 1), .int v4]) (st' := []) (s' := setJ s v0 v3.toNatClampNeg v1) rfl ⟨trivial, g2⟩ ?_
    exact H6 h
  · cases h
    exact Ev_ret rfl trivial
def l_Arrays_fill2_6  : Nat → Nat → Int64 → Int32 → Int32 → AS → Option AS
  | 0 => fun _ _ _ _ _ => none
  | n + 1 => b_Arrays_fill2_6  (l_Arrays_fill2_6  n)
theorem u_Arrays_fill2_6   {n : Nat} : ∀ {d2 : Value} {v0 : Nat} {v1 : Int64} {v3 : Int32} {v4 : Int32} {s : AS} {o : AS}, l_Arrays_fill2_6  n v0 v1 v3 v4 s = some o → Ev 0 mZ122 6 [.ref v0, .long v1, d2, .int v3, .int v4] [] s (none, o) := by
  induction n with
  | zero => intros; rename_i h; cases h
  | succ n ih => intros; rename_i h; exact t_Arrays_fill2_6  (fun h => ih h) h
/-- java/util/Arrays.fill([JJ)V -/
def f_Arrays_fill2 (s : AS) (a0 : Nat) (a1 : Int64) : Option AS :=
  if 20 ≤ sT s a0 then
  l_Arrays_fill2_6 fuel a0 a1 (nI 0) (nI (sN s a0)) s
  else none
theorem t_Arrays_fill2 {s : AS} {a0 : Nat} {a1 : Int64} {o : AS} (h : f_Arrays_fill2 s a0 a1 = some o) : Ev 0 mZ122 0 [.ref a0, .long a1, .retAddr 0, .retAddr 0, .retAddr 0] [] s (none, o) := by
  unfold f_Arrays_fill2 at h
  refine gd h (fun g1 h => ?_)
  refine Ev_blk 5 (pc' := 6) (ls' := [.ref a0, .long a1, .retAddr 0, .int (nI 0), .int (nI (sN s a0))]) (st' := []) (s' := s) rfl ⟨trivial, g1⟩ ?_
  exact u_Arrays_fill2_6 h

def b_M_reckon_104  (v0 : Nat) (v2 : Int64) (v4 : Int64) (w0 : Int32) (w1 : Nat) (s : AS) : Option (Int64 × AS) :=
  if sT s w1 = 13 ∧ (w0 = nI 0 ∨ w0 = nI 1) then
  if sT s v0 = 13 then
  if (sI (setI s w1 37 w0) v0 37) = (nI 0) then
    if ¬ v4 = lN 0 then
    some (v2 - v2 / v4 * v4, setI s w1 37 w0)
    else none
  else
    some (lN 0, setI s w1 37 w0)
  else none
  else none
theorem t_M_reckon_104   {d1 d3 d5 : Value} {v0 : Nat} {v2 : Int64} {v4 : Int64} {w0 : Int32} {w1 : Nat} {s : AS} {o : Int64 × AS} (h : b_M_reckon_104  v0 v2 v4 w0 w1 s = some o) : Ev 0 mZ197 104 [.ref v0, d1, .long v2, d3, .long v4, d5] [.int w0, .ref w1] s (some (.long o.1), o.2) := by
  unfold b_M_reckon_104 at h
  refine gd h (fun g1 h => ?_)
  refine gd h (fun g2 h => ?_)
  refine Ev_blk 4 (pc' := if (sI (setI s w1 37 w0) v0 37) = (nI 0) then 118 else 114) (ls' := [.ref v0, d1, .long v2, d3, .long v4, d5]) (st' := []) (s' := setI s w1 37 w0) rfl ⟨⟨trivial, g1⟩, g2⟩ ?_
  refine ib h (fun c3 h => ?_) (fun c3 h => ?_)
  · refine gd h (fun g4 h => ?_)
    refine Ev_blk 3 (pc' := 122) (ls' := [.ref v0, d1, .long v2, d3, .long v4, d5]) (st' := [.long (v2 - v2 / v4 * v4)]) (s' := setI s w1 37 w0) rfl ⟨trivial, g4⟩ ?_
    cases h
    exact Ev_ret rfl trivial
  · refine Ev_blk 2 (pc' := 122) (ls' := [.ref v0, d1, .long v2, d3, .long v4, d5]) (st' := [.long (lN 0)]) (s' := setI s w1 37 w0) rfl trivial ?_
    cases h
    exact Ev_ret rfl trivial
def b_M_reckon_72  (v0 : Nat) (v2 : Int64) (v4 : Int64) (w0 : Int32) (w1 : Nat) (s : AS) : Option (Int64 × AS) :=
  if sT s w1 = 13 ∧ (w0 = nI 0 ∨ w0 = nI 1) then
  if sT s v0 = 13 then
  if (sI (setI s w1 37 w0) v0 37) = (nI 0) then
    if ¬ v4 = lN 0 then
    some (v2 / v4, setI s w1 37 w0)
    else none
  else
    some (lN 0, setI s w1 37 w0)
  else none
  else none
theorem t_M_reckon_72   {d1 d3 d5 : Value} {v0 : Nat} {v2 : Int64} {v4 : Int64} {w0 : Int32} {w1 : Nat} {s : AS} {o : Int64 × AS} (h : b_M_reckon_72  v0 v2 v4 w0 w1 s = some o) : Ev 0 mZ197 72 [.ref v0, d1, .long v2, d3, .long v4, d5] [.int w0, .ref w1] s (some (.long o.1), o.2) := by
  unfold b_M_reckon_72 at h
  refine gd h (fun g1 h => ?_)
  refine gd h (fun g2 h => ?_)
  refine Ev_blk 4 (pc' := if (sI (setI s w1 37 w0) v0 37) = (nI 0) then 86 else 82) (ls' := [.ref v0, d1, .long v2, d3, .long v4, d5]) (st' := []) (s' := setI s w1 37 w0) rfl ⟨⟨trivial, g1⟩, g2⟩ ?_
  refine ib h (fun c3 h => ?_) (fun c3 h => ?_)
  · refine gd h (fun g4 h => ?_)
    refine Ev_blk 3 (pc' := 90) (ls' := [.ref v0, d1, .long v2, d3, .long v4, d5]) (st' := [.long (v2 / v4)]) (s' := setI s w1 37 w0) rfl ⟨trivial, g4⟩ ?_
    cases h
    exact Ev_ret rfl trivial
  · refine Ev_blk 2 (pc' := 90) (ls' := [.ref v0, d1, .long v2, d3, .long v4, d5]) (st' := [.long (lN 0)]) (s' := setI s w1 37 w0) rfl trivial ?_
    cases h
    exact Ev_ret rfl trivial
/-- RecordHeapModel.reckon(IJJ)J -/
def f_M_reckon (s : AS) (a0 : Nat) (a1 : Int32) (a2 : Int64) (a3 : Int64) : Option (Int64 × AS) :=
  if a1 = nI 20 then
    some (a2 + a3, s)
  else
  if a1 = nI 21 then
    some (a2 - a3, s)
  else
  if a1 = nI 22 then
    some (a2 * a3, s)
  else
  if a1 = nI 23 then
      b_M_reckon_72 a0 a2 a3 (if (lg_cmp a3 (lN 0)) = (nI 0) then nI 1 else nI 0) a0 s
  else
  if a1 = nI 24 then
      b_M_reckon_104 a0 a2 a3 (if (lg_cmp a3 (lN 0)) = (nI 0) then nI 1 else nI 0) a0 s
  else
  if a1 = nI 25 then
      some ((if (lg_cmp a2 a3) < (nI 0) then lN 1 else lN 0), s)
  else
  if a1 = nI 26 then
      some ((if (nI 0) < (lg_cmp a2 a3) then lN 1 else lN 0), s)
  else
    some ((if (lg_cmp a2 a3) = (nI 0) then lN 1 else lN 0), s)
theorem t_M_reckon {s : AS} {a0 : Nat} {a1 : Int32} {a2 : Int64} {a3 : Int64} {o : Int64 × AS} (h : f_M_reckon s a0 a1 a2 a3 = some o) : Ev 0 mZ197 0 [.ref a0, .int a1, .long a2, .retAddr 0, .long a3, .retAddr 0] [] s (some (.long o.1), o.2) := by
  unfold f_M_reckon at h
  refine Ev_blk 2 (pc' := if a1 = nI 20 then 44 else if a1 = nI 21 then 49 else if a1 = nI 22 then 54 else if a1 = nI 23 then 59 else if a1 = nI 24 then 91 else if a1 = nI 25 then 123 else if a1 = nI 26 then 136 else 149) (ls' := [.ref a0, .int a1, .long a2, .retAddr 0, .long a3, .retAddr 0]) (st' := []) (s' := s) rfl trivial ?_
  refine ib h (fun c1 h => ?_) (fun c1 h => ?_)
  · refine Ev_blk 3 (pc' := 48) (ls' := [.ref a0, .int a1, .long a2, .retAddr 0, .long a3, .retAddr 0]) (st' := [.long (a2 + a3)]) (s' := s) rfl trivial ?_
    cases h
    exact Ev_ret rfl trivial
  refine ib h (fun c2 h => ?_) (fun c2 h => ?_)
  · refine Ev_blk 3 (pc' := 53) (ls' := [.ref a0, .int a1, .long a2, .retAddr 0, .long a3, .retAddr 0]) (st' := [.long (a2 - a3)]) (s' := s) rfl trivial ?_
    cases h
    exact Ev_ret rfl trivial
  refine ib h (fun c3 h => ?_) (fun c3 h => ?_)
  · refine Ev_blk 3 (pc' := 58) (ls' := [.ref a0, .int a1, .long a2, .retAddr 0, .long a3, .retAddr 0]) (st' := [.long (a2 * a3)]) (s' := s) rfl trivial ?_
    cases h
    exact Ev_ret rfl trivial
  refine ib h (fun c4 h => ?_) (fun c4 h => ?_)
  · refine Ev_blk 5 (pc' := if (lg_cmp a3 (lN 0)) = (nI 0) then 67 else 71) (ls' := [.ref a0, .int a1, .long a2, .retAddr 0, .long a3, .retAddr 0]) (st' := [.ref a0]) (s' := s) rfl trivial ?_
    have k5_ : Ev 0 mZ197 72 [.ref a0, .int a1, .long a2, .retAddr 0, .long a3, .retAddr 0] [.int (if (lg_cmp a3 (lN 0)) = (nI 0) then nI 1 else nI 0), .ref a0] s (some (.long o.1), o.2) := by
      exact t_M_reckon_72 h
    refine icases (fun c6 => ?_) (fun c6 => ?_)
    · exact Ev_blk 2 (pc' := 72) (ls' := [.ref a0, .int a1, .long a2, .retAddr 0, .long a3, .retAddr 0]) (st' := [.int (nI 1), .ref a0]) (s' := s) rfl trivial (by simpa only [if_pos c6] using k5_)
    · exact Ev_blk 1 (pc' := 72) (ls' := [.ref a0, .int a1, .long a2, .retAddr 0, .long a3, .retAddr 0]) (st' := [.int (nI 0), .ref a0]) (s' := s) rfl trivial (by simpa only [if_neg c6] using k5_)
  refine ib h (fun c7 h => ?_) (fun c7 h => ?_)
  · refine Ev_blk 5 (pc' := if (lg_cmp a3 (lN 0)) = (nI 0) then 99 else 103) (ls' := [.ref a0, .int a1, .long a2, .retAddr 0, .long a3, .retAddr 0]) (st' := [.ref a0]) (s' := s) rfl trivial ?_
    have k8_ : Ev 0 mZ197 104 [.ref a0, .int a1, .long a2, .retAddr 0, .long a3, .retAddr 0] [.int (if (lg_cmp a3 (lN 0)) = (nI 0) then nI 1 else nI 0), .ref a0] s (some (.long o.1), o.2) := by
      exact t_M_reckon_104 h
    refine icases (fun c9 => ?_) (fun c9 => ?_)
    · exact Ev_blk 2 (pc' := 104) (ls' := [.ref a0, .int a1, .long a2, .retAddr 0, .long a3, .retAddr 0]) (st' := [.int (nI 1), .ref a0]) (s' := s) rfl trivial (by simpa only [if_pos c9] using k8_)
    · exact Ev_blk 1 (pc' := 104) (ls' := [.ref a0, .int a1, .long a2, .retAddr 0, .long a3, .retAddr 0]) (st' := [.int (nI 0), .ref a0]) (s' := s) rfl trivial (by simpa only [if_neg c9] using k8_)
  refine ib h (fun c10 h => ?_) (fun c10 h => ?_)
  · refine Ev_blk 4 (pc' := if (lg_cmp a2 a3) < (nI 0) then 130 else 134) (ls' := [.ref a0, .int a1, .long a2, .retAddr 0, .long a3, .retAddr 0]) (st' := []) (s' := s) rfl trivial ?_
    have k11_ : Ev 0 mZ197 135 [.ref a0, .int a1, .long a2, .retAddr 0, .long a3, .retAddr 0] [.long (if (lg_cmp a2 a3) < (nI 0) then lN 1 else lN 0)] s (some (.long o.1), o.2) := by
      cases h
      exact Ev_ret rfl trivial
    refine icases (fun c12 => ?_) (fun c12 => ?_)
    · exact Ev_blk 2 (pc' := 135) (ls' := [.ref a0, .int a1, .long a2, .retAddr 0, .long a3, .retAddr 0]) (st' := [.long (lN 1)]) (s' := s) rfl trivial (by simpa only [if_pos c12] using k11_)
    · exact Ev_blk 1 (pc' := 135) (ls' := [.ref a0, .int a1, .long a2, .retAddr 0, .long a3, .retAddr 0]) (st' := [.long (lN 0)]) (s' := s) rfl trivial (by simpa only [if_neg c12] using k11_)
  refine ib h (fun c13 h => ?_) (fun c13 h => ?_)
  · refine Ev_blk 4 (pc' := if (nI 0) < (lg_cmp a2 a3) then 143 else 147) (ls' := [.ref a0, .int a1, .long a2, .retAddr 0, .long a3, .retAddr 0]) (st' := []) (s' := s) rfl trivial ?_
    have k14_ : Ev 0 mZ197 148 [.ref a0, .int a1, .long a2, .retAddr 0, .long a3, .retAddr 0] [.long (if (nI 0) < (lg_cmp a2 a3) then lN 1 else lN 0)] s (some (.long o.1), o.2) := by
      cases h
      exact Ev_ret rfl trivial
    refine icases (fun c15 => ?_) (fun c15 => ?_)
    · exact Ev_blk 2 (pc' := 148) (ls' := [.ref a0, .int a1, .long a2, .retAddr 0, .long a3, .retAddr 0]) (st' := [.long (lN 1)]) (s' := s) rfl trivial (by simpa only [if_pos c15] using k14_)
    · exact Ev_blk 1 (pc' := 148) (ls' := [.ref a0, .int a1, .long a2, .retAddr 0, .long a3, .retAddr 0]) (st' := [.long (lN 0)]) (s' := s) rfl trivial (by simpa only [if_neg c15] using k14_)
  refine Ev_blk 4 (pc' := if (lg_cmp a2 a3) = (nI 0) then 156 else 160) (ls' := [.ref a0, .int a1, .long a2, .retAddr 0, .long a3, .retAddr 0]) (st' := []) (s' := s) rfl trivial ?_
  have k16_ : Ev 0 mZ197 161 [.ref a0, .int a1, .long a2, .retAddr 0, .long a3, .retAddr 0] [.long (if (lg_cmp a2 a3) = (nI 0) then lN 1 else lN 0)] s (some (.long o.1), o.2) := by
    cases h
    exact Ev_ret rfl trivial
  refine icases (fun c17 => ?_) (fun c17 => ?_)
  · exact Ev_blk 2 (pc' := 161) (ls' := [.ref a0, .int a1, .long a2, .retAddr 0, .long a3, .retAddr 0]) (st' := [.long (lN 1)]) (s' := s) rfl trivial (by simpa only [if_pos c17] using k16_)
  · exact Ev_blk 1 (pc' := 161) (ls' := [.ref a0, .int a1, .long a2, .retAddr 0, .long a3, .retAddr 0]) (st' := [.long (lN 0)]) (s' := s) rfl trivial (by simpa only [if_neg c17] using k16_)

