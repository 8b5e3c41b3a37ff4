/-! ONE STEP, whatever it is -/
def PZ (X : MC) (g : GE) (E : AS) (nL pc : Nat) (ls st : List Value) (s : AS) (XO ZO : Nat) (y : Prop × Cf) : Prop :=
  y.1 → (sX y.2.2.2.2 ≤ XO ∧ sZ y.2.2.2.2 ≤ ZO) → AtZ X g E nL y.2.1 y.2.2.1 y.2.2.2.1 y.2.2.2.2 → AtZ X g E nL pc ls st s
abbrev AcZ (X : MC) : Prop := (Cond.arrayClass .int).before (xa X) (xs X) = true ∧ (Cond.arrayClass .long).before (xa X) (xs X) = true ∧ (Cond.arrayClass .boolean).before (xa X) (xs X) = true
abbrev K0 : Prop → Nat → List Value → List Value → AS → Prop × Cf := fun g pc ls st s => (g, (pc, ls, st, s))
theorem bdc {a b c d : Nat} (h : a ≤ b) (h2 : b - c ≤ d) : a - c ≤ d := by omega
section SIM7
variable {X : MC} {g : GE} {M : MI} {cc : ByteArray} {E : AS} {pc len : Nat} {ls st : List Value} {s : AS} {XO ZO : Nat}
theorem PZ.bad : PZ X g E M.2.2.1 pc ls st s XO ZO badC := fun h => h.elim
theorem PZ.k {G : Prop} {pc' : Nat} {ls' st' : List Value} {s' : AS} (h : G → AtZ X g E M.2.2.1 pc' ls' st' s' → AtZ X g E M.2.2.1 pc ls st s) : PZ X g E M.2.2.1 pc ls st s XO ZO (G, (pc', ls', st', s')) := fun h1 _ h3 => h h1 h3
theorem PZ.kb {G : Prop} {pc' : Nat} {ls' st' : List Value} {s' : AS} (h : G → (sX s' ≤ XO ∧ sZ s' ≤ ZO) → AtZ X g E M.2.2.1 pc' ls' st' s' → AtZ X g E M.2.2.1 pc ls st s) : PZ X g E M.2.2.1 pc ls st s XO ZO (G, (pc', ls', st', s')) := h
theorem p_aload_n (C : CtxZ X g M cc) {j : Fin 4} (hM : M.1 pc = some (.aload_n j, len)) : PZ X g E M.2.2.1 pc ls st s XO ZO (stepI M True pc ls st s K0 badC (.aload_n j)) := by
  show PZ X g E M.2.2.1 pc ls st s XO ZO (match getV ls j.val with | .ref x => (True, (pc + 1, ls, .ref x :: st, s)) | _ => badC)
  split
  · rename_i x hv
    exact PZ.k (fun _ k => z_aload_n C hM hv k)
  · exact PZ.bad
theorem p_aload (C : CtxZ X g M cc) {j : Nat} (hM : M.1 pc = some (.aload j, len)) : PZ X g E M.2.2.1 pc ls st s XO ZO (stepI M True pc ls st s K0 badC (.aload j)) := by
  show PZ X g E M.2.2.1 pc ls st s XO ZO (match getV ls j with | .ref x => (True, (pc + 2, ls, .ref x :: st, s)) | _ => badC)
  split
  · rename_i x hv
    exact PZ.k (fun _ k => z_aload C hM hv k)
  · exact PZ.bad
theorem p_iload_n (C : CtxZ X g M cc) {j : Fin 4} (hM : M.1 pc = some (.iload_n j, len)) : PZ X g E M.2.2.1 pc ls st s XO ZO (stepI M True pc ls st s K0 badC (.iload_n j)) := by
  show PZ X g E M.2.2.1 pc ls st s XO ZO (match getV ls j.val with | .int x => (True, (pc + 1, ls, .int x :: st, s)) | _ => badC)
  split
  · rename_i x hv
    exact PZ.k (fun _ k => z_iload_n C hM hv k)
  · exact PZ.bad
theorem p_iload (C : CtxZ X g M cc) {j : Nat} (hM : M.1 pc = some (.iload j, len)) : PZ X g E M.2.2.1 pc ls st s XO ZO (stepI M True pc ls st s K0 badC (.iload j)) := by
  show PZ X g E M.2.2.1 pc ls st s XO ZO (match getV ls j with | .int x => (True, (pc + 2, ls, .int x :: st, s)) | _ => badC)
  split
  · rename_i x hv
    exact PZ.k (fun _ k => z_iload C hM hv k)
  · exact PZ.bad
theorem p_lload_n (C : CtxZ X g M cc) {j : Fin 4} (hM : M.1 pc = some (.lload_n j, len)) : PZ X g E M.2.2.1 pc ls st s XO ZO (stepI M True pc ls st s K0 badC (.lload_n j)) := by
  show PZ X g E M.2.2.1 pc ls st s XO ZO (match getV ls j.val with | .long x => (True, (pc + 1, ls, .long x :: st, s)) | _ => badC)
  split
  · rename_i x hv
    exact PZ.k (fun _ k => z_lload_n C hM hv k)
  · exact PZ.bad
theorem p_lload (C : CtxZ X g M cc) {j : Nat} (hM : M.1 pc = some (.lload j, len)) : PZ X g E M.2.2.1 pc ls st s XO ZO (stepI M True pc ls st s K0 badC (.lload j)) := by
  show PZ X g E M.2.2.1 pc ls st s XO ZO (match getV ls j with | .long x => (True, (pc + 2, ls, .long x :: st, s)) | _ => badC)
  split
  · rename_i x hv
    exact PZ.k (fun _ k => z_lload C hM hv k)
  · exact PZ.bad
theorem p_astore_n (C : CtxZ X g M cc) {j : Fin 4} (hM : M.1 pc = some (.astore_n j, len)) : PZ X g E M.2.2.1 pc ls st s XO ZO (stepI M True pc ls st s K0 badC (.astore_n j)) := by
  show PZ X g E M.2.2.1 pc ls st s XO ZO (match (generalizing := false) st with | .ref x :: r => bif Nat.ble (j.val + 1) ls.length then (True, (pc + 1, setV ls j.val (.ref x), r, s)) else badC | _ => badC)
  split
  · cases hb : Nat.ble (j.val + 1) ls.length with
    | true => exact PZ.k (fun _ k => z_astore_n C hM (Nat.le_of_ble_eq_true hb) k)
    | false => exact PZ.bad
  · exact PZ.bad
theorem p_astore (C : CtxZ X g M cc) {j : Nat} (hM : M.1 pc = some (.astore j, len)) : PZ X g E M.2.2.1 pc ls st s XO ZO (stepI M True pc ls st s K0 badC (.astore j)) := by
  show PZ X g E M.2.2.1 pc ls st s XO ZO (match (generalizing := false) st with | .ref x :: r => bif Nat.ble (j + 1) ls.length then (True, (pc + 2, setV ls j (.ref x), r, s)) else badC | _ => badC)
  split
  · cases hb : Nat.ble (j + 1) ls.length with
    | true => exact PZ.k (fun _ k => z_astore C hM (Nat.le_of_ble_eq_true hb) k)
    | false => exact PZ.bad
  · exact PZ.bad
theorem p_istore_n (C : CtxZ X g M cc) {j : Fin 4} (hM : M.1 pc = some (.istore_n j, len)) : PZ X g E M.2.2.1 pc ls st s XO ZO (stepI M True pc ls st s K0 badC (.istore_n j)) := by
  show PZ X g E M.2.2.1 pc ls st s XO ZO (match (generalizing := false) st with | .int x :: r => bif Nat.ble (j.val + 1) ls.length then (True, (pc + 1, setV ls j.val (.int x), r, s)) else badC | _ => badC)
  split
  · cases hb : Nat.ble (j.val + 1) ls.length with
    | true => exact PZ.k (fun _ k => z_istore_n C hM (Nat.le_of_ble_eq_true hb) k)
    | false => exact PZ.bad
  · exact PZ.bad
theorem p_istore (C : CtxZ X g M cc) {j : Nat} (hM : M.1 pc = some (.istore j, len)) : PZ X g E M.2.2.1 pc ls st s XO ZO (stepI M True pc ls st s K0 badC (.istore j)) := by
  show PZ X g E M.2.2.1 pc ls st s XO ZO (match (generalizing := false) st with | .int x :: r => bif Nat.ble (j + 1) ls.length then (True, (pc + 2, setV ls j (.int x), r, s)) else badC | _ => badC)
  split
  · cases hb : Nat.ble (j + 1) ls.length with
    | true => exact PZ.k (fun _ k => z_istore C hM (Nat.le_of_ble_eq_true hb) k)
    | false => exact PZ.bad
  · exact PZ.bad
theorem p_lstore_n (C : CtxZ X g M cc) {j : Fin 4} (hM : M.1 pc = some (.lstore_n j, len)) : PZ X g E M.2.2.1 pc ls st s XO ZO (stepI M True pc ls st s K0 badC (.lstore_n j)) := by
  show PZ X g E M.2.2.1 pc ls st s XO ZO (match (generalizing := false) st with | .long x :: r => bif Nat.ble (j.val + 2) ls.length then (True, (pc + 1, setW ls j.val (.long x), r, s)) else badC | _ => badC)
  split
  · cases hb : Nat.ble (j.val + 2) ls.length with
    | true => exact PZ.k (fun _ k => z_lstore_n C hM (Nat.le_of_ble_eq_true hb) k)
    | false => exact PZ.bad
  · exact PZ.bad
theorem p_lstore (C : CtxZ X g M cc) {j : Nat} (hM : M.1 pc = some (.lstore j, len)) : PZ X g E M.2.2.1 pc ls st s XO ZO (stepI M True pc ls st s K0 badC (.lstore j)) := by
  show PZ X g E M.2.2.1 pc ls st s XO ZO (match (generalizing := false) st with | .long x :: r => bif Nat.ble (j + 2) ls.length then (True, (pc + 2, setW ls j (.long x), r, s)) else badC | _ => badC)
  split
  · cases hb : Nat.ble (j + 2) ls.length with
    | true => exact PZ.k (fun _ k => z_lstore C hM (Nat.le_of_ble_eq_true hb) k)
    | false => exact PZ.bad
  · exact PZ.bad
theorem p_iinc (C : CtxZ X g M cc) {j : Nat} {n : Int} (hM : M.1 pc = some (.iinc j n, len)) : PZ X g E M.2.2.1 pc ls st s XO ZO (stepI M True pc ls st s K0 badC (.iinc j n)) := by
  show PZ X g E M.2.2.1 pc ls st s XO ZO (match getV ls j with | .int x => (True, (pc + 3, setV ls j (.int (x + ci32 n)), st, s)) | _ => badC)
  split
  · rename_i x hv
    exact PZ.k (fun _ k => z_iinc C hM hv k)
  · exact PZ.bad
theorem p_iconst (C : CtxZ X g M cc) {n : Int} (hM : M.1 pc = some (.iconst n, len)) : PZ X g E M.2.2.1 pc ls st s XO ZO (stepI M True pc ls st s K0 badC (.iconst n)) := by
  exact PZ.k (fun _ k => z_iconst C hM k)
theorem p_bipush (C : CtxZ X g M cc) {n : Int} (hM : M.1 pc = some (.bipush n, len)) : PZ X g E M.2.2.1 pc ls st s XO ZO (stepI M True pc ls st s K0 badC (.bipush n)) := by
  exact PZ.k (fun _ k => z_bipush C hM k)
theorem p_sipush (C : CtxZ X g M cc) {n : Int} (hM : M.1 pc = some (.sipush n, len)) : PZ X g E M.2.2.1 pc ls st s XO ZO (stepI M True pc ls st s K0 badC (.sipush n)) := by
  exact PZ.k (fun _ k => z_sipush C hM k)
theorem p_lconst (C : CtxZ X g M cc) {n : Fin 2} (hM : M.1 pc = some (.lconst n, len)) : PZ X g E M.2.2.1 pc ls st s XO ZO (stepI M True pc ls st s K0 badC (.lconst n)) := by
  exact PZ.k (fun _ k => z_lconst C hM k)
theorem p_null (C : CtxZ X g M cc) (hM : M.1 pc = some (.aconst_null, len)) : PZ X g E M.2.2.1 pc ls st s XO ZO (stepI M True pc ls st s K0 badC (.aconst_null)) := by
  exact PZ.k (fun _ k => z_null C hM k)
theorem p_ldc (C : CtxZ X g M cc) {n : Nat} (hM : M.1 pc = some (.ldc n, len)) : PZ X g E M.2.2.1 pc ls st s XO ZO (stepI M True pc ls st s K0 badC (.ldc n)) := by
  show PZ X g E M.2.2.1 pc ls st s XO ZO (match lkS M.2.1 n with | some x => (True, (pc + 2, ls, .ref (strB + x) :: st, s)) | none => match lkI M.2.1 n with | some x => (True, (pc + 2, ls, .int x :: st, s)) | none => badC)
  split
  · rename_i x hx
    exact PZ.k (fun _ k => z_ldcS C hM hx k)
  · split
    · rename_i x hx
      exact PZ.k (fun _ k => z_ldcI C hM hx k)
    · exact PZ.bad
theorem p_ldc_w (C : CtxZ X g M cc) {n : Nat} (hM : M.1 pc = some (.ldc_w n, len)) : PZ X g E M.2.2.1 pc ls st s XO ZO (stepI M True pc ls st s K0 badC (.ldc_w n)) := by
  show PZ X g E M.2.2.1 pc ls st s XO ZO (match lkI M.2.1 n with | some x => (True, (pc + 3, ls, .int x :: st, s)) | none => badC)
  split
  · rename_i x hx
    exact PZ.k (fun _ k => z_ldcw C hM hx k)
  · exact PZ.bad
theorem p_ldc2_w (C : CtxZ X g M cc) {n : Nat} (hM : M.1 pc = some (.ldc2_w n, len)) : PZ X g E M.2.2.1 pc ls st s XO ZO (stepI M True pc ls st s K0 badC (.ldc2_w n)) := by
  show PZ X g E M.2.2.1 pc ls st s XO ZO (match lkL M.2.1 n with | some x => (True, (pc + 3, ls, .long x :: st, s)) | none => badC)
  split
  · rename_i x hx
    exact PZ.k (fun _ k => z_ldc2 C hM hx k)
  · exact PZ.bad
theorem p_iadd (C : CtxZ X g M cc) (hM : M.1 pc = some (.iadd, len)) : PZ X g E M.2.2.1 pc ls st s XO ZO (stepI M True pc ls st s K0 badC (.iadd)) := by
  show PZ X g E M.2.2.1 pc ls st s XO ZO (match (generalizing := false) st with | .int y :: .int x :: r => (True, (pc + 1, ls, .int (x + y) :: r, s)) | _ => badC)
  split
  · exact PZ.k (fun h k => z_iadd C hM k)
  · exact PZ.bad
theorem p_isub (C : CtxZ X g M cc) (hM : M.1 pc = some (.isub, len)) : PZ X g E M.2.2.1 pc ls st s XO ZO (stepI M True pc ls st s K0 badC (.isub)) := by
  show PZ X g E M.2.2.1 pc ls st s XO ZO (match (generalizing := false) st with | .int y :: .int x :: r => (True, (pc + 1, ls, .int (x - y) :: r, s)) | _ => badC)
  split
  · exact PZ.k (fun h k => z_isub C hM k)
  · exact PZ.bad
theorem p_imul (C : CtxZ X g M cc) (hM : M.1 pc = some (.imul, len)) : PZ X g E M.2.2.1 pc ls st s XO ZO (stepI M True pc ls st s K0 badC (.imul)) := by
  show PZ X g E M.2.2.1 pc ls st s XO ZO (match (generalizing := false) st with | .int y :: .int x :: r => (True, (pc + 1, ls, .int (x * y) :: r, s)) | _ => badC)
  split
  · exact PZ.k (fun h k => z_imul C hM k)
  · exact PZ.bad
theorem p_iand (C : CtxZ X g M cc) (hM : M.1 pc = some (.iand, len)) : PZ X g E M.2.2.1 pc ls st s XO ZO (stepI M True pc ls st s K0 badC (.iand)) := by
  show PZ X g E M.2.2.1 pc ls st s XO ZO (match (generalizing := false) st with | .int y :: .int x :: r => (True, (pc + 1, ls, .int (x &&& y) :: r, s)) | _ => badC)
  split
  · exact PZ.k (fun h k => z_iand C hM k)
  · exact PZ.bad
theorem p_ior (C : CtxZ X g M cc) (hM : M.1 pc = some (.ior, len)) : PZ X g E M.2.2.1 pc ls st s XO ZO (stepI M True pc ls st s K0 badC (.ior)) := by
  show PZ X g E M.2.2.1 pc ls st s XO ZO (match (generalizing := false) st with | .int y :: .int x :: r => (True, (pc + 1, ls, .int (x ||| y) :: r, s)) | _ => badC)
  split
  · exact PZ.k (fun h k => z_ior C hM k)
  · exact PZ.bad
theorem p_ishl (C : CtxZ X g M cc) (hM : M.1 pc = some (.ishl, len)) : PZ X g E M.2.2.1 pc ls st s XO ZO (stepI M True pc ls st s K0 badC (.ishl)) := by
  show PZ X g E M.2.2.1 pc ls st s XO ZO (match (generalizing := false) st with | .int y :: .int x :: r => (True, (pc + 1, ls, .int (x <<< (y &&& 31)) :: r, s)) | _ => badC)
  split
  · exact PZ.k (fun h k => z_ishl C hM k)
  · exact PZ.bad
theorem p_ishr (C : CtxZ X g M cc) (hM : M.1 pc = some (.ishr, len)) : PZ X g E M.2.2.1 pc ls st s XO ZO (stepI M True pc ls st s K0 badC (.ishr)) := by
  show PZ X g E M.2.2.1 pc ls st s XO ZO (match (generalizing := false) st with | .int y :: .int x :: r => (True, (pc + 1, ls, .int (x >>> (y &&& 31)) :: r, s)) | _ => badC)
  split
  · exact PZ.k (fun h k => z_ishr C hM k)
  · exact PZ.bad
theorem p_iushr (C : CtxZ X g M cc) (hM : M.1 pc = some (.iushr, len)) : PZ X g E M.2.2.1 pc ls st s XO ZO (stepI M True pc ls st s K0 badC (.iushr)) := by
  show PZ X g E M.2.2.1 pc ls st s XO ZO (match (generalizing := false) st with | .int y :: .int x :: r => (True, (pc + 1, ls, .int ((x.toUInt32 >>> (y.toUInt32 &&& Int32.toUInt32 31)).toInt32) :: r, s)) | _ => badC)
  split
  · exact PZ.k (fun h k => z_iushr C hM k)
  · exact PZ.bad
theorem p_ladd (C : CtxZ X g M cc) (hM : M.1 pc = some (.ladd, len)) : PZ X g E M.2.2.1 pc ls st s XO ZO (stepI M True pc ls st s K0 badC (.ladd)) := by
  show PZ X g E M.2.2.1 pc ls st s XO ZO (match (generalizing := false) st with | .long y :: .long x :: r => (True, (pc + 1, ls, .long (x + y) :: r, s)) | _ => badC)
  split
  · exact PZ.k (fun h k => z_ladd C hM k)
  · exact PZ.bad
theorem p_lsub (C : CtxZ X g M cc) (hM : M.1 pc = some (.lsub, len)) : PZ X g E M.2.2.1 pc ls st s XO ZO (stepI M True pc ls st s K0 badC (.lsub)) := by
  show PZ X g E M.2.2.1 pc ls st s XO ZO (match (generalizing := false) st with | .long y :: .long x :: r => (True, (pc + 1, ls, .long (x - y) :: r, s)) | _ => badC)
  split
  · exact PZ.k (fun h k => z_lsub C hM k)
  · exact PZ.bad
theorem p_lmul (C : CtxZ X g M cc) (hM : M.1 pc = some (.lmul, len)) : PZ X g E M.2.2.1 pc ls st s XO ZO (stepI M True pc ls st s K0 badC (.lmul)) := by
  show PZ X g E M.2.2.1 pc ls st s XO ZO (match (generalizing := false) st with | .long y :: .long x :: r => (True, (pc + 1, ls, .long (x * y) :: r, s)) | _ => badC)
  split
  · exact PZ.k (fun h k => z_lmul C hM k)
  · exact PZ.bad
theorem p_idiv (C : CtxZ X g M cc) (hM : M.1 pc = some (.idiv, len)) : PZ X g E M.2.2.1 pc ls st s XO ZO (stepI M True pc ls st s K0 badC (.idiv)) := by
  show PZ X g E M.2.2.1 pc ls st s XO ZO (match (generalizing := false) st with | .int y :: .int x :: r => ((True ∧ ¬ y = nI 0), (pc + 1, ls, .int (x / y) :: r, s)) | _ => badC)
  split
  · exact PZ.k (fun h k => z_idiv C hM h.2 k)
  · exact PZ.bad
theorem p_irem (C : CtxZ X g M cc) (hM : M.1 pc = some (.irem, len)) : PZ X g E M.2.2.1 pc ls st s XO ZO (stepI M True pc ls st s K0 badC (.irem)) := by
  show PZ X g E M.2.2.1 pc ls st s XO ZO (match (generalizing := false) st with | .int y :: .int x :: r => ((True ∧ ¬ y = nI 0), (pc + 1, ls, .int (x - x / y * y) :: r, s)) | _ => badC)
  split
  · exact PZ.k (fun h k => z_irem C hM h.2 k)
  · exact PZ.bad
theorem p_ldiv (C : CtxZ X g M cc) (hM : M.1 pc = some (.ldiv, len)) : PZ X g E M.2.2.1 pc ls st s XO ZO (stepI M True pc ls st s K0 badC (.ldiv)) := by
  show PZ X g E M.2.2.1 pc ls st s XO ZO (match (generalizing := false) st with | .long y :: .long x :: r => ((True ∧ ¬ y = lN 0), (pc + 1, ls, .long (x / y) :: r, s)) | _ => badC)
  split
  · exact PZ.k (fun h k => z_ldiv C hM h.2 k)
  · exact PZ.bad
theorem p_lrem (C : CtxZ X g M cc) (hM : M.1 pc = some (.lrem, len)) : PZ X g E M.2.2.1 pc ls st s XO ZO (stepI M True pc ls st s K0 badC (.lrem)) := by
  show PZ X g E M.2.2.1 pc ls st s XO ZO (match (generalizing := false) st with | .long y :: .long x :: r => ((True ∧ ¬ y = lN 0), (pc + 1, ls, .long (x - x / y * y) :: r, s)) | _ => badC)
  split
  · exact PZ.k (fun h k => z_lrem C hM h.2 k)
  · exact PZ.bad
theorem p_lcmp (C : CtxZ X g M cc) (hM : M.1 pc = some (.lcmp, len)) : PZ X g E M.2.2.1 pc ls st s XO ZO (stepI M True pc ls st s K0 badC (.lcmp)) := by
  show PZ X g E M.2.2.1 pc ls st s XO ZO (match (generalizing := false) st with | .long y :: .long x :: r => (True, (pc + 1, ls, .int (lg_cmp x y) :: r, s)) | _ => badC)
  split
  · exact PZ.k (fun h k => z_lcmp C hM k)
  · exact PZ.bad
theorem p_ineg (C : CtxZ X g M cc) (hM : M.1 pc = some (.ineg, len)) : PZ X g E M.2.2.1 pc ls st s XO ZO (stepI M True pc ls st s K0 badC (.ineg)) := by
  show PZ X g E M.2.2.1 pc ls st s XO ZO (match (generalizing := false) st with | .int x :: r => (True, (pc + 1, ls, .int (-x) :: r, s)) | _ => badC)
  split
  · exact PZ.k (fun h k => z_ineg C hM k)
  · exact PZ.bad
theorem p_i2l (C : CtxZ X g M cc) (hM : M.1 pc = some (.i2l, len)) : PZ X g E M.2.2.1 pc ls st s XO ZO (stepI M True pc ls st s K0 badC (.i2l)) := by
  show PZ X g E M.2.2.1 pc ls st s XO ZO (match (generalizing := false) st with | .int x :: r => (True, (pc + 1, ls, .long (x.toInt64) :: r, s)) | _ => badC)
  split
  · exact PZ.k (fun h k => z_i2l C hM k)
  · exact PZ.bad
theorem p_l2i (C : CtxZ X g M cc) (hM : M.1 pc = some (.l2i, len)) : PZ X g E M.2.2.1 pc ls st s XO ZO (stepI M True pc ls st s K0 badC (.l2i)) := by
  show PZ X g E M.2.2.1 pc ls st s XO ZO (match (generalizing := false) st with | .long x :: r => (True, (pc + 1, ls, .int (x.toInt32) :: r, s)) | _ => badC)
  split
  · exact PZ.k (fun h k => z_l2i C hM k)
  · exact PZ.bad
theorem p_dup (C : CtxZ X g M cc) (hM : M.1 pc = some (.dup, len)) : PZ X g E M.2.2.1 pc ls st s XO ZO (stepI M True pc ls st s K0 badC (.dup)) := by
  show PZ X g E M.2.2.1 pc ls st s XO ZO (match (generalizing := false) st with | .int x :: r => (True, (pc + 1, ls, .int x :: .int x :: r, s)) | .ref x :: r => (True, (pc + 1, ls, .ref x :: .ref x :: r, s)) | _ => badC)
  split
  · exact PZ.k (fun h k => z_dup C hM rfl k)
  · exact PZ.k (fun h k => z_dup C hM rfl k)
  · exact PZ.bad
theorem p_dup2 (C : CtxZ X g M cc) (hM : M.1 pc = some (.dup2, len)) : PZ X g E M.2.2.1 pc ls st s XO ZO (stepI M True pc ls st s K0 badC (.dup2)) := by
  show PZ X g E M.2.2.1 pc ls st s XO ZO (match (generalizing := false) st with | .int x :: .ref y :: r => (True, (pc + 1, ls, .int x :: .ref y :: .int x :: .ref y :: r, s)) | _ => badC)
  split
  · exact PZ.k (fun h k => z_dup2 C hM rfl rfl k)
  · exact PZ.bad
theorem p_pop (C : CtxZ X g M cc) (hM : M.1 pc = some (.pop, len)) : PZ X g E M.2.2.1 pc ls st s XO ZO (stepI M True pc ls st s K0 badC (.pop)) := by
  show PZ X g E M.2.2.1 pc ls st s XO ZO (match (generalizing := false) st with | .int _ :: r => (True, (pc + 1, ls, r, s)) | .ref _ :: r => (True, (pc + 1, ls, r, s)) | _ => badC)
  split
  · exact PZ.k (fun h k => z_pop C hM rfl k)
  · exact PZ.k (fun h k => z_pop C hM rfl k)
  · exact PZ.bad
theorem p_ifCond (C : CtxZ X g M cc) {q : ClassFile.Cond} {o : Int} (hM : M.1 pc = some (.ifCond q o, len)) : PZ X g E M.2.2.1 pc ls st s XO ZO (stepI M True pc ls st s K0 badC (.ifCond q o)) := by
  show PZ X g E M.2.2.1 pc ls st s XO ZO (match (generalizing := false) st with | .int x :: r => (True, (brC q x (nI 0) (jmp pc o) (pc + 3), ls, r, s)) | _ => badC)
  split
  · exact PZ.k (fun h k => z_if C hM k)
  · exact PZ.bad
theorem p_if_icmp (C : CtxZ X g M cc) {q : ClassFile.Cond} {o : Int} (hM : M.1 pc = some (.if_icmp q o, len)) : PZ X g E M.2.2.1 pc ls st s XO ZO (stepI M True pc ls st s K0 badC (.if_icmp q o)) := by
  show PZ X g E M.2.2.1 pc ls st s XO ZO (match (generalizing := false) st with | .int y :: .int x :: r => (True, (brC q x y (jmp pc o) (pc + 3), ls, r, s)) | _ => badC)
  split
  · exact PZ.k (fun h k => z_icmp C hM k)
  · exact PZ.bad
theorem p_ifnull (C : CtxZ X g M cc) {o : Int} (hM : M.1 pc = some (.ifnull o, len)) : PZ X g E M.2.2.1 pc ls st s XO ZO (stepI M True pc ls st s K0 badC (.ifnull o)) := by
  show PZ X g E M.2.2.1 pc ls st s XO ZO (match (generalizing := false) st with | .ref x :: r => (True, ((if x = 0 then jmp pc o else pc + 3), ls, r, s)) | _ => badC)
  match st with
  | .ref x :: r => exact PZ.k (fun h k => z_ifnull C hM k)
  | [] => exact PZ.bad
  | .int _ :: _ => exact PZ.bad
  | .long _ :: _ => exact PZ.bad
  | .float _ :: _ => exact PZ.bad
  | .double _ :: _ => exact PZ.bad
  | .null :: _ => exact PZ.bad
  | .retAddr _ :: _ => exact PZ.bad
theorem p_ifnonnull (C : CtxZ X g M cc) {o : Int} (hM : M.1 pc = some (.ifnonnull o, len)) : PZ X g E M.2.2.1 pc ls st s XO ZO (stepI M True pc ls st s K0 badC (.ifnonnull o)) := by
  show PZ X g E M.2.2.1 pc ls st s XO ZO (match (generalizing := false) st with | .ref x :: r => (True, ((if x = 0 then pc + 3 else jmp pc o), ls, r, s)) | _ => badC)
  match st with
  | .ref x :: r => exact PZ.k (fun h k => z_ifnonnull C hM k)
  | [] => exact PZ.bad
  | .int _ :: _ => exact PZ.bad
  | .long _ :: _ => exact PZ.bad
  | .float _ :: _ => exact PZ.bad
  | .double _ :: _ => exact PZ.bad
  | .null :: _ => exact PZ.bad
  | .retAddr _ :: _ => exact PZ.bad
theorem p_goto (C : CtxZ X g M cc) {o : Int} (hM : M.1 pc = some (.goto o, len)) : PZ X g E M.2.2.1 pc ls st s XO ZO (stepI M True pc ls st s K0 badC (.goto o)) := by
  exact PZ.k (fun _ k => z_goto C hM k)
theorem p_switch (C : CtxZ X g M cc) {d lo hi : Int} {os : Array Int} (hM : M.1 pc = some (.tableswitch d lo hi os, len)) : PZ X g E M.2.2.1 pc ls st s XO ZO (stepI M True pc ls st s K0 badC (.tableswitch d lo hi os)) := by
  show PZ X g E M.2.2.1 pc ls st s XO ZO (match (generalizing := false) st with | .int x :: r => (True, (swT x (jmp pc d) (swL pc lo os.toList), ls, r, s)) | _ => badC)
  split
  · exact PZ.k (fun h k => z_switch C hM k)
  · exact PZ.bad
theorem p_iaload (C : CtxZ X g M cc) (hM : M.1 pc = some (.iaload, len)) : PZ X g E M.2.2.1 pc ls st s XO ZO (stepI M True pc ls st s K0 badC (.iaload)) := by
  show PZ X g E M.2.2.1 pc ls st s XO ZO (match (generalizing := false) st with | .int i :: .ref a :: r => (True ∧ ((sT s a = 20 ∨ sT s a = 30) ∧ vp_in i (sN s a)), (pc + 1, ls, .int (sI s a i.toNatClampNeg) :: r, s)) | _ => badC)
  split
  · exact PZ.k (fun h k => z_iaload C hM h.2 k)
  · exact PZ.bad
theorem p_baload (C : CtxZ X g M cc) (hM : M.1 pc = some (.baload, len)) : PZ X g E M.2.2.1 pc ls st s XO ZO (stepI M True pc ls st s K0 badC (.baload)) := by
  show PZ X g E M.2.2.1 pc ls st s XO ZO (match (generalizing := false) st with | .int i :: .ref a :: r => (True ∧ (sT s a = 22 ∧ vp_in i (sN s a)), (pc + 1, ls, .int (sI s a i.toNatClampNeg) :: r, s)) | _ => badC)
  split
  · exact PZ.k (fun h k => z_baload C hM h.2 k)
  · exact PZ.bad
theorem p_laload (C : CtxZ X g M cc) (hM : M.1 pc = some (.laload, len)) : PZ X g E M.2.2.1 pc ls st s XO ZO (stepI M True pc ls st s K0 badC (.laload)) := by
  show PZ X g E M.2.2.1 pc ls st s XO ZO (match (generalizing := false) st with | .int i :: .ref a :: r => (True ∧ (sT s a = 21 ∧ vp_in i (sN s a)), (pc + 1, ls, .long (sL s a i.toNatClampNeg) :: r, s)) | _ => badC)
  split
  · exact PZ.k (fun h k => z_laload C hM h.2 k)
  · exact PZ.bad
theorem p_aaload (C : CtxZ X g M cc) (hM : M.1 pc = some (.aaload, len)) : PZ X g E M.2.2.1 pc ls st s XO ZO (stepI M True pc ls st s K0 badC (.aaload)) := by
  show PZ X g E M.2.2.1 pc ls st s XO ZO (match (generalizing := false) st with | .int i :: .ref a :: r => (True ∧ (40 ≤ sT s a ∧ vp_in i (sN s a)), (pc + 1, ls, .ref (sR s a i.toNatClampNeg) :: r, s)) | _ => badC)
  split
  · exact PZ.k (fun h k => z_aaload C hM h.2 k)
  · exact PZ.bad
theorem p_iastore (C : CtxZ X g M cc) (hM : M.1 pc = some (.iastore, len)) : PZ X g E M.2.2.1 pc ls st s XO ZO (stepI M True pc ls st s K0 badC (.iastore)) := by
  show PZ X g E M.2.2.1 pc ls st s XO ZO (match (generalizing := false) st with | .int x :: .int i :: .ref a :: r => (True ∧ (sT s a = 20 ∧ vp_in i (sN s a)), (pc + 1, ls, r, setI s a i.toNatClampNeg x)) | _ => badC)
  split
  · exact PZ.k (fun h k => z_iastore C hM h.2 k)
  · exact PZ.bad
theorem p_bastore (C : CtxZ X g M cc) (hM : M.1 pc = some (.bastore, len)) : PZ X g E M.2.2.1 pc ls st s XO ZO (stepI M True pc ls st s K0 badC (.bastore)) := by
  show PZ X g E M.2.2.1 pc ls st s XO ZO (match (generalizing := false) st with | .int x :: .int i :: .ref a :: r => (True ∧ ((sT s a = 22 ∧ vp_in i (sN s a)) ∧ (x = nI 0 ∨ x = nI 1)), (pc + 1, ls, r, setI s a i.toNatClampNeg x)) | _ => badC)
  split
  · exact PZ.k (fun h k => z_bastore C hM h.2 k)
  · exact PZ.bad
theorem p_lastore (C : CtxZ X g M cc) (hM : M.1 pc = some (.lastore, len)) : PZ X g E M.2.2.1 pc ls st s XO ZO (stepI M True pc ls st s K0 badC (.lastore)) := by
  show PZ X g E M.2.2.1 pc ls st s XO ZO (match (generalizing := false) st with | .long x :: .int i :: .ref a :: r => (True ∧ (sT s a = 21 ∧ vp_in i (sN s a)), (pc + 1, ls, r, setJ s a i.toNatClampNeg x)) | _ => badC)
  split
  · exact PZ.k (fun h k => z_lastore C hM h.2 k)
  · exact PZ.bad
theorem p_aastore (C : CtxZ X g M cc) (HC : ∀ c, c < 13 → ClsZ c) (hM : M.1 pc = some (.aastore, len)) : PZ X g E M.2.2.1 pc ls st s XO ZO (stepI M True pc ls st s K0 badC (.aastore)) := by
  show PZ X g E M.2.2.1 pc ls st s XO ZO (match (generalizing := false) st with | .ref x :: .int i :: .ref a :: r => (True ∧ ((40 ≤ sT s a ∧ vp_in i (sN s a)) ∧ (x = 0 ∨ sT s x + 39 = sT s a)), (pc + 1, ls, r, setR s a i.toNatClampNeg x)) | _ => badC)
  split
  · exact PZ.k (fun h k => z_aastore C HC hM h.2 k)
  · exact PZ.bad
theorem p_alen (C : CtxZ X g M cc) (hM : M.1 pc = some (.arraylength, len)) : PZ X g E M.2.2.1 pc ls st s XO ZO (stepI M True pc ls st s K0 badC (.arraylength)) := by
  show PZ X g E M.2.2.1 pc ls st s XO ZO (match (generalizing := false) st with | .ref a :: r => (True ∧ 20 ≤ sT s a, (pc + 1, ls, .int (nI (sN s a)) :: r, s)) | _ => badC)
  split
  · exact PZ.k (fun h k => z_alen C hM h.2 k)
  · exact PZ.bad
theorem p_new (C : CtxZ X g M cc) (HC : ∀ c, c < 13 → ClsZ c) (HA : AcZ X) (hR : XO - sX E ≤ (xR X).cells ∧ ZO - sZ E ≤ (xR X).slots) {n : Nat} (hM : M.1 pc = some (.new n, len)) : PZ X g E M.2.2.1 pc ls st s XO ZO (stepI M True pc ls st s K0 badC (.new n)) := by
  show PZ X g E M.2.2.1 pc ls st s XO ZO (match lkN M.2.1 n with | some c => bif Nat.ble c 12 then (True ∧ sX s < 900000, (pc + 3, ls, .ref (sX s) :: st, newA s (c + 1) (fkZ c).length)) else badC | none => badC)
  split
  · rename_i c hx
    cases hb : Nat.ble c 12 with
    | true => exact PZ.kb (fun h hn k => z_new C HC hM hx h.2 (Nat.lt_succ_of_le (Nat.le_of_ble_eq_true hb)) (bdc (show sX s + 1 ≤ XO from hn.1) hR.1) (bdc (show sZ s + (fkZ c).length ≤ ZO from hn.2) hR.2) k)
    | false => exact PZ.bad
  · exact PZ.bad
theorem p_newarray_int (C : CtxZ X g M cc) (HC : ∀ c, c < 13 → ClsZ c) (HA : AcZ X) (hR : XO - sX E ≤ (xR X).cells ∧ ZO - sZ E ≤ (xR X).slots) (hM : M.1 pc = some (.newarray .int, len)) : PZ X g E M.2.2.1 pc ls st s XO ZO (stepI M True pc ls st s K0 badC (.newarray .int)) := by
  show PZ X g E M.2.2.1 pc ls st s XO ZO (match (generalizing := false) st with | .int n :: r => (True ∧ (sX s < 900000 ∧ ¬ n < 0 ∧ n.toNatClampNeg ≤ 100000), (pc + 2, ls, .ref (sX s) :: r, newA s 20 n.toNatClampNeg)) | _ => badC)
  split
  · rename_i n r
    exact PZ.kb (fun h hn k => z_newI C HA.1 hM h.2 (bdc (show sX s + 1 ≤ XO from hn.1) hR.1) (bdc (show sZ s + n.toNatClampNeg ≤ ZO from hn.2) hR.2) k)
  · exact PZ.bad
theorem p_newarray_long (C : CtxZ X g M cc) (HC : ∀ c, c < 13 → ClsZ c) (HA : AcZ X) (hR : XO - sX E ≤ (xR X).cells ∧ ZO - sZ E ≤ (xR X).slots) (hM : M.1 pc = some (.newarray .long, len)) : PZ X g E M.2.2.1 pc ls st s XO ZO (stepI M True pc ls st s K0 badC (.newarray .long)) := by
  show PZ X g E M.2.2.1 pc ls st s XO ZO (match (generalizing := false) st with | .int n :: r => (True ∧ (sX s < 900000 ∧ ¬ n < 0 ∧ n.toNatClampNeg ≤ 100000), (pc + 2, ls, .ref (sX s) :: r, newA s 21 n.toNatClampNeg)) | _ => badC)
  split
  · rename_i n r
    exact PZ.kb (fun h hn k => z_newJ C HA.2.1 hM h.2 (bdc (show sX s + 1 ≤ XO from hn.1) hR.1) (bdc (show sZ s + n.toNatClampNeg ≤ ZO from hn.2) hR.2) k)
  · exact PZ.bad
theorem p_newarray_boolean (C : CtxZ X g M cc) (HC : ∀ c, c < 13 → ClsZ c) (HA : AcZ X) (hR : XO - sX E ≤ (xR X).cells ∧ ZO - sZ E ≤ (xR X).slots) (hM : M.1 pc = some (.newarray .boolean, len)) : PZ X g E M.2.2.1 pc ls st s XO ZO (stepI M True pc ls st s K0 badC (.newarray .boolean)) := by
  show PZ X g E M.2.2.1 pc ls st s XO ZO (match (generalizing := false) st with | .int n :: r => (True ∧ (sX s < 900000 ∧ ¬ n < 0 ∧ n.toNatClampNeg ≤ 100000), (pc + 2, ls, .ref (sX s) :: r, newA s 22 n.toNatClampNeg)) | _ => badC)
  split
  · rename_i n r
    exact PZ.kb (fun h hn k => z_newZ C HA.2.2 hM h.2 (bdc (show sX s + 1 ≤ XO from hn.1) hR.1) (bdc (show sZ s + n.toNatClampNeg ≤ ZO from hn.2) hR.2) k)
  · exact PZ.bad
theorem p_anew (C : CtxZ X g M cc) (HC : ∀ c, c < 13 → ClsZ c) (HA : AcZ X) (hR : XO - sX E ≤ (xR X).cells ∧ ZO - sZ E ≤ (xR X).slots) {n : Nat} (hM : M.1 pc = some (.anewarray n, len)) : PZ X g E M.2.2.1 pc ls st s XO ZO (stepI M True pc ls st s K0 badC (.anewarray n)) := by
  show PZ X g E M.2.2.1 pc ls st s XO ZO (match lkN M.2.1 n with | some c => (match (generalizing := false) st with | .int n :: r => bif Nat.beq c 3 || Nat.beq c 6 || Nat.beq c 11 then (True ∧ (sX s < 900000 ∧ ¬ n < 0 ∧ n.toNatClampNeg ≤ 100000), (pc + 3, ls, .ref (sX s) :: r, newA s (40 + c) n.toNatClampNeg)) else badC | _ => badC) | none => badC)
  split
  · rename_i c hx
    split
    · rename_i n r
      cases hb : (Nat.beq c 3 || Nat.beq c 6 || Nat.beq c 11) with
      | true =>
        have hc : c = 3 ∨ c = 6 ∨ c = 11 := by
          rw [Bool.or_eq_true, Bool.or_eq_true] at hb
          rcases hb with (h | h) | h <;> have := Nat.eq_of_beq_eq_true h <;> omega
        exact PZ.kb (fun h hn k => z_newR C hM hx hc h.2 (bdc (show sX s + 1 ≤ XO from hn.1) hR.1) (bdc (show sZ s + n.toNatClampNeg ≤ ZO from hn.2) hR.2) k)
      | false => exact PZ.bad
    · exact PZ.bad
  · exact PZ.bad
theorem p_getfield (C : CtxZ X g M cc) (HC : ∀ c, c < 13 → ClsZ c) {n : Nat} (hM : M.1 pc = some (.getfield n, len)) : PZ X g E M.2.2.1 pc ls st s XO ZO (stepI M True pc ls st s K0 badC (.getfield n)) := by
  show PZ X g E M.2.2.1 pc ls st s XO ZO (match lkF M.2.1 n with | some x => stepF True pc ls st s K0 badC x | none => badC)
  split
  · rename_i x hx
    obtain ⟨c, j, kd⟩ := x
    show PZ X g E M.2.2.1 pc ls st s XO ZO (match (generalizing := false) st with | .ref a :: r => (match (generalizing := false) kd with | 0 => (True ∧ sT s a = c + 1, (pc + 3, ls, .int (sI s a j) :: r, s)) | 1 => (True ∧ sT s a = c + 1, (pc + 3, ls, .int (sI s a j) :: r, s)) | 2 => (True ∧ sT s a = c + 1, (pc + 3, ls, .long (sL s a j) :: r, s)) | 3 => (True ∧ sT s a = c + 1, (pc + 3, ls, .ref (sR s a j) :: r, s)) | _ => badC) | _ => badC)
    split
    · split
      · exact PZ.k (fun h k => z_getf0 C HC hM hx (Or.inl rfl) h.2 k)
      · exact PZ.k (fun h k => z_getf0 C HC hM hx (Or.inr rfl) h.2 k)
      · exact PZ.k (fun h k => z_getf2 C HC hM hx h.2 k)
      · exact PZ.k (fun h k => z_getf3 C HC hM hx h.2 k)
      · exact PZ.bad
    · exact PZ.bad
  · exact PZ.bad
theorem p_putfield (C : CtxZ X g M cc) (HC : ∀ c, c < 13 → ClsZ c) {n : Nat} (hM : M.1 pc = some (.putfield n, len)) : PZ X g E M.2.2.1 pc ls st s XO ZO (stepI M True pc ls st s K0 badC (.putfield n)) := by
  show PZ X g E M.2.2.1 pc ls st s XO ZO (match lkF M.2.1 n with | some x => stepU True pc ls st s K0 badC x | none => badC)
  split
  · rename_i x hx
    obtain ⟨c, j, kd⟩ := x
    show PZ X g E M.2.2.1 pc ls st s XO ZO (match (generalizing := false) st with
      | .int x :: .ref a :: r => (match (generalizing := false) kd with | 0 => (True ∧ sT s a = c + 1, (pc + 3, ls, r, setI s a j x)) | 1 => (True ∧ (sT s a = c + 1 ∧ (x = nI 0 ∨ x = nI 1)), (pc + 3, ls, r, setI s a j x)) | _ => badC)
      | .long x :: .ref a :: r => (match (generalizing := false) kd with | 2 => (True ∧ sT s a = c + 1, (pc + 3, ls, r, setJ s a j x)) | _ => badC)
      | .ref x :: .ref a :: r => (match (generalizing := false) kd with | 3 => (True ∧ sT s a = c + 1, (pc + 3, ls, r, setR s a j x)) | _ => badC)
      | _ => badC)
    split
    · split
      · exact PZ.k (fun h k => z_putf0 C HC hM hx h.2 k)
      · exact PZ.k (fun h k => z_putf1 C HC hM hx h.2.1 h.2.2 k)
      · exact PZ.bad
    · split
      · exact PZ.k (fun h k => z_putf2 C HC hM hx h.2 k)
      · exact PZ.bad
    · split
      · exact PZ.k (fun h k => z_putf3 C HC hM hx h.2 k)
      · exact PZ.bad
    · exact PZ.bad
  · exact PZ.bad
theorem p_getstatic (C : CtxZ X g M cc) {n : Nat} (hM : M.1 pc = some (.getstatic n, len)) : PZ X g E M.2.2.1 pc ls st s XO ZO (stepI M True pc ls st s K0 badC (.getstatic n)) := by
  show PZ X g E M.2.2.1 pc ls st s XO ZO (match lkF M.2.1 n with | some (_, _, 9) => (True, (pc + 3, ls, .ref 1000000 :: st, s)) | _ => badC)
  split
  · rename_i c j hx
    exact PZ.k (fun h k => z_getstatic C hM hx k)
  · exact PZ.bad
theorem p_checkcast (C : CtxZ X g M cc) {n : Nat} (hM : M.1 pc = some (.checkcast n, len)) : PZ X g E M.2.2.1 pc ls st s XO ZO (stepI M True pc ls st s K0 badC (.checkcast n)) := by
  show PZ X g E M.2.2.1 pc ls st s XO ZO (match lkN M.2.1 n with | some 99 => (match (generalizing := false) st with | .ref a :: r => (True ∧ sT s a = 20, (pc + 3, ls, .ref a :: r, s)) | _ => badC) | _ => badC)
  split
  · rename_i hx
    split
    · exact PZ.k (fun h k => z_castA C hM hx h.2 k)
    · exact PZ.bad
  · exact PZ.bad
theorem p_invokespecial (C : CtxZ X g M cc) (HP : PrmZ M.2.1 (xs X) (xa X)) (hR : XO - sX E ≤ (xR X).cells ∧ ZO - sZ E ≤ (xR X).slots) {n : Nat} (hM : M.1 pc = some (.invokespecial n, len)) : PZ X g E M.2.2.1 pc ls st s XO ZO (stepI M True pc ls st s K0 badC (.invokespecial n)) := by
  show PZ X g E M.2.2.1 pc ls st s XO ZO (match lkC M.2.1 n with | some (0, x, _) => bif Nat.beq x 0 then stepP True pc ls st s K0 badC x else badC | _ => badC)
  split
  · rename_i x na hx
    cases hb : Nat.beq x 0 with
    | false => exact PZ.bad
    | true =>
      have hx0 : x = 0 := Nat.eq_of_beq_eq_true hb
      subst hx0
      show PZ X g E M.2.2.1 pc ls st s XO ZO (bif Nat.ble (stW st) 8 then (match (generalizing := false) st with | .ref a :: r => (True ∧ ¬ a = 0, (pc + 3, ls, r, s)) | _ => badC) else badC)
      cases hw : Nat.ble (stW st) 8 with
      | false => exact PZ.bad
      | true =>
        have hw' := Nat.le_of_ble_eq_true hw
        show PZ X g E M.2.2.1 pc ls st s XO ZO (match (generalizing := false) st with | .ref a :: r => (True ∧ ¬ a = 0, (pc + 3, ls, r, s)) | _ => badC)
        split
        · exact PZ.k (fun h k => z_objInit C HP hM hx h.2 hw' k)
        · exact PZ.bad
  · exact PZ.bad
theorem p_invokestatic (C : CtxZ X g M cc) (HP : PrmZ M.2.1 (xs X) (xa X)) (hR : XO - sX E ≤ (xR X).cells ∧ ZO - sZ E ≤ (xR X).slots) {n : Nat} (hM : M.1 pc = some (.invokestatic n, len)) : PZ X g E M.2.2.1 pc ls st s XO ZO (stepI M True pc ls st s K0 badC (.invokestatic n)) := by
  show PZ X g E M.2.2.1 pc ls st s XO ZO (match lkC M.2.1 n with | some (0, x, _) => bif Nat.ble 1 x && Nat.ble x 5 then stepP True pc ls st s K0 badC x else badC | _ => badC)
  split
  · rename_i x na hx
    cases hb : (Nat.ble 1 x && Nat.ble x 5) with
    | false => exact PZ.bad
    | true =>
    have hx0 : x = 1 ∨ x = 2 ∨ x = 3 ∨ x = 4 ∨ x = 5 := by
      rw [Bool.and_eq_true] at hb
      have h1 := Nat.le_of_ble_eq_true hb.1
      have h2 := Nat.le_of_ble_eq_true hb.2
      omega
    rcases hx0 with rfl | rfl | rfl | rfl | rfl
    · show PZ X g E M.2.2.1 pc ls st s XO ZO (bif Nat.ble (stW st) 8 then (match (generalizing := false) st with | .int y :: .int x :: r => (True, (pc + 3, ls, .int (if x < y then y else x) :: r, s)) | _ => badC) else badC)
      cases hw : Nat.ble (stW st) 8 with
      | false => exact PZ.bad
      | true =>
        have hw' := Nat.le_of_ble_eq_true hw
        show PZ X g E M.2.2.1 pc ls st s XO ZO (match (generalizing := false) st with | .int y :: .int x :: r => (True, (pc + 3, ls, .int (if x < y then y else x) :: r, s)) | _ => badC)
        split
        · exact PZ.kb (fun h hn k => z_max C HP hM hx hw' ⟨bdc (show sX s ≤ XO from hn.1) hR.1, bdc (show sZ s ≤ ZO from hn.2) hR.2⟩ k)
        · exact PZ.bad
    · show PZ X g E M.2.2.1 pc ls st s XO ZO (bif Nat.ble (stW st) 8 then (match (generalizing := false) st with | .int y :: .int x :: r => (True, (pc + 3, ls, .int (if y < x then y else x) :: r, s)) | _ => badC) else badC)
      cases hw : Nat.ble (stW st) 8 with
      | false => exact PZ.bad
      | true =>
        have hw' := Nat.le_of_ble_eq_true hw
        show PZ X g E M.2.2.1 pc ls st s XO ZO (match (generalizing := false) st with | .int y :: .int x :: r => (True, (pc + 3, ls, .int (if y < x then y else x) :: r, s)) | _ => badC)
        split
        · exact PZ.kb (fun h hn k => z_min C HP hM hx hw' ⟨bdc (show sX s ≤ XO from hn.1) hR.1, bdc (show sZ s ≤ ZO from hn.2) hR.2⟩ k)
        · exact PZ.bad
    · show PZ X g E M.2.2.1 pc ls st s XO ZO (bif Nat.ble (stW st) 8 then (match (generalizing := false) st with | .long y :: .long x :: r => (True, (pc + 3, ls, .long (if y < x then x else y) :: r, s)) | _ => badC) else badC)
      cases hw : Nat.ble (stW st) 8 with
      | false => exact PZ.bad
      | true =>
        have hw' := Nat.le_of_ble_eq_true hw
        show PZ X g E M.2.2.1 pc ls st s XO ZO (match (generalizing := false) st with | .long y :: .long x :: r => (True, (pc + 3, ls, .long (if y < x then x else y) :: r, s)) | _ => badC)
        split
        · exact PZ.kb (fun h hn k => z_maxL C HP hM hx hw' ⟨bdc (show sX s ≤ XO from hn.1) hR.1, bdc (show sZ s ≤ ZO from hn.2) hR.2⟩ k)
        · exact PZ.bad
    · show PZ X g E M.2.2.1 pc ls st s XO ZO (bif Nat.ble (stW st) 8 then (match (generalizing := false) st with | .long y :: .long x :: r => (True, (pc + 3, ls, .long (if y < x then y else x) :: r, s)) | _ => badC) else badC)
      cases hw : Nat.ble (stW st) 8 with
      | false => exact PZ.bad
      | true =>
        have hw' := Nat.le_of_ble_eq_true hw
        show PZ X g E M.2.2.1 pc ls st s XO ZO (match (generalizing := false) st with | .long y :: .long x :: r => (True, (pc + 3, ls, .long (if y < x then y else x) :: r, s)) | _ => badC)
        split
        · exact PZ.kb (fun h hn k => z_minL C HP hM hx hw' ⟨bdc (show sX s ≤ XO from hn.1) hR.1, bdc (show sZ s ≤ ZO from hn.2) hR.2⟩ k)
        · exact PZ.bad
    · show PZ X g E M.2.2.1 pc ls st s XO ZO (bif Nat.ble (stW st) 8 then (match (generalizing := false) st with | .int n :: .int dp :: .ref b :: .int sp :: .ref a :: r => (True ∧ ((sT s a = 20 ∧ sT s b = 20) ∧ (¬ sp < 0 ∧ ¬ dp < 0 ∧ ¬ n < 0) ∧ sp.toNatClampNeg + n.toNatClampNeg ≤ sN s a ∧ dp.toNatClampNeg + n.toNatClampNeg ≤ sN s b), (pc + 3, ls, r, rowI s b (va_cpy (sI s a) (sI s b) sp.toNatClampNeg dp.toNatClampNeg n.toNatClampNeg))) | _ => badC) else badC)
      cases hw : Nat.ble (stW st) 8 with
      | false => exact PZ.bad
      | true =>
        have hw' := Nat.le_of_ble_eq_true hw
        show PZ X g E M.2.2.1 pc ls st s XO ZO (match (generalizing := false) st with | .int n :: .int dp :: .ref b :: .int sp :: .ref a :: r => (True ∧ ((sT s a = 20 ∧ sT s b = 20) ∧ (¬ sp < 0 ∧ ¬ dp < 0 ∧ ¬ n < 0) ∧ sp.toNatClampNeg + n.toNatClampNeg ≤ sN s a ∧ dp.toNatClampNeg + n.toNatClampNeg ≤ sN s b), (pc + 3, ls, r, rowI s b (va_cpy (sI s a) (sI s b) sp.toNatClampNeg dp.toNatClampNeg n.toNatClampNeg))) | _ => badC)
        split
        · exact PZ.k (fun h k => z_copy C HP hM hx hw' h.2 k)
        · exact PZ.bad
  · exact PZ.bad
theorem p_invokevirtual (C : CtxZ X g M cc) (HP : PrmZ M.2.1 (xs X) (xa X)) (hR : XO - sX E ≤ (xR X).cells ∧ ZO - sZ E ≤ (xR X).slots) {n : Nat} (hM : M.1 pc = some (.invokevirtual n, len)) : PZ X g E M.2.2.1 pc ls st s XO ZO (stepI M True pc ls st s K0 badC (.invokevirtual n)) := by
  show PZ X g E M.2.2.1 pc ls st s XO ZO (match lkC M.2.1 n with | some (0, x, _) => bif Nat.ble 6 x then stepP True pc ls st s K0 badC x else badC | _ => badC)
  split
  · rename_i x na hx
    cases hb : Nat.ble 6 x with
    | false => exact PZ.bad
    | true =>
    have h1 := Nat.le_of_ble_eq_true hb
    have hq := HP n x na hx
    have hx0 : x = 6 ∨ x = 7 ∨ x = 8 := by
      rcases Nat.lt_or_ge x 9 with q | q
      · omega
      · exfalso
        obtain ⟨y, rfl⟩ : ∃ y, x = y + 9 := ⟨x - 9, by omega⟩
        exact hq
    rcases hx0 with rfl | rfl | rfl
    · show PZ X g E M.2.2.1 pc ls st s XO ZO (bif Nat.ble (stW st) 8 then (match (generalizing := false) st with | .ref a :: r => (True ∧ isStr a, (pc + 3, ls, .int (nI (strOf a).length) :: r, s)) | _ => badC) else badC)
      cases hw : Nat.ble (stW st) 8 with
      | false => exact PZ.bad
      | true =>
        have hw' := Nat.le_of_ble_eq_true hw
        show PZ X g E M.2.2.1 pc ls st s XO ZO (match (generalizing := false) st with | .ref a :: r => (True ∧ isStr a, (pc + 3, ls, .int (nI (strOf a).length) :: r, s)) | _ => badC)
        split
        · exact PZ.kb (fun h hn k => z_slen C HP hM hx hw' h.2 ⟨bdc (show sX s ≤ XO from hn.1) hR.1, bdc (show sZ s ≤ ZO from hn.2) hR.2⟩ k)
        · exact PZ.bad
    · show PZ X g E M.2.2.1 pc ls st s XO ZO (bif Nat.ble (stW st) 8 then (match (generalizing := false) st with | .int i :: .ref a :: r => (True ∧ (isStr a ∧ vp_in i (strOf a).length), (pc + 3, ls, .int (nI ((strOf a).getD i.toNatClampNeg 0)) :: r, s)) | _ => badC) else badC)
      cases hw : Nat.ble (stW st) 8 with
      | false => exact PZ.bad
      | true =>
        have hw' := Nat.le_of_ble_eq_true hw
        show PZ X g E M.2.2.1 pc ls st s XO ZO (match (generalizing := false) st with | .int i :: .ref a :: r => (True ∧ (isStr a ∧ vp_in i (strOf a).length), (pc + 3, ls, .int (nI ((strOf a).getD i.toNatClampNeg 0)) :: r, s)) | _ => badC)
        split
        · exact PZ.kb (fun h hn k => z_sch C HP hM hx hw' h.2 ⟨bdc (show sX s ≤ XO from hn.1) hR.1, bdc (show sZ s ≤ ZO from hn.2) hR.2⟩ k)
        · exact PZ.bad
    · show PZ X g E M.2.2.1 pc ls st s XO ZO (bif Nat.ble (stW st) 8 then (match (generalizing := false) st with | .ref a :: r => (True ∧ (sT s a = 20 ∧ sX s < 900000 ∧ sN s a ≤ 100000), (pc + 3, ls, .ref (sX s) :: r, rowI (newA s 20 (sN s a)) (sX s) (sI s a))) | _ => badC) else badC)
      cases hw : Nat.ble (stW st) 8 with
      | false => exact PZ.bad
      | true =>
        have hw' := Nat.le_of_ble_eq_true hw
        show PZ X g E M.2.2.1 pc ls st s XO ZO (match (generalizing := false) st with | .ref a :: r => (True ∧ (sT s a = 20 ∧ sX s < 900000 ∧ sN s a ≤ 100000), (pc + 3, ls, .ref (sX s) :: r, rowI (newA s 20 (sN s a)) (sX s) (sI s a))) | _ => badC)
        split
        · rename_i a r
          exact PZ.kb (fun h hn k => z_clone C HP hM hx hw' h.2 (bdc (show sX s + 1 ≤ XO from hn.1) hR.1) (bdc (show sZ s + sN s a ≤ ZO from hn.2) hR.2) k)
        · exact PZ.bad
  · exact PZ.bad
theorem z_step (C : CtxZ X g M cc) (HC : ∀ c, c < 13 → ClsZ c) (HP : PrmZ M.2.1 (xs X) (xa X)) (HA : AcZ X) (hR : XO - sX E ≤ (xR X).cells ∧ ZO - sZ E ≤ (xR X).slots) : PZ X g E M.2.2.1 pc ls st s XO ZO (step1 M (pc, ls, st, s)) := by
  show PZ X g E M.2.2.1 pc ls st s XO ZO (match M.1 pc with | some (i, _) => stepI M True pc ls st s K0 badC i | none => badC)
  split
  · rename_i i len hM
    cases i with
    | aload_n _ => exact p_aload_n C hM
    | aload _ => exact p_aload C hM
    | iload_n _ => exact p_iload_n C hM
    | iload _ => exact p_iload C hM
    | lload_n _ => exact p_lload_n C hM
    | lload _ => exact p_lload C hM
    | astore_n _ => exact p_astore_n C hM
    | astore _ => exact p_astore C hM
    | istore_n _ => exact p_istore_n C hM
    | istore _ => exact p_istore C hM
    | lstore_n _ => exact p_lstore_n C hM
    | lstore _ => exact p_lstore C hM
    | iinc _ _ => exact p_iinc C hM
    | iconst _ => exact p_iconst C hM
    | bipush _ => exact p_bipush C hM
    | sipush _ => exact p_sipush C hM
    | lconst _ => exact p_lconst C hM
    | aconst_null => exact p_null C hM
    | ldc _ => exact p_ldc C hM
    | ldc_w _ => exact p_ldc_w C hM
    | ldc2_w _ => exact p_ldc2_w C hM
    | iadd => exact p_iadd C hM
    | isub => exact p_isub C hM
    | imul => exact p_imul C hM
    | iand => exact p_iand C hM
    | ior => exact p_ior C hM
    | ishl => exact p_ishl C hM
    | ishr => exact p_ishr C hM
    | iushr => exact p_iushr C hM
    | ladd => exact p_ladd C hM
    | lsub => exact p_lsub C hM
    | lmul => exact p_lmul C hM
    | idiv => exact p_idiv C hM
    | irem => exact p_irem C hM
    | ldiv => exact p_ldiv C hM
    | lrem => exact p_lrem C hM
    | lcmp => exact p_lcmp C hM
    | ineg => exact p_ineg C hM
    | i2l => exact p_i2l C hM
    | l2i => exact p_l2i C hM
    | dup => exact p_dup C hM
    | dup2 => exact p_dup2 C hM
    | pop => exact p_pop C hM
    | ifCond _ _ => exact p_ifCond C hM
    | if_icmp _ _ => exact p_if_icmp C hM
    | ifnull _ => exact p_ifnull C hM
    | ifnonnull _ => exact p_ifnonnull C hM
    | goto _ => exact p_goto C hM
    | tableswitch _ _ _ _ => exact p_switch C hM
    | iaload => exact p_iaload C hM
    | baload => exact p_baload C hM
    | laload => exact p_laload C hM
    | aaload => exact p_aaload C hM
    | iastore => exact p_iastore C hM
    | bastore => exact p_bastore C hM
    | lastore => exact p_lastore C hM
    | aastore => exact p_aastore C HC hM
    | arraylength => exact p_alen C hM
    | new _ => exact p_new C HC HA hR hM
    | anewarray _ => exact p_anew C HC HA hR hM
    | getfield _ => exact p_getfield C HC hM
    | putfield _ => exact p_putfield C HC hM
    | getstatic _ => exact p_getstatic C hM
    | checkcast _ => exact p_checkcast C hM
    | invokespecial _ => exact p_invokespecial C HP hR hM
    | invokestatic _ => exact p_invokestatic C HP hR hM
    | invokevirtual _ => exact p_invokevirtual C HP hR hM
    | newarray t =>
      cases t with
      | int => exact p_newarray_int C HC HA hR hM
      | long => exact p_newarray_long C HC HA hR hM
      | boolean => exact p_newarray_boolean C HC HA hR hM
      | _ => exact PZ.bad
    | _ => exact PZ.bad
  · exact PZ.bad
end SIM7
