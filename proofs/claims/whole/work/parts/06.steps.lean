/-! STEPS: what the small machine does in one step, the real one does -/
abbrev MC : Type := Program × Launch × Env × Room × State × MethodId × Array Value × List Frame × Method × Code × (State → Prop)
abbrev xp (X : MC) : Program := X.1
abbrev xR (X : MC) : Room := X.2.2.2.1
abbrev xs (X : MC) : State := X.2.2.2.2.1
abbrev xm (X : MC) : MethodId := X.2.2.2.2.2.1
abbrev xa (X : MC) : Array Value := X.2.2.2.2.2.2.1
abbrev xw (X : MC) : Method := X.2.2.2.2.2.2.2.2.1
abbrev xc (X : MC) : Code := X.2.2.2.2.2.2.2.2.2.1
abbrev WX (X : MC) (H : Heap) (locs : List Loc) (k n : Nat) (f : JFrame) : Prop := W X.1 X.2.1 X.2.2.1 X.2.2.2.1 X.2.2.2.2.1 X.2.2.2.2.2.1 X.2.2.2.2.2.2.1 X.2.2.2.2.2.2.2.1 X.2.2.2.2.2.2.2.2.1 X.2.2.2.2.2.2.2.2.2.1 H locs k n X.2.2.2.2.2.2.2.2.2.2 f
def TsZ : List Cond := lw_tbl.filter goodWord
def isNest : Cond → Bool
  | .fieldLinkNest _ _ _ _ _ _ => true
  | .methodLinkNest _ _ _ _ => true
  | _ => false
def nestZ : List Cond := tables_1.filter isNest
abbrev inW (g : GE) : Nat → Prop := fun q => gB g ≤ q
def tysZ (g : GE) : List (ClassId × FieldType) := [(gC g 20, .int), (gC g 21, .long), (gC g 22, .boolean), (gC g 43, .object "RecordHeap$Image"), (gC g 46, .object "RecordHeap$Pages"), (gC g 51, .object "RecordHeap$Text")]
def byZ : List (List Int32) := strZ.map (fun l => l.map nI)
def lnZ : List Nat := strZ.map (fun l => l.length)
/-- what a method's start has of classes, words, constants -/
def EnvZ (g : GE) (s0 : State) (ar : Array Value) : Prop :=
  va_K (gD g) clsZ (tysZ g) s0 ∧ (∀ w ∈ TsZ, w.before ar s0 = true) ∧ (∀ w ∈ nestZ, va_Nw w s0) ∧ (va_AO "RecordHeap$Image" s0 ∧ va_AO "RecordHeap$Pages" s0 ∧ va_AO "RecordHeap$Text" s0 ∧ va_Nw (.castable "[I" "java/lang/Cloneable") s0) ∧
  (vk_S 18 lnZ byZ (gK g) (gV g) (inW g) s0 s0.heap ∧ ∀ i, i < 18 → vk_R "RecordHeap$Reader" (siZ.getD i 0) (stZ.getD i "") (gK g i) s0) ∧
  (va_T .int (gT g) 3 (fun j => .int (tmZ.getD j 0)) (inW g) s0 s0.heap ∧ va_Z "RecordHeap" "TERM_MOST" "[I" (.ref (gT g)) (inW g) s0 s0.heap) ∧
  (va_X (gS g) (gN g) (gX g) s0 s0.heap ∧ gS g < gB g ∧ gN g < 2 ^ 31) ∧
  (va_Z "java/lang/String" "COMPACT_STRINGS" "Z" (.int 1) (inW g) s0 s0.heap ∧ va_Zq "jdk/internal/util/Preconditions" "SIOOBE_FORMATTER" "Ljava/util/function/BiFunction;" (inW g) s0 s0.heap) ∧ gB g ≤ s0.heap.size
def lenI : Instr → Nat
  | .aload_n _ => 1 | .iload_n _ => 1 | .lload_n _ => 1 | .aload _ => 2 | .iload _ => 2 | .lload _ => 2
  | .astore_n _ => 1 | .istore_n _ => 1 | .lstore_n _ => 1 | .astore _ => 2 | .istore _ => 2 | .lstore _ => 2
  | .iinc _ _ => 3 | .iconst _ => 1 | .bipush _ => 2 | .sipush _ => 3 | .lconst _ => 1 | .aconst_null => 1 | .ldc _ => 2 | .ldc_w _ => 3 | .ldc2_w _ => 3
  | .iadd => 1 | .isub => 1 | .imul => 1 | .iand => 1 | .ior => 1 | .ishl => 1 | .ishr => 1 | .iushr => 1 | .idiv => 1 | .irem => 1 | .ineg => 1
  | .ladd => 1 | .lsub => 1 | .lmul => 1 | .ldiv => 1 | .lrem => 1 | .i2l => 1 | .l2i => 1 | .lcmp => 1 | .dup => 1 | .dup2 => 1 | .pop => 1
  | .ifCond _ _ => 3 | .if_icmp _ _ => 3 | .ifnull _ => 3 | .ifnonnull _ => 3 | .goto _ => 3
  | .iaload => 1 | .baload => 1 | .laload => 1 | .aaload => 1 | .iastore => 1 | .bastore => 1 | .lastore => 1 | .aastore => 1 | .arraylength => 1
  | .new _ => 3 | .newarray _ => 2 | .anewarray _ => 3 | .getfield _ => 3 | .putfield _ => 3 | .getstatic _ => 3 | .checkcast _ => 3
  | .invokestatic _ => 3 | .invokevirtual _ => 3 | .invokespecial _ => 3 | .ireturn => 1 | .lreturn => 1 | .areturn => 1 | .return_ => 1
  | _ => 0
abbrev DecZ (M : MI) (cc : ByteArray) : Prop := ∀ pc i len, M.1 pc = some (i, len) → decode cc pc = .ok (i, len) ∧ (lenI i = 0 ∨ len = lenI i)
/-- final fields are written by their class' constructors alone; jumps stay in the code -/
def FinZ (M : MI) (nm : String) : Prop := ∀ pc k len x, M.1 pc = some (.putfield k, len) → lkF M.2.1 k = some x → (clT x.1 x.2.1).2.2.2 = true → nm = "<init>" ∧ (clT x.1 x.2.1).1 = ownZ M.2.1
def JmpZ (M : MI) : Prop := ∀ pc i len, M.1 pc = some (i, len) → (match i with
  | .ifCond _ o => 0 ≤ (pc : Int) + o
  | .if_icmp _ o => 0 ≤ (pc : Int) + o
  | .ifnull o => 0 ≤ (pc : Int) + o
  | .ifnonnull o => 0 ≤ (pc : Int) + o
  | .goto o => 0 ≤ (pc : Int) + o
  | .tableswitch d lo hi os => 0 ≤ (pc : Int) + d ∧ (∀ o ∈ os.toList, 0 ≤ (pc : Int) + o) ∧ 0 ≤ lo ∧ hi = lo + os.size - 1 ∧ hi < 1000
  | .iconst n => -1 ≤ n ∧ n ≤ 5
  | .bipush n => -128 ≤ n ∧ n ≤ 127
  | .sipush n => -32768 ≤ n ∧ n ≤ 32767
  | _ => True)
/-- what a link's number means, as far as a step needs it -/
def LnkZ (o : Nat) (s0 : State) (ar : Array Value) : Prop :=
  (∀ k x, lkF o k = some x → x.2.2 ≠ 9 → x.1 < 13 ∧ (fkZ x.1)[x.2.1]? = some x.2.2 ∧ ((Cond.fieldLink (ownZ o) k (clC x.1) (clT x.1 x.2.1).2.1 (clT x.1 x.2.1).2.2.1).before ar s0 = true ∨ ∃ h, (Cond.fieldLinkNest (ownZ o) k (clC x.1) (clT x.1 x.2.1).2.1 (clT x.1 x.2.1).2.2.1 h).before ar s0 = true ∧ clC x.1 ≠ ownZ o)) ∧
  (∀ k x, lkF o k = some x → x.2.2 = 9 → (Cond.fieldLink (ownZ o) k "RecordHeap" "TERM_MOST" "[I").before ar s0 = true) ∧
  (∀ k x, lkN o k = some x → (x < 13 ∧ (Cond.classLink (ownZ o) k (clC x)).before ar s0 = true) ∨ (x = 99 ∧ (Cond.classLink (ownZ o) k "[I").before ar s0 = true)) ∧
  (∀ k x, lkI o k = some x → (Cond.constant (ownZ o) k x).before ar s0 = true) ∧ (∀ k x, lkL o k = some x → (Cond.constantLong (ownZ o) k x).before ar s0 = true) ∧
  (∀ k x, lkS o k = some x → x < 18 ∧ ownZ o = "RecordHeap$Reader" ∧ k = siZ.getD x 0)
def CtxZ (X : MC) (g : GE) (M : MI) (cc : ByteArray) : Prop :=
  (xp X).tables.exec = Jvm.exec ∧ (xc X).code = cc ∧ (xc X).maxLocals = M.2.2.1 ∧ (xs X).vm.findClass (ownZ M.2.1) = some (xm X).cls ∧ DecZ M cc ∧ FinZ M (xw X).name ∧ JmpZ M ∧ LnkZ M.2.1 (xs X) (xa X) ∧ EnvZ g (xs X) (xa X) ∧ 6 ≤ (xR X).frames ∧ 384 ≤ (xR X).locals
def LVZ (g : GE) (ls : List Value) (A : Array Slot) : Prop := A.size = ls.length ∧ lv_wf A ∧ ∀ (i : Nat) (v : Value), ls[i]? = some v → (∀ n, v ≠ .retAddr n) → A[i]? = some (.val (conV g v))
def AtZ (X : MC) (g : GE) (E : AS) (nL pc : Nat) (ls st : List Value) (s : AS) : Prop :=
  ∀ (A : Array Slot) (H : Heap) (locs : List Loc), LVZ g ls A → ls.length = nL → Rep g s H → va_S (inW g) (xs X).heap H locs → (sX E ≤ sX s ∧ sZ E ≤ sZ s) → (xs X).heap.size + 1 = gB g + sX E → WX X H locs (sX s - sX E) (sZ s - sZ E) (F0 (xm X) pc A (st.map (conV g)))
theorem CtxZ.dec {X : MC} {g : GE} {M : MI} {cc : ByteArray} (C : CtxZ X g M cc) {pc len : Nat} {i : Instr} (h : M.1 pc = some (i, len)) (h0 : lenI i ≠ 0) : decode cc pc = .ok (i, lenI i) := by
  obtain ⟨h1, h2⟩ := C.2.2.2.2.1 pc i len h
  rcases h2 with h2 | h2
  · exact absurd h2 h0
  · rw [h1, h2]
theorem LVZ.get {g : GE} {ls : List Value} {A : Array Slot} (h : LVZ g ls A) {i : Nat} {v : Value} (hv : getV ls i = v) (hn : ∀ n, v ≠ .retAddr n) : A[i]? = some (.val (conV g v)) := by
  unfold getV at hv
  rw [List.getD_eq_getElem?_getD] at hv
  cases h1 : ls[i]? with
  | none =>
    rw [h1] at hv
    exact absurd hv.symm (hn 0)
  | some w =>
    rw [h1] at hv
    have e : w = v := hv
    subst e
    exact h.2.2 i w h1 hn
theorem jmp_int {pc : Nat} {o : Int} (h : 0 ≤ (pc : Int) + o) : (pc : Int) + o = ((jmp pc o : Nat) : Int) := by
  unfold jmp
  omega
section SIM
variable {X : MC} {g : GE} {M : MI} {cc : ByteArray} {E : AS} {pc len : Nat} {ls r : List Value} {s : AS}
theorem z_ii (C : CtxZ X g M cc) {i : Instr} (hM : M.1 pc = some (i, len)) {x y z : Int32} (h0 : lenI i = 1)
    (row : ∀ {A : Array Slot} {H : Heap} {locs : List Loc} {rest : List Value} {a b : Nat}, decode cc pc = .ok (i, 1) → WX X H locs a b (F0 (xm X) (pc + 1) A (.int z :: rest)) → WX X H locs a b (F0 (xm X) pc A (.int y :: .int x :: rest)))
    (k : AtZ X g E M.2.2.1 (pc + 1) ls (.int z :: r) s) : AtZ X g E M.2.2.1 pc ls (.int y :: .int x :: r) s := by
  intro A H locs h1 h2 h3 h4 h5 h6
  have hd := C.dec hM (by rw [h0]; decide)
  rw [h0] at hd
  exact row hd (k A H locs h1 h2 h3 h4 h5 h6)
theorem z_ll (C : CtxZ X g M cc) {i : Instr} (hM : M.1 pc = some (i, len)) {x y z : Int64} (h0 : lenI i = 1)
    (row : ∀ {A : Array Slot} {H : Heap} {locs : List Loc} {rest : List Value} {a b : Nat}, decode cc pc = .ok (i, 1) → WX X H locs a b (F0 (xm X) (pc + 1) A (.long z :: rest)) → WX X H locs a b (F0 (xm X) pc A (.long y :: .long x :: rest)))
    (k : AtZ X g E M.2.2.1 (pc + 1) ls (.long z :: r) s) : AtZ X g E M.2.2.1 pc ls (.long y :: .long x :: r) s := by
  intro A H locs h1 h2 h3 h4 h5 h6
  have hd := C.dec hM (by rw [h0]; decide)
  rw [h0] at hd
  exact row hd (k A H locs h1 h2 h3 h4 h5 h6)
theorem z_iadd (C : CtxZ X g M cc) (hM : M.1 pc = some (.iadd, len)) {x y : Int32} (k : AtZ X g E M.2.2.1 (pc + 1) ls (.int (x + y) :: r) s) : AtZ X g E M.2.2.1 pc ls (.int y :: .int x :: r) s := z_ii C hM rfl (fun hd kk => lv_iadd C.1 C.2.1 hd kk) k
theorem z_isub (C : CtxZ X g M cc) (hM : M.1 pc = some (.isub, len)) {x y : Int32} (k : AtZ X g E M.2.2.1 (pc + 1) ls (.int (x - y) :: r) s) : AtZ X g E M.2.2.1 pc ls (.int y :: .int x :: r) s := z_ii C hM rfl (fun hd kk => lv_isub C.1 C.2.1 hd kk) k
theorem z_imul (C : CtxZ X g M cc) (hM : M.1 pc = some (.imul, len)) {x y : Int32} (k : AtZ X g E M.2.2.1 (pc + 1) ls (.int (x * y) :: r) s) : AtZ X g E M.2.2.1 pc ls (.int y :: .int x :: r) s := z_ii C hM rfl (fun hd kk => lv_imul C.1 C.2.1 hd kk) k
theorem z_iand (C : CtxZ X g M cc) (hM : M.1 pc = some (.iand, len)) {x y : Int32} (k : AtZ X g E M.2.2.1 (pc + 1) ls (.int (x &&& y) :: r) s) : AtZ X g E M.2.2.1 pc ls (.int y :: .int x :: r) s := z_ii C hM rfl (fun hd kk => lv_iand C.1 C.2.1 hd kk) k
theorem z_ior (C : CtxZ X g M cc) (hM : M.1 pc = some (.ior, len)) {x y : Int32} (k : AtZ X g E M.2.2.1 (pc + 1) ls (.int (x ||| y) :: r) s) : AtZ X g E M.2.2.1 pc ls (.int y :: .int x :: r) s := z_ii C hM rfl (fun hd kk => lv_ior C.1 C.2.1 hd kk) k
theorem z_ishl (C : CtxZ X g M cc) (hM : M.1 pc = some (.ishl, len)) {x y : Int32} (k : AtZ X g E M.2.2.1 (pc + 1) ls (.int (x <<< (y &&& 31)) :: r) s) : AtZ X g E M.2.2.1 pc ls (.int y :: .int x :: r) s := z_ii C hM rfl (fun hd kk => lv_ishl C.1 C.2.1 hd kk) k
theorem z_ishr (C : CtxZ X g M cc) (hM : M.1 pc = some (.ishr, len)) {x y : Int32} (k : AtZ X g E M.2.2.1 (pc + 1) ls (.int (x >>> (y &&& 31)) :: r) s) : AtZ X g E M.2.2.1 pc ls (.int y :: .int x :: r) s := z_ii C hM rfl (fun hd kk => lv_ishr C.1 C.2.1 hd kk) k
theorem z_iushr (C : CtxZ X g M cc) (hM : M.1 pc = some (.iushr, len)) {x y : Int32} (k : AtZ X g E M.2.2.1 (pc + 1) ls (.int (x.toUInt32 >>> (y.toUInt32 &&& Int32.toUInt32 31)).toInt32 :: r) s) : AtZ X g E M.2.2.1 pc ls (.int y :: .int x :: r) s := z_ii C hM rfl (fun hd kk => lv_iushr C.1 C.2.1 hd rfl kk) k
theorem z_idiv (C : CtxZ X g M cc) (hM : M.1 pc = some (.idiv, len)) {x y : Int32} (hy : ¬ y = nI 0) (k : AtZ X g E M.2.2.1 (pc + 1) ls (.int (x / y) :: r) s) : AtZ X g E M.2.2.1 pc ls (.int y :: .int x :: r) s := z_ii C hM rfl (fun hd kk => lv_idiv C.1 C.2.1 hd hy kk) k
theorem z_irem (C : CtxZ X g M cc) (hM : M.1 pc = some (.irem, len)) {x y : Int32} (hy : ¬ y = nI 0) (k : AtZ X g E M.2.2.1 (pc + 1) ls (.int (x - x / y * y) :: r) s) : AtZ X g E M.2.2.1 pc ls (.int y :: .int x :: r) s := z_ii C hM rfl (fun hd kk => lv_irem C.1 C.2.1 hd hy kk) k
theorem z_ladd (C : CtxZ X g M cc) (hM : M.1 pc = some (.ladd, len)) {x y : Int64} (k : AtZ X g E M.2.2.1 (pc + 1) ls (.long (x + y) :: r) s) : AtZ X g E M.2.2.1 pc ls (.long y :: .long x :: r) s := z_ll C hM rfl (fun hd kk => lv_ladd C.1 C.2.1 hd kk) k
theorem z_lsub (C : CtxZ X g M cc) (hM : M.1 pc = some (.lsub, len)) {x y : Int64} (k : AtZ X g E M.2.2.1 (pc + 1) ls (.long (x - y) :: r) s) : AtZ X g E M.2.2.1 pc ls (.long y :: .long x :: r) s := z_ll C hM rfl (fun hd kk => lv_lsub C.1 C.2.1 hd kk) k
theorem z_lmul (C : CtxZ X g M cc) (hM : M.1 pc = some (.lmul, len)) {x y : Int64} (k : AtZ X g E M.2.2.1 (pc + 1) ls (.long (x * y) :: r) s) : AtZ X g E M.2.2.1 pc ls (.long y :: .long x :: r) s := z_ll C hM rfl (fun hd kk => lv_lmul C.1 C.2.1 hd kk) k
theorem z_ldiv (C : CtxZ X g M cc) (hM : M.1 pc = some (.ldiv, len)) {x y : Int64} (hy : ¬ y = lN 0) (k : AtZ X g E M.2.2.1 (pc + 1) ls (.long (x / y) :: r) s) : AtZ X g E M.2.2.1 pc ls (.long y :: .long x :: r) s := z_ll C hM rfl (fun hd kk => lv_ldiv C.1 C.2.1 hd hy kk) k
theorem z_lrem (C : CtxZ X g M cc) (hM : M.1 pc = some (.lrem, len)) {x y : Int64} (hy : ¬ y = lN 0) (k : AtZ X g E M.2.2.1 (pc + 1) ls (.long (x - x / y * y) :: r) s) : AtZ X g E M.2.2.1 pc ls (.long y :: .long x :: r) s := z_ll C hM rfl (fun hd kk => lv_lrem C.1 C.2.1 hd hy kk) k
theorem z_lcmp (C : CtxZ X g M cc) (hM : M.1 pc = some (.lcmp, len)) {x y : Int64} (k : AtZ X g E M.2.2.1 (pc + 1) ls (.int (lg_cmp x y) :: r) s) : AtZ X g E M.2.2.1 pc ls (.long y :: .long x :: r) s := by
  intro A H locs h1 h2 h3 h4 h5 h6
  exact W.lcmp C.1 C.2.1 (C.dec hM (by simp [lenI])) (k A H locs h1 h2 h3 h4 h5 h6)
theorem z_ineg (C : CtxZ X g M cc) (hM : M.1 pc = some (.ineg, len)) {x : Int32} (k : AtZ X g E M.2.2.1 (pc + 1) ls (.int (-x) :: r) s) : AtZ X g E M.2.2.1 pc ls (.int x :: r) s := by
  intro A H locs h1 h2 h3 h4 h5 h6
  exact lv_ineg C.1 C.2.1 (C.dec hM (by simp [lenI])) (k A H locs h1 h2 h3 h4 h5 h6)
theorem z_i2l (C : CtxZ X g M cc) (hM : M.1 pc = some (.i2l, len)) {x : Int32} (k : AtZ X g E M.2.2.1 (pc + 1) ls (.long x.toInt64 :: r) s) : AtZ X g E M.2.2.1 pc ls (.int x :: r) s := by
  intro A H locs h1 h2 h3 h4 h5 h6
  exact lv_i2l C.1 C.2.1 (C.dec hM (by simp [lenI])) rfl (k A H locs h1 h2 h3 h4 h5 h6)
theorem z_l2i (C : CtxZ X g M cc) (hM : M.1 pc = some (.l2i, len)) {x : Int64} (k : AtZ X g E M.2.2.1 (pc + 1) ls (.int x.toInt32 :: r) s) : AtZ X g E M.2.2.1 pc ls (.long x :: r) s := by
  intro A H locs h1 h2 h3 h4 h5 h6
  exact lv_l2i C.1 C.2.1 (C.dec hM (by simp [lenI])) rfl (k A H locs h1 h2 h3 h4 h5 h6)
theorem cat_con {v : Value} : (conV g v).category = v.category := by
  cases v with
  | ref n =>
    show (rfZ g n).category = 1
    unfold rfZ
    split <;> rfl
  | _ => rfl
theorem z_dup (C : CtxZ X g M cc) (hM : M.1 pc = some (.dup, len)) {v : Value} (hv : v.category = 1) (k : AtZ X g E M.2.2.1 (pc + 1) ls (v :: v :: r) s) : AtZ X g E M.2.2.1 pc ls (v :: r) s := by
  intro A H locs h1 h2 h3 h4 h5 h6
  exact lv_dup C.1 C.2.1 (C.dec hM (by simp [lenI])) (by rw [cat_con]; exact hv) (k A H locs h1 h2 h3 h4 h5 h6)
theorem z_dup2 (C : CtxZ X g M cc) (hM : M.1 pc = some (.dup2, len)) {v w : Value} (hv : v.category = 1) (hw : w.category = 1) (k : AtZ X g E M.2.2.1 (pc + 1) ls (v :: w :: v :: w :: r) s) : AtZ X g E M.2.2.1 pc ls (v :: w :: r) s := by
  intro A H locs h1 h2 h3 h4 h5 h6
  exact lv_dup2_11 C.1 C.2.1 (C.dec hM (by simp [lenI])) (by rw [cat_con]; exact hv) (by rw [cat_con]; exact hw) (k A H locs h1 h2 h3 h4 h5 h6)
theorem z_pop (C : CtxZ X g M cc) (hM : M.1 pc = some (.pop, len)) {v : Value} (hv : v.category = 1) (k : AtZ X g E M.2.2.1 (pc + 1) ls r s) : AtZ X g E M.2.2.1 pc ls (v :: r) s := by
  intro A H locs h1 h2 h3 h4 h5 h6
  exact lv_pop C.1 C.2.1 (C.dec hM (by simp [lenI])) (by rw [cat_con]; exact hv) (k A H locs h1 h2 h3 h4 h5 h6)
theorem ci32_ofInt (n : Int) : Int32.ofInt n = ci32 n := by
  cases n with
  | ofNat k => exact Int32.ofInt_eq_ofNat
  | negSucc k =>
    show Int32.ofInt (-((k + 1 : Nat) : Int)) = -(nI (k + 1))
    rw [Int32.ofInt_neg]
    congr 1
theorem z_iconst (C : CtxZ X g M cc) {n : Int} (hM : M.1 pc = some (.iconst n, len)) (k : AtZ X g E M.2.2.1 (pc + 1) ls (.int (ci32 n) :: r) s) : AtZ X g E M.2.2.1 pc ls r s := by
  intro A H locs h1 h2 h3 h4 h5 h6
  exact lv_iconst C.1 C.2.1 (C.dec hM (by simp [lenI])) (ci32_ofInt n) (k A H locs h1 h2 h3 h4 h5 h6)
theorem z_bipush (C : CtxZ X g M cc) {n : Int} (hM : M.1 pc = some (.bipush n, len)) (k : AtZ X g E M.2.2.1 (pc + 2) ls (.int (ci32 n) :: r) s) : AtZ X g E M.2.2.1 pc ls r s := by
  intro A H locs h1 h2 h3 h4 h5 h6
  have hj : -128 ≤ n ∧ n ≤ 127 := C.2.2.2.2.2.2.1 pc _ len hM
  refine lv_bipush C.1 C.2.1 (C.dec hM (by simp [lenI])) ?_ (k A H locs h1 h2 h3 h4 h5 h6)
  rw [← ci32_ofInt]
  apply Int32.toInt_inj.mp
  rw [Int8.toInt_toInt32, Int8.toInt_ofInt, Int32.toInt_ofInt]
  simp only [Int8.size, Int32.size]
  rw [Int.bmod_def, Int.bmod_def]
  omega
theorem z_sipush (C : CtxZ X g M cc) {n : Int} (hM : M.1 pc = some (.sipush n, len)) (k : AtZ X g E M.2.2.1 (pc + 3) ls (.int (ci32 n) :: r) s) : AtZ X g E M.2.2.1 pc ls r s := by
  intro A H locs h1 h2 h3 h4 h5 h6
  have hj : -32768 ≤ n ∧ n ≤ 32767 := C.2.2.2.2.2.2.1 pc _ len hM
  refine lv_sipush C.1 C.2.1 (C.dec hM (by simp [lenI])) ?_ (k A H locs h1 h2 h3 h4 h5 h6)
  rw [← ci32_ofInt]
  apply Int32.toInt_inj.mp
  rw [Int16.toInt_toInt32, Int16.toInt_ofInt, Int32.toInt_ofInt]
  simp only [Int16.size, Int32.size]
  rw [Int.bmod_def, Int.bmod_def]
  omega
theorem z_lconst (C : CtxZ X g M cc) {n : Fin 2} (hM : M.1 pc = some (.lconst n, len)) (k : AtZ X g E M.2.2.1 (pc + 1) ls (.long (lN n.val) :: r) s) : AtZ X g E M.2.2.1 pc ls r s := by
  intro A H locs h1 h2 h3 h4 h5 h6
  exact lv_lconst C.1 C.2.1 (C.dec hM (by simp [lenI])) rfl (k A H locs h1 h2 h3 h4 h5 h6)
theorem z_null (C : CtxZ X g M cc) (hM : M.1 pc = some (.aconst_null, len)) (k : AtZ X g E M.2.2.1 (pc + 1) ls (.ref 0 :: r) s) : AtZ X g E M.2.2.1 pc ls r s := by
  intro A H locs h1 h2 h3 h4 h5 h6
  exact lv_null C.1 C.2.1 (C.dec hM (by simp [lenI])) (k A H locs h1 h2 h3 h4 h5 h6)
theorem z_ldcI (C : CtxZ X g M cc) {n : Nat} (hM : M.1 pc = some (.ldc n, len)) {x : Int32} (hx : lkI M.2.1 n = some x) (k : AtZ X g E M.2.2.1 (pc + 2) ls (.int x :: r) s) : AtZ X g E M.2.2.1 pc ls r s := by
  intro A H locs h1 h2 h3 h4 h5 h6
  exact lv_ldc C.1 C.2.1 C.2.2.2.1 (C.2.2.2.2.2.2.2.1.2.2.2.1 n x hx) (C.dec hM (by simp [lenI])) (k A H locs h1 h2 h3 h4 h5 h6)
theorem z_ldcw (C : CtxZ X g M cc) {n : Nat} (hM : M.1 pc = some (.ldc_w n, len)) {x : Int32} (hx : lkI M.2.1 n = some x) (k : AtZ X g E M.2.2.1 (pc + 3) ls (.int x :: r) s) : AtZ X g E M.2.2.1 pc ls r s := by
  intro A H locs h1 h2 h3 h4 h5 h6
  exact lv_ldcw C.1 C.2.1 C.2.2.2.1 (C.2.2.2.2.2.2.2.1.2.2.2.1 n x hx) (C.dec hM (by simp [lenI])) (k A H locs h1 h2 h3 h4 h5 h6)
theorem z_ldc2 (C : CtxZ X g M cc) {n : Nat} (hM : M.1 pc = some (.ldc2_w n, len)) {x : Int64} (hx : lkL M.2.1 n = some x) (k : AtZ X g E M.2.2.1 (pc + 3) ls (.long x :: r) s) : AtZ X g E M.2.2.1 pc ls r s := by
  intro A H locs h1 h2 h3 h4 h5 h6
  exact lv_ldc2 C.1 C.2.1 C.2.2.2.1 (C.2.2.2.2.2.2.2.1.2.2.2.2.1 n x hx) (C.dec hM (by simp [lenI])) (k A H locs h1 h2 h3 h4 h5 h6)
theorem z_ldcS (C : CtxZ X g M cc) {n : Nat} (hM : M.1 pc = some (.ldc n, len)) {x : Nat} (hx : lkS M.2.1 n = some x) (k : AtZ X g E M.2.2.1 (pc + 2) ls (.ref (strB + x) :: r) s) : AtZ X g E M.2.2.1 pc ls r s := by
  intro A H locs h1 h2 h3 h4 h5 h6
  obtain ⟨q1, q2, q3⟩ := C.2.2.2.2.2.2.2.1.2.2.2.2.2 n x hx
  have hE : EnvZ g (xs X) (xa X) := C.2.2.2.2.2.2.2.2.1
  have hZ := hE.2.2.2.2.1.2 x q1
  have e : conV g (.ref (strB + x)) = .ref (gK g x) := by
    show rfZ g (strB + x) = _
    unfold rfZ adZ strB
    rw [if_neg (by omega), if_neg (by omega), if_neg (by omega), if_neg (by omega)]
    rw [show 1000002 + x - 1000002 = x by omega]
  have kk := k A H locs h1 h2 h3 h4 h5 h6
  rw [List.map_cons, e] at kk
  refine va_ldcS (own := "RecordHeap$Reader") (index := n) (q := gK g x) (tx := stZ.getD x "") C.1 C.2.1 ?_ ?_ (C.dec hM (by simp [lenI])) kk
  · rw [← q2]; exact C.2.2.2.1
  · rw [q3]; exact hZ
theorem z_load (C : CtxZ X g M cc) {i : Instr} (hM : M.1 pc = some (i, len)) {n j : Nat} {v : Value} (h0 : lenI i = n) (hn : n ≠ 0) (hv : getV ls j = v) (hr : ∀ n, v ≠ .retAddr n)
    (row : ∀ {A : Array Slot} {H : Heap} {locs : List Loc} {rest : List Value} {a b : Nat}, A[j]? = some (.val (conV g v)) → decode cc pc = .ok (i, n) → WX X H locs a b (F0 (xm X) (pc + n) A (conV g v :: rest)) → WX X H locs a b (F0 (xm X) pc A rest))
    (k : AtZ X g E M.2.2.1 (pc + n) ls (v :: r) s) : AtZ X g E M.2.2.1 pc ls r s := by
  intro A H locs h1 h2 h3 h4 h5 h6
  have hd := C.dec hM (by rw [h0]; exact hn)
  rw [h0] at hd
  exact row (h1.get hv hr) hd (k A H locs h1 h2 h3 h4 h5 h6)
end SIM
