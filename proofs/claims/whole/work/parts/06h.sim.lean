/-! A WHOLE METHOD: what a run of the small machine ends with, the real one ends with -/
def EnvP (g : GE) (U : State) : Prop :=
  va_K (gD g) clsZ (tysZ g) U ∧ (∀ w ∈ nestZ, va_Nw w U) ∧ (va_AO "RecordHeap$Image" U ∧ va_AO "RecordHeap$Pages" U ∧ va_AO "RecordHeap$Text" U ∧ va_Nw (.castable "[I" "java/lang/Cloneable") U) ∧
  (vk_S 18 lnZ byZ (gK g) (gV g) (inW g) U U.heap ∧ ∀ i, i < 18 → vk_R "RecordHeap$Reader" (siZ.getD i 0) (stZ.getD i "") (gK g i) U) ∧
  (va_T .int (gT g) 3 (fun j => .int (tmZ.getD j 0)) (inW g) U U.heap ∧ va_Z "RecordHeap" "TERM_MOST" "[I" (.ref (gT g)) (inW g) U U.heap) ∧
  (va_X (gS g) (gN g) (gX g) U U.heap ∧ gS g < gB g ∧ gN g < 2 ^ 31) ∧
  (va_Z "java/lang/String" "COMPACT_STRINGS" "Z" (.int 1) (inW g) U U.heap ∧ va_Zq "jdk/internal/util/Preconditions" "SIOOBE_FORMATTER" "Ljava/util/function/BiFunction;" (inW g) U U.heap) ∧ gB g ≤ U.heap.size
theorem EnvP.env {g : GE} {U : State} {ar : Array Value} (h : EnvP g U) (ht : ∀ w ∈ TsZ, w.before ar U = true) : EnvZ g U ar := ⟨h.1, ht, h.2⟩
theorem EnvZ.envP {g : GE} {U : State} {ar : Array Value} (h : EnvZ g U ar) : EnvP g U := ⟨h.1, h.2.2⟩
theorem EnvP.go {g : GE} {s U : State} {H : Heap} {locs : List Loc} (h : EnvP g s) (hS : va_S (inW g) s.heap H locs) (hU : U.heap = H) (hW : s.WarmedH U.vm) : EnvP g U := by
  obtain ⟨h1, h2, ⟨h3, h4, h5, h6⟩, ⟨h7, h8⟩, ⟨h9, h10⟩, ⟨h11, h12, h13⟩, ⟨h14, h15⟩, h16⟩ := h
  unfold EnvP
  rw [hU]
  refine ⟨va_K.moved hW.alike h1, fun w hw => ?_, ⟨va_AO.moved hW.alike h3, va_AO.moved hW.alike h4, va_AO.moved hW.alike h5, va_Nw.warmC hW h6⟩, ⟨vk_S.moved hW.alike (h7.kept hS.2.1), fun i hi => vk_R.warm hW (h8 i hi)⟩, ⟨va_T.moved hW.alike (h9.kept hS.2.1), va_Z.moved hW.alike (h10.kept hS.2.1)⟩,
    ⟨va_X.moved hW.alike (h11.kept (hS.2.1 _ (Nat.lt_of_lt_of_le h12 h16) (Nat.not_le.mpr h12))), h12, h13⟩, ⟨va_Z.moved hW.alike (h14.kept hS.2.1), va_Zq.moved hW.alike (h15.kept hS.2.1)⟩, Nat.le_trans h16 hS.1⟩
  have hn := h2 w hw
  have hi : isNest w = true := (List.mem_filter.mp hw).2
  cases w <;> first | exact va_Nw.warmF hW hn | exact va_Nw.warmM hW hn | cases hi
theorem EnvP.same {g : GE} {u U : State} (h : EnvP g u) (hh : U.heap = u.heap) (hv : U.vm = u.vm) : EnvP g U := by
  have al : u.vm.Alike U.vm := by rw [hv]; exact Vm.Alike.refl _
  obtain ⟨h1, h2, ⟨h3, h4, h5, h6⟩, ⟨h7, h8⟩, ⟨h9, h10⟩, ⟨h11, h12, h13⟩, ⟨h14, h15⟩, h16⟩ := h
  unfold EnvP
  rw [hh]
  refine ⟨va_K.moved al h1, fun w hw => ?_, ⟨va_AO.moved al h3, va_AO.moved al h4, va_AO.moved al h5, va_Nw.same rfl hv.symm h6⟩, ⟨vk_S.moved al h7, fun i hi => vk_R.same hv (h8 i hi)⟩, ⟨va_T.moved al h9, va_Z.moved al h10⟩, ⟨va_X.moved al h11, h12, h13⟩, ⟨va_Z.moved al h14, va_Zq.moved al h15⟩, h16⟩
  have hn := h2 w hw
  have hi : isNest w = true := (List.mem_filter.mp hw).2
  cases w <;> first | exact va_Nw.same rfl hv.symm hn | cases hi
def PcZ (g : GE) (av : List Value) (s : AS) : Array Value → State → Prop := va_Pc (av.map (conV g)) (fun U => EnvP g U ∧ Rep g s U.heap ∧ U.heap.size + 1 = gB g + sX s)
theorem blindZ {g : GE} {av : List Value} {s : AS} : FrameBlind (PcZ g av s) := by
  intro a U f mk h
  obtain ⟨h1, h2, h3, h4⟩ := h
  exact ⟨h1, h2.same (U := U.calling f mk a) rfl rfl, h3, h4⟩
def QcZ (g : GE) (out : Option Value × AS) : Array Value → State → Outcome → State → Prop := fun _ st o t => o = .returned (out.1.map (conV g)) ∧ Rep g out.2 t.heap ∧ (∀ q, q < gB g → t.heap[q]? = st.heap[q]?) ∧ st.heap.size ≤ t.heap.size
abbrev rmZ (d k n : Nat) : Room := { frames := d + 6, cells := k, slots := n, locals := 64 * (d + 6) }
abbrev wZ (x : Nat) : List Cond := Cond.code (yZ x) (bZ x) (methZ x).2.2.1 (rZ x) :: TsZ
def RetZ (x : Nat) : Prop := match (methZ x).2.2.2 with
  | 0 => rZ x = none
  | 1 => rZ x = some .int
  | 2 => rZ x = some .boolean
  | 3 => rZ x = some .long
  | _ => (∃ n, rZ x = some (.object n)) ∨ ∃ t, rZ x = some (.array t)
/-- what the tables say of a method; of an owner's links -/
def MOK (x : Nat) : Prop := plainName (yZ x).cls = true ∧ (yZ x).cls = ownZ (methZ x).2.1 ∧ Cond.code (yZ x) (bZ x) (methZ x).2.2.1 (rZ x) ∈ TsZ ∧ DecZ (methZ x) (bZ x) ∧ FinZ (methZ x) (yZ x).name ∧ JmpZ (methZ x) ∧ (methZ x).2.2.1 ≤ 45 ∧ ((yZ x).cls ≠ "java/lang/invoke/MethodHandle" ∧ (yZ x).cls ≠ "java/lang/invoke/VarHandle") ∧ Cond.initialized (yZ x).cls ∈ TsZ ∧ RetZ x ∧ (methZ x).2.1 < 16
def COK (o : Nat) : Prop := ∀ k how x na, lkC o k = some (how, x, na) → how ≠ 0 → x < 271 ∧ (parseMethodDescriptor (yZ x).desc).map (fun d => d.parameters.length) = some na ∧ (Cond.methodLink (ownZ o) k (yZ x) ∈ TsZ ∨ ∃ h, Cond.methodLinkNest (ownZ o) k (yZ x) h ∈ nestZ) ∧ (how = 1 → Cond.static (yZ x) ∈ TsZ) ∧ (how = 2 → Cond.instanceMethod (yZ x) ∈ TsZ ∧ Cond.selects (yZ x).cls (yZ x) (yZ x) ∈ TsZ ∧ (methZ x).2.1 < 13) ∧ (how = 3 → Cond.instanceMethod (yZ x) ∈ TsZ ∧ (yZ x).name = "<init>" ∧ rZ x = none)
/-- the links' words, in the tables -/
def LOK (o : Nat) : Prop :=
  (∀ k x, lkF o k = some x → x.2.2 ≠ 9 → x.1 < 13 ∧ (fkZ x.1)[x.2.1]? = some x.2.2 ∧ (Cond.fieldLink (ownZ o) k (clC x.1) (clT x.1 x.2.1).2.1 (clT x.1 x.2.1).2.2.1 ∈ TsZ ∨ ∃ h, Cond.fieldLinkNest (ownZ o) k (clC x.1) (clT x.1 x.2.1).2.1 (clT x.1 x.2.1).2.2.1 h ∈ nestZ ∧ clC x.1 ≠ ownZ o)) ∧
  (∀ k x, lkF o k = some x → x.2.2 = 9 → Cond.fieldLink (ownZ o) k "RecordHeap" "TERM_MOST" "[I" ∈ TsZ) ∧
  (∀ k x, lkN o k = some x → (x < 13 ∧ Cond.classLink (ownZ o) k (clC x) ∈ TsZ) ∨ (x = 99 ∧ Cond.classLink (ownZ o) k "[I" ∈ TsZ)) ∧
  (∀ k x, lkI o k = some x → Cond.constant (ownZ o) k x ∈ TsZ) ∧ (∀ k x, lkL o k = some x → Cond.constantLong (ownZ o) k x ∈ TsZ) ∧
  (∀ k x, lkS o k = some x → x < 18 ∧ ownZ o = "RecordHeap$Reader" ∧ k = siZ.getD x 0)
def POK (o : Nat) : Prop := ∀ k x na, lkC o k = some (0, x, na) → (match x with
  | 0 => Cond.methodLink (ownZ o) k objectInit ∈ TsZ ∧ Cond.instanceMethod objectInit ∈ TsZ ∧ Cond.code objectInit ⟨#[0xb1]⟩ 1 none ∈ TsZ
  | 1 => Cond.methodLink (ownZ o) k Lib.Math.max.name ∈ TsZ ∧ Cond.static Lib.Math.max.name ∈ TsZ ∧ Cond.initialized "java/lang/Math" ∈ TsZ ∧ Cond.code Lib.Math.max.name Lib.Math.max.code 2 (some .int) ∈ TsZ
  | 2 => Cond.methodLink (ownZ o) k Lib.Math.min.name ∈ TsZ ∧ Cond.static Lib.Math.min.name ∈ TsZ ∧ Cond.initialized "java/lang/Math" ∈ TsZ ∧ Cond.code Lib.Math.min.name Lib.Math.min.code 2 (some .int) ∈ TsZ
  | 3 => Cond.methodLink (ownZ o) k Lib.MathLoose.max_long.x ∈ TsZ ∧ Cond.static Lib.MathLoose.max_long.x ∈ TsZ ∧ Cond.initialized "java/lang/Math" ∈ TsZ ∧ Cond.code Lib.MathLoose.max_long.x Lib.MathLoose.max_long.code 4 (some .long) ∈ TsZ
  | 4 => Cond.methodLink (ownZ o) k Lib.MathLoose.min_long.x ∈ TsZ ∧ Cond.static Lib.MathLoose.min_long.x ∈ TsZ ∧ Cond.initialized "java/lang/Math" ∈ TsZ ∧ Cond.code Lib.MathLoose.min_long.x Lib.MathLoose.min_long.code 4 (some .long) ∈ TsZ
  | 5 => Cond.methodLink (ownZ o) k arraycopyName ∈ TsZ ∧ Cond.native arraycopyName ∈ TsZ ∧ Cond.static arraycopyName ∈ TsZ ∧ Cond.initialized "java/lang/System" ∈ TsZ
  | 6 => Cond.methodLink (ownZ o) k ⟨"java/lang/String", "length", "()I"⟩ ∈ TsZ
  | 7 => Cond.methodLink (ownZ o) k ⟨"java/lang/String", "charAt", "(I)C"⟩ ∈ TsZ
  | 8 => Cond.methodLink (ownZ o) k ⟨"[I", "clone", "()Ljava/lang/Object;"⟩ ∈ TsZ ∧ Cond.sameMethod "[I" "java/lang/Object" "clone" "()Ljava/lang/Object;" ∈ TsZ ∧ Cond.native ⟨"java/lang/Object", "clone", "()Ljava/lang/Object;"⟩ ∈ TsZ ∧ Cond.instanceMethod ⟨"java/lang/Object", "clone", "()Ljava/lang/Object;"⟩ ∈ TsZ ∧ Cond.selects "[I" ⟨"[I", "clone", "()Ljava/lang/Object;"⟩ ⟨"java/lang/Object", "clone", "()Ljava/lang/Object;"⟩ ∈ TsZ
  | _ => False)
theorem LOK.lnk {o : Nat} (h : LOK o) {s0 : State} {ar : Array Value} (ht : ∀ w ∈ TsZ, w.before ar s0 = true) (hn : ∀ w ∈ nestZ, va_Nw w s0) : LnkZ o s0 ar := by
  obtain ⟨h1, h2, h3, h4, h5, h6⟩ := h
  refine ⟨fun k x hx h9 => ?_, fun k x hx h9 => ht _ (h2 k x hx h9), fun k x hx => ?_, fun k x hx => ht _ (h4 k x hx), fun k x hx => ht _ (h5 k x hx), h6⟩
  · obtain ⟨q1, q2, q3⟩ := h1 k x hx h9
    refine ⟨q1, q2, ?_⟩
    rcases q3 with q3 | ⟨hh, q3, q4⟩
    · exact Or.inl (ht _ q3)
    · exact Or.inr ⟨hh, va_Nw.use rfl (hn _ q3), q4⟩
  · rcases h3 k x hx with ⟨q1, q2⟩ | ⟨q1, q2⟩
    · exact Or.inl ⟨q1, ht _ q2⟩
    · exact Or.inr ⟨q1, ht _ q2⟩
theorem POK.prm {o : Nat} (h : POK o) {s0 : State} {ar : Array Value} (ht : ∀ w ∈ TsZ, w.before ar s0 = true) : PrmZ o s0 ar := by
  intro k x na hx
  have hq := h k x na hx
  match x, hq with
  | 0, hq => exact ⟨ht _ hq.1, ht _ hq.2.1, ht _ hq.2.2⟩
  | 1, hq => exact ⟨ht _ hq.1, ht _ hq.2.1, ht _ hq.2.2.1, ht _ hq.2.2.2⟩
  | 2, hq => exact ⟨ht _ hq.1, ht _ hq.2.1, ht _ hq.2.2.1, ht _ hq.2.2.2⟩
  | 3, hq => exact ⟨ht _ hq.1, ht _ hq.2.1, ht _ hq.2.2.1, ht _ hq.2.2.2⟩
  | 4, hq => exact ⟨ht _ hq.1, ht _ hq.2.1, ht _ hq.2.2.1, ht _ hq.2.2.2⟩
  | 5, hq => exact ⟨ht _ hq.1, ht _ hq.2.1, ht _ hq.2.2.1, ht _ hq.2.2.2⟩
  | 6, hq => exact ht _ hq
  | 7, hq => exact ht _ hq
  | 8, hq => exact ⟨ht _ hq.1, ht _ hq.2.1, ht _ hq.2.2.1, ht _ hq.2.2.2.1, ht _ hq.2.2.2.2⟩
  | _ + 9, hq => exact hq
/-- all that the tables say -/
def AllZ : Prop := (∀ c, c < 13 → ClsZ c) ∧ (∀ x, x < 271 → MOK x) ∧ (∀ o, o < 16 → COK o ∧ LOK o ∧ POK o) ∧ (Cond.arrayClass .int ∈ TsZ ∧ Cond.arrayClass .long ∈ TsZ ∧ Cond.arrayClass .boolean ∈ TsZ)
/-! the small machine makes, and never takes away -/
theorem step1_mono (M : MI) (c : Cf) : (step1 M c).1 → sX c.2.2.2 ≤ sX (step1 M c).2.2.2.2 ∧ sZ c.2.2.2 ≤ sZ (step1 M c).2.2.2.2 := by
  obtain ⟨pc, ls, st, s⟩ := c
  have key : ∀ (s' : AS) (t n : Nat), s' = newA s t n → sX s ≤ sX s' ∧ sZ s ≤ sZ s' := by
    intro s' t n h
    rw [h]
    exact ⟨Nat.le_succ _, Nat.le_add_right _ _⟩
  show (stepC M True pc ls st s (fun g pc ls st s => (g, (pc, ls, st, s))) badC).1 → _ ≤ sX (stepC M True pc ls st s (fun g pc ls st s => (g, (pc, ls, st, s))) badC).2.2.2.2 ∧ _ ≤ sZ (stepC M True pc ls st s (fun g pc ls st s => (g, (pc, ls, st, s))) badC).2.2.2.2
  unfold stepC
  split
  · unfold stepI
    split <;> (try simp only [ii2, ll2, ldI, ldJ, ldR, stI, stR, stJ, stepP, stepQ, stepF, stepU, cond_eq_ite]) <;> (repeat' split) <;> intro h <;> first
      | exact ⟨Nat.le_refl _, Nat.le_refl _⟩
      | exact ⟨Nat.le_succ _, Nat.le_add_right _ _⟩
      | exact absurd h id
  · intro h; exact absurd h id
theorem Run_mono : ∀ (n d : Nat) (M : MI) (c : Cf) (out : Option Value × AS), Run n d M c out → sX c.2.2.2 ≤ sX out.2 ∧ sZ c.2.2.2 ≤ sZ out.2 := by
  intro n
  induction n with
  | zero => intro d M c out h; exact h.elim
  | succ n ih =>
    intro d M c out h
    rcases h with ⟨h1, h2⟩ | ⟨h1, h2⟩ | ⟨how, x, na, e, as, r, v, s1, h1, h2, h3, h4, h5, hw, hi, h6, h7⟩
    · rw [h2]
      exact ⟨Nat.le_refl _, Nat.le_refl _⟩
    · have q1 := step1_mono M c h1
      have q2 := ih _ _ _ _ h2
      omega
    · have q1 := ih _ _ _ _ h6
      have q2 := ih _ _ _ _ h7
      dsimp only at q1 q2
      omega
