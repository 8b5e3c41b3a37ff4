/-! THE LAW'S ENTRY: what the Statement gives, as a world of the small machine's -/
def R_law : String := "RecordHeapLaw"
def lw_P (b : Addr) (xs : List Int32) (args : Array Value) (s : State) : Prop := args = #[.ref b] ∧ s.IntsAt b xs ∧ xs.length ≤ 3072 ∧ (Jvm.Cond.and given_1 narrow_1).before args s = true
def lw_Q (_ : Array Value) (s : State) (o : Outcome) (t : State) : Prop := o = .returned (some (.int 1)) ∧ Framed s o t [] 600000 7302250
def lw_Z (below : List Frame) (a : Array Value) (s : State) : State → Prop := fun t => ∃ o, t.status = .running ∧ Ended t below o ∧ lw_Q a s o t
/-- the law's own end, with 1 on the stack, nothing written that was there before, its room as the claim has it -/
theorem lw_ret {p : Program} {l : Launch} {e : Env} {s : State} {m : MethodId} {below : List Frame} {meth : Method} {c : Code} {b : Nat} (hx : p.tables.exec = Jvm.exec) (hb : c.code = code) (hr : meth.sig.returnType = ret) (hlocks : meth.locks = false) {pc : Nat} {H : Heap} {ls : Array Slot} (hdg : decode code pc = .ok (.ireturn, 1)) : W p l e room_1 s m #[Value.ref b] below meth c H [] 600000 7302250 (lw_Z below #[Value.ref b] s) (F0 m pc ls [.int 1]) := by
  intro T hT X
  obtain ⟨fs, hret, hrun, hended, hW, hframe⟩ := X.leave (v := some (.int 1)) (hlocks := hlocks) (fun h => by rw [hr] at h; cases h)
  have hmeth' : T.vm.method? m = some meth := X.method'
  refine ⟨T.setFrames fs, ?_, .returned (some (.int 1)), hrun, hended, rfl, ⟨_, rfl⟩, hW, hframe⟩
  jvm_step X.here [X.here.top, hx, hb, hdg, hmeth', hr, ret, narrow_b1]
  (try refine ⟨rfl, ?_⟩); (try refine ⟨rfl, ?_⟩)
  first | (intro acts; rw [hret _ acts rfl rfl rfl]) | rw [hret _ _ rfl rfl rfl]
  exact Steps.refl _
/-- what holds at the law's entry: the machine, the code, the tables' words (any of lw_tbl by 'hts w (by decide +kernel)'), the script of L ints xs at the cell b, what the Statement gives of the start (any of its parts by flat_of_before) -/
def lw_At (p : Program) (s : State) (m : MethodId) (meth : Method) (c : Code) (b L : Nat) (xs : Nat → Int32) : Prop :=
  p.tables.exec = Jvm.exec ∧ c.code = code ∧ meth.sig.returnType = ret ∧ c.maxLocals = 4 ∧ s.vm.findClass R_law = some m.cls ∧ (∀ w ∈ lw_tbl, w.before #[Value.ref b] s = true) ∧ va_X b L xs s s.heap ∧ b < s.heap.size ∧ meth.locks = false ∧ (Jvm.Cond.and given_1 narrow_1).before #[Value.ref b] s = true
-- ===== YOUR PART BEGINS =====
/-- YOUR PART: from the entry, for every script of at most 3072 ints, the law comes to its end with true ('hflags': the launch's flags, for a law that throws: no stack traces) -/
def startA (L : Nat) (xs : Nat → Int32) : AS := (fun p j => if p = 1000000 then tmZ.getD j 0 else if p = 1000001 then xs j else nI 0, fun _ _ => lN 0, fun _ _ => 0, fun p => if p = 1000000 ∨ p = 1000001 then 30 else 0, fun p => if p = 1000000 then 3 else if p = 1000001 then L else 0, 1, 0)
/-- what is left to show: the law's model answers 1 on every script, within the room -/
def LawOK : Prop := ∀ (L : Nat) (xs : Nat → Int32), L ≤ 3072 → ∃ o : AS, f_Law_law (startA L xs) 1000001 = some (nI 1, o) ∧ sX o ≤ 600001 ∧ sZ o ≤ 7302250
theorem startRep {g : GE} {L : Nat} {xs : Nat → Int32} {H : Heap} (hN : gN g = L) (hX : gX g = xs) : Rep g (startA L xs) H := by
  refine ⟨fun k q h => ?_, ⟨Nat.le_refl _, (Nat.le_of_ble_eq_true rfl : 1 ≤ 900001)⟩, fun n h1 h2 => ?_, fun n h1 h2 h3 => ?_, ⟨rfl, rfl, fun j _ => ?_⟩, ⟨rfl, hN.symm, fun j _ => ?_⟩⟩
  · have : (wsZ g (startA L xs))[k]? = (none : Option (Nat × va_E)) := rfl
    rw [this] at h
    cases h
  · exact absurd h2 (Nat.not_lt.mpr h1)
  · show (if n = 1000000 ∨ n = 1000001 then 30 else 0) = 0
    rw [if_neg (fun h => h.elim h2 h3)]
  · show (if (1000000 : Nat) = 1000000 then tmZ.getD j 0 else if (1000000 : Nat) = 1000001 then xs j else nI 0) = _
    rw [if_pos rfl]
  · rw [hX]
    show (if (1000001 : Nat) = 1000000 then tmZ.getD j 0 else if (1000001 : Nat) = 1000001 then xs j else nI 0) = _
    rw [if_neg (by decide), if_pos rfl]
theorem findAO {s : State} {C : String} (h : va_AO C s) : ∃ cA : ClassId, ArrOfT s cA (.object C) ∧ va_RA s cA (.object C) := by
  obtain ⟨comp, cA, kA, f1, f0, f2, f3, f4⟩ := Cond.arrayOver_spec (args := #[]) (first := s) (o := none) (s := s) (idx := []) (n := C) h
  exact ⟨cA, fun N z => ⟨(fun k h => by cases h), kA, f2, comp, f3⟩, kA, comp, f2, f3, f1, f4⟩
theorem findPA {s : State} {args : Array Value} {ty : FieldType} (h : (Cond.arrayClass ty).before args s = true) : ∃ cA : ClassId, ArrOfT s cA ty ∧ s.vm.findClass ("[" ++ ty.toString) = some cA := by
  obtain ⟨cA, kA, comp, f1, f2, f3⟩ := Cond.arrayClass_spec h
  exact ⟨cA, fun N z => ⟨(fun k h => by cases h), kA, f2, comp, f3⟩, f1⟩
def nrT : List Cond := flatC (Jvm.Cond.and given_1 narrow_1)
abbrev tmS (i : Nat) : Term := Term.string "RecordHeap$Reader" (siZ.getD i 0)
theorem nr_ex : ∀ i, i < 18 → Cond.exactly (tmS i) "java/lang/String" ∈ nrT ∧ Cond.eq (.field (tmS i) "java/lang/String" "coder" "B") (.int 0) ∈ nrT ∧ Cond.arrayOf (.field (tmS i) "java/lang/String" "value" "[B") .byte ∈ nrT ∧ Cond.eq (.length (.field (tmS i) "java/lang/String" "value" "[B")) (.int (Int32.ofNat (lnZ.getD i 0))) ∈ nrT := by decide +kernel
theorem nr_el : ∀ i, i < 18 → ∀ j, j < lnZ.getD i 0 → Cond.eq (.elem (.field (tmS i) "java/lang/String" "value" "[B") (.int (Int32.ofNat j))) (.int ((byZ.getD i []).getD j 0)) ∈ nrT := by decide +kernel
def isNe : Cond → Option (Nat × Nat)
  | .not (.eq (.string o i) (.string o' j)) => if o = "RecordHeap$Reader" ∧ o' = "RecordHeap$Reader" then some (i, j) else none
  | _ => none
theorem isNe_ok {c : Cond} {q : Nat × Nat} (h : isNe c = some q) : c = Cond.not (Cond.eq (.string "RecordHeap$Reader" q.1) (.string "RecordHeap$Reader" q.2)) := by
  unfold isNe at h
  split at h
  · split at h
    · rename_i hc
      cases h
      rw [hc.1, hc.2]
    · cases h
  · cases h
def neL : List (Nat × Nat) := [(95, 97), (95, 155), (97, 155), (95, 157), (97, 157), (155, 157), (95, 159), (97, 159), (155, 159), (157, 159), (95, 161), (97, 161), (155, 161), (157, 161), (159, 161), (95, 151), (97, 151), (155, 151), (157, 151), (159, 151), (161, 151), (95, 153), (97, 153), (155, 153), (157, 153), (159, 153), (161, 153), (151, 153), (95, 118), (97, 118), (155, 118), (157, 118), (159, 118), (161, 118), (151, 118), (153, 118), (95, 120), (97, 120), (155, 120), (157, 120), (159, 120), (161, 120), (151, 120), (153, 120), (118, 120), (95, 121), (97, 121), (155, 121), (157, 121), (159, 121), (161, 121), (151, 121), (153, 121), (118, 121), (120, 121), (95, 110), (97, 110), (155, 110), (157, 110), (159, 110), (161, 110), (151, 110), (153, 110), (118, 110), (120, 110), (121, 110), (95, 137), (97, 137), (155, 137), (157, 137), (159, 137), (161, 137), (151, 137), (153, 137), (118, 137), (120, 137), (121, 137), (110, 137), (95, 139), (97, 139), (155, 139), (157, 139), (159, 139), (161, 139), (151, 139), (153, 139), (118, 139), (120, 139), (121, 139), (110, 139), (137, 139), (95, 141), (97, 141), (155, 141), (157, 141), (159, 141), (161, 141), (151, 141), (153, 141), (118, 141), (120, 141), (121, 141), (110, 141), (137, 141), (139, 141), (95, 143), (97, 143), (155, 143), (157, 143), (159, 143), (161, 143), (151, 143), (153, 143), (118, 143), (120, 143), (121, 143), (110, 143), (137, 143), (139, 143), (141, 143), (95, 129), (97, 129), (155, 129), (157, 129), (159, 129), (161, 129), (151, 129), (153, 129), (118, 129), (120, 129), (121, 129), (110, 129), (137, 129), (139, 129), (141, 129), (143, 129), (95, 71), (97, 71), (155, 71), (157, 71), (159, 71), (161, 71), (151, 71), (153, 71), (118, 71), (120, 71), (121, 71), (110, 71), (137, 71), (139, 71), (141, 71), (143, 71), (129, 71)]
theorem neL_eq : nrT.filterMap isNe = neL := by decide +kernel
def neH (a b : Nat) : Bool := neL.any (fun q => Nat.beq q.1 a && Nat.beq q.2 b)
theorem neH_in {a b : Nat} (h : neH a b = true) : (a, b) ∈ neL := by
  obtain ⟨q, hq, h1⟩ := List.any_eq_true.mp h
  obtain ⟨x, y⟩ := q
  have h2 := Bool.and_eq_true_iff.mp h1
  have h3 : x = a := Nat.eq_of_beq_eq_true h2.1
  have h4 : y = b := Nat.eq_of_beq_eq_true h2.2
  rw [← h3, ← h4]
  exact hq
theorem neL_all : ∀ i, i < 18 → ∀ j, j < 18 → i ≠ j → neH (siZ.getD i 0) (siZ.getD j 0) = true ∨ neH (siZ.getD j 0) (siZ.getD i 0) = true := by decide +kernel
theorem neL_in {a b : Nat} (h : (a, b) ∈ neL) : Cond.not (Cond.eq (.string "RecordHeap$Reader" a) (.string "RecordHeap$Reader" b)) ∈ nrT := by
  rw [← neL_eq] at h
  obtain ⟨c, hc, hq⟩ := List.mem_filterMap.mp h
  rw [isNe_ok hq] at hc
  exact hc
theorem nr_ne (i : Nat) (hi : i < 18) (j : Nat) (hj : j < 18) (hne : i ≠ j) : Cond.not (Cond.eq (tmS i) (tmS j)) ∈ nrT ∨ Cond.not (Cond.eq (tmS j) (tmS i)) ∈ nrT := (neL_all i hi j hj hne).imp (fun h => neL_in (neH_in h)) (fun h => neL_in (neH_in h))
theorem nr_tm : Cond.arrayOf (.static "RecordHeap" "TERM_MOST" "[I") .int ∈ nrT ∧ Cond.eq (.length (.static "RecordHeap" "TERM_MOST" "[I")) (.int (Int32.ofNat 3)) ∈ nrT ∧ (∀ j, j < 3 → Cond.eq (.elem (.static "RecordHeap" "TERM_MOST" "[I") (.int (Int32.ofNat j))) (.int (tmZ.getD j 0)) ∈ nrT) ∧
  Cond.eq (.static "java/lang/String" "COMPACT_STRINGS" "Z") (.int 1) ∈ nrT ∧ Cond.isRef (.static "jdk/internal/util/Preconditions" "SIOOBE_FORMATTER" "Ljava/util/function/BiFunction;") ∈ nrT := by decide +kernel
theorem lw_st : Cond.laysStatic "RecordHeap" "TERM_MOST" "[I" ∈ lw_tbl ∧ Cond.initialized "RecordHeap" ∈ lw_tbl ∧ Cond.laysStatic "java/lang/String" "COMPACT_STRINGS" "Z" ∈ lw_tbl ∧ Cond.initialized "java/lang/String" ∈ lw_tbl ∧ Cond.laysStatic "jdk/internal/util/Preconditions" "SIOOBE_FORMATTER" "Ljava/util/function/BiFunction;" ∈ lw_tbl ∧ Cond.initialized "jdk/internal/util/Preconditions" ∈ lw_tbl := by decide +kernel
theorem lw_ao : Cond.arrayOver (.object "RecordHeap$Image") ∈ lw_tbl ∧ Cond.arrayOver (.object "RecordHeap$Pages") ∈ lw_tbl ∧ Cond.arrayOver (.object "RecordHeap$Text") ∈ lw_tbl ∧ Cond.castable "[I" "java/lang/Cloneable" ∈ lw_tbl := by decide +kernel
theorem lw_sr : ∀ i, i < 18 → Cond.stringRef "RecordHeap$Reader" (siZ.getD i 0) (stZ.getD i "") ∈ lw_tbl := by decide +kernel
