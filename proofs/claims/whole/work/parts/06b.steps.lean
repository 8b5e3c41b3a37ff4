/-! STEPS: locals, branches, switches -/
def lvl (g : GE) (ls : List Value) : List (Nat × Value) := (ls.zipIdx.filter (fun x => match x.1 with | .retAddr _ => false | _ => true)).map (fun x => (x.2, conV g x.1))
theorem lvl_mem {g : GE} {ls : List Value} {i : Nat} {v : Value} (h : ls[i]? = some v) (hn : ∀ n, v ≠ .retAddr n) : (i, conV g v) ∈ lvl g ls := by
  unfold lvl
  refine List.mem_map.mpr ⟨(v, i), List.mem_filter.mpr ⟨?_, ?_⟩, rfl⟩
  · exact List.mem_zipIdx_iff_getElem?.mpr (by simpa using h)
  · cases v <;> first | rfl | exact absurd rfl (hn _)
theorem LVZ.has {g : GE} {ls : List Value} {A : Array Slot} (h : LVZ g ls A) : lv_has A ls.length (lvl g ls) := by
  refine ⟨h.1, h.2.1, fun q hq => ?_⟩
  unfold lvl at hq
  obtain ⟨x, hx, rfl⟩ := List.mem_map.mp hq
  obtain ⟨h1, h2⟩ := List.mem_filter.mp hx
  have h3 : ls[x.2]? = some x.1 := by simpa using List.mem_zipIdx_iff_getElem?.mp h1
  refine h.2.2 x.2 x.1 h3 (fun n e => ?_)
  rw [e] at h2
  cases h2
theorem setV_len : ∀ (ls : List Value) (i : Nat) (v : Value), (setV ls i v).length = ls.length
  | [], _, _ => rfl
  | _ :: _, 0, _ => rfl
  | a :: l, 1, v => by show (setV l 0 v).length + 1 = _; rw [setV_len l 0 v]; rfl
  | a :: l, n + 2, v => by show (setV l (n + 1) v).length + 1 = _; rw [setV_len l (n + 1) v]; rfl
theorem setV_get : ∀ (ls : List Value) (i : Nat) (v : Value) (j : Nat), (setV ls i v)[j]? = if j = i ∧ i < ls.length then some v else if j + 1 = i ∧ i < ls.length + 1 then (ls[j]?).map clrV else ls[j]?
  | [], i, v, j => by
    show ([] : List Value)[j]? = _
    by_cases h : j + 1 = i ∧ i < 0 + 1 <;> simp
  | a :: l, 0, v, j => by
    show (v :: l)[j]? = _
    cases j with
    | zero => simp
    | succ j => simp
  | a :: l, 1, v, j => by
    show (clrV a :: setV l 0 v)[j]? = _
    cases j with
    | zero => simp
    | succ j =>
      rw [List.getElem?_cons_succ, setV_get l 0 v j]
      simp only [List.length_cons, List.getElem?_cons_succ]
      (repeat' split) <;> first | rfl | (exfalso; omega)
  | a :: l, n + 2, v, j => by
    show (a :: setV l (n + 1) v)[j]? = _
    cases j with
    | zero => simp
    | succ j =>
      rw [List.getElem?_cons_succ, setV_get l (n + 1) v j]
      simp only [List.length_cons, List.getElem?_cons_succ]
      (repeat' split) <;> first | rfl | (exfalso; omega)
theorem clrV_spec {w v : Value} (h : clrV w = v) (hn : ∀ n, v ≠ .retAddr n) : w = v ∧ ¬ w.category = 2 := by
  cases w <;> simp only [clrV] at h <;> first | exact absurd h.symm (hn _) | exact ⟨h, by simp [Value.category]⟩
theorem LVZ.setV {g : GE} {ls : List Value} {A A' : Array Slot} {i : Nat} {x : Value} (h : LVZ g ls A) (hi : i < ls.length) (h' : lv_has A' ls.length ((i, conV g x) :: (lvl g ls).filter (fun q => !(q.1 == i) && !(q.1 + 1 == i && q.2.category == 2)))) : LVZ g (Jvm.Pilot.CRecordHeapLaw_law_r2635_5d75a2.setV ls i x) A' := by
  refine ⟨by rw [setV_len]; exact h'.1, h'.2.1, fun j v hj hn => ?_⟩
  rw [setV_get] at hj
  refine h'.2.2 (j, conV g v) ?_
  by_cases h1 : j = i ∧ i < ls.length
  · rw [if_pos h1] at hj
    cases hj
    rw [h1.1]
    exact List.mem_cons_self
  · rw [if_neg h1] at hj
    refine List.mem_cons_of_mem _ ?_
    have hne : j ≠ i := fun q => h1 ⟨q, hi⟩
    by_cases h2 : j + 1 = i ∧ i < ls.length + 1
    · rw [if_pos h2] at hj
      cases hw : ls[j]? with
      | none => rw [hw] at hj; cases hj
      | some w =>
        rw [hw] at hj
        obtain ⟨e1, e2⟩ := clrV_spec (Option.some.inj hj) hn
        rw [← e1]
        refine List.mem_filter.mpr ⟨lvl_mem hw (by rw [e1]; exact hn), ?_⟩
        simp [hne, cat_con, e2]
    · rw [if_neg h2] at hj
      refine List.mem_filter.mpr ⟨lvl_mem hj hn, ?_⟩
      have : j + 1 ≠ i := fun q => h2 ⟨q, by omega⟩
      simp [hne, this]
theorem setW_len : ∀ (ls : List Value) (i : Nat) (v : Value), (setW ls i v).length = ls.length
  | [], _, _ => rfl
  | _ :: l, 0, v => by show (setV l 0 _).length + 1 = _; rw [setV_len]; rfl
  | a :: l, 1, v => by show (setW l 0 v).length + 1 = _; rw [setW_len l 0 v]; rfl
  | a :: l, n + 2, v => by show (setW l (n + 1) v).length + 1 = _; rw [setW_len l (n + 1) v]; rfl
theorem setW_get : ∀ (ls : List Value) (i : Nat) (v : Value) (j : Nat), i + 1 < ls.length → (setW ls i v)[j]? = if j = i then some v else if j = i + 1 then some (.retAddr 0) else if j + 1 = i then (ls[j]?).map clrV else ls[j]?
  | [], i, v, j, h => by cases h
  | a :: l, 0, v, j, h => by
    show (v :: setV l 0 _)[j]? = _
    have hl : 1 < l.length + 1 := h
    cases j with
    | zero => simp
    | succ j =>
      rw [List.getElem?_cons_succ, setV_get]
      simp only [List.getElem?_cons_succ]
      (repeat' split) <;> first | rfl | (exfalso; omega)
  | a :: l, 1, v, j, h => by
    show (clrV a :: setW l 0 v)[j]? = _
    have hl : 1 + 1 < l.length + 1 := h
    cases j with
    | zero => simp
    | succ j =>
      rw [List.getElem?_cons_succ, setW_get l 0 v j (by omega)]
      simp only [List.getElem?_cons_succ]
      (repeat' split) <;> first | rfl | (exfalso; omega)
  | a :: l, n + 2, v, j, h => by
    show (a :: setW l (n + 1) v)[j]? = _
    have hl : n + 2 + 1 < l.length + 1 := h
    cases j with
    | zero => simp
    | succ j =>
      rw [List.getElem?_cons_succ, setW_get l (n + 1) v j (by omega)]
      simp only [List.getElem?_cons_succ]
      (repeat' split) <;> first | rfl | (exfalso; omega)
theorem LVZ.setW {g : GE} {ls : List Value} {A A' : Array Slot} {i : Nat} {x : Value} (h : LVZ g ls A) (hi : i + 1 < ls.length) (h' : lv_has A' ls.length ((i, conV g x) :: (lvl g ls).filter (fun q => !(q.1 == i) && (!(q.1 == i + 1) && !(q.1 + 1 == i && q.2.category == 2))))) : LVZ g (Jvm.Pilot.CRecordHeapLaw_law_r2635_5d75a2.setW ls i x) A' := by
  refine ⟨by rw [setW_len]; exact h'.1, h'.2.1, fun j v hj hn => ?_⟩
  rw [setW_get _ _ _ _ hi] at hj
  refine h'.2.2 (j, conV g v) ?_
  by_cases h1 : j = i
  · rw [if_pos h1] at hj
    cases hj
    rw [h1]
    exact List.mem_cons_self
  · rw [if_neg h1] at hj
    refine List.mem_cons_of_mem _ ?_
    by_cases h3 : j = i + 1
    · rw [if_pos h3] at hj
      cases hj
      exact absurd rfl (hn 0)
    · rw [if_neg h3] at hj
      by_cases h2 : j + 1 = i
      · rw [if_pos h2] at hj
        cases hw : ls[j]? with
        | none => rw [hw] at hj; cases hj
        | some w =>
          rw [hw] at hj
          obtain ⟨e1, e2⟩ := clrV_spec (Option.some.inj hj) hn
          rw [← e1]
          refine List.mem_filter.mpr ⟨lvl_mem hw (by rw [e1]; exact hn), ?_⟩
          simp [h1, h3, cat_con, e2]
      · rw [if_neg h2] at hj
        refine List.mem_filter.mpr ⟨lvl_mem hj hn, ?_⟩
        simp [h1, h2, h3]
theorem getV_lt {ls : List Value} {i : Nat} {v : Value} (h : getV ls i = v) (hn : ∀ n, v ≠ .retAddr n) : i < ls.length := by
  rcases Nat.lt_or_ge i ls.length with q | q
  · exact q
  · unfold getV at h
    rw [List.getD_eq_getElem?_getD, List.getElem?_eq_none q] at h
    exact absurd h.symm (hn 0)
section SIM2
variable {X : MC} {g : GE} {M : MI} {cc : ByteArray} {E : AS} {pc len : Nat} {ls r : List Value} {s : AS}
theorem z_aload_n (C : CtxZ X g M cc) {j : Fin 4} (hM : M.1 pc = some (.aload_n j, len)) {x : Nat} (hv : getV ls j.val = .ref x) (k : AtZ X g E M.2.2.1 (pc + 1) ls (.ref x :: r) s) : AtZ X g E M.2.2.1 pc ls r s := by
  refine z_load C hM rfl (by simp [lenI]) hv (fun n h => by cases h) (fun h1 hd kk => ?_) k
  by_cases h0 : x = 0
  · have e : conV g (.ref x) = .null := by show rfZ g x = _; unfold rfZ; rw [if_pos h0]
    rw [e] at h1 kk
    exact lv_aload_nN C.1 C.2.1 hd rfl h1 kk
  · have e : conV g (.ref x) = .ref (adZ g x) := by show rfZ g x = _; unfold rfZ; rw [if_neg h0]
    rw [e] at h1 kk
    exact lv_aload_n C.1 C.2.1 hd rfl h1 kk
theorem z_aload (C : CtxZ X g M cc) {j : Nat} (hM : M.1 pc = some (.aload j, len)) {x : Nat} (hv : getV ls j = .ref x) (k : AtZ X g E M.2.2.1 (pc + 2) ls (.ref x :: r) s) : AtZ X g E M.2.2.1 pc ls r s := by
  refine z_load C hM rfl (by simp [lenI]) hv (fun n h => by cases h) (fun h1 hd kk => ?_) k
  by_cases h0 : x = 0
  · have e : conV g (.ref x) = .null := by show rfZ g x = _; unfold rfZ; rw [if_pos h0]
    rw [e] at h1 kk
    exact lv_aloadN C.1 C.2.1 hd h1 kk
  · have e : conV g (.ref x) = .ref (adZ g x) := by show rfZ g x = _; unfold rfZ; rw [if_neg h0]
    rw [e] at h1 kk
    exact lv_aload C.1 C.2.1 hd h1 kk
theorem z_iload_n (C : CtxZ X g M cc) {j : Fin 4} (hM : M.1 pc = some (.iload_n j, len)) {x : Int32} (hv : getV ls j.val = .int x) (k : AtZ X g E M.2.2.1 (pc + 1) ls (.int x :: r) s) : AtZ X g E M.2.2.1 pc ls r s :=
  z_load C hM rfl (by simp [lenI]) hv (fun n h => by cases h) (fun h1 hd kk => lv_iload_n C.1 C.2.1 hd rfl h1 kk) k
theorem z_iload (C : CtxZ X g M cc) {j : Nat} (hM : M.1 pc = some (.iload j, len)) {x : Int32} (hv : getV ls j = .int x) (k : AtZ X g E M.2.2.1 (pc + 2) ls (.int x :: r) s) : AtZ X g E M.2.2.1 pc ls r s :=
  z_load C hM rfl (by simp [lenI]) hv (fun n h => by cases h) (fun h1 hd kk => lv_iload C.1 C.2.1 hd h1 kk) k
theorem z_lload_n (C : CtxZ X g M cc) {j : Fin 4} (hM : M.1 pc = some (.lload_n j, len)) {x : Int64} (hv : getV ls j.val = .long x) (k : AtZ X g E M.2.2.1 (pc + 1) ls (.long x :: r) s) : AtZ X g E M.2.2.1 pc ls r s :=
  z_load C hM rfl (by simp [lenI]) hv (fun n h => by cases h) (fun h1 hd kk => lv_lload_n C.1 C.2.1 hd rfl h1 kk) k
theorem z_lload (C : CtxZ X g M cc) {j : Nat} (hM : M.1 pc = some (.lload j, len)) {x : Int64} (hv : getV ls j = .long x) (k : AtZ X g E M.2.2.1 (pc + 2) ls (.long x :: r) s) : AtZ X g E M.2.2.1 pc ls r s :=
  z_load C hM rfl (by simp [lenI]) hv (fun n h => by cases h) (fun h1 hd kk => lv_lload C.1 C.2.1 hd h1 kk) k
theorem z_istore_n (C : CtxZ X g M cc) {j : Fin 4} (hM : M.1 pc = some (.istore_n j, len)) {x : Int32} (hj : j.val < ls.length) (k : AtZ X g E M.2.2.1 (pc + 1) (setV ls j.val (.int x)) r s) : AtZ X g E M.2.2.1 pc ls (.int x :: r) s := by
  intro A H locs h1 h2 h3 h4 h5 h6
  exact lv_istore_n C.1 C.2.1 (C.dec hM (by simp [lenI])) rfl h1.has hj rfl (fun A' h => k A' H locs (h1.setV hj h) (by rw [setV_len]; exact h2) h3 h4 h5 h6)
theorem z_istore (C : CtxZ X g M cc) {j : Nat} (hM : M.1 pc = some (.istore j, len)) {x : Int32} (hj : j < ls.length) (k : AtZ X g E M.2.2.1 (pc + 2) (setV ls j (.int x)) r s) : AtZ X g E M.2.2.1 pc ls (.int x :: r) s := by
  intro A H locs h1 h2 h3 h4 h5 h6
  exact lv_istore C.1 C.2.1 (C.dec hM (by simp [lenI])) h1.has hj rfl (fun A' h => k A' H locs (h1.setV hj h) (by rw [setV_len]; exact h2) h3 h4 h5 h6)
theorem z_lstore_n (C : CtxZ X g M cc) {j : Fin 4} (hM : M.1 pc = some (.lstore_n j, len)) {x : Int64} (hj : j.val + 1 < ls.length) (k : AtZ X g E M.2.2.1 (pc + 1) (setW ls j.val (.long x)) r s) : AtZ X g E M.2.2.1 pc ls (.long x :: r) s := by
  intro A H locs h1 h2 h3 h4 h5 h6
  exact lv_lstore_n C.1 C.2.1 (C.dec hM (by simp [lenI])) rfl h1.has hj rfl (fun A' h => k A' H locs (h1.setW hj h) (by rw [setW_len]; exact h2) h3 h4 h5 h6)
theorem z_lstore (C : CtxZ X g M cc) {j : Nat} (hM : M.1 pc = some (.lstore j, len)) {x : Int64} (hj : j + 1 < ls.length) (k : AtZ X g E M.2.2.1 (pc + 2) (setW ls j (.long x)) r s) : AtZ X g E M.2.2.1 pc ls (.long x :: r) s := by
  intro A H locs h1 h2 h3 h4 h5 h6
  exact lv_lstore C.1 C.2.1 (C.dec hM (by simp [lenI])) h1.has hj rfl (fun A' h => k A' H locs (h1.setW hj h) (by rw [setW_len]; exact h2) h3 h4 h5 h6)
theorem z_astore_n (C : CtxZ X g M cc) {j : Fin 4} (hM : M.1 pc = some (.astore_n j, len)) {x : Nat} (hj : j.val < ls.length) (k : AtZ X g E M.2.2.1 (pc + 1) (setV ls j.val (.ref x)) r s) : AtZ X g E M.2.2.1 pc ls (.ref x :: r) s := by
  intro A H locs h1 h2 h3 h4 h5 h6
  rw [List.map_cons]
  by_cases h0 : x = 0
  · have e : conV g (.ref x) = .null := by show rfZ g x = _; unfold rfZ; rw [if_pos h0]
    rw [e]
    exact lv_astore_nN C.1 C.2.1 (C.dec hM (by simp [lenI])) rfl h1.has hj rfl (fun A' h => k A' H locs (h1.setV hj (by rw [e]; exact h)) (by rw [setV_len]; exact h2) h3 h4 h5 h6)
  · have e : conV g (.ref x) = .ref (adZ g x) := by show rfZ g x = _; unfold rfZ; rw [if_neg h0]
    rw [e]
    exact lv_astore_n C.1 C.2.1 (C.dec hM (by simp [lenI])) rfl h1.has hj rfl (fun A' h => k A' H locs (h1.setV hj (by rw [e]; exact h)) (by rw [setV_len]; exact h2) h3 h4 h5 h6)
theorem z_astore (C : CtxZ X g M cc) {j : Nat} (hM : M.1 pc = some (.astore j, len)) {x : Nat} (hj : j < ls.length) (k : AtZ X g E M.2.2.1 (pc + 2) (setV ls j (.ref x)) r s) : AtZ X g E M.2.2.1 pc ls (.ref x :: r) s := by
  intro A H locs h1 h2 h3 h4 h5 h6
  rw [List.map_cons]
  by_cases h0 : x = 0
  · have e : conV g (.ref x) = .null := by show rfZ g x = _; unfold rfZ; rw [if_pos h0]
    rw [e]
    exact lv_astoreN C.1 C.2.1 (C.dec hM (by simp [lenI])) h1.has hj rfl (fun A' h => k A' H locs (h1.setV hj (by rw [e]; exact h)) (by rw [setV_len]; exact h2) h3 h4 h5 h6)
  · have e : conV g (.ref x) = .ref (adZ g x) := by show rfZ g x = _; unfold rfZ; rw [if_neg h0]
    rw [e]
    exact lv_astore C.1 C.2.1 (C.dec hM (by simp [lenI])) h1.has hj rfl (fun A' h => k A' H locs (h1.setV hj (by rw [e]; exact h)) (by rw [setV_len]; exact h2) h3 h4 h5 h6)
theorem z_iinc (C : CtxZ X g M cc) {j : Nat} {n : Int} (hM : M.1 pc = some (.iinc j n, len)) {x : Int32} (hv : getV ls j = .int x) (k : AtZ X g E M.2.2.1 (pc + 3) (setV ls j (.int (x + ci32 n))) r s) : AtZ X g E M.2.2.1 pc ls r s := by
  intro A H locs h1 h2 h3 h4 h5 h6
  have hj := getV_lt hv (fun n h => by cases h)
  have hl : ls[j]? = some (.int x) := by
    unfold getV at hv
    rw [List.getD_eq_getElem?_getD] at hv
    cases hq : ls[j]? with
    | none => rw [hq] at hv; cases hv
    | some w => rw [hq] at hv; exact congrArg some hv
  obtain ⟨kk, hkk⟩ := List.getElem?_of_mem (lvl_mem (g := g) hl (fun n h => by cases h))
  exact lv_iinc C.1 C.2.1 (C.dec hM (by simp [lenI])) h1.has hkk (by rw [ci32_ofInt]) hj rfl (fun A' h => k A' H locs (h1.setV hj h) (by rw [setV_len]; exact h2) h3 h4 h5 h6)
theorem z_goto (C : CtxZ X g M cc) {o : Int} (hM : M.1 pc = some (.goto o, len)) (k : AtZ X g E M.2.2.1 (jmp pc o) ls r s) : AtZ X g E M.2.2.1 pc ls r s := by
  intro A H locs h1 h2 h3 h4 h5 h6
  exact lv_goto C.1 C.2.1 (C.dec hM (by simp [lenI])) (jmp_int (C.2.2.2.2.2.2.1 pc _ len hM)) (k A H locs h1 h2 h3 h4 h5 h6)
theorem z_icmp (C : CtxZ X g M cc) {q : ClassFile.Cond} {o : Int} (hM : M.1 pc = some (.if_icmp q o, len)) {x y : Int32} (k : AtZ X g E M.2.2.1 (brC q x y (jmp pc o) (pc + 3)) ls r s) : AtZ X g E M.2.2.1 pc ls (.int y :: .int x :: r) s := by
  intro A H locs h1 h2 h3 h4 h5 h6
  have hj := jmp_int (C.2.2.2.2.2.2.1 pc _ len hM)
  have hd := C.dec hM (by simp [lenI])
  have kk := k A H locs h1 h2 h3 h4 h5 h6
  cases q with
  | eq =>
    refine lv_icmp_eq C.1 C.2.1 hd hj (fun h => ?_) (fun h => ?_)
    · rw [show brC .eq x y (jmp pc o) (pc + 3) = jmp pc o from if_pos h] at kk; exact kk
    · rw [show brC .eq x y (jmp pc o) (pc + 3) = pc + 3 from if_neg h] at kk; exact kk
  | ne =>
    refine lv_icmp_ne C.1 C.2.1 hd hj (fun h => ?_) (fun h => ?_)
    · rw [show brC .ne x y (jmp pc o) (pc + 3) = jmp pc o from if_neg h] at kk; exact kk
    · rw [show brC .ne x y (jmp pc o) (pc + 3) = pc + 3 from if_pos h] at kk; exact kk
  | lt =>
    refine lv_icmp_lt C.1 C.2.1 hd hj (fun h => ?_) (fun h => ?_)
    · rw [show brC .lt x y (jmp pc o) (pc + 3) = jmp pc o from if_pos h] at kk; exact kk
    · rw [show brC .lt x y (jmp pc o) (pc + 3) = pc + 3 from if_neg h] at kk; exact kk
  | ge =>
    refine lv_icmp_ge C.1 C.2.1 hd hj (fun h => ?_) (fun h => ?_)
    · rw [show brC .ge x y (jmp pc o) (pc + 3) = jmp pc o from if_neg (Int32.not_lt.mpr h)] at kk; exact kk
    · rw [show brC .ge x y (jmp pc o) (pc + 3) = pc + 3 from if_pos (Int32.not_le.mp h)] at kk; exact kk
  | gt =>
    refine lv_icmp_gt C.1 C.2.1 hd hj (fun h => ?_) (fun h => ?_)
    · rw [show brC .gt x y (jmp pc o) (pc + 3) = jmp pc o from if_pos h] at kk; exact kk
    · rw [show brC .gt x y (jmp pc o) (pc + 3) = pc + 3 from if_neg h] at kk; exact kk
  | le =>
    refine lv_icmp_le C.1 C.2.1 hd hj (fun h => ?_) (fun h => ?_)
    · rw [show brC .le x y (jmp pc o) (pc + 3) = jmp pc o from if_neg (Int32.not_lt.mpr h)] at kk; exact kk
    · rw [show brC .le x y (jmp pc o) (pc + 3) = pc + 3 from if_pos (Int32.not_le.mp h)] at kk; exact kk
theorem z_if (C : CtxZ X g M cc) {q : ClassFile.Cond} {o : Int} (hM : M.1 pc = some (.ifCond q o, len)) {x : Int32} (k : AtZ X g E M.2.2.1 (brC q x (nI 0) (jmp pc o) (pc + 3)) ls r s) : AtZ X g E M.2.2.1 pc ls (.int x :: r) s := by
  intro A H locs h1 h2 h3 h4 h5 h6
  have hj := jmp_int (C.2.2.2.2.2.2.1 pc _ len hM)
  have hd := C.dec hM (by simp [lenI])
  have kk := k A H locs h1 h2 h3 h4 h5 h6
  cases q with
  | eq =>
    refine lv_if_eq C.1 C.2.1 hd hj (fun h => ?_) (fun h => ?_)
    · rw [show brC .eq x (nI 0) (jmp pc o) (pc + 3) = jmp pc o from if_pos h] at kk; exact kk
    · rw [show brC .eq x (nI 0) (jmp pc o) (pc + 3) = pc + 3 from if_neg h] at kk; exact kk
  | ne =>
    refine lv_if_ne C.1 C.2.1 hd hj (fun h => ?_) (fun h => ?_)
    · rw [show brC .ne x (nI 0) (jmp pc o) (pc + 3) = jmp pc o from if_neg h] at kk; exact kk
    · rw [show brC .ne x (nI 0) (jmp pc o) (pc + 3) = pc + 3 from if_pos h] at kk; exact kk
  | lt =>
    refine lv_if_lt C.1 C.2.1 hd hj (fun h => ?_) (fun h => ?_)
    · rw [show brC .lt x (nI 0) (jmp pc o) (pc + 3) = jmp pc o from if_pos h] at kk; exact kk
    · rw [show brC .lt x (nI 0) (jmp pc o) (pc + 3) = pc + 3 from if_neg h] at kk; exact kk
  | ge =>
    refine lv_if_ge C.1 C.2.1 hd hj (fun h => ?_) (fun h => ?_)
    · rw [show brC .ge x (nI 0) (jmp pc o) (pc + 3) = jmp pc o from if_neg (Int32.not_lt.mpr h)] at kk; exact kk
    · rw [show brC .ge x (nI 0) (jmp pc o) (pc + 3) = pc + 3 from if_pos (Int32.not_le.mp h)] at kk; exact kk
  | gt =>
    refine lv_if_gt C.1 C.2.1 hd hj (fun h => ?_) (fun h => ?_)
    · rw [show brC .gt x (nI 0) (jmp pc o) (pc + 3) = jmp pc o from if_pos h] at kk; exact kk
    · rw [show brC .gt x (nI 0) (jmp pc o) (pc + 3) = pc + 3 from if_neg h] at kk; exact kk
  | le =>
    refine lv_if_le C.1 C.2.1 hd hj (fun h => ?_) (fun h => ?_)
    · rw [show brC .le x (nI 0) (jmp pc o) (pc + 3) = jmp pc o from if_neg (Int32.not_lt.mpr h)] at kk; exact kk
    · rw [show brC .le x (nI 0) (jmp pc o) (pc + 3) = pc + 3 from if_pos (Int32.not_le.mp h)] at kk; exact kk
theorem z_ifnull (C : CtxZ X g M cc) {o : Int} (hM : M.1 pc = some (.ifnull o, len)) {x : Nat} (k : AtZ X g E M.2.2.1 (if x = 0 then jmp pc o else pc + 3) ls r s) : AtZ X g E M.2.2.1 pc ls (.ref x :: r) s := by
  intro A H locs h1 h2 h3 h4 h5 h6
  have hj := jmp_int (C.2.2.2.2.2.2.1 pc _ len hM)
  have hd := C.dec hM (by simp [lenI])
  have kk := k A H locs h1 h2 h3 h4 h5 h6
  rw [List.map_cons]
  by_cases h0 : x = 0
  · have e : conV g (.ref x) = .null := by show rfZ g x = _; unfold rfZ; rw [if_pos h0]
    rw [e]
    rw [if_pos h0] at kk
    exact lv_ifnullN C.1 C.2.1 hd hj kk
  · have e : conV g (.ref x) = .ref (adZ g x) := by show rfZ g x = _; unfold rfZ; rw [if_neg h0]
    rw [e]
    rw [if_neg h0] at kk
    exact lv_ifnull C.1 C.2.1 hd kk
theorem z_ifnonnull (C : CtxZ X g M cc) {o : Int} (hM : M.1 pc = some (.ifnonnull o, len)) {x : Nat} (k : AtZ X g E M.2.2.1 (if x = 0 then pc + 3 else jmp pc o) ls r s) : AtZ X g E M.2.2.1 pc ls (.ref x :: r) s := by
  intro A H locs h1 h2 h3 h4 h5 h6
  have hj := jmp_int (C.2.2.2.2.2.2.1 pc _ len hM)
  have hd := C.dec hM (by simp [lenI])
  have kk := k A H locs h1 h2 h3 h4 h5 h6
  rw [List.map_cons]
  by_cases h0 : x = 0
  · have e : conV g (.ref x) = .null := by show rfZ g x = _; unfold rfZ; rw [if_pos h0]
    rw [e]
    rw [if_pos h0] at kk
    exact lv_ifnonnullN C.1 C.2.1 hd kk
  · have e : conV g (.ref x) = .ref (adZ g x) := by show rfZ g x = _; unfold rfZ; rw [if_neg h0]
    rw [e]
    rw [if_neg h0] at kk
    exact lv_ifnonnull C.1 C.2.1 hd hj kk
theorem ci32_toInt {n : Int} (h0 : 0 ≤ n) (h1 : n < 2147483648) : (ci32 n).toInt = n := by
  rw [← ci32_ofInt, Int32.toInt_ofInt]
  simp only [Int32.size]
  rw [Int.bmod_def]
  omega
theorem swT_spec {pc d : Nat} {x : Int32} : ∀ (os : List Int) (lo : Int), 0 ≤ lo → lo + os.length < 2000 →
    (∃ (j : Nat) (o : Int), os[j]? = some o ∧ x.toInt = lo + j ∧ swT x d (swL pc lo os) = jmp pc o) ∨ ((x.toInt < lo ∨ lo + os.length ≤ x.toInt) ∧ swT x d (swL pc lo os) = d)
  | [], lo, h0, h1 => by
    refine Or.inr ⟨?_, rfl⟩
    simp only [List.length_nil]
    omega
  | o :: l, lo, h0, h1 => by
    have h1' : lo + (l.length + 1 : Nat) < 2000 := h1
    show (∃ (j : Nat) (o' : Int), (o :: l)[j]? = some o' ∧ x.toInt = lo + j ∧ (if x = ci32 lo then jmp pc o else swT x d (swL pc (lo + 1) l)) = jmp pc o') ∨ _ ∧ (if x = ci32 lo then jmp pc o else swT x d (swL pc (lo + 1) l)) = d
    have hc := ci32_toInt (n := lo) h0 (by omega)
    by_cases hx : x = ci32 lo
    · rw [if_pos hx]
      refine Or.inl ⟨0, o, rfl, ?_, rfl⟩
      rw [hx, hc]
      simp
    · rw [if_neg hx]
      have hne : x.toInt ≠ lo := fun q => hx (Int32.toInt_inj.mp (by rw [hc]; exact q))
      rcases swT_spec (pc := pc) (d := d) (x := x) l (lo + 1) (by omega) (by omega) with ⟨j, o', q1, q2, q3⟩ | ⟨q1, q2⟩
      · exact Or.inl ⟨j + 1, o', q1, by omega, q3⟩
      · refine Or.inr ⟨?_, q2⟩
        simp only [List.length_cons]
        omega
theorem z_switch (C : CtxZ X g M cc) {d lo hi : Int} {os : Array Int} (hM : M.1 pc = some (.tableswitch d lo hi os, len)) {x : Int32} (k : AtZ X g E M.2.2.1 (swT x (jmp pc d) (swL pc lo os.toList)) ls r s) : AtZ X g E M.2.2.1 pc ls (.int x :: r) s := by
  intro A H locs h1 h2 h3 h4 h5 h6
  obtain ⟨j1, j2, j3, j4, j5⟩ : 0 ≤ (pc : Int) + d ∧ (∀ o ∈ os.toList, 0 ≤ (pc : Int) + o) ∧ 0 ≤ lo ∧ hi = lo + os.size - 1 ∧ hi < 1000 := C.2.2.2.2.2.2.1 pc _ len hM
  have hd := (C.2.2.2.2.1 pc _ len hM).1
  have kk := k A H locs h1 h2 h3 h4 h5 h6
  have hl : os.toList.length = os.size := Array.length_toList
  rcases swT_spec (pc := pc) (d := jmp pc d) (x := x) os.toList lo j3 (by omega) with ⟨j, o, q1, q2, q3⟩ | ⟨q1, q2⟩
  · rw [q3] at kk
    have hjl := (List.getElem?_eq_some_iff.mp q1).1
    refine lv_tableIn C.1 C.2.1 hd (by omega) (by omega) (off := o) ?_ (jmp_int (j2 o (List.mem_of_getElem? q1))) kk
    rw [show (x.toInt - lo).toNat = j by omega, ← Array.getElem?_toList]
    exact q1
  · rw [q2] at kk
    exact lv_tableOut C.1 C.2.1 hd (by omega) (jmp_int j1) kk
end SIM2
