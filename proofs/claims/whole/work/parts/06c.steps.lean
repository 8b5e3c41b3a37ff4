/-! STEPS: fields, arrays, new objects -/
def ClsZ (c : Nat) : Prop := clsZ[c]? = some (clC c, clT c, (fkZ c).length) ∧ (∀ w ∈ u_ws (clC c) (clT c) (fkZ c).length, w ∈ TsZ) ∧ (∀ k, k < (fkZ c).length → parseFieldDescriptor (clT c k).2.2.1 = some (clY c k)) ∧ (∀ a, a < (fkZ c).length → ∀ b, b < (fkZ c).length → a ≠ b → (clT c a).2.1 ≠ (clT c b).2.1) ∧
  (∀ k kd, (fkZ c)[k]? = some kd → (kd = 0 ∧ clY c k = .int) ∨ (kd = 1 ∧ clY c k = .boolean) ∨ (kd = 2 ∧ clY c k = .long) ∨ (kd = 3 ∧ ((∃ n, clY c k = .object n) ∨ ∃ t, clY c k = .array t))) ∧ Cond.instantiable (clC c) (fkZ c).length ∈ TsZ ∧ Cond.initialized (clC c) ∈ TsZ ∧ ∀ k, k < (fkZ c).length → (clT c k).1 = clC c
/-- the heap is as large as the world says -/
theorem W_size {X : MC} {H : Heap} {locs : List Loc} {k n : Nat} {f : JFrame} (h : H.size ≤ (xs X).heap.size + k → WX X H locs k n f) : WX X H locs k n f := fun T hT S => h (by rw [← hT]; exact S.heapSize) T hT S
section SIM3
variable {X : MC} {g : GE} {M : MI} {cc : ByteArray} {E : AS} {pc len : Nat} {ls r : List Value} {s : AS}
theorem z_getfC (C : CtxZ X g M cc) (HC : ∀ c, c < 13 → ClsZ c) {n : Nat} (hM : M.1 pc = some (.getfield n, len)) {x : Nat × Nat × Nat} (hx : lkF M.2.1 n = some x) (h9 : x.2.2 ≠ 9) {a : Nat} (ha : sT s a = x.1 + 1) {v : Value} (hv : fldZ g s a x.2.1 x.2.2 = conV g v) (k : AtZ X g E M.2.2.1 (pc + 3) ls (v :: r) s) : AtZ X g E M.2.2.1 pc ls (.ref a :: r) s := by
  intro A H locs h1 h2 h3 h4 h5 h6
  obtain ⟨q1, q2, q3⟩ := C.2.2.2.2.2.2.2.1.1 n x hx h9
  obtain ⟨c1, c2, c3, c4, c5, c6, c7, c8⟩ := HC x.1 q1
  have hpl := h3.2.place (a := a) (by omega) (by omega)
  have hE : EnvZ g (xs X) (xa X) := C.2.2.2.2.2.2.2.2.1
  have he : (wsZ g s)[a - 1]? = some (gB g + (a - 1), .inr (x.1, fldsZ g s a (fkZ x.1))) := by rw [wsZ_get hpl, celZ_obj ha q1]
  have hf : (fldsZ g s a (fkZ x.1))[x.2.1]? = some (conV g v) := by rw [flds_get, q2, ← hv]; rfl
  have hk : x.2.1 < (fkZ x.1).length := (List.getElem?_eq_some_iff.mp q2).1
  have kk := k A H locs h1 h2 h3 h4 h5 h6
  rw [List.map_cons, conV_ref h3.2 hpl]
  rcases q3 with q3 | ⟨hh, q3, q4⟩
  · exact va_get (D := gD g) (Ts := TsZ) (C := clC x.1) (T := clT x.1) (N := (fkZ x.1).length) C.1 C.2.1 hE.2.1 c2 C.2.2.2.1 hE.1 h3.1 (a - 1) he c1 x.2.1 hk q3 (by rw [c8 _ hk]; exact fun _ h => h) hf (C.dec hM (by simp [lenI])) kk
  · exact va_getN (D := gD g) (Ts := TsZ) (C := clC x.1) (T := clT x.1) (N := (fkZ x.1).length) C.1 C.2.1 hE.2.1 c2 C.2.2.2.1 hE.1 h3.1 (a - 1) he c1 x.2.1 hk q3 (by rw [c8 _ hk]; exact fun _ h => h) hf (C.dec hM (by simp [lenI])) kk
/-- a state that differs at one place's contents alone -/
abbrev OneZ (s s' : AS) (a : Nat) : Prop := sT s' = sT s ∧ sN s' = sN s ∧ sX s' = sX s ∧ sZ s' = sZ s ∧ ∀ q, q ≠ a → sI s' q = sI s q ∧ sL s' q = sL s q ∧ sR s' q = sR s q
theorem OneZ.cel {s s' : AS} {a : Nat} (h : OneZ s s' a) (q : Nat) (hq : q ≠ a) : celZ g s' q = celZ g s q := by
  obtain ⟨h1, h2, h3, h4, h5⟩ := h
  obtain ⟨e1, e2, e3⟩ := h5 q hq
  exact cel_same (by rw [h1]) (by rw [h2]) e1 e2 e3
theorem OneZ.stt {s s' : AS} {a : Nat} (h : OneZ s s' a) (hs : Stt g s) (ha : 1 ≤ a ∧ a < sX s) : Stt g s' := by
  obtain ⟨h1, h2, h3, h4, h5⟩ := h
  have := hs.1
  exact hs.wr h1 h2 h3 (h5 _ (by omega)).1 (h5 _ (by omega)).1
theorem z_putfC (C : CtxZ X g M cc) (HC : ∀ c, c < 13 → ClsZ c) {n : Nat} (hM : M.1 pc = some (.putfield n, len)) {x : Nat × Nat × Nat} (hx : lkF M.2.1 n = some x) (h9 : x.2.2 ≠ 9) {a : Nat} (ha : sT s a = x.1 + 1) {v : Value} {s' : AS} (ho : OneZ s s' a)
    (hv : fldZ g s' a x.2.1 x.2.2 = conV g v) (hsl : ∀ i k, i ≠ x.2.1 → fldZ g s' a i k = fldZ g s a i k) (hn : narrow (clY x.1 x.2.1) (conV g v) = conV g v ∧ fits (clY x.1 x.2.1) (conV g v) = true) (k : AtZ X g E M.2.2.1 (pc + 3) ls r s') : AtZ X g E M.2.2.1 pc ls (v :: .ref a :: r) s := by
  intro A H locs h1 h2 h3 h4 h5 h6
  obtain ⟨q1, q2, q3⟩ := C.2.2.2.2.2.2.2.1.1 n x hx h9
  obtain ⟨c1, c2, c3, c4, c5, c6, c7, c8⟩ := HC x.1 q1
  have hpl := h3.2.place (a := a) (by omega) (by omega)
  have hE : EnvZ g (xs X) (xa X) := C.2.2.2.2.2.2.2.2.1
  have he : (wsZ g s)[a - 1]? = some (gB g + (a - 1), .inr (x.1, fldsZ g s a (fkZ x.1))) := by rw [wsZ_get hpl, celZ_obj ha q1]
  have hk : x.2.1 < (fkZ x.1).length := (List.getElem?_eq_some_iff.mp q2).1
  have hl : x.2.1 < (fldsZ g s a (fkZ x.1)).length := by rw [flds_len]; exact hk
  have hfs : fldsZ g s' a (fkZ x.1) = (fldsZ g s a (fkZ x.1)).set x.2.1 (conV g v) := flds_set (fun k' hk' => by rw [q2] at hk'; cases hk'; exact hv) hsl
  have ha' : sT s' a = x.1 + 1 := by rw [ho.1]; exact ha
  have hws : wsZ g s' = (wsZ g s).set (a - 1) (gB g + (a - 1), .inr (x.1, (fldsZ g s a (fkZ x.1)).set x.2.1 (conV g v))) := by rw [wsZ_set hpl ho.2.2.1 ho.cel, celZ_obj ha' q1, hfs]
  have kk : ∀ (H1 : Heap) (locs1 : List Loc), va_P (gD g) clsZ ((wsZ g s).set (a - 1) (gB g + (a - 1), .inr (x.1, (fldsZ g s a (fkZ x.1)).set x.2.1 (conV g v)))) H1 → va_D (inW g) ((wsZ g s).set (a - 1) (gB g + (a - 1), .inr (x.1, (fldsZ g s a (fkZ x.1)).set x.2.1 (conV g v)))) → va_S (inW g) (xs X).heap H1 locs1 → WX X H1 locs1 (sX s - sX E) (sZ s - sZ E) (F0 (xm X) (pc + 3) A (r.map (conV g))) := by
    intro H1 locs1 hP hD hS
    have kk := k A H1 locs1 h1 h2 ⟨by rw [hws]; exact hP, ho.stt h3.2 hpl⟩ hS (by rw [ho.2.2.1, ho.2.2.2.1]; exact h5) h6
    rw [ho.2.2.1, ho.2.2.2.1] at kk
    exact kk
  rw [List.map_cons, List.map_cons, conV_ref h3.2 hpl]
  by_cases hfin : (clT x.1 x.2.1).2.2.2 = true
  · obtain ⟨f1, f2⟩ := C.2.2.2.2.2.1 pc n len x hM hx hfin
    rcases q3 with q3 | ⟨hh, q3, q4⟩
    · exact va_putF (D := gD g) (Ts := TsZ) (C := clC x.1) (T := clT x.1) (N := (fkZ x.1).length) C.1 C.2.1 hE.2.1 c2 (clY x.1) c3 c4 C.2.2.2.1 hE.1 h3.1 wsZ_D h4 (a - 1) he c1 x.2.1 hk q3 (by rw [c8 _ hk]; exact fun _ h => h) hfin f1 f2 (c3 _ hk) hn.1 hn.2 hl (C.dec hM (by simp [lenI])) kk
    · exact absurd ((c8 _ hk).symm.trans f2) q4
  · have hfin' : (clT x.1 x.2.1).2.2.2 = false := by simpa using hfin
    rcases q3 with q3 | ⟨hh, q3, q4⟩
    · exact va_put (D := gD g) (Ts := TsZ) (C := clC x.1) (T := clT x.1) (N := (fkZ x.1).length) C.1 C.2.1 hE.2.1 c2 (clY x.1) c3 c4 C.2.2.2.1 hE.1 h3.1 wsZ_D h4 (a - 1) he c1 x.2.1 hk q3 (by rw [c8 _ hk]; exact fun _ h => h) hfin' (c3 _ hk) hn.1 hn.2 hl (C.dec hM (by simp [lenI])) kk
    · exact va_putN (D := gD g) (Ts := TsZ) (C := clC x.1) (T := clT x.1) (N := (fkZ x.1).length) C.1 C.2.1 hE.2.1 c2 (clY x.1) c3 c4 C.2.2.2.1 hE.1 h3.1 wsZ_D h4 (a - 1) he c1 x.2.1 hk q3 (by rw [c8 _ hk]; exact fun _ h => h) hfin' (c3 _ hk) hn.1 hn.2 hl (C.dec hM (by simp [lenI])) kk
theorem n_int (x : Int32) : narrow .int (.int x) = .int x ∧ fits .int (.int x) = true := ⟨rfl, rfl⟩
theorem n_bit {x : Int32} (h : x = nI 0 ∨ x = nI 1) : narrow .boolean (.int x) = .int x ∧ fits .boolean (.int x) = true := by
  rcases h with rfl | rfl <;> exact ⟨rfl, rfl⟩
theorem n_long (x : Int64) : narrow .long (.long x) = .long x ∧ fits .long (.long x) = true := ⟨rfl, rfl⟩
theorem n_ref {t : FieldType} (ht : (∃ n, t = .object n) ∨ ∃ u, t = .array u) (n : Nat) : narrow t (conV g (.ref n)) = conV g (.ref n) ∧ fits t (conV g (.ref n)) = true := by
  show narrow t (rfZ g n) = rfZ g n ∧ fits t (rfZ g n) = true
  unfold rfZ
  rcases ht with ⟨n, rfl⟩ | ⟨u, rfl⟩ <;> split <;> exact ⟨rfl, rfl⟩
theorem one_setI {s : AS} {a j : Nat} {x : Int32} : OneZ s (setI s a j x) a := ⟨rfl, rfl, rfl, rfl, fun q hq => ⟨up2_ne hq, rfl, rfl⟩⟩
theorem one_setJ {s : AS} {a j : Nat} {x : Int64} : OneZ s (setJ s a j x) a := ⟨rfl, rfl, rfl, rfl, fun q hq => ⟨rfl, up2_ne hq, rfl⟩⟩
theorem one_setR {s : AS} {a j : Nat} {x : Nat} : OneZ s (setR s a j x) a := ⟨rfl, rfl, rfl, rfl, fun q hq => ⟨rfl, rfl, up2_ne hq⟩⟩
theorem one_rowI {s : AS} {a : Nat} {f : Nat → Int32} : OneZ s (rowI s a f) a := ⟨rfl, rfl, rfl, rfl, fun q hq => ⟨up1_ne hq, rfl, rfl⟩⟩
theorem fld_setI {s : AS} {a j : Nat} {x : Int32} (i k : Nat) (h : i ≠ j) : fldZ g (setI s a j x) a i k = fldZ g s a i k := by
  show (if k = 2 then Value.long (sL s a i) else if k = 3 then rfZ g (sR s a i) else .int (up2 (sI s) a j x a i)) = _
  rw [up2_eq, if_neg h]
  rfl
theorem fld_setJ {s : AS} {a j : Nat} {x : Int64} (i k : Nat) (h : i ≠ j) : fldZ g (setJ s a j x) a i k = fldZ g s a i k := by
  show (if k = 2 then Value.long (up2 (sL s) a j x a i) else if k = 3 then rfZ g (sR s a i) else .int (sI s a i)) = _
  rw [up2_eq, if_neg h]
  rfl
theorem fld_setR {s : AS} {a j : Nat} {x : Nat} (i k : Nat) (h : i ≠ j) : fldZ g (setR s a j x) a i k = fldZ g s a i k := by
  show (if k = 2 then Value.long (sL s a i) else if k = 3 then rfZ g (up2 (sR s) a j x a i) else .int (sI s a i)) = _
  rw [up2_eq, if_neg h]
  rfl
theorem z_getf0 (C : CtxZ X g M cc) (HC : ∀ c, c < 13 → ClsZ c) {n : Nat} (hM : M.1 pc = some (.getfield n, len)) {c j kd : Nat} (hx : lkF M.2.1 n = some (c, j, kd)) (hk : kd = 0 ∨ kd = 1) {a : Nat} (ha : sT s a = c + 1) (k : AtZ X g E M.2.2.1 (pc + 3) ls (.int (sI s a j) :: r) s) : AtZ X g E M.2.2.1 pc ls (.ref a :: r) s :=
  z_getfC C HC hM hx (by rcases hk with rfl | rfl <;> simp) ha (by rcases hk with rfl | rfl <;> rfl) k
theorem z_getf2 (C : CtxZ X g M cc) (HC : ∀ c, c < 13 → ClsZ c) {n : Nat} (hM : M.1 pc = some (.getfield n, len)) {c j : Nat} (hx : lkF M.2.1 n = some (c, j, 2)) {a : Nat} (ha : sT s a = c + 1) (k : AtZ X g E M.2.2.1 (pc + 3) ls (.long (sL s a j) :: r) s) : AtZ X g E M.2.2.1 pc ls (.ref a :: r) s :=
  z_getfC C HC hM hx (by simp) ha rfl k
theorem z_getf3 (C : CtxZ X g M cc) (HC : ∀ c, c < 13 → ClsZ c) {n : Nat} (hM : M.1 pc = some (.getfield n, len)) {c j : Nat} (hx : lkF M.2.1 n = some (c, j, 3)) {a : Nat} (ha : sT s a = c + 1) (k : AtZ X g E M.2.2.1 (pc + 3) ls (.ref (sR s a j) :: r) s) : AtZ X g E M.2.2.1 pc ls (.ref a :: r) s :=
  z_getfC C HC hM hx (by simp) ha rfl k
/-- the declared type of a field, by its kind -/
theorem kd_type (C : CtxZ X g M cc) (HC : ∀ c, c < 13 → ClsZ c) {n c j kd : Nat} (hx : lkF M.2.1 n = some (c, j, kd)) (h9 : kd ≠ 9) : (kd = 0 ∧ clY c j = .int) ∨ (kd = 1 ∧ clY c j = .boolean) ∨ (kd = 2 ∧ clY c j = .long) ∨ (kd = 3 ∧ ((∃ n, clY c j = .object n) ∨ ∃ t, clY c j = .array t)) := by
  obtain ⟨q1, q2, q3⟩ := C.2.2.2.2.2.2.2.1.1 n _ hx h9
  exact (HC c q1).2.2.2.2.1 j kd q2
theorem z_putf0 (C : CtxZ X g M cc) (HC : ∀ c, c < 13 → ClsZ c) {n : Nat} (hM : M.1 pc = some (.putfield n, len)) {c j : Nat} (hx : lkF M.2.1 n = some (c, j, 0)) {a : Nat} {x : Int32} (ha : sT s a = c + 1) (k : AtZ X g E M.2.2.1 (pc + 3) ls r (setI s a j x)) : AtZ X g E M.2.2.1 pc ls (.int x :: .ref a :: r) s := by
  have ht : clY c j = .int := by
    rcases kd_type C HC hx (by decide) with h | h | h | h
    · exact h.2
    · exact absurd h.1 (by decide)
    · exact absurd h.1 (by decide)
    · exact absurd h.1 (by decide)
  refine z_putfC C HC hM hx (by simp) ha (one_setI (j := j) (x := x)) ?_ (fun i k h => fld_setI i k h) (by rw [show clY (c, j, 0).1 (c, j, 0).2.1 = .int from ht]; exact n_int x) k
  show Value.int (up2 (sI s) a j x a j) = _
  rw [up2_eq, if_pos rfl]
  rfl
theorem z_putf1 (C : CtxZ X g M cc) (HC : ∀ c, c < 13 → ClsZ c) {n : Nat} (hM : M.1 pc = some (.putfield n, len)) {c j : Nat} (hx : lkF M.2.1 n = some (c, j, 1)) {a : Nat} {x : Int32} (ha : sT s a = c + 1) (hb : x = nI 0 ∨ x = nI 1) (k : AtZ X g E M.2.2.1 (pc + 3) ls r (setI s a j x)) : AtZ X g E M.2.2.1 pc ls (.int x :: .ref a :: r) s := by
  have ht : clY c j = .boolean := by
    rcases kd_type C HC hx (by decide) with h | h | h | h
    · exact absurd h.1 (by decide)
    · exact h.2
    · exact absurd h.1 (by decide)
    · exact absurd h.1 (by decide)
  refine z_putfC C HC hM hx (by simp) ha (one_setI (j := j) (x := x)) ?_ (fun i k h => fld_setI i k h) (by rw [show clY (c, j, 1).1 (c, j, 1).2.1 = .boolean from ht]; exact n_bit hb) k
  show Value.int (up2 (sI s) a j x a j) = _
  rw [up2_eq, if_pos rfl]
  rfl
theorem z_putf2 (C : CtxZ X g M cc) (HC : ∀ c, c < 13 → ClsZ c) {n : Nat} (hM : M.1 pc = some (.putfield n, len)) {c j : Nat} (hx : lkF M.2.1 n = some (c, j, 2)) {a : Nat} {x : Int64} (ha : sT s a = c + 1) (k : AtZ X g E M.2.2.1 (pc + 3) ls r (setJ s a j x)) : AtZ X g E M.2.2.1 pc ls (.long x :: .ref a :: r) s := by
  have ht : clY c j = .long := by
    rcases kd_type C HC hx (by decide) with h | h | h | h
    · exact absurd h.1 (by decide)
    · exact absurd h.1 (by decide)
    · exact h.2
    · exact absurd h.1 (by decide)
  refine z_putfC C HC hM hx (by simp) ha (one_setJ (j := j) (x := x)) ?_ (fun i k h => fld_setJ i k h) (by rw [show clY (c, j, 2).1 (c, j, 2).2.1 = .long from ht]; exact n_long x) k
  show Value.long (up2 (sL s) a j x a j) = _
  rw [up2_eq, if_pos rfl]
  rfl
theorem z_putf3 (C : CtxZ X g M cc) (HC : ∀ c, c < 13 → ClsZ c) {n : Nat} (hM : M.1 pc = some (.putfield n, len)) {c j : Nat} (hx : lkF M.2.1 n = some (c, j, 3)) {a x : Nat} (ha : sT s a = c + 1) (k : AtZ X g E M.2.2.1 (pc + 3) ls r (setR s a j x)) : AtZ X g E M.2.2.1 pc ls (.ref x :: .ref a :: r) s := by
  have ht : (∃ n, clY c j = .object n) ∨ ∃ t, clY c j = .array t := by
    rcases kd_type C HC hx (by decide) with h | h | h | h
    · exact absurd h.1 (by decide)
    · exact absurd h.1 (by decide)
    · exact absurd h.1 (by decide)
    · exact h.2
  refine z_putfC C HC hM hx (by simp) ha (one_setR (j := j) (x := x)) ?_ (fun i k h => fld_setR i k h) (n_ref ht x) k
  show rfZ g (up2 (sR s) a j x a j) = _
  rw [up2_eq, if_pos rfl]
  rfl
end SIM3
