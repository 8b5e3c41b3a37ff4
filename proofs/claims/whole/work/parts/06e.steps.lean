/-! STEPS: new objects and arrays; the library's own steps -/
def PrmZ (o : Nat) (s0 : State) (ar : Array Value) : Prop := ∀ k x na, lkC o k = some (0, x, na) → (match x with
  | 0 => (Cond.methodLink (ownZ o) k objectInit).before ar s0 = true ∧ (Cond.instanceMethod objectInit).before ar s0 = true ∧ (Cond.code objectInit ⟨#[0xb1]⟩ 1 none).before ar s0 = true
  | 1 => (Cond.methodLink (ownZ o) k Lib.Math.max.name).before ar s0 = true ∧ (Cond.static Lib.Math.max.name).before ar s0 = true ∧ (Cond.initialized "java/lang/Math").before ar s0 = true ∧ (Cond.code Lib.Math.max.name Lib.Math.max.code 2 (some .int)).before ar s0 = true
  | 2 => (Cond.methodLink (ownZ o) k Lib.Math.min.name).before ar s0 = true ∧ (Cond.static Lib.Math.min.name).before ar s0 = true ∧ (Cond.initialized "java/lang/Math").before ar s0 = true ∧ (Cond.code Lib.Math.min.name Lib.Math.min.code 2 (some .int)).before ar s0 = true
  | 3 => (Cond.methodLink (ownZ o) k Lib.MathLoose.max_long.x).before ar s0 = true ∧ (Cond.static Lib.MathLoose.max_long.x).before ar s0 = true ∧ (Cond.initialized "java/lang/Math").before ar s0 = true ∧ (Cond.code Lib.MathLoose.max_long.x Lib.MathLoose.max_long.code 4 (some .long)).before ar s0 = true
  | 4 => (Cond.methodLink (ownZ o) k Lib.MathLoose.min_long.x).before ar s0 = true ∧ (Cond.static Lib.MathLoose.min_long.x).before ar s0 = true ∧ (Cond.initialized "java/lang/Math").before ar s0 = true ∧ (Cond.code Lib.MathLoose.min_long.x Lib.MathLoose.min_long.code 4 (some .long)).before ar s0 = true
  | 5 => (Cond.methodLink (ownZ o) k arraycopyName).before ar s0 = true ∧ (Cond.native arraycopyName).before ar s0 = true ∧ (Cond.static arraycopyName).before ar s0 = true ∧ (Cond.initialized "java/lang/System").before ar s0 = true
  | 6 => (Cond.methodLink (ownZ o) k ⟨"java/lang/String", "length", "()I"⟩).before ar s0 = true
  | 7 => (Cond.methodLink (ownZ o) k ⟨"java/lang/String", "charAt", "(I)C"⟩).before ar s0 = true
  | 8 => (Cond.methodLink (ownZ o) k ⟨"[I", "clone", "()Ljava/lang/Object;"⟩).before ar s0 = true ∧ (Cond.sameMethod "[I" "java/lang/Object" "clone" "()Ljava/lang/Object;").before ar s0 = true ∧ (Cond.native ⟨"java/lang/Object", "clone", "()Ljava/lang/Object;"⟩).before ar s0 = true ∧ (Cond.instanceMethod ⟨"java/lang/Object", "clone", "()Ljava/lang/Object;"⟩).before ar s0 = true ∧ (Cond.selects "[I" ⟨"[I", "clone", "()Ljava/lang/Object;"⟩ ⟨"java/lang/Object", "clone", "()Ljava/lang/Object;"⟩).before ar s0 = true
  | _ => False)
theorem W_run {p : Program} {l : Launch} {e : Env} {R : Room} {s : State} {m : MethodId} {args : Array Value} {below : List Frame} {meth : Method} {c : Code} {H : Heap} {locs : List Loc} {cells slots mc ms : Nat} {f : JFrame} {rest : List Value} {Qa : State → Outcome → State → Prop} {free : Addr → Prop} {Q : State → Prop}
    (hr : va_Run p l e R s m args below meth c H locs cells slots mc ms f rest Qa free)
    (kk : ∀ (v : Option Value) (st₀ t : State) (H1 : Heap) (L : List Loc), st₀.heap = H → t.heap = H1 → Qa st₀ (.returned v) t → (∀ q ∈ L, free q.base) → W p l e R s m args below meth c H1 (locs ++ L) (cells + mc) (slots + ms) Q { f with pc := f.pc + 3, stack := v.toList ++ rest }) : W p l e R s m args below meth c H locs cells slots Q f := by
  intro T hT X
  obtain ⟨v, st₀, t, T', L, h0, X', hL, e1, e2, hq, st⟩ := hr T hT X
  obtain ⟨t2, a1, b1⟩ := kk v st₀ t T'.heap L h0 e1.symm hq hL T' rfl X'
  exact ⟨t2, st t2 a1, b1⟩
theorem stW_cons (v : Value) (l : List Value) : stW (v :: l) = stW l + v.category := by cases v <;> rfl
theorem catW {g : GE} : ∀ st : List Value, ((st.map (conV g)).map fun v => v.category).sum ≤ stW st
  | [] => Nat.zero_le _
  | v :: l => by
    have ih := catW (g := g) l
    rw [List.map_cons, List.map_cons, List.sum_cons, cat_con, stW_cons]
    omega
section SIM5
variable {X : MC} {g : GE} {M : MI} {cc : ByteArray} {E : AS} {pc len : Nat} {ls r : List Value} {s : AS}
/-- a new cell's address -/
theorem new_addr {H1 : Heap} {q : Nat} {e : va_E} (hP : va_P (gD g) clsZ (wsZ g s ++ [(q, e)]) H1) (hD : va_D (inW g) (wsZ g s ++ [(q, e)])) (h1 : 1 ≤ sX s) (hz : H1.size ≤ gB g + sX s) : q = gB g + (sX s - 1) := by
  have hl : (wsZ g s ++ [(q, e)])[sX s - 1]? = some (q, e) := by
    rw [List.getElem?_append_right (by rw [wsZ_len]; exact Nat.le_refl _), wsZ_len, Nat.sub_self]
    rfl
  have h2 : q < H1.size := (hP _ _ hl).lt
  have h3 : gB g ≤ q := hD.2 _ _ hl
  rcases Nat.lt_or_ge (q - gB g) (sX s - 1) with h4 | h4
  · exfalso
    have h5 : (wsZ g s ++ [(q, e)])[q - gB g]? = some (gB g + (q - gB g), celZ g s (q - gB g + 1)) := by
      rw [List.getElem?_append_left (by rw [wsZ_len]; exact h4)]
      have := wsZ_get (g := g) (s := s) (a := q - gB g + 1) ⟨by omega, by omega⟩
      rw [show q - gB g + 1 - 1 = q - gB g by omega] at this
      exact this
    have h6 := hD.1 _ _ _ _ hl h5 (by show q = gB g + (q - gB g); omega)
    omega
  · omega
theorem cel_new {t n : Nat} (q : Nat) (hq : q ≠ sX s) : celZ g (newA s t n) q = celZ g s q := cel_same (up1_ne hq) (up1_ne hq) (up1_ne hq) (up1_ne hq) (up1_ne hq)
/-- behind a new cell -/
theorem z_nw {A : Array Slot} {H1 : Heap} {locs : List Loc} {nL pc' n q : Nat} {s' : AS} {e : va_E} {st : List Value} (k : AtZ X g E nL pc' ls (.ref (sX s) :: st) s') (h1 : LVZ g ls A) (h2 : ls.length = nL) (hs : Stt g s) (hs' : Stt g s') (hx : sX s' = sX s + 1) (hz : sZ s' = sZ s + n) (ho : ∀ q, q ≠ sX s → celZ g s' q = celZ g s q) (he : celZ g s' (sX s) = e) (h5 : sX E ≤ sX s ∧ sZ E ≤ sZ s) (h6 : (xs X).heap.size + 1 = gB g + sX E)
    (hP : va_P (gD g) clsZ (wsZ g s ++ [(q, e)]) H1) (hD : va_D (inW g) (wsZ g s ++ [(q, e)])) (hS : va_S (inW g) (xs X).heap H1 locs) : WX X H1 locs (sX s - sX E + 1) (sZ s - sZ E + n) (F0 (xm X) pc' A (.ref q :: st.map (conV g))) := by
  refine W_size (fun hsz => ?_)
  have hq := new_addr hP hD hs.1.1 (by omega)
  have hpl : 1 ≤ sX s ∧ sX s < sX s' := ⟨hs.1.1, by omega⟩
  have hws : wsZ g s' = wsZ g s ++ [(q, e)] := by rw [wsZ_new hs.1.1 hx ho, he, hq]
  have kk := k A H1 locs h1 h2 ⟨by rw [hws]; exact hP, hs'⟩ hS (by omega) h6
  rw [List.map_cons, conV_ref hs' hpl, ← hq] at kk
  rw [show sX s - sX E + 1 = sX s' - sX E by omega, show sZ s - sZ E + n = sZ s' - sZ E by omega]
  exact kk
theorem z_new (C : CtxZ X g M cc) (HC : ∀ c, c < 13 → ClsZ c) {n c : Nat} (hM : M.1 pc = some (.new n, len)) (hx : lkN M.2.1 n = some c) (hlt : sX s < 900000) (hc : c < 13) (hRc : sX s + 1 - sX E ≤ (xR X).cells) (hRs : sZ s + (fkZ c).length - sZ E ≤ (xR X).slots)
    (k : AtZ X g E M.2.2.1 (pc + 3) ls (.ref (sX s) :: r) (newA s (c + 1) (fkZ c).length)) : AtZ X g E M.2.2.1 pc ls r s := by
  intro A H locs h1 h2 h3 h4 h5 h6
  have hE : EnvZ g (xs X) (xa X) := C.2.2.2.2.2.2.2.2.1
  obtain ⟨c1, c2, c3, c4, c5, c6, c7, c8⟩ := HC c hc
  have hl : (Cond.classLink (ownZ M.2.1) n (clC c)).before (xa X) (xs X) = true := by
    rcases C.2.2.2.2.2.2.2.1.2.2.1 n _ hx with h | h
    · exact h.2
    · omega
  have hT : sT (newA s (c + 1) (fkZ c).length) (sX s) = c + 1 := up1_eq
  refine va_new (fs := fldsZ g (newA s (c + 1) (fkZ c).length) (sX s) (fkZ c)) (Ts := TsZ) C.1 C.2.1 hE.2.1 c2 (clY c) c3 C.2.2.2.1 hl (hE.2.1 _ c6) (hE.2.1 _ c7) hE.1 h3.1 wsZ_D h4 (fun q hq => Nat.le_trans hE.2.2.2.2.2.2.2.2 hq) c1 (fun j hj => ?_) (show _ ≤ (xR X).cells by omega) (show _ ≤ (xR X).slots by omega) (C.dec hM (by simp [lenI])) (fun q H1 hP hD hS => ?_)
  · unfold vp_V
    rw [List.getD_eq_getElem?_getD, flds_get, List.getElem?_eq_getElem hj]
    have hk := c5 j _ (List.getElem?_eq_getElem hj)
    simp only [Option.map_some, Option.getD_some]
    have e1 : sI (newA s (c + 1) (fkZ c).length) (sX s) j = 0 := by show up1 (sI s) (sX s) (fun _ => nI 0) (sX s) j = 0; rw [up1_eq]; rfl
    have e2 : sL (newA s (c + 1) (fkZ c).length) (sX s) j = 0 := by show up1 (sL s) (sX s) (fun _ => lN 0) (sX s) j = 0; rw [up1_eq]; rfl
    have e3 : sR (newA s (c + 1) (fkZ c).length) (sX s) j = 0 := by show up1 (sR s) (sX s) (fun _ => 0) (sX s) j = 0; rw [up1_eq]
    unfold fldZ
    rw [e1, e2, e3]
    rcases hk with ⟨hk, ht⟩ | ⟨hk, ht⟩ | ⟨hk, ht⟩ | ⟨hk, ⟨nm, ht⟩ | ⟨u, ht⟩⟩ <;> rw [hk, ht] <;> rfl
  · exact z_nw k h1 h2 h3.2 (h3.2.newA (Or.inl ⟨by omega, by omega⟩) hlt) rfl rfl (fun q hq => cel_new q hq) (celZ_obj hT hc) h5 h6 hP hD hS
theorem arr_class (hE : EnvZ g (xs X) (xa X)) {ty : FieldType} {i : Nat} {cA cB : ClassId} (hi : (tysZ g)[i]? = some (cB, ty)) (hK : va_K (gD g) clsZ (tysZ g ++ [(cA, ty)]) (xs X)) (hp : (∃ n, ty = .object n) ∨ ty = .int ∨ ty = .long ∨ ty = .boolean) : cA = cB := by
  have h1 := (hK.2 6 _ (by show (tysZ g ++ [(cA, ty)])[6]? = _; unfold tysZ; rfl)).2
  have h2 := (hE.1.2 i _ hi).2
  rcases hp with ⟨n, rfl⟩ | rfl | rfl | rfl
  · obtain ⟨_, _, _, _, _, h1⟩ := h1
    obtain ⟨_, _, _, _, _, h2⟩ := h2
    exact Option.some.inj (h1.symm.trans h2)
  all_goals exact Option.some.inj (h1.symm.trans h2)
theorem z_newI (C : CtxZ X g M cc) (hW : (Cond.arrayClass .int).before (xa X) (xs X) = true) (hM : M.1 pc = some (.newarray .int, len)) {n : Int32} (hg : sX s < 900000 ∧ ¬ n < 0 ∧ n.toNatClampNeg ≤ 100000) (hRc : sX s + 1 - sX E ≤ (xR X).cells) (hRs : sZ s + n.toNatClampNeg - sZ E ≤ (xR X).slots)
    (k : AtZ X g E M.2.2.1 (pc + 2) ls (.ref (sX s) :: r) (newA s 20 n.toNatClampNeg)) : AtZ X g E M.2.2.1 pc ls (.int n :: r) s := by
  intro A H locs h1 h2 h3 h4 h5 h6
  have hE : EnvZ g (xs X) (xa X) := C.2.2.2.2.2.2.2.2.1
  refine va_newa (atype := .int) (ty := .int) (a0 := (n.toNatClampNeg, .inl (fun _ => nI 0))) C.1 C.2.1 hW rfl hE.1 h3.1 wsZ_D h4 (fun q hq => Nat.le_trans hE.2.2.2.2.2.2.2.2 hq) (fun cA => rfl) hg.2.1 rfl (by show _ * 4 ≤ _; omega) (show _ ≤ (xR X).cells by omega) (show _ ≤ (xR X).slots by omega) (C.dec hM (by simp [lenI])) (fun q cA H1 hK hP hD hS => ?_)
  have hcA := arr_class hE (i := 0) rfl hK (Or.inr (Or.inl rfl))
  subst hcA
  refine z_nw k h1 h2 h3.2 (h3.2.newA (by unfold okT; omega) hg.1) rfl rfl (fun q hq => cel_new q hq) ?_ h5 h6 hP hD hS
  rw [celZ_20 (show sT (newA s 20 n.toNatClampNeg) (sX s) = 20 from up1_eq)]
  show Sum.inl (gC g 20, up1 (sN s) (sX s) n.toNatClampNeg (sX s), Sum.inl (up1 (sI s) (sX s) (fun _ => nI 0) (sX s))) = _
  rw [up1_eq, up1_eq]
theorem z_newJ (C : CtxZ X g M cc) (hW : (Cond.arrayClass .long).before (xa X) (xs X) = true) (hM : M.1 pc = some (.newarray .long, len)) {n : Int32} (hg : sX s < 900000 ∧ ¬ n < 0 ∧ n.toNatClampNeg ≤ 100000) (hRc : sX s + 1 - sX E ≤ (xR X).cells) (hRs : sZ s + n.toNatClampNeg - sZ E ≤ (xR X).slots)
    (k : AtZ X g E M.2.2.1 (pc + 2) ls (.ref (sX s) :: r) (newA s 21 n.toNatClampNeg)) : AtZ X g E M.2.2.1 pc ls (.int n :: r) s := by
  intro A H locs h1 h2 h3 h4 h5 h6
  have hE : EnvZ g (xs X) (xa X) := C.2.2.2.2.2.2.2.2.1
  refine va_newa (atype := .long) (ty := .long) (a0 := (n.toNatClampNeg, .inr (.inl (fun _ => lN 0)))) C.1 C.2.1 hW rfl hE.1 h3.1 wsZ_D h4 (fun q hq => Nat.le_trans hE.2.2.2.2.2.2.2.2 hq) (fun cA => rfl) hg.2.1 rfl (by show _ * 8 ≤ _; omega) (show _ ≤ (xR X).cells by omega) (show _ ≤ (xR X).slots by omega) (C.dec hM (by simp [lenI])) (fun q cA H1 hK hP hD hS => ?_)
  have hcA := arr_class hE (i := 1) rfl hK (Or.inr (Or.inr (Or.inl rfl)))
  subst hcA
  refine z_nw k h1 h2 h3.2 (h3.2.newA (by unfold okT; omega) hg.1) rfl rfl (fun q hq => cel_new q hq) ?_ h5 h6 hP hD hS
  rw [celZ_21 (show sT (newA s 21 n.toNatClampNeg) (sX s) = 21 from up1_eq)]
  show Sum.inl (gC g 21, up1 (sN s) (sX s) n.toNatClampNeg (sX s), Sum.inr (Sum.inl (up1 (sL s) (sX s) (fun _ => lN 0) (sX s)))) = _
  rw [up1_eq, up1_eq]
theorem z_newZ (C : CtxZ X g M cc) (hW : (Cond.arrayClass .boolean).before (xa X) (xs X) = true) (hM : M.1 pc = some (.newarray .boolean, len)) {n : Int32} (hg : sX s < 900000 ∧ ¬ n < 0 ∧ n.toNatClampNeg ≤ 100000) (hRc : sX s + 1 - sX E ≤ (xR X).cells) (hRs : sZ s + n.toNatClampNeg - sZ E ≤ (xR X).slots)
    (k : AtZ X g E M.2.2.1 (pc + 2) ls (.ref (sX s) :: r) (newA s 22 n.toNatClampNeg)) : AtZ X g E M.2.2.1 pc ls (.int n :: r) s := by
  intro A H locs h1 h2 h3 h4 h5 h6
  have hE : EnvZ g (xs X) (xa X) := C.2.2.2.2.2.2.2.2.1
  refine va_newa (atype := .boolean) (ty := .boolean) (a0 := (n.toNatClampNeg, .inl (fun _ => nI 0))) C.1 C.2.1 hW rfl hE.1 h3.1 wsZ_D h4 (fun q hq => Nat.le_trans hE.2.2.2.2.2.2.2.2 hq) (fun cA => rfl) hg.2.1 rfl (by show _ * 1 ≤ _; omega) (show _ ≤ (xR X).cells by omega) (show _ ≤ (xR X).slots by omega) (C.dec hM (by simp [lenI])) (fun q cA H1 hK hP hD hS => ?_)
  have hcA := arr_class hE (i := 2) rfl hK (Or.inr (Or.inr (Or.inr rfl)))
  subst hcA
  refine z_nw k h1 h2 h3.2 (h3.2.newA (by unfold okT; omega) hg.1) rfl rfl (fun q hq => cel_new q hq) ?_ h5 h6 hP hD hS
  rw [celZ_22 (show sT (newA s 22 n.toNatClampNeg) (sX s) = 22 from up1_eq)]
  show Sum.inl (gC g 22, up1 (sN s) (sX s) n.toNatClampNeg (sX s), Sum.inl (up1 (sI s) (sX s) (fun _ => nI 0) (sX s))) = _
  rw [up1_eq, up1_eq]
theorem z_newR (C : CtxZ X g M cc) {c k : Nat} (hM : M.1 pc = some (.anewarray k, len)) (hx : lkN M.2.1 k = some c) (hc : c = 3 ∨ c = 6 ∨ c = 11) {n : Int32} (hg : sX s < 900000 ∧ ¬ n < 0 ∧ n.toNatClampNeg ≤ 100000) (hRc : sX s + 1 - sX E ≤ (xR X).cells) (hRs : sZ s + n.toNatClampNeg - sZ E ≤ (xR X).slots)
    (kk : AtZ X g E M.2.2.1 (pc + 3) ls (.ref (sX s) :: r) (newA s (40 + c) n.toNatClampNeg)) : AtZ X g E M.2.2.1 pc ls (.int n :: r) s := by
  intro A H locs h1 h2 h3 h4 h5 h6
  have hE : EnvZ g (xs X) (xa X) := C.2.2.2.2.2.2.2.2.1
  have hl : (Cond.classLink (ownZ M.2.1) k (clC c)).before (xa X) (xs X) = true := by
    rcases C.2.2.2.2.2.2.2.1.2.2.1 k _ hx with h | h
    · exact h.2
    · omega
  have key : ∀ (i : Nat) (C' : String), clC c = C' → (tysZ g)[i]? = some (gC g (40 + c), .object C') → va_AO C' (xs X) → WX X H locs (sX s - sX E) (sZ s - sZ E) (F0 (xm X) pc A (.int n :: r.map (conV g))) := by
    intro i C' hC hi hAO
    rw [hC] at hl
    refine va_newq (C := C') C.1 C.2.1 C.2.2.2.1 hl hAO hE.1 h3.1 wsZ_D h4 (fun q hq => Nat.le_trans hE.2.2.2.2.2.2.2.2 hq) hg.2.1 rfl (by omega) (show _ ≤ (xR X).cells by omega) (show _ ≤ (xR X).slots by omega) (C.dec hM (by simp [lenI])) (fun q cA H1 hK hP hD hS => ?_)
    have hcA := arr_class hE (i := i) hi hK (Or.inl ⟨_, rfl⟩)
    subst hcA
    have hT : sT (newA s (40 + c) n.toNatClampNeg) (sX s) = 40 + c := up1_eq
    refine z_nw kk h1 h2 h3.2 (h3.2.newA (by unfold okT; omega) hg.1) rfl rfl (fun q hq => cel_new q hq) ?_ h5 h6 hP hD hS
    rw [celZ_40 (by rw [hT]; omega), hT]
    show Sum.inl (gC g (40 + c), up1 (sN s) (sX s) n.toNatClampNeg (sX s), Sum.inr (Sum.inr (Sum.inr (Sum.inr (fun j => roZ g (up1 (sR s) (sX s) (fun _ => 0) (sX s) j)))))) = _
    rw [up1_eq, up1_eq]
    rfl
  rcases hc with rfl | rfl | rfl
  · exact key 3 _ rfl rfl hE.2.2.2.1.1
  · exact key 4 _ rfl rfl hE.2.2.2.1.2.1
  · exact key 5 _ rfl rfl hE.2.2.2.1.2.2.1
theorem z_objInit (C : CtxZ X g M cc) (HP : PrmZ M.2.1 (xs X) (xa X)) {k na : Nat} (hM : M.1 pc = some (.invokespecial k, len)) (hx : lkC M.2.1 k = some (0, 0, na)) {a : Nat} (ha : ¬ a = 0) (hw : stW (.ref a :: r) ≤ 8) (kk : AtZ X g E M.2.2.1 (pc + 3) ls r s) : AtZ X g E M.2.2.1 pc ls (.ref a :: r) s := by
  intro A H locs h1 h2 h3 h4 h5 h6
  obtain ⟨q1, q2, q3⟩ := HP k 0 na hx
  have hR := C.2.2.2.2.2.2.2.2.2
  have hcat := catW (g := g) r
  have hw' : stW r + 1 ≤ 8 := hw
  have e : conV g (.ref a) = .ref (adZ g a) := by show rfZ g a = _; unfold rfZ; rw [if_neg ha]
  rw [List.map_cons, e]
  exact W.objInit C.1 C.2.1 C.2.2.2.1 q1 q2 q3 rfl (by rw [C.2.2.1, ← h2]; exact h1.1) rfl (C.dec hM (by simp [lenI])) (show 1 ≤ (xR X).frames by omega) (show 2 * 0 + _ + 12 ≤ (xR X).locals by omega) (kk A H locs h1 h2 h3 h4 h5 h6)
theorem z_max (C : CtxZ X g M cc) (HP : PrmZ M.2.1 (xs X) (xa X)) {k na : Nat} (hM : M.1 pc = some (.invokestatic k, len)) (hx : lkC M.2.1 k = some (0, 1, na)) {x y : Int32} (hw : stW (.int y :: .int x :: r) ≤ 8) (hb : sX s - sX E ≤ (xR X).cells ∧ sZ s - sZ E ≤ (xR X).slots) (kk : AtZ X g E M.2.2.1 (pc + 3) ls (.int (if x < y then y else x) :: r) s) : AtZ X g E M.2.2.1 pc ls (.int y :: .int x :: r) s := by
  intro A H locs h1 h2 h3 h4 h5 h6
  obtain ⟨q1, q2, q3, q4⟩ := HP k 1 na hx
  have hR := C.2.2.2.2.2.2.2.2.2
  have hcat := catW (g := g) r
  have hw' : stW r + 1 + 1 ≤ 8 := hw
  exact va_mmax C.1 C.2.1 (by rw [C.2.2.1, ← h2]; exact h1.1.symm) C.2.2.2.1 q1 q2 q3 q4 (by omega) (by omega) hb.1 hb.2 (C.dec hM (by simp [lenI])) (kk A H locs h1 h2 h3 h4 h5 h6)
theorem z_min (C : CtxZ X g M cc) (HP : PrmZ M.2.1 (xs X) (xa X)) {k na : Nat} (hM : M.1 pc = some (.invokestatic k, len)) (hx : lkC M.2.1 k = some (0, 2, na)) {x y : Int32} (hw : stW (.int y :: .int x :: r) ≤ 8) (hb : sX s - sX E ≤ (xR X).cells ∧ sZ s - sZ E ≤ (xR X).slots) (kk : AtZ X g E M.2.2.1 (pc + 3) ls (.int (if y < x then y else x) :: r) s) : AtZ X g E M.2.2.1 pc ls (.int y :: .int x :: r) s := by
  intro A H locs h1 h2 h3 h4 h5 h6
  obtain ⟨q1, q2, q3, q4⟩ := HP k 2 na hx
  have hR := C.2.2.2.2.2.2.2.2.2
  have hcat := catW (g := g) r
  have hw' : stW r + 1 + 1 ≤ 8 := hw
  exact va_mmin C.1 C.2.1 (by rw [C.2.2.1, ← h2]; exact h1.1.symm) C.2.2.2.1 q1 q2 q3 q4 (by omega) (by omega) hb.1 hb.2 (C.dec hM (by simp [lenI])) (kk A H locs h1 h2 h3 h4 h5 h6)
theorem z_maxL (C : CtxZ X g M cc) (HP : PrmZ M.2.1 (xs X) (xa X)) {k na : Nat} (hM : M.1 pc = some (.invokestatic k, len)) (hx : lkC M.2.1 k = some (0, 3, na)) {x y : Int64} (hw : stW (.long y :: .long x :: r) ≤ 8) (hb : sX s - sX E ≤ (xR X).cells ∧ sZ s - sZ E ≤ (xR X).slots) (kk : AtZ X g E M.2.2.1 (pc + 3) ls (.long (if y < x then x else y) :: r) s) : AtZ X g E M.2.2.1 pc ls (.long y :: .long x :: r) s := by
  intro A H locs h1 h2 h3 h4 h5 h6
  obtain ⟨q1, q2, q3, q4⟩ := HP k 3 na hx
  have hR := C.2.2.2.2.2.2.2.2.2
  have hcat := catW (g := g) r
  have hw' : stW r + 2 + 2 ≤ 8 := hw
  exact va_mmax_long C.1 C.2.1 (by rw [C.2.2.1, ← h2]; exact h1.1.symm) C.2.2.2.1 q1 q2 q3 q4 (by omega) (by omega) hb.1 hb.2 (C.dec hM (by simp [lenI])) (kk A H locs h1 h2 h3 h4 h5 h6)
theorem z_minL (C : CtxZ X g M cc) (HP : PrmZ M.2.1 (xs X) (xa X)) {k na : Nat} (hM : M.1 pc = some (.invokestatic k, len)) (hx : lkC M.2.1 k = some (0, 4, na)) {x y : Int64} (hw : stW (.long y :: .long x :: r) ≤ 8) (hb : sX s - sX E ≤ (xR X).cells ∧ sZ s - sZ E ≤ (xR X).slots) (kk : AtZ X g E M.2.2.1 (pc + 3) ls (.long (if y < x then y else x) :: r) s) : AtZ X g E M.2.2.1 pc ls (.long y :: .long x :: r) s := by
  intro A H locs h1 h2 h3 h4 h5 h6
  obtain ⟨q1, q2, q3, q4⟩ := HP k 4 na hx
  have hR := C.2.2.2.2.2.2.2.2.2
  have hcat := catW (g := g) r
  have hw' : stW r + 2 + 2 ≤ 8 := hw
  exact va_mmin_long C.1 C.2.1 (by rw [C.2.2.1, ← h2]; exact h1.1.symm) C.2.2.2.1 q1 q2 q3 q4 (by omega) (by omega) hb.1 hb.2 (C.dec hM (by simp [lenI])) (kk A H locs h1 h2 h3 h4 h5 h6)
theorem nfw : nativeFrameWords "java/lang/System" "arraycopy" 5 + 11 ≤ 100 := by decide +kernel
theorem z_copy (C : CtxZ X g M cc) (HP : PrmZ M.2.1 (xs X) (xa X)) {k na : Nat} (hM : M.1 pc = some (.invokestatic k, len)) (hx : lkC M.2.1 k = some (0, 5, na)) {a b : Nat} {sp dp n : Int32} (hw : stW (.int n :: .int dp :: .ref b :: .int sp :: .ref a :: r) ≤ 8) (hg : (sT s a = 20 ∧ sT s b = 20) ∧ (¬ sp < 0 ∧ ¬ dp < 0 ∧ ¬ n < 0) ∧ sp.toNatClampNeg + n.toNatClampNeg ≤ sN s a ∧ dp.toNatClampNeg + n.toNatClampNeg ≤ sN s b)
    (kk : AtZ X g E M.2.2.1 (pc + 3) ls r (rowI s b (va_cpy (sI s a) (sI s b) sp.toNatClampNeg dp.toNatClampNeg n.toNatClampNeg))) : AtZ X g E M.2.2.1 pc ls (.int n :: .int dp :: .ref b :: .int sp :: .ref a :: r) s := by
  intro A H locs h1 h2 h3 h4 h5 h6
  obtain ⟨q1, q2, q3, q4⟩ := HP k 5 na hx
  have hE : EnvZ g (xs X) (xa X) := C.2.2.2.2.2.2.2.2.1
  have hR := C.2.2.2.2.2.2.2.2.2
  have hcat := catW (g := g) r
  have hn := nfw
  have hw' : stW r + 1 + 1 + 1 + 1 + 1 ≤ 8 := hw
  have ha := h3.2.place (a := a) (by omega) (by omega)
  have hb := h3.2.place (a := b) (by omega) (by omega)
  rw [List.map_cons, List.map_cons, List.map_cons, List.map_cons, List.map_cons, conV_ref h3.2 ha, conV_ref h3.2 hb]
  refine va_copyi (f := sI s a) (g := sI s b) (ty := .int) C.1 C.2.1 (by rw [C.2.2.1, ← h2]; exact h1.1.symm) C.2.2.2.1 q1 q2 q3 q4 hE.1 h3.1 wsZ_D h4 (a - 1) (b - 1) 0 0 (by rw [wsZ_get ha, celZ_20 hg.1.1]) (by rw [wsZ_get hb, celZ_20 hg.1.2]) rfl rfl rfl hg.2.1.1 hg.2.1.2.1 hg.2.1.2.2 hg.2.2.1 hg.2.2.2 (fun i _ => rfl) (show 1 ≤ (xR X).frames by omega) (show _ ≤ (xR X).locals by omega) (C.dec hM (by simp [lenI])) (fun H1 locs1 hP hD hS => ?_)
  refine z_wr kk h1 h2 h3.2 hb one_rowI ?_ h5 h6 hP hS
  rw [celZ_20 (show sT (rowI s b _) b = 20 from hg.1.2)]
  show Sum.inl (gC g 20, sN s b, Sum.inl (up1 (sI s) b _ b)) = _
  rw [up1_eq]
theorem z_clone (C : CtxZ X g M cc) (HP : PrmZ M.2.1 (xs X) (xa X)) {k na : Nat} (hM : M.1 pc = some (.invokevirtual k, len)) (hx : lkC M.2.1 k = some (0, 8, na)) {a : Nat} (hw : stW (.ref a :: r) ≤ 8) (hg : sT s a = 20 ∧ sX s < 900000 ∧ sN s a ≤ 100000) (hRc : sX s + 1 - sX E ≤ (xR X).cells) (hRs : sZ s + sN s a - sZ E ≤ (xR X).slots)
    (kk : AtZ X g E M.2.2.1 (pc + 3) ls (.ref (sX s) :: r) (rowI (newA s 20 (sN s a)) (sX s) (sI s a))) : AtZ X g E M.2.2.1 pc ls (.ref a :: r) s := by
  intro A H locs h1 h2 h3 h4 h5 h6
  obtain ⟨q1, q2, q3, q4, q5⟩ := HP k 8 na hx
  have hE : EnvZ g (xs X) (xa X) := C.2.2.2.2.2.2.2.2.1
  have hR := C.2.2.2.2.2.2.2.2.2
  have hcat := catW (g := g) r
  have hw' : stW r + 1 ≤ 8 := hw
  have ha := h3.2.place (a := a) (by omega) (by omega)
  rw [List.map_cons, conV_ref h3.2 ha]
  refine va_clone (x := (sN s a, .inl (sI s a))) (ty := .int) C.1 C.2.1 (by rw [C.2.2.1, ← h2]; exact h1.1.symm) C.2.2.2.1 q1 q2 q3 q4 q5 hE.2.2.2.1.2.2.2 hE.1 h3.1 wsZ_D h4 (fun q hq => Nat.le_trans hE.2.2.2.2.2.2.2.2 hq) (a - 1) 0 (by rw [wsZ_get ha, celZ_20 hg.1]) rfl (find20 hE) (fun i v hv => ?_) (show 1 ≤ (xR X).frames by omega) (show _ ≤ (xR X).locals by omega) (show _ ≤ (xR X).cells by omega) (show sZ s - sZ E + sN s a ≤ (xR X).slots by omega) (C.dec hM (by simp [lenI])) (fun q H1 hK hP hD hS => ?_)
  · have hv' : (arrV (gC g 20) (sN s a) (fun j => .int (sI s a j))).slots[i]? = some v := hv
    have hi : i < sN s a := by
      have h := (Array.getElem?_eq_some_iff.mp hv').1
      rw [arrV_size] at h
      exact h
    rw [arrV_read _ _ hi] at hv'
    cases hv'
    rfl
  · have hone : OneZ (newA s 20 (sN s a)) (rowI (newA s 20 (sN s a)) (sX s) (sI s a)) (sX s) := one_rowI
    have hst := h3.2.newA (t := 20) (n := sN s a) (by unfold okT; omega) hg.2.1
    refine z_nw kk h1 h2 h3.2 (hone.stt hst ⟨h3.2.1.1, Nat.lt_succ_self _⟩) rfl rfl (fun q hq => (hone.cel q hq).trans (cel_new q hq)) ?_ h5 h6 hP hD hS
    rw [celZ_20 (show sT (rowI (newA s 20 (sN s a)) (sX s) (sI s a)) (sX s) = 20 from up1_eq)]
    show Sum.inl (gC g 20, up1 (sN s) (sX s) (sN s a) (sX s), Sum.inl (up1 (up1 (sI s) (sX s) (fun _ => nI 0)) (sX s) (sI s a) (sX s))) = _
    rw [up1_eq, up1_eq]
end SIM5
