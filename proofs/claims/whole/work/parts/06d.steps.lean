/-! STEPS: arrays -/
theorem rf_ro {g : GE} (n : Nat) : va_rf (roZ g n) = rfZ g n := by
  unfold roZ rfZ
  split <;> rfl
theorem fun_upd {s : AS} {a j : Nat} {x : Int32} : sI (setI s a j x) a = upd (sI s a) j x := by
  funext k
  show up2 (sI s) a j x a k = _
  rw [up2_eq]
  rfl
theorem fun_updL {s : AS} {a j : Nat} {x : Int64} : sL (setJ s a j x) a = vp_updL (sL s a) j x := by
  funext k
  show up2 (sL s) a j x a k = _
  rw [up2_eq]
  rfl
theorem vp_nar_bit {x : Int32} (h : x = nI 0 ∨ x = nI 1) : vp_nar .boolean x = x := by
  rcases h with rfl | rfl <;> rfl
theorem tag40 {g : GE} {s : AS} (h : Stt g s) {a : Nat} (ha : 40 ≤ sT s a) : (1 ≤ a ∧ a < sX s) ∧ (sT s a = 43 ∨ sT s a = 46 ∨ sT s a = 51) := by
  have hp := h.place (a := a) (by omega) (by omega)
  have ht := h.2.1 a hp.1 hp.2
  refine ⟨hp, ?_⟩
  unfold okT at ht
  omega
theorem tag30 {g : GE} {s : AS} (h : Stt g s) {a : Nat} (ha : sT s a = 30) : a = 1000000 ∨ a = 1000001 := by
  obtain ⟨-, h1, h2, -⟩ := h
  by_cases hp : 1 ≤ a ∧ a < sX s
  · have := h1 a hp.1 hp.2
    unfold okT at this
    omega
  · by_cases e1 : a = 1000000
    · exact Or.inl e1
    · by_cases e2 : a = 1000001
      · exact Or.inr e2
      · have := h2 a hp e1 e2
        omega
section SIM4
variable {X : MC} {g : GE} {M : MI} {cc : ByteArray} {E : AS} {pc len : Nat} {ls r : List Value} {s : AS}
/-- behind a write at one place -/
theorem z_wr {A : Array Slot} {H : Heap} {locs : List Loc} {nL pc' a : Nat} {s' : AS} {e : va_E} {st : List Value} (k : AtZ X g E nL pc' ls st s') (h1 : LVZ g ls A) (h2 : ls.length = nL) (hs : Stt g s) (hpl : 1 ≤ a ∧ a < sX s) (ho : OneZ s s' a) (he : celZ g s' a = e) (h5 : sX E ≤ sX s ∧ sZ E ≤ sZ s) (h6 : (xs X).heap.size + 1 = gB g + sX E)
    (hP : va_P (gD g) clsZ ((wsZ g s).set (a - 1) (gB g + (a - 1), e)) H) (hS : va_S (inW g) (xs X).heap H locs) : WX X H locs (sX s - sX E) (sZ s - sZ E) (F0 (xm X) pc' A (st.map (conV g))) := by
  have hws : wsZ g s' = (wsZ g s).set (a - 1) (gB g + (a - 1), e) := by rw [wsZ_set hpl ho.2.2.1 ho.cel, he]
  have kk := k A H locs h1 h2 ⟨by rw [hws]; exact hP, ho.stt hs hpl⟩ hS (by rw [ho.2.2.1, ho.2.2.2.1]; exact h5) h6
  rw [ho.2.2.1, ho.2.2.2.1] at kk
  exact kk
theorem z_iaload (C : CtxZ X g M cc) (hM : M.1 pc = some (.iaload, len)) {a : Nat} {i : Int32} (ht : (sT s a = 20 ∨ sT s a = 30) ∧ vp_in i (sN s a)) (k : AtZ X g E M.2.2.1 (pc + 1) ls (.int (sI s a i.toNatClampNeg) :: r) s) : AtZ X g E M.2.2.1 pc ls (.int i :: .ref a :: r) s := by
  intro A H locs h1 h2 h3 h4 h5 h6
  have hE : EnvZ g (xs X) (xa X) := C.2.2.2.2.2.2.2.2.1
  have kk := k A H locs h1 h2 h3 h4 h5 h6
  have hd := C.dec hM (by simp [lenI])
  obtain ⟨ht, hin⟩ := ht
  rw [List.map_cons, List.map_cons]
  rcases ht with ht | ht
  · have hpl := h3.2.place (a := a) (by omega) (by omega)
    rw [conV_ref h3.2 hpl]
    exact va_iald C.1 C.2.1 hE.1 h3.1 (a - 1) 0 (by rw [wsZ_get hpl, celZ_20 ht]) rfl hin hd kk
  · rcases tag30 h3.2 ht with rfl | rfl
    · obtain ⟨-, -, -, ⟨g1, g2, g3⟩, -⟩ := h3.2
      have e : conV g (.ref 1000000) = .ref (gT g) := rfl
      rw [e]
      rw [g2] at hin
      have hlt : i.toNatClampNeg < 3 := Nat.not_le.mp fun q => hin (Or.inr q)
      exact va_ti C.1 C.2.1 hE.2.2.2.2.2.1.1 h4 hin (by rw [← g3 _ hlt]; rfl) hd kk
    · obtain ⟨-, -, -, -, ⟨g1, g2, g3⟩⟩ := h3.2
      have e : conV g (.ref 1000001) = .ref (gS g) := rfl
      rw [e]
      rw [g2] at hin
      have hlt : i.toNatClampNeg < gN g := Nat.not_le.mp fun q => hin (Or.inr q)
      have hs := hE.2.2.2.2.2.2.1
      rw [List.map_cons, g3 _ hlt] at kk
      exact va_sld C.1 C.2.1 hs.1 (Nat.lt_of_lt_of_le hs.2.1 hE.2.2.2.2.2.2.2.2) (Nat.not_le.mpr hs.2.1) h4 hin hd kk
theorem z_laload (C : CtxZ X g M cc) (hM : M.1 pc = some (.laload, len)) {a : Nat} {i : Int32} (ht : sT s a = 21 ∧ vp_in i (sN s a)) (k : AtZ X g E M.2.2.1 (pc + 1) ls (.long (sL s a i.toNatClampNeg) :: r) s) : AtZ X g E M.2.2.1 pc ls (.int i :: .ref a :: r) s := by
  intro A H locs h1 h2 h3 h4 h5 h6
  have hE : EnvZ g (xs X) (xa X) := C.2.2.2.2.2.2.2.2.1
  have kk := k A H locs h1 h2 h3 h4 h5 h6
  have hpl := h3.2.place (a := a) (by omega) (by omega)
  rw [List.map_cons, List.map_cons, conV_ref h3.2 hpl]
  exact va_lald C.1 C.2.1 hE.1 h3.1 (a - 1) 1 (by rw [wsZ_get hpl, celZ_21 ht.1]) rfl ht.2 (C.dec hM (by simp [lenI])) kk
theorem z_baload (C : CtxZ X g M cc) (hM : M.1 pc = some (.baload, len)) {a : Nat} {i : Int32} (ht : sT s a = 22 ∧ vp_in i (sN s a)) (k : AtZ X g E M.2.2.1 (pc + 1) ls (.int (sI s a i.toNatClampNeg) :: r) s) : AtZ X g E M.2.2.1 pc ls (.int i :: .ref a :: r) s := by
  intro A H locs h1 h2 h3 h4 h5 h6
  have hE : EnvZ g (xs X) (xa X) := C.2.2.2.2.2.2.2.2.1
  have kk := k A H locs h1 h2 h3 h4 h5 h6
  have hpl := h3.2.place (a := a) (by omega) (by omega)
  rw [List.map_cons, List.map_cons, conV_ref h3.2 hpl]
  exact va_zald C.1 C.2.1 hE.1 h3.1 (a - 1) 2 (by rw [wsZ_get hpl, celZ_22 ht.1]) rfl ht.2 (C.dec hM (by simp [lenI])) kk
theorem z_aaload (C : CtxZ X g M cc) (hM : M.1 pc = some (.aaload, len)) {a : Nat} {i : Int32} (ht : 40 ≤ sT s a ∧ vp_in i (sN s a)) (k : AtZ X g E M.2.2.1 (pc + 1) ls (.ref (sR s a i.toNatClampNeg) :: r) s) : AtZ X g E M.2.2.1 pc ls (.int i :: .ref a :: r) s := by
  intro A H locs h1 h2 h3 h4 h5 h6
  have hE : EnvZ g (xs X) (xa X) := C.2.2.2.2.2.2.2.2.1
  have kk := k A H locs h1 h2 h3 h4 h5 h6
  obtain ⟨hpl, hT⟩ := tag40 h3.2 ht.1
  rw [List.map_cons, List.map_cons, conV_ref h3.2 hpl]
  rw [List.map_cons, show conV g (.ref (sR s a i.toNatClampNeg)) = va_rf (roZ g (sR s a i.toNatClampNeg)) from (rf_ro _).symm] at kk
  have hc := wsZ_get (g := g) hpl
  rw [celZ_40 ht.1] at hc
  rcases hT with hT | hT | hT <;> rw [hT] at hc
  · exact va_aldq C.1 C.2.1 hE.1 h3.1 (a - 1) 3 hc rfl ht.2 (C.dec hM (by simp [lenI])) kk
  · exact va_aldq C.1 C.2.1 hE.1 h3.1 (a - 1) 4 hc rfl ht.2 (C.dec hM (by simp [lenI])) kk
  · exact va_aldq C.1 C.2.1 hE.1 h3.1 (a - 1) 5 hc rfl ht.2 (C.dec hM (by simp [lenI])) kk
theorem z_iastore (C : CtxZ X g M cc) (hM : M.1 pc = some (.iastore, len)) {a : Nat} {i x : Int32} (ht : sT s a = 20 ∧ vp_in i (sN s a)) (k : AtZ X g E M.2.2.1 (pc + 1) ls r (setI s a i.toNatClampNeg x)) : AtZ X g E M.2.2.1 pc ls (.int x :: .int i :: .ref a :: r) s := by
  intro A H locs h1 h2 h3 h4 h5 h6
  have hE : EnvZ g (xs X) (xa X) := C.2.2.2.2.2.2.2.2.1
  have hpl := h3.2.place (a := a) (by omega) (by omega)
  rw [List.map_cons, List.map_cons, List.map_cons, conV_ref h3.2 hpl]
  refine va_iast C.1 C.2.1 hE.1 h3.1 wsZ_D h4 (a - 1) 0 (by rw [wsZ_get hpl, celZ_20 ht.1]) rfl ht.2 (C.dec hM (by simp [lenI])) (fun H1 locs1 hP hD hS => ?_)
  refine z_wr k h1 h2 h3.2 hpl one_setI ?_ h5 h6 hP hS
  rw [celZ_20 (show sT (setI s a i.toNatClampNeg x) a = 20 from ht.1), fun_upd]
  rfl
theorem z_bastore (C : CtxZ X g M cc) (hM : M.1 pc = some (.bastore, len)) {a : Nat} {i x : Int32} (ht : (sT s a = 22 ∧ vp_in i (sN s a)) ∧ (x = nI 0 ∨ x = nI 1)) (k : AtZ X g E M.2.2.1 (pc + 1) ls r (setI s a i.toNatClampNeg x)) : AtZ X g E M.2.2.1 pc ls (.int x :: .int i :: .ref a :: r) s := by
  intro A H locs h1 h2 h3 h4 h5 h6
  have hE : EnvZ g (xs X) (xa X) := C.2.2.2.2.2.2.2.2.1
  have hpl := h3.2.place (a := a) (by omega) (by omega)
  rw [List.map_cons, List.map_cons, List.map_cons, conV_ref h3.2 hpl]
  refine va_zast C.1 C.2.1 hE.1 h3.1 wsZ_D h4 (a - 1) 2 (by rw [wsZ_get hpl, celZ_22 ht.1.1]) rfl ht.1.2 (C.dec hM (by simp [lenI])) (fun H1 locs1 hP hD hS => ?_)
  rw [vp_nar_bit ht.2] at hP
  refine z_wr k h1 h2 h3.2 hpl one_setI ?_ h5 h6 hP hS
  rw [celZ_22 (show sT (setI s a i.toNatClampNeg x) a = 22 from ht.1.1), fun_upd]
  rfl
theorem z_lastore (C : CtxZ X g M cc) (hM : M.1 pc = some (.lastore, len)) {a : Nat} {i : Int32} {x : Int64} (ht : sT s a = 21 ∧ vp_in i (sN s a)) (k : AtZ X g E M.2.2.1 (pc + 1) ls r (setJ s a i.toNatClampNeg x)) : AtZ X g E M.2.2.1 pc ls (.long x :: .int i :: .ref a :: r) s := by
  intro A H locs h1 h2 h3 h4 h5 h6
  have hE : EnvZ g (xs X) (xa X) := C.2.2.2.2.2.2.2.2.1
  have hpl := h3.2.place (a := a) (by omega) (by omega)
  rw [List.map_cons, List.map_cons, List.map_cons, conV_ref h3.2 hpl]
  refine va_last C.1 C.2.1 hE.1 h3.1 wsZ_D h4 (a - 1) 1 (by rw [wsZ_get hpl, celZ_21 ht.1]) rfl ht.2 (C.dec hM (by simp [lenI])) (fun H1 locs1 hP hD hS => ?_)
  refine z_wr k h1 h2 h3.2 hpl one_setJ ?_ h5 h6 hP hS
  rw [celZ_21 (show sT (setJ s a i.toNatClampNeg x) a = 21 from ht.1), fun_updL]
  rfl
theorem fun_updR {s : AS} {a j x : Nat} : (fun k => roZ g (sR (setR s a j x) a k)) = va_up (fun k => roZ g (sR s a k)) j (roZ g x) := by
  funext k
  show roZ g (up2 (sR s) a j x a k) = _
  rw [up2_eq]
  by_cases h : k = j
  · rw [if_pos h, h, va_up_self]
  · rw [if_neg h, va_up_ne _ _ h]
theorem z_aastore (C : CtxZ X g M cc) (HC : ∀ c, c < 13 → ClsZ c) (hM : M.1 pc = some (.aastore, len)) {a x : Nat} {i : Int32} (ht : (40 ≤ sT s a ∧ vp_in i (sN s a)) ∧ (x = 0 ∨ sT s x + 39 = sT s a)) (k : AtZ X g E M.2.2.1 (pc + 1) ls r (setR s a i.toNatClampNeg x)) : AtZ X g E M.2.2.1 pc ls (.ref x :: .int i :: .ref a :: r) s := by
  intro A H locs h1 h2 h3 h4 h5 h6
  have hE : EnvZ g (xs X) (xa X) := C.2.2.2.2.2.2.2.2.1
  obtain ⟨hpl, hT⟩ := tag40 h3.2 ht.1.1
  have hd := C.dec hM (by simp [lenI])
  have hc := wsZ_get (g := g) hpl
  rw [celZ_40 ht.1.1] at hc
  have key : ∀ (H1 : Heap) (locs1 : List Loc), va_P (gD g) clsZ ((wsZ g s).set (a - 1) (gB g + (a - 1), .inl (gC g (sT s a), sN s a, .inr (.inr (.inr (.inr (va_up (fun j => roZ g (sR s a j)) i.toNatClampNeg (roZ g x)))))))) H1 → va_S (inW g) (xs X).heap H1 locs1 → WX X H1 locs1 (sX s - sX E) (sZ s - sZ E) (F0 (xm X) (pc + 1) A (r.map (conV g))) := by
    intro H1 locs1 hP hS
    refine z_wr k h1 h2 h3.2 hpl one_setR ?_ h5 h6 hP hS
    rw [celZ_40 (show 40 ≤ sT (setR s a i.toNatClampNeg x) a from ht.1.1), fun_updR]
    rfl
  rw [List.map_cons, List.map_cons, List.map_cons, conV_ref h3.2 hpl]
  rcases ht.2 with h0 | h0
  · have e : conV g (.ref x) = .null := by show rfZ g x = _; unfold rfZ; rw [if_pos h0]
    have e2 : roZ g x = none := by unfold roZ; rw [if_pos h0]
    rw [e]
    rw [e2] at key
    rcases hT with hT | hT | hT <;> rw [hT] at hc key
    · exact va_astqN C.1 C.2.1 hE.1 h3.1 wsZ_D h4 (a - 1) 3 hc rfl ht.1.2 hd (fun H1 locs1 hP hD hS => key H1 locs1 hP hS)
    · exact va_astqN C.1 C.2.1 hE.1 h3.1 wsZ_D h4 (a - 1) 4 hc rfl ht.1.2 hd (fun H1 locs1 hP hD hS => key H1 locs1 hP hS)
    · exact va_astqN C.1 C.2.1 hE.1 h3.1 wsZ_D h4 (a - 1) 5 hc rfl ht.1.2 hd (fun H1 locs1 hP hD hS => key H1 locs1 hP hS)
  · have hx := h3.2.place (a := x) (by omega) (by omega)
    have e2 : roZ g x = some (gB g + (x - 1)) := by unfold roZ; rw [if_neg (by omega), adZ_place h3.2 hx]
    rw [conV_ref h3.2 hx]
    rw [e2] at key
    have hv := wsZ_get (g := g) hx
    rcases hT with hT | hT | hT <;> rw [hT] at hc key
    · rw [celZ_obj (c := 3) (by omega) (by decide)] at hv
      exact va_astq (r := (clC 3, clT 3, (fkZ 3).length)) C.1 C.2.1 hE.1 h3.1 wsZ_D h4 (a - 1) 3 (x - 1) 3 hc rfl hv (HC 3 (by decide)).1 ht.1.2 hd (fun H1 locs1 hP hD hS => key H1 locs1 hP hS)
    · rw [celZ_obj (c := 6) (by omega) (by decide)] at hv
      exact va_astq (r := (clC 6, clT 6, (fkZ 6).length)) C.1 C.2.1 hE.1 h3.1 wsZ_D h4 (a - 1) 4 (x - 1) 6 hc rfl hv (HC 6 (by decide)).1 ht.1.2 hd (fun H1 locs1 hP hD hS => key H1 locs1 hP hS)
    · rw [celZ_obj (c := 11) (by omega) (by decide)] at hv
      exact va_astq (r := (clC 11, clT 11, (fkZ 11).length)) C.1 C.2.1 hE.1 h3.1 wsZ_D h4 (a - 1) 5 (x - 1) 11 hc rfl hv (HC 11 (by decide)).1 ht.1.2 hd (fun H1 locs1 hP hD hS => key H1 locs1 hP hS)
theorem z_alen (C : CtxZ X g M cc) (hM : M.1 pc = some (.arraylength, len)) {a : Nat} (ht : 20 ≤ sT s a) (k : AtZ X g E M.2.2.1 (pc + 1) ls (.int (nI (sN s a)) :: r) s) : AtZ X g E M.2.2.1 pc ls (.ref a :: r) s := by
  intro A H locs h1 h2 h3 h4 h5 h6
  have hE : EnvZ g (xs X) (xa X) := C.2.2.2.2.2.2.2.2.1
  have kk := k A H locs h1 h2 h3 h4 h5 h6
  have hd := C.dec hM (by simp [lenI])
  rw [List.map_cons]
  by_cases h30 : sT s a = 30
  · rcases tag30 h3.2 h30 with rfl | rfl
    · obtain ⟨-, -, -, ⟨g1, g2, g3⟩, -⟩ := h3.2
      have e : conV g (.ref 1000000) = .ref (gT g) := rfl
      rw [e]
      rw [g2] at kk
      exact va_tlen C.1 C.2.1 hE.2.2.2.2.2.1.1 h4 rfl hd kk
    · obtain ⟨-, -, -, -, ⟨g1, g2, g3⟩⟩ := h3.2
      have e : conV g (.ref 1000001) = .ref (gS g) := rfl
      rw [e]
      have hs := hE.2.2.2.2.2.2.1
      rw [g2] at kk
      exact va_slen C.1 C.2.1 hs.1 (Nat.lt_of_lt_of_le hs.2.1 hE.2.2.2.2.2.2.2.2) (Nat.not_le.mpr hs.2.1) h4 hd kk
  · have hpl := h3.2.place (a := a) (by omega) h30
    have hok := h3.2.2.1 a hpl.1 hpl.2
    rw [conV_ref h3.2 hpl]
    have hc := wsZ_get (g := g) hpl
    unfold okT at hok
    rcases (show sT s a = 20 ∨ sT s a = 21 ∨ sT s a = 22 ∨ 40 ≤ sT s a by omega) with q | q | q | q
    · rw [celZ_20 q] at hc
      exact va_alen C.1 C.2.1 hE.1 h3.1 (a - 1) 0 hc rfl rfl hd kk
    · rw [celZ_21 q] at hc
      exact va_alen C.1 C.2.1 hE.1 h3.1 (a - 1) 1 hc rfl rfl hd kk
    · rw [celZ_22 q] at hc
      exact va_alen C.1 C.2.1 hE.1 h3.1 (a - 1) 2 hc rfl rfl hd kk
    · rw [celZ_40 q] at hc
      rcases (tag40 h3.2 q).2 with w | w | w <;> rw [w] at hc
      · exact va_alen C.1 C.2.1 hE.1 h3.1 (a - 1) 3 hc rfl rfl hd kk
      · exact va_alen C.1 C.2.1 hE.1 h3.1 (a - 1) 4 hc rfl rfl hd kk
      · exact va_alen C.1 C.2.1 hE.1 h3.1 (a - 1) 5 hc rfl rfl hd kk
theorem z_getstatic (C : CtxZ X g M cc) {n : Nat} (hM : M.1 pc = some (.getstatic n, len)) {c j : Nat} (hx : lkF M.2.1 n = some (c, j, 9)) (k : AtZ X g E M.2.2.1 (pc + 3) ls (.ref 1000000 :: r) s) : AtZ X g E M.2.2.1 pc ls r s := by
  intro A H locs h1 h2 h3 h4 h5 h6
  have hE : EnvZ g (xs X) (xa X) := C.2.2.2.2.2.2.2.2.1
  have kk := k A H locs h1 h2 h3 h4 h5 h6
  exact va_gets C.1 C.2.1 hE.2.2.2.2.2.1.2 h4 C.2.2.2.1 (C.2.2.2.2.2.2.2.1.2.1 n _ hx rfl) (fun _ h => h) (C.dec hM (by simp [lenI])) kk
theorem find20 (hE : EnvZ g (xs X) (xa X)) : (xs X).vm.findClass "[I" = some (gC g 20) := (hE.1.2 0 _ rfl).2
theorem z_castA (C : CtxZ X g M cc) {n : Nat} (hM : M.1 pc = some (.checkcast n, len)) (hx : lkN M.2.1 n = some 99) {a : Nat} (ht : sT s a = 20) (k : AtZ X g E M.2.2.1 (pc + 3) ls (.ref a :: r) s) : AtZ X g E M.2.2.1 pc ls (.ref a :: r) s := by
  intro A H locs h1 h2 h3 h4 h5 h6
  have hE : EnvZ g (xs X) (xa X) := C.2.2.2.2.2.2.2.2.1
  have kk := k A H locs h1 h2 h3 h4 h5 h6
  have hpl := h3.2.place (a := a) (by omega) (by omega)
  rw [List.map_cons, conV_ref h3.2 hpl] at kk ⊢
  have hl : (Cond.classLink (ownZ M.2.1) n "[I").before (xa X) (xs X) = true := by
    rcases C.2.2.2.2.2.2.2.1.2.2.1 n _ hx with h | h
    · omega
    · exact h.2
  exact va_castA (nm := "[I") C.1 C.2.1 C.2.2.2.1 hl h3.1 (a - 1) (by rw [wsZ_get hpl, celZ_20 ht]) (find20 hE) (C.dec hM (by simp [lenI])) kk
end SIM4
