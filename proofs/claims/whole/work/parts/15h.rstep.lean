/-! THE REFERENCE'S READER: steps -/
abbrev sumOps (X : PIL) : Prop := ∀ x ∈ X, 20 ≤ x.1 ∧ x.1 ≤ 24
def innL : PIL → Int
  | [] => -1
  | x :: r => if 31 ≤ x.1 then x.1 else innL r
theorem opnL_app : ∀ (X Y : PIL), (∀ x ∈ X, x.1 < 31) → opnL (X ++ Y) = opnL Y := by
  intro X
  induction X with
  | nil => intro Y _; rfl
  | cons x X ih =>
    intro Y h
    have := h x (List.mem_cons_self ..)
    show (if 31 ≤ x.1 then 1 else 0) + opnL (X ++ Y) = _
    rw [if_neg (by omega), ih Y (fun y hy => h y (List.mem_cons_of_mem _ hy))]
    omega
theorem innL_app : ∀ (X Y : PIL), (∀ x ∈ X, x.1 < 31) → innL (X ++ Y) = innL Y := by
  intro X
  induction X with
  | nil => intro Y _; rfl
  | cons x X ih =>
    intro Y h
    have := h x (List.mem_cons_self ..)
    show (if 31 ≤ x.1 then x.1 else innL (X ++ Y)) = _
    rw [if_neg (by omega), ih Y (fun y hy => h y (List.mem_cons_of_mem _ hy))]
theorem innL_r : ∀ (L : PIL), (∀ x ∈ L, x.1 ≤ 32) → innL L = -1 ∨ innL L = 31 ∨ innL L = 32 := by
  intro L
  induction L with
  | nil => intro _; exact Or.inl rfl
  | cons x r ih =>
    intro h
    have := h x (List.mem_cons_self ..)
    show (if 31 ≤ x.1 then x.1 else innL r) = -1 ∨ (if 31 ≤ x.1 then x.1 else innL r) = 31 ∨ (if 31 ≤ x.1 then x.1 else innL r) = 32
    by_cases c : 31 ≤ x.1
    · rw [if_pos c]; omega
    · rw [if_neg c]; exact ih (fun y hy => h y (List.mem_cons_of_mem _ hy))
section RSP
variable {m : Nat} {B : Int → Int} {n : Int} {ord : Bool} {st : STK} {s : AS} {A : MA} {len rm : Int} {L : PIL}
theorem m_settleG {X Y : PIL} (h : RfG s m A B n ord st len (X ++ Y) rm) (hrm : rm ≤ 400) {least : Int} (hl : 1 ≤ least ∧ least ≤ 6) (hX : ∀ x ∈ X, least ≤ bndO x.1) (hY : ∀ y, Y.head? = some y → bndO y.1 < least) :
    ∃ s' A', f_M_settle s m (v least) = some s' ∧ RfG s' m A' B n ord st (stl X (A 11, A 12, len)).2.2 Y rm ∧ A' 11 = (stl X (A 11, A 12, len)).1 ∧ A' 12 = (stl X (A 11, A 12, len)).2.1 ∧ AF scrR A A' ∧ Fr (inM m) s s' := by
  obtain ⟨h1, ⟨h2, h3, h4⟩, ⟨h5, h6, h7, h8⟩, ⟨h9, h10, h11⟩, ⟨h12, h13, h14⟩, ⟨h15, h16⟩, h17, h18⟩ := h
  have h31 : ∀ x ∈ X, x.1 < 31 := fun x hx => by
    have a := hX x hx
    by_cases c : x.1 < 31
    · exact c
    · unfold bndO at a; rw [if_pos (by omega)] at a; omega
  have hxl : (X ++ Y).length = X.length + Y.length := List.length_append
  obtain ⟨s', A', q1, q2, q3, q4, q5, q6, q7, q8⟩ := m_settleL hl X Y fuel s A (A 11) (A 12) len (by unfold fuel; omega) h1 h12 h13 h9 ⟨h17, by omega⟩ h16 rfl rfl hX hY
  have hc := stl_cod X Y (A 11) (A 12) len ⟨h17, by omega⟩ h15 h16 h31
  have hsl := stl_len X (A 11) (A 12) len
  refine ⟨s', A', q1, ⟨q2, ⟨h2.fr q3 (by omega) (fun z => by omega), ⟨?_, ?_, ?_, ?_⟩, h4⟩, ⟨?_, ?_, ?_, h8.fr q3 (fun j z hj => by omega)⟩, ⟨q6, ?_, h11⟩, ⟨(h12.app X Y).fr (fun z _ _ => ⟨q3 13 z (by omega), q3 14 z (by omega)⟩), q7, ?_⟩, ⟨?_, ?_⟩, by omega, by omega⟩, q4, q5, scrS_R q3, q8⟩
  · rw [q3 0 13 (by omega)]; exact h3.1
  · rw [q3 0 14 (by omega)]; exact h3.2.1
  · rw [q3 0 15 (by omega)]; exact h3.2.2.1
  · rw [q3 28 16 (by omega)]; exact h3.2.2.2
  · rw [q3 0 18 (by omega)]; exact h5
  · rw [q3 0 17 (by omega)]; exact h6
  · rw [q3 0 19 (by omega)]; exact h7
  · rw [q3 0 25 (by omega)]; exact h10
  · rw [q3 0 29 (by omega), h14, opnL_app X Y h31]
  · rw [q4, q5]; exact hc.1
  · rw [q4]; exact hc.2
theorem pil_split (least : Int) : ∀ L : PIL, ∃ X Y, L = X ++ Y ∧ (∀ x ∈ X, least ≤ bndO x.1) ∧ (∀ y, Y.head? = some y → bndO y.1 < least) := by
  intro L
  induction L with
  | nil => exact ⟨[], [], rfl, fun x hx => (by cases hx), fun y hy => (by cases hy)⟩
  | cons x r ih =>
    by_cases c : least ≤ bndO x.1
    · obtain ⟨X, Y, e, h1, h2⟩ := ih
      refine ⟨x :: X, Y, by rw [e]; rfl, fun y hy => ?_, h2⟩
      rcases List.mem_cons.mp hy with rfl | hy
      · exact c
      · exact h1 y hy
    · refine ⟨[], x :: r, rfl, fun y hy => (by cases hy), fun y hy => ?_⟩
      have : x = y := by simpa using hy
      rw [← this]; omega
theorem m_settleE {s : AS} {A : MA} {e : Int} (h : ErM s m A e) : ∃ s' A', f_M_settle s m (v 1) = some s' ∧ ErM s' m A' e ∧ AF scrR A A' ∧ Fr (inM m) s s' := by
  obtain ⟨h1, ⟨h2, h3⟩, len, L, h4, h5, h6, ⟨h7, h7'⟩, h8⟩ := h
  obtain ⟨X, Y, eL, hX, hY⟩ := pil_split 1 L
  subst eL
  have hxl : (X ++ Y).length = X.length + Y.length := List.length_append
  obtain ⟨s', A', q1, q2, q3, q4, q5, q6, q7, q8⟩ := m_settleL (by omega) X Y fuel s A (A 11) (A 12) len (by unfold fuel; omega) h1 h5 h6 h4 ⟨h7, by omega⟩ h8 rfl rfl hX hY
  have hsl := stl_len X (A 11) (A 12) len
  refine ⟨s', A', q1, ⟨q2, ⟨by rw [q3 0 18 (by omega)]; exact h2, by rw [q3 0 17 (by omega)]; exact h3⟩, _, Y, q6, (h5.app X Y).fr (fun z _ _ => ⟨q3 13 z (by omega), q3 14 z (by omega)⟩), q7, by omega, fun y hy => ?_⟩, scrS_R q3, q8⟩
  have := h8 y (List.mem_append_right _ hy)
  refine ⟨this.1, fun d => ?_⟩
  have d2 := this.2 d
  rw [q4, stl_O X _ _ _ _ d2.1.2]
  exact ⟨by omega, d2.2⟩
/-- a sign is piled -/
theorem m_pushG (h : RfG s m A B n ord st len L rm) (hrm : rm < 400) {op : Int} (ho : 20 ≤ op ∧ op ≤ 28) :
    ∃ s' A', f_M_push s m (v op) (v 0) = some s' ∧ RfG s' m A' B n ord st len ((op, 0) :: L) (rm + 1) ∧ A' 11 = A 11 ∧ A' 12 = A 12 ∧ AF scrR A A' ∧ Fr (inM m) s s' := by
  obtain ⟨h1, ⟨h2, h3, h4⟩, ⟨h5, h6, h7, h8⟩, ⟨h9, h10, h11⟩, ⟨h12, h13, h14⟩, ⟨h15, h16⟩, h17, h18⟩ := h
  obtain ⟨s2, p1, p2, p3⟩ := m_push (op := op) (at_ := 0) h1 h13 (by omega)
  have a2 : AF (fun j z => j = 13 ∨ j = 14 ∨ (j = 0 ∧ z = 28)) A (pu (pu (pu A 13 L.length op) 14 L.length 0) 0 28 (L.length + 1)) := ((AF.pu (Or.inl rfl)).tr (AF.pu (Or.inr (Or.inl rfl)))).tr (AF.pu (Or.inr (Or.inr ⟨rfl, rfl⟩)))
  have r11 := a2.row (j := 11) (fun z => by omega)
  have r12 := a2.row (j := 12) (fun z => by omega)
  refine ⟨s2, _, p1, ⟨p2, ⟨h2.fr a2 (by omega) (fun z => by omega), ⟨?_, ?_, ?_, ?_⟩, h4⟩, ⟨?_, ?_, ?_, h8.fr a2 (fun j z hj => by omega)⟩, ⟨?_, ?_, h11⟩, ⟨⟨⟨?_, ?_⟩, h12.fr (fun z z0 z1 => ⟨?_, ?_⟩)⟩, ?_, ?_⟩, ⟨?_, ?_⟩, h17, ?_⟩, r11, r12, a2.mo (fun j z hj => by omega), p3⟩
  · rw [a2 0 13 (by omega)]; exact h3.1
  · rw [a2 0 14 (by omega)]; exact h3.2.1
  · rw [a2 0 15 (by omega)]; exact h3.2.2.1
  · rw [a2 28 16 (by omega)]; exact h3.2.2.2
  · rw [a2 0 18 (by omega)]; exact h5
  · rw [a2 0 17 (by omega)]; exact h6
  · rw [a2 0 19 (by omega)]; exact h7
  · rw [a2 0 22 (by omega)]; exact h9
  · rw [a2 0 25 (by omega)]; exact h10
  · rw [pu_row _ _ _ _ (by decide), pu_row _ _ _ _ (by decide), pu_eq]
  · rw [pu_row _ _ _ _ (by decide), pu_eq]
  · rw [pu_row _ _ _ _ (by decide), pu_row _ _ _ _ (by decide), pu_ne _ _ _ _ (by omega)]
  · rw [pu_row _ _ _ _ (by decide), pu_ne _ _ _ _ (by omega), pu_row _ _ _ _ (by decide)]
  · rw [pu_eq]; show (L.length : Int) + 1 = ((L.length + 1 : Nat) : Int); omega
  · rw [a2 0 29 (by omega), h14]
    show opnL L = (if 31 ≤ op then 1 else 0) + opnL L
    rw [if_neg (by omega)]; omega
  · rw [r11, r12]
    intro z z0 z1
    obtain ⟨b1, b2, b3, b4⟩ := h15 z z0 z1
    refine ⟨b1, b2, b3, fun d => ?_⟩
    rcases b4 d with d | ⟨y, hy, hy2⟩
    · exact Or.inl d
    · exact Or.inr ⟨y, List.mem_cons_of_mem _ hy, hy2⟩
  · rw [r11]
    intro y hy
    rcases List.mem_cons.mp hy with rfl | hy
    · exact ⟨by show 20 ≤ op ∧ op ≤ 32; omega, fun d => by have : op = 29 ∨ op = 30 := d; omega⟩
    · exact h16 y hy
  · show len + ((L.length + 1 : Nat) : Int) ≤ rm + 1
    omega
/-- a jump that goes nowhere yet -/
theorem m_jumpG (h : RfG s m A B n ord st len L rm) (hrm : rm + 1 < 400) {op : Int} (ho : op = 29 ∨ op = 30) :
    ∃ s1 s' A', f_M_push s m (v op) (v len) = some s1 ∧ sT s1 m = 13 ∧ f_M_emit s1 m (v op) (v 0) = some s' ∧ RfG s' m A' B n ord st (len + 1) ((op, len) :: L) (rm + 2) ∧ A' 11 = bu (A 11) len op ∧ A' 12 = bu (A 12) len 0 ∧ AF scrR A A' ∧ Fr (inM m) s s' := by
  obtain ⟨h1, ⟨h2, h3, h4⟩, ⟨h5, h6, h7, h8⟩, ⟨h9, h10, h11⟩, ⟨h12, h13, h14⟩, ⟨h15, h16⟩, h17, h18⟩ := h
  obtain ⟨s1, p1, p2, p3⟩ := m_push (op := op) (at_ := len) h1 h13 (by omega)
  have k22 : pu (pu (pu A 13 L.length op) 14 L.length len) 0 28 (L.length + 1) 0 22 = len := by rw [pu_ne _ _ _ _ (by decide), pu_row _ _ _ _ (by decide), pu_row _ _ _ _ (by decide), h9]
  obtain ⟨s2, g1, g2, g3⟩ := m_emit (op := op) (arg := 0) p2 k22 (by omega)
  have a2 : AF (fun j z => (11 ≤ j ∧ j ≤ 14) ∨ (j = 0 ∧ (z = 28 ∨ z = 22))) A (pu (pu (pu (pu (pu (pu A 13 L.length op) 14 L.length len) 0 28 (L.length + 1)) 11 len op) 12 len 0) 0 22 (len + 1)) :=
    (((((AF.pu (Or.inl (by omega))).tr (AF.pu (Or.inl (by omega)))).tr (AF.pu (Or.inr ⟨rfl, Or.inl rfl⟩))).tr (AF.pu (Or.inl (by omega)))).tr (AF.pu (Or.inl (by omega)))).tr (AF.pu (Or.inr ⟨rfl, Or.inr rfl⟩))
  have c11 : pu (pu (pu (pu (pu (pu A 13 L.length op) 14 L.length len) 0 28 (L.length + 1)) 11 len op) 12 len 0) 0 22 (len + 1) 11 = bu (A 11) len op := by rw [pu_f (by decide), pu_f (by decide), pu_b, pu_f (by decide), pu_f (by decide), pu_f (by decide)]
  have c12 : pu (pu (pu (pu (pu (pu A 13 L.length op) 14 L.length len) 0 28 (L.length + 1)) 11 len op) 12 len 0) 0 22 (len + 1) 12 = bu (A 12) len 0 := by rw [pu_f (by decide), pu_b, pu_f (by decide), pu_f (by decide), pu_f (by decide), pu_f (by decide)]
  have c13 : ∀ z, pu (pu (pu (pu (pu (pu A 13 L.length op) 14 L.length len) 0 28 (L.length + 1)) 11 len op) 12 len 0) 0 22 (len + 1) 13 z = if z = L.length then op else A 13 z := fun z => by
    rw [pu_row _ _ _ _ (by decide), pu_row _ _ _ _ (by decide), pu_row _ _ _ _ (by decide), pu_row _ _ _ _ (by decide), pu_row _ _ _ _ (by decide), pu_v]
  have c14 : ∀ z, pu (pu (pu (pu (pu (pu A 13 L.length op) 14 L.length len) 0 28 (L.length + 1)) 11 len op) 12 len 0) 0 22 (len + 1) 14 z = if z = L.length then len else A 14 z := fun z => by
    rw [pu_row _ _ _ _ (by decide), pu_row _ _ _ _ (by decide), pu_row _ _ _ _ (by decide), pu_row _ _ _ _ (by decide), pu_v, pu_row _ _ _ _ (by decide)]
  refine ⟨s1, s2, _, p1, p2.t, g1, ⟨g2, ⟨h2.fr a2 (by omega) (fun z => by omega), ⟨?_, ?_, ?_, ?_⟩, h4⟩, ⟨?_, ?_, ?_, h8.fr a2 (fun j z hj => by omega)⟩, ⟨pu_eq _ _ _ _, ?_, h11⟩, ⟨⟨⟨?_, ?_⟩, h12.fr (fun z z0 z1 => ⟨?_, ?_⟩)⟩, ?_, ?_⟩, ⟨?_, ?_⟩, by omega, ?_⟩, c11, c12, a2.mo (fun j z hj => by omega), p3.tr g3⟩
  · rw [a2 0 13 (by omega)]; exact h3.1
  · rw [a2 0 14 (by omega)]; exact h3.2.1
  · rw [a2 0 15 (by omega)]; exact h3.2.2.1
  · rw [a2 28 16 (by omega)]; exact h3.2.2.2
  · rw [a2 0 18 (by omega)]; exact h5
  · rw [a2 0 17 (by omega)]; exact h6
  · rw [a2 0 19 (by omega)]; exact h7
  · rw [a2 0 25 (by omega)]; exact h10
  · rw [c13, if_pos rfl]
  · rw [c14, if_pos rfl]
  · rw [c13, if_neg (by omega)]
  · rw [c14, if_neg (by omega)]
  · rw [pu_ne _ _ _ _ (by decide), pu_row _ _ _ _ (by decide), pu_row _ _ _ _ (by decide), pu_eq]; show (L.length : Int) + 1 = ((L.length + 1 : Nat) : Int); omega
  · rw [a2 0 29 (by omega), h14]
    show opnL L = (if 31 ≤ op then 1 else 0) + opnL L
    rw [if_neg (by omega)]; omega
  · rw [c11, c12]
    intro z z0 z1
    unfold bu
    by_cases e : z = len
    · rw [if_pos e, if_pos e]
      exact ⟨by omega, by omega, fun d => by omega, fun d => Or.inr ⟨(op, len), List.mem_cons_self .., ho, e.symm⟩⟩
    · rw [if_neg e, if_neg e]
      obtain ⟨b1, b2, b3, b4⟩ := h15 z z0 (by omega)
      refine ⟨b1, b2, b3, fun d => ?_⟩
      rcases b4 d with d | ⟨y, hy, hy2⟩
      · exact Or.inl d
      · exact Or.inr ⟨y, List.mem_cons_of_mem _ hy, hy2⟩
  · rw [c11]
    intro y hy
    rcases List.mem_cons.mp hy with rfl | hy
    · refine ⟨by show 20 ≤ op ∧ op ≤ 32; omega, fun _ => ⟨⟨h17, by show len < len + 1; omega⟩, ?_⟩⟩
      show bu (A 11) len op len = op
      exact bu_eq
    · refine ⟨(h16 y hy).1, fun d => ?_⟩
      have := (h16 y hy).2 d
      rw [bu_ne (by omega)]
      omega
  · show len + 1 + ((L.length + 1 : Nat) : Int) ≤ rm + 2
    omega
/-- a bracket closes -/
theorem m_closeG {x : Int × Int} (h : RfG s m A B n ord st len (x :: L) rm) (hx : 31 ≤ x.1) :
    ∃ s' A', setI (setI s m 28 ((sI s m 28) - nI 1)) m 29 ((sI (setI s m 28 ((sI s m 28) - nI 1)) m 29) - nI 1) = s' ∧ RfG s' m A' B n ord st len L rm ∧ A' 11 = A 11 ∧ A' 12 = A 12 ∧ AF scrR A A' ∧ Fr (inM m) s s' := by
  obtain ⟨h1, ⟨h2, h3, h4⟩, ⟨h5, h6, h7, h8⟩, ⟨h9, h10, h11⟩, ⟨h12, h13, h14⟩, ⟨h15, h16⟩, h17, h18⟩ := h
  have e13 : A 0 28 = ((L.length + 1 : Nat) : Int) := h13
  have e18 : len + ((L.length + 1 : Nat) : Int) ≤ rm := h18
  have e14 : A 0 29 = (if 31 ≤ x.1 then 1 else 0) + opnL L := h14
  rw [if_pos hx] at e14
  have k1 := h1.s0 (x := (L.length : Int)) (k := 28) (z := 28) rfl (by decide)
  have k2 := k1.s0 (x := opnL L) (k := 29) (z := 29) rfl (by decide)
  have f1 : sI s m 28 - nI 1 = v L.length := by rw [h1.i28, e13, nv1, v_sub, show ((L.length + 1 : Nat) : Int) - 1 = (L.length : Int) by omega]
  have f2 : sI (setI s m 28 (v (L.length : Int))) m 29 - nI 1 = v (opnL L) := by rw [k1.i29, pu_ne _ _ _ _ (by decide), e14, nv1, v_sub, show 1 + opnL L - 1 = opnL L by omega]
  have a2 : AF (fun j z => j = 0 ∧ (z = 28 ∨ z = 29)) A (pu (pu A 0 28 L.length) 0 29 (opnL L)) := (AF.pu ⟨rfl, Or.inl rfl⟩).tr (AF.pu ⟨rfl, Or.inr rfl⟩)
  have r11 := a2.row (j := 11) (fun z => by omega)
  have r12 := a2.row (j := 12) (fun z => by omega)
  refine ⟨_, _, by rw [f1, f2], ⟨k2, ⟨h2.fr a2 (by omega) (fun z => by omega), ⟨?_, ?_, ?_, ?_⟩, h4⟩, ⟨?_, ?_, ?_, h8.fr a2 (fun j z hj => by omega)⟩, ⟨?_, ?_, h11⟩, ⟨h12.2.fr (fun z z0 z1 => ⟨a2 13 z (by omega), a2 14 z (by omega)⟩), ?_, pu_eq _ _ _ _⟩, ⟨?_, ?_⟩, h17, by omega⟩, r11, r12, a2.mo (fun j z hj => by omega), (Fr.si (by omega)).tr (Fr.si (by omega))⟩
  · rw [a2 0 13 (by omega)]; exact h3.1
  · rw [a2 0 14 (by omega)]; exact h3.2.1
  · rw [a2 0 15 (by omega)]; exact h3.2.2.1
  · rw [a2 28 16 (by omega)]; exact h3.2.2.2
  · rw [a2 0 18 (by omega)]; exact h5
  · rw [a2 0 17 (by omega)]; exact h6
  · rw [a2 0 19 (by omega)]; exact h7
  · rw [a2 0 22 (by omega)]; exact h9
  · rw [a2 0 25 (by omega)]; exact h10
  · rw [pu_ne _ _ _ _ (by decide), pu_eq]
  · rw [r11, r12]
    intro z z0 z1
    obtain ⟨b1, b2, b3, b4⟩ := h15 z z0 z1
    refine ⟨b1, b2, b3, fun d => ?_⟩
    rcases b4 d with d | ⟨y, hy, hy2, hy3⟩
    · exact Or.inl d
    · rcases List.mem_cons.mp hy with rfl | hy
      · omega
      · exact Or.inr ⟨y, hy, hy2, hy3⟩
  · rw [r11]; exact fun y hy => h16 y (List.mem_cons_of_mem _ hy)
theorem m_innL : ∀ (X Y : PIL) (N : Nat), X.length < N → MR s m A → PlM A (X.reverse ++ Y) → A 0 28 = (X.reverse ++ Y).length → X.length + Y.length ≤ 400 → PlOK (A 11) (X.reverse ++ Y) len → l_M_inner_4 s N m (v (innL Y)) (v Y.length) = some (v (innL (X.reverse ++ Y))) := by
  intro X
  induction X with
  | nil =>
    intro Y N hN h hP h28 hl hO
    obtain ⟨N, rfl⟩ : ∃ x, N = x + 1 := ⟨N - 1, by omega⟩
    have e : A 0 28 = Y.length := h28
    have hl' : 0 + Y.length ≤ 400 := hl
    show b_M_inner_4 _ _ _ _ _ = _
    unfold b_M_inner_4
    rw [if_pos h.t, h.i28, e, if_neg (nlt (by omega))]
    rfl
  | cons x X ih =>
    intro Y N hN h hP h28 hl hO
    obtain ⟨N, rfl⟩ : ∃ x, N = x + 1 := ⟨N - 1, by omega⟩
    have er : (x :: X).reverse ++ Y = X.reverse ++ (x :: Y) := by rw [List.reverse_cons, List.append_assoc]; rfl
    rw [er] at hP h28 hO ⊢
    have hxl : (x :: X).length = X.length + 1 := rfl
    have hyl : (x :: Y).length = Y.length + 1 := rfl
    have hl2 : (X.reverse ++ (x :: Y)).length = X.length + (Y.length + 1) := by rw [List.length_append, List.length_reverse]; rfl
    have hx := (hO x (List.mem_append_right _ (List.mem_cons_self ..))).1
    have hp : A 13 Y.length = x.1 := (hP.app X.reverse (x :: Y)).1.1
    have hi := ih (x :: Y) N (by omega) h hP h28 (by omega) hO
    show b_M_inner_4 _ _ _ _ _ = _
    unfold b_M_inner_4
    rw [if_pos h.t, h.i28, h28, if_pos (plt (by omega)), h.r26, h.t26, h.n26, if_pos ⟨rfl, v_inA (by omega) (by omega)⟩, v_ix (by omega), h.a26 Y.length (by omega), hp, nv31, nv1, v_add]
    have e2 : (((x :: Y).length : Nat) : Int) = (Y.length : Int) + 1 := by omega
    rw [e2] at hi
    have e3 : innL (x :: Y) = if 31 ≤ x.1 then x.1 else innL Y := rfl
    rw [e3] at hi
    by_cases c : 31 ≤ x.1
    · rw [if_pos c] at hi
      rw [if_neg (nlt (by omega))]
      exact hi
    · rw [if_neg c] at hi
      rw [if_pos (plt (by omega))]
      exact hi
theorem m_inner (h : RfG s m A B n ord st len L rm) (hrm : rm ≤ 400) : f_M_inner s m = some (v (innL L)) := by
  have e := m_innL (s := s) (m := m) (A := A) (len := len) L.reverse [] fuel (by rw [List.length_reverse]; have := h.2.2.2.2.2.2; unfold fuel; omega) h.1 (by rw [List.reverse_reverse, List.append_nil]; exact h.2.2.2.2.1.1) (by rw [List.reverse_reverse, List.append_nil]; exact h.2.2.2.2.1.2.1) (by rw [List.length_reverse]; have := h.2.2.2.2.2.2; show L.length + 0 ≤ 400; omega) (by rw [List.reverse_reverse, List.append_nil]; exact h.2.2.2.2.2.1.2)
  rw [List.reverse_reverse, List.append_nil] at e
  exact e
theorem m_cmpL : ∀ (X Y : PIL) (N : Nat), X.length < N → MR s m A → PlM A (X ++ Y) → X.length + Y.length ≤ 400 → PlOK (A 11) (X ++ Y) len → sumOps X → (∀ y, Y.head? = some y → ¬ (20 ≤ y.1 ∧ y.1 ≤ 24)) → l_M_isCompared_7 s N m (v (((X ++ Y).length : Int) - 1)) = some (v (bi (∃ y, Y.head? = some y ∧ 25 ≤ y.1 ∧ y.1 ≤ 27))) := by
  intro X
  induction X with
  | nil =>
    intro Y N hN h hP hl hO hX hY
    obtain ⟨N, rfl⟩ : ∃ x, N = x + 1 := ⟨N - 1, by omega⟩
    have hl' : 0 + Y.length ≤ 400 := hl
    show b_M_isCompared_7 _ _ _ _ = _
    unfold b_M_isCompared_7 b_M_isCompared_36
    cases Y with
    | nil =>
      have e : ((([] : PIL) ++ []).length : Int) - 1 = -1 := rfl
      rw [e, nv0, if_pos (plt (by omega)), if_pos (plt (by omega)), bi_f (fun d => by obtain ⟨y, d1, d2⟩ := d; cases d1)]
    | cons y Y =>
      have e : ((([] : PIL) ++ (y :: Y)).length : Int) - 1 = Y.length := by show ((Y.length + 1 : Nat) : Int) - 1 = _; omega
      have hyl : (y :: Y).length = Y.length + 1 := rfl
      have hy := (hO y (List.mem_cons_self ..)).1
      have hp : A 13 Y.length = y.1 := hP.1.1
      have hny := hY y rfl
      have e26 : sI s (m + 13) (v (Y.length : Int)).toNatClampNeg = v y.1 := by rw [v_ix (by omega), h.a26 Y.length (by omega), hp]
      rw [e, nv0, nv1, if_neg (nlt (by omega)), if_pos h.t, h.r26, h.t26, h.n26, if_pos ⟨rfl, v_inA (by omega) (by omega)⟩, e26, v_w (by omega), show lN 20 = w 20 from rfl, show lN 24 = w 24 from rfl, show lN 25 = w 25 from rfl, show lN 27 = w 27 from rfl, m_in (by omega) (by omega) (by omega), Option.bind_some, bi_f hny, if_pos rfl, if_neg (nlt (by omega)), if_pos h.t, if_pos ⟨rfl, v_inA (by omega) (by omega)⟩, m_in (by omega) (by omega) (by omega), Option.bind_some]
      by_cases c : 25 ≤ y.1 ∧ y.1 ≤ 27
      · rw [bi_t c, if_neg (show ¬ v 1 = v 0 by decide), bi_t ⟨y, rfl, c⟩]
      · rw [bi_f c, if_pos rfl, bi_f (fun d => by obtain ⟨z, d1, d2⟩ := d; have e : y = z := (by simpa using d1); exact c (e ▸ d2))]
  | cons x X ih =>
    intro Y N hN h hP hl hO hX hY
    obtain ⟨N, rfl⟩ : ∃ x, N = x + 1 := ⟨N - 1, by omega⟩
    have hxl : (x :: X).length = X.length + 1 := rfl
    have hl2 : (X ++ Y).length = X.length + Y.length := List.length_append
    have e : (((x :: X) ++ Y).length : Int) - 1 = (X ++ Y).length := by show (((X ++ Y).length + 1 : Nat) : Int) - 1 = _; omega
    have hx := hX x (List.mem_cons_self ..)
    have hP' : (A 13 (X ++ Y).length = x.1 ∧ A 14 (X ++ Y).length = x.2) ∧ PlM A (X ++ Y) := hP
    have hi := ih Y N (by omega) h hP'.2 (by omega) (fun y hy => hO y (List.mem_cons_of_mem _ hy)) (fun y hy => hX y (List.mem_cons_of_mem _ hy)) hY
    show b_M_isCompared_7 _ _ _ _ = _
    unfold b_M_isCompared_7
    rw [e, nv0, nv1, if_neg (nlt (by omega)), if_pos h.t, h.r26, h.t26, h.n26, if_pos ⟨rfl, v_inA (by omega) (by omega)⟩, v_ix (by omega), h.a26 _ (by omega), hP'.1.1, v_w (by omega), show lN 20 = w 20 from rfl, show lN 24 = w 24 from rfl, m_in (by omega) (by omega) (by omega), Option.bind_some, bi_t hx, if_neg (show ¬ v 1 = v 0 by decide), v_neg, v_add]
    exact hi
theorem m_isCompared {X Y : PIL} (h : RfG s m A B n ord st len (X ++ Y) rm) (hrm : rm ≤ 400) (hX : sumOps X) (hY : ∀ y, Y.head? = some y → ¬ (20 ≤ y.1 ∧ y.1 ≤ 24)) : f_M_isCompared s m = some (v (bi (∃ y, Y.head? = some y ∧ 25 ≤ y.1 ∧ y.1 ≤ 27))) := by
  have hl2 : (X ++ Y).length = X.length + Y.length := List.length_append
  have hfl := h.2.2.2.2.2.2
  have e := m_cmpL (s := s) (m := m) (A := A) (len := len) X Y fuel (by unfold fuel; omega) h.1 h.2.2.2.2.1.1 (by omega) h.2.2.2.2.2.1.2 hX hY
  unfold f_M_isCompared
  rw [if_pos h.1.t, h.1.i28, h.2.2.2.2.1.2.1, nv1, v_sub]
  exact e
end RSP
