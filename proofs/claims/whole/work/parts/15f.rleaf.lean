/-! THE REFERENCE'S READER: its state; parts -/
def insR (ord : Bool) (A : MA) : Int → Int × Int := fun z => insM ord (A 11 z) (A 12 z)
def RfG (s : AS) (m : Nat) (A : MA) (B : Int → Int) (n : Int) (ord : Bool) (st : STK) (len : Int) (L : PIL) (rm : Int) : Prop :=
  MR s m A ∧ (TpM A B n ∧ TokM A B n st ∧ StT B n st) ∧ (A 0 18 = 0 ∧ A 0 17 = -1 ∧ A 0 19 = (if ord = true then 1 else 0) ∧ WrM A) ∧ (A 0 22 = len ∧ A 0 25 = st.2.2 ∧ st.2.2 ≤ 50) ∧ (PlM A L ∧ A 0 28 = L.length ∧ A 0 29 = opnL L) ∧ (CodO (A 11) (A 12) ord len L ∧ PlOK (A 11) L len) ∧ (0 ≤ len ∧ len + L.length ≤ rm)
abbrev RfS (s : AS) (m : Nat) (A : MA) (B : Int → Int) (n : Int) (ord : Bool) (st : STK) (len : Int) (L : PIL) : Prop := RfG s m A B n ord st len L st.1
theorem RfG.mo {s : AS} {m : Nat} {A : MA} {B : Int → Int} {n : Int} {ord : Bool} {st : STK} {len : Int} {L : PIL} {r q : Int} (h : RfG s m A B n ord st len L r) (hq : r ≤ q) : RfG s m A B n ord st len L q :=
  ⟨h.1, h.2.1, h.2.2.1, h.2.2.2.1, h.2.2.2.2.1, h.2.2.2.2.2.1, h.2.2.2.2.2.2.1, Int.le_trans h.2.2.2.2.2.2.2 hq⟩
def ErM (s : AS) (m : Nat) (A : MA) (e : Int) : Prop := MR s m A ∧ (A 0 18 = 1 ∧ A 0 17 = e) ∧ ∃ (len : Int) (L : PIL), A 0 22 = len ∧ PlM A L ∧ A 0 28 = L.length ∧ (0 ≤ len ∧ len + L.length ≤ 400) ∧ PlOK (A 11) L len
abbrev scrR : Nat → Int → Prop := fun j z => (j = 0 ∧ 13 ≤ z ∧ z ≤ 29 ∧ z ≠ 19 ∧ z ≠ 20) ∨ (j = 28 ∧ z = 16) ∨ (11 ≤ j ∧ j ≤ 14)
theorem tok_R {A B : MA} (h : AF tokS A B) : AF scrR A B := h.mo (fun j z hj => by omega)
theorem scrS_R {A B : MA} (h : AF scrS A B) : AF scrR A B := h.mo (fun j z hj => by omega)
theorem WrM.fr {A A' : MA} {F : Nat → Int → Prop} (h : WrM A) (ha : AF F A A') (hF : ∀ j z, (j = 15 ∨ j = 16 ∨ j = 17 ∨ j = 25) → ¬ F j z) : WrM A' :=
  ⟨fun k x hx => by rw [ha 15 _ (hF 15 _ (by omega))]; exact h.1 k x hx, fun k x hx => by rw [ha 16 _ (hF 16 _ (by omega))]; exact h.2.1 k x hx, fun k x hx => by rw [ha 17 _ (hF 17 _ (by omega))]; exact h.2.2.1 k x hx, fun k x hx => by rw [ha 25 _ (hF 25 _ (by omega))]; exact h.2.2.2 k x hx⟩
theorem AF.row {A A' : MA} {F : Nat → Int → Prop} (h : AF F A A') {j : Nat} (hF : ∀ z, ¬ F j z) : A' j = A j := funext (fun z => h j z (hF z))
/-- the code ahead stays -/
def CodK (A A' : MA) (i : Int) : Prop := ∀ z, 0 ≤ z → z < i → A' 11 z = A 11 z ∧ A' 12 z = A 12 z
theorem CodK.rf (A : MA) (i : Int) : CodK A A i := fun _ _ _ => ⟨rfl, rfl⟩
theorem CodK.tr {A B C : MA} {i : Int} (h : CodK A B i) (k : CodK B C i) : CodK A C i := fun z z0 z1 => ⟨(k z z0 z1).1.trans (h z z0 z1).1, (k z z0 z1).2.trans (h z z0 z1).2⟩
theorem CodK.mo {A B : MA} {i j : Int} (h : CodK A B i) (hj : j ≤ i) : CodK A B j := fun z z0 z1 => h z z0 (by omega)
theorem CodK.eq {A B : MA} {i : Int} (h1 : B 11 = A 11) (h2 : B 12 = A 12) : CodK A B i := fun z _ _ => ⟨by rw [h1], by rw [h2]⟩
theorem CodK.agr {A B : MA} {ord : Bool} {i j : Int} (h : CodK A B j) (hi : 0 ≤ i) : Agr (insR ord A) (insR ord B) i j := fun z z0 z1 => by
  show insM ord (B 11 z) (B 12 z) = insM ord (A 11 z) (A 12 z)
  rw [(h z (by omega) z1).1, (h z (by omega) z1).2]
section RLF
variable {m : Nat} {B : Int → Int} {n : Int} {ord : Bool} {st : STK} {s : AS} {A : MA} {len rm : Int} {L : PIL}
/-- the next token -/
theorem m_next (h : RfG s m A B n ord st len L rm) : ∃ s' A', f_M_onward s m = some s' ∧ RfG s' m A' B n ord (nxS B n st) len L rm ∧ AF tokS A A' ∧ Fr (inM m) s s' := by
  obtain ⟨h1, ⟨h2, h3, h4⟩, ⟨h5, h6, h7, h8⟩, ⟨h9, h10, h11⟩, ⟨h12, h13, h14⟩, ⟨h15, h16⟩, h17, h18⟩ := h
  have hst := h4.1.1
  obtain ⟨s', A', q1, q2, q3, q4, q5, q6⟩ := m_onward h1 h2 h3.2.1 (by omega)
  have hT := nxS_T (B := B) h4.1
  have e11 := q3.row (j := 11) (fun z => by omega)
  have e12 := q3.row (j := 12) (fun z => by omega)
  refine ⟨s', A', q1, ⟨q2, ⟨q5, q4, hT.1⟩, ⟨by rw [q3 0 18 (by omega)]; exact h5, by rw [q3 0 17 (by omega)]; exact h6, by rw [q3 0 19 (by omega)]; exact h7, h8.fr q3 (fun j z hj => by omega)⟩, ⟨by rw [q3 0 22 (by omega)]; exact h9, by rw [q3 0 25 (by omega)]; exact h10, h11⟩, ⟨h12.fr (fun z _ _ => ⟨q3 13 z (by omega), q3 14 z (by omega)⟩), by rw [q3 0 28 (by omega)]; exact h13, by rw [q3 0 29 (by omega)]; exact h14⟩, ⟨by rw [e11, e12]; exact h15, by rw [e11]; exact h16⟩, h17, h18⟩, q3, q6⟩
theorem m_mustT (h : RfG s m A B n ord st len L rm) : ∃ s' A', f_M_must s m (v 1) = some s' ∧ RfG s' m A' B n ord (nxS B n st) len L rm ∧ AF tokS A A' ∧ Fr (inM m) s s' := by
  obtain ⟨s', A', q1, q2⟩ := m_next h
  refine ⟨s', A', ?_, q2⟩
  have e18 := h.2.2.1.1
  unfold f_M_must b_M_must_24
  rw [if_pos h.1.t, h.1.i18, e18, nv0, if_pos rfl, if_neg (show ¬ v 1 = v 0 by decide), if_pos h.1.t, if_pos rfl, q1, Option.bind_some]
theorem m_mustF (h : RfS s m A B n ord st len L) : ∃ s' A', f_M_must s m (v 0) = some s' ∧ ErM s' m A' st.1 ∧ AF scrR A A' ∧ Fr (inM m) s s' := by
  obtain ⟨h1, ⟨h2, h3, h4⟩, ⟨h5, h6, h7, h8⟩, ⟨h9, h10, h11⟩, ⟨h12, h13, h14⟩, ⟨h15, h16⟩, h17, h18⟩ := h
  have hst := h4.1.1
  have hn := h2.2.1
  have k1 := h1.s0 (x := 1) (k := 18) (z := 18) rfl (by decide)
  have e13 : sI (setI s m 18 (v 1)) m 13 = v st.1 := by rw [k1.i13, pu_ne _ _ _ _ (by decide), h3.1]
  have k2 := k1.s0 (x := st.1) (k := 17) (z := 17) rfl (by decide)
  have e18 : pu (pu A 0 18 1) 0 17 st.1 0 18 = 1 := by rw [pu_ne _ _ _ _ (by decide), pu_eq]
  refine ⟨_, _, ?_, ⟨k2, ⟨e18, pu_eq _ _ _ _⟩, len, L, ?_, ?_, ?_, ⟨h17, by omega⟩, ?_⟩, (AF.pu (Or.inl ⟨rfl, by omega⟩)).tr (AF.pu (Or.inl ⟨rfl, by omega⟩)), (Fr.si (by omega)).tr (Fr.si (by omega))⟩
  · unfold f_M_must b_M_must_24
    rw [if_pos h1.t, h1.i18, h5, nv0, nv1, if_pos rfl, if_pos rfl, if_pos ⟨h1.t, Or.inr rfl⟩, e13, if_pos k2.t, k2.i18, e18, if_neg (show ¬ v 1 = v 0 by decide)]
  · rw [pu_ne _ _ _ _ (by decide), pu_ne _ _ _ _ (by decide)]; exact h9
  · exact h12.fr (fun z _ _ => ⟨by rw [pu_row _ _ _ _ (by decide), pu_row _ _ _ _ (by decide)], by rw [pu_row _ _ _ _ (by decide), pu_row _ _ _ _ (by decide)]⟩)
  · rw [pu_ne _ _ _ _ (by decide), pu_ne _ _ _ _ (by decide)]; exact h13
  · rw [pu_f (by decide), pu_f (by decide)]; exact h16
theorem Er_bad {s : AS} {A : MA} {e : Int} (h : ErM s m A e) : sI s m 18 = v 1 := by rw [h.1.i18, h.2.1.1]
theorem Rf_bad (h : RfG s m A B n ord st len L rm) : sI s m 18 = v 0 := by rw [h.1.i18, h.2.2.1.1]
/-- a bracket opens -/
theorem m_open (h : RfS s m A B n ord st len L) (ht : st.1 < st.2.1) {op : Int} (ho : op = 31 ∨ op = 32) :
    ∃ s' A', f_M_openBracket s m (v op) = some s' ∧ AF scrR A A' ∧ Fr (inM m) s s' ∧ (opnL L < 8 → RfS s' m A' B n ord (nxS B n st) len ((op, 0) :: L) ∧ A' 11 = A 11 ∧ A' 12 = A 12) ∧ (¬ opnL L < 8 → ErM s' m A' st.1) := by
  have hop : ∀ L : PIL, 0 ≤ opnL L ∧ opnL L ≤ L.length := by
    intro L
    induction L with
    | nil => exact ⟨Int.le_refl _, Int.le_refl _⟩
    | cons x r ih =>
      show 0 ≤ (if 31 ≤ x.1 then 1 else 0) + opnL r ∧ (if 31 ≤ x.1 then 1 else 0) + opnL r ≤ ((r.length + 1 : Nat) : Int)
      split <;> omega
  have hL := hop L
  have hst : 0 ≤ st.1 ∧ st.1 ≤ st.2.1 ∧ st.2.1 ≤ n := h.2.1.2.2.1.1
  have hn := h.2.1.1.2.1
  have hlen := h.2.2.2.2.2.2
  have e29 := h.2.2.2.2.1.2.2
  unfold f_M_openBracket b_M_openBracket_15
  rw [if_pos h.1.t, h.1.i29, e29, nv0, nv1, nv8, if_pos h.1.t]
  by_cases c : opnL L < 8
  · obtain ⟨s1, A1, q1, q2, q3, q4⟩ := m_mustT h
    have hT := nxS_T (B := B) (n := n) h.2.1.2.2.1
    have ge : st.2.1 ≤ (nxS B n st).1 := hT.2.1
    have q2' := q2
    obtain ⟨h1, ⟨h2, h3, h4⟩, ⟨h5, h6, h7, h8⟩, ⟨h9, h10, h11⟩, ⟨h12, h13, h14⟩, ⟨h15, h16⟩, h17, h18⟩ := q2
    have k1 := h1.s0 (x := opnL L + 1) (k := 29) (z := 29) rfl (by decide)
    have a1 : AF scrR A1 (pu A1 0 29 (opnL L + 1)) := AF.pu (Or.inl ⟨rfl, by omega⟩)
    have k28 : pu A1 0 29 (opnL L + 1) 0 28 = L.length := by rw [pu_ne _ _ _ _ (by decide), h13]
    obtain ⟨s2, p1, p2, p3⟩ := m_push (op := op) (at_ := 0) k1 k28 (by omega)
    have a2 : AF scrR A1 (pu (pu (pu (pu A1 0 29 (opnL L + 1)) 13 L.length op) 14 L.length 0) 0 28 (L.length + 1)) := ((a1.tr (AF.pu (Or.inr (Or.inr (by omega))))).tr (AF.pu (Or.inr (Or.inr (by omega))))).tr (AF.pu (Or.inl ⟨rfl, by omega⟩))
    rw [if_pos (plt (by omega)), q1, Option.bind_some, if_pos h1.t, Rf_bad q2', if_pos rfl, h1.i29, h14, v_add, p1, Option.bind_some]
    refine ⟨s2, _, rfl, (tok_R q3).tr a2, (q4.tr (Fr.si (by omega))).tr p3, fun _ => ⟨⟨p2, ⟨h2.fr a2 (by omega) (fun z => by omega), ?_, h4⟩, ⟨?_, ?_, ?_, h8.fr a2 (fun j z hj => by omega)⟩, ⟨?_, ?_, h11⟩, ⟨⟨⟨?_, ?_⟩, h12.fr (fun z z0 z1 => ⟨?_, ?_⟩)⟩, ?_, ?_⟩, ⟨?_, ?_⟩, h17, ?_⟩, ?_, ?_⟩, fun d => absurd c d⟩
    · obtain ⟨t1, t2, t3, t4⟩ := h3
      refine ⟨?_, ?_, ?_, ?_⟩
      · rw [pu_ne _ _ _ _ (by decide), pu_row _ _ _ _ (by decide), pu_row _ _ _ _ (by decide), pu_ne _ _ _ _ (by decide)]; exact t1
      · rw [pu_ne _ _ _ _ (by decide), pu_row _ _ _ _ (by decide), pu_row _ _ _ _ (by decide), pu_ne _ _ _ _ (by decide)]; exact t2
      · rw [pu_ne _ _ _ _ (by decide), pu_row _ _ _ _ (by decide), pu_row _ _ _ _ (by decide), pu_ne _ _ _ _ (by decide)]; exact t3
      · rw [pu_row _ _ _ _ (by decide), pu_row _ _ _ _ (by decide), pu_row _ _ _ _ (by decide), pu_row _ _ _ _ (by decide)]; exact t4
    · rw [pu_ne _ _ _ _ (by decide), pu_row _ _ _ _ (by decide), pu_row _ _ _ _ (by decide), pu_ne _ _ _ _ (by decide)]; exact h5
    · rw [pu_ne _ _ _ _ (by decide), pu_row _ _ _ _ (by decide), pu_row _ _ _ _ (by decide), pu_ne _ _ _ _ (by decide)]; exact h6
    · rw [pu_ne _ _ _ _ (by decide), pu_row _ _ _ _ (by decide), pu_row _ _ _ _ (by decide), pu_ne _ _ _ _ (by decide)]; exact h7
    · rw [pu_ne _ _ _ _ (by decide), pu_row _ _ _ _ (by decide), pu_row _ _ _ _ (by decide), pu_ne _ _ _ _ (by decide)]; exact h9
    · rw [pu_ne _ _ _ _ (by decide), pu_row _ _ _ _ (by decide), pu_row _ _ _ _ (by decide), pu_ne _ _ _ _ (by decide)]; exact h10
    · rw [pu_row _ _ _ _ (by decide), pu_row _ _ _ _ (by decide), pu_eq]
    · rw [pu_row _ _ _ _ (by decide), pu_eq]
    · rw [pu_row _ _ _ _ (by decide), pu_row _ _ _ _ (by decide), pu_ne _ _ _ _ (by omega), pu_row _ _ _ _ (by decide)]
    · rw [pu_row _ _ _ _ (by decide), pu_ne _ _ _ _ (by omega), pu_row _ _ _ _ (by decide), pu_row _ _ _ _ (by decide)]
    · rw [pu_eq]; show (L.length : Int) + 1 = ((L.length + 1 : Nat) : Int); omega
    · rw [pu_ne _ _ _ _ (by decide), pu_row _ _ _ _ (by decide), pu_row _ _ _ _ (by decide), pu_eq]
      show opnL L + 1 = (if 31 ≤ op then 1 else 0) + opnL L
      rw [if_pos (by omega)]; omega
    · rw [pu_f (by decide), pu_f (by decide), pu_f (by decide), pu_f (by decide), pu_f (by decide), pu_f (by decide), pu_f (by decide), pu_f (by decide)]
      intro z z0 z1
      obtain ⟨b1, b2, b3, b4⟩ := h15 z z0 z1
      refine ⟨b1, b2, b3, fun d => ?_⟩
      rcases b4 d with d | ⟨y, hy, hy2⟩
      · exact Or.inl d
      · exact Or.inr ⟨y, List.mem_cons_of_mem _ hy, hy2⟩
    · rw [pu_f (by decide), pu_f (by decide), pu_f (by decide), pu_f (by decide)]
      intro y hy
      rcases List.mem_cons.mp hy with rfl | hy
      · exact ⟨by show 20 ≤ op ∧ op ≤ 32; omega, fun d => by have : op = 29 ∨ op = 30 := d; omega⟩
      · exact h16 y hy
    · show len + ((L.length + 1 : Nat) : Int) ≤ (nxS B n st).1
      omega
    · rw [pu_f (by decide), pu_f (by decide), pu_f (by decide), pu_f (by decide)]; exact q3.row (fun z => by omega)
    · rw [pu_f (by decide), pu_f (by decide), pu_f (by decide), pu_f (by decide)]; exact q3.row (fun z => by omega)
  · obtain ⟨s1, A1, q1, q2, q3, q4⟩ := m_mustF h
    rw [if_neg (nlt (by omega)), q1, Option.bind_some, if_pos q2.1.t, Er_bad q2, if_neg (show ¬ v 1 = v 0 by decide)]
    exact ⟨s1, A1, rfl, q3, q4, fun d => absurd d c, fun _ => q2⟩
/-- a number or a word comes -/
theorem m_leafT (h : RfS s m A B n ord st len L) (ht : st.1 < st.2.1) (h50 : st.2.2 < 50) {op arg : Int} (ho : (0 ≤ op ∧ op < 20) ∧ (0 ≤ arg ∧ arg ≤ 1000) ∧ (op = 0 ∨ (ord = false ∧ op ≤ 7) ∨ (ord = true ∧ op ≤ 6 ∧ (5 ≤ op → arg < 8)))) :
    ∃ s' A', f_M_leaf s m (v 1) (v op) (v arg) = some s' ∧ RfS s' m A' B n ord (nxS B n (st.1, st.2.1, st.2.2 + 1)) (len + 1) L ∧ A' 11 = bu (A 11) len op ∧ A' 12 = bu (A 12) len arg ∧ AF scrR A A' ∧ Fr (inM m) s s' := by
  have e25 := h.2.2.2.1.2.1
  have hst : 0 ≤ st.1 ∧ st.1 ≤ st.2.1 ∧ st.2.1 ≤ n := h.2.1.2.2.1.1
  have hs0 : 0 ≤ st.2.2 := h.2.1.2.2.1.2
  have hn := h.2.1.1.2.1
  have hlen := h.2.2.2.2.2.2
  obtain ⟨s1, A1, q1, q2, q3, q4⟩ := m_mustT h
  have hT := nxS_T (B := B) (n := n) h.2.1.2.2.1
  have ge : st.2.1 ≤ (nxS B n st).1 := hT.2.1
  have r11 := q3.row (j := 11) (fun z => by omega)
  have r12 := q3.row (j := 12) (fun z => by omega)
  have q2' := q2
  obtain ⟨h1, ⟨h2, h3, h4⟩, ⟨h5, h6, h7, h8⟩, ⟨h9, h10, h11⟩, ⟨h12, h13, h14⟩, ⟨h15, h16⟩, h17, h18⟩ := q2
  obtain ⟨s2, p1, p2, p3⟩ := m_emit (op := op) (arg := arg) h1 h9 (by omega)
  have k1 := p2.s0 (x := st.2.2 + 1) (k := 25) (z := 25) rfl (by decide)
  have e2 : sI s2 m 25 = v st.2.2 := by rw [p2.i25, pu_ne _ _ _ _ (by decide), pu_row _ _ _ _ (by decide), pu_row _ _ _ _ (by decide)]; rw [show A1 0 25 = st.2.2 from h10]
  have a2 : AF scrR A1 (pu (pu (pu (pu A1 11 len op) 12 len arg) 0 22 (len + 1)) 0 25 (st.2.2 + 1)) := (((AF.pu (Or.inr (Or.inr (by omega)))).tr (AF.pu (Or.inr (Or.inr (by omega))))).tr (AF.pu (Or.inl ⟨rfl, by omega⟩))).tr (AF.pu (Or.inl ⟨rfl, by omega⟩))
  have c0 : ∀ z : Int, z ≠ 22 → z ≠ 25 → pu (pu (pu (pu A1 11 len op) 12 len arg) 0 22 (len + 1)) 0 25 (st.2.2 + 1) 0 z = A1 0 z := fun z d1 d2 => by
    rw [pu_ne _ _ _ _ (by omega), pu_ne _ _ _ _ (by omega), pu_row _ _ _ _ (by decide), pu_row _ _ _ _ (by decide)]
  have c11 : pu (pu (pu (pu A1 11 len op) 12 len arg) 0 22 (len + 1)) 0 25 (st.2.2 + 1) 11 = bu (A 11) len op := by rw [pu_f (by decide), pu_f (by decide), pu_f (by decide), pu_b, r11]
  have c12 : pu (pu (pu (pu A1 11 len op) 12 len arg) 0 22 (len + 1)) 0 25 (st.2.2 + 1) 12 = bu (A 12) len arg := by rw [pu_f (by decide), pu_f (by decide), pu_b, pu_f (by decide), r12]
  refine ⟨_, _, ?_, ⟨k1, ⟨h2.fr a2 (by omega) (fun z => by omega), ⟨?_, ?_, ?_, ?_⟩, ⟨⟨h4.1.1, by show 0 ≤ st.2.2 + 1; omega⟩, h4.2⟩⟩, ⟨?_, ?_, ?_, h8.fr a2 (fun j z hj => by omega)⟩, ⟨?_, ?_, ?_⟩, ⟨h12.fr (fun z _ _ => ⟨?_, ?_⟩), ?_, ?_⟩, ⟨?_, ?_⟩, by omega, ?_⟩, c11, c12, (tok_R q3).tr a2, (q4.tr p3).tr (Fr.si (by omega))⟩
  · unfold f_M_leaf b_M_leaf_19
    rw [nv0, nv1, nv50, if_neg (show ¬ v 1 = v 0 by decide), if_pos h.1.t, h.1.i25, e25, if_pos (plt (by omega)), if_pos h.1.t, q1, Option.bind_some, if_pos h1.t, Rf_bad q2', if_pos rfl, p1, Option.bind_some, if_pos p2.t, e2, v_add]
  · rw [c0 13 (by decide) (by decide)]; exact h3.1
  · rw [c0 14 (by decide) (by decide)]; exact h3.2.1
  · rw [c0 15 (by decide) (by decide)]; exact h3.2.2.1
  · rw [pu_row _ _ _ _ (by decide), pu_row _ _ _ _ (by decide), pu_row _ _ _ _ (by decide), pu_row _ _ _ _ (by decide)]; exact h3.2.2.2
  · rw [c0 18 (by decide) (by decide)]; exact h5
  · rw [c0 17 (by decide) (by decide)]; exact h6
  · rw [c0 19 (by decide) (by decide)]; exact h7
  · rw [pu_ne _ _ _ _ (by decide), pu_eq]
  · exact pu_eq _ _ _ _
  · show st.2.2 + 1 ≤ 50; omega
  · rw [pu_row _ _ _ _ (by decide), pu_row _ _ _ _ (by decide), pu_row _ _ _ _ (by decide), pu_row _ _ _ _ (by decide)]
  · rw [pu_row _ _ _ _ (by decide), pu_row _ _ _ _ (by decide), pu_row _ _ _ _ (by decide), pu_row _ _ _ _ (by decide)]
  · rw [c0 28 (by decide) (by decide)]; exact h13
  · rw [c0 29 (by decide) (by decide)]; exact h14
  · rw [c11, c12, ← r11, ← r12]
    intro z z0 z1
    unfold bu
    by_cases e : z = len
    · rw [if_pos e, if_pos e]
      exact ⟨by omega, ho.2.1, fun _ => ho.2.2, fun d => by omega⟩
    · rw [if_neg e, if_neg e]
      exact h15 z z0 (by omega)
  · rw [c11, ← r11]
    intro y hy
    refine ⟨(h16 y hy).1, fun d => ?_⟩
    have := (h16 y hy).2 d
    unfold bu
    rw [if_neg (by omega)]
    omega
  · show len + 1 + (L.length : Int) ≤ (nxS B n (st.1, st.2.1, st.2.2 + 1)).1
    have : (nxS B n (st.1, st.2.1, st.2.2 + 1)).1 = (nxS B n st).1 := rfl
    omega
theorem m_leafF (h : RfS s m A B n ord st len L) {p : Prop} [Decidable p] (hp : ¬ p ∨ 50 ≤ st.2.2) {op arg : Int} :
    ∃ s' A', f_M_leaf s m (v (bi p)) (v op) (v arg) = some s' ∧ ErM s' m A' st.1 ∧ AF scrR A A' ∧ Fr (inM m) s s' := by
  obtain ⟨s1, A1, q1, q2, q3, q4⟩ := m_mustF h
  have e25 := h.2.2.2.1.2.1
  have e50 := h.2.2.2.1.2.2
  have hs0 : 0 ≤ st.2.2 := h.2.1.2.2.1.2
  refine ⟨s1, A1, ?_, q2, q3, q4⟩
  unfold f_M_leaf b_M_leaf_18 b_M_leaf_19
  rw [nv0, nv1, nv50]
  by_cases c : p
  · rw [bi_t c, if_neg (show ¬ v 1 = v 0 by decide), if_pos h.1.t, h.1.i25, e25, if_neg (nlt ⟨by omega, fun d => by rcases hp with x | x; exact x c; omega⟩), if_pos h.1.t, q1, Option.bind_some, if_pos q2.1.t, Er_bad q2, if_neg (show ¬ v 1 = v 0 by decide)]
  · rw [bi_f c, if_pos rfl, if_pos h.1.t, q1, Option.bind_some, if_pos q2.1.t, Er_bad q2, if_neg (show ¬ v 1 = v 0 by decide)]
end RLF
