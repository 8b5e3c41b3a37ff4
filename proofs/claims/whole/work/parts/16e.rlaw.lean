/-! THE REFERENCE: law() -/
abbrev dCL : CLS := (0, 1, semE, semE, semE)
def TXof (CL : List CLS) : TXS := (fun c => (CL.getD c.toNat dCL).1, fun c => (CL.getD c.toNat dCL).2.1, fun c => (CL.getD c.toNat dCL).2.2.1, fun c => (CL.getD c.toNat dCL).2.2.2.1, fun c => (CL.getD c.toNat dCL).2.2.2.2)
theorem tx_get {CL : List CLS} {c : Int} (h : 0 ≤ c ∧ c < CL.length) : ∃ x, CL[c.toNat]? = some x ∧ CL.getD c.toNat dCL = x ∧ ((c.toNat : Nat) : Int) = c := by
  have hl : c.toNat < CL.length := by omega
  refine ⟨CL[c.toNat], List.getElem?_eq_getElem hl, ?_, by omega⟩
  rw [List.getD_eq_getElem?_getD, List.getElem?_eq_getElem hl]
  rfl
section RLT
variable {m : Nat} {B : Int → Int} {n at_ : Int}
theorem m_law146 (hat : 0 ≤ at_ ∧ at_ ≤ 5321) {len : Int} (hlen : 0 ≤ len ∧ len ≤ 400) : ∀ (j N : Nat) (k : Int) (s : AS) (A A0 : MA), k + j = len → 0 ≤ k → j < N → MR s m A → A 0 22 = len → AF (fun i z => i = 2 ∧ at_ + 98 ≤ z ∧ z < at_ + 900) A0 A → (∀ y, 0 ≤ y → y < k → A 2 (at_ + 98 + 2 * y) = A0 11 y ∧ A 2 (at_ + 98 + 2 * y + 1) = A0 12 y) →
    ∃ s' A', l_M_law_146 N m (v at_) (v k) s = ((f_M_tell (setI s' (m + 2) 0 (v (A' 2 0 + 1))) m (v (A' 2 0))).bind fun r1 => some (r1.1, r1.2)) ∧ MR s' m A' ∧ AF (fun i z => i = 2 ∧ at_ + 98 ≤ z ∧ z < at_ + 900) A0 A' ∧ (∀ y, 0 ≤ y → y < len → A' 2 (at_ + 98 + 2 * y) = A0 11 y ∧ A' 2 (at_ + 98 + 2 * y + 1) = A0 12 y) ∧ Fr (inM m) s s' := by
  intro j
  induction j with
  | zero =>
    intro N k s A A0 hk h0 hN h h22 ha hy
    obtain ⟨N, rfl⟩ : ∃ x, N = x + 1 := ⟨N - 1, by omega⟩
    refine ⟨s, A, ?_, h, ha, fun y y0 y1 => hy y y0 (by omega), Fr.rf _ _⟩
    have e0 : sI s (m + 2) (nI 0).toNatClampNeg = v (A 2 0) := h.a3 0 (by omega)
    have k1 : MR (setI s (m + 2) (nI 0).toNatClampNeg (v (A 2 0 + 1))) m (pu A 2 0 (A 2 0 + 1)) := h.si 2 (by decide) (by decide) (z := 0) (x := A 2 0 + 1) ⟨by decide, by decide⟩
    have e1 : sI (setI s (m + 2) (nI 0).toNatClampNeg (v (A 2 0 + 1))) (m + 2) (nI 0).toNatClampNeg = v (A 2 0 + 1) := by
      have := k1.a3 0 (by omega)
      rw [pu_eq] at this
      exact this
    show b_M_law_146 _ _ _ _ _ = _
    unfold b_M_law_146
    rw [if_pos h.t, h.i22, h22, if_neg (nlt (by omega)), h.r3, h.t3, h.n3, if_pos (show 20 = 20 ∧ inA (nI 0) 6221 from ⟨rfl, v_inA (a := 0) (by omega) (by omega)⟩), e0, nv1, v_add, e1, v_sub, show A 2 0 + 1 - 1 = A 2 0 by omega]
    rfl
  | succ j ih =>
    intro N k s A A0 hk h0 hN h h22 ha hy
    obtain ⟨N, rfl⟩ : ∃ x, N = x + 1 := ⟨N - 1, by omega⟩
    have k1 := h.si 2 (by decide) (by decide) (z := at_ + 98 + 2 * k) (x := A 11 k) ⟨by omega, by show at_ + 98 + 2 * k < 6221; omega⟩
    have e1 : sI (setI s (m + 2) (at_ + 98 + 2 * k).toNat (v (A 11 k))) (m + 12) k.toNat = v (A 12 k) := by rw [k1.a24 k (by omega), pu_row _ _ _ _ (by decide)]
    have k2 := k1.si 2 (by decide) (by decide) (z := at_ + 98 + 2 * k + 1) (x := A 12 k) ⟨by omega, by show at_ + 98 + 2 * k + 1 < 6221; omega⟩
    have a2 : AF (fun i z => i = 2 ∧ at_ + 98 ≤ z ∧ z < at_ + 900) A (pu (pu A 2 (at_ + 98 + 2 * k) (A 11 k)) 2 (at_ + 98 + 2 * k + 1) (A 12 k)) := (AF.pu ⟨rfl, by omega, by omega⟩).tr (AF.pu ⟨rfl, by omega, by omega⟩)
    have e11 : A 11 k = A0 11 k := ha 11 k (by omega)
    have e12 : A 12 k = A0 12 k := ha 12 k (by omega)
    obtain ⟨s', A', q1, q2, q3, q4, q5⟩ := ih N (k + 1) _ _ A0 (by omega) (by omega) (by omega) k2 (by rw [pu_row _ _ _ _ (by decide), pu_row _ _ _ _ (by decide)]; exact h22) (ha.tr a2) (fun y y0 y1 => by
      by_cases e : y = k
      · subst e
        refine ⟨?_, ?_⟩
        · rw [pu_ne _ _ _ _ (by omega), pu_eq, e11]
        · rw [pu_eq, e12]
      · rw [pu_ne _ _ _ _ (by omega), pu_ne _ _ _ _ (by omega), pu_ne _ _ _ _ (by omega), pu_ne _ _ _ _ (by omega)]
        exact hy y y0 (by omega))
    refine ⟨s', A', ?_, q2, q3, q4, ((inM_s (by decide)).tr (inM_s (by decide))).tr q5⟩
    rw [← q1]
    show b_M_law_146 _ _ _ _ _ = _
    unfold b_M_law_146
    rw [if_pos h.t, h.i22, h22, if_pos (plt (by omega)), h.r23, h.t23, h.n23, if_pos ⟨rfl, v_inA (by omega) (by omega)⟩, h.r3, h.t3, h.n3, show nI 98 = v 98 from rfl, show nI 2 = v 2 from rfl, nv1, v_add, v_mul, v_add, v_add, if_pos ⟨rfl, v_inA (by omega) (by omega)⟩, h.r24, h.t24, h.n24, if_pos (show 20 = 20 ∧ inA (v k) 400 from ⟨rfl, v_inA (by omega) (by omega)⟩), if_pos (show 20 = 20 ∧ inA (v (at_ + 98 + 2 * k + 1)) 6221 from ⟨rfl, v_inA (by omega) (by omega)⟩), v_ix (by omega), v_ix (by omega), v_ix (by omega), h.a23 k (by omega), e1, v_add]
theorem m_law111 (hat : 0 ≤ at_ ∧ at_ ≤ 5321) {cl : Int} (hcl : 0 ≤ cl ∧ cl ≤ 12) : ∀ (j N : Nat) (k : Int) (s : AS) (A A0 : MA), k + j = 8 * cl → 0 ≤ k → j < N → MR s m A → A 0 20 = cl → AF (fun i z => i = 2 ∧ at_ + 2 ≤ z ∧ z < at_ + 98) A0 A → (∀ y, 0 ≤ y → y < k → A 2 (at_ + 2 + y) = A0 10 y) →
    ∃ s' A', l_M_law_111 N m (v at_) (v k) s = l_M_law_146 fuel m (v at_) (v 0) s' ∧ MR s' m A' ∧ AF (fun i z => i = 2 ∧ at_ + 2 ≤ z ∧ z < at_ + 98) A0 A' ∧ (∀ y, 0 ≤ y → y < 8 * cl → A' 2 (at_ + 2 + y) = A0 10 y) ∧ Fr (inM m) s s' := by
  intro j
  induction j with
  | zero =>
    intro N k s A A0 hk h0 hN h h20 ha hy
    obtain ⟨N, rfl⟩ : ∃ x, N = x + 1 := ⟨N - 1, by omega⟩
    refine ⟨s, A, ?_, h, ha, fun y y0 y1 => hy y y0 (by omega), Fr.rf _ _⟩
    show b_M_law_111 _ _ _ _ _ = _
    unfold b_M_law_111
    rw [if_pos h.t, h.i20, h20, nv8, v_mul, if_neg (nlt (by omega)), nv0]
  | succ j ih =>
    intro N k s A A0 hk h0 hN h h20 ha hy
    obtain ⟨N, rfl⟩ : ∃ x, N = x + 1 := ⟨N - 1, by omega⟩
    have k1 := h.si 2 (by decide) (by decide) (z := at_ + 2 + k) (x := A 10 k) ⟨by omega, by show at_ + 2 + k < 6221; omega⟩
    have a1 : AF (fun i z => i = 2 ∧ at_ + 2 ≤ z ∧ z < at_ + 98) A (pu A 2 (at_ + 2 + k) (A 10 k)) := AF.pu ⟨rfl, by omega, by omega⟩
    have e10 : A 10 k = A0 10 k := ha 10 k (by omega)
    obtain ⟨s', A', q1, q2, q3, q4, q5⟩ := ih N (k + 1) _ _ A0 (by omega) (by omega) (by omega) k1 (by rw [pu_row _ _ _ _ (by decide)]; exact h20) (ha.tr a1) (fun y y0 y1 => by
      by_cases e : y = k
      · subst e; rw [pu_eq, e10]
      · rw [pu_ne _ _ _ _ (by omega)]; exact hy y y0 (by omega))
    refine ⟨s', A', ?_, q2, q3, q4, (inM_s (by decide)).tr q5⟩
    rw [← q1]
    show b_M_law_111 _ _ _ _ _ = _
    unfold b_M_law_111
    rw [if_pos h.t, h.i20, h20, nv8, v_mul, if_pos (plt (by omega)), h.r21, h.t21, h.n21, if_pos ⟨rfl, v_inA (by omega) (by omega)⟩, h.r3, h.t3, h.n3, show nI 2 = v 2 from rfl, nv1, v_add, v_add, if_pos ⟨rfl, v_inA (by omega) (by omega)⟩, v_ix (by omega), v_ix (by omega), h.a21 k (by omega), v_add]
abbrev scrZ : Nat → Int → Prop := fun j z => scrY j z ∨ (j = 0 ∧ (z = 0 ∨ z = 1)) ∨ j = 1 ∨ j = 2
def SpcV (r : Except Int (List CLS)) (nl : Int) (o : Option (Int32 × AS)) (s : AS) (m : Nat) (A : MA) : Prop := match r with
  | .error e => ∃ s' A', o = some (v (-6), s') ∧ MR s' m A' ∧ (A' 0 12 = 0 ∧ A' 0 19 = 0 ∧ A' 0 17 = e ∧ A' 0 1 = -6) ∧ (∀ z, A' 1 z = if z = 6 then A 1 z + 1 else A 1 z) ∧ (∀ z, A' 2 z = A 2 z) ∧ AF scrZ A A' ∧ Fr (inM m) s s'
  | .ok CL => ∃ s' A', o = some (v nl, s') ∧ MR s' m A' ∧ (A' 0 12 = 0 ∧ A' 0 19 = 0 ∧ A' 0 17 = -1 ∧ A' 0 1 = 0) ∧ (∀ z, A' 1 z = A 1 z) ∧ (A' 2 0 = nl + 1 ∧ TxM (A' 2) (821 + 900 * nl) (TXof CL) CL.length ∧ ∀ z, 1 ≤ z → z < 821 + 900 * nl → A' 2 z = A 2 z) ∧ AF scrZ A A' ∧ Fr (inM m) s s'
/-- a law that was read is kept -/
theorem m_law64T {s : AS} {A : MA} {st : STK} {len nl : Int} {CL : List CLS} (h : RfX s m A B n false st len) (h20 : A 0 20 = CL.length) (hL : ClsLM (A 10) (insR false A) CL len) (h12 : CL.length ≤ 12) (hnl : A 2 0 = nl) (h06 : 0 ≤ nl ∧ nl < 6) : SpcV (endP n (.ok (CL, st))) nl (b_M_law_64 m s) s m A := by
  obtain ⟨s1, A1, q1, q2, ⟨q3, q4, q5, q6⟩, q7, q8⟩ := m_endText h
  have hst : 0 ≤ st.1 ∧ st.1 ≤ st.2.1 ∧ st.2.1 ≤ n := h.2.1.2.2.1.1
  have hn := h.2.1.1.2.1
  have hlen := h.2.2.2.2.2
  unfold b_M_law_64
  show SpcV (if st.1 < n then .error st.1 else .ok CL) nl _ s m A
  rw [if_pos h.1.t, q1, Option.bind_some, if_pos q2.t, q2.i18, q3, nv0, nv1]
  have a7 : AF scrZ A A1 := q7.mo (fun j z hj => by
    rcases hj with ⟨e, d | d | d | d⟩
    · exact Or.inl (Or.inl (Or.inl (Or.inl ⟨e, by omega⟩)))
    · exact Or.inl (Or.inl (Or.inl (Or.inl ⟨e, by omega⟩)))
    · exact Or.inl (Or.inr ⟨e, Or.inl d⟩)
    · exact Or.inl (Or.inr ⟨e, Or.inr d⟩))
  by_cases c : st.1 < n
  · rw [if_pos c] at q3 q4
    rw [if_pos c, if_pos c, if_neg (show ¬ v 1 = v 0 by decide), nv6, v_neg]
    obtain ⟨s2, A2, p1, p2, p3, p4, p5, p6⟩ := m_tell (x := -6) q2 (by omega)
    refine ⟨s2, A2, by rw [p1, Option.bind_some], p2, ⟨by rw [p5 0 12 (by omega)]; exact q6, by rw [p5 0 19 (by omega)]; exact q5, by rw [p5 0 17 (by omega)]; exact q4, p3⟩, fun z => ?_, fun z => by rw [p5 2 z (by omega), q7 2 z (by omega)], a7.tr (p5.mo (fun j z hj => by omega)), q8.tr p6⟩
    rw [p4 z, q7 1 z (by omega)]
    by_cases e : z = 6
    · rw [if_pos ⟨by omega, by omega⟩, if_pos e]
    · rw [if_neg (by omega), if_neg e]
  · rw [if_neg c] at q3 q4
    rw [if_neg c, if_neg c, if_pos rfl]
    have e2 : A1 2 0 = nl := by rw [q7 2 0 (by omega)]; exact hnl
    have e20 : A1 0 20 = CL.length := by rw [q7 0 20 (by omega)]; exact h20
    have e22 : A1 0 22 = len := by rw [q7 0 22 (by omega)]; exact h.2.2.2.1.1
    have f0 : sI s1 (m + 2) (v 0).toNatClampNeg = v nl := by rw [← e2]; exact q2.a3 0 (by omega)
    have k1 := q2.si 2 (by decide) (by decide) (z := 821 + 900 * nl + 1) (x := CL.length) ⟨by omega, by show 821 + 900 * nl + 1 < 6221; omega⟩
    have a1 : AF (fun i z => i = 2 ∧ z = 821 + 900 * nl + 1) A1 (pu A1 2 (821 + 900 * nl + 1) CL.length) := AF.pu ⟨rfl, rfl⟩
    obtain ⟨s3, A3, p1, p2, p3, p4, p5⟩ := m_law111 (at_ := 821 + 900 * nl) (by omega) (cl := CL.length) (by omega) (8 * CL.length) fuel 0 _ _ (pu A1 2 (821 + 900 * nl + 1) CL.length) (by omega) (Int.le_refl _) (by unfold fuel; omega) k1 (by rw [pu_row _ _ _ _ (by decide)]; exact e20) (AF.rf _ _) (fun y y0 y1 => by omega)
    obtain ⟨s4, A4, r1, r2, r3, r4, r5⟩ := m_law146 (at_ := 821 + 900 * nl) (by omega) (len := len) (by omega) len.toNat fuel 0 s3 A3 A3 (by omega) (Int.le_refl _) (by unfold fuel; omega) p2 (by rw [p3 0 22 (by omega), pu_row _ _ _ _ (by decide)]; exact e22) (AF.rf _ _) (fun y y0 y1 => by omega)
    have e42 : A4 2 0 = nl := by rw [r3 2 0 (by omega), p3 2 0 (by omega), pu_ne _ _ _ _ (by omega)]; exact e2
    have k5 := r2.si 2 (by decide) (by decide) (z := 0) (x := nl + 1) ⟨by decide, by decide⟩
    obtain ⟨s6, A6, t1, t2, t3, t4, t5, t6⟩ := m_tell (x := nl) k5 (by omega)
    rw [e42] at r1
    have R : ∀ z, z ≠ 0 → A6 2 z = A4 2 z := fun z hz => by rw [t5 2 z (by omega), pu_ne _ _ _ _ (by omega)]
    have R1 : A6 2 (821 + 900 * nl + 1) = CL.length := by rw [R _ (by omega), r3 2 _ (by omega), p3 2 _ (by omega), pu_eq]
    have R10 : ∀ y, 0 ≤ y → y < 8 * (CL.length : Int) → A6 2 (821 + 900 * nl + 2 + y) = A 10 y := fun y y0 y1 => by
      rw [R _ (by omega), r3 2 _ (by omega), p4 y y0 y1, pu_row _ _ _ _ (by decide), q7 10 y (by omega)]
    have R11 : ∀ y, 0 ≤ y → y < len → A6 2 (821 + 900 * nl + 98 + 2 * y) = A 11 y ∧ A6 2 (821 + 900 * nl + 98 + 2 * y + 1) = A 12 y := fun y y0 y1 => by
      rw [R _ (by omega), R _ (by omega), (r4 y y0 y1).1, (r4 y y0 y1).2, p3 11 y (by omega), p3 12 y (by omega), pu_row _ _ _ _ (by decide), pu_row _ _ _ _ (by decide), q7 11 y (by omega), q7 12 y (by omega)]
      exact ⟨rfl, rfl⟩
    have ag : ∀ {i j : Int}, 0 ≤ i → j ≤ len → Agr (insR false A) (insL (A6 2) (821 + 900 * nl)) i j := fun hi hj z z0 z1 => by
      show insM false (A6 2 (821 + 900 * nl + 98 + 2 * z)) (A6 2 (821 + 900 * nl + 98 + 2 * z + 1)) = insM false (A 11 z) (A 12 z)
      rw [(R11 z (by omega) (by omega)).1, (R11 z (by omega) (by omega)).2]
    refine ⟨s6, A6, ?_, t2, ⟨?_, ?_, ?_, by rw [t3]; unfold stOf; rw [if_neg (by omega)]⟩, fun z => ?_, ⟨?_, ⟨R1, by omega, fun c c0 c1 => ?_⟩, fun z z0 z1 => ?_⟩, ?_, ?_⟩
    · have hx : (setI s1 (m + 2) (v (821 + 900 * nl + 1)).toNatClampNeg (v CL.length)) = setI s1 (m + 2) (821 + 900 * nl + 1).toNat (v CL.length) := by rw [v_ix (by omega)]
      rw [q2.r3, q2.t3, q2.n3, if_pos (show 20 = 20 ∧ inA (v 0) 6221 from ⟨rfl, v_inA (by omega) (by omega)⟩), f0, show nI 821 = v 821 from rfl, show nI 900 = v 900 from rfl, v_mul, v_add, v_add, if_pos ⟨rfl, v_inA (by omega) (by omega)⟩, q2.i20, e20, hx, p1, r1, show setI s4 (m + 2) 0 (v (nl + 1)) = setI s4 (m + 2) (0 : Int).toNat (v (nl + 1)) from rfl, t1, Option.bind_some]
    · rw [t5 0 12 (by omega), pu_row _ _ _ _ (by decide), r3 0 12 (by omega), p3 0 12 (by omega), pu_row _ _ _ _ (by decide)]; exact q6
    · rw [t5 0 19 (by omega), pu_row _ _ _ _ (by decide), r3 0 19 (by omega), p3 0 19 (by omega), pu_row _ _ _ _ (by decide)]; exact q5
    · rw [t5 0 17 (by omega), pu_row _ _ _ _ (by decide), r3 0 17 (by omega), p3 0 17 (by omega), pu_row _ _ _ _ (by decide)]; exact q4
    · rw [t4 z, if_neg (fun d => by omega), pu_row _ _ _ _ (by decide), r3 1 z (by omega), p3 1 z (by omega), pu_row _ _ _ _ (by decide), q7 1 z (by omega)]
    · rw [t5 2 0 (by omega), pu_eq]
    · obtain ⟨x, g1, g2, g3⟩ := tx_get ⟨c0, c1⟩
      obtain ⟨b1, ⟨⟨b2, b3⟩, b4, b5⟩, b6, b7⟩ := hL c.toNat x g1
      rw [g3] at b1 b2 b3 b4 b5 b6 b7
      have T1 : (TXof CL).1 c = x.1 := by show (CL.getD c.toNat dCL).1 = _; rw [g2]
      have T3 : (TXof CL).2.2.1 c = x.2.2.1 := by show (CL.getD c.toNat dCL).2.2.1 = _; rw [g2]
      have T5 : (TXof CL).2.2.2.2 c = x.2.2.2.2 := by show (CL.getD c.toNat dCL).2.2.2.2 = _; rw [g2]
      have N0 : A6 2 (821 + 900 * nl + 2 + 8 * c) = A 10 (8 * c) := R10 _ (by omega) (by omega)
      have Ni : ∀ i : Int, 0 ≤ i → i < 8 → A6 2 (821 + 900 * nl + 2 + 8 * c + i) = A 10 (8 * c + i) := fun i i0 i1 => by
        rw [show 821 + 900 * nl + 2 + 8 * c + i = 821 + 900 * nl + 2 + (8 * c + i) by omega]
        exact R10 _ (by omega) (by omega)
      rw [N0, Ni 3 (by omega) (by omega), Ni 4 (by omega) (by omega), Ni 5 (by omega) (by omega), Ni 6 (by omega) (by omega), T1, T3, T5]
      refine ⟨b1, ⟨⟨b2, by omega⟩, b4, by omega⟩, fun d => (b6 d).agr (ag b2 b3), b7.agr (ag b4 b5), fun z z0 z1 => ?_⟩
      have hzl : z < len := by omega
      have hC := h.2.2.2.2.1 z z0 hzl
      rw [(R11 z z0 hzl).1, (R11 z z0 hzl).2]
      obtain ⟨d1, d2, d3, d4⟩ := hC
      refine ⟨d1, d2, fun e => ?_, fun e => ?_⟩
      · rcases d3 e with f | ⟨-, f⟩ | ⟨f, -⟩
        · omega
        · exact f
        · cases f
      · rcases d4 e with f | ⟨y, hy, -⟩
        · exact f
        · cases hy
    · rw [R z (by omega), r3 2 z (by omega), p3 2 z (by omega), pu_ne _ _ _ _ (by omega), q7 2 z (by omega)]
    · refine (((a7.tr (a1.mo (fun j z hj => by omega))).tr (p3.mo (fun j z hj => by omega))).tr (r3.mo (fun j z hj => by omega))).tr ?_
      exact (AF.pu (by omega)).tr (t5.mo (fun j z hj => by omega))
    · exact (((q8.tr (inM_s (by decide))).tr p5).tr r5).tr ((inM_s (by decide)).tr t6)
theorem m_law64F {s : AS} {A : MA} {nl e : Int} (h : BadM s m A e) : SpcV (.error e) nl (b_M_law_64 m s) s m A := by
  obtain ⟨s1, A1, q1, q2, ⟨q3, q4, q5, q6⟩, q7, q8⟩ := m_endBad h
  obtain ⟨s2, A2, p1, p2, p3, p4, p5, p6⟩ := m_tell (x := -6) q2 (by omega)
  unfold b_M_law_64
  rw [if_pos h.1.t, q1, Option.bind_some, if_pos q2.t, q2.i18, q3, nv0, nv6, v_neg, if_neg (show ¬ v 1 = v 0 by decide)]
  refine ⟨s2, A2, by rw [p1, Option.bind_some], p2, ⟨by rw [p5 0 12 (by omega)]; exact q6, by rw [p5 0 19 (by omega)]; exact q5, by rw [p5 0 17 (by omega)]; exact q4, p3⟩, fun z => ?_, fun z => by rw [p5 2 z (by omega), q7 2 z (by omega)], (q7.mo (fun j z hj => ?_)).tr (p5.mo (fun j z hj => by omega)), q8.tr p6⟩
  · rw [p4 z, q7 1 z (by omega)]
    by_cases e : z = 6
    · rw [if_pos ⟨by omega, by omega⟩, if_pos e]
    · rw [if_neg (by omega), if_neg e]
  · rcases hj with ⟨e, d | d | d | d⟩
    · exact Or.inl (Or.inl (Or.inl (Or.inl ⟨e, by omega⟩)))
    · exact Or.inl (Or.inl (Or.inl (Or.inl ⟨e, by omega⟩)))
    · exact Or.inl (Or.inr ⟨e, Or.inl d⟩)
    · exact Or.inl (Or.inr ⟨e, Or.inr d⟩)
theorem SpcV.pre {r : Except Int (List CLS)} {nl : Int} {o : Option (Int32 × AS)} {s s1 : AS} {A A1 : MA} (h : SpcV r nl o s1 m A1) (ha : AF scrZ A A1) (h1 : ∀ z, A1 1 z = A 1 z) (h2 : ∀ z, A1 2 z = A 2 z) (hf : Fr (inM m) s s1) : SpcV r nl o s m A := by
  cases r with
  | error e =>
    obtain ⟨s', A', a1, a2, a3, a4, a5, a6, a7⟩ := h
    exact ⟨s', A', a1, a2, a3, fun z => by rw [a4 z, h1 z], fun z => by rw [a5 z, h2 z], ha.tr a6, hf.tr a7⟩
  | ok CL =>
    obtain ⟨s', A', a1, a2, a3, a4, ⟨a5, a6, a7⟩, a8, a9⟩ := h
    exact ⟨s', A', a1, a2, a3, fun z => by rw [a4 z, h1 z], ⟨a5, a6, fun z z0 z1 => by rw [a7 z z0 z1, h2 z]⟩, ha.tr a8, hf.tr a9⟩
theorem m_law {s : AS} {A : MA} {nl : Int} (h : MR s m A) (hT : TpM A B n) (hW : WrM A) (hnl : A 2 0 = nl) (h06 : 0 ≤ nl ∧ nl < 6) : SpcV (textP B n false) nl (f_M_law s m) s m A := by
  have k0 := h.s0 (x := 0) (k := 0) (z := 0) rfl (by decide)
  have a0 : AF (fun j z => j = 0 ∧ z = 0) A (pu A 0 0 0) := AF.pu ⟨rfl, rfl⟩
  have e0 : sI (setI s m 0 (v 0)) (m + 2) (v 0).toNatClampNeg = v nl := by
    rw [← hnl]
    have := k0.a3 0 (by omega)
    rw [pu_row _ _ _ _ (by decide)] at this
    exact this
  obtain ⟨s1, A1, q1, q2, q3, q4, q5⟩ := m_beginText (ord := false) k0 (hT.fr a0 (by omega) (fun z => by omega)) (hW.fr a0 (fun j z hj => by omega))
  have hsp := m_readLaw (cl := 0) q2 q3 (by omega)
  have zC : ∀ j z, scrC j z → j ≠ 1 ∧ j ≠ 2 := fun j z hj => by
    rcases hj with (d | d | d) | d
    · omega
    · omega
    · omega
    · rcases d with d | d | d <;> omega
  have a1Z : AF scrZ A A1 := (a0.mo (fun j z hj => Or.inr (Or.inl ⟨hj.1, Or.inl hj.2⟩))).tr (q4.mo (fun j z hj => Or.inl hj))
  have n1 : ∀ z, A1 1 z = A 1 z := fun z => by
    rw [q4 1 z (fun d => by
      rcases d with d | d
      · exact (zC _ _ d).1 rfl
      · omega), pu_row _ _ _ _ (by decide)]
  have n2 : ∀ z, A1 2 z = A 2 z := fun z => by
    rw [q4 2 z (fun d => by
      rcases d with d | d
      · exact (zC _ _ d).2 rfl
      · omega), pu_row _ _ _ _ (by decide)]
  have f1 : Fr (inM m) s s1 := (Fr.si (by omega)).tr q5
  unfold f_M_law
  rw [if_pos h.t, h.r3, h.t3, h.n3, nv0, if_pos (show 20 = 20 ∧ inA (v 0) 6221 from ⟨rfl, v_inA (by omega) (by omega)⟩), e0, nv6, if_neg (pne (by omega)), show f_M_beginText (setI s m 0 (v 0)) m (v 0) = some s1 from q1, Option.bind_some, if_pos q2.1.t]
  unfold textP
  cases hr : clauseP B n false 0 (nxS B n (0, 0, 0)) with
  | error e =>
    rw [hr] at hsp
    obtain ⟨s2, A2, p1, p2, p3, p4⟩ := hsp
    rw [p1, Option.bind_some]
    have e37 : l_M_law_37 fuel m s2 = b_M_law_64 m s2 := by
      show b_M_law_37 (l_M_law_37 999999) m s2 = _
      unfold b_M_law_37
      rw [if_pos p2.1.t, p2.bad, nv0, if_neg (show ¬ v 1 = v 0 by decide)]
    rw [e37]
    exact (m_law64F (nl := nl) p2).pre (a1Z.tr (p3.mo (fun j z hj => Or.inl (Or.inl hj)))) (fun z => by rw [p3 1 z (fun d => (zC _ _ d).1 rfl), n1]) (fun z => by rw [p3 2 z (fun d => (zC _ _ d).2 rfl), n2]) (f1.tr p4)
  | ok y =>
    obtain ⟨x, st1⟩ := y
    rw [hr] at hsp
    obtain ⟨s2, A2, len2, p1, p2, p3, p4, p5, p6, p7, p8, p9, p10⟩ := hsp
    rw [p1, Option.bind_some]
    have hlp := m_lawLoop (s0 := s) (A0 := A2) 400 fuel [x] s2 A2 st1 len2 rfl (by show 1 ≤ 12; decide) (by unfold fuel; omega) p2 p3 (fun c y hy => by
      rcases get_snoc (L := []) hy with ⟨d1, d2⟩ | ⟨d1, d2⟩
      · cases d2
      · rw [d1, d2]; exact p4) (AF.rf _ _) (f1.tr p8)
    show SpcV (endP n (clsL B n false 400 [x] st1)) nl _ s m A
    have m1 : ∀ z, A2 1 z = A 1 z := fun z => by rw [p7 1 z (fun d => (zC _ _ d).1 rfl), n1]
    have m2 : ∀ z, A2 2 z = A 2 z := fun z => by rw [p7 2 z (fun d => (zC _ _ d).2 rfl), n2]
    have a2Z : AF scrZ A A2 := a1Z.tr (p7.mo (fun j z hj => Or.inl (Or.inl hj)))
    generalize hN : 400 = N at hlp ⊢
    cases hq : clsL B n false N [x] st1 with
    | error e =>
      rw [hq] at hlp
      obtain ⟨s3, A3, g1, g2, g3, g4⟩ := hlp
      rw [g1]
      exact (m_law64F (nl := nl) g2).pre (a2Z.tr (g3.mo (fun j z hj => Or.inl (Or.inl hj)))) (fun z => by rw [g3 1 z (fun d => (zC _ _ d).1 rfl), m1]) (fun z => by rw [g3 2 z (fun d => (zC _ _ d).2 rfl), m2]) g4
    | ok w =>
      obtain ⟨CL, st3⟩ := w
      rw [hq] at hlp
      obtain ⟨s3, A3, len3, g1, g2, g3, g4, g5, g6⟩ := hlp
      have hqc := q_clsL (B := B) (n := n) (ord := false) N [x] CL st1 st3 (fun y hy => by have e : y = x := (by simpa using hy); rw [e]; exact q_clause hr) (by show 1 ≤ 12; decide) hq
      rw [if_neg (show ¬ false = true by decide)] at g4
      rw [g1]
      exact (m_law64T (nl := nl) g2 g3 g4 hqc.2 (by rw [g5 2 0 (fun d => (zC _ _ d).2 rfl), m2]; exact hnl) h06).pre (a2Z.tr (g5.mo (fun j z hj => Or.inl (Or.inl hj)))) (fun z => by rw [g5 1 z (fun d => (zC _ _ d).1 rfl), m1]) (fun z => by rw [g5 2 z (fun d => (zC _ _ d).2 rfl), m2]) g6
theorem m_lawFull {s : AS} {A : MA} (h : MR s m A) (hnl : A 2 0 = 6) : ∃ s' A', f_M_law s m = some (v (-5), s') ∧ MR s' m A' ∧ (A' 0 12 = 0 ∧ A' 0 1 = -5) ∧ (∀ z, A' 1 z = if z = 5 then A 1 z + 1 else A 1 z) ∧ AF (fun j z => (j = 0 ∧ (z = 0 ∨ z = 1 ∨ z = 12)) ∨ j = 1) A A' ∧ Fr (inM m) s s' := by
  have k0 := h.s0 (x := 0) (k := 0) (z := 0) rfl (by decide)
  have k1 := k0.s0 (x := 0) (k := 12) (z := 12) rfl (by decide)
  have e0 : sI (setI s m 0 (v 0)) (m + 2) (v 0).toNatClampNeg = v 6 := by
    rw [← hnl]
    have := k0.a3 0 (by omega)
    rw [pu_row _ _ _ _ (by decide)] at this
    exact this
  obtain ⟨s2, A2, p1, p2, p3, p4, p5, p6⟩ := m_tell (x := -5) k1 (by omega)
  refine ⟨s2, A2, ?_, p2, ⟨by rw [p5 0 12 (by omega), pu_eq], p3⟩, fun z => ?_, ((AF.pu (by omega)).tr (AF.pu (by omega))).tr (p5.mo (fun j z hj => by omega)), ((Fr.si (by omega)).tr (Fr.si (by omega))).tr p6⟩
  · unfold f_M_law
    rw [if_pos h.t, h.r3, h.t3, h.n3, nv0, if_pos (show 20 = 20 ∧ inA (v 0) 6221 from ⟨rfl, v_inA (by omega) (by omega)⟩), e0, nv6, if_pos rfl, show nI 5 = v 5 from rfl, v_neg, p1, Option.bind_some]
  · rw [p4 z, pu_row _ _ _ _ (by decide), pu_row _ _ _ _ (by decide)]
    by_cases e : z = 5
    · rw [if_pos ⟨by omega, by omega⟩, if_pos e]
    · rw [if_neg (by omega), if_neg e]
end RLT
