/-! THE REFERENCE'S READER: expressions -/
def RfX (s : AS) (m : Nat) (A : MA) (B : Int → Int) (n : Int) (ord : Bool) (st : STK) (len : Int) : Prop :=
  MR s m A ∧ (TpM A B n ∧ TokM A B n st ∧ StT B n st) ∧ (A 0 18 = 0 ∧ A 0 17 = -1 ∧ A 0 19 = (if ord = true then 1 else 0) ∧ WrM A) ∧ (A 0 22 = len ∧ A 0 25 = st.2.2 ∧ st.2.2 ≤ 50) ∧ CodO (A 11) (A 12) ord len [] ∧ (0 ≤ len ∧ len ≤ st.1)
def BadM (s : AS) (m : Nat) (A : MA) (e : Int) : Prop := MR s m A ∧ A 0 18 = 1 ∧ A 0 17 = e
def SpcE (r : RSL) (o : Option AS) (s : AS) (m : Nat) (A : MA) (B : Int → Int) (n : Int) (ord : Bool) (st : STK) (len : Int) : Prop := match r with
  | .error e => ∃ s' A', o = some s' ∧ BadM s' m A' e ∧ AF scrR A A' ∧ Fr (inM m) s s'
  | .ok (g, st') => ∃ s' A' len', o = some s' ∧ RfX s' m A' B n ord st' len' ∧ Seg (insR ord A') len len' g ∧ CodK A A' len ∧ AF scrR A A' ∧ Fr (inM m) s s' ∧ st.1 < st'.1
section RXP
variable {m : Nat} {B : Int → Int} {n : Int} {ord : Bool} {st : STK} {s : AS} {A : MA} {len : Int}
theorem RfX.of {rm : Int} (h : RfG s m A B n ord st len [] rm) (hr : rm ≤ st.1) : RfX s m A B n ord st len := by
  obtain ⟨h1, h2, h3, h4, ⟨h5, h6, h7⟩, ⟨h8, h9⟩, h10, h11⟩ := h
  have h11' : len + 0 ≤ rm := h11
  exact ⟨h1, h2, h3, h4, h8, h10, by omega⟩
theorem RfX.to (h : RfX s m A B n ord st len) : ∃ A', RfS (setI (setI s m 28 (v 0)) m 29 (v 0)) m A' B n ord st len [] ∧ A' 11 = A 11 ∧ A' 12 = A 12 ∧ AF scrR A A' ∧ Fr (inM m) s (setI (setI s m 28 (v 0)) m 29 (v 0)) := by
  obtain ⟨h1, ⟨h2, h3, h4⟩, ⟨h5, h6, h7, h8⟩, ⟨h9, h10, h11⟩, h12, h13, h14⟩ := h
  have k1 := h1.s0 (x := 0) (k := 28) (z := 28) rfl (by decide)
  have k2 := k1.s0 (x := 0) (k := 29) (z := 29) rfl (by decide)
  have a2 : AF (fun j z => j = 0 ∧ (z = 28 ∨ z = 29)) A (pu (pu A 0 28 0) 0 29 0) := (AF.pu ⟨rfl, Or.inl rfl⟩).tr (AF.pu ⟨rfl, Or.inr rfl⟩)
  have r11 := a2.row (j := 11) (fun z => by omega)
  have r12 := a2.row (j := 12) (fun z => by omega)
  refine ⟨_, ⟨k2, ⟨h2.fr a2 (by omega) (fun z => by omega), ⟨?_, ?_, ?_, ?_⟩, h4⟩, ⟨?_, ?_, ?_, h8.fr a2 (fun j z hj => by omega)⟩, ⟨?_, ?_, h11⟩, ⟨trivial, ?_, pu_eq _ _ _ _⟩, ⟨?_, fun y hy => (by cases hy)⟩, h13, ?_⟩, r11, r12, a2.mo (fun j z hj => by omega), (Fr.si (by omega)).tr (Fr.si (by omega))⟩
  · rw [a2 0 13 (by omega)]; exact h3.1
  · rw [a2 0 14 (by omega)]; exact h3.2.1
  · rw [a2 0 15 (by omega)]; exact h3.2.2.1
  · rw [a2 28 16 (by omega)]; exact h3.2.2.2
  · rw [a2 0 18 (by omega)]; exact h5
  · rw [a2 0 17 (by omega)]; exact h6
  · rw [a2 0 19 (by omega)]; exact h7
  · rw [a2 0 22 (by omega)]; exact h9
  · rw [a2 0 25 (by omega)]; exact h10
  · rw [pu_ne _ _ _ _ (by decide), pu_eq]; rfl
  · rw [r11, r12]; exact h12
  · show len + 0 ≤ st.1; omega
theorem m_testOver {X : PIL} (h : RfS s m A B n ord st len X) (h16 : wd B st 16 = -1) (hi : innL X = -1) : f_M_behindTest s m = some (v 4, s) := by
  have hst : 0 ≤ st.1 ∧ st.1 ≤ st.2.1 ∧ st.2.1 ≤ n := h.2.1.2.2.1.1
  have hn := h.2.1.1.2.1
  have hin := m_inner h (by omega)
  rw [hi] at hin
  unfold f_M_behindTest
  rw [if_pos h.1.t, m_isAnd h, Option.bind_some, bi_f (by omega), nv0, if_pos rfl, m_isOr h, Option.bind_some, bi_f (by omega), if_pos rfl, hin, Option.bind_some, nv1, v_neg, if_pos rfl, nv4]
/-- the end: all that waits is settled -/
theorem m_exprEnd {tst i0 : Int} {X : PIL} {g : SEM} (h : RfS s m A B n ord st len (X ++ [])) (hX : ∀ x ∈ X, (1 ≤ bndO x.1 ∧ x.1 ≤ 30) ∧ (28 < x.1 → i0 ≤ x.2)) (hg : PdS ord A i0 len X g) (hi0 : i0 ≤ len) (N : Nat) :
    ∃ s' A' len', l_M_readExpression_20 (N + 1) m (v tst) (v 4) s = some s' ∧ RfX s' m A' B n ord st len' ∧ Seg (insR ord A') i0 len' g ∧ CodK A A' i0 ∧ AF scrR A A' ∧ Fr (inM m) s s' := by
  have hst : 0 ≤ st.1 ∧ st.1 ≤ st.2.1 ∧ st.2.1 ≤ n := h.2.1.2.2.1.1
  have hn := h.2.1.1.2.1
  obtain ⟨s1, A1, q1, q2, q3, q4, q5, q6⟩ := m_settleG (least := 1) h (by omega) (by omega) (fun x hx => (hX x hx).1.1) (fun y hy => (by cases hy))
  refine ⟨s1, A1, _, ?_, RfX.of q2 (Int.le_refl _), ?_, fun z w0 w1 => ?_, q5, q6⟩
  · show b_M_readExpression_20 _ _ _ _ _ = _
    unfold b_M_readExpression_20 b_M_readExpression_76
    rw [if_pos h.1.t, Rf_bad h, nv0, nv4, if_pos rfl, if_pos rfl, if_pos h.1.t, nv1, q1, Option.bind_some]
  · show Seg (insF ord (A1 11) (A1 12)) i0 _ g
    rw [q3, q4]
    exact hg
  · rw [q3, q4, stl_O X _ _ _ _ (by omega), stl_R X _ _ _ _ (by omega) (fun x hx d => by have := (hX x hx).2 (by omega); omega)]
    exact ⟨rfl, rfl⟩
theorem m_exprBad {tst t e : Int} (h : ErM s m A e) (N : Nat) : ∃ s' A', l_M_readExpression_20 (N + 1) m (v tst) (v t) s = some s' ∧ BadM s' m A' e ∧ AF scrR A A' ∧ Fr (inM m) s s' := by
  obtain ⟨s1, A1, q1, q2, q3, q4⟩ := m_settleE h
  refine ⟨s1, A1, ?_, ⟨q2.1, q2.2.1.1, q2.2.1.2⟩, q3, q4⟩
  show b_M_readExpression_20 _ _ _ _ _ = _
  unfold b_M_readExpression_20 b_M_readExpression_76
  rw [if_pos h.1.t, Er_bad h, nv0, if_neg (show ¬ v 1 = v 0 by decide), if_pos h.1.t, nv1, q1, Option.bind_some]
theorem m_exprSum (h : RfX s m A B n ord st len) : SpcE (sumD B n ord 8 st) (f_M_readExpression s m (v 0)) s m A B n ord st len := by
  obtain ⟨A0, k1, k2, k3, k4, k5⟩ := h.to
  have hst : 0 ≤ st.1 ∧ st.1 ≤ st.2.1 ∧ st.2.1 ≤ n := h.2.1.2.2.1.1
  have hn := h.2.1.1.2.1
  have e : f_M_readExpression s m (v 0) = l_M_readExpression_20 fuel m (v 0) (v 1) (setI (setI s m 28 (v 0)) m 29 (v 0)) := by
    unfold f_M_readExpression b_M_readExpression_19
    rw [if_pos h.1.t, nv0, if_pos rfl, nv1]
  rw [e]
  have hsp := m_sumD (m := m) (B := B) (n := n) (ord := ord) (tst := 0) 8 _ 1 A0 st len [] k1 rfl (fun y hy => (by cases hy)) (at_part k1)
  cases hr : sumD B n ord 8 st with
  | error e =>
    rw [hr] at hsp
    obtain ⟨s1, A1, t1, kk, q1, q2, q3, q4, q5⟩ := hsp
    obtain ⟨s2, A2, p1, p2, p3, p4⟩ := m_exprBad (tst := 0) (t := t1) q3 (fuel - kk - 1)
    refine ⟨s2, A2, ?_, p2, (k4.tr q4).tr p3, (k5.tr q5).tr p4⟩
    have := q1 (fuel - kk - 1 + 1)
    rw [show fuel - kk - 1 + 1 + kk = fuel by unfold fuel; omega, p1] at this
    exact this
  | ok x =>
    obtain ⟨g, st1⟩ := x
    rw [hr] at hsp
    obtain ⟨s1, A1, len1, X, kk, q1, q2, q3, q4, q5, q6, q7, q8, q9, q10, q11⟩ := hsp
    have hst1 : 0 ≤ st1.1 ∧ st1.1 ≤ st1.2.1 ∧ st1.2.1 ≤ n := q3.2.1.2.2.1.1
    have ho := m_sumOver q3 q10 (by rw [innL_app X [] (fun x hx => by have := q4 x hx; omega)]; rfl)
    have hr1 := q1.tr (rch_sum q3 ho)
    obtain ⟨s2, A2, len2, p1, p2, p3, p4, p5, p6⟩ := m_exprEnd (tst := 0) q3 (fun x hx => ⟨⟨by have := bndO_sum (q4 x hx); omega, by have := q4 x hx; omega⟩, fun d => by have := q4 x hx; omega⟩) q5 (by omega) (fuel - kk - 2)
    refine ⟨s2, A2, len2, ?_, p2, p3, ((CodK.eq k2 k3).tr q6).tr p4, (k4.tr q7).tr p5, (k5.tr q8).tr p6, q9⟩
    have := hr1 (fuel - kk - 2 + 1)
    rw [show fuel - kk - 2 + 1 + (1 + kk) = fuel by unfold fuel; omega, p1] at this
    exact this
theorem m_exprTest (h : RfX s m A B n ord st len) : SpcE (testD B n ord 8 st) (f_M_readExpression s m (v 1)) s m A B n ord st len := by
  obtain ⟨A0, k1, k2, k3, k4, k5⟩ := h.to
  have hst : 0 ≤ st.1 ∧ st.1 ≤ st.2.1 ∧ st.2.1 ≤ n := h.2.1.2.2.1.1
  have hn := h.2.1.1.2.1
  have e : f_M_readExpression s m (v 1) = l_M_readExpression_20 fuel m (v 1) (v 0) (setI (setI s m 28 (v 0)) m 29 (v 0)) := by
    unfold f_M_readExpression b_M_readExpression_19
    rw [if_pos h.1.t, nv0, if_neg (show ¬ v 1 = v 0 by decide)]
  rw [e]
  have hsp := m_testD (m := m) (B := B) (n := n) (ord := ord) 8 _ A0 st len [] k1 rfl (fun y hy => (by cases hy)) (Or.inr rfl)
  cases hr : testD B n ord 8 st with
  | error e =>
    rw [hr] at hsp
    obtain ⟨s1, A1, t1, kk, q1, q2, q3, q4, q5⟩ := hsp
    obtain ⟨s2, A2, p1, p2, p3, p4⟩ := m_exprBad (tst := 1) (t := t1) q3 (fuel - kk - 1)
    refine ⟨s2, A2, ?_, p2, (k4.tr q4).tr p3, (k5.tr q5).tr p4⟩
    have := q1 (fuel - kk - 1 + 1)
    rw [show fuel - kk - 1 + 1 + kk = fuel by unfold fuel; omega, p1] at this
    exact this
  | ok x =>
    obtain ⟨g, st1⟩ := x
    rw [hr] at hsp
    obtain ⟨s1, A1, len1, X, kk, q1, q2, q3, q4, q5, q6, q7, q8, q9, q10, q11⟩ := hsp
    have hst1 : 0 ≤ st1.1 ∧ st1.1 ≤ st1.2.1 ∧ st1.2.1 ≤ n := q3.2.1.2.2.1.1
    have ho := m_testOver q3 (q11 rfl) (by rw [innL_app X [] (fun x hx => by have := (q4 x hx).1; omega)]; rfl)
    have hr1 := q1.tr (rch_test q3 ho)
    obtain ⟨s2, A2, len2, p1, p2, p3, p4, p5, p6⟩ := m_exprEnd (tst := 1) q3 q4 q5 (by omega) (fuel - kk - 2)
    refine ⟨s2, A2, len2, ?_, p2, p3, ((CodK.eq k2 k3).tr q6).tr p4, (k4.tr q7).tr p5, (k5.tr q8).tr p6, q9⟩
    have := hr1 (fuel - kk - 2 + 1)
    rw [show fuel - kk - 2 + 1 + (1 + kk) = fuel by unfold fuel; omega, p1] at this
    exact this
end RXP
