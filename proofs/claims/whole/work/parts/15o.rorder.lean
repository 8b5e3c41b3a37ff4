/-! THE REFERENCE'S READER: a clause of orders -/
def ClsO (N : Int → Int) (I : Int → Int × Int) (c : Int) (x : CLS) (l : Int) : Prop := (N (8 * c) = x.1 ∧ N (8 * c + 7) = x.2.1) ∧ ((0 ≤ N (8 * c + 1) ∧ N (8 * c + 2) ≤ l) ∧ (0 ≤ N (8 * c + 3) ∧ N (8 * c + 4) ≤ l) ∧ (0 ≤ N (8 * c + 5) ∧ N (8 * c + 6) ≤ l)) ∧ (if x.1 = 4 then N (8 * c + 1) = N (8 * c + 2) else Seg I (N (8 * c + 1)) (N (8 * c + 2)) x.2.2.1) ∧ (if 1 < x.1 then N (8 * c + 3) = N (8 * c + 4) else Seg I (N (8 * c + 3)) (N (8 * c + 4)) x.2.2.2.1) ∧ SegE I (N (8 * c + 5)) (N (8 * c + 6)) x.2.2.2.2
def SpcD (r : Except Int (CLS × STK)) (o : Option AS) (s : AS) (m : Nat) (A : MA) (B : Int → Int) (n : Int) (st : STK) (len cl : Int) : Prop := match r with
  | .error e => ∃ s' A', o = some s' ∧ BadM s' m A' e ∧ AF scrC A A' ∧ Fr (inM m) s s'
  | .ok (x, st') => ∃ s' A' len', o = some s' ∧ RfX s' m A' B n true st' len' ∧ A' 0 20 = cl + 1 ∧ ClsO (A' 26) (insR true A') cl x len' ∧ (∀ z, z < 8 * cl → A' 26 z = A 26 z) ∧ CodK A A' len ∧ AF scrC A A' ∧ Fr (inM m) s s' ∧ st.1 < st'.1 ∧ len ≤ len'
section ROD
variable {m : Nat} {B : Int → Int} {n : Int} {ord : Bool} {st : STK} {s : AS} {A : MA} {len : Int}
abbrev sc26 (a b : Int) : Nat → Int → Prop := fun j z => scrR j z ∨ (j = 26 ∧ a ≤ z ∧ z ≤ b)
theorem sc26_C {A B : MA} {a b : Int} (h : AF (sc26 a b) A B) : AF scrC A B := h.mo (fun j z hj => by
  rcases hj with d | d
  · exact Or.inl d
  · exact Or.inr (Or.inr (Or.inl d.1)))
theorem m_rs22 {a : Int} (h : MR s m A) (ha : 0 ≤ a ∧ a ≤ 94) : ∃ s', b_M_readSum_22 m (v a) s = some s' ∧ MR s' m (pu A 26 (a + 1) (A 0 22)) ∧ Fr (inM m) s s' := by
  have k := h.si 26 (by decide) (by decide) (z := a + 1) (x := A 0 22) ⟨by omega, by show a + 1 < 96; omega⟩
  refine ⟨_, ?_, k, inM_s (by decide)⟩
  unfold b_M_readSum_22
  rw [if_pos h.t, h.r49, h.t49, h.n49, nv1, v_add, if_pos ⟨rfl, v_inA (by omega) (by omega)⟩, v_ix (by omega), h.i22]
def SpcU (r : RSL) (o : Option AS) (s : AS) (m : Nat) (A : MA) (B : Int → Int) (n : Int) (st : STK) (len a : Int) : Prop := match r with
  | .error e => ∃ s' A', o = some s' ∧ BadM s' m A' e ∧ AF (sc26 a (a + 1)) A A' ∧ Fr (inM m) s s'
  | .ok (g, st') => ∃ s' A' len', o = some s' ∧ RfX s' m A' B n true st' len' ∧ (∃ l0, A' 26 a = l0 ∧ A' 26 (a + 1) = len' ∧ len ≤ l0 ∧ Seg (insR true A') l0 len' g) ∧ CodK A A' len ∧ AF (sc26 a (a + 1)) A A' ∧ Fr (inM m) s s' ∧ st.1 < st'.1
theorem m_readSumX {a : Int} (h : RfX s m A B n true st len) (ha : 0 ≤ a ∧ a ≤ 94) : SpcU (sumD B n true 8 st) (f_M_readSum s m (v a)) s m A B n st len a := by
  have h1 := h.1
  have e22 : A 0 22 = len := h.2.2.2.1.1
  have k1 := h1.si 26 (by decide) (by decide) (z := a) (x := len) ⟨by omega, by show a < 96; omega⟩
  have a1 : AF scrN A (pu A 26 a len) := AF.pu (Or.inr (Or.inl rfl))
  have a1' : AF (sc26 a (a + 1)) A (pu A 26 a len) := AF.pu (Or.inr ⟨rfl, by omega, by omega⟩)
  have x1 := h.fr k1 a1
  have r11 := a1.row (j := 11) (fun z => by omega)
  have r12 := a1.row (j := 12) (fun z => by omega)
  have hsp := m_exprSum x1
  unfold f_M_readSum
  rw [if_pos h1.t, h1.r49, h1.t49, h1.n49, if_pos ⟨rfl, v_inA (by omega) (by omega)⟩, v_ix (by omega), h1.i22, e22, x1.bad, nv0, if_pos rfl]
  cases hr : sumD B n true 8 st with
  | error e =>
    rw [hr] at hsp
    obtain ⟨s2, A2, p1, p2, p3, p4⟩ := hsp
    obtain ⟨s3, y1, y2, y3⟩ := m_rs22 p2.1 ha
    have a3 : AF scrN A2 (pu A2 26 (a + 1) (A2 0 22)) := AF.pu (Or.inr (Or.inl rfl))
    exact ⟨s3, _, by rw [p1, Option.bind_some, y1], p2.fr y2 a3, (a1'.tr (p3.mo (fun _ _ d => Or.inl d))).tr (AF.pu (Or.inr ⟨rfl, by omega, by omega⟩)), ((inM_s (by decide)).tr p4).tr y3⟩
  | ok x =>
    obtain ⟨g, st2⟩ := x
    rw [hr] at hsp
    obtain ⟨s2, A2, len2, p1, p2, p3, p4, p5, p6, p7⟩ := hsp
    obtain ⟨s3, y1, y2, y3⟩ := m_rs22 p2.1 ha
    have a3 : AF scrN A2 (pu A2 26 (a + 1) (A2 0 22)) := AF.pu (Or.inr (Or.inl rfl))
    have e2 : A2 0 22 = len2 := p2.2.2.2.1.1
    have s11 := a3.row (j := 11) (fun z => by omega)
    have s12 := a3.row (j := 12) (fun z => by omega)
    refine ⟨s3, _, len2, by rw [p1, Option.bind_some, y1], p2.fr y2 a3, ⟨len, ?_, ?_, Int.le_refl _, p3.agr ((CodK.eq (i := len2) s11 s12).agr h.2.2.2.2.2.1)⟩, ((CodK.eq r11 r12).tr p4).tr (CodK.eq s11 s12), (a1'.tr (p5.mo (fun _ _ d => Or.inl d))).tr (AF.pu (Or.inr ⟨rfl, by omega, by omega⟩)), ((inM_s (by decide)).tr p6).tr y3, p7⟩
    · rw [pu_ne _ _ _ _ (by omega), p5 26 a (by omega), pu_eq]
    · rw [pu_eq, e2]
theorem m_readSumB {a e : Int} (h : BadM s m A e) (ha : 0 ≤ a ∧ a ≤ 94) : ∃ s' A', f_M_readSum s m (v a) = some s' ∧ BadM s' m A' e ∧ AF scrC A A' ∧ Fr (inM m) s s' := by
  have h1 := h.1
  have k1 := h1.si 26 (by decide) (by decide) (z := a) (x := A 0 22) ⟨by omega, by show a < 96; omega⟩
  have a1 : AF scrN A (pu A 26 a (A 0 22)) := AF.pu (Or.inr (Or.inl rfl))
  have x1 := h.fr k1 a1
  obtain ⟨s3, y1, y2, y3⟩ := m_rs22 x1.1 ha
  have a3 : AF scrN (pu A 26 a (A 0 22)) (pu (pu A 26 a (A 0 22)) 26 (a + 1) (pu A 26 a (A 0 22) 0 22)) := AF.pu (Or.inr (Or.inl rfl))
  refine ⟨s3, _, ?_, x1.fr y2 a3, (scrN_C a1).tr (scrN_C a3), (inM_s (by decide)).tr y3⟩
  unfold f_M_readSum
  rw [if_pos h1.t, h1.r49, h1.t49, h1.n49, if_pos ⟨rfl, v_inA (by omega) (by omega)⟩, v_ix (by omega), h1.i22, x1.bad, nv0, if_neg (show ¬ v 1 = v 0 by decide), y1]
theorem m_behindB {a e : Int} {w0 : Int64} (h : BadM s m A e) (ha : 0 ≤ a ∧ a ≤ 94) : ∃ s' A', f_M_readBehind s m w0 (v a) = some s' ∧ BadM s' m A' e ∧ AF scrC A A' ∧ Fr (inM m) s s' := by
  obtain ⟨s1, A1, q1, q2, q3, q4⟩ := m_readSumB h ha
  refine ⟨s1, A1, ?_, q2, q3, q4⟩
  unfold f_M_readBehind b_M_readBehind_16
  rw [if_pos h.1.t, h.bad, nv0, if_neg (show ¬ v 1 = v 0 by decide), if_pos h.1.t, q1, Option.bind_some]
/-- behind a word a sum -/
theorem m_behindX {a : Int} {k c : Nat} {x : List Nat} (h : RfX s m A B n true st len) (ha : 0 ≤ a ∧ a ≤ 94) (hk : k < 18) (hx : (wrdZ k)[0]? = some x ∧ wdOK x ∧ valR x.reverse = c) :
    SpcU (if wd B st k = 0 then sumD B n true 8 (nxS B n st) else .error st.1) (f_M_readBehind s m (lN c) (v a)) s m A B n st len a := by
  have hw : f_M_isWord s m (lN c) = some (v (bi (wd B st k = 0))) := m_wdK h.1 h.2.1.1 h.2.1.2.1 h.2.1.2.2 (k := k) (i := 0) (c := c) (x := x) hk hx.1 hx.2
  have hst : 0 ≤ st.1 ∧ st.1 ≤ st.2.1 ∧ st.2.1 ≤ n := h.2.1.2.2.1.1
  have hT := nxS_T (B := B) (n := n) h.2.1.2.2.1
  have ge : st.2.1 ≤ (nxS B n st).1 := hT.2.1
  unfold f_M_readBehind b_M_readBehind_16
  rw [if_pos h.1.t, h.bad, nv0, if_pos rfl, hw, Option.bind_some]
  by_cases cw : wd B st k = 0
  · obtain ⟨s1, A1, q1, q2, q3, q4⟩ := m_mustXT h
    have r11 := q3.row (j := 11) (fun z => by omega)
    have r12 := q3.row (j := 12) (fun z => by omega)
    have hsp := m_readSumX (a := a) q2 ha
    rw [bi_t cw, q1, Option.bind_some, if_pos q2.1.t, if_pos cw]
    cases hr : sumD B n true 8 (nxS B n st) with
    | error e =>
      rw [hr] at hsp
      obtain ⟨s2, A2, p1, p2, p3, p4⟩ := hsp
      exact ⟨s2, A2, by rw [p1, Option.bind_some], p2, (q3.mo (fun j z d => Or.inl (by omega))).tr p3, q4.tr p4⟩
    | ok y =>
      obtain ⟨g, st2⟩ := y
      rw [hr] at hsp
      obtain ⟨s2, A2, len2, p1, p2, p3, p4, p5, p6, p7⟩ := hsp
      exact ⟨s2, A2, len2, by rw [p1, Option.bind_some], p2, p3, (CodK.eq r11 r12).tr p4, (q3.mo (fun j z d => Or.inl (by omega))).tr p5, q4.tr p6, by omega⟩
  · obtain ⟨s1, A1, q1, q2, q3, q4⟩ := m_mustXF h
    have hn := h.2.1.1.2.1
    have h1 := q2.1
    have k1 := h1.si 26 (by decide) (by decide) (z := a) (x := A1 0 22) ⟨by omega, by show a < 96; omega⟩
    have a1 : AF scrN A1 (pu A1 26 a (A1 0 22)) := AF.pu (Or.inr (Or.inl rfl))
    have x1 := q2.fr k1 a1
    obtain ⟨s3, y1, y2, y3⟩ := m_rs22 x1.1 ha
    have a3 : AF scrN (pu A1 26 a (A1 0 22)) (pu (pu A1 26 a (A1 0 22)) 26 (a + 1) (pu A1 26 a (A1 0 22) 0 22)) := AF.pu (Or.inr (Or.inl rfl))
    have e : f_M_readSum s1 m (v a) = some s3 := by
      unfold f_M_readSum
      rw [if_pos h1.t, h1.r49, h1.t49, h1.n49, if_pos ⟨rfl, v_inA (by omega) (by omega)⟩, v_ix (by omega), h1.i22, x1.bad, nv0, if_neg (show ¬ v 1 = v 0 by decide), y1]
    rw [bi_f cw, q1, Option.bind_some, if_pos h1.t, e, Option.bind_some, if_neg cw]
    exact ⟨s3, _, rfl, x1.fr y2 a3, ((q3.mo (fun _ _ d => Or.inl d)).tr (AF.pu (Or.inr ⟨rfl, by omega, by omega⟩))).tr (AF.pu (Or.inr ⟨rfl, by omega, by omega⟩)), (q4.tr (inM_s (by decide))).tr y3⟩
theorem m_ord240 {c : Int} (h : MR s m A) (hc : 0 ≤ c ∧ c ≤ 88) : ∃ s', b_M_readOrder_240 m (v c) s = some s' ∧ MR s' m (pu A 26 (c + 6) (A 0 22)) ∧ Fr (inM m) s s' := by
  have k := h.si 26 (by decide) (by decide) (z := c + 6) (x := A 0 22) ⟨by omega, by show c + 6 < 96; omega⟩
  refine ⟨_, ?_, k, inM_s (by decide)⟩
  unfold b_M_readOrder_240
  rw [if_pos h.t, h.r49, h.t49, h.n49, nv6, v_add, if_pos ⟨rfl, v_inA (by omega) (by omega)⟩, v_ix (by omega), h.i22]
theorem m_ord202 {c : Int} (h : RfX s m A B n true st len) (hc : 0 ≤ c ∧ c ≤ 88) : match ifP B n true st with
  | .error e => ∃ s' A', b_M_readOrder_202 m (v c) s = some s' ∧ BadM s' m A' e ∧ AF scrC A A' ∧ Fr (inM m) s s'
  | .ok (g, st') => ∃ s' A' len', b_M_readOrder_202 m (v c) s = some s' ∧ RfX s' m A' B n true st' len' ∧ (A' 26 (c + 5) = len ∧ A' 26 (c + 6) = len') ∧ SegE (insR true A') len len' g ∧ CodK A A' len ∧ AF (sc26 (c + 5) (c + 6)) A A' ∧ Fr (inM m) s s' ∧ st.1 ≤ st'.1 := by
  have h1 := h.1
  have e22 : A 0 22 = len := h.2.2.2.1.1
  have k2 := h1.si 26 (by decide) (by decide) (z := c + 5) (x := len) ⟨by omega, by show c + 5 < 96; omega⟩
  have a2 : AF scrN A (pu A 26 (c + 5) len) := AF.pu (Or.inr (Or.inl rfl))
  have a2' : AF (sc26 (c + 5) (c + 6)) A (pu A 26 (c + 5) len) := AF.pu (Or.inr ⟨rfl, by omega, by omega⟩)
  have r11 := a2.row (j := 11) (fun z => by omega)
  have r12 := a2.row (j := 12) (fun z => by omega)
  have x2 := h.fr k2 a2
  have fr2 : Fr (inM m) s (setI s (m + 26) (c + 5).toNat (v len)) := inM_s (by decide)
  have hsp := m_ifX x2
  have key : b_M_readOrder_202 m (v c) s = ((f_M_isWord (setI s (m + 26) (c + 5).toNat (v len)) m (lN 294)).bind fun r1 => if r1 = nI 0 then some (setI s (m + 26) (c + 5).toNat (v len)) else (f_M_onward (setI s (m + 26) (c + 5).toNat (v len)) m).bind fun r2 => if sT r2 m = 13 then f_M_readExpression r2 m (nI 1) else none).bind fun r => b_M_readOrder_240 m (v c) r := by
    unfold b_M_readOrder_202
    rw [if_pos h1.t, h1.r49, h1.t49, h1.n49, nv5, v_add, if_pos ⟨rfl, v_inA (by omega) (by omega)⟩, v_ix (by omega), h1.i22, e22, x2.bad, nv0, nv1, if_pos rfl, m_isIf x2, Option.bind_some, Option.bind_some]
    by_cases cw : wd B st 11 = 0
    · rw [bi_t cw, if_neg (show ¬ v 1 = v 0 by decide), if_neg (show ¬ v 1 = v 0 by decide)]
      obtain ⟨s3, A3, g1, g2, g3, g4⟩ := m_nextX x2
      rw [g1, Option.bind_some, Option.bind_some, if_pos g2.1.t, if_pos g2.1.t]
    · rw [bi_f cw, if_pos rfl, if_pos rfl, Option.bind_some]
  cases hr : ifP B n true st with
  | error e =>
    rw [hr] at hsp
    obtain ⟨s3, A3, p1, p2, p3, p4⟩ := hsp
    obtain ⟨s4, y1, y2, y3⟩ := m_ord240 p2.1 hc
    have a4 : AF scrN A3 (pu A3 26 (c + 6) (A3 0 22)) := AF.pu (Or.inr (Or.inl rfl))
    exact ⟨s4, _, by rw [key, p1, Option.bind_some, y1], p2.fr y2 a4, ((scrN_C a2).tr (scrR_C p3)).tr (scrN_C a4), (fr2.tr p4).tr y3⟩
  | ok x =>
    obtain ⟨g, st3⟩ := x
    rw [hr] at hsp
    obtain ⟨s3, A3, len3, p1, p2, p3, p4, p5, p6, p7⟩ := hsp
    obtain ⟨s4, y1, y2, y3⟩ := m_ord240 p2.1 hc
    have a4 : AF scrN A3 (pu A3 26 (c + 6) (A3 0 22)) := AF.pu (Or.inr (Or.inl rfl))
    have e3 : A3 0 22 = len3 := p2.2.2.2.1.1
    have q26 : A3 26 = pu A 26 (c + 5) len 26 := p5.row (fun z => by omega)
    have s11 := a4.row (j := 11) (fun z => by omega)
    have s12 := a4.row (j := 12) (fun z => by omega)
    refine ⟨s4, _, len3, by rw [key, p1, Option.bind_some, y1], p2.fr y2 a4, ⟨?_, ?_⟩, p3.agr ((CodK.eq (i := len3) s11 s12).agr h.2.2.2.2.2.1), ((CodK.eq r11 r12).tr p4).tr (CodK.eq s11 s12), (a2'.tr (p5.mo (fun j z hj => Or.inl hj))).tr (AF.pu (Or.inr ⟨rfl, by omega, by omega⟩)), (fr2.tr p6).tr y3, p7⟩
    · rw [pu_ne _ _ _ _ (by omega), q26, pu_eq]
    · rw [pu_eq, e3]
theorem m_bad202 {c e : Int} (h : BadM s m A e) (hc : 0 ≤ c ∧ c ≤ 88) : ∃ s' A', b_M_readOrder_202 m (v c) s = some s' ∧ BadM s' m A' e ∧ AF scrC A A' ∧ Fr (inM m) s s' := by
  have h1 := h.1
  have k2 := h1.si 26 (by decide) (by decide) (z := c + 5) (x := A 0 22) ⟨by omega, by show c + 5 < 96; omega⟩
  have a2 : AF scrN A (pu A 26 (c + 5) (A 0 22)) := AF.pu (Or.inr (Or.inl rfl))
  have x2 := h.fr k2 a2
  obtain ⟨s4, y1, y2, y3⟩ := m_ord240 (c := c) x2.1 hc
  have a4 : AF scrN (pu A 26 (c + 5) (A 0 22)) (pu (pu A 26 (c + 5) (A 0 22)) 26 (c + 6) (pu A 26 (c + 5) (A 0 22) 0 22)) := AF.pu (Or.inr (Or.inl rfl))
  refine ⟨s4, _, ?_, x2.fr y2 a4, (scrN_C a2).tr (scrN_C a4), (inM_s (by decide)).tr y3⟩
  unfold b_M_readOrder_202
  rw [if_pos h1.t, h1.r49, h1.t49, h1.n49, nv5, v_add, if_pos ⟨rfl, v_inA (by omega) (by omega)⟩, v_ix (by omega), h1.i22, x2.bad, nv0, if_neg (show ¬ v 1 = v 0 by decide), y1]
theorem m_bad154 {c e : Int} (h : BadM s m A e) (hc : 0 ≤ c ∧ c ≤ 88) : ∃ s' A', b_M_readOrder_154 m (v c) s = some s' ∧ BadM s' m A' e ∧ AF scrC A A' ∧ Fr (inM m) s s' := by
  have h1 := h.1
  have k2 := h1.si 26 (by decide) (by decide) (z := c + 7) (x := 1) ⟨by omega, by show c + 7 < 96; omega⟩
  rw [← v_ix (a := c + 7) (by omega)] at k2
  have a2 : AF scrN A (pu A 26 (c + 7) 1) := AF.pu (Or.inr (Or.inl rfl))
  have x2 := h.fr k2 a2
  obtain ⟨s4, A4, y1, y2, y3, y4⟩ := m_bad202 (c := c) x2 hc
  refine ⟨s4, A4, ?_, y2, (scrN_C a2).tr y3, (inM_s (by decide)).tr y4⟩
  unfold b_M_readOrder_154
  rw [if_pos h1.t, h1.r49, h1.t49, h1.n49, nv7, v_add, if_pos ⟨rfl, v_inA (by omega) (by omega)⟩, nv1, x2.bad, nv0, if_neg (show ¬ v 1 = v 0 by decide), y1]
theorem m_bad139 {c e W : Int} (h : BadM s m A e) (hc : 0 ≤ c ∧ c ≤ 88) : ∃ s' A', b_M_readOrder_139 m (v W) (v c) s = some s' ∧ BadM s' m A' e ∧ AF scrC A A' ∧ Fr (inM m) s s' := by
  unfold b_M_readOrder_139
  by_cases cw : v W = nI 1
  · obtain ⟨s1, A1, q1, q2, q3, q4⟩ := m_behindB (a := c + 3) (w0 := lN 655) h (by omega)
    obtain ⟨s2, A2, p1, p2, p3, p4⟩ := m_bad154 (c := c) q2 hc
    rw [if_pos cw, if_pos h.1.t, nv3, v_add, q1, Option.bind_some]
    exact ⟨s2, A2, p1, p2, q3.tr p3, q4.tr p4⟩
  · rw [if_neg cw]
    exact m_bad154 h hc
theorem m_bad125 {c e W : Int} (h : BadM s m A e) (hc : 0 ≤ c ∧ c ≤ 88) : ∃ s' A', b_M_readOrder_125 m (v W) (v c) s = some s' ∧ BadM s' m A' e ∧ AF scrC A A' ∧ Fr (inM m) s s' := by
  unfold b_M_readOrder_125
  by_cases cw : v W = nI 0
  · obtain ⟨s1, A1, q1, q2, q3, q4⟩ := m_behindB (a := c + 3) (w0 := lN 486) h (by omega)
    obtain ⟨s2, A2, p1, p2, p3, p4⟩ := m_bad139 (c := c) (W := W) q2 hc
    rw [if_pos cw, if_pos h.1.t, nv3, v_add, q1, Option.bind_some]
    exact ⟨s2, A2, p1, p2, q3.tr p3, q4.tr p4⟩
  · rw [if_neg cw]
    exact m_bad139 h hc
theorem m_isTimes (h : RfX s m A B n ord st len) : f_M_isWord s m (lN 21279923) = some (v (bi (wd B st 10 = 0))) := m_wdK h.1 h.2.1.1 h.2.1.2.1 h.2.1.2.2 (k := 10) (i := 0) (c := 21279923) (x := [116, 105, 109, 101, 115]) (by decide) rfl (by decide)
theorem m_numberX (h : RfX s m A B n ord st len) {lo hi : Int} (hl : 0 ≤ lo ∧ lo ≤ 1000 ∧ 0 ≤ hi ∧ hi ≤ 1000) :
    ∃ s' A', f_M_number s m (w lo) (w hi) = some (v (wthT B n st.1), s') ∧ AF scrR A A' ∧ Fr (inM m) s s' ∧ (nm B n st lo hi ≠ -1 → RfX s' m A' B n ord (nxS B n st) len ∧ A' 11 = A 11 ∧ A' 12 = A 12 ∧ nm B n st lo hi = wthT B n st.1) ∧ (nm B n st lo hi = -1 → BadM s' m A' st.1) := by
  have hK := h.2.1.2.1
  have hS := h.2.1.2.2
  have hst := hS.1.1
  have hw := wthT_r (B := B) (n := n) (f := st.1) hst.1 (fun z z0 z1 => (h.2.1.1.2.2 z z0 z1).2)
  have hsr := srtT_r B n st.1
  have hv := nm_val hS (lo := lo) (hi := hi) ⟨hl.1, hl.2.2.2⟩
  unfold f_M_number b_M_number_32 b_M_number_33
  rw [if_pos h.1.t, h.1.i15, h.1.i16, hK.2.2.1, hK.2.2.2, nv2, nv0, nv1, w_v, if_pos h.1.t, m_in (by omega) (by omega) (by omega), Option.bind_some, if_pos h.1.t]
  by_cases c : srtT B n st.1 = 2 ∧ lo ≤ wthT B n st.1 ∧ wthT B n st.1 ≤ hi
  · obtain ⟨s1, A1, q1, q2, q3, q4⟩ := m_mustXT h
    rw [if_pos c] at hv
    rw [if_pos (peq c.1), bi_t c.2, if_neg (show ¬ v 1 = v 0 by decide), q1, Option.bind_some]
    exact ⟨s1, A1, rfl, tok_R q3, q4, fun _ => ⟨q2, q3.row (fun z => by omega), q3.row (fun z => by omega), hv⟩, fun d => by omega⟩
  · obtain ⟨s1, A1, q1, q2, q3, q4⟩ := m_mustXF h
    rw [if_neg c] at hv
    refine ⟨s1, A1, ?_, q3, q4, fun d => absurd hv d, fun _ => q2⟩
    by_cases c2 : srtT B n st.1 = 2
    · rw [if_pos (peq c2), bi_f (fun d => c ⟨c2, d⟩), if_pos rfl, q1, Option.bind_some]
    · rw [if_neg (pne ⟨by omega, c2⟩), q1, Option.bind_some]
theorem m_ord154 {c : Int} (h : RfX s m A B n true st len) (hc : 0 ≤ c ∧ c ≤ 88) : match timesP B n true st with
  | .error e => ∃ s' A', b_M_readOrder_154 m (v c) s = some s' ∧ BadM s' m A' e ∧ AF scrC A A' ∧ Fr (inM m) s s'
  | .ok (x, st') => ∃ s' A', b_M_readOrder_154 m (v c) s = b_M_readOrder_202 m (v c) s' ∧ RfX s' m A' B n true st' len ∧ A' 26 (c + 7) = x ∧ (A' 11 = A 11 ∧ A' 12 = A 12) ∧ AF (sc26 (c + 7) (c + 7)) A A' ∧ Fr (inM m) s s' ∧ st.1 ≤ st'.1 := by
  have h1 := h.1
  have hst : 0 ≤ st.1 ∧ st.1 ≤ st.2.1 ∧ st.2.1 ≤ n := h.2.1.2.2.1.1
  have hT := nxS_T (B := B) (n := n) h.2.1.2.2.1
  have ge : st.2.1 ≤ (nxS B n st).1 := hT.2.1
  have k2 := h1.si 26 (by decide) (by decide) (z := c + 7) (x := 1) ⟨by omega, by show c + 7 < 96; omega⟩
  rw [← v_ix (a := c + 7) (by omega)] at k2
  have a2 : AF scrN A (pu A 26 (c + 7) 1) := AF.pu (Or.inr (Or.inl rfl))
  have a2' : AF (sc26 (c + 7) (c + 7)) A (pu A 26 (c + 7) 1) := AF.pu (Or.inr ⟨rfl, by omega, by omega⟩)
  have r11 := a2.row (j := 11) (fun z => by omega)
  have r12 := a2.row (j := 12) (fun z => by omega)
  have x2 := h.fr k2 a2
  have fr2 : Fr (inM m) s (setI s (m + 26) (v (c + 7)).toNatClampNeg (v 1)) := inM_s (by decide)
  unfold timesP
  rw [if_neg (show ¬ true = false by decide)]
  have key : b_M_readOrder_154 m (v c) s = (if v (bi (wd B st 10 = 0)) = v 0 then b_M_readOrder_202 m (v c) (setI s (m + 26) (v (c + 7)).toNatClampNeg (v 1)) else (f_M_onward (setI s (m + 26) (v (c + 7)).toNatClampNeg (v 1)) m).bind fun r2 => if sT r2 m = 13 then (f_M_number r2 m (w 1) (w 20)).bind fun r3 => if sT r3.2 (sR r2 m 49) = 20 ∧ inA (v (c + 7)) (sN r3.2 (sR r2 m 49)) then b_M_readOrder_202 m (v c) (setI r3.2 (sR r2 m 49) (v (c + 7)).toNatClampNeg r3.1) else none else none) := by
    unfold b_M_readOrder_154
    rw [if_pos h1.t, h1.r49, h1.t49, h1.n49, nv7, v_add, if_pos ⟨rfl, v_inA (by omega) (by omega)⟩, nv1, x2.bad, nv0, if_pos rfl, m_isTimes x2, Option.bind_some]
    rfl
  by_cases cw : wd B st 10 = 0
  · obtain ⟨s3, A3, g1, g2, g3, g4⟩ := m_nextX x2
    obtain ⟨s4, A4, y1, y2, y3, y4, y5⟩ := m_numberX g2 (lo := 1) (hi := 20) (by omega)
    have hm4 : sT s4 (m + 26) = 20 ∧ sN s4 (m + 26) = 96 := by
      by_cases d : nm B n (nxS B n st) 1 20 = -1
      · exact ⟨(y5 d).1.t49, (y5 d).1.n49⟩
      · exact ⟨(y4 d).1.1.t49, (y4 d).1.1.n49⟩
    rw [bi_t cw, if_neg (show ¬ v 1 = v 0 by decide), g1, Option.bind_some, if_pos g2.1.t, y1, Option.bind_some, g2.1.r49, if_pos (show sT s4 (m + 26) = 20 ∧ inA (v (c + 7)) (sN s4 (m + 26)) from ⟨hm4.1, by rw [hm4.2]; exact v_inA (by omega) (by omega)⟩)] at key
    rw [if_pos cw]
    by_cases cp : nm B n (nxS B n st) 1 20 = -1
    · rw [if_pos cp]
      have b4 := y5 cp
      have k5 := b4.1.si 26 (by decide) (by decide) (z := c + 7) (x := wthT B n (nxS B n st).1) ⟨by omega, by show c + 7 < 96; omega⟩
      rw [← v_ix (a := c + 7) (by omega)] at k5
      have a5 : AF scrN A4 (pu A4 26 (c + 7) (wthT B n (nxS B n st).1)) := AF.pu (Or.inr (Or.inl rfl))
      obtain ⟨s6, A6, z1, z2, z3, z4⟩ := m_bad202 (c := c) (b4.fr k5 a5) hc
      exact ⟨s6, A6, by rw [key]; exact z1, z2, (((scrN_C a2).tr (scrR_C (tok_R g3))).tr (scrR_C y2)).tr ((scrN_C a5).tr z3), (((fr2.tr g4).tr y3).tr (inM_s (by decide))).tr z4⟩
    · rw [if_neg cp]
      obtain ⟨u1, u2, u3, u4⟩ := y4 cp
      have k5 := u1.1.si 26 (by decide) (by decide) (z := c + 7) (x := wthT B n (nxS B n st).1) ⟨by omega, by show c + 7 < 96; omega⟩
      rw [← v_ix (a := c + 7) (by omega)] at k5
      have a5 : AF scrN A4 (pu A4 26 (c + 7) (wthT B n (nxS B n st).1)) := AF.pu (Or.inr (Or.inl rfl))
      have hT2 := nxS_T (B := B) (n := n) g2.2.1.2.2.1
      have hge : (nxS B n st).1 ≤ (nxS B n (nxS B n st)).1 := by
        have b1 := hT.1.1.1.2.1
        have b2 := hT2.2.1
        omega
      refine ⟨_, _, key, u1.fr k5 a5, ?_, ⟨?_, ?_⟩, ((a2'.tr (g3.mo (fun j z d => Or.inl (by omega)))).tr (y2.mo (fun _ _ d => Or.inl d))).tr (AF.pu (Or.inr ⟨rfl, by omega, by omega⟩)), ((fr2.tr g4).tr y3).tr (inM_s (by decide)), by omega⟩
      · rw [pu_eq, u4]
      · rw [pu_f (by decide), u2, g3.row (fun z => by omega), r11]
      · rw [pu_f (by decide), u3, g3.row (fun z => by omega), r12]
  · rw [bi_f cw, if_pos rfl] at key
    rw [if_neg cw]
    exact ⟨_, _, key, x2, pu_eq _ _ _ _, ⟨r11, r12⟩, a2', fr2, Int.le_refl _⟩
end ROD
