/-! THE REFERENCE'S READER: a clause of a law -/
abbrev scrN : Nat → Int → Prop := fun j z => j = 10 ∨ j = 26 ∨ (j = 0 ∧ z = 20)
abbrev scrC : Nat → Int → Prop := fun j z => scrR j z ∨ scrN j z
theorem scrR_C {A B : MA} (h : AF scrR A B) : AF scrC A B := h.mo (fun _ _ hj => Or.inl hj)
theorem scrN_C {A B : MA} (h : AF scrN A B) : AF scrC A B := h.mo (fun _ _ hj => Or.inr hj)
section RLW
variable {m : Nat} {B : Int → Int} {n : Int} {ord : Bool} {st : STK} {s : AS} {A : MA} {len : Int}
theorem RfX.fr {s' : AS} {A' : MA} (h : RfX s m A B n ord st len) (hm : MR s' m A') (ha : AF scrN A A') : RfX s' m A' B n ord st len := by
  obtain ⟨h1, ⟨h2, h3, h4⟩, ⟨h5, h6, h7, h8⟩, ⟨h9, h10, h11⟩, h12, h13⟩ := h
  have r11 := ha.row (j := 11) (fun z => by omega)
  have r12 := ha.row (j := 12) (fun z => by omega)
  refine ⟨hm, ⟨h2.fr ha (by omega) (fun z => by omega), ⟨?_, ?_, ?_, ?_⟩, h4⟩, ⟨?_, ?_, ?_, h8.fr ha (fun j z hj => by omega)⟩, ⟨?_, ?_, h11⟩, ?_, h13⟩
  · rw [ha 0 13 (by omega)]; exact h3.1
  · rw [ha 0 14 (by omega)]; exact h3.2.1
  · rw [ha 0 15 (by omega)]; exact h3.2.2.1
  · rw [ha 28 16 (by omega)]; exact h3.2.2.2
  · rw [ha 0 18 (by omega)]; exact h5
  · rw [ha 0 17 (by omega)]; exact h6
  · rw [ha 0 19 (by omega)]; exact h7
  · rw [ha 0 22 (by omega)]; exact h9
  · rw [ha 0 25 (by omega)]; exact h10
  · rw [r11, r12]; exact h12
theorem BadM.fr {s' : AS} {A' : MA} {e : Int} (h : BadM s m A e) (hm : MR s' m A') (ha : AF scrN A A') : BadM s' m A' e := ⟨hm, by rw [ha 0 18 (by omega)]; exact h.2.1, by rw [ha 0 17 (by omega)]; exact h.2.2⟩
theorem m_nextX (h : RfX s m A B n ord st len) : ∃ s' A', f_M_onward s m = some s' ∧ RfX s' m A' B n ord (nxS B n st) len ∧ AF tokS A A' ∧ Fr (inM m) s s' := by
  obtain ⟨h1, ⟨h2, h3, h4⟩, ⟨h5, h6, h7, h8⟩, ⟨h9, h10, h11⟩, h12, h13, h14⟩ := h
  have hst := h4.1.1
  obtain ⟨s', A', q1, q2, q3, q4, q5, q6⟩ := m_onward h1 h2 h3.2.1 (by omega)
  have hT := nxS_T (B := B) h4.1
  have e11 := q3.row (j := 11) (fun z => by omega)
  have e12 := q3.row (j := 12) (fun z => by omega)
  refine ⟨s', A', q1, ⟨q2, ⟨q5, q4, hT.1⟩, ⟨by rw [q3 0 18 (by omega)]; exact h5, by rw [q3 0 17 (by omega)]; exact h6, by rw [q3 0 19 (by omega)]; exact h7, h8.fr q3 (fun j z hj => by omega)⟩, ⟨by rw [q3 0 22 (by omega)]; exact h9, by rw [q3 0 25 (by omega)]; exact h10, h11⟩, by rw [e11, e12]; exact h12, h13, by omega⟩, q3, q6⟩
theorem RfX.bad (h : RfX s m A B n ord st len) : sI s m 18 = v 0 := by rw [h.1.i18, h.2.2.1.1]
theorem BadM.bad {e : Int} (h : BadM s m A e) : sI s m 18 = v 1 := by rw [h.1.i18, h.2.1]
theorem m_mustXT (h : RfX s m A B n ord st len) : ∃ s' A', f_M_must s m (v 1) = some s' ∧ RfX s' m A' B n ord (nxS B n st) len ∧ AF tokS A A' ∧ Fr (inM m) s s' := by
  obtain ⟨s', A', q1, q2⟩ := m_nextX h
  refine ⟨s', A', ?_, q2⟩
  unfold f_M_must b_M_must_24
  rw [if_pos h.1.t, h.bad, nv0, if_pos rfl, if_neg (show ¬ v 1 = v 0 by decide), if_pos h.1.t, if_pos rfl, q1, Option.bind_some]
theorem m_mustXF (h : RfX s m A B n ord st len) : ∃ s' A', f_M_must s m (v 0) = some s' ∧ BadM s' m A' st.1 ∧ AF scrR A A' ∧ Fr (inM m) s s' := by
  have h1 := h.1
  have k1 := h1.s0 (x := 1) (k := 18) (z := 18) rfl (by decide)
  have e13 : sI (setI s m 18 (v 1)) m 13 = v st.1 := by rw [k1.i13, pu_ne _ _ _ _ (by decide), h.2.1.2.1.1]
  have k2 := k1.s0 (x := st.1) (k := 17) (z := 17) rfl (by decide)
  have e18 : pu (pu A 0 18 1) 0 17 st.1 0 18 = 1 := by rw [pu_ne _ _ _ _ (by decide), pu_eq]
  refine ⟨_, _, ?_, ⟨k2, e18, pu_eq _ _ _ _⟩, (AF.pu (Or.inl ⟨rfl, by omega⟩)).tr (AF.pu (Or.inl ⟨rfl, by omega⟩)), (Fr.si (by omega)).tr (Fr.si (by omega))⟩
  unfold f_M_must b_M_must_24
  rw [if_pos h1.t, h.bad, nv0, nv1, if_pos rfl, if_pos rfl, if_pos ⟨h1.t, Or.inr rfl⟩, e13, if_pos k2.t, k2.i18, e18, if_neg (show ¬ v 1 = v 0 by decide)]
theorem m_isIf (h : RfX s m A B n ord st len) : f_M_isWord s m (lN 294) = some (v (bi (wd B st 11 = 0))) := m_wdK h.1 h.2.1.1 h.2.1.2.1 h.2.1.2.2 (k := 11) (i := 0) (c := 294) (x := [105, 102]) (by decide) rfl (by decide)
/-- a test, if there is one -/
def SpcI (r : RSL) (o : Option AS) (s : AS) (m : Nat) (A : MA) (B : Int → Int) (n : Int) (ord : Bool) (st : STK) (len : Int) : Prop := match r with
  | .error e => ∃ s' A', o = some s' ∧ BadM s' m A' e ∧ AF scrR A A' ∧ Fr (inM m) s s'
  | .ok (g, st') => ∃ s' A' len', o = some s' ∧ RfX s' m A' B n ord st' len' ∧ SegE (insR ord A') len len' g ∧ CodK A A' len ∧ AF scrR A A' ∧ Fr (inM m) s s' ∧ st.1 ≤ st'.1
theorem m_ifX (h : RfX s m A B n ord st len) : SpcI (ifP B n ord st) ((f_M_isWord s m (lN 294)).bind fun r1 => if r1 = nI 0 then some s else (f_M_onward s m).bind fun r2 => if sT r2 m = 13 then f_M_readExpression r2 m (nI 1) else none) s m A B n ord st len := by
  have hst : 0 ≤ st.1 ∧ st.1 ≤ st.2.1 ∧ st.2.1 ≤ n := h.2.1.2.2.1.1
  have hT := nxS_T (B := B) (n := n) h.2.1.2.2.1
  have ge : st.2.1 ≤ (nxS B n st).1 := hT.2.1
  unfold ifP
  rw [m_isIf h, Option.bind_some, nv0, nv1]
  by_cases c : wd B st 11 = 0
  · obtain ⟨s1, A1, q1, q2, q3, q4⟩ := m_nextX h
    have hsp := m_exprTest q2
    rw [bi_t c, if_neg (show ¬ v 1 = v 0 by decide), q1, Option.bind_some, if_pos q2.1.t, if_pos c]
    have r11 := q3.row (j := 11) (fun z => by omega)
    have r12 := q3.row (j := 12) (fun z => by omega)
    cases hr : testD B n ord 8 (nxS B n st) with
    | error e =>
      rw [hr] at hsp
      obtain ⟨s2, A2, p1, p2, p3, p4⟩ := hsp
      exact ⟨s2, A2, p1, p2, (tok_R q3).tr p3, q4.tr p4⟩
    | ok x =>
      obtain ⟨g, st2⟩ := x
      rw [hr] at hsp
      obtain ⟨s2, A2, len2, p1, p2, p3, p4, p5, p6, p7⟩ := hsp
      exact ⟨s2, A2, len2, p1, p2, Or.inr p3, (CodK.eq r11 r12).tr p4, (tok_R q3).tr p5, q4.tr p6, by omega⟩
  · rw [bi_f c, if_pos rfl, if_neg c]
    exact ⟨s, A, len, rfl, h, Or.inl ⟨rfl, rfl⟩, CodK.rf _ _, AF.rf _ _, Fr.rf _ _, Int.le_refl _⟩
def ClsM (N : Int → Int) (I : Int → Int × Int) (c : Int) (x : CLS) (l : Int) : Prop := N (8 * c) = x.1 ∧ ((0 ≤ N (8 * c + 3) ∧ N (8 * c + 4) ≤ l) ∧ (0 ≤ N (8 * c + 5) ∧ N (8 * c + 6) ≤ l)) ∧ (x.1 = 0 → Seg I (N (8 * c + 3)) (N (8 * c + 4)) x.2.2.1) ∧ SegE I (N (8 * c + 5)) (N (8 * c + 6)) x.2.2.2.2
def SpcL (r : Except Int (CLS × STK)) (o : Option AS) (s : AS) (m : Nat) (A : MA) (B : Int → Int) (n : Int) (st : STK) (len cl : Int) : Prop := match r with
  | .error e => ∃ s' A', o = some s' ∧ BadM s' m A' e ∧ AF scrC A A' ∧ Fr (inM m) s s'
  | .ok (x, st') => ∃ s' A' len', o = some s' ∧ RfX s' m A' B n false st' len' ∧ A' 0 20 = cl + 1 ∧ ClsM (A' 10) (insR false A') cl x len' ∧ (∀ z, z < 8 * cl → A' 10 z = A 10 z) ∧ CodK A A' len ∧ AF scrC A A' ∧ Fr (inM m) s s' ∧ st.1 < st'.1 ∧ len ≤ len'
theorem m_law184 {c : Int} (h : MR s m A) (hc : 0 ≤ c ∧ c ≤ 88) : ∃ s', b_M_readLaw_184 m (v c) s = some s' ∧ MR s' m (pu A 10 (c + 6) (A 0 22)) ∧ Fr (inM m) s s' := by
  have k := h.si 10 (by decide) (by decide) (z := c + 6) (x := A 0 22) ⟨by omega, by show c + 6 < 96; omega⟩
  refine ⟨_, ?_, k, inM_s (by decide)⟩
  unfold b_M_readLaw_184
  rw [if_pos h.t, h.r21, h.t21, h.n21, nv6, v_add, if_pos ⟨rfl, v_inA (by omega) (by omega)⟩, v_ix (by omega), h.i22]
theorem m_law134 {c : Int} (h : RfX s m A B n false st len) (hc : 0 ≤ c ∧ c ≤ 88) : match ifP B n false st with
  | .error e => ∃ s' A', b_M_readLaw_134 m (v c) s = some s' ∧ BadM s' m A' e ∧ AF scrC A A' ∧ Fr (inM m) s s'
  | .ok (g, st') => ∃ s' A' len', b_M_readLaw_134 m (v c) s = some s' ∧ RfX s' m A' B n false st' len' ∧ (A' 10 (c + 4) = len ∧ A' 10 (c + 5) = len ∧ A' 10 (c + 6) = len') ∧ SegE (insR false A') len len' g ∧ CodK A A' len ∧ AF (fun j z => scrR j z ∨ (j = 10 ∧ c + 4 ≤ z ∧ z ≤ c + 6)) A A' ∧ Fr (inM m) s s' ∧ st.1 ≤ st'.1 := by
  have h1 := h.1
  have e22 : A 0 22 = len := h.2.2.2.1.1
  have k1 := h1.si 10 (by decide) (by decide) (z := c + 4) (x := len) ⟨by omega, by show c + 4 < 96; omega⟩
  have f1 : sI (setI s (m + 10) (c + 4).toNat (v len)) m 22 = v len := by rw [k1.i22, pu_row _ _ _ _ (by decide), e22]
  have k2 := k1.si 10 (by decide) (by decide) (z := c + 5) (x := len) ⟨by omega, by show c + 5 < 96; omega⟩
  have a2 : AF scrN A (pu (pu A 10 (c + 4) len) 10 (c + 5) len) := (AF.pu (Or.inl rfl)).tr (AF.pu (Or.inl rfl))
  have a2' : AF (fun j z => scrR j z ∨ (j = 10 ∧ c + 4 ≤ z ∧ z ≤ c + 6)) A (pu (pu A 10 (c + 4) len) 10 (c + 5) len) := (AF.pu (Or.inr ⟨rfl, by omega, by omega⟩)).tr (AF.pu (Or.inr ⟨rfl, by omega, by omega⟩))
  have r11 := a2.row (j := 11) (fun z => by omega)
  have r12 := a2.row (j := 12) (fun z => by omega)
  have x2 := h.fr k2 a2
  have fr2 : Fr (inM m) s (setI (setI s (m + 10) (c + 4).toNat (v len)) (m + 10) (c + 5).toNat (v len)) := (inM_s (by decide)).tr (inM_s (by decide))
  have hsp := m_ifX x2
  have key : b_M_readLaw_134 m (v c) s = ((f_M_isWord (setI (setI s (m + 10) (c + 4).toNat (v len)) (m + 10) (c + 5).toNat (v len)) m (lN 294)).bind fun r1 => if r1 = nI 0 then some (setI (setI s (m + 10) (c + 4).toNat (v len)) (m + 10) (c + 5).toNat (v len)) else (f_M_onward (setI (setI s (m + 10) (c + 4).toNat (v len)) (m + 10) (c + 5).toNat (v len)) m).bind fun r2 => if sT r2 m = 13 then f_M_readExpression r2 m (nI 1) else none).bind fun r => b_M_readLaw_184 m (v c) r := by
    unfold b_M_readLaw_134
    rw [if_pos h1.t, h1.r21, h1.t21, h1.n21, nv4, nv5, v_add, v_add, if_pos ⟨rfl, v_inA (by omega) (by omega)⟩, if_pos ⟨rfl, v_inA (by omega) (by omega)⟩, v_ix (by omega), v_ix (by omega), h1.i22, e22, f1, x2.bad, nv0, nv1, if_pos rfl, m_isIf x2, Option.bind_some, Option.bind_some]
    by_cases cw : wd B st 11 = 0
    · rw [bi_t cw, if_neg (show ¬ v 1 = v 0 by decide), if_neg (show ¬ v 1 = v 0 by decide)]
      obtain ⟨s3, A3, g1, g2, g3, g4⟩ := m_nextX x2
      rw [g1, Option.bind_some, Option.bind_some, if_pos g2.1.t, if_pos g2.1.t]
    · rw [bi_f cw, if_pos rfl, if_pos rfl, Option.bind_some]
  cases hr : ifP B n false st with
  | error e =>
    rw [hr] at hsp
    obtain ⟨s3, A3, p1, p2, p3, p4⟩ := hsp
    obtain ⟨s4, y1, y2, y3⟩ := m_law184 p2.1 hc
    have a4 : AF scrN A3 (pu A3 10 (c + 6) (A3 0 22)) := AF.pu (Or.inl rfl)
    exact ⟨s4, _, by rw [key, p1, Option.bind_some, y1], p2.fr y2 a4, ((scrN_C a2).tr (scrR_C p3)).tr (scrN_C a4), (fr2.tr p4).tr y3⟩
  | ok x =>
    obtain ⟨g, st3⟩ := x
    rw [hr] at hsp
    obtain ⟨s3, A3, len3, p1, p2, p3, p4, p5, p6, p7⟩ := hsp
    obtain ⟨s4, y1, y2, y3⟩ := m_law184 p2.1 hc
    have a4 : AF scrN A3 (pu A3 10 (c + 6) (A3 0 22)) := AF.pu (Or.inl rfl)
    have e3 : A3 0 22 = len3 := p2.2.2.2.1.1
    have q10 : A3 10 = pu (pu A 10 (c + 4) len) 10 (c + 5) len 10 := p5.row (fun z => by omega)
    have s11 := a4.row (j := 11) (fun z => by omega)
    have s12 := a4.row (j := 12) (fun z => by omega)
    refine ⟨s4, _, len3, by rw [key, p1, Option.bind_some, y1], p2.fr y2 a4, ⟨?_, ?_, ?_⟩, p3.agr ((CodK.eq (i := len3) s11 s12).agr (by have := h.2.2.2.2.2.1; exact this)), ((CodK.eq r11 r12).tr p4).tr (CodK.eq s11 s12), (a2'.tr (p5.mo (fun j z hj => Or.inl hj))).tr (AF.pu (Or.inr ⟨rfl, by omega, by omega⟩)), (fr2.tr p6).tr y3, p7⟩
    · rw [pu_ne _ _ _ _ (by omega), q10, pu_ne _ _ _ _ (by omega), pu_eq]
    · rw [pu_ne _ _ _ _ (by omega), q10, pu_eq]
    · rw [pu_eq, e3]
theorem m_law75 {W c : Int} (hW : 0 ≤ W ∧ W ≤ 10) (hc : 0 ≤ c ∧ c ≤ 88) : ∀ (j N k : Nat) (s : AS) (A A0 : MA), k + j = 8 → j < N → MR s m A → AF (fun i z => i = 10 ∧ c ≤ z ∧ z < c + 8) A0 A →
    ∃ s' A', l_M_readLaw_75 N m (v W) (v c) (v k) s = b_M_readLaw_75 (fun _ _ _ _ _ => none) m (v W) (v c) (v 8) s' ∧ MR s' m A' ∧ AF (fun i z => i = 10 ∧ c ≤ z ∧ z < c + 8) A0 A' ∧ Fr (inM m) s s' := by
  intro j
  induction j with
  | zero =>
    intro N k s A A0 hk hN h ha
    obtain ⟨N, rfl⟩ : ∃ x, N = x + 1 := ⟨N - 1, by omega⟩
    refine ⟨s, A, ?_, h, ha, Fr.rf _ _⟩
    rw [show k = 8 by omega]
    show b_M_readLaw_75 _ _ _ _ _ _ = _
    unfold b_M_readLaw_75
    rw [nv8, if_neg (nlt (by omega)), if_neg (nlt (by omega))]
  | succ j ih =>
    intro N k s A A0 hk hN h ha
    obtain ⟨N, rfl⟩ : ∃ x, N = x + 1 := ⟨N - 1, by omega⟩
    have k1 := h.si 10 (by decide) (by decide) (z := c + k) (x := 0) ⟨by omega, by show c + k < 96; omega⟩
    obtain ⟨s', A', q1, q2, q3, q4⟩ := ih N (k + 1) _ _ A0 (by omega) (by omega) k1 (ha.tr (AF.pu ⟨rfl, by omega, by omega⟩))
    refine ⟨s', A', ?_, q2, q3, (inM_s (by decide)).tr q4⟩
    rw [← q1]
    show b_M_readLaw_75 _ _ _ _ _ _ = _
    rw [show b_M_readLaw_75 (l_M_readLaw_75 N) m (v W) (v c) (v k) s = l_M_readLaw_75 N m (v W) (v c) (v k + nI 1) (setI s (m + 10) (c + k).toNat (v 0)) from by
      unfold b_M_readLaw_75
      rw [nv8, if_pos (plt (by omega)), if_pos h.t, h.r21, h.t21, h.n21, v_add, if_pos ⟨rfl, v_inA (by omega) (by omega)⟩, v_ix (by omega), nv0]]
    rw [nv1, v_add]
    rfl
theorem clsT_law {kind : Int} {f g : SEM} : clsT B n false kind f g st = match ifP B n false st with
  | .error e => .error e
  | .ok (h, st3) => .ok ((kind, 1, f, g, h), st3) := by
  unfold clsT timesP
  rw [if_pos rfl]
  rfl
theorem cls0_e {e : Int} (hr : sumD B n false 8 st = .error e) : clsS B n false 0 st = .error e := by
  unfold clsS sumsP
  rw [if_pos (show ownS false 0 by decide), hr]
theorem cls0_o {f : SEM} {st1 : STK} (hr : sumD B n false 8 st = .ok (f, st1)) : clsS B n false 0 st = clsT B n false 0 f semE st1 := by
  have e2 : sums2P B n false 0 f st1 = .ok ((f, semE), st1) := by
    unfold sums2P
    rw [if_pos (Or.inl rfl)]
  have e : sumsP B n false 0 st = .ok ((f, semE), st1) := by
    unfold sumsP
    rw [if_pos (show ownS false 0 by decide), hr]
    exact e2
  unfold clsS
  rw [e]
theorem cls1_o : clsS B n false 1 st = clsT B n false 1 semE semE st := by
  unfold clsS sumsP
  rw [if_neg (show ¬ ownS false 1 by decide)]
  unfold sums2P
  rw [if_pos (Or.inl rfl)]
theorem m_law54 {cl W : Int} (h : RfX s m A B n false st len) (ht : st.1 < st.2.1) (h20 : A 0 20 = cl) (hcl : 0 ≤ cl ∧ cl < 12) (hW : W = 0 ∨ W = 1) : SpcL (clsS B n false W (nxS B n st)) (b_M_readLaw_54 m (v W) (v 1) m s) s m A B n st len cl := by
  have hst : 0 ≤ st.1 ∧ st.1 ≤ st.2.1 ∧ st.2.1 ≤ n := h.2.1.2.2.1.1
  have hT := nxS_T (B := B) (n := n) h.2.1.2.2.1
  have ge : st.2.1 ≤ (nxS B n st).1 := hT.2.1
  have hl0 := h.2.2.2.2.2.1
  obtain ⟨s1, A1, q1, q2, q3, q4⟩ := m_mustXT h
  have e20 : A1 0 20 = cl := by rw [q3 0 20 (by omega)]; exact h20
  obtain ⟨s2, A2, p1, p2, p3, p4⟩ := m_law75 (W := W) (c := 8 * cl) (by omega) (by omega) 8 fuel 0 s1 A1 A1 rfl (by unfold fuel; omega) q2.1 (AF.rf _ _)
  have a2 : AF scrN A1 A2 := p3.mo (fun j z hj => Or.inl hj.1)
  have x2 := q2.fr p2 a2
  have f20 : A2 0 20 = cl := by rw [p3 0 20 (by omega)]; exact e20
  have f22 : A2 0 22 = len := x2.2.2.2.1.1
  have k1 := p2.si 10 (by decide) (by decide) (z := 8 * cl) (x := W) ⟨by omega, by show 8 * cl < 96; omega⟩
  have g20 : sI (setI s2 (m + 10) (8 * cl).toNat (v W)) m 20 = v cl := by rw [k1.i20, pu_row _ _ _ _ (by decide), f20]
  have k2 := k1.s0 (x := cl + 1) (k := 20) (z := 20) rfl (by decide)
  have g22 : sI (setI (setI s2 (m + 10) (8 * cl).toNat (v W)) m 20 (v (cl + 1))) m 22 = v len := by rw [k2.i22, pu_ne _ _ _ _ (by decide), pu_row _ _ _ _ (by decide), f22]
  have k3 := k2.si 10 (by decide) (by decide) (z := 8 * cl + 3) (x := len) ⟨by omega, by show 8 * cl + 3 < 96; omega⟩
  have a3 : AF scrN A1 (pu (pu (pu A2 10 (8 * cl) W) 0 20 (cl + 1)) 10 (8 * cl + 3) len) := ((a2.tr (AF.pu (Or.inl rfl))).tr (AF.pu (Or.inr (Or.inr ⟨rfl, rfl⟩)))).tr (AF.pu (Or.inl rfl))
  have x3 := q2.fr k3 a3
  have fr3 : Fr (inM m) s (setI (setI (setI s2 (m + 10) (8 * cl).toNat (v W)) m 20 (v (cl + 1))) (m + 10) (8 * cl + 3).toNat (v len)) := (((q4.tr p4).tr (inM_s (by decide))).tr (Fr.si (by omega))).tr (inM_s (by decide))
  have r11 : pu (pu (pu A2 10 (8 * cl) W) 0 20 (cl + 1)) 10 (8 * cl + 3) len 11 = A 11 := (a3.row (fun z => by omega)).trans (q3.row (fun z => by omega))
  have r12 : pu (pu (pu A2 10 (8 * cl) W) 0 20 (cl + 1)) 10 (8 * cl + 3) len 12 = A 12 := (a3.row (fun z => by omega)).trans (q3.row (fun z => by omega))
  have ac : AF scrC A (pu (pu (pu A2 10 (8 * cl) W) 0 20 (cl + 1)) 10 (8 * cl + 3) len) := (scrR_C (tok_R q3)).tr (scrN_C a3)
  have N0 : pu (pu (pu A2 10 (8 * cl) W) 0 20 (cl + 1)) 10 (8 * cl + 3) len 10 (8 * cl) = W := by rw [pu_ne _ _ _ _ (by omega), pu_row _ _ _ _ (by decide), pu_eq]
  have N3 : pu (pu (pu A2 10 (8 * cl) W) 0 20 (cl + 1)) 10 (8 * cl + 3) len 10 (8 * cl + 3) = len := pu_eq _ _ _ _
  have N20 : pu (pu (pu A2 10 (8 * cl) W) 0 20 (cl + 1)) 10 (8 * cl + 3) len 0 20 = cl + 1 := by rw [pu_row _ _ _ _ (by decide), pu_eq]
  have Nz : ∀ z, z < 8 * cl → pu (pu (pu A2 10 (8 * cl) W) 0 20 (cl + 1)) 10 (8 * cl + 3) len 10 z = A 10 z := fun z hz => by
    rw [pu_ne _ _ _ _ (by omega), pu_row _ _ _ _ (by decide), pu_ne _ _ _ _ (by omega), p3 10 z (by omega), q3 10 z (by omega)]
  -- the tail
  have tail : ∀ (s4 : AS) (A4 : MA) (f : SEM) (st4 : STK) (len4 : Int), RfX s4 m A4 B n false st4 len4 → A4 10 = pu (pu (pu A2 10 (8 * cl) W) 0 20 (cl + 1)) 10 (8 * cl + 3) len 10 → A4 0 20 = cl + 1 → AF scrC A A4 → Fr (inM m) s s4 → CodK A A4 len → len ≤ len4 → (nxS B n st).1 ≤ st4.1 → (W = 0 → Seg (insR false A4) len len4 f) →
      SpcL (clsT B n false W f semE st4) (b_M_readLaw_134 m (v (8 * cl)) s4) s m A B n st len cl := by
    intro s4 A4 f st4 len4 y1 y2 y3 y4 y5 y6 y7 y8 y9
    have ht := m_law134 (c := 8 * cl) y1 (by omega)
    rw [clsT_law]
    cases hr : ifP B n false st4 with
    | error e =>
      rw [hr] at ht
      obtain ⟨s5, A5, z1, z2, z3, z4⟩ := ht
      exact ⟨s5, A5, z1, z2, y4.tr z3, y5.tr z4⟩
    | ok x =>
      obtain ⟨g, st5⟩ := x
      rw [hr] at ht
      obtain ⟨s5, A5, len5, z1, z2, ⟨z3, z4, z5⟩, z6, z7, z8, z9, z10⟩ := ht
      have hl4 := z6.le
      have hl5 := z2.2.2.2.2.2.1
      refine ⟨s5, A5, len5, z1, z2, by rw [z8 0 20 (by omega)]; exact y3, ⟨?_, ⟨⟨?_, ?_⟩, ?_, ?_⟩, fun d => ?_, ?_⟩, fun z hz => ?_, y6.tr (z7.mo (by omega)), y4.tr (z8.mo (fun j z hj => ?_)), y5.tr z9, by omega, by omega⟩
      · rw [z8 10 (8 * cl) (by omega), y2, N0]
      · rw [z8 10 (8 * cl + 3) (by omega), y2, N3]; exact hl0
      · rw [z3]; exact hl4
      · rw [z4]; omega
      · rw [z5]; exact Int.le_refl _
      · rw [z8 10 (8 * cl + 3) (by omega), y2, N3, z3]
        exact (y9 d).agr ((z7).agr hl0)
      · rw [z4, z5]; exact z6
      · rw [z8 10 z (by omega), y2, Nz z hz]
      · rcases hj with d | d
        · exact Or.inl d
        · exact Or.inr (Or.inl d.1)
  unfold b_M_readLaw_54
  rw [if_pos h.1.t, q1, Option.bind_some, if_pos q2.1.t, q2.bad, nv0, if_pos rfl, q2.1.i20, e20, nv8, v_mul, show (v 0 : Int32) = v ((0 : Nat) : Int) from rfl, p1]
  unfold b_M_readLaw_75
  rw [nv8, if_neg (nlt (by omega)), if_pos p2.t, p2.r21, p2.t21, p2.n21, if_pos ⟨rfl, v_inA (by omega) (by omega)⟩, nv3, v_add, if_pos ⟨rfl, v_inA (by omega) (by omega)⟩, v_ix (by omega), v_ix (by omega), g20, nv1, v_add, g22, nv0]
  rcases hW with rfl | rfl
  · rw [if_pos rfl]
    have hsp := m_exprSum x3
    cases hr : sumD B n false 8 (nxS B n st) with
    | error e =>
      rw [hr] at hsp
      obtain ⟨s4, A4, z1, z2, z3, z4⟩ := hsp
      rw [cls0_e hr, z1, Option.bind_some]
      have k5 := z2.1
      -- what is bad stays bad
      have key : ∃ s' A', b_M_readLaw_134 m (v (8 * cl)) s4 = some s' ∧ BadM s' m A' e ∧ AF scrC A4 A' ∧ Fr (inM m) s4 s' := by
        have w1 := k5.si 10 (by decide) (by decide) (z := 8 * cl + 4) (x := A4 0 22) ⟨by omega, by show 8 * cl + 4 < 96; omega⟩
        have w22 : sI (setI s4 (m + 10) (8 * cl + 4).toNat (v (A4 0 22))) m 22 = v (A4 0 22) := by rw [w1.i22, pu_row _ _ _ _ (by decide)]
        have w2 := w1.si 10 (by decide) (by decide) (z := 8 * cl + 5) (x := A4 0 22) ⟨by omega, by show 8 * cl + 5 < 96; omega⟩
        have aw : AF scrN A4 (pu (pu A4 10 (8 * cl + 4) (A4 0 22)) 10 (8 * cl + 5) (A4 0 22)) := (AF.pu (Or.inl rfl)).tr (AF.pu (Or.inl rfl))
        have b2 := z2.fr w2 aw
        obtain ⟨s6, v1, v2, v3⟩ := m_law184 (c := 8 * cl) b2.1 (by omega)
        have a6 : AF scrN (pu (pu A4 10 (8 * cl + 4) (A4 0 22)) 10 (8 * cl + 5) (A4 0 22)) (pu (pu (pu A4 10 (8 * cl + 4) (A4 0 22)) 10 (8 * cl + 5) (A4 0 22)) 10 (8 * cl + 6) (pu (pu A4 10 (8 * cl + 4) (A4 0 22)) 10 (8 * cl + 5) (A4 0 22) 0 22)) := AF.pu (Or.inl rfl)
        refine ⟨s6, _, ?_, b2.fr v2 a6, (scrN_C aw).tr (scrN_C a6), ((inM_s (by decide)).tr (inM_s (by decide))).tr v3⟩
        unfold b_M_readLaw_134
        rw [if_pos k5.t, k5.r21, k5.t21, k5.n21, nv4, nv5, v_add, v_add, if_pos ⟨rfl, v_inA (by omega) (by omega)⟩, if_pos ⟨rfl, v_inA (by omega) (by omega)⟩, v_ix (by omega), v_ix (by omega), k5.i22, w22, b2.bad, nv0, if_neg (show ¬ v 1 = v 0 by decide), v1]
      obtain ⟨s5, A5, y1, y2, y3, y4⟩ := key
      exact ⟨s5, A5, y1, y2, (ac.tr (scrR_C z3)).tr y3, (fr3.tr z4).tr y4⟩
    | ok x =>
      obtain ⟨f, st4⟩ := x
      rw [hr] at hsp
      obtain ⟨s4, A4, len4, z1, z2, z3, z4, z5, z6, z7⟩ := hsp
      have hl4 := z3.1
      rw [cls0_o hr, z1, Option.bind_some]
      exact tail s4 A4 f st4 len4 z2 (z5.row (fun z => by omega)) (by rw [z5 0 20 (by omega), N20]) (ac.tr (scrR_C z5)) (fr3.tr z6) ((CodK.eq r11 r12).tr z4) (by omega) (by omega) (fun _ => z3)
  · rw [if_neg (show ¬ v 1 = v 0 by decide), cls1_o]
    exact tail _ _ semE (nxS B n st) len x3 rfl N20 ac fr3 (CodK.eq r11 r12) (Int.le_refl _) (Int.le_refl _) (fun d => by omega)
theorem m_lawF {W : Int} (h : RfX s m A B n ord st len) : ∃ s' A', b_M_readLaw_54 m (v W) (v 0) m s = some s' ∧ BadM s' m A' st.1 ∧ AF scrC A A' ∧ Fr (inM m) s s' := by
  obtain ⟨s1, A1, q1, q2, q3, q4⟩ := m_mustXF h
  refine ⟨s1, A1, ?_, q2, scrR_C q3, q4⟩
  unfold b_M_readLaw_54
  rw [if_pos h.1.t, q1, Option.bind_some, if_pos q2.1.t, q2.bad, nv0, if_neg (show ¬ v 1 = v 0 by decide)]
/-- which of some words it is, the place -/
def atW (x k : Int) : Int := if 0 ≤ x ∧ x < k then x else -1
theorem atW_s {x k : Int} (hk : 0 ≤ k) : (if v (bi (x = k)) = v 0 then v (atW x k) else v k) = v (atW x (k + 1)) := by
  unfold atW
  by_cases e : x = k
  · rw [if_neg (bi_ne0 e), if_pos ⟨by omega, by omega⟩, e]
  · rw [bi_f e, if_pos rfl]
    by_cases c : 0 ≤ x ∧ x < k
    · rw [if_pos c, if_pos ⟨c.1, by omega⟩]
    · rw [if_neg c, if_neg (fun d => c ⟨d.1, by omega⟩)]
theorem m_lawW (h : RfX s m A B n ord st len) : ∀ (j N k : Nat), k + j = 2 → j < N → l_M_readLaw_4 N m (v (atW (wd B st 1) k)) (v k) s = b_M_readLaw_4 (fun _ _ _ _ => none) m (v (atW (wd B st 1) 2)) (v 2) s := by
  intro j
  induction j with
  | zero =>
    intro N k hk hN
    obtain ⟨N, rfl⟩ : ∃ x, N = x + 1 := ⟨N - 1, by omega⟩
    rw [show k = 2 by omega]
    show b_M_readLaw_4 _ _ _ _ _ = _
    unfold b_M_readLaw_4
    rw [nv2, if_neg (nlt (by omega)), if_neg (nlt (by omega))]
    rfl
  | succ j ih =>
    intro N k hk hN
    obtain ⟨N, rfl⟩ : ∃ x, N = x + 1 := ⟨N - 1, by omega⟩
    obtain ⟨x, hx⟩ : ∃ x, (wrdZ 1)[k]? = some x := ⟨(wrdZ 1)[k]'(by show k < 2; omega), List.getElem?_eq_getElem _⟩
    have hq := wrdZ_ok 1 (by omega) x (List.mem_of_getElem? hx)
    have hw := m_wordW h.1 h.2.1.1 h.2.1.2.1 h.2.1.2.2 hq
    rw [← h.2.2.1.2.2.2.2.2.1 k x hx] at hw
    have hb : bi (isWd B st.1 st.2.1 x = true) = bi (wd B st 1 = k) := bi_iff (wd_at (by decide) hx).symm
    rw [← ih N (k + 1) (by omega) (by omega)]
    show b_M_readLaw_4 _ _ _ _ _ = _
    rw [show b_M_readLaw_4 (l_M_readLaw_4 N) m (v (atW (wd B st 1) k)) (v k) s = l_M_readLaw_4 N m (if v (bi (wd B st 1 = k)) = v 0 then v (atW (wd B st 1) k) else v k) (v k + nI 1) s from by
      unfold b_M_readLaw_4
      rw [nv2, if_pos (plt (by omega)), if_pos h.1.t, h.1.r32, h.1.t32, h.1.n32, if_pos ⟨rfl, v_inA (by omega) (by omega)⟩, v_ix (by omega), h.1.a32 k (by omega), hw, Option.bind_some, hb, nv0]]
    rw [atW_s (by omega), nv1, v_add]
    rfl
theorem m_readLaw {cl : Int} (h : RfX s m A B n false st len) (h20 : A 0 20 = cl) (hcl : 0 ≤ cl ∧ cl ≤ 100) : SpcL (clauseP B n false cl st) (f_M_readLaw s m) s m A B n st len cl := by
  have hw := wd_r B st 1
  have l1 : ((wrdZ 1).length : Int) = 2 := rfl
  have h0 := m_lawW h 2 fuel 0 (by omega) (by unfold fuel; omega)
  have e0 : atW (wd B st 1) ((0 : Nat) : Int) = -1 := by unfold atW; rw [if_neg (by omega)]
  have e2 : atW (wd B st 1) 2 = wd B st 1 := by
    unfold atW
    rcases hw with e | e
    · rw [if_neg (by omega), e]
    · rw [if_pos ⟨by omega, by omega⟩]
  rw [e0, e2] at h0
  have e : f_M_readLaw s m = b_M_readLaw_4 (fun _ _ _ _ => none) m (v (wd B st 1)) (v 2) s := h0
  rw [e]
  unfold b_M_readLaw_4 b_M_readLaw_53 clauseP
  rw [nv0, nv1, nv2, nv12, v_neg, if_neg (nlt (by omega)), if_pos h.1.t, h.1.i20, h20, show hdK false = 1 from rfl]
  by_cases c : wd B st 1 = -1
  · rw [if_pos (peq c), if_pos (Or.inr c)]
    exact m_lawF h
  · rw [if_neg (pne (by omega))]
    by_cases c12 : 12 ≤ cl
    · rw [if_neg (nlt (by omega)), if_pos (Or.inl c12)]
      exact m_lawF h
    · rw [if_pos (plt (by omega)), if_neg (by omega)]
      exact m_law54 h (wd_lt c) h20 (by omega) (by omega)
end RLW
