/-! THE REFERENCE'S READER: a text, whole -/
def ClsLM (N : Int → Int) (I : Int → Int × Int) (CL : List CLS) (l : Int) : Prop := ∀ (c : Nat) (x : CLS), CL[c]? = some x → ClsM N I c x l
def ClsLO (N : Int → Int) (I : Int → Int × Int) (CL : List CLS) (l : Int) : Prop := ∀ (c : Nat) (x : CLS), CL[c]? = some x → ClsO N I c x l
theorem ClsM.cong {N N' : Int → Int} {I I' : Int → Int × Int} {c l l' : Int} {x : CLS} (h : ClsM N I c x l) (hl : l ≤ l') (h1 : ∀ z, z < 8 * (c + 1) → N' z = N z) (h2 : ∀ {i j : Int}, 0 ≤ i → j ≤ l → Agr I I' i j) : ClsM N' I' c x l' := by
  obtain ⟨a1, ⟨⟨a2, a3⟩, a4, a5⟩, a6, a7⟩ := h
  refine ⟨by rw [h1 _ (by omega)]; exact a1, ?_, fun d => ?_, ?_⟩
  · rw [h1 _ (by omega), h1 _ (by omega), h1 _ (by omega), h1 _ (by omega)]
    exact ⟨⟨a2, by omega⟩, a4, by omega⟩
  · rw [h1 _ (by omega), h1 _ (by omega)]
    exact (a6 d).agr (h2 a2 a3)
  · rw [h1 _ (by omega), h1 _ (by omega)]
    exact a7.agr (h2 a4 a5)
theorem ClsO.cong {N N' : Int → Int} {I I' : Int → Int × Int} {c l l' : Int} {x : CLS} (h : ClsO N I c x l) (hl : l ≤ l') (h1 : ∀ z, z < 8 * (c + 1) → N' z = N z) (h2 : ∀ {i j : Int}, 0 ≤ i → j ≤ l → Agr I I' i j) : ClsO N' I' c x l' := by
  obtain ⟨⟨a1, a1'⟩, ⟨⟨a2, a3⟩, ⟨a4, a5⟩, a4', a5'⟩, a6, a7, a8⟩ := h
  refine ⟨⟨by rw [h1 _ (by omega)]; exact a1, by rw [h1 _ (by omega)]; exact a1'⟩, ?_, ?_, ?_, ?_⟩
  · rw [h1 _ (by omega), h1 _ (by omega), h1 _ (by omega), h1 _ (by omega), h1 _ (by omega), h1 _ (by omega)]
    exact ⟨⟨a2, by omega⟩, ⟨a4, by omega⟩, a4', by omega⟩
  · rw [h1 _ (by omega), h1 _ (by omega)]
    by_cases e : x.1 = 4
    · rw [if_pos e] at a6 ⊢; exact a6
    · rw [if_neg e] at a6 ⊢; exact a6.agr (h2 a2 a3)
  · rw [h1 _ (by omega), h1 _ (by omega)]
    by_cases e : 1 < x.1
    · rw [if_pos e] at a7 ⊢; exact a7
    · rw [if_neg e] at a7 ⊢; exact a7.agr (h2 a4 a5)
  · rw [h1 _ (by omega), h1 _ (by omega)]
    exact a8.agr (h2 a4' a5')
theorem get_snoc {α : Type} {L : List α} {x y : α} {c : Nat} (h : (L ++ [x])[c]? = some y) : (c < L.length ∧ L[c]? = some y) ∨ (c = L.length ∧ y = x) := by
  by_cases e : c < L.length
  · rw [List.getElem?_append_left e] at h
    exact Or.inl ⟨e, h⟩
  · have hl2 : c < (L ++ [x]).length := (List.getElem?_eq_some_iff.mp h).1
    rw [List.length_append] at hl2
    have hl3 : c < L.length + 1 := hl2
    have ec : c = L.length := by omega
    subst ec
    rw [List.getElem?_append_right (Nat.le_refl _), Nat.sub_self] at h
    have : x = y := by simpa using h
    exact Or.inr ⟨rfl, this.symm⟩
abbrev scrY : Nat → Int → Prop := fun j z => scrC j z ∨ (j = 0 ∧ (z = 19 ∨ z = 12))
theorem scrC_Y {A B : MA} (h : AF scrC A B) : AF scrY A B := h.mo (fun _ _ hj => Or.inl hj)
section RTX
variable {m : Nat} {B : Int → Int} {n : Int} {ord : Bool}
theorem m_beginText {s : AS} {A : MA} (h : MR s m A) (hT : TpM A B n) (hW : WrM A) :
    ∃ s' A', f_M_beginText s m (v (if ord = true then 1 else 0)) = some s' ∧ RfX s' m A' B n ord (nxS B n (0, 0, 0)) 0 ∧ A' 0 20 = 0 ∧ AF scrY A A' ∧ Fr (inM m) s s' := by
  have hn := hT.2.1
  have h1 := h.s0 (x := if ord = true then 1 else 0) (k := 19) (z := 19) rfl (by decide)
  have h2 := h1.s0 (x := 0) (k := 14) (z := 14) rfl (by decide)
  have h3 := h2.s0 (x := 0) (k := 18) (z := 18) rfl (by decide)
  have h4 := h3.s0 (x := -1) (k := 17) (z := 17) rfl (by decide)
  have a4 : AF scrY A (pu (pu (pu (pu A 0 19 (if ord = true then 1 else 0)) 0 14 0) 0 18 0) 0 17 (-1)) := (((AF.pu (Or.inr ⟨rfl, Or.inl rfl⟩)).tr (AF.pu (Or.inl (Or.inl (Or.inl ⟨rfl, by omega⟩))))).tr (AF.pu (Or.inl (Or.inl (Or.inl ⟨rfl, by omega⟩))))).tr (AF.pu (Or.inl (Or.inl (Or.inl ⟨rfl, by omega⟩))))
  have a4' : AF (fun j z => j = 0 ∧ (z = 19 ∨ z = 14 ∨ z = 18 ∨ z = 17)) A (pu (pu (pu (pu A 0 19 (if ord = true then 1 else 0)) 0 14 0) 0 18 0) 0 17 (-1)) := (((AF.pu (by omega)).tr (AF.pu (by omega))).tr (AF.pu (by omega))).tr (AF.pu (by omega))
  have hT4 := hT.fr a4' (by omega) (fun z => by omega)
  have hW4 := hW.fr a4' (fun j z hj => by omega)
  obtain ⟨s5, A5, q1, q2, q3, q4, q5, q6⟩ := m_onward (st := (0, 0, 0)) h4 hT4 (by rw [pu_ne _ _ _ _ (by decide), pu_ne _ _ _ _ (by decide), pu_eq]) ⟨Int.le_refl _, hn.1⟩
  have k1 := q2.s0 (x := 0) (k := 20) (z := 20) rfl (by decide)
  have k2 := k1.s0 (x := 0) (k := 22) (z := 22) rfl (by decide)
  have k3 := k2.s0 (x := 0) (k := 25) (z := 25) rfl (by decide)
  have a6 : AF (fun j z => j = 0 ∧ (z = 20 ∨ z = 22 ∨ z = 25)) A5 (pu (pu (pu A5 0 20 0) 0 22 0) 0 25 0) := ((AF.pu (by omega)).tr (AF.pu (by omega))).tr (AF.pu (by omega))
  have hT0 := nxS_T (B := B) (n := n) (st := (0, 0, 0)) ⟨⟨Int.le_refl _, Int.le_refl _, hn.1⟩, Int.le_refl _⟩
  refine ⟨_, _, ?_, ⟨k3, ⟨q5.fr a6 (by omega) (fun z => by omega), ⟨?_, ?_, ?_, ?_⟩, hT0.1⟩, ⟨?_, ?_, ?_, (hW4.fr q3 (fun j z hj => by omega)).fr a6 (fun j z hj => by omega)⟩, ⟨?_, pu_eq _ _ _ _, by show (0 : Int) ≤ 50; decide⟩, fun z z0 z1 => by omega, Int.le_refl _, hT0.1.1.1.1⟩, ?_, (a4.tr (scrC_Y (scrR_C (tok_R q3)))).tr (a6.mo (fun j z hj => ?_)), ((((((Fr.si (by omega)).tr (Fr.si (by omega))).tr (Fr.si (by omega))).tr (Fr.si (by omega))).tr q6).tr (Fr.si (by omega))).tr ((Fr.si (by omega)).tr (Fr.si (by omega)))⟩
  · unfold f_M_beginText f_M_begin
    rw [if_pos (show sT s m = 13 ∧ (v (if ord = true then 1 else 0) = nI 0 ∨ v (if ord = true then 1 else 0) = nI 1) from ⟨h.t, by cases ord <;> first | exact Or.inl rfl | exact Or.inr rfl⟩), if_pos h.t, if_pos h1.t, if_pos (show sT (setI s m 19 (v (if ord = true then 1 else 0))) m = 13 ∧ (nI 0 = nI 0 ∨ nI 0 = nI 1) from ⟨h1.t, Or.inl rfl⟩), nv0, nv1, v_neg, q1, Option.bind_some, Option.bind_some, if_pos q2.t]
  · rw [a6 0 13 (by omega)]; exact q4.1
  · rw [a6 0 14 (by omega)]; exact q4.2.1
  · rw [a6 0 15 (by omega)]; exact q4.2.2.1
  · rw [a6 28 16 (by omega)]; exact q4.2.2.2
  · rw [a6 0 18 (by omega), q3 0 18 (by omega), pu_ne _ _ _ _ (by decide), pu_eq]
  · rw [a6 0 17 (by omega), q3 0 17 (by omega), pu_eq]
  · rw [a6 0 19 (by omega), q3 0 19 (by omega), pu_ne _ _ _ _ (by decide), pu_ne _ _ _ _ (by decide), pu_ne _ _ _ _ (by decide), pu_eq]
  · rw [pu_ne _ _ _ _ (by decide), pu_eq]
  · rw [pu_ne _ _ _ _ (by decide), pu_ne _ _ _ _ (by decide), pu_eq]
  · rcases hj with ⟨e, d | d | d⟩
    · exact Or.inl (Or.inr (Or.inr (Or.inr ⟨e, d⟩)))
    · exact Or.inl (Or.inl (Or.inl ⟨e, by omega⟩))
    · exact Or.inl (Or.inl (Or.inl ⟨e, by omega⟩))
theorem m_isSemi {s : AS} {A : MA} {st : STK} {len : Int} (h : RfX s m A B n ord st len) : f_M_isSign s m (nI 59) = some (v (bi (wd B st 17 = 0))) := m_sgK h.1 h.2.1.1 h.2.1.2.1 h.2.1.2.2 (k := 17) (i := 0) (c := 59) (by decide) rfl (by decide)
def SpcQ (r : Except Int (List CLS × STK)) (K : AS → Option (Int32 × AS)) (o : Option (Int32 × AS)) (s : AS) (m : Nat) (A : MA) (B : Int → Int) (n : Int) (ord : Bool) : Prop := match r with
  | .error e => ∃ s' A', o = K s' ∧ BadM s' m A' e ∧ AF scrC A A' ∧ Fr (inM m) s s'
  | .ok (CL, st') => ∃ s' A' len', o = K s' ∧ RfX s' m A' B n ord st' len' ∧ A' 0 20 = CL.length ∧ (if ord = true then ClsLO (A' 26) (insR true A') CL len' else ClsLM (A' 10) (insR false A') CL len') ∧ AF scrC A A' ∧ Fr (inM m) s s'
theorem m_lawLoop {s0 : AS} {A0 : MA} : ∀ (k N : Nat) (CL : List CLS) (s : AS) (A : MA) (st : STK) (len : Int), CL.length + k = 401 → CL.length ≤ 12 → k < N → RfX s m A B n false st len → A 0 20 = CL.length → ClsLM (A 10) (insR false A) CL len → AF scrC A0 A → Fr (inM m) s0 s →
    SpcQ (clsL B n false k CL st) (b_M_law_64 m) (l_M_law_37 N m s) s0 m A0 B n false := by
  intro k
  induction k with
  | zero => intro N CL s A st len hk h12; omega
  | succ k ih =>
    intro N CL s A st len hk h12 hN h h20 hL ha hf
    obtain ⟨N, rfl⟩ : ∃ x, N = x + 1 := ⟨N - 1, by omega⟩
    show SpcQ _ _ (b_M_law_37 _ _ _) s0 m A0 B n false
    unfold b_M_law_37 clsL
    rw [if_pos h.1.t, h.bad, nv0, if_pos rfl, m_isSemi h, Option.bind_some]
    by_cases c : wd B st 17 = 0
    · obtain ⟨s1, A1, q1, q2, q3, q4⟩ := m_nextX h
      have r11 := q3.row (j := 11) (fun z => by omega)
      have r12 := q3.row (j := 12) (fun z => by omega)
      have r10 := q3.row (j := 10) (fun z => by omega)
      have hsp := m_readLaw (cl := CL.length) q2 (by rw [q3 0 20 (by omega)]; exact h20) (by omega)
      rw [bi_t c, if_neg (show ¬ v 1 = v 0 by decide), q1, Option.bind_some, if_pos q2.1.t, if_pos c]
      cases hr : clauseP B n false CL.length (nxS B n st) with
      | error e =>
        rw [hr] at hsp
        obtain ⟨s2, A2, p1, p2, p3, p4⟩ := hsp
        rw [p1, Option.bind_some]
        refine ⟨s2, A2, ?_, p2, (ha.tr (scrR_C (tok_R q3))).tr p3, (hf.tr q4).tr p4⟩
        obtain ⟨N, rfl⟩ : ∃ x, N = x + 1 := ⟨N - 1, by omega⟩
        show b_M_law_37 _ _ _ = _
        unfold b_M_law_37
        rw [if_pos p2.1.t, p2.bad, nv0, if_neg (show ¬ v 1 = v 0 by decide)]
      | ok y =>
        obtain ⟨x, st1⟩ := y
        rw [hr] at hsp
        obtain ⟨s2, A2, len2, p1, p2, p3, p4, p5, p6, p7, p8, p9, p10⟩ := hsp
        have hcl12 : CL.length < 12 := by
          by_cases d : CL.length < 12
          · exact d
          · exfalso
            unfold clauseP at hr
            rw [if_pos (Or.inl (by omega))] at hr
            cases hr
        have hl : ((CL ++ [x]).length : Int) = (CL.length : Int) + 1 := by rw [List.length_append]; show ((CL.length + 1 : Nat) : Int) = _; omega
        rw [p1, Option.bind_some]
        refine ih N (CL ++ [x]) s2 A2 st1 len2 (by rw [List.length_append]; show CL.length + 1 + k = 401; omega) (by rw [List.length_append]; show CL.length + 1 ≤ 12; omega) (by omega) p2 (by rw [hl]; exact p3) (fun c y hy => ?_) ((ha.tr (scrR_C (tok_R q3))).tr p7) ((hf.tr q4).tr p8)
        rcases get_snoc hy with ⟨d1, d2⟩ | ⟨d1, d2⟩
        · refine (hL c y d2).cong p10 (fun z hz => by rw [p5 z (by omega), r10]) (fun hi hj => ((CodK.eq (i := len) r11 r12).tr p6).mo hj |>.agr hi)
        · rw [d1, d2]; exact p4
    · rw [bi_f c, if_pos rfl, if_neg c]
      exact ⟨s, A, len, rfl, h, h20, hL, ha, hf⟩
theorem m_ordLoop {s0 : AS} {A0 : MA} : ∀ (k N : Nat) (CL : List CLS) (s : AS) (A : MA) (st : STK) (len : Int), CL.length + k = 401 → CL.length ≤ 12 → k < N → RfX s m A B n true st len → A 0 20 = CL.length → ClsLO (A 26) (insR true A) CL len → AF scrC A0 A → Fr (inM m) s0 s →
    SpcQ (clsL B n true k CL st) (b_M_orders_46 m) (l_M_orders_19 N m s) s0 m A0 B n true := by
  intro k
  induction k with
  | zero => intro N CL s A st len hk h12; omega
  | succ k ih =>
    intro N CL s A st len hk h12 hN h h20 hL ha hf
    obtain ⟨N, rfl⟩ : ∃ x, N = x + 1 := ⟨N - 1, by omega⟩
    show SpcQ _ _ (b_M_orders_19 _ _ _) s0 m A0 B n true
    unfold b_M_orders_19 clsL
    rw [if_pos h.1.t, h.bad, nv0, if_pos rfl, m_isSemi h, Option.bind_some]
    by_cases c : wd B st 17 = 0
    · obtain ⟨s1, A1, q1, q2, q3, q4⟩ := m_nextX h
      have r11 := q3.row (j := 11) (fun z => by omega)
      have r12 := q3.row (j := 12) (fun z => by omega)
      have r26 := q3.row (j := 26) (fun z => by omega)
      have hsp := m_readOrder (cl := CL.length) q2 (by rw [q3 0 20 (by omega)]; exact h20) (by omega)
      rw [bi_t c, if_neg (show ¬ v 1 = v 0 by decide), q1, Option.bind_some, if_pos q2.1.t, if_pos c]
      cases hr : clauseP B n true CL.length (nxS B n st) with
      | error e =>
        rw [hr] at hsp
        obtain ⟨s2, A2, p1, p2, p3, p4⟩ := hsp
        rw [p1, Option.bind_some]
        refine ⟨s2, A2, ?_, p2, (ha.tr (scrR_C (tok_R q3))).tr p3, (hf.tr q4).tr p4⟩
        obtain ⟨N, rfl⟩ : ∃ x, N = x + 1 := ⟨N - 1, by omega⟩
        show b_M_orders_19 _ _ _ = _
        unfold b_M_orders_19
        rw [if_pos p2.1.t, p2.bad, nv0, if_neg (show ¬ v 1 = v 0 by decide)]
      | ok y =>
        obtain ⟨x, st1⟩ := y
        rw [hr] at hsp
        obtain ⟨s2, A2, len2, p1, p2, p3, p4, p5, p6, p7, p8, p9, p10⟩ := hsp
        have hcl12 : CL.length < 12 := by
          by_cases d : CL.length < 12
          · exact d
          · exfalso
            unfold clauseP at hr
            rw [if_pos (Or.inl (by omega))] at hr
            cases hr
        have hl : ((CL ++ [x]).length : Int) = (CL.length : Int) + 1 := by rw [List.length_append]; show ((CL.length + 1 : Nat) : Int) = _; omega
        rw [p1, Option.bind_some]
        refine ih N (CL ++ [x]) s2 A2 st1 len2 (by rw [List.length_append]; show CL.length + 1 + k = 401; omega) (by rw [List.length_append]; show CL.length + 1 ≤ 12; omega) (by omega) p2 (by rw [hl]; exact p3) (fun c y hy => ?_) ((ha.tr (scrR_C (tok_R q3))).tr p7) ((hf.tr q4).tr p8)
        rcases get_snoc hy with ⟨d1, d2⟩ | ⟨d1, d2⟩
        · refine (hL c y d2).cong p10 (fun z hz => by rw [p5 z (by omega), r26]) (fun hi hj => ((CodK.eq (i := len) r11 r12).tr p6).mo hj |>.agr hi)
        · rw [d1, d2]; exact p4
    · rw [bi_f c, if_pos rfl, if_neg c]
      exact ⟨s, A, len, rfl, h, h20, hL, ha, hf⟩
/-- a text ends -/
theorem m_endText {s : AS} {A : MA} {st : STK} {len : Int} (h : RfX s m A B n ord st len) :
    ∃ s' A', f_M_endText s m = some s' ∧ MR s' m A' ∧ (A' 0 18 = (if st.1 < n then 1 else 0) ∧ A' 0 17 = (if st.1 < n then st.1 else -1) ∧ A' 0 19 = 0 ∧ A' 0 12 = 0) ∧ AF (fun j z => j = 0 ∧ (z = 18 ∨ z = 17 ∨ z = 19 ∨ z = 12)) A A' ∧ Fr (inM m) s s' := by
  have hsr : srtT B n st.1 = 0 ↔ ¬ st.1 < n := by
    unfold srtT
    by_cases c : st.1 < n
    · rw [if_pos c]
      refine ⟨fun d => ?_, fun d => absurd c d⟩
      repeat' split at d
      all_goals omega
    · rw [if_neg c]; exact ⟨fun _ => c, fun _ => rfl⟩
  have hr := srtT_r B n st.1
  have e15 := h.2.1.2.1.2.2.1
  have fin : ∀ (s1 : AS) (A1 : MA), MR s1 m A1 → ∃ A', MR (setI (setI s1 m 19 (v 0)) m 12 (v 0)) m A' ∧ (A' 0 19 = 0 ∧ A' 0 12 = 0) ∧ AF (fun j z => j = 0 ∧ (z = 19 ∨ z = 12)) A1 A' ∧ Fr (inM m) s1 (setI (setI s1 m 19 (v 0)) m 12 (v 0)) := fun s1 A1 k => by
    have k1 := k.s0 (x := 0) (k := 19) (z := 19) rfl (by decide)
    have k2 := k1.s0 (x := 0) (k := 12) (z := 12) rfl (by decide)
    exact ⟨_, k2, ⟨by rw [pu_ne _ _ _ _ (by decide), pu_eq], pu_eq _ _ _ _⟩, (AF.pu ⟨rfl, Or.inl rfl⟩).tr (AF.pu ⟨rfl, Or.inr rfl⟩), (Fr.si (by omega)).tr (Fr.si (by omega))⟩
  unfold f_M_endText
  rw [if_pos h.1.t, h.bad, nv0, nv1, if_pos rfl, h.1.i15, e15]
  by_cases c : st.1 < n
  · have h1 := h.1
    have k1 := h1.s0 (x := 1) (k := 18) (z := 18) rfl (by decide)
    have e13 : sI (setI s m 18 (v 1)) m 13 = v st.1 := by rw [k1.i13, pu_ne _ _ _ _ (by decide), h.2.1.2.1.1]
    have k2 := k1.s0 (x := st.1) (k := 17) (z := 17) rfl (by decide)
    have e18 : pu (pu A 0 18 1) 0 17 st.1 0 18 = 1 := by rw [pu_ne _ _ _ _ (by decide), pu_eq]
    have hm : f_M_must s m (v 0) = some (setI (setI s m 18 (v 1)) m 17 (v st.1)) := by
      unfold f_M_must b_M_must_24
      rw [if_pos h1.t, h.bad, nv0, nv1, if_pos rfl, if_pos rfl, if_pos ⟨h1.t, Or.inr rfl⟩, e13, if_pos k2.t, k2.i18, e18, if_neg (show ¬ v 1 = v 0 by decide)]
    obtain ⟨A', p1, p2, p3, p4⟩ := fin _ _ k2
    refine ⟨_, A', ?_, p1, ⟨?_, ?_, p2.1, p2.2⟩, ((AF.pu ⟨rfl, Or.inl rfl⟩).tr (AF.pu ⟨rfl, Or.inr (Or.inl rfl)⟩)).tr (p3.mo (fun j z hj => by omega)), ((Fr.si (by omega)).tr (Fr.si (by omega))).tr p4⟩
    · rw [if_neg (pne ⟨by omega, fun d => hsr.mp d c⟩), hm, Option.bind_some, if_pos (show sT (setI (setI s m 18 (v 1)) m 17 (v st.1)) m = 13 ∧ (v 0 = v 0 ∨ v 0 = v 1) from ⟨k2.t, Or.inl rfl⟩), if_pos k2.t]
    · rw [if_pos c, p3 0 18 (by omega), e18]
    · rw [if_pos c, p3 0 17 (by omega), pu_eq]
  · obtain ⟨A', p1, p2, p3, p4⟩ := fin _ _ h.1
    refine ⟨_, A', ?_, p1, ⟨?_, ?_, p2.1, p2.2⟩, p3.mo (fun j z hj => by omega), p4⟩
    · rw [if_pos (peq (hsr.mpr c)), if_pos (show sT s m = 13 ∧ (v 0 = v 0 ∨ v 0 = v 1) from ⟨h.1.t, Or.inl rfl⟩)]
    · rw [if_neg c, p3 0 18 (by omega)]; exact h.2.2.1.1
    · rw [if_neg c, p3 0 17 (by omega)]; exact h.2.2.1.2.1
theorem m_endBad {s : AS} {A : MA} {e : Int} (h : BadM s m A e) :
    ∃ s' A', f_M_endText s m = some s' ∧ MR s' m A' ∧ (A' 0 18 = 1 ∧ A' 0 17 = e ∧ A' 0 19 = 0 ∧ A' 0 12 = 0) ∧ AF (fun j z => j = 0 ∧ (z = 18 ∨ z = 17 ∨ z = 19 ∨ z = 12)) A A' ∧ Fr (inM m) s s' := by
  have k1 := h.1.s0 (x := 0) (k := 19) (z := 19) rfl (by decide)
  have k2 := k1.s0 (x := 0) (k := 12) (z := 12) rfl (by decide)
  refine ⟨_, _, ?_, k2, ⟨?_, ?_, ?_, pu_eq _ _ _ _⟩, (AF.pu (by omega)).tr (AF.pu (by omega)), (Fr.si (by omega)).tr (Fr.si (by omega))⟩
  · unfold f_M_endText
    rw [if_pos h.1.t, h.bad, nv0, nv1, if_neg (show ¬ v 1 = v 0 by decide), if_pos (show sT s m = 13 ∧ (v 0 = v 0 ∨ v 0 = v 1) from ⟨h.1.t, Or.inl rfl⟩)]
  · rw [pu_ne _ _ _ _ (by decide), pu_ne _ _ _ _ (by decide)]; exact h.2.1
  · rw [pu_ne _ _ _ _ (by decide), pu_ne _ _ _ _ (by decide)]; exact h.2.2
  · rw [pu_ne _ _ _ _ (by decide), pu_eq]
/-- what the reference tells -/
def stOf (x : Int) : Int := if x < 0 then x else 0
theorem m_tell {s : AS} {A : MA} {x : Int} (h : MR s m A) (hx : -6 ≤ x ∧ x < 2147483648) :
    ∃ s' A', f_M_tell s m (v x) = some (v x, s') ∧ MR s' m A' ∧ A' 0 1 = stOf x ∧ (∀ z, A' 1 z = if x < 0 ∧ z = -x then A 1 z + 1 else A 1 z) ∧ AF (fun j z => (j = 0 ∧ z = 1) ∨ j = 1) A A' ∧ Fr (inM m) s s' := by
  unfold f_M_tell b_M_tell_10 stOf
  rw [nv0, nv1]
  by_cases c : x < 0
  · have k1 := h.s0 (x := x) (k := 1) (z := 1) rfl (by decide)
    have e1 : sI (setI s m 1 (v x)) (m + 1) (-x).toNat = v (A 1 (-x)) := by rw [k1.a2 (-x) (by omega), pu_row _ _ _ _ (by decide)]
    have k2 := k1.si 1 (by decide) (by decide) (z := -x) (x := A 1 (-x) + 1) ⟨by omega, by show -x < 7; omega⟩
    rw [if_pos (plt (by omega)), if_pos h.t, if_pos (plt (by omega)), if_pos h.t, h.r2, h.t2, h.n2, v_neg, if_pos ⟨rfl, v_inA (by omega) (by omega)⟩, v_ix (by omega), e1, v_add, if_pos c]
    refine ⟨_, _, rfl, k2, ?_, fun z => ?_, (AF.pu (Or.inl ⟨rfl, rfl⟩)).tr (AF.pu (Or.inr rfl)), (Fr.si (by omega)).tr (inM_s (by decide))⟩
    · rw [pu_row _ _ _ _ (by decide), pu_eq]
    · rw [pu_v, pu_row _ _ _ _ (by decide)]
      by_cases e : z = -x
      · rw [if_pos e, if_pos ⟨c, e⟩, e]
      · rw [if_neg e, if_neg (fun d => e d.2)]
  · have k1 := h.s0 (x := 0) (k := 1) (z := 1) rfl (by decide)
    rw [if_neg (nlt (by omega)), if_pos h.t, if_neg (nlt (by omega)), if_neg c]
    refine ⟨_, _, rfl, k1, pu_eq _ _ _ _, fun z => ?_, AF.pu (Or.inl ⟨rfl, rfl⟩), Fr.si (by omega)⟩
    rw [pu_row _ _ _ _ (by decide), if_neg (fun d => c d.1)]
end RTX
