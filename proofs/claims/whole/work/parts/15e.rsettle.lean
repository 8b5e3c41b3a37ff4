/-! THE REFERENCE'S READER: push, emit, settle, must -/
section RST
variable {m : Nat} {s : AS} {A : MA}
theorem m_push (h : MR s m A) {k op at_ : Int} (hk : A 0 28 = k) (hr : 0 ≤ k ∧ k < 400) : ∃ s', f_M_push s m (v op) (v at_) = some s' ∧ MR s' m (pu (pu (pu A 13 k op) 14 k at_) 0 28 (k + 1)) ∧ Fr (inM m) s s' := by
  have h1 := h.si 13 (by decide) (by decide) (z := k) (x := op) ⟨hr.1, by show k < 400; omega⟩
  have h2 := h1.si 14 (by decide) (by decide) (z := k) (x := at_) ⟨hr.1, by show k < 400; omega⟩
  have h3 := h2.s0 (x := k + 1) (k := 28) (z := 28) rfl (by decide)
  refine ⟨_, ?_, h3, ((inM_s (by decide)).tr (inM_s (by decide))).tr (Fr.si (by omega))⟩
  have e1 : sI (setI s (m + 13) k.toNat (v op)) m 28 = v k := by rw [h1.i28, pu_ne _ _ _ _ (by omega), hk]
  have e2 : sI (setI (setI s (m + 13) k.toNat (v op)) (m + 14) k.toNat (v at_)) m 28 = v k := by rw [h2.i28, pu_ne _ _ _ _ (by omega), pu_ne _ _ _ _ (by omega), hk]
  unfold f_M_push
  rw [if_pos h.t, h.r26, h.t26, h.n26, h.i28, hk, if_pos ⟨rfl, v_inA (by omega) (by omega)⟩, v_ix (by omega), h.r27, h.t27, h.n27, e1, if_pos ⟨rfl, v_inA (by omega) (by omega)⟩, v_ix (by omega), e2, nv1, v_add]
theorem m_emit (h : MR s m A) {k op arg : Int} (hk : A 0 22 = k) (hr : 0 ≤ k ∧ k < 400) : ∃ s', f_M_emit s m (v op) (v arg) = some s' ∧ MR s' m (pu (pu (pu A 11 k op) 12 k arg) 0 22 (k + 1)) ∧ Fr (inM m) s s' := by
  have h1 := h.si 11 (by decide) (by decide) (z := k) (x := op) ⟨hr.1, by show k < 400; omega⟩
  have h2 := h1.si 12 (by decide) (by decide) (z := k) (x := arg) ⟨hr.1, by show k < 400; omega⟩
  have h3 := h2.s0 (x := k + 1) (k := 22) (z := 22) rfl (by decide)
  refine ⟨_, ?_, h3, ((inM_s (by decide)).tr (inM_s (by decide))).tr (Fr.si (by omega))⟩
  have e1 : sI (setI s (m + 11) k.toNat (v op)) m 22 = v k := by rw [h1.i22, pu_ne _ _ _ _ (by omega), hk]
  have e2 : sI (setI (setI s (m + 11) k.toNat (v op)) (m + 12) k.toNat (v arg)) m 22 = v k := by rw [h2.i22, pu_ne _ _ _ _ (by omega), pu_ne _ _ _ _ (by omega), hk]
  unfold f_M_emit
  rw [if_pos h.t, h.r23, h.t23, h.n23, h.i22, hk, if_pos ⟨rfl, v_inA (by omega) (by omega)⟩, v_ix (by omega), h.r24, h.t24, h.n24, e1, if_pos ⟨rfl, v_inA (by omega) (by omega)⟩, v_ix (by omega), e2, nv1, v_add]
theorem m_binds {op : Int} (ho : 20 ≤ op ∧ op ≤ 32) : f_M_binds s (v op) = some (v (bndO op)) := by
  unfold f_M_binds bndO
  rw [nv0, nv1, nv2, nv3, nv4, nv5, nv6, nv22, nv25, nv28, nv29, nv30, nv31]
  by_cases a : 31 ≤ op
  · rw [if_neg (nlt (by omega)), if_pos a]
  · rw [if_pos (plt (by omega)), if_neg a]
    by_cases b : op = 30
    · rw [if_pos (peq b), if_pos b]
    · rw [if_neg (pne (by omega)), if_neg b]
      by_cases c : op = 29
      · rw [if_pos (peq c), if_pos c]
      · rw [if_neg (pne (by omega)), if_neg c]
        by_cases d : op = 28
        · rw [if_pos (peq d), if_pos d]
        · rw [if_neg (pne (by omega)), if_neg d]
          by_cases e : 25 ≤ op
          · rw [if_neg (nlt (by omega)), if_pos e]
          · rw [if_pos (plt (by omega)), if_neg e]
            by_cases f : 22 ≤ op
            · rw [if_neg (nlt (by omega)), if_pos f]
            · rw [if_pos (plt (by omega)), if_neg f]
abbrev scrS : Nat → Int → Prop := fun j z => j = 11 ∨ j = 12 ∨ (j = 0 ∧ (z = 22 ∨ z = 28))
theorem m_settleL {least : Int} (hl : 1 ≤ least ∧ least ≤ 6) : ∀ (X Y : PIL) (N : Nat) (s : AS) (A : MA) (O R : Int → Int) (len : Int), X.length < N → MR s m A → PlM A (X ++ Y) → A 0 28 = (X ++ Y).length → A 0 22 = len → 0 ≤ len ∧ len + (X ++ Y).length ≤ 400 → PlOK O (X ++ Y) len → A 11 = O → A 12 = R → (∀ x ∈ X, least ≤ bndO x.1) → (∀ y, Y.head? = some y → bndO y.1 < least) →
    ∃ s' A', l_M_settle_0 N m (v least) s = some s' ∧ MR s' m A' ∧ AF scrS A A' ∧ A' 11 = (stl X (O, R, len)).1 ∧ A' 12 = (stl X (O, R, len)).2.1 ∧ A' 0 22 = (stl X (O, R, len)).2.2 ∧ A' 0 28 = Y.length ∧ Fr (inM m) s s' := by
  intro X
  induction X with
  | nil =>
    intro Y N s A O R len hN h hP h28 h22 hb hO h11 h12 hX hY
    obtain ⟨N, rfl⟩ : ∃ x, N = x + 1 := ⟨N - 1, by omega⟩
    have h28' : A 0 28 = Y.length := h28
    refine ⟨s, A, ?_, h, AF.rf _ _, h11, h12, h22, h28', Fr.rf _ _⟩
    show b_M_settle_0 _ _ _ _ = _
    unfold b_M_settle_0
    cases Y with
    | nil =>
      have e : A 0 28 = 0 := h28'
      rw [if_pos h.t, h.i28, e, nv0, if_neg (nlt (by omega))]
    | cons y Y =>
      have e : A 0 28 = ((Y.length + 1 : Nat) : Int) := h28'
      have hb' : len + ((Y.length + 1 : Nat) : Int) ≤ 400 := hb.2
      have hy := hY y rfl
      have hy2 := (hO y (List.mem_cons_self ..)).1
      have hp : A 13 Y.length = y.1 := hP.1.1
      rw [if_pos h.t, h.i28, e, nv0, nv1, if_pos (plt (by omega)), v_sub, show ((Y.length + 1 : Nat) : Int) - 1 = Y.length by omega, h.r26, h.t26, h.n26, if_pos ⟨rfl, v_inA (by omega) (by omega)⟩, v_ix (by omega), h.a26 Y.length (by omega), hp, m_binds hy2, Option.bind_some]
      have hbr : 0 ≤ bndO y.1 ∧ bndO y.1 ≤ 6 := by unfold bndO; repeat' split <;> omega
      rw [if_pos (plt (by omega))]
  | cons x X ih =>
    intro Y N s A O R len hN h hP h28 h22 hb hO h11 h12 hX hY
    obtain ⟨N, rfl⟩ : ∃ x, N = x + 1 := ⟨N - 1, by omega⟩
    have hlen : ((x :: X) ++ Y).length = (X ++ Y).length + 1 := rfl
    have hxl : (x :: X).length = X.length + 1 := rfl
    have e : A 0 28 = (((X ++ Y).length + 1 : Nat) : Int) := h28
    have hb' : len + (((X ++ Y).length + 1 : Nat) : Int) ≤ 400 := hb.2
    have hx := hX x (List.mem_cons_self ..)
    have hx2 := hO x (List.mem_cons_self ..)
    have hP' : (A 13 (X ++ Y).length = x.1 ∧ A 14 (X ++ Y).length = x.2) ∧ PlM A (X ++ Y) := hP
    have hO' : PlOK O (X ++ Y) len := fun y hy => hO y (List.mem_cons_of_mem _ hy)
    have hbr : 0 ≤ bndO x.1 ∧ bndO x.1 ≤ 6 := by unfold bndO; repeat' split <;> omega
    have h1 := h.s0 (x := ((X ++ Y).length : Int)) (k := 28) (z := 28) rfl (by decide)
    have a1 : AF scrS A (pu A 0 28 (X ++ Y).length) := AF.pu (Or.inr (Or.inr ⟨rfl, Or.inr rfl⟩))
    have f1 : Fr (inM m) s (setI s m 28 (v (X ++ Y).length)) := Fr.si (by omega)
    have e28 : sI (setI s m 28 (v ((X ++ Y).length : Int))) m 28 = v (X ++ Y).length := by rw [h1.i28, pu_eq]
    have e26 : sI (setI s m 28 (v ((X ++ Y).length : Int))) (m + 13) (((X ++ Y).length : Int)).toNat = v x.1 := by rw [h1.a26 _ (by omega), pu_row _ _ _ _ (by decide), hP'.1.1]
    have e27 : sI (setI s m 28 (v ((X ++ Y).length : Int))) (m + 14) (((X ++ Y).length : Int)).toNat = v x.2 := by rw [h1.a27 _ (by omega), pu_row _ _ _ _ (by decide), hP'.1.2]
    have e22 : sI (setI s m 28 (v ((X ++ Y).length : Int))) m 22 = v len := by rw [h1.i22, pu_ne _ _ _ _ (by decide), h22]
    show ∃ s' A', b_M_settle_0 _ _ _ _ = _ ∧ _
    unfold b_M_settle_0
    rw [if_pos h.t, h.i28, e, nv0, nv1, nv29, nv30, if_pos (plt (by omega)), v_sub, show (((X ++ Y).length + 1 : Nat) : Int) - 1 = ((X ++ Y).length : Int) by omega, h.r26, h.t26, h.n26, if_pos ⟨rfl, v_inA (by omega) (by omega)⟩, v_ix (by omega), h.a26 ((X ++ Y).length : Int) (by omega), hP'.1.1, m_binds hx2.1, Option.bind_some, if_neg (nlt (by omega)), e28, if_pos ⟨rfl, v_inA (by omega) (by omega)⟩, v_ix (by omega), e26]
    have aim : x.1 = 29 ∨ x.1 = 30 → ∃ s' A', b_M_settle_63 (l_M_settle_0 N) m (v least) (setI s m 28 (v ((X ++ Y).length : Int))) = some s' ∧ MR s' m A' ∧ AF scrS A A' ∧ A' 11 = (stl (x :: X) (O, R, len)).1 ∧ A' 12 = (stl (x :: X) (O, R, len)).2.1 ∧ A' 0 22 = (stl (x :: X) (O, R, len)).2.2 ∧ A' 0 28 = Y.length ∧ Fr (inM m) s s' := by
      intro c
      have hat := hx2.2 c
      have h2 := h1.si 12 (by decide) (by decide) (z := x.2) (x := len) ⟨by omega, by show x.2 < 400; omega⟩
      have a2 := a1.tr (AF.pu (F := scrS) (A := pu A 0 28 (X ++ Y).length) (j := 12) (z := x.2) (x := len) (Or.inr (Or.inl rfl)))
      obtain ⟨s', A', q1, q2, q3, q4, q5, q6, q7, q8⟩ := ih Y N _ _ O (bu R x.2 len) len (by omega) h2 (hP'.2.fr (fun z _ _ => ⟨by rw [pu_row _ _ _ _ (by decide), pu_row _ _ _ _ (by decide)], by rw [pu_row _ _ _ _ (by decide), pu_row _ _ _ _ (by decide)]⟩)) (by rw [pu_row _ _ _ _ (by decide), pu_eq]) (by rw [pu_row _ _ _ _ (by decide), pu_ne _ _ _ _ (by decide), h22]) ⟨hb.1, by omega⟩ hO' (by rw [pu_f (by decide), pu_f (by decide), h11]) (by rw [pu_b, pu_f (by decide), h12]) (fun y hy => hX y (List.mem_cons_of_mem _ hy)) hY
      have es : stl (x :: X) (O, R, len) = stl X (O, bu R x.2 len, len) := by
        show (if x.1 = 29 ∨ x.1 = 30 then _ else _) = _
        rw [if_pos c]
      rw [es]
      refine ⟨s', A', ?_, q2, a2.tr q3, q4, q5, q6, q7, (f1.tr (inM_s (by decide))).tr q8⟩
      unfold b_M_settle_63
      rw [if_pos h1.t, h1.r27, h1.t27, h1.n27, e28, if_pos ⟨rfl, v_inA (by omega) (by omega)⟩, v_ix (by omega), e27, h1.r24, h1.t24, h1.n24, if_pos ⟨rfl, v_inA (by omega) (by omega)⟩, v_ix (by omega), e22]
      exact q1
    by_cases c29 : x.1 = 29
    · rw [if_pos (peq c29)]
      exact aim (Or.inl c29)
    · rw [if_neg (pne (by omega))]
      by_cases c30 : x.1 = 30
      · rw [if_pos (peq c30)]
        exact aim (Or.inr c30)
      · rw [if_neg (pne (by omega))]
        have hk22 : pu A 0 28 (X ++ Y).length 0 22 = len := by rw [pu_ne _ _ _ _ (by decide), h22]
        obtain ⟨s2, g1, g2, g3⟩ := m_emit (op := x.1) (arg := 0) h1 hk22 ⟨hb.1, by omega⟩
        have a2 : AF scrS A (pu (pu (pu (pu A 0 28 (X ++ Y).length) 11 len x.1) 12 len 0) 0 22 (len + 1)) := ((a1.tr (AF.pu (Or.inl rfl))).tr (AF.pu (Or.inr (Or.inl rfl)))).tr (AF.pu (Or.inr (Or.inr ⟨rfl, Or.inl rfl⟩)))
        obtain ⟨s', A', q1, q2, q3, q4, q5, q6, q7, q8⟩ := ih Y N _ _ (bu O len x.1) (bu R len 0) (len + 1) (by omega) g2
          (hP'.2.fr (fun z _ _ => ⟨by rw [pu_row _ _ _ _ (by decide), pu_row _ _ _ _ (by decide), pu_row _ _ _ _ (by decide), pu_row _ _ _ _ (by decide)], by rw [pu_row _ _ _ _ (by decide), pu_row _ _ _ _ (by decide), pu_row _ _ _ _ (by decide), pu_row _ _ _ _ (by decide)]⟩))
          (by rw [pu_ne _ _ _ _ (by decide), pu_row _ _ _ _ (by decide), pu_row _ _ _ _ (by decide), pu_eq]) (pu_eq _ _ _ _) ⟨by omega, by omega⟩
          (fun y hy => ⟨(hO' y hy).1, fun d => by
            have := (hO' y hy).2 d
            unfold bu
            rw [if_neg (by omega)]
            omega⟩)
          (by rw [pu_f (by decide), pu_f (by decide), pu_b, pu_f (by decide), h11]) (by rw [pu_f (by decide), pu_b, pu_f (by decide), pu_f (by decide), h12]) (fun y hy => hX y (List.mem_cons_of_mem _ hy)) hY
        have es : stl (x :: X) (O, R, len) = stl X (bu O len x.1, bu R len 0, len + 1) := by
          show (if x.1 = 29 ∨ x.1 = 30 then _ else _) = _
          rw [if_neg (by omega)]
        rw [es, g1, Option.bind_some]
        exact ⟨s', A', q1, q2, a2.tr q3, q4, q5, q6, q7, (f1.tr g3).tr q8⟩
end RST
