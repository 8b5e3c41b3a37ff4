/-! THE STACK MACHINE: the reference's loop -/
def endM (r : Option (List Int)) (A : MA) : Prop := match r with
  | none => A 0 37 = 1
  | some l => A 0 37 = 0 ∧ A 28 38 = l.getLastD 0
theorem m_rkend {s : AS} {m : Nat} {A0 A : MA} {st : List Int} (h : MR s m A) (ha : AF scrM A0 A) (hl : (st.length : Int) ≤ 1000) (hk : StkM (A 20) st) : ∃ s' A', b_M_reckonAll_334 m (v st.length) s = some s' ∧ MR s' m A' ∧ AF scrM A0 A' ∧ Fr (inM m) s s' ∧ A' 0 37 = A 0 37 ∧ A' 28 38 = st.getLastD 0 := by
  unfold b_M_reckonAll_334
  simp (disch := omega) only [nv0, lw0, v_lt, h.t, h.r36, h.t36, h.n36, v_inT, v_ix, h.a36, if_true, and_self]
  by_cases e : (0 : Int) < st.length
  · rw [if_pos e, hk.last (by omega)]
    exact ⟨_, _, rfl, h.s28 (k := 38) (z := 38) rfl (by decide), ha.tr (AF.pu (Or.inr (Or.inr ⟨rfl, rfl⟩))), Fr.sj ⟨by omega, by omega⟩, pu_row _ _ _ _ (by decide) _, pu_eq _ _ _ _⟩
  · rw [if_neg e]
    have : st = [] := List.length_eq_zero_iff.mp (by omega)
    subst this
    exact ⟨_, _, rfl, h.s28 (k := 38) (z := 38) rfl (by decide), ha.tr (AF.pu (Or.inr (Or.inr ⟨rfl, rfl⟩))), Fr.sj ⟨by omega, by omega⟩, pu_row _ _ _ _ (by decide) _, pu_eq _ _ _ _⟩
theorem m_rkstep {s : AS} {m n : Nat} {A0 A : MA} {b k len : Int} (hb : b ≤ 400) (hl : A0 0 19 = 0 → 0 ≤ A0 0 33 ∧ A0 0 33 ≤ 5321) (ho : opOK A0 k) (hk : 0 ≤ k ∧ k < b) (h : MR s m A) (ha : AF scrM A0 A) (h37 : A 0 37 = 0) (h19 : r32 (A0 0 19)) :
    l_M_reckonAll_10 (n + 1) m (v b) (v len) (v k) s = b_M_reckonAll_95 (l_M_reckonAll_10 n) m (v b) (v len) (v k) (v (opM A0 k)) (v (agM A0 k)) s := by
  have e19 : A 0 19 = A0 0 19 := ha 0 19 (by omega)
  have e33 : A 0 33 = A0 0 33 := ha 0 33 (by omega)
  have e2 : ∀ z, A 2 z = A0 2 z := fun z => ha 2 z (by omega)
  have e11 : ∀ z, A 11 z = A0 11 z := fun z => ha 11 z (by omega)
  have e12 : ∀ z, A 12 z = A0 12 z := fun z => ha 12 z (by omega)
  have i37 := h.i37
  have i19 := h.i19
  have i33 := h.i33
  rw [h37] at i37
  rw [e19] at i19
  rw [e33] at i33
  by_cases c : A0 0 19 = 0
  · have hl := hl c
    simp (disch := omega) only [l_M_reckonAll_10, b_M_reckonAll_10, b_M_reckonAll_57, v_lt, nv0, h.t, i37, i19, i33, h.r3, h.t3, h.n3, v_inT, v_ix, h.a3, nv98, nv2, nv1, v_add, v_mul, v_inj, if_true, and_self, e2]
    rw [if_pos (by omega), if_pos c, if_pos c]
    unfold opM agM
    rw [if_pos c, if_pos c]
  · simp (disch := omega) only [l_M_reckonAll_10, b_M_reckonAll_10, b_M_reckonAll_57, v_lt, nv0, h.t, i37, i19, h.r23, h.t23, h.n23, h.r24, h.t24, h.n24, v_inT, v_ix, h.a23, h.a24, v_inj, if_true, and_self, e11, e12]
    rw [if_pos (by omega), if_neg c, if_neg c]
    unfold opM agM
    rw [if_neg c, if_neg c]
theorem m_rkL {m : Nat} {A0 : MA} {P : PG} {W : Int → Int} {b : Int} (hK : PgK P) (hP : PgM (A0 2) P) (hw : wrdM A0 P W) (hb : 0 ≤ b ∧ b ≤ 400) (hop : ∀ z, 0 ≤ z → z < b → opOK A0 z) (hl : A0 0 19 = 0 → 0 ≤ A0 0 33 ∧ A0 0 33 ≤ 5321) (h19 : r32 (A0 0 19)) (hW : ∀ z, 0 ≤ z → z < 20 → stB (W z)) :
    ∀ (n : Nat) (k : Int) (st : List Int) (s : AS) (A : MA) (r : Option (List Int)), runP (insA A0) W b n k st = some r → 0 ≤ k ∧ k ≤ 1000 → (st.length : Int) ≤ k → (∀ x ∈ st, stB x) → MR s m A → AF scrM A0 A → A 0 37 = 0 → StkM (A 20) st →
    ∃ s' A', l_M_reckonAll_10 (n + 1) m (v b) (v st.length) (v k) s = some s' ∧ MR s' m A' ∧ AF scrM A0 A' ∧ Fr (inM m) s s' ∧ endM r A' := by
  intro n
  induction n with
  | zero => intro k st s A r h; cases h
  | succ n ih =>
    intro k st s A r h hk hln hst hM ha h37 hS
    rw [runP_s] at h
    unfold runB at h
    by_cases hbi : b ≤ k
    · rw [if_pos hbi] at h
      cases h
      have hx : l_M_reckonAll_10 (n + 1 + 1) m (v b) (v st.length) (v k) s = b_M_reckonAll_334 m (v st.length) s := by
        simp (disch := omega) only [l_M_reckonAll_10, b_M_reckonAll_10, v_lt]
        rw [if_neg (by omega)]
      rw [hx]
      obtain ⟨s', A', q1, q2, q3, q4, q5, q6⟩ := m_rkend hM ha (by omega) hS
      exact ⟨s', A', q1, q2, q3, q4, by rw [q5]; exact h37, q6⟩
    · rw [if_neg hbi] at h
      have ho := hop k hk.1 (by omega)
      rw [m_rkstep hb.2 hl ho ⟨hk.1, by omega⟩ hM ha h37 h19]
      have e19 : A 0 19 = A0 0 19 := ha 0 19 (by omega)
      have i19 := hM.i19
      rw [e19] at i19
      have n20 : nI 20 = v 20 := rfl
      obtain ⟨⟨o1, o2⟩, ⟨o3, o4⟩, o5, o6⟩ := ho
      unfold insA at h
      generalize hop' : opM A0 k = op at *
      generalize hag : agM A0 k = ag at *
      -- a push goes on
      have push : ∀ x : Int, stB x → runP (insA A0) W b n (k + 1) (x :: st) = some r → ∃ s' A', l_M_reckonAll_10 (n + 1) m (v b) (v ((st.length : Int) + 1)) (v (k + 1)) (setJ s (m + 20) ((st.length : Int)).toNat (w x)) = some s' ∧ MR s' m A' ∧ AF scrM A0 A' ∧ Fr (inM m) s s' ∧ endM r A' := by
        intro x hx hr
        obtain ⟨s', A', q1, q2, q3, q4, q5⟩ := ih (k + 1) (x :: st) (setJ s (m + 20) ((st.length : Int)).toNat (w x)) (pu A 20 st.length x) r hr (by omega) (by simp; omega) (fun y hy => by
          rcases List.mem_cons.mp hy with e | e
          · rw [e]; exact hx
          · exact hst y e) (hM.sj 20 (by decide) rfl ⟨by omega, by show (st.length : Int) < 400; omega⟩) (ha.tr (AF.pu (Or.inl rfl))) (by rw [pu_row _ _ _ _ (by decide)]; exact h37) (stkm_push hS rfl)
        exact ⟨s', A', by rw [show ((x :: st).length : Int) = (st.length : Int) + 1 by simp] at q1; exact q1, q2, q3, (inM_j (by decide)).tr q4, q5⟩
      by_cases c0 : op = 0
      · have hi : insA A0 k = (0, ag) := by
          unfold insA insM
          rw [hop', if_pos c0, hag]
        unfold insA at hi
        rw [hop', hag] at hi
        rw [hi, if_pos rfl] at h
        unfold b_M_reckonAll_95
        rw [n20, if_pos (plt (by omega)), if_pos hM.t, nv0, if_pos (peq c0), hM.r36, hM.t36, hM.n36, nv1, v_add, v_add, if_pos ⟨rfl, v_inA (by omega) (by omega)⟩, v_ix (by omega), v_w (by omega)]
        exact push ag (by constructor <;> omega) h
      · by_cases c20 : op < 20
        · by_cases c19 : A0 0 19 = 0
          · have hi : insM (decide (A0 0 19 ≠ 0)) op ag = (1, op - 1) := by
              unfold insM
              rw [if_neg c0, if_pos c20, c19]
              rfl
            rw [hi, if_neg (show ¬ (1 : Int) = 0 by decide), if_pos rfl] at h
            have hw1 := hw.1 c19 op (by omega)
            have hwb := hW (op - 1) (by omega) (by omega)
            have hws := hM.a34 op (by omega)
            rw [ha 18 op (by omega), hw1] at hws
            unfold b_M_reckonAll_95
            rw [n20, if_pos (plt (by omega)), if_pos hM.t, nv0, if_neg (pne (by omega)), i19, if_pos (peq c19), hM.r34, hM.t34, hM.n34, hM.r36, hM.t36, hM.n36, nv1, v_add, v_add, if_pos ⟨rfl, v_inA (by omega) (by omega)⟩, if_pos ⟨rfl, v_inA (by omega) (by omega)⟩, v_ix (a := op) (by omega), hws, v_ix (by omega)]
            exact push _ hwb h
          · have hw2 := hw.2 c19
            by_cases c5 : op < 5
            · have hi : insM (decide (A0 0 19 ≠ 0)) op ag = (1, op - 1) := by
                unfold insM
                rw [if_neg c0, if_pos c20, if_pos (by simpa using c19), if_pos c5]
              rw [hi, if_neg (show ¬ (1 : Int) = 0 by decide), if_pos rfl] at h
              have hw1 := hw2.1 op (by omega)
              have hwb := hW (op - 1) (by omega) (by omega)
              have hws := hM.a35 op (by omega)
              rw [ha 19 op (by omega), hw1] at hws
              unfold b_M_reckonAll_95
              rw [n20, if_pos (plt (by omega)), if_pos hM.t, nv0, if_neg (pne (by omega)), i19, if_neg (pne (by omega)), nv5, if_pos (plt (by omega)), hM.r35, hM.t35, hM.n35, hM.r36, hM.t36, hM.n36, nv1, v_add, v_add, if_pos ⟨rfl, v_inA (by omega) (by omega)⟩, if_pos ⟨rfl, v_inA (by omega) (by omega)⟩, v_ix (a := op) (by omega), hws, v_ix (by omega)]
              exact push _ hwb h
            · have ho5 : ag < 8 := by omega
              have hPA : PgM (A 2) P := by rw [show A 2 = A0 2 from funext (fun z => ha 2 z (by omega))]; exact hP
              obtain ⟨hw3, hw4⟩ := hw2.2 ag (by omega)
              by_cases c6 : op = 5
              · have hi : insM (decide (A0 0 19 ≠ 0)) op ag = (1, 4 + ag) := by
                  unfold insM
                  rw [if_neg c0, if_pos c20, if_pos (by simpa using c19), if_neg c5, if_pos c6]
                rw [hi, if_neg (show ¬ (1 : Int) = 0 by decide), if_pos rfl] at h
                have hwb := hW (4 + ag) (by omega) (by omega)
                have hf := m_freeOf hM hPA hK (p := ag) (by omega)
                unfold b_M_reckonAll_95
                rw [n20, if_pos (plt (by omega)), if_pos hM.t, nv0, if_neg (pne (by omega)), i19, if_neg (pne (by omega)), nv5, if_neg (nlt (by omega)), if_pos (peq c6), hf, Option.bind_some, hM.r36, hM.t36, hM.n36, nv1, v_add, v_add, if_pos ⟨rfl, v_inA (by omega) (by omega)⟩, hw3, v_ix (by omega), v_w (by omega)]
                exact push _ hwb h
              · have hi : insM (decide (A0 0 19 ≠ 0)) op ag = (1, 12 + ag) := by
                  unfold insM
                  rw [if_neg c0, if_pos c20, if_pos (by simpa using c19), if_neg c5, if_neg c6]
                rw [hi, if_neg (show ¬ (1 : Int) = 0 by decide), if_pos rfl] at h
                have hwb := hW (12 + ag) (by omega) (by omega)
                have hp := hPA.2.1 ag (by omega)
                unfold b_M_reckonAll_95
                have hr3 := hM.a3 (5 + 102 * ag + 1) (by omega)
                rw [hp] at hr3
                rw [n20, if_pos (plt (by omega)), if_pos hM.t, nv0, if_neg (pne (by omega)), i19, if_neg (pne (by omega)), nv5, if_neg (nlt (by omega)), if_neg (pne (by omega)), m_pageAt, Option.bind_some, hM.r3, hM.t3, hM.n3, hM.r36, hM.t36, hM.n36, nv1, v_add, v_add, v_add, if_pos ⟨rfl, v_inA (by omega) (by omega)⟩, if_pos ⟨rfl, v_inA (by omega) (by omega)⟩, v_ix (a := 5 + 102 * ag + 1) (by omega), hr3, hw4, v_ix (by omega), v_w (by omega)]
                exact push _ hwb h
        · cases st with
          | nil =>
            exfalso
            have hi : (insM (decide (A0 0 19 ≠ 0)) op ag).1 ≠ 0 ∧ (insM (decide (A0 0 19 ≠ 0)) op ag).1 ≠ 1 := by
              unfold insM
              rw [if_neg c0, if_neg c20]
              split
              · exact ⟨by show op - 18 ≠ 0; omega, by show op - 18 ≠ 1; omega⟩
              · split
                · exact ⟨show (10 : Int) ≠ 0 by decide, show (10 : Int) ≠ 1 by decide⟩
                · split
                  · exact ⟨show (11 : Int) ≠ 0 by decide, show (11 : Int) ≠ 1 by decide⟩
                  · exact ⟨show (12 : Int) ≠ 0 by decide, show (12 : Int) ≠ 1 by decide⟩
            rw [if_neg hi.1, if_neg hi.2] at h
            cases h
          | cons y r0 =>
            have hy := hst y (List.mem_cons_self ..)
            have hr0 : ∀ x ∈ r0, stB x := fun x hx => hst x (List.mem_cons_of_mem _ hx)
            have hlen : ((y :: r0).length : Int) = r0.length + 1 := by simp
            rw [hlen] at hln ⊢
            have hy20 : sL s (m + 20) ((r0.length : Int)).toNat = w y := by
              rw [hM.a36 _ (by omega)]
              exact congrArg w hS.1
            by_cases c28 : op < 28
            · have hi : insM (decide (A0 0 19 ≠ 0)) op ag = (op - 18, ag) := by
                unfold insM
                rw [if_neg c0, if_neg c20, if_pos c28]
              rw [hi, if_neg (by show ¬ op - 18 = 0; omega), if_neg (by show ¬ op - 18 = 1; omega)] at h
              simp only [] at h
              rw [if_neg (by omega), if_pos (by omega)] at h
              cases r0 with
              | nil => cases h
              | cons x r1 =>
                simp only [] at h
                have hx := hr0 x (List.mem_cons_self ..)
                have hr1 : ∀ x ∈ r1, stB x := fun z hz => hr0 z (List.mem_cons_of_mem _ hz)
                have hlen1 : ((x :: r1).length : Int) = r1.length + 1 := by simp
                rw [hlen1] at hln hy20 ⊢
                have hx20 : sL s (m + 20) ((r1.length : Int)).toNat = w x := by
                  rw [hM.a36 _ (by omega)]
                  exact congrArg w hS.2.1
                obtain ⟨s1, e, z, q1, q2, q3, q4, q5⟩ := m_reckon (op := op) hM (by omega) hx hy h37
                have hs37 : MR (setJ s1 (m + 20) ((r1.length : Int)).toNat (w z)) m (pu (pu A 0 37 e) 20 r1.length z) := q2.sj 20 (by decide) rfl ⟨by omega, by show (r1.length : Int) < 400; omega⟩
                have f37 : AF scrM A0 (pu (pu A 0 37 e) 20 r1.length z) := (ha.tr (AF.pu (Or.inr (Or.inl ⟨rfl, rfl⟩)))).tr (AF.pu (Or.inl rfl))
                have g37 : Fr (inM m) s (setJ s1 (m + 20) ((r1.length : Int)).toNat (w z)) := q3.tr (inM_j (by decide))
                have k37 : sI s1 m 37 = v e := by rw [q2.i37, pu_eq]
                unfold b_M_reckonAll_95
                rw [n20, if_neg (nlt (by omega)), nv28, if_pos (plt (by omega)), if_pos hM.t, hM.r36, hM.t36, hM.n36, nv1, v_neg, v_add, v_sub, if_pos ⟨rfl, v_inA (by omega) (by omega)⟩, if_pos ⟨rfl, v_inA (by omega) (by omega)⟩]
                rw [show (r1.length : Int) + 1 + 1 + -1 - 1 = r1.length by omega, show (r1.length : Int) + 1 + 1 + -1 = r1.length + 1 by omega]
                have ev := v_ix (a := (r1.length : Int)) (by omega)
                have q1' : f_M_reckon s m (v op) (sL s (m + 20) (v (r1.length : Int)).toNatClampNeg) (sL s (m + 20) (v ((r1.length : Int) + 1)).toNatClampNeg) = some (w z, s1) := by
                  rw [ev, v_ix (a := (r1.length : Int) + 1) (by omega), hx20, hy20]
                  exact q1
                rw [q1', Option.bind_some]
                simp only [ev]
                rw [v_add]
                have fin : ∀ (s2 : AS) (A2 : MA) (e2 : Int), MR s2 m A2 → AF scrM A0 A2 → Fr (inM m) s s2 → A2 0 37 = e2 → A2 20 = pu A 20 r1.length z 20 → ((joinP (op - 18) x y = none ∧ e2 = 1) ∨ (joinP (op - 18) x y = some z ∧ e2 = 0)) → ∃ s' A', l_M_reckonAll_10 (n + 1) m (v b) (v ((r1.length : Int) + 1)) (v (k + 1)) s2 = some s' ∧ MR s' m A' ∧ AF scrM A0 A' ∧ Fr (inM m) s s' ∧ endM r A' := by
                  intro s2 A2 e2 g1 g2 g3 g4 g5 g6
                  have hst2 : StkM (A2 20) (z :: r1) := by rw [g5]; exact stkm_push hS.2.2 rfl
                  have hl2 : ((z :: r1).length : Int) = (r1.length : Int) + 1 := by simp
                  rcases g6 with ⟨g6, g7⟩ | ⟨g6, g7⟩
                  · rw [g6] at h
                    cases h
                    obtain ⟨s', A', u1, u2, u3, u4, u5, u6⟩ := m_rkend (A0 := A0) g1 g2 (by omega) hst2
                    rw [hl2] at u1
                    refine ⟨s', A', ?_, u2, u3, g3.tr u4, by show A' 0 37 = 1; rw [u5, g4, g7]⟩
                    have i37 := g1.i37
                    rw [g4, g7] at i37
                    show b_M_reckonAll_10 _ _ _ _ _ _ = _
                    unfold b_M_reckonAll_10
                    by_cases hkb : k + 1 < b
                    · rw [if_pos (plt (by omega)), if_pos g1.t, i37, if_neg (show ¬ v 1 = nI 0 by decide)]
                      exact u1
                    · rw [if_neg (nlt (by omega))]
                      exact u1
                  · rw [g6] at h
                    have hz := joinP_b g6
                    obtain ⟨s', A', u1, u2, u3, u4, u5⟩ := ih (k + 1) (z :: r1) s2 A2 r h (by omega) (by rw [hl2]; omega) (fun y hy => by
                      rcases List.mem_cons.mp hy with e | e
                      · rw [e]; constructor <;> omega
                      · exact hr1 y e) g1 g2 (by rw [g4, g7]) hst2
                    rw [hl2] at u1
                    exact ⟨s', A', u1, u2, u3, g3.tr u4, u5⟩
                rw [q2.t36, q2.n36, if_pos ⟨rfl, v_inA (by omega) (by omega)⟩, if_pos q2.t, k37, nv0]
                rcases q5 with ⟨j1, j2⟩ | ⟨j1, j2⟩
                · subst j2
                  rw [if_neg (show ¬ v 1 = v 0 by decide), if_pos ⟨q2.t, Or.inr trivial⟩]
                  exact fin _ _ 1 (hs37.s0 (k := 37) (z := 37) rfl (by decide)) (f37.tr (AF.pu (Or.inr (Or.inl ⟨rfl, rfl⟩)))) (g37.tr (Fr.si ⟨by omega, by omega⟩)) (pu_eq _ _ _ _) (by
                    funext y
                    rw [pu_row _ _ _ _ (by decide)]
                    unfold pu
                    rfl) (Or.inl ⟨by unfold joinP; rw [j1], rfl⟩)
                · subst j2
                  rw [if_pos rfl, q2.r36, q2.t36, q2.n36, if_pos ⟨rfl, v_inA (by omega) (by omega)⟩, sL_setJ_eq, wMil, lwMil, m_in q4 (by omega) (by omega), Option.bind_some]
                  by_cases hz : -1000000000 ≤ z ∧ z ≤ 1000000000
                  · rw [bi_t hz, if_neg (show ¬ v 1 = v 0 by decide), if_pos ⟨q2.t, Or.inl rfl⟩]
                    exact fin _ _ 0 (hs37.s0 (k := 37) (z := 37) rfl (by decide)) (f37.tr (AF.pu (Or.inr (Or.inl ⟨rfl, rfl⟩)))) (g37.tr (Fr.si ⟨by omega, by omega⟩)) (pu_eq _ _ _ _) (by
                      funext y
                      rw [pu_row _ _ _ _ (by decide)]
                      unfold pu
                      rfl) (Or.inr ⟨by unfold joinP; rw [j1]; show (if z < -1000000000 ∨ 1000000000 < z then none else some z) = _; rw [if_neg (by omega)], rfl⟩)
                  · rw [bi_f hz, if_pos (show v 0 = v 0 from rfl), if_pos ⟨q2.t, Or.inr rfl⟩]
                    exact fin _ _ 1 (hs37.s0 (k := 37) (z := 37) rfl (by decide)) (f37.tr (AF.pu (Or.inr (Or.inl ⟨rfl, rfl⟩)))) (g37.tr (Fr.si ⟨by omega, by omega⟩)) (pu_eq _ _ _ _) (by
                      funext y
                      rw [pu_row _ _ _ _ (by decide)]
                      unfold pu
                      rfl) (Or.inl ⟨by unfold joinP; rw [j1]; show (if z < -1000000000 ∨ 1000000000 < z then none else some z) = _; rw [if_pos (by omega)], rfl⟩)
            · unfold b_M_reckonAll_95
              rw [n20, if_neg (nlt (by omega)), nv28, if_neg (nlt (by omega))]
              by_cases c28' : op = 28
              · have hi : insM (decide (A0 0 19 ≠ 0)) op ag = (10, ag) := by
                  unfold insM
                  rw [if_neg c0, if_neg c20, if_neg c28, if_pos c28']
                rw [hi, if_neg (show ¬ (10 : Int) = 0 by decide), if_neg (show ¬ (10 : Int) = 1 by decide)] at h
                simp only [if_true] at h
                rw [if_pos (peq c28'), if_pos hM.t, hM.r36, hM.t36, hM.n36, nv1, v_sub, v_add, show (r0.length : Int) + 1 - 1 = r0.length by omega, if_pos ⟨rfl, v_inA (by omega) (by omega)⟩, v_ix (by omega), hy20, lw1, w_sub]
                obtain ⟨s', A', u1, u2, u3, u4, u5⟩ := ih (k + 1) ((1 - y) :: r0) _ _ r h (by omega) (by simp; omega) (fun x hx => by
                  rcases List.mem_cons.mp hx with e | e
                  · rw [e]; constructor <;> omega
                  · exact hr0 x e) (hM.sj (x := 1 - y) (z := r0.length) 20 (by decide) rfl ⟨by omega, by show (r0.length : Int) < 400; omega⟩) (ha.tr (AF.pu (Or.inl rfl))) (by rw [pu_row _ _ _ _ (by decide)]; exact h37) (stkm_push hS.2 rfl)
                exact ⟨s', A', by rw [show (((1 - y) :: r0).length : Int) = (r0.length : Int) + 1 by simp] at u1; exact u1, u2, u3, (inM_j (by decide)).tr u4, u5⟩
              · have hi : insM (decide (A0 0 19 ≠ 0)) op ag = (if op = 29 then 11 else 12, ag) := by
                  unfold insM
                  rw [if_neg c0, if_neg c20, if_neg c28, if_neg c28']
                  split <;> rfl
                have hj : (if op = 29 then (0 : Int) else 1) = (if (if op = 29 then (11 : Int) else 12) = 11 then 0 else 1) := by
                  by_cases e : op = 29
                  · rw [if_pos e, if_pos e, if_pos rfl]
                  · rw [if_neg e, if_neg e, if_neg (by decide)]
                rw [hi, if_neg (show ¬ (if op = 29 then (11 : Int) else 12) = 0 by split <;> decide), if_neg (show ¬ (if op = 29 then (11 : Int) else 12) = 1 by split <;> decide)] at h
                simp only [] at h
                rw [if_neg (show ¬ (if op = 29 then (11 : Int) else 12) = 10 by split <;> decide), if_neg (show ¬ (if op = 29 then (11 : Int) else 12) < 10 by split <;> decide), ← hj] at h
                have o6' := o6 (by omega)
                rw [if_neg (pne (by omega)), if_pos hM.t, hM.r36, hM.t36, hM.n36, nv1, v_sub, v_add, show (r0.length : Int) + 1 - 1 = r0.length by omega, if_pos ⟨rfl, v_inA (by omega) (by omega)⟩, v_ix (by omega), hy20]
                unfold b_M_reckonAll_317
                simp (disch := omega) only [nv29, nv0, v_inj, lw0, lw1, wif]
                by_cases hy1 : y = (if op = 29 then 0 else 1)
                · rw [if_pos hy1] at h
                  rw [if_pos (by rw [wc_eq (by omega) (by split <;> omega)]; exact hy1)]
                  rw [show max (k + 1) ag = ag by omega] at h
                  obtain ⟨s', A', u1, u2, u3, u4, u5⟩ := ih ag (y :: r0) _ _ r h (by omega) (by rw [hlen]; omega) hst hM ha h37 hS
                  rw [hlen] at u1
                  exact ⟨s', A', u1, u2, u3, u4, u5⟩
                · rw [if_neg hy1] at h
                  rw [if_neg (by rw [wc_eq (by omega) (by split <;> omega)]; exact hy1)]
                  obtain ⟨s', A', u1, u2, u3, u4, u5⟩ := ih (k + 1) r0 _ _ r h (by omega) (by omega) hr0 hM ha h37 hS.2
                  refine ⟨s', A', ?_, u2, u3, u4, u5⟩
                  rw [nv1, v_neg, v_add, show (r0.length : Int) + 1 + -1 = r0.length by omega]
                  exact u1
theorem m_reckonAll {s : AS} {m : Nat} {A : MA} {P : PG} {W : Int → Int} {a b : Int} {f : SEM} (h : MR s m A) (hK : PgK P) (hP : PgM (A 2) P) (hw : wrdM A P W) (hb : 0 ≤ a ∧ 0 ≤ b ∧ b ≤ 400) (hop : ∀ z, 0 ≤ z → z < b → opOK A z) (hl : A 0 19 = 0 → 0 ≤ A 0 33 ∧ A 0 33 ≤ 5321) (h19 : r32 (A 0 19)) (hW : ∀ z, 0 ≤ z → z < 20 → stB (W z)) (hS : Seg (insA A) a b f) :
    ∃ s' A', f_M_reckonAll s m (v a) (v b) = some s' ∧ MR s' m A' ∧ AF scrM A A' ∧ Fr (inM m) s s' ∧ (match f W with | none => A' 0 37 = 1 | some z => A' 0 37 = 0 ∧ A' 28 38 = z) := by
  have ab := hS.1
  have hr := runP_mo _ (fuel - 1 - 1000) _ _ _ (hS.run W (n := 1000) (by omega))
  rw [show 1000 + (fuel - 1 - 1000) = fuel - 1 by unfold fuel; omega] at hr
  have h1 := h.s0 (k := 37) (z := 37) (x := 0) rfl (by decide)
  have e0 : AF scrM A (pu A 0 37 0) := AF.pu (Or.inr (Or.inl ⟨rfl, rfl⟩))
  obtain ⟨s', A', q1, q2, q3, q4, q5⟩ := m_rkL hK hP hw hb.2 hop hl h19 hW (fuel - 1) a [] _ _ _ hr (by omega) (by show ((0 : Nat) : Int) ≤ a; omega) (fun x hx => by cases hx) h1 e0 (pu_eq _ _ _ _) trivial
  refine ⟨s', A', ?_, q2, q3, (Fr.si ⟨by omega, by omega⟩).tr q4, ?_⟩
  · unfold f_M_reckonAll
    rw [if_pos ⟨h.t, Or.inl rfl⟩]
    rw [show fuel - 1 + 1 = fuel by unfold fuel; omega] at q1
    exact q1
  · cases hf : f W with
    | none => rw [hf] at q5; exact q5
    | some z => rw [hf] at q5; exact q5
