/-! THE STACK MACHINE: the reference's loop -/
def endM (r : Option (List Int)) (A : MA) : Prop := match r with
  | none => A 0 37 = 1
  | some l => A 0 37 = 0 ∧ A 28 38 = l.getLastD 0
theorem m_rkend {s : AS} {m : Nat} {A0 A : MA} {st : List Int} (h : MR s m A) (ha : AF scrM A0 A) (hl : (st.length : Int) ≤ 1000) (hst : ∀ x ∈ st, stB x) (hk : StkM (A 20) st) : ∃ s' A', b_M_reckonAll_334 m (v st.length) s = some s' ∧ MR s' m A' ∧ AF scrM A0 A' ∧ Fr (inM m) s s' ∧ A' 0 37 = A 0 37 ∧ A' 28 38 = st.getLastD 0 := by
  unfold b_M_reckonAll_334
  simp (disch := omega) only [nv0, lw0, v_lt, h.t, h.r36, h.t36, h.n36, v_inT, v_ix, h.a20, if_true, and_self]
  by_cases e : (0 : Int) < st.length
  · rw [if_pos e, hk.last (by omega)]
    exact ⟨_, _, rfl, h.s28 (k := 38) (z := 38) rfl (by decide), ha.tr (AF.pu (Or.inr (Or.inr ⟨rfl, rfl⟩))), Fr.sj ⟨by omega, by omega⟩, pu_row _ _ _ _ (by decide) _, pu_eq _ _ _ _⟩
  · rw [if_neg e]
    have : st = [] := List.length_eq_zero_iff.mp (by omega)
    subst this
    exact ⟨_, _, rfl, h.s28 (k := 38) (z := 38) rfl (by decide), ha.tr (AF.pu (Or.inr (Or.inr ⟨rfl, rfl⟩))), Fr.sj ⟨by omega, by omega⟩, pu_row _ _ _ _ (by decide) _, pu_eq _ _ _ _⟩
theorem m_rkstep {s : AS} {m n : Nat} {A0 A : MA} {b k len : Int} (hb : b ≤ 400) (hl : A0 0 19 = 0 → 0 ≤ A0 0 33 ∧ A0 0 33 ≤ 5321) (ho : opOK A0 k) (hk : 0 ≤ k ∧ k < b) (h : MR s m A) (ha : AF scrM A0 A) (h37 : A 0 37 = 0) (h19 : r32 (A0 0 19)) :
    l_M_reckonAll_10 (n + 1) m (v b) (v len) (v k) s = b_M_reckonAll_95 (l_M_reckonAll_10 n) m (v b) (v len) (v k) (v (opM A0 k)) (v (agM A0 k)) s := by
  have e19 : A 0 19 = A0 0 19 := ha 0 19 (by omega)
  have e33 : A 0 33 = A0 0 33 := ha 0 33 (by omega)
  have e2 : ∀ z, A 2 z = A0 2 z := fun z => ha 2 z (by omega)
  have e11 : ∀ z, A 11 z = A0 11 z := fun z => ha 11 z (by omega)
  have e12 : ∀ z, A 12 z = A0 12 z := fun z => ha 12 z (by omega)
  have i37 := h.i37
  have i19 := h.i19
  have i33 := h.i33
  rw [h37] at i37
  rw [e19] at i19
  rw [e33] at i33
  by_cases c : A0 0 19 = 0
  · have hl := hl c
    simp (disch := omega) only [l_M_reckonAll_10, b_M_reckonAll_10, b_M_reckonAll_57, v_lt, nv0, h.t, i37, i19, i33, h.r3, h.t3, h.n3, v_inT, v_ix, h.a2, nv98, nv2, nv1, v_add, v_mul, v_inj, if_true, and_self, e2]
    rw [if_pos (by omega), if_pos c, if_pos c]
    unfold opM agM
    rw [if_pos c, if_pos c]
  · simp (disch := omega) only [l_M_reckonAll_10, b_M_reckonAll_10, b_M_reckonAll_57, v_lt, nv0, h.t, i37, i19, h.r23, h.t23, h.n23, h.r24, h.t24, h.n24, v_inT, v_ix, h.a11, h.a12, v_inj, if_true, and_self, e11, e12]
    rw [if_pos (by omega), if_neg c, if_neg c]
    unfold opM agM
    rw [if_neg c, if_neg c]
theorem m_rkL {m : Nat} {A0 : MA} {P : PG} {W : Int → Int} {b : Int} (hK : PgK P) (hP : PgM (A0 2) P) (hw : wrdM A0 P W) (hb : 0 ≤ b ∧ b ≤ 400) (hop : ∀ z, 0 ≤ z → z < b → opOK A0 z) (hl : A0 0 19 = 0 → 0 ≤ A0 0 33 ∧ A0 0 33 ≤ 5321) (h19 : r32 (A0 0 19)) (hW : ∀ z, 0 ≤ z → z < 20 → stB (W z)) :
    ∀ (n : Nat) (k : Int) (st : List Int) (s : AS) (A : MA) (r : Option (List Int)), runP (insA A0) W b n k st = some r → 0 ≤ k ∧ k ≤ 1000 → (st.length : Int) ≤ k → (∀ x ∈ st, stB x) → MR s m A → AF scrM A0 A → A 0 37 = 0 → StkM (A 20) st →
    ∃ s' A', l_M_reckonAll_10 n m (v b) (v st.length) (v k) s = some s' ∧ MR s' m A' ∧ AF scrM A0 A' ∧ Fr (inM m) s s' ∧ endM r A' := by
  intro n
  induction n with
  | zero => intro k st s A r h; cases h
  | succ n ih =>
    intro k st s A r h hk hln hst hM ha h37 hS
    unfold runP at h
    by_cases hbi : b ≤ k
    · rw [if_pos hbi] at h
      cases h
      have hx : l_M_reckonAll_10 (n + 1) m (v b) (v st.length) (v k) s = b_M_reckonAll_334 m (v st.length) s := by
        simp (disch := omega) only [l_M_reckonAll_10, b_M_reckonAll_10, v_lt]
        rw [if_neg (by omega)]
      rw [hx]
      obtain ⟨s', A', q1, q2, q3, q4, q5, q6⟩ := m_rkend hM ha (by omega) hst hS
      exact ⟨s', A', q1, q2, q3, q4, by rw [q5]; exact h37, q6⟩
    · rw [if_neg hbi] at h
      have ho := hop k hk.1 (by omega)
      rw [m_rkstep hb.2 hl ho ⟨hk.1, by omega⟩ hM ha h37 h19]
      have e19 : A 0 19 = A0 0 19 := ha 0 19 (by omega)
      have i19 := hM.i19
      rw [e19] at i19
      obtain ⟨⟨o1, o2⟩, ⟨o3, o4⟩, o5, o6⟩ := ho
      unfold insA at h
      generalize hop' : opM A0 k = op at *
      generalize hag : agM A0 k = ag at *
      -- a push goes on
      have push : ∀ x : Int, stB x → runP (insA A0) W b n (k + 1) (x :: st) = some r → ∃ s' A', l_M_reckonAll_10 n m (v b) (v ((st.length : Int) + 1)) (v (k + 1)) (setJ s (m + 20) ((st.length : Int)).toNat (w x)) = some s' ∧ MR s' m A' ∧ AF scrM A0 A' ∧ Fr (inM m) s s' ∧ endM r A' := by
        intro x hx hr
        obtain ⟨s', A', q1, q2, q3, q4, q5⟩ := ih (k + 1) (x :: st) (setJ s (m + 20) ((st.length : Int)).toNat (w x)) (pu A 20 st.length x) r hr (by omega) (by simp; omega) (fun y hy => by
          rcases List.mem_cons.mp hy with e | e
          · rw [e]; exact hx
          · exact hst y e) (hM.sj 20 (by decide) rfl ⟨by omega, by show (st.length : Int) < 400; omega⟩) (ha.tr (AF.pu (Or.inl rfl))) (by rw [pu_row _ _ _ _ (by decide)]; exact h37) (stkm_push hS rfl)
        exact ⟨s', A', by rw [show ((x :: st).length : Int) = (st.length : Int) + 1 by simp] at q1; exact q1, q2, q3, (inM_j (by decide)).tr q4, q5⟩
      by_cases c0 : op = 0
      · have hi : insA A0 k = (0, ag) := by
          unfold insA insM
          rw [hop', if_pos c0, hag]
        unfold insA at hi
        rw [hop', hag] at hi
        rw [hi, if_pos rfl] at h
        simp (disch := omega) only [b_M_reckonAll_95, show nI 20 = v 20 from rfl, v_lt, hM.t, nv0, nv1, v_inj, hM.r36, hM.t36, hM.n36, v_inT, v_ix, v_w, v_add, if_true, and_self]
        rw [if_pos (by omega), if_pos c0]
        exact push ag (by constructor <;> omega) h
      · by_cases c20 : op < 20
        · by_cases c19 : A0 0 19 = 0
          · have hi : insM (decide (A0 0 19 ≠ 0)) op ag = (1, op - 1) := by
              unfold insM
              rw [if_neg c0, if_pos c20, c19]
              rfl
            rw [hi, if_neg (by decide), if_pos rfl] at h
            have hw1 := hw.1 c19 op (by omega)
            have hwb := hW (op - 1) (by omega) (by omega)
            have hws := hM.a18 op (by omega)
            rw [ha 18 op (by omega), hw1] at hws
            simp (disch := omega) only [b_M_reckonAll_95, show nI 20 = v 20 from rfl, v_lt, hM.t, nv0, nv1, v_inj, hM.r36, hM.t36, hM.n36, hM.r34, hM.t34, hM.n34, i19, v_inT, v_ix, v_add, if_true, and_self]
            rw [if_pos (by omega), if_neg c0, if_pos c19, hws]
            exact push _ hwb h
          · have hw2 := hw.2 c19
            by_cases c5 : op < 5
            · have hi : insM (decide (A0 0 19 ≠ 0)) op ag = (1, op - 1) := by
                unfold insM
                rw [if_neg c0, if_pos c20, if_pos (by simpa using c19), if_pos c5]
              rw [hi, if_neg (by decide), if_pos rfl] at h
              have hw1 := hw2.1 op (by omega)
              have hwb := hW (op - 1) (by omega) (by omega)
              have hws := hM.a19 op (by omega)
              rw [ha 19 op (by omega), hw1] at hws
              simp (disch := omega) only [b_M_reckonAll_95, show nI 20 = v 20 from rfl, v_lt, hM.t, nv0, nv1, nv5, v_inj, hM.r36, hM.t36, hM.n36, hM.r35, hM.t35, hM.n35, i19, v_inT, v_ix, v_add, if_true, and_self]
              rw [if_pos (by omega), if_neg c0, if_neg c19, if_pos c5, hws]
              exact push _ hwb h
            · have ho5 : ag < 8 := by omega
              have hPA : PgM (A 2) P := by rw [show A 2 = A0 2 from funext (fun z => ha 2 z (by omega))]; exact hP
              obtain ⟨hw3, hw4⟩ := hw2.2 ag (by omega)
              by_cases c6 : op = 5
              · have hi : insM (decide (A0 0 19 ≠ 0)) op ag = (1, 4 + ag) := by
                  unfold insM
                  rw [if_neg c0, if_pos c20, if_pos (by simpa using c19), if_neg c5, if_pos c6]
                rw [hi, if_neg (by decide), if_pos rfl] at h
                have hwb := hW (4 + ag) (by omega) (by omega)
                have hf := m_freeOf hM hPA hK (p := ag) (by omega)
                simp (disch := omega) only [b_M_reckonAll_95, show nI 20 = v 20 from rfl, v_lt, hM.t, nv0, nv1, nv5, v_inj, hM.r36, hM.t36, hM.n36, i19, v_inT, v_ix, v_add, if_true, and_self, hf, hw3, Option.bind_some]
                rw [if_pos (by omega), if_neg c0, if_neg c19, if_neg c5, if_pos c6, v_w (by omega)]
                exact push _ hwb h
              · have hi : insM (decide (A0 0 19 ≠ 0)) op ag = (1, 12 + ag) := by
                  unfold insM
                  rw [if_neg c0, if_pos c20, if_pos (by simpa using c19), if_neg c5, if_neg c6]
                rw [hi, if_neg (by decide), if_pos rfl] at h
                have hwb := hW (12 + ag) (by omega) (by omega)
                have hp := hPA.2.1 ag (by omega)
                simp (disch := omega) only [b_M_reckonAll_95, show nI 20 = v 20 from rfl, v_lt, hM.t, nv0, nv1, nv5, v_inj, hM.r36, hM.t36, hM.n36, hM.r3, hM.t3, hM.n3, hM.a2, i19, v_inT, v_ix, v_add, if_true, and_self, m_pageAt, hp, hw4, Option.bind_some]
                rw [if_pos (by omega), if_neg c0, if_neg c19, if_neg c5, if_neg c6, v_w (by omega)]
                exact push _ hwb h
        · cases st with
          | nil =>
            exfalso
            have hi : (insM (decide (A0 0 19 ≠ 0)) op ag).1 ≠ 0 ∧ (insM (decide (A0 0 19 ≠ 0)) op ag).1 ≠ 1 := by
              unfold insM
              rw [if_neg c0, if_neg c20]
              split
              · exact ⟨by show op - 18 ≠ 0; omega, by show op - 18 ≠ 1; omega⟩
              · split
                · exact ⟨by decide, by decide⟩
                · split <;> exact ⟨by decide, by decide⟩
            rw [if_neg hi.1, if_neg hi.2] at h
            cases h
          | cons y r0 =>
            have hy := hst y (List.mem_cons_self ..)
            have hr0 : ∀ x ∈ r0, stB x := fun x hx => hst x (List.mem_cons_of_mem _ hx)
            have hlen : ((y :: r0).length : Int) = r0.length + 1 := by simp
            rw [hlen] at hln ⊢
            have hy20 : sL s (m + 20) ((r0.length : Int)).toNat = w y := by
              rw [hM.a20 _ (by omega)]
              exact congrArg w hS.1
            by_cases c28 : op < 28
            · have hi : insM (decide (A0 0 19 ≠ 0)) op ag = (op - 18, ag) := by
                unfold insM
                rw [if_neg c0, if_neg c20, if_pos c28]
              rw [hi, if_neg (by show ¬ op - 18 = 0; omega), if_neg (by show ¬ op - 18 = 1; omega)] at h
              simp only [] at h
              rw [if_neg (by omega), if_pos (by omega)] at h
              cases r0 with
              | nil => cases h
              | cons x r1 =>
                simp only [] at h
                have hx := hr0 x (List.mem_cons_self ..)
                have hr1 : ∀ x ∈ r1, stB x := fun z hz => hr0 z (List.mem_cons_of_mem _ hz)
                have hlen1 : ((x :: r1).length : Int) = r1.length + 1 := by simp
                rw [hlen1] at hln hy20 ⊢
                have hx20 : sL s (m + 20) ((r1.length : Int)).toNat = w x := by
                  rw [hM.a20 _ (by omega)]
                  exact congrArg w hS.2.1
                obtain ⟨s1, e, z, q1, q2, q3, q4, q5⟩ := m_reckon (op := op) hM (by omega) hx hy h37
                have hs37 : MR (setJ s1 (m + 20) ((r1.length : Int)).toNat (w z)) m (pu (pu A 0 37 e) 20 r1.length z) := q2.sj 20 (by decide) rfl ⟨by omega, by show (r1.length : Int) < 400; omega⟩
                have f37 : AF scrM A0 (pu (pu A 0 37 e) 20 r1.length z) := (ha.tr (AF.pu (Or.inr (Or.inl ⟨rfl, rfl⟩)))).tr (AF.pu (Or.inl rfl))
                have g37 : Fr (inM m) s (setJ s1 (m + 20) ((r1.length : Int)).toNat (w z)) := q3.tr (inM_j (by decide))
                have k37 : sI s1 m 37 = v e := by rw [q2.i37, pu_eq]
                simp (disch := omega) only [b_M_reckonAll_95, show nI 20 = v 20 from rfl, v_lt, hM.t, nv0, nv1, nv28, v_inj, hM.r36, hM.t36, hM.n36, v_inT, v_add, v_sub, if_true, and_self]
                rw [if_neg c20, if_pos c28]
                rw [show (r1.length : Int) + 1 + 1 + -1 - 1 = r1.length by omega, show (r1.length : Int) + 1 + 1 + -1 = r1.length + 1 by omega]
                rw [v_ix (a := (r1.length : Int)) (by omega), v_ix (a := (r1.length : Int) + 1) (by omega), hx20, hy20]
                rw [nv1, v_neg, v_add, q1, Option.bind_some]
                sorry
            · sorry
