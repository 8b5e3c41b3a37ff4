/-! THE REFERENCE: what is kept, put back, remembered -/
def Un (A : MA) (k : Int) : Int → Int := fun z => A 5 (816 * k + (z - 5))
theorem PgM.cg {R S : Int → Int} {P : PG} (h : PgM R P) (he : ∀ z, 5 ≤ z → z < 821 → S z = R z) : PgM S P := by
  obtain ⟨h1, h2, h3, h4, h5, h6, h7⟩ := h
  refine ⟨fun q hq => by rw [he _ (by omega) (by omega)]; exact h1 q hq, fun q hq => by rw [he _ (by omega) (by omega)]; exact h2 q hq, fun q j hq => by rw [he _ (by omega) (by omega)]; exact h3 q j hq, fun q j hq => by rw [he _ (by omega) (by omega)]; exact h4 q j hq, fun q j hq => by rw [he _ (by omega) (by omega)]; exact h5 q j hq, fun q j hq => by rw [he _ (by omega) (by omega)]; exact h6 q j hq, fun q j hq => by rw [he _ (by omega) (by omega)]; exact h7 q j hq⟩
abbrev scrU (k : Int) : Nat → Int → Prop := fun j z => j = 5 ∧ 816 * k ≤ z ∧ z < 816 * k + 816
section MU
variable {m : Nat}
theorem m_keepL {c : Int} (hc : 0 ≤ c ∧ c ≤ 18) : ∀ (k n : Nat) (i : Int) (s : AS) (A A0 : MA), i + k = 816 → 0 ≤ i → k < n → MR s m A → AF (scrU c) A0 A → (∀ y, 0 ≤ y → y < i → A 5 (816 * c + y) = A0 2 (5 + y)) →
    ∃ s' A', l_M_keepAll_2 n m (v c) (v i) s = some s' ∧ MR s' m A' ∧ AF (scrU c) A0 A' ∧ (∀ y, 0 ≤ y → y < 816 → A' 5 (816 * c + y) = A0 2 (5 + y)) ∧ Fr (inM m) s s' := by
  intro k
  induction k with
  | zero =>
    intro n i s A A0 hi h0 hn h hA hy
    obtain ⟨n, rfl⟩ : ∃ m, n = m + 1 := ⟨n - 1, by omega⟩
    refine ⟨s, A, ?_, h, hA, fun y y0 y1 => hy y y0 (by omega), Fr.rf _ _⟩
    show b_M_keepAll_2 _ _ _ _ _ = _
    unfold b_M_keepAll_2
    rw [nv816, if_neg (nlt (by omega))]
  | succ k ih =>
    intro n i s A A0 hi h0 hn h hA hy
    obtain ⟨n, rfl⟩ : ∃ m, n = m + 1 := ⟨n - 1, by omega⟩
    have r := h.a3 (5 + i) (by omega)
    rw [hA 2 _ (by omega)] at r
    have hw := h.si 5 (by decide) (by decide) (z := 816 * c + i) (x := A0 2 (5 + i)) ⟨by omega, by show 816 * c + i < 15504; omega⟩
    obtain ⟨s', A', q1, q2, q3, q4, q5⟩ := ih n (i + 1) _ _ A0 (by omega) (by omega) (by omega) hw (hA.tr (AF.pu ⟨rfl, by omega, by omega⟩)) (fun y y0 y1 => by
      rw [pu_v]
      by_cases e : y = i
      · rw [if_pos (by omega), e]
      · rw [if_neg (by omega)]; exact hy y y0 (by omega))
    refine ⟨s', A', ?_, q2, q3, q4, (inM_s (by decide)).tr q5⟩
    show b_M_keepAll_2 _ _ _ _ _ = _
    unfold b_M_keepAll_2
    rw [nv816, if_pos (plt (by omega)), if_pos h.t, h.r3, h.t3, h.n3, nv5, v_add, if_pos ⟨rfl, v_inA (by omega) (by omega)⟩, h.r6, h.t6, h.n6, v_mul, v_add, if_pos ⟨rfl, v_inA (by omega) (by omega)⟩, v_ix (by omega), v_ix (by omega), r, nv1, v_add]
    exact q1
theorem m_keepAll {s : AS} {A : MA} {c : Int} (h : MR s m A) (hc : 0 ≤ c ∧ c ≤ 18) : ∃ s' A', f_M_keepAll s m (v c) = some s' ∧ MR s' m A' ∧ AF (scrU c) A A' ∧ (∀ P, PgM (A 2) P → PgM (Un A' c) P) ∧ Fr (inM m) s s' := by
  obtain ⟨s', A', q1, q2, q3, q4, q5⟩ := m_keepL hc 816 fuel 0 s A A (by omega) (by omega) (by unfold fuel; omega) h (AF.rf _ _) (fun y y0 y1 => by omega)
  exact ⟨s', A', q1, q2, q3, fun P hP => hP.cg (fun z z0 z1 => by
    show A' 5 (816 * c + (z - 5)) = A 2 z
    rw [q4 (z - 5) (by omega) (by omega)]
    congr 1
    omega), q5⟩
theorem m_backL {c : Int} (hc : 0 ≤ c ∧ c ≤ 18) : ∀ (k n : Nat) (i : Int) (s : AS) (A A0 : MA), i + k = 816 → 0 ≤ i → k < n → MR s m A → AF scrQ A0 A → (∀ y, 0 ≤ y → y < i → A 2 (5 + y) = A0 5 (816 * c + y)) →
    ∃ s' A', l_M_putBack_2 n m (v c) (v i) s = some s' ∧ MR s' m A' ∧ AF scrQ A0 A' ∧ (∀ y, 0 ≤ y → y < 816 → A' 2 (5 + y) = A0 5 (816 * c + y)) ∧ Fr (inM m) s s' := by
  intro k
  induction k with
  | zero =>
    intro n i s A A0 hi h0 hn h hA hy
    obtain ⟨n, rfl⟩ : ∃ m, n = m + 1 := ⟨n - 1, by omega⟩
    refine ⟨s, A, ?_, h, hA, fun y y0 y1 => hy y y0 (by omega), Fr.rf _ _⟩
    show b_M_putBack_2 _ _ _ _ _ = _
    unfold b_M_putBack_2
    rw [nv816, if_neg (nlt (by omega))]
  | succ k ih =>
    intro n i s A A0 hi h0 hn h hA hy
    obtain ⟨n, rfl⟩ : ∃ m, n = m + 1 := ⟨n - 1, by omega⟩
    have r := h.a6 (816 * c + i) (by omega)
    rw [hA 5 _ (by omega)] at r
    have hw := h.si 2 (by decide) (by decide) (z := 5 + i) (x := A0 5 (816 * c + i)) ⟨by omega, by show 5 + i < 6221; omega⟩
    obtain ⟨s', A', q1, q2, q3, q4, q5⟩ := ih n (i + 1) _ _ A0 (by omega) (by omega) (by omega) hw (hA.tr (AF.pu ⟨rfl, by omega, by omega⟩)) (fun y y0 y1 => by
      rw [pu_v]
      by_cases e : y = i
      · rw [if_pos (by omega), e]
      · rw [if_neg (by omega)]; exact hy y y0 (by omega))
    refine ⟨s', A', ?_, q2, q3, q4, (inM_s (by decide)).tr q5⟩
    show b_M_putBack_2 _ _ _ _ _ = _
    unfold b_M_putBack_2
    rw [nv816, if_pos (plt (by omega)), if_pos h.t, h.r6, h.t6, h.n6, v_mul, v_add, if_pos ⟨rfl, v_inA (by omega) (by omega)⟩, h.r3, h.t3, h.n3, nv5, v_add, if_pos ⟨rfl, v_inA (by omega) (by omega)⟩, v_ix (by omega), v_ix (by omega), r, nv1, v_add]
    exact q1
theorem m_putBack {s : AS} {A : MA} {c : Int} (h : MR s m A) (hc : 0 ≤ c ∧ c ≤ 18) : ∃ s' A', f_M_putBack s m (v c) = some s' ∧ MR s' m A' ∧ AF scrQ A A' ∧ (∀ P, PgM (Un A c) P → PgM (A' 2) P) ∧ Fr (inM m) s s' := by
  obtain ⟨s', A', q1, q2, q3, q4, q5⟩ := m_backL hc 816 fuel 0 s A A (by omega) (by omega) (by unfold fuel; omega) h (AF.rf _ _) (fun y y0 y1 => by omega)
  exact ⟨s', A', q1, q2, q3, fun P hP => hP.cg (fun z z0 z1 => by
    show A' 2 z = A 5 (816 * c + (z - 5))
    rw [← q4 (z - 5) (by omega) (by omega)]
    congr 1
    omega), q5⟩
/-- what can be undone, the oldest first -/
abbrev LGS : Type := List (Int × PG)
def LogM (A : MA) (L : LGS) : Prop := A 0 8 = L.length ∧ L.length ≤ 16 ∧ ∀ (i : Nat) (x : Int × PG), L[i]? = some x → A 6 i = x.1 ∧ PgM (Un A i) x.2
def pushL (L : LGS) (x : Int × PG) : LGS := (if 16 ≤ L.length then L.tail else L) ++ [x]
theorem m_rem80 {sort c : Int} (hc : 0 ≤ c ∧ c ≤ 15) : ∀ (k n : Nat) (i : Int) (s : AS) (A A0 : MA), i + k = 816 → 0 ≤ i → k < n → MR s m A → AF (scrU c) A0 A → A0 0 8 = c → (∀ y, 0 ≤ y → y < i → A 5 (816 * c + y) = A0 5 (14688 + y)) →
    ∃ s' A', l_M_rememberTried_80 n m (v sort) (v i) s = some s' ∧ MR s' m A' ∧ (∃ A1, AF (scrU c) A0 A1 ∧ (∀ y, 0 ≤ y → y < 816 → A1 5 (816 * c + y) = A0 5 (14688 + y)) ∧ A' = pu (pu A1 6 c sort) 0 8 (c + 1)) ∧ Fr (inM m) s s' := by
  intro k
  induction k with
  | zero =>
    intro n i s A A0 hi h0 hn h hA h8 hy
    obtain ⟨n, rfl⟩ : ∃ m, n = m + 1 := ⟨n - 1, by omega⟩
    have i8 := h.i8
    rw [hA 0 8 (by omega), h8] at i8
    have w1 := h.si 6 (by decide) (by decide) (z := c) (x := sort) ⟨by omega, by show c < 16; omega⟩
    have w2 := w1.s0 (k := 8) (z := 8) (x := c + 1) rfl (by decide)
    refine ⟨_, _, ?_, w2, ⟨A, hA, fun y y0 y1 => hy y y0 (by omega), rfl⟩, (inM_s (by decide)).tr (Fr.si ⟨by omega, by omega⟩)⟩
    show b_M_rememberTried_80 _ _ _ _ _ = _
    unfold b_M_rememberTried_80
    have i8' : sI (setI s (m + 6) c.toNat (v sort)) m 8 = v c := by rw [sI_setI, if_neg (by omega)]; exact i8
    rw [nv816, if_neg (nlt (by omega)), if_pos h.t, h.r7, h.t7, h.n7, i8, if_pos ⟨rfl, v_inA (by omega) (by omega)⟩, v_ix (by omega), i8', nv1, v_add]
  | succ k ih =>
    intro n i s A A0 hi h0 hn h hA h8 hy
    obtain ⟨n, rfl⟩ : ∃ m, n = m + 1 := ⟨n - 1, by omega⟩
    have i8 := h.i8
    rw [hA 0 8 (by omega), h8] at i8
    have r := h.a6 (14688 + i) (by omega)
    rw [hA 5 _ (by omega)] at r
    have hw := h.si 5 (by decide) (by decide) (z := 816 * c + i) (x := A0 5 (14688 + i)) ⟨by omega, by show 816 * c + i < 15504; omega⟩
    obtain ⟨s', A', q1, q2, q3, q4⟩ := ih n (i + 1) _ _ A0 (by omega) (by omega) (by omega) hw (hA.tr (AF.pu ⟨rfl, by omega, by omega⟩)) h8 (fun y y0 y1 => by
      rw [pu_v]
      by_cases e : y = i
      · rw [if_pos (by omega), e]
      · rw [if_neg (by omega)]; exact hy y y0 (by omega))
    refine ⟨s', A', ?_, q2, q3, (inM_s (by decide)).tr q4⟩
    show b_M_rememberTried_80 _ _ _ _ _ = _
    unfold b_M_rememberTried_80
    rw [nv816, if_pos (plt (by omega)), if_pos h.t, h.r6, h.t6, h.n6, show nI 14688 = v 14688 from rfl, v_add, if_pos ⟨rfl, v_inA (by omega) (by omega)⟩, i8, v_mul, v_add, if_pos ⟨rfl, v_inA (by omega) (by omega)⟩, v_ix (by omega), v_ix (by omega), r, nv1, v_add]
    exact q1
theorem m_rem42 {sort : Int} : ∀ (k n : Nat) (i : Int) (s : AS) (A A0 : MA), i + k = 15 → 0 ≤ i → k < n → MR s m A → AF (fun j z => j = 6 ∧ z < 15) A0 A → A0 0 8 = 16 → (∀ y, 0 ≤ y → y < i → A 6 y = A0 6 (y + 1)) → (∀ y, i ≤ y → A 6 y = A0 6 y) →
    ∃ s' A', l_M_rememberTried_42 n m (v sort) (v i) s = l_M_rememberTried_80 fuel m (v sort) (v 0) s' ∧ MR s' m A' ∧ (∃ A1, AF (fun j z => j = 6 ∧ z < 15) A0 A1 ∧ (∀ y, 0 ≤ y → y < 15 → A1 6 y = A0 6 (y + 1)) ∧ A' = pu A1 0 8 15) ∧ Fr (inM m) s s' := by
  intro k
  induction k with
  | zero =>
    intro n i s A A0 hi h0 hn h hA h8 hy hy2
    obtain ⟨n, rfl⟩ : ∃ m, n = m + 1 := ⟨n - 1, by omega⟩
    have i8 := h.i8
    rw [hA 0 8 (by omega), h8] at i8
    have w2 := h.s0 (k := 8) (z := 8) (x := 15) rfl (by decide)
    refine ⟨_, _, ?_, w2, ⟨A, hA, fun y y0 y1 => hy y y0 (by omega), rfl⟩, Fr.si ⟨by omega, by omega⟩⟩
    show b_M_rememberTried_42 _ _ _ _ _ = _
    unfold b_M_rememberTried_42 b_M_rememberTried_78
    rw [nv15, if_neg (nlt (by omega)), if_pos h.t, i8, nv1, v_sub, nv0]
    rfl
  | succ k ih =>
    intro n i s A A0 hi h0 hn h hA h8 hy hy2
    obtain ⟨n, rfl⟩ : ∃ m, n = m + 1 := ⟨n - 1, by omega⟩
    have r := h.a7 (i + 1) (by omega)
    rw [hy2 _ (by omega)] at r
    have hw := h.si 6 (by decide) (by decide) (z := i) (x := A0 6 (i + 1)) ⟨by omega, by show i < 16; omega⟩
    obtain ⟨s', A', q1, q2, q3, q4⟩ := ih n (i + 1) _ _ A0 (by omega) (by omega) (by omega) hw (hA.tr (AF.pu ⟨rfl, by omega⟩)) h8 (fun y y0 y1 => by
      rw [pu_v]
      by_cases e : y = i
      · rw [if_pos e, e]
      · rw [if_neg e]; exact hy y y0 (by omega)) (fun y y0 => by rw [pu_ne _ _ _ _ (by omega)]; exact hy2 y (by omega))
    refine ⟨s', A', ?_, q2, q3, (inM_s (by decide)).tr q4⟩
    show b_M_rememberTried_42 _ _ _ _ _ = _
    unfold b_M_rememberTried_42
    rw [nv15, if_pos (plt (by omega)), if_pos h.t, h.r7, h.t7, h.n7, nv1, v_add, if_pos ⟨rfl, v_inA (by omega) (by omega)⟩, if_pos ⟨rfl, v_inA (by omega) (by omega)⟩, v_ix (by omega), v_ix (by omega), r]
    exact q1
theorem m_rem11 {sort : Int} : ∀ (k n : Nat) (i : Int) (s : AS) (A A0 : MA), i + k = 12240 → 0 ≤ i → k < n → MR s m A → AF (fun j z => j = 5 ∧ z < 12240) A0 A → (∀ y, 0 ≤ y → y < i → A 5 y = A0 5 (y + 816)) → (∀ y, i ≤ y → A 5 y = A0 5 y) →
    ∃ s' A', l_M_rememberTried_11 n m (v sort) (v i) s = l_M_rememberTried_42 fuel m (v sort) (v 0) s' ∧ MR s' m A' ∧ AF (fun j z => j = 5 ∧ z < 12240) A0 A' ∧ (∀ y, 0 ≤ y → y < 12240 → A' 5 y = A0 5 (y + 816)) ∧ Fr (inM m) s s' := by
  intro k
  induction k with
  | zero =>
    intro n i s A A0 hi h0 hn h hA hy hy2
    obtain ⟨n, rfl⟩ : ∃ m, n = m + 1 := ⟨n - 1, by omega⟩
    refine ⟨s, A, ?_, h, hA, fun y y0 y1 => hy y y0 (by omega), Fr.rf _ _⟩
    show b_M_rememberTried_11 _ _ _ _ _ = _
    unfold b_M_rememberTried_11
    rw [nv12240, if_neg (nlt (by omega)), nv0]
  | succ k ih =>
    intro n i s A A0 hi h0 hn h hA hy hy2
    obtain ⟨n, rfl⟩ : ∃ m, n = m + 1 := ⟨n - 1, by omega⟩
    have r := h.a6 (i + 816) (by omega)
    rw [hy2 _ (by omega)] at r
    have hw := h.si 5 (by decide) (by decide) (z := i) (x := A0 5 (i + 816)) ⟨by omega, by show i < 15504; omega⟩
    obtain ⟨s', A', q1, q2, q3, q4, q5⟩ := ih n (i + 1) _ _ A0 (by omega) (by omega) (by omega) hw (hA.tr (AF.pu ⟨rfl, by omega⟩)) (fun y y0 y1 => by
      rw [pu_v]
      by_cases e : y = i
      · rw [if_pos e, e]
      · rw [if_neg e]; exact hy y y0 (by omega)) (fun y y0 => by rw [pu_ne _ _ _ _ (by omega)]; exact hy2 y (by omega))
    refine ⟨s', A', ?_, q2, q3, q4, (inM_s (by decide)).tr q5⟩
    show b_M_rememberTried_11 _ _ _ _ _ = _
    unfold b_M_rememberTried_11
    rw [nv12240, if_pos (plt (by omega)), if_pos h.t, h.r6, h.t6, h.n6, nv816, v_add, if_pos ⟨rfl, v_inA (by omega) (by omega)⟩, if_pos ⟨rfl, v_inA (by omega) (by omega)⟩, v_ix (by omega), v_ix (by omega), r, nv1, v_add]
    exact q1
/-- undos, kinds, their number -/
abbrev scrL : Nat → Int → Prop := fun j z => (j = 5 ∧ (z < 13056 ∨ 14688 ≤ z)) ∨ j = 6 ∨ (j = 0 ∧ z = 8)
theorem m_remember {s : AS} {A : MA} {L : LGS} {sort : Int} {P : PG} (h : MR s m A) (hL : LogM A L) (hP : PgM (Un A 18) P) : ∃ s' A', f_M_rememberTried s m (v sort) = some s' ∧ MR s' m A' ∧ LogM A' (pushL L (sort, P)) ∧ AF scrL A A' ∧ Fr (inM m) s s' := by
  obtain ⟨l1, l2, l3⟩ := hL
  have i8 := h.i8
  rw [l1] at i8
  -- the last step, with room
  have fin : ∀ (s1 : AS) (A1 : MA) (K : LGS), MR s1 m A1 → A1 0 8 = K.length → K.length ≤ 15 → (∀ (i : Nat) (x : Int × PG), K[i]? = some x → A1 6 i = x.1 ∧ PgM (Un A1 i) x.2) → PgM (Un A1 18) P → AF scrL A A1 → Fr (inM m) s s1 →
      ∃ s' A', l_M_rememberTried_80 fuel m (v sort) (v 0) s1 = some s' ∧ MR s' m A' ∧ LogM A' (K ++ [(sort, P)]) ∧ AF scrL A A' ∧ Fr (inM m) s s' := by
    intro s1 A1 K k1 k2 k3 k4 k5 k6 k7
    obtain ⟨s', A', q1, q2, ⟨A2, q3, q4, q5⟩, q6⟩ := m_rem80 (sort := sort) (c := K.length) (by omega) 816 fuel 0 s1 A1 A1 (by omega) (by omega) (by unfold fuel; omega) k1 (AF.rf _ _) k2 (fun y y0 y1 => by omega)
    refine ⟨s', A', q1, q2, ?_, ?_, k7.tr q6⟩
    · subst q5
      refine ⟨by rw [pu_eq]; simp, by simp; omega, fun i x hx => ?_⟩
      have hun : ∀ c : Int, Un (pu (pu A2 6 K.length sort) 0 8 ((K.length : Int) + 1)) c = Un A2 c := fun c => by
        funext z
        unfold Un
        rw [pu_row _ _ _ _ (by decide), pu_row _ _ _ _ (by decide)]
      rw [hun, pu_row _ _ _ _ (by decide)]
      by_cases ei : i < K.length
      · rw [List.getElem?_append_left ei] at hx
        obtain ⟨g1, g2⟩ := k4 i x hx
        refine ⟨by rw [pu_ne _ _ _ _ (by omega), q3 6 _ (by omega)]; exact g1, g2.cg (fun z z0 z1 => ?_)⟩
        exact q3 5 _ (by omega)
      · rw [List.getElem?_append_right (by omega)] at hx
        have ei2 : i - K.length = 0 := by
          by_cases c : i - K.length = 0
          · exact c
          · rw [List.getElem?_eq_none (by simp; omega)] at hx
            cases hx
        rw [ei2] at hx
        have hxx : x = (sort, P) := by simpa using hx.symm
        subst hxx
        have ei3 : i = K.length := by omega
        subst ei3
        refine ⟨pu_eq _ _ _ _, k5.cg (fun z z0 z1 => ?_)⟩
        show A2 5 (816 * (K.length : Int) + (z - 5)) = A1 5 (816 * 18 + (z - 5))
        exact q4 (z - 5) (by omega) (by omega)
    · subst q5
      exact ((k6.tr (q3.mo (fun j z hj => Or.inl ⟨hj.1, by have := hj.2; omega⟩))).tr (AF.pu (Or.inr (Or.inl rfl)))).tr (AF.pu (Or.inr (Or.inr ⟨rfl, rfl⟩)))
  unfold f_M_rememberTried b_M_rememberTried_78 pushL
  rw [if_pos h.t, i8, nv16]
  by_cases c : L.length = 16
  · rw [if_pos (peq (by omega)), if_pos (by omega)]
    obtain ⟨s1, A1, q1, q2, q3, q4, q5⟩ := m_rem11 (sort := sort) 12240 fuel 0 s A A (by omega) (by omega) (by unfold fuel; omega) h (AF.rf _ _) (fun y y0 y1 => by omega) (fun _ _ => rfl)
    obtain ⟨s2, A2, r1, r2, ⟨A3, r3, r4, r5⟩, r6⟩ := m_rem42 (sort := sort) 15 fuel 0 s1 A1 A1 (by omega) (by omega) (by unfold fuel; omega) q2 (AF.rf _ _) (by rw [q3 0 8 (by omega), l1]; omega) (fun y y0 y1 => by omega) (fun _ _ => rfl)
    have hun : ∀ c : Int, Un A2 c = Un A1 c := fun c => by
      subst r5
      funext z
      unfold Un
      rw [pu_row _ _ _ _ (by decide), r3 5 _ (by omega)]
    obtain ⟨s', A', u1, u2, u3, u4, u5⟩ := fin s2 A2 L.tail r2 (by subst r5; rw [pu_eq]; simp; omega) (by simp; omega) (fun i x hx => by
      rw [List.getElem?_tail] at hx
      obtain ⟨g1, g2⟩ := l3 (i + 1) x hx
      have hil : i + 1 < L.length := by
        by_cases cc : i + 1 < L.length
        · exact cc
        · rw [List.getElem?_eq_none (by omega)] at hx; cases hx
      refine ⟨?_, ?_⟩
      · subst r5
        rw [pu_row _ _ _ _ (by decide), r4 i (by omega) (by omega), q3 6 _ (by omega), ← g1]
        congr 1
      · rw [hun]
        refine g2.cg (fun z z0 z1 => ?_)
        show A1 5 (816 * (i : Int) + (z - 5)) = A 5 (816 * ((i + 1 : Nat) : Int) + (z - 5))
        rw [q4 _ (by omega) (by omega)]
        congr 1
        omega) (by
      rw [hun]
      exact hP.cg (fun z z0 z1 => q3 5 _ (by omega))) (by
      subst r5
      exact ((q3.mo (fun j z hj => Or.inl ⟨hj.1, by have := hj.2; omega⟩)).tr (r3.mo (fun j z hj => Or.inr (Or.inl hj.1)))).tr (AF.pu (Or.inr (Or.inr ⟨rfl, rfl⟩)))) (q5.tr r6)
    exact ⟨s', A', by rw [nv0, q1, r1]; exact u1, u2, u3, u4, u5⟩
  · rw [if_neg (pne (by omega)), if_neg (by omega), nv0]
    exact fin s A L h l1 (by omega) l3 hP (AF.rf _ _) (Fr.rf _ _)
end MU
