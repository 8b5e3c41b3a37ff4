/-! THE REFERENCE'S TOKENS: onward, words, signs, numbers -/
def TokM (A : MA) (B : Int → Int) (n : Int) (st : STK) : Prop := A 0 13 = st.1 ∧ A 0 14 = st.2.1 ∧ A 0 15 = srtT B n st.1 ∧ A 28 16 = wthT B n st.1
section ROW
variable {m : Nat} {B : Int → Int} {n f : Int}
theorem dg_stop {B : Int → Int} {f : Int} : dgV B f 0 = 0 := rfl
theorem tokE_cons {B : Int → Int} {n f q : Int} (hf : f < n) (hq : kdC (B f) = q) (h : q = 2 ∨ q = 3) : tokE B n f = runE B n q (n - f).toNat f := by
  unfold tokE
  rw [if_pos hf, if_pos (by omega), hq]
  obtain ⟨k, hk⟩ : ∃ k, (n - f).toNat = k + 1 := ⟨(n - f).toNat - 1, by omega⟩
  rw [hk, show (n - (f + 1)).toNat = k by omega]
  show _ = if f < n ∧ kdC (B f) = q then runE B n q k (f + 1) else f
  rw [if_pos ⟨hf, hq⟩]
theorem m_on46 {s : AS} {A : MA} (h : MR s m A) (hT : TpM A B n) (h13 : A 0 13 = f) (hf : 0 ≤ f ∧ f ≤ n) :
    ∃ s' A', b_M_onward_46 m s = some s' ∧ MR s' m A' ∧ AF tokS A A' ∧ A' 0 13 = f ∧ A' 0 14 = tokE B n f ∧ A' 0 15 = srtT B n f ∧ A' 28 16 = wthT B n f ∧ Fr (inM m) s s' := by
  have hn4 := hT.2.1
  have h1 := h.s0 (x := f) (k := 14) (z := 14) rfl (by decide)
  have h2 := h1.s28 (x := 0) (k := 16) (z := 16) rfl (by decide)
  have ha2 : AF tokS A (pu (pu A 0 14 f) 28 16 0) := (AF.pu (Or.inl ⟨rfl, by omega⟩)).tr (AF.pu (Or.inr ⟨rfl, rfl⟩))
  have e13 : sI (setI s m 14 (v f)) m 13 = v f := by rw [h1.i13, pu_ne _ _ _ _ (by decide), h13]
  have e12 : sI (setI s m 14 (v f)) m 12 = v n := by rw [h1.i12, pu_ne _ _ _ _ (by decide), hT.1]
  have f2 : Fr (inM m) s (setJ (setI s m 14 (v f)) m 16 (w 0)) := (Fr.si (by omega)).tr (Fr.sj (by omega))
  -- the sort is known
  have go : ∀ x : Int, x = srtT B n f → ∃ s' A', b_M_onward_114 m (v x) m (setJ (setI s m 14 (v f)) m 16 (w 0)) = some s' ∧ MR s' m A' ∧ AF tokS A A' ∧ A' 0 13 = f ∧ A' 0 14 = tokE B n f ∧ A' 0 15 = srtT B n f ∧ A' 28 16 = wthT B n f ∧ Fr (inM m) s s' := by
    intro x hx
    have h3 := h2.s0 (x := x) (k := 15) (z := 15) rfl (by decide)
    have ha3 : AF tokS A (pu (pu (pu A 0 14 f) 28 16 0) 0 15 x) := ha2.tr (AF.pu (Or.inl ⟨rfl, by omega⟩))
    have f3 := f2.tr (Fr.si (F := inM m) (p := m) (j := 15) (x := v x) (by omega))
    have k13 : pu (pu (pu A 0 14 f) 28 16 0) 0 15 x 0 13 = f := by rw [pu_ne _ _ _ _ (by decide), pu_ne _ _ _ _ (by decide), pu_ne _ _ _ _ (by decide), h13]
    have k14 : pu (pu (pu A 0 14 f) 28 16 0) 0 15 x 0 14 = f := by rw [pu_ne _ _ _ _ (by decide), pu_ne _ _ _ _ (by decide), pu_eq]
    have k15 : pu (pu (pu A 0 14 f) 28 16 0) 0 15 x 0 15 = x := pu_eq _ _ _ _
    have k16 : pu (pu (pu A 0 14 f) 28 16 0) 0 15 x 28 16 = 0 := by rw [pu_ne _ _ _ _ (by decide), pu_eq]
    have hT3 := hT.tok ha3
    have hz := fun hfn : f < n => hT3.2.2 f hf.1 hfn
    unfold b_M_onward_114
    rw [if_pos h2.t, if_pos h2.t, h3.i15, k15, nv3]
    unfold srtT at hx
    by_cases cf : f < n
    · have hk := kdC_r (B f)
      have hb := hz cf
      have hk0 := kdC_32 (B f)
      rw [if_pos cf] at hx
      by_cases c2 : kdC (B f) = 2
      · rw [if_pos c2] at hx
        rw [if_neg (pne (by omega))]
        obtain ⟨s', A', q1, q2, q3, q4, q5, q6, q7, q8⟩ := m_wdL hf.1 (n - f).toNat fuel 0 _ _ (by omega) (by unfold fuel; omega) h3 hT3 k13 (by rw [k14]; omega) (by omega) (by rw [k16]; rfl) (fun _ => ⟨show (0 : Int) ≤ 0 by decide, show (0 : Int) < 1 by decide⟩) (fun c => by omega)
        have et := tokE_cons (B := B) (q := 2) cf c2 (Or.inl rfl)
        rw [show f + ((0 : Nat) : Int) = f by omega, ← et] at q5 q7
        refine ⟨s', A', q1, q2, ha3.tr q3, q4, q5, ?_, ?_, f3.tr q8⟩
        · unfold srtT; rw [if_pos cf, if_pos c2, q6]
        · unfold wthT; rw [if_pos cf, if_pos c2, q7]
      · rw [if_neg c2] at hx
        by_cases c3 : kdC (B f) = 3
        · rw [if_pos c3] at hx
          rw [if_neg (pne (by omega))]
          have hw := m_wdN (N := 999999) h3 (by omega) (by omega)
          obtain ⟨s', A', q1, q2, q3, q4, q5, q6, q7, q8⟩ := m_dgL hf.1 (n - f).toNat fuel 0 _ _ (by omega) (by unfold fuel; omega) h3 hT3 (by rw [k14]; omega) (by omega) (by rw [k16]; rfl) ⟨show (0 : Int) ≤ 0 by decide, show (0 : Int) ≤ 10000009 by decide⟩
          have et := tokE_cons (B := B) (q := 3) cf c3 (Or.inr rfl)
          rw [show f + ((0 : Nat) : Int) = f by omega, ← et] at q5 q7
          refine ⟨s', A', hw.trans q1, q2, ha3.tr q3, by rw [q4, k13], q5, ?_, ?_, f3.tr q8⟩
          · unfold srtT; rw [if_pos cf, if_neg c2, if_pos c3, q6]
          · unfold wthT; rw [if_pos cf, if_neg c2, if_pos c3, q7]
        · rw [if_neg c3] at hx
          have h4 := (h3.s28 (x := B f) (k := 16) (z := 16) rfl (by decide)).s0 (x := f + 1) (k := 14) (z := 14) rfl (by decide)
          have e3 : sI (setI (setJ (setI s m 14 (v f)) m 16 (w 0)) m 15 (v x)) m 13 = v f := by rw [h3.i13, k13]
          have e4 : sI (setI (setJ (setI s m 14 (v f)) m 16 (w 0)) m 15 (v x)) m 14 = v f := by rw [h3.i14, k14]
          have e5 : sI (setI (setJ (setI s m 14 (v f)) m 16 (w 0)) m 15 (v x)) (m + 9) f.toNat = v (B f) := by rw [h3.a11 f (by omega), hb.1]
          rw [if_pos (peq (by omega)), h2.r11, h2.t11, h2.n11, e3, e4, if_pos ⟨rfl, v_inA (by omega) (by omega)⟩, v_ix (by omega), e5, v_w (by omega), nv1, v_add]
          have et : tokE B n f = f + 1 := by unfold tokE; rw [if_pos cf, if_neg (by omega)]
          have j15 : pu (pu (pu (pu (pu A 0 14 f) 28 16 0) 0 15 x) 28 16 (B f)) 0 14 (f + 1) 0 15 = x := by rw [pu_ne _ _ _ _ (by decide), pu_ne _ _ _ _ (by decide), pu_eq]
          refine ⟨_, _, (m_wdN (N := 999999) h4 (by omega) (by omega)).trans (m_dgN (N := 999999) h4 (by omega) (by omega)), h4, (ha3.tr (AF.pu (Or.inr ⟨rfl, rfl⟩))).tr (AF.pu (Or.inl ⟨rfl, by omega⟩)), ?_, ?_, ?_, ?_, (f3.tr (Fr.sj (by omega))).tr (Fr.si (by omega))⟩
          · rw [pu_ne _ _ _ _ (by decide), pu_ne _ _ _ _ (by decide), k13]
          · rw [pu_eq, et]
          · unfold srtT; rw [if_pos cf, if_neg c2, if_neg c3, j15, hx]
          · unfold wthT; rw [if_pos cf, if_neg c2, if_neg c3, pu_ne _ _ _ _ (by decide), pu_eq]
    · rw [if_neg cf] at hx
      rw [if_neg (pne (by omega))]
      refine ⟨_, _, (m_wdN (N := 999999) h3 (by omega) (by omega)).trans (m_dgN (N := 999999) h3 (by omega) (by omega)), h3, ha3, k13, ?_, ?_, ?_, f3⟩
      · rw [k14]; unfold tokE; rw [if_neg cf]
      · unfold srtT; rw [if_neg cf, k15, hx]
      · unfold wthT; rw [if_neg cf, k16]
  unfold b_M_onward_46
  rw [if_pos h.t, h.i13, h13, e13, e12, lw0, nv0, nv1, nv2, nv3]
  by_cases cf : f < n
  · have hz := hT.2.2 f hf.1 cf
    have e9 : sI (setI s m 14 (v f)) (m + 9) f.toNat = v (B f) := by rw [h1.a11 f (by omega), pu_row _ _ _ _ (by decide), hz.1]
    rw [if_neg (pne (by omega)), h.r11, h.t11, h.n11, if_pos ⟨rfl, v_inA (by omega) (by omega)⟩, v_ix (by omega), e9, m_isSmall hz.2, Option.bind_some]
    by_cases c2 : kdC (B f) = 2
    · rw [bi_t c2, if_neg (show ¬ v 1 = v 0 by decide)]
      exact go 1 (by unfold srtT; rw [if_pos cf, if_pos c2])
    · rw [bi_f c2, if_pos rfl, m_isDigit hz.2, Option.bind_some]
      by_cases c3 : kdC (B f) = 3
      · rw [bi_t c3, if_neg (show ¬ v 1 = v 0 by decide)]
        exact go 2 (by unfold srtT; rw [if_pos cf, if_neg c2, if_pos c3])
      · rw [bi_f c3, if_pos rfl]
        exact go 3 (by unfold srtT; rw [if_pos cf, if_neg c2, if_neg c3])
  · rw [if_pos (peq (by omega))]
    exact go 0 (by unfold srtT; rw [if_neg cf])
theorem m_on8 : ∀ (k N : Nat) (i : Int) (s : AS) (A : MA), i + k = n → 0 ≤ i → k < N → MR s m A → TpM A B n → A 0 13 = i →
    ∃ s' A', l_M_onward_8 N m s = some s' ∧ MR s' m A' ∧ AF tokS A A' ∧ A' 0 13 = skF B n k i ∧ A' 0 14 = tokE B n (skF B n k i) ∧ A' 0 15 = srtT B n (skF B n k i) ∧ A' 28 16 = wthT B n (skF B n k i) ∧ Fr (inM m) s s' := by
  intro k
  induction k with
  | zero =>
    intro N i s A hi h0 hN h hT h13
    obtain ⟨N, rfl⟩ : ∃ x, N = x + 1 := ⟨N - 1, by omega⟩
    have ht := hT.1
    have hn4 := hT.2.1
    show ∃ s' A', b_M_onward_8 _ _ _ = _ ∧ _
    unfold b_M_onward_8
    rw [if_pos h.t, h.i13, h.i12, if_neg (nlt (by omega))]
    exact m_on46 (f := i) h hT h13 (by omega)
  | succ k ih =>
    intro N i s A hi h0 hN h hT h13
    obtain ⟨N, rfl⟩ : ∃ x, N = x + 1 := ⟨N - 1, by omega⟩
    have ht := hT.1
    have hn4 := hT.2.1
    have hz := hT.2.2 i h0 (by omega)
    show ∃ s' A', b_M_onward_8 _ _ _ = _ ∧ _
    unfold b_M_onward_8 skF
    rw [if_pos h.t, h.i13, h.i12, if_pos (plt (by omega)), h.r11, h.t11, h.n11, h13, if_pos ⟨rfl, v_inA (by omega) (by omega)⟩, v_ix (by omega), h.a11 i (by omega), hz.1, nv32]
    by_cases c : B i = 32
    · have h1 := h.s0 (x := i + 1) (k := 13) (z := 13) rfl (by decide)
      have ha : AF tokS A (pu A 0 13 (i + 1)) := AF.pu (Or.inl ⟨rfl, by omega⟩)
      obtain ⟨s', A', q1, q2, q3, q4⟩ := ih N (i + 1) _ _ (by omega) (by omega) (by omega) h1 (hT.tok ha) (pu_eq _ _ _ _)
      rw [if_pos (peq c), if_pos ⟨by omega, c⟩, nv1, v_add]
      exact ⟨s', A', q1, q2, ha.tr q3, q4.1, q4.2.1, q4.2.2.1, q4.2.2.2.1, (Fr.si (by omega)).tr q4.2.2.2.2⟩
    · rw [if_neg (pne ⟨by omega, c⟩), if_neg (fun d => c d.2)]
      exact m_on46 (f := i) h hT h13 (by omega)
theorem m_onward {s : AS} {A : MA} {st : STK} (h : MR s m A) (hT : TpM A B n) (h14 : A 0 14 = st.2.1) (ht : 0 ≤ st.2.1 ∧ st.2.1 ≤ n) :
    ∃ s' A', f_M_onward s m = some s' ∧ MR s' m A' ∧ AF tokS A A' ∧ TokM A' B n (nxS B n st) ∧ TpM A' B n ∧ Fr (inM m) s s' := by
  have h1 := h.s0 (x := st.2.1) (k := 13) (z := 13) rfl (by decide)
  have ha : AF tokS A (pu A 0 13 st.2.1) := AF.pu (Or.inl ⟨rfl, by omega⟩)
  have hn4 := hT.2.1
  obtain ⟨s', A', q1, q2, q3, q4, q5, q6, q7, q8⟩ := m_on8 (n - st.2.1).toNat fuel st.2.1 _ _ (by omega) ht.1 (by unfold fuel; omega) h1 (hT.tok ha) (pu_eq _ _ _ _)
  refine ⟨s', A', ?_, q2, ha.tr q3, ⟨q4, q5, q6, q7⟩, hT.tok (ha.tr q3), (Fr.si (by omega)).tr q8⟩
  unfold f_M_onward
  rw [if_pos h.t, h.i14, h14]
  exact q1
end ROW
/-! words by their values -/
def valR : List Nat → Int
  | [] => 0
  | c :: r => valR r * 32 + c - 96
abbrev letW (w : List Nat) : Prop := ∀ c ∈ w, 97 ≤ c ∧ c ≤ 122
theorem wdB_le {B : Int → Int} {t : Int} : ∀ (w : List Nat) (a : Int), wdB B t w a = true → a + w.length = t := by
  intro w
  induction w with
  | nil => intro a h; rw [wdB_n] at h; have := of_decide_eq_true h; show a + ((0 : Nat) : Int) = t; omega
  | cons c w ih =>
    intro a h
    rw [wdB_c] at h
    simp only [Bool.and_eq_true] at h
    have := ih (a + 1) h.2.2
    show a + ((w.length + 1 : Nat) : Int) = t
    omega
theorem wdB_snoc {B : Int → Int} {t : Int} {c : Nat} : ∀ (w : List Nat) (a : Int), wdB B t (w ++ [c]) a = (wdB B (t - 1) w a && decide (B (t - 1) = c)) := by
  intro w
  induction w with
  | nil =>
    intro a
    show wdB B t [c] a = _
    rw [wdB_c, wdB_n, wdB_n]
    by_cases e : a = t - 1
    · subst e
      rw [decide_eq_true (show t - 1 < t by omega), decide_eq_true (show t - 1 + 1 = t by omega), decide_eq_true (show t - 1 = t - 1 from rfl)]
      simp
    · rw [decide_eq_false (show ¬ a + 1 = t by omega), decide_eq_false e]
      simp
  | cons d w ih =>
    intro a
    show wdB B t (d :: (w ++ [c])) a = _
    rw [wdB_c, wdB_c, ih]
    by_cases e : wdB B (t - 1) w (a + 1) = true
    · have := wdB_le w (a + 1) e
      rw [decide_eq_true (show a < t by omega), decide_eq_true (show a < t - 1 by omega), e]
      simp
    · have e' : wdB B (t - 1) w (a + 1) = false := by simpa using e
      rw [e']
      simp
theorem valR_nn : ∀ (r : List Nat), letW r → 0 ≤ valR r := by
  intro r
  induction r with
  | nil => intro _; decide
  | cons c r ih =>
    intro h
    have h1 := h c (List.mem_cons_self ..)
    have h2 := ih (fun d hd => h d (List.mem_cons_of_mem _ hd))
    show 0 ≤ valR r * 32 + c - 96
    omega
theorem wdV_nn {B : Int → Int} {f : Int} : ∀ (k : Nat), k ≤ 10 → (∀ j, f ≤ j → j < f + k → 97 ≤ B j ∧ B j ≤ 122) → 0 ≤ wdV B f k := by
  intro k
  induction k with
  | zero => intro _ _; exact Int.le_refl _
  | succ k ih =>
    intro hk hb
    have h1 := ih (by omega) (fun j j0 j1 => hb j j0 (by omega))
    have h2 := hb (f + k) (by omega) (by omega)
    show 0 ≤ if k < 10 then wdV B f k * 32 + B (f + k) - 96 else -1
    rw [if_pos (by omega)]
    omega
theorem wd_val {B : Int → Int} {f : Int} : ∀ (r : List Nat) (k : Nat), letW r → k ≤ 10 → (∀ j, f ≤ j → j < f + k → 97 ≤ B j ∧ B j ≤ 122) → (wdV B f k = valR r ↔ wdB B (f + k) r.reverse f = true) := by
  intro r
  induction r with
  | nil =>
    intro k _ hk hb
    show _ ↔ wdB B (f + k) [] f = true
    rw [wdB_n, decide_eq_true_eq]
    cases k with
    | zero => exact ⟨fun _ => by omega, fun _ => rfl⟩
    | succ k =>
      have h1 := wdV_nn k (by omega) (fun j j0 j1 => hb j j0 (by omega))
      have h2 := hb (f + k) (by omega) (by omega)
      refine ⟨fun h => ?_, fun h => by omega⟩
      have h' : (if k < 10 then wdV B f k * 32 + B (f + k) - 96 else -1) = 0 := h
      rw [if_pos (by omega)] at h'
      omega
  | cons c r ih =>
    intro k hr hk hb
    have hc := hr c (List.mem_cons_self ..)
    have hr' : letW r := fun d hd => hr d (List.mem_cons_of_mem _ hd)
    have h0 := valR_nn r hr'
    rw [List.reverse_cons, wdB_snoc]
    cases k with
    | zero =>
      refine ⟨fun h => ?_, fun h => ?_⟩
      · have h' : (0 : Int) = valR r * 32 + c - 96 := h
        omega
      · simp only [Bool.and_eq_true] at h
        have := wdB_le _ _ h.1
        omega
    | succ k =>
      have h1 := wdV_nn k (by omega) (fun j j0 j1 => hb j j0 (by omega))
      have h2 := hb (f + k) (by omega) (by omega)
      have hi := ih k hr' (by omega) (fun j j0 j1 => hb j j0 (by omega))
      have e1 : f + ((k + 1 : Nat) : Int) - 1 = f + k := by omega
      have e2 : wdV B f (k + 1) = wdV B f k * 32 + B (f + k) - 96 := by
        show (if k < 10 then _ else _) = _
        rw [if_pos (by omega)]
      have e3 : valR (c :: r) = valR r * 32 + c - 96 := rfl
      rw [e1, e2, e3]
      simp only [Bool.and_eq_true, decide_eq_true_eq]
      rw [← hi]
      exact ⟨fun h => ⟨by omega, by omega⟩, fun h => by omega⟩
