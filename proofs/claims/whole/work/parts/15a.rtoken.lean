/-! THE REFERENCE'S TOKENS -/
def wdV (B : Int → Int) (f : Int) : Nat → Int
  | 0 => 0
  | k + 1 => if k < 10 then wdV B f k * 32 + B (f + k) - 96 else -1
def dgV (B : Int → Int) (f : Int) : Nat → Int
  | 0 => 0
  | k + 1 => if 1000000 < dgV B f k then dgV B f k else dgV B f k * 10 + B (f + k) - 48
def srtT (B : Int → Int) (n f : Int) : Int := if f < n then (if kdC (B f) = 2 then 1 else if kdC (B f) = 3 then 2 else 3) else 0
def wthT (B : Int → Int) (n f : Int) : Int := if f < n then (if kdC (B f) = 2 then wdV B f (tokE B n f - f).toNat else if kdC (B f) = 3 then dgV B f (tokE B n f - f).toNat else B f) else 0
def pw32 : Nat → Int
  | 0 => 1
  | k + 1 => 32 * pw32 k
theorem pw32_r : ∀ k, 1 ≤ pw32 k
  | 0 => by decide
  | k + 1 => by have := pw32_r k; show 1 ≤ 32 * pw32 k; omega
theorem pw32_mo (k : Nat) : ∀ j, pw32 k ≤ pw32 (k + j)
  | 0 => Int.le_refl _
  | j + 1 => by have := pw32_mo k j; have := pw32_r (k + j); show pw32 k ≤ 32 * pw32 (k + j); omega
theorem pw32_10 {k : Nat} (h : k ≤ 10) : pw32 k ≤ 1125899906842624 := by
  have := pw32_mo k (10 - k)
  rw [show k + (10 - k) = 10 by omega] at this
  exact this
/-- the tape -/
def TpM (A : MA) (B : Int → Int) (n : Int) : Prop := A 0 12 = n ∧ (0 ≤ n ∧ n ≤ 400) ∧ ∀ z, 0 ≤ z → z < n → A 9 z = B z ∧ 0 ≤ B z ∧ B z ≤ 255
theorem TpM.fr {A A' : MA} {B : Int → Int} {n : Int} {F : Nat → Int → Prop} (h : TpM A B n) (ha : AF F A A') (h1 : ¬ F 0 12) (h2 : ∀ z, ¬ F 9 z) : TpM A' B n :=
  ⟨by rw [ha 0 12 h1]; exact h.1, h.2.1, fun z z0 z1 => by rw [ha 9 z (h2 z)]; exact h.2.2 z z0 z1⟩
abbrev tokS : Nat → Int → Prop := fun j z => (j = 0 ∧ (z = 13 ∨ z = 14 ∨ z = 15)) ∨ (j = 28 ∧ z = 16)
theorem TpM.tok {A A' : MA} {B : Int → Int} {n : Int} (h : TpM A B n) (ha : AF tokS A A') : TpM A' B n := h.fr ha (by omega) (fun z => by omega)
theorem m_isSmall {s : AS} {c : Int} (hc : 0 ≤ c ∧ c ≤ 255) : f_M_isSmall s (v c) = some (v (bi (kdC c = 2))) := by
  unfold f_M_isSmall
  simp (disch := omega) only [nv0, nv1, nv97, nv122, vif, v_lt]
  unfold bi kdC
  repeat' split
  all_goals first | rfl | omega
theorem m_isDigit {s : AS} {c : Int} (hc : 0 ≤ c ∧ c ≤ 255) : f_M_isDigit s (v c) = some (v (bi (kdC c = 3))) := by
  unfold f_M_isDigit
  simp (disch := omega) only [nv0, nv1, nv48, nv57, vif, v_lt]
  unfold bi kdC
  repeat' split
  all_goals first | rfl | omega
section RTK
variable {m : Nat} {B : Int → Int} {n f : Int}
theorem m_dgN {N : Nat} {s : AS} {A : MA} (h : MR s m A) (h15 : A 0 15 ≠ 2) (hr : r32 (A 0 15)) : l_M_onward_243 (N + 1) m s = some s := by
  show b_M_onward_243 _ _ _ = _
  unfold b_M_onward_243
  rw [if_pos h.t, h.i15, nv2, if_neg (pne ⟨by omega, h15⟩)]
theorem m_dgL (hf : 0 ≤ f) : ∀ (k N i : Nat) (s : AS) (A : MA), f + i + k = n → k < N → MR s m A → TpM A B n → A 0 14 = f + i → A 0 15 = 2 → A 28 16 = dgV B f i → 0 ≤ dgV B f i ∧ dgV B f i ≤ 10000009 →
    ∃ s' A', l_M_onward_243 N m s = some s' ∧ MR s' m A' ∧ AF tokS A A' ∧ A' 0 13 = A 0 13 ∧ A' 0 14 = runE B n 3 k (f + i) ∧ A' 0 15 = 2 ∧ A' 28 16 = dgV B f (runE B n 3 k (f + i) - f).toNat ∧ Fr (inM m) s s' := by
  intro k
  induction k with
  | zero =>
    intro N i s A hn hN h hT h14 h15 h16 hb
    obtain ⟨N, rfl⟩ : ∃ x, N = x + 1 := ⟨N - 1, by omega⟩
    have ht := hT.1
    have hn4 := hT.2.1
    refine ⟨s, A, ?_, h, AF.rf _ _, rfl, h14, h15, ?_, Fr.rf _ _⟩
    · show b_M_onward_243 _ _ _ = _
      unfold b_M_onward_243
      rw [if_pos h.t, h.i15, nv2, if_pos (peq h15), h.i14, h.i12, if_neg (nlt (by omega))]
    · show _ = dgV B f (f + i - f).toNat
      rw [show (f + i - f).toNat = i by omega]; exact h16
  | succ k ih =>
    intro N i s A hn hN h hT h14 h15 h16 hb
    obtain ⟨N, rfl⟩ : ∃ x, N = x + 1 := ⟨N - 1, by omega⟩
    have ht := hT.1
    have hn4 := hT.2.1
    have hz := hT.2.2 (f + i) (by omega) (by omega)
    show ∃ s' A', b_M_onward_243 _ _ _ = _ ∧ _
    unfold b_M_onward_243 runE
    rw [if_pos h.t, h.i15, nv2, if_pos (peq h15), h.i14, h.i12, if_pos (plt (by omega)), h.r11, h.t11, h.n11, h14, if_pos ⟨rfl, v_inA (by omega) (by omega)⟩, v_ix (by omega), h.a11 (f + i) (by omega), hz.1, m_isDigit hz.2, Option.bind_some, nv0]
    by_cases c : kdC (B (f + i)) = 3
    · have hbd : 48 ≤ B (f + i) ∧ B (f + i) ≤ 57 := by
        unfold kdC at c
        repeat' split at c
        all_goals omega
      rw [bi_t c, if_neg (show ¬ v 1 = v 0 by decide), if_pos (show f + (i : Int) < n ∧ kdC (B (f + i)) = 3 from ⟨by omega, c⟩), h.i16, h16, show lN 1000000 = w 1000000 from rfl, v_w (by omega), show lN 10 = w 10 from rfl, show lN 48 = w 48 from rfl, w_mul, w_add, w_sub]
      have key : ∀ x : Int, x = dgV B f (i + 1) → ∃ s' A', b_M_onward_319 (l_M_onward_243 N) m (w x) m s = some s' ∧ MR s' m A' ∧ AF tokS A A' ∧ A' 0 13 = A 0 13 ∧ A' 0 14 = runE B n 3 k (f + i + 1) ∧ A' 0 15 = 2 ∧ A' 28 16 = dgV B f (runE B n 3 k (f + i + 1) - f).toNat ∧ Fr (inM m) s s' := by
        intro x hx
        have h2 := (h.s28 (x := x) (k := 16) (z := 16) rfl (by decide)).s0 (x := f + i + 1) (k := 14) (z := 14) rfl (by decide)
        have ha : AF tokS A (pu (pu A 28 16 x) 0 14 (f + i + 1)) := (AF.pu (Or.inr ⟨rfl, rfl⟩)).tr (AF.pu (Or.inl ⟨rfl, by omega⟩))
        have hd1 : dgV B f (i + 1) = if 1000000 < dgV B f i then dgV B f i else dgV B f i * 10 + B (f + i) - 48 := rfl
        have hd2 : 0 ≤ dgV B f (i + 1) ∧ dgV B f (i + 1) ≤ 10000009 := by
          rw [hd1]; split <;> omega
        obtain ⟨s', A', q1, q2, q3, q4, q5, q6, q7, q8⟩ := ih N (i + 1) _ _ (by omega) (by omega) h2 (hT.tok ha) (by rw [pu_eq]; omega) (by rw [pu_ne _ _ _ _ (by decide), pu_ne _ _ _ _ (by decide), h15]) (by rw [pu_ne _ _ _ _ (by decide), pu_eq, hx]) hd2
        rw [show f + ((i + 1 : Nat) : Int) = f + i + 1 by omega] at q5 q7
        refine ⟨s', A', ?_, q2, ha.tr q3, ?_, q5, q6, q7, ((Fr.sj (by omega)).tr (Fr.si (by omega))).tr q8⟩
        · unfold b_M_onward_319
          rw [if_pos h.t, if_pos h.t, h.i14, h14, nv1, v_add]
          exact q1
        · rw [q4, pu_ne _ _ _ _ (by decide), pu_ne _ _ _ _ (by decide)]
      by_cases cb : 1000000 < dgV B f i
      · rw [if_pos ((wc_gt (by omega) (by omega)).mpr cb)]
        exact key _ (by show _ = (if _ then _ else _); rw [if_pos cb])
      · rw [if_neg (fun d => cb ((wc_gt (by omega) (by omega)).mp d))]
        exact key _ (by show _ = (if _ then _ else _); rw [if_neg cb])
    · rw [bi_f c, if_pos rfl, if_neg (show ¬ (f + (i : Int) < n ∧ kdC (B (f + i)) = 3) from fun d => c d.2)]
      exact ⟨s, A, rfl, h, AF.rf _ _, rfl, h14, h15, by rw [show (f + i - f).toNat = i by omega]; exact h16, Fr.rf _ _⟩
theorem m_wdN {N : Nat} {s : AS} {A : MA} (h : MR s m A) (h15 : A 0 15 ≠ 1) (hr : r32 (A 0 15)) : l_M_onward_149 (N + 1) m s = l_M_onward_243 fuel m s := by
  show b_M_onward_149 _ _ _ = _
  unfold b_M_onward_149
  rw [if_pos h.t, h.i15, nv1, if_neg (pne ⟨by omega, h15⟩)]
theorem m_wdL (hf : 0 ≤ f) : ∀ (k N i : Nat) (s : AS) (A : MA), f + i + k = n → k < N → MR s m A → TpM A B n → A 0 13 = f → A 0 14 = f + i → A 0 15 = 1 → A 28 16 = wdV B f i → (i ≤ 10 → 0 ≤ wdV B f i ∧ wdV B f i < pw32 i) → (10 < i → wdV B f i = -1) →
    ∃ s' A', l_M_onward_149 N m s = some s' ∧ MR s' m A' ∧ AF tokS A A' ∧ A' 0 13 = f ∧ A' 0 14 = runE B n 2 k (f + i) ∧ A' 0 15 = 1 ∧ A' 28 16 = wdV B f (runE B n 2 k (f + i) - f).toNat ∧ Fr (inM m) s s' := by
  intro k
  induction k with
  | zero =>
    intro N i s A hn hN h hT h13 h14 h15 h16 hb hb2
    obtain ⟨N, rfl⟩ : ∃ x, N = x + 1 := ⟨N - 1, by omega⟩
    have ht := hT.1
    have hn4 := hT.2.1
    refine ⟨s, A, ?_, h, AF.rf _ _, h13, h14, h15, ?_, Fr.rf _ _⟩
    · show b_M_onward_149 _ _ _ = _
      unfold b_M_onward_149
      rw [if_pos h.t, h.i15, nv1, if_pos (peq h15), h.i14, h.i12, if_neg (nlt (by omega))]
      exact m_dgN (N := 999999) h (by omega) (by omega)
    · show _ = wdV B f (f + i - f).toNat
      rw [show (f + i - f).toNat = i by omega]; exact h16
  | succ k ih =>
    intro N i s A hn hN h hT h13 h14 h15 h16 hb hb2
    obtain ⟨N, rfl⟩ : ∃ x, N = x + 1 := ⟨N - 1, by omega⟩
    have ht := hT.1
    have hn4 := hT.2.1
    have hz := hT.2.2 (f + i) (by omega) (by omega)
    have hw : -1 ≤ wdV B f i ∧ wdV B f i ≤ 1125899906842624 := by
      by_cases ci : i ≤ 10
      · have := hb ci
        have := pw32_10 ci
        omega
      · have := hb2 (by omega)
        omega
    show ∃ s' A', b_M_onward_149 _ _ _ = _ ∧ _
    unfold b_M_onward_149 runE
    rw [if_pos h.t, h.i15, nv1, if_pos (peq h15), h.i14, h.i13, h.i12, if_pos (plt (by omega)), h.r11, h.t11, h.n11, h14, h13, if_pos ⟨rfl, v_inA (by omega) (by omega)⟩, v_ix (by omega), h.a11 (f + i) (by omega), hz.1, m_isSmall hz.2, Option.bind_some, nv0]
    by_cases c : kdC (B (f + i)) = 2
    · have hbd : 97 ≤ B (f + i) ∧ B (f + i) ≤ 122 := by
        unfold kdC at c
        repeat' split at c
        all_goals omega
      rw [bi_t c, if_neg (show ¬ v 1 = v 0 by decide), if_pos (show f + (i : Int) < n ∧ kdC (B (f + i)) = 2 from ⟨by omega, c⟩), h.i16, h16, v_w (by omega), show lN 32 = w 32 from rfl, show lN 96 = w 96 from rfl, w_mul, w_add, w_sub, v_sub, wM1, nv10]
      have hd1 : wdV B f (i + 1) = if i < 10 then wdV B f i * 32 + B (f + i) - 96 else -1 := rfl
      have key : ∀ x : Int, x = wdV B f (i + 1) → ∃ s' A', b_M_onward_227 (l_M_onward_149 N) m (w x) m s = some s' ∧ MR s' m A' ∧ AF tokS A A' ∧ A' 0 13 = f ∧ A' 0 14 = runE B n 2 k (f + i + 1) ∧ A' 0 15 = 1 ∧ A' 28 16 = wdV B f (runE B n 2 k (f + i + 1) - f).toNat ∧ Fr (inM m) s s' := by
        intro x hx
        have h2 := (h.s28 (x := x) (k := 16) (z := 16) rfl (by decide)).s0 (x := f + i + 1) (k := 14) (z := 14) rfl (by decide)
        have ha : AF tokS A (pu (pu A 28 16 x) 0 14 (f + i + 1)) := (AF.pu (Or.inr ⟨rfl, rfl⟩)).tr (AF.pu (Or.inl ⟨rfl, by omega⟩))
        obtain ⟨s', A', q1, q2, q3, q4, q5, q6, q7, q8⟩ := ih N (i + 1) _ _ (by omega) (by omega) h2 (hT.tok ha) (by rw [pu_ne _ _ _ _ (by decide), pu_ne _ _ _ _ (by decide), h13]) (by rw [pu_eq]; omega) (by rw [pu_ne _ _ _ _ (by decide), pu_ne _ _ _ _ (by decide), h15]) (by rw [pu_ne _ _ _ _ (by decide), pu_eq, hx])
          (fun ci => by
            have := hb (by omega)
            rw [hd1, if_pos (by omega)]
            show _ ∧ _ < 32 * pw32 i
            omega)
          (fun ci => by rw [hd1, if_neg (by omega)])
        rw [show f + ((i + 1 : Nat) : Int) = f + i + 1 by omega] at q5 q7
        refine ⟨s', A', ?_, q2, ha.tr q3, q4, q5, q6, q7, ((Fr.sj (by omega)).tr (Fr.si (by omega))).tr q8⟩
        unfold b_M_onward_227
        rw [if_pos h.t, if_pos h.t, h.i14, h14, nv1, v_add]
        exact q1
      by_cases cb : i < 10
      · rw [if_pos (plt (by omega))]
        exact key _ (by rw [hd1, if_pos cb])
      · rw [if_neg (nlt (by omega))]
        exact key _ (by rw [hd1, if_neg cb])
    · rw [bi_f c, if_pos rfl, if_neg (show ¬ (f + (i : Int) < n ∧ kdC (B (f + i)) = 2) from fun d => c d.2)]
      exact ⟨s, A, m_dgN (N := 999999) h (by omega) (by omega), h, AF.rf _ _, h13, h14, h15, by rw [show (f + i - f).toNat = i by omega]; exact h16, Fr.rf _ _⟩
end RTK
