/-! ROWS OF BYTES: adding -/
def bu (B : Int → Int) (z x : Int) : Int → Int := fun y => if y = z then x else B y
abbrev inR (c : Nat) : Nat → Prop := fun q => q = c ∨ q = c + 1
theorem s_radd {s : AS} {c n : Nat} {B : Int → Int} {len x : Int} (h : RwR s c n B len) (hl : 0 ≤ len ∧ len < n) (hn : n ≤ 400) : ∃ s', f_Row_add s c (v x) = some s' ∧ RwR s' c n (bu B len x) (len + 1) ∧ Fr (inR c) s s' := by
  obtain ⟨⟨r1, r2, r3, r4⟩, r5, r6⟩ := h
  refine ⟨setI (setI s (c + 1) len.toNat (v x)) c 1 (v (len + 1)), ?_, ⟨⟨r1, r2, r3, r4⟩, ?_, fun z hz => ?_⟩, (Fr.si (Or.inr rfl)).tr (Fr.si (Or.inl rfl))⟩
  · unfold f_Row_add
    simp (disch := omega) only [r1, r2, r3, r4, r5, nI_v, v_lt, v_inT, v_ix, and_self, if_true, sI_setI]
    rw [if_pos (by omega), if_pos (by omega), if_neg (by omega)]
    rw [v_add]
    rfl
  · rw [sI_setI, if_pos ⟨rfl, rfl⟩]
  · rw [sI_setI, if_neg (by omega), sI_setI]
    unfold bu
    by_cases e : z = len
    · rw [if_pos ⟨rfl, by omega⟩, if_pos e]
    · rw [if_neg (by omega), if_neg e]
      exact r6 z hz
theorem RwR.ext {s : AS} {c n : Nat} {B C : Int → Int} {len : Int} (h : RwR s c n B len) (he : ∀ z : Int, 0 ≤ z → z < n → B z = C z) : RwR s c n C len := ⟨h.1, h.2.1, fun z hz => by rw [← he z hz.1 hz.2]; exact h.2.2 z hz⟩
theorem RwR.len0 {s : AS} {c n : Nat} {B : Int → Int} {len x : Int} (h : RwR s c n B len) : RwR (setI s c 1 (v x)) c n B x := ⟨h.1, by rw [sI_setI, if_pos ⟨rfl, rfl⟩], fun z hz => by rw [sI_setI, if_neg (by omega)]; exact h.2.2 z hz⟩
def rpB (B : Int → Int) (k x : Int) : Int → Int := fun z => if 0 ≤ z ∧ z < k then x else B z
theorem s_repeatL {c m : Nat} {B : Int → Int} {k x : Int} (hm : 0 ≤ k ∧ k ≤ m ∧ m ≤ 400) : ∀ (j n : Nat) (i : Int) (s : AS), i + j = k → 0 ≤ i → j < n → RwR s c m (rpB B i x) i →
    ∃ s', l_Row_repeat_7 n c (v k) (v x) (v i) s = some s' ∧ RwR s' c m (rpB B k x) k ∧ Fr (inR c) s s' := by
  intro j
  induction j with
  | zero =>
    intro n i s hi h0 hn h
    obtain ⟨n, rfl⟩ : ∃ m, n = m + 1 := ⟨n - 1, by omega⟩
    refine ⟨s, ?_, by rw [show k = i by omega]; exact h, Fr.rf _ _⟩
    simp (disch := omega) only [l_Row_repeat_7, b_Row_repeat_7, v_lt]
    rw [if_neg (by omega)]
  | succ j ih =>
    intro n i s hi h0 hn h
    obtain ⟨n, rfl⟩ : ∃ m, n = m + 1 := ⟨n - 1, by omega⟩
    obtain ⟨s1, q1, q2, q3⟩ := s_radd (x := x) h (by omega) hm.2.2
    have he : ∀ z, 0 ≤ z → z < (m : Int) → bu (rpB B i x) i x z = rpB B (i + 1) x z := by
      intro z hz _
      unfold bu rpB
      by_cases e : z = i
      · rw [if_pos e, if_pos (by omega)]
      · rw [if_neg e]
        by_cases e2 : z < i
        · rw [if_pos ⟨hz, e2⟩, if_pos (by omega)]
        · rw [if_neg (by omega), if_neg (by omega)]
    obtain ⟨s', p1, p2, p3⟩ := ih n (i + 1) s1 (by omega) (by omega) (by omega) (q2.ext he)
    refine ⟨s', ?_, p2, q3.tr p3⟩
    obtain ⟨⟨r1, r2, r3, r4⟩, -⟩ := h
    simp (disch := omega) only [l_Row_repeat_7, b_Row_repeat_7, r1, r2, r3, r4, nI_v, v_lt, if_true]
    rw [if_pos (by omega), if_pos (by decide), if_pos (by omega), q1, Option.bind_some, v_add]
    exact p1
theorem s_repeat {s : AS} {c m : Nat} {B : Int → Int} {len k x : Int} (h : RwR s c m B len) (hm : 0 ≤ k ∧ k ≤ m ∧ m ≤ 400) : ∃ s', f_Row_repeat s c (v k) (v x) = some s' ∧ RwR s' c m (rpB B k x) k ∧ Fr (inR c) s s' := by
  have h0 : RwR (setI s c 1 (v 0)) c m (rpB B 0 x) 0 := (RwR.len0 (x := 0) h).ext (fun z hz _ => by unfold rpB; rw [if_neg (by omega)])
  obtain ⟨s', q1, q2, q3⟩ := s_repeatL hm k.toNat fuel 0 _ (by omega) (by omega) (by unfold fuel; omega) h0
  refine ⟨s', ?_, q2, (Fr.si (Or.inl rfl)).tr q3⟩
  unfold f_Row_repeat
  rw [if_pos h.1.1]
  exact q1
