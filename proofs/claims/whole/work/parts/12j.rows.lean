/-! ROWS OF BYTES: a cell is assembled -/
theorem s_link {s : AS} {c n : Nat} {B : Int → Int} {len to_ : Int} (h : RwR s c n B len) (hn : 2 ≤ n ∧ n ≤ 400) (ht : r32 to_) : ∃ s', f_Row_link s c (v to_) = some s' ∧ RwR s' c n (bu (bu B 0 (if to_ = 255 then 255 else 0)) 1 to_) 2 ∧ Fr (inR c) s s' := by
  have h0 : RwR (setI s c 1 (v 0)) c n B 0 := RwR.len0 h
  obtain ⟨s1, q1, q2, q3⟩ := s_radd (x := if to_ = 255 then 255 else 0) h0 (by omega) hn.2
  obtain ⟨s2, p1, p2, p3⟩ := s_radd (x := to_) q2 (by omega) hn.2
  refine ⟨s2, ?_, p2, ((Fr.si (Or.inl rfl)).tr q3).tr p3⟩
  unfold f_Row_link b_Row_link_20
  have t1 : sT s1 c = 9 := q2.1.1
  simp (disch := omega) only [h.1.1, setI_T, if_true, nv255, nv0, v_inj, vif, q1, Option.bind_some, t1, p1]
abbrev row2 (c d : Nat) : Prop := c ≠ d ∧ c + 1 ≠ d ∧ c ≠ d + 1
theorem row_row {s : AS} {c d m n : Nat} (h : IsRow s c m) (k : IsRow s d n) (hne : c ≠ d) : row2 c d := by
  obtain ⟨h1, -, h3, -⟩ := h
  obtain ⟨k1, -, k3, -⟩ := k
  refine ⟨hne, fun e => ?_, fun e => ?_⟩
  · rw [e, k1] at h3; omega
  · rw [e, k3] at h1; omega
/-- the first bytes kept, then some of another row's -/
def asB (B0 : Int → Int) (at_ : Int) (B : Int → Int) (from_ k : Int) : Int → Int := fun z => if at_ ≤ z ∧ z < at_ + k then B (from_ + (z - at_)) else B0 z
theorem s_asmL {c d m n' : Nat} {B0 B : Int → Int} {len at_ from_ to_ : Int} (hm : 0 ≤ at_ ∧ m ≤ 400 ∧ n' ≤ 400) (hf : 0 ≤ from_ ∧ from_ ≤ 1000 ∧ 0 ≤ len ∧ len ≤ n') (ht : r32 to_) (hfit : at_ + (min to_ len - from_) ≤ m) : ∀ (j n : Nat) (i : Int) (s : AS), (from_ + i + j = min to_ len ∨ (j = 0 ∧ min to_ len ≤ from_ + i)) → 0 ≤ i → i ≤ 400 → j < n → RwR s c m (asB B0 at_ B from_ i) (at_ + i) → RwR s d n' B len → row2 c d → 
    ∃ s', l_Row_assemble_22 n c d (v to_) (v (from_ + i)) s = some s' ∧ RwR s' c m (asB B0 at_ B from_ (i + j)) (at_ + i + j) ∧ Fr (inR c) s s' := by
  intro j
  induction j with
  | zero =>
    intro n i s hi h0 h4 hn h k hd
    obtain ⟨n, rfl⟩ : ∃ m, n = m + 1 := ⟨n - 1, by omega⟩
    refine ⟨s, ?_, by simpa using h, Fr.rf _ _⟩
    obtain ⟨⟨k1, k2, k3, k4⟩, k5, k6⟩ := k
    simp (disch := omega) only [l_Row_assemble_22, b_Row_assemble_22, v_lt, k1, k5, if_true]
    by_cases e : from_ + i < to_
    · rw [if_pos e, if_neg (by omega)]
    · rw [if_neg e]
  | succ j ih =>
    intro n i s hi h0 h4 hn h k hd
    obtain ⟨n, rfl⟩ : ∃ m, n = m + 1 := ⟨n - 1, by omega⟩
    have hk := k
    obtain ⟨s1, q1, q2, q3⟩ := s_radd (x := B (from_ + i)) h (by omega) hm.2.1
    have he : ∀ z : Int, 0 ≤ z → z < m → bu (asB B0 at_ B from_ i) (at_ + i) (B (from_ + i)) z = asB B0 at_ B from_ (i + 1) z := by
      intro z hz _
      unfold bu asB
      by_cases e : z = at_ + i
      · rw [if_pos e, if_pos (by omega), e, show at_ + i - at_ = i by omega]
      · rw [if_neg e]
        by_cases e2 : at_ ≤ z ∧ z < at_ + i
        · rw [if_pos e2, if_pos (by omega)]
        · rw [if_neg e2, if_neg (by omega)]
    have q2' := q2.ext he
    rw [Int.add_assoc] at q2'
    obtain ⟨s', p1, p2, p3⟩ := ih n (i + 1) s1 (by omega) (by omega) (by omega) (by omega) q2' (k.fr q3 (fun e => e.elim (fun e => hd.1 e.symm) (fun e => hd.2.1 e.symm)) (fun e => e.elim (fun e => hd.2.2 e.symm) (fun e => hd.1 (by omega)))) hd
    refine ⟨s', ?_, ?_, q3.tr p3⟩
    · obtain ⟨⟨k1, k2, k3, k4⟩, k5, k6⟩ := hk
      simp (disch := omega) only [l_Row_assemble_22, b_Row_assemble_22, v_lt, k1, k2, k3, k4, k5, k6, v_inT, v_ix, h.1.1, and_self, if_true, q1, Option.bind_some, nv1, v_add]
      rw [if_pos (by omega), if_pos (by omega), Int.add_assoc]
      exact p1
    · rw [show i + ((j + 1 : Nat) : Int) = i + 1 + j by omega, show at_ + i + ((j + 1 : Nat) : Int) = at_ + (i + 1) + j by omega]
      exact p2
