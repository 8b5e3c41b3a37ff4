/-! ROWS OF BYTES: a cell, whole -/
def asmB (B0 : Int → Int) (next : Int) (B : Int → Int) (from_ k : Int) : Int → Int := if next = -1 then asB B0 0 B from_ k else asB (bu (bu B0 0 (if next = 255 then 255 else 0)) 1 next) 2 B from_ k
def asmN (next k : Int) : Int := if next = -1 then k else 2 + k
theorem asB_0 (B0 : Int → Int) (at_ : Int) (B : Int → Int) (from_ : Int) : asB B0 at_ B from_ 0 = B0 := by
  funext z
  unfold asB
  rw [if_neg (by omega)]
theorem s_assemble {s : AS} {c d m n' : Nat} {B0 B : Int → Int} {len0 len next from_ to_ : Int} (h : RwR s c m B0 len0) (k : RwR s d n' B len) (hd : row2 c d) (hm : 2 ≤ m ∧ m ≤ 400 ∧ n' ≤ 400) (hf : 0 ≤ from_ ∧ from_ ≤ 400 ∧ 0 ≤ len ∧ len ≤ n') (ht : r32 to_) (hx : r32 next)
    (hfit : asmN next (max 0 (min to_ len - from_)) ≤ m) : ∃ s', f_Row_assemble s c (v next) d (v from_) (v to_) = some s' ∧ RwR s' c m (asmB B0 next B from_ (max 0 (min to_ len - from_))) (asmN next (max 0 (min to_ len - from_))) ∧ Fr (inR c) s s' := by
  have h0 : RwR (setI s c 1 (v 0)) c m B0 0 := RwR.len0 h
  have hf0 : Fr (inR c) s (setI s c 1 (v 0)) := Fr.si (Or.inl rfl)
  have hn1 : ¬ inR c d := fun e => e.elim (fun e => hd.1 e.symm) (fun e => hd.2.1 e.symm)
  have hn2 : ¬ inR c (d + 1) := fun e => e.elim (fun e => hd.2.2 e.symm) (fun e => hd.1 (by omega))
  have hj : (((min to_ len - from_).toNat : Nat) : Int) = max 0 (min to_ len - from_) := by omega
  unfold asmN at hfit
  unfold asmB asmN f_Row_assemble b_Row_assemble_15
  simp (disch := omega) only [h.1.1, setI_T, if_true, nv0, nv1, v_neg, v_inj, v_lt, vif]
  rw [show (if 0 < from_ then from_ else 0) = from_ by split <;> omega]
  by_cases e : next = -1
  · rw [if_pos e] at hfit
    rw [if_pos e, if_pos e, if_pos e]
    obtain ⟨s', q1, q2, q3⟩ := s_asmL (c := c) (d := d) (m := m) (n' := n') (B0 := B0) (B := B) (len := len) (at_ := 0) (from_ := from_) (to_ := to_) (by omega) (by omega) ht (by omega) (min to_ len - from_).toNat fuel 0 _ (by omega) (by omega) (by omega) (by unfold fuel; omega) (by rw [asB_0]; exact h0) (k.fr hf0 hn1 hn2) hd
    rw [Int.add_zero] at q1
    rw [Int.zero_add, Int.zero_add, Int.zero_add, hj] at q2
    exact ⟨s', q1, q2, hf0.tr q3⟩
  · rw [if_neg e] at hfit
    rw [if_neg e, if_neg e, if_neg e]
    obtain ⟨s1, p1, p2, p3⟩ := s_link (to_ := next) h0 (by omega) hx
    obtain ⟨s', q1, q2, q3⟩ := s_asmL (c := c) (d := d) (m := m) (n' := n') (B0 := bu (bu B0 0 (if next = 255 then 255 else 0)) 1 next) (B := B) (len := len) (at_ := 2) (from_ := from_) (to_ := to_) (by omega) (by omega) ht (by omega) (min to_ len - from_).toNat fuel 0 _ (by omega) (by omega) (by omega) (by unfold fuel; omega) (by rw [asB_0]; exact p2) (k.fr (hf0.tr p3) hn1 hn2) hd
    rw [Int.add_zero] at q1
    rw [Int.zero_add, Int.add_zero, hj] at q2
    rw [p1, Option.bind_some]
    exact ⟨s', q1, q2, (hf0.tr p3).tr q3⟩
