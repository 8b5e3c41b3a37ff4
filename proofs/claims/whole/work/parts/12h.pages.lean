/-! PAGES: a cell is written whole; pages taken from others -/
def writeP (P : PG) (a kind begin_ : Int) (B : Int → Int) (len : Int) : PG := wrB (pu (pu (pu P 0 a kind) 1 a begin_) 2 a len) (a / 16 * 64 + begin_) B len
theorem wrB_0 (P : PG) (base : Int) (B : Int → Int) : wrB P base B 0 = P := by
  funext j y
  unfold wrB
  rw [if_neg (by omega)]
theorem s_write {s : AS} {b c m : Nat} {P : PG} {a kind begin_ len : Int} {B : Int → Int} (h : PgR s b P) (hr : RwR s c m B len) (ha : 0 ≤ a ∧ a < 128) (hg : 0 ≤ begin_ ∧ begin_ + len ≤ 64) (hm : 0 ≤ len ∧ len ≤ m ∧ m ≤ 400) : ∃ s', f_Pages_write s b (v a) (v kind) (v begin_) c = some s' ∧ PgR s' b (writeP P a kind begin_ B len) ∧ Fr (inP b) s s' := by
  have hd := row_pg h.1 hr.1
  have g1 := pg_set0 (x := kind) h ha
  have g2 := pg_set1 (x := begin_) g1 ha
  have g3 := pg_set2 (x := len) g2 ha
  have hf : Fr (inP b) s (setI (setI (setI s (b + 1) a.toNat (v kind)) (b + 2) a.toNat (v begin_)) (b + 3) a.toNat (v len)) := ((Fr.si (p := b + 1) ⟨by omega, by omega⟩).tr (Fr.si (p := b + 2) ⟨by omega, by omega⟩)).tr (Fr.si (p := b + 3) ⟨by omega, by omega⟩)
  have hr3 := hr.fr hf hd.1 hd.2.1
  obtain ⟨s', q1, q2, q3⟩ := s_writeL (P := pu (pu (pu P 0 a kind) 1 a begin_) 2 a len) (base := a / 16 * 64 + begin_) (by omega) hm len.toNat fuel 0 _ (by omega) (by omega) (by unfold fuel; omega) (by rw [wrB_0]; exact g3) hr3
  refine ⟨s', ?_, q2, hf.tr q3⟩
  have hlen : sI (setI (setI s (b + 1) a.toNat (v kind)) (b + 2) a.toNat (v begin_)) c 1 = v len := by
    rw [sI_setI, if_neg (fun e => hd.1 (by rw [e.1]; exact ⟨by omega, by omega⟩)), sI_setI, if_neg (fun e => hd.1 (by rw [e.1]; exact ⟨by omega, by omega⟩)), hr.2.1]
  obtain ⟨⟨h7, ⟨a1, b1, c1⟩, ⟨a2, b2, c2⟩, ⟨a3, b3, c3⟩, -⟩, -⟩ := h
  obtain ⟨⟨r1, -⟩, -⟩ := hr
  unfold f_Pages_write
  simp (disch := omega) only [h7, a1, b1, c1, a2, b2, c2, a3, b3, c3, r1, setI_T, setI_R, setI_N, v_inT, v_ix, and_self, if_true, nv16, nv64, nv0, v_inj, v_div, v_mul, v_add, hlen]
  rw [if_pos (by omega)]
  exact q1
theorem cp_all {s : AS} {x y n : Nat} (hx : sT s x = 20) (hy : sT s y = 20) (nx : sN s x = n) (ny : sN s y = n) (hn : n < 2147483648) : cpA s x (nI 0) y (nI 0) (nI n) = some (rowI s y (va_cpy (sI s x) (sI s y) 0 0 n)) := by
  have h0 : (nI 0).toNatClampNeg = 0 := rfl
  have h1 : (nI n).toNatClampNeg = n := by rw [nI_v, v_ix ⟨by omega, by omega⟩]; omega
  have h2 : ¬ nI 0 < 0 := by decide
  have h3 : ¬ nI n < 0 := by
    rw [nI_v, show (0 : Int32) = v 0 from rfl, v_lt ⟨by omega, by omega⟩ ⟨by omega, by omega⟩]
    omega
  unfold cpA
  rw [h0, h1, if_pos ⟨⟨hx, hy⟩, ⟨h2, h2, h3⟩, by omega, by omega⟩]
theorem cp_row {f g : Nat → Int32} {n j : Nat} (h : j < n) : va_cpy f g 0 0 n j = f j := by
  unfold va_cpy
  simp only [Nat.zero_add, Nat.sub_zero, Nat.zero_le, true_and, h, if_true]
theorem pg_pg {s : AS} {b d : Nat} (h : IsP s b) (k : IsP s d) (hne : b ≠ d) : ∀ i j, i ≤ 6 → j ≤ 6 → b + i ≠ d + j := by
  have key : ∀ x y, IsP s x → IsP s y → x < y → ∀ i, i ≤ 6 → x + i ≠ y := by
    intro x y hx hy hxy i hi e
    obtain ⟨-, ⟨-, b1, -⟩, ⟨-, b2, -⟩, ⟨-, b3, -⟩, ⟨-, b4, -⟩, ⟨-, b5, -⟩, ⟨-, b6, -⟩⟩ := hx
    obtain ⟨h7, -⟩ := hy
    subst e
    rcases (by omega : i = 1 ∨ i = 2 ∨ i = 3 ∨ i = 4 ∨ i = 5 ∨ i = 6) with e | e | e | e | e | e <;> subst e <;> omega
  intro i j hi hj e
  rcases Nat.lt_or_ge b d with q | q
  · exact key b d h k q (i - j) (by omega) (by omega)
  · exact key d b k h (by omega) (j - i) (by omega) (by omega)
theorem PgR.fr {F : Nat → Prop} {s s' : AS} {b : Nat} {P : PG} (h : PgR s b P) (hf : Fr F s s') (hn : ∀ i, 1 ≤ i → i ≤ 6 → ¬ F (b + i)) : PgR s' b P := by
  obtain ⟨h0, d0, d1, d2, d3, d4, d5⟩ := h
  obtain ⟨⟨t1, t2, t3, -, -⟩, hq⟩ := hf
  refine ⟨by unfold IsP; rw [t1, t2, t3]; exact h0, ?_, ?_, ?_, ?_, ?_, ?_⟩
  · rw [(hq _ (hn 1 (by omega) (by omega))).1]; exact d0
  · rw [(hq _ (hn 2 (by omega) (by omega))).1]; exact d1
  · rw [(hq _ (hn 3 (by omega) (by omega))).1]; exact d2
  · rw [(hq _ (hn 4 (by omega) (by omega))).1]; exact d3
  · rw [(hq _ (hn 5 (by omega) (by omega))).1]; exact d4
  · rw [(hq _ (hn 6 (by omega) (by omega))).1]; exact d5
theorem s_takeFrom {s : AS} {b d : Nat} {Q : PG} (h : IsP s b) (k : PgR s d Q) (hne : b ≠ d) : ∃ s', f_Pages_takeFrom s b d = some s' ∧ PgR s' b Q ∧ Fr (inP b) s s' := by
  have hdis := pg_pg h k.1 hne
  have hi := h
  obtain ⟨h7, ⟨a1, b1, c1⟩, ⟨a2, b2, c2⟩, ⟨a3, b3, c3⟩, ⟨a4, b4, c4⟩, ⟨a5, b5, c5⟩, ⟨a6, b6, c6⟩⟩ := h
  obtain ⟨⟨k7, ⟨e1, f1, g1⟩, ⟨e2, f2, g2⟩, ⟨e3, f3, g3⟩, ⟨e4, f4, g4⟩, ⟨e5, f5, g5⟩, ⟨e6, f6, g6⟩⟩, o1, o2, o3, o4, o5, o6⟩ := k
  have hq : ∀ (s' : AS) (f : Nat → Int32) (j i : Nat), j ≤ 6 → i ≤ 6 → sI (rowI s' (b + j) f) (d + i) = sI s' (d + i) := by
    intro s' f j i hj hi'
    rw [sI_rowI, if_neg (fun e => hdis j i hj hi' e.symm)]
  refine ⟨rowI (rowI (rowI (rowI (rowI (rowI s (b + 1) (va_cpy (sI s (d + 1)) (sI s (b + 1)) 0 0 128)) (b + 2) (va_cpy (sI s (d + 2)) (sI s (b + 2)) 0 0 128)) (b + 3) (va_cpy (sI s (d + 3)) (sI s (b + 3)) 0 0 128)) (b + 4) (va_cpy (sI s (d + 4)) (sI s (b + 4)) 0 0 8)) (b + 5) (va_cpy (sI s (d + 5)) (sI s (b + 5)) 0 0 8)) (b + 6) (va_cpy (sI s (d + 6)) (sI s (b + 6)) 0 0 512), ?_, ⟨hi, ?_, ?_, ?_, ?_, ?_, ?_⟩, ?_⟩
  · unfold f_Pages_takeFrom
    simp only [h7, k7, if_true, a1, e1]
    rw [cp_all f1 b1 g1 c1 (by decide)]
    simp only [Option.bind_some, rowI_T, rowI_R, h7, k7, if_true, a2, e2]
    rw [cp_all (s := rowI _ _ _) f2 b2 g2 c2 (by decide)]
    simp only [Option.bind_some, rowI_T, rowI_R, h7, k7, if_true, a3, e3]
    rw [cp_all (s := rowI (rowI _ _ _) _ _) f3 b3 g3 c3 (by decide)]
    simp only [Option.bind_some, rowI_T, rowI_R, h7, k7, if_true, a4, e4]
    rw [cp_all (s := rowI (rowI (rowI _ _ _) _ _) _ _) f4 b4 g4 c4 (by decide)]
    simp only [Option.bind_some, rowI_T, rowI_R, h7, k7, if_true, a5, e5]
    rw [cp_all (s := rowI (rowI (rowI (rowI _ _ _) _ _) _ _) _ _) f5 b5 g5 c5 (by decide)]
    simp only [Option.bind_some, rowI_T, rowI_R, h7, k7, if_true, a6, e6]
    rw [cp_all (s := rowI (rowI (rowI (rowI (rowI _ _ _) _ _) _ _) _ _) _ _) f6 b6 g6 c6 (by decide)]
    simp only [Option.bind_some]
    have hz : ∀ (s' : AS) (f : Nat → Int32) (j i : Nat), j ≠ i → sI (rowI s' (b + j) f) (b + i) = sI s' (b + i) := by
      intro s' f j i hj
      rw [sI_rowI, if_neg (by omega)]
    simp only [hq _ _ _ _ (by decide : 1 ≤ 6) (by decide : 2 ≤ 6), hq _ _ _ _ (by decide : 1 ≤ 6) (by decide : 3 ≤ 6), hq _ _ _ _ (by decide : 1 ≤ 6) (by decide : 4 ≤ 6), hq _ _ _ _ (by decide : 1 ≤ 6) (by decide : 5 ≤ 6), hq _ _ _ _ (by decide : 1 ≤ 6) (by decide : 6 ≤ 6), hq _ _ _ _ (by decide : 2 ≤ 6) (by decide : 3 ≤ 6), hq _ _ _ _ (by decide : 2 ≤ 6) (by decide : 4 ≤ 6), hq _ _ _ _ (by decide : 2 ≤ 6) (by decide : 5 ≤ 6), hq _ _ _ _ (by decide : 2 ≤ 6) (by decide : 6 ≤ 6), hq _ _ _ _ (by decide : 3 ≤ 6) (by decide : 4 ≤ 6), hq _ _ _ _ (by decide : 3 ≤ 6) (by decide : 5 ≤ 6), hq _ _ _ _ (by decide : 3 ≤ 6) (by decide : 6 ≤ 6), hq _ _ _ _ (by decide : 4 ≤ 6) (by decide : 5 ≤ 6), hq _ _ _ _ (by decide : 4 ≤ 6) (by decide : 6 ≤ 6), hq _ _ _ _ (by decide : 5 ≤ 6) (by decide : 6 ≤ 6),
      hz _ _ _ _ (by decide : 1 ≠ 2), hz _ _ _ _ (by decide : 1 ≠ 3), hz _ _ _ _ (by decide : 1 ≠ 4), hz _ _ _ _ (by decide : 1 ≠ 5), hz _ _ _ _ (by decide : 1 ≠ 6), hz _ _ _ _ (by decide : 2 ≠ 3), hz _ _ _ _ (by decide : 2 ≠ 4), hz _ _ _ _ (by decide : 2 ≠ 5), hz _ _ _ _ (by decide : 2 ≠ 6), hz _ _ _ _ (by decide : 3 ≠ 4), hz _ _ _ _ (by decide : 3 ≠ 5), hz _ _ _ _ (by decide : 3 ≠ 6), hz _ _ _ _ (by decide : 4 ≠ 5), hz _ _ _ _ (by decide : 4 ≠ 6), hz _ _ _ _ (by decide : 5 ≠ 6)]
  all_goals first
    | (intro z hz
       simp only [sI_rowI, Nat.add_right_inj, Nat.reduceEqDiff, if_true, if_false]
       rw [cp_row (by omega)]
       first | exact o1 z hz | exact o2 z hz | exact o3 z hz | exact o4 z hz | exact o5 z hz | exact o6 z hz)
    | exact ((((Fr.ri (p := b + 1) ⟨by omega, by omega⟩).tr (Fr.ri (p := b + 2) ⟨by omega, by omega⟩)).tr (Fr.ri (p := b + 3) ⟨by omega, by omega⟩)).tr (Fr.ri (p := b + 4) ⟨by omega, by omega⟩)).tr (Fr.ri (p := b + 5) ⟨by omega, by omega⟩) |>.tr (Fr.ri (p := b + 6) ⟨by omega, by omega⟩)
