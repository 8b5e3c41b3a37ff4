/-! PAGES: a cell leaves, a cell is written -/
def clearP (P : PG) (a kept : Int) : PG := pu (pu (pu P 0 a 0) 2 a 0) 3 (a / 16) (trimL (pu (pu P 0 a 0) 2 a 0) (a / 16) kept (P 3 (a / 16)).toNat)
theorem clear_B {P : PG} (hB : PgB P) (a : Int) : PgB (pu (pu P 0 a 0) 2 a 0) := by
  refine ⟨fun z hz h0 => ?_, fun z => ?_⟩
  · rw [pu_v] at h0
    rw [pu_row _ _ _ _ (by decide), pu_row _ _ _ _ (by decide), pu_v]
    by_cases e : z = a
    · rw [if_pos e] at h0; omega
    · rw [if_neg e, pu_row _ _ _ _ (by decide)] at h0
      rw [if_neg e, pu_row _ _ _ _ (by decide)]
      exact hB.1 z hz h0
  · have h := hB.2 z
    simp only [pu_row (j := 1) _ _ _ _ (by decide : (1 : Nat) ≠ 2), pu_row (j := 1) _ _ _ _ (by decide : (1 : Nat) ≠ 0), pu_row (j := 3) _ _ _ _ (by decide : (3 : Nat) ≠ 2), pu_row (j := 3) _ _ _ _ (by decide : (3 : Nat) ≠ 0), pu_row (j := 4) _ _ _ _ (by decide : (4 : Nat) ≠ 2), pu_row (j := 4) _ _ _ _ (by decide : (4 : Nat) ≠ 0), pu_row (j := 5) _ _ _ _ (by decide : (5 : Nat) ≠ 2), pu_row (j := 5) _ _ _ _ (by decide : (5 : Nat) ≠ 0), pu_row (j := 0) _ _ _ _ (by decide : (0 : Nat) ≠ 2), pu_v, pu_row (j := 2) _ _ _ _ (by decide : (2 : Nat) ≠ 0)]
    split <;> omega
theorem s_clear {s : AS} {b : Nat} {P : PG} {a kept : Int} (h : PgR s b P) (hB : PgB P) (ha : 0 ≤ a ∧ a < 128) (hk : -1 ≤ kept ∧ kept < 128) : ∃ s', f_Pages_clear s b (v a) (v kept) = some s' ∧ PgR s' b (clearP P a kept) ∧ Fr (inP b) s s' := by
  have g1 := pg_set0 (x := 0) h ha
  have g2 := pg_set2 (x := 0) g1 ha
  have hb := hB.2 (a / 16)
  have hl : pu (pu P 0 a 0) 2 a 0 3 (a / 16) = ((P 3 (a / 16)).toNat : Int) := by rw [pu_row _ _ _ _ (by decide), pu_row _ _ _ _ (by decide)]; omega
  obtain ⟨s', q1, q2, q3⟩ := s_clearL (p := a / 16) (by omega) hk (P 3 (a / 16)).toNat fuel _ _ g2 (clear_B hB a) hl (by unfold fuel; omega)
  refine ⟨s', ?_, q2, ((Fr.si (p := b + 1) ⟨by omega, by omega⟩).tr (Fr.si (p := b + 3) ⟨by omega, by omega⟩)).tr q3⟩
  have hlen := g2.2.2.2.2.1 (a / 16) (by omega)
  rw [hl] at hlen
  obtain ⟨⟨h7, ⟨a1, b1, c1⟩, -, ⟨a3, b3, c3⟩, ⟨a4, b4, c4⟩, -⟩, -⟩ := h
  unfold f_Pages_clear
  simp (disch := omega) only [h7, a1, b1, c1, a3, b3, c3, a4, b4, c4, setI_T, setI_R, setI_N, v_inT, v_ix, and_self, if_true, nv16, nv1, nv0, v_inj, v_div, hlen, v_sub]
  rw [if_pos (by omega)]
  exact q1
/-- a row and a Pages have no place in common -/
theorem row_pg {s : AS} {b c n : Nat} (h : IsP s b) (hr : IsRow s c n) : ¬ inP b c ∧ ¬ inP b (c + 1) ∧ c ≠ b ∧ c + 1 ≠ b := by
  obtain ⟨h7, ⟨-, b1, -⟩, ⟨-, b2, -⟩, ⟨-, b3, -⟩, ⟨-, b4, -⟩, ⟨-, b5, -⟩, ⟨-, b6, -⟩⟩ := h
  obtain ⟨r1, -, r3, -⟩ := hr
  have key : ∀ q, b ≤ q → q ≤ b + 6 → q ≠ c := by
    intro q h1 h2 e
    subst e
    rcases (by omega : q = b ∨ q = b + 1 ∨ q = b + 2 ∨ q = b + 3 ∨ q = b + 4 ∨ q = b + 5 ∨ q = b + 6) with e | e | e | e | e | e | e <;> subst e <;> omega
  refine ⟨fun e => key c (by omega) e.2 rfl, fun e => key c (by omega) (by omega) rfl, fun e => key c (by omega) (by omega) rfl, fun e => ?_⟩
  rw [e, h7] at r3
  omega
theorem RwR.fr {F : Nat → Prop} {s s' : AS} {c n : Nat} {B : Int → Int} {len : Int} (h : RwR s c n B len) (hf : Fr F s s') (h1 : ¬ F c) (h2 : ¬ F (c + 1)) : RwR s' c n B len := by
  obtain ⟨⟨r1, r2, r3, r4⟩, r5, r6⟩ := h
  obtain ⟨⟨t1, t2, t3, -, -⟩, hq⟩ := hf
  refine ⟨⟨by rw [t2]; exact r1, by rw [t1]; exact r2, by rw [t2]; exact r3, by rw [t3]; exact r4⟩, by rw [(hq c h1).1]; exact r5, fun z hz => by rw [(hq (c + 1) h2).1]; exact r6 z hz⟩
def wrB (P : PG) (base : Int) (B : Int → Int) (i : Int) : PG := fun j y => if j = 5 ∧ base ≤ y ∧ y < base + i then B (y - base) else P j y
theorem s_writeL {b c m : Nat} {P : PG} {B : Int → Int} {len base : Int} (hb : 0 ≤ base ∧ base + len ≤ 512) (hm : 0 ≤ len ∧ len ≤ m ∧ m ≤ 400) : ∀ (k n : Nat) (i : Int) (s : AS), i + k = len → 0 ≤ i → k < n → PgR s b (wrB P base B i) → RwR s c m B len →
    ∃ s', l_Pages_write_39 n b c (v base) (v i) s = some s' ∧ PgR s' b (wrB P base B len) ∧ Fr (inP b) s s' := by
  intro k
  induction k with
  | zero =>
    intro n i s hi h0 hn h hr
    obtain ⟨n, rfl⟩ : ∃ m, n = m + 1 := ⟨n - 1, by omega⟩
    obtain ⟨⟨r1, r2, r3, r4⟩, r5, r6⟩ := hr
    refine ⟨s, ?_, by rw [show len = i by omega]; exact h, Fr.rf _ _⟩
    simp (disch := omega) only [l_Pages_write_39, b_Pages_write_39, r1, r5, if_true, v_lt]
    rw [if_neg (by omega)]
  | succ k ih =>
    intro n i s hi h0 hn h hr
    obtain ⟨n, rfl⟩ : ∃ m, n = m + 1 := ⟨n - 1, by omega⟩
    have hr' := hr
    have hd := row_pg h.1 hr.1
    have hw := pg_set5 (z := base + i) (x := B i) h (by omega)
    have he : pu (wrB P base B i) 5 (base + i) (B i) = wrB P base B (i + 1) := by
      funext j y
      unfold pu wrB
      by_cases e5 : j = 5
      · by_cases ey : y = base + i
        · rw [if_pos ⟨e5, ey⟩, if_pos ⟨e5, by omega, by omega⟩, show y - base = i by omega]
        · rw [if_neg (fun c => ey c.2)]
          by_cases er : base ≤ y ∧ y < base + i
          · rw [if_pos ⟨e5, er⟩, if_pos ⟨e5, by omega, by omega⟩]
          · rw [if_neg (fun c => er c.2), if_neg (fun c => er ⟨c.2.1, by omega⟩)]
      · rw [if_neg (fun c => e5 c.1), if_neg (fun c => e5 c.1), if_neg (fun c => e5 c.1)]
    rw [he] at hw
    have hf : Fr (inP b) s (setI s (b + 6) (base + i).toNat (v (B i))) := Fr.si ⟨by omega, by omega⟩
    obtain ⟨s', q1, q2, q3⟩ := ih n (i + 1) _ (by omega) (by omega) (by omega) hw (hr'.fr hf hd.1 hd.2.1)
    refine ⟨s', ?_, q2, hf.tr q3⟩
    obtain ⟨⟨h7, -, -, -, -, -, ⟨a6, b6, c6⟩⟩, -⟩ := h
    obtain ⟨⟨r1, r2, r3, r4⟩, r5, r6⟩ := hr
    have hn5 : nI 512 = v 512 := rfl
    simp (disch := omega) only [l_Pages_write_39, b_Pages_write_39, h7, a6, b6, c6, r1, r2, r3, r4, r5, r6, v_inT, v_ix, v_lt, and_self, if_true, nv1, hn5, v_add]
    rw [if_pos (by omega), if_pos (by decide), if_pos (by omega)]
    exact q1
