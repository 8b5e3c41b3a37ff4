/-! PAGES: writing -/
def pu (P : PG) (i : Nat) (z x : Int) : PG := fun j y => if j = i ∧ y = z then x else P j y
theorem pu_eq (P : PG) (i : Nat) (z x : Int) : pu P i z x i z = x := if_pos ⟨rfl, rfl⟩
theorem pu_ne (P : PG) (i : Nat) (z x : Int) {j : Nat} {y : Int} (h : ¬ (j = i ∧ y = z)) : pu P i z x j y = P j y := if_neg h
theorem pu_row (P : PG) (i : Nat) (z x : Int) {j : Nat} (h : j ≠ i) (y : Int) : pu P i z x j y = P j y := if_neg (fun e => h e.1)
theorem pu_pu (P : PG) (i : Nat) (z x y : Int) : pu (pu P i z x) i z y = pu P i z y := by
  funext j k
  unfold pu
  split <;> rfl
theorem pu_same (P : PG) (i : Nat) (z : Int) : pu P i z (P i z) = P := by
  funext j k
  unfold pu
  split
  · rename_i h
    rw [h.1, h.2]
  · rfl
abbrev inP (b : Nat) : Nat → Prop := fun q => b < q ∧ q ≤ b + 6
theorem pset_in {s : AS} {a q : Nat} {f : Int → Int} {m z x : Int} (h : ∀ y : Int, 0 ≤ y ∧ y < m → sI s q y.toNat = v (f y)) (hz : 0 ≤ z ∧ z < m) (ha : a = q) : ∀ y : Int, 0 ≤ y ∧ y < m → sI (setI s a z.toNat (v x)) q y.toNat = v (if y = z then x else f y) := by
  intro y hy
  subst ha
  rw [sI_setI]
  by_cases e : y = z
  · rw [if_pos ⟨rfl, by rw [e]⟩, if_pos e]
  · rw [if_neg (fun c => e (by omega)), if_neg e, h y hy]
theorem pset_out {s : AS} {a q : Nat} {f : Int → Int} {m : Int} {k : Nat} {x : Int32} (h : ∀ y : Int, 0 ≤ y ∧ y < m → sI s q y.toNat = v (f y)) (ha : a ≠ q) : ∀ y : Int, 0 ≤ y ∧ y < m → sI (setI s a k x) q y.toNat = v (f y) := by
  intro y hy
  rw [sI_setI, if_neg (fun c => ha c.1.symm), h y hy]
theorem pu_v (P : PG) (i : Nat) (z x y : Int) : pu P i z x i y = if y = z then x else P i y := by
  unfold pu
  by_cases e : y = z
  · rw [if_pos ⟨rfl, e⟩, if_pos e]
  · rw [if_neg (fun c => e c.2), if_neg e]
theorem pg_set0 {s : AS} {b : Nat} {P : PG} {z x : Int} (h : PgR s b P) (hz : 0 ≤ z ∧ z < 128) : PgR (setI s (b + 1) z.toNat (v x)) b (pu P 0 z x) := by
  obtain ⟨h0, d0, d1, d2, d3, d4, d5⟩ := h
  exact ⟨h0, fun y hy => by rw [pu_v]; exact pset_in d0 hz rfl y hy, fun y hy => by rw [pu_row _ _ _ _ (by decide)]; exact pset_out d1 (by omega) y hy, fun y hy => by rw [pu_row _ _ _ _ (by decide)]; exact pset_out d2 (by omega) y hy, fun y hy => by rw [pu_row _ _ _ _ (by decide)]; exact pset_out d3 (by omega) y hy, fun y hy => by rw [pu_row _ _ _ _ (by decide)]; exact pset_out d4 (by omega) y hy, fun y hy => by rw [pu_row _ _ _ _ (by decide)]; exact pset_out d5 (by omega) y hy⟩
theorem pg_set1 {s : AS} {b : Nat} {P : PG} {z x : Int} (h : PgR s b P) (hz : 0 ≤ z ∧ z < 128) : PgR (setI s (b + 2) z.toNat (v x)) b (pu P 1 z x) := by
  obtain ⟨h0, d0, d1, d2, d3, d4, d5⟩ := h
  exact ⟨h0, fun y hy => by rw [pu_row _ _ _ _ (by decide)]; exact pset_out d0 (by omega) y hy, fun y hy => by rw [pu_v]; exact pset_in d1 hz rfl y hy, fun y hy => by rw [pu_row _ _ _ _ (by decide)]; exact pset_out d2 (by omega) y hy, fun y hy => by rw [pu_row _ _ _ _ (by decide)]; exact pset_out d3 (by omega) y hy, fun y hy => by rw [pu_row _ _ _ _ (by decide)]; exact pset_out d4 (by omega) y hy, fun y hy => by rw [pu_row _ _ _ _ (by decide)]; exact pset_out d5 (by omega) y hy⟩
theorem pg_set2 {s : AS} {b : Nat} {P : PG} {z x : Int} (h : PgR s b P) (hz : 0 ≤ z ∧ z < 128) : PgR (setI s (b + 3) z.toNat (v x)) b (pu P 2 z x) := by
  obtain ⟨h0, d0, d1, d2, d3, d4, d5⟩ := h
  exact ⟨h0, fun y hy => by rw [pu_row _ _ _ _ (by decide)]; exact pset_out d0 (by omega) y hy, fun y hy => by rw [pu_row _ _ _ _ (by decide)]; exact pset_out d1 (by omega) y hy, fun y hy => by rw [pu_v]; exact pset_in d2 hz rfl y hy, fun y hy => by rw [pu_row _ _ _ _ (by decide)]; exact pset_out d3 (by omega) y hy, fun y hy => by rw [pu_row _ _ _ _ (by decide)]; exact pset_out d4 (by omega) y hy, fun y hy => by rw [pu_row _ _ _ _ (by decide)]; exact pset_out d5 (by omega) y hy⟩
theorem pg_set3 {s : AS} {b : Nat} {P : PG} {z x : Int} (h : PgR s b P) (hz : 0 ≤ z ∧ z < 8) : PgR (setI s (b + 4) z.toNat (v x)) b (pu P 3 z x) := by
  obtain ⟨h0, d0, d1, d2, d3, d4, d5⟩ := h
  exact ⟨h0, fun y hy => by rw [pu_row _ _ _ _ (by decide)]; exact pset_out d0 (by omega) y hy, fun y hy => by rw [pu_row _ _ _ _ (by decide)]; exact pset_out d1 (by omega) y hy, fun y hy => by rw [pu_row _ _ _ _ (by decide)]; exact pset_out d2 (by omega) y hy, fun y hy => by rw [pu_v]; exact pset_in d3 hz rfl y hy, fun y hy => by rw [pu_row _ _ _ _ (by decide)]; exact pset_out d4 (by omega) y hy, fun y hy => by rw [pu_row _ _ _ _ (by decide)]; exact pset_out d5 (by omega) y hy⟩
theorem pg_set4 {s : AS} {b : Nat} {P : PG} {z x : Int} (h : PgR s b P) (hz : 0 ≤ z ∧ z < 8) : PgR (setI s (b + 5) z.toNat (v x)) b (pu P 4 z x) := by
  obtain ⟨h0, d0, d1, d2, d3, d4, d5⟩ := h
  exact ⟨h0, fun y hy => by rw [pu_row _ _ _ _ (by decide)]; exact pset_out d0 (by omega) y hy, fun y hy => by rw [pu_row _ _ _ _ (by decide)]; exact pset_out d1 (by omega) y hy, fun y hy => by rw [pu_row _ _ _ _ (by decide)]; exact pset_out d2 (by omega) y hy, fun y hy => by rw [pu_row _ _ _ _ (by decide)]; exact pset_out d3 (by omega) y hy, fun y hy => by rw [pu_v]; exact pset_in d4 hz rfl y hy, fun y hy => by rw [pu_row _ _ _ _ (by decide)]; exact pset_out d5 (by omega) y hy⟩
theorem pg_set5 {s : AS} {b : Nat} {P : PG} {z x : Int} (h : PgR s b P) (hz : 0 ≤ z ∧ z < 512) : PgR (setI s (b + 6) z.toNat (v x)) b (pu P 5 z x) := by
  obtain ⟨h0, d0, d1, d2, d3, d4, d5⟩ := h
  exact ⟨h0, fun y hy => by rw [pu_row _ _ _ _ (by decide)]; exact pset_out d0 (by omega) y hy, fun y hy => by rw [pu_row _ _ _ _ (by decide)]; exact pset_out d1 (by omega) y hy, fun y hy => by rw [pu_row _ _ _ _ (by decide)]; exact pset_out d2 (by omega) y hy, fun y hy => by rw [pu_row _ _ _ _ (by decide)]; exact pset_out d3 (by omega) y hy, fun y hy => by rw [pu_row _ _ _ _ (by decide)]; exact pset_out d4 (by omega) y hy, fun y hy => by rw [pu_v]; exact pset_in d5 hz rfl y hy⟩
def promP (P : PG) (p : Int) : PG := pu P 4 p (freeP P p / 8)
theorem s_promise {s : AS} {b : Nat} {P : PG} {p : Int} (h : PgR s b P) (hB : PgB P) (hp : 0 ≤ p ∧ p < 8) (hf : 0 ≤ freeP P p) : ∃ s', f_Pages_promise s b (v p) = some s' ∧ PgR s' b (promP P p) ∧ Fr (inP b) s s' := by
  have h1 := s_freeOf h hB hp
  have hr := freeP_r hB p
  refine ⟨setI s (b + 5) p.toNat (v (freeP P p / 8)), ?_, pg_set4 h hp, Fr.si ⟨by omega, by omega⟩⟩
  obtain ⟨⟨h7, -, -, -, -, ⟨a5, b5, c5⟩, -⟩, -⟩ := h
  unfold f_Pages_promise
  simp (disch := omega) only [h7, h1, Option.bind_some, a5, b5, c5, v_inT, v_ix, and_self, if_true, nv8, nv0, v_inj, v_div]
  rw [if_pos (by omega)]
/-- where a directory ends then -/
def trimL (P : PG) (p kept : Int) : Nat → Int
  | 0 => 0
  | n + 1 => if P 0 (p * 16 + n) = 0 ∧ ¬ p * 16 + n = kept then trimL P p kept n else n + 1
theorem s_clearL {b : Nat} {p kept : Int} (hp : 0 ≤ p ∧ p < 8) (hk : -1 ≤ kept ∧ kept < 128) : ∀ (k n : Nat) (s : AS) (P : PG), PgR s b P → PgB P → P 3 p = k → k < n →
    ∃ s', l_Pages_clear_29 n b (v kept) (v p) (v ((k : Int) - 1)) s = some s' ∧ PgR s' b (pu P 3 p (trimL P p kept k)) ∧ Fr (inP b) s s' := by
  intro k
  induction k with
  | zero =>
    intro n s P h hB hl hn
    obtain ⟨n, rfl⟩ : ∃ m, n = m + 1 := ⟨n - 1, by omega⟩
    refine ⟨s, ?_, ?_, Fr.rf _ _⟩
    · simp (disch := omega) only [l_Pages_clear_29, b_Pages_clear_29, nv0, v_lt]
      rw [if_pos (by omega)]
    · rw [show trimL P p kept 0 = P 3 p by rw [hl]; rfl, pu_same]
      exact h
  | succ k ih =>
    intro n s P h hB hl hn
    obtain ⟨n, rfl⟩ : ∃ m, n = m + 1 := ⟨n - 1, by omega⟩
    have h' := h
    have hb := hB.2 p
    have hc := hB.2 (p * 16 + k)
    obtain ⟨⟨h7, ⟨a1, b1, c1⟩, -, -, ⟨a4, b4, c4⟩, -⟩, d1, -⟩ := h
    rw [show (((k + 1 : Nat) : Int) - 1) = k by omega]
    simp (disch := omega) only [l_Pages_clear_29, b_Pages_clear_29, h7, a1, b1, c1, a4, b4, c4, v_inT, v_ix, d1, v_lt, v_inj, and_self, if_true, nv16, nv1, nv0, v_add, v_mul, v_neg]
    rw [if_neg (by omega)]
    unfold trimL
    by_cases e1 : P 0 (p * 16 + k) = 0
    · by_cases e2 : p * 16 + (k : Int) = kept
      · rw [if_pos e1, if_pos e2, if_neg (fun c => c.2 e2)]
        refine ⟨s, rfl, ?_, Fr.rf _ _⟩
        rw [show ((k : Int) + 1) = P 3 p by omega, pu_same]
        exact h'
      · rw [if_pos e1, if_neg e2, if_pos ⟨e1, e2⟩]
        have hs := pg_set3 (z := p) (x := k) h' hp
        have hB1 : PgB (pu P 3 p k) := by
          refine ⟨fun a ha h0 => ?_, fun z => ?_⟩
          · rw [pu_row _ _ _ _ (by decide)] at h0
            rw [pu_row _ _ _ _ (by decide), pu_row _ _ _ _ (by decide)]
            exact hB.1 a ha h0
          · have hz := hB.2 z
            rw [pu_row _ _ _ _ (by decide), pu_row _ _ _ _ (by decide), pu_row _ _ _ _ (by decide), pu_row (j := 4) _ _ _ _ (by decide), pu_row (j := 5) _ _ _ _ (by decide), pu_v]
            split <;> omega
        obtain ⟨s', q1, q2, q3⟩ := ih n (setI s (b + 4) p.toNat (v k)) (pu P 3 p k) hs hB1 (pu_eq _ _ _ _) (by omega)
        refine ⟨s', by rw [show (k : Int) + -1 = k - 1 by omega]; exact q1, ?_, (Fr.si (p := b + 4) ⟨by omega, by omega⟩).tr q3⟩
        have ht : ∀ m, trimL (pu P 3 p k) p kept m = trimL P p kept m := by
          intro m
          induction m with
          | zero => rfl
          | succ m im => unfold trimL; rw [pu_row _ _ _ _ (by decide), im]
        rw [pu_pu, ht] at q2
        exact q2
    · rw [if_neg e1, if_neg (fun c => e1 c.1)]
      refine ⟨s, rfl, ?_, Fr.rf _ _⟩
      rw [show ((k : Int) + 1) = P 3 p by omega, pu_same]
      exact h'
