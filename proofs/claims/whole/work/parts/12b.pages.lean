/-! PAGES, AS NUMBERS -/
abbrev PG : Type := Nat → Int → Int
def sumZ (f : Int → Int) : Nat → Int
  | 0 => 0
  | n + 1 => sumZ f n + f n
def IsP (s : AS) (b : Nat) : Prop := sT s b = 7 ∧ (sR s b 0 = b + 1 ∧ sT s (b + 1) = 20 ∧ sN s (b + 1) = 128) ∧ (sR s b 1 = b + 2 ∧ sT s (b + 2) = 20 ∧ sN s (b + 2) = 128) ∧ (sR s b 2 = b + 3 ∧ sT s (b + 3) = 20 ∧ sN s (b + 3) = 128) ∧ (sR s b 3 = b + 4 ∧ sT s (b + 4) = 20 ∧ sN s (b + 4) = 8) ∧ (sR s b 4 = b + 5 ∧ sT s (b + 5) = 20 ∧ sN s (b + 5) = 8) ∧ (sR s b 5 = b + 6 ∧ sT s (b + 6) = 20 ∧ sN s (b + 6) = 512)
def PgC (s : AS) (b : Nat) (P : PG) : Prop := (∀ z : Int, 0 ≤ z ∧ z < 128 → sI s (b + 1) z.toNat = v (P 0 z)) ∧ (∀ z : Int, 0 ≤ z ∧ z < 128 → sI s (b + 2) z.toNat = v (P 1 z)) ∧ (∀ z : Int, 0 ≤ z ∧ z < 128 → sI s (b + 3) z.toNat = v (P 2 z)) ∧ (∀ z : Int, 0 ≤ z ∧ z < 8 → sI s (b + 4) z.toNat = v (P 3 z)) ∧ (∀ z : Int, 0 ≤ z ∧ z < 8 → sI s (b + 5) z.toNat = v (P 4 z)) ∧ (∀ z : Int, 0 ≤ z ∧ z < 512 → sI s (b + 6) z.toNat = v (P 5 z))
/-- numbers within their bounds -/
def PgB (P : PG) : Prop := (∀ a : Int, 0 ≤ a ∧ a < 128 → 0 < P 2 a → 0 ≤ P 1 a ∧ P 1 a + P 2 a ≤ 64) ∧ ∀ z : Int, (0 ≤ P 0 z ∧ P 0 z ≤ 5) ∧ (-1000 ≤ P 1 z ∧ P 1 z ≤ 1000) ∧ (0 ≤ P 2 z ∧ P 2 z ≤ 40) ∧ (0 ≤ P 3 z ∧ P 3 z ≤ 12) ∧ (-1000 ≤ P 4 z ∧ P 4 z ≤ 1000) ∧ (-1000 ≤ P 5 z ∧ P 5 z ≤ 1000)
def PgR (s : AS) (b : Nat) (P : PG) : Prop := IsP s b ∧ PgC s b P
def freeP (P : PG) (p : Int) : Int := 64 - 2 * P 3 p - sumZ (fun k => P 2 (p * 16 + k)) (P 3 p).toNat
theorem s_freeL {s : AS} {b : Nat} {P : PG} {p : Int} (h : PgR s b P) (hB : PgB P) (hp : 0 ≤ p ∧ p < 8) : ∀ (k n : Nat) (i acc : Int), i + k = P 3 p → 0 ≤ i → k < n →
    l_Pages_freeOf_14 s n b (v p) (v acc) (v i) = some (v (acc - (sumZ (fun k => P 2 (p * 16 + k)) (P 3 p).toNat - sumZ (fun k => P 2 (p * 16 + k)) i.toNat))) := by
  obtain ⟨⟨h7, -, -, ⟨a3, b3, c3⟩, ⟨a4, b4, c4⟩, -, -⟩, -, -, d3, d4, -, -⟩ := h
  have hb := hB.2 p
  intro k
  induction k with
  | zero =>
    intro n i acc hi h0 hn
    obtain ⟨n, rfl⟩ : ∃ m, n = m + 1 := ⟨n - 1, by omega⟩
    simp (disch := omega) only [l_Pages_freeOf_14, b_Pages_freeOf_14, h7, a4, b4, c4, v_inT, v_ix, d4, v_lt, and_self, if_true, if_false]
    rw [if_neg (by omega)]
    rw [show i = P 3 p by omega, Int.sub_self, Int.sub_zero]
  | succ k ih =>
    intro n i acc hi h0 hn
    obtain ⟨n, rfl⟩ : ∃ m, n = m + 1 := ⟨n - 1, by omega⟩
    simp (disch := omega) only [l_Pages_freeOf_14, b_Pages_freeOf_14, h7, a4, b4, c4, a3, b3, c3, v_inT, v_ix, d4, d3, v_lt, and_self, if_true, if_false, nv16, nv1, v_add, v_sub, v_mul]
    rw [if_pos (by omega), ih n (i + 1) _ (by omega) (by omega) (by omega)]
    rw [show (i + 1).toNat = i.toNat + 1 by omega]
    show some (v _) = some (v _)
    simp only [sumZ]
    rw [show ((i.toNat : Nat) : Int) = i by omega]
    congr 2
    omega
theorem s_freeOf {s : AS} {b : Nat} {P : PG} {p : Int} (h : PgR s b P) (hB : PgB P) (hp : 0 ≤ p ∧ p < 8) : f_Pages_freeOf s b (v p) = some (v (freeP P p)) := by
  have hl := s_freeL h hB hp
  have hb := hB.2 p
  obtain ⟨⟨h7, -, -, -, ⟨a4, b4, c4⟩, -, -⟩, -, -, -, d4, -, -⟩ := h
  unfold f_Pages_freeOf
  simp (disch := omega) only [h7, a4, b4, c4, v_inT, v_ix, d4, and_self, if_true, nv64, nv2, nv0, v_mul, v_sub]
  rw [hl (P 3 p).toNat fuel 0 _ (by omega) (by omega) (by unfold fuel; omega)]
  show some (v (_ - (_ - 0))) = _
  rw [Int.sub_zero]
  rfl
def minL (P : PG) (p : Int) : Nat → Int
  | 0 => 64
  | n + 1 => if P 0 (p * 16 + n) = 0 then minL P p n else if P 1 (p * 16 + n) < minL P p n then P 1 (p * 16 + n) else minL P p n
def lowP (P : PG) (p : Int) : Int := minL P p (P 3 p).toNat
theorem minL_r {P : PG} (hB : PgB P) (p : Int) : ∀ n, -1000 ≤ minL P p n ∧ minL P p n ≤ 64 := by
  intro n
  induction n with
  | zero => unfold minL; omega
  | succ n ih =>
    have := hB.2 (p * 16 + n)
    unfold minL
    split
    · exact ih
    · split <;> omega
theorem s_lowL {s : AS} {b : Nat} {P : PG} {p : Int} (h : PgR s b P) (hB : PgB P) (hp : 0 ≤ p ∧ p < 8) : ∀ (k n i : Nat), (i : Int) + k = P 3 p → k < n →
    l_Pages_lowestOf_5 s n b (v p) (v (minL P p i)) (v i) = some (v (lowP P p)) := by
  obtain ⟨⟨h7, ⟨a1, b1, c1⟩, ⟨a2, b2, c2⟩, -, ⟨a4, b4, c4⟩, -, -⟩, d1, d2, -, d4, -, -⟩ := h
  have hb := hB.2 p
  intro k
  induction k with
  | zero =>
    intro n i hi hn
    obtain ⟨n, rfl⟩ : ∃ m, n = m + 1 := ⟨n - 1, by omega⟩
    simp (disch := omega) only [l_Pages_lowestOf_5, b_Pages_lowestOf_5, h7, a4, b4, c4, v_inT, v_ix, d4, v_lt, and_self, if_true, if_false]
    rw [if_neg (by omega)]
    unfold lowP
    rw [show (P 3 p).toNat = i by omega]
  | succ k ih =>
    intro n i hi hn
    obtain ⟨n, rfl⟩ : ∃ m, n = m + 1 := ⟨n - 1, by omega⟩
    have hk := hB.2 (p * 16 + i)
    have hm := minL_r hB p i
    simp (disch := omega) only [l_Pages_lowestOf_5, b_Pages_lowestOf_5, h7, a4, b4, c4, a1, b1, c1, a2, b2, c2, v_inT, v_ix, d4, d1, d2, v_lt, v_inj, and_self, if_true, if_false, nv16, nv1, nv0, v_add, v_sub, v_mul, vif]
    rw [if_pos (by omega)]
    have hs := ih n (i + 1) (by omega) (by omega)
    rw [show ((i + 1 : Nat) : Int) = (i : Int) + 1 by omega] at hs
    simp only [minL] at hs
    split
    · rename_i hc
      rw [if_pos hc] at hs
      exact hs
    · rename_i hc
      rw [if_neg hc] at hs
      exact hs
theorem s_lowestOf {s : AS} {b : Nat} {P : PG} {p : Int} (h : PgR s b P) (hB : PgB P) (hp : 0 ≤ p ∧ p < 8) : f_Pages_lowestOf s b (v p) = some (v (lowP P p)) := by
  have hb := hB.2 p
  exact s_lowL h hB hp (P 3 p).toNat fuel 0 (by omega) (by unfold fuel; omega)
def gapP (P : PG) (p : Int) : Int := lowP P p - 2 * P 3 p
theorem s_gapOf {s : AS} {b : Nat} {P : PG} {p : Int} (h : PgR s b P) (hB : PgB P) (hp : 0 ≤ p ∧ p < 8) : f_Pages_gapOf s b (v p) = some (v (gapP P p)) := by
  have hl := s_lowestOf h hB hp
  obtain ⟨⟨h7, -, -, -, ⟨a4, b4, c4⟩, -, -⟩, -, -, -, d4, -, -⟩ := h
  unfold f_Pages_gapOf
  simp (disch := omega) only [h7, hl, Option.bind_some, a4, b4, c4, v_inT, v_ix, d4, and_self, if_true, nv2, v_mul, v_sub]
  rfl
def wasteP (P : PG) (p : Int) : Int := freeP P p - gapP P p
theorem s_wasteOf {s : AS} {b : Nat} {P : PG} {p : Int} (h : PgR s b P) (hB : PgB P) (hp : 0 ≤ p ∧ p < 8) : f_Pages_wasteOf s b (v p) = some (v (wasteP P p)) := by
  have h1 := s_freeOf h hB hp
  have h2 := s_gapOf h hB hp
  unfold f_Pages_wasteOf
  simp (disch := omega) only [h.1.1, h1, h2, Option.bind_some, if_true, v_sub]
  rfl
def cellsP (P : PG) (p : Int) : Int := sumZ (fun k => if P 0 (p * 16 + k) = 0 then 0 else 1) (P 3 p).toNat
theorem s_cellsL {s : AS} {b : Nat} {P : PG} {p : Int} (h : PgR s b P) (hB : PgB P) (hp : 0 ≤ p ∧ p < 8) : ∀ (k n i : Nat), (i : Int) + k = P 3 p → k < n →
    l_Pages_cellsOf_4 s n b (v p) (v (sumZ (fun k => if P 0 (p * 16 + k) = 0 then 0 else 1) i)) (v i) = some (v (cellsP P p)) := by
  obtain ⟨⟨h7, ⟨a1, b1, c1⟩, -, -, ⟨a4, b4, c4⟩, -, -⟩, d1, -, -, d4, -, -⟩ := h
  have hb := hB.2 p
  intro k
  induction k with
  | zero =>
    intro n i hi hn
    obtain ⟨n, rfl⟩ : ∃ m, n = m + 1 := ⟨n - 1, by omega⟩
    simp (disch := omega) only [l_Pages_cellsOf_4, b_Pages_cellsOf_4, h7, a4, b4, c4, v_inT, v_ix, d4, v_lt, and_self, if_true, if_false]
    rw [if_neg (by omega)]
    unfold cellsP
    rw [show (P 3 p).toNat = i by omega]
  | succ k ih =>
    intro n i hi hn
    obtain ⟨n, rfl⟩ : ∃ m, n = m + 1 := ⟨n - 1, by omega⟩
    have hk := hB.2 (p * 16 + i)
    simp (disch := omega) only [l_Pages_cellsOf_4, b_Pages_cellsOf_4, h7, a4, b4, c4, a1, b1, c1, v_inT, v_ix, d4, d1, v_lt, v_inj, and_self, if_true, if_false, nv16, nv1, nv0, v_add, v_sub, v_mul, vif]
    rw [if_pos (by omega)]
    have hs := ih n (i + 1) (by omega) (by omega)
    rw [show ((i + 1 : Nat) : Int) = (i : Int) + 1 by omega] at hs
    simp only [sumZ] at hs
    split
    · rename_i hc
      rw [if_pos hc, Int.add_zero] at hs
      exact hs
    · rename_i hc
      rw [if_neg hc] at hs
      exact hs
theorem s_cellsOf {s : AS} {b : Nat} {P : PG} {p : Int} (h : PgR s b P) (hB : PgB P) (hp : 0 ≤ p ∧ p < 8) : f_Pages_cellsOf s b (v p) = some (v (cellsP P p)) := by
  have hb := hB.2 p
  exact s_cellsL h hB hp (P 3 p).toNat fuel 0 (by omega) (by unfold fuel; omega)
def openL (P : PG) (p kept : Int) : Nat → Int → Int
  | 0, _ => if P 3 p < 12 then P 3 p else -1
  | k + 1, i => if P 0 (p * 16 + i) = 0 ∧ ¬ p * 16 + i = kept then i else openL P p kept k (i + 1)
def openP (P : PG) (p kept : Int) : Int := openL P p kept (P 3 p).toNat 0
theorem s_openL {s : AS} {b : Nat} {P : PG} {p kept : Int} (h : PgR s b P) (hB : PgB P) (hp : 0 ≤ p ∧ p < 8) (hk : -1 ≤ kept ∧ kept < 128) : ∀ (k n i : Nat), (i : Int) + k = P 3 p → k < n →
    l_Pages_openSlot_2 s n b (v p) (v kept) (v i) = some (v (openL P p kept k i)) := by
  obtain ⟨⟨h7, ⟨a1, b1, c1⟩, -, -, ⟨a4, b4, c4⟩, -, -⟩, d1, -, -, d4, -, -⟩ := h
  have hb := hB.2 p
  intro k
  induction k with
  | zero =>
    intro n i hi hn
    obtain ⟨n, rfl⟩ : ∃ m, n = m + 1 := ⟨n - 1, by omega⟩
    simp (disch := omega) only [l_Pages_openSlot_2, b_Pages_openSlot_2, h7, a4, b4, c4, v_inT, v_ix, d4, v_lt, and_self, if_true, if_false, nv12, nv1, v_neg]
    rw [if_neg (by omega)]
    unfold openL
    split <;> rfl
  | succ k ih =>
    intro n i hi hn
    obtain ⟨n, rfl⟩ : ∃ m, n = m + 1 := ⟨n - 1, by omega⟩
    have hk0 := hB.2 (p * 16 + i)
    simp (disch := omega) only [l_Pages_openSlot_2, b_Pages_openSlot_2, h7, a4, b4, c4, a1, b1, c1, v_inT, v_ix, d4, d1, v_lt, v_inj, and_self, if_true, if_false, nv16, nv1, nv0, v_add, v_sub, v_mul, vif]
    rw [if_pos (by omega)]
    have hs := ih n (i + 1) (by omega) (by omega)
    rw [show ((i + 1 : Nat) : Int) = (i : Int) + 1 by omega] at hs
    unfold openL
    by_cases hc : P 0 (p * 16 + i) = 0
    · by_cases hd : p * 16 + (i : Int) = kept
      · rw [if_pos hc, if_pos hd, if_neg (by omega)]
        exact hs
      · rw [if_pos hc, if_neg hd, if_pos ⟨hc, hd⟩]
    · rw [if_neg hc, if_neg (by omega)]
      exact hs
theorem s_openSlot {s : AS} {b : Nat} {P : PG} {p kept : Int} (h : PgR s b P) (hB : PgB P) (hp : 0 ≤ p ∧ p < 8) (hk : -1 ≤ kept ∧ kept < 128) : f_Pages_openSlot s b (v p) (v kept) = some (v (openP P p kept)) := by
  have hb := hB.2 p
  exact s_openL h hB hp hk (P 3 p).toNat fuel 0 (by omega) (by unfold fuel; omega)
