/-! PAGES, AS NUMBERS: walks and counts -/
theorem s_kindL {s : AS} {b : Nat} {P : PG} {kd : Int} (h : PgR s b P) (hB : PgB P) (hk : r32 kd) : ∀ (k n i : Nat), i + k = 128 → k < n →
    l_Pages_cellsOfKind_4 s n b (v kd) (v (cntP P kd i)) (v i) = some (v (cntP P kd 128)) := by
  obtain ⟨⟨h7, ⟨a1, b1, c1⟩, -⟩, d1, -⟩ := h
  intro k
  induction k with
  | zero =>
    intro n i hi hn
    obtain ⟨n, rfl⟩ : ∃ m, n = m + 1 := ⟨n - 1, by omega⟩
    simp (disch := omega) only [l_Pages_cellsOfKind_4, b_Pages_cellsOfKind_4, nv128, v_lt]
    rw [if_neg (by omega), show i = 128 by omega]
  | succ k ih =>
    intro n i hi hn
    obtain ⟨n, rfl⟩ : ∃ m, n = m + 1 := ⟨n - 1, by omega⟩
    have hb := hB.2 i
    simp (disch := omega) only [l_Pages_cellsOfKind_4, b_Pages_cellsOfKind_4, h7, a1, b1, c1, v_inT, v_ix, d1, v_lt, v_inj, and_self, if_true, nv128, nv1, v_add]
    rw [if_pos (by omega)]
    have hs := ih n (i + 1) (by omega) (by omega)
    rw [show ((i + 1 : Nat) : Int) = (i : Int) + 1 by omega] at hs
    rw [show cntP P kd (i + 1) = cntP P kd i + (if P 0 (i : Int) = kd then 1 else 0) from rfl] at hs
    split
    · rename_i hc
      rw [if_pos hc] at hs
      exact hs
    · rename_i hc
      rw [if_neg hc, Int.add_zero] at hs
      exact hs
theorem s_cellsOfKind {s : AS} {b : Nat} {P : PG} {kd : Int} (h : PgR s b P) (hB : PgB P) (hk : r32 kd) : f_Pages_cellsOfKind s b (v kd) = some (v (cntP P kd 128)) :=
  s_kindL h hB hk 128 fuel 0 (by omega) (by unfold fuel; omega)
def countP (P : PG) : Int := cntP P 1 128 + cntP P 2 128 + cntP P 4 128
theorem s_recordCount {s : AS} {b : Nat} {P : PG} (h : PgR s b P) (hB : PgB P) : f_Pages_recordCount s b = some (v (countP P)) := by
  have h1 := s_cellsOfKind (kd := 1) h hB (by omega)
  have h2 := s_cellsOfKind (kd := 2) h hB (by omega)
  have h4 := s_cellsOfKind (kd := 4) h hB (by omega)
  unfold f_Pages_recordCount
  simp only [h.1.1, if_true, nv1, nv2, nv4, h1, h2, h4, Option.bind_some, v_add]
  rfl
def sizeL (P : PG) : Nat → Int → Int
  | 0, _ => 0
  | n + 1, a => if a = -1 then 0 else P 2 a - linkP P a + sizeL P n (nextP P a)
def sizeP (P : PG) (a : Int) : Int := sizeL P 128 a
theorem s_sizeL {s : AS} {b : Nat} {P : PG} (h : PgR s b P) (hB : PgB P) : ∀ (k n i : Nat) (a acc : Int), i + k = 128 → k < n → -1 ≤ a ∧ a < 128 →
    l_Pages_sizeOf_7 s n b (v acc) (v a) (v i) = some (v (acc + sizeL P k a)) := by
  have h' := h
  obtain ⟨⟨h7, -, -, ⟨a3, b3, c3⟩, -⟩, -, -, d3, -⟩ := h
  intro k
  induction k with
  | zero =>
    intro n i a acc hi hn ha
    obtain ⟨n, rfl⟩ : ∃ m, n = m + 1 := ⟨n - 1, by omega⟩
    simp (disch := omega) only [l_Pages_sizeOf_7, b_Pages_sizeOf_7, nv128, v_lt]
    rw [if_neg (by omega), sizeL, Int.add_zero]
  | succ k ih =>
    intro n i a acc hi hn ha
    obtain ⟨n, rfl⟩ : ∃ m, n = m + 1 := ⟨n - 1, by omega⟩
    simp (disch := omega) only [l_Pages_sizeOf_7, b_Pages_sizeOf_7, v_lt, v_inj, v_neg, nv128, nv1]
    rw [if_pos (by omega), sizeL]
    by_cases hc : a = -1
    · rw [if_pos hc, if_pos hc, Int.add_zero]
    · have hx : 0 ≤ a ∧ a < 128 := by omega
      have h1 := s_linkOf h' hB hx
      have h2 := s_followerOf h' hB hx
      have hr := nextP_r (P := P) a
      rw [if_neg hc, if_neg hc]
      simp (disch := omega) only [h7, a3, b3, c3, v_inT, v_ix, d3, and_self, if_true, h1, h2, Option.bind_some, v_add, v_sub]
      have hs := ih n (i + 1) (nextP P a) (acc + (P 2 a - linkP P a)) (by omega) (by omega) hr
      rw [show ((i + 1 : Nat) : Int) = (i : Int) + 1 by omega, Int.add_assoc] at hs
      exact hs
theorem s_sizeOf {s : AS} {b : Nat} {P : PG} {a : Int} (h : PgR s b P) (hB : PgB P) (ha : -1 ≤ a ∧ a < 128) : f_Pages_sizeOf s b (v a) = some (v (sizeP P a)) := by
  have := s_sizeL h hB 128 fuel 0 a 0 (by omega) (by unfold fuel; omega) ha
  rw [Int.zero_add] at this
  exact this
def byteL (P : PG) : Nat → Int → Int → Int
  | 0, _, _ => -1
  | n + 1, a, k => if a = -1 then -1 else if k < P 2 a - linkP P a then byteC P a (linkP P a + k) else byteL P n (nextP P a) (k - (P 2 a - linkP P a))
def byteP (P : PG) (a k : Int) : Int := byteL P 128 a k
theorem s_byteL {s : AS} {b : Nat} {P : PG} (h : PgR s b P) (hB : PgB P) : ∀ (k n i : Nat) (a y : Int), i + k = 128 → k < n → -1 ≤ a ∧ a < 128 → 0 ≤ y ∧ y ≤ 100000 + 2 * i →
    l_Pages_byteAt_8 s n b (v a) (v y) (v i) = some (v (byteL P k a y)) := by
  have h' := h
  obtain ⟨⟨h7, -, -, ⟨a3, b3, c3⟩, -⟩, -, -, d3, -⟩ := h
  intro k
  induction k with
  | zero =>
    intro n i a y hi hn ha hy
    obtain ⟨n, rfl⟩ : ∃ m, n = m + 1 := ⟨n - 1, by omega⟩
    simp (disch := omega) only [l_Pages_byteAt_8, b_Pages_byteAt_8, nv128, nv1, v_neg, v_lt]
    rw [if_neg (by omega), byteL]
  | succ k ih =>
    intro n i a y hi hn ha hy
    obtain ⟨n, rfl⟩ : ∃ m, n = m + 1 := ⟨n - 1, by omega⟩
    simp (disch := omega) only [l_Pages_byteAt_8, b_Pages_byteAt_8, v_lt, v_inj, v_neg, nv128, nv1]
    rw [if_pos (by omega), byteL]
    by_cases hc : a = -1
    · rw [if_pos hc, if_pos hc]
    · have hx : 0 ≤ a ∧ a < 128 := by omega
      have h1 := s_linkOf h' hB hx
      have h2 := s_followerOf h' hB hx
      have hr := nextP_r (P := P) a
      have hl := linkP_r P a
      have hb := hB.2 a
      rw [if_neg hc, if_neg hc]
      simp (disch := omega) only [h7, a3, b3, c3, v_inT, v_ix, d3, and_self, if_true, h1, h2, Option.bind_some, v_add, v_sub, v_lt]
      by_cases hd : y < P 2 a - linkP P a
      · rw [if_pos hd, if_pos hd, s_cellByte h' hB hx (by omega)]
        rfl
      · rw [if_neg hd, if_neg hd]
        have hs := ih n (i + 1) (nextP P a) (y - (P 2 a - linkP P a)) (by omega) (by omega) hr (by omega)
        rw [show ((i + 1 : Nat) : Int) = (i : Int) + 1 by omega] at hs
        exact hs
theorem s_byteAt {s : AS} {b : Nat} {P : PG} {a y : Int} (h : PgR s b P) (hB : PgB P) (ha : -1 ≤ a ∧ a < 128) (hy : 0 ≤ y ∧ y ≤ 100000) : f_Pages_byteAt s b (v a) (v y) = some (v (byteP P a y)) :=
  s_byteL h hB 128 fuel 0 a y (by omega) (by unfold fuel; omega) ha (by omega)
def fromL (P : PG) : Nat → Int → Int
  | 0, _ => -1
  | n + 1, a => if recP P a then a else fromL P n (a + 1)
def fromP (P : PG) (a : Int) : Int := fromL P (128 - (max 0 a)).toNat (max 0 a)
theorem s_fromL {s : AS} {b : Nat} {P : PG} (h : PgR s b P) (hB : PgB P) : ∀ (k n : Nat) (a : Int), a + k = 128 ∨ (k = 0 ∧ 128 ≤ a) → k < n → 0 ≤ a ∧ a < 2147483648 →
    l_Pages_recordFrom_6 s n b (v a) = some (v (fromL P k a)) := by
  intro k
  induction k with
  | zero =>
    intro n a hi hn ha
    obtain ⟨n, rfl⟩ : ∃ m, n = m + 1 := ⟨n - 1, by omega⟩
    simp (disch := omega) only [l_Pages_recordFrom_6, b_Pages_recordFrom_6, nv128, nv1, v_neg, v_lt]
    rw [if_neg (by omega), fromL]
  | succ k ih =>
    intro n a hi hn ha
    obtain ⟨n, rfl⟩ : ∃ m, n = m + 1 := ⟨n - 1, by omega⟩
    have h1 := s_isRecord (a := a) h hB (by omega)
    have hr := bi_r (c := recP P a)
    simp (disch := omega) only [l_Pages_recordFrom_6, b_Pages_recordFrom_6, h.1.1, if_true, h1, Option.bind_some, v_lt, v_inj, nv128, nv1, nv0, v_add, bi_0]
    rw [if_pos (by omega), fromL]
    by_cases hc : recP P a
    · rw [if_pos hc, if_neg (fun h => h hc)]
    · rw [if_neg hc, if_pos hc]
      exact ih n (a + 1) (by omega) (by omega) (by omega)
theorem s_recordFrom {s : AS} {b : Nat} {P : PG} {a : Int} (h : PgR s b P) (hB : PgB P) (ha : r32 a) : f_Pages_recordFrom s b (v a) = some (v (fromP P a)) := by
  unfold f_Pages_recordFrom fromP
  simp (disch := omega) only [nv0, v_lt, vif]
  rw [show (if 0 < a then a else 0) = max 0 a by split <;> omega]
  exact s_fromL h hB _ fuel _ (by omega) (by unfold fuel; omega) (by omega)
def bytesP (P : PG) (n : Nat) : Int := sumZ (fun a => if recP P a then sizeP P a else 0) n
theorem s_bytesL {s : AS} {b : Nat} {P : PG} (h : PgR s b P) (hB : PgB P) : ∀ (k n i : Nat), i + k = 128 → k < n →
    l_Pages_recordBytes_4 s n b (v (bytesP P i)) (v i) = some (v (bytesP P 128)) := by
  intro k
  induction k with
  | zero =>
    intro n i hi hn
    obtain ⟨n, rfl⟩ : ∃ m, n = m + 1 := ⟨n - 1, by omega⟩
    simp (disch := omega) only [l_Pages_recordBytes_4, b_Pages_recordBytes_4, nv128, v_lt]
    rw [if_neg (by omega), show i = 128 by omega]
  | succ k ih =>
    intro n i hi hn
    obtain ⟨n, rfl⟩ : ∃ m, n = m + 1 := ⟨n - 1, by omega⟩
    have h1 := s_isRecord (a := i) h hB (by omega)
    have h2 := s_sizeOf (a := i) h hB (by omega)
    have hr := bi_r (c := recP P i)
    simp (disch := omega) only [l_Pages_recordBytes_4, b_Pages_recordBytes_4, h.1.1, if_true, h1, h2, Option.bind_some, v_lt, v_inj, nv128, nv1, nv0, v_add, bi_0]
    rw [if_pos (by omega)]
    have hs := ih n (i + 1) (by omega) (by omega)
    rw [show ((i + 1 : Nat) : Int) = (i : Int) + 1 by omega] at hs
    rw [show bytesP P (i + 1) = bytesP P i + (if recP P (i : Int) then sizeP P i else 0) from rfl] at hs
    by_cases hc : recP P (i : Int)
    · rw [if_neg (fun h => h hc)]
      rw [if_pos hc] at hs
      exact hs
    · rw [if_pos hc]
      rw [if_neg hc, Int.add_zero] at hs
      exact hs
theorem s_recordBytes {s : AS} {b : Nat} {P : PG} (h : PgR s b P) (hB : PgB P) : f_Pages_recordBytes s b = some (v (bytesP P 128)) :=
  s_bytesL h hB 128 fuel 0 (by omega) (by unfold fuel; omega)
