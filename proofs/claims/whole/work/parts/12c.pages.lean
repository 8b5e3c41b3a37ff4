/-! PAGES, AS NUMBERS: cells and records -/
theorem s_isAddress {s : AS} {a : Int} (ha : r32 a) : f_C_isAddress s (v a) = some (v (bi (0 ≤ a ∧ a < 128))) := by
  unfold f_C_isAddress
  simp (disch := omega) only [nv0, nv1, nv128, v_lt, vif]
  unfold bi
  congr 2
  split
  · rw [if_neg (by omega)]
  · split
    · rw [if_pos (by omega)]
    · rw [if_neg (by omega)]
theorem s_isPage {s : AS} {a : Int} (ha : r32 a) : f_C_isPage s (v a) = some (v (bi (0 ≤ a ∧ a < 8))) := by
  unfold f_C_isPage
  simp (disch := omega) only [nv0, nv1, nv8, v_lt, vif]
  unfold bi
  congr 2
  split
  · rw [if_neg (by omega)]
  · split
    · rw [if_pos (by omega)]
    · rw [if_neg (by omega)]
abbrev recK (P : PG) (a : Int) : Prop := P 0 a = 1 ∨ P 0 a = 2 ∨ P 0 a = 4
abbrev recP (P : PG) (a : Int) : Prop := (0 ≤ a ∧ a < 128) ∧ recK P a
theorem s_isRecord {s : AS} {b : Nat} {P : PG} {a : Int} (h : PgR s b P) (hB : PgB P) (ha : r32 a) : f_Pages_isRecord s b (v a) = some (v (bi (recP P a))) := by
  obtain ⟨⟨h7, ⟨a1, b1, c1⟩, -⟩, d1, -⟩ := h
  have hb := hB.2 a
  unfold f_Pages_isRecord
  rw [s_isAddress ha, Option.bind_some]
  by_cases hc : 0 ≤ a ∧ a < 128
  · rw [bi_t hc]
    simp (disch := omega) only [h7, a1, b1, c1, v_inT, v_ix, d1, v_inj, and_self, if_true, nv0, nv1, nv2, nv4, vif]
    rw [if_neg (by omega)]
    unfold bi
    congr 2
    by_cases h1 : P 0 a = 1
    · rw [if_pos h1, if_pos ⟨hc, Or.inl h1⟩]
    · by_cases h2 : P 0 a = 2
      · rw [if_neg h1, if_pos h2, if_pos ⟨hc, Or.inr (Or.inl h2)⟩]
      · by_cases h4 : P 0 a = 4
        · rw [if_neg h1, if_neg h2, if_pos h4, if_pos ⟨hc, Or.inr (Or.inr h4)⟩]
        · rw [if_neg h1, if_neg h2, if_neg h4, if_neg (by omega)]
  · rw [bi_f hc, nv0, if_pos rfl, bi_f (fun h => hc h.1)]
def linkP (P : PG) (a : Int) : Int := if P 0 a = 2 ∨ P 0 a = 4 ∨ P 0 a = 5 then 2 else 0
theorem s_linkOf {s : AS} {b : Nat} {P : PG} {a : Int} (h : PgR s b P) (hB : PgB P) (ha : 0 ≤ a ∧ a < 128) : f_Pages_linkOf s b (v a) = some (v (linkP P a)) := by
  obtain ⟨⟨h7, ⟨a1, b1, c1⟩, -⟩, d1, -⟩ := h
  have hb := hB.2 a
  unfold f_Pages_linkOf
  simp (disch := omega) only [h7, a1, b1, c1, v_inT, v_ix, d1, v_inj, and_self, if_true, nv0, nv2, nv4, nv5, vif]
  unfold linkP
  congr 2
  by_cases h1 : P 0 a = 2
  · rw [if_pos h1, if_pos (Or.inl h1)]
  · by_cases h2 : P 0 a = 4
    · rw [if_neg h1, if_pos h2, if_pos (Or.inr (Or.inl h2))]
    · by_cases h4 : P 0 a = 5
      · rw [if_neg h1, if_neg h2, if_pos h4, if_pos (Or.inr (Or.inr h4))]
      · rw [if_neg h1, if_neg h2, if_neg h4, if_neg (by omega)]
def byteC (P : PG) (a k : Int) : Int := if k < 0 ∨ P 2 a ≤ k then -1 else P 5 (a / 16 * 64 + P 1 a + k)
theorem s_cellByte {s : AS} {b : Nat} {P : PG} {a k : Int} (h : PgR s b P) (hB : PgB P) (ha : 0 ≤ a ∧ a < 128) (hk : r32 k) : f_Pages_cellByte s b (v a) (v k) = some (v (byteC P a k)) := by
  obtain ⟨⟨h7, -, ⟨a2, b2, c2⟩, ⟨a3, b3, c3⟩, -, -, ⟨a6, b6, c6⟩⟩, -, d2, d3, -, -, d6⟩ := h
  have hb := hB.2 a
  have hi := hB.1 a ha
  unfold f_Pages_cellByte byteC
  by_cases h0 : k < 0
  · simp (disch := omega) only [nv0, nv1, v_lt, v_neg]
    rw [if_pos h0, if_pos (Or.inl h0)]
  · by_cases h1 : P 2 a ≤ k
    · simp (disch := omega) only [nv0, nv1, v_lt, v_neg, h7, a3, b3, c3, v_inT, v_ix, d3, and_self, if_true]
      rw [if_neg h0, if_neg (by omega), if_pos (Or.inr h1)]
    · have hi := hi (by omega)
      simp (disch := omega) only [nv0, nv1, nv16, nv64, v_lt, v_inj, v_neg, v_div, h7, a3, b3, c3, v_inT, v_ix, d3, d2, d6, a2, b2, c2, a6, b6, c6, and_self, if_true, v_mul, v_add]
      rw [if_neg h0, if_pos (by omega), if_pos (by omega), if_neg (by omega)]
def nextP (P : PG) (a : Int) : Int := if linkP P a = 0 then -1 else if 0 ≤ byteC P a 1 ∧ byteC P a 1 < 128 then byteC P a 1 else -1
theorem byteC_r {P : PG} (hB : PgB P) (a k : Int) : -1000 ≤ byteC P a k ∧ byteC P a k ≤ 1000 := by
  unfold byteC
  have := hB.2 (a / 16 * 64 + P 1 a + k)
  split <;> omega
theorem linkP_r (P : PG) (a : Int) : 0 ≤ linkP P a ∧ linkP P a ≤ 2 := by unfold linkP; split <;> omega
theorem nextP_r {P : PG} (a : Int) : -1 ≤ nextP P a ∧ nextP P a < 128 := by
  unfold nextP
  split
  · omega
  · split <;> omega
theorem s_followerOf {s : AS} {b : Nat} {P : PG} {a : Int} (h : PgR s b P) (hB : PgB P) (ha : 0 ≤ a ∧ a < 128) : f_Pages_followerOf s b (v a) = some (v (nextP P a)) := by
  have h1 := s_linkOf h hB ha
  have h2 := s_cellByte (k := 1) h hB ha (by omega)
  have hl := linkP_r P a
  have hc := byteC_r hB a 1
  unfold f_Pages_followerOf nextP
  simp (disch := omega) only [h.1.1, if_true, h1, Option.bind_some, nv0, nv1, v_inj, h2, v_neg]
  split
  · rfl
  · rw [s_isAddress (by omega), Option.bind_some]
    by_cases hd : 0 ≤ byteC P a 1 ∧ byteC P a 1 < 128
    · rw [bi_t hd, if_pos hd, if_neg (by decide)]
    · rw [bi_f hd, if_neg hd, if_pos rfl]
def cntP (P : PG) (kd : Int) (n : Nat) : Int := sumZ (fun a => if P 0 a = kd then 1 else 0) n
