/-! THE REFERENCE'S PAGES -/
def PgM (R : Int → Int) (P : PG) : Prop := (∀ p : Int, 0 ≤ p ∧ p < 8 → R (5 + 102 * p) = P 3 p) ∧ (∀ p : Int, 0 ≤ p ∧ p < 8 → R (5 + 102 * p + 1) = P 4 p) ∧ (∀ p i : Int, (0 ≤ p ∧ p < 8) ∧ 0 ≤ i ∧ i < 12 → R (5 + 102 * p + 2 + 3 * i) = P 0 (p * 16 + i)) ∧ (∀ p i : Int, ((0 ≤ p ∧ p < 8) ∧ 0 ≤ i ∧ i < 12) ∧ P 0 (p * 16 + i) ≠ 0 → R (5 + 102 * p + 2 + 3 * i + 1) = P 1 (p * 16 + i)) ∧ (∀ p i : Int, (0 ≤ p ∧ p < 8) ∧ 0 ≤ i ∧ i < 12 → R (5 + 102 * p + 2 + 3 * i + 2) = P 2 (p * 16 + i)) ∧ (∀ p k : Int, (0 ≤ p ∧ p < 8) ∧ 0 ≤ k ∧ k < 64 → R (5 + 102 * p + 38 + k) = P 5 (p * 64 + k)) ∧ (∀ p i : Int, (0 ≤ p ∧ p < 8) ∧ 0 ≤ i ∧ i < 12 → -1000 ≤ R (5 + 102 * p + 2 + 3 * i + 1) ∧ R (5 + 102 * p + 2 + 3 * i + 1) ≤ 1000)
section MP
variable {s : AS} {m : Nat} {A : MA} {P : PG}
theorem m_kindOf (h : MR s m A) (hP : PgM (A 2) P) {p i : Int} (hp : 0 ≤ p ∧ p < 8) (hi : 0 ≤ i ∧ i < 12) : f_M_kindOf s m (v p) (v i) = some (v (P 0 (p * 16 + i))) := by
  unfold f_M_kindOf
  simp (disch := omega) only [h.t, m_slotAt, Option.bind_some, h.r3, h.t3, h.n3, v_inT, v_ix, h.a3, nv0, v_add, and_self, if_true, Int.add_zero, hP.2.2.1]
theorem m_freeL (h : MR s m A) (hP : PgM (A 2) P) (hK : PgK P) {p : Int} (hp : 0 ≤ p ∧ p < 8) : ∀ (k n : Nat) (i acc : Int), i + k = P 3 p → 0 ≤ i → k < n →
    l_M_freeOf_19 s n m (v p) (v acc) (v i) = some (v (acc - (sumZ (fun k => P 2 (p * 16 + k)) (P 3 p).toNat - sumZ (fun k => P 2 (p * 16 + k)) i.toNat))) := by
  have hb := hK.1.2 p
  intro k
  induction k with
  | zero =>
    intro n i acc hi h0 hn
    obtain ⟨n, rfl⟩ : ∃ m, n = m + 1 := ⟨n - 1, by omega⟩
    simp (disch := omega) only [l_M_freeOf_19, b_M_freeOf_19, h.t, m_pageAt, Option.bind_some, h.r3, h.t3, h.n3, v_inT, v_ix, h.a3, nv0, v_add, and_self, if_true, Int.add_zero, hP.1, v_lt]
    rw [if_neg (by omega)]
    rw [show i = P 3 p by omega, Int.sub_self, Int.sub_zero]
  | succ k ih =>
    intro n i acc hi h0 hn
    obtain ⟨n, rfl⟩ : ∃ m, n = m + 1 := ⟨n - 1, by omega⟩
    have hk := m_kindOf h hP (p := p) (i := i) hp (by omega)
    have hk5 := hK.1.2 (p * 16 + i)
    have hs : sumZ (fun k => P 2 (p * 16 + k)) (i + 1).toNat = sumZ (fun k => P 2 (p * 16 + k)) i.toNat + P 2 (p * 16 + i) := by
      rw [show (i + 1).toNat = i.toNat + 1 by omega]
      simp only [sumZ]
      rw [show ((i.toNat : Nat) : Int) = i by omega]
    simp (disch := omega) only [l_M_freeOf_19, b_M_freeOf_19, h.t, m_pageAt, m_slotAt, hk, Option.bind_some, h.r3, h.t3, h.n3, v_inT, v_ix, h.a3, nv0, nv1, nv2, v_add, v_sub, v_inj, and_self, if_true, Int.add_zero, hP.1, hP.2.2.2.2.1, v_lt]
    rw [if_pos (by omega)]
    by_cases e : P 0 (p * 16 + i) = 0
    · rw [if_pos e, ih n (i + 1) _ (by omega) (by omega) (by omega), hs, hK.2.1 _ e]
      congr 2
      omega
    · rw [if_neg e, ih n (i + 1) _ (by omega) (by omega) (by omega), hs]
      congr 2
      omega
theorem m_freeOf (h : MR s m A) (hP : PgM (A 2) P) (hK : PgK P) {p : Int} (hp : 0 ≤ p ∧ p < 8) : f_M_freeOf s m (v p) = some (v (freeP P p)) := by
  have hb := hK.1.2 p
  unfold f_M_freeOf
  simp (disch := omega) only [h.t, m_pageAt, Option.bind_some, h.r3, h.t3, h.n3, v_inT, v_ix, h.a3, nv0, nv2, nv64, v_add, v_mul, v_sub, and_self, if_true, Int.add_zero, hP.1]
  rw [m_freeL h hP hK hp (P 3 p).toNat fuel 0 _ (by omega) (by omega) (by unfold fuel; omega)]
  show some (v (_ - (_ - 0))) = _
  rw [Int.sub_zero]
  rfl
theorem m_lowL (h : MR s m A) (hP : PgM (A 2) P) (hK : PgK P) {p : Int} (hp : 0 ≤ p ∧ p < 8) : ∀ (k n i : Nat), (i : Int) + k = P 3 p → k < n →
    l_M_lowestOf_5 s n m (v p) (v (minL P p i)) (v i) = some (v (lowP P p)) := by
  have hb := hK.1.2 p
  intro k
  induction k with
  | zero =>
    intro n i hi hn
    obtain ⟨n, rfl⟩ : ∃ m, n = m + 1 := ⟨n - 1, by omega⟩
    simp (disch := omega) only [l_M_lowestOf_5, b_M_lowestOf_5, h.t, m_pageAt, Option.bind_some, h.r3, h.t3, h.n3, v_inT, v_ix, h.a3, nv0, v_add, and_self, if_true, Int.add_zero, hP.1, v_lt]
    rw [if_neg (by omega)]
    unfold lowP
    rw [show (P 3 p).toNat = i by omega]
  | succ k ih =>
    intro n i hi hn
    obtain ⟨n, rfl⟩ : ∃ m, n = m + 1 := ⟨n - 1, by omega⟩
    have hk := m_kindOf h hP (p := p) (i := i) hp (by omega)
    have hk5 := hK.1.2 (p * 16 + i)
    have hm := minL_r hK.1 p i
    have hq := hP.2.2.2.2.2.2 p i (by omega)
    simp (disch := omega) only [l_M_lowestOf_5, b_M_lowestOf_5, h.t, m_pageAt, m_slotAt, hk, Option.bind_some, h.r3, h.t3, h.n3, v_inT, v_ix, h.a3, nv0, nv1, nv2, v_add, v_sub, v_inj, and_self, if_true, Int.add_zero, hP.1, v_lt, vif]
    rw [if_pos (by omega)]
    have hs := ih n (i + 1) (by omega) (by omega)
    rw [show ((i + 1 : Nat) : Int) = (i : Int) + 1 by omega] at hs
    simp only [minL] at hs
    by_cases e : P 0 (p * 16 + i) = 0
    · rw [if_pos e] at hs ⊢
      exact hs
    · rw [if_neg e] at hs ⊢
      rw [hP.2.2.2.1 p i ⟨⟨hp, by omega⟩, e⟩]
      exact hs
theorem m_lowestOf (h : MR s m A) (hP : PgM (A 2) P) (hK : PgK P) {p : Int} (hp : 0 ≤ p ∧ p < 8) : f_M_lowestOf s m (v p) = some (v (lowP P p)) := by
  have hb := hK.1.2 p
  exact m_lowL h hP hK hp (P 3 p).toNat fuel 0 (by omega) (by unfold fuel; omega)
theorem m_gapOf (h : MR s m A) (hP : PgM (A 2) P) (hK : PgK P) {p : Int} (hp : 0 ≤ p ∧ p < 8) : f_M_gapOf s m (v p) = some (v (gapP P p)) := by
  have hl := m_lowestOf h hP hK hp
  unfold f_M_gapOf
  simp (disch := omega) only [h.t, hl, m_pageAt, Option.bind_some, h.r3, h.t3, h.n3, v_inT, v_ix, h.a3, nv0, nv2, v_add, v_mul, v_sub, and_self, if_true, Int.add_zero, hP.1]
  rfl
theorem m_wasteOf (h : MR s m A) (hP : PgM (A 2) P) (hK : PgK P) {p : Int} (hp : 0 ≤ p ∧ p < 8) : f_M_wasteOf s m (v p) = some (v (wasteP P p)) := by
  have h1 := m_freeOf h hP hK hp
  have h2 := m_gapOf h hP hK hp
  unfold f_M_wasteOf
  simp (disch := omega) only [h.t, h1, h2, Option.bind_some, if_true, v_sub]
  rfl
theorem m_cellsL (h : MR s m A) (hP : PgM (A 2) P) (hK : PgK P) {p : Int} (hp : 0 ≤ p ∧ p < 8) : ∀ (k n i : Nat), (i : Int) + k = P 3 p → k < n →
    l_M_cellsOn_4 s n m (v p) (v (sumZ (fun k => if P 0 (p * 16 + k) = 0 then 0 else 1) i)) (v i) = some (v (cellsP P p)) := by
  have hb := hK.1.2 p
  intro k
  induction k with
  | zero =>
    intro n i hi hn
    obtain ⟨n, rfl⟩ : ∃ m, n = m + 1 := ⟨n - 1, by omega⟩
    simp (disch := omega) only [l_M_cellsOn_4, b_M_cellsOn_4, h.t, m_pageAt, Option.bind_some, h.r3, h.t3, h.n3, v_inT, v_ix, h.a3, nv0, v_add, and_self, if_true, Int.add_zero, hP.1, v_lt]
    rw [if_neg (by omega)]
    unfold cellsP
    rw [show (P 3 p).toNat = i by omega]
  | succ k ih =>
    intro n i hi hn
    obtain ⟨n, rfl⟩ : ∃ m, n = m + 1 := ⟨n - 1, by omega⟩
    have hk := m_kindOf h hP (p := p) (i := i) hp (by omega)
    have hk5 := hK.1.2 (p * 16 + i)
    simp (disch := omega) only [l_M_cellsOn_4, b_M_cellsOn_4, h.t, m_pageAt, hk, Option.bind_some, h.r3, h.t3, h.n3, v_inT, v_ix, h.a3, nv0, nv1, v_add, v_inj, and_self, if_true, Int.add_zero, hP.1, v_lt, vif]
    rw [if_pos (by omega)]
    have hs := ih n (i + 1) (by omega) (by omega)
    rw [show ((i + 1 : Nat) : Int) = (i : Int) + 1 by omega] at hs
    simp only [sumZ] at hs
    exact hs
theorem m_cellsOn (h : MR s m A) (hP : PgM (A 2) P) (hK : PgK P) {p : Int} (hp : 0 ≤ p ∧ p < 8) : f_M_cellsOn s m (v p) = some (v (cellsP P p)) := by
  have hb := hK.1.2 p
  exact m_cellsL h hP hK hp (P 3 p).toNat fuel 0 (by omega) (by unfold fuel; omega)
theorem m_kept (h : MR s m A) {p i kept : Int} (hp : 0 ≤ p ∧ p < 8) (hi : 0 ≤ i ∧ i < 12) (hk : (kept = -1 ∧ A 0 41 = -1 ∧ A 0 42 = -1) ∨ (0 ≤ kept ∧ kept < 128 ∧ A 0 41 = kept / 16 ∧ A 0 42 = kept % 16)) : f_M_isKeptSlot s m (v p) (v i) = some (v (bi (p * 16 + i = kept))) := by
  unfold f_M_isKeptSlot
  have h41 := h.i41
  have h42 := h.i42
  simp (disch := omega) only [h.t, if_true, h41, h42, v_inj, nv1, nv0, vif]
  unfold bi
  by_cases e : p * 16 + i = kept
  · rw [if_pos e, if_pos (by omega), if_pos (by omega)]
  · rw [if_neg e]
    by_cases e1 : p = A 0 41
    · rw [if_pos e1, if_neg (by omega)]
    · rw [if_neg e1]
theorem m_openL (h : MR s m A) (hP : PgM (A 2) P) (hK : PgK P) {p kept : Int} (hp : 0 ≤ p ∧ p < 8) (hk : (kept = -1 ∧ A 0 41 = -1 ∧ A 0 42 = -1) ∨ (0 ≤ kept ∧ kept < 128 ∧ A 0 41 = kept / 16 ∧ A 0 42 = kept % 16)) : ∀ (k n i : Nat), (i : Int) + k = P 3 p → k < n →
    l_M_slotFor_14 s n m (v p) (v (P 3 p)) (v i) = some (v (openL P p kept k i)) := by
  have hb := hK.1.2 p
  intro k
  induction k with
  | zero =>
    intro n i hi hn
    obtain ⟨n, rfl⟩ : ∃ m, n = m + 1 := ⟨n - 1, by omega⟩
    simp (disch := omega) only [l_M_slotFor_14, b_M_slotFor_14, nv12, nv1, v_neg, v_lt, vif]
    rw [if_neg (by omega)]
    unfold openL
    rfl
  | succ k ih =>
    intro n i hi hn
    obtain ⟨n, rfl⟩ : ∃ m, n = m + 1 := ⟨n - 1, by omega⟩
    have hk0 := m_kindOf h hP (p := p) (i := i) hp (by omega)
    have hkk := m_kept (i := i) h hp (by omega) hk
    have hk5 := hK.1.2 (p * 16 + i)
    have hbr := @bi_r (p * 16 + (i : Int) = kept) _
    simp (disch := omega) only [l_M_slotFor_14, b_M_slotFor_14, h.t, hk0, hkk, Option.bind_some, nv0, nv1, v_add, v_inj, if_true, v_lt]
    rw [if_pos (by omega)]
    have hs := ih n (i + 1) (by omega) (by omega)
    rw [show ((i + 1 : Nat) : Int) = (i : Int) + 1 by omega] at hs
    unfold openL
    by_cases hc : P 0 (p * 16 + i) = 0
    · by_cases hd : p * 16 + (i : Int) = kept
      · rw [if_pos hc, bi_t hd, if_neg (by decide), if_neg (by omega)]
        exact hs
      · rw [if_pos hc, bi_f hd, if_pos rfl, if_pos ⟨hc, hd⟩]
    · rw [if_neg hc, if_neg (by omega)]
      exact hs
theorem m_slotFor (h : MR s m A) (hP : PgM (A 2) P) (hK : PgK P) {p kept : Int} (hp : 0 ≤ p ∧ p < 8) (hk : (kept = -1 ∧ A 0 41 = -1 ∧ A 0 42 = -1) ∨ (0 ≤ kept ∧ kept < 128 ∧ A 0 41 = kept / 16 ∧ A 0 42 = kept % 16)) : f_M_slotFor s m (v p) = some (v (openP P p kept)) := by
  have hb := hK.1.2 p
  unfold f_M_slotFor
  simp (disch := omega) only [h.t, m_pageAt, Option.bind_some, h.r3, h.t3, h.n3, v_inT, v_ix, h.a3, nv0, v_add, and_self, if_true, Int.add_zero, hP.1]
  exact m_openL h hP hK hp hk (P 3 p).toNat fuel 0 (by omega) (by unfold fuel; omega)
theorem m_kindAt (h : MR s m A) (hP : PgM (A 2) P) (hK : PgK P) {a : Int} (ha : 0 ≤ a ∧ a < 128) : f_M_kindAt s m (v a) = some (v (P 0 a)) := by
  have hb := hK.1.2 (a / 16)
  have e16 : a - a / 16 * 16 = a % 16 := by omega
  have ea : a / 16 * 16 + a % 16 = a := by omega
  unfold f_M_kindAt
  simp (disch := omega) only [h.t, m_pageAt, Option.bind_some, h.r3, h.t3, h.n3, v_inT, v_ix, h.a3, nv0, nv16, v_add, v_sub, v_mul, v_div, v_inj, and_self, if_true, Int.add_zero, hP.1, v_lt, e16]
  rw [if_pos (by decide)]
  by_cases e : a % 16 < P 3 (a / 16)
  · rw [if_pos e, m_kindOf h hP (by omega) (by omega), Option.bind_some, ea]
  · rw [if_neg e]
    have := hK.2.2 (a / 16) (a % 16) (by omega) (by omega)
    rw [ea] at this
    rw [this]
theorem m_isRecord (h : MR s m A) (hP : PgM (A 2) P) (hK : PgK P) {a : Int} (ha : r32 a) : f_M_isRecord s m (v a) = some (v (bi (recP P a))) := by
  have hb := hK.1.2 a
  unfold f_M_isRecord
  rw [v_w ha, lw0, show lN 127 = w 127 from rfl, m_in (by omega) (by omega) (by omega), Option.bind_some]
  by_cases hc : 0 ≤ a ∧ a ≤ 127
  · rw [bi_t hc, if_neg (by decide), if_pos h.t, m_kindAt h hP hK (by omega), Option.bind_some]
    simp (disch := omega) only [v_inj, nv0, nv1, nv2, nv4, vif]
    unfold bi
    congr 2
    by_cases h1 : P 0 a = 1
    · rw [if_pos h1, if_pos ⟨by omega, Or.inl h1⟩]
    · by_cases h2 : P 0 a = 2
      · rw [if_neg h1, if_pos h2, if_pos ⟨by omega, Or.inr (Or.inl h2)⟩]
      · by_cases h4 : P 0 a = 4
        · rw [if_neg h1, if_neg h2, if_pos h4, if_pos ⟨by omega, Or.inr (Or.inr h4)⟩]
        · rw [if_neg h1, if_neg h2, if_neg h4, if_neg (by omega)]
  · rw [bi_f hc, nv0, if_pos rfl, bi_f (fun h => hc ⟨h.1.1, by omega⟩)]
theorem m_isPage {a : Int} (ha : r32 a) : f_M_isPage s (v a) = some (v (bi (0 ≤ a ∧ a < 8))) := by
  have hbr := @bi_r (0 ≤ a ∧ a ≤ 7) _
  unfold f_M_isPage
  rw [v_w ha, lw0, lw7, m_in (by omega) (by omega) (by omega), Option.bind_some, nv0, nv1, if_pos (by
    rw [v_inj (by omega) (by omega), v_inj (by omega) (by omega)]; omega)]
  unfold bi
  congr 2
  by_cases e : 0 ≤ a ∧ a ≤ 7
  · rw [if_pos e, if_pos (by omega)]
  · rw [if_neg e, if_neg (by omega)]
theorem m_lengthAt (h : MR s m A) (hP : PgM (A 2) P) {a : Int} (ha : 0 ≤ a ∧ a < 128) (hs : a % 16 < 12) : f_M_lengthAt s m (v a) = some (v (P 2 a)) := by
  have e16 : a - a / 16 * 16 = a % 16 := by omega
  have ea : a / 16 * 16 + a % 16 = a := by omega
  unfold f_M_lengthAt
  simp (disch := omega) only [h.t, m_slotAt, Option.bind_some, h.r3, h.t3, h.n3, v_inT, v_ix, h.a3, nv0, nv2, nv16, v_add, v_sub, v_mul, v_div, v_inj, and_self, if_true, hP.2.2.2.2.1, e16, ea]
  rw [if_pos (by decide)]
theorem m_byteAt (h : MR s m A) (hP : PgM (A 2) P) {a k : Int} (ha : 0 ≤ a ∧ a < 128) (hs : a % 16 < 12) (hn : P 0 a ≠ 0) : f_M_byteAt s m (v a) (v k) = some (v (5 + 102 * (a / 16) + 38 + P 1 a + k)) := by
  have e16 : a - a / 16 * 16 = a % 16 := by omega
  have ea : a / 16 * 16 + a % 16 = a := by omega
  have h1 := hP.2.2.2.1 (a / 16) (a % 16) ⟨by omega, by rw [ea]; exact hn⟩
  rw [ea] at h1
  unfold f_M_byteAt
  simp (disch := omega) only [h.t, m_slotAt, m_pageAt, Option.bind_some, h.r3, h.t3, h.n3, v_inT, v_ix, h.a3, nv0, nv1, nv38, nv16, v_add, v_sub, v_mul, v_div, v_inj, and_self, if_true, e16, h1]
  rw [if_pos (by decide)]
theorem m_rowByte (h : MR s m A) (hP : PgM (A 2) P) {a k : Int} (ha : 0 ≤ a ∧ a < 128) (hk : 0 ≤ P 1 a + k ∧ P 1 a + k < 64) : A 2 (5 + 102 * (a / 16) + 38 + P 1 a + k) = P 5 (a / 16 * 64 + P 1 a + k) := by
  have := hP.2.2.2.2.2.1 (a / 16) (P 1 a + k) ⟨by omega, hk⟩
  rw [← Int.add_assoc, ← Int.add_assoc] at this
  exact this
end MP
