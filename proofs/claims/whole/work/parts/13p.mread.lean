/-! THE REFERENCE: records read -/
section MRD
variable {m : Nat} {P : PG} {s : AS} {A : MA} {rk wt : Int → Int}
theorem slot12 (hI : PgI P) {a : Int} (ha : 0 ≤ a ∧ a < 128) (h0 : P 0 a ≠ 0) : a % 16 < 12 := by
  have hl3 := (hI.1.1.2 (a / 16)).2.2.2.1
  by_cases c : a % 16 < P 3 (a / 16)
  · omega
  · have := hI.1.2.2 (a / 16) (a % 16) (by omega) ⟨by omega, by omega⟩
    rw [show a / 16 * 16 + a % 16 = a by omega] at this
    exact absurd this h0
theorem m_lenL (h : MR s m A) (hP : PgM (A 2) P) (hI : PgI P) (hL : PgLk P rk) : ∀ (k n : Nat) (a acc : Int), k < n → (a = -1 ∨ ((0 ≤ a ∧ a < 128) ∧ (P 0 a = 4 ∨ P 0 a = 5) ∧ rk a < k)) → l_M_lengthOf_37 s n m (v acc) (v a) = some (v (acc + sizeL P k a)) := by
  intro k
  induction k with
  | zero =>
    intro n a acc hn ha
    obtain ⟨n, rfl⟩ : ∃ m, n = m + 1 := ⟨n - 1, by omega⟩
    have e : a = -1 := by
      rcases ha with c | ⟨c1, c2, c3⟩
      · exact c
      · have := (hL a c1).2.2.2.2; omega
    show b_M_lengthOf_37 _ _ _ _ _ = _
    unfold b_M_lengthOf_37
    rw [nv1, v_neg, if_pos (peq e)]
    show some (v acc) = some (v (acc + 0))
    rw [Int.add_zero]
  | succ k ih =>
    intro n a acc hn ha
    obtain ⟨n, rfl⟩ : ∃ m, n = m + 1 := ⟨n - 1, by omega⟩
    show b_M_lengthOf_37 _ _ _ _ _ = _
    unfold b_M_lengthOf_37 sizeL
    rw [nv1, v_neg]
    by_cases e : a = -1
    · rw [if_pos (peq e), if_pos e, Int.add_zero]
    · rcases ha with c | ⟨c1, c2, c3⟩
      · exact absurd c e
      · have hlk := link_kind (P := P) (a := a) (by omega)
        obtain ⟨p1, p2, p3⟩ := m_pointed h hP hI hL c1 (by rw [hlk]; decide)
        have hlen := m_lengthAt h hP c1 p2
        rw [if_neg (pne (by omega)), if_neg e, if_pos h.t, hlen, Option.bind_some, p1, Option.bind_some, nv2, v_sub, v_add, hlk]
        rw [ih n (nextP P a) _ (by omega) (by
          by_cases en : nextP P a = -1
          · exact Or.inl en
          · obtain ⟨n1, n2, n3⟩ := next_kind hL c1 en
            exact Or.inr ⟨n1, by unfold tgtP at n2; omega, by omega⟩), Int.add_assoc]
theorem m_lengthOf (h : MR s m A) (hP : PgM (A 2) P) (hI : PgI P) (hL : PgLk P rk) (hw : PgWt P wt) {a : Int} (hr : recP P a) : f_M_lengthOf s m (v a) = some (v (sizeP P a)) := by
  have hkd := m_kindAt h hP hI.1 hr.1
  obtain ⟨-, -, z1, z2⟩ := size_rec hI.1.1 hL hw hr
  have hb := hI.1.1.2 a
  unfold f_M_lengthOf
  rw [if_pos h.t, hkd, Option.bind_some, nv1, nv2, nv0]
  rcases hr.2 with k | k | k
  · rw [if_pos (peq k), m_lengthAt h hP hr.1 (slot12 hI hr.1 (by omega)), Option.bind_some, z1 k]
  · obtain ⟨y1, y2, y3⟩ := z2 k
    obtain ⟨p1, p2, p3⟩ := m_pointed h hP hI hL hr.1 (by rw [link_kind (by omega)]; decide)
    have hnr := nextP_r (P := P) a
    rw [if_neg (pne (by omega)), if_pos (peq k), p1, Option.bind_some, m_lengthAt h hP (by omega) (slot12 hI (by omega) (by omega)), Option.bind_some, y1]
  · rw [if_neg (pne (by omega)), if_neg (pne (by omega)), m_lenL h hP hI hL 128 fuel a 0 (by unfold fuel; omega) (Or.inr ⟨hr.1, Or.inl k, by have := (hL a hr.1).2.2.2.2; omega⟩), Int.zero_add]
    rfl
/-- a byte of a cell, in the row -/
theorem m_cell (h : MR s m A) (hP : PgM (A 2) P) (hI : PgI P) {a k : Int} (ha : 0 ≤ a ∧ a < 128) (h0 : P 0 a ≠ 0) (hk : 0 ≤ k ∧ k < P 2 a) : f_M_byteAt s m (v a) (v k) = some (v (5 + 102 * (a / 16) + 38 + P 1 a + k)) ∧ sI s (m + 2) (v (5 + 102 * (a / 16) + 38 + P 1 a + k)).toNatClampNeg = v (byteC P a k) ∧ inA (v (5 + 102 * (a / 16) + 38 + P 1 a + k)) 6221 := by
  have hin := hI.2.1 (a / 16) (a % 16) (by omega) (by omega) (by rw [show a / 16 * 16 + a % 16 = a by omega]; exact h0)
  rw [show a / 16 * 16 + a % 16 = a by omega] at hin
  have hl3 := (hI.1.1.2 (a / 16)).2.2.2.1
  have r := h.a3 (5 + 102 * (a / 16) + 38 + P 1 a + k) (by omega)
  rw [m_rowByte h hP ha (by omega)] at r
  refine ⟨m_byteAt h hP ha (slot12 hI ha h0) h0, ?_, v_inA (by omega) (by omega)⟩
  rw [v_ix (by omega), r]
  unfold byteC
  rw [if_neg (by omega)]
theorem m_signL (h : MR s m A) (hP : PgM (A 2) P) (hI : PgI P) (hL : PgLk P rk) {y : Int} (hy : 0 ≤ y ∧ y ≤ 1000) : ∀ (j n : Nat) (i a : Int) (f : Nat), i + j = y / 38 → 0 ≤ i → j < n → (0 ≤ a ∧ a < 128) → (P 0 a = 4 ∨ P 0 a = 5) → rk a < f → y - 38 * i < sizeL P f a → l_M_signOf_50 s n m (v y) (v a) (v i) = some (v (byteL P f a (y - 38 * i))) := by
  intro j
  induction j with
  | zero =>
    intro n i a f hi h0 hn ha hk hf hs
    obtain ⟨n, rfl⟩ : ∃ m, n = m + 1 := ⟨n - 1, by omega⟩
    have hr := (hL a ha).2.2.2.2
    obtain ⟨f, rfl⟩ : ∃ g, f = g + 1 := ⟨f - 1, by omega⟩
    have hlk := link_kind (P := P) (a := a) (by omega)
    have hy2 : y - 38 * i < P 2 a - 2 := by
      unfold sizeL at hs
      rw [if_neg (by omega), hlk] at hs
      by_cases en : nextP P a = -1
      · rw [en, sizeL_m1] at hs; omega
      · obtain ⟨n1, n2, n3⟩ := next_kind hL ha en
        have : P 2 a = 40 := by unfold tgtP at n2; omega
        omega
    have e38 : y - y / 38 * 38 = y - 38 * i := by omega
    obtain ⟨c1, c2, c3⟩ := m_cell (k := 2 + (y - 38 * i)) h hP hI ha (by omega) (by omega)
    show b_M_signOf_50 _ _ _ _ _ _ = _
    unfold b_M_signOf_50 byteL
    rw [if_pos (show ¬ nI 38 = nI 0 by decide), nv38, v_div (by omega) (by omega), if_neg (nlt (by omega)), if_pos h.t, v_mul, v_sub, nv2, v_add, e38, c1, Option.bind_some, h.r3, h.t3, h.n3, if_pos ⟨rfl, c3⟩, c2, if_neg (by omega), hlk, if_pos (by omega)]
  | succ j ih =>
    intro n i a f hi h0 hn ha hk hf hs
    obtain ⟨n, rfl⟩ : ∃ m, n = m + 1 := ⟨n - 1, by omega⟩
    have hr := (hL a ha).2.2.2.2
    obtain ⟨f, rfl⟩ : ∃ g, f = g + 1 := ⟨f - 1, by omega⟩
    have hlk := link_kind (P := P) (a := a) (by omega)
    have hb := hI.1.1.2 a
    unfold sizeL at hs
    rw [if_neg (by omega), hlk] at hs
    have en : nextP P a ≠ -1 := by
      intro e
      rw [e, sizeL_m1] at hs
      omega
    obtain ⟨n1, n2, n3⟩ := next_kind hL ha en
    have h40 : P 2 a = 40 := by unfold tgtP at n2; omega
    obtain ⟨p1, p2, p3⟩ := m_pointed h hP hI hL ha (by rw [hlk]; decide)
    show b_M_signOf_50 _ _ _ _ _ _ = _
    unfold b_M_signOf_50 byteL
    rw [if_pos (show ¬ nI 38 = nI 0 by decide), nv38, v_div (by omega) (by omega), if_pos (plt (by omega)), if_pos h.t, p1, Option.bind_some, nv1, v_add, if_neg (by omega), hlk, if_neg (by omega), h40]
    have := ih n (i + 1) (nextP P a) f (by omega) (by omega) (by omega) n1 (by unfold tgtP at n2; omega) (by omega) (by omega)
    rw [show y - 38 * i - (40 - 2) = y - 38 * (i + 1) by omega]
    exact this
theorem m_signOf (h : MR s m A) (hP : PgM (A 2) P) (hI : PgI P) (hL : PgLk P rk) (hw : PgWt P wt) {a y : Int} (hr : recP P a) (hy : 0 ≤ y ∧ y < sizeP P a) : f_M_signOf s m (v a) (v y) = some (v (byteP P a y)) := by
  have hkd := m_kindAt h hP hI.1 hr.1
  obtain ⟨-, z0, z1, z2⟩ := size_rec hI.1.1 hL hw hr
  have hb := hI.1.1.2 a
  have ha := hr.1
  unfold f_M_signOf
  rw [if_pos h.t, hkd, Option.bind_some, nv1, nv2, nv0]
  rcases hr.2 with k | k | k
  · obtain ⟨l1, l2⟩ := link_no (P := P) (a := a) (by omega)
    have hz := z1 k
    obtain ⟨c1, c2, c3⟩ := m_cell (k := y) h hP hI ha (by omega) (by omega)
    rw [if_pos (peq k), c1, Option.bind_some, h.r3, h.t3, h.n3, if_pos ⟨rfl, c3⟩, c2]
    show _ = some (v (byteL P (127 + 1) a y))
    unfold byteL
    rw [if_neg (by omega), l1, if_pos (by omega), Int.zero_add]
  · obtain ⟨y1, y2, y3⟩ := z2 k
    have hs2 := (hL a ha).1.1 k
    obtain ⟨p1, p2, p3⟩ := m_pointed h hP hI hL ha (by rw [link_kind (by omega)]; decide)
    have hnr := nextP_r (P := P) a
    obtain ⟨l1, l2⟩ := link_no (P := P) (a := nextP P a) (by omega)
    obtain ⟨c1, c2, c3⟩ := m_cell (a := nextP P a) (k := y) h hP hI (by omega) (by omega) (by omega)
    rw [if_neg (pne (by omega)), if_pos (peq k), p1, Option.bind_some, c1, Option.bind_some, h.r3, h.t3, h.n3, if_pos ⟨rfl, c3⟩, c2]
    show _ = some (v (byteL P (126 + 1 + 1) a y))
    unfold byteL
    rw [if_neg (by omega), link_kind (P := P) (a := a) (by omega), if_neg (by omega)]
    unfold byteL
    rw [if_neg (by omega), l1, hs2, if_pos (by omega), show 0 + (y - (2 - 2)) = y by omega]
  · rw [if_neg (pne (by omega)), if_neg (pne (by omega))]
    have := m_signL h hP hI hL (y := y) (by omega) (y / 38).toNat fuel 0 a 128 (by omega) (by omega) (by unfold fuel; omega) ha (Or.inl k) (by have := (hL a ha).2.2.2.2; omega) (by
      rw [Int.mul_zero, Int.sub_zero]; exact hy.2)
    rw [Int.mul_zero, Int.sub_zero] at this
    exact this
theorem m_aheadL (h : MR s m A) (hP : PgM (A 2) P) (hI : PgI P) (hL : PgLk P rk) (hw : PgWt P wt) {a c : Int} (ha : recP P a) (hc : recP P c) : ∀ (j n : Nat) (y : Int), y + j = min (sizeP P a) (sizeP P c) → 0 ≤ y → j < n → ∀ f : Nat, y + f = 201 →
    l_M_isAhead_16 s n m (v a) (v c) (v (sizeP P a)) (v (sizeP P c)) (v y) = some (v (aheadL P a c f y)) := by
  obtain ⟨a0, a200, -⟩ := size_rec hI.1.1 hL hw ha
  obtain ⟨c0, c200, -⟩ := size_rec hI.1.1 hL hw hc
  have har := ha.1
  have hcr := hc.1
  have b73 : ∀ (y : Int) (f : Nat), 0 ≤ y → y = min (sizeP P a) (sizeP P c) → y + f = 201 → b_M_isAhead_73 s (v a) (v c) (v (sizeP P a)) (v (sizeP P c)) = some (v (aheadL P a c f y)) := by
    intro y f y0 ye yf
    obtain ⟨f, rfl⟩ : ∃ g, f = g + 1 := ⟨f - 1, by omega⟩
    obtain ⟨i1, i2⟩ := byteP_in hI hL (a := a) (y := y) (by omega) y0
    obtain ⟨j1, j2⟩ := byteP_in hI hL (a := c) (y := y) (by omega) y0
    unfold b_M_isAhead_73 aheadL
    rw [nv1, nv0]
    congr 1
    by_cases e1 : sizeP P a < sizeP P c
    · have := i2 (by omega)
      have := j1 (by omega)
      rw [if_pos (plt (by omega)), if_neg (by omega), if_pos (by omega)]
    · rw [if_neg (nlt (by omega))]
      by_cases e2 : sizeP P a = sizeP P c
      · have h1 := i2 (by omega)
        have h2 := j2 (by omega)
        rw [if_pos (peq e2), if_pos (c := byteP P a y = byteP P c y) (by omega), if_pos (c := byteP P a y = -1) h1]
        by_cases e3 : a < c
        · rw [if_pos (plt (by omega)), if_pos e3]
        · rw [if_neg (nlt (by omega)), if_neg e3]
      · have := j2 (by omega)
        have := i1 (by omega)
        rw [if_neg (pne (by omega)), if_neg (by omega), if_neg (by omega)]
  intro j
  induction j with
  | zero =>
    intro n y hy h0 hn f hf
    obtain ⟨n, rfl⟩ : ∃ m, n = m + 1 := ⟨n - 1, by omega⟩
    show b_M_isAhead_16 _ _ _ _ _ _ _ _ = _
    unfold b_M_isAhead_16
    by_cases e : y < sizeP P a
    · rw [if_pos (plt (by omega)), if_neg (nlt (by omega))]
      exact b73 y f h0 (by omega) hf
    · rw [if_neg (nlt (by omega))]
      exact b73 y f h0 (by omega) hf
  | succ j ih =>
    intro n y hy h0 hn f hf
    obtain ⟨n, rfl⟩ : ∃ m, n = m + 1 := ⟨n - 1, by omega⟩
    obtain ⟨f, rfl⟩ : ∃ g, f = g + 1 := ⟨f - 1, by omega⟩
    have i1 := (byteP_in hI hL (a := a) (y := y) (by omega) h0).1 (by omega)
    have j1 := (byteP_in hI hL (a := c) (y := y) (by omega) h0).1 (by omega)
    have s1 := m_signOf h hP hI hL hw ha (y := y) (by omega)
    have s2 := m_signOf h hP hI hL hw hc (y := y) (by omega)
    show b_M_isAhead_16 _ _ _ _ _ _ _ _ = _
    unfold b_M_isAhead_16 aheadL
    rw [if_pos (plt (by omega)), if_pos (plt (by omega)), if_pos h.t, s1, Option.bind_some, s2, Option.bind_some, nv1, nv0]
    by_cases e : byteP P a y = byteP P c y
    · rw [if_pos (peq e), if_pos e, if_neg (by omega), v_add]
      exact ih n (y + 1) (by omega) (by omega) (by omega) f (by omega)
    · rw [if_neg (pne (by omega)), if_neg e]
      congr 1
      by_cases e3 : byteP P a y < byteP P c y
      · rw [if_pos (plt (by omega)), if_pos e3]
      · rw [if_neg (nlt (by omega)), if_neg e3]
theorem m_isAhead (h : MR s m A) (hP : PgM (A 2) P) (hI : PgI P) (hL : PgLk P rk) (hw : PgWt P wt) {a c : Int} (ha : recP P a) (hc : recP P c) : f_M_isAhead s m (v a) (v c) = some (v (aheadP P a c)) := by
  obtain ⟨a0, a200, -⟩ := size_rec hI.1.1 hL hw ha
  obtain ⟨c0, c200, -⟩ := size_rec hI.1.1 hL hw hc
  unfold f_M_isAhead
  rw [if_pos h.t, m_lengthOf h hP hI hL hw ha, Option.bind_some, m_lengthOf h hP hI hL hw hc, Option.bind_some]
  exact m_aheadL h hP hI hL hw ha hc (min (sizeP P a) (sizeP P c)).toNat fuel 0 (by omega) (by omega) (by unfold fuel; omega) 201 rfl
theorem cnt_rec (P : PG) : ∀ n : Nat, sumZ (fun a => if recP P a then 1 else 0) n = if n ≤ 128 then cntP P 1 n + cntP P 2 n + cntP P 4 n else sumZ (fun a => if recP P a then 1 else 0) n := by
  intro n
  induction n with
  | zero => rfl
  | succ n ih =>
    by_cases c : n + 1 ≤ 128
    · rw [if_pos c]
      rw [if_pos (by omega)] at ih
      unfold cntP at ih ⊢
      simp only [sumZ]
      rw [ih]
      by_cases h1 : P 0 n = 1
      · rw [if_pos (c := recP P n) ⟨by omega, Or.inl h1⟩, if_pos h1, if_neg (by omega), if_neg (by omega)]; omega
      · by_cases h2 : P 0 n = 2
        · rw [if_pos (c := recP P n) ⟨by omega, Or.inr (Or.inl h2)⟩, if_neg h1, if_pos h2, if_neg (by omega)]; omega
        · by_cases h4 : P 0 n = 4
          · rw [if_pos (c := recP P n) ⟨by omega, Or.inr (Or.inr h4)⟩, if_neg h1, if_neg h2, if_pos h4]; omega
          · rw [if_neg (c := recP P n) (fun e => by have := e.2; omega), if_neg h1, if_neg h2, if_neg h4]; omega
    · rw [if_neg c]
theorem m_recordsL (h : MR s m A) (hP : PgM (A 2) P) (hK : PgK P) {N : Nat} (hN : N = 128) : ∀ (k n i : Nat), i + k = N → k < n → l_M_records_4 s n m (v (sumZ (fun a => if recP P a then 1 else 0) i)) (v i) = some (v (sumZ (fun a => if recP P a then 1 else 0) N)) := by
  intro k
  induction k with
  | zero =>
    intro n i hi hn
    obtain ⟨n, rfl⟩ : ∃ m, n = m + 1 := ⟨n - 1, by omega⟩
    show b_M_records_4 _ _ _ _ _ = _
    unfold b_M_records_4
    rw [nv128, if_neg (nlt (by omega)), show i = N by omega]
  | succ k ih =>
    intro n i hi hn
    obtain ⟨n, rfl⟩ : ∃ m, n = m + 1 := ⟨n - 1, by omega⟩
    have hr := m_isRecord h hP hK (a := i) (by omega)
    have hs := ih n (i + 1) (by omega) (by omega)
    rw [show ((i + 1 : Nat) : Int) = (i : Int) + 1 by omega] at hs
    simp only [sumZ] at hs
    show b_M_records_4 _ _ _ _ _ = _
    unfold b_M_records_4
    rw [nv128, if_pos (plt (by omega)), if_pos h.t, hr, Option.bind_some, nv0, nv1, v_add]
    by_cases c : recP P i
    · rw [if_pos c] at hs
      rw [bi_t c, if_neg (show ¬ v 1 = v 0 by decide), v_add]
      exact hs
    · rw [if_neg c] at hs
      rw [bi_f c, if_pos rfl, v_add]
      exact hs
theorem m_records (h : MR s m A) (hP : PgM (A 2) P) (hK : PgK P) : f_M_records s m = some (v (countP P)) := by
  have := m_recordsL h hP hK rfl 128 fuel 0 (by omega) (by unfold fuel; omega)
  rw [cnt_rec P 128, if_pos (by decide)] at this
  exact this
theorem m_kindL (h : MR s m A) (hP : PgM (A 2) P) (hK : PgK P) {kd : Int} (hk : r32 kd) {N : Nat} (hN : N = 128) : ∀ (k n i : Nat), i + k = N → k < n → l_M_ofKind_4 s n m (v kd) (v (cntP P kd i)) (v i) = some (v (cntP P kd N)) := by
  intro k
  induction k with
  | zero =>
    intro n i hi hn
    obtain ⟨n, rfl⟩ : ∃ m, n = m + 1 := ⟨n - 1, by omega⟩
    show b_M_ofKind_4 _ _ _ _ _ _ = _
    unfold b_M_ofKind_4
    rw [nv128, if_neg (nlt (by omega)), show i = N by omega]
  | succ k ih =>
    intro n i hi hn
    obtain ⟨n, rfl⟩ : ∃ m, n = m + 1 := ⟨n - 1, by omega⟩
    have hr := m_kindAt h hP hK (a := i) (by omega)
    have hb := hK.1.2 i
    have hs := ih n (i + 1) (by omega) (by omega)
    rw [show ((i + 1 : Nat) : Int) = (i : Int) + 1 by omega] at hs
    unfold cntP at hs ⊢
    simp only [sumZ] at hs
    show b_M_ofKind_4 _ _ _ _ _ _ = _
    unfold b_M_ofKind_4
    rw [nv128, if_pos (plt (by omega)), if_pos h.t, hr, Option.bind_some, nv0, nv1, v_add]
    by_cases c : P 0 i = kd
    · rw [if_pos c] at hs
      rw [if_pos (peq c), v_add]
      exact hs
    · rw [if_neg c] at hs
      rw [if_neg (pne (by omega)), v_add]
      exact hs
theorem m_ofKind (h : MR s m A) (hP : PgM (A 2) P) (hK : PgK P) {kd : Int} (hk : r32 kd) : f_M_ofKind s m (v kd) = some (v (cntP P kd 128)) := m_kindL h hP hK hk rfl 128 fuel 0 (by omega) (by unfold fuel; omega)
end MRD
