/-! PAIRS: the reference's map, scan, sorted, worst -/
theorem scanL_neg (P : PG) {t : Int} (ht : t < 0) : ∀ (k : Nat) (c a : Int), 0 ≤ c → scanL P t k c a = -1 := by
  intro k
  induction k with
  | zero => intro c a _; rfl
  | succ k ih =>
    intro c a hc
    rw [scanL, ih _ _ (by omega), ih _ _ hc]
    split
    · rw [if_neg (by omega)]
    · rfl
theorem sortL_neg (P : PG) {t : Int} (ht : t < 0) : ∀ (k : Nat) (a : Int), sortL P t k a = -1 := by
  intro k
  induction k with
  | zero => intro a; rfl
  | succ k ih =>
    intro a
    have := rankP_r P a 128
    rw [sortL, ih, if_neg (by omega)]
theorem worL_neg (P : PG) {t : Int} (ht : t < 0) : ∀ (k : Nat) (a : Int), worL P t k a = -1 := by
  intro k
  induction k with
  | zero => intro a; rfl
  | succ k ih =>
    intro a
    have := wrankP_r P a 8
    rw [worL, ih, if_neg (by omega)]
theorem aheadL_self (P : PG) (a : Int) : ∀ (k : Nat) (y : Int), aheadL P a a k y = 0 := by
  intro k
  induction k with
  | zero => intro y; rfl
  | succ k ih =>
    intro y
    rw [aheadL, if_pos rfl, if_neg (by omega : ¬ a < a), ih]
    split <;> rfl
theorem ahead_self (P : PG) (a : Int) : aheadP P a a = 0 := aheadL_self P a 201 0
section PGG
variable {s : AS} {tp : (Int → Int) × Int} {se : ST1} {P : PG} {LG : LGS} {IM : Nat → IMG} {ms : Int → Int} {vw : (Int → Int) × Int} {dr : DRW} {A : MA} {m : Nat}
theorem m_map48 (h : MR s m A) (hP : PgM (A 2) P) (hK : PgK P) {b : Int} : ∀ (k n : Nat) (p acc : Int), (p + k = b - 7 ∧ 0 ≤ p ∧ b < 16) → r32 acc → k < n → l_M_map_48 n m (v b) (v acc) (v (p + 8)) s = some (v (mapL P k p acc), s) := by
  intro k
  induction k with
  | zero =>
    intro n p acc hp ha hn
    obtain ⟨n, rfl⟩ : ∃ m, n = m + 1 := ⟨n - 1, by omega⟩
    show b_M_map_48 _ _ _ _ _ _ = _
    unfold b_M_map_48
    rw [if_pos (plt (by omega)), mapL]
  | succ k ih =>
    intro n p acc hp ha hn
    obtain ⟨n, rfl⟩ : ∃ m, n = m + 1 := ⟨n - 1, by omega⟩
    have hb := hK.1.2 p
    have hs := ih n (p + 1)
    rw [show p + 1 + 8 = p + 8 + 1 by omega] at hs
    show b_M_map_48 _ _ _ _ _ _ = _
    unfold b_M_map_48
    rw [nv8, nv1, v_sub, if_neg (nlt (by omega)), if_pos h.t, show p + 8 - 8 = p by omega, m_pageAt, Option.bind_some, v_add, v_add, h.r3, h.t3, h.n3, if_pos ⟨rfl, v_inA (by omega) (by omega)⟩, show sI s (m + 2) (v (5 + 102 * p + 1)).toNatClampNeg = v (P 4 p) by rw [v_ix (by omega), h.a3 _ (by omega), hP.2.1 p (by omega)], mapL]
    by_cases c : acc < P 4 p
    · rw [if_pos (plt (by omega)), if_pos c]
      exact hs _ (by omega) (by omega) (by omega)
    · rw [if_neg (nlt (by omega)), if_neg c]
      exact hs _ (by omega) (by omega) (by omega)
theorem m_map23 (h : MR s m A) (hP : PgM (A 2) P) (hK : PgK P) : ∀ (k n : Nat) (a b : Int), mapI a b → k < n → 8 ≤ (mapG k a b).1 → l_M_map_23 n m (v a) (v b) s = some (v (mapL P ((mapG k a b).2 - (mapG k a b).1 + 1).toNat ((mapG k a b).1 - 8) 0), s) := by
  intro k
  induction k with
  | zero =>
    intro n a b hm hn h8
    obtain ⟨n, rfl⟩ : ∃ m, n = m + 1 := ⟨n - 1, by omega⟩
    unfold mapG at h8 ⊢
    have h8' : 8 ≤ a := h8
    show b_M_map_23 _ _ _ _ _ = _
    unfold b_M_map_23
    rw [nv8, nv0, if_neg (nlt (by omega))]
    have hs := m_map48 h hP hK (b := b) (b - a + 1).toNat fuel (a - 8) 0 (by omega) (by omega) (by unfold fuel; omega)
    rw [show a - 8 + 8 = a by omega] at hs
    exact hs
  | succ k ih =>
    intro n a b hm hn h8
    obtain ⟨n, rfl⟩ : ∃ m, n = m + 1 := ⟨n - 1, by omega⟩
    unfold mapG at h8 ⊢
    by_cases c : a < 8
    · rw [if_pos c] at h8 ⊢
      show b_M_map_23 _ _ _ _ _ = _
      unfold b_M_map_23
      rw [nv8, nv2, nv1, if_pos (plt (by omega)), v_mul, v_mul, v_add]
      exact ih n _ _ (by omega) (by omega) h8
    · rw [if_neg c]
      show b_M_map_23 _ _ _ _ _ = _
      unfold b_M_map_23
      rw [nv8, nv0, if_neg (nlt (by omega))]
      have hs := m_map48 h hP hK (b := b) (b - a + 1).toNat fuel (a - 8) 0 (by omega) (by omega) (by unfold fuel; omega)
      rw [show a - 8 + 8 = a by omega] at hs
      exact hs
theorem r_map (h : MR s 78 A) (hR : RepA A tp se P LG IM ms vw dr) (hH : PgH P) {a : Int} (ha : r32 a) : RO s (f_M_map s 78 (v a)) (mapZ P a) tp se P LG IM ms vw dr := by
  refine r_pure h hR (fun A1 k1 k2 => ?_)
  unfold f_M_map mapZ
  rw [if_pos h.t, nv0, nv1, lw1, lw15, v_w ha, m_in (by omega) (by omega) (by omega), Option.bind_some]
  by_cases c : 1 ≤ a ∧ a ≤ 15
  · rw [bi_t c, if_neg (show ¬ v 1 = v 0 by decide), if_pos (show 1 ≤ a ∧ a < 16 by omega)]
    exact m_map23 k1 k2.pg hH.1.1.1 8 fuel a a (by omega) (by unfold fuel; omega) (mapG_8 8 a a (by omega) (by omega)).2
  · rw [bi_f c, if_pos rfl, if_neg (by omega), v_neg]
theorem m_scanL (h : MR s m A) (hP : PgM (A 2) P) (hK : PgK P) {t : Int} (ht : r32 t) : ∀ (k n : Nat) (c a : Int), a + k = 128 → 0 ≤ a → 0 ≤ c ∧ c ≤ a → k < n → l_M_scan_9 n m (v t) (v c) (v a) s = some (v (scanL P t k c a), s) := by
  intro k
  induction k with
  | zero =>
    intro n c a hi h0 hc hn
    obtain ⟨n, rfl⟩ : ∃ m, n = m + 1 := ⟨n - 1, by omega⟩
    show b_M_scan_9 _ _ _ _ _ _ = _
    unfold b_M_scan_9
    rw [nv128, nv1, if_neg (nlt (by omega)), scanL, v_neg]
  | succ k ih =>
    intro n c a hi h0 hc hn
    obtain ⟨n, rfl⟩ : ∃ m, n = m + 1 := ⟨n - 1, by omega⟩
    show b_M_scan_9 _ _ _ _ _ _ = _
    unfold b_M_scan_9
    rw [nv128, nv1, nv0, if_pos (plt (by omega)), if_pos h.t, m_isRecord h hP hK (by omega), Option.bind_some, scanL, v_add, v_add]
    by_cases e : recP P a
    · rw [bi_t e, if_neg (show ¬ v 1 = v 0 by decide), if_pos e]
      by_cases e2 : c = t
      · rw [if_pos (peq e2), if_pos e2]
      · rw [if_neg (pne (by omega)), if_neg e2]
        exact ih n _ _ (by omega) (by omega) (by omega) (by omega)
    · rw [bi_f e, if_pos rfl, if_neg e]
      exact ih n _ _ (by omega) (by omega) (by omega) (by omega)
theorem r_scan (h : MR s 78 A) (hR : RepA A tp se P LG IM ms vw dr) (hH : PgH P) {t : Int} (ht : r32 t) : RO s (f_M_scan s 78 (v t)) (scanZ P t) tp se P LG IM ms vw dr := by
  refine r_pure h hR (fun A1 k1 k2 => ?_)
  unfold f_M_scan scanZ
  rw [if_pos h.t, nv0]
  have hs := m_scanL k1 k2.pg hH.1.1.1 ht 128 fuel 0 0 (by omega) (by omega) (by omega) (by unfold fuel; omega)
  by_cases c : t < 0
  · rw [if_pos c]
    rw [scanL_neg P c 128 0 0 (by omega)] at hs
    exact hs
  · rw [if_neg c]
    exact hs
theorem m_sort27 (h : MR s m A) (hP : PgM (A 2) P) (hH : PgH P) {t a : Int} (ha : recP P a) {K : Nat → Int32 → Int32 → AS → Option (Int32 × AS)} {N : Nat} (hN : N = 128) : ∀ (k n i : Nat), i + k = N → k < n → l_M_sorted_27 K n m (v t) (v a) (v (rankP P a i)) (v i) s = if v (rankP P a N) = v t then some (v a, s) else K m (v t) (v a + nI 1) s := by
  obtain ⟨⟨hI, rk, hL⟩, wt, hw⟩ := hH
  intro k
  induction k with
  | zero =>
    intro n i hi hn
    obtain ⟨n, rfl⟩ : ∃ m, n = m + 1 := ⟨n - 1, by omega⟩
    show b_M_sorted_27 _ _ _ _ _ _ _ _ = _
    unfold b_M_sorted_27
    rw [nv128, if_neg (nlt (by omega)), show i = N by omega]
  | succ k ih =>
    intro n i hi hn
    obtain ⟨n, rfl⟩ : ∃ m, n = m + 1 := ⟨n - 1, by omega⟩
    have hs := ih n (i + 1) (by omega) (by omega)
    rw [show ((i + 1 : Nat) : Int) = (i : Int) + 1 by omega, show rankP P a (i + 1) = rankP P a i + (if recP P i ∧ aheadP P i a = 1 then 1 else 0) from rfl] at hs
    show b_M_sorted_27 _ _ _ _ _ _ _ _ = _
    unfold b_M_sorted_27
    rw [nv128, nv0, nv1, if_pos (plt (by omega)), v_add, v_add]
    by_cases c : (i : Int) = a
    · rw [if_pos (peq c)]
      rw [if_neg (fun z => by rw [c, ahead_self] at z; omega)] at hs
      exact hs
    rw [if_neg (pne (by omega)), if_pos h.t, m_isRecord h hP hI.1 (by omega), Option.bind_some]
    by_cases e : recP P i
    · rw [bi_t e, if_neg (show ¬ v 1 = v 0 by decide), m_isAhead h hP hI hL hw e ha, Option.bind_some]
      have hr := aheadP_r P i a
      by_cases f : aheadP P i a = 1
      · rw [if_pos ⟨e, f⟩] at hs
        rw [f, if_neg (show ¬ v 1 = v 0 by decide), v_add]
        exact hs
      · rw [if_neg (fun z => f z.2)] at hs
        rw [if_pos (peq (by omega)), v_add]
        exact hs
    · rw [bi_f e, if_pos rfl]
      rw [if_neg (fun z => e z.1)] at hs
      exact hs
theorem m_sortL (h : MR s m A) (hP : PgM (A 2) P) (hH : PgH P) {t : Int} (ht : r32 t) : ∀ (k n : Nat) (a : Int), a + k = 128 → 0 ≤ a → k < n → l_M_sorted_7 n m (v t) (v a) s = some (v (sortL P t k a), s) := by
  have hK := hH.1.1.1
  intro k
  induction k with
  | zero =>
    intro n a hi h0 hn
    obtain ⟨n, rfl⟩ : ∃ m, n = m + 1 := ⟨n - 1, by omega⟩
    show b_M_sorted_7 _ _ _ _ _ = _
    unfold b_M_sorted_7
    rw [nv128, nv1, if_neg (nlt (by omega)), sortL, v_neg]
  | succ k ih =>
    intro n a hi h0 hn
    obtain ⟨n, rfl⟩ : ∃ m, n = m + 1 := ⟨n - 1, by omega⟩
    have hr := rankP_r P a 128
    have hs := ih n (a + 1) (by omega) (by omega) (by omega)
    show b_M_sorted_7 _ _ _ _ _ = _
    unfold b_M_sorted_7
    rw [nv128, nv1, nv0, if_pos (plt (by omega)), if_pos h.t, m_isRecord h hP hK (by omega), Option.bind_some, sortL, v_add]
    by_cases e : recP P a
    · rw [bi_t e, if_neg (show ¬ v 1 = v 0 by decide)]
      have hz := m_sort27 h hP hH (t := t) e (K := l_M_sorted_7 n) rfl 128 fuel 0 (by omega) (by unfold fuel; omega)
      rw [show rankP P a 0 = 0 from rfl, show ((0 : Nat) : Int) = 0 from rfl, nv1, v_add] at hz
      rw [hz]
      by_cases e2 : rankP P a 128 = t
      · rw [if_pos (peq e2), if_pos ⟨e, e2⟩]
      · rw [if_neg (pne (by omega)), if_neg (fun z => e2 z.2)]
        exact hs
    · rw [bi_f e, if_pos rfl, if_neg (fun z => e z.1)]
      exact hs
theorem r_sorted (h : MR s 78 A) (hR : RepA A tp se P LG IM ms vw dr) (hH : PgH P) {t : Int} (ht : r32 t) : RO s (f_M_sorted s 78 (v t)) (sortZ P t) tp se P LG IM ms vw dr := by
  refine r_pure h hR (fun A1 k1 k2 => ?_)
  unfold f_M_sorted sortZ
  rw [if_pos h.t, nv0]
  have hs := m_sortL k1 k2.pg hH ht 128 fuel 0 (by omega) (by omega) (by unfold fuel; omega)
  by_cases c : t < 0
  · rw [if_pos c]
    rw [sortL_neg P c 128 0] at hs
    exact hs
  · rw [if_neg c]
    exact hs
theorem m_wor18 (h : MR s m A) (hP : PgM (A 2) P) (hK : PgK P) {t a : Int} (ha : 0 ≤ a ∧ a < 8) {K : Nat → Int32 → Int32 → AS → Option (Int32 × AS)} {N : Nat} (hN : N = 8) : ∀ (k n i : Nat), i + k = N → k < n → l_M_worst_18 K n m (v t) (v a) (v (wrankP P a i)) (v i) s = if v (wrankP P a N) = v t then some (v a, s) else K m (v t) (v a + nI 1) s := by
  intro k
  induction k with
  | zero =>
    intro n i hi hn
    obtain ⟨n, rfl⟩ : ∃ m, n = m + 1 := ⟨n - 1, by omega⟩
    show b_M_worst_18 _ _ _ _ _ _ _ _ = _
    unfold b_M_worst_18
    rw [nv8, if_neg (nlt (by omega)), show i = N by omega]
  | succ k ih =>
    intro n i hi hn
    obtain ⟨n, rfl⟩ : ∃ m, n = m + 1 := ⟨n - 1, by omega⟩
    have hs := ih n (i + 1) (by omega) (by omega)
    have w1 := wasteP_r hK.1 i
    have w2 := wasteP_r hK.1 a
    rw [show ((i + 1 : Nat) : Int) = (i : Int) + 1 by omega, show wrankP P a (i + 1) = wrankP P a i + (if wasteP P a < wasteP P i ∨ (wasteP P i = wasteP P a ∧ (i : Int) < a) then 1 else 0) from rfl] at hs
    show b_M_worst_18 _ _ _ _ _ _ _ _ = _
    unfold b_M_worst_18 b_M_worst_60
    rw [nv8, nv0, nv1, if_pos (plt (by omega)), if_pos h.t, m_wasteOf h hP hK (p := (i : Int)) (by omega), m_wasteOf h hP hK ha, Option.bind_some, Option.bind_some, Option.bind_some, Option.bind_some, v_add, v_add]
    by_cases c : wasteP P a < wasteP P i
    · rw [if_pos (Or.inl c)] at hs
      rw [if_pos (plt (by omega))]
      exact hs
    rw [if_neg (nlt (by omega))]
    by_cases c2 : wasteP P i = wasteP P a
    · rw [if_pos (peq c2)]
      by_cases c3 : (i : Int) < a
      · rw [if_pos (Or.inr ⟨c2, c3⟩)] at hs
        rw [if_pos (plt (by omega)), v_add]
        exact hs
      · rw [if_neg (by omega)] at hs
        rw [if_neg (nlt (by omega)), v_add]
        exact hs
    · rw [if_neg (by omega)] at hs
      rw [if_neg (pne (by omega)), v_add]
      exact hs
theorem m_worL (h : MR s m A) (hP : PgM (A 2) P) (hK : PgK P) {t : Int} (ht : r32 t) : ∀ (k n : Nat) (a : Int), a + k = 8 → 0 ≤ a → k < n → l_M_worst_7 n m (v t) (v a) s = some (v (worL P t k a), s) := by
  intro k
  induction k with
  | zero =>
    intro n a hi h0 hn
    obtain ⟨n, rfl⟩ : ∃ m, n = m + 1 := ⟨n - 1, by omega⟩
    show b_M_worst_7 _ _ _ _ _ = _
    unfold b_M_worst_7
    rw [nv8, nv1, if_neg (nlt (by omega)), worL, v_neg]
  | succ k ih =>
    intro n a hi h0 hn
    obtain ⟨n, rfl⟩ : ∃ m, n = m + 1 := ⟨n - 1, by omega⟩
    have hr := wrankP_r P a 8
    show b_M_worst_7 _ _ _ _ _ = _
    unfold b_M_worst_7
    have hz := m_wor18 h hP hK (t := t) (a := a) (by omega) (K := l_M_worst_7 n) rfl 8 fuel 0 (by omega) (by unfold fuel; omega)
    rw [show wrankP P a 0 = 0 from rfl, show ((0 : Nat) : Int) = 0 from rfl, nv1, v_add] at hz
    rw [nv8, nv0, if_pos (plt (by omega)), hz, worL]
    by_cases e2 : wrankP P a 8 = t
    · rw [if_pos (peq e2), if_pos e2]
    · rw [if_neg (pne (by omega)), if_neg e2]
      exact ih n (a + 1) (by omega) (by omega) (by omega)
theorem r_worst (h : MR s 78 A) (hR : RepA A tp se P LG IM ms vw dr) (hH : PgH P) {t : Int} (ht : r32 t) : RO s (f_M_worst s 78 (v t)) (worZ P t) tp se P LG IM ms vw dr := by
  refine r_pure h hR (fun A1 k1 k2 => ?_)
  unfold f_M_worst worZ
  rw [if_pos h.t, nv0]
  have hs := m_worL k1 k2.pg hH.1.1.1 ht 8 fuel 0 (by omega) (by omega) (by unfold fuel; omega)
  by_cases c : t < 0
  · rw [if_pos c]
    rw [worL_neg P c 8 0] at hs
    exact hs
  · rw [if_neg c]
    exact hs
end PGG
