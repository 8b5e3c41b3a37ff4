/-! PAIRS: map, scan, sorted, worst -/
def mapL (P : PG) : Nat → Int → Int → Int
  | 0, _, acc => acc
  | k + 1, p, acc => mapL P k (p + 1) (if acc < P 4 p then P 4 p else acc)
def mapG : Nat → Int → Int → Int × Int
  | 0, a, b => (a, b)
  | k + 1, a, b => if a < 8 then mapG k (2 * a) (2 * b + 1) else (a, b)
def mapZ (P : PG) (a : Int) : Int := if 1 ≤ a ∧ a < 16 then mapL P ((mapG 8 a a).2 - (mapG 8 a a).1 + 1).toNat ((mapG 8 a a).1 - 8) 0 else -1
abbrev mapI (a b : Int) : Prop := (a = 1 ∧ b = 1) ∨ (2 ≤ a ∧ a ≤ b ∧ b ≤ 3) ∨ (4 ≤ a ∧ a ≤ b ∧ b ≤ 7) ∨ (8 ≤ a ∧ a ≤ b ∧ b ≤ 15)
def scanL (P : PG) (t : Int) : Nat → Int → Int → Int
  | 0, _, _ => -1
  | k + 1, c, a => if recP P a then (if c = t then a else scanL P t k (c + 1) (a + 1)) else scanL P t k c (a + 1)
def scanZ (P : PG) (t : Int) : Int := if t < 0 then -1 else scanL P t 128 0 0
def sortL (P : PG) (t : Int) : Nat → Int → Int
  | 0, _ => -1
  | k + 1, a => if recP P a ∧ rankP P a 128 = t then a else sortL P t k (a + 1)
def sortZ (P : PG) (t : Int) : Int := if t < 0 then -1 else sortL P t 128 0
def worL (P : PG) (t : Int) : Nat → Int → Int
  | 0, _ => -1
  | k + 1, a => if wrankP P a 8 = t then a else worL P t k (a + 1)
def worZ (P : PG) (t : Int) : Int := if t < 0 then -1 else worL P t 8 0
section PGF
variable {s : AS} {P : PG}
theorem c_map58 (h : Lv s P) (hH : PgH P) {b : Int} : ∀ (k n : Nat) (p acc : Int), (p + k = b - 7 ∧ 0 ≤ p ∧ b < 16) → r32 acc → k < n → l_C_map_58 s n 1 (v b) (v acc) (v p) = some (v (mapL P k p acc)) := by
  obtain ⟨o1, o2, o3, o4, o5⟩ := h
  have hB := hH.1.1.1.1
  have q2 := o5.1.2.2.2.2.2.1
  intro k
  induction k with
  | zero =>
    intro n p acc hp ha hn
    obtain ⟨n, rfl⟩ : ∃ m, n = m + 1 := ⟨n - 1, by omega⟩
    show b_C_map_58 _ _ _ _ _ _ = _
    unfold b_C_map_58
    rw [nv8, v_sub, if_pos (plt (by omega)), mapL]
  | succ k ih =>
    intro n p acc hp ha hn
    obtain ⟨n, rfl⟩ : ∃ m, n = m + 1 := ⟨n - 1, by omega⟩
    have hb := hB.2 p
    show b_C_map_58 _ _ _ _ _ _ = _
    unfold b_C_map_58
    rw [nv8, nv1, v_sub, if_neg (nlt (by omega)), if_pos o1, o2, if_pos o3, o4, if_pos o5.1.1, q2.1, q2.2.1, q2.2.2, if_pos ⟨rfl, v_inA (by omega) (by omega)⟩, show sI s (22 + 5) (v p).toNatClampNeg = v (P 4 p) by rw [v_ix (by omega)]; exact o5.2.2.2.2.2.1 p (by omega), v_add, mapL]
    by_cases c : acc < P 4 p
    · rw [if_pos (plt (by omega)), if_pos c]
      exact ih n _ _ (by omega) (by omega) (by omega)
    · rw [if_neg (nlt (by omega)), if_neg c]
      exact ih n _ _ (by omega) (by omega) (by omega)
theorem c_map20 (h : Lv s P) (hH : PgH P) : ∀ (k n : Nat) (a b i : Int), i + k = 8 → 0 ≤ i → mapI a b → k < n → (mapG k a b).1 < 8 ∨ (8 ≤ (mapG k a b).1 ∧ l_C_map_20 s n 1 (v a) (v b) (v i) = some (v (mapL P ((mapG k a b).2 - (mapG k a b).1 + 1).toNat ((mapG k a b).1 - 8) 0))) := by
  intro k
  induction k with
  | zero =>
    intro n a b i hi h0 hm hn
    obtain ⟨n, rfl⟩ : ∃ m, n = m + 1 := ⟨n - 1, by omega⟩
    unfold mapG
    by_cases c : a < 8
    · exact Or.inl c
    refine Or.inr ⟨show 8 ≤ a by omega, ?_⟩
    show b_C_map_20 _ _ _ _ _ _ = _
    unfold b_C_map_20 b_C_map_49
    rw [nv8, nv0, if_neg (nlt (by omega)), v_sub]
    exact c_map58 h hH (b - a + 1).toNat fuel (a - 8) 0 (by omega) (by omega) (by unfold fuel; omega)
  | succ k ih =>
    intro n a b i hi h0 hm hn
    obtain ⟨n, rfl⟩ : ∃ m, n = m + 1 := ⟨n - 1, by omega⟩
    unfold mapG
    by_cases c : a < 8
    · rw [if_pos c]
      rcases ih n (2 * a) (2 * b + 1) (i + 1) (by omega) (by omega) (by omega) (by omega) with d | ⟨d, e⟩
      · exact Or.inl d
      refine Or.inr ⟨d, ?_⟩
      show b_C_map_20 _ _ _ _ _ _ = _
      unfold b_C_map_20
      rw [nv8, nv2, nv1, if_pos (plt (by omega)), if_pos (plt (by omega)), v_mul, v_mul, v_add, v_add]
      exact e
    · rw [if_neg c]
      refine Or.inr ⟨show 8 ≤ a by omega, ?_⟩
      show b_C_map_20 _ _ _ _ _ _ = _
      unfold b_C_map_20 b_C_map_49
      rw [nv8, nv0, if_pos (plt (by omega)), if_neg (nlt (by omega)), v_sub]
      exact c_map58 h hH (b - a + 1).toNat fuel (a - 8) 0 (by omega) (by omega) (by unfold fuel; omega)
theorem mapG_8 : ∀ (k : Nat) (a b : Int), mapI a b → 2 ^ k * a ≥ 8 → mapI (mapG k a b).1 (mapG k a b).2 ∧ 8 ≤ (mapG k a b).1 := by
  intro k
  induction k with
  | zero =>
    intro a b h h2
    unfold mapG
    exact ⟨h, by omega⟩
  | succ k ih =>
    intro a b h h2
    unfold mapG
    by_cases c : a < 8
    · rw [if_pos c]
      exact ih (2 * a) (2 * b + 1) (by omega) (by rw [← Int.mul_assoc, ← Int.pow_succ]; exact h2)
    · rw [if_neg c]
      exact ⟨h, by show 8 ≤ a; omega⟩
theorem c_map (h : Lv s P) (hH : PgH P) {a : Int} (ha : r32 a) : f_C_map s 1 (v a) = some (v (mapZ P a)) := by
  unfold f_C_map mapZ
  rw [nv1, nv16, nv0]
  by_cases c : a < 1
  · rw [if_pos (plt (by omega)), if_neg (by omega), v_neg]
  rw [if_neg (nlt (by omega))]
  by_cases c2 : a < 16
  · rw [if_pos (plt (by omega)), if_pos (show 1 ≤ a ∧ a < 16 from ⟨by omega, c2⟩)]
    have g := (mapG_8 8 a a (by omega) (by omega)).2
    rcases c_map20 h hH 8 fuel a a 0 (by omega) (by omega) (by omega) (by unfold fuel; omega) with d | ⟨-, d⟩
    · omega
    · exact d
  · rw [if_neg (nlt (by omega)), if_neg (by omega), v_neg]
theorem c_scanL (h : Lv s P) (hH : PgH P) {t : Int} (ht : r32 t) : ∀ (k n : Nat) (c a : Int), a + k = 128 → 0 ≤ a → 0 ≤ c ∧ c ≤ a → k < n → l_C_scan_10 s n 1 (v t) (v c) (v a) = some (v (scanL P t k c a)) := by
  obtain ⟨o1, o2, o3, o4, o5⟩ := h
  have hB := hH.1.1.1.1
  intro k
  induction k with
  | zero =>
    intro n c a hi h0 hc hn
    obtain ⟨n, rfl⟩ : ∃ m, n = m + 1 := ⟨n - 1, by omega⟩
    show b_C_scan_10 _ _ _ _ _ _ = _
    unfold b_C_scan_10
    rw [nv128, nv1, if_neg (nlt (by omega)), scanL, v_neg]
  | succ k ih =>
    intro n c a hi h0 hc hn
    obtain ⟨n, rfl⟩ : ∃ m, n = m + 1 := ⟨n - 1, by omega⟩
    show b_C_scan_10 _ _ _ _ _ _ = _
    unfold b_C_scan_10
    rw [nv128, nv1, nv0, if_pos (plt (by omega)), if_pos o1, o2, if_pos o3, o4, if_pos o5.1.1, s_isRecord o5 hB (by omega), Option.bind_some, scanL, v_add, v_add]
    by_cases e : recP P a
    · rw [bi_t e, if_neg (show ¬ v 1 = v 0 by decide), if_pos e]
      by_cases e2 : c = t
      · rw [if_pos (peq e2), if_pos e2]
      · rw [if_neg (pne (by omega)), if_neg e2]
        exact ih n _ _ (by omega) (by omega) (by omega) (by omega)
    · rw [bi_f e, if_pos rfl, if_neg e]
      exact ih n _ _ (by omega) (by omega) (by omega) (by omega)
theorem c_scan (h : Lv s P) (hH : PgH P) {t : Int} (ht : r32 t) : f_C_scan s 1 (v t) = some (v (scanZ P t)) := by
  unfold f_C_scan scanZ
  rw [nv0, nv1]
  by_cases c : t < 0
  · rw [if_pos (plt (by omega)), if_pos c, v_neg]
  · rw [if_neg (nlt (by omega)), if_neg c]
    exact c_scanL h hH ht 128 fuel 0 0 (by omega) (by omega) (by omega) (by unfold fuel; omega)
theorem rankP_r (P : PG) (a : Int) (n : Nat) : 0 ≤ rankP P a n ∧ rankP P a n ≤ n := by
  have := sumZ_r (f := fun o => if recP P o ∧ aheadP P o a = 1 then 1 else 0) (m := 1) (by decide) (fun z => by
    show 0 ≤ (if recP P z ∧ aheadP P z a = 1 then (1 : Int) else 0) ∧ _ ≤ (1 : Int)
    split <;> omega) n
  unfold rankP
  omega
theorem wrankP_r (P : PG) (a : Int) (n : Nat) : 0 ≤ wrankP P a n ∧ wrankP P a n ≤ n := by
  have := sumZ_r (f := fun o => if wasteP P a < wasteP P o ∨ (wasteP P o = wasteP P a ∧ o < a) then 1 else 0) (m := 1) (by decide) (fun z => by
    show 0 ≤ (if wasteP P a < wasteP P z ∨ (wasteP P z = wasteP P a ∧ z < a) then (1 : Int) else 0) ∧ _ ≤ (1 : Int)
    split <;> omega) n
  unfold wrankP
  omega
theorem c_sortL (h : Lv s P) (hH : PgH P) {t : Int} (ht : r32 t) : ∀ (k n : Nat) (a : Int), a + k = 128 → 0 ≤ a → k < n → l_C_sorted_8 s n 1 (v t) (v a) = some (v (sortL P t k a)) := by
  obtain ⟨o1, o2, o3, o4, o5⟩ := h
  have hB := hH.1.1.1.1
  intro k
  induction k with
  | zero =>
    intro n a hi h0 hn
    obtain ⟨n, rfl⟩ : ∃ m, n = m + 1 := ⟨n - 1, by omega⟩
    show b_C_sorted_8 _ _ _ _ _ = _
    unfold b_C_sorted_8
    rw [nv128, nv1, if_neg (nlt (by omega)), sortL, v_neg]
  | succ k ih =>
    intro n a hi h0 hn
    obtain ⟨n, rfl⟩ : ∃ m, n = m + 1 := ⟨n - 1, by omega⟩
    have hr := rankP_r P a 128
    show b_C_sorted_8 _ _ _ _ _ = _
    unfold b_C_sorted_8
    rw [nv128, nv1, nv0, if_pos (plt (by omega)), if_pos o1, o2, if_pos o3, o4, if_pos o5.1.1, s_isRecord o5 hB (by omega), Option.bind_some, sortL, v_add]
    have hs := ih n (a + 1) (by omega) (by omega) (by omega)
    by_cases e : recP P a
    · rw [bi_t e, if_neg (show ¬ v 1 = v 0 by decide), s_rankOf o5 hB e.1, Option.bind_some]
      by_cases e2 : rankP P a 128 = t
      · rw [if_pos (peq e2), if_pos ⟨e, e2⟩]
      · rw [if_neg (pne (by omega)), if_neg (fun z => e2 z.2)]
        exact hs
    · rw [bi_f e, if_pos rfl, if_neg (fun z => e z.1)]
      exact hs
theorem c_sorted (h : Lv s P) (hH : PgH P) {t : Int} (ht : r32 t) : f_C_sorted s 1 (v t) = some (v (sortZ P t)) := by
  unfold f_C_sorted sortZ
  rw [nv0, nv1]
  by_cases c : t < 0
  · rw [if_pos (plt (by omega)), if_pos c, v_neg]
  · rw [if_neg (nlt (by omega)), if_neg c]
    exact c_sortL h hH ht 128 fuel 0 (by omega) (by omega) (by unfold fuel; omega)
theorem c_worL (h : Lv s P) (hH : PgH P) {t : Int} (ht : r32 t) : ∀ (k n : Nat) (a : Int), a + k = 8 → 0 ≤ a → k < n → l_C_worst_8 s n 1 (v t) (v a) = some (v (worL P t k a)) := by
  obtain ⟨o1, o2, o3, o4, o5⟩ := h
  have hB := hH.1.1.1.1
  intro k
  induction k with
  | zero =>
    intro n a hi h0 hn
    obtain ⟨n, rfl⟩ : ∃ m, n = m + 1 := ⟨n - 1, by omega⟩
    show b_C_worst_8 _ _ _ _ _ = _
    unfold b_C_worst_8
    rw [nv8, nv1, if_neg (nlt (by omega)), worL, v_neg]
  | succ k ih =>
    intro n a hi h0 hn
    obtain ⟨n, rfl⟩ : ∃ m, n = m + 1 := ⟨n - 1, by omega⟩
    have hr := wrankP_r P a 8
    show b_C_worst_8 _ _ _ _ _ = _
    unfold b_C_worst_8
    rw [nv8, nv1, if_pos (plt (by omega)), if_pos o1, o2, if_pos o3, o4, if_pos o5.1.1, s_wasteRankOf o5 hB (by omega), Option.bind_some, worL, v_add]
    by_cases e2 : wrankP P a 8 = t
    · rw [if_pos (peq e2), if_pos e2]
    · rw [if_neg (pne (by omega)), if_neg e2]
      exact ih n (a + 1) (by omega) (by omega) (by omega)
theorem c_worst (h : Lv s P) (hH : PgH P) {t : Int} (ht : r32 t) : f_C_worst s 1 (v t) = some (v (worZ P t)) := by
  unfold f_C_worst worZ
  rw [nv0, nv1]
  by_cases c : t < 0
  · rw [if_pos (plt (by omega)), if_pos c, v_neg]
  · rw [if_neg (nlt (by omega)), if_neg c]
    exact c_worL h hH ht 8 fuel 0 (by omega) (by omega) (by unfold fuel; omega)
end PGF
