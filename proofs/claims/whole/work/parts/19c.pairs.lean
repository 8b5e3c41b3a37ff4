/-! PAIRS: slot, above, count -/
section PGC
variable {s : AS} {P : PG}
theorem c_slot (h : Lv s P) (hH : PgH P) {p i k : Int} (hp : r32 p) (hi : r32 i) (hk : r32 k) : f_C_slot s 1 (v p) (v i) (v k) = some (v (slotZ P p i k)) := by
  obtain ⟨o1, o2, o3, o4, o5⟩ := h
  have hB := hH.1.1.1.1
  unfold f_C_slot slotZ
  rw [s_isPage hp, Option.bind_some, nv0, nv1, nv2, nv3, nv16]
  by_cases c : 0 ≤ p ∧ p < 8
  · have q0 := o5.1.2.1
    have q1 := o5.1.2.2.1
    have q2 := o5.1.2.2.2.1
    have q3 := o5.1.2.2.2.2.1
    have hb := hB.2 p
    rw [bi_t c, if_neg (show ¬ v 1 = v 0 by decide), if_pos c]
    by_cases c2 : i < 0
    · rw [if_pos (plt (by omega)), if_neg (by omega), v_neg]
    rw [if_neg (nlt (by omega)), if_pos o1, o2, if_pos o3, o4, if_pos o5.1.1, q3.1, q3.2.1, q3.2.2, if_pos ⟨rfl, v_inA (by omega) (by omega)⟩, v_ix (by omega), o5.2.2.2.2.1 p (by omega)]
    by_cases c3 : i < P 3 p
    · rw [if_pos (plt (by omega)), if_pos (show 0 ≤ i ∧ i < P 3 p from ⟨by omega, c3⟩)]
      by_cases c4 : k < 0
      · rw [if_pos (plt (by omega)), if_pos c4, v_neg]
      rw [if_neg (nlt (by omega)), if_neg c4, v_mul, v_add, q0.1, q0.2.1, q0.2.2, if_pos ⟨rfl, v_inA (by omega) (by omega)⟩, show sI s (22 + 1) (v (p * 16 + i)).toNatClampNeg = v (P 0 (p * 16 + i)) by rw [v_ix (by omega)]; exact o5.2.1 (p * 16 + i) (by omega)]
      have hb0 := hB.2 (p * 16 + i)
      by_cases c5 : k = 0
      · rw [if_pos (peq c5), if_pos c5]
      rw [if_neg (pne (by omega)), if_neg c5]
      by_cases c6 : P 0 (p * 16 + i) = 0
      · rw [if_pos (peq c6), if_pos c6, v_neg]
      rw [if_neg (pne (by omega)), if_neg c6]
      by_cases c7 : k = 1
      · rw [if_pos (peq c7), if_pos c7, q1.1, q1.2.1, q1.2.2, if_pos ⟨rfl, v_inA (by omega) (by omega)⟩, v_ix (by omega), o5.2.2.1 (p * 16 + i) (by omega)]
      rw [if_neg (pne (by omega)), if_neg c7]
      by_cases c8 : k = 2
      · rw [if_pos (peq c8), if_pos c8, q2.1, q2.2.1, q2.2.2, if_pos ⟨rfl, v_inA (by omega) (by omega)⟩, v_ix (by omega), o5.2.2.2.1 (p * 16 + i) (by omega)]
      rw [if_neg (pne (by omega)), if_neg c8, v_sub, s_cellByte o5 hB (by omega) (by omega), Option.bind_some]
    · rw [if_neg (nlt (by omega)), if_neg (by omega), v_neg]
  · rw [bi_f c, if_pos rfl, if_neg c, v_neg]
def aboveZ (P : PG) (a : Int) : Int := if a < 128 then fromP P (a + 1) else -1
theorem c_above (h : Lv s P) (hH : PgH P) {a : Int} (ha : r32 a) : f_C_above s 1 (v a) = some (v (aboveZ P a)) := by
  obtain ⟨o1, o2, o3, o4, o5⟩ := h
  have hB := hH.1.1.1.1
  unfold f_C_above aboveZ
  rw [nv128, nv1]
  by_cases c : a < 128
  · rw [if_pos (plt (by omega)), if_pos o1, o2, if_pos o3, o4, if_pos o5.1.1, v_add, s_recordFrom o5 hB (by omega), Option.bind_some, if_pos c]
  · rw [if_neg (nlt (by omega)), if_neg c, v_neg]
end PGC
section PGE
variable {s : AS} {tp : (Int → Int) × Int} {se : ST1} {P : PG} {LG : LGS} {IM : Nat → IMG} {ms : Int → Int} {vw : (Int → Int) × Int} {dr : DRW} {A : MA}
theorem r_slot (h : MR s 78 A) (hR : RepA A tp se P LG IM ms vw dr) (hH : PgH P) {p i k : Int} (hp : r32 p) (hi : r32 i) (hk : r32 k) : RO s (f_M_slot s 78 (v p) (v i) (v k)) (slotZ P p i k) tp se P LG IM ms vw dr := by
  refine r_pure h hR (fun A1 k1 k2 => ?_)
  have hP := k2.pg
  have hI := hH.1.1
  have hK := hH.1.1.1
  have hb := hK.1.2 p
  have hb0 := hK.1.2 (p * 16 + i)
  have j3 := k1.a3
  unfold f_M_slot slotZ
  rw [if_pos h.t, m_isPage hp, Option.bind_some, nv0, nv1, nv2, nv3, nv16, lw0, lw1, lw2, lw3]
  by_cases c : 0 ≤ p ∧ p < 8
  · rw [bi_t c, if_neg (show ¬ v 1 = v 0 by decide), if_pos c, m_pageAt, Option.bind_some, v_add, h.r3, h.t3, h.n3, if_pos ⟨rfl, v_inA (by omega) (by omega)⟩, v_ix (by omega), j3 _ (by omega), Int.add_zero, hP.1 p c, v_w hi, v_w (by omega), w_sub, m_in (by omega) (by omega) (by omega), Option.bind_some]
    by_cases c2 : 0 ≤ i ∧ i < P 3 p
    · have e1 : (p * 16 + i) / 16 = p := by omega
      have e2 : (p * 16 + i) % 16 = i := by omega
      rw [bi_t (c := 0 ≤ i ∧ i ≤ P 3 p - 1) (by omega), if_neg (show ¬ v 1 = v 0 by decide), if_pos c2, m_kindOf k1 hP c (by omega), Option.bind_some]
      by_cases c5 : k = 0
      · rw [if_pos (peq c5), if_neg (show ¬ k < 0 by omega), if_pos c5]
        unfold b_M_slot_54
        rw [nv0, if_pos (peq c5)]
      rw [if_neg (pne (by omega)), if_neg c5]
      by_cases c6 : P 0 (p * 16 + i) = 0
      · rw [if_pos (peq c6), if_pos c6]
        unfold b_M_slot_54
        rw [nv0, nv1, if_neg (pne (by omega)), v_neg]
        split <;> rfl
      rw [if_neg (pne (by omega)), if_neg c6, m_slotAt, Option.bind_some, v_add, if_pos ⟨rfl, v_inA (by omega) (by omega)⟩, v_ix (by omega), j3 _ (by omega)]
      have e3 := hP.2.2.2.2.1 p i (by omega)
      have e4 := hP.2.2.2.1 p i ⟨by omega, c6⟩
      rw [e3]
      by_cases c7 : k = 1
      · rw [if_pos (peq c7), if_pos c7, if_neg (by omega)]
        unfold b_M_slot_89
        rw [nv2, nv1, if_neg (pne (by omega)), if_pos k1.t, m_slotAt, Option.bind_some, v_add, k1.r3, k1.t3, k1.n3, if_pos ⟨rfl, v_inA (by omega) (by omega)⟩, v_ix (by omega), j3 _ (by omega), e4]
      rw [if_neg (pne (by omega)), if_neg c7]
      by_cases c8 : k = 2
      · rw [if_pos (peq c8), if_pos c8, if_neg (by omega)]
        unfold b_M_slot_89
        rw [nv2, if_pos (peq c8)]
      rw [if_neg (pne (by omega)), if_neg c8, v_w hk, v_w (by omega), w_add, m_in (by omega) (by omega) (by omega), Option.bind_some]
      by_cases c9 : 3 ≤ k ∧ k ≤ 2 + P 2 (p * 16 + i)
      · obtain ⟨f1, f2, f3⟩ := m_cell (a := p * 16 + i) (k := k - 3) k1 hP hI (by omega) c6 (by omega)
        rw [bi_t c9, if_neg (show ¬ v 1 = v 0 by decide), v_mul, v_add, v_sub, show 16 * p + i = p * 16 + i by omega, f1, Option.bind_some, if_pos ⟨rfl, f3⟩, if_neg (by omega)]
        rw [show (78 : Nat) + 2 = 78 + 2 from rfl, f2]
      · rw [bi_f c9, if_pos rfl, v_neg]
        by_cases c10 : k < 0
        · rw [if_pos c10]
        · rw [if_neg c10]
          unfold byteC
          rw [if_pos (by omega)]
    · rw [bi_f (c := 0 ≤ i ∧ i ≤ P 3 p - 1) (by omega), if_pos rfl, if_neg c2, v_neg]
  · rw [bi_f c, if_pos rfl, if_neg c, v_neg]
theorem m_fromL {m : Nat} (h : MR s m A) (hP : PgM (A 2) P) (hK : PgK P) : ∀ (k n : Nat) (a : Int), a + k = 128 ∨ (k = 0 ∧ 128 ≤ a) → k < n → 0 ≤ a ∧ a < 2147483648 → l_M_firstFrom_2 s n m (v a) = some (v (fromL P k a)) := by
  intro k
  induction k with
  | zero =>
    intro n a hi hn ha
    obtain ⟨n, rfl⟩ : ∃ m, n = m + 1 := ⟨n - 1, by omega⟩
    show b_M_firstFrom_2 _ _ _ _ = _
    unfold b_M_firstFrom_2 b_M_firstFrom_23
    rw [nv128, if_neg (nlt (by omega)), if_neg (nlt (by omega)), fromL, nv1, v_neg]
  | succ k ih =>
    intro n a hi hn ha
    obtain ⟨n, rfl⟩ : ∃ m, n = m + 1 := ⟨n - 1, by omega⟩
    show b_M_firstFrom_2 _ _ _ _ = _
    unfold b_M_firstFrom_2 b_M_firstFrom_23
    rw [nv128, if_pos (plt (by omega)), if_pos h.t, m_isRecord h hP hK (by omega), Option.bind_some, fromL, nv0, nv1]
    by_cases c : recP P a
    · rw [bi_t c, if_neg (show ¬ v 1 = v 0 by decide), if_pos (plt (by omega)), if_pos c]
    · rw [bi_f c, if_pos rfl, if_neg c, v_add]
      exact ih n (a + 1) (by omega) (by omega) (by omega)
theorem r_above (h : MR s 78 A) (hR : RepA A tp se P LG IM ms vw dr) (hH : PgH P) {a : Int} (ha : r32 a) : RO s (f_M_above s 78 (v a)) (aboveZ P a) tp se P LG IM ms vw dr := by
  refine r_pure h hR (fun A1 k1 k2 => ?_)
  unfold f_M_above aboveZ b_M_above_28
  rw [if_pos h.t, nv128, nv0, nv1]
  by_cases c : a < 128
  · rw [if_pos (plt (by omega)), if_pos k1.t, if_pos c]
    have e : (if v a < v 0 then v 0 else v a + v 1) = v (max 0 (a + 1)) := by
      by_cases c2 : a < 0
      · rw [if_pos (plt (by omega)), show max 0 (a + 1) = 0 by omega]
      · rw [if_neg (nlt (by omega)), v_add, show max 0 (a + 1) = a + 1 by omega]
    have f := m_fromL k1 k2.pg hH.1.1.1 (128 - max 0 (a + 1)).toNat fuel (max 0 (a + 1)) (by omega) (by unfold fuel; omega) (by omega)
    rw [e]
    unfold f_M_firstFrom
    rw [f, Option.bind_some]
    rfl
  · rw [if_neg (nlt (by omega)), if_neg c, v_neg]
end PGE
