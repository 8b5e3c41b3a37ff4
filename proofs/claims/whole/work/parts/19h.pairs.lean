/-! PAIRS: count, drawn -/
def cntZ (tp : (Int → Int) × Int) (se : ST1) (P : PG) (LG : LGS) (ms : Int → Int) (k : Int) : Int := if k = 0 then countP P else if k = 1 then bytesP P 128 else if k = 2 then cntP P 2 128 else if k = 3 then cntP P 5 128 else if k = 4 then se.2.1.length else if k = 5 then LG.length else if k = 6 then tp.2 else if 7 ≤ k ∧ k < 12 then ms (3 + (k - 7)) else if k = 12 then se.2.2 else if 13 ≤ k ∧ k < 16 then se.1 (k - 13) else -1
def drwZ (dr : DRW) (p k : Int) : Int := if 0 ≤ p ∧ p < 8 then (match dr with
  | none => -1
  | some D => if 0 ≤ k ∧ k < 3 then D (3 * p + k) else -1) else -1
section PGL
variable {s : AS} {D : DYN} {tp : (Int → Int) × Int} {se : ST1} {P : PG} {LG : LGS} {IM : Nat → IMG} {ms : Int → Int} {vw : (Int → Int) × Int} {dr : DRW} {A : MA} {m cn : Nat}
theorem RepD.st18 (h : RepD s D tp se P LG IM ms vw dr cn) : sR s 1 5 = 18 ∧ ∃ L, SetR s 18 se.1 L se.2.1.length se.2.2 := by
  obtain ⟨L, h1, -⟩ := h.2.2.2.2.2.2.2.1
  exact ⟨h.1.2.1.2.2.2.2.2.1, L, h1⟩
theorem RepD.lg57 (h : RepD s D tp se P LG IM ms vw dr cn) : sR s 1 8 = 57 ∧ sT s 57 = 5 ∧ sI s 57 2 = v LG.length := by
  obtain ⟨Lr, h1, h2, -⟩ := h.2.2.2.2.2.2.2.2.2.2.1
  exact ⟨h.1.2.2.1, h1.1, h2⟩
theorem RepD.tp2 (h : RepD s D tp se P LG IM ms vw dr cn) : sR s 1 0 = 2 ∧ sT s 2 = 9 ∧ sI s 2 1 = v tp.2 ∧ RwR s 2 400 tp.1 tp.2 := by
  have h1 := h.2.2.1
  exact ⟨h.1.2.1.1, h1.1.1, h1.2.1, h1⟩
theorem c_row22 (h : RepD s D tp se P LG IM ms vw dr cn) {k : Int} (hk : r32 k) : b_C_rowCount_22 s 1 (v k) = some (v (if 13 ≤ k ∧ k < 16 then se.1 (k - 13) else -1)) := by
  obtain ⟨a1, L, b1, b2, -, b4, -⟩ := h.st18
  unfold b_C_rowCount_22
  rw [nv1, nv13, nv16, v_neg]
  by_cases c : k < 13
  · rw [if_pos (plt (by omega)), if_neg (by omega)]
  rw [if_neg (nlt (by omega))]
  by_cases c2 : k < 16
  · rw [if_pos (plt (by omega)), if_pos h.1.1, a1, if_pos b1, b2.1, b2.2.1, b2.2.2, v_sub, if_pos ⟨rfl, v_inA (by omega) (by omega)⟩, v_ix (by omega), b4 _ (by omega), if_pos ⟨by omega, c2⟩]
  · rw [if_neg (nlt (by omega)), if_neg (by omega)]
theorem c_row (h : RepD s D tp se P LG IM ms vw dr cn) {k : Int} (hk : r32 k) : f_C_rowCount s 1 (v k) = some (v (if 7 ≤ k ∧ k < 12 then ms (3 + (k - 7)) else if 13 ≤ k ∧ k < 16 then se.1 (k - 13) else -1)) := by
  obtain ⟨q1, q2, q3⟩ := h.2.2.2.2.2.2.2.2.2.2.2.2.2.2.2.2.1
  unfold f_C_rowCount
  rw [nv7, nv12, c_row22 h hk]
  by_cases c : k < 7
  · rw [if_pos (plt (by omega)), if_neg (show ¬(7 ≤ k ∧ k < 12) by omega)]
  rw [if_neg (nlt (by omega))]
  by_cases c2 : k < 12
  · rw [if_pos (plt (by omega)), if_pos h.1.1, h.1.2.2.2.2.2.2.2, q1, q2, v_sub, if_pos ⟨rfl, v_inA (by omega) (by omega)⟩, v_ix (by omega), q3 _ (by omega), if_pos ⟨by omega, c2⟩]
  · rw [if_neg (nlt (by omega)), if_neg (show ¬(7 ≤ k ∧ k < 12) by omega)]
theorem c_count (h : RepD s D tp se P LG IM ms vw dr cn) (hH : PgH P) {k : Int} (hk : r32 k) : f_C_count s 1 (v k) = some (v (cntZ tp se P LG ms k)) := by
  obtain ⟨o1, o2, o3, o4, o5⟩ := h.lv
  have hB := hH.1.1.1.1
  obtain ⟨a1, L, b1, -, -, -, -, b6, b7⟩ := h.st18
  obtain ⟨g1, g2, g3⟩ := h.lg57
  obtain ⟨t1, t2, t3, -⟩ := h.tp2
  have hrow := c_row h hk
  unfold f_C_count cntZ
  simp only [o1, o2, o3, o4, o5.1.1, a1, b1, b6, b7, g1, g2, g3, t1, t2, t3, if_true, hrow, Option.bind_some, s_recordCount o5 hB, s_recordBytes o5 hB, nv0, nv1, nv2, nv3, nv4, nv5, nv6, nv7, nv8, nv9, nv10, nv11, nv12, s_cellsOfKind o5 hB (show r32 2 by decide), s_cellsOfKind o5 hB (show r32 5 by decide)]
  by_cases k0 : k = 0
  · rw [if_pos (peq k0), if_pos k0]
  rw [if_neg (pne (by omega)), if_neg k0]
  by_cases k1 : k = 1
  · rw [if_pos (peq k1), if_pos k1]
  rw [if_neg (pne (by omega)), if_neg k1]
  by_cases k2 : k = 2
  · rw [if_pos (peq k2), if_pos k2]
  rw [if_neg (pne (by omega)), if_neg k2]
  by_cases k3 : k = 3
  · rw [if_pos (peq k3), if_pos k3]
  rw [if_neg (pne (by omega)), if_neg k3]
  by_cases k4 : k = 4
  · rw [if_pos (peq k4), if_pos k4]
  rw [if_neg (pne (by omega)), if_neg k4]
  by_cases k5 : k = 5
  · rw [if_pos (peq k5), if_pos k5]
  rw [if_neg (pne (by omega)), if_neg k5]
  by_cases k6 : k = 6
  · rw [if_pos (peq k6), if_pos k6]
  rw [if_neg (pne (by omega)), if_neg k6]
  by_cases k7 : 7 ≤ k ∧ k < 12
  · rw [if_pos k7, if_pos k7]
    have k8 : ¬ k = 12 := by omega
    rw [if_neg (show ¬ v k = v 12 from pne (by omega))]
    split
    · rfl
    split
    · rfl
    split
    · rfl
    split
    · rfl
    split <;> rfl
  rw [if_neg (show ¬ v k = v 7 from pne (by omega)), if_neg (show ¬ v k = v 8 from pne (by omega)), if_neg (show ¬ v k = v 9 from pne (by omega)), if_neg (show ¬ v k = v 10 from pne (by omega)), if_neg (show ¬ v k = v 11 from pne (by omega)), if_neg k7, if_neg k7]
  by_cases k8 : k = 12
  · rw [if_pos (peq k8), if_pos k8]
  rw [if_neg (pne (by omega)), if_neg k8]
theorem c_drawn (h : RepD s D tp se P LG IM ms vw dr cn) {p k : Int} (hp : r32 p) (hk : r32 k) : f_C_drawn s 1 (v p) (v k) = some (v (drwZ dr p k)) := by
  obtain ⟨q1, q2, q3, q4⟩ := h.2.2.2.2.2.2.2.2.2.2.2.2.2.1
  have e1 : sR s 1 10 = 71 := h.1.2.2.2.2.1
  unfold f_C_drawn drwZ f_Calendar_drawnOf
  rw [s_isPage hp, Option.bind_some, nv0, nv1, nv2, v_neg]
  by_cases c : 0 ≤ p ∧ p < 8
  · rw [bi_t c, if_neg (show ¬ v 1 = v 0 by decide), if_pos c, if_pos h.1.1, e1, if_pos q1]
    cases dr with
    | none =>
      have q4' : sI s 71 5 = v 0 := q4
      rw [if_pos q1, q4', if_pos rfl, Option.bind_some]
    | some E =>
      obtain ⟨q5, q6⟩ := q4
      obtain ⟨f1, f2, f3⟩ := q6 p c
      rw [if_pos q1, q5, if_neg (show ¬ v 1 = v 0 by decide), q2.2.2.1, q2.2.2.2.1, q2.2.2.2.2, q3.1.1, q3.1.2, q3.2.1.1, q3.2.1.2, q3.2.2.1, q3.2.2.2]
      have hin : (20 = 20 ∧ inA (v p) 8) := ⟨rfl, v_inA (by omega) (by omega)⟩
      rw [if_pos hin, if_pos hin, if_pos hin, show (v p).toNatClampNeg = p.toNat from v_ix (by omega), f1, f2, f3]
      show Option.bind _ _ = some (v (if 0 ≤ k ∧ k < 3 then E (3 * p + k) else -1))
      by_cases k0 : k = 0
      · rw [if_pos (peq k0), if_pos (show 0 ≤ k ∧ k < 3 by omega), k0, Option.bind_some, Int.add_zero]
      rw [if_neg (pne (by omega))]
      by_cases k1 : k = 1
      · rw [if_pos (peq k1), if_pos (show 0 ≤ k ∧ k < 3 by omega), k1, Option.bind_some]
      rw [if_neg (pne (by omega))]
      by_cases k2 : k = 2
      · rw [if_pos (peq k2), if_pos (show 0 ≤ k ∧ k < 3 by omega), k2, Option.bind_some]
      rw [if_neg (pne (by omega)), if_neg (show ¬(0 ≤ k ∧ k < 3) by omega), Option.bind_some]
  · rw [bi_f c, if_pos rfl, if_neg c]
end PGL
