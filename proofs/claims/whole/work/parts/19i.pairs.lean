/-! PAIRS: the reference's count, drawn -/
section PGN
variable {s : AS} {tp : (Int → Int) × Int} {se : ST1} {P : PG} {LG : LGS} {IM : Nat → IMG} {ms : Int → Int} {vw : (Int → Int) × Int} {dr : DRW} {A : MA} {m : Nat}
theorem m_bytesL (h : MR s m A) (hP : PgM (A 2) P) (hH : PgH P) {N : Nat} (hN : N = 128) : ∀ (k n i : Nat), i + k = N → k < n → l_M_bytesOfAll_4 s n m (v (bytesP P i)) (v i) = some (v (bytesP P N)) := by
  obtain ⟨⟨hI, rk, hL⟩, wt, hw⟩ := hH
  intro k
  induction k with
  | zero =>
    intro n i hi hn
    obtain ⟨n, rfl⟩ : ∃ m, n = m + 1 := ⟨n - 1, by omega⟩
    show b_M_bytesOfAll_4 _ _ _ _ _ = _
    unfold b_M_bytesOfAll_4
    rw [nv128, if_neg (nlt (by omega)), show i = N by omega]
  | succ k ih =>
    intro n i hi hn
    obtain ⟨n, rfl⟩ : ∃ m, n = m + 1 := ⟨n - 1, by omega⟩
    have hs := ih n (i + 1) (by omega) (by omega)
    rw [show ((i + 1 : Nat) : Int) = (i : Int) + 1 by omega, show bytesP P (i + 1) = bytesP P i + (if recP P i then sizeP P i else 0) from rfl] at hs
    show b_M_bytesOfAll_4 _ _ _ _ _ = _
    unfold b_M_bytesOfAll_4
    rw [nv128, nv0, nv1, if_pos (plt (by omega)), if_pos h.t, m_isRecord h hP hI.1 (by omega), Option.bind_some]
    by_cases c : recP P i
    · rw [if_pos c] at hs
      rw [bi_t c, if_neg (show ¬ v 1 = v 0 by decide), m_lengthOf h hP hI hL hw c, Option.bind_some, v_add, v_add]
      exact hs
    · rw [if_neg c] at hs
      rw [bi_f c, if_pos rfl, v_add, v_add]
      exact hs
theorem m_bytesOfAll (h : MR s m A) (hP : PgM (A 2) P) (hH : PgH P) : f_M_bytesOfAll s m = some (v (bytesP P 128)) :=
  m_bytesL h hP hH rfl 128 fuel 0 (by omega) (by unfold fuel; omega)
theorem r_count (h : MR s 78 A) (hR : RepA A tp se P LG IM ms vw dr) (hH : PgH P) {k : Int} (hk : r32 k) : RO s (f_M_count s 78 (v k)) (cntZ tp se P LG ms k) tp se P LG IM ms vw dr := by
  refine r_pure h hR (fun A1 k1 k2 => ?_)
  have hK := hH.1.1.1
  have hP := k2.pg
  obtain ⟨s1, s2, ⟨s3, s4, s5⟩, -⟩ := k2.2.2.2.1
  obtain ⟨j1, j2, j3, j4, j5⟩ := k2.2.2.2.2.2.2.2.2.1
  have a2 := k1.a2
  have a3 := k1.a3
  unfold f_M_count cntZ
  rw [if_pos h.t]
  simp only [h.r2, h.r3, h.t2, h.t3, h.n2, h.n3, k1.i8, k1.i12, k2.2.2.2.2.2.1.1, k2.1.1, nv0, nv1, nv2, nv3, nv4, nv5, nv6, nv7, nv8, nv9, nv10, nv11, nv12, nv13, lw13, lw15]
  by_cases k0 : k = 0
  · rw [if_pos (peq k0), if_pos k0, m_records k1 hP hK, Option.bind_some]
  rw [if_neg (pne (by omega)), if_neg k0]
  by_cases k1' : k = 1
  · rw [if_pos (peq k1'), if_pos k1', m_bytesOfAll k1 hP hH, Option.bind_some]
  rw [if_neg (pne (by omega)), if_neg k1']
  by_cases k2' : k = 2
  · rw [if_pos (peq k2'), if_pos k2', m_ofKind k1 hP hK (by decide), Option.bind_some]
  rw [if_neg (pne (by omega)), if_neg k2']
  by_cases k3 : k = 3
  · rw [if_pos (peq k3), if_pos k3, m_ofKind k1 hP hK (by decide), Option.bind_some]
  rw [if_neg (pne (by omega)), if_neg k3]
  by_cases k4 : k = 4
  · rw [if_pos (peq k4), if_pos k4, if_pos ⟨trivial, v_inA (by omega) (by omega)⟩, v_ix (by omega), a3 0 (by omega), s1]
  rw [if_neg (pne (by omega)), if_neg k4]
  by_cases k5 : k = 5
  · rw [if_pos (peq k5), if_pos k5]
  rw [if_neg (pne (by omega)), if_neg k5]
  by_cases k6 : k = 6
  · rw [if_pos (peq k6), if_pos k6]
  rw [if_neg (pne (by omega)), if_neg k6]
  by_cases k7 : k = 7
  · rw [if_pos (peq k7), if_pos (show 7 ≤ k ∧ k < 12 by omega), if_pos ⟨trivial, v_inA (by omega) (by omega)⟩, v_ix (by omega), a2 1 (by omega), j1, k7]
    rfl
  rw [if_neg (pne (by omega))]
  by_cases k8 : k = 8
  · rw [if_pos (peq k8), if_pos (show 7 ≤ k ∧ k < 12 by omega), if_pos ⟨trivial, v_inA (by omega) (by omega)⟩, v_ix (by omega), a2 2 (by omega), j2, k8]
    rfl
  rw [if_neg (pne (by omega))]
  by_cases k9 : k = 9
  · rw [if_pos (peq k9), if_pos (show 7 ≤ k ∧ k < 12 by omega), if_pos ⟨trivial, v_inA (by omega) (by omega)⟩, v_ix (by omega), a2 3 (by omega), j3, k9]
    rfl
  rw [if_neg (pne (by omega))]
  by_cases k10 : k = 10
  · rw [if_pos (peq k10), if_pos (show 7 ≤ k ∧ k < 12 by omega), if_pos ⟨trivial, v_inA (by omega) (by omega)⟩, v_ix (by omega), a2 5 (by omega), j4, k10]
    rfl
  rw [if_neg (pne (by omega))]
  by_cases k11 : k = 11
  · rw [if_pos (peq k11), if_pos (show 7 ≤ k ∧ k < 12 by omega), if_pos ⟨trivial, v_inA (by omega) (by omega)⟩, v_ix (by omega), a2 6 (by omega), j5, k11]
    rfl
  rw [if_neg (pne (by omega)), if_neg (show ¬(7 ≤ k ∧ k < 12) by omega)]
  by_cases k12 : k = 12
  · rw [if_pos (peq k12), if_pos k12, if_pos ⟨trivial, v_inA (by omega) (by omega)⟩, v_ix (by omega), a3 1 (by omega), s2]
  rw [if_neg (pne (by omega)), if_neg k12, v_w hk, m_in (by omega) (by omega) (by omega), Option.bind_some, v_neg]
  by_cases k13 : 13 ≤ k ∧ k ≤ 15
  · rw [bi_t k13, if_neg (show ¬ v 1 = v 0 by decide), v_add, v_sub, if_pos ⟨trivial, v_inA (by omega) (by omega)⟩, v_ix (by omega), a3 _ (by omega), if_pos (show 13 ≤ k ∧ k < 16 by omega)]
    have : k = 13 ∨ k = 14 ∨ k = 15 := by omega
    rcases this with rfl | rfl | rfl
    · show some (v (A1 2 2), _) = some (v (se.1 0), _)
      rw [s3]
    · show some (v (A1 2 3), _) = some (v (se.1 1), _)
      rw [s4]
    · show some (v (A1 2 4), _) = some (v (se.1 2), _)
      rw [s5]
  · rw [bi_f k13, if_pos rfl, if_neg (show ¬(13 ≤ k ∧ k < 16) by omega)]
theorem r_drawn (h : MR s 78 A) (hR : RepA A tp se P LG IM ms vw dr) {p k : Int} (hp : r32 p) (hk : r32 k) : RO s (f_M_drawn s 78 (v p) (v k)) (drwZ dr p k) tp se P LG IM ms vw dr := by
  refine r_pure h hR (fun A1 k1 k2 => ?_)
  have hD := k2.2.2.2.2.2.2.2.2.2.2
  have a55 := k1.a55
  have i56 : sI (setI s 78 0 (v 0)) 78 56 = v (A1 0 56) := k1.2.1 56 (by decide)
  unfold f_M_drawn drwZ
  rw [if_pos h.t, nv0, nv1, v_neg, i56, m_isPage hp, Option.bind_some, lw0, lw2, v_w hk, m_in (by omega) (by omega) (by omega), Option.bind_some, nv3, v_mul, v_add, h.r55, h.t55, h.n55]
  cases dr with
  | none =>
    have hD' : A1 0 56 = 0 := hD
    rw [hD', if_pos rfl]
    split <;> rfl
  | some E =>
    obtain ⟨q1, q2⟩ := hD
    rw [q1, if_neg (show ¬ v 1 = v 0 by decide)]
    by_cases c : 0 ≤ p ∧ p < 8
    · rw [bi_t c, if_neg (show ¬ v 1 = v 0 by decide), if_pos c]
      show _ = some (v (if 0 ≤ k ∧ k < 3 then E (3 * p + k) else -1), _)
      by_cases c2 : 0 ≤ k ∧ k ≤ 2
      · rw [bi_t c2, if_neg (show ¬ v 1 = v 0 by decide), if_pos ⟨rfl, v_inA (by omega) (by omega)⟩, v_ix (by omega), a55 _ (by omega), q2 _ (by omega) (by omega), if_pos (show 0 ≤ k ∧ k < 3 by omega)]
      · rw [bi_f c2, if_pos rfl, if_neg (show ¬(0 ≤ k ∧ k < 3) by omega)]
    · rw [bi_f c, if_pos rfl, if_neg c]
end PGN
