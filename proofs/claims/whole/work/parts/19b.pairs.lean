/-! PAIRS: readings of the pages -/
def Lv (s : AS) (P : PG) : Prop := sT s 1 = 1 ∧ sR s 1 6 = 21 ∧ sT s 21 = 3 ∧ sR s 21 2 = 22 ∧ PgR s 22 P
theorem RepD.lv {s : AS} {D : DYN} {tp : (Int → Int) × Int} {se : ST1} {P : PG} {LG : LGS} {IM : Nat → IMG} {ms : Int → Int} {vw : (Int → Int) × Int} {dr : DRW} {cn : Nat} (h : RepD s D tp se P LG IM ms vw dr cn) : Lv s P := by
  have hd := h.2.2.2.2.2.2.2.2.1
  exact ⟨h.1.1, h.1.2.1.2.2.2.2.2.2.1, hd.1.1, hd.1.2.1.2.2.1, hd.2.2.1⟩
/-- the reference answers and nothing that counts is changed -/
def RO (s : AS) (r : Option (Int32 × AS)) (a : Int) (tp : (Int → Int) × Int) (se : ST1) (P : PG) (LG : LGS) (IM : Nat → IMG) (ms : Int → Int) (vw : (Int → Int) × Int) (dr : DRW) : Prop := ∃ s' A', r = some (v a, s') ∧ MR s' 78 A' ∧ RepA A' tp se P LG IM ms vw dr ∧ Fr (inM 78) s s'
def CO (s : AS) (r : Option (Int32 × AS)) (a : Int) (tp : (Int → Int) × Int) (se : ST1) (P : PG) (LG : LGS) (IM : Nat → IMG) (ms : Int → Int) (vw : (Int → Int) × Int) (dr : DRW) (cn : Nat) : Prop := ∃ s' D', r = some (v a, s') ∧ RepD s' D' tp se P LG IM ms vw dr cn ∧ GrM s s'
def pageZ (P : PG) (p k : Int) : Int := if 0 ≤ p ∧ p < 8 then (if k = 0 then P 3 p else if k = 1 then cellsP P p else if k = 2 then freeP P p else if k = 3 then gapP P p else if k = 4 then wasteP P p else if k = 5 then P 4 p else -1) else -1
def slotZ (P : PG) (p i k : Int) : Int := if 0 ≤ p ∧ p < 8 then (if 0 ≤ i ∧ i < P 3 p then (if k < 0 then -1 else if k = 0 then P 0 (p * 16 + i) else if P 0 (p * 16 + i) = 0 then -1 else if k = 1 then P 1 (p * 16 + i) else if k = 2 then P 2 (p * 16 + i) else byteC P (p * 16 + i) (k - 3)) else -1) else -1
section PGR
variable {s : AS} {P : PG}
theorem c_page (h : Lv s P) (hH : PgH P) {p k : Int} (hp : r32 p) (hk : r32 k) : f_C_page s 1 (v p) (v k) = some (v (pageZ P p k)) := by
  obtain ⟨o1, o2, o3, o4, o5⟩ := h
  have hB := hH.1.1.1.1
  unfold f_C_page pageZ
  rw [s_isPage hp, Option.bind_some, nv0, nv1, nv2, nv3, nv4, nv5]
  by_cases c : 0 ≤ p ∧ p < 8
  · have q1 := o5.1.2.2.2.2.1
    have q2 := o5.1.2.2.2.2.2.1
    rw [bi_t c, if_neg (show ¬ v 1 = v 0 by decide), if_pos c]
    simp only [o1, o2, o3, o4, o5.1.1, if_true]
    by_cases k0 : k = 0
    · rw [if_pos (peq k0), if_pos k0, q1.1, q1.2.1, q1.2.2, if_pos ⟨rfl, v_inA (by omega) (by omega)⟩, v_ix (by omega), o5.2.2.2.2.1 p (by omega)]
    rw [if_neg (pne (by omega)), if_neg k0]
    by_cases k1 : k = 1
    · rw [if_pos (peq k1), if_pos k1, s_cellsOf o5 hB c, Option.bind_some]
    rw [if_neg (pne (by omega)), if_neg k1]
    by_cases k2 : k = 2
    · rw [if_pos (peq k2), if_pos k2, s_freeOf o5 hB c, Option.bind_some]
    rw [if_neg (pne (by omega)), if_neg k2]
    by_cases k3 : k = 3
    · rw [if_pos (peq k3), if_pos k3, s_gapOf o5 hB c, Option.bind_some]
    rw [if_neg (pne (by omega)), if_neg k3]
    by_cases k4 : k = 4
    · rw [if_pos (peq k4), if_pos k4, s_wasteOf o5 hB c, Option.bind_some]
    rw [if_neg (pne (by omega)), if_neg k4]
    by_cases k5 : k = 5
    · rw [if_pos (peq k5), if_pos k5, q2.1, q2.2.1, q2.2.2, if_pos ⟨rfl, v_inA (by omega) (by omega)⟩, v_ix (by omega), o5.2.2.2.2.2.1 p (by omega)]
    rw [if_neg (pne (by omega)), if_neg k5, v_neg]
  · rw [bi_f c, if_pos rfl, if_neg c, v_neg]
end PGR
section PGA
variable {s : AS} {tp : (Int → Int) × Int} {se : ST1} {P : PG} {LG : LGS} {IM : Nat → IMG} {ms : Int → Int} {vw : (Int → Int) × Int} {dr : DRW} {A : MA}
theorem r_pure (h : MR s 78 A) (hR : RepA A tp se P LG IM ms vw dr) {r : Option (Int32 × AS)} {a : Int} (hf : ∀ A1, MR (setI s 78 0 (v 0)) 78 A1 → RepA A1 tp se P LG IM ms vw dr → r = some (v a, setI s 78 0 (v 0))) : RO s r a tp se P LG IM ms vw dr := by
  obtain ⟨k1, k2, k3⟩ := r_thr h hR
  exact ⟨_, _, hf _ k1 k2, k1, k2, k3⟩
theorem RepA.pg (h : RepA A tp se P LG IM ms vw dr) : PgM (A 2) P := h.2.2.2.2.1
theorem r_page (h : MR s 78 A) (hR : RepA A tp se P LG IM ms vw dr) (hH : PgH P) {p k : Int} (hp : r32 p) (hk : r32 k) : RO s (f_M_page s 78 (v p) (v k)) (pageZ P p k) tp se P LG IM ms vw dr := by
  refine r_pure h hR (fun A1 k1 k2 => ?_)
  have hP := k2.pg
  have hK := hH.1.1.1
  have j3 := k1.a3
  unfold f_M_page pageZ
  rw [if_pos h.t, m_isPage hp, Option.bind_some, nv0, nv1, nv2, nv3, nv4, nv5]
  by_cases c : 0 ≤ p ∧ p < 8
  · rw [bi_t c, if_neg (show ¬ v 1 = v 0 by decide), if_pos c]
    by_cases k0 : k = 0
    · rw [if_pos (peq k0), if_pos k0, m_pageAt, Option.bind_some, v_add, h.r3, h.t3, h.n3, if_pos ⟨rfl, v_inA (by omega) (by omega)⟩, v_ix (by omega), j3 _ (by omega), Int.add_zero, hP.1 p c]
    rw [if_neg (pne (by omega)), if_neg k0]
    by_cases k1' : k = 1
    · rw [if_pos (peq k1'), if_pos k1', m_cellsOn k1 hP hK c, Option.bind_some]
    rw [if_neg (pne (by omega)), if_neg k1']
    by_cases k2 : k = 2
    · rw [if_pos (peq k2), if_pos k2, m_freeOf k1 hP hK c, Option.bind_some]
    rw [if_neg (pne (by omega)), if_neg k2]
    by_cases k3 : k = 3
    · rw [if_pos (peq k3), if_pos k3, m_gapOf k1 hP hK c, Option.bind_some]
    rw [if_neg (pne (by omega)), if_neg k3]
    by_cases k4 : k = 4
    · rw [if_pos (peq k4), if_pos k4, m_wasteOf k1 hP hK c, Option.bind_some]
    rw [if_neg (pne (by omega)), if_neg k4]
    by_cases k5 : k = 5
    · rw [if_pos (peq k5), if_pos k5, m_pageAt, Option.bind_some, v_add, h.r3, h.t3, h.n3, if_pos ⟨rfl, v_inA (by omega) (by omega)⟩, v_ix (by omega), j3 _ (by omega), hP.2.1 p c]
    rw [if_neg (pne (by omega)), if_neg k5, v_neg]
  · rw [bi_f c, if_pos rfl, if_neg c, v_neg]
end PGA
