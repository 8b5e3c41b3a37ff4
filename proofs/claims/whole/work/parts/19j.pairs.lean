/-! PAIRS: search, compare -/
def srcZ (se : ST1) (P : PG) (z : Int) : Int := if 0 ≤ z ∧ z ≤ 40 then searchP (lwF se) se.1 P (-1) z else -1
def cmpZ (se : ST1) (P : PG) (l z : Int) : Int := if -1 ≤ l ∧ l < se.2.1.length then (if 0 ≤ z ∧ z ≤ 40 then searchP (lwAt se.2.1 l) se.1 P (-1) z else -1) else -1
section PGO
variable {s : AS} {D : DYN} {tp : (Int → Int) × Int} {se : ST1} {P : PG} {LG : LGS} {IM : Nat → IMG} {ms : Int → Int} {vw : (Int → Int) × Int} {dr : DRW} {A : MA} {cn : Nat}
theorem RepD.dl (h : RepD s D tp se P LG IM ms vw dr cn) : ∀ q, D.2.1.1 q → 106 ≤ q := fun q hq => (h.2.2.2.2.2.2.2.2.2.2.2.2.2.2.2.2.2.1 q (Or.inr (Or.inr (Or.inl hq)))).1
theorem CO.rf (h : RepD s D tp se P LG IM ms vw dr cn) {a : Int} : CO s (some (v a, s)) a tp se P LG IM ms vw dr cn := ⟨s, D, rfl, h, GrM.rf s⟩
theorem c_pageFor (h : RepD s D tp se P LG IM ms vw dr cn) (hw : WfT se) (hH : PgH P) {l z : Int} (hz : 0 ≤ z ∧ z ≤ 40) : ∃ L, SetR s 18 se.1 L se.2.1.length se.2.2 ∧ CO s (f_Desk_pageFor s 21 (v z) (lawAt se.2.1.length l L)) (searchP (lwAt se.2.1 l) se.1 P (-1) z) tp se P LG IM ms vw dr cn := by
  obtain ⟨Bf, B, len, k1, k2, k3, -⟩ := DkT_of (d := 21) (Or.inl rfl) h.2.2.2.2.2.2.2.2.1 h.2.2.2.2.2.2.1 h.2.2.2.2.2.2.2.1 hw h.dl
  obtain ⟨L, g1, g2⟩ := SetC.law (d := 21) (mc := 15) h.2.2.2.2.2.2.2.1 hw (fun q hq => by
    have := h.dl q hq
    show ¬ ((21 ≤ q ∧ q ≤ 21 + 17) ∨ q = 15 + 1 ∨ q = 15 + 2); omega)
  obtain ⟨s1, q1, q2, q3⟩ := s_pageFor2 k1 (g2 l) k3 hH.1.1.1.1 k2 (m := z) (by omega) (by omega)
  exact ⟨L, g1, s1, D, q1, h.u_mc q3 ⟨q2.2.1, q2.2.2.1⟩, q3.grM (fun q hq => by rcases hq with e | e <;> omega)⟩
theorem s_isCell {z : Int} (hz : r32 z) : f_C_isCellSize s (v z) = some (v (bi (0 ≤ z ∧ z ≤ 40))) := by
  unfold f_C_isCellSize
  rw [nv0, nv1, nv40]
  by_cases c : z < 0
  · rw [if_pos (plt (by omega)), bi_f (by omega)]
  rw [if_neg (nlt (by omega))]
  by_cases c2 : 40 < z
  · rw [if_pos (plt (by omega)), bi_f (by omega)]
  · rw [if_neg (nlt (by omega)), bi_t (by omega)]
theorem c_search (h : RepD s D tp se P LG IM ms vw dr cn) (hw : WfT se) (hH : PgH P) {z : Int} (hz : r32 z) : CO s (f_C_search s 1 (v z)) (srcZ se P z) tp se P LG IM ms vw dr cn := by
  unfold f_C_search srcZ
  rw [s_isCell hz, Option.bind_some, nv0, nv1, v_neg]
  by_cases c : 0 ≤ z ∧ z ≤ 40
  · rw [bi_t c, if_neg (show ¬ v 1 = v 0 by decide), if_pos c]
    obtain ⟨L, g1, s1, D', g2, g3, g4⟩ := c_pageFor h hw hH (l := se.2.2) c
    obtain ⟨o1, o2, o3, -⟩ := h.lv
    have hn := hw.2.1
    have hn2 := hw.2.2.1
    refine ⟨s1, D', ?_, g3, g4⟩
    rw [if_pos o1, h.st18.1, if_pos g1.1, s_lawInForce g1 ⟨by omega, by omega⟩, Option.bind_some, o2, if_pos o3, g2, Option.bind_some]
    rfl
  · rw [bi_f c, if_pos rfl, if_neg c]
    exact CO.rf h
theorem c_compare (h : RepD s D tp se P LG IM ms vw dr cn) (hw : WfT se) (hH : PgH P) {l z : Int} (hl : r32 l) (hz : r32 z) : CO s (f_C_compare s 1 (v l) (v z)) (cmpZ se P l z) tp se P LG IM ms vw dr cn := by
  have hn := hw.2.1
  unfold f_C_compare cmpZ
  rw [s_isCell hz, Option.bind_some, nv0, nv1, v_neg]
  by_cases c : 0 ≤ z ∧ z ≤ 40
  · rw [bi_t c, if_neg (show ¬ v 1 = v 0 by decide), if_pos c]
    obtain ⟨L, g1, s1, D', g2, g3, g4⟩ := c_pageFor h hw hH (l := l) c
    obtain ⟨o1, o2, o3, -⟩ := h.lv
    have h25 : b_C_compare_25 1 (v l) (v z) s = some (v (searchP (lwAt se.2.1 l) se.1 P (-1) z), s1) := by
      unfold b_C_compare_25
      rw [if_pos o1, h.st18.1, if_pos g1.1, s_lawOf g1 ⟨by omega, hl⟩, Option.bind_some, o2, if_pos o3, g2, Option.bind_some]
    by_cases c2 : l = -1
    · rw [if_pos (peq c2), if_pos (by omega), h25]
      exact ⟨s1, D', rfl, g3, g4⟩
    rw [if_neg (pne (by omega)), if_pos o1, h.st18.1, if_pos g1.1, s_hasLaw g1 ⟨by omega, hl⟩, Option.bind_some]
    by_cases c3 : 0 ≤ l ∧ l < se.2.1.length
    · rw [bi_t c3, if_neg (show ¬ v 1 = v 0 by decide), if_pos (by omega), h25]
      exact ⟨s1, D', rfl, g3, g4⟩
    · rw [bi_f c3, if_pos rfl, if_neg (by omega)]
      exact CO.rf h
  · rw [bi_f c, if_pos rfl, if_neg c]
    have e : (if -1 ≤ l ∧ l < (se.2.1.length : Int) then (-1 : Int) else -1) = -1 := by split <;> rfl
    rw [e]
    exact CO.rf h
theorem m_isLaw {m : Nat} (h : MR s m A) {n l : Int} (h0 : A 2 0 = n) (hn : 0 ≤ n ∧ n ≤ 6) (hl : r32 l) : f_M_isLaw s m (v l) = some (v (bi (-1 ≤ l ∧ l < n))) := by
  unfold f_M_isLaw
  rw [nv0, nv1, v_neg, lw0, lw1]
  by_cases c : l = -1
  · rw [if_pos (peq c), bi_t (by omega)]
  rw [if_neg (pne (by omega)), if_pos h.t, h.r3, h.t3, h.n3, if_pos ⟨rfl, v_inA (by omega) (by omega)⟩, v_ix (by omega), h.a3 0 (by omega), h0, v_w hl, v_w (by omega), w_sub, m_in (by omega) (by omega) (by omega), Option.bind_some]
  by_cases c2 : 0 ≤ l ∧ l ≤ n - 1
  · rw [bi_t c2, if_neg (show ¬ v 1 = v 0 by decide), bi_t (by omega)]
  · rw [bi_f c2, if_pos rfl, bi_f (by omega)]
theorem r_search (h : MR s 78 A) (hR : RepA A tp se P LG IM ms vw dr) (hw : WfT se) (hH : PgH P) {z : Int} (hz : r32 z) : RO s (f_M_search s 78 (v z)) (srcZ se P z) tp se P LG IM ms vw dr := by
  obtain ⟨k1, k2, k3⟩ := r_thr h hR
  unfold f_M_search srcZ
  rw [if_pos h.t, nv0, nv1, v_neg, lw0, lw40, v_w hz, m_in (by omega) (by omega) (by omega), Option.bind_some]
  by_cases c : 0 ≤ z ∧ z ≤ 40
  · obtain ⟨s', A', q1, q2, q3, q4⟩ := m_searchFor k1 (k2.mk' hw) hH.1.1.1 (sz := z) (by omega)
    rw [bi_t c, if_neg (show ¬ v 1 = v 0 by decide), if_pos c, q1, Option.bind_some]
    exact ⟨s', A', rfl, q2, k2.v_s (q3.mo (fun j z hj => by omega)), k3.tr q4⟩
  · rw [bi_f c, if_pos rfl, if_neg c]
    exact ⟨_, _, rfl, k1, k2, k3⟩
theorem SetA.fo {R S : Int → Int} {se : ST1} {l : Int} (h : SetA R se) (h1 : S 1 = l) (he : ∀ z, z ≠ 1 → S z = R z) : SetA S (se.1, se.2.1, l) := by
  obtain ⟨a1, a2, ⟨a3, a4, a5⟩, a6⟩ := h
  refine ⟨by rw [he 0 (by decide)]; exact a1, h1, ⟨by rw [he 2 (by decide)]; exact a3, by rw [he 3 (by decide)]; exact a4, by rw [he 4 (by decide)]; exact a5⟩, fun i CL hi => (a6 i CL hi).cong (fun z hz => he z (by omega))⟩
theorem r_compare (h : MR s 78 A) (hR : RepA A tp se P LG IM ms vw dr) (hw : WfT se) (hH : PgH P) {l z : Int} (hl : r32 l) (hz : r32 z) : RO s (f_M_compare s 78 (v l) (v z)) (cmpZ se P l z) tp se P LG IM ms vw dr := by
  have hn := hw.2.1
  obtain ⟨k1, k2, k3⟩ := r_thr h hR
  obtain ⟨s1, s2, -⟩ := k2.2.2.2.1
  unfold f_M_compare cmpZ
  rw [if_pos h.t, nv0, nv1, v_neg, m_isLaw k1 s1 (by omega) hl, Option.bind_some]
  by_cases c : -1 ≤ l ∧ l < se.2.1.length
  · rw [bi_t c, if_neg (show ¬ v 1 = v 0 by decide), if_pos c, lw0, lw40, v_w hz, m_in (by omega) (by omega) (by omega), Option.bind_some]
    by_cases c2 : 0 ≤ z ∧ z ≤ 40
    · rw [bi_t c2, if_neg (show ¬ v 1 = v 0 by decide), if_pos c2, h.r3, h.t3, h.n3, if_pos ⟨rfl, v_inA (by omega) (by omega)⟩, show sI (setI s 78 0 (v 0)) (78 + 2) (v 1).toNatClampNeg = v se.2.2 by rw [v_ix (by omega), k1.a3 1 (by omega), s2]]
      have m1 := k1.si (x := l) 2 (by decide) (by decide) (z := 1) (by decide)
      have r1 : RepA (pu (pu A 0 0 0) 2 1 l) tp (se.1, se.2.1, l) P LG IM ms vw dr := k2.v_st (AF.pu (Or.inr ⟨rfl, by omega⟩)) (k2.2.2.2.1.fo (pu_eq _ _ _ _) (fun z hz => pu_ne _ _ _ _ (by omega)))
      have w1 : WfT (se.1, se.2.1, l) := ⟨hw.1, hw.2.1, c, hw.2.2.2⟩
      obtain ⟨s', A', q1, q2, q3, q4⟩ := m_searchFor m1 (r1.mk' w1) hH.1.1.1 (sz := z) (by omega)
      have r2 := r1.v_s (q3.mo (fun j z hj => by omega))
      have m3 := q2.si (x := se.2.2) 2 (by decide) (by decide) (z := 1) (by decide)
      have q1' : f_M_searchFor (setI (setI s 78 0 (v 0)) (78 + 2) (v 1).toNatClampNeg (v l)) 78 (v z) = some (v (searchP (lwAt se.2.1 l) se.1 P (-1) z), s') := q1
      rw [q1', Option.bind_some, if_pos q2.t, q2.r3, q2.t3, q2.n3, if_pos ⟨rfl, v_inA (by omega) (by omega)⟩]
      refine ⟨_, _, rfl, m3, ?_, (k3.tr (Fr.si (by omega))).tr (q4.tr (Fr.si (by omega)))⟩
      exact r2.v_st (AF.pu (Or.inr ⟨rfl, by omega⟩)) (r2.2.2.2.1.fo (pu_eq _ _ _ _) (fun z hz => pu_ne _ _ _ _ (by omega)))
    · rw [bi_f c2, if_pos rfl, if_neg c2]
      exact ⟨_, _, rfl, k1, k2, k3⟩
  · rw [bi_f c, if_pos rfl, if_neg c]
    exact ⟨_, _, rfl, k1, k2, k3⟩
end PGO
