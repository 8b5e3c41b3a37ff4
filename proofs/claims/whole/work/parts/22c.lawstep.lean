/-! THE LAW'S STEP (gen22.py) -/
section LST
variable {L : Nat} {xs : Nat → Int32} {s : AS} {c : Nat} {K : Nat → Nat → Nat → Int32 → AS → Option (Int32 × AS)}
theorem scr_c {i j : Int} (sc : Scr L xs s) (hi : 0 ≤ i ∧ i + 6 ≤ L) (hj : 0 ≤ j ∧ j < 6) (hL : L ≤ 3072) : sT s 1000001 = 30 ∧ inA (v (i + j)) (sN s 1000001) := by
  refine ⟨sc.1, ?_⟩
  rw [sc.2.1]
  exact v_inA (by omega) (by omega)
set_option maxHeartbeats 8000000 in
theorem law_step (h : Bth L xs s c) (hn : c + 1 ≤ 600) (hi : 6 * c + 6 ≤ L) (hL : L ≤ 3072) : ∃ s2, b_Law_law_18 K 1000001 1 78 (v (6 * (c : Int))) s = K 1000001 1 78 (v (6 * ((c + 1 : Nat) : Int))) s2 ∧ Bth L xs s2 (c + 1) := by
  have sc := h.2.2
  have o1 : sT s 1 = 1 := by obtain ⟨⟨D, tp, se, P, LG, IM, ms, vw, dr, A, h1, -⟩, -⟩ := h; exact h1.1.1
  have m0 : sT s 78 = 13 := by obtain ⟨⟨D, tp, se, P, LG, IM, ms, vw, dr, A, h1, m1, -⟩, -⟩ := h; exact m1.t
  have i0 : 0 ≤ 6 * (c : Int) ∧ 6 * (c : Int) + 6 ≤ L := by omega
  have X := sc.2.2
  have d0 := scr_c (j := 0) sc i0 (by decide) hL
  rw [Int.add_zero] at d0
  have d1 := scr_c (j := 1) sc i0 (by decide) hL
  have d2 := scr_c (j := 2) sc i0 (by decide) hL
  have d3 := scr_c (j := 3) sc i0 (by decide) hL
  have d4 := scr_c (j := 4) sc i0 (by decide) hL
  have d5 := scr_c (j := 5) sc i0 (by decide) hL
  unfold b_Law_law_18
  rw [if_pos (show 20 ≤ sT s 1000001 by rw [sc.1]; decide), sc.2.1, nI_v, show v (L : Int) - nI 6 = v ((L : Int) - 6) from v_sub (L : Int) 6, if_neg (nlt (by omega)), if_pos (show sT s 1000001 = 30 ∧ inA (v (6 * (c : Int))) L from ⟨sc.1, by have := d0.2; rw [sc.2.1] at this; exact this⟩)]
  have e6 : v (6 * (c : Int)) + nI 6 = v (6 * ((c + 1 : Nat) : Int)) := by rw [nv6, v_add, show 6 * (c : Int) + 6 = 6 * ((c + 1 : Nat) : Int) by omega]
  rw [e6, X]
  rw [show v (6 * (c : Int)) + nI 1 = v (6 * (c : Int) + 1) from v_add (6 * (c : Int)) 1]
  rw [show v (6 * (c : Int)) + nI 2 = v (6 * (c : Int) + 2) from v_add (6 * (c : Int)) 2]
  rw [show v (6 * (c : Int)) + nI 3 = v (6 * (c : Int) + 3) from v_add (6 * (c : Int)) 3]
  rw [show v (6 * (c : Int)) + nI 4 = v (6 * (c : Int) + 4) from v_add (6 * (c : Int)) 4]
  rw [show v (6 * (c : Int)) + nI 5 = v (6 * (c : Int) + 5) from v_add (6 * (c : Int)) 5]
  generalize xs (v (6 * (c : Int))).toNatClampNeg &&& nI 63 = op
  by_cases c0 : op = nI 0
  · rw [if_pos c0]
    have f1 : sT s 1000001 = 30 ∧ inA (v (6 * (c : Int) + 1)) L := by have := d1; rw [sc.2.1] at this; exact this
    have f2 : sT s 1000001 = 30 ∧ inA (v (6 * (c : Int) + 2)) L := by have := d2; rw [sc.2.1] at this; exact this
    obtain ⟨a, s1, s2, e1, e2, ⟨sc1, m1⟩, hB⟩ := st_terms (x1 := xs (v (6 * (c : Int) + 1)).toNatClampNeg) (x2 := xs (v (6 * (c : Int) + 2)).toNatClampNeg) h hn
    have e2' : f_M_terms s1 78 (xs (v (6 * (c : Int) + 1)).toNatClampNeg) (xs (v (6 * (c : Int) + 2)).toNatClampNeg) = some (a, s2) := e2
    have g1 := scr_c (j := 1) sc1 i0 (by decide) hL
    have g2 := scr_c (j := 2) sc1 i0 (by decide) hL
    exact ⟨s2, by rw [if_pos f1, if_pos f2, if_pos o1, e1, Option.bind_some, if_pos g1, if_pos g2, if_pos m1, sc1.2.2, e2', Option.bind_some, if_pos rfl], hB⟩
  rw [if_neg c0]
  by_cases c1 : op = nI 1
  · rw [if_pos c1]
    have f1 : sT s 1000001 = 30 ∧ inA (v (6 * (c : Int) + 1)) L := by have := d1; rw [sc.2.1] at this; exact this
    have f2 : sT s 1000001 = 30 ∧ inA (v (6 * (c : Int) + 2)) L := by have := d2; rw [sc.2.1] at this; exact this
    have f3 : sT s 1000001 = 30 ∧ inA (v (6 * (c : Int) + 3)) L := by have := d3; rw [sc.2.1] at this; exact this
    have f4 : sT s 1000001 = 30 ∧ inA (v (6 * (c : Int) + 4)) L := by have := d4; rw [sc.2.1] at this; exact this
    have f5 : sT s 1000001 = 30 ∧ inA (v (6 * (c : Int) + 5)) L := by have := d5; rw [sc.2.1] at this; exact this
    obtain ⟨a, s1, s2, e1, e2, ⟨sc1, m1⟩, hB⟩ := st_feed (x1 := xs (v (6 * (c : Int) + 1)).toNatClampNeg) (x2 := xs (v (6 * (c : Int) + 2)).toNatClampNeg) (x3 := xs (v (6 * (c : Int) + 3)).toNatClampNeg) (x4 := xs (v (6 * (c : Int) + 4)).toNatClampNeg) (x5 := xs (v (6 * (c : Int) + 5)).toNatClampNeg) h hn
    have e2' : f_M_feed s1 78 (xs (v (6 * (c : Int) + 1)).toNatClampNeg) (xs (v (6 * (c : Int) + 2)).toNatClampNeg) (xs (v (6 * (c : Int) + 3)).toNatClampNeg) (xs (v (6 * (c : Int) + 4)).toNatClampNeg) (xs (v (6 * (c : Int) + 5)).toNatClampNeg) = some (a, s2) := e2
    have g1 := scr_c (j := 1) sc1 i0 (by decide) hL
    have g2 := scr_c (j := 2) sc1 i0 (by decide) hL
    have g3 := scr_c (j := 3) sc1 i0 (by decide) hL
    have g4 := scr_c (j := 4) sc1 i0 (by decide) hL
    have g5 := scr_c (j := 5) sc1 i0 (by decide) hL
    exact ⟨s2, by rw [if_pos f1, if_pos f2, if_pos f3, if_pos f4, if_pos f5, if_pos o1, e1, Option.bind_some, if_pos g1, if_pos g2, if_pos g3, if_pos g4, if_pos g5, if_pos m1, sc1.2.2, e2', Option.bind_some, if_pos rfl], hB⟩
  rw [if_neg c1]
  by_cases c2 : op = nI 2
  · rw [if_pos c2]
    have f1 : sT s 1000001 = 30 ∧ inA (v (6 * (c : Int) + 1)) L := by have := d1; rw [sc.2.1] at this; exact this
    obtain ⟨a, s1, s2, e1, e2, ⟨sc1, m1⟩, hB⟩ := st_end (x1 := xs (v (6 * (c : Int) + 1)).toNatClampNeg) h hn
    have e2' : f_M_end s1 78 (xs (v (6 * (c : Int) + 1)).toNatClampNeg) = some (a, s2) := e2
    have g1 := scr_c (j := 1) sc1 i0 (by decide) hL
    exact ⟨s2, by rw [if_pos f1, if_pos o1, e1, Option.bind_some, if_pos g1, if_pos m1, sc1.2.2, e2', Option.bind_some, if_pos rfl], hB⟩
  rw [if_neg c2]
  by_cases c3 : op = nI 3
  · rw [if_pos c3]
    obtain ⟨a, s1, s2, e1, e2, ⟨sc1, m1⟩, hB⟩ := st_law h hn
    have e2' : f_M_law s1 78 = some (a, s2) := e2
    exact ⟨s2, by rw [if_pos o1, e1, Option.bind_some, if_pos m1, e2', Option.bind_some, if_pos rfl], hB⟩
  rw [if_neg c3]
  by_cases c4 : op = nI 4
  · rw [if_pos c4]
    obtain ⟨a, s1, s2, e1, e2, ⟨sc1, m1⟩, hB⟩ := st_orders h hn
    have e2' : f_M_orders s1 78 = some (a, s2) := e2
    exact ⟨s2, by rw [if_pos o1, e1, Option.bind_some, if_pos m1, e2', Option.bind_some, if_pos rfl], hB⟩
  rw [if_neg c4]
  by_cases c5 : op = nI 5
  · rw [if_pos c5]
    obtain ⟨a, s2, e1, e2, hB⟩ := st_fault h hn
    exact ⟨s2, by rw [if_pos o1, e1, Option.bind_some, if_pos m0, e2, Option.bind_some, if_pos rfl], hB⟩
  rw [if_neg c5]
  by_cases c6 : op = nI 6
  · rw [if_pos c6]
    obtain ⟨a, s2, e1, e2, hB⟩ := st_stopped h hn
    exact ⟨s2, by rw [if_pos o1, e1, Option.bind_some, if_pos m0, e2, Option.bind_some, if_pos rfl], hB⟩
  rw [if_neg c6]
  by_cases c7 : op = nI 7
  · rw [if_pos c7]
    have f1 : sT s 1000001 = 30 ∧ inA (v (6 * (c : Int) + 1)) L := by have := d1; rw [sc.2.1] at this; exact this
    obtain ⟨a, s1, s2, e1, e2, ⟨sc1, m1⟩, hB⟩ := st_force (x1 := xs (v (6 * (c : Int) + 1)).toNatClampNeg) h hn
    have e2' : f_M_force s1 78 (xs (v (6 * (c : Int) + 1)).toNatClampNeg) = some (a, s2) := e2
    have g1 := scr_c (j := 1) sc1 i0 (by decide) hL
    exact ⟨s2, by rw [if_pos f1, if_pos o1, e1, Option.bind_some, if_pos g1, if_pos m1, sc1.2.2, e2', Option.bind_some, if_pos rfl], hB⟩
  rw [if_neg c7]
  by_cases c8 : op = nI 8
  · rw [if_pos c8]
    obtain ⟨a, s1, s2, e1, e2, ⟨sc1, m1⟩, hB⟩ := st_put h hn
    have e2' : f_M_put s1 78 = some (a, s2) := e2
    exact ⟨s2, by rw [if_pos o1, e1, Option.bind_some, if_pos m1, e2', Option.bind_some, if_pos rfl], hB⟩
  rw [if_neg c8]
  by_cases c9 : op = nI 9
  · rw [if_pos c9]
    have f1 : sT s 1000001 = 30 ∧ inA (v (6 * (c : Int) + 1)) L := by have := d1; rw [sc.2.1] at this; exact this
    obtain ⟨a, s1, s2, e1, e2, ⟨sc1, m1⟩, hB⟩ := st_rewrite (x1 := xs (v (6 * (c : Int) + 1)).toNatClampNeg) h hn
    have e2' : f_M_rewrite s1 78 (xs (v (6 * (c : Int) + 1)).toNatClampNeg) = some (a, s2) := e2
    have g1 := scr_c (j := 1) sc1 i0 (by decide) hL
    exact ⟨s2, by rw [if_pos f1, if_pos o1, e1, Option.bind_some, if_pos g1, if_pos m1, sc1.2.2, e2', Option.bind_some, if_pos rfl], hB⟩
  rw [if_neg c9]
  by_cases c10 : op = nI 10
  · rw [if_pos c10]
    have f1 : sT s 1000001 = 30 ∧ inA (v (6 * (c : Int) + 1)) L := by have := d1; rw [sc.2.1] at this; exact this
    obtain ⟨a, s1, s2, e1, e2, ⟨sc1, m1⟩, hB⟩ := st_drop (x1 := xs (v (6 * (c : Int) + 1)).toNatClampNeg) h hn
    have e2' : f_M_drop s1 78 (xs (v (6 * (c : Int) + 1)).toNatClampNeg) = some (a, s2) := e2
    have g1 := scr_c (j := 1) sc1 i0 (by decide) hL
    exact ⟨s2, by rw [if_pos f1, if_pos o1, e1, Option.bind_some, if_pos g1, if_pos m1, sc1.2.2, e2', Option.bind_some, if_pos rfl], hB⟩
  rw [if_neg c10]
  by_cases c11 : op = nI 11
  · rw [if_pos c11]
    have f1 : sT s 1000001 = 30 ∧ inA (v (6 * (c : Int) + 1)) L := by have := d1; rw [sc.2.1] at this; exact this
    obtain ⟨a, s1, s2, e1, e2, ⟨sc1, m1⟩, hB⟩ := st_pack (x1 := xs (v (6 * (c : Int) + 1)).toNatClampNeg) h hn
    have e2' : f_M_pack s1 78 (xs (v (6 * (c : Int) + 1)).toNatClampNeg) = some (a, s2) := e2
    have g1 := scr_c (j := 1) sc1 i0 (by decide) hL
    exact ⟨s2, by rw [if_pos f1, if_pos o1, e1, Option.bind_some, if_pos g1, if_pos m1, sc1.2.2, e2', Option.bind_some, if_pos rfl], hB⟩
  rw [if_neg c11]
  by_cases c12 : op = nI 12
  · rw [if_pos c12]
    obtain ⟨a, s1, s2, e1, e2, ⟨sc1, m1⟩, hB⟩ := st_mend h hn
    have e2' : f_M_mend s1 78 = some (a, s2) := e2
    exact ⟨s2, by rw [if_pos o1, e1, Option.bind_some, if_pos m1, e2', Option.bind_some, if_pos rfl], hB⟩
  rw [if_neg c12]
  by_cases c13 : op = nI 13
  · rw [if_pos c13]
    obtain ⟨a, s1, s2, e1, e2, ⟨sc1, m1⟩, hB⟩ := st_undo h hn
    have e2' : f_M_undo s1 78 = some (a, s2) := e2
    exact ⟨s2, by rw [if_pos o1, e1, Option.bind_some, if_pos m1, e2', Option.bind_some, if_pos rfl], hB⟩
  rw [if_neg c13]
  by_cases c14 : op = nI 14
  · rw [if_pos c14]
    have f1 : sT s 1000001 = 30 ∧ inA (v (6 * (c : Int) + 1)) L := by have := d1; rw [sc.2.1] at this; exact this
    obtain ⟨a, s1, s2, e1, e2, ⟨sc1, m1⟩, hB⟩ := st_view (x1 := xs (v (6 * (c : Int) + 1)).toNatClampNeg) h hn
    have e2' : f_M_view s1 78 (xs (v (6 * (c : Int) + 1)).toNatClampNeg) = some (a, s2) := e2
    have g1 := scr_c (j := 1) sc1 i0 (by decide) hL
    exact ⟨s2, by rw [if_pos f1, if_pos o1, e1, Option.bind_some, if_pos g1, if_pos m1, sc1.2.2, e2', Option.bind_some, if_pos rfl], hB⟩
  rw [if_neg c14]
  by_cases c15 : op = nI 15
  · rw [if_pos c15]
    have f1 : sT s 1000001 = 30 ∧ inA (v (6 * (c : Int) + 1)) L := by have := d1; rw [sc.2.1] at this; exact this
    obtain ⟨a, s2, e1, e2, hB⟩ := st_sign (x1 := xs (v (6 * (c : Int) + 1)).toNatClampNeg) h hn
    exact ⟨s2, by rw [if_pos f1, if_pos o1, e1, Option.bind_some, if_pos m0, e2, Option.bind_some, if_pos rfl], hB⟩
  rw [if_neg c15]
  by_cases c16 : op = nI 16
  · rw [if_pos c16]
    have f1 : sT s 1000001 = 30 ∧ inA (v (6 * (c : Int) + 1)) L := by have := d1; rw [sc.2.1] at this; exact this
    have f2 : sT s 1000001 = 30 ∧ inA (v (6 * (c : Int) + 2)) L := by have := d2; rw [sc.2.1] at this; exact this
    obtain ⟨a, s2, e1, e2, hB⟩ := st_page (x1 := xs (v (6 * (c : Int) + 1)).toNatClampNeg) (x2 := xs (v (6 * (c : Int) + 2)).toNatClampNeg) h hn
    exact ⟨s2, by rw [if_pos f1, if_pos f2, if_pos o1, e1, Option.bind_some, if_pos m0, e2, Option.bind_some, if_pos rfl], hB⟩
  rw [if_neg c16]
  by_cases c17 : op = nI 17
  · rw [if_pos c17]
    have f1 : sT s 1000001 = 30 ∧ inA (v (6 * (c : Int) + 1)) L := by have := d1; rw [sc.2.1] at this; exact this
    have f2 : sT s 1000001 = 30 ∧ inA (v (6 * (c : Int) + 2)) L := by have := d2; rw [sc.2.1] at this; exact this
    have f3 : sT s 1000001 = 30 ∧ inA (v (6 * (c : Int) + 3)) L := by have := d3; rw [sc.2.1] at this; exact this
    obtain ⟨a, s2, e1, e2, hB⟩ := st_slot (x1 := xs (v (6 * (c : Int) + 1)).toNatClampNeg) (x2 := xs (v (6 * (c : Int) + 2)).toNatClampNeg) (x3 := xs (v (6 * (c : Int) + 3)).toNatClampNeg) h hn
    exact ⟨s2, by rw [if_pos f1, if_pos f2, if_pos f3, if_pos o1, e1, Option.bind_some, if_pos m0, e2, Option.bind_some, if_pos rfl], hB⟩
  rw [if_neg c17]
  by_cases c18 : op = nI 18
  · rw [if_pos c18]
    have f1 : sT s 1000001 = 30 ∧ inA (v (6 * (c : Int) + 1)) L := by have := d1; rw [sc.2.1] at this; exact this
    obtain ⟨a, s2, e1, e2, hB⟩ := st_map (x1 := xs (v (6 * (c : Int) + 1)).toNatClampNeg) h hn
    exact ⟨s2, by rw [if_pos f1, if_pos o1, e1, Option.bind_some, if_pos m0, e2, Option.bind_some, if_pos rfl], hB⟩
  rw [if_neg c18]
  by_cases c19 : op = nI 19
  · rw [if_pos c19]
    have f1 : sT s 1000001 = 30 ∧ inA (v (6 * (c : Int) + 1)) L := by have := d1; rw [sc.2.1] at this; exact this
    obtain ⟨a, s1, s2, e1, e2, ⟨sc1, m1⟩, hB⟩ := st_search (x1 := xs (v (6 * (c : Int) + 1)).toNatClampNeg) h hn
    have e2' : f_M_search s1 78 (xs (v (6 * (c : Int) + 1)).toNatClampNeg) = some (a, s2) := e2
    have g1 := scr_c (j := 1) sc1 i0 (by decide) hL
    exact ⟨s2, by rw [if_pos f1, if_pos o1, e1, Option.bind_some, if_pos g1, if_pos m1, sc1.2.2, e2', Option.bind_some, if_pos rfl], hB⟩
  rw [if_neg c19]
  by_cases c20 : op = nI 20
  · rw [if_pos c20]
    have f1 : sT s 1000001 = 30 ∧ inA (v (6 * (c : Int) + 1)) L := by have := d1; rw [sc.2.1] at this; exact this
    obtain ⟨a, s2, e1, e2, hB⟩ := st_scan (x1 := xs (v (6 * (c : Int) + 1)).toNatClampNeg) h hn
    exact ⟨s2, by rw [if_pos f1, if_pos o1, e1, Option.bind_some, if_pos m0, e2, Option.bind_some, if_pos rfl], hB⟩
  rw [if_neg c20]
  by_cases c21 : op = nI 21
  · rw [if_pos c21]
    have f1 : sT s 1000001 = 30 ∧ inA (v (6 * (c : Int) + 1)) L := by have := d1; rw [sc.2.1] at this; exact this
    obtain ⟨a, s2, e1, e2, hB⟩ := st_above (x1 := xs (v (6 * (c : Int) + 1)).toNatClampNeg) h hn
    exact ⟨s2, by rw [if_pos f1, if_pos o1, e1, Option.bind_some, if_pos m0, e2, Option.bind_some, if_pos rfl], hB⟩
  rw [if_neg c21]
  by_cases c22 : op = nI 22
  · rw [if_pos c22]
    have f1 : sT s 1000001 = 30 ∧ inA (v (6 * (c : Int) + 1)) L := by have := d1; rw [sc.2.1] at this; exact this
    have f2 : sT s 1000001 = 30 ∧ inA (v (6 * (c : Int) + 2)) L := by have := d2; rw [sc.2.1] at this; exact this
    obtain ⟨a, s2, e1, e2, hB⟩ := st_pieces (x1 := xs (v (6 * (c : Int) + 1)).toNatClampNeg) (x2 := xs (v (6 * (c : Int) + 2)).toNatClampNeg) h hn
    exact ⟨s2, by rw [if_pos f1, if_pos f2, if_pos o1, e1, Option.bind_some, if_pos m0, e2, Option.bind_some, if_pos rfl], hB⟩
  rw [if_neg c22]
  by_cases c23 : op = nI 23
  · rw [if_pos c23]
    have f1 : sT s 1000001 = 30 ∧ inA (v (6 * (c : Int) + 1)) L := by have := d1; rw [sc.2.1] at this; exact this
    obtain ⟨a, s2, e1, e2, hB⟩ := st_sorted (x1 := xs (v (6 * (c : Int) + 1)).toNatClampNeg) h hn
    exact ⟨s2, by rw [if_pos f1, if_pos o1, e1, Option.bind_some, if_pos m0, e2, Option.bind_some, if_pos rfl], hB⟩
  rw [if_neg c23]
  by_cases c24 : op = nI 24
  · rw [if_pos c24]
    obtain ⟨a, s1, s2, e1, e2, ⟨sc1, m1⟩, hB⟩ := st_find h hn
    have e2' : f_M_find s1 78 = some (a, s2) := e2
    exact ⟨s2, by rw [if_pos o1, e1, Option.bind_some, if_pos m1, e2', Option.bind_some, if_pos rfl], hB⟩
  rw [if_neg c24]
  by_cases c25 : op = nI 25
  · rw [if_pos c25]
    have f1 : sT s 1000001 = 30 ∧ inA (v (6 * (c : Int) + 1)) L := by have := d1; rw [sc.2.1] at this; exact this
    obtain ⟨a, s1, s2, e1, e2, ⟨sc1, m1⟩, hB⟩ := st_fit (x1 := xs (v (6 * (c : Int) + 1)).toNatClampNeg) h hn
    have e2' : f_M_fit s1 78 (xs (v (6 * (c : Int) + 1)).toNatClampNeg) = some (a, s2) := e2
    have g1 := scr_c (j := 1) sc1 i0 (by decide) hL
    exact ⟨s2, by rw [if_pos f1, if_pos o1, e1, Option.bind_some, if_pos g1, if_pos m1, sc1.2.2, e2', Option.bind_some, if_pos rfl], hB⟩
  rw [if_neg c25]
  by_cases c26 : op = nI 26
  · rw [if_pos c26]
    have f1 : sT s 1000001 = 30 ∧ inA (v (6 * (c : Int) + 1)) L := by have := d1; rw [sc.2.1] at this; exact this
    obtain ⟨a, s2, e1, e2, hB⟩ := st_worst (x1 := xs (v (6 * (c : Int) + 1)).toNatClampNeg) h hn
    exact ⟨s2, by rw [if_pos f1, if_pos o1, e1, Option.bind_some, if_pos m0, e2, Option.bind_some, if_pos rfl], hB⟩
  rw [if_neg c26]
  by_cases c27 : op = nI 27
  · rw [if_pos c27]
    have f1 : sT s 1000001 = 30 ∧ inA (v (6 * (c : Int) + 1)) L := by have := d1; rw [sc.2.1] at this; exact this
    have f2 : sT s 1000001 = 30 ∧ inA (v (6 * (c : Int) + 2)) L := by have := d2; rw [sc.2.1] at this; exact this
    obtain ⟨a, s1, s2, e1, e2, ⟨sc1, m1⟩, hB⟩ := st_few (x1 := xs (v (6 * (c : Int) + 1)).toNatClampNeg) (x2 := xs (v (6 * (c : Int) + 2)).toNatClampNeg) h hn
    have e2' : f_M_few s1 78 (xs (v (6 * (c : Int) + 1)).toNatClampNeg) (xs (v (6 * (c : Int) + 2)).toNatClampNeg) = some (a, s2) := e2
    have g1 := scr_c (j := 1) sc1 i0 (by decide) hL
    have g2 := scr_c (j := 2) sc1 i0 (by decide) hL
    exact ⟨s2, by rw [if_pos f1, if_pos f2, if_pos o1, e1, Option.bind_some, if_pos g1, if_pos g2, if_pos m1, sc1.2.2, e2', Option.bind_some, if_pos (show lg_cmp a a = nI 0 from (lg_cmp_eq a a).mpr rfl)], hB⟩
  rw [if_neg c27]
  by_cases c28 : op = nI 28
  · rw [if_pos c28]
    have f1 : sT s 1000001 = 30 ∧ inA (v (6 * (c : Int) + 1)) L := by have := d1; rw [sc.2.1] at this; exact this
    have f2 : sT s 1000001 = 30 ∧ inA (v (6 * (c : Int) + 2)) L := by have := d2; rw [sc.2.1] at this; exact this
    obtain ⟨a, s1, s2, e1, e2, ⟨sc1, m1⟩, hB⟩ := st_compare (x1 := xs (v (6 * (c : Int) + 1)).toNatClampNeg) (x2 := xs (v (6 * (c : Int) + 2)).toNatClampNeg) h hn
    have e2' : f_M_compare s1 78 (xs (v (6 * (c : Int) + 1)).toNatClampNeg) (xs (v (6 * (c : Int) + 2)).toNatClampNeg) = some (a, s2) := e2
    have g1 := scr_c (j := 1) sc1 i0 (by decide) hL
    have g2 := scr_c (j := 2) sc1 i0 (by decide) hL
    exact ⟨s2, by rw [if_pos f1, if_pos f2, if_pos o1, e1, Option.bind_some, if_pos g1, if_pos g2, if_pos m1, sc1.2.2, e2', Option.bind_some, if_pos rfl], hB⟩
  rw [if_neg c28]
  by_cases c29 : op = nI 29
  · rw [if_pos c29]
    have f1 : sT s 1000001 = 30 ∧ inA (v (6 * (c : Int) + 1)) L := by have := d1; rw [sc.2.1] at this; exact this
    have f2 : sT s 1000001 = 30 ∧ inA (v (6 * (c : Int) + 2)) L := by have := d2; rw [sc.2.1] at this; exact this
    obtain ⟨a, s1, s2, e1, e2, ⟨sc1, m1⟩, hB⟩ := st_days (x1 := xs (v (6 * (c : Int) + 1)).toNatClampNeg) (x2 := xs (v (6 * (c : Int) + 2)).toNatClampNeg) h hn
    have e2' : f_M_days s1 78 (xs (v (6 * (c : Int) + 1)).toNatClampNeg) (xs (v (6 * (c : Int) + 2)).toNatClampNeg) = some (a, s2) := e2
    have g1 := scr_c (j := 1) sc1 i0 (by decide) hL
    have g2 := scr_c (j := 2) sc1 i0 (by decide) hL
    exact ⟨s2, by rw [if_pos f1, if_pos f2, if_pos o1, e1, Option.bind_some, if_pos g1, if_pos g2, if_pos m1, sc1.2.2, e2', Option.bind_some, if_pos rfl], hB⟩
  rw [if_neg c29]
  by_cases c30 : op = nI 30
  · rw [if_pos c30]
    have f1 : sT s 1000001 = 30 ∧ inA (v (6 * (c : Int) + 1)) L := by have := d1; rw [sc.2.1] at this; exact this
    have f2 : sT s 1000001 = 30 ∧ inA (v (6 * (c : Int) + 2)) L := by have := d2; rw [sc.2.1] at this; exact this
    obtain ⟨a, s2, e1, e2, hB⟩ := st_drawn (x1 := xs (v (6 * (c : Int) + 1)).toNatClampNeg) (x2 := xs (v (6 * (c : Int) + 2)).toNatClampNeg) h hn
    exact ⟨s2, by rw [if_pos f1, if_pos f2, if_pos o1, e1, Option.bind_some, if_pos m0, e2, Option.bind_some, if_pos rfl], hB⟩
  rw [if_neg c30]
  by_cases c31 : op = nI 31
  · rw [if_pos c31]
    have f1 : sT s 1000001 = 30 ∧ inA (v (6 * (c : Int) + 1)) L := by have := d1; rw [sc.2.1] at this; exact this
    obtain ⟨a, s1, s2, e1, e2, ⟨sc1, m1⟩, hB⟩ := st_image (x1 := xs (v (6 * (c : Int) + 1)).toNatClampNeg) h hn
    have e2' : f_M_image s1 78 (xs (v (6 * (c : Int) + 1)).toNatClampNeg) = some (a, s2) := e2
    have g1 := scr_c (j := 1) sc1 i0 (by decide) hL
    exact ⟨s2, by rw [if_pos f1, if_pos o1, e1, Option.bind_some, if_pos g1, if_pos m1, sc1.2.2, e2', Option.bind_some, if_pos rfl], hB⟩
  rw [if_neg c31]
  by_cases c32 : op = nI 32
  · rw [if_pos c32]
    have f1 : sT s 1000001 = 30 ∧ inA (v (6 * (c : Int) + 1)) L := by have := d1; rw [sc.2.1] at this; exact this
    obtain ⟨a, s1, s2, e1, e2, ⟨sc1, m1⟩, hB⟩ := st_back (x1 := xs (v (6 * (c : Int) + 1)).toNatClampNeg) h hn
    have e2' : f_M_back s1 78 (xs (v (6 * (c : Int) + 1)).toNatClampNeg) = some (a, s2) := e2
    have g1 := scr_c (j := 1) sc1 i0 (by decide) hL
    exact ⟨s2, by rw [if_pos f1, if_pos o1, e1, Option.bind_some, if_pos g1, if_pos m1, sc1.2.2, e2', Option.bind_some, if_pos rfl], hB⟩
  rw [if_neg c32]
  by_cases c33 : op = nI 33
  · rw [if_pos c33]
    have f1 : sT s 1000001 = 30 ∧ inA (v (6 * (c : Int) + 1)) L := by have := d1; rw [sc.2.1] at this; exact this
    obtain ⟨a, s2, e1, e2, hB⟩ := st_count (x1 := xs (v (6 * (c : Int) + 1)).toNatClampNeg) h hn
    exact ⟨s2, by rw [if_pos f1, if_pos o1, e1, Option.bind_some, if_pos m0, e2, Option.bind_some, if_pos rfl], hB⟩
  rw [if_neg c33]
  by_cases c34 : op = nI 34
  · rw [if_pos c34]
    obtain ⟨a, s2, e1, e2, hB⟩ := st_status h hn
    exact ⟨s2, by rw [if_pos o1, e1, Option.bind_some, if_pos m0, e2, Option.bind_some, if_pos rfl], hB⟩
  rw [if_neg c34]
  exact ⟨s, rfl, by obtain ⟨⟨D, tp, se, P, LG, IM, ms, vw, dr, A, h1, h2⟩, h3⟩ := h; exact ⟨⟨D, tp, se, P, LG, IM, ms, vw, dr, A, h1.mo (by omega), h2⟩, h3⟩⟩
theorem law_loop (hL : L ≤ 3072) : ∀ (K N c : Nat) (s : AS), K < N → L < 6 * c + 6 * K + 6 → c + K ≤ 600 → Bth L xs s c → ∃ o, l_Law_law_18 N 1000001 1 78 (v (6 * (c : Int))) s = some (nI 1, o) ∧ sX o ≤ 600001 ∧ sZ o ≤ 7302250 := by
  have stop : ∀ (N c : Nat) (s : AS), L < 6 * c + 6 → c ≤ 600 → Bth L xs s c → ∃ o, b_Law_law_18 (l_Law_law_18 N) 1000001 1 78 (v (6 * (c : Int))) s = some (nI 1, o) ∧ sX o ≤ 600001 ∧ sZ o ≤ 7302250 := by
    intro N c s hl hc h
    have sc := h.2.2
    obtain ⟨⟨D, tp, se, P, LG, IM, ms, vw, dr, A, h1, -⟩, -⟩ := h
    have hx := h1.sx
    have hz : sZ s ≤ 7302250 := by
      obtain ⟨h1, h2, h3, h4, h5, h6, h7, h8, h9⟩ := h1.dy
      omega
    refine ⟨s, ?_, by omega, hz⟩
    unfold b_Law_law_18
    rw [if_pos (show 20 ≤ sT s 1000001 by rw [sc.1]; decide), sc.2.1, nI_v, show v (L : Int) - nI 6 = v ((L : Int) - 6) from v_sub (L : Int) 6, if_pos (plt (by omega))]
  intro K
  induction K with
  | zero =>
    intro N c s hN hl hc h
    obtain ⟨N, rfl⟩ : ∃ m, N = m + 1 := ⟨N - 1, by omega⟩
    exact stop N c s (by omega) (by omega) h
  | succ K ih =>
    intro N c s hN hl hc h
    obtain ⟨N, rfl⟩ : ∃ m, N = m + 1 := ⟨N - 1, by omega⟩
    by_cases e : L < 6 * c + 6
    · exact stop N c s e (by omega) h
    · obtain ⟨s2, q1, q2⟩ := law_step (K := l_Law_law_18 N) h (by omega) (by omega) hL
      obtain ⟨o, r1, r2⟩ := ih N (c + 1) s2 (by omega) (by omega) (by omega) q2
      refine ⟨o, ?_, r2⟩
      show b_Law_law_18 (l_Law_law_18 N) 1000001 1 78 (v (6 * (c : Int))) s = _
      rw [q1]
      exact r1
end LST
