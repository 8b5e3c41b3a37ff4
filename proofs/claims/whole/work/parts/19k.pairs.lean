/-! PAIRS: end, feed -/
def endZ (tp : (Int → Int) × Int) (x : Int) : Int × ((Int → Int) × Int) := if x < 0 then (-1, tp) else if tp.2 < x then (-1, tp) else (x, (tp.1, x))
def byt (y : Int32) (sh : Int) : Int := ((y >>> (v sh &&& 31)) &&& (nI 255)).toInt
def fd4 (tp : (Int → Int) × Int) (y : Int32) : (Int → Int) × Int := (bu (bu (bu (bu tp.1 tp.2 (byt y 24)) (tp.2 + 1) (byt y 16)) (tp.2 + 1 + 1) (byt y 8)) (tp.2 + 1 + 1 + 1) (byt y 0), tp.2 + 1 + 1 + 1 + 1)
def fd20 (tp : (Int → Int) × Int) (a b c d e : Int32) : (Int → Int) × Int := fd4 (fd4 (fd4 (fd4 (fd4 tp a) b) c) d) e
def fedZ (tp : (Int → Int) × Int) (a b c d e : Int32) : Int × ((Int → Int) × Int) := if 380 < tp.2 then (-1, tp) else (tp.2 + 20, fd20 tp a b c d e)
theorem v_byt (y : Int32) (sh : Int) : ((y >>> (v sh &&& 31)) &&& (nI 255)) = v (byt y sh) := (Int32.ofInt_toInt _).symm
theorem byt_r (y : Int32) (sh : Int) : 0 ≤ byt y sh ∧ byt y sh ≤ 255 := by
  unfold byt
  generalize (y >>> (v sh &&& 31)) = x
  have h : inMk (x &&& (nI 255)) := by
    unfold inMk
    rw [Int32.toBitVec_and, BitVec.toNat_and]
    exact Nat.lt_of_le_of_lt Nat.and_le_right (show (nI 255).toBitVec.toNat < 256 by decide)
  have e := inMk_v h
  have h' : (x &&& (nI 255)).toBitVec.toNat < 256 := h
  rw [e, v_toInt (by omega)]
  omega
theorem bu_in {B : Int → Int} {z x : Int} {a b : Int} (h : ∀ y, a ≤ B y ∧ B y ≤ b) (hx : a ≤ x ∧ x ≤ b) : ∀ y, a ≤ bu B z x y ∧ bu B z x y ≤ b := by
  intro y
  unfold bu
  split
  · exact hx
  · exact h y
theorem fd4_B {tp : (Int → Int) × Int} {y : Int32} (h : ∀ z, 0 ≤ tp.1 z ∧ tp.1 z ≤ 255) : ∀ z, 0 ≤ (fd4 tp y).1 z ∧ (fd4 tp y).1 z ≤ 255 :=
  bu_in (bu_in (bu_in (bu_in h (byt_r _ _)) (byt_r _ _)) (byt_r _ _)) (byt_r _ _)
theorem fd4_n (tp : (Int → Int) × Int) (y : Int32) : (fd4 tp y).2 = tp.2 + 4 := by unfold fd4; show tp.2 + 1 + 1 + 1 + 1 = _; omega
theorem fd20_B {tp : (Int → Int) × Int} {a b c d e : Int32} (h : TpB tp) (hn : tp.2 ≤ 380) : TpB (fd20 tp a b c d e) := by
  unfold fd20
  refine ⟨?_, fd4_B (fd4_B (fd4_B (fd4_B (fd4_B h.2))))⟩
  rw [fd4_n, fd4_n, fd4_n, fd4_n, fd4_n]
  have := h.1
  omega
section PGQ
variable {s : AS} {D : DYN} {tp : (Int → Int) × Int} {se : ST1} {P : PG} {LG : LGS} {IM : Nat → IMG} {ms : Int → Int} {vw : (Int → Int) × Int} {dr : DRW} {A : MA} {cn : Nat}
theorem c_end (h : RepD s D tp se P LG IM ms vw dr cn) (hT : TpB tp) {x : Int} (hx : r32 x) : CO s (f_C_end s 1 (v x)) (endZ tp x).1 (endZ tp x).2 se P LG IM ms vw dr cn := by
  obtain ⟨t1, t2, t3, t4⟩ := h.tp2
  have h4 := hT.1
  unfold f_C_end endZ
  rw [nv0, nv1, v_neg]
  by_cases c : x < 0
  · rw [if_pos (plt (by omega)), if_pos c]
    exact CO.rf h
  rw [if_neg (nlt (by omega)), if_pos h.1.1, t1, if_pos t2, t3, if_neg c]
  by_cases c2 : tp.2 < x
  · rw [if_pos (plt (by omega)), if_pos c2]
    exact CO.rf h
  · rw [if_neg (nlt (by omega)), if_neg c2]
    have f1 : Fr (fun q => q = 2 ∨ q = 3) s (setI s 2 1 (v x)) := Fr.si (Or.inl rfl)
    exact ⟨_, D, rfl, h.u_tp (tp' := (tp.1, x)) f1 t4.len0, f1.grM (fun q hq => by omega)⟩
theorem r_end (h : MR s 78 A) (hR : RepA A tp se P LG IM ms vw dr) (hT : TpB tp) {x : Int} (hx : r32 x) : RO s (f_M_end s 78 (v x)) (endZ tp x).1 (endZ tp x).2 se P LG IM ms vw dr := by
  obtain ⟨k1, k2, k3⟩ := r_thr h hR
  have h4 := hT.1
  obtain ⟨p1, p2, p3⟩ := k2.1
  unfold f_M_end endZ
  rw [if_pos h.t, nv0, nv1, v_neg, k1.i12, p1]
  by_cases c : x < 0
  · rw [if_pos (plt (by omega)), if_pos c]
    exact ⟨_, _, rfl, k1, k2, k3⟩
  rw [if_neg (nlt (by omega)), if_neg c]
  by_cases c2 : tp.2 < x
  · rw [if_pos (plt (by omega)), if_pos c2]
    exact ⟨_, _, rfl, k1, k2, k3⟩
  · rw [if_neg (nlt (by omega)), if_neg c2]
    have m1 := k1.s0 (x := x) (k := 12) (z := 12) rfl (by decide)
    refine ⟨_, _, rfl, m1, k2.v_tp (tp' := (tp.1, x)) (AF.pu (Or.inr (Or.inl ⟨rfl, rfl⟩))) ⟨pu_eq _ _ _ _, by omega, fun z z0 z1 => ?_⟩, k3.tr (Fr.si (by omega))⟩
    have z1' : z < x := z1
    rw [pu_row _ _ _ _ (by decide)]
    exact p3 z z0 (by omega)
theorem s_addNum {c : Nat} {y : Int32} {tp : (Int → Int) × Int} (h : RwR s c 400 tp.1 tp.2) (hn : 0 ≤ tp.2 ∧ tp.2 ≤ 396) : ∃ s', f_Row_addNumber s c y = some s' ∧ RwR s' c 400 (fd4 tp y).1 (fd4 tp y).2 ∧ Fr (inR c) s s' := by
  have one : ∀ (n : Nat) (sh : Int) (s : AS) (B : Int → Int) (len : Int), RwR s c 400 B len → 0 ≤ len ∧ len < 400 → 0 ≤ sh ∧ sh ≤ 24 → ∃ s', l_Row_addNumber_3 (n + 1) c y (v sh) s = l_Row_addNumber_3 n c y (v (sh - 8)) s' ∧ RwR s' c 400 (bu B len (byt y sh)) (len + 1) ∧ Fr (inR c) s s' := by
    intro n sh s B len hr hl hs
    obtain ⟨s', q1, q2, q3⟩ := s_radd (x := byt y sh) hr (by omega) (by decide)
    refine ⟨s', ?_, q2, q3⟩
    show b_Row_addNumber_3 _ _ _ _ _ = _
    unfold b_Row_addNumber_3
    rw [v_byt, nv0, nv8, v_neg, if_neg (nlt (by omega)), if_pos hr.1.1, q1, Option.bind_some, v_add]
    rfl
  obtain ⟨s1, a1, b1, c1⟩ := one 999999 24 s tp.1 tp.2 h (by omega) (by decide)
  obtain ⟨s2, a2, b2, c2⟩ := one 999998 16 s1 _ _ b1 (by omega) (by decide)
  obtain ⟨s3, a3, b3, c3⟩ := one 999997 8 s2 _ _ b2 (by omega) (by decide)
  obtain ⟨s4, a4, b4, c4⟩ := one 999996 0 s3 _ _ b3 (by omega) (by decide)
  have e : l_Row_addNumber_3 999996 c y (v (0 - 8)) s4 = some s4 := by
    show b_Row_addNumber_3 (l_Row_addNumber_3 999995) c y (v (0 - 8)) s4 = _
    unfold b_Row_addNumber_3
    rw [nv0, if_pos (plt (by omega))]
  exact ⟨s4, a1.trans (a2.trans (a3.trans (a4.trans e))), b4, ((c1.tr c2).tr c3).tr c4⟩
theorem c_add (h : RepD s D tp se P LG IM ms vw dr cn) (hn : 0 ≤ tp.2 ∧ tp.2 ≤ 396) (y : Int32) : ∃ s', f_Row_addNumber s 2 y = some s' ∧ RepD s' D (fd4 tp y) se P LG IM ms vw dr cn ∧ GrM s s' := by
  obtain ⟨t1, t2, t3, t4⟩ := h.tp2
  obtain ⟨s', q1, q2, q3⟩ := s_addNum (y := y) t4 hn
  have q4 : Fr (fun q => q = 2 ∨ q = 3) s s' := q3.mo (fun q hq => hq)
  exact ⟨s', q1, h.u_tp q4 q2, q4.grM (fun q hq => by omega)⟩
theorem c_feed (h : RepD s D tp se P LG IM ms vw dr cn) (hT : TpB tp) (a b c d e : Int32) : CO s (f_C_feed s 1 a b c d e) (fedZ tp a b c d e).1 (fedZ tp a b c d e).2 se P LG IM ms vw dr cn := by
  obtain ⟨t1, t2, t3, t4⟩ := h.tp2
  have h4 := hT.1
  unfold f_C_feed fedZ
  rw [nv400, nv20, nv1, v_neg, if_pos h.1.1, t1, if_pos t2, t3, v_add]
  by_cases g : 380 < tp.2
  · rw [if_pos (plt (by omega)), if_pos g]
    exact CO.rf h
  rw [if_neg (nlt (by omega)), if_neg g]
  obtain ⟨s1, q1, h1, e1⟩ := c_add h (by omega) a
  obtain ⟨s2, q2, h2, e2⟩ := c_add h1 (by rw [fd4_n]; omega) b
  obtain ⟨s3, q3, h3, e3⟩ := c_add h2 (by rw [fd4_n, fd4_n]; omega) c
  obtain ⟨s4, q4, h4, e4⟩ := c_add h3 (by rw [fd4_n, fd4_n, fd4_n]; omega) d
  obtain ⟨s5, q5, h5, e5⟩ := c_add h4 (by rw [fd4_n, fd4_n, fd4_n, fd4_n]; omega) e
  refine ⟨s5, D, ?_, h5, (((e1.tr e2).tr e3).tr e4).tr e5⟩
  rw [q1, Option.bind_some, if_pos h1.1.1, h1.tp2.1, if_pos h1.tp2.2.1, q2, Option.bind_some, if_pos h2.1.1, h2.tp2.1, if_pos h2.tp2.2.1, q3, Option.bind_some, if_pos h3.1.1, h3.tp2.1, if_pos h3.tp2.2.1, q4, Option.bind_some, if_pos h4.1.1, h4.tp2.1, if_pos h4.tp2.2.1, q5, Option.bind_some, if_pos h5.1.1, h5.tp2.1, if_pos h5.tp2.2.1, h5.tp2.2.2.1]
  rw [fd4_n, fd4_n, fd4_n, fd4_n, fd4_n, show tp.2 + 4 + 4 + 4 + 4 + 4 = tp.2 + 20 by omega]
theorem m_four (h : MR s 78 A) (hR : RepA A tp se P LG IM ms vw dr) (hn : 0 ≤ tp.2 ∧ tp.2 ≤ 396) (y : Int32) : ∃ s' A', f_M_four s 78 y = some s' ∧ MR s' 78 A' ∧ RepA A' (fd4 tp y) se P LG IM ms vw dr ∧ Fr (inM 78) s s' := by
  have one : ∀ (n : Nat) (sh : Int) (s : AS) (A : MA) (tp : (Int → Int) × Int), MR s 78 A → RepA A tp se P LG IM ms vw dr → 0 ≤ tp.2 ∧ tp.2 < 400 → 0 ≤ sh ∧ sh ≤ 24 → ∃ s' A', l_M_four_3 (n + 1) 78 y (v sh) s = l_M_four_3 n 78 y (v (sh - 8)) s' ∧ MR s' 78 A' ∧ RepA A' (bu tp.1 tp.2 (byt y sh), tp.2 + 1) se P LG IM ms vw dr ∧ Fr (inM 78) s s' := by
    intro n sh s A tp hm hr hl hs
    obtain ⟨p1, p2, p3⟩ := hr.1
    have m1 := hm.si (x := byt y sh) 9 (by decide) (by decide) (z := tp.2) ⟨by omega, by show tp.2 < (400 : Int); omega⟩
    have m2 := m1.s0 (x := tp.2 + 1) (k := 12) (z := 12) rfl (by decide)
    have f2 : Fr (inM 78) s (setI (setI s (78 + 9) tp.2.toNat (v (byt y sh))) 78 12 (v (tp.2 + 1))) := (Fr.si (by omega)).tr (Fr.si (by omega))
    refine ⟨_, _, ?_, m2, hr.v_tp (tp' := (bu tp.1 tp.2 (byt y sh), tp.2 + 1)) ((AF.pu (Or.inr (Or.inr rfl))).tr (AF.pu (Or.inr (Or.inl ⟨rfl, rfl⟩)))) ⟨pu_eq _ _ _ _, by omega, fun z z0 z1 => ?_⟩, f2⟩
    · show b_M_four_3 _ _ _ _ _ = _
      unfold b_M_four_3
      rw [v_byt, nv0, nv1, nv8, v_neg, if_neg (nlt (by omega)), if_pos hm.t, hm.r11, hm.t11, hm.n11, hm.i12, p1, if_pos ⟨rfl, v_inA (by omega) (by omega)⟩, show (v tp.2).toNatClampNeg = tp.2.toNat from v_ix (by omega), m1.i12, pu_row _ _ _ _ (by decide), p1, v_add, v_add]
      rfl
    · have z1' : z < tp.2 + 1 := z1
      rw [pu_row _ _ _ _ (by decide)]
      show pu A 9 tp.2 (byt y sh) 9 z = bu tp.1 tp.2 (byt y sh) z ∧ 0 ≤ bu tp.1 tp.2 (byt y sh) z ∧ bu tp.1 tp.2 (byt y sh) z ≤ 255
      by_cases c : z = tp.2
      · rw [c, pu_eq, bu_eq]
        exact ⟨rfl, byt_r _ _⟩
      · rw [pu_ne _ _ _ _ (fun e => c e.2), bu_ne c]
        exact p3 z z0 (by omega)
  obtain ⟨s1, A1, a1, b1, r1, c1⟩ := one 999999 24 s A tp h hR (by omega) (by decide)
  obtain ⟨s2, A2, a2, b2, r2, c2⟩ := one 999998 16 s1 A1 _ b1 r1 (by show 0 ≤ tp.2 + 1 ∧ tp.2 + 1 < 400; omega) (by decide)
  obtain ⟨s3, A3, a3, b3, r3, c3⟩ := one 999997 8 s2 A2 _ b2 r2 (by show 0 ≤ tp.2 + 1 + 1 ∧ tp.2 + 1 + 1 < 400; omega) (by decide)
  obtain ⟨s4, A4, a4, b4, r4, c4⟩ := one 999996 0 s3 A3 _ b3 r3 (by show 0 ≤ tp.2 + 1 + 1 + 1 ∧ tp.2 + 1 + 1 + 1 < 400; omega) (by decide)
  have e : l_M_four_3 999996 78 y (v (0 - 8)) s4 = some s4 := by
    show b_M_four_3 (l_M_four_3 999995) 78 y (v (0 - 8)) s4 = _
    unfold b_M_four_3
    rw [nv0, if_pos (plt (by omega))]
  exact ⟨s4, A4, a1.trans (a2.trans (a3.trans (a4.trans e))), b4, r4, ((c1.tr c2).tr c3).tr c4⟩
theorem r_feed (h : MR s 78 A) (hR : RepA A tp se P LG IM ms vw dr) (hT : TpB tp) (a b c d e : Int32) : RO s (f_M_feed s 78 a b c d e) (fedZ tp a b c d e).1 (fedZ tp a b c d e).2 se P LG IM ms vw dr := by
  obtain ⟨k1, k2, k3⟩ := r_thr h hR
  have h4 := hT.1
  unfold f_M_feed fedZ
  rw [nv400, nv20, nv0, nv1, v_neg, if_pos h.t, k1.i12, k2.1.1, v_add]
  by_cases g : 380 < tp.2
  · rw [if_pos (plt (by omega)), if_pos g]
    exact ⟨_, _, rfl, k1, k2, k3⟩
  rw [if_neg (nlt (by omega)), if_neg g]
  obtain ⟨s1, A1, q1, m1, h1, e1⟩ := m_four k1 k2 (by omega) a
  obtain ⟨s2, A2, q2, m2, h2, e2⟩ := m_four m1 h1 (by rw [fd4_n]; omega) b
  obtain ⟨s3, A3, q3, m3, h3, e3⟩ := m_four m2 h2 (by rw [fd4_n, fd4_n]; omega) c
  obtain ⟨s4, A4, q4, m4, h4, e4⟩ := m_four m3 h3 (by rw [fd4_n, fd4_n, fd4_n]; omega) d
  obtain ⟨s5, A5, q5, m5, h5, e5⟩ := m_four m4 h4 (by rw [fd4_n, fd4_n, fd4_n, fd4_n]; omega) e
  refine ⟨s5, A5, ?_, m5, h5, ((((k3.tr e1).tr e2).tr e3).tr e4).tr e5⟩
  rw [q1, Option.bind_some, if_pos m1.t, q2, Option.bind_some, if_pos m2.t, q3, Option.bind_some, if_pos m3.t, q4, Option.bind_some, if_pos m4.t, q5, Option.bind_some, if_pos m5.t, m5.i12, h5.1.1]
  rw [fd4_n, fd4_n, fd4_n, fd4_n, fd4_n, show tp.2 + 4 + 4 + 4 + 4 + 4 = tp.2 + 20 by omega]
end PGQ
