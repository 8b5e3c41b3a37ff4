/-! PAIRS: days, on the reference -/
section DAYS
variable {s : AS} {tp : (Int → Int) × Int} {se : ST1} {P Q : PG} {LG : LGS} {IM : Nat → IMG} {ms : Int → Int} {vw : (Int → Int) × Int} {dr : DRW} {A : MA} {x : Int}
/-- what days touch -/
abbrev scrD : Nat → Int → Prop := fun j z => scrA j z ∨ (j = 28 ∧ z = 54)
theorem m_daysL (hw : WfT se) {n : Int} (hn : n ≤ 60) {c : Int32} {A0 : MA} : ∀ (k N : Nat) (i x : Int) (s : AS) (A : MA) (Q : PG) (LG : LGS), i + k = n → 0 ≤ i → k < N → PgH Q → MR s 78 A → RepA A tp se Q LG IM ms vw dr → A 28 54 = x → (0 ≤ x ∧ x < 1000003) → AF scrD A0 A → ∃ s' A' LG', l_M_days_116 N 78 (v n) c (v i) s = l_M_days_183 fuel 78 c (v (countP (daysL (lwF se) se.1 k x Q))) (v 0) s' ∧ MR s' 78 A' ∧ RepA A' tp se (daysL (lwF se) se.1 k x Q) LG' IM ms vw dr ∧ AF scrD A0 A' ∧ Fr (inM 78) s s' := by
  intro k
  induction k with
  | zero =>
    intro N i x s A Q LG hi h0 hN hH h hR hs hx ha
    obtain ⟨N, rfl⟩ : ∃ m, N = m + 1 := ⟨N - 1, by omega⟩
    refine ⟨s, A, LG, ?_, h, hR, ha, Fr.rf _ _⟩
    show b_M_days_116 _ _ _ _ _ _ = _
    unfold b_M_days_116
    rw [if_neg (nlt (by omega)), if_pos h.t, m_records h hR.pg hH.1.1.1, Option.bind_some, nv0]
    rfl
  | succ k ih =>
    intro N i x s A Q LG hi h0 hN hH h hR hs hx ha
    obtain ⟨N, rfl⟩ : ∃ m, N = m + 1 := ⟨N - 1, by omega⟩
    have x1 := nxtS_r x
    have x2 := nxtS_r (nxtS x)
    have x3 := nxtS_r (nxtS (nxtS x))
    obtain ⟨t1, d1, m1, f1⟩ := m_draw h hs hx (b := 70) (by decide)
    obtain ⟨t2, d2, m2, f2⟩ := m_draw m1 (pu_eq _ _ _ _) x1 (b := 256) (by decide)
    obtain ⟨t3, d3, m3, f3⟩ := m_draw m2 (pu_eq _ _ _ _) x2 (b := 128) (by decide)
    obtain ⟨t4, d4, m4, f4⟩ := m_draw m3 (pu_eq _ _ _ _) x3 (b := 8) (by decide)
    have k4 : AF (fun j z => j = 28 ∧ z = 54) A (pu (pu (pu (pu A 28 54 (nxtS x)) 28 54 (nxtS (nxtS x))) 28 54 (nxtS (nxtS (nxtS x)))) 28 54 (nxtS (nxtS (nxtS (nxtS x))))) := (((AF.pu ⟨rfl, rfl⟩).tr (AF.pu ⟨rfl, rfl⟩)).tr (AF.pu ⟨rfl, rfl⟩)).tr (AF.pu ⟨rfl, rfl⟩)
    have e4 : (pu (pu (pu (pu A 28 54 (nxtS x)) 28 54 (nxtS (nxtS x))) 28 54 (nxtS (nxtS (nxtS x)))) 28 54 (nxtS (nxtS (nxtS (nxtS x))))) 28 54 = dyX x := pu_eq _ _ _ _
    have h4 := hR.v_s (k4.mo (fun j z hj => by omega))
    generalize (pu (pu (pu (pu A 28 54 (nxtS x)) 28 54 (nxtS (nxtS x))) 28 54 (nxtS (nxtS (nxtS x)))) 28 54 (nxtS (nxtS (nxtS (nxtS x))))) = A4 at *
    obtain ⟨t5, A5, LG5, q1, q2, q3, q4, q5⟩ := m_drawnAct (x := x) m4 h4 hw hH
    obtain ⟨s', A', LG', r1, r2, r3, r4, r5⟩ := ih N (i + 1) (dyX x) t5 A5 _ LG5 (by omega) (by omega) (by omega) (dayP_H hH) q2 q3 (by rw [q4 28 54 (by omega)]; exact e4) (dy_r x).2.2.2.2 ((ha.tr (k4.mo (fun j z hj => Or.inr hj))).tr (q4.mo (fun j z hj => Or.inl hj)))
    refine ⟨s', A', LG', ?_, r2, r3, r4, ((((f1.tr f2).tr f3).tr f4).tr q5).tr r5⟩
    show b_M_days_116 _ _ _ _ _ _ = _
    unfold b_M_days_116
    rw [if_pos (plt (by omega)), if_pos h.t, show nI 70 = v 70 from rfl, d1, Option.bind_some, if_pos m1.t, nv256, d2, Option.bind_some, if_pos m2.t, nv128, d3, Option.bind_some, if_pos m3.t, nv8, d4, Option.bind_some, if_pos m4.t]
    show (f_M_drawnAct t4 78 (v (dyN x)) (v (dyB x)) (v (dyA x)) (v (dyW x))).bind _ = _
    rw [q1, Option.bind_some, nv1, v_add]
    exact r1
theorem m_dy183 (hK : PgK Q) {c d : Int32} {A0 : MA} (hP : PgM (A0 2) Q) : ∀ (k N : Nat) (i : Int) (s : AS) (A : MA), i + k = 8 → 0 ≤ i → k < N → MR s 78 A → AF (fun j _ => j = 27) A0 A → (∀ z, 0 ≤ z → z < 3 * i → A 27 z = keepD Q z) → ∃ s' A', l_M_days_183 N 78 c d (v i) s = ((f_M_giveBack (setI s' 78 56 (v 1)) 78 c).bind fun r4 => if sT r4 78 = 13 then (f_M_tell r4 78 d).bind fun r5 => some (r5.1, r5.2) else none) ∧ MR s' 78 A' ∧ AF (fun j _ => j = 27) A0 A' ∧ (∀ z, 0 ≤ z → z < 24 → A' 27 z = keepD Q z) ∧ Fr (inM 78) s s' := by
  intro k
  induction k with
  | zero =>
    intro N i s A hi h0 hN h ha hz
    obtain ⟨N, rfl⟩ : ∃ m, N = m + 1 := ⟨N - 1, by omega⟩
    refine ⟨s, A, ?_, h, ha, fun z z0 z1 => hz z z0 (by omega), Fr.rf _ _⟩
    show b_M_days_183 _ _ _ _ _ _ = _
    unfold b_M_days_183
    rw [nv8, if_neg (nlt (by omega)), nv1, if_pos (show sT s 78 = 13 ∧ (v 1 = nI 0 ∨ v 1 = v 1) from ⟨h.t, Or.inr rfl⟩), if_pos h.t]
  | succ k ih =>
    intro N i s A hi h0 hN h ha hz
    obtain ⟨N, rfl⟩ : ∃ m, N = m + 1 := ⟨N - 1, by omega⟩
    have e2 : A 2 = A0 2 := funext (fun z => ha 2 z (show ¬ (2 : Nat) = 27 by decide))
    have hPA : PgM (A 2) Q := by rw [e2]; exact hP
    have k1 := h.si 27 (by decide) (by decide) (z := 3 * i) (x := freeP Q i) ⟨by omega, by show 3 * i < (24 : Int); omega⟩
    have k2 := k1.si 27 (by decide) (by decide) (z := 3 * i + 1) (x := Q 4 i) ⟨by omega, by show 3 * i + 1 < (24 : Int); omega⟩
    have k3 := k2.si 27 (by decide) (by decide) (z := 3 * i + 2) (x := cellsP Q i) ⟨by omega, by show 3 * i + 2 < (24 : Int); omega⟩
    have hP2 : PgM (pu (pu A 27 (3 * i) (freeP Q i)) 27 (3 * i + 1) (Q 4 i) 2) Q := by
      rw [pu_f (by decide), pu_f (by decide)]; exact hPA
    obtain ⟨v0, v1, v2⟩ := keepD_v Q i
    obtain ⟨s', A', q1, q2, q3, q4, q5⟩ := ih N (i + 1) _ _ (by omega) (by omega) (by omega) k3 (((ha.tr (AF.pu rfl)).tr (AF.pu rfl)).tr (AF.pu rfl)) (fun z z0 z1 => by
      by_cases c2 : z = 3 * i + 2
      · rw [c2, pu_eq, v2]
      rw [pu_ne _ _ _ _ (fun d => c2 d.2)]
      by_cases c1 : z = 3 * i + 1
      · rw [c1, pu_eq, v1]
      rw [pu_ne _ _ _ _ (fun d => c1 d.2)]
      by_cases c0 : z = 3 * i
      · rw [c0, pu_eq, v0]
      rw [pu_ne _ _ _ _ (fun d => c0 d.2)]
      exact hz z z0 (by omega))
    have rP : sI (setI s (78 + 27) (3 * i).toNat (v (freeP Q i))) (78 + 2) (5 + 102 * i + 1).toNat = v (Q 4 i) := by
      have := k1.a3 (5 + 102 * i + 1) (by omega)
      rw [pu_row _ _ _ _ (by decide), hPA.2.1 i (by omega)] at this
      exact this
    refine ⟨s', A', ?_, q2, q3, q4, ((inM_s (by decide)).tr ((inM_s (by decide)).tr (inM_s (by decide)))).tr q5⟩
    show b_M_days_183 _ _ _ _ _ _ = _
    unfold b_M_days_183
    rw [nv8, nv3, nv2, nv1, if_pos (plt (by omega)), if_pos h.t, m_freeOf h hPA hK (by omega), Option.bind_some, h.r55, h.t55, h.n55, v_mul, v_add, v_add, if_pos ⟨rfl, v_inA (by omega) (by omega)⟩, m_pageAt, Option.bind_some, v_add, h.r3, h.t3, h.n3, if_pos ⟨rfl, v_inA (by omega) (by omega)⟩, if_pos ⟨rfl, v_inA (by omega) (by omega)⟩, show (v (3 * i)).toNatClampNeg = (3 * i).toNat from v_ix (by omega), show (v (3 * i + 1)).toNatClampNeg = (3 * i + 1).toNat from v_ix (by omega), show (v (5 + 102 * i + 1)).toNatClampNeg = (5 + 102 * i + 1).toNat from v_ix (by omega), rP, m_cellsOn k2 hP2 hK (by omega), Option.bind_some, if_pos ⟨rfl, v_inA (by omega) (by omega)⟩, v_ix (by omega), v_add]
    exact q1
theorem r_days (h : MR s 78 A) (hR : RepA A tp se P LG IM ms vw dr) (hw : WfT se) (hH : PgH P) {x n : Int} (hx : r32 x) (hn : r32 n) : RO s (f_M_days s 78 (v x) (v n)) (dysA se P x n) tp se P LG IM (tl ms (dysA se P x n)) vw (dysD se P dr x n) := by
  obtain ⟨k1, k2, k3⟩ := r_thr h hR
  have bad : ¬ dysOK x n → RO s (b_M_days_29 78 (setI s 78 0 (v 0))) (dysA se P x n) tp se P LG IM (tl ms (dysA se P x n)) vw (dysD se P dr x n) := fun c => by
    unfold b_M_days_29 dysA dysD
    rw [if_neg c, if_neg c, if_pos k1.t, nv1, v_neg]
    exact RO.tell k1 k2 k3 (by decide)
  unfold f_M_days
  rw [if_pos h.t, nv0, lw0, lw1000000, lw1, lw60, v_w hx, v_w hn, m_in (by omega) (by omega) (by omega), Option.bind_some]
  by_cases c1 : 0 ≤ x ∧ x ≤ 1000000
  · rw [bi_t c1, if_neg (show ¬ v 1 = v 0 by decide), m_in (by omega) (by omega) (by omega), Option.bind_some]
    by_cases c2 : 1 ≤ n ∧ n ≤ 60
    · have hok : dysOK x n := ⟨c1, c2⟩
      have hL := k2.2.2.2.2.2.1
      obtain ⟨s1, A1, a1, a2, a3, a4, a5⟩ := m_keepAll (c := 17) k1 (by decide)
      have h1 := k2.v_s (a3.mo (fun j z hj => by omega))
      obtain ⟨s2, A2, b1, b2, b3, b4, b5⟩ := m_dy49 (a := v x) (b := v n) (c := v LG.length) (A0 := A1) 13056 fuel 0 s1 A1 (by omega) (by omega) (by unfold fuel; omega) a2 (AF.rf _ _) (fun y y0 y1 => by omega)
      obtain ⟨s3, A3, c1', c2', c3, c4, c5⟩ := m_dy80 (a := v x) (b := v n) (c := v LG.length) (A0 := A2) 16 fuel 0 s2 A2 (by omega) (by omega) (by unfold fuel; omega) b2 (AF.rf _ _) (fun y y0 y1 => by omega)
      have d2 := c2'.s28 (x := x) (k := 54) (z := 54) rfl (by decide)
      have ad : AF (fun j z => j = 7 ∨ j = 8 ∨ (j = 28 ∧ z = 54)) A1 (pu A3 28 54 x) := ((b3.mo (fun j z hj => Or.inl hj)).tr (c3.mo (fun j z hj => Or.inr (Or.inl hj)))).tr (AF.pu (Or.inr (Or.inr ⟨rfl, rfl⟩)))
      have h3 := h1.v_s (ad.mo (fun j z hj => by omega))
      have hS : LogS (pu A3 28 54 x) LG := LogS.of (A := A1) h1.2.2.2.2.2.1 (fun z z0 z1 => by rw [pu_row _ _ _ _ (by decide), c3 7 z (show ¬ (7 : Nat) = 8 by decide), b4 z z0 z1]) (fun z z0 z1 => by rw [pu_row _ _ _ _ (by decide), c4 z z0 z1, b3 6 z (show ¬ (6 : Nat) = 7 by decide)])
      have hU : PgM (Un (pu A3 28 54 x) 17) P := (a4 P k2.pg).cg (fun z z0 z1 => ad 5 _ (by omega))
      obtain ⟨s4, A4, LG4, e1, e2, e3, e4, e5⟩ := m_daysL hw (n := n) c2.2 (c := v LG.length) (A0 := pu A3 28 54 x) n.toNat fuel 0 x (setJ s3 78 54 (w x)) (pu A3 28 54 x) P LG (by omega) (by omega) (by unfold fuel; omega) hH d2 h3 (pu_eq _ _ _ _) (by omega) (AF.rf _ _)
      have hH4 : PgH (daysL (lwF se) se.1 n.toNat x P) := daysL_H _ _ _ hH
      have hA : dysA se P x n = countP (daysL (lwF se) se.1 n.toNat x P) := if_pos hok
      have hD : dysD se P dr x n = some (keepD (daysL (lwF se) se.1 n.toNat x P)) := if_pos hok
      rw [hA, hD]
      clear hA hD bad
      generalize daysL (lwF se) se.1 n.toNat x P = QD at *
      obtain ⟨s5, A5, g1, g2, g3, g4, g5⟩ := m_dy183 hH4.1.1.1 (c := v LG.length) (d := v (countP QD)) e3.pg 8 fuel 0 s4 A4 (by omega) (by omega) (by unfold fuel; omega) e2 (AF.rf _ _) (fun z z0 z1 => by omega)
      have m5 := g2.s0 (x := 1) (k := 56) (z := 56) rfl (by decide)
      have a56 : AF (fun j z => j = 27 ∨ (j = 0 ∧ z = 56)) A4 (pu A5 0 56 1) := (g3.mo (fun j z hj => Or.inl hj)).tr (AF.pu (Or.inr ⟨rfl, rfl⟩))
      have h5 : RepA (pu A5 0 56 1) tp se QD LG4 IM ms vw (some (keepD QD)) := e3.v_dr (a56.mo (fun j z hj => by omega)) ⟨pu_eq _ _ _ _, fun z z0 z1 => by rw [pu_row _ _ _ _ (by decide)]; exact g4 z z0 z1⟩
      have hS5 : LogS (pu A5 0 56 1) LG := hS.fr (fun z => by rw [a56 7 z (by omega), e4 7 z (by omega)]) (fun z => by rw [a56 8 z (by omega), e4 8 z (by omega)])
      have hU5 : PgM (Un (pu A5 0 56 1) 17) P := hU.cg (fun z z0 z1 => by
        show pu A5 0 56 1 5 (816 * 17 + (z - 5)) = pu A3 28 54 x 5 (816 * 17 + (z - 5))
        rw [a56 5 _ (by omega), e4 5 _ (by omega)])
      obtain ⟨s6, A6, u1, u2, u3, u4, u5, u6⟩ := m_giveBack m5 hS5 hU5
      have h6 : RepA A6 tp se P LG IM ms vw (some (keepD QD)) := h5.v_pg (u5.mo (fun j z hj => by omega)) u3 u4 (h5.2.2.1.2.fr (u5 0 41 (by omega)) (u5 0 42 (by omega)))
      have i8 : sI s1 78 8 = v LG.length := by rw [a2.i8, a3 0 8 (by omega), hL.1]
      have hx' : (v x).toInt64 = w x := v_w hx
      rw [hx'] at c1'
      have hcnt := count_r QD
      rw [bi_t c2, if_neg (show ¬ v 1 = v 0 by decide), show nI 17 = v 17 from rfl, a1, Option.bind_some, if_pos a2.t, i8, b1, c1', e1, g1, u1, Option.bind_some, if_pos u2.t]
      exact RO.tell u2 h6 ((((((((k3.tr a5).tr b5).tr c5).tr (Fr.sj (by omega))).tr e5).tr g5).tr (Fr.si (by omega))).tr u6) ⟨by omega, Or.inr hcnt.1⟩
    · rw [bi_f c2, if_pos rfl]
      exact bad (fun d => c2 d.2)
  · rw [bi_f c1, if_pos rfl]
    exact bad (fun d => c1 d.1)
end DAYS
