/-! PAIRS: terms, force -/
def mxT (k : Int) : Int := if k = 0 then 999 else if k = 1 then 10 else 9
abbrev trmOK (k x : Int) : Prop := (0 ≤ k ∧ k < 3) ∧ 0 ≤ x ∧ x ≤ mxT k
def trmZ (se : ST1) (k x : Int) : Int := if trmOK k x then se.1 k else -1
def trmS (se : ST1) (k x : Int) : ST1 := if trmOK k x then (bu se.1 k x, se.2) else se
def trmM (ms : Int → Int) (k x : Int) : Int → Int := if trmOK k x then msT ms else msR ms (-1)
abbrev frcOK (se : ST1) (l : Int) : Prop := -1 ≤ l ∧ l < se.2.1.length
def frcZ (se : ST1) (l : Int) : Int := if frcOK se l then se.2.2 else -2
def frcS (se : ST1) (l : Int) : ST1 := if frcOK se l then (se.1, se.2.1, l) else se
def frcM (ms : Int → Int) (se : ST1) (l : Int) : Int → Int := if frcOK se l then msT ms else msR ms (-2)
theorem mxT_r (k : Int) : 9 ≤ mxT k ∧ mxT k ≤ 999 := by unfold mxT; split <;> (try split) <;> omega
theorem trmS_W {se : ST1} {k x : Int} (h : WfT se) : WfT (trmS se k x) := by
  unfold trmS
  by_cases c : trmOK k x
  · rw [if_pos c]
    obtain ⟨⟨h0, h1, h2, h3⟩, hr⟩ := h
    obtain ⟨c1, c2, c3⟩ := c
    have hm := mxT_r k
    refine ⟨⟨?_, ?_, ?_, ?_⟩, hr⟩
    · show 0 ≤ bu se.1 k x 0 ∧ bu se.1 k x 0 ≤ 999
      unfold bu
      by_cases e : (0 : Int) = k
      · rw [if_pos e]; omega
      · rw [if_neg e]; exact h0
    · show 0 ≤ bu se.1 k x 1 ∧ bu se.1 k x 1 ≤ 10
      unfold bu
      by_cases e : (1 : Int) = k
      · have : mxT k = 10 := by rw [← e]; rfl
        rw [if_pos e]; omega
      · rw [if_neg e]; exact h1
    · show 0 ≤ bu se.1 k x 2 ∧ bu se.1 k x 2 ≤ 9
      unfold bu
      by_cases e : (2 : Int) = k
      · have : mxT k = 9 := by rw [← e]; rfl
        rw [if_pos e]; omega
      · rw [if_neg e]; exact h2
    · exact bu_in h3 (by omega)
  · rw [if_neg c]; exact h
theorem frcS_W {se : ST1} {l : Int} (h : WfT se) : WfT (frcS se l) := by
  unfold frcS
  by_cases c : frcOK se l
  · rw [if_pos c]; exact ⟨h.1, h.2.1, c, h.2.2.2⟩
  · rw [if_neg c]; exact h
section PGT
variable {s : AS} {D : DYN} {tp : (Int → Int) × Int} {se : ST1} {P : PG} {LG : LGS} {IM : Nat → IMG} {ms : Int → Int} {vw : (Int → Int) × Int} {dr : DRW} {A : MA} {cn : Nat}
theorem SetC.val {DL : Nat → Prop} (h : SetC s 18 se DL) (hD : ∀ q, DL q → 106 ≤ q) {k x : Int} (hk : 0 ≤ k ∧ k < 3) : SetC (setI s 19 k.toNat (v x)) 18 (bu se.1 k x, se.2) DL := by
  obtain ⟨L, ⟨a1, a2, a3, a4, a5, a6, a7⟩, h2, h3⟩ := h
  have f1 : Fr (fun q => q = 19) s (setI s 19 k.toNat (v x)) := Fr.si rfl
  refine ⟨L, ⟨a1, a2, a3, fun z hz => ?_, a5, ?_, ?_⟩, fun i CL hi => ⟨(h2 i CL hi).1.eq (fun j hj => f1.eqA (fun e => by have := hD _ ((h2 i CL hi).2.2 j hj); omega)), (h2 i CL hi).2⟩, h3⟩
  · show sI (setI s 19 k.toNat (v x)) (18 + 1) z.toNat = v (bu se.1 k x z)
    rw [sI_setI]
    by_cases e : z = k
    · rw [if_pos ⟨rfl, by rw [e]⟩, e, bu_eq]
    · rw [if_neg (by omega), bu_ne e]
      exact a4 z hz
  · rw [sI_setI, if_neg (fun e => by omega)]; exact a6
  · rw [sI_setI, if_neg (fun e => by omega)]; exact a7
theorem SetC.fo {DL : Nat → Prop} (h : SetC s 18 se DL) (hD : ∀ q, DL q → 106 ≤ q) {l : Int} : SetC (setI s 18 3 (v l)) 18 (se.1, se.2.1, l) DL := by
  obtain ⟨L, ⟨a1, a2, a3, a4, a5, a6, a7⟩, h2, h3⟩ := h
  have f1 : Fr (fun q => q = 18) s (setI s 18 3 (v l)) := Fr.si rfl
  refine ⟨L, ⟨a1, a2, a3, fun z hz => ?_, a5, ?_, ?_⟩, fun i CL hi => ⟨(h2 i CL hi).1.eq (fun j hj => f1.eqA (fun e => by have := hD _ ((h2 i CL hi).2.2 j hj); omega)), (h2 i CL hi).2⟩, h3⟩
  · rw [sI_setI, if_neg (by omega)]; exact a4 z hz
  · rw [sI_setI, if_neg (by decide)]; exact a6
  · rw [sI_setI, if_pos ⟨rfl, rfl⟩]
theorem CO.told {s0 : AS} (h : RepD s D tp se P LG IM ms vw dr cn) (g : GrM s0 s) {a : Int} : CO s0 ((f_C_told s 1 (v a)).bind fun r => some (r.1, r.2)) a tp se P LG IM (msT ms) vw dr cn := by
  obtain ⟨s', q1, q2, q3⟩ := d_told (a := v a) h
  rw [q1, Option.bind_some]
  exact ⟨s', D, rfl, q2, g.tr (q3.grM (fun q hq => by omega))⟩
theorem CO.refu {s0 : AS} (h : RepD s D tp se P LG IM ms vw dr cn) (g : GrM s0 s) {x : Int} (hx : isRf x) : CO s0 ((f_C_refuse s 1 (v x)).bind fun r => some (r.1, r.2)) x tp se P LG IM (msR ms x) vw dr cn := by
  obtain ⟨s', q1, q2, q3⟩ := d_refuse h hx
  rw [q1, Option.bind_some]
  exact ⟨s', D, rfl, q2, g.tr (q3.grM (fun q hq => by omega))⟩
theorem c_terms (h : RepD s D tp se P LG IM ms vw dr cn) (hc : TmC s) {k x : Int} (hk : r32 k) (hx : r32 x) : CO s (f_C_terms s 1 (v k) (v x)) (trmZ se k x) tp (trmS se k x) P LG IM (trmM ms k x) vw dr cn := by
  have hm := mxT_r k
  have hno : b_C_terms_22 1 s = (f_C_refuse s 1 (v (-1))).bind fun r => some (r.1, r.2) := by
    unfold b_C_terms_22
    rw [if_pos h.1.1]
    rfl
  unfold f_C_terms trmZ trmS trmM
  rw [nv0, nv3, hno]
  by_cases c : k < 0
  · rw [if_pos (plt (by omega)), if_neg (by omega), if_neg (by omega), if_neg (by omega)]
    exact CO.refu h (GrM.rf s) (Or.inl rfl)
  rw [if_neg (nlt (by omega))]
  by_cases c2 : k < 3
  · rw [if_pos (plt (by omega))]
    by_cases c3 : x < 0
    · rw [if_pos (plt (by omega)), if_neg (by omega), if_neg (by omega), if_neg (by omega)]
      exact CO.refu h (GrM.rf s) (Or.inl rfl)
    rw [if_neg (nlt (by omega)), hc.1, hc.2.1, if_pos ⟨rfl, v_inA (by omega) (by omega)⟩, show sI s 1000000 (v k).toNatClampNeg = v (mxT k) by rw [v_ix (by omega)]; exact hc.2.2 k ⟨by omega, c2⟩]
    by_cases c4 : mxT k < x
    · rw [if_pos (plt (a := mxT k) (by omega)), if_neg (by omega), if_neg (by omega), if_neg (by omega)]
      exact CO.refu h (GrM.rf s) (Or.inl rfl)
    have hok : trmOK k x := by omega
    rw [if_neg (nlt (a := mxT k) (by omega)), if_pos hok, if_pos hok, if_pos hok]
    obtain ⟨a1, L, b1, b2, -, b4, -⟩ := h.st18
    have f1 : Fr (fun q => q = 18 ∨ q = 19) s (setI s 19 k.toNat (v x)) := Fr.si (Or.inr rfl)
    have h1 := h.u_st f1 (h.2.2.2.2.2.2.2.1.val h.dl (k := k) (x := x) (by omega))
    rw [if_pos h.1.1, a1, if_pos b1, b2.1, b2.2.1, b2.2.2, if_pos ⟨rfl, v_inA (by omega) (by omega)⟩, show (v k).toNatClampNeg = k.toNat from v_ix (by omega), b4 k (by omega)]
    exact CO.told h1 (f1.grM (fun q hq => by omega))
  · rw [if_neg (nlt (by omega)), if_neg (by omega), if_neg (by omega), if_neg (by omega)]
    exact CO.refu h (GrM.rf s) (Or.inl rfl)
theorem c_force (h : RepD s D tp se P LG IM ms vw dr cn) (hw : WfT se) {l : Int} (hl : r32 l) : CO s (f_C_force s 1 (v l)) (frcZ se l) tp (frcS se l) P LG IM (frcM ms se l) vw dr cn := by
  have hn := hw.2.1
  obtain ⟨a1, L, b⟩ := h.st18
  have f1 : Fr (fun q => q = 18 ∨ q = 19) s (setI s 18 3 (v l)) := Fr.si (Or.inl rfl)
  have h1 := h.u_st f1 (h.2.2.2.2.2.2.2.1.fo h.dl (l := l))
  have h23 : b_C_force_23 1 (v l) s = (f_C_told (setI s 18 3 (v l)) 1 (v se.2.2)).bind fun r => some (r.1, r.2) := by
    unfold b_C_force_23
    rw [if_pos h.1.1, a1, if_pos b.1, b.2.2.2.2.2.2]
  unfold f_C_force frcZ frcS frcM
  rw [nv0, nv1, show nI 2 = v 2 from rfl, v_neg, v_neg, h23]
  by_cases c : l = -1
  · rw [if_pos (peq c), if_pos (by omega), if_pos (by omega), if_pos (by omega)]
    exact CO.told h1 (f1.grM (fun q hq => by omega))
  rw [if_neg (pne (by omega)), if_pos h.1.1, a1, if_pos b.1, s_hasLaw b ⟨by omega, hl⟩, Option.bind_some]
  by_cases c2 : 0 ≤ l ∧ l < se.2.1.length
  · rw [bi_t c2, if_neg (show ¬ v 1 = v 0 by decide), if_pos (by omega), if_pos (by omega), if_pos (by omega)]
    exact CO.told h1 (f1.grM (fun q hq => by omega))
  · rw [bi_f c2, if_pos rfl, if_neg (by omega), if_neg (by omega), if_neg (by omega)]
    exact CO.refu h (GrM.rf s) (Or.inr (Or.inl rfl))
theorem RO.tell {s0 : AS} (h : MR s 78 A) (hR : RepA A tp se P LG IM ms vw dr) (f : Fr (inM 78) s0 s) {x : Int} (hx : x < 2147483648 ∧ (isRf x ∨ 0 ≤ x)) : RO s0 ((f_M_tell s 78 (v x)).bind fun r => some (r.1, r.2)) x tp se P LG IM (tl ms x) vw dr := by
  obtain ⟨s', A', q1, q2, q3, q4⟩ := r_tell h hR hx
  rw [q1, Option.bind_some]
  exact ⟨s', A', rfl, q2, q3, f.tr q4⟩
theorem m_change (h : MR s 78 A) {k x : Int} (hk : 0 ≤ k ∧ k < 5) : f_M_change s 78 (v k) (v x) = some (v (A 2 k), setI (setI s (78 + 2) k.toNat (v x)) 78 1 (v 0)) ∧ MR (setI (setI s (78 + 2) k.toNat (v x)) 78 1 (v 0)) 78 (pu (pu A 2 k x) 0 1 0) := by
  refine ⟨?_, (h.si (x := x) 2 (by decide) (by decide) (z := k) ⟨hk.1, by show k < (6221 : Int); omega⟩).s0 rfl (by decide)⟩
  unfold f_M_change
  rw [if_pos h.t, h.r3, h.t3, h.n3, if_pos ⟨rfl, v_inA (by omega) (by omega)⟩, show (v k).toNatClampNeg = k.toNat from v_ix (by omega), h.a3 k (by omega), nv0]
theorem r_chg (h : MR s 78 A) (hR : RepA A tp se P LG IM ms vw dr) {k x : Int} (hk : 1 ≤ k ∧ k < 5) {se' : ST1} (hs : SetA (pu A 2 k x 2) se') : RO s ((f_M_change s 78 (v k) (v x)).bind fun r => some (r.1, r.2)) (A 2 k) tp se' P LG IM (msT ms) vw dr := by
  obtain ⟨e1, e2⟩ := m_change h (k := k) (x := x) (by omega)
  rw [e1, Option.bind_some]
  refine ⟨_, _, rfl, e2, ?_, (Fr.si (by omega)).tr (Fr.si (by omega))⟩
  have r1 := hR.v_st (se' := se') (AF.pu (x := x) (Or.inr ⟨rfl, by omega⟩ : nk 2 k ∨ (2 = 2 ∧ (k < 5 ∨ 821 ≤ k)))) hs
  obtain ⟨i1, i2, i3⟩ := r1.2.2.2.2.2.2.2.1
  obtain ⟨j1, j2, j3, j4, j5⟩ := r1.2.2.2.2.2.2.2.2.1
  refine r1.v_it (AF.pu (Or.inr (Or.inl ⟨rfl, Or.inl rfl⟩))) ⟨?_, ?_, ?_⟩ ?_
  · rw [pu_ne _ _ _ _ (by omega), i1]
    unfold msT
    rw [bu_ne (by decide)]
  · rw [pu_ne _ _ _ _ (by omega), i2]
    unfold msT
    rw [bu_ne (by decide)]
  · rw [pu_eq]
    unfold msT
    rw [bu_eq]
  · unfold msT
    rw [pu_ne _ _ _ _ (by omega), pu_ne _ _ _ _ (by omega), pu_ne _ _ _ _ (by omega), pu_ne _ _ _ _ (by omega), pu_ne _ _ _ _ (by omega), bu_ne (by decide), bu_ne (by decide), bu_ne (by decide), bu_ne (by decide), bu_ne (by decide)]
    exact ⟨j1, j2, j3, j4, j5⟩
theorem r_terms (h : MR s 78 A) (hR : RepA A tp se P LG IM ms vw dr) {k x : Int} (hk : r32 k) (hx : r32 x) : RO s (f_M_terms s 78 (v k) (v x)) (trmZ se k x) tp (trmS se k x) P LG IM (trmM ms k x) vw dr := by
  obtain ⟨k1, k2, k3⟩ := r_thr h hR
  obtain ⟨s1, s2, ⟨s3, s4, s5⟩, s6⟩ := k2.2.2.2.1
  have hbad : ∀ y, ¬ trmOK k x → RO s (b_M_terms_60 78 y (v x) (v 0) (setI s 78 0 (v 0))) (trmZ se k x) tp (trmS se k x) P LG IM (trmM ms k x) vw dr := by
    intro y hno
    unfold b_M_terms_60 trmZ trmS trmM
    rw [nv0, if_pos rfl, if_pos k1.t, nv1, v_neg, if_neg hno, if_neg hno, if_neg hno]
    exact RO.tell k1 k2 k3 ⟨by decide, Or.inl (Or.inl rfl)⟩
  have hok : trmOK k x → RO s (b_M_terms_60 78 (v k) (v x) (v 1) (setI s 78 0 (v 0))) (trmZ se k x) tp (trmS se k x) P LG IM (trmM ms k x) vw dr := by
    intro hy
    unfold b_M_terms_60 trmZ trmS trmM
    rw [nv0, if_neg (show ¬ v 1 = v 0 by decide), if_pos k1.t, nv2, v_add, if_pos hy, if_pos hy, if_pos hy]
    have ho : pu A 0 0 0 2 (2 + k) = se.1 k := by
      have : k = 0 ∨ k = 1 ∨ k = 2 := by omega
      rcases this with rfl | rfl | rfl
      · exact s3
      · exact s4
      · exact s5
    have hv : pu (pu A 0 0 0) 2 (2 + k) x 2 2 = bu se.1 k x 0 ∧ pu (pu A 0 0 0) 2 (2 + k) x 2 3 = bu se.1 k x 1 ∧ pu (pu A 0 0 0) 2 (2 + k) x 2 4 = bu se.1 k x 2 := by
      have : k = 0 ∨ k = 1 ∨ k = 2 := by omega
      rcases this with rfl | rfl | rfl
      · exact ⟨rfl, s4, s5⟩
      · exact ⟨s3, rfl, s5⟩
      · exact ⟨s3, s4, rfl⟩
    have hs : SetA (pu (pu A 0 0 0) 2 (2 + k) x 2) (bu se.1 k x, se.2) := ⟨by rw [pu_ne _ _ _ _ (by omega)]; exact s1, by rw [pu_ne _ _ _ _ (by omega)]; exact s2, hv, fun i CL hi => (s6 i CL hi).cong (fun z hz => pu_ne _ _ _ _ (by omega))⟩
    obtain ⟨s', A', q1, q2, q3, q4⟩ := r_chg k1 k2 (k := 2 + k) (x := x) (by omega) hs
    rw [ho] at q1
    exact ⟨s', A', q1, q2, q3, k3.tr q4⟩
  unfold f_M_terms b_M_terms_59
  rw [if_pos h.t, nv0, nv1, nv2, lw0, show lN 999 = w 999 from rfl, lw10, lw9, v_w hx, m_in (by omega) (by omega) (by omega), m_in (by omega) (by omega) (by omega), m_in (by omega) (by omega) (by omega), Option.bind_some, Option.bind_some, Option.bind_some]
  by_cases c0 : k = 0
  · rw [if_pos (peq c0)]
    have hm : mxT k = 999 := by rw [c0]; rfl
    by_cases c : 0 ≤ x ∧ x ≤ 999
    · rw [bi_t c]; exact hok (by omega)
    · rw [bi_f c]; exact hbad _ (by omega)
  rw [if_neg (pne (by omega))]
  by_cases c1 : k = 1
  · rw [if_pos (peq c1)]
    have hm : mxT k = 10 := by rw [c1]; rfl
    by_cases c : 0 ≤ x ∧ x ≤ 10
    · rw [bi_t c]; exact hok (by omega)
    · rw [bi_f c]; exact hbad _ (by omega)
  rw [if_neg (pne (by omega))]
  by_cases c2 : k = 2
  · rw [if_pos (peq c2)]
    have hm : mxT k = 9 := by rw [c2]; rfl
    by_cases c : 0 ≤ x ∧ x ≤ 9
    · rw [bi_t c, if_neg (show ¬ v 1 = v 0 by decide)]; exact hok (by omega)
    · rw [bi_f c, if_pos rfl]; exact hbad _ (by omega)
  rw [if_neg (pne (by omega))]
  exact hbad _ (by omega)
theorem r_force (h : MR s 78 A) (hR : RepA A tp se P LG IM ms vw dr) (hw : WfT se) {l : Int} (hl : r32 l) : RO s (f_M_force s 78 (v l)) (frcZ se l) tp (frcS se l) P LG IM (frcM ms se l) vw dr := by
  have hn := hw.2.1
  obtain ⟨k1, k2, k3⟩ := r_thr h hR
  obtain ⟨s1, s2, -⟩ := k2.2.2.2.1
  unfold f_M_force frcZ frcS frcM
  rw [if_pos h.t, nv0, nv1, show nI 2 = v 2 from rfl, v_neg, m_isLaw k1 s1 (by omega) hl, Option.bind_some]
  by_cases c : frcOK se l
  · rw [bi_t c, if_neg (show ¬ v 1 = v 0 by decide), if_pos c, if_pos c, if_pos c]
    obtain ⟨s', A', q1, q2, q3, q4⟩ := r_chg k1 k2 (k := 1) (x := l) (se' := (se.1, se.2.1, l)) (by omega) (k2.2.2.2.1.fo (pu_eq _ _ _ _) (fun z hz => pu_ne _ _ _ _ (by omega)))
    rw [s2] at q1
    exact ⟨s', A', q1, q2, q3, k3.tr q4⟩
  · rw [bi_f c, if_pos rfl, if_neg c, if_neg c, if_neg c]
    exact RO.tell k1 k2 k3 ⟨by decide, Or.inl (Or.inr (Or.inl rfl))⟩
end PGT
