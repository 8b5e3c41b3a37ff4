/-! ORDERS, on the reference: whole -/
abbrev scrV : Nat → Int → Prop := fun j z => scrY j z ∨ (j = 0 ∧ (z = 0 ∨ z = 52))
def OrdV (r : Except Int (List CLS)) (o : Option (Int32 × AS)) (s0 : AS) (tp : (Int → Int) × Int) (se : ST1) (P : PG) (LG : LGS) (IM : Nat → IMG) (ms : Int → Int) (vw : (Int → Int) × Int) (dr : DRW) : Prop := match r with
  | .error e => RO s0 o (-6) tp se P LG IM (msR (bu (bu ms 0 e) 1 (-1)) (-6)) vw dr
  | .ok CL => ClsV (clsO se CL 0 (P, [], 0, -1)) o s0 tp se LG IM (bu (bu ms 0 (-1)) 1 (-1)) vw dr P
section OMW
variable {s s0 : AS} {tp : (Int → Int) × Int} {se : ST1} {P P0 : PG} {LG : LGS} {IM : Nat → IMG} {ms ms' : Int → Int} {vw : (Int → Int) × Int} {dr : DRW} {A A0 A' : MA} {CL : List CLS} {B : Int → Int} {n : Int} {e : Int}
theorem RepA.v_od (h : RepA A tp se P LG IM ms vw dr) (ha : AF scrV A A') (h12 : A' 0 12 = 0 ∧ A' 0 19 = 0) (h17 : A' 0 17 = ms' 0 ∧ A' 0 52 = ms' 1) (hm : ∀ z, 2 ≤ z → ms' z = ms z) : RepA A' (tp.1, 0) se P LG IM ms' vw dr := by
  obtain ⟨htp, hwr, hok, hst, hpg0, hlg, him, hit, hrf, hvw, hdr⟩ := h
  exact ⟨⟨h12.1, by show (0 : Int) ≤ 0 ∧ (0 : Int) ≤ 400; decide, fun z z0 z1 => absurd (show z < 0 from z1) (by omega)⟩, hwr.fr ha (fun j z hj => by omega), ⟨h12.2, hok.2.fr (ha 0 41 (by omega)) (ha 0 42 (by omega))⟩, hst.cong (fun z hz => ha 2 z (by omega)), hpg0.cg (fun z z0 z1 => ha 2 z (by omega)), hlg.gen (fun z z0 z1 => ha 5 z (by omega)) (fun z z0 z1 => ha 6 z (by omega)) (ha 0 8 (by omega)), fun k hk => (him k hk).cg (fun z => ha 3 z (by omega)) (fun z => ha 4 z (by omega)), ⟨h17.1, h17.2, by rw [ha 0 1 (by omega), hm 2 (by decide)]; exact hit.2.2⟩, ⟨by rw [ha 1 1 (by omega), hm 3 (by decide)]; exact hrf.1, by rw [ha 1 2 (by omega), hm 4 (by decide)]; exact hrf.2.1, by rw [ha 1 3 (by omega), hm 5 (by decide)]; exact hrf.2.2.1, by rw [ha 1 5 (by omega), hm 6 (by decide)]; exact hrf.2.2.2.1, by rw [ha 1 6 (by omega), hm 7 (by decide)]; exact hrf.2.2.2.2⟩, ⟨by rw [ha 0 46 (by omega)]; exact hvw.1, fun z z0 z1 => by rw [ha 23 z (by omega)]; exact hvw.2 z z0 z1⟩, hdr.cg (ha 0 56 (by omega)) (fun z => ha 27 z (by omega))⟩
theorem end_V {A B : MA} (h : AF (fun j z => j = 0 ∧ (z = 18 ∨ z = 17 ∨ z = 19 ∨ z = 12)) A B) : AF scrV A B := h.mo (fun j z hj => by
  rcases hj with ⟨e, d | d | d | d⟩
  · exact Or.inl (Or.inl (Or.inl (Or.inl ⟨e, by omega⟩)))
  · exact Or.inl (Or.inl (Or.inl (Or.inl ⟨e, by omega⟩)))
  · exact Or.inl (Or.inr ⟨e, Or.inl d⟩)
  · exact Or.inl (Or.inr ⟨e, Or.inr d⟩))
theorem m_or46F (h : BadM s 78 A e) (hR : RepA A0 tp se P LG IM ms vw dr) (ha : AF scrV A0 A) (h52 : A 0 52 = -1) (f : Fr (inM 78) s0 s) : OrdV (.error e) (b_M_orders_46 78 s) s0 (tp.1, 0) se P LG IM ms vw dr := by
  obtain ⟨s1, A1, q1, q2, ⟨q3, q4, q5, q6⟩, q7, q8⟩ := m_endBad h
  have h1 : RepA A1 (tp.1, 0) se P LG IM (bu (bu ms 0 e) 1 (-1)) vw dr := hR.v_od (ha.tr (end_V q7)) ⟨q6, q5⟩ ⟨by rw [q4, bu_ne (by decide), bu_eq], by rw [q7 0 52 (by omega), h52, bu_eq]⟩ (fun z hz => by rw [bu_ne (by omega), bu_ne (by omega)])
  unfold b_M_orders_46
  rw [if_pos h.1.t, q1, Option.bind_some, if_pos q2.t, q2.i18, q3, nv0, nv6, v_neg, if_neg (show ¬ v 1 = v 0 by decide)]
  have r := RO.tell (x := -6) q2 h1 (f.tr q8) (by decide)
  rw [tl_n (by decide)] at r
  exact r
theorem m_or46T {st : STK} {len : Int} (h : RfX s 78 A B n true st len) (h20 : A 0 20 = CL.length) (hL : ClsLO (A 26) (insR true A) CL len) (h12 : CL.length ≤ 12) (hq : ∀ x ∈ CL, QC true x ∧ (x.1 = 4 → x.2.2.1 = semE)) (hR : RepA A0 tp se P LG IM ms vw dr) (hw : WfT se) (hH : PgH P) (ha : AF scrV A0 A) (h52 : A 0 52 = -1) (f : Fr (inM 78) s0 s) : OrdV (endP n (.ok (CL, st))) (b_M_orders_46 78 s) s0 (tp.1, 0) se P LG IM ms vw dr := by
  obtain ⟨s1, A1, q1, q2, ⟨q3, q4, q5, q6⟩, q7, q8⟩ := m_endText h
  have hst : 0 ≤ st.1 ∧ st.1 ≤ st.2.1 ∧ st.2.1 ≤ n := h.2.1.2.2.1.1
  have hn := h.2.1.1.2.1
  have hlen := h.2.2.2.2.2
  have hCd := h.2.2.2.2.1
  unfold b_M_orders_46
  show OrdV (if st.1 < n then .error st.1 else .ok CL) _ s0 (tp.1, 0) se P LG IM ms vw dr
  rw [if_pos h.1.t, q1, Option.bind_some, if_pos q2.t, q2.i18, q3, nv0, nv6, v_neg]
  by_cases c : st.1 < n
  · rw [if_pos c] at q3 q4
    have h1 : RepA A1 (tp.1, 0) se P LG IM (bu (bu ms 0 st.1) 1 (-1)) vw dr := hR.v_od (ha.tr (end_V q7)) ⟨q6, q5⟩ ⟨by rw [q4, bu_ne (by decide), bu_eq], by rw [q7 0 52 (by omega), h52, bu_eq]⟩ (fun z hz => by rw [bu_ne (by omega), bu_ne (by omega)])
    rw [if_pos c, if_pos c, if_neg (show ¬ v 1 = v 0 by decide)]
    have r := RO.tell (x := -6) q2 h1 (f.tr q8) (by decide)
    rw [tl_n (by decide)] at r
    exact r
  · rw [if_neg c] at q3 q4
    have h1 : RepA A1 (tp.1, 0) se P LG IM (bu (bu ms 0 (-1)) 1 (-1)) vw dr := hR.v_od (ha.tr (end_V q7)) ⟨q6, q5⟩ ⟨by rw [q4, bu_ne (by decide), bu_eq], by rw [q7 0 52 (by omega), h52, bu_eq]⟩ (fun z hz => by rw [bu_ne (by omega), bu_ne (by omega)])
    rw [if_neg c, if_neg c, if_pos rfl]
    show ClsV (clsO se CL 0 (P, [], 0, -1)) _ s0 (tp.1, 0) se LG IM (bu (bu ms 0 (-1)) 1 (-1)) vw dr P
    generalize bu (bu ms 0 (-1)) 1 (-1) = msx at *
    have hL1 := h1.2.2.2.2.2.1
    have h16 := hL1.2.1
    obtain ⟨s2, A2, a1, a2, a3, a4, a5⟩ := m_keepAll (c := 17) q2 (by decide)
    have h2 := h1.v_s (a3.mo (fun j z hj => by omega))
    obtain ⟨s3, A3, b1, b2, b3, b4, b5⟩ := m_or77 (c := v LG.length) (A0 := A2) 13056 fuel 0 s2 A2 (by omega) (by omega) (by unfold fuel; omega) a2 (AF.rf _ _) (fun y y0 y1 => by omega)
    obtain ⟨s4, A4, c1, c2, c3, c4, c5⟩ := m_or104 (c := v LG.length) (A0 := A3) 16 fuel 0 s3 A3 (by omega) (by omega) (by unfold fuel; omega) b2 (AF.rf _ _) (fun y y0 y1 => by omega)
    have k5 := c2.s0 (x := 0) (k := 50) (z := 50) rfl (by decide)
    have k6 := k5.s0 (x := -1) (k := 51) (z := 51) rfl (by decide)
    have ad : AF (fun j z => j = 7 ∨ j = 8 ∨ (j = 0 ∧ (z = 50 ∨ z = 51))) A2 (pu (pu A4 0 50 0) 0 51 (-1)) := (((b3.mo (fun j z hj => Or.inl hj)).tr (c3.mo (fun j z hj => Or.inr (Or.inl hj)))).tr (AF.pu (Or.inr (Or.inr ⟨rfl, Or.inl rfl⟩)))).tr (AF.pu (Or.inr (Or.inr ⟨rfl, Or.inr rfl⟩)))
    have h6 := h2.v_s (ad.mo (fun j z hj => by omega))
    have hS6 : LogS (pu (pu A4 0 50 0) 0 51 (-1)) LG := LogS.of (A := A2) h2.2.2.2.2.2.1 (fun z z0 z1 => by rw [pu_row _ _ _ _ (by decide), pu_row _ _ _ _ (by decide), c3 7 z (show ¬ (7 : Nat) = 8 by decide), b4 z z0 z1]) (fun z z0 z1 => by rw [pu_row _ _ _ _ (by decide), pu_row _ _ _ _ (by decide), c4 z z0 z1, b3 6 z (show ¬ (6 : Nat) = 7 by decide)])
    have hU6 : PgM (Un (pu (pu A4 0 50 0) 0 51 (-1)) 17) P := (a4 P h1.pg).cg (fun z z0 z1 => ad 5 _ (by omega))
    have hT1 : OtM A1 CL := ⟨by rw [q7 0 20 (by omega)]; exact h20, len, by rw [q7.row (j := 11) (fun z => by omega), q7.row (j := 12) (fun z => by omega)]; exact hCd, by omega, by
      have e : insR true A1 = insR true A := by
        funext z
        unfold insR
        rw [q7 11 z (by omega), q7 12 z (by omega)]
      rw [q7.row (j := 26) (fun z => by omega), e]
      exact hL⟩
    have hT6 : OtM (pu (pu A4 0 50 0) 0 51 (-1)) CL := (hT1.fr a3 (fun j z hj => by omega)).fr ad (fun j z hj => by omega)
    have hO6 : OrM (pu (pu A4 0 50 0) 0 51 (-1)) CL LG P 0 (-1) := ⟨hS6, hU6, ⟨by rw [pu_ne _ _ _ _ (by decide), pu_eq], pu_eq _ _ _ _⟩, hT6⟩
    have i8 : sI s2 78 8 = v LG.length := by rw [a2.i8, a3 0 8 (by omega), hL1.1]
    have hS : WfO 0 ((P, [], 0, -1) : OST) := ⟨hH, fun y hy => (by cases hy), ⟨by show (0 : Int) ≤ 0; decide, by show (0 : Int) ≤ 0; decide⟩, by show (-1 : Int) ≤ -1 ∧ (-1 : Int) < 128; decide⟩
    have hl := m_loop140 (P0 := P) (s0 := s0) (LG := LG) hw h12 hq h16 CL fuel 0 0 _ _ ((P, [], 0, -1) : OST) rfl (by omega) (by unfold fuel; omega) k6 (by rw [show las (LG ++ ((P, [], 0, -1) : OST).2.1) = LG by rw [show ((P, [], 0, -1) : OST).2.1 = [] from rfl, List.append_nil, las_sm h16]]; exact h6) hS (by omega) hO6 (((((f.tr q8).tr a5).tr b5).tr c5).tr ((Fr.si (by omega)).tr (Fr.si (by omega))))
    rw [show nI 17 = v 17 from rfl, a1, Option.bind_some, if_pos a2.t, i8, b1, c1]
    exact hl
theorem OrdV.fin {r : Except Int (List CLS)} {o : Option (Int32 × AS)} (h : OrdV r o s0 tp se P LG IM ms vw dr) : RO s0 o (ordA (ordR r se P)) tp se (ordP (ordR r se P) P) (ordL (ordR r se P) LG) IM (ordM (ordR r se P) ms) vw dr := by
  cases r with
  | error e => exact h
  | ok CL =>
    have h' : ClsV (clsO se CL 0 (P, [], 0, -1)) o s0 tp se LG IM (bu (bu ms 0 (-1)) 1 (-1)) vw dr P := h
    unfold ordR
    show RO s0 o (ordA (.ok (clsO se CL 0 (P, [], 0, -1)))) tp se (ordP (.ok (clsO se CL 0 (P, [], 0, -1))) P) (ordL (.ok (clsO se CL 0 (P, [], 0, -1))) LG) IM (ordM (.ok (clsO se CL 0 (P, [], 0, -1))) ms) vw dr
    cases hc : clsO se CL 0 (P, [], 0, -1) with
    | error i => rw [hc] at h'; exact h'
    | ok S' => rw [hc] at h'; exact h'
theorem r_orders (h : MR s 78 A) (hR : RepA A tp se P LG IM ms vw dr) (hw : WfT se) (hH : PgH P) : RO s (f_M_orders s 78) (ordA (ordR (textP tp.1 tp.2 true) se P)) (tp.1, 0) se (ordP (ordR (textP tp.1 tp.2 true) se P) P) (ordL (ordR (textP tp.1 tp.2 true) se P) LG) IM (ordM (ordR (textP tp.1 tp.2 true) se P) ms) vw dr := by
  refine OrdV.fin ?_
  have k0 := h.s0 (x := 0) (k := 0) (z := 0) rfl (by decide)
  have k1 := k0.s0 (x := -1) (k := 52) (z := 52) rfl (by decide)
  have a0 : AF (fun j z => j = 0 ∧ (z = 0 ∨ z = 52)) A (pu (pu A 0 0 0) 0 52 (-1)) := (AF.pu ⟨rfl, Or.inl rfl⟩).tr (AF.pu ⟨rfl, Or.inr rfl⟩)
  obtain ⟨s1, A1, q1, q2, q3, q4, q5⟩ := m_beginText (ord := true) k1 (hR.1.fr a0 (by omega) (fun z => by omega)) (hR.2.1.fr a0 (fun j z hj => by omega))
  have hsp := m_readOrder (cl := 0) q2 q3 (by omega)
  have a1 : AF scrV A A1 := (a0.mo (fun j z hj => Or.inr hj)).tr (q4.mo (fun j z hj => Or.inl hj))
  have e1 : A1 0 52 = -1 := by rw [q4 0 52 (by omega), pu_eq]
  have f1 : Fr (inM 78) s s1 := ((Fr.si (by omega)).tr (Fr.si (by omega))).tr q5
  have zC : ∀ {X Y : MA}, AF scrC X Y → Y 0 52 = X 0 52 := fun k => k 0 52 (by omega)
  have CV : ∀ {X Y : MA}, AF scrC X Y → AF scrV X Y := fun k => k.mo (fun j z hj => Or.inl (Or.inl hj))
  unfold f_M_orders
  rw [if_pos h.t, nv0, nv1, v_neg, show f_M_beginText (setI (setI s 78 0 (v 0)) 78 52 (v (-1))) 78 (v 1) = some s1 from q1, Option.bind_some, if_pos q2.1.t]
  have hqa : ∀ CL, textP tp.1 tp.2 true = .ok CL → (∀ x ∈ CL, QC true x ∧ (x.1 = 4 → x.2.2.1 = semE)) := fun CL hr x hx => ⟨(q_text hr).1 x hx, text_all (Q := fun x => x.1 = 4 → x.2.2.1 = semE) (fun cl st st' x h => cl_mend h) hr x hx⟩
  unfold textP at hqa ⊢
  cases hr : clauseP tp.1 tp.2 true 0 (nxS tp.1 tp.2 (0, 0, 0)) with
  | error e =>
    rw [hr] at hsp
    obtain ⟨s2, A2, p1, p2, p3, p4⟩ := hsp
    rw [p1, Option.bind_some]
    have e19 : l_M_orders_19 fuel 78 s2 = b_M_orders_46 78 s2 := by
      show b_M_orders_19 (l_M_orders_19 999999) 78 s2 = _
      unfold b_M_orders_19
      rw [if_pos p2.1.t, p2.bad, nv0, if_neg (show ¬ v 1 = v 0 by decide)]
    rw [e19]
    exact m_or46F p2 hR (a1.tr (CV p3)) (by rw [zC p3]; exact e1) (f1.tr p4)
  | ok y =>
    obtain ⟨x, st1⟩ := y
    rw [hr] at hsp hqa
    obtain ⟨s2, A2, len2, p1, p2, p3, p4, p5, p6, p7, p8, p9, p10⟩ := hsp
    rw [p1, Option.bind_some]
    have hlp := m_ordLoop (s0 := s) (A0 := A2) 400 fuel [x] s2 A2 st1 len2 rfl (by show 1 ≤ 12; decide) (by unfold fuel; omega) p2 p3 (fun c y hy => by
      rcases get_snoc (L := []) hy with ⟨d1, d2⟩ | ⟨d1, d2⟩
      · cases d2
      · rw [d1, d2]; exact p4) (AF.rf _ _) (f1.tr p8)
    have hqa' : ∀ CL, endP tp.2 (clsL tp.1 tp.2 true 400 [x] st1) = .ok CL → (∀ x ∈ CL, QC true x ∧ (x.1 = 4 → x.2.2.1 = semE)) := hqa
    show OrdV (endP tp.2 (clsL tp.1 tp.2 true 400 [x] st1)) _ s (tp.1, 0) se P LG IM ms vw dr
    have a2 : AF scrV A A2 := a1.tr (CV p7)
    have e2 : A2 0 52 = -1 := by rw [zC p7]; exact e1
    generalize hN : 400 = N at hlp hqa' ⊢
    cases hq : clsL tp.1 tp.2 true N [x] st1 with
    | error e =>
      rw [hq] at hlp
      obtain ⟨s3, A3, g1, g2, g3, g4⟩ := hlp
      rw [g1]
      exact m_or46F g2 hR (a2.tr (CV g3)) (by rw [zC g3]; exact e2) g4
    | ok w =>
      obtain ⟨CL, st3⟩ := w
      rw [hq] at hlp hqa'
      obtain ⟨s3, A3, len3, g1, g2, g3, g4, g5, g6⟩ := hlp
      have hqc := q_clsL (B := tp.1) (n := tp.2) (ord := true) N [x] CL st1 st3 (fun y hy => by have e : y = x := (by simpa using hy); rw [e]; exact q_clause hr) (by show 1 ≤ 12; decide) hq
      have hmd := cls_all (Q := fun x => x.1 = 4 → x.2.2.1 = semE) (fun cl st st' x h => cl_mend h) N [x] CL st1 st3 (fun y hy => by have e : y = x := (by simpa using hy); rw [e]; exact fun h4 => cl_mend hr h4) hq
      rw [if_pos rfl] at g4
      rw [g1]
      exact m_or46T g2 g3 g4 hqc.2 (fun x hx => ⟨hqc.1 x hx, hmd x hx⟩) hR hw hH (a2.tr (CV g5)) (by rw [zC g5]; exact e2) g6
end OMW
