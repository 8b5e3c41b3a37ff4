/-! ORDERS, on the class: a clause's turn; the loops -/
section ORB
variable {s s' s0 : AS} {D : DYN} {tp : (Int → Int) × Int} {se : ST1} {P P0 P' Bf : PG} {LG : LGS} {IM : Nat → IMG} {ms : Int → Int} {vw : (Int → Int) × Int} {dr : DRW} {cn : Nat} {CL : List CLS} {X : LGS} {dn lt d kind a b : Int} {S : OST} {x : CLS} {c : Nat}
theorem c_act (h : RepD s D tp se S.1 LG IM ms vw dr cn) (hw : WfT se) (hS : WfO d S) (hx : OrX s D CL P0 S.2.1 S.2.2.1 S.2.2.2) (g : GrM s0 s) (ha : stB a) (hb : stB b) {k : Int} (hk : 0 ≤ k ∧ k ≤ 4) : CarO (actO se k a b S) (tlR s (v k) (v a) (v b)) s0 tp se LG IM ms vw dr cn CL P0 := by
  rcases (show k = 0 ∨ k = 1 ∨ k = 2 ∨ k = 3 ∨ k = 4 by omega) with e | e | e | e | e <;> subst e
  · exact c_act0 h hw hS hx g ha hb
  · exact c_act1 h hw hS hx g ha hb
  · exact c_act2 h hw hS hx g ha
  · exact c_act3 h hw hS hx g ha
  · exact c_act4 h hw hS hx g
theorem brk_r {o : Option Int} (h : ∀ z, o = some z → stB z) : r64 (brk o) := by
  cases o with
  | none => show r64 (-9000000000000000000); omega
  | some z => have := h z rfl; show r64 z; omega
theorem c_carry (h : RepD s D tp se S.1 LG IM ms vw dr cn) (hw : WfT se) (hS : WfO d S) (hd : d ≤ 1000) (hx : OrX s D CL P0 S.2.1 S.2.2.1 S.2.2.2) (g : GrM s0 s) (hc : CL[c]? = some x) (h12 : CL.length ≤ 12) (hq : QC true x) : CarO (oneO se x S) (f_Runner_carryOut s 60 9 (v c)) s0 tp se LG IM ms vw dr cn CL P0 := by
  obtain ⟨⟨⟨qa, -⟩, ⟨qb, -⟩, ⟨qt, -⟩⟩, qk, -⟩ := hq
  have hcl : c < CL.length := (List.getElem?_eq_some_iff.mp hc).1
  have hW := ordW_b hw hS hd
  obtain ⟨s1, k1, f1, w1⟩ := c_fill h hw hS hd hx.2.2.1
  have hO1 : OtC s1 CL := hx.2.2.2.eq (fun i hi => f1.eqA (by omega))
  have hm1 : IsMc s1 15 := h.mc.2.st f1.1
  obtain ⟨s2, k2, f2⟩ := c_ans (what := 4) (f := x.2.2.2.2) hO1 hm1 w1 hW hc h12 (Or.inr (Or.inr ⟨rfl, rfl⟩))
  have F2 : Fr (fun q => q = 16 ∨ q = 17) s s2 := (f1.mo (fun q hq => Or.inl hq)).tr (f2.mo (fun q hq => Or.inr hq))
  have w2 : WdR s2 15 (ordW se S) := w1.fr f2 (by omega)
  have hm2 : IsMc s2 15 := hm1.st f2.1
  have h2 := h.u_mc F2 ⟨hm2, _, w2, hW⟩
  have x2 := hx.fr h F2 (fun q hq => by omega)
  have g2 := F2.grM (fun q hq => by omega)
  obtain ⟨s3, k3, f3⟩ := c_ans (what := 2) (f := x.2.2.1) x2.2.2.2 hm2 w2 hW hc h12 (Or.inl ⟨rfl, rfl⟩)
  have F3 : Fr (fun q => q = 16 ∨ q = 17) s2 s3 := f3.mo (fun q hq => Or.inr hq)
  have w3 : WdR s3 15 (ordW se S) := w2.fr f3 (by omega)
  have hm3 : IsMc s3 15 := hm2.st f3.1
  have h3 := h2.u_mc F3 ⟨hm3, _, w3, hW⟩
  have x3 := x2.fr h2 F3 (fun q hq => by omega)
  obtain ⟨s4, k4, f4⟩ := c_ans (what := 3) (f := x.2.2.2.1) x3.2.2.2 hm3 w3 hW hc h12 (Or.inr (Or.inl ⟨rfl, rfl⟩))
  have F4 : Fr (fun q => q = 16 ∨ q = 17) s3 s4 := f4.mo (fun q hq => Or.inr hq)
  have w4 : WdR s4 15 (ordW se S) := w3.fr f4 (by omega)
  have h4 := h3.u_mc F4 ⟨hm3.st f4.1, _, w4, hW⟩
  have x4 := x3.fr h3 F4 (fun q hq => by omega)
  have g4 := (g2.tr (F3.grM (fun q hq => by omega))).tr (F4.grM (fun q hq => by omega))
  obtain ⟨r1, ⟨r2, r3, r4, r5, r6⟩, r7⟩ := h.rn.2
  have T1 : sT s1 = sT s := f1.1.2.1
  have R1 : sR s1 = sR s := f1.1.1
  obtain ⟨⟨y1, y2, y3, y4, y5⟩, y6, y7⟩ := c_mark x2.2.2.2 hc
  obtain ⟨n2, ⟨n3, n4, -⟩, -⟩ := h2.rn.2
  obtain ⟨p2, ⟨p3, p4, -⟩, -⟩ := h3.rn.2
  have q2 := h4.rn.2.1
  have bt : ∀ z, x.2.2.2.2 (ordW se S) = some z → z = 0 ∨ z = 1 := fun z hz => qt _ z hz
  have ba : ∀ z, x.2.2.1 (ordW se S) = some z → stB z := fun z hz => qa _ hW z hz
  have bb : ∀ z, x.2.2.2.1 (ordW se S) = some z → stB z := fun z hz => qb _ hW z hz
  have rt : r64 (brk (x.2.2.2.2 (ordW se S))) := brk_r (fun z hz => by have := bt z hz; omega)
  have ra := brk_r ba
  have rb := brk_r bb
  have e1 : (lg_cmp (w (brk (x.2.2.2.2 (ordW se S)))) (w 1) = v 0) ↔ x.2.2.2.2 (ordW se S) = some 1 := by
    rw [wc_eq rt (by omega)]
    cases hz : x.2.2.2.2 (ordW se S) with
    | none => exact ⟨fun e => absurd (show (-9000000000000000000 : Int) = 1 from e) (by decide), fun e => by cases e⟩
    | some z => exact ⟨fun e => by rw [show z = 1 from e], fun e => by cases e; rfl⟩
  have bk : ∀ o : Option Int, r64 (brk o) → (∀ z, o = some z → stB z) → ((lg_cmp (w (brk o)) (w (-9000000000000000000)) = v 0) ↔ o = none) := fun o ho hb => by
    rw [wc_eq ho (by omega)]
    cases o with
    | none => exact ⟨fun _ => rfl, fun _ => rfl⟩
    | some z =>
      have := hb z rfl
      exact ⟨fun e => by have e' : z = -9000000000000000000 := e; omega, fun e => by cases e⟩
  unfold f_Runner_carryOut oneO
  rw [nv0, nv1, nv2, nv3, nv4, nv6, if_pos r1, k1, Option.bind_some, T1, if_pos r1, R1, r3, if_pos h.mc.2.1, k2, Option.bind_some, lw1]
  by_cases ct : x.2.2.2.2 (ordW se S) = some 1
  · rw [if_pos (e1.mpr ct), if_pos ct, if_pos y1, y2, y3, y4, v_mul, v_add, Int.add_zero, if_pos ⟨rfl, v_inA (by omega) (by omega)⟩, if_pos n2, n4, if_pos hm2.1, k3, Option.bind_some, if_pos p2, p4, if_pos hm3.1, k4, Option.bind_some, wBrk, v_ix (by omega), y6]
    show CarO _ (if lg_cmp (w (brk (x.2.2.1 (ordW se S)))) (w (-9000000000000000000)) = v 0 then some (v 0, s4) else if lg_cmp (w (brk (x.2.2.2.1 (ordW se S)))) (w (-9000000000000000000)) = v 0 then some (v 0, s4) else if sT s4 60 = 10 then tlR s4 (v x.1) (w (brk (x.2.2.1 (ordW se S)))).toInt32 (w (brk (x.2.2.2.1 (ordW se S)))).toInt32 else none) _ _ _ _ _ _ _ _ _ _ _
    cases ha : x.2.2.1 (ordW se S) with
    | none =>
      rw [if_pos ((bk none (by show r64 (-9000000000000000000); omega) (fun z hz => by cases hz)).mpr rfl)]
      exact c_actF h4 x4 (g.tr g4)
    | some za =>
      have hza := ba za ha
      rw [if_neg (fun e => by have := (bk (some za) (brk_r (fun z hz => by cases hz; exact hza)) (fun z hz => by cases hz; exact hza)).mp e; cases this)]
      cases hb : x.2.2.2.1 (ordW se S) with
      | none =>
        rw [if_pos ((bk none (by show r64 (-9000000000000000000); omega) (fun z hz => by cases hz)).mpr rfl)]
        exact c_actF h4 x4 (g.tr g4)
      | some zb =>
        have hzb := bb zb hb
        rw [if_neg (fun e => by have := (bk (some zb) (brk_r (fun z hz => by cases hz; exact hzb)) (fun z hz => by cases hz; exact hzb)).mp e; cases this), if_pos q2, w_v, w_v]
        exact c_act h4 hw hS x4 (g.tr g4) hza hzb qk
  · rw [if_neg (fun e => ct (e1.mp e)), if_neg ct]
    exact ⟨s2, D, rfl, h2, x2, g.tr g2⟩
/-- what stopped has become -/
theorem RepD.sto (h : RepD s D tp se P LG IM ms vw dr cn) {i : Int} : RepD (setI s 1 14 (v i)) D tp se P LG IM (bu ms 1 i) vw dr cn ∧ GrM s (setI s 1 14 (v i)) := by
  have f1 : Fr (fun q => q = 1) s (setI s 1 14 (v i)) := Fr.si rfl
  refine ⟨h.u_it (f1.mo (fun q hq => Or.inl hq)) (h.1.st f1.1) ⟨by rw [sI_setI, if_pos ⟨rfl, rfl⟩, bu_eq], by rw [sI_setI, if_neg (by omega), bu_ne (by decide)]; exact h.2.1.2⟩ (bu_ne (by decide)) (fun z hz => ?_), f1.grM (fun q hq => by omega)⟩
  rw [(f1.2 77 (by decide)).1, h.2.2.2.2.2.2.2.2.2.2.2.2.2.2.2.2.1.2.2 z hz, bu_ne (by omega)]
/-- behind the clauses: one could not be -/
theorem c_130F (h : RepD s D tp se P LG IM ms vw dr cn) (h0 : PgR s 64 P0) (g : GrM s0 s) {i : Int} (hi : ms 1 = i) (i0 : 0 ≤ i ∧ i < 100) : CO s0 (b_C_orders_130 1 s) (-3) tp se P0 LG IM (msR ms (-3)) vw dr cn := by
  obtain ⟨o1, o2, o3, o4, o5⟩ := h.lv
  obtain ⟨p1, r1, ⟨r2, r3, r4, r5, r6⟩, r7⟩ := h.rn
  obtain ⟨s1, q1, q2, q3⟩ := s_takeFrom o5.1 h0 (by decide)
  have hlv := h.2.2.2.2.2.2.2.2.1
  have k1 : DkO s1 21 P0 := hlv.pg q3 (fun q hq d => ⟨d.1, by have := d.2; omega⟩) q2
  have f1 : Fr (fun z => (21 ≤ z ∧ z ≤ 38) ∨ z = 16 ∨ z = 17) s s1 := q3.mo (fun z hz => Or.inl ⟨by have := hz.1; omega, by have := hz.2; omega⟩)
  have h1 := h.u_lv f1 k1 ⟨h.mc.2.st f1.1, by obtain ⟨W, w1, w2⟩ := h.2.2.2.2.2.2.1.2; exact ⟨W, w1.eq (q3.eqA (fun c => by have := c.1; omega)), w2⟩⟩
  have ht : f_Runner_takeBack s 60 = some s1 := by
    unfold f_Runner_takeBack
    rw [if_pos r1, r2, if_pos o3, o4, if_pos o5.1.1, r6, q1, Option.bind_some]
  unfold b_C_orders_130
  rw [nv1, nv3, v_neg, v_neg, if_pos o1, h.2.1.1, hi, if_neg (pne (by omega)), p1, if_pos r1, ht, Option.bind_some, if_pos h1.1.1]
  exact CO.refu h1 (g.tr (f1.grM (fun q hq => by omega))) (by decide)
/-- behind the clauses: all were run -/
theorem c_130T (h : RepD s D tp se S.1 LG IM ms vw dr cn) (hx : OrX s D CL P0 S.2.1 S.2.2.1 S.2.2.2) (h16 : LG.length ≤ 16) (g : GrM s0 s) (hi : ms 1 = -1) : CO s0 (b_C_orders_130 1 s) S.2.2.1 tp se S.1 (las (LG ++ S.2.1)) IM (msT ms) vw dr cn := by
  obtain ⟨p1, r1, ⟨r2, r3, r4, r5, r6⟩, r7⟩ := h.rn
  obtain ⟨x1, x2, x3, x4⟩ := hx
  have hdy := h.dy
  have hsx := h.sx
  have hd1 : ∀ q, D.1.1 q → 106 ≤ q ∧ q < sX s := fun q hq => hdy.1 q (Or.inl hq)
  obtain ⟨s1, k', D', q1, q2, q3, q4, q5, q6⟩ := s_addAll (fg := 61) (lg := 57) (by omega) h.2.2.2.2.2.2.2.2.2.2.1 h16 x1 (las_len _) (fun q hq => by have := hd1 q hq; omega) (fun q hq => ⟨⟨by have := h.d12 q hq; omega, fun e => (hdy.2.1 q e).1 hq⟩, (h.d12 q hq).2⟩) (fun i hi e => by have := hd1 _ e; omega) (by omega) (by omega)
  have hk16 : k' ≤ 16 := by obtain ⟨Lr, -, -, e, -⟩ := q2; exact e.2
  rw [las_all _ _ h16, las_app2] at q2
  have g1 : Gr (fun q => (57 ≤ q ∧ q ≤ 59) ∨ D.1.1 q) s s1 := q5.mo (fun q hq => hq)
  have h1 := h.g_lg g1 q2 (hdy.lg (fun q hq => q4 q hq) (by omega) (by omega) (by omega))
  have g2 : GrM s s1 := GrM.of g1 (by omega) (fun q hq => by
    rcases hq with d | d
    · exact Or.inl (by omega)
    · have := hd1 q d
      exact Or.inr (by omega))
  have e60 : EqA s s1 60 := g1.1 60 (Or.inl (by omega)) (fun d => d.elim (by omega) (fun e => by have := hd1 _ e; omega))
  unfold b_C_orders_130
  rw [nv1, v_neg, if_pos h.1.1, h.2.1.1, hi, if_pos rfl, p1, if_pos r1, h.lg57.1, if_pos h.lg57.2.1, r5, q1, Option.bind_some, if_pos h1.1.1, h1.rn.1, if_pos h1.rn.2.1, e60.2.2.2.1, x3.1]
  exact CO.told h1 (g.tr g2)
end ORB
