/-! ORDERS, on the reference: a clause's turn -/
def OrM (A : MA) (CL : List CLS) (LG : LGS) (P0 : PG) (dn lt : Int) : Prop := LogS A LG ∧ PgM (Un A 17) P0 ∧ (A 0 50 = dn ∧ A 0 51 = lt) ∧ OtM A CL
theorem OrM.fr {A B : MA} {CL : List CLS} {LG : LGS} {P0 : PG} {dn lt : Int} {F : Nat → Int → Prop} (h : OrM A CL LG P0 dn lt) (ha : AF F A B) (hF : ∀ j z, j = 7 ∨ j = 8 ∨ (j = 5 ∧ 13872 ≤ z ∧ z < 14688) ∨ (j = 0 ∧ (z = 50 ∨ z = 51 ∨ z = 20)) ∨ j = 11 ∨ j = 12 ∨ j = 26 → ¬ F j z) : OrM B CL LG P0 dn lt := by
  obtain ⟨h1, h2, h3, h4⟩ := h
  exact ⟨h1.fr (fun z => ha 7 z (hF 7 z (by omega))) (fun z => ha 8 z (hF 8 z (by omega))), h2.cg (fun z z0 z1 => ha 5 _ (hF 5 _ (by omega))), ⟨by rw [ha 0 50 (hF 0 50 (by omega))]; exact h3.1, by rw [ha 0 51 (hF 0 51 (by omega))]; exact h3.2⟩, h4.fr ha (fun j z hj => hF j z (by omega))⟩
def RunM (r : Option OST) (o : Option (Int32 × AS)) (s0 : AS) (tp : (Int → Int) × Int) (se : ST1) (LG : LGS) (IM : Nat → IMG) (ms : Int → Int) (vw : (Int → Int) × Int) (dr : DRW) (CL : List CLS) (P0 : PG) : Prop := match r with
  | none => ∃ s' A' P' L', o = some (v (-3), s') ∧ MR s' 78 A' ∧ RepA A' tp se P' L' IM ms vw dr ∧ (LogS A' LG ∧ PgM (Un A' 17) P0) ∧ Fr (inM 78) s0 s'
  | some S' => ∃ s' A', o = some (v 0, s') ∧ MR s' 78 A' ∧ RepA A' tp se S'.1 (las (LG ++ S'.2.1)) IM ms vw dr ∧ OrM A' CL LG P0 S'.2.2.1 S'.2.2.2 ∧ Fr (inM 78) s0 s'
def botO (se : ST1) (x : CLS) (S : OST) : Option OST := match x.2.2.1 (ordW se S), x.2.2.2.1 (ordW se S) with
  | some a, some b => actO se x.1 a b S
  | _, _ => none
theorem oneO_e (se : ST1) (x : CLS) (S : OST) : oneO se x S = if x.2.2.2.2 (ordW se S) = some 1 then botO se x S else some S := rfl
theorem actO_ab {se : ST1} {k a a' b b' : Int} {S : OST} (ha : k ≠ 4 → a' = a) (hb : k ≤ 1 → b' = b) : actO se k a' b' S = actO se k a b S := by
  by_cases c : k = 4
  · subst c
    exact actO_a
  · rw [ha c]
    by_cases e : k ≤ 1
    · rw [hb e]
    · exact actO_b (by omega)
section OMR
variable {s s0 : AS} {tp : (Int → Int) × Int} {se : ST1} {P P0 : PG} {LG : LGS} {IM : Nat → IMG} {ms : Int → Int} {vw : (Int → Int) × Int} {dr : DRW} {A A0 : MA} {a b d k : Int} {S : OST} {CL : List CLS} {x : CLS} {W : Int → Int} {f : SEM} {i : Int}
/-- a sum that is there, or none is wanted -/
theorem m_oSumX (E : Prop) (h : MR s 78 A) (hK : PgK P) (hP : PgM (A 2) P) (h19 : A 0 19 = 0) (hOw : OwM A P W) (hW : ∀ z, 0 ≤ z → z < 20 → stB (W z)) {len : Int} (hC : CodO (A 11) (A 12) true len [] ∧ len ≤ 400) (hi : 0 ≤ i ∧ i + 1 < 96) (hz : ∀ z, f W = some z → stB z) (hN : (E ∧ A 26 i = A 26 (i + 1) ∧ f W = some 1) ∨ (¬ E ∧ (0 ≤ A 26 i ∧ A 26 (i + 1) ≤ len) ∧ Seg (insR true A) (A 26 i) (A 26 (i + 1)) f)) (h53 : A 0 53 = 0) :
    ∃ s' A' y, f_M_sumOf s 78 (v i) = some (y, s') ∧ MR s' 78 A' ∧ AF scrE A A' ∧ Fr (inM 78) s s' ∧ ((f W = none ∧ A' 0 53 = 1) ∨ ∃ z z1, f W = some z ∧ A' 0 53 = 0 ∧ y = v z1 ∧ stB z1 ∧ (¬ E → z1 = z)) := by
  rcases hN with ⟨e1, e2, e3⟩ | ⟨e1, e2, e3⟩
  · exact ⟨s, A, _, m_oSumN h h53 hi e2, h, AF.rf _ _, Fr.rf _ _, Or.inr ⟨1, -1, e3, h53, rfl, by constructor <;> omega, fun e => absurd e1 e⟩⟩
  · obtain ⟨s', A', q1, q2, q3, q4⟩ := m_oSum h hK hP h19 hOw hW hC hi ⟨rfl, rfl⟩ e2 e3 h53
    cases hf : f W with
    | none =>
      rw [hf] at q4
      obtain ⟨⟨y, q5⟩, q6⟩ := q4
      exact ⟨s', A', y, q5, q1, q2, q3, Or.inl ⟨rfl, q6⟩⟩
    | some z =>
      rw [hf] at q4
      obtain ⟨q5, q6⟩ := q4
      exact ⟨s', A', v z, q5, q1, q2, q3, Or.inr ⟨z, z, rfl, q6, rfl, hz z hf, fun _ => rfl⟩⟩
theorem m_run92 (h : MR s 78 A) (hR : RepA A tp se S.1 (las (LG ++ S.2.1)) IM ms vw dr) (hw : WfT se) (hS : WfO d S) (hd : d ≤ 1000) (hO : OrM A CL LG P0 S.2.2.1 S.2.2.2) (hOw : OwM A S.1 (ordW se S)) (h53 : A 0 53 = 0) {c : Nat} (hc : CL[c]? = some x) (h12 : CL.length ≤ 12) (hq : QC true x) (h4 : x.1 = 4 → x.2.2.1 = semE) (f0 : Fr (inM 78) s0 s) : RunM (botO se x S) (b_M_run_92 78 (v (8 * (c : Int))) s) s0 tp se LG IM ms vw dr CL P0 := by
  obtain ⟨⟨⟨qa, -⟩, ⟨qb, -⟩, ⟨qt, -⟩⟩, qk, -, qs⟩ := hq
  have hcl : c < CL.length := (List.getElem?_eq_some_iff.mp hc).1
  have hW := ordW_b hw hS hd
  have hK := hS.1.1.1.1
  obtain ⟨t1, len, t2, t3, t4⟩ := hO.2.2.2
  obtain ⟨⟨n0, n7⟩, ⟨⟨n1, n2⟩, ⟨n3, n4⟩, n5, n6⟩, g1, g2, g3⟩ := t4 c x hc
  have ba : ∀ z, x.2.2.1 (ordW se S) = some z → stB z := fun z hz => qa _ hW z hz
  have bb : ∀ z, x.2.2.2.1 (ordW se S) = some z → stB z := fun z hz => qb _ hW z hz
  obtain ⟨s1, A1, y1, u1, u2, u3, u4, u5⟩ := m_oSumX (E := x.1 = 4) (i := 8 * (c : Int) + 1) (f := x.2.2.1) h hK hR.pg hR.2.2.1.1 hOw hW ⟨t2, t3⟩ (by omega) ba (by
    by_cases e : x.1 = 4
    · rw [if_pos e] at g1
      exact Or.inl ⟨e, by rw [show 8 * (c : Int) + 1 + 1 = 8 * c + 2 by omega]; exact g1, by rw [h4 e]; rfl⟩
    · rw [if_neg e] at g1
      rw [show 8 * (c : Int) + 1 + 1 = 8 * c + 2 by omega]
      exact Or.inr ⟨e, ⟨n1, n2⟩, g1⟩) h53
  have h1 := hR.v_s (u3.mo (fun j z hj => by omega))
  have hO1 : OrM A1 CL LG P0 S.2.2.1 S.2.2.2 := hO.fr u3 (fun j z hj => by omega)
  have hOw1 : OwM A1 S.1 (ordW se S) := ⟨fun op ho => by rw [u3 19 op (by omega)]; exact hOw.1 op ho, hOw.2⟩
  have e11 := u3.row (j := 11) (fun z => by omega)
  have e12 := u3.row (j := 12) (fun z => by omega)
  have e26 := u3.row (j := 26) (fun z => by omega)
  have eI : insR true A1 = insR true A := by
    funext z
    unfold insR
    rw [e11, e12]
  unfold b_M_run_92 botO
  rw [nv0, nv1, nv3, v_neg, v_add, v_add, if_pos h.t, u1, Option.bind_some, if_pos u2.t]
  rcases u5 with ⟨z1, z2⟩ | ⟨za, za1, z1, z2, z3, z4, z5⟩
  · rw [z1]
    rw [m_oSumB u2 z2, Option.bind_some, if_pos u2.t, u2.i53, z2, if_neg (show ¬ v 1 = v 0 by decide)]
    exact ⟨s1, A1, _, _, rfl, u2, h1, ⟨hO1.1, hO1.2.1⟩, f0.tr u4⟩
  rw [z1]
  obtain ⟨s2, A2, y2, w1, w2, w3, w4, w5⟩ := m_oSumX (E := 1 < x.1) (i := 8 * (c : Int) + 3) (f := x.2.2.2.1) u2 hK h1.pg h1.2.2.1.1 hOw1 hW ⟨by rw [e11, e12]; exact t2, t3⟩ (by omega) bb (by
    rw [show 8 * (c : Int) + 3 + 1 = 8 * c + 4 by omega, e26, eI]
    by_cases e : 1 < x.1
    · rw [if_pos e] at g2
      exact Or.inl ⟨e, g2, by rw [qs (Or.inr e)]; rfl⟩
    · rw [if_neg e] at g2
      exact Or.inr ⟨e, ⟨n3, n4⟩, g2⟩) z2
  have h2 := h1.v_s (w3.mo (fun j z hj => by omega))
  have hO2 : OrM A2 CL LG P0 S.2.2.1 S.2.2.2 := hO1.fr w3 (fun j z hj => by omega)
  rw [w1, Option.bind_some, if_pos w2.t]
  rcases w5 with ⟨x1, x2⟩ | ⟨zb, zb1, x1, x2, x3, x4, x5⟩
  · rw [x1, w2.i53, x2, if_neg (show ¬ v 1 = v 0 by decide)]
    exact ⟨s2, A2, _, _, rfl, w2, h2, ⟨hO2.1, hO2.2.1⟩, (f0.tr u4).tr w4⟩
  rw [x1]
  have i0 := w2.a49 (8 * (c : Int)) (by omega)
  rw [w3 26 _ (by omega), u3 26 _ (by omega), n0] at i0
  have i0' : sI s2 (78 + 26) (v (8 * (c : Int))).toNatClampNeg = v x.1 := by rw [v_ix (by omega)]; exact i0
  have hact := m_act (a := za1) (b := zb1) (k := x.1) w2 h2 hw hS z4 x4 qk
  rw [actO_ab (a := za) (b := zb) z5 (fun e => x5 (by omega))] at hact
  rw [w2.i53, x2, if_pos rfl, w2.r49, w2.t49, w2.n49, if_pos ⟨rfl, v_inA (by omega) (by omega)⟩, i0', z3, x3]
  show RunM (actO se x.1 za zb S) _ _ _ _ _ _ _ _ _ _ _
  cases ho : actO se x.1 za zb S with
  | none =>
    rw [ho] at hact
    obtain ⟨s3, A3, P3, L3, y, q1, q2, q3, q4, q5, q6⟩ := hact
    refine ⟨s3, A3, P3, L3, ?_, q3, q4, ?_, ((f0.tr u4).tr w4).tr q6⟩
    · rw [q1, Option.bind_some, if_pos (plt (show (r32 y ∧ r32 0) ∧ y < 0 from ⟨⟨q2.1, by omega⟩, q2.2⟩))]
    · have := hO2.fr q5 (fun j z hj => by omega)
      exact ⟨this.1, this.2.1⟩
  | some S' =>
    rw [ho] at hact
    obtain ⟨s3, A3, y, q1, q2, ⟨q3, q4⟩, q5, q6, q7, q8⟩ := hact
    have hO3 : OrM A3 CL LG P0 S.2.2.1 S.2.2.2 := hO2.fr q7 (fun j z hj => by omega)
    have i3 := q5.a49 (8 * (c : Int)) (by omega)
    rw [q7 26 _ (by omega), w3 26 _ (by omega), u3 26 _ (by omega), n0] at i3
    have fin : ∀ lt' : Int, S'.2.2.2 = lt' → ∃ s' A', b_M_run_159 78 (v lt') 78 s3 = some (v 0, s') ∧ MR s' 78 A' ∧ RepA A' tp se S'.1 (las (LG ++ S'.2.1)) IM ms vw dr ∧ OrM A' CL LG P0 S'.2.2.1 S'.2.2.2 ∧ Fr (inM 78) s0 s' := fun lt' hl => by
      have k1 := q5.s0 (x := lt') (k := 51) (z := 51) rfl (by decide)
      have e50 : sI (setI s3 78 51 (v lt')) 78 50 = v S.2.2.1 := by rw [k1.i50, pu_ne _ _ _ _ (by decide), hO3.2.2.1.1]
      have k2 := k1.s0 (x := S.2.2.1 + 1) (k := 50) (z := 50) rfl (by decide)
      have a2 : AF (fun j z => j = 0 ∧ (z = 50 ∨ z = 51)) A3 (pu (pu A3 0 51 lt') 0 50 (S.2.2.1 + 1)) := (AF.pu ⟨rfl, Or.inr rfl⟩).tr (AF.pu ⟨rfl, Or.inl rfl⟩)
      refine ⟨_, _, ?_, k2, q6.v_s (a2.mo (fun j z hj => by omega)), ⟨hO3.1.fr (fun z => a2 7 z (by omega)) (fun z => a2 8 z (by omega)), hO3.2.1.cg (fun z z0 z1 => a2 5 _ (by omega)), ⟨?_, ?_⟩, hO3.2.2.2.fr a2 (fun j z hj => by omega)⟩, (((f0.tr u4).tr w4).tr q8).tr ((Fr.si (by omega)).tr (Fr.si (by omega)))⟩
      · unfold b_M_run_159
        rw [if_pos q5.t, if_pos q5.t, e50, nv0, nv1, v_add]
      · rw [pu_eq, q4]
      · rw [pu_ne _ _ _ _ (by decide), pu_eq, hl]
    rw [q1, Option.bind_some, if_neg (nlt (show (r32 y ∧ r32 0) ∧ ¬ y < 0 by omega)), if_pos q5.t, q5.r49, q5.t49, q5.n49, if_pos ⟨rfl, v_inA (by omega) (by omega)⟩, v_ix (by omega), i3]
    by_cases ek : x.1 = 0
    · rw [if_pos (peq ek)]
      exact fin y (by rw [q3, if_pos ek])
    · rw [if_neg (pne (by omega)), q5.i51, hO3.2.2.1.2]
      exact fin _ (by rw [q3, if_neg ek])
theorem m_run (h : MR s 78 A) (hR : RepA A tp se S.1 (las (LG ++ S.2.1)) IM ms vw dr) (hw : WfT se) (hS : WfO d S) (hd : d ≤ 1000) (hO : OrM A CL LG P0 S.2.2.1 S.2.2.2) {c : Nat} (hc : CL[c]? = some x) (h12 : CL.length ≤ 12) (hq : QC true x) (h4 : x.1 = 4 → x.2.2.1 = semE) (f0 : Fr (inM 78) s0 s) : RunM (oneO se x S) (f_M_run s 78 (v (8 * (c : Int)))) s0 tp se LG IM ms vw dr CL P0 := by
  have hcl : c < CL.length := (List.getElem?_eq_some_iff.mp hc).1
  have hW := ordW_b hw hS hd
  have hK := hS.1.1.1.1
  have hcnt := count_r S.1
  have c0 := hw.1.2.2.2 0
  have c1 := hS.2.2.1
  have c2 := hS.2.2.2
  have e2 : A 2 2 = se.1 0 := hR.2.2.2.1.2.2.1.1
  have i2 := h.a3 2 (by omega)
  rw [e2] at i2
  have k1 := h.sj 19 (by decide) rfl (z := 1) (x := se.1 0) (by decide)
  have k2 := k1.sj 19 (by decide) rfl (z := 2) (x := S.2.2.1) (by decide)
  have k3 := k2.sj 19 (by decide) rfl (z := 3) (x := S.2.2.2) (by decide)
  have k4 := k3.sj 19 (by decide) rfl (z := 4) (x := countP S.1) (by decide)
  have k5 := k4.s0 (x := 0) (k := 53) (z := 53) rfl (by decide)
  have a3 : AF (fun j z => j = 19) A (pu (pu (pu A 19 1 (se.1 0)) 19 2 S.2.2.1) 19 3 S.2.2.2) := ((AF.pu rfl).tr (AF.pu rfl)).tr (AF.pu rfl)
  have hrec := m_records k3 (P := S.1) (by rw [show (pu (pu (pu A 19 1 (se.1 0)) 19 2 S.2.2.1) 19 3 S.2.2.2) 2 = A 2 from funext (fun z => a3 2 z (show ¬ (2 : Nat) = 19 by decide))]; exact hR.pg) hK
  have a5 : AF (fun j z => j = 19 ∨ (j = 0 ∧ z = 53)) A (pu (pu (pu (pu (pu A 19 1 (se.1 0)) 19 2 S.2.2.1) 19 3 S.2.2.2) 19 4 (countP S.1)) 0 53 0) := ((a3.mo (fun j z hj => Or.inl hj)).tr (AF.pu (Or.inl rfl))).tr (AF.pu (Or.inr ⟨rfl, rfl⟩))
  have hOw : OwM (pu (pu (pu (pu (pu A 19 1 (se.1 0)) 19 2 S.2.2.1) 19 3 S.2.2.2) 19 4 (countP S.1)) 0 53 0) S.1 (ordW se S) := by
    refine ⟨fun op ho => ?_, fun p hp => ?_⟩
    · rcases (show op = 1 ∨ op = 2 ∨ op = 3 ∨ op = 4 by omega) with e | e | e | e <;> subst e <;> rfl
    · show freeP S.1 p = (if 4 + p = 0 then _ else if 4 + p = 1 then _ else if 4 + p = 2 then _ else if 4 + p = 3 then _ else if 4 + p < 12 then freeP S.1 (4 + p - 4) else _) ∧ S.1 4 p = (if 12 + p = 0 then _ else if 12 + p = 1 then _ else if 12 + p = 2 then _ else if 12 + p = 3 then _ else if 12 + p < 12 then _ else S.1 4 (12 + p - 12))
      rw [if_neg (by omega), if_neg (by omega), if_neg (by omega), if_neg (by omega), if_pos (by omega), if_neg (by omega), if_neg (by omega), if_neg (by omega), if_neg (by omega), if_neg (by omega), show 4 + p - 4 = p by omega, show 12 + p - 12 = p by omega]
      exact ⟨rfl, rfl⟩
  have e53 : pu (pu (pu (pu (pu A 19 1 (se.1 0)) 19 2 S.2.2.1) 19 3 S.2.2.2) 19 4 (countP S.1)) 0 53 0 0 53 = 0 := pu_eq _ _ _ _
  have f5 : Fr (inM 78) s (setI (setJ (setJ (setJ (setJ s (78 + 19) (1 : Int).toNat (w (se.1 0))) (78 + 19) (2 : Int).toNat (w S.2.2.1)) (78 + 19) (3 : Int).toNat (w S.2.2.2)) (78 + 19) (4 : Int).toNat (w (countP S.1))) 78 53 (v 0)) := ((((Fr.sj (by omega)).tr (Fr.sj (by omega))).tr (Fr.sj (by omega))).tr (Fr.sj (by omega))).tr (Fr.si (by omega))
  unfold f_M_run
  rw [nv0, nv1, nv2, nv3, nv4, nv5, nv6, if_pos h.t, h.r3, h.t3, h.n3, if_pos ⟨rfl, v_inA (by omega) (by omega)⟩, h.r35, h.t35, h.n35, if_pos ⟨rfl, v_inA (by omega) (by omega)⟩, if_pos ⟨rfl, v_inA (by omega) (by omega)⟩, if_pos ⟨rfl, v_inA (by omega) (by omega)⟩, show (v 1).toNatClampNeg = (1 : Int).toNat from v_ix (by omega), show (v 2).toNatClampNeg = (2 : Int).toNat from v_ix (by omega), show (v 3).toNatClampNeg = (3 : Int).toNat from v_ix (by omega), i2, h.i50, h.i51, hO.2.2.1.1, hO.2.2.1.2, v_w (by omega), v_w (by omega), v_w (by omega), hrec, Option.bind_some, if_pos ⟨rfl, v_inA (by omega) (by omega)⟩, if_pos (show sT s 78 = 13 ∧ (v 0 = v 0 ∨ v 0 = v 1) from ⟨h.t, Or.inl rfl⟩), h.r49, h.t49, h.n49, v_add, v_add, if_pos ⟨rfl, v_inA (by omega) (by omega)⟩, if_pos ⟨rfl, v_inA (by omega) (by omega)⟩, v_ix (by omega), v_ix (by omega), v_ix (by omega), v_w (by omega)]
  have hR5 := hR.v_s (a5.mo (fun j z hj => by omega))
  have hO5 : OrM _ CL LG P0 S.2.2.1 S.2.2.2 := hO.fr a5 (fun j z hj => by omega)
  generalize setI (setJ (setJ (setJ (setJ s (78 + 19) (1 : Int).toNat (w (se.1 0))) (78 + 19) (2 : Int).toNat (w S.2.2.1)) (78 + 19) (3 : Int).toNat (w S.2.2.2)) (78 + 19) (4 : Int).toNat (w (countP S.1))) 78 53 (v 0) = s5 at *
  generalize pu (pu (pu (pu (pu A 19 1 (se.1 0)) 19 2 S.2.2.1) 19 3 S.2.2.2) 19 4 (countP S.1)) 0 53 0 = A5 at *
  obtain ⟨t1, len, t2, t3, t4⟩ := hO5.2.2.2
  obtain ⟨⟨n0, n7⟩, ⟨⟨n1, n2⟩, ⟨n3, n4⟩, n5, n6⟩, g1, g2, g3⟩ := t4 c x hc
  have j5 := k5.a49 (8 * (c : Int) + 5) (by omega)
  have j6 := k5.a49 (8 * (c : Int) + 6) (by omega)
  have hcd := t2
  rw [j5, j6, oneO_e]
  rcases g3 with ⟨e1, e2'⟩ | hSg
  · have et : x.2.2.2.2 (ordW se S) = some 1 := by rw [e2']
    rw [e1, if_neg (show ¬ v (A5 26 (8 * (c : Int) + 6)) < v (A5 26 (8 * (c : Int) + 6)) from Int32.lt_irrefl), if_pos et]
    exact m_run92 k5 hR5 hw hS hd hO5 hOw e53 hc h12 hq h4 (f0.tr f5)
  · have hlt := hSg.1
    obtain ⟨s6, A6, q1, q2, q3, q4⟩ := m_oSum (W := ordW se S) (f := x.2.2.2.2) (i := 8 * (c : Int) + 5) k5 hK hR5.pg hR5.2.2.1.1 hOw hW ⟨t2, t3⟩ (by omega) ⟨rfl, rfl⟩ (by rw [show 8 * (c : Int) + 5 + 1 = 8 * c + 6 by omega]; exact ⟨n5, n6⟩) (by rw [show 8 * (c : Int) + 5 + 1 = 8 * c + 6 by omega]; exact hSg) e53
    have hR6 := hR5.v_s (q2.mo (fun j z hj => by omega))
    have hO6 : OrM A6 CL LG P0 S.2.2.1 S.2.2.2 := hO5.fr q2 (fun j z hj => by omega)
    have hOw6 : OwM A6 S.1 (ordW se S) := ⟨fun op ho => by rw [q2 19 op (by omega)]; exact hOw.1 op ho, hOw.2⟩
    rw [if_pos (plt (by omega))]
    cases hf : x.2.2.2.2 (ordW se S) with
    | none =>
      rw [hf] at q4
      obtain ⟨⟨y, q5⟩, q6⟩ := q4
      rw [q5, Option.bind_some, if_pos q1.t, q1.i53, q6, if_neg (show ¬ v 1 = v 0 by decide), if_neg (by simp)]
      exact ⟨s6, A6, rfl, q1, hR6, hO6, (f0.tr f5).tr q3⟩
    | some z =>
      rw [hf] at q4
      obtain ⟨q5, q6⟩ := q4
      have hz := hq.1.2.2.1 _ z hf
      rw [q5, Option.bind_some, if_pos q1.t, q1.i53, q6, if_pos rfl]
      rcases hz with e | e
      · subst e
        rw [if_pos rfl, if_neg (by simp)]
        exact ⟨s6, A6, rfl, q1, hR6, hO6, (f0.tr f5).tr q3⟩
      · subst e
        rw [if_neg (show ¬ v 1 = v 0 by decide), if_pos rfl]
        exact m_run92 q1 hR6 hw hS hd hO6 hOw6 q6 hc h12 hq h4 ((f0.tr f5).tr q3)
end OMR
